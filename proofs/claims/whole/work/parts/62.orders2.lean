/-! orders, all of them -/
section ORDERS2
variable {X : Cf} {E : Ev} {S0 T0 : St} {b : Nat}
def MkO (p : Nat) (f : Nat → Nat) (mask : Int32) : Prop := ∀ h, h < 6 → (hasB mask h ↔ ∃ j, j < p ∧ f j = h)
theorem free_h {hs p : Nat} {f : Nat → Nat} (hp : p < hs) (h2 : ∀ i j, i < p → j < p → f i = f j → i = j) : ∃ h, h < hs ∧ ∀ j, j < p → f j ≠ h := by
  apply Classical.byContradiction
  intro hn
  have hall : ∀ h, h < hs → ∃ j, j < p ∧ f j = h := fun h hh => Classical.byContradiction (fun hc => hn ⟨h, hh, fun j hj e => hc ⟨j, hj, e⟩⟩)
  have hch : ∀ h, ∃ j, h < hs → (j < p ∧ f j = h) := fun h => by
    by_cases c : h < hs
    · obtain ⟨j, hj⟩ := hall h c
      exact ⟨j, fun _ => hj⟩
    · exact ⟨0, fun hc => absurd hc c⟩
  have ix := fun h => Classical.choose (hch h)
  have hix := fun h => Classical.choose_spec (hch h)
  obtain ⟨a, c, hac, hcp, e⟩ := php p (fun h => Classical.choose (hch h)) (fun q hq => (hix q (by omega)).1)
  have e1 := (hix a (by omega)).2
  have e2 := (hix c (by omega)).2
  have e3 : Classical.choose (hch a) = Classical.choose (hch c) := e
  rw [e3] at e1
  omega
set_option maxHeartbeats 1000000 in
theorem ord_ls (h : Re X E S0 T0) (h0 : 0 < X 0 0) (hb : b ≤ 1) : ∀ (e p n n' row : Nat) (f : Nat → Nat) (mask v : Int32) (S T : St), p + e = X 0 0 → 1 ≤ e → e ≤ n → e + 1 ≤ n' → NS X E b S → (∀ s, s < 6 → S (114 + p) s = nI (ptS (lnX X f) p s)) → v = foP (wop b) (we b) (mlP E (lnX X f)) p → OB (row * 10 ^ e) S T → row < 10 ^ p → MkO p f mask → (∀ j, j < p → f j < X 0 0) → (∀ i j, i < p → j < p → f i = f j → i = j) → TK T0 T → (∀ j, j < p → T 11 j = nI (f j)) →
    ∃ S' T', c_to n (nI p) v (nI row) mask S = some S' ∧ m_go n' (nI p) mask (nI row) (nI b) T = some T' ∧ OB ((row + 1) * 10 ^ e) S' T' ∧ S' 130 4 ≠ -nI 1 ∧ Fr (dfF p) S S' ∧ TK T0 T' ∧ (∀ j, j < p → T' 11 j = T 11 j) := by
  have iv := h.2.1.2.2.1.1
  have pl := h.2.1.2.2.1.2.1
  have hs6 := iv.1
  have hT24 : ∀ T, TK T0 T → T 0 24 = nI (X 0 0) := fun T tk0 => by
    rw [tk0.1.2 0 24 (by unfold jP jM kM; omega)]; exact h.2.1.2.1.1
  intro e
  induction e with
  | zero => intro p n n' row f mask v S T h1 h2; omega
  | succ e ihe =>
    intro p n n' row f mask v S T hpe _ hn hn' ns pot hv ob hrow mk hf1 hf2 tk0 h11
    obtain ⟨n, rfl⟩ : ∃ a, n = a + 1 := ⟨n - 1, by omega⟩
    obtain ⟨n', rfl⟩ : ∃ a, n' = a + 1 := ⟨n' - 1, by omega⟩
    have hp : p < X 0 0 := by omega
    have h10 : row < 1000000 := Nat.lt_of_lt_of_le hrow (Nat.le_trans (Nat.pow_le_pow_right (by omega) (show p ≤ 6 by omega)) (by decide))
    have hpw : row * 10 ^ (e + 1) = (row * 10 + 0) * 10 ^ e := by
      rw [Nat.pow_succ, Nat.add_zero, Nat.mul_comm (10 ^ e) 10, ← Nat.mul_assoc]
    -- the houses in turn
    have loop : ∀ (m m' k : Nat) (S1 T1 : St), k ≤ X 0 0 → X 0 0 < m + k → X 0 0 < m' + k → NS X E b S1 → (∀ s, s < 6 → S1 (114 + p) s = nI (ptS (lnX X f) p s)) → OB ((row * 10 + k) * 10 ^ e) S1 T1 → ((∃ a, a < k ∧ ¬ hasB mask a) → S1 130 4 ≠ -nI 1) → TK T0 T1 → (∀ j, j < p → T1 11 j = nI (f j)) →
        ∃ S' T', c_Best_tryOrders_h19 (c_to n) m (nI p) v (nI row) mask (nI k) S1 = some S' ∧ m_goOrders_h35 (m_go n') m' (nI p) mask (nI row) (nI b) (nI k) T1 = some T' ∧ OB ((row * 10 + X 0 0) * 10 ^ e) S' T' ∧ ((∃ a, a < X 0 0 ∧ ¬ hasB mask a) → S' 130 4 ≠ -nI 1) ∧ Fr (dfF p) S1 S' ∧ TK T0 T' ∧ (∀ j, j < p → T' 11 j = T1 11 j) := by
      intro m
      induction m with
      | zero => intro m' k S1 T1 hk hm; omega
      | succ m ihm =>
        intro m' k S1 T1 hk hm hm' ns1 pot1 ob1 fl1 tk1 h111
        obtain ⟨m', rfl⟩ : ∃ a, m' = a + 1 := ⟨m' - 1, by omega⟩
        rw [c_Best_tryOrders_h19, m_goOrders_h35]
        unfold c_Best_tryOrders_b147 c_Best_tryOrders_b170 m_goOrders_b86
        rw [ns1.1.1, hT24 T1 tk1]
        by_cases ek : k < X 0 0
        · rw [if_neg (show ¬ nI (X 0 0) ≤ nI k from nI_ge ek (by omega)), if_neg (show ¬ nI (X 0 0) ≤ nI k from nI_ge ek (by omega)), has_eq, bI_some]
          simp only [bnd_eq]
          rw [show nI k + (1 : Int32) = nI (k + 1) from nI_add k 1]
          by_cases hbk : hasB mask k
          · rw [if_pos (show (mask >>> (nI k &&& 31)) &&& (1 : Int32) = (1 : Int32) from hbk), if_pos hbk, if_neg (show ¬ nI 1 = (0 : Int32) by decide)]
            exact ihm m' (k + 1) S1 T1 (by omega) (by omega) (by omega) ns1 pot1 (ob1.le (Nat.mul_le_mul_right _ (by omega))) (fun ⟨a, ha, hna⟩ => fl1 ⟨a, by
              have : a ≠ k := fun e2 => hna (by rw [e2]; exact hbk)
              omega, hna⟩) tk1 h111
          · rw [if_neg (show ¬ (mask >>> (nI k &&& 31)) &&& (1 : Int32) = (1 : Int32) from hbk), if_neg hbk, if_pos (show nI 0 = (0 : Int32) from rfl)]
            -- this house at this place
            have fp : (fun j => if j = p then k else f j) p = k := if_pos rfl
            have fo : ∀ j, j ≠ p → (fun j => if j = p then k else f j) j = f j := fun j hj => if_neg hj
            generalize (fun j => if j = p then k else f j) = g at fp fo
            have gk : ∀ j, j < p → g j = f j := fun j hj => fo j (by omega)
            have hnk : ∀ j, j < p → f j ≠ k := fun j hj e2 => hbk ((mk k (by omega)).mpr ⟨j, hj, e2⟩)
            have hg1 : ∀ j, j < p + 1 → g j < X 0 0 := fun j hj => by
              by_cases c : j = p
              · rw [c, fp]; exact ek
              · rw [fo j c]; exact hf1 j (by omega)
            have hg2 : ∀ i j, i < p + 1 → j < p + 1 → g i = g j → i = j := fun i j hi hj e2 => by
              by_cases ci : i = p
              · by_cases cj : j = p
                · omega
                · rw [ci, fp, fo j cj] at e2
                  exact absurd e2.symm (hnk j (by omega))
              · by_cases cj : j = p
                · rw [cj, fp, fo i ci] at e2
                  exact absurd e2 (hnk i (by omega))
                · rw [fo i ci, fo j cj] at e2
                  exact hf2 i j (by omega) (by omega) e2
            have lo : ∀ q j, q ≠ 6 → q ≠ 7 → lnX X g q j = X q j := fun q j h1 _ => lnX_o X g q j h1
            have Lfg : ∀ q, q ≤ p → Lo (lnX X f) (lnX X g) q := fun q hq => ⟨fun a j h1 _ => by rw [lnX_o X g a j h1, lnX_o X f a j h1], fun j hj => ⟨by rw [lnX_6 X g (by omega), lnX_6 X f (by omega), gk j (by omega)], by rw [lnX_o X g 7 _ (by omega), lnX_o X f 7 _ (by omega)]⟩⟩
            have plY : Pl (lnX X g) := ⟨(lnX_o X g 0 5 (by omega)).trans pl.1, (lnX_o X g 0 7 (by omega)).trans pl.2⟩
            have y6 : lnX X g 6 p = k := (lnX_6 X g hp).trans fp
            have potg : ∀ s, s < 6 → S1 (114 + p) s = nI (ptS (lnX X g) p s) := fun s hs => by rw [ptS_lo p (Lfg p (by omega))]; exact pot1 s hs
            obtain ⟨Sa, Sb, r1, r2, pot2, ns2, f2, f130⟩ := step_C iv plY lo ns1 hp ek y6 potg
            have hvg : v = foP (wop b) (we b) (mlP E (lnX X g)) p := by
              rw [hv]
              exact foP_cg p (fun j hj => (mlP_lo (Lfg j (by omega)) (by rw [lnX_6 X g (by omega), lnX_6 X f (by omega), gk j hj])).symm)
            have hv1 : wop b v (mlP E (lnX X g) p) = foP (wop b) (we b) (mlP E (lnX X g)) (p + 1) := by
              rw [hvg]; rfl
            rw [r1, bV_some, r2, bI_some]
            simp only []
            rw [with_eq hb ns2.2.2.2, bI_some, hv1]
            simp only []
            have ed : nI row * (10 : Int32) + nI k = nI (row * 10 + k) := by
              rw [show (10 : Int32) = nI 10 from rfl, pk_mul, nI_add]
            have ed2 : (10 : Int32) * nI row + nI k = nI (row * 10 + k) := by
              rw [show (10 : Int32) = nI 10 from rfl, pk_mul, nI_add, Nat.mul_comm]
            rw [ed, ed2, show nI p + (1 : Int32) = nI (p + 1) from nI_add p 1, ckI (by omega) (by omega), nI_clamp (by omega)]
            have T2k : TK T0 (up2 T1 11 p (nI k)) := tk1.fr (Fr.rfl.up (Or.inr ⟨rfl, by omega⟩)) (fun j => ⟨up2_o (by omega), up2_o (by omega)⟩)
            have T211 : ∀ j, j < p + 1 → (up2 T1 11 p (nI k)) 11 j = nI (g j) := fun j hj => by
              by_cases c : j = p
              · rw [up2_hit rfl c, c, fp]
              · rw [up2_k c, fo j c]; exact h111 j (by omega)
            have ob2 : OB ((row * 10 + k) * 10 ^ e) Sb (up2 T1 11 p (nI k)) := ob1.fr f130 (fun j _ _ => up2_o (by omega))
            have potb : ∀ s, s < 6 → Sb (114 + p) s = nI (ptS (lnX X f) p s) := fun s hs => by rw [f2 _ _ (by unfold dfF mealPC; omega)]; exact pot1 s hs
            have gfull : p + 1 = X 0 0 → Iv (lnX X g) := fun e3 => lnX_iv iv (fun q hq => hg1 q (by omega)) (fun i j hi hj => hg2 i j (by omega) (by omega))
            by_cases c0 : e = 0
            · -- the last place
              subst c0
              have e3 : p + 1 = X 0 0 := by omega
              obtain ⟨a, rfl⟩ : ∃ a, n' = a + 1 := ⟨n' - 1, by omega⟩
              have hval : allE E (lnX X g) b = foP (wop b) (we b) (mlP E (lnX X g)) (p + 1) := by
                rw [allE_pl (gfull e3), lnX_o X g 0 0 (by omega), e3]
              obtain ⟨T3, r4, f4⟩ := leaf_O (rec := m_go a) (mask := mask ||| ((1 : Int32) <<< (nI k &&& 31))) (row := nI (row * 10 + k)) h h0 hb T2k (fun q hq => hg1 q (by omega)) (fun i j hi hj => hg2 i j (by omega) (by omega)) (fun j hj => T211 j (by omega))
              have r4' : m_go (a + 1) (nI (p + 1)) (mask ||| ((1 : Int32) <<< (nI k &&& 31))) (nI (row * 10 + k)) (nI b) (up2 T1 11 p (nI k)) = bV (m_offers (nI (row * 10 + k)) (allE E (lnX X g) b) T3) (fun S4 => some S4) := by
                rw [m_go, e3]; exact r4
              have t49 : ∀ j, 49 ≤ j → j ≤ 51 → T3 0 j = (up2 T1 11 p (nI k)) 0 j := fun j h1 h2 => f4 _ _ (by unfold nnM mealPM goP; omega)
              have ob3 : OB (row * 10 + k) Sb T3 := (ob2.fr (fun j => rfl) t49).le (by omega)
              obtain ⟨S', T', r5, r6, ob4, fl4, f5, f6⟩ := consider_ls (x := foP (wop b) (we b) (mlP E (lnX X g)) (p + 1)) ob3 (by omega)
              rw [isLast_1 ns2.1.1 hs6 (by omega) (by omega) (by omega), bI_some, if_neg (show ¬ nI 1 = (0 : Int32) by decide)]
              simp only []
              rw [r5, bV_some, r4', hval, r6, bV_some, bV_some]
              have f5' : Fr (dfF p) Sb S' := f5.mono (fun q j hq => Or.inr (Or.inr hq))
              have f34 : Fr (fun q j => jM q j ∨ (q = 11 ∧ j < 6)) (up2 T1 11 p (nI k)) T3 := f4.mono (fun q j hq => Or.inl (by
                rcases hq with hq | hq
                · exact noon_jM q j hq
                · exact meal_jM q j hq))
              have f46 : Fr (fun q j => jM q j ∨ (q = 11 ∧ j < 6)) T3 T' := f6.mono (fun q j hq => Or.inl (by unfold b49 at hq; unfold jM kM; omega))
              have tk3 : TK T0 T3 := T2k.fr f34 (fun j => ⟨f4 _ _ (by unfold nnM mealPM goP; omega), f4 _ _ (by unfold nnM mealPM goP; omega)⟩)
              have tk4 : TK T0 T' := tk3.fr f46 (fun j => ⟨f6 _ _ (by unfold b49; omega), f6 _ _ (by unfold b49; omega)⟩)
              have t11 : ∀ j, j < p → T' 11 j = T1 11 j := fun j hj => by rw [f6 _ _ (by unfold b49; omega), f4 _ _ (by unfold nnM mealPM goP; omega), up2_k (by omega)]
              obtain ⟨S2, T2, z1, z2, z3, z4, z5, z6, z7⟩ := ihm m' (k + 1) S' T' (by omega) (by omega) (by omega) (ns2.fr f5') (fun s hs => by rw [f5 _ _ (by unfold b45; omega)]; exact potb s hs) (ob4.le (by omega)) (fun _ => fl4) tk4 (fun j hj => (t11 j hj).trans (h111 j hj))
              exact ⟨S2, T2, z1, z2, z3, z4, (f2.tr f5').tr z5, z6, fun j hj => (z7 j hj).trans (t11 j hj)⟩
            · -- a place ahead of others
              rw [isLast_0 ns2.1.1 hs6 (by omega), bI_some, if_pos (show nI 0 = (0 : Int32) from rfl)]
              simp only []
              rw [putOf_eq (by omega), bI_some]
              simp only []
              have h7 := (iv.2.2.2.2.2.2.2.2.1 k ek).2.2.2.1
              have hput : Sb (33 + 4) k = nI (X 7 k) := (ns2.1.2.2.2.2.2.2.1 k ek).2.2.2.1
              rw [hput, ns2.1.2.1, enough_dP ns2.1 iv ek, bI_some]
              simp only []
              rw [ns2.1.2.1]
              have key : ∃ Sc, (if (if dP X k then nI 1 else nI 0) = (0 : Int32) then bV (c_to n (nI (p + 1)) (foP (wop b) (we b) (mlP E (lnX X g)) (p + 1)) (nI (row * 10 + k)) (mask ||| ((1 : Int32) <<< (nI k &&& 31))) Sb) (fun S2 => c_Best_tryOrders_h19 (c_to n) m (nI p) v (nI row) mask (nI (k + 1)) S2) else bV (c_Noon_pour (nI p) (nI (X 7 k)) (nI (X 0 1)) Sb) (fun S2 => bV (c_to n (nI (p + 1)) (foP (wop b) (we b) (mlP E (lnX X g)) (p + 1)) (nI (row * 10 + k)) (mask ||| ((1 : Int32) <<< (nI k &&& 31))) S2) (fun S3 => c_Best_tryOrders_h19 (c_to n) m (nI p) v (nI row) mask (nI (k + 1)) S3))) = bV (c_to n (nI (p + 1)) (foP (wop b) (we b) (mlP E (lnX X g)) (p + 1)) (nI (row * 10 + k)) (mask ||| ((1 : Int32) <<< (nI k &&& 31))) Sc) (fun S2 => c_Best_tryOrders_h19 (c_to n) m (nI p) v (nI row) mask (nI (k + 1)) S2) ∧ (∀ s, s < 6 → Sc (114 + (p + 1)) s = nI (ptS (lnX X g) (p + 1) s)) ∧ Fr (fun q j => q = 114 + (p + 1)) Sb Sc := by
                have nxt : ∀ s, ptS (lnX X g) (p + 1) s = ptS (lnX X g) p s - tk (ptS (lnX X g) p) (ladOf (lnX X g) p k) s + ad1 (lnX X g) k s := fun s => by
                  have := ptS_next plY (p := p) (by omega) (by rw [y6]; omega) s
                  rw [y6] at this
                  exact this
                have hdp : dP (lnX X g) k ↔ dP X k := dP_lo lo (lnX_o X g 7 k (by omega))
                have e7 : lnX X g 7 k = X 7 k := lnX_o X g 7 k (by omega)
                have e01 : lnX X g 0 1 = X 0 1 := lnX_o X g 0 1 (by omega)
                by_cases cd : dP X k
                · have h5 : X 7 k < 5 := by
                    have := cd.1
                    omega
                  refine ⟨up2 Sb (114 + (p + 1)) (X 7 k) (Sb (114 + (p + 1)) (X 7 k) + nI (X 0 1)), ?_, fun s hs => ?_, Fr.rfl.up rfl⟩
                  · rw [if_pos cd, if_neg (show ¬ nI 1 = (0 : Int32) by decide), pour_eq _ (by omega) (by omega), bV_some]
                  · rw [nxt s]
                    unfold ad1
                    by_cases cs : s = X 7 k
                    · rw [if_pos ⟨hdp.mpr cd, by rw [e7]; exact cs⟩, up2_hit rfl cs, pot2 (X 7 k) (by omega), nI_add, e01, cs]
                    · rw [if_neg (fun d => cs (by rw [← e7]; exact d.2)), up2_k cs, pot2 s hs, Nat.add_zero]
                · refine ⟨Sb, ?_, fun s hs => ?_, Fr.rfl⟩
                  · rw [if_neg cd, if_pos (show nI 0 = (0 : Int32) from rfl)]
                  · rw [nxt s]
                    unfold ad1
                    rw [if_neg (fun d => cd (hdp.mp d.1)), pot2 s hs, Nat.add_zero]
              obtain ⟨Sc, ekey, potc, fc⟩ := key
              rw [ekey]
              have fc' : Fr (dfF p) Sb Sc := fc.mono (fun q j hq => by unfold dfF; omega)
              have mk' : MkO (p + 1) g (mask ||| ((1 : Int32) <<< (nI k &&& 31))) := fun a ha => by
                have h1 := hasB_or (m := mask) (k := k) (j := a) (by omega) (by omega)
                refine ⟨fun hh => ?_, fun ⟨j, hj, ej⟩ => ?_⟩
                · rcases h1.mp hh with h2 | h2
                  · obtain ⟨j, hj, ej⟩ := (mk a ha).mp h2
                    exact ⟨j, by omega, by rw [gk j hj]; exact ej⟩
                  · exact ⟨p, by omega, by rw [fp]; exact h2.symm⟩
                · refine h1.mpr ?_
                  by_cases c : j = p
                  · right
                    rw [c, fp] at ej
                    exact ej.symm
                  · left
                    rw [fo j c] at ej
                    exact (mk a ha).mpr ⟨j, by omega, ej⟩
              have hrow' : row * 10 + k < 10 ^ (p + 1) := by
                rw [Nat.pow_succ]
                omega
              obtain ⟨S', T', r5, r6, ob4, fl4, f5, tk4, t11⟩ := ihe (p + 1) n n' (row * 10 + k) g (mask ||| ((1 : Int32) <<< (nI k &&& 31))) (foP (wop b) (we b) (mlP E (lnX X g)) (p + 1)) Sc (up2 T1 11 p (nI k)) (by omega) (by omega) (by omega) (by omega) (ns2.fr fc') potc rfl (ob2.fr (fun j => fc _ _ (by omega)) (fun j _ _ => rfl)) hrow' mk' hg1 hg2 T2k T211
              rw [r5, bV_some, r6, bV_some]
              have f5' : Fr (dfF p) Sc S' := f5.mono (dfF.le (by omega))
              obtain ⟨S2, T2, z1, z2, z3, z4, z5, z6, z7⟩ := ihm m' (k + 1) S' T' (by omega) (by omega) (by omega) ((ns2.fr fc').fr f5') (fun s hs => by rw [f5 _ _ (by unfold dfF mealPC; omega), fc _ _ (by omega)]; exact potb s hs) ob4 (fun _ => fl4) tk4 (fun j hj => (t11 j (by omega)).trans ((up2_k (by omega)).trans (h111 j hj)))
              exact ⟨S2, T2, z1, z2, z3, z4, ((f2.tr fc').tr f5').tr z5, z6, fun j hj => (z7 j hj).trans ((t11 j (by omega)).trans (up2_k (by omega)))⟩
        · have ekk : k = X 0 0 := by omega
          subst ekk
          rw [if_pos (show nI (X 0 0) ≤ nI (X 0 0) from nI_le (by omega) (by omega)), if_pos (show nI (X 0 0) ≤ nI (X 0 0) from nI_le (by omega) (by omega))]
          exact ⟨S1, T1, rfl, rfl, ob1, fl1, Fr.rfl, tk1, fun j _ => rfl⟩
    rw [hpw] at ob
    obtain ⟨S', T', z1, z2, z3, z4, z5, z6, z7⟩ := loop FU FU 0 S T (by omega) (by unfold FU; omega) (by unfold FU; omega) ns pot ob (fun ⟨a, ha, _⟩ => by omega) tk0 h11
    have z1' : c_Best_tryOrders_h19 (c_to n) FU (nI p) v (nI row) mask (0 : Int32) S = some S' := z1
    have z2' : m_goOrders_h35 (m_go n') FU (nI p) mask (nI row) (nI b) (0 : Int32) T = some T' := z2
    refine ⟨S', T', ?_, ?_, z3.le ?_, z4 ?_, z5, z6, z7⟩
    · rw [c_to]
      unfold c_Best_tryOrders
      rw [if_neg (show ¬ nI p < (0 : Int32) from nI_pos (by omega)), ns.1.1, if_pos (show nI p < nI (X 0 0) from nI_lt hp (by omega)), z1']
    · rw [m_go]
      unfold m_goOrders
      rw [hT24 T tk0, if_neg (nI_nn (by omega) (by omega) (by omega)), z2']
    · rw [Nat.pow_succ, Nat.mul_comm (10 ^ e) 10, ← Nat.mul_assoc]
      exact Nat.mul_le_mul_right _ (by omega)
    · obtain ⟨a, ha, hn2⟩ := free_h hp hf2
      exact ⟨a, ha, fun hh => by
        obtain ⟨j, hj, ej⟩ := (mk a (by omega)).mp hh
        exact hn2 j hj ej⟩
end ORDERS2
theorem op_orders {S T : St} (h : Rel S T) (v w : Int32) : Opp (c_N_orders v w S) (m_orders v w T) := by
  obtain ⟨X, E, h⟩ := h
  have h := h.z (nI 0)
  unfold c_N_orders m_orders
  rw [bnd_eq, show up2 T 0 0 (0 : Int32) = up2 T 0 0 (nI 0) from rfl]
  generalize up2 T 0 0 (nI 0) = T at h ⊢
  have l64 : ∀ (u : Int32) (T : St), m_isIn u.toInt64 (0 : Int64) (1 : Int64) T = m_isIn u.toInt64 (lN 0) (lN 1) T := fun _ _ => rfl
  have iv := h.2.1.2.2.1.1
  have hs6 := iv.1
  rcases street2 h with ⟨h0, e1, e2⟩ | ⟨h0, e1, e2⟩
  · rw [e1, bI_some, if_neg (show ¬ nI 1 = (0 : Int32) by decide), if_neg (show ¬ T 0 24 = (0 : Int32) from e2), l64]
    simp only []
    rcases choice2 v S T with ⟨b, hb, rfl, e5, e6⟩ | ⟨e5, e6⟩
    · rw [e5, e6, bI_some, bI_some, if_neg (show ¬ nI 1 = (0 : Int32) by decide), if_neg (show ¬ nI 1 = (0 : Int32) by decide), l64]
      simp only []
      rcases choice2 w S T with ⟨c, hc, rfl, e7, e8⟩ | ⟨e7, e8⟩
      · rw [e7, e8, bI_some, bI_some, if_neg (show ¬ nI 1 = (0 : Int32) by decide), if_neg (show ¬ nI 1 = (0 : Int32) by decide)]
        simp only []
        -- begin
        obtain ⟨A, hA⟩ : ∃ A, A = up2 (up2 (up2 S 130 3 (nI b)) 130 4 (-1 : Int32)) 130 5 (-100000000 : Int32) := ⟨_, rfl⟩
        have yA : ∀ q j, q ≠ 130 → A q j = S q j := fun q j hq => by rw [hA, up2_o hq, up2_o hq, up2_o hq]
        obtain ⟨S1, r1, b1, b2, b3, b4⟩ := begin_ok (X := X) iv (S := A) (fun s hs => (yA _ _ (by omega)).trans (h.2.1.1.2.2.2.2.2.1 s hs))
        have hbeg : c_Best_begin (nI b) S = some S1 := by
          unfold c_Best_begin
          rw [bnd_eq, bnd_eq, bnd_eq, ← hA, yA 33 0 (by omega), h.2.1.1.2.2.2.2.1, r1, bV_some]
        have y1 : ∀ q j, ¬ (q = 130) → ¬ (q = 114 ∨ (q = 111 ∧ (j = 7 ∨ j = 8))) → S1 q j = S q j := fun q j h1 h2 => by rw [b4 q j (by omega), yA q j h1]
        have s1303 : S1 130 3 = nI b := by rw [b4 _ _ (by omega), hA, up2_k (by omega), up2_k (by omega), up2_hit rfl rfl]
        have s1304 : S1 130 4 = -nI 1 := by rw [b4 _ _ (by omega), hA, up2_k (by omega), up2_hit rfl rfl]; rfl
        have ns1 : NS X E b S1 := ⟨h.2.1.1.fr2 (fun q j hq => y1 q j (by omega) (by omega)), h.2.2.1.ce.1.fr (fun q j hq => y1 q j (by omega) (by omega)), b2, s1303⟩
        have hno : c_Best_noMeal S1 = some (we b, S1) := by
          unfold c_Best_noMeal we
          rw [s1303]
          by_cases cb : b = 0
          · rw [if_pos (show nI b = (0 : Int32) by rw [cb]; rfl), if_pos cb]; rfl
          · rw [if_neg (show ¬ nI b = (0 : Int32) from nI_nn (b := 0) cb (by omega) (by omega)), if_neg cb]; rfl
        obtain ⟨T1, r2, kp, k51, f2⟩ := keep_ok T
        have tk1 : TK T T1 := ⟨kp, fun j hj => f2 _ _ (by omega)⟩
        obtain ⟨S', T', z1, z2, z3, z4, z5, z6, z7⟩ := ord_ls h h0 hb (X 0 0) 0 8 8 0 (fun j => j) (nI 0) (we b) S1 T1 (by omega) (by omega) (by omega) (by omega) ns1 (fun s hs => b1 s hs) rfl (Or.inl ⟨s1304, k51⟩) (by decide) (fun a ha => ⟨fun hh => absurd hh (hasB_0 (by omega)), fun ⟨j, hj, _⟩ => by omega⟩) (fun j hj => by omega) (fun i j hi _ => by omega) tk1 (fun j hj => by omega)
        have z1' : c_Best_tryOrders_x (0 : Int32) (we b) (0 : Int32) (0 : Int32) S1 = some S' := z1
        have z2' : m_goOrders_x (0 : Int32) (0 : Int32) (0 : Int32) (nI b) T1 = some T' := z2
        obtain ⟨T2, r3, fT, f3⟩ := z6.1.back
        have hfind : c_Best_findOrder (nI b) S = some S' := by
          unfold c_Best_findOrder
          rw [hbeg, bV_some, hno, bI_some]
          simp only []
          rw [z1', bV_some]
        rw [hfind, bV_some, r2, bV_some, z2', bV_some, r3, bV_some, f3 0 49 (by omega), f3 0 50 (by omega)]
        have fS : Fr jC S S' := fun q j hj => by
          have hk : kC q j := Classical.not_not.mp hj
          unfold kC at hk
          rw [z5 q j (by unfold dfF mealPC; omega), y1 q j (by omega) (by omega)]
        rcases z3 with ⟨x1, _⟩ | ⟨d, x1, x2, x3, x4, _⟩
        · exact absurd x1 z4
        · rw [x1, x2, x4]
          by_cases c0 : c = 0
          · rw [if_pos (show nI c = (0 : Int32) by rw [c0]; rfl), if_pos (show nI c = (0 : Int32) by rw [c0]; rfl)]
            exact opp_go h _ fS fT
          · rw [if_neg (show ¬ nI c = (0 : Int32) from nI_nn (b := 0) c0 (by omega) (by omega)), if_neg (show ¬ nI c = (0 : Int32) from nI_nn (b := 0) c0 (by omega) (by omega))]
            exact opp_go h _ fS fT
      · rw [e7, e8, bI_some, bI_some, if_pos (show nI 0 = (0 : Int32) from rfl), if_pos (show nI 0 = (0 : Int32) from rfl)]
        exact opp_now h _
    · rw [e5, e6, bI_some, bI_some, if_pos (show nI 0 = (0 : Int32) from rfl), if_pos (show nI 0 = (0 : Int32) from rfl)]
      exact opp_now h _
  · rw [e1, bI_some, if_pos (show nI 0 = (0 : Int32) from rfl), if_pos (show T 0 24 = (0 : Int32) from e2)]
    exact opp_now h _
