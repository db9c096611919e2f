/-! puts, the class's way -/
section PUTSC
variable {X : Cf} {E : Ev} {b : Nat}
def SubC (X : Cf) (E : Ev) (b p : Nat) (g : Nat → Nat) (d : Nat) (v : Int32) : Prop := ∃ g' : Nat → Nat, (∀ q, q < p → g' (X 6 q) = g (X 6 q)) ∧ (∀ j, j < X 0 0 → okP X j (g' j)) ∧ bk (pX X g') (X 0 0 - 1) = -nI 1 ∧ g' (X 6 (X 0 0 - 1)) = lp X (X 6 (X 0 0 - 1)) ∧ d = dH g' (X 0 0) ∧ v = allE E (pX X g') b
def rwP (X : Cf) (g : Nat → Nat) (p : Nat) : Int32 := foP (fun x y => x + y) (nI 0) (fun q => nI (10 ^ (X 0 0 - 1 - X 6 q) * g (X 6 q))) p
theorem rwP_all (iv : Iv X) (g : Nat → Nat) : rwP X g (X 0 0) = nI (dH g (X 0 0)) := by
  unfold rwP
  have := foP_pm (e := nI 0) add_rc (fun h => nI (10 ^ (X 0 0 - 1 - h) * g h)) (X 0 0) (X 6) iv.2.2.2.2.2.2.2.2.2.1 iv.2.2.2.2.2.2.2.2.2.2
  have h2 := dH_fo (g := g) (n := X 0 0) (X 0 0) (Nat.le_refl _)
  rw [show X 0 0 - X 0 0 = 0 by omega, Nat.pow_zero, Nat.mul_one] at h2
  exact this.trans h2
theorem neg_back (a c : Nat) : nI (a + c) + -(nI c) = nI a := by
  rw [← nI_add, Int32.add_assoc, Int32.add_right_neg, Int32.add_zero]
set_option maxHeartbeats 2000000 in
theorem put_C (iv : Iv X) (pl : Pl X) (hb : b ≤ 1) : ∀ (e p n : Nat) (g : Nat → Nat) (A : Nat → Int32 → Prop) (S : St), p + e = X 0 0 → 1 ≤ e → e ≤ n → NS X E b S → (∀ s, s < 6 → S (114 + p) s = nI (ptS (pX X g) p s)) → (∀ q, q < p → okP X (X 6 q) (g (X 6 q))) → bk (pX X g) p = -nI 1 → CB A S →
    ∃ S', c_tp n (nI p) (foP (wop b) (we b) (mlP E (pX X g)) p) (rwP X g p) (ah (pX X g) p) S = some S' ∧ CB (fun d v => A d v ∨ SubC X E b p g d v) S' ∧ Fr (dfF p) S S' := by
  have hs6 := iv.1
  have inj := iv.2.2.2.2.2.2.2.2.2.2
  intro e
  induction e with
  | zero => intro p n g A S h1 h2; omega
  | succ e ihe =>
    intro p n g A S hpe _ hn ns pot hg hbk cb
    obtain ⟨n, rfl⟩ : ∃ a, n = a + 1 := ⟨n - 1, by omega⟩
    have hp : p < X 0 0 := by omega
    have ha := iv.2.2.2.2.2.2.2.2.2.1 p hp
    generalize hA : X 6 p = a at ha
    have lo : ∀ q j, q ≠ 6 → q ≠ 7 → pX X g q j = X q j := fun q j _ h7 => pX_o X g q j h7
    have plY : ∀ g, Pl (pX X g) := fun g => ⟨(pX_o X g 0 5 (by omega)).trans pl.1, (pX_o X g 0 7 (by omega)).trans pl.2⟩
    have y6 : ∀ g, pX X g 6 p = a := fun g => (pX_o X g 6 p (by omega)).trans hA
    obtain ⟨Sa, Sb, r1, r2, pot2, ns2, f2, f130⟩ := step_C iv (plY g) lo ns hp ha (y6 g) pot
    have hline : S 36 p = nI a := by rw [ns.1.2.2.2.2.2.2.2 p hp, hA]
    -- this house's put changed to s
    have upd1 : ∀ s, (fun j => if j = a then s else g j) a = s ∧ (∀ q, q < p → (fun j => if j = a then s else g j) (X 6 q) = g (X 6 q)) := fun s => ⟨if_pos rfl, fun q hq => if_neg (fun e2 => by
      have := inj q p (by omega) hp (e2.trans hA.symm)
      omega)⟩
    have head : c_tp (n + 1) (nI p) (foP (wop b) (we b) (mlP E (pX X g)) p) (rwP X g p) (ah (pX X g) p) S = bI (c_Noon_isLast (nI p) Sb) (fun x10 S9 => (if x10 = 0 then (bV (c_tp n (nI (p + 1)) (foP (wop b) (we b) (mlP E (pX X g)) (p + 1)) (rwP X g p + nI (10 ^ (X 0 0 - 1 - a) * 9)) (ah (pX X g) p) S9) (fun S11 => (c_Best_tryPuts_h111 (c_tp n) FU (nI p) (rwP X g p) (ah (pX X g) p) (nI a) (foP (wop b) (we b) (mlP E (pX X g)) (p + 1)) (nI (10 ^ (X 0 0 - 1 - a))) (nI 0) S11))) else (bI (c_Best_leastPut (nI a) S9) (fun x13 S12 => (bV (c_Best_consider (foP (wop b) (we b) (mlP E (pX X g)) (p + 1)) (rwP X g p + (nI (10 ^ (X 0 0 - 1 - a)) * x13)) S12) (fun S14 => (some S14))))))) := by
      rw [c_tp]
      unfold c_Best_tryPuts
      rw [if_neg (show ¬ nI p < (0 : Int32) from nI_pos (by omega)), ns.1.1, if_pos (show nI p < nI (X 0 0) from nI_lt hp (by omega)), ckI (by omega) (by omega), nI_clamp (by omega), bnd_eq, hline, r1, bV_some, r2, bI_some]
      simp only []
      rw [with_eq hb ns2.2.2.2, bI_some]
      simp only []
      rw [unit_eq ns2.1.1 hs6 ha, bI_some]
      simp only []
      rw [show nI p + (1 : Int32) = nI (p + 1) from nI_add p 1, show nI (10 ^ (X 0 0 - 1 - a)) * (9 : Int32) = nI (10 ^ (X 0 0 - 1 - a) * 9) from pk_mul _ 9]
      rfl
    rw [head]
    by_cases c0 : e = 0
    · -- the last place
      subst c0
      have e3 : p + 1 = X 0 0 := by omega
      have ep : X 0 0 - 1 = p := by omega
      rw [isLast_1 ns2.1.1 hs6 (by omega) (by omega) (by omega), bI_some, if_neg (show ¬ nI 1 = (0 : Int32) by decide)]
      simp only []
      rw [leastPut_eq ns2.1 iv ha, bI_some]
      simp only []
      obtain ⟨u1, u2⟩ := upd1 (lp X a)
      generalize (fun j => if j = a then lp X a else g j) = g1 at u1 u2
      have okl : okP X a (lp X a) := (lpF_ok X a 5 0 (by omega)).1
      have hok : ∀ j, j < X 0 0 → okP X j (g1 j) := fun j hj => by
        obtain ⟨q, hq, eq⟩ := inj_sur iv.2.2.2.2.2.2.2.2.2.1 inj hj
        by_cases cq : q = p
        · rw [← eq, cq, hA, u1]; exact okl
        · rw [← eq, u2 q (by omega)]; exact hg q (by omega)
      have hrow : rwP X g p + nI (10 ^ (X 0 0 - 1 - a)) * nI (lp X a) = nI (dH g1 (X 0 0)) := by
        rw [← rwP_all iv g1, pk_mul, ← e3]
        show _ = rwP X g1 p + nI (10 ^ (X 0 0 - 1 - X 6 p) * g1 (X 6 p))
        rw [hA, u1, e3]
        congr 1
        unfold rwP
        exact foP_cg p (fun q hq => by rw [u2 q hq])
      have lo1 : ∀ q, q ≤ p → Lo (pX X g) (pX X g1) q := fun q hq => pX_lo iv (by omega) (fun r hr => u2 r (by omega))
      have hval : foP (wop b) (we b) (mlP E (pX X g)) (p + 1) = allE E (pX X g1) b := by
        rw [allE_pl (pX_iv iv hok), pX_o X g1 0 0 (by omega), ← e3]
        exact foP_cg _ (fun q hq => (mlP_lo (lo1 q (by omega)) (by rw [pX_o X g1 6 q (by omega), pX_o X g 6 q (by omega)])).symm)
      have hnb : bk (pX X g1) (X 0 0 - 1) = -nI 1 := by rw [ep, bk_lo p (lo1 p (by omega))]; exact hbk
      have hlt : dH g1 (X 0 0) < 2 ^ 31 := Nat.lt_of_lt_of_le (dH_lt _ (fun j hj => ok_9 (hok j hj))) (Nat.le_trans (Nat.pow_le_pow_right (by omega) hs6) (by decide))
      rw [hrow, hval]
      obtain ⟨S', r3, cb3, f3⟩ := cons_C (x := allE E (pX X g1) b) (cb.fr f130) hlt
      rw [r3, bV_some]
      refine ⟨S', rfl, cb3.cg (fun d v => ?_), f2.tr (f3.mono (fun q j hq => Or.inr (Or.inr hq)))⟩
      constructor
      · rintro (h | h)
        · exact Or.inl h
        · exact Or.inr ⟨g1, u2, hok, hnb, by rw [ep, hA, u1], h.1, h.2⟩
      · rintro (h | ⟨g', w1, w2, w3, w4, w5, w6⟩)
        · exact Or.inl h
        · right
          have eqg : ∀ j, j < X 0 0 → g' j = g1 j := fun j hj => by
            obtain ⟨q, hq, eq⟩ := inj_sur iv.2.2.2.2.2.2.2.2.2.1 inj hj
            by_cases cq : q = p
            · rw [ep, hA] at w4
              rw [← eq, cq, hA, u1]; exact w4
            · rw [← eq, u2 q (by omega)]; exact w1 q (by omega)
          rw [w5, w6, pX_cg eqg, dH_cg _ eqg]
          exact ⟨rfl, rfl⟩
    · -- a place ahead of others
      rw [isLast_0 ns2.1.1 hs6 (by omega), bI_some, if_pos (show nI 0 = (0 : Int32) from rfl)]
      simp only []
      have hlast : ¬ (X 0 0 - 1 = p) := by omega
      -- one put, told to the places behind
      have one : ∀ (s : Nat) (A : Nat → Int32 → Prop) (S1 : St), okP X a s → (s ≠ 9 → ¬ (X 0 2 = 1 ∧ hasB (ah (pX X g) p) s)) → NS X E b S1 → (∀ t, t < 6 → S1 (114 + (p + 1)) t = nI (ptS (pX X g) p t - tk (ptS (pX X g) p) (ladOf (pX X g) p a) t + (if s ≠ 9 ∧ t = s then X 0 1 else 0))) → CB A S1 →
          ∃ S', c_tp n (nI (p + 1)) (foP (wop b) (we b) (mlP E (pX X g)) (p + 1)) (rwP X g p + nI (10 ^ (X 0 0 - 1 - a) * s)) (if s = 9 then ah (pX X g) p else ah (pX X g) p ||| (nI 1 <<< (nI s &&& 31))) S1 = some S' ∧ CB (fun d v => A d v ∨ SubC X E b (p + 1) (fun j => if j = a then s else g j) d v) S' ∧ Fr (dfF (p + 1)) S1 S' := by
        intro s A S1 hok hlaw ns1 pots cb1
        obtain ⟨u1, u2⟩ := upd1 s
        generalize (fun j => if j = a then s else g j) = g1 at u1 u2
        have lo1 : ∀ q, q ≤ p → Lo (pX X g) (pX X g1) q := fun q hq => pX_lo iv (by omega) (fun r hr => u2 r (by omega))
        have hd : dP (pX X g1) a ↔ s ≠ 9 := by rw [pX_dP ha (by rw [u1]; exact hok), u1]
        have e7 : pX X g1 7 a = s := (pX_7 X g1 ha).trans u1
        have hval : foP (wop b) (we b) (mlP E (pX X g)) (p + 1) = foP (wop b) (we b) (mlP E (pX X g1)) (p + 1) := foP_cg _ (fun q hq => (mlP_lo (lo1 q (by omega)) (by rw [pX_o X g1 6 q (by omega), pX_o X g 6 q (by omega)])).symm)
        have hrow : rwP X g p + nI (10 ^ (X 0 0 - 1 - a) * s) = rwP X g1 (p + 1) := by
          show _ = rwP X g1 p + nI (10 ^ (X 0 0 - 1 - X 6 p) * g1 (X 6 p))
          rw [hA, u1]
          congr 1
          unfold rwP
          exact foP_cg p (fun q hq => by rw [u2 q hq])
        have hah : (if s = 9 then ah (pX X g) p else ah (pX X g) p ||| (nI 1 <<< (nI s &&& 31))) = ah (pX X g1) (p + 1) := by
          show _ = (if dP (pX X g1) (pX X g1 6 p) then ah (pX X g1) p ||| (nI 1 <<< (nI (pX X g1 7 (pX X g1 6 p)) &&& 31)) else ah (pX X g1) p)
          rw [y6 g1, ah_lo p (lo1 p (by omega))]
          by_cases c : s = 9
          · rw [if_pos c, if_neg (fun d => hd.mp d c)]
          · rw [if_neg c, if_pos (hd.mpr c), e7]
        have hpt : ∀ t, t < 6 → S1 (114 + (p + 1)) t = nI (ptS (pX X g1) (p + 1) t) := fun t ht => by
          rw [pots t ht]
          have nx := ptS_next (plY g1) (p := p) (by omega) (by rw [y6 g1]; omega) t
          rw [y6 g1] at nx
          have e1 : ptS (pX X g1) p = ptS (pX X g) p := ptS_lo p (lo1 p (by omega))
          have e2 : ladOf (pX X g1) p a = ladOf (pX X g) p a := lad_lo (lo1 p (by omega)).1 p a
          have e3 : ad1 (pX X g1) a t = (if s ≠ 9 ∧ t = s then X 0 1 else 0) := by
            unfold ad1
            by_cases c : s ≠ 9 ∧ t = s
            · rw [if_pos c, if_pos ⟨hd.mpr c.1, by rw [e7]; exact c.2⟩, pX_o X g1 0 1 (by omega)]
            · rw [if_neg c, if_neg (fun d => c ⟨hd.mp d.1, by rw [← e7]; exact d.2⟩)]
          rw [nx, e1, e2, e3]
        have hbk1 : bk (pX X g1) (p + 1) = -nI 1 := by
          have eb : bk (pX X g1) p = -nI 1 := by rw [bk_lo p (lo1 p (by omega))]; exact hbk
          show (if dP (pX X g1) (pX X g1 6 p) ∧ bk (pX X g1) p = -nI 1 ∧ pX X g1 0 2 = 1 ∧ hasB (ah (pX X g1) p) (pX X g1 7 (pX X g1 6 p)) then nI (pX X g1 6 p) else bk (pX X g1) p) = -nI 1
          rw [if_neg]
          · exact eb
          · rintro ⟨d1, _, d3, d4⟩
            rw [y6 g1] at d1 d4
            rw [e7, ah_lo p (lo1 p (by omega))] at d4
            rw [pX_o X g1 0 2 (by omega)] at d3
            exact hlaw (hd.mp d1) ⟨d3, d4⟩
        rw [hval, hrow, hah]
        exact ihe (p + 1) n g1 A S1 (by omega) (by omega) (by omega) ns1 hpt (fun q hq => by
          by_cases cq : q = p
          · rw [cq, hA, u1]; exact hok
          · rw [u2 q (by omega)]; exact hg q (by omega)) hbk1 cb1
      -- the puts in turn
      have loop : ∀ (m s : Nat) (A : Nat → Int32 → Prop) (S1 : St), s ≤ 5 → 5 < m + s → NS X E b S1 → (∀ t, t < 6 → S1 (114 + (p + 1)) t = nI (ptS (pX X g) p t - tk (ptS (pX X g) p) (ladOf (pX X g) p a) t)) → CB A S1 →
          ∃ S', c_Best_tryPuts_h111 (c_tp n) m (nI p) (rwP X g p) (ah (pX X g) p) (nI a) (foP (wop b) (we b) (mlP E (pX X g)) (p + 1)) (nI (10 ^ (X 0 0 - 1 - a))) (nI s) S1 = some S' ∧ CB (fun d v => A d v ∨ ∃ s', s ≤ s' ∧ s' < 5 ∧ X 0 1 ≤ X (10 + a) s' ∧ ¬ (X 0 2 = 1 ∧ hasB (ah (pX X g) p) s') ∧ SubC X E b (p + 1) (fun j => if j = a then s' else g j) d v) S' ∧ Fr (dfF p) S1 S' := by
        intro m
        induction m with
        | zero => intro s A S1 hs hm; omega
        | succ m ihm =>
          intro s A S1 hs hm ns1 pots cb1
          rw [c_Best_tryPuts_h111]
          unfold c_Best_tryPuts_b210
          by_cases c5 : s < 5
          · have skip : ∀ (S2 : St), S2 = S1 → ¬ (X 0 1 ≤ X (10 + a) s ∧ ¬ (X 0 2 = 1 ∧ hasB (ah (pX X g) p) s)) → ∃ S', c_Best_tryPuts_h111 (c_tp n) m (nI p) (rwP X g p) (ah (pX X g) p) (nI a) (foP (wop b) (we b) (mlP E (pX X g)) (p + 1)) (nI (10 ^ (X 0 0 - 1 - a))) (nI s + (1 : Int32)) S2 = some S' ∧ CB (fun d v => A d v ∨ ∃ s', s ≤ s' ∧ s' < 5 ∧ X 0 1 ≤ X (10 + a) s' ∧ ¬ (X 0 2 = 1 ∧ hasB (ah (pX X g) p) s') ∧ SubC X E b (p + 1) (fun j => if j = a then s' else g j) d v) S' ∧ Fr (dfF p) S1 S' := by
              intro S2 e2 hno
              subst e2
              rw [show nI s + (1 : Int32) = nI (s + 1) from nI_add s 1]
              obtain ⟨S', r, c, f⟩ := ihm (s + 1) A S2 (by omega) (by omega) ns1 pots cb1
              refine ⟨S', r, c.cg (fun d v => ?_), f⟩
              constructor
              · rintro (h | ⟨s', h1, h2, h3, h4, h5⟩)
                · exact Or.inl h
                · exact Or.inr ⟨s', by omega, h2, h3, h4, h5⟩
              · rintro (h | ⟨s', h1, h2, h3, h4, h5⟩)
                · exact Or.inl h
                · have : s' ≠ s := fun e2 => hno ⟨by rw [← e2]; exact h3, by rw [← e2]; exact h4⟩
                  exact Or.inr ⟨s', by omega, h2, h3, h4, h5⟩
            rw [if_neg (show ¬ (5 : Int32) ≤ nI s from nI_ge (b := 5) c5 (by omega)), ns1.1.2.1, enough_s ns1.1 iv ha c5, bI_some]
            simp only [bnd_eq]
            by_cases ce : X 0 1 ≤ X (10 + a) s
            · rw [if_pos ce, if_neg (show ¬ nI 1 = (0 : Int32) by decide), breaks_eq ns1.1.2.2.1 iv.2.2.1, bI_some]
              simp only []
              by_cases cl : X 0 2 = 1 ∧ hasB (ah (pX X g) p) s
              · rw [if_pos cl, if_neg (show ¬ nI 1 = (0 : Int32) by decide)]
                exact skip S1 rfl (fun h => h.2 cl)
              · rw [if_neg cl, if_pos (show nI 0 = (0 : Int32) from rfl), ns1.1.2.1, pour_eq _ (by omega) (by omega), bV_some]
                have fp1 : Fr (dfF p) S1 (up2 S1 (114 + (p + 1)) s (S1 (114 + (p + 1)) s + nI (X 0 1))) := Fr.rfl.up (by unfold dfF; omega)
                obtain ⟨S2, r3, cb3, f3⟩ := one s A (up2 S1 (114 + (p + 1)) s (S1 (114 + (p + 1)) s + nI (X 0 1))) (Or.inr ⟨c5, ce⟩) (fun _ => cl) (ns1.fr fp1) (fun t ht => by
                  by_cases ct : t = s
                  · rw [if_pos ⟨by omega, ct⟩, up2_hit rfl ct, pots s (by omega), nI_add, ct]
                  · rw [if_neg (fun d => ct d.2), up2_k ct, pots t ht, Nat.add_zero]) (cb1.fr (fun j => up2_o (by omega)))
                rw [if_neg (show ¬ s = 9 by omega)] at r3
                have r3' : c_tp n (nI p + (1 : Int32)) (foP (wop b) (we b) (mlP E (pX X g)) (p + 1)) (rwP X g p + nI (10 ^ (X 0 0 - 1 - a)) * nI s) (ah (pX X g) p ||| ((1 : Int32) <<< (nI s &&& 31))) (up2 S1 (114 + (p + 1)) s (S1 (114 + (p + 1)) s + nI (X 0 1))) = some S2 := by
                  rw [show nI p + (1 : Int32) = nI (p + 1) from nI_add p 1, pk_mul]
                  exact r3
                have ns3 := (ns1.fr fp1).fr f3
                rw [r3', bV_some, ns3.1.2.1, pour_eq _ (by omega) (by omega), bV_some, show nI s + (1 : Int32) = nI (s + 1) from nI_add s 1]
                have fp3 : Fr (dfF p) S2 (up2 S2 (114 + (p + 1)) s (S2 (114 + (p + 1)) s + -(nI (X 0 1)))) := Fr.rfl.up (by unfold dfF; omega)
                have e114 : ∀ t, S2 (114 + (p + 1)) t = (up2 S1 (114 + (p + 1)) s (S1 (114 + (p + 1)) s + nI (X 0 1))) (114 + (p + 1)) t := fun t => f3 _ _ (by unfold dfF mealPC; omega)
                obtain ⟨S', r4, cb4, f4⟩ := ihm (s + 1) _ (up2 S2 (114 + (p + 1)) s (S2 (114 + (p + 1)) s + -(nI (X 0 1)))) (by omega) (by omega) (ns3.fr fp3) (fun t ht => by
                  by_cases ct : t = s
                  · rw [up2_hit rfl ct, e114 s, up2_hit rfl rfl, pots s (by omega), nI_add, neg_back, ct]
                  · rw [up2_k ct, e114 t, up2_k ct]; exact pots t ht) (cb3.fr (fun j => up2_o (by omega)))
                refine ⟨S', r4, cb4.cg (fun d v => ?_), ((fp1.tr (f3.mono (dfF.le (by omega)))).tr fp3).tr f4⟩
                constructor
                · rintro ((h | h) | ⟨s', h1, h2, h3, h4, h5⟩)
                  · exact Or.inl h
                  · exact Or.inr ⟨s, by omega, c5, ce, cl, h⟩
                  · exact Or.inr ⟨s', by omega, h2, h3, h4, h5⟩
                · rintro (h | ⟨s', h1, h2, h3, h4, h5⟩)
                  · exact Or.inl (Or.inl h)
                  · by_cases ess : s' = s
                    · subst ess; exact Or.inl (Or.inr h5)
                    · exact Or.inr ⟨s', by omega, h2, h3, h4, h5⟩
            · rw [if_neg ce, if_pos (show nI 0 = (0 : Int32) from rfl)]
              exact skip S1 rfl (fun h => ce h.1)
          · have es : s = 5 := by omega
            subst es
            rw [if_pos (show (5 : Int32) ≤ nI 5 by decide)]
            refine ⟨S1, rfl, cb1.cg (fun d v => ⟨Or.inl, fun h => h.elim id (fun ⟨s', h1, h2, _⟩ => by omega)⟩), Fr.rfl⟩
      obtain ⟨S9, q1, q2, q3⟩ := one 9 A Sb (Or.inl rfl) (fun h => absurd rfl h) ns2 (fun t ht => by rw [if_neg (fun h => h.1 rfl), Nat.add_zero]; exact pot2 t ht) (cb.fr f130)
      rw [if_pos rfl] at q1
      rw [q1, bV_some]
      obtain ⟨S', z1, z2, z3⟩ := loop FU 0 _ S9 (by omega) (by unfold FU; omega) (ns2.fr (q3.mono (dfF.le (show p ≤ p + 1 by omega)))) (fun t ht => by rw [q3 _ _ (by unfold dfF mealPC; omega)]; exact pot2 t ht) q2
      refine ⟨S', z1, z2.cg (fun d v => ?_), (f2.tr (q3.mono (dfF.le (by omega)))).tr z3⟩
      have down : ∀ s, SubC X E b (p + 1) (fun j => if j = a then s else g j) d v → SubC X E b p g d v := fun s ⟨g', w1, w2, w3, w4, w5, w6⟩ => ⟨g', fun q hq => (w1 q (by omega)).trans ((upd1 s).2 q hq), w2, w3, w4, w5, w6⟩
      constructor
      · rintro ((h | h) | ⟨s', h1, h2, h3, h4, h5⟩)
        · exact Or.inl h
        · exact Or.inr (down 9 h)
        · exact Or.inr (down s' h5)
      · rintro (h | ⟨g', w1, w2, w3, w4, w5, w6⟩)
        · exact Or.inl (Or.inl h)
        · have up : SubC X E b (p + 1) (fun j => if j = a then g' a else g j) d v := ⟨g', fun q hq => by
            by_cases cq : q = p
            · rw [cq, hA]; exact ((upd1 (g' a)).1).symm
            · exact (w1 q (by omega)).trans ((upd1 (g' a)).2 q (by omega)).symm, w2, w3, w4, w5, w6⟩
          rcases w2 a ha with hk | hk
          · rw [hk] at up
            exact Or.inl (Or.inr up)
          · refine Or.inr ⟨g' a, by omega, hk.1, hk.2, fun hl => ?_, up⟩
            have b1 : bk (pX X g') (p + 1) = -nI 1 := bk_le (by omega) w3
            have b2 : bk (pX X g') p = -nI 1 := bk_le (by omega) w3
            have lo2 := pX_lo iv (g := g) (g' := g') (p := p) (by omega) w1
            have e7 : pX X g' 7 a = g' a := pX_7 X g' ha
            have hd : dP (pX X g') a := (pX_dP ha (w2 a ha)).mpr (by omega)
            have hcond : dP (pX X g') (pX X g' 6 p) ∧ bk (pX X g') p = -nI 1 ∧ pX X g' 0 2 = 1 ∧ hasB (ah (pX X g') p) (pX X g' 7 (pX X g' 6 p)) := ⟨by rw [y6 g']; exact hd, b2, by rw [pX_o X g' 0 2 (by omega)]; exact hl.1, by rw [y6 g', e7, ah_lo p lo2]; exact hl.2⟩
            have b3 : bk (pX X g') (p + 1) = nI (pX X g' 6 p) := if_pos hcond
            rw [b3, y6 g'] at b1
            exact (nI_nneg (by omega)).mp b1
end PUTSC
