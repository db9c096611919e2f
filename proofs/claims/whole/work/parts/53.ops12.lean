/-! a day goes by -/
theorem NrC.fr3 {S S' : St} {X : Cf} {E : Ev} (h : NrC S 33 X E) (iv : Iv X) (hf : ∀ q j, (16 ≤ q ∧ q ≤ 23) ∨ (28 ≤ q ∧ q ≤ 32) ∨ (q = 33 ∧ j = 0) ∨ q = 34 ∨ q = 36 ∨ q = 37 ∨ (q = 111 ∧ j ≤ 7) ∨ (121 ≤ q ∧ q ≤ 128) → S' q j = S q j) : NrC S' 33 X E := by
  obtain ⟨h1, h2, h3, h4⟩ := h
  have h6 := iv.1
  refine ⟨h1.fr2 (fun q j hq => hf q j (by omega)), ⟨fun pl hpl => ?_, fun hx s hs => (hf _ _ (by omega)).trans (h2.2 hx s hs)⟩, (hf _ _ (by omega)).trans h3, h4.fr (fun q j hq => hf q j (by omega))⟩
  have hx := iv.2.2.2.2.2.2.2.2.2.1 pl hpl
  obtain ⟨a1, a2⟩ := h2.1 pl hpl
  exact ⟨fun s hs => (hf _ _ (by omega)).trans (a1 s hs), (hf _ _ (by omega)).trans a2⟩
noncomputable def stP (X : Cf) (p h s : Nat) : Nat := if plc X h < p ∧ dP X h ∧ s = X 7 h then X (10 + h) s - X 0 1 else X (10 + h) s
theorem stP_le {X : Cf} (iv : Iv X) (p : Nat) {h s : Nat} (hh : h < X 0 0) (hs : s < 5) : stP X p h s ≤ 99 := by
  have := (iv.2.2.2.2.2.2.2.2.1 h hh).2.2.2.2 s hs
  unfold stP
  split <;> omega
theorem eat_h24 {X : Cf} {E : Ev} (iv : Iv X) : ∀ (n k : Nat) (S : St), k ≤ X 0 0 → X 0 0 < n + k → NrC S 33 X E → ∃ S', c_N_goOn_h24 n (nI k) S = c_N_goOn_h63 FU (nI 0) S' ∧ (∀ h, k ≤ h → h < X 0 0 → S' 35 h = S 35 h + mealH E X h) ∧ Fr (fun q j => mealPC q j ∨ (q = 35 ∧ k ≤ j)) S S' := by
  have h6 := iv.1
  intro n
  induction n with
  | zero => intro k S h1 h2; omega
  | succ n ih =>
    intro k S hk hn nc
    rw [c_N_goOn_h24]
    by_cases e : k < X 0 0
    · obtain ⟨⟨x, S1⟩, r1, p1, p2⟩ := mealCH nc iv e
      simp only at p1 p2
      rw [nc.1.1, if_neg (show ¬ nI (X 0 0) ≤ nI k from nI_ge e (by omega)), ckI (by omega) (by omega), r1, bI_some, bnd_eq, bnd_eq]
      simp only []
      rw [ckI (by omega) (by omega), nI_clamp (by omega), show nI k + (1 : Int32) = nI (k + 1) from nI_add k 1]
      have nc1 : NrC (up2 S1 35 k (S 35 k + x)) 33 X E := (nc.meal (Or.inl rfl) iv p2).fr3 iv (fun q j hq => up2_n (by omega))
      obtain ⟨S', r, g1, g2⟩ := ih (k + 1) _ (by omega) (by omega) nc1
      refine ⟨S', r, fun h hh1 hh2 => ?_, fun q j hp => ?_⟩
      · by_cases eh : h = k
        · rw [eh, g2 _ _ (by unfold mealPC; omega), up2_hit rfl rfl, p1]
        · rw [g1 h (by omega) hh2, up2_k eh, p2 _ _ (by unfold mealPC; omega)]
      · have hm : ¬ mealPC q j := fun hn => hp (Or.inl hn)
        rw [g2 q j (fun hn => hn.elim hm (fun hn2 => hp (Or.inr ⟨hn2.1, by omega⟩))), up2_n (fun hn => hp (Or.inr ⟨hn.1, by omega⟩)), p2 q j hm]
    · rw [nc.1.1, if_pos (show nI (X 0 0) ≤ nI k from nI_le (by omega) (by omega))]
      exact ⟨S, rfl, fun h _ _ => by omega, Fr.rfl⟩
theorem lw_st {X : Cf} (lw : Lw X) (p : Nat) : Lw (vX X (X 0 4) (stP X p)) := lw.mk vX_ss (vX_vr lw lw.2.2.1 (fun h hh s hs => stP_le lw.1 p hh hs))
theorem dP_st {X : Cf} (lw : Lw X) {p a : Nat} (ha : a < X 0 0) (hp : plc X a = p) : dP (vX X (X 0 4) (stP X p)) a ↔ dP X a := by
  have h6 := lw.1.1
  have h7 := (lw.vr.2.1 a ha).1
  unfold dP
  rw [vX_n (q := 7) (by omega) (by omega), vX_n (q := 0) (by omega) (by omega)]
  by_cases e : X 7 a = 9
  · exact ⟨fun h => absurd e h.1, fun h => absurd e h.1⟩
  · rw [vX_s (by omega) (by omega)]
    have : stP X p a (X 7 a) = X (10 + a) (X 7 a) := by
      unfold stP
      rw [if_neg (fun h => by omega)]
    rw [this]
theorem use_h63 {X : Cf} (lw : Lw X) (h0 : 0 < X 0 0) : ∀ (n p : Nat) (S : St), p ≤ X 0 0 - 1 → X 0 0 - 1 < n + p → Cq S 33 (vX X (X 0 4) (stP X p)) → ∃ S', c_N_goOn_h63 n (nI p) S = some S' ∧ VrC (vX X (X 0 4 + 1) (stP X (X 0 0 - 1))) (X 0 0) 33 S' ∧ Fr (fun q j => q = 34 ∨ (q = 33 ∧ j = 0)) S S' := by
  have iv := lw.1
  have h6 := iv.1
  intro n
  induction n with
  | zero => intro p S h1 h2; omega
  | succ n ih =>
    intro p S hp hn cq
    have c0 : S 28 0 = nI (X 0 0) := cq.1.trans (by rw [vX_n (by omega) (by omega)])
    have c1 : S 28 1 = nI (X 0 1) := cq.2.1.trans (by rw [vX_n (by omega) (by omega)])
    have x0 : vX X (X 0 4) (stP X p) 0 0 = X 0 0 := vX_n (by omega) (by omega)
    rw [c_N_goOn_h63, c0, show nI (X 0 0) - (1 : Int32) = nI (X 0 0 - 1) from pk_sub (b := 1) (by omega)]
    by_cases e : p < X 0 0 - 1
    · have hpl : S 36 p = nI (X 6 p) := (cq.2.2.2.2.2.2.2 p (by omega)).trans (by rw [vX_n (by omega) (by omega)])
      have ha := iv.2.2.2.2.2.2.2.2.2.1 p (by omega)
      have hplc : plc X (X 6 p) = p := plc_line iv (by omega)
      have h7 := (lw.vr.2.1 _ ha).1
      have hput : S 37 (X 6 p) = nI (X 7 (X 6 p)) := (cq.2.2.2.2.2.2.1 _ (by omega)).2.2.2.1.trans (by rw [vX_n (by omega) (by omega)])
      have hen : c_State_hasEnough 33 (nI (X 6 p)) (nI (X 7 (X 6 p))) (nI (X 0 1)) S = some (if dP (vX X (X 0 4) (stP X p)) (X 6 p) then nI 1 else nI 0, S) := enough_dP cq (lw_st lw p).1 (a := X 6 p) (by omega)
      rw [if_neg (show ¬ nI (X 0 0 - 1) ≤ nI p from nI_ge e (by omega)), ckI (by omega) (by omega), nI_clamp (by omega), hpl, c1]
      unfold c_State_usePut
      rw [putOf_eq (by omega), bI_some]
      simp only []
      rw [hput, hen, bI_some, show nI p + (1 : Int32) = nI (p + 1) from nI_add p 1]
      simp only [bnd_eq]
      have other : ∀ h, h < X 0 0 → h ≠ X 6 p → plc X h ≠ p := fun h hh hne e2 => hne (by rw [← (plc_spec iv hh).2, e2])
      by_cases cd : dP X (X 6 p)
      · have h5 : X 7 (X 6 p) < 5 := by
          have := cd.1
          omega
        have hst : S 34 (5 * X 6 p + X 7 (X 6 p)) = nI (X (10 + X 6 p) (X 7 (X 6 p))) := by
          rw [(cq.2.2.2.2.2.2.1 (X 6 p) (by omega)).2.2.2.2 _ h5, vX_s (by omega) h5]
          unfold stP
          rw [if_neg (fun hh => by omega)]
        rw [if_pos ((dP_st lw ha hplc).mpr cd), if_neg (show ¬ nI 1 = (0 : Int32) by decide), store_eq (by omega) h5, bI_some]
        simp only []
        rw [setStore_eq (by omega) h5, bV_some, bV_some, hst, pk_sub cd.2]
        refine (ih (p + 1) _ (by omega) (by omega) ?_).imp (fun S' hh => ⟨hh.1, hh.2.1, (Fr.rfl.up (o := 34) (Or.inl rfl)).tr hh.2.2⟩)
        refine cq.mk ⟨fun j hj => by rw [vX_n (by omega) (by omega), vX_n (by omega) (by omega)], fun q j h1 h2 => by rw [vX_n (by omega) (by omega), vX_n (by omega) (by omega)]⟩ (fun q j hq => up2_o (by omega)) ⟨?_, fun h hh => ⟨?_, fun s hs => ?_⟩, fun r hr => ?_⟩
        · rw [up2_o (by omega), vX_4]; exact cq.2.2.2.2.1.trans (by rw [vX_4])
        · rw [up2_o (by omega), vX_n (by omega) (by omega)]; exact (cq.2.2.2.2.2.2.1 h hh).2.2.2.1.trans (by rw [vX_n (by omega) (by omega)])
        · rw [x0] at hh
          rw [vX_s (by omega) hs]
          by_cases e3 : h = X 6 p ∧ s = X 7 (X 6 p)
          · obtain ⟨e4, e5⟩ := e3
            rw [up2_hit rfl (by rw [e4, e5])]
            unfold stP
            rw [if_pos ⟨by rw [e4]; omega, by rw [e4]; exact cd, by rw [e4]; exact e5⟩, e4, e5]
          · rw [up2_k (by omega), (cq.2.2.2.2.2.2.1 h (by omega)).2.2.2.2 s hs, vX_s (by omega) hs]
            unfold stP
            by_cases e4 : h = X 6 p
            · subst e4
              rw [if_neg (fun hc => e3 ⟨rfl, hc.2.2⟩), if_neg (fun hc => e3 ⟨rfl, hc.2.2⟩)]
            · have := other h hh e4
              by_cases e5 : plc X h < p ∧ dP X h ∧ s = X 7 h
              · rw [if_pos e5, if_pos ⟨by omega, e5.2⟩]
              · rw [if_neg e5, if_neg (fun hc => e5 ⟨by omega, hc.2⟩)]
        · rw [up2_o (by omega), vX_n (by omega) (by omega)]; exact (cq.2.2.2.2.2.2.2 r hr).trans (by rw [vX_n (by omega) (by omega)])
      · rw [if_neg (fun hh => cd ((dP_st lw ha hplc).mp hh)), if_pos (show nI 0 = (0 : Int32) from rfl), bV_some]
        refine ih (p + 1) S (by omega) (by omega) ?_
        refine cq.mk ⟨fun j hj => by rw [vX_n (by omega) (by omega), vX_n (by omega) (by omega)], fun q j h1 h2 => by rw [vX_n (by omega) (by omega), vX_n (by omega) (by omega)]⟩ (fun q j hq => rfl) ⟨?_, fun h hh => ⟨?_, fun s hs => ?_⟩, fun r hr => ?_⟩
        · rw [vX_4]; exact cq.2.2.2.2.1.trans (by rw [vX_4])
        · rw [vX_n (by omega) (by omega)]; exact (cq.2.2.2.2.2.2.1 h hh).2.2.2.1.trans (by rw [vX_n (by omega) (by omega)])
        · rw [x0] at hh
          rw [vX_s (by omega) hs, (cq.2.2.2.2.2.2.1 h (by omega)).2.2.2.2 s hs, vX_s (by omega) hs]
          unfold stP
          by_cases e4 : h = X 6 p
          · subst e4
            rw [if_neg (fun hc => cd hc.2.1), if_neg (fun hc => cd hc.2.1)]
          · have := other h hh e4
            by_cases e5 : plc X h < p ∧ dP X h ∧ s = X 7 h
            · rw [if_pos e5, if_pos ⟨by omega, e5.2⟩]
            · rw [if_neg e5, if_neg (fun hc => e5 ⟨by omega, hc.2⟩)]
        · rw [vX_n (by omega) (by omega)]; exact (cq.2.2.2.2.2.2.2 r hr).trans (by rw [vX_n (by omega) (by omega)])
    · have ep : p = X 0 0 - 1 := by omega
      rw [if_pos (show nI (X 0 0 - 1) ≤ nI p from nI_le (by omega) (by omega)), bnd_eq]
      refine ⟨_, rfl, ⟨?_, fun h hh => ⟨?_, fun s hs => ?_⟩, fun r hr => ?_⟩, Fr.rfl.up (Or.inr ⟨rfl, rfl⟩)⟩
      · rw [up2_hit rfl rfl, vX_4, cq.2.2.2.2.1, vX_4]; exact nI_add _ 1
      · rw [up2_o (by omega), vX_n (by omega) (by omega)]; exact (cq.2.2.2.2.2.2.1 h (by omega)).2.2.2.1.trans (by rw [vX_n (by omega) (by omega)])
      · rw [up2_o (by omega), vX_s (by omega) hs, (cq.2.2.2.2.2.2.1 h (by omega)).2.2.2.2 s hs, vX_s (by omega) hs, ep]
      · rw [up2_o (by omega), vX_n (by omega) (by omega)]; exact (cq.2.2.2.2.2.2.2 r (by omega)).trans (by rw [vX_n (by omega) (by omega)])
theorem ltr_vX {X : Cf} {f : Nat → Nat → Nat} {p : Nat → Nat} {pl h : Nat} : ltr (vX X (X 0 4) f) p pl h = ltr X p pl h := by
  funext k
  match k with
  | 0 => show p (vX X (X 0 4) f 3 h) = _; rw [vX_n (by omega) (by omega)]; rfl
  | 1 => show (if vX X (X 0 4) f 4 h < 5 then p (vX X (X 0 4) f 4 h) else 0) = _; rw [vX_n (by omega) (by omega)]; rfl
  | 2 => rfl
  | 3 => show 100 - vX X (X 0 4) f 0 3 * pl = _; rw [vX_n (by omega) (by omega)]; rfl
  | 4 => rfl
  | _ + 5 => show vX X (X 0 4) f 0 4 = _; rw [vX_4]; rfl
noncomputable def smS (X : Cf) (k h s : Nat) : Nat := if h < k ∧ plc X h + 1 < X 0 0 ∧ dP X h ∧ s = X 7 h then X (10 + h) s - X 0 1 else X (10 + h) s
theorem smS_le {X : Cf} (iv : Iv X) (k : Nat) {h s : Nat} (hh : h < X 0 0) (hs : s < 5) : smS X k h s ≤ 99 := by
  have := (iv.2.2.2.2.2.2.2.2.1 h hh).2.2.2.2 s hs
  unfold smS
  split <;> omega
def gbM : Nat → Nat → Prop := fun q j => mealPM q j ∨ q = 13 ∨ (q = 7 ∧ j % 8 < 5) ∨ (q = 0 ∧ j = 32)
theorem goes_h14 {X : Cf} {E : Ev} (lw : Lw X) : ∀ (n k : Nat) (T : St), k ≤ X 0 0 → X 0 0 < n + k → Mq T (vX X (X 0 4) (smS X k)) → Mres T X (X 0 0) → ME T E → T 0 32 = nI (X 0 4) → ∃ T', m_goesBy_h14 n (nI k) T = some T' ∧ (∀ h, k ≤ h → h < X 0 0 → T' 13 h = T 13 h + mealH E X h) ∧ Mq T' (vX X (X 0 4) (smS X (X 0 0))) ∧ T' 0 32 = nI (X 0 4 + 1) ∧ Fr (fun q j => mealPM q j ∨ (q = 13 ∧ k ≤ j) ∨ (q = 7 ∧ j % 8 < 5) ∨ (q = 0 ∧ j = 32)) T T' := by
  have iv := lw.1
  have h6 := iv.1
  intro n
  induction n with
  | zero => intro k T h1 h2; omega
  | succ n ih =>
    intro k T hk hn mq mr me hd
    have x0 : ∀ f, vX X (X 0 4) f 0 0 = X 0 0 := fun f => vX_n (by omega) (by omega)
    have m0 : T 0 24 = nI (X 0 0) := mq.1.trans (by rw [x0])
    rw [m_goesBy_h14]
    unfold m_goesBy_b76
    simp only [lits, bnd_eq]
    rw [m0]
    by_cases e : k < X 0 0
    · obtain ⟨s1, s2⟩ := plc_spec iv e
      obtain ⟨a1, a2, a3⟩ := mr.1 _ s1
      rw [s2] at a1 a2 a3
      have ivk : Iv (vX X (X 0 4) (smS X k)) := (lw.mk vX_ss (vX_vr lw lw.2.2.1 (fun h hh s hs => smS_le iv k hh hs))).1
      obtain ⟨⟨x, T1⟩, r1, p1, p2⟩ := mealM_ok (pl := plc X k) (h := k) (p := gtP X (plc X k)) ivk mq (by rw [x0]; exact s1) (by rw [vX_n (by omega) (by omega)]; exact s2) a1 (fun s hs => Nat.le_trans (gtP_le iv _ s hs) (by omega)) (by rw [vX_n (by omega) (by omega)]; exact a2) me
      simp only at p1 p2
      rw [ltr_vX] at p1
      rw [vX_4] at r1
      rw [if_neg (show ¬ nI (X 0 0) ≤ nI k from nI_ge e (by omega)), ckI (by omega) (by omega), hd, r1, bI_some]
      simp only []
      rw [ckI (by omega) (by omega), ckI (by omega) (by omega), nI_clamp (by omega), ckI (by omega) (by omega)]
      have y : ∀ q j, ¬ mealPM q j → q ≠ 13 → (up2 T1 13 k (T 13 k + x)) q j = T q j := fun q j h1 h2 => by rw [up2_o h2, p2 q j h1]
      have h19 : (up2 T1 13 k (T 13 k + x)) 19 k = (if plc X k + 1 < X 0 0 ∧ dP X k then nI (X 7 k) else nI 9) := by rw [y _ _ (by unfold mealPM goP; omega) (by omega)]; exact a3
      have h9 : (up2 T1 13 k (T 13 k + x)) 9 0 = nI (X 0 1) := by rw [y _ _ (by unfold mealPM goP; omega) (by omega), mq.2.1, vX_n (by omega) (by omega)]
      have mq1 : Mq (up2 T1 13 k (T 13 k + x)) (vX X (X 0 4) (smS X k)) := mq.fr (fun q j hq => y q j (by unfold mealPM goP; omega) (by omega))
      have mr1 : ∀ (T2 : St), (∀ q j, 16 ≤ q → q ≤ 19 → T2 q j = (up2 T1 13 k (T 13 k + x)) q j) → Mres T2 X (X 0 0) := fun T2 hT2 => by
        refine ⟨fun pl hpl => ?_, fun hx s hs => ?_⟩
        · obtain ⟨b1, b2, b3⟩ := mr.1 pl hpl
          exact ⟨fun s hs => by rw [hT2 _ _ (by omega) (by omega), y _ _ (by unfold mealPM goP; omega) (by omega)]; exact b1 s hs, by rw [hT2 _ _ (by omega) (by omega), y _ _ (by unfold mealPM goP; omega) (by omega)]; exact b2, by rw [hT2 _ _ (by omega) (by omega), y _ _ (by unfold mealPM goP; omega) (by omega)]; exact b3⟩
        · rw [hT2 _ _ (by omega) (by omega), y _ _ (by unfold mealPM goP; omega) (by omega)]; exact mr.2 hx s hs
      have me1 : ∀ (T2 : St), (∀ q j, q = 2 ∨ q = 3 ∨ (q = 0 ∧ j = 31) → T2 q j = (up2 T1 13 k (T 13 k + x)) q j) → ME T2 E := fun T2 hT2 => me.fr (fun q j hq => by rw [hT2 q j hq, y _ _ (by unfold mealPM goP; omega) (by omega)])
      have hd1 : (up2 T1 13 k (T 13 k + x)) 0 32 = nI (X 0 4) := by rw [y _ _ (by unfold mealPM goP; omega) (by omega)]; exact hd
      have f1 : Fr (fun q j => mealPM q j ∨ (q = 13 ∧ k ≤ j) ∨ (q = 7 ∧ j % 8 < 5) ∨ (q = 0 ∧ j = 32)) T (up2 T1 13 k (T 13 k + x)) := (p2.mono (fun q j hq => Or.inl hq)).up (Or.inr (Or.inl ⟨rfl, by omega⟩))
      have t13 : ∀ h, h ≠ k → (up2 T1 13 k (T 13 k + x)) 13 h = T 13 h := fun h hh => by rw [up2_k hh, p2 _ _ (by unfold mealPM goP; omega)]
      rw [h19]
      have fin : ∀ T2, Mq T2 (vX X (X 0 4) (smS X (k + 1))) → (∀ q j, ¬ (q = 7 ∧ j % 8 < 5) → T2 q j = (up2 T1 13 k (T 13 k + x)) q j) → ∃ T', m_goesBy_h14 n (nI k + nI 1) T2 = some T' ∧ (∀ h, k ≤ h → h < X 0 0 → T' 13 h = T 13 h + mealH E X h) ∧ Mq T' (vX X (X 0 4) (smS X (X 0 0))) ∧ T' 0 32 = nI (X 0 4 + 1) ∧ Fr (fun q j => mealPM q j ∨ (q = 13 ∧ k ≤ j) ∨ (q = 7 ∧ j % 8 < 5) ∨ (q = 0 ∧ j = 32)) T T' := by
        intro T2 mq2 hT2
        rw [nI_add]
        obtain ⟨T', r, g1, g2, g3, g4⟩ := ih (k + 1) T2 (by omega) (by omega) mq2 (mr1 T2 (fun q j h1 h2 => hT2 q j (by omega))) (me1 T2 (fun q j hq => hT2 q j (by omega))) ((hT2 _ _ (by omega)).trans hd1)
        refine ⟨T', r, fun h hh1 hh2 => ?_, g2, g3, fun q j hp => ?_⟩
        · by_cases eh : h = k
          · rw [eh, g4 _ _ (by unfold mealPM goP; omega), hT2 _ _ (by omega), up2_hit rfl rfl, p1]
            rfl
          · rw [g1 h (by omega) hh2, hT2 _ _ (by omega), t13 h eh]
        · have hm : ¬ mealPM q j := fun hn => hp (Or.inl hn)
          have h13 : ¬ (q = 13 ∧ k ≤ j) := fun hn => hp (Or.inr (Or.inl hn))
          have h7 : ¬ (q = 7 ∧ j % 8 < 5) := fun hn => hp (Or.inr (Or.inr (Or.inl hn)))
          have h32 : ¬ (q = 0 ∧ j = 32) := fun hn => hp (Or.inr (Or.inr (Or.inr hn)))
          rw [g4 q j (fun hn => by
            rcases hn with hn | hn | hn | hn
            · exact hm hn
            · omega
            · exact h7 hn
            · exact h32 hn), hT2 q j h7]
          exact f1 q j hp
      have h7 := (lw.vr.2.1 k e).1
      by_cases cd : plc X k + 1 < X 0 0 ∧ dP X k
      · have h5 : X 7 k < 5 := by
          have := cd.2.1
          omega
        have hst : (up2 T1 13 k (T 13 k + x)) 7 (8 * k + X 7 k) = nI (X (10 + k) (X 7 k)) := by
          rw [(mq1.2.2.2.2.2.1 k (by rw [x0]; exact e)).2.2.2.2 _ h5, vX_s (by omega) h5]
          unfold smS
          rw [if_neg (fun hh => by omega)]
        rw [if_pos cd, if_neg (nI_nn (by omega) (by omega) (by omega)), pk_mul, nI_add (8 * k) (X 7 k), ckI (by omega) (by omega), ckI (by omega) (by omega), ckI (by omega) (by omega), nI_clamp (by omega), nI_clamp (by omega), hst, h9, pk_sub cd.2.2]
        apply fin
        · obtain ⟨m1, m2, m3, m4, m6, m7, m8⟩ := mq1
          have z : ∀ (f g : Nat → Nat → Nat) a b, a < 10 → vX X (X 0 4) f a b = vX X (X 0 4) g a b := fun f g a b h => by
            unfold vX
            simp only [if_neg (show ¬ (10 ≤ a ∧ a < 16 ∧ b < 5) by omega)]
          refine ⟨by rw [up2_o (by omega), z _ (smS X k) _ _ (by omega)]; exact m1, by rw [up2_o (by omega), z _ (smS X k) _ _ (by omega)]; exact m2, by rw [up2_o (by omega), z _ (smS X k) _ _ (by omega)]; exact m3, by rw [up2_o (by omega), z _ (smS X k) _ _ (by omega)]; exact m4, fun s hs => by rw [up2_o (by omega), z _ (smS X k) _ _ (by omega)]; exact m6 s hs, fun a ha => ?_, fun p hp => by rw [up2_o (by omega), z _ (smS X k) _ _ (by omega)]; exact m8 p (by rw [x0] at hp ⊢; exact hp)⟩
          rw [x0] at ha
          obtain ⟨u1, u2, u3, u4, u5⟩ := m7 a (by rw [x0]; exact ha)
          refine ⟨by rw [up2_k (by omega), z _ (smS X k) _ _ (by omega)]; exact u1, by rw [up2_k (by omega), z _ (smS X k) _ _ (by omega)]; exact u2, by rw [up2_k (by omega), z _ (smS X k) _ _ (by omega)]; exact u3, by rw [up2_o (by omega), z _ (smS X k) _ _ (by omega)]; exact u4, fun s hs => ?_⟩
          rw [vX_s (by omega) hs]
          by_cases e3 : a = k ∧ s = X 7 k
          · obtain ⟨e4, e5⟩ := e3
            rw [up2_hit rfl (by rw [e4, e5])]
            unfold smS
            rw [if_pos ⟨by omega, by rw [e4]; exact cd.1, by rw [e4]; exact cd.2, by rw [e4]; exact e5⟩, e4, e5]
          · rw [up2_k (by omega), u5 s hs, vX_s (by omega) hs]
            unfold smS
            by_cases e5 : a < k ∧ plc X a + 1 < X 0 0 ∧ dP X a ∧ s = X 7 a
            · rw [if_pos e5, if_pos ⟨by omega, e5.2⟩]
            · rw [if_neg e5, if_neg (fun hc => by
                by_cases e6 : a = k
                · subst e6; exact e3 ⟨rfl, hc.2.2.2⟩
                · exact e5 ⟨by omega, hc.2⟩)]
        · intro q j hq
          exact up2_n (by omega)
      · rw [if_neg cd, if_pos rfl]
        apply fin
        · obtain ⟨m1, m2, m3, m4, m6, m7, m8⟩ := mq1
          have z : ∀ (f g : Nat → Nat → Nat) a b, a < 10 → vX X (X 0 4) f a b = vX X (X 0 4) g a b := fun f g a b h => by
            unfold vX
            simp only [if_neg (show ¬ (10 ≤ a ∧ a < 16 ∧ b < 5) by omega)]
          refine ⟨by rw [z _ (smS X k) _ _ (by omega)]; exact m1, by rw [z _ (smS X k) _ _ (by omega)]; exact m2, by rw [z _ (smS X k) _ _ (by omega)]; exact m3, by rw [z _ (smS X k) _ _ (by omega)]; exact m4, fun s hs => by rw [z _ (smS X k) _ _ (by omega)]; exact m6 s hs, fun a ha => ?_, fun p hp => by rw [z _ (smS X k) _ _ (by omega)]; exact m8 p (by rw [x0] at hp ⊢; exact hp)⟩
          rw [x0] at ha
          obtain ⟨u1, u2, u3, u4, u5⟩ := m7 a (by rw [x0]; exact ha)
          refine ⟨by rw [z _ (smS X k) _ _ (by omega)]; exact u1, by rw [z _ (smS X k) _ _ (by omega)]; exact u2, by rw [z _ (smS X k) _ _ (by omega)]; exact u3, by rw [z _ (smS X k) _ _ (by omega)]; exact u4, fun s hs => ?_⟩
          rw [vX_s (by omega) hs, u5 s hs, vX_s (by omega) hs]
          unfold smS
          by_cases e5 : a < k ∧ plc X a + 1 < X 0 0 ∧ dP X a ∧ s = X 7 a
          · rw [if_pos e5, if_pos ⟨by omega, e5.2⟩]
          · rw [if_neg e5, if_neg (fun hc => by
              by_cases e6 : a = k
              · subst e6; exact cd ⟨hc.2.1, hc.2.2.1⟩
              · exact e5 ⟨by omega, hc.2⟩)]
        · intro q j hq
          rfl
    · have ek : k = X 0 0 := by omega
      subst ek
      rw [if_pos (show nI (X 0 0) ≤ nI (X 0 0) from nI_le (by omega) (by omega)), hd, nI_add]
      exact ⟨_, rfl, fun h _ _ => by omega, mq.fr (fun q j hq => up2_n (by omega)), up2_hit rfl rfl, fun q j hp => up2_n (fun hn => hp (Or.inr (Or.inr (Or.inr hn))))⟩
/-- one day on both sides -/
theorem goOn2 {X : Cf} {E : Ev} {S T : St} (h : Re X E S T) (h0 : 0 < X 0 0) (hday : X 0 4 + 1 ≤ 999) : ∃ S' T' X', c_N_goOn S = some S' ∧ m_goesBy T = some T' ∧ Re X' E S' T' ∧ X' 0 0 = X 0 0 ∧ X' 0 4 = X 0 4 + 1 := by
  have lw := h.2.1.2.2.1
  have iv := lw.1
  have h6 := iv.1
  obtain ⟨S1, T1, r1, r2, k1, kx, k3, k4, k6, k5⟩ := keep2 h
  obtain ⟨cq, mq, _, hd, h40, h42⟩ := kx
  have ce := k3.ce
  have pl := lw.2.1
  obtain ⟨S2, r3, n1⟩ := run_ok (Or.inl rfl) iv pl h0 cq
  have mps : Mps T1 X := ⟨Or.inr ⟨pl.1, h40⟩, fun hn => absurd pl.1 hn, Or.inr ⟨pl.2, h42⟩, fun hn => absurd pl.2 hn, by rw [pl.1]; omega, by rw [pl.2]; omega⟩
  obtain ⟨T2, r4, n2⟩ := noonM_ok iv h0 mq mps
  have nc := NrC.of n1 cq (Or.inl rfl) ce.1
  have nm := NrM.of n2 mq ce.2
  obtain ⟨S3, r5, g1, g2⟩ := eat_h24 iv FU 0 S2 (by omega) (by unfold FU; omega) nc
  have st0 : ∀ h s, stP X 0 h s = X (10 + h) s := fun h s => by
    unfold stP
    rw [if_neg (fun hh => by omega)]
  have cq3 : Cq S3 33 X := nc.1.fr2 (fun q j hq => g2 q j (by unfold mealPC; omega))
  have cq3' : Cq S3 33 (vX X (X 0 4) (stP X 0)) := cq3.mk vX_ss (fun q j hq => rfl) ⟨by rw [vX_4]; exact cq3.2.2.2.2.1, fun a ha => ⟨by rw [vX_n (by omega) (by omega)]; exact (cq3.2.2.2.2.2.2.1 a ha).2.2.2.1, fun s hs => by rw [vX_s (by omega) hs, st0]; exact (cq3.2.2.2.2.2.2.1 a ha).2.2.2.2 s hs⟩, fun p hp => by rw [vX_n (by omega) (by omega)]; exact cq3.2.2.2.2.2.2.2 p hp⟩
  obtain ⟨S4, r6, vc, f6⟩ := use_h63 lw h0 FU 0 S3 (by omega) (by unfold FU; omega) cq3'
  have sm0 : ∀ h s, smS X 0 h s = X (10 + h) s := fun h s => by
    unfold smS
    rw [if_neg (fun hh => by omega)]
  have mq0 : Mq T2 (vX X (X 0 4) (smS X 0)) := by
    obtain ⟨m1, m2, m3, m4, m6, m7, m8⟩ := nm.1
    have z : ∀ a b, a < 10 → vX X (X 0 4) (smS X 0) a b = X a b := fun a b hh => by
      unfold vX
      rw [if_neg (by omega)]
      by_cases e : a = 0 ∧ b = 4
      · rw [if_pos e, e.1, e.2]
      · rw [if_neg e]
    refine ⟨by rw [z _ _ (by omega)]; exact m1, by rw [z _ _ (by omega)]; exact m2, by rw [z _ _ (by omega)]; exact m3, by rw [z _ _ (by omega)]; exact m4, fun s hs => by rw [z _ _ (by omega)]; exact m6 s hs, fun a ha => ?_, fun p hp => by rw [z _ _ (by omega)]; exact m8 p (by rw [z _ _ (by omega)] at hp; exact hp)⟩
    rw [z _ _ (by omega)] at ha
    obtain ⟨u1, u2, u3, u4, u5⟩ := m7 a ha
    exact ⟨by rw [z _ _ (by omega)]; exact u1, by rw [z _ _ (by omega)]; exact u2, by rw [z _ _ (by omega)]; exact u3, by rw [z _ _ (by omega)]; exact u4, fun s hs => by rw [vX_s (by omega) hs, sm0]; exact u5 s hs⟩
  have hd2 : T2 0 32 = nI (X 0 4) := by rw [n2.2.2 0 32 (by unfold nnM; omega)]; exact hd
  obtain ⟨T3, r7, b1, b2, b3, b4⟩ := goes_h14 lw FU 0 T2 (by omega) (by unfold FU; omega) mq0 nm.2.1 nm.2.2 hd2
  have eC : c_N_goOn S = some S4 := by
    unfold c_N_goOn
    have r5' : c_N_goOn_h24 FU (0 : Int32) S2 = c_N_goOn_h63 FU (nI 0) S3 := r5
    rw [r1, bV_some, r3, bV_some, r5', r6]
  have eM : m_goesBy T = some T3 := by
    unfold m_goesBy
    have r7' : m_goesBy_h14 FU (0 : Int32) T2 = some T3 := r7
    rw [r2, bV_some, hd, r4, bV_some, r7']
  have fS : ∀ q j, ¬ (noonP q j) → ¬ mealPC q j → ¬ (33 ≤ q ∧ q ≤ 35) → S4 q j = S1 q j := fun q j h1 h2 h3 => by
    rw [f6 q j (by omega), g2 q j (fun hn => hn.elim h2 (by omega)), n1.2.2.2 q j h1]
  have fS' : ∀ q j, kC q j → ¬ (33 ≤ q ∧ q ≤ 35) → S4 q j = S1 q j := fun q j hk h3 => fS q j (fun hn => noon_jC q j hn hk) (fun hn => meal_jC q j hn hk) h3
  have fT : ∀ q j, kM q j → q ≠ 13 → ¬ (q = 7 ∧ j % 8 < 5) → ¬ (q = 0 ∧ j = 32) → T3 q j = T1 q j := fun q j hk h1 h2 h3 => by
    rw [b4 q j (fun hn => by
      rcases hn with hn | hn | hn | hn
      · exact meal_jM q j hn hk
      · exact h1 hn.1
      · exact h2 hn
      · exact h3 hn), n2.2.2 q j (fun hn => noon_jM q j hn hk)]
  have fin : ∀ a, a < X 0 0 → ∀ s, s < 5 → smS X (X 0 0) a s = stP X (X 0 0 - 1) a s := fun a ha s hs => by
    unfold smS stP
    by_cases e : plc X a < X 0 0 - 1 ∧ dP X a ∧ s = X 7 a
    · rw [if_pos e, if_pos ⟨ha, by omega, e.2⟩]
    · rw [if_neg e, if_neg (fun hh => e ⟨by omega, hh.2.2⟩)]
  have x0 : vX X (X 0 4 + 1) (stP X (X 0 0 - 1)) 0 0 = X 0 0 := vX_n (by omega) (by omega)
  have y0 : vX X (X 0 4) (smS X (X 0 0)) 0 0 = X 0 0 := vX_n (by omega) (by omega)
  refine ⟨S4, T3, vX X (X 0 4 + 1) (stP X (X 0 0 - 1)), eC, eM, ⟨k1.fr (fun q j hq => fS' _ _ (by unfold kC; omega) (by omega)) (fun q j hq => fT _ _ (by unfold kM; omega) (by omega) (by omega) (by omega)), RX.mk ⟨cq, mq, lw, hd, h40, h42⟩ vX_ss (vX_vr lw hday (fun a ha s hs => stP_le iv _ ha hs)) (fun q j hq => fS' _ _ (by unfold kC; omega) (by omega)) vc (fun q j hq => fT _ _ (by unfold kM; omega) (by omega) (by omega) (by omega)) ⟨by rw [vX_4]; exact b3, fun a ha => ⟨?_, fun s hs => ?_⟩, fun p hp => ?_⟩, k3.fr (fun q j hq => fS' _ _ (by unfold kC; omega) (by omega)) (fun q j hq => fT _ _ (by unfold kM; omega) (by omega) (by omega) (by omega)), fun a ha => ?_, (k5 _ x0 vX_4).fr (fun q j hq => fS' _ _ (by unfold kC; omega) (by omega)) (fun q j hq => fT _ _ (by unfold kM; omega) (by omega) (by omega) (by omega)), k6.fr (fun q j hq => fS' _ _ (by unfold kC; omega) (by omega)) (fun q j hq => fT _ _ (by unfold kM; omega) (by omega) (by omega) (by omega))⟩, x0, vX_4⟩
  · rw [vX_n (by omega) (by omega)]; exact (b2.2.2.2.2.2.1 a (by omega)).2.2.2.1.trans (by rw [vX_n (by omega) (by omega)])
  · rw [vX_s (by omega) hs, ← fin a ha s hs]; exact ((b2.2.2.2.2.2.1 a (by omega)).2.2.2.2 s hs).trans (by rw [vX_s (by omega) hs])
  · rw [vX_n (by omega) (by omega)]; exact (b2.2.2.2.2.2.2 p (by omega)).trans (by rw [vX_n (by omega) (by omega)])
  · rw [x0] at ha
    rw [f6 _ _ (by omega), g1 a (by omega) ha, b1 a (by omega) ha, n1.2.2.2 _ _ (by unfold noonP; omega), n2.2.2 _ _ (by unfold nnM; omega), k4 a ha]
