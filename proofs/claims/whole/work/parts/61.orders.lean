/-! orders -/
theorem ptS_le2 {X : Cf} (h1 : X 0 1 ≤ 30) (h6 : X 0 6 ≤ 99) (hp : ∀ s, s < 5 → X 1 s ≤ 99) : ∀ (pl s : Nat), s < 6 → ptS X pl s ≤ 198 + 129 * pl
  | 0, s, hs => by
    show pt0 X s ≤ _
    unfold pt0
    by_cases h5 : s < 5
    · rw [if_pos h5]
      have := hp s h5
      split <;> omega
    · rw [if_neg h5]; omega
  | pl + 1, s, hs => by
    show stQ X pl (ptS X pl) s - tk (stQ X pl (ptS X pl)) (ladOf X pl (X 6 pl)) s + ad1 X (X 6 pl) s + ad2 X (X 6 pl) s ≤ _
    have i1 := ptS_le2 h1 h6 hp pl s hs
    have i2 := stQ_le X pl (ptS X pl) s
    have i3 : ad1 X (X 6 pl) s ≤ 30 := by
      unfold ad1
      split <;> omega
    have i4 : ad2 X (X 6 pl) s ≤ 99 := by
      unfold ad2
      split <;> omega
    omega
def NS (X : Cf) (E : Ev) (b : Nat) (S : St) : Prop := Cq S 33 X ∧ CE S E ∧ S 111 7 = nI (X 0 4) ∧ S 130 3 = nI b
def dfF (p : Nat) : Nat → Nat → Prop := fun q j => (114 + p < q ∧ q ≤ 127) ∨ mealPC q j ∨ (q = 130 ∧ (j = 4 ∨ j = 5))
theorem NS.fr {X : Cf} {E : Ev} {b p : Nat} {S S' : St} (h : NS X E b S) (hf : Fr (dfF p) S S') : NS X E b S' := by
  obtain ⟨h1, h2, h3, h4⟩ := h
  exact ⟨h1.fr2 (fun q j hq => hf q j (by unfold dfF mealPC; omega)), h2.fr (fun q j hq => hf q j (by unfold dfF mealPC; omega)), (hf _ _ (by unfold dfF mealPC; omega)).trans h3, (hf _ _ (by unfold dfF mealPC; omega)).trans h4⟩
theorem dfF.le {p q : Nat} (h : p ≤ q) : ∀ a j, dfF q a j → dfF p a j := by
  intro a j ha
  unfold dfF mealPC at *
  omega
theorem step_C {X Y : Cf} {E : Ev} {b p h : Nat} {S : St} (iv : Iv X) (plY : Pl Y) (lo : ∀ q j, q ≠ 6 → q ≠ 7 → Y q j = X q j) (ns : NS X E b S) (hp : p < X 0 0) (hh : h < X 0 0) (h6 : Y 6 p = h) (pot : ∀ s, s < 6 → S (114 + p) s = nI (ptS Y p s)) :
    ∃ S1 S2, c_Noon_serve (nI p) (nI h) S = some S1 ∧ c_Noon_mealOf (nI h) S1 = some (mlP E Y p, S2) ∧ (∀ s, s < 6 → S2 (114 + (p + 1)) s = nI (ptS Y p s - tk (ptS Y p) (ladOf Y p h) s)) ∧ NS X E b S2 ∧ Fr (dfF p) S S2 ∧ (∀ j, S2 130 j = S 130 j) := by
  obtain ⟨cq, ce, hd, h3⟩ := ns
  have hs6 := iv.1
  have hb : ∀ s, s < 6 → ptS Y p s ≤ 1200 := fun s hs => Nat.le_trans (ptS_le2 (by rw [lo _ _ (by omega) (by omega)]; exact iv.2.1) (by rw [lo _ _ (by omega) (by omega)]; exact iv.2.2.2.2.2.1) (fun s hs => by rw [lo _ _ (by omega) (by omega)]; exact iv.2.2.2.2.2.2.2.1 s hs) p s hs) (by omega)
  have hlad : S 30 h = nI (X 2 h) := (cq.2.2.2.2.2.2.1 h hh).1
  have hl9 := (iv.2.2.2.2.2.2.2.2.1 h hh).1
  obtain ⟨S1, r1, g1, g2, f1⟩ := serve_ok cq.1 hs6 hp (by omega) hlad hl9 pot hb
  have elad : (if p + 1 = X 0 0 then 2147483647 else X 2 h) = ladOf Y p h := by
    unfold ladOf
    rw [lo 0 0 (by omega) (by omega), lo 2 h (by omega) (by omega)]
  rw [elad] at g1
  have hq : ∀ q j, ¬ ((114 + p < q ∧ q ≤ 127)) → S1 q j = S q j := fun q j hq => f1 q j (by omega)
  have cq1 : Cq S1 33 X := cq.fr2 (fun q j hj => hq q j (by omega))
  have ce1 : CE S1 E := ce.fr (fun q j hj => hq q j (by omega))
  obtain ⟨⟨x, S2⟩, r2, e2, f2⟩ := mealC_ok (p := tk (ptS Y p) (ladOf Y p h)) (pl := p) iv cq1 hh (by omega) (fun s hs => (g1 s hs).1) (fun s hs => Nat.le_trans (tk_le _ _ _ hs) (hb s hs)) g2 ((hq _ _ (by omega)).trans hd) ce1
  simp only at e2 f2
  have em : mlP E Y p = x := by
    rw [e2]
    unfold mlP
    rw [gtP_pl plY (by omega), h6, ltr_lo lo]
  have f12 : Fr (dfF p) S S2 := (f1.mono (fun q j hj => by unfold dfF; omega)).tr (f2.mono (fun q j hj => by unfold dfF; exact Or.inr (Or.inl hj)))
  refine ⟨S1, S2, r1, by rw [em]; exact r2, fun s hs => ?_, NS.fr ⟨cq, ce, hd, h3⟩ f12, f12, fun j => (f2 _ _ (by unfold mealPC; omega)).trans (f1 _ _ (by omega))⟩
  rw [f2 _ _ (by unfold mealPC; omega)]
  exact (g1 s hs).2
theorem with_eq {S : St} {b : Nat} (hb : b ≤ 1) (h : S 130 3 = nI b) (x y : Int32) : c_Best_withMeal x y S = some (wop b x y, S) := by
  unfold c_Best_withMeal wop
  rw [h]
  by_cases c : b = 0
  · simp only [if_pos c]
    rw [if_pos (show nI b = (0 : Int32) by rw [c]; rfl)]
  · simp only [if_neg c]
    rw [if_neg (show ¬ nI b = (0 : Int32) from nI_nn (b := 0) c (by omega) (by omega))]
def OB (d0 : Nat) (S T : St) : Prop := (S 130 4 = -nI 1 ∧ T 0 51 = nI 0) ∨ ∃ d, S 130 4 = nI d ∧ T 0 49 = nI d ∧ T 0 51 = nI 1 ∧ S 130 5 = T 0 50 ∧ d < d0 ∧ d < 2 ^ 31
theorem OB.le {d0 d1 : Nat} {S T : St} (h : OB d0 S T) (hl : d0 ≤ d1) : OB d1 S T := by
  rcases h with h | ⟨d, h1, h2, h3, h4, h5, h6⟩
  · exact Or.inl h
  · exact Or.inr ⟨d, h1, h2, h3, h4, by omega, h6⟩
theorem OB.fr {d0 : Nat} {S T S' T' : St} (h : OB d0 S T) (hS : ∀ j, S' 130 j = S 130 j) (hT : ∀ j, 49 ≤ j → j ≤ 51 → T' 0 j = T 0 j) : OB d0 S' T' := by
  rcases h with ⟨h1, h2⟩ | ⟨d, h1, h2, h3, h4, h5, h6⟩
  · exact Or.inl ⟨(hS _).trans h1, (hT _ (by omega) (by omega)).trans h2⟩
  · exact Or.inr ⟨d, (hS _).trans h1, (hT _ (by omega) (by omega)).trans h2, (hT _ (by omega) (by omega)).trans h3, by rw [hS, hT _ (by omega) (by omega)]; exact h4, h5, h6⟩
def b45 : Nat → Nat → Prop := fun q j => q = 130 ∧ (j = 4 ∨ j = 5)
def b49 : Nat → Nat → Prop := fun q j => q = 0 ∧ 49 ≤ j ∧ j ≤ 51
theorem consider_ls {S T : St} {x : Int32} {D : Nat} (h : OB D S T) (hD : D < 2 ^ 31) : ∃ S' T', c_Best_consider x (nI D) S = some S' ∧ m_offers (nI D) x T = some T' ∧ OB (D + 1) S' T' ∧ S' 130 4 ≠ -nI 1 ∧ Fr b45 S S' ∧ Fr b49 T T' := by
  have hset : ∀ S : St, c_Best_consider_b32 x (nI D) S = some (up2 (up2 S 130 5 x) 130 4 (nI D)) := fun S => by
    unfold c_Best_consider_b32
    rw [bnd_eq, bnd_eq]
  have fS : Fr b45 S (up2 (up2 S 130 5 x) 130 4 (nI D)) := (Fr.rfl.up (by unfold b45; omega)).up (by unfold b45; omega)
  have fT : Fr b49 T (up2 (up2 (up2 T 0 51 (nI 1)) 0 49 (nI D)) 0 50 x) := ((Fr.rfl.up (by unfold b49; omega)).up (by unfold b49; omega)).up (by unfold b49; omega)
  have nn : ∀ d, d < 2 ^ 31 → nI d ≠ -nI 1 := fun d hd e => (nI_nneg hd).mp e
  have ob : OB (D + 1) (up2 (up2 S 130 5 x) 130 4 (nI D)) (up2 (up2 (up2 T 0 51 (nI 1)) 0 49 (nI D)) 0 50 x) := Or.inr ⟨D, up2_hit rfl rfl, by rw [up2_k (by omega), up2_hit rfl rfl], by rw [up2_k (by omega), up2_k (by omega), up2_hit rfl rfl], by rw [up2_k (by omega), up2_hit rfl rfl, up2_hit rfl rfl], by omega, hD⟩
  unfold c_Best_consider
  rcases h with ⟨h1, h2⟩ | ⟨d, h1, h2, h3, h4, h5, h6⟩
  · rw [if_pos (show S 130 4 = (-1 : Int32) from h1), hset, offers_0 _ _ h2]
    exact ⟨_, _, rfl, rfl, ob, by rw [up2_hit rfl rfl]; exact nn D hD, fS, fT⟩
  · rw [if_neg (show ¬ S 130 4 = (-1 : Int32) by rw [h1]; exact nn d h6), offers_1 _ _ h3, h4, h1]
    by_cases c : T 0 50 < x
    · rw [if_pos c, if_pos c, hset]
      exact ⟨_, _, rfl, rfl, ob, by rw [up2_hit rfl rfl]; exact nn D hD, fS, fT⟩
    · rw [if_neg c, if_neg c]
      have keep : (if x = T 0 50 then (if nI d ≤ nI D then some S else c_Best_consider_b32 x (nI D) S) else some S) = some S := by
        by_cases c2 : x = T 0 50
        · rw [if_pos c2, if_pos (show nI d ≤ nI D from nI_le (by omega) hD)]
        · rw [if_neg c2]
      rw [keep]
      exact ⟨_, _, rfl, rfl, Or.inr ⟨d, h1, h2, h3, h4, by omega, h6⟩, by rw [h1]; exact nn d h6, Fr.rfl, Fr.rfl⟩
section ORDERS
variable {X : Cf} {E : Ev} {S0 T0 : St} {b : Nat}
def TK (T0 T : St) : Prop := Kp T0 T ∧ ∀ j, j < 6 → T 12 j = T0 12 j
theorem TK.fr {T T' : St} (h : TK T0 T) (hf : Fr (fun q j => jM q j ∨ (q = 11 ∧ j < 6)) T T') (h22 : ∀ j, T' 22 j = T 22 j ∧ T' 23 j = T 23 j) : TK T0 T' := by
  refine ⟨h.1.fr (hf.mono (fun q j hq => ?_)) h22, fun j hj => ?_⟩
  · rcases hq with hq | hq
    · exact Or.inl hq
    · exact Or.inr ⟨Or.inl hq.1, hq.2⟩
  · rw [hf 12 j (by unfold jM kM; omega)]; exact h.2 j hj
theorem lnX_o (X : Cf) (f : Nat → Nat) : ∀ q j, q ≠ 6 → lnX X f q j = X q j := fun q j hq => if_neg (fun e => hq e.1)
theorem lnX_6 (X : Cf) (f : Nat → Nat) {j : Nat} (hj : j < X 0 0) : lnX X f 6 j = f j := if_pos ⟨rfl, hj⟩
theorem lnX_iv {f : Nat → Nat} (iv : Iv X) (h1 : ∀ p, p < X 0 0 → f p < X 0 0) (h2 : ∀ p q, p < X 0 0 → q < X 0 0 → f p = f q → p = q) : Iv (lnX X f) := by
  obtain ⟨i1, i2, i3, i4, i5, i6, i7, i8, i9, i10, i11⟩ := iv
  have z := lnX_o X f
  refine ⟨by rw [z _ _ (by omega)]; exact i1, by rw [z _ _ (by omega)]; exact i2, by rw [z _ _ (by omega)]; exact i3, by rw [z _ _ (by omega)]; exact i4, by rw [z _ _ (by omega)]; exact i5, by rw [z _ _ (by omega)]; exact i6, by rw [z _ _ (by omega)]; exact i7, fun s hs => by rw [z _ _ (by omega)]; exact i8 s hs, fun a ha => ?_, ?_, ?_⟩
  · rw [z _ _ (by omega)] at ha
    obtain ⟨j1, j2, j3, j4, j5⟩ := i9 a ha
    exact ⟨by rw [z _ _ (by omega)]; exact j1, by rw [z _ _ (by omega)]; exact j2, by rw [z _ _ (by omega)]; exact j3, by rw [z _ _ (by omega)]; exact j4, fun s hs => by rw [z _ _ (by omega)]; exact j5 s hs⟩
  · intro a ha
    rw [z 0 0 (by omega)] at ha ⊢
    rw [lnX_6 X f ha]; exact h1 a ha
  · intro a c ha hc e
    rw [z 0 0 (by omega)] at ha hc
    rw [lnX_6 X f ha, lnX_6 X f hc] at e
    exact h2 a c ha hc e
theorem leaf_O (h : Re X E S0 T0) (h0 : 0 < X 0 0) (hb : b ≤ 1) {f : Nat → Nat} {T : St} {mask row : Int32} {rec : Int32 → Int32 → Int32 → Int32 → St → Option St} (tk0 : TK T0 T) (hf1 : ∀ p, p < X 0 0 → f p < X 0 0) (hf2 : ∀ p q, p < X 0 0 → q < X 0 0 → f p = f q → p = q) (h11 : ∀ j, j < X 0 0 → T 11 j = nI (f j)) :
    ∃ T2, m_goOrders rec (nI (X 0 0)) mask row (nI b) T = bV (m_offers row (allE E (lnX X f) b) T2) (fun S4 => some S4) ∧ Fr (fun q j => nnM q j ∨ mealPM q j) T T2 := by
  obtain ⟨q1, ⟨cq0, mq0, ⟨iv, pl, lw⟩, hd, h40, h42⟩, q3, q4⟩ := h
  have h6 := iv.1
  obtain ⟨ce0, me0⟩ := q3.ce
  have z := lnX_o X f
  have ivY := lnX_iv iv hf1 hf2
  have y : ∀ q j, kM q j → q ≠ 11 → q ≠ 12 → T q j = T0 q j := fun q j hk h1 h2 => tk0.1.2 q j (fun hn => by
    rcases hn with hn | hn
    · exact hn hk
    · omega)
  have mqY : Mq T (lnX X f) := by
    obtain ⟨m1, m2, m3, m4, m6, m7, m8⟩ := mq0
    refine ⟨by rw [z _ _ (by omega), y _ _ (by unfold kM; omega) (by omega) (by omega)]; exact m1, by rw [z _ _ (by omega), y _ _ (by unfold kM; omega) (by omega) (by omega)]; exact m2, by rw [z _ _ (by omega), y _ _ (by unfold kM; omega) (by omega) (by omega)]; exact m3, by rw [z _ _ (by omega), y _ _ (by unfold kM; omega) (by omega) (by omega)]; exact m4, fun s hs => by rw [z _ _ (by omega), y _ _ (by unfold kM; omega) (by omega) (by omega)]; exact m6 s hs, fun a ha => ?_, fun p hp => ?_⟩
    · rw [z _ _ (by omega)] at ha
      obtain ⟨u1, u2, u3, u4, u5⟩ := m7 a ha
      exact ⟨by rw [z _ _ (by omega), y _ _ (by unfold kM; omega) (by omega) (by omega)]; exact u1, by rw [z _ _ (by omega), y _ _ (by unfold kM; omega) (by omega) (by omega)]; exact u2, by rw [z _ _ (by omega), y _ _ (by unfold kM; omega) (by omega) (by omega)]; exact u3, by rw [z _ _ (by omega), tk0.2 a (by omega)]; exact u4, fun s hs => by rw [z _ _ (by omega), y _ _ (by unfold kM; omega) (by omega) (by omega)]; exact u5 s hs⟩
    · rw [z _ _ (by omega)] at hp
      rw [lnX_6 X f hp]; exact h11 p hp
  have plY : Pl (lnX X f) := ⟨(z 0 5 (by omega)).trans pl.1, (z 0 7 (by omega)).trans pl.2⟩
  have mps : Mps T (lnX X f) := ⟨Or.inr ⟨plY.1, by rw [y _ _ (by unfold kM; omega) (by omega) (by omega)]; exact h40⟩, fun hn => absurd plY.1 hn, Or.inr ⟨plY.2, by rw [y _ _ (by unfold kM; omega) (by omega) (by omega)]; exact h42⟩, fun hn => absurd plY.2 hn, by rw [plY.1]; omega, by rw [plY.2]; omega⟩
  have meT : ME T E := me0.fr (fun q j hq => y q j (by unfold kM; omega) (by omega) (by omega))
  have x0 := z 0 0 (by omega)
  have x4 := z 0 4 (by omega)
  have hT : T 0 32 = nI (lnX X f 0 4) := by rw [x4, y _ _ (by unfold kM; omega) (by omega) (by omega)]; exact hd
  have hT24 : T 0 24 = nI (X 0 0) := by rw [y _ _ (by unfold kM; omega) (by omega) (by omega)]; exact mq0.1
  generalize lnX X f = Y at *
  obtain ⟨T1, r1, n1⟩ := noonM_ok ivY (by omega) mqY mps
  have nm := NrM.of n1 mqY meT
  obtain ⟨⟨v, T2⟩, r2, p1, p2⟩ := allMeals_ok hb ivY (by omega) nm
  simp only at p1 p2
  subst p1
  have hT1 : T1 0 32 = nI (Y 0 4) := by rw [n1.2.2 0 32 (by unfold nnM; omega)]; exact hT
  refine ⟨T2, ?_, (n1.2.2.mono (fun q j hq => Or.inl hq)).tr (p2.mono (fun q j hq => Or.inr hq))⟩
  unfold m_goOrders
  rw [hT24, if_pos rfl, hT, r1, bV_some, hT1, r2, bI_some]
end ORDERS
