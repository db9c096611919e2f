/-! WHAT HOLDS BETWEEN THE TWO SIDES BETWEEN CALLS -/
def RT (S T : St) : Prop := ∃ b L, Txt b L ∧ PT b L S ∧ T 0 6 = nI L ∧ ∀ k, k < L → T 1 k = sb (b k)
def BdE (E : Ev) : Prop := ∀ lt : Nat → Nat, (∀ k, k < 6 → lt k ≤ 10000) → -2000000 ≤ (E lt).toInt ∧ (E lt).toInt ≤ 2000000
def Lw (X : Cf) : Prop := Iv X ∧ Pl X ∧ X 0 4 ≤ 999 ∧ (X 0 0 = 0 → X 0 1 = 0 ∧ X 0 2 = 0 ∧ X 0 3 = 0) ∧ (0 < X 0 0 → 0 < X 0 1)
def RX (X : Cf) (S T : St) : Prop := Cq S 33 X ∧ Mq T X ∧ Lw X ∧ T 0 32 = nI (X 0 4) ∧ T 0 40 = -nI 1 ∧ T 0 42 = -nI 1
def RH (n : Nat) (E : Ev) (S T : St) : Prop := (S 0 5 = -nI 1 ∧ S 111 6 = -nI 1 ∧ T 0 31 = -nI 1 ∧ E = plainE) ∨ ∃ j, j < n ∧ S 0 5 = nI j ∧ S 111 6 = nI j ∧ T 0 31 = nI j ∧ LkC S j E ∧ LkM T j E ∧ BdE E
def RLk (E : Ev) (S T : St) : Prop := ∃ n, n ≤ 4 ∧ S 0 4 = nI n ∧ T 0 7 = nI n ∧ (∀ j, j < n → ∃ E', LkC S j E' ∧ LkM T j E' ∧ BdE E') ∧ RH n E S T
def RE (X : Cf) (S T : St) : Prop := ∀ h, h < X 0 0 → S 35 h = T 13 h
def ri (nx u i : Nat) : Nat := (nx + 30 - u + i) % 30
def RUe (X : Cf) (S T : St) (r i : Nat) : Prop := ∀ h, h < X 0 0 → (∀ s, s < 5 → ∃ v, v ≤ 99 ∧ S (51 + r) (5 * h + s) = nI v ∧ T 20 (30 * i + 5 * h + s) = nI v) ∧ S (81 + r) h = T 21 (6 * i + h)
def RU (X : Cf) (S T : St) : Prop := ∃ u nx, u ≤ 30 ∧ nx ≤ 30 ∧ u ≤ X 0 4 ∧ S 48 2 = nI u ∧ S 48 3 = nI nx ∧ T 0 46 = nI u ∧ ∀ i, i < u → RUe X S T (ri nx u i) i
def Mk (T : St) (X : Cf) : Prop := T 0 24 = nI (X 0 0) ∧ T 9 0 = nI (X 0 1) ∧ T 9 1 = nI (X 0 2) ∧ T 9 2 = nI (X 0 3) ∧ (∀ s, s < 5 → T 5 s = nI (X 1 s)) ∧ (∀ h, h < X 0 0 → T 25 (8 * h + 5) = nI (X 2 h) ∧ T 25 (8 * h + 6) = nI (X 3 h) ∧ T 25 (8 * h + 7) = nI (X 4 h) ∧ T 28 h = nI (X 7 h) ∧ ∀ s, s < 5 → T 25 (8 * h + s) = nI (X (10 + h) s)) ∧ (∀ p, p < X 0 0 → T 27 p = nI (X 6 p))
def RI (S T : St) : Prop := (S 0 10 = nI 0 ∧ T 0 58 = nI 0) ∨ (S 0 10 = nI 1 ∧ T 0 58 = nI 1 ∧ ∃ Y, Lw Y ∧ 0 < Y 0 0 ∧ Cq S 43 Y ∧ Mk T Y ∧ T 0 57 = nI (Y 0 4) ∧ ∀ h, h < Y 0 0 → S 45 h = T 26 h)
def Re (X : Cf) (E : Ev) (S T : St) : Prop := RT S T ∧ RX X S T ∧ RLk E S T ∧ RE X S T ∧ RU X S T ∧ RI S T
def Rel (S T : St) : Prop := ∃ X E, Re X E S T
theorem RT.fr {S T S' T' : St} (h : RT S T) (hS : ∀ q j, (q = 1 ∧ j = 1) ∨ q = 2 → S' q j = S q j) (hT : ∀ q j, (q = 0 ∧ j = 6) ∨ q = 1 → T' q j = T q j) : RT S' T' := by
  obtain ⟨b, L, t, pt, h1, h2⟩ := h
  exact ⟨b, L, t, ⟨(hS _ _ (by omega)).trans pt.1, fun k hk => (hS _ _ (by omega)).trans (pt.2 k hk)⟩, (hT _ _ (by omega)).trans h1, fun k hk => (hT _ _ (by omega)).trans (h2 k hk)⟩
theorem Cq.fr2 {S S' : St} {o : Nat} {X : Cf} (h : Cq S o X) (hS : ∀ q j, (28 ≤ q ∧ q ≤ 32) ∨ (q = o ∧ j = 0) ∨ q = o + 1 ∨ q = o + 3 ∨ q = o + 4 → S' q j = S q j) : Cq S' o X := by
  obtain ⟨h1, h2, h3, h4, h5, h6, h7, h8⟩ := h
  refine ⟨(hS _ _ (by omega)).trans h1, (hS _ _ (by omega)).trans h2, (hS _ _ (by omega)).trans h3, (hS _ _ (by omega)).trans h4, (hS _ _ (by omega)).trans h5, fun s hs => (hS _ _ (by omega)).trans (h6 s hs), fun a ha => ?_, fun p hp => (hS _ _ (by omega)).trans (h8 p hp)⟩
  obtain ⟨g1, g2, g3, g4, g5⟩ := h7 a ha
  exact ⟨(hS _ _ (by omega)).trans g1, (hS _ _ (by omega)).trans g2, (hS _ _ (by omega)).trans g3, (hS _ _ (by omega)).trans g4, fun s hs => (hS _ _ (by omega)).trans (g5 s hs)⟩
theorem RX.fr {X : Cf} {S T S' T' : St} (h : RX X S T) (hS : ∀ q j, 28 ≤ q ∧ q ≤ 37 → S' q j = S q j) (hT : ∀ q j, (q = 0 ∧ (j = 24 ∨ j = 32 ∨ j = 40 ∨ j = 42)) ∨ q = 5 ∨ q = 7 ∨ q = 9 ∨ q = 11 ∨ q = 12 → T' q j = T q j) : RX X S' T' := by
  obtain ⟨h1, h2, h3, h4, h5, h6⟩ := h
  exact ⟨h1.fr2 (fun q j hq => hS q j (by omega)), h2.fr (fun q j hq => hT q j (by omega)), h3, (hT _ _ (by omega)).trans h4, (hT _ _ (by omega)).trans h5, (hT _ _ (by omega)).trans h6⟩
theorem RH.fr {n : Nat} {E : Ev} {S T S' T' : St} (h : RH n E S T) (hn : n ≤ 4) (hS : ∀ q j, (q = 0 ∧ j = 5) ∨ (16 ≤ q ∧ q ≤ 23) ∨ (q = 111 ∧ j = 6) → S' q j = S q j) (hT : ∀ q j, (q = 0 ∧ j = 31) ∨ q = 2 ∨ q = 3 → T' q j = T q j) : RH n E S' T' := by
  rcases h with ⟨h1, h2, h3, h4⟩ | ⟨j, h0, h1, h2, h3, h4, h5, h6⟩
  · exact Or.inl ⟨(hS _ _ (by omega)).trans h1, (hS _ _ (by omega)).trans h2, (hT _ _ (by omega)).trans h3, h4⟩
  · exact Or.inr ⟨j, h0, (hS _ _ (by omega)).trans h1, (hS _ _ (by omega)).trans h2, (hT _ _ (by omega)).trans h3, h4.fr (fun q k hq1 hq2 => hS _ _ (by omega)) (by omega), h5.fr (fun q k hq => hT _ _ (by omega)), h6⟩
theorem RLk.fr {E : Ev} {S T S' T' : St} (h : RLk E S T) (hS : ∀ q j, (q = 0 ∧ (j = 4 ∨ j = 5)) ∨ (16 ≤ q ∧ q ≤ 23) ∨ (q = 111 ∧ j = 6) → S' q j = S q j) (hT : ∀ q j, (q = 0 ∧ (j = 7 ∨ j = 31)) ∨ q = 2 ∨ q = 3 → T' q j = T q j) : RLk E S' T' := by
  obtain ⟨n, hn, h1, h2, h3, h4⟩ := h
  refine ⟨n, hn, (hS _ _ (by omega)).trans h1, (hT _ _ (by omega)).trans h2, fun j hj => ?_, h4.fr hn (fun q j hq => hS _ _ (by omega)) (fun q j hq => hT _ _ (by omega))⟩
  obtain ⟨E', e1, e2, e3⟩ := h3 j hj
  exact ⟨E', e1.fr (fun q k hq1 hq2 => hS _ _ (by omega)) (by omega), e2.fr (fun q k hq => hT _ _ (by omega)), e3⟩
theorem RE.fr {X : Cf} {S T S' T' : St} (h : RE X S T) (hS : ∀ j, S' 35 j = S 35 j) (hT : ∀ j, T' 13 j = T 13 j) : RE X S' T' := fun a ha => (hS a).trans ((h a ha).trans (hT a).symm)
theorem RUe.fr {X : Cf} {S T S' T' : St} {r i : Nat} (h : RUe X S T r i) (hr : r < 30) (hS : ∀ q j, 51 ≤ q ∧ q ≤ 110 → S' q j = S q j) (hT : ∀ q j, q = 20 ∨ q = 21 → T' q j = T q j) : RUe X S' T' r i := fun a ha => by
  obtain ⟨h1, h2⟩ := h a ha
  refine ⟨fun s hs => ?_, ?_⟩
  · obtain ⟨v, v1, v2, v3⟩ := h1 s hs
    exact ⟨v, v1, (hS _ _ (by omega)).trans v2, (hT _ _ (by omega)).trans v3⟩
  · rw [hS _ _ (by omega), hT _ _ (by omega)]; exact h2
theorem ri_lt (nx u i : Nat) : ri nx u i < 30 := Nat.mod_lt _ (by omega)
theorem RU.fr {X : Cf} {S T S' T' : St} (h : RU X S T) (hS : ∀ q j, (q = 48 ∧ (j = 2 ∨ j = 3)) ∨ (51 ≤ q ∧ q ≤ 110) → S' q j = S q j) (hT : ∀ q j, (q = 0 ∧ j = 46) ∨ q = 20 ∨ q = 21 → T' q j = T q j) : RU X S' T' := by
  obtain ⟨u, nx, h1, h2, h3, h4, h5, h6, h7⟩ := h
  exact ⟨u, nx, h1, h2, h3, (hS _ _ (by omega)).trans h4, (hS _ _ (by omega)).trans h5, (hT _ _ (by omega)).trans h6, fun i hi => (h7 i hi).fr (ri_lt _ _ _) (fun q j hq => hS _ _ (by omega)) (fun q j hq => hT _ _ (by omega))⟩
theorem Mk.fr {T T' : St} {X : Cf} (h : Mk T X) (hT : ∀ q j, (q = 0 ∧ j = 24) ∨ q = 5 ∨ q = 9 ∨ q = 25 ∨ q = 27 ∨ q = 28 → T' q j = T q j) : Mk T' X := by
  obtain ⟨h1, h2, h3, h4, h6, h7, h8⟩ := h
  refine ⟨(hT _ _ (by omega)).trans h1, (hT _ _ (by omega)).trans h2, (hT _ _ (by omega)).trans h3, (hT _ _ (by omega)).trans h4, fun s hs => (hT _ _ (by omega)).trans (h6 s hs), fun a ha => ?_, fun p hp => (hT _ _ (by omega)).trans (h8 p hp)⟩
  obtain ⟨g1, g2, g3, g4, g5⟩ := h7 a ha
  exact ⟨(hT _ _ (by omega)).trans g1, (hT _ _ (by omega)).trans g2, (hT _ _ (by omega)).trans g3, (hT _ _ (by omega)).trans g4, fun s hs => (hT _ _ (by omega)).trans (g5 s hs)⟩
theorem RI.fr {S T S' T' : St} (h : RI S T) (hS : ∀ q j, (q = 0 ∧ j = 10) ∨ (28 ≤ q ∧ q ≤ 32) ∨ (43 ≤ q ∧ q ≤ 47) → S' q j = S q j) (hT : ∀ q j, (q = 0 ∧ (j = 24 ∨ j = 57 ∨ j = 58)) ∨ q = 5 ∨ q = 9 ∨ (25 ≤ q ∧ q ≤ 28) → T' q j = T q j) : RI S' T' := by
  rcases h with ⟨h1, h2⟩ | ⟨h1, h2, Y, y1, y2, y3, y4, y5, y6⟩
  · exact Or.inl ⟨(hS _ _ (by omega)).trans h1, (hT _ _ (by omega)).trans h2⟩
  · exact Or.inr ⟨(hS _ _ (by omega)).trans h1, (hT _ _ (by omega)).trans h2, Y, y1, y2, y3.fr2 (fun q j hq => hS _ _ (by omega)), y4.fr (fun q j hq => hT _ _ (by omega)), (hT _ _ (by omega)).trans y5, fun a ha => by rw [hS _ _ (by omega), hT _ _ (by omega)]; exact y6 a ha⟩
def kC : Nat → Nat → Prop := fun q j => (q = 0 ∧ (j = 4 ∨ j = 5 ∨ j = 10)) ∨ (q = 1 ∧ j = 1) ∨ q = 2 ∨ (16 ≤ q ∧ q ≤ 23) ∨ (28 ≤ q ∧ q ≤ 37) ∨ (43 ≤ q ∧ q ≤ 110) ∨ (q = 111 ∧ j = 6)
def kM : Nat → Nat → Prop := fun q j => (q = 0 ∧ (j = 6 ∨ j = 7 ∨ j = 24 ∨ j = 31 ∨ j = 32 ∨ j = 40 ∨ j = 42 ∨ j = 46 ∨ j = 57 ∨ j = 58)) ∨ q = 1 ∨ q = 2 ∨ q = 3 ∨ q = 5 ∨ q = 7 ∨ q = 9 ∨ q = 11 ∨ q = 12 ∨ q = 13 ∨ q = 20 ∨ q = 21 ∨ (25 ≤ q ∧ q ≤ 28)
theorem Re.fr {X : Cf} {E : Ev} {S T S' T' : St} (h : Re X E S T) (hS : ∀ q j, kC q j → S' q j = S q j) (hT : ∀ q j, kM q j → T' q j = T q j) : Re X E S' T' := by
  unfold kC at hS
  unfold kM at hT
  obtain ⟨h1, h2, h3, h4, h5, h6⟩ := h
  exact ⟨h1.fr (fun q j hq => hS _ _ (by omega)) (fun q j hq => hT _ _ (by omega)), h2.fr (fun q j hq => hS _ _ (by omega)) (fun q j hq => hT _ _ (by omega)), h3.fr (fun q j hq => hS _ _ (by omega)) (fun q j hq => hT _ _ (by omega)), h4.fr (fun j => hS _ _ (by omega)) (fun j => hT _ _ (by omega)), h5.fr (fun q j hq => hS _ _ (by omega)) (fun q j hq => hT _ _ (by omega)), h6.fr (fun q j hq => hS _ _ (by omega)) (fun q j hq => hT _ _ (by omega))⟩
/-- cells that nobody asks between calls -/
def jC : Nat → Nat → Prop := fun q j => ¬ kC q j
def jM : Nat → Nat → Prop := fun q j => ¬ kM q j
theorem Re.go {X : Cf} {E : Ev} {S T S' T' : St} (h : Re X E S T) (hS : Fr jC S S') (hT : Fr jM T T') : Re X E S' T' := h.fr (fun q j hq => hS q j (fun hn => hn hq)) (fun q j hq => hT q j (fun hn => hn hq))
theorem Re.z {X : Cf} {E : Ev} {S T : St} (h : Re X E S T) (x : Int32) : Re X E S (up2 T 0 0 x) := h.go Fr.rfl (Fr.rfl.up (by unfold jM kM; omega))
theorem noon_jC : ∀ q j, noonP q j → jC q j := by
  intro q j h
  unfold noonP at h
  unfold jC kC
  omega
theorem meal_jC : ∀ q j, mealPC q j → jC q j := by
  intro q j h
  unfold mealPC at h
  unfold jC kC
  omega
theorem noon_jM : ∀ q j, nnM q j → jM q j := by
  intro q j h
  unfold nnM at h
  unfold jM kM
  omega
theorem meal_jM : ∀ q j, mealPM q j → jM q j := by
  intro q j h
  unfold mealPM goP at h
  unfold jM kM
  omega
theorem RH.ce {n : Nat} {E : Ev} {S T : St} (h : RH n E S T) (hn : n ≤ 4) : CE S E ∧ ME T E := by
  rcases h with ⟨h1, h2, h3, h4⟩ | ⟨j, h0, h1, h2, h3, h4, h5, h6⟩
  · exact ⟨Or.inl ⟨h2, h4⟩, Or.inl ⟨h3, h4⟩⟩
  · exact ⟨Or.inr ⟨j, by omega, h2, h4⟩, Or.inr ⟨j, by omega, h3, h5⟩⟩
theorem RLk.ce {E : Ev} {S T : St} (h : RLk E S T) : CE S E ∧ ME T E := by
  obtain ⟨n, hn, _, _, _, h⟩ := h
  exact h.ce hn
theorem plain_bd : BdE plainE := by
  intro lt h
  have h0 := h 0 (by omega)
  have h1 := h 1 (by omega)
  have h2 := h 2 (by omega)
  unfold plainE
  rw [pk_mul, nI_add, pk_sub_toInt (by omega) (by omega)]
  omega
theorem RH.bd {n : Nat} {E : Ev} {S T : St} (h : RH n E S T) : BdE E := by
  rcases h with ⟨_, _, _, h4⟩ | ⟨j, _, _, _, _, _, _, h6⟩
  · rw [h4]; exact plain_bd
  · exact h6
theorem RLk.bd {E : Ev} {S T : St} (h : RLk E S T) : BdE E := by
  obtain ⟨n, hn, _, _, _, h⟩ := h
  exact h.bd
theorem meal_bd {X : Cf} {E : Ev} (iv : Iv X) (hb : BdE E) {h : Nat} (hh : h < X 0 0) : -2000000 ≤ (mealH E X h).toInt ∧ (mealH E X h).toInt ≤ 2000000 := by
  obtain ⟨h1, h2⟩ := plc_spec iv hh
  have h6 := iv.1
  unfold mealH
  exact hb _ (ltr_le iv (fun s hs => Nat.le_trans (gtP_le iv _ s hs) (by omega)) (by omega) hh)
/-- one noon on both sides -/
theorem run2 {X : Cf} {E : Ev} {S T : St} (h : Re X E S T) (h0 : 0 < X 0 0) : ∃ S1 T1, c_Noon_run 33 S = some S1 ∧ m_noon (T 0 32) T = some T1 ∧ NoonOk X S S1 ∧ NoonMOk X T T1 ∧ NrC S1 33 X E ∧ NrM T1 X E ∧ Re X E S1 T1 := by
  obtain ⟨q1, ⟨cq, mq, ⟨iv, pl, _⟩, hd, h40, h42⟩, q3, q4⟩ := h
  have ce := q3.ce
  obtain ⟨S1, e1, n1⟩ := run_ok (Or.inl rfl) iv pl h0 cq
  have mps : Mps T X := ⟨Or.inr ⟨pl.1, h40⟩, fun hn => absurd pl.1 hn, Or.inr ⟨pl.2, h42⟩, fun hn => absurd pl.2 hn, by rw [pl.1]; omega, by rw [pl.2]; omega⟩
  obtain ⟨T1, e2, n2⟩ := noonM_ok iv h0 mq mps
  rw [hd]
  exact ⟨S1, T1, e1, e2, n1, n2, NrC.of n1 cq (Or.inl rfl) ce.1, NrM.of n2 mq ce.2, Re.go ⟨q1, ⟨cq, mq, ⟨iv, pl, by assumption⟩, hd, h40, h42⟩, q3, q4⟩ (n1.2.2.2.mono noon_jC) (n2.2.2.mono noon_jM)⟩
theorem house2 {X : Cf} {E : Ev} {S T : St} (h : Re X E S T) (v : Int32) : (∃ k, k < X 0 0 ∧ k < 6 ∧ v = nI k ∧ c_N_isHouse v S = some (nI 1, S) ∧ m_isHouse v T = some (nI 1, T)) ∨ (c_N_isHouse v S = some (nI 0, S) ∧ m_isHouse v T = some (nI 0, T)) := by
  obtain ⟨_, ⟨cq, mq, ⟨iv, _⟩, _⟩, _⟩ := h
  have h6 := iv.1
  unfold c_N_isHouse m_isHouse
  rw [cq.1, mq.1]
  rcases pk_ix v (n := X 0 0) (by omega) with h | h | ⟨k, h, e⟩
  · right
    rw [if_pos h, if_pos h, nz_0, nz_0]
    exact ⟨rfl, rfl⟩
  · right
    by_cases hv : v < 0
    · rw [if_pos hv, if_pos hv, nz_0, nz_0]
      exact ⟨rfl, rfl⟩
    · rw [if_neg hv, if_neg hv, if_pos h, if_pos h, nz_0, nz_0]
      exact ⟨rfl, rfl⟩
  · left
    subst e
    refine ⟨k, h, by omega, rfl, ?_⟩
    have hn : ¬ nI k < (0 : Int32) := nI_pos (by omega)
    have hn2 : ¬ nI (X 0 0) ≤ nI k := nI_ge h (by omega)
    rw [if_neg hn, if_neg hn, if_neg hn2, if_neg hn2, nz_1, nz_1]
    exact ⟨rfl, rfl⟩
theorem lits64 : (0 : Int64) = lN 0 ∧ (1 : Int64) = lN 1 ∧ (9 : Int64) = lN 9 ∧ (30 : Int64) = lN 30 ∧ (99 : Int64) = lN 99 := ⟨rfl, rfl, rfl, rfl, rfl⟩
theorem nzI0 {ρ : Type} (M : Option ρ) : nzM (nI 0) M = M := nz_0 M
theorem nzI1 {ρ : Type} (M : Option ρ) : nzM (nI 1) M = M := nz_1 M
theorem within2 (v : Int32) {l h : Nat} (hl : l < 2 ^ 31) (hh : h < 2 ^ 31) (S T : St) : (∃ k, l ≤ k ∧ k ≤ h ∧ v = nI k ∧ c_N_isWithin v (nI l) (nI h) S = some (nI 1, S) ∧ m_isIn v.toInt64 (lN l) (lN h) T = some (nI 1, T)) ∨ (c_N_isWithin v (nI l) (nI h) S = some (nI 0, S) ∧ m_isIn v.toInt64 (lN l) (lN h) T = some (nI 0, T) ∧ ∀ k, l ≤ k → k ≤ h → v ≠ nI k) := by
  by_cases hv : v < 0
  · right
    have hi : v.toInt < 0 := by
      have := Int32.lt_iff_toInt_lt.mp hv
      exact this
    refine ⟨?_, ?_, fun k h1 h2 e => ?_⟩
    · unfold c_N_isWithin
      rw [if_pos (show v < nI l by rw [Int32.lt_iff_toInt_lt, nI_toInt hl]; omega)]
      exact nz_0 _
    · unfold m_isIn
      simp only [lg_cmp_lt, lg_cmp_gt]
      rw [if_pos (show v.toInt64 < lN l by rw [Int64.lt_iff_toInt_lt, Int32.toInt_toInt64, lN_toInt hl]; omega)]
      exact nz_0 _
    · rw [e, nI_toInt (by omega)] at hi; omega
  · obtain ⟨k, hk, rfl⟩ := nI_of hv
    rw [← nI_l hl, ← nI_l hh, withinC hk hl hh, isInM hk hl hh]
    by_cases hc : l ≤ k ∧ k ≤ h
    · left
      rw [if_pos hc]
      exact ⟨k, hc.1, hc.2, rfl, rfl, rfl⟩
    · right
      rw [if_neg hc]
      refine ⟨rfl, rfl, fun k' h1 h2 e => hc ?_⟩
      rw [nI_eqE hk (by omega)] at e
      omega
theorem choice2 (v : Int32) (S T : St) : (∃ k, k ≤ 1 ∧ v = nI k ∧ c_N_isChoice v S = some (nI 1, S) ∧ m_isIn v.toInt64 (lN 0) (lN 1) T = some (nI 1, T)) ∨ (c_N_isChoice v S = some (nI 0, S) ∧ m_isIn v.toInt64 (lN 0) (lN 1) T = some (nI 0, T)) := by
  rcases within2 v (l := 0) (h := 1) (by omega) (by omega) S T with ⟨k, h1, h2, e, _, e2⟩ | ⟨_, e2, hn⟩
  · left
    refine ⟨k, h2, e, ?_, e2⟩
    subst e
    unfold c_N_isChoice
    by_cases h0 : k = 0
    · subst h0
      rw [if_pos (show nI 0 = (0 : Int32) from rfl)]; exact nz_1 _
    · have h1 : k = 1 := by omega
      subst h1
      rw [if_neg (show ¬ nI 1 = (0 : Int32) by decide), if_pos (show nI 1 = (1 : Int32) from rfl)]; exact nz_1 _
  · right
    refine ⟨?_, e2⟩
    unfold c_N_isChoice
    rw [if_neg (show ¬ v = (0 : Int32) from fun e => hn 0 (by omega) (by omega) e), if_neg (show ¬ v = (1 : Int32) from fun e => hn 1 (by omega) (by omega) e)]
    exact nz_0 _
theorem stuff2 (v : Int32) (S T : St) : (∃ k, k < 5 ∧ v = nI k ∧ c_N_isStuff v S = some (nI 1, S) ∧ m_isStuff v T = some (nI 1, T)) ∨ (c_N_isStuff v S = some (nI 0, S) ∧ m_isStuff v T = some (nI 0, T) ∧ ∀ k, k < 5 → v ≠ nI k) := by
  unfold c_N_isStuff m_isStuff
  simp only [lits]
  rcases pk_ix v (n := 5) (by omega) with h | h | ⟨k, h, e⟩
  · right
    rw [if_pos (show v < nI 0 from h), if_pos (show v < nI 0 from h), nzI0, nzI0]
    refine ⟨rfl, rfl, fun k hk e => ?_⟩
    rw [e] at h
    exact nI_pos (by omega) h
  · right
    refine ⟨?_, ?_, fun k hk e => ?_⟩
    · by_cases hv : v < nI 0
      · rw [if_pos hv, nzI0]
      · rw [if_neg hv, if_pos h, nzI0]
    · by_cases hv : v < nI 0
      · rw [if_pos hv, nzI0]
      · rw [if_neg hv, if_pos h, nzI0]
    · rw [e] at h
      exact nI_ge hk (by omega) h
  · left
    subst e
    have hn : ¬ nI k < nI 0 := nI_pos (by omega)
    have hn2 : ¬ nI 5 ≤ nI k := nI_ge h (by omega)
    rw [if_neg hn, if_neg hn, if_neg hn2, if_neg hn2, nzI1, nzI1]
    exact ⟨k, h, rfl, rfl, rfl⟩
theorem street2 {X : Cf} {E : Ev} {S T : St} (h : Re X E S T) : (0 < X 0 0 ∧ c_N_hasStreet S = some (nI 1, S) ∧ ¬ T 0 24 = nI 0) ∨ (X 0 0 = 0 ∧ c_N_hasStreet S = some (nI 0, S) ∧ T 0 24 = nI 0) := by
  obtain ⟨_, ⟨cq, mq, ⟨iv, _⟩, _⟩, _⟩ := h
  have h6 := iv.1
  unfold c_N_hasStreet
  simp only [lits]
  rw [cq.1, mq.1]
  by_cases h0 : X 0 0 = 0
  · right
    rw [h0, if_pos (show nI 0 ≤ nI 0 by decide), nzI0]
    exact ⟨rfl, rfl, rfl⟩
  · left
    rw [if_neg (show ¬ nI (X 0 0) ≤ nI 0 from nI_ge (by omega) (by omega)), nzI1]
    exact ⟨by omega, rfl, nI_nn h0 (by omega) (by omega)⟩
/-- both sides answer alike, and hold -/
def Opp (M N : Option (Int32 × St)) : Prop := ∃ r S' T', M = some (r, S') ∧ N = some (r, T') ∧ Rel S' T'
theorem opp_now {X : Cf} {E : Ev} {S T : St} (h : Re X E S T) (r : Int32) : Opp (some (r, S)) (some (r, T)) := ⟨r, S, T, rfl, rfl, X, E, h⟩
theorem opp_go {X : Cf} {E : Ev} {S T S' T' : St} (h : Re X E S T) (r : Int32) (hS : Fr jC S S') (hT : Fr jM T T') : Opp (some (r, S')) (some (r, T')) := ⟨r, S', T', rfl, rfl, X, E, h.go hS hT⟩
theorem meal2 {X : Cf} {E : Ev} {S T : St} (h : Re X E S T) (nc : NrC S 33 X E) (nm : NrM T X E) {k : Nat} (hk : k < X 0 0) : ∃ S2 T2, c_Noon_mealOf (nI k) S = some (mealH E X k, S2) ∧ m_mealOf (nI k) (T 0 32) T = some (mealH E X k, T2) ∧ Fr mealPC S S2 ∧ Fr mealPM T T2 ∧ Re X E S2 T2 ∧ NrC S2 33 X E ∧ NrM T2 X E := by
  have iv := h.2.1.2.2.1.1
  have hd : T 0 32 = nI (X 0 4) := h.2.1.2.2.2.1
  obtain ⟨⟨x, S2⟩, e1, p1, p2⟩ := mealCH nc iv hk
  obtain ⟨⟨y, T2⟩, e2, p3, p4⟩ := mealMH nm iv hk
  simp only at p1 p3
  subst p1
  subst p3
  rw [hd]
  exact ⟨S2, T2, e1, e2, p2, p4, h.go (p2.mono meal_jC) (p4.mono meal_jM), nc.meal (Or.inl rfl) iv p2, nm.meal p4⟩
theorem res2 {X : Cf} {S S1 T T1 : St} (iv : Iv X) (n1 : NoonOk X S S1) (n2 : NoonMOk X T T1) {k : Nat} (hk : k < X 0 0) : (∀ s, s < 6 → S1 (121 + k) s = nI (gtP X (plc X k) s)) ∧ S1 127 k = nI (plc X k) ∧ (∀ s, s < 6 → T1 16 (6 * k + s) = nI (gtP X (plc X k) s)) ∧ T1 17 k = nI (100 - X 0 3 * plc X k) ∧ T1 19 k = (if plc X k + 1 < X 0 0 ∧ dP X k then nI (X 7 k) else nI 9) := by
  obtain ⟨h1, h2⟩ := plc_spec iv hk
  obtain ⟨a1, a2⟩ := n1.1.1 _ h1
  obtain ⟨b1, b2, b3⟩ := n2.1.1 _ h1
  rw [h2] at a1 a2 b1 b2 b3
  exact ⟨a1, a2, b1, b2, b3⟩
