/-! image, back, undo -/
theorem img_h16 : ∀ (n k : Nat) (T : St), k ≤ 48 → 48 < n + k → ∃ T', m_image_h16 n (nI k) T = m_image_h42 FU (nI 0) T' ∧ (∀ j, k ≤ j → j < 48 → T' 25 j = T 7 j) ∧ Fr (fun q j => q = 25 ∧ k ≤ j) T T' := by
  have l48 : (48 : Int32) = nI 48 := rfl
  intro n
  induction n with
  | zero => intro k T h1 h2; omega
  | succ n ih =>
    intro k T h1 h2
    rw [m_image_h16]
    simp only [lits, l48, bnd_eq]
    by_cases e : k < 48
    · rw [if_neg (show ¬ nI 48 ≤ nI k from nI_ge e (by omega)), ckI e (by omega), ckI e (by omega), nI_clamp (by omega), nI_add]
      obtain ⟨T', r, g1, g2⟩ := ih (k + 1) (up2 T 25 k (T 7 k)) (by omega) (by omega)
      refine ⟨T', r, fun j hj1 hj2 => ?_, fun q j hp => ?_⟩
      · by_cases ej : j = k
        · rw [ej, g2 _ _ (by omega), up2_hit rfl rfl]
        · rw [g1 j (by omega) hj2, up2_o (by omega)]
      · rw [g2 _ _ (by omega), up2_n (by omega)]
    · rw [if_pos (show nI 48 ≤ nI k from nI_le (by omega) (by omega))]
      exact ⟨T, rfl, fun j _ _ => by omega, Fr.rfl⟩
theorem img_h42 : ∀ (n k : Nat) (T : St), k ≤ 6 → 6 < n + k → ∃ T', m_image_h42 n (nI k) T = some (T 0 32, T') ∧ (∀ j, k ≤ j → j < 6 → T' 26 j = T 13 j ∧ T' 27 j = T 11 j ∧ T' 28 j = T 12 j) ∧ T' 0 57 = T 0 32 ∧ T' 0 58 = nI 1 ∧ Fr (fun q j => ((q = 26 ∨ q = 27 ∨ q = 28) ∧ k ≤ j) ∨ (q = 0 ∧ (j = 57 ∨ j = 58))) T T' := by
  intro n
  induction n with
  | zero => intro k T h1 h2; omega
  | succ n ih =>
    intro k T h1 h2
    rw [m_image_h42]
    simp only [lits, bnd_eq]
    by_cases e : k < 6
    · rw [if_neg (show ¬ nI 6 ≤ nI k from nI_ge e (by omega)), ckI e (by omega), ckI e (by omega), ckI e (by omega), ckI e (by omega), ckI e (by omega), ckI e (by omega), nI_clamp (by omega), nI_add]
      obtain ⟨T', r, g1, g2, g3, g4⟩ := ih (k + 1) (up2 (up2 (up2 T 26 k (T 13 k)) 27 k ((up2 T 26 k (T 13 k)) 11 k)) 28 k ((up2 (up2 T 26 k (T 13 k)) 27 k ((up2 T 26 k (T 13 k)) 11 k)) 12 k)) (by omega) (by omega)
      have y : ∀ q j, ¬ (26 ≤ q ∧ q ≤ 28) → (up2 (up2 (up2 T 26 k (T 13 k)) 27 k ((up2 T 26 k (T 13 k)) 11 k)) 28 k ((up2 (up2 T 26 k (T 13 k)) 27 k ((up2 T 26 k (T 13 k)) 11 k)) 12 k)) q j = T q j := fun q j hq => by rw [up2_o (by omega), up2_o (by omega), up2_o (by omega)]
      rw [y 0 32 (by omega)] at r g2
      refine ⟨T', r, fun j hj1 hj2 => ?_, g2, g3, fun q j hp => ?_⟩
      · by_cases ej : j = k
        · rw [ej, g4 _ _ (by omega), g4 _ _ (by omega), g4 _ _ (by omega)]
          refine ⟨?_, ?_, ?_⟩
          · rw [up2_o (by omega), up2_o (by omega), up2_hit rfl rfl]
          · rw [up2_o (by omega), up2_hit rfl rfl, up2_o (by omega)]
          · rw [up2_hit rfl rfl, up2_o (by omega), up2_o (by omega)]
        · obtain ⟨u1, u2, u3⟩ := g1 j (by omega) hj2
          rw [u1, u2, u3, y _ _ (by omega), y _ _ (by omega), y _ _ (by omega)]
          exact ⟨rfl, rfl, rfl⟩
      · rw [g4 _ _ (by omega), up2_n (by omega), up2_n (by omega), up2_n (by omega)]
    · rw [if_pos (show nI 6 ≤ nI k from nI_le (by omega) (by omega)), up2_k (show 32 ≠ 58 by omega), up2_k (show 32 ≠ 57 by omega)]
      exact ⟨_, rfl, fun j _ _ => by omega, by rw [up2_k (by omega), up2_hit rfl rfl], up2_hit rfl rfl, fun q j hp => by rw [up2_n (by omega), up2_n (by omega)]⟩
theorem back_h16 : ∀ (n k : Nat) (T : St), k ≤ 48 → 48 < n + k → ∃ T', m_back_h16 n (nI k) T = m_back_h42 FU (nI 0) T' ∧ (∀ j, k ≤ j → j < 48 → T' 7 j = T 25 j) ∧ Fr (fun q j => q = 7 ∧ k ≤ j) T T' := by
  have l48 : (48 : Int32) = nI 48 := rfl
  intro n
  induction n with
  | zero => intro k T h1 h2; omega
  | succ n ih =>
    intro k T h1 h2
    rw [m_back_h16]
    simp only [lits, l48, bnd_eq]
    by_cases e : k < 48
    · rw [if_neg (show ¬ nI 48 ≤ nI k from nI_ge e (by omega)), ckI e (by omega), ckI e (by omega), nI_clamp (by omega), nI_add]
      obtain ⟨T', r, g1, g2⟩ := ih (k + 1) (up2 T 7 k (T 25 k)) (by omega) (by omega)
      refine ⟨T', r, fun j hj1 hj2 => ?_, fun q j hp => ?_⟩
      · by_cases ej : j = k
        · rw [ej, g2 _ _ (by omega), up2_hit rfl rfl]
        · rw [g1 j (by omega) hj2, up2_o (by omega)]
      · rw [g2 _ _ (by omega), up2_n (by omega)]
    · rw [if_pos (show nI 48 ≤ nI k from nI_le (by omega) (by omega))]
      exact ⟨T, rfl, fun j _ _ => by omega, Fr.rfl⟩
theorem back_h42 : ∀ (n k : Nat) (T : St), k ≤ 6 → 6 < n + k → ∃ T', m_back_h42 n (nI k) T = some (T 0 57, T') ∧ (∀ j, k ≤ j → j < 6 → T' 13 j = T 26 j ∧ T' 11 j = T 27 j ∧ T' 12 j = T 28 j) ∧ T' 0 32 = T 0 57 ∧ T' 0 46 = nI 0 ∧ Fr (fun q j => ((q = 13 ∨ q = 11 ∨ q = 12) ∧ k ≤ j) ∨ (q = 0 ∧ (j = 32 ∨ j = 46))) T T' := by
  intro n
  induction n with
  | zero => intro k T h1 h2; omega
  | succ n ih =>
    intro k T h1 h2
    rw [m_back_h42]
    simp only [lits, bnd_eq]
    by_cases e : k < 6
    · rw [if_neg (show ¬ nI 6 ≤ nI k from nI_ge e (by omega)), ckI e (by omega), ckI e (by omega), ckI e (by omega), ckI e (by omega), ckI e (by omega), ckI e (by omega), nI_clamp (by omega), nI_add]
      obtain ⟨T', r, g1, g2, g3, g4⟩ := ih (k + 1) (up2 (up2 (up2 T 13 k (T 26 k)) 11 k ((up2 T 13 k (T 26 k)) 27 k)) 12 k ((up2 (up2 T 13 k (T 26 k)) 11 k ((up2 T 13 k (T 26 k)) 27 k)) 28 k)) (by omega) (by omega)
      have y : ∀ q j, ¬ (11 ≤ q ∧ q ≤ 13) → (up2 (up2 (up2 T 13 k (T 26 k)) 11 k ((up2 T 13 k (T 26 k)) 27 k)) 12 k ((up2 (up2 T 13 k (T 26 k)) 11 k ((up2 T 13 k (T 26 k)) 27 k)) 28 k)) q j = T q j := fun q j hq => by rw [up2_o (by omega), up2_o (by omega), up2_o (by omega)]
      rw [y 0 57 (by omega)] at r g2
      refine ⟨T', r, fun j hj1 hj2 => ?_, g2, g3, fun q j hp => ?_⟩
      · by_cases ej : j = k
        · rw [ej, g4 _ _ (by omega), g4 _ _ (by omega), g4 _ _ (by omega)]
          refine ⟨?_, ?_, ?_⟩
          · rw [up2_o (by omega), up2_o (by omega), up2_hit rfl rfl]
          · rw [up2_o (by omega), up2_hit rfl rfl, up2_o (by omega)]
          · rw [up2_hit rfl rfl, up2_o (by omega), up2_o (by omega)]
        · obtain ⟨u1, u2, u3⟩ := g1 j (by omega) hj2
          rw [u1, u2, u3, y _ _ (by omega), y _ _ (by omega), y _ _ (by omega)]
          exact ⟨rfl, rfl, rfl⟩
      · rw [g4 _ _ (by omega), up2_n (by omega), up2_n (by omega), up2_n (by omega)]
    · rw [if_pos (show nI 6 ≤ nI k from nI_le (by omega) (by omega)), up2_k (show 32 ≠ 46 by omega), up2_hit (j := 32) rfl rfl]
      exact ⟨_, rfl, fun j _ _ => by omega, by rw [up2_k (by omega), up2_hit rfl rfl], up2_hit rfl rfl, fun q j hp => by rw [up2_n (by omega), up2_n (by omega)]⟩
theorem op_image {S T : St} (h : Rel S T) : Opp (c_N_image S) (m_image T) := by
  obtain ⟨X, E, h⟩ := h
  unfold c_N_image m_image
  simp only [lits, lits64, bnd_eq, nzI0, nzI1]
  have h := h.z (nI 0)
  generalize up2 T 0 0 (nI 0) = T at h ⊢
  rcases street2 h with ⟨h0, e1, e2⟩ | ⟨h0, e1, e2⟩
  · rw [e1, bI_some, if_neg m10, if_neg e2]
    simp only []
    obtain ⟨q1, ⟨cq, mq, lw, hd, h40, h42⟩, q3, q4, q5, q6⟩ := h
    have iv := lw.1
    have h6 := iv.1
    obtain ⟨S1, r1, g1, g2, g3, f1⟩ := copy_ok (o0 := 43) (o1 := 33) (by omega) S
    obtain ⟨T1, r2, a1, a2⟩ := img_h16 FU 0 T (by omega) (by unfold FU; omega)
    obtain ⟨T2, r3, b1, b2, b3, b4⟩ := img_h42 FU 0 T1 (by omega) (by unfold FU; omega)
    rw [r1, bV_some, r2, r3, up2_o (show 33 ≠ 0 by omega), f1 33 0 (by omega), cq.2.2.2.2.1, a2 0 32 (by omega), hd]
    have fS : ∀ q j, ¬ (q = 0 ∧ j = 10) → ¬ (43 ≤ q ∧ q ≤ 47) → (up2 S1 0 10 (nI 1)) q j = S q j := fun q j h1 h2 => by rw [up2_n h1, f1 q j (by omega)]
    have fT : ∀ q j, ¬ (25 ≤ q ∧ q ≤ 28) → ¬ (q = 0 ∧ (j = 57 ∨ j = 58)) → T2 q j = T q j := fun q j h1 h2 => by rw [b4 q j (by omega), a2 q j (by omega)]
    have cq43 : Cq S1 43 X := copy_cq cq iv (by omega) g1 g2 g3 f1
    have t25 : ∀ j, j < 48 → T2 25 j = T 7 j := fun j hj => by rw [b4 _ _ (by omega)]; exact a1 j (by omega) hj
    refine ⟨_, _, _, rfl, rfl, X, E, q1.fr (fun q j hq => fS _ _ (by omega) (by omega)) (fun q j hq => fT _ _ (by omega) (by omega)), RX.fr ⟨cq, mq, lw, hd, h40, h42⟩ (fun q j hq => fS _ _ (by omega) (by omega)) (fun q j hq => fT _ _ (by omega) (by omega)), q3.fr (fun q j hq => fS _ _ (by omega) (by omega)) (fun q j hq => fT _ _ (by omega) (by omega)), q4.fr (fun j => fS _ _ (by omega) (by omega)) (fun j => fT _ _ (by omega) (by omega)), q5.fr (fun q j hq => fS _ _ (by omega) (by omega)) (fun q j hq => fT _ _ (by omega) (by omega)), Or.inr ⟨up2_hit rfl rfl, b3, X, lw, h0, cq43.fr2 (fun q j hq => up2_n (by omega)), ?_, b2.trans ((a2 _ _ (by omega)).trans hd), fun a ha => ?_⟩⟩
    · obtain ⟨m1, m2, m3, m4, m6, m7, m8⟩ := mq
      refine ⟨(fT _ _ (by omega) (by omega)).trans m1, (fT _ _ (by omega) (by omega)).trans m2, (fT _ _ (by omega) (by omega)).trans m3, (fT _ _ (by omega) (by omega)).trans m4, fun s hs => (fT _ _ (by omega) (by omega)).trans (m6 s hs), fun a ha => ?_, fun p hp => ?_⟩
      · obtain ⟨u1, u2, u3, u4, u5⟩ := m7 a ha
        exact ⟨(t25 _ (by omega)).trans u1, (t25 _ (by omega)).trans u2, (t25 _ (by omega)).trans u3, ((b1 a (by omega) (by omega)).2.2.trans (a2 _ _ (by omega))).trans u4, fun s hs => (t25 _ (by omega)).trans (u5 s hs)⟩
      · exact ((b1 p (by omega) (by omega)).2.1.trans (a2 _ _ (by omega))).trans (m8 p hp)
    · rw [up2_o (by omega), (g3 a (by omega)).1, (b1 a (by omega) (by omega)).1, a2 _ _ (by omega)]
      exact q4 a ha
  · rw [e1, bI_some, if_pos rfl, if_pos e2]
    exact opp_now h _
theorem op_back {S T : St} (h : Rel S T) : Opp (c_N_back S) (m_back T) := by
  obtain ⟨X, E, h⟩ := h
  unfold c_N_back m_back c_Past_forget
  simp only [lits, lits64, bnd_eq, nzI0, nzI1]
  have h := h.z (nI 0)
  generalize up2 T 0 0 (nI 0) = T at h ⊢
  obtain ⟨q1, ⟨cq, mq, lw, hd, h40, h42⟩, q3, q4, q5, q6⟩ := h
  have hre : Re X E S T := ⟨q1, ⟨cq, mq, lw, hd, h40, h42⟩, q3, q4, q5, q6⟩
  rcases q6 with ⟨w1, w2⟩ | ⟨w1, w2, Y, y1, y2, y3, y4, y5, y6⟩
  · rw [w1, w2, if_pos rfl, if_pos rfl]
    exact opp_now hre _
  · rw [w1, w2, if_neg m10, if_neg m10]
    have iv := y1.1
    have h6 := iv.1
    obtain ⟨S1, r1, g1, g2, g3, f1⟩ := copy_ok (o0 := 33) (o1 := 43) (by omega) S
    obtain ⟨T1, r2, a1, a2⟩ := back_h16 FU 0 T (by omega) (by unfold FU; omega)
    obtain ⟨T2, r3, b1, b2, b3, b4⟩ := back_h42 FU 0 T1 (by omega) (by unfold FU; omega)
    rw [r1, bV_some, bV_some, r2, r3, up2_o (show 33 ≠ 48 by omega), up2_o (show 33 ≠ 48 by omega), g1, y3.2.2.2.2.1, a2 0 57 (by omega), y5]
    have fS : ∀ q j, ¬ (q = 48 ∧ (j = 2 ∨ j = 3)) → ¬ (33 ≤ q ∧ q ≤ 37) → (up2 (up2 S1 48 2 (nI 0)) 48 3 (nI 0)) q j = S q j := fun q j h1 h2 => by rw [up2_n (by omega), up2_n (by omega), f1 q j (by omega)]
    have fT : ∀ q j, ¬ (q = 7 ∨ (11 ≤ q ∧ q ≤ 13)) → ¬ (q = 0 ∧ (j = 32 ∨ j = 46)) → T2 q j = T q j := fun q j h1 h2 => by rw [b4 q j (by omega), a2 q j (by omega)]
    have cq33 : Cq S1 33 Y := copy_cq y3 iv (by omega) g1 g2 g3 f1
    have t7 : ∀ j, j < 48 → T2 7 j = T 25 j := fun j hj => by rw [b4 _ _ (by omega)]; exact a1 j (by omega) hj
    obtain ⟨m1, m2, m3, m4, m6, m7, m8⟩ := y4
    have mq2 : Mq T2 Y := by
      refine ⟨(fT _ _ (by omega) (by omega)).trans m1, (fT _ _ (by omega) (by omega)).trans m2, (fT _ _ (by omega) (by omega)).trans m3, (fT _ _ (by omega) (by omega)).trans m4, fun s hs => (fT _ _ (by omega) (by omega)).trans (m6 s hs), fun a ha => ?_, fun p hp => ?_⟩
      · obtain ⟨u1, u2, u3, u4, u5⟩ := m7 a ha
        exact ⟨(t7 _ (by omega)).trans u1, (t7 _ (by omega)).trans u2, (t7 _ (by omega)).trans u3, ((b1 a (by omega) (by omega)).2.2.trans (a2 _ _ (by omega))).trans u4, fun s hs => (t7 _ (by omega)).trans (u5 s hs)⟩
      · exact ((b1 p (by omega) (by omega)).2.1.trans (a2 _ _ (by omega))).trans (m8 p hp)
    refine ⟨_, _, _, rfl, rfl, Y, E, q1.fr (fun q j hq => fS _ _ (by omega) (by omega)) (fun q j hq => fT _ _ (by omega) (by omega)), ⟨cq33.fr2 (fun q j hq => by rw [up2_n (by omega), up2_n (by omega)]), mq2, y1, b2.trans ((a2 _ _ (by omega)).trans y5), (fT _ _ (by omega) (by omega)).trans h40, (fT _ _ (by omega) (by omega)).trans h42⟩, q3.fr (fun q j hq => fS _ _ (by omega) (by omega)) (fun q j hq => fT _ _ (by omega) (by omega)), fun a ha => ?_, ⟨0, 0, by omega, by omega, by omega, by rw [up2_k (by omega)]; exact up2_hit rfl rfl, up2_hit rfl rfl, b3, fun i hi => by omega⟩, Or.inr ⟨(fS _ _ (by omega) (by omega)).trans w1, (fT _ _ (by omega) (by omega)).trans w2, Y, y1, y2, y3.fr2 (fun q j hq => fS _ _ (by omega) (by omega)), Mk.fr ⟨m1, m2, m3, m4, m6, m7, m8⟩ (fun q j hq => fT _ _ (by omega) (by omega)), (fT _ _ (by omega) (by omega)).trans y5, fun a ha => ?_⟩⟩
    · rw [up2_o (by omega), up2_o (by omega), (g3 a (by omega)).1, (b1 a (by omega) (by omega)).1, a2 _ _ (by omega)]
      exact y6 a ha
    · rw [fS _ _ (by omega) (by omega), fT _ _ (by omega) (by omega)]
      exact y6 a ha
theorem undo_h34 {u : Nat} (hu : u < 30) {L26 : Int32 → St → Option (Int32 × St)} {a : Nat} (ha : a < 6) : ∀ (n k : Nat) (T : St), T 0 46 = nI u → k ≤ 5 → 5 < n + k → ∃ T', m_undo_h34 L26 n (nI a) (nI k) T = L26 (nI (a + 1)) T' ∧ (∀ s, k ≤ s → s < 5 → T' 7 (8 * a + s) = T 20 (30 * u + 5 * a + s)) ∧ T' 13 a = T 21 (6 * u + a) ∧ Fr (fun q j => (q = 7 ∧ 8 * a + k ≤ j ∧ j < 8 * a + 5) ∨ (q = 13 ∧ j = a)) T T' := by
  intro n
  induction n with
  | zero => intro k T h0 h1 h2; omega
  | succ n ih =>
    intro k T h46 h1 h2
    rw [m_undo_h34]
    simp only [lits, bnd_eq]
    rw [h46]
    by_cases e : k < 5
    · rw [if_neg (show ¬ nI 5 ≤ nI k from nI_ge e (by omega)), pk_mul 30 u, pk_mul 5 a, nI_add (30 * u) (5 * a), nI_add (30 * u + 5 * a) k, pk_mul 8 a, nI_add (8 * a) k, ckI (by omega) (by omega), ckI (by omega) (by omega), nI_clamp (by omega), nI_clamp (by omega), nI_add]
      obtain ⟨T', r, g1, g2, g3⟩ := ih (k + 1) (up2 T 7 (8 * a + k) (T 20 (30 * u + 5 * a + k))) ((up2_o (by omega)).trans h46) (by omega) (by omega)
      refine ⟨T', r, fun s hs1 hs2 => ?_, by rw [g2]; exact up2_o (by omega), fun q j hp => ?_⟩
      · by_cases es : s = k
        · rw [es, g3 _ _ (by omega), up2_hit rfl rfl]
        · rw [g1 s (by omega) hs2, up2_o (by omega)]
      · rw [g3 _ _ (by omega), up2_n (by omega)]
    · rw [if_pos (show nI 5 ≤ nI k from nI_le (by omega) (by omega)), pk_mul, nI_add, ckI (by omega) (by omega), ckI (by omega) (by omega), nI_clamp (by omega), nI_clamp (by omega), nI_add]
      exact ⟨_, rfl, fun s _ _ => by omega, up2_hit rfl rfl, fun q j hp => up2_n (by omega)⟩
theorem undo_h26 {u : Nat} (hu : u < 30) : ∀ (n k : Nat) (T : St), T 0 46 = nI u → k ≤ 6 → 6 < n + k → ∃ T', m_undo_h26 n (nI k) T = some (T 0 32 - nI 1, T') ∧ (∀ a, k ≤ a → a < 6 → (∀ s, s < 5 → T' 7 (8 * a + s) = T 20 (30 * u + 5 * a + s)) ∧ T' 13 a = T 21 (6 * u + a)) ∧ T' 0 32 = T 0 32 - nI 1 ∧ Fr (fun q j => (q = 7 ∧ j % 8 < 5 ∧ 8 * k ≤ j) ∨ (q = 13 ∧ k ≤ j) ∨ (q = 0 ∧ j = 32)) T T' := by
  intro n
  induction n with
  | zero => intro k T h0 h1 h2; omega
  | succ n ih =>
    intro k T h46 h1 h2
    rw [m_undo_h26]
    simp only [lits, bnd_eq]
    by_cases e : k < 6
    · rw [if_neg (show ¬ nI 6 ≤ nI k from nI_ge e (by omega))]
      obtain ⟨T1, r1, a1, a2, a3⟩ := undo_h34 hu (L26 := m_undo_h26 n) e FU 0 T h46 (by omega) (by unfold FU; omega)
      obtain ⟨T', r, g1, g2, g3⟩ := ih (k + 1) T1 ((a3 _ _ (by omega)).trans h46) (by omega) (by omega)
      rw [r1]
      rw [a3 0 32 (by omega)] at r g2
      refine ⟨T', r, fun a ha1 ha2 => ?_, g2, fun q j hp => ?_⟩
      · by_cases ea : a = k
        · subst ea
          refine ⟨fun s hs => ?_, ?_⟩
          · rw [g3 _ _ (by omega)]; exact a1 s (by omega) hs
          · rw [g3 _ _ (by omega)]; exact a2
        · obtain ⟨u1, u2⟩ := g1 a (by omega) ha2
          refine ⟨fun s hs => ?_, ?_⟩
          · rw [u1 s hs, a3 _ _ (by omega)]
          · rw [u2, a3 _ _ (by omega)]
      · rw [g3 _ _ (by omega), a3 _ _ (by omega)]
    · rw [if_pos (show nI 6 ≤ nI k from nI_le (by omega) (by omega)), up2_hit rfl rfl]
      exact ⟨_, rfl, fun a _ _ => by omega, up2_hit rfl rfl, fun q j hp => up2_n (by omega)⟩
def vX (X : Cf) (d : Nat) (f : Nat → Nat → Nat) : Cf := fun q j => if 10 ≤ q ∧ q < 16 ∧ j < 5 then f (q - 10) j else if q = 0 ∧ j = 4 then d else X q j
theorem vX_s {X : Cf} {d : Nat} {f : Nat → Nat → Nat} {h s : Nat} (hh : h < 6) (hs : s < 5) : vX X d f (10 + h) s = f h s := by
  unfold vX
  rw [if_pos (by omega), show 10 + h - 10 = h by omega]
theorem vX_4 {X : Cf} {d : Nat} {f : Nat → Nat → Nat} : vX X d f 0 4 = d := by
  unfold vX
  rw [if_neg (by omega), if_pos ⟨rfl, rfl⟩]
theorem vX_n {X : Cf} {d : Nat} {f : Nat → Nat → Nat} {q j : Nat} (hq : q < 10) (h : ¬ (q = 0 ∧ j = 4)) : vX X d f q j = X q j := by
  unfold vX
  rw [if_neg (by omega), if_neg h]
theorem vX_ss {X : Cf} {d : Nat} {f : Nat → Nat → Nat} : SS X (vX X d f) := ⟨fun j hj => vX_n (by omega) (by omega), fun q j h1 h2 => vX_n (by omega) (by omega)⟩
theorem vX_vr {X : Cf} {d : Nat} {f : Nat → Nat → Nat} (lw : Lw X) (hd : d ≤ 999) (hf : ∀ h, h < X 0 0 → ∀ s, s < 5 → f h s ≤ 99) : Vr (vX X d f) (X 0 0) := by
  obtain ⟨v1, v2, v3, v4⟩ := lw.vr
  have h6 := lw.1.1
  exact ⟨by rw [vX_4]; exact hd, fun a ha => ⟨by rw [vX_n (by omega) (by omega)]; exact (v2 a ha).1, fun s hs => by rw [vX_s (by omega) hs]; exact hf a ha s hs⟩, fun p hp => by rw [vX_n (by omega) (by omega)]; exact v3 p hp, fun p q hp hq => by rw [vX_n (by omega) (by omega), vX_n (by omega) (by omega)]; exact v4 p q hp hq⟩
theorem ri_last {nx u : Nat} (h1 : nx ≤ 30) (hu : 0 < u) (h2 : u ≤ 30) : ri nx u (u - 1) = (if nx = 0 then 29 else nx - 1) := by
  unfold ri
  by_cases e : nx = 0
  · rw [if_pos e]; omega
  · rw [if_neg e]; omega
theorem ri_less {nx u i : Nat} (h1 : nx ≤ 30) (hu : 0 < u) (h2 : u ≤ 30) (hi : i < u - 1) : ri (if nx = 0 then 29 else nx - 1) (u - 1) i = ri nx u i := by
  unfold ri
  by_cases e : nx = 0
  · rw [if_pos e]; omega
  · rw [if_neg e]; omega
theorem restore_ok {S : St} {r u : Nat} (hr : r < 30) (hu : 0 < u) (hu2 : u ≤ 30) (h2 : S 48 2 = nI u) : ∃ S', c_Past_restore_33_b28 (nI r) S = some (nI 1, S') ∧ S' 48 3 = nI r ∧ S' 48 2 = nI (u - 1) ∧ (∀ j, j < 30 → S' 34 j = S (51 + r) j) ∧ (∀ j, j < 6 → S' 35 j = S (81 + r) j) ∧ S' 33 0 = S 33 0 - nI 1 ∧ Fr (fun q j => (q = 48 ∧ (j = 2 ∨ j = 3)) ∨ q = 34 ∨ q = 35 ∨ (q = 33 ∧ j = 0)) S S' := by
  unfold c_Past_restore_33_b28
  simp only [lits, bnd_eq, nzI1]
  have e3 : (up2 (up2 S 48 3 (nI r)) 48 2 ((up2 S 48 3 (nI r)) 48 2 - nI 1)) 48 3 = nI r := by rw [up2_k (by omega), up2_hit rfl rfl]
  rw [e3, ckI hr (by omega), cpI (by omega) (by omega) (by omega) (by omega), nI_clamp (by omega), nI_clamp (by omega), nI_clamp (by omega), upR_ne _ _ (show 48 ≠ 34 by omega), e3, ckI hr (by omega), cpI (by omega) (by omega) (by omega) (by omega), nI_clamp (by omega), nI_clamp (by omega), up2_k (show 2 ≠ 3 by omega), h2, pk_sub (by omega)]
  refine ⟨_, rfl, ?_, ?_, fun j hj => ?_, fun j hj => ?_, ?_, fun q j hp => ?_⟩
  · rw [up2_o (by omega), upR_ne _ _ (by omega), upR_ne _ _ (by omega), up2_k (by omega), up2_hit rfl rfl]
  · rw [up2_o (by omega), upR_ne _ _ (by omega), upR_ne _ _ (by omega), up2_hit rfl rfl]
  · rw [up2_o (by omega), upR_ne _ _ (by omega), upR_self, cpyE hj, up2_o (by omega), up2_o (by omega)]
  · rw [up2_o (by omega), upR_self, cpyE hj, upR_ne _ _ (by omega), up2_o (by omega), up2_o (by omega)]
  · rw [up2_hit rfl rfl, upR_ne _ _ (by omega), upR_ne _ _ (by omega), up2_o (by omega), up2_o (by omega)]
  · rw [up2_n (by omega), upR_ne _ _ (by omega), upR_ne _ _ (by omega), up2_n (by omega), up2_n (by omega)]
theorem op_undo {S T : St} (h : Rel S T) : Opp (c_N_undo S) (m_undo T) := by
  obtain ⟨X, E, h⟩ := h
  have h := h.z (nI 0)
  unfold c_N_undo m_undo
  rw [bnd_eq, show (0 : Int32) = nI 0 from rfl]
  generalize up2 T 0 0 (nI 0) = T at h ⊢
  rw [bnd_eq]
  obtain ⟨q1, ⟨cq, mq, lw, hd, h40, h42⟩, q3, q4, ⟨u, nx, u1, u2, u3, u4, u5, u6, u7⟩, q6⟩ := h
  have iv := lw.1
  have h6 := iv.1
  have hday := lw.2.2.1
  rw [u6]
  by_cases e : u = 0
  · subst e
    have hc : c_Past_restore_33 S = some (nI 0, S) := by
      unfold c_Past_restore_33
      rw [u4, if_pos (show nI 0 = (0 : Int32) from rfl)]
      exact nz_0 _
    rw [hc, bI_some, if_pos rfl, if_pos rfl]
    exact opp_now (X := X) (E := E) ⟨q1, ⟨cq, mq, lw, hd, h40, h42⟩, q3, q4, ⟨0, nx, u1, u2, u3, u4, u5, u6, u7⟩, q6⟩ _
  · rw [if_neg (nI_nn e (by omega) (by omega)), show nI u - (1 : Int32) = nI (u - 1) from pk_sub (b := 1) (by omega)]
    have hr : (if nx = 0 then 29 else nx - 1) < 30 := by split <;> omega
    have key : c_Past_restore_33 S = c_Past_restore_33_b28 (nI (if nx = 0 then 29 else nx - 1)) S := by
      unfold c_Past_restore_33
      rw [u4, u5, if_neg (show ¬ nI u = (0 : Int32) from nI_nn (b := 0) e (by omega) (by omega))]
      by_cases en : nx = 0
      · rw [en, if_pos (show nI 0 ≤ (0 : Int32) by decide), if_pos rfl]
        rfl
      · rw [if_neg (show ¬ nI nx ≤ (0 : Int32) from nI_ge (a := 0) (by omega) (by omega)), if_neg en, show nI nx - (1 : Int32) = nI (nx - 1) from pk_sub (b := 1) (by omega)]
    have elast := ri_last u2 (show 0 < u by omega) u1
    have eless : ∀ i, i < u - 1 → ri (if nx = 0 then 29 else nx - 1) (u - 1) i = ri nx u i := fun i hi => ri_less u2 (by omega) u1 hi
    rw [key]
    generalize (if nx = 0 then 29 else nx - 1) = r at *
    obtain ⟨S', r1, g1, g2, g3, g4, g5, f1⟩ := restore_ok hr (show 0 < u by omega) u1 u4
    obtain ⟨T', r2, b1, b2, f2⟩ := undo_h26 (u := u - 1) (by omega) FU 0 (up2 T 0 46 (nI (u - 1))) (up2_hit rfl rfl) (by omega) (by unfold FU; omega)
    rw [up2_k (show 32 ≠ 46 by omega), hd, pk_sub (by omega)] at r2 b2
    have r2' : m_undo_h26 FU (nI 0) (up2 T 0 46 (nI (u - 1))) = some (nI (X 0 4 - 1), T') := r2
    rw [r1, bI_some, if_neg m10, r2']
    simp only []
    rw [g5, cq.2.2.2.2.1, pk_sub (by omega)]
    have hent := u7 (u - 1) (by omega)
    rw [elast] at hent
    have fS : ∀ q j, ¬ ((q = 48 ∧ (j = 2 ∨ j = 3)) ∨ q = 34 ∨ q = 35 ∨ (q = 33 ∧ j = 0)) → S' q j = S q j := fun q j hq => f1 q j hq
    have fT : ∀ q j, ¬ ((q = 7 ∧ j % 8 < 5) ∨ q = 13 ∨ (q = 0 ∧ (j = 32 ∨ j = 46))) → T' q j = T q j := fun q j hq => by rw [f2 q j (by omega), up2_n (by omega)]
    have hst : ∀ a, a < X 0 0 → ∀ s, s < 5 → S' 34 (5 * a + s) = nI ((S (51 + r) (5 * a + s)).toNatClampNeg) ∧ T' 7 (8 * a + s) = nI ((S (51 + r) (5 * a + s)).toNatClampNeg) ∧ (S (51 + r) (5 * a + s)).toNatClampNeg ≤ 99 := fun a ha s hs => by
      obtain ⟨v, v1, v2, v3⟩ := (hent a ha).1 s hs
      rw [g3 _ (by omega), (b1 a (by omega) (by omega)).1 s hs, up2_o (by omega), v2, v3, nI_clamp (by omega)]
      exact ⟨rfl, rfl, v1⟩
    obtain ⟨c1, c2, c3⟩ := cq.vr
    have z0 : vX X (X 0 4 - 1) (fun a s => (S (51 + r) (5 * a + s)).toNatClampNeg) 0 0 = X 0 0 := vX_n (by omega) (by omega)
    refine ⟨_, _, _, rfl, rfl, vX X (X 0 4 - 1) (fun a s => (S (51 + r) (5 * a + s)).toNatClampNeg), E, q1.fr (fun q j hq => fS _ _ (by omega)) (fun q j hq => fT _ _ (by omega)), RX.mk ⟨cq, mq, lw, hd, h40, h42⟩ vX_ss (vX_vr lw (by omega) (fun a ha s hs => (hst a ha s hs).2.2)) (fun q j hq => fS _ _ (by omega)) ⟨by rw [vX_4, g5, cq.2.2.2.2.1, pk_sub (by omega)], fun a ha => ⟨by rw [vX_n (by omega) (by omega), fS _ _ (by omega)]; exact (c2 a ha).1, fun s hs => by rw [vX_s (by omega) hs]; exact (hst a ha s hs).1⟩, fun p hp => by rw [vX_n (by omega) (by omega), fS _ _ (by omega)]; exact c3 p hp⟩ (fun q j hq => fT _ _ (by omega)) ⟨by rw [vX_4]; exact b2, fun a ha => ⟨by rw [vX_n (by omega) (by omega), fT _ _ (by omega)]; exact (mq.2.2.2.2.2.1 a ha).2.2.2.1, fun s hs => by rw [vX_s (by omega) hs]; exact (hst a ha s hs).2.1⟩, fun p hp => by rw [vX_n (by omega) (by omega), fT _ _ (by omega)]; exact mq.2.2.2.2.2.2 p hp⟩, q3.fr (fun q j hq => fS _ _ (by omega)) (fun q j hq => fT _ _ (by omega)), fun a ha => ?_, ⟨u - 1, r, by omega, by omega, by rw [vX_4]; omega, g2, g1, by rw [f2 _ _ (by omega)]; exact up2_hit rfl rfl, fun i hi a ha => ?_⟩, q6.fr (fun q j hq => fS _ _ (by omega)) (fun q j hq => fT _ _ (by omega))⟩
    · rw [z0] at ha
      rw [g4 a (by omega), (b1 a (by omega) (by omega)).2, up2_o (by omega)]
      exact (hent a ha).2
    · rw [z0] at ha
      rw [eless i hi]
      exact ((u7 i (by omega)).fr (ri_lt _ _ _) (fun q j hq => fS _ _ (by omega)) (fun q j hq => fT _ _ (by omega))) a ha
