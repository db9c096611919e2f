/-! text -/
theorem learn_h58 : ∀ (n k : Nat) (S : St), k ≤ 6 → 6 < n + k → ∃ S', c_Street_learn_3_h58 n (nI k) S = some S' ∧ (∀ h, k ≤ h → h < 6 → S' 30 h = S (6 + h) 5 ∧ S' 31 h = S (6 + h) 6 ∧ S' 32 h = S (6 + h) 7) ∧ Fr (fun q j => (30 ≤ q ∧ q ≤ 32) ∧ k ≤ j) S S' := by
  intro n
  induction n with
  | zero => intro k S h1 h2; omega
  | succ n ih =>
    intro k S h1 h2
    rw [c_Street_learn_3_h58]
    simp only [lits, bnd_eq]
    by_cases e : k < 6
    · rw [if_neg (show ¬ nI 6 ≤ nI k from nI_ge e (by omega))]
      simp only [ckI e (show 6 < 2 ^ 31 by omega), ckI (show 5 < 8 by omega) (show 8 < 2 ^ 31 by omega), ckI (show 6 < 8 by omega) (show 8 < 2 ^ 31 by omega), ckI (show 7 < 8 by omega) (show 8 < 2 ^ 31 by omega), nI_clamp (show k < 2 ^ 31 by omega), nI_clamp (show 5 < 2 ^ 31 by omega), nI_clamp (show 6 < 2 ^ 31 by omega), nI_clamp (show 7 < 2 ^ 31 by omega)]
      rw [nI_add]
      have y : ∀ q j, q < 30 → (up2 S 30 k (S (6 + k) 5)) q j = S q j := fun q j hq => up2_o (by omega)
      rw [y _ _ (by omega)]
      have y2 : ∀ q j, q < 30 → (up2 (up2 S 30 k (S (6 + k) 5)) 31 k (S (6 + k) 6)) q j = S q j := fun q j hq => by rw [up2_o (by omega), up2_o (by omega)]
      rw [y2 _ _ (by omega)]
      obtain ⟨S', r, g1, g2⟩ := ih (k + 1) (up2 (up2 (up2 S 30 k (S (6 + k) 5)) 31 k (S (6 + k) 6)) 32 k (S (6 + k) 7)) (by omega) (by omega)
      refine ⟨S', r, fun h hh1 hh2 => ?_, fun q j hp => ?_⟩
      · by_cases eh : h = k
        · rw [eh, g2 _ _ (by omega), g2 _ _ (by omega), g2 _ _ (by omega)]
          refine ⟨?_, ?_, up2_hit rfl rfl⟩
          · rw [up2_o (by omega), up2_o (by omega), up2_hit rfl rfl]
          · rw [up2_o (by omega), up2_hit rfl rfl]
        · obtain ⟨u1, u2, u3⟩ := g1 h (by omega) hh2
          rw [u1, u2, u3, up2_o (by omega), up2_o (by omega), up2_o (by omega), up2_o (by omega), up2_o (by omega), up2_o (by omega), up2_o (by omega), up2_o (by omega), up2_o (by omega)]
          exact ⟨rfl, rfl, rfl⟩
      · rw [g2 _ _ (by omega), up2_n (by omega), up2_n (by omega), up2_n (by omega)]
    · rw [if_pos (show nI 6 ≤ nI k from nI_le (by omega) (by omega))]
      exact ⟨S, rfl, fun h _ _ => by omega, Fr.rfl⟩
theorem cpy5 {f g : Nat → Int32} {k s : Nat} (hs : s < 5) : cpy f g 0 (5 * k) 5 (5 * k + s) = f s := by
  show (if 5 * k ≤ 5 * k + s ∧ 5 * k + s < 5 * k + 5 then f (0 + (5 * k + s - 5 * k)) else g (5 * k + s)) = f s
  rw [if_pos (by omega), show 0 + (5 * k + s - 5 * k) = s by omega]
theorem cpy5n {f g : Nat → Int32} {k j : Nat} (hj : ¬ (5 * k ≤ j ∧ j < 5 * k + 5)) : cpy f g 0 (5 * k) 5 j = g j := by
  show (if 5 * k ≤ j ∧ j < 5 * k + 5 then f (0 + (j - 5 * k)) else g j) = g j
  rw [if_neg hj]
theorem begin_h7 : ∀ (n k : Nat) (S : St), k ≤ 6 → 6 < n + k → ∃ S', c_State_begin_3_h7 33 n (nI k) S = some S' ∧ (∀ h, k ≤ h → h < 6 → (∀ s, s < 5 → S' 34 (5 * h + s) = S (6 + h) s) ∧ S' 35 h = nI 0 ∧ S' 36 h = nI h ∧ S' 37 h = nI 9) ∧ Fr (fun q j => (q = 34 ∧ 5 * k ≤ j) ∨ ((35 ≤ q ∧ q ≤ 37) ∧ k ≤ j)) S S' := by
  intro n
  induction n with
  | zero => intro k S h1 h2; omega
  | succ n ih =>
    intro k S h1 h2
    rw [c_State_begin_3_h7]
    simp only [lits, bnd_eq]
    by_cases e : k < 6
    · rw [if_neg (show ¬ nI 6 ≤ nI k from nI_ge e (by omega)), pk_mul]
      simp only [ckI e (show 6 < 2 ^ 31 by omega), nI_clamp (show k < 2 ^ 31 by omega), nI_clamp (show 0 < 2 ^ 31 by omega), nI_clamp (show 5 < 2 ^ 31 by omega), nI_clamp (show k * 5 < 2 ^ 31 by omega)]
      rw [cpI (by omega) (by omega) (by omega) (by omega), nI_add, Nat.mul_comm k 5]
      obtain ⟨S', r, g1, g2⟩ := ih (k + 1) (up2 (up2 (up2 (upR S (33 + 1) (cpy (S (6 + k)) (S (33 + 1)) 0 (5 * k) 5)) (33 + 2) k (nI 0)) (33 + 3) k (nI k)) (33 + 4) k (nI 9)) (by omega) (by omega)
      have y : ∀ q j, q < 34 → (up2 (up2 (up2 (upR S (33 + 1) (cpy (S (6 + k)) (S (33 + 1)) 0 (5 * k) 5)) (33 + 2) k (nI 0)) (33 + 3) k (nI k)) (33 + 4) k (nI 9)) q j = S q j := fun q j hq => by rw [up2_o (by omega), up2_o (by omega), up2_o (by omega), upR_ne _ _ (by omega)]
      refine ⟨S', r, fun h hh1 hh2 => ?_, fun q j hp => ?_⟩
      · by_cases eh : h = k
        · subst eh
          refine ⟨fun s hs => ?_, ?_, ?_, ?_⟩
          · rw [g2 _ _ (by omega), up2_o (by omega), up2_o (by omega), up2_o (by omega), upR_self, cpy5 hs]
          · rw [g2 _ _ (by omega), up2_o (by omega), up2_o (by omega), up2_hit rfl rfl]
          · rw [g2 _ _ (by omega), up2_o (by omega), up2_hit rfl rfl]
          · rw [g2 _ _ (by omega), up2_hit rfl rfl]
        · obtain ⟨u1, u2, u3, u4⟩ := g1 h (by omega) hh2
          exact ⟨fun s hs => by rw [u1 s hs, y _ _ (by omega)], u2, u3, u4⟩
      · rw [g2 _ _ (by omega), up2_n (by omega), up2_n (by omega), up2_n (by omega)]
        by_cases e34 : q = 34
        · subst e34
          rw [upR_self, cpy5n (by omega)]
        · rw [upR_ne _ _ (by omega)]
    · rw [if_pos (show nI 6 ≤ nI k from nI_le (by omega) (by omega))]
      exact ⟨S, rfl, fun h _ _ => by omega, Fr.rfl⟩
theorem learn_ok (S : St) : ∃ S', c_Street_learn_3 S = some S' ∧ S' 28 0 = S 3 5 ∧ S' 28 1 = S 12 0 ∧ S' 28 2 = S 12 1 ∧ S' 28 3 = S 12 2 ∧ (∀ s, s < 5 → S' 29 s = S 4 s) ∧ (∀ h, h < 6 → S' 30 h = S (6 + h) 5 ∧ S' 31 h = S (6 + h) 6 ∧ S' 32 h = S (6 + h) 7) ∧ Fr (fun q _ => 28 ≤ q ∧ q ≤ 32) S S' := by
  have k0 : ∀ {ρ : Type} (M : Option ρ), ckM (0 : Int32) 3 M = M := fun M => ckI (k := 0) (by omega) (by omega)
  have k1 : ∀ {ρ : Type} (M : Option ρ), ckM (1 : Int32) 3 M = M := fun M => ckI (k := 1) (by omega) (by omega)
  have k2 : ∀ {ρ : Type} (M : Option ρ), ckM (2 : Int32) 3 M = M := fun M => ckI (k := 2) (by omega) (by omega)
  have kc : ∀ {ρ : Type} (M : Option ρ), cpM (0 : Int32) (0 : Int32) (5 : Int32) 5 5 M = M := fun M => cpI (a := 0) (b := 0) (n := 5) (by omega) (by omega) (by omega) (by omega)
  have c0 : (0 : Int32).toNatClampNeg = 0 := nI_clamp (n := 0) (by omega)
  have c1 : (1 : Int32).toNatClampNeg = 1 := nI_clamp (n := 1) (by omega)
  have c2 : (2 : Int32).toNatClampNeg = 2 := nI_clamp (n := 2) (by omega)
  have c5 : (5 : Int32).toNatClampNeg = 5 := nI_clamp (n := 5) (by omega)
  unfold c_Street_learn_3
  rw [bnd_eq, k0, bnd_eq, k1, bnd_eq, k2, bnd_eq, kc, bnd_eq, c0, c1, c2, c5]
  rw [up2_o (S := S) (q := 12) (j := 0) (by omega)]
  obtain ⟨A, hA⟩ : ∃ A, A = up2 (up2 S 28 0 (S 3 5)) 28 1 (S 12 0) := ⟨_, rfl⟩
  rw [← hA]
  have hA12 : ∀ j, A 12 j = S 12 j := fun j => by rw [hA, up2_o (by omega), up2_o (by omega)]
  rw [hA12 1]
  obtain ⟨B, hB⟩ : ∃ B, B = up2 A 28 2 (S 12 1) := ⟨_, rfl⟩
  rw [← hB]
  have hB12 : ∀ j, B 12 j = S 12 j := fun j => by rw [hB, up2_o (by omega), hA12]
  rw [hB12 2]
  obtain ⟨C, hC⟩ : ∃ C, C = up2 B 28 3 (S 12 2) := ⟨_, rfl⟩
  rw [← hC]
  have fC : ∀ q j, q ≠ 28 → C q j = S q j := fun q j h => by rw [hC, up2_o h, hB, up2_o h, hA, up2_o h, up2_o h]
  obtain ⟨S1, r1, b1, b2⟩ := learn_h58 FU 0 (upR C 29 (cpy (C 4) (C 29) 0 0 5)) (by omega) (by unfold FU; omega)
  rw [show (0 : Int32) = nI 0 from rfl]
  have c28 : ∀ j, S1 28 j = C 28 j := fun j => by rw [b2 _ _ (by omega), upR_ne _ _ (by omega)]
  refine ⟨S1, r1, ?_, ?_, ?_, ?_, fun s hs => ?_, fun h hh => ?_, fun q j hp => ?_⟩
  · rw [c28, hC, up2_k (by omega), hB, up2_k (by omega), hA, up2_k (by omega), up2_hit rfl rfl]
  · rw [c28, hC, up2_k (by omega), hB, up2_k (by omega), hA, up2_hit rfl rfl]
  · rw [c28, hC, up2_k (by omega), hB, up2_hit rfl rfl]
  · rw [c28, hC, up2_hit rfl rfl]
  · rw [b2 _ _ (by omega), upR_self, cpyE hs, fC _ _ (by omega)]
  · obtain ⟨u1, u2, u3⟩ := b1 h (by omega) hh
    rw [u1, u2, u3, upR_ne _ _ (by omega), fC _ _ (by omega), fC _ _ (by omega), fC _ _ (by omega)]
    exact ⟨rfl, rfl, rfl⟩
  · rw [b2 _ _ (by omega), upR_ne _ _ (by omega), fC _ _ (by omega)]
theorem hold_m1 (S : St) : c_N_hold (-1 : Int32) S = some (up2 (up2 S 0 5 (-nI 1)) 111 6 (-nI 1)) := by
  unfold c_N_hold
  rw [bnd_eq, if_pos (show (-1 : Int32) < 0 by decide)]
  rfl
def mvC : Nat → Nat → Prop := fun q j => (28 ≤ q ∧ q ≤ 37) ∨ (q = 48 ∧ (j = 2 ∨ j = 3)) ∨ (q = 0 ∧ (j = 5 ∨ j = 10)) ∨ (q = 111 ∧ j = 6)
theorem move_ok (S : St) : ∃ S', c_N_moveToStreet S = some S' ∧ S' 28 0 = S 3 5 ∧ S' 28 1 = S 12 0 ∧ S' 28 2 = S 12 1 ∧ S' 28 3 = S 12 2 ∧ (∀ s, s < 5 → S' 29 s = S 4 s) ∧ (∀ h, h < 6 → S' 30 h = S (6 + h) 5 ∧ S' 31 h = S (6 + h) 6 ∧ S' 32 h = S (6 + h) 7 ∧ (∀ s, s < 5 → S' 34 (5 * h + s) = S (6 + h) s) ∧ S' 35 h = nI 0 ∧ S' 36 h = nI h ∧ S' 37 h = nI 9) ∧ S' 33 0 = nI 0 ∧ S' 48 2 = nI 0 ∧ S' 48 3 = nI 0 ∧ S' 0 10 = nI 0 ∧ S' 0 5 = -nI 1 ∧ S' 111 6 = -nI 1 ∧ Fr mvC S S' := by
  obtain ⟨S1, r1, a1, a2, a3, a4, a5, a6, f1⟩ := learn_ok S
  obtain ⟨S2, r2, c1, c2⟩ := begin_h7 FU 0 (up2 S1 33 0 (nI 0)) (by omega) (by unfold FU; omega)
  have e2 : c_State_begin_3 33 S1 = some S2 := by
    unfold c_State_begin_3
    rw [bnd_eq, show (0 : Int32) = nI 0 from rfl]
    exact r2
  have e3 : c_Past_forget S2 = some (up2 (up2 S2 48 2 (nI 0)) 48 3 (nI 0)) := by
    unfold c_Past_forget
    rw [bnd_eq, bnd_eq, show (0 : Int32) = nI 0 from rfl]
  have eq : c_N_moveToStreet S = some (up2 (up2 (up2 (up2 (up2 S2 48 2 (nI 0)) 48 3 (nI 0)) 0 10 (nI 0)) 0 5 (-nI 1)) 111 6 (-nI 1)) := by
    unfold c_N_moveToStreet
    rw [r1, bV_some, e2, bV_some, e3, bV_some, bnd_eq, hold_m1, bV_some, show (0 : Int32) = nI 0 from rfl]
  have y : ∀ q j, q ≠ 0 → q ≠ 48 → q ≠ 111 → (up2 (up2 (up2 (up2 (up2 S2 48 2 (nI 0)) 48 3 (nI 0)) 0 10 (nI 0)) 0 5 (-nI 1)) 111 6 (-nI 1)) q j = S2 q j := fun q j h1 h2 h3 => by rw [up2_o h3, up2_o h1, up2_o h1, up2_o h2, up2_o h2]
  have z : ∀ q j, 28 ≤ q → q ≤ 32 → (up2 (up2 (up2 (up2 (up2 S2 48 2 (nI 0)) 48 3 (nI 0)) 0 10 (nI 0)) 0 5 (-nI 1)) 111 6 (-nI 1)) q j = S1 q j := fun q j h1 h2 => by rw [y _ _ (by omega) (by omega) (by omega), c2 _ _ (by omega), up2_o (by omega)]
  refine ⟨_, eq, (z _ _ (by omega) (by omega)).trans a1, (z _ _ (by omega) (by omega)).trans a2, (z _ _ (by omega) (by omega)).trans a3, (z _ _ (by omega) (by omega)).trans a4, fun s hs => (z _ _ (by omega) (by omega)).trans (a5 s hs), fun h hh => ?_, ?_, ?_, ?_, ?_, ?_, ?_, fun q j hp => ?_⟩
  · obtain ⟨u1, u2, u3⟩ := a6 h hh
    obtain ⟨w1, w2, w3, w4⟩ := c1 h (by omega) hh
    refine ⟨(z _ _ (by omega) (by omega)).trans u1, (z _ _ (by omega) (by omega)).trans u2, (z _ _ (by omega) (by omega)).trans u3, fun s hs => ?_, ?_, ?_, ?_⟩
    · rw [y _ _ (by omega) (by omega) (by omega), w1 s hs, up2_o (by omega), f1 _ _ (by omega)]
    · rw [y _ _ (by omega) (by omega) (by omega), w2]
    · rw [y _ _ (by omega) (by omega) (by omega), w3]
    · rw [y _ _ (by omega) (by omega) (by omega), w4]
  · rw [y _ _ (by omega) (by omega) (by omega), c2 _ _ (by omega), up2_hit rfl rfl]
  · rw [up2_o (by omega), up2_o (by omega), up2_o (by omega), up2_k (by omega), up2_hit rfl rfl]
  · rw [up2_o (by omega), up2_o (by omega), up2_o (by omega), up2_hit rfl rfl]
  · rw [up2_o (by omega), up2_k (by omega), up2_hit rfl rfl]
  · rw [up2_o (by omega), up2_hit rfl rfl]
  · rw [up2_hit rfl rfl]
  · unfold mvC at hp
    rw [up2_n (by omega), up2_n (by omega), up2_n (by omega), up2_n (by omega), up2_n (by omega), c2 _ _ (by omega), up2_n (by omega), f1 _ _ (by omega)]
theorem t_h201 : ∀ (n k : Nat) (T : St), k ≤ 6 → 6 < n + k → ∃ T', m_text_h201 n (nI k) T = some (T 0 24, T') ∧ (∀ h, k ≤ h → h < 6 → T' 11 h = nI h ∧ T' 12 h = nI 9 ∧ T' 13 h = nI 0) ∧ T' 0 31 = -nI 1 ∧ T' 0 32 = nI 0 ∧ T' 0 46 = nI 0 ∧ T' 0 58 = nI 0 ∧ Fr (fun q j => ((11 ≤ q ∧ q ≤ 13) ∧ k ≤ j) ∨ (q = 0 ∧ (j = 31 ∨ j = 32 ∨ j = 46 ∨ j = 58))) T T' := by
  intro n
  induction n with
  | zero => intro k T h1 h2; omega
  | succ n ih =>
    intro k T h1 h2
    rw [m_text_h201]
    simp only [lits, bnd_eq]
    by_cases e : k < 6
    · rw [if_neg (show ¬ nI 6 ≤ nI k from nI_ge e (by omega)), ckI e (by omega), ckI e (by omega), ckI e (by omega), nI_clamp (by omega), nI_add]
      obtain ⟨T', r, g1, g2, g3, g4, g5, g6⟩ := ih (k + 1) (up2 (up2 (up2 T 11 k (nI k)) 12 k (nI 9)) 13 k (nI 0)) (by omega) (by omega)
      rw [up2_o (show 0 ≠ 13 by omega), up2_o (show 0 ≠ 12 by omega), up2_o (show 0 ≠ 11 by omega)] at r
      refine ⟨T', r, fun h hh1 hh2 => ?_, g2, g3, g4, g5, fun q j hp => ?_⟩
      · by_cases eh : h = k
        · rw [eh, g6 _ _ (by omega), g6 _ _ (by omega), g6 _ _ (by omega)]
          refine ⟨?_, ?_, up2_hit rfl rfl⟩
          · rw [up2_o (by omega), up2_o (by omega), up2_hit rfl rfl]
          · rw [up2_o (by omega), up2_hit rfl rfl]
        · exact g1 h (by omega) hh2
      · rw [g6 _ _ (by omega), up2_n (by omega), up2_n (by omega), up2_n (by omega)]
    · rw [if_pos (show nI 6 ≤ nI k from nI_le (by omega) (by omega)), up2_k (show 24 ≠ 58 by omega), up2_k (show 24 ≠ 46 by omega), up2_k (show 24 ≠ 32 by omega), up2_k (show 24 ≠ 31 by omega)]
      refine ⟨_, rfl, fun h _ _ => by omega, ?_, ?_, ?_, up2_hit rfl rfl, fun q j hp => ?_⟩
      · rw [up2_k (by omega), up2_k (by omega), up2_k (by omega), up2_hit rfl rfl]
      · rw [up2_k (by omega), up2_k (by omega), up2_hit rfl rfl]
      · rw [up2_k (by omega), up2_hit rfl rfl]
      · rw [up2_n (by omega), up2_n (by omega), up2_n (by omega), up2_n (by omega)]
theorem t_h176 : ∀ (n k : Nat) (T : St), k ≤ 3 → 3 < n + k → ∃ T', m_text_h176 n (nI k) T = m_text_h201 FU (nI 0) T' ∧ (∀ j, k ≤ j → j < 3 → T' 9 j = T 10 j) ∧ Fr (fun q j => q = 9 ∧ k ≤ j) T T' := by
  intro n
  induction n with
  | zero => intro k T h1 h2; omega
  | succ n ih =>
    intro k T h1 h2
    rw [m_text_h176]
    by_cases e : k < 3
    · rw [if_neg (show ¬ (3 : Int32) ≤ nI k from nI_ge (b := 3) e (by omega)), bnd_eq, bnd_eq, ckI e (by omega), ckI e (by omega), nI_clamp (by omega), show nI k + (1 : Int32) = nI (k + 1) from nI_add k 1]
      obtain ⟨T', r, g1, g2⟩ := ih (k + 1) (up2 T 9 k (T 10 k)) (by omega) (by omega)
      refine ⟨T', r, fun j hj1 hj2 => ?_, fun q j hp => ?_⟩
      · by_cases ej : j = k
        · rw [ej, g2 _ _ (by omega), up2_hit rfl rfl]
        · rw [g1 j (by omega) hj2, up2_o (by omega)]
      · rw [g2 _ _ (by omega), up2_n (by omega)]
    · rw [if_pos (show (3 : Int32) ≤ nI k from nI_le (a := 3) (by omega) (by omega))]
      exact ⟨T, rfl, fun j _ _ => by omega, Fr.rfl⟩
theorem t_h150 : ∀ (n k : Nat) (T : St), k ≤ 48 → 48 < n + k → ∃ T', m_text_h150 n (nI k) T = m_text_h176 FU (nI 0) T' ∧ (∀ j, k ≤ j → j < 48 → T' 7 j = T 8 j) ∧ Fr (fun q j => q = 7 ∧ k ≤ j) T T' := by
  intro n
  induction n with
  | zero => intro k T h1 h2; omega
  | succ n ih =>
    intro k T h1 h2
    rw [m_text_h150]
    by_cases e : k < 48
    · rw [if_neg (show ¬ (48 : Int32) ≤ nI k from nI_ge (b := 48) e (by omega)), bnd_eq, bnd_eq, ckI e (by omega), ckI e (by omega), nI_clamp (by omega), show nI k + (1 : Int32) = nI (k + 1) from nI_add k 1]
      obtain ⟨T', r, g1, g2⟩ := ih (k + 1) (up2 T 7 k (T 8 k)) (by omega) (by omega)
      refine ⟨T', r, fun j hj1 hj2 => ?_, fun q j hp => ?_⟩
      · by_cases ej : j = k
        · rw [ej, g2 _ _ (by omega), up2_hit rfl rfl]
        · rw [g1 j (by omega) hj2, up2_o (by omega)]
      · rw [g2 _ _ (by omega), up2_n (by omega)]
    · rw [if_pos (show (48 : Int32) ≤ nI k from nI_le (a := 48) (by omega) (by omega))]
      exact ⟨T, rfl, fun j _ _ => by omega, Fr.rfl⟩
theorem t_h125 : ∀ (n k : Nat) (T : St), k ≤ 5 → 5 < n + k → ∃ T', m_text_h125 n (nI k) T = m_text_h150 FU (nI 0) T' ∧ (∀ j, k ≤ j → j < 5 → T' 5 j = T 6 j) ∧ Fr (fun q j => q = 5 ∧ k ≤ j) T T' := by
  intro n
  induction n with
  | zero => intro k T h1 h2; omega
  | succ n ih =>
    intro k T h1 h2
    rw [m_text_h125]
    by_cases e : k < 5
    · rw [if_neg (show ¬ (5 : Int32) ≤ nI k from nI_ge (b := 5) e (by omega)), bnd_eq, bnd_eq, ckI e (by omega), ckI e (by omega), nI_clamp (by omega), show nI k + (1 : Int32) = nI (k + 1) from nI_add k 1]
      obtain ⟨T', r, g1, g2⟩ := ih (k + 1) (up2 T 5 k (T 6 k)) (by omega) (by omega)
      refine ⟨T', r, fun j hj1 hj2 => ?_, fun q j hp => ?_⟩
      · by_cases ej : j = k
        · rw [ej, g2 _ _ (by omega), up2_hit rfl rfl]
        · rw [g1 j (by omega) hj2, up2_o (by omega)]
      · rw [g2 _ _ (by omega), up2_n (by omega)]
    · rw [if_pos (show (5 : Int32) ≤ nI k from nI_le (a := 5) (by omega) (by omega))]
      exact ⟨T, rfl, fun j _ _ => by omega, Fr.rfl⟩
def mvM : Nat → Nat → Prop := fun q j => q = 5 ∨ q = 7 ∨ q = 9 ∨ (11 ≤ q ∧ q ≤ 13) ∨ (q = 0 ∧ (j = 31 ∨ j = 32 ∨ j = 46 ∨ j = 58))
theorem moveM_ok (T : St) : ∃ T', m_text_h125 FU (nI 0) T = some (T 0 24, T') ∧ (∀ s, s < 5 → T' 5 s = T 6 s) ∧ (∀ j, j < 48 → T' 7 j = T 8 j) ∧ (∀ j, j < 3 → T' 9 j = T 10 j) ∧ (∀ h, h < 6 → T' 11 h = nI h ∧ T' 12 h = nI 9 ∧ T' 13 h = nI 0) ∧ T' 0 31 = -nI 1 ∧ T' 0 32 = nI 0 ∧ T' 0 46 = nI 0 ∧ T' 0 58 = nI 0 ∧ Fr mvM T T' := by
  obtain ⟨T1, r1, a1, f1⟩ := t_h125 FU 0 T (by omega) (by unfold FU; omega)
  obtain ⟨T2, r2, a2, f2⟩ := t_h150 FU 0 T1 (by omega) (by unfold FU; omega)
  obtain ⟨T3, r3, a3, f3⟩ := t_h176 FU 0 T2 (by omega) (by unfold FU; omega)
  obtain ⟨T4, r4, a4, b1, b2, b3, b4, f4⟩ := t_h201 FU 0 T3 (by omega) (by unfold FU; omega)
  have e24 : T3 0 24 = T 0 24 := by rw [f3 _ _ (by omega), f2 _ _ (by omega), f1 _ _ (by omega)]
  rw [e24] at r4
  refine ⟨T4, by rw [r1, r2, r3, r4], fun s hs => ?_, fun j hj => ?_, fun j hj => ?_, fun h hh => a4 h (by omega) hh, b1, b2, b3, b4, fun q j hq => ?_⟩
  · rw [f4 _ _ (by omega), f3 _ _ (by omega), f2 _ _ (by omega)]; exact a1 s (by omega) hs
  · rw [f4 _ _ (by omega), f3 _ _ (by omega), a2 j (by omega) hj, f1 _ _ (by omega)]
  · rw [f4 _ _ (by omega), a3 j (by omega) hj, f2 _ _ (by omega), f1 _ _ (by omega)]
  · unfold mvM at hq
    rw [f4 _ _ (by omega), f3 _ _ (by omega), f2 _ _ (by omega), f1 _ _ (by omega)]
