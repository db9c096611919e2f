/-! THE REFERENCE'S NOON: it is the noon on paper -/
theorem allIn_h4 {S : St} {v1 : Int32} {n k : Nat} (hk : k < 6) : m_allIn_h4 (n + 1) v1 (nI k) S = m_allIn_h4 n (v1 + S 15 k) (nI (k + 1)) S := by
  rw [m_allIn_h4]
  simp only [lits]
  rw [if_neg (by rw [nI_ltE (by omega) (by omega)]; omega), ckI hk (by omega), bnd_eq, bnd_eq, nI_clamp (by omega), nI_add]
theorem allIn_eq {S : St} {p : Nat → Nat} (hS : ∀ s, s < 6 → S 15 s = nI (p s)) : m_allIn S = some (nI (sm6 p), S) := by
  unfold m_allIn
  simp only [lits]
  rw [show FU = 993 + 1 + 1 + 1 + 1 + 1 + 1 + 1 from rfl, allIn_h4 (by omega), allIn_h4 (by omega), allIn_h4 (by omega), allIn_h4 (by omega), allIn_h4 (by omega), allIn_h4 (by omega), m_allIn_h4]
  rw [hS 0 (by omega), hS (0 + 1) (by omega), hS (0 + 1 + 1) (by omega), hS (0 + 1 + 1 + 1) (by omega), hS (0 + 1 + 1 + 1 + 1) (by omega), hS (0 + 1 + 1 + 1 + 1 + 1) (by omega)]
  rw [if_pos (by decide)]
  unfold sm6
  simp only [nI_add, Nat.zero_add, Nat.reduceAdd]
theorem ladle16_h67 {p t : Nat → Nat} {b : Nat} (hb : b + 6 ≤ 36) (hle : ∀ s, s < 6 → t s ≤ p s) : ∀ (n k : Nat) (S : St), k ≤ 6 → 6 < n + k → (∀ s, k ≤ s → s < 6 → S 15 s = nI (p s)) → (∀ s, s < 6 → S 16 (b + s) = nI (t s)) →
    Ok (m_ladle_16_h67 n (nI b) (nI k) S) (fun S' => (∀ s, k ≤ s → s < 6 → S' 15 s = nI (p s - t s)) ∧ (∀ q j, ¬ (q = 15 ∧ k ≤ j ∧ j < 6) → S' q j = S q j)) := by
  intro n
  induction n with
  | zero => intro k S hk hn; omega
  | succ n ih =>
    intro k S hk hn hS hT
    unfold m_ladle_16_h67
    simp only [lits]
    by_cases h6 : k = 6
    · subst h6
      rw [if_pos (by decide)]
      exact ok_some ⟨fun s h1 h2 => by omega, fun q j _ => rfl⟩
    · rw [if_neg (by rw [nI_ltE (by omega) (by omega)]; omega)]
      simp (disch := omega) only [ckI, nI_add, nI_clamp, bnd_eq]
      rw [hS k (by omega) (by omega), hT k (by omega), pk_sub (hle k (by omega))]
      refine (ih (k + 1) _ (by omega) (by omega) ?_ ?_).mono ?_
      · intro s h1 h2
        rw [up2_k (by omega)]; exact hS s (by omega) h2
      · intro s hs
        rw [up2_o (by omega)]; exact hT s hs
      · intro S' hq
        refine ⟨fun s h1 h2 => ?_, fun q j hn2 => ?_⟩
        · by_cases hsk : s = k
          · subst hsk
            rw [hq.2 15 s (by omega), up2_hit rfl rfl]
          · exact hq.1 s (by omega) h2
        · rw [hq.2 q j (by omega), up2_n (by omega)]
theorem ladle16_h9 {p : Nat → Nat} {b L L' : Nat} {v4 : Int32} (hb : b + 6 ≤ 36) (hp : ∀ s, s < 6 → p s ≤ 1200) (hL : L ≤ 99) (hv : (v4 = nI 0 ∧ L' = L) ∨ (v4 = nI 1 ∧ L' = 2147483647)) : ∀ (n k : Nat) (S : St), k ≤ 6 → 6 < n + k → (∀ s, s < 6 → S 15 s = nI (p s)) → (∀ s, s < k → S 16 (b + s) = nI (tk p L' s)) →
    Ok (m_ladle_16_h9 n (nI L) (nI b) v4 (nI (sm6 p)) (nI k) S) (fun S' => (∀ s, s < 6 → S' 16 (b + s) = nI (tk p L' s) ∧ S' 15 s = nI (p s - tk p L' s)) ∧ Fr (fun q j => (q = 15 ∧ j < 6) ∨ (q = 16 ∧ b ≤ j ∧ j < b + 6)) S S') := by
  have hm := sm6_le hp
  intro n
  induction n with
  | zero => intro k S hk hn; omega
  | succ n ih =>
    intro k S hk hn hS hT
    unfold m_ladle_16_h9
    simp only [lits]
    by_cases h6 : k = 6
    · subst h6
      rw [if_pos (by decide)]
      refine (ladle16_h67 hb (fun s hs => tk_le p L' s hs) FU 0 S (by omega) (by unfold FU; omega) (fun s _ hs => hS s hs) hT).mono ?_
      intro S' hq
      refine ⟨fun s hs => ⟨?_, hq.1 s (by omega) hs⟩, fun q j hn2 => hq.2 q j (by omega)⟩
      rw [hq.2 _ _ (by omega)]; exact hT s hs
    · rw [if_neg (by rw [nI_ltE (by omega) (by omega)]; omega)]
      have key : ∀ x : Int32, x = nI (tk p L' k) → Ok (m_ladle_16_b48 (m_ladle_16_h9 n) (nI L) (nI b) v4 (nI (sm6 p)) (nI k) x S) (fun S' => (∀ s, s < 6 → S' 16 (b + s) = nI (tk p L' s) ∧ S' 15 s = nI (p s - tk p L' s)) ∧ Fr (fun q j => (q = 15 ∧ j < 6) ∨ (q = 16 ∧ b ≤ j ∧ j < b + 6)) S S') := by
        intro x hx
        subst hx
        unfold m_ladle_16_b48
        simp (disch := omega) only [lits, ckI, nI_add, nI_clamp, bnd_eq]
        refine (ih (k + 1) _ (by omega) (by omega) ?_ ?_).mono ?_
        · intro s hs
          rw [up2_o (by omega)]; exact hS s hs
        · intro s hs
          by_cases hsk : s = k
          · subst hsk
            exact up2_hit rfl rfl
          · rw [up2_k (by omega)]; exact hT s (by omega)
        · intro S' hq
          exact ⟨hq.1, fun q j hn2 => by rw [hq.2 q j hn2, up2_n (by omega)]⟩
      have h26 : p k = tk p L' k → Ok (m_ladle_16_b26 (m_ladle_16_h9 n) (nI L) (nI b) v4 (nI (sm6 p)) (nI k) S) (fun S' => (∀ s, s < 6 → S' 16 (b + s) = nI (tk p L' s) ∧ S' 15 s = nI (p s - tk p L' s)) ∧ Fr (fun q j => (q = 15 ∧ j < 6) ∨ (q = 16 ∧ b ≤ j ∧ j < b + 6)) S S') := by
        intro e
        unfold m_ladle_16_b26
        simp (disch := omega) only [ckI, nI_clamp]
        exact key _ (by rw [hS k (by omega), ← e])
      rcases hv with ⟨e4, eL⟩ | ⟨e4, eL⟩
      · rw [if_pos e4]
        simp only [nI_ltE (show L < 2 ^ 31 by omega) (show sm6 p < 2 ^ 31 by omega)]
        refine ok_if (fun h1 => ?_) (fun h1 => h26 ?_)
        · have h3 := hp k (by omega)
          have h4 : p k * L ≤ 1200 * 99 := Nat.mul_le_mul h3 (by omega)
          simp (disch := omega) only [ckI, nI_clamp]
          rw [dv_in (by rw [show (0 : Int32) = nI 0 from rfl, Ne, nI_eqE (by omega) (by omega)]; omega)]
          refine key _ ?_
          rw [hS k (by omega), pk_mul, pk_div (by omega) (by omega) (by omega)]
          unfold tk
          rw [if_neg (by omega), eL]
        · rw [tk_all (by omega)]
      · rw [if_neg (by rw [e4]; decide)]
        exact h26 (by rw [tk_all (by omega)])
theorem ladle16_ok {S : St} {p : Nat → Nat} {b L L' : Nat} {v4 : Int32} (hb : b + 6 ≤ 36) (hp : ∀ s, s < 6 → p s ≤ 1200) (hL : L ≤ 99) (hv : (v4 = nI 0 ∧ L' = L) ∨ (v4 = nI 1 ∧ L' = 2147483647)) (hS : ∀ s, s < 6 → S 15 s = nI (p s)) :
    Ok (m_ladle_16 (nI L) (nI b) v4 S) (fun S' => (∀ s, s < 6 → S' 16 (b + s) = nI (tk p L' s) ∧ S' 15 s = nI (p s - tk p L' s)) ∧ Fr (fun q j => (q = 15 ∧ j < 6) ∨ (q = 16 ∧ b ≤ j ∧ j < b + 6)) S S') := by
  unfold m_ladle_16
  rw [allIn_eq hS, bI_some]
  simp only [lits]
  exact ladle16_h9 hb hp hL hv FU 0 S (by omega) (by unfold FU; omega) hS (fun s hs => by omega)
theorem ladle18_h67 {p t : Nat → Nat} {b : Nat} (hb : b + 6 ≤ 6) (hle : ∀ s, s < 6 → t s ≤ p s) : ∀ (n k : Nat) (S : St), k ≤ 6 → 6 < n + k → (∀ s, k ≤ s → s < 6 → S 15 s = nI (p s)) → (∀ s, s < 6 → S 18 (b + s) = nI (t s)) →
    Ok (m_ladle_18_h67 n (nI b) (nI k) S) (fun S' => (∀ s, k ≤ s → s < 6 → S' 15 s = nI (p s - t s)) ∧ (∀ q j, ¬ (q = 15 ∧ k ≤ j ∧ j < 6) → S' q j = S q j)) := by
  intro n
  induction n with
  | zero => intro k S hk hn; omega
  | succ n ih =>
    intro k S hk hn hS hT
    unfold m_ladle_18_h67
    simp only [lits]
    by_cases h6 : k = 6
    · subst h6
      rw [if_pos (by decide)]
      exact ok_some ⟨fun s h1 h2 => by omega, fun q j _ => rfl⟩
    · rw [if_neg (by rw [nI_ltE (by omega) (by omega)]; omega)]
      simp (disch := omega) only [ckI, nI_add, nI_clamp, bnd_eq]
      rw [hS k (by omega) (by omega), hT k (by omega), pk_sub (hle k (by omega))]
      refine (ih (k + 1) _ (by omega) (by omega) ?_ ?_).mono ?_
      · intro s h1 h2
        rw [up2_k (by omega)]; exact hS s (by omega) h2
      · intro s hs
        rw [up2_o (by omega)]; exact hT s hs
      · intro S' hq
        refine ⟨fun s h1 h2 => ?_, fun q j hn2 => ?_⟩
        · by_cases hsk : s = k
          · subst hsk
            rw [hq.2 15 s (by omega), up2_hit rfl rfl]
          · exact hq.1 s (by omega) h2
        · rw [hq.2 q j (by omega), up2_n (by omega)]
theorem ladle18_h9 {p : Nat → Nat} {b L L' : Nat} {v4 : Int32} (hb : b + 6 ≤ 6) (hp : ∀ s, s < 6 → p s ≤ 1200) (hL : L ≤ 99) (hv : (v4 = nI 0 ∧ L' = L) ∨ (v4 = nI 1 ∧ L' = 2147483647)) : ∀ (n k : Nat) (S : St), k ≤ 6 → 6 < n + k → (∀ s, s < 6 → S 15 s = nI (p s)) → (∀ s, s < k → S 18 (b + s) = nI (tk p L' s)) →
    Ok (m_ladle_18_h9 n (nI L) (nI b) v4 (nI (sm6 p)) (nI k) S) (fun S' => (∀ s, s < 6 → S' 18 (b + s) = nI (tk p L' s) ∧ S' 15 s = nI (p s - tk p L' s)) ∧ Fr (fun q j => (q = 15 ∧ j < 6) ∨ (q = 18 ∧ b ≤ j ∧ j < b + 6)) S S') := by
  have hm := sm6_le hp
  intro n
  induction n with
  | zero => intro k S hk hn; omega
  | succ n ih =>
    intro k S hk hn hS hT
    unfold m_ladle_18_h9
    simp only [lits]
    by_cases h6 : k = 6
    · subst h6
      rw [if_pos (by decide)]
      refine (ladle18_h67 hb (fun s hs => tk_le p L' s hs) FU 0 S (by omega) (by unfold FU; omega) (fun s _ hs => hS s hs) hT).mono ?_
      intro S' hq
      refine ⟨fun s hs => ⟨?_, hq.1 s (by omega) hs⟩, fun q j hn2 => hq.2 q j (by omega)⟩
      rw [hq.2 _ _ (by omega)]; exact hT s hs
    · rw [if_neg (by rw [nI_ltE (by omega) (by omega)]; omega)]
      have key : ∀ x : Int32, x = nI (tk p L' k) → Ok (m_ladle_18_b48 (m_ladle_18_h9 n) (nI L) (nI b) v4 (nI (sm6 p)) (nI k) x S) (fun S' => (∀ s, s < 6 → S' 18 (b + s) = nI (tk p L' s) ∧ S' 15 s = nI (p s - tk p L' s)) ∧ Fr (fun q j => (q = 15 ∧ j < 6) ∨ (q = 18 ∧ b ≤ j ∧ j < b + 6)) S S') := by
        intro x hx
        subst hx
        unfold m_ladle_18_b48
        simp (disch := omega) only [lits, ckI, nI_add, nI_clamp, bnd_eq]
        refine (ih (k + 1) _ (by omega) (by omega) ?_ ?_).mono ?_
        · intro s hs
          rw [up2_o (by omega)]; exact hS s hs
        · intro s hs
          by_cases hsk : s = k
          · subst hsk
            exact up2_hit rfl rfl
          · rw [up2_k (by omega)]; exact hT s (by omega)
        · intro S' hq
          exact ⟨hq.1, fun q j hn2 => by rw [hq.2 q j hn2, up2_n (by omega)]⟩
      have h26 : p k = tk p L' k → Ok (m_ladle_18_b26 (m_ladle_18_h9 n) (nI L) (nI b) v4 (nI (sm6 p)) (nI k) S) (fun S' => (∀ s, s < 6 → S' 18 (b + s) = nI (tk p L' s) ∧ S' 15 s = nI (p s - tk p L' s)) ∧ Fr (fun q j => (q = 15 ∧ j < 6) ∨ (q = 18 ∧ b ≤ j ∧ j < b + 6)) S S') := by
        intro e
        unfold m_ladle_18_b26
        simp (disch := omega) only [ckI, nI_clamp]
        exact key _ (by rw [hS k (by omega), ← e])
      rcases hv with ⟨e4, eL⟩ | ⟨e4, eL⟩
      · rw [if_pos e4]
        simp only [nI_ltE (show L < 2 ^ 31 by omega) (show sm6 p < 2 ^ 31 by omega)]
        refine ok_if (fun h1 => ?_) (fun h1 => h26 ?_)
        · have h3 := hp k (by omega)
          have h4 : p k * L ≤ 1200 * 99 := Nat.mul_le_mul h3 (by omega)
          simp (disch := omega) only [ckI, nI_clamp]
          rw [dv_in (by rw [show (0 : Int32) = nI 0 from rfl, Ne, nI_eqE (by omega) (by omega)]; omega)]
          refine key _ ?_
          rw [hS k (by omega), pk_mul, pk_div (by omega) (by omega) (by omega)]
          unfold tk
          rw [if_neg (by omega), eL]
        · rw [tk_all (by omega)]
      · rw [if_neg (by rw [e4]; decide)]
        exact h26 (by rw [tk_all (by omega)])
theorem ladle18_ok {S : St} {p : Nat → Nat} {b L L' : Nat} {v4 : Int32} (hb : b + 6 ≤ 6) (hp : ∀ s, s < 6 → p s ≤ 1200) (hL : L ≤ 99) (hv : (v4 = nI 0 ∧ L' = L) ∨ (v4 = nI 1 ∧ L' = 2147483647)) (hS : ∀ s, s < 6 → S 15 s = nI (p s)) :
    Ok (m_ladle_18 (nI L) (nI b) v4 S) (fun S' => (∀ s, s < 6 → S' 18 (b + s) = nI (tk p L' s) ∧ S' 15 s = nI (p s - tk p L' s)) ∧ Fr (fun q j => (q = 15 ∧ j < 6) ∨ (q = 18 ∧ b ≤ j ∧ j < b + 6)) S S') := by
  unfold m_ladle_18
  rw [allIn_eq hS, bI_some]
  simp only [lits]
  exact ladle18_h9 hb hp hL hv FU 0 S (by omega) (by unfold FU; omega) hS (fun s hs => by omega)
def Mq (T : St) (X : Cf) : Prop := T 0 24 = nI (X 0 0) ∧ T 9 0 = nI (X 0 1) ∧ T 9 1 = nI (X 0 2) ∧ T 9 2 = nI (X 0 3) ∧ (∀ s, s < 5 → T 5 s = nI (X 1 s)) ∧ (∀ h, h < X 0 0 → T 7 (8 * h + 5) = nI (X 2 h) ∧ T 7 (8 * h + 6) = nI (X 3 h) ∧ T 7 (8 * h + 7) = nI (X 4 h) ∧ T 12 h = nI (X 7 h) ∧ ∀ s, s < 5 → T 7 (8 * h + s) = nI (X (10 + h) s)) ∧ (∀ p, p < X 0 0 → T 11 p = nI (X 6 p))
/-- the reference's fields and rows that a noon or a meal writes -/
def scrM : Nat → Nat → Prop := fun q j => (q = 0 ∧ (j = 0 ∨ j = 5 ∨ (8 ≤ j ∧ j ≤ 14) ∨ j = 17 ∨ j = 39)) ∨ q = 4 ∨ (15 ≤ q ∧ q ≤ 19)
theorem Mq.fr {T T' : St} {X : Cf} (h : Mq T X) (hf : ∀ q j, (q = 0 ∧ j = 24) ∨ q = 9 ∨ q = 5 ∨ q = 7 ∨ q = 12 ∨ q = 11 → T' q j = T q j) : Mq T' X := by
  obtain ⟨h1, h2, h3, h4, h6, h7, h8⟩ := h
  refine ⟨?_, ?_, ?_, ?_, fun s hs => ?_, fun a ha => ⟨?_, ?_, ?_, ?_, fun s hs => ?_⟩, fun p hp => ?_⟩
  · rw [hf _ _ (by omega)]; exact h1
  · rw [hf _ _ (by omega)]; exact h2
  · rw [hf _ _ (by omega)]; exact h3
  · rw [hf _ _ (by omega)]; exact h4
  · rw [hf _ _ (by omega)]; exact h6 s hs
  · rw [hf _ _ (by omega)]; exact (h7 a ha).1
  · rw [hf _ _ (by omega)]; exact (h7 a ha).2.1
  · rw [hf _ _ (by omega)]; exact (h7 a ha).2.2.1
  · rw [hf _ _ (by omega)]; exact (h7 a ha).2.2.2.1
  · rw [hf _ _ (by omega)]; exact (h7 a ha).2.2.2.2 s hs
  · rw [hf _ _ (by omega)]; exact h8 p hp
def Mps (T : St) (X : Cf) : Prop := (T 0 40 = nI (X 0 5) ∨ (X 0 5 = 99 ∧ T 0 40 = -nI 1)) ∧ (X 0 5 ≠ 99 → T 0 41 = nI (X 0 6)) ∧ (T 0 42 = nI (X 0 7) ∨ (X 0 7 = 99 ∧ T 0 42 = -nI 1)) ∧ (X 0 7 ≠ 99 → T 0 43 = nI (X 0 8)) ∧ X 0 5 ≤ 99 ∧ X 0 7 ≤ 99
theorem Mps.fr {S S' : St} {X : Cf} (h : Mps S X) (hf : ∀ j, 40 ≤ j → S' 0 j = S 0 j) : Mps S' X := by
  unfold Mps
  rw [hf 40 (by omega), hf 41 (by omega), hf 42 (by omega), hf 43 (by omega)]
  exact h
/-- the results, by place -/
def Mres (T : St) (X : Cf) (k : Nat) : Prop := (∀ pl, pl < k → (∀ s, s < 6 → T 16 (6 * X 6 pl + s) = nI (gtP X pl s)) ∧ T 17 (X 6 pl) = nI (100 - X 0 3 * pl) ∧ T 19 (X 6 pl) = (if pl + 1 < X 0 0 ∧ dP X (X 6 pl) then nI (X 7 (X 6 pl)) else nI 9)) ∧ (X 0 7 < k → ∀ s, s < 6 → T 18 s = nI (sgP X s))
def nnM : Nat → Nat → Prop := fun q j => (q = 0 ∧ j = 39) ∨ (15 ≤ q ∧ q ≤ 19)
