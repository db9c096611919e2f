/-! THE CLASS'S NOON: it is the noon on paper -/
set_option maxHeartbeats 4000000 in
theorem scoop_h50 {o0 o1 o2 : Nat} (h01 : o0 ≠ o1) (h12 : o1 ≠ o2) (p t : Nat → Nat) (v1 v4 v5 : Int32)
    (ht : ∀ s, s < 6 → (v5 = nI 0 → v4 ≠ nI 0 ∧ nI (p s) * v1 / v4 = nI (t s)) ∧ (v5 ≠ nI 0 → p s = t s)) (hle : ∀ s, s < 6 → t s ≤ p s) :
    ∀ (n k : Nat) (S : St), k ≤ 6 → 6 < n + k → (∀ s, k ≤ s → s < 6 → S o0 s = nI (p s)) →
    Ok (c_Noon_scoop_h50 o0 o1 o2 n v1 v4 v5 (nI k) S) (fun S' => (∀ s, k ≤ s → s < 6 → S' o1 s = nI (t s) ∧ S' o2 s = nI (p s - t s)) ∧ (∀ q j, ¬ ((q = o1 ∨ q = o2) ∧ k ≤ j ∧ j < 6) → S' q j = S q j)) := by
  intro n
  induction n with
  | zero => intro k S hk hn; omega
  | succ n ih =>
    intro k S hk hn hS
    unfold c_Noon_scoop_h50
    simp only [lits]
    by_cases h6 : k = 6
    · subst h6
      simp (disch := omega) only [nI_leE, if_true, Nat.le_refl]
      exact ok_some ⟨fun s h1 h2 => by omega, fun q j _ => rfl⟩
    · have hk6 : k < 6 := by omega
      have hSk := hS k (Nat.le_refl k) hk6
      have key : ∀ (x : Int32), x = nI (t k) → Ok (c_Noon_scoop_b81 o0 o1 o2 (c_Noon_scoop_h50 o0 o1 o2 n) v1 v4 v5 (nI k) x (nI k) S) (fun S' => (∀ s, k ≤ s → s < 6 → S' o1 s = nI (t s) ∧ S' o2 s = nI (p s - t s)) ∧ (∀ q j, ¬ ((q = o1 ∨ q = o2) ∧ k ≤ j ∧ j < 6) → S' q j = S q j)) := by
        intro x hx
        subst hx
        unfold c_Noon_scoop_b81
        simp (disch := omega) only [lits, ckI, bnd_eq, nI_clamp, nI_add]
        have e1 : up2 S o1 k (nI (t k)) o0 k = nI (p k) := by rw [up2_o h01]; exact hSk
        have e2 : up2 S o1 k (nI (t k)) o1 k = nI (t k) := up2_hit rfl rfl
        rw [e1, e2, pk_sub (hle k hk6)]
        refine (ih (k + 1) _ (by omega) (by omega) ?_).mono ?_
        · intro s h1 h2
          rw [up2_k (by omega), up2_k (by omega)]
          exact hS s (by omega) h2
        · intro S' hq
          refine ⟨fun s h1 h2 => ?_, fun q j hn2 => ?_⟩
          · by_cases hsk : s = k
            · subst hsk
              rw [hq.2 o1 s (by omega), hq.2 o2 s (by omega)]
              rw [up2_o h12, up2_hit rfl rfl, up2_hit rfl rfl]
              exact ⟨rfl, rfl⟩
            · exact hq.1 s (by omega) h2
          · rw [hq.2 q j (by omega), up2_n (by omega), up2_n (by omega)]
      have hl : ¬ (nI 6 ≤ nI k) := by rw [nI_leE (by omega) (by omega)]; omega
      rw [if_neg hl]
      simp (disch := omega) only [ckI, nI_clamp]
      rw [hSk]
      by_cases h5 : v5 = nI 0
      · rw [if_pos h5, dv_in ((ht k hk6).1 h5).1]
        exact key _ ((ht k hk6).1 h5).2
      · rw [if_neg h5]
        exact key _ (congrArg nI ((ht k hk6).2 h5))
theorem sm6_le {p : Nat → Nat} {B : Nat} (h : ∀ s, s < 6 → p s ≤ B) : sm6 p ≤ 6 * B := by
  unfold sm6
  have h0 := h 0 (by omega)
  have h1 := h 1 (by omega)
  have h2 := h 2 (by omega)
  have h3 := h 3 (by omega)
  have h4 := h 4 (by omega)
  have h5 := h 5 (by omega)
  omega
theorem tk_all {p : Nat → Nat} {L s : Nat} (h : sm6 p ≤ L) : tk p L s = p s := if_pos h
theorem sm6_0 {p : Nat → Nat} (h : sm6 p < 1) (s : Nat) (hs : s < 6) : p s = 0 := by
  unfold sm6 at h
  match s, hs with
  | 0, _ => omega
  | 1, _ => omega
  | 2, _ => omega
  | 3, _ => omega
  | 4, _ => omega
  | 5, _ => omega
theorem scoop_h6s {o0 o1 o2 : Nat} {S : St} {v1 v4 : Int32} {n k : Nat} (hk : k < 6) : c_Noon_scoop_h6 o0 o1 o2 (n + 1) v1 v4 (nI k) S = c_Noon_scoop_h6 o0 o1 o2 n v1 (v4 + S o0 k) (nI (k + 1)) S := by
  rw [c_Noon_scoop_h6]
  simp only [lits]
  rw [if_neg (by rw [nI_leE (by omega) (by omega)]; omega), ckI hk (by omega), bnd_eq, bnd_eq, nI_clamp (by omega), nI_add]
theorem scoop_h6 {o0 o1 o2 : Nat} {S : St} {p : Nat → Nat} {v1 : Int32} (hS : ∀ s, s < 6 → S o0 s = nI (p s)) (n : Nat) : c_Noon_scoop_h6 o0 o1 o2 (n + 7) v1 (nI 0) (nI 0) S = if nI (sm6 p) < nI 1 then c_Noon_scoop_b40 o0 o1 o2 v1 (nI (sm6 p)) S else if v1 < nI (sm6 p) then c_Noon_scoop_b45 o0 o1 o2 v1 (nI (sm6 p)) (nI 0) S else c_Noon_scoop_b40 o0 o1 o2 v1 (nI (sm6 p)) S := by
  rw [scoop_h6s (by omega), scoop_h6s (by omega), scoop_h6s (by omega), scoop_h6s (by omega), scoop_h6s (by omega), scoop_h6s (by omega), c_Noon_scoop_h6]
  have es : nI 0 + S o0 0 + S o0 (0 + 1) + S o0 (0 + 1 + 1) + S o0 (0 + 1 + 1 + 1) + S o0 (0 + 1 + 1 + 1 + 1) + S o0 (0 + 1 + 1 + 1 + 1 + 1) = nI (sm6 p) := by
    rw [hS 0 (by omega), hS (0 + 1) (by omega), hS (0 + 1 + 1) (by omega), hS (0 + 1 + 1 + 1) (by omega), hS (0 + 1 + 1 + 1 + 1) (by omega), hS (0 + 1 + 1 + 1 + 1 + 1) (by omega)]
    unfold sm6
    simp only [nI_add, Nat.zero_add, Nat.reduceAdd]
  rw [es]
  exact if_pos (by decide)
theorem scoop_ok {o0 o1 o2 : Nat} (h01 : o0 ≠ o1) (h12 : o1 ≠ o2) {S : St} {p : Nat → Nat} {L : Nat} (hL : L < 2 ^ 31) (hS : ∀ s, s < 6 → S o0 s = nI (p s)) (hp : ∀ s, s < 6 → p s ≤ 1200) :
    Ok (c_Noon_scoop o0 o1 o2 (nI L) S) (fun S' => (∀ s, s < 6 → S' o1 s = nI (tk p L s) ∧ S' o2 s = nI (p s - tk p L s)) ∧ Fr (fun q j => (q = o1 ∨ q = o2) ∧ j < 6) S S') := by
  have hm := sm6_le hp
  have fin : ∀ (v5 : Int32), (∀ s, s < 6 → (v5 = nI 0 → nI (sm6 p) ≠ nI 0 ∧ nI (p s) * nI L / nI (sm6 p) = nI (tk p L s)) ∧ (v5 ≠ nI 0 → p s = tk p L s)) → Ok (c_Noon_scoop_b45 o0 o1 o2 (nI L) (nI (sm6 p)) v5 S) (fun S' => (∀ s, s < 6 → S' o1 s = nI (tk p L s) ∧ S' o2 s = nI (p s - tk p L s)) ∧ Fr (fun q j => (q = o1 ∨ q = o2) ∧ j < 6) S S') := by
    intro v5 h
    unfold c_Noon_scoop_b45
    simp only [lits]
    refine (scoop_h50 h01 h12 p (tk p L) (nI L) (nI (sm6 p)) v5 h (fun s hs => tk_le p L s hs) FU 0 S (by omega) (by unfold FU; omega) (fun s _ hs => hS s hs)).mono ?_
    intro S' hq
    exact ⟨fun s hs => hq.1 s (by omega) hs, fun q j hn => hq.2 q j (by omega)⟩
  unfold c_Noon_scoop
  simp only [lits]
  rw [show FU = 993 + 7 from rfl, scoop_h6 hS 993]
  have all : (∀ s, s < 6 → p s = tk p L s) → Ok (c_Noon_scoop_b40 o0 o1 o2 (nI L) (nI (sm6 p)) S) (fun S' => (∀ s, s < 6 → S' o1 s = nI (tk p L s) ∧ S' o2 s = nI (p s - tk p L s)) ∧ Fr (fun q j => (q = o1 ∨ q = o2) ∧ j < 6) S S') := by
    intro h
    unfold c_Noon_scoop_b40
    simp only [lits]
    exact fin (nI 1) (fun s hs => ⟨fun hc => absurd hc (by decide), fun _ => h s hs⟩)
  simp only [nI_ltE (show sm6 p < 2 ^ 31 by omega) (show 1 < 2 ^ 31 by omega), nI_ltE hL (show sm6 p < 2 ^ 31 by omega)]
  refine ok_if (fun h1 => all (fun s hs => ?_)) (fun h1 => ok_if (fun h2 => fin (nI 0) (fun s hs => ⟨fun _ => ⟨?_, ?_⟩, fun hc => absurd rfl hc⟩)) (fun h2 => all (fun s hs => ?_)))
  · rw [tk_all (show sm6 p ≤ L by omega)]
  · rw [Ne, nI_eqE (by omega) (by omega)]; omega
  · have h3 := hp s hs
    have h4 : p s * L ≤ 1200 * 7200 := Nat.mul_le_mul h3 (by omega)
    rw [pk_mul, pk_div (by omega) (by omega) (by omega)]
    unfold tk
    rw [if_neg (by omega)]
  · rw [tk_all (by omega)]
