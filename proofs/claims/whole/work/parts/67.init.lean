/-! the two new objects -/
def x0X : Cf := fun q j => if q = 0 ∧ (j = 5 ∨ j = 7) then 99 else 0
theorem x0_n {q j : Nat} (h : ¬ (q = 0 ∧ (j = 5 ∨ j = 7))) : x0X q j = 0 := if_neg h
theorem rel_init {S T : St} (hS : ∀ q j, kC q j → S q j = (if (q = 0 ∧ j = 5) ∨ (q = 111 ∧ j = 6) then -nI 1 else nI 0)) (hT : ∀ q j, kM q j → T q j = (if q = 0 ∧ (j = 31 ∨ j = 40 ∨ j = 42) then -nI 1 else nI 0)) : Rel S T := by
  have s0 : ∀ q j, kC q j → ¬ ((q = 0 ∧ j = 5) ∨ (q = 111 ∧ j = 6)) → S q j = nI 0 := fun q j h1 h2 => (hS q j h1).trans (if_neg h2)
  have t0 : ∀ q j, kM q j → ¬ (q = 0 ∧ (j = 31 ∨ j = 40 ∨ j = 42)) → T q j = nI 0 := fun q j h1 h2 => (hT q j h1).trans (if_neg h2)
  have z : x0X 0 0 = 0 := rfl
  have lw : Lw x0X := by
    refine ⟨⟨?_, ?_, ?_, ?_, ?_, ?_, ?_, fun s _ => ?_, fun h hh => ?_, fun p hp => ?_, fun p q hp => ?_⟩, ⟨rfl, rfl⟩, ?_, fun _ => ⟨rfl, rfl, rfl⟩, fun h => ?_⟩
    · show 0 ≤ 6; omega
    · show 0 ≤ 30; omega
    · show 0 ≤ 1; omega
    · show 0 ≤ 20; omega
    · show 0 ≤ 1100; omega
    · show 0 ≤ 99; omega
    · show 0 ≤ 99; omega
    · rw [x0_n (by omega)]; omega
    · rw [z] at hh; omega
    · rw [z] at hp; omega
    · rw [z] at hp; omega
    · show 0 ≤ 999; omega
    · rw [z] at h; omega
  refine ⟨x0X, plainE, ⟨fun _ => 0, 0, ⟨by omega, fun k hk => by omega⟩, ⟨s0 1 1 (by unfold kC; omega) (by omega), fun k hk => by omega⟩, t0 0 6 (by unfold kM; omega) (by omega), fun k hk => by omega⟩, ⟨?_, ?_, lw, t0 0 32 (by unfold kM; omega) (by omega), ?_, ?_⟩, ⟨0, by omega, s0 0 4 (by unfold kC; omega) (by omega), t0 0 7 (by unfold kM; omega) (by omega), fun j hj => by omega, Or.inl ⟨?_, ?_, ?_, rfl⟩⟩, fun a ha => ?_, ⟨0, 0, by omega, by omega, by omega, s0 48 2 (by unfold kC; omega) (by omega), s0 48 3 (by unfold kC; omega) (by omega), t0 0 46 (by unfold kM; omega) (by omega), fun i hi => by omega⟩, Or.inl ⟨s0 0 10 (by unfold kC; omega) (by omega), t0 0 58 (by unfold kM; omega) (by omega)⟩⟩
  · refine ⟨s0 _ _ (by unfold kC; omega) (by omega), s0 _ _ (by unfold kC; omega) (by omega), s0 _ _ (by unfold kC; omega) (by omega), s0 _ _ (by unfold kC; omega) (by omega), s0 _ _ (by unfold kC; omega) (by omega), fun s hs => ?_, fun a ha => ?_, fun p hp => ?_⟩
    · rw [x0_n (by omega)]; exact s0 _ _ (by unfold kC; omega) (by omega)
    · rw [z] at ha; omega
    · rw [z] at hp; omega
  · refine ⟨t0 _ _ (by unfold kM; omega) (by omega), t0 _ _ (by unfold kM; omega) (by omega), t0 _ _ (by unfold kM; omega) (by omega), t0 _ _ (by unfold kM; omega) (by omega), fun s hs => ?_, fun a ha => ?_, fun p hp => ?_⟩
    · rw [x0_n (by omega)]; exact t0 _ _ (by unfold kM; omega) (by omega)
    · rw [z] at ha; omega
    · rw [z] at hp; omega
  · exact (hT 0 40 (by unfold kM; omega)).trans (if_pos (by omega))
  · exact (hT 0 42 (by unfold kM; omega)).trans (if_pos (by omega))
  · exact (hS 0 5 (by unfold kC; omega)).trans (if_pos (by omega))
  · exact (hS 111 6 (by unfold kC; omega)).trans (if_pos (by omega))
  · exact (hT 0 31 (by unfold kM; omega)).trans (if_pos (by omega))
  · rw [z] at ha; omega
