/-! a street's text, from its begin -/
theorem Fr.upR {P : Nat → Nat → Prop} {S S' : St} {o : Nat} {f : Nat → Int32} (h : Fr P S S') (hp : ∀ j, P o j) : Fr P S (upR S' o f) := fun q j hq => by
  have hn : q ≠ o := by
    rintro rfl
    exact hq (hp j)
  rw [upR_ne _ _ hn]
  exact h q j hq
theorem ro_us : (∀ k, k < 5 → roV 0 k = nI (puN k)) ∧ (∀ k, k < 3 → roV 1 k = nI (luN k)) ∧ (∀ k, k < 8 → roV 2 k = nI (usN k)) := by decide +kernel
theorem rl_us : (roL 0).length = 5 ∧ (roL 1).length = 3 ∧ (roL 2).length = 8 := by decide
theorem begin_h51 : ∀ (n k : Nat) (S : St), k ≤ 6 → 6 < n + k → ∃ S', c_StreetReader_begin_h51 n (nI k) S = some S' ∧ (∀ h, k ≤ h → h < 6 → ∀ j, j < 8 → S' (6 + h) j = nI (usN j)) ∧ Fr (fun q _ => 6 + k ≤ q ∧ q < 12) S S' := by
  intro n
  induction n with
  | zero => intro k S h1 h2; omega
  | succ n ih =>
    intro k S h1 h2
    rw [c_StreetReader_begin_h51]
    simp only [lits, bnd_eq]
    by_cases hk : k < 6
    · rw [if_neg (show ¬ nI 6 ≤ nI k from nI_ge hk (by omega)), ckI hk (by omega), rl_us.2.2, cpI (by omega) (by omega) (by omega) (by omega), nI_clamp (by omega), nI_clamp (by omega), nI_clamp (by omega), nI_add]
      obtain ⟨S', e, g1, g2⟩ := ih (k + 1) (upR S (6 + k) (cpy (roV 2) (S (6 + k)) 0 0 8)) (by omega) (by omega)
      refine ⟨S', e, fun h hh1 hh2 j hj => ?_, fun q j hp => ?_⟩
      · by_cases e1 : h = k
        · subst e1
          rw [g2 _ _ (by omega), upR_self, cpyE hj]; exact ro_us.2.2 j hj
        · exact g1 h (by omega) hh2 j hj
      · rw [g2 _ _ (by omega), upR_ne _ _ (by omega)]
    · rw [if_pos (show nI 6 ≤ nI k by rw [nI_leE (by omega) (by omega)]; omega)]
      exact ⟨S, rfl, fun h _ _ => by omega, Fr.rfl⟩
theorem beginS_ok (S : St) : ∃ S', c_StreetReader_begin S = some S' ∧ (∀ k, k < 5 → S' 4 k = nI (puN k)) ∧ (∀ k, k < 3 → S' 12 k = nI (luN k)) ∧ (∀ h, h < 6 → ∀ k, k < 8 → S' (6 + h) k = nI (usN k)) ∧ S' 3 5 = nI 0 ∧ S' 3 6 = nI 0 ∧ S' 3 7 = nI 0 ∧ Fr (fun q j => (q = 3 ∧ 5 ≤ j ∧ j ≤ 7) ∨ (4 ≤ q ∧ q ≤ 12)) S S' := by
  unfold c_StreetReader_begin
  simp only [lits, bnd_eq]
  rw [rl_us.1, rl_us.2.1, cpI (by omega) (by omega) (by omega) (by omega), cpI (by omega) (by omega) (by omega) (by omega), nI_clamp (by omega), nI_clamp (by omega), nI_clamp (by omega)]
  obtain ⟨S', e, g1, g2⟩ := begin_h51 FU 0 (upR (upR (up2 (up2 (up2 S 3 5 (nI 0)) 3 6 (nI 0)) 3 7 (nI 0)) 4 (cpy (roV 0) ((up2 (up2 (up2 S 3 5 (nI 0)) 3 6 (nI 0)) 3 7 (nI 0)) 4) 0 0 5)) 12 (cpy (roV 1) ((upR (up2 (up2 (up2 S 3 5 (nI 0)) 3 6 (nI 0)) 3 7 (nI 0)) 4 (cpy (roV 0) ((up2 (up2 (up2 S 3 5 (nI 0)) 3 6 (nI 0)) 3 7 (nI 0)) 4) 0 0 5)) 12) 0 0 3)) (by omega) (by unfold FU; omega)
  refine ⟨S', e, fun k hk => ?_, fun k hk => ?_, fun h hh k hk => g1 h (by omega) hh k hk, ?_, ?_, ?_, fun q j hp => ?_⟩
  · rw [g2 _ _ (by omega), upR_ne _ _ (by omega), upR_self, cpyE hk]; exact ro_us.1 k hk
  · rw [g2 _ _ (by omega), upR_self, cpyE hk]; exact ro_us.2.1 k hk
  · rw [g2 _ _ (by omega), upR_ne _ _ (by omega), upR_ne _ _ (by omega), up2_k (by omega), up2_k (by omega), up2_hit rfl rfl]
  · rw [g2 _ _ (by omega), upR_ne _ _ (by omega), upR_ne _ _ (by omega), up2_k (by omega), up2_hit rfl rfl]
  · rw [g2 _ _ (by omega), upR_ne _ _ (by omega), upR_ne _ _ (by omega), up2_hit rfl rfl]
  · rw [g2 _ _ (by omega), upR_ne _ _ (by omega), upR_ne _ _ (by omega), up2_n (by omega), up2_n (by omega), up2_n (by omega)]
theorem street_h30 : ∀ (n k : Nat) (T : St), k ≤ 5 → 5 < n + k → ∃ T', m_readStreet_h30 n (nI k) T = m_readStreet_h81 FU (nI 1) T' ∧ (∀ j, k ≤ j → j < 5 → T' 6 j = nI (puN j)) ∧ (∀ j, j < 3 → T' 10 j = nI (luN j)) ∧ Fr (fun q j => (q = 6 ∧ k ≤ j ∧ j < 5) ∨ (q = 10 ∧ j < 3)) T T' := by
  intro n
  induction n with
  | zero => intro k T h1 h2; omega
  | succ n ih =>
    intro k T h1 h2
    rw [m_readStreet_h30]
    unfold m_readStreet_b50
    have l50 : (50 : Int32) = nI 50 := rfl
    simp only [lits, bnd_eq, l50]
    by_cases hk : k < 5
    · have key : (if nI k = nI 0 then ckM (nI k) 5 (m_readStreet_h30 n (nI k + nI 1) (up2 T 6 (nI k).toNatClampNeg (nI 50))) else ckM (nI k) 5 (m_readStreet_h30 n (nI k + nI 1) (up2 T 6 (nI k).toNatClampNeg (nI 0)))) = m_readStreet_h30 n (nI (k + 1)) (up2 T 6 k (nI (puN k))) := by
        rw [ckI hk (by omega), ckI hk (by omega), nI_clamp (by omega), nI_add]
        simp only [nI_eqE (show k < 2 ^ 31 by omega) (show 0 < 2 ^ 31 by omega)]
        unfold puN
        by_cases h0 : k = 0
        · rw [if_pos h0, if_pos h0]
        · rw [if_neg h0, if_neg h0]
      rw [if_neg (show ¬ nI 5 ≤ nI k from nI_ge hk (by omega)), key]
      obtain ⟨T', e, g1, g2, g3⟩ := ih (k + 1) (up2 T 6 k (nI (puN k))) (by omega) (by omega)
      refine ⟨T', e, fun j hj1 hj2 => ?_, g2, fun q j hp => ?_⟩
      · by_cases e1 : j = k
        · subst e1
          rw [g3 _ _ (by omega)]; exact up2_hit rfl rfl
        · exact g1 j (by omega) hj2
      · rw [g3 _ _ (by omega)]; exact up2_n (by omega)
    · rw [if_pos (show nI 5 ≤ nI k by rw [nI_leE (by omega) (by omega)]; omega), ckI (by omega) (by omega), ckI (by omega) (by omega), ckI (by omega) (by omega), nI_clamp (by omega), nI_clamp (by omega), nI_clamp (by omega)]
      refine ⟨_, rfl, fun j _ _ => by omega, fun j hj => ?_, fun q j hp => ?_⟩
      · match j, hj with
        | 0, _ => rw [up2_k (by omega), up2_k (by omega), up2_hit rfl rfl]; rfl
        | 1, _ => rw [up2_k (by omega), up2_hit rfl rfl]; rfl
        | 2, _ => rw [up2_hit rfl rfl]; rfl
      · rw [up2_n (by omega), up2_n (by omega), up2_n (by omega)]
section READ
variable {b : Nat → Nat} {L : Nat}
theorem street_ls (t : Txt b L) {S T : St} (pt : PT b L S) (hT : T 0 6 = nI L) (ht : ∀ k, k < L → T 1 k = sb (b k)) :
    ∃ r S' T', c_Reader_read_3 S = some (r, S') ∧ m_readStreet T = some T' ∧ Fr cSt S S' ∧ Fr mSt T T' ∧ T' 0 11 = r ∧ ((r = -nI 1 ∧ ∃ hc', 0 < hc' ∧ SRr hc' S' T') ∨ ∃ f, f ≤ L ∧ r = nI f) := by
  have hL := t.1
  unfold c_Reader_read_3 m_readStreet m_opens_1
  simp only [lits, bnd_eq, bV_some]
  obtain ⟨S1, e1, b1, b2, b3, b4, b5, b6, fb⟩ := beginS_ok (up2 S 3 1 (nI 0))
  rw [e1, bV_some, hT]
  obtain ⟨T1, e2, c1, c2, fc⟩ := street_h30 FU 0 (up2 (up2 (up2 (up2 (up2 (up2 (up2 (up2 T 0 5 (nI 0)) 0 8 (nI 0)) 0 9 (nI L)) 0 10 (nI 0)) 0 11 (-nI 1)) 0 25 (nI 0)) 0 26 (nI 0)) 0 27 (nI 0)) (by omega) (by unfold FU; omega)
  rw [e2]
  have qT : ∀ q j, q ≠ 6 → q ≠ 10 → ¬ (q = 0 ∧ (j = 5 ∨ (8 ≤ j ∧ j ≤ 11) ∨ (25 ≤ j ∧ j ≤ 27))) → T1 q j = T q j := fun q j h1 h2 h3 => by
    rw [fc q j (by omega), up2_n (by omega), up2_n (by omega), up2_n (by omega), up2_n (by omega), up2_n (by omega), up2_n (by omega), up2_n (by omega), up2_n (by omega)]
  have qT0 : ∀ j, T1 0 j = (up2 (up2 (up2 (up2 (up2 (up2 (up2 (up2 T 0 5 (nI 0)) 0 8 (nI 0)) 0 9 (nI L)) 0 10 (nI 0)) 0 11 (-nI 1)) 0 25 (nI 0)) 0 26 (nI 0)) 0 27 (nI 0)) 0 j := fun j => fc 0 j (by omega)
  have pm : PMt b L 0 0 T1 := by
    refine ⟨?_, ?_, ?_, fun k hk => ?_, Or.inl ⟨rfl, by omega⟩⟩
    · rw [qT0]; simp (disch := omega) only [up2_k, up2_hit]
    · rw [qT0]; simp (disch := omega) only [up2_k, up2_hit]
    · rw [qT0]; simp (disch := omega) only [up2_k, up2_hit]
    · rw [qT _ _ (by omega) (by omega) (by omega), show 0 + k = k by omega]; exact ht k hk
  have fcS : Fr cSt S S1 := (Fr.rfl.up (Or.inl ⟨rfl, Or.inl rfl⟩)).tr (fb.mono (fun q j h => by unfold cSt; omega))
  have fmT : Fr mSt T T1 := fun q j h => qT q j (by unfold mSt at h; omega) (by unfold mSt at h; omega) (by unfold mSt at h; omega)
  have sr : SR b L 0 0 S1 T1 := by
    refine ⟨pt.fr (fun q j hq => fcS q j (by unfold cSt; omega)), by rw [fb _ _ (by omega)]; exact up2_hit rfl rfl, by omega, pm, ?_, ?_, by omega, b4, ?_, ⟨0, by omega, b5, ?_⟩, ⟨0, by omega, b6, ?_⟩, fun k hk => ⟨puN k, b1 k hk, by rw [show 0 + k = k by omega]; exact c1 k (by omega) hk, ?_, ?_⟩, fun k hk => ⟨luN k, b2 k hk, by rw [show 0 + k = k by omega]; exact c2 k hk, ?_, ?_⟩, fun h hh => by omega, fun h _ h6 k hk => b3 h h6 k hk⟩
    · rw [qT0]; simp (disch := omega) only [up2_k, up2_hit]
    · rw [qT0]; simp (disch := omega) only [up2_k, up2_hit]
    · rw [qT0]; simp (disch := omega) only [up2_k, up2_hit]
    · rw [qT0]; simp (disch := omega) only [up2_k, up2_hit]
    · rw [qT0]; simp (disch := omega) only [up2_k, up2_hit]
    · unfold lsN; rw [if_neg (by omega)]; omega
    · unfold msN puN; repeat' split
      all_goals omega
    · unfold lsN luN; repeat' split
      all_goals omega
    · unfold msN luN; repeat' split
      all_goals omega
  obtain ⟨r, S', T', q1, q2, q3, q4, q5, q6⟩ := street_loop t FU FU 0 S1 T1 0 0 sr (by omega) (by omega) (by unfold FU; omega) (by unfold FU; omega)
  exact ⟨r, S', T', q1, q2, fcS.tr q3, fmT.tr q4, q5, q6⟩
end READ
