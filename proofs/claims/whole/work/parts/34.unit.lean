/-! units of a condition -/
theorem lk_1 (nc : Nat) (v : Int32) (S : St) : c_lk (nc + 1) 1 v S = c_LikingReader_readComparison (c_lk nc) v S := by
  rw [c_lk, if_neg (by omega), if_pos rfl]
theorem lk_0 (nc : Nat) (v : Int32) (S : St) : c_lk (nc + 1) 0 v S = c_LikingReader_readUnit (c_lk nc) v S := by
  rw [c_lk, if_pos rfl]
theorem lk_2 (nc : Nat) (v : Int32) (S : St) : c_lk (nc + 1) 2 v S = c_LikingReader_readRestOfCondition (c_lk nc) v S := by
  rw [c_lk, if_neg (by omega), if_neg (by omega), if_pos rfl]
theorem ex_4 (nm : Nat) (v w : Int32) (T : St) : m_ex (nm + 1) 4 v w T = m_unit (m_ex nm) T := by
  rw [m_ex, if_neg (by omega), if_neg (by omega), if_neg (by omega), if_neg (by omega), if_pos rfl]
theorem ex_3 (nm : Nat) (v w : Int32) (T : St) : m_ex (nm + 1) 3 v w T = m_compares (m_ex nm) v w T := by
  rw [m_ex, if_neg (by omega), if_neg (by omega), if_neg (by omega), if_pos rfl]
theorem ex_5 (nm : Nat) (v w : Int32) (T : St) : m_ex (nm + 1) 5 v w T = m_part (m_ex nm) v w T := by
  rw [m_ex, if_neg (by omega), if_neg (by omega), if_neg (by omega), if_neg (by omega), if_neg (by omega), if_pos rfl]
theorem ex_6 (nm : Nat) (v w : Int32) (T : St) : m_ex (nm + 1) 6 v w T = m_condition (m_ex nm) v w T := by
  rw [m_ex, if_neg (by omega), if_neg (by omega), if_neg (by omega), if_neg (by omega), if_neg (by omega), if_neg (by omega), if_pos rfl]
theorem not_b {x : Int32} (h : b01 x) : b01 (nI 1 - x) ∧ ∀ (ρ : Type) (K : Int32 → ρ), (if x = nI 0 then K (nI 1) else K (nI 0)) = K (nI 1 - x) := by
  rcases h with h | h <;> subst h
  · exact ⟨Or.inr (by decide), fun ρ K => by rw [if_pos rfl]; rfl⟩
  · exact ⟨Or.inl (by decide), fun ρ K => by rw [if_neg m10]; rfl⟩
section UNIT
variable {b : Nat → Nat} {L ob bs : Nat} {lt : Nat → Nat}
theorem goesIn_1 {T : St} {a d : Nat} (km : KM b L ob bs lt T a d) (hd : d < 6) : m_goesIn T = some (nI 1, up2 (up2 T 0 12 (nI (d + 1))) 0 10 (nI (a + 1))) := by
  unfold m_goesIn
  simp only [lits, bnd_eq]
  rw [km.2.2.2.1, if_neg (nI_nn (by omega) (by omega) (by omega)), nI_add, up2_k (by omega), km.2.1, nI_add]
  rfl
theorem goesIn_0 {T : St} {a : Nat} (km : KM b L ob bs lt T a 6) : m_goesIn T = some (nI 0, up2 T 0 11 (nI a)) := by
  unfold m_goesIn
  simp only [lits, bnd_eq]
  rw [km.2.2.2.1, if_pos rfl, fails_1 km.2.2.1 km.2.1, bI_some]
  rfl
set_option maxHeartbeats 4000000 in
theorem unit_ls (t : Txt b L) {d k l : Nat} (hd : d ≤ 6) (hs1 : SumSt b L ob bs lt d (k + 2) (l + 1)) (hs0 : SumSt b L ob bs lt d (k + 1) (l + 1)) (hu : d < 6 → UnitSt b L ob bs lt (d + 1) (k + 2) (l + 2) ∧ UnitSt b L ob bs lt (d + 1) (k + 2) l ∧ UnitSt b L ob bs lt (d + 1) (k + 1) l ∧ UnitSt b L ob bs lt (d + 1) k l) : UnitSt b L ob bs lt d (k + 3) (l + 3) := by
  have hL := t.1
  intro S T a cl kc km
  rw [lk_0, ex_4]
  have l33 : (33 : Int32) = nI 33 := rfl
  have l40 : (40 : Int32) = nI 40 := rfl
  have l41 : (41 : Int32) = nI 41 := rfl
  have hge := sk_ge b L a
  have hle := sk_le b kc.2.2.2.1
  have hcl := kc.2.2.2.2
  have kc1 := kc.sk
  have km1 := km.at (a1 := sk b L a)
  have hcu := cu_lt t (sk b L a)
  unfold c_LikingReader_readUnit m_unit
  rw [next13_eq t kc.1 kc.2.2.2.1 kc.2.1, bI_some, look_eq t km.1 kc.2.2.2.1 km.2.1, bI_some]
  simp only [l33, l40, l41, lits]
  by_cases h33 : cu b L (sk b L a) = 33
  · have hlt2 := cu_pos (by omega) h33
    rw [h33, if_pos (show nI 33 = nI 33 from rfl), if_pos (show cuM b L (sk b L a) = nI 33 by rw [cuM_eq t _ (by omega) (by omega)]; exact h33)]
    unfold c_LikingReader_readUnit_b39
    simp only [l33, l40, l41, lits, bnd_eq]
    by_cases hd6 : d < 6
    · rw [if_pos (nI_lt hd6 (by omega)), goesIn_1 km1 hd6, bI_some, if_neg (show ¬ nI 33 = nI 40 by decide)]
      simp only []
      rw [if_neg m10, up2_hit rfl rfl, nI_add, nI_add, up2_up2]
      have kc2 : KC b L (up2 S 13 1 (nI (sk b L a + 1))) (sk b L a + 1) cl := kc.at (by omega) (by omega)
      have km2 : KM b L ob bs lt (up2 (up2 (up2 T 0 10 (nI (sk b L a))) 0 12 (nI (d + 1))) 0 10 (nI (sk b L a + 1))) (sk b L a + 1) (d + 1) := (km1.dp).at
      obtain ⟨r, S3, y, T3, e1, e2, g1, g2, g3⟩ := (hu hd6).1 _ _ _ _ kc2 km2
      have f1 : Fr cF S S3 := (cF_at Fr.rfl).tr g1
      have f2 : Fr mF T T3 := (mF_at (mF_at (mF_at Fr.rfl (Or.inl rfl)) (Or.inr (Or.inr rfl))) (Or.inl rfl)).tr g2
      have e2' : m_ex (l + 2) 4 (nI 0) (nI 0) (up2 (up2 (up2 T 0 10 (nI (sk b L a))) 0 12 (nI (d + 1))) 0 10 (nI (sk b L a + 1))) = some (y, T3) := e2
      rw [e1, bI_some, e2', bI_some]
      simp only []
      have hby : b01 y := by
        rcases g3 with ⟨_, hB, _⟩ | ⟨_, hB, _⟩
        · exact hB
        · exact hB
      rw [(not_b hby).2 _ (fun w => nzM w (some (w, up2 T3 0 12 (T3 0 12 - nI 1)))), nz_b (not_b hby).1]
      rcases g3 with ⟨hr, hB, a', cl', kc3, km3, p1, p2, p3, p4, p5, p6⟩ | ⟨hr, hB, f, hf, hSf, hTf⟩
      · subst hr
        rw [if_neg m10, write_eq (m := 0) t kc3 (by omega) (by omega) (by omega), bV_some, km3.2.2.2.1, pk_sub (by omega), show d + 1 - 1 = d by omega]
        have kc4 := kc3.wr (show cl' < a' by omega) (nI (0 * 256 + 33))
        refine ⟨_, _, _, _, rfl, rfl, cF_wr f1, mF_at f2 (Or.inr (Or.inr rfl)), Or.inl ⟨rfl, (not_b hB).1, a', cl' + 1, kc4, km3.dp, by omega, by omega, by omega, by omega, fun k hk => ?_, ?_⟩⟩
        · rw [wr_cd.2 k (by omega), p5 k hk, up2_o (by omega)]
        · refine Seg_not (p6.cong (fun k h1 h2 => ?_)) ?_ p3
          · rw [wr_cd.2 k (by omega)]
          · rw [wr_cd.1]
      · subst hr
        rw [if_pos rfl]
        refine ⟨_, _, _, _, rfl, rfl, f1, mF_at f2 (Or.inr (Or.inr rfl)), Or.inr ⟨rfl, (not_b hB).1, f, hf, hSf, ?_⟩⟩
        rw [up2_k (by omega)]; exact hTf
    · have hd7 : d = 6 := by omega
      subst hd7
      rw [if_neg (show ¬ nI 6 < nI 6 by decide), goesIn_0 km1, bI_some]
      simp only []
      rw [if_pos trivial]
      refine ⟨_, _, _, _, rfl, rfl, cF_at Fr.rfl, mF_at (mF_at Fr.rfl (Or.inl rfl)) (Or.inr (Or.inl rfl)), Or.inr ⟨rfl, Or.inl rfl, sk b L a, hle, up2_hit rfl rfl, up2_hit rfl rfl⟩⟩
  · rw [if_neg (nI_nn h33 (by omega) (by omega)), if_neg (show ¬ cuM b L (sk b L a) = nI 33 by rw [cuM_eq t _ (by omega) (by omega)]; exact h33)]
    by_cases h40 : cu b L (sk b L a) = 40
    · have hlt2 := cu_pos (by omega) h40
      rw [h40, if_pos (show nI 40 = nI 40 from rfl), if_pos (show cuM b L (sk b L a) = nI 40 by rw [cuM_eq t _ (by omega) (by omega)]; exact h40)]
      unfold c_LikingReader_readUnit_b39
      simp only [l33, l40, l41, lits, bnd_eq]
      by_cases hd6 : d < 6
      · rw [if_pos (nI_lt hd6 (by omega)), goesIn_1 km1 hd6, bI_some, if_pos trivial]
        simp only []
        rw [if_neg m10, up2_hit rfl rfl, nI_add, nI_add, up2_up2]
        have kc2 : KC b L (up2 S 13 1 (nI (sk b L a + 1))) (sk b L a + 1) cl := kc.at (by omega) (by omega)
        have km2 : KM b L ob bs lt (up2 (up2 (up2 T 0 10 (nI (sk b L a))) 0 12 (nI (d + 1))) 0 10 (nI (sk b L a + 1))) (sk b L a + 1) (d + 1) := (km1.dp).at
        have f0 : Fr cF S (up2 S 13 1 (nI (sk b L a + 1))) := cF_at Fr.rfl
        have f00 : Fr mF T (up2 (up2 (up2 T 0 10 (nI (sk b L a))) 0 12 (nI (d + 1))) 0 10 (nI (sk b L a + 1))) := mF_at (mF_at (mF_at Fr.rfl (Or.inl rfl)) (Or.inr (Or.inr rfl))) (Or.inl rfl)
        rcases cond_ls t (hu hd6).2.1 (hu hd6).2.2.1 (hu hd6).2.2.2 _ _ _ _ kc2 km2 with ⟨S1, r, S3, y, T3, a1, cl1, c1, c2, c3, c4, c5, g1, g2, g3⟩ | ⟨S1, y, T3, c1, c5, g1, g2, g3⟩
        · have c5' : m_ex (l + 2) 6 (nI 0) (nI 0) (up2 (up2 (up2 T 0 10 (nI (sk b L a))) 0 12 (nI (d + 1))) 0 10 (nI (sk b L a + 1))) = some (y, T3) := c5
          rw [c1, bI_some, c5', bI_some]
          simp only []
          rw [if_neg m10, c4, bI_some]
          simp only []
          have f1 := f0.tr g1
          have f2 := f00.tr g2
          rcases g3 with ⟨hr, hB, a', cl', kc3, km3, p1, p2, p3, p4, p5, p6⟩ | ⟨hr, hB, f, hf, hSf, hTf⟩
          · subst hr
            rw [if_neg m10]
            by_cases h93 : cu b L (sk b L a') = 41
            · have hlt3 := cu_pos (by omega) h93
              have hge3 := sk_ge b L a'
              rw [takes13_1 t kc3.1 kc3.2.2.2.1 kc3.2.1 h93, bI_some, takesM_1 t km3.1 kc3.2.2.2.1 km3.2.1 km3.2.2.1 (by omega) (by omega) h93, bI_some]
              simp only []
              rw [if_neg m10, if_neg m10, up2_k (by omega), km3.2.2.2.1, pk_sub (by omega), nz_b hB]
              refine ⟨_, _, _, _, rfl, rfl, cF_at f1, mF_at (mF_at f2 (Or.inl rfl)) (Or.inr (Or.inr rfl)), Or.inl ⟨rfl, hB, sk b L a' + 1, cl', kc3.at (by omega) (by have := kc3.2.2.2.2; omega), ?_, by omega, p2, p3, by omega, fun k hk => ?_, ?_⟩⟩
              · rw [show d + 1 - 1 = d by omega]; exact (km3.at).dp
              · rw [up2_o (by omega), p5 k hk, up2_o (by omega)]
              · exact p6.cong (fun k h1 h2 => up2_o (by omega))
            · rw [takes13_0 t kc3.1 kc3.2.2.2.1 kc3.2.1 (by omega) h93, bI_some, takesM_0 t km3.1 kc3.2.2.2.1 km3.2.1 km3.2.2.1 (by omega) (by omega) h93, bI_some]
              simp only [if_true]
              refine ⟨_, _, _, _, rfl, rfl, cF_at f1, mF_at (mF_at f2 (Or.inl rfl)) (Or.inr (Or.inl rfl)), Or.inr ⟨rfl, Or.inl rfl, sk b L a', sk_le b kc3.2.2.2.1, up2_hit rfl rfl, up2_hit rfl rfl⟩⟩
          · subst hr
            rw [takesM_f _ (fl_ne hTf t hf), bI_some]
            simp only [if_true]
            exact ⟨_, _, _, _, rfl, rfl, f1, f2, Or.inr ⟨rfl, Or.inl rfl, f, hf, hSf, hTf⟩⟩
        · have c5' : m_ex (l + 2) 6 (nI 0) (nI 0) (up2 (up2 (up2 T 0 10 (nI (sk b L a))) 0 12 (nI (d + 1))) 0 10 (nI (sk b L a + 1))) = some (y, T3) := c5
          rw [c1, bI_some, c5', bI_some]
          simp only []
          have f1 := f0.tr g1
          have f2 := f00.tr g2
          rcases g3 with ⟨hr, _⟩ | ⟨hr, hB, f, hf, hSf, hTf⟩
          · exact absurd hr (by decide)
          · rw [if_pos trivial, takesM_f _ (fl_ne hTf t hf), bI_some]
            simp only [if_true]
            exact ⟨_, _, _, _, rfl, rfl, f1, f2, Or.inr ⟨rfl, Or.inl rfl, f, hf, hSf, hTf⟩⟩
      · have hd7 : d = 6 := by omega
        subst hd7
        rw [if_neg (show ¬ nI 6 < nI 6 by decide), goesIn_0 km1, bI_some]
        simp only []
        rw [if_pos trivial]
        refine ⟨_, _, _, _, rfl, rfl, cF_at Fr.rfl, mF_at (mF_at Fr.rfl (Or.inl rfl)) (Or.inr (Or.inl rfl)), Or.inr ⟨rfl, Or.inl rfl, sk b L a, hle, up2_hit rfl rfl, up2_hit rfl rfl⟩⟩
    · rw [if_neg (nI_nn h40 (by omega) (by omega)), if_neg (show ¬ cuM b L (sk b L a) = nI 40 by rw [cuM_eq t _ (by omega) (by omega)]; exact h40)]
      obtain ⟨r, S3, y, T3, e1, e2, g1, g2, g3⟩ := hs1 _ _ _ _ kc1 km1
      have f1 : Fr cF S S3 := (cF_at Fr.rfl).tr g1
      have f2 : Fr mF T T3 := (mF_at Fr.rfl (Or.inl rfl)).tr g2
      have e3 : m_ex (l + 2) 3 (nI 0) (nI 0) (up2 T 0 10 (nI (sk b L a))) = m_compares_b12 (m_ex (l + 1)) y T3 := by
        rw [ex_3]
        unfold m_compares
        rw [if_pos (show nI 0 = 0 from rfl), e2, bI_some]
      rw [e1, bI_some, e3]
      simp only []
      rcases g3 with ⟨hr, hB, a', cl', kc3, km3, p1, p2, p3, p4, p5, p6⟩ | ⟨hr, hB, f, hf, hSf, hTf⟩
      · subst hr
        obtain ⟨r, S', v, T', e5, e6, q1, q2, q3⟩ := cmp_ls t hs0 S3 T3 a' cl cl' y kc3 km3 p3 p6
        rw [if_neg m10, lk_1, e5, bI_some, e6, bI_some]
        simp only []
        have f3 := f1.tr q1
        have f4 := f2.tr q2
        rcases q3 with ⟨hr, hB2, a3, cl3, kc6, km6, w1, w2, w3, w4, w5, w6⟩ | ⟨hr, hB2, hx⟩
        · subst hr
          rw [if_neg m10, nz_b hB2]
          refine ⟨_, _, _, _, rfl, rfl, f3, f4, Or.inl ⟨rfl, hB2, a3, cl3, kc6, km6, by omega, by omega, w3, by omega, fun k hk => ?_, w6⟩⟩
          rw [w5 k (by omega), p5 k hk, up2_o (by omega)]
        · subst hr
          rw [if_pos rfl, nz_b hB2]
          exact ⟨_, _, _, _, rfl, rfl, f3, f4, Or.inr ⟨rfl, hB2, hx⟩⟩
      · subst hr
        rw [if_pos rfl, cmpM_f _ (fl_ne hTf t hf), bI_some]
        exact ⟨_, _, _, T3, rfl, rfl, f1, f2, Or.inr ⟨rfl, Or.inl rfl, f, hf, hSf, hTf⟩⟩
theorem units (t : Txt b L) (hlt : ∀ k, k < 6 → lt k ≤ 10000) : ∀ (e d nc nm : Nat), d + e = 6 → 3 * (e + 1) + 2 ≤ nc → 3 * (e + 1) + 2 ≤ nm → UnitSt b L ob bs lt d nc nm := by
  intro e
  induction e with
  | zero =>
    intro d nc nm hd h1 h2
    obtain ⟨nc, rfl⟩ : ∃ m, nc = m + 3 := ⟨nc - 3, by omega⟩
    obtain ⟨nm, rfl⟩ : ∃ m, nm = m + 3 := ⟨nm - 3, by omega⟩
    exact unit_ls t (by omega) (sums t hlt 0 d _ _ hd (by omega) (by omega)) (sums t hlt 0 d _ _ hd (by omega) (by omega)) (fun h => by omega)
  | succ e ih =>
    intro d nc nm hd h1 h2
    obtain ⟨nc, rfl⟩ : ∃ m, nc = m + 3 := ⟨nc - 3, by omega⟩
    obtain ⟨nm, rfl⟩ : ∃ m, nm = m + 3 := ⟨nm - 3, by omega⟩
    exact unit_ls t (by omega) (sums t hlt (e + 1) d _ _ hd (by omega) (by omega)) (sums t hlt (e + 1) d _ _ hd (by omega) (by omega)) (fun h => ⟨ih (d + 1) _ _ (by omega) (by omega) (by omega), ih (d + 1) _ _ (by omega) (by omega) (by omega), ih (d + 1) _ _ (by omega) (by omega) (by omega), ih (d + 1) _ _ (by omega) (by omega) (by omega)⟩)
end UNIT
