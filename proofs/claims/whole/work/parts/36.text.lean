/-! a clause, and a whole text -/
section CLAUSE2
variable {b : Nat → Nat} {L ob bs : Nat} {lt : Nat → Nat}
set_option maxHeartbeats 4000000 in
theorem clause_ls (t : Txt b L) (hlt : ∀ k, k < 6 → lt k ≤ 10000) {S T : St} {a cl : Nat} (kc : KC b L S a cl) (km : KM b L ob bs lt T a 0) (h13 : T 0 13 = nI 121) (h17 : b01 (T 0 17)) :
    ∃ r S' T', c_LikingReader_readClause S = some (r, S') ∧ m_clause T = some T' ∧ ClR b L ob bs lt S T a cl r S' T' := by
  have hL := t.1
  have hs : ∀ nc nm, 21 ≤ nc → 21 ≤ nm → SumSt b L ob bs lt 0 nc nm := fun nc nm h1 h2 => sums t hlt 6 0 nc nm (by omega) (by omega) (by omega)
  have hu : ∀ nc nm, 23 ≤ nc → 23 ≤ nm → UnitSt b L ob bs lt 0 nc nm := fun nc nm h1 h2 => units t hlt 6 0 nc nm (by omega) (by omega) (by omega)
  have l121 : (121 : Int32) = nI 121 := rfl
  have l58 : (58 : Int32) = nI 58 := rfl
  have l33 : (33 : Int32) = nI 33 := rfl
  have l40 : (40 : Int32) = nI 40 := rfl
  have l63 : (63 : Int32) = nI 63 := rfl
  have l59 : (59 : Int32) = nI 59 := rfl
  have hcl := kc.2.2.2.2
  have hge := sk_ge b L a
  have hle := sk_le b kc.2.2.2.1
  have hcu := cu_lt t (sk b L a)
  have km1 := km.at (a1 := sk b L a)
  unfold c_LikingReader_readClause m_clause
  simp only [l121, l58, l33, l40, l63, lits, bnd_eq]
  rw [look_eq t km.1 kc.2.2.2.1 km.2.1, bI_some]
  simp only []
  rw [among_eq (by omega), bI_some]
  simp only []
  by_cases hy : cu b L (sk b L a) = 121
  · have hlt1 := cu_pos (by omega) hy
    have hcm : cuM b L (sk b L a) = nI 121 := by rw [cuM_eq t _ (by omega) (by omega)]; exact hy
    rw [takes13_1 t kc.1 kc.2.2.2.1 kc.2.1 hy, bI_some]
    simp only []
    rw [if_neg m10, if_pos ((li4 _ hcu).mpr hy), if_neg m10, up2_hit rfl rfl, nI_add, up2_up2, hcm]
    have kc2 : KC b L (up2 S 13 1 (nI (sk b L a + 1))) (sk b L a + 1) cl := kc.at (by omega) (by omega)
    have km2 : KM b L ob bs lt (up2 T 0 10 (nI (sk b L a + 1))) (sk b L a + 1) 0 := km.at
    have hge2 := sk_ge b L (sk b L a + 1)
    have hle2 := sk_le b kc2.2.2.2.1
    by_cases h58 : cu b L (sk b L (sk b L a + 1)) = 58
    · have hlt2 := cu_pos (by omega) h58
      rw [takes13_1 t kc2.1 kc2.2.2.2.1 kc2.2.1 h58, bI_some, takesM_1 t km2.1 kc2.2.2.2.1 km2.2.1 km2.2.2.1 (by omega) (by omega) h58, bI_some]
      simp only []
      rw [if_neg m10, if_neg m10, up2_up2, up2_up2]
      have kc3 : KC b L (up2 S 13 1 (nI (sk b L (sk b L a + 1) + 1))) (sk b L (sk b L a + 1) + 1) cl := kc.at (by omega) (by omega)
      have km3 : KM b L ob bs lt (up2 T 0 10 (nI (sk b L (sk b L a + 1) + 1))) (sk b L (sk b L a + 1) + 1) 0 := km.at
      have hge3 := sk_ge b L (sk b L (sk b L a + 1) + 1)
      have hle3 := sk_le b kc3.2.2.2.1
      rw [next13_eq t kc3.1 kc3.2.2.2.1 kc3.2.1, bI_some, look_eq t km3.1 kc3.2.2.2.1 km3.2.1, bI_some, up2_up2, up2_up2]
      simp only []
      have hc3 := cu_lt t (sk b L (sk b L (sk b L a + 1) + 1))
      generalize hz : sk b L (sk b L (sk b L a + 1) + 1) = z at *
      have kc4 : KC b L (up2 S 13 1 (nI z)) z cl := kc.at (by omega) (by omega)
      have km4 : KM b L ob bs lt (up2 T 0 10 (nI z)) z 0 := km.at
      have f1 : Fr cF S (up2 S 13 1 (nI z)) := cF_at Fr.rfl
      have f2 : Fr mF T (up2 T 0 10 (nI z)) := mF_at Fr.rfl (Or.inl rfl)
      -- the clause asks from its first byte
      have ask : ∃ r S' T', c_LikingReader_readClause_b37 (up2 S 13 1 (nI z)) = some (r, S') ∧ m_clause_b64 (nI 121) (up2 T 0 10 (nI z)) = some T' ∧ ClR b L ob bs lt S T a cl r S' T' := by
        unfold c_LikingReader_readClause_b37 c_LikingReader_readClause_b42 m_clause_b64
        simp only [l63, lits]
        rw [if_neg m10]
        rcases cond_ls t (hu 40 38 (by omega) (by omega)) (hu 39 38 (by omega) (by omega)) (hu 38 38 (by omega) (by omega)) _ _ _ _ kc4 km4 with ⟨S1, r, S3, y, T3, a1, cl1, c1, c2, c3, c4, c5, g1, g2, g3⟩ | ⟨S1, y, T3, c1, c5, g1, g2, g3⟩
        · have c1' : c_LikingReader_readUnit_x (nI 0) (up2 S 13 1 (nI z)) = some (nI 1, S1) := c1
          have c5' : m_condition_x (nI 0) (nI 0) (up2 T 0 10 (nI z)) = some (y, T3) := c5
          have c4' : c_LikingReader_readRestOfCondition_x (nI 0) S1 = some (r, S3) := c4
          rw [c1', bI_some, c5', bI_some]
          simp only []
          rw [if_neg m10]
          unfold c_LikingReader_readClause_b68 c_LikingReader_readClause_b94
          simp only [l63, lits]
          rw [if_neg m10, if_neg m10, c4', bI_some]
          simp only []
          have f3 := f1.tr g1
          have f4 := f2.tr g2
          rcases g3 with ⟨hr, hB, a', cl', kc5, km5, p1, p2, p3, p4, p5, p6⟩ | ⟨hr, hB, f, hf, hSf, hTf⟩
          · subst hr
            rw [if_neg m10]
            exact ask_ls t (hs 40 40 (by omega) (by omega)) f3 f4 kc5 km5 (by omega) p3 (by omega) (fun k hk => by rw [p5 k hk, up2_o (by omega)]) p6 hB h13 h17
          · subst hr
            rw [if_pos rfl, takesM_f _ (fl_ne hTf t hf), bI_some]
            simp only [if_true]
            exact ⟨_, _, _, rfl, rfl, f3, mF2_of f4, Or.inr ⟨rfl, f, hf, hSf, hTf⟩⟩
        · have c1' : c_LikingReader_readUnit_x (nI 0) (up2 S 13 1 (nI z)) = some (nI 0, S1) := c1
          have c5' : m_condition_x (nI 0) (nI 0) (up2 T 0 10 (nI z)) = some (y, T3) := c5
          rw [c1', bI_some, c5', bI_some]
          simp only []
          have f3 := f1.tr g1
          have f4 := f2.tr g2
          rcases g3 with ⟨hr, _⟩ | ⟨hr, hB, f, hf, hSf, hTf⟩
          · exact absurd hr (by decide)
          · rw [if_pos trivial, takesM_f _ (fl_ne hTf t hf), bI_some]
            simp only [if_true]
            exact ⟨_, _, _, rfl, rfl, f3, mF2_of f4, Or.inr ⟨rfl, f, hf, hSf, hTf⟩⟩
      by_cases h33 : cu b L z = 33
      · rw [if_pos (by rw [h33]), if_pos (show cuM b L z = nI 33 by rw [cuM_eq t _ (by omega) (by omega)]; exact h33)]
        exact ask
      · rw [if_neg (nI_nn h33 (by omega) (by omega)), if_neg (show ¬ cuM b L z = nI 33 by rw [cuM_eq t _ (by omega) (by omega)]; exact h33)]
        by_cases h40 : cu b L z = 40
        · rw [if_pos (by rw [h40]), if_pos (show cuM b L z = nI 40 by rw [cuM_eq t _ (by omega) (by omega)]; exact h40)]
          exact ask
        · rw [if_neg (nI_nn h40 (by omega) (by omega)), if_neg (show ¬ cuM b L z = nI 40 by rw [cuM_eq t _ (by omega) (by omega)]; exact h40)]
          unfold c_LikingReader_readClause_b42
          simp only [lits]
          rw [if_pos trivial]
          obtain ⟨r, S3, y, T3, e1, e2, g1, g2, g3⟩ := hs 40 40 (by omega) (by omega) _ _ _ _ kc4 km4
          have e1' : c_LikingReader_readSum_x (nI 0) (up2 S 13 1 (nI z)) = some (r, S3) := e1
          have e2' : m_sum_x (up2 T 0 10 (nI z)) = some (y, T3) := e2
          have f3 := f1.tr g1
          have f4 := f2.tr g2
          rw [e1', bI_some, e2', bI_some]
          simp only []
          rcases g3 with ⟨hr, hB, a', cl', kc5, km5, p1, p2, p3, p4, p5, p6⟩ | ⟨hr, hB, f, hf, hSf, hTf⟩
          · subst hr
            have hge5 := sk_ge b L a'
            have hle5 := sk_le b kc5.2.2.2.1
            have hcl5 := kc5.2.2.2.2
            rw [if_neg m10, if_pos km5.2.2.1, look_eq t km5.1 kc5.2.2.2.1 km5.2.1, bI_some]
            unfold c_LikingReader_readClause_b68
            simp only [lits]
            rw [if_pos trivial, next13_eq t kc5.1 kc5.2.2.2.1 kc5.2.1, bI_some]
            simp only []
            rw [isCmp_C t, bI_some, isSign_M t, bI_some]
            simp only []
            have kc6 : KC b L (up2 S3 13 1 (nI (sk b L a'))) (sk b L a') cl' := kc5.sk
            have km6 : KM b L ob bs lt (up2 T3 0 10 (nI (sk b L a'))) (sk b L a') 0 := km5.at
            have f5 : Fr cF S (up2 S3 13 1 (nI (sk b L a'))) := cF_at f3
            have f6 : Fr mF T (up2 T3 0 10 (nI (sk b L a'))) := mF_at f4 (Or.inl rfl)
            by_cases hc : cu b L (sk b L a') = 61 ∨ cu b L (sk b L a') = 60 ∨ cu b L (sk b L a') = 62
            · rw [if_pos hc, if_neg m10, if_neg m10]
              have sg1 : Seg ((up2 S3 13 1 (nI (sk b L a'))) 14) lt cl cl' y := p6.cong (fun k h1 h2 => up2_o (by omega))
              obtain ⟨r, S5, x, T5, e5, e6, q1, q2, q3⟩ := cmp_ls t (hs 39 37 (by omega) (by omega)) _ _ (sk b L a') cl cl' y kc6 km6 p3 sg1
              have e5' : c_LikingReader_readComparison_x (nI 0) (up2 S3 13 1 (nI (sk b L a'))) = some (r, S5) := by
                unfold c_LikingReader_readComparison_x
                rw [lk_1]
                exact e5
              have e7 : m_condition_x (nI 1) y (up2 T3 0 10 (nI (sk b L a'))) = bI (m_part_b17 (m_ex 38) x T5) (fun x2 S1 => m_condition_h7 (m_ex 39) FU x2 S1) := by
                unfold m_condition_x
                rw [ex_6]
                unfold m_condition
                rw [ex_5]
                unfold m_part
                rw [if_neg n10, ex_3]
                unfold m_compares
                rw [if_neg (by decide), e6, bI_some]
              rw [e5', bI_some, e7]
              simp only []
              have f7 := f5.tr q1
              have f8 := f6.tr q2
              rcases q3 with ⟨hr, hB2, a3, cl3, kc7, km7, w1, w2, w3, w4, w5, w6⟩ | ⟨hr, hB2, f, hf, hSf, hTf⟩
              · subst hr
                rw [if_neg m10]
                unfold c_LikingReader_readClause_b94
                simp only [l63, lits]
                rw [if_neg m10]
                obtain ⟨r, S7, x2, T7, e8, e9, v1, v2, v3⟩ := rest_ls t (hu 39 38 (by omega) (by omega)) (hu 38 38 (by omega) (by omega)) S5 T5 a3 cl cl3 x kc7 km7 w3 w6 hB2
                have e8' : c_LikingReader_readRestOfCondition_x (nI 0) S5 = some (r, S7) := by
                  unfold c_LikingReader_readRestOfCondition_x
                  rw [lk_2]
                  exact e8
                rw [e8', bI_some, e9, bI_some]
                simp only []
                have f9 := f7.tr v1
                have f10 := f8.tr v2
                rcases v3 with ⟨hr, hB3, a4, cl4, kc8, km8, u1, u2, u3, u4, u5, u6⟩ | ⟨hr, hB3, f, hf, hSf, hTf⟩
                · subst hr
                  rw [if_neg m10]
                  exact ask_ls t (hs 40 40 (by omega) (by omega)) f9 f10 kc8 km8 (by omega) u3 (by omega) (fun k hk => by rw [u5 k (by omega), w5 k (by omega), up2_o (by omega), p5 k hk, up2_o (by omega)]) u6 hB3 h13 h17
                · subst hr
                  rw [if_pos rfl, takesM_f _ (fl_ne hTf t hf), bI_some]
                  simp only [if_true]
                  exact ⟨_, _, _, rfl, rfl, f9, mF2_of f10, Or.inr ⟨rfl, f, hf, hSf, hTf⟩⟩
              · subst hr
                unfold m_part_b17
                rw [if_pos rfl, partM_f (by unfold FU; omega) hB2 (fl_ne hTf t hf), bI_some]
                simp only []
                rw [condM_f (by unfold FU; omega) hB2 (fl_ne hTf t hf), bI_some]
                simp only []
                rw [takesM_f _ (fl_ne hTf t hf), bI_some]
                simp only [if_true]
                exact ⟨_, _, _, rfl, rfl, f7, mF2_of f8, Or.inr ⟨rfl, f, hf, hSf, hTf⟩⟩
            · rw [if_neg hc, if_pos rfl, if_pos rfl]
              unfold c_LikingReader_readClause_b94 c_LikingReader_readClause_b141
              simp only [l59, lits]
              rw [if_pos trivial, write_eq (m := 0) t kc6 (by omega) (by omega) (by omega), bV_some, skipTo_m1, bV_some]
              have kc7 := kc6.wr (show cl' < sk b L a' by omega) (nI (0 * 256 + 59))
              obtain ⟨T', m1, m2, m3, m4⟩ := b134_ok (v := y) km6 f6 h13 h17 (x := nI 1) (Or.inr rfl) hB
              rw [m1]
              rw [if_neg m10] at m4
              refine ⟨_, _, T', rfl, rfl, cF_wr f5, m3, Or.inl ⟨rfl, sk b L a', cl' + 1, some y, kc7, m2, by omega, by omega, fun k hk => ?_, ?_, m4⟩⟩
              · rw [wr_cd.2 k (by omega), up2_o (by omega), p5 k hk, up2_o (by omega)]
              · refine Cls_sum (p6.cong (fun k h1 h2 => ?_)) ?_
                · rw [wr_cd.2 k (by omega), up2_o (by omega)]
                · rw [wr_cd.1]
          · subst hr
            rw [if_pos rfl, if_neg (fl_ne hTf t hf), b134_f _ _ _ (fl_ne hTf t hf)]
            exact ⟨_, _, _, rfl, rfl, f3, mF2_of f4, Or.inr ⟨rfl, f, hf, hSf, hTf⟩⟩
    · rw [takes13_0 t kc2.1 kc2.2.2.2.1 kc2.2.1 (by omega) h58, bI_some, takesM_0 t km2.1 kc2.2.2.2.1 km2.2.1 km2.2.2.1 (by omega) (by omega) h58, bI_some]
      simp only [if_true]
      exact ⟨_, _, _, rfl, rfl, cF_at (cF_at Fr.rfl), mF2_of (mF_at (mF_at (mF_at Fr.rfl (Or.inl rfl)) (Or.inl rfl)) (Or.inr (Or.inl rfl))), Or.inr ⟨rfl, _, hle2, up2_hit rfl rfl, up2_hit rfl rfl⟩⟩
  · rw [takes13_0 t kc.1 kc.2.2.2.1 kc.2.1 (by omega) hy, bI_some]
    simp only []
    rw [if_pos trivial, if_neg (fun h => hy ((li4 _ hcu).mp h)), if_pos rfl, fails_1 km1.2.2.1 km1.2.1, bI_some]
    simp only []
    exact ⟨_, _, _, rfl, rfl, cF_at Fr.rfl, mF2_of (mF_at (mF_at Fr.rfl (Or.inl rfl)) (Or.inr (Or.inl rfl))), Or.inr ⟨rfl, sk b L a, hle, up2_hit rfl rfl, up2_hit rfl rfl⟩⟩
theorem go1_f {T : St} {n : Nat} (hn : 0 < n) (hf : T 0 11 ≠ -nI 1) : m_goThrough_1_h32 n T = some T := by
  obtain ⟨n, rfl⟩ : ∃ m, n = m + 1 := ⟨n - 1, by omega⟩
  rw [m_goThrough_1_h32]
  unfold m_goThrough_1_b66
  simp only [lits]
  rw [if_neg hf, if_neg hf]
theorem read1_loop (t : Txt b L) (hlt : ∀ k, k < 6 → lt k ≤ 10000) : ∀ (n n' i : Nat) (S T : St) (a cl : Nat) (res : Option Int32), KC b L S a cl → KM b L ob bs lt T a 0 → T 0 13 = nI 121 → Cls (S 14) lt 0 cl res → ((T 0 17 = nI 0 ∧ res = none ∧ T 0 14 = nI 0) ∨ (T 0 17 = nI 1 ∧ ∃ w, res = some w ∧ Bd w ∧ T 0 14 = w)) → i ≤ a → i ≠ 160 → L < n + a → L < n' + a →
    ∃ r S' T', c_Reader_read_13_h11 n (nI i) S = some (r, S') ∧ bV (m_clause T) (fun T1 => m_goThrough_1_h32 n' T1) = some T' ∧ Fr cF S S' ∧ Fr mF2 T T' ∧ T' 0 11 = r ∧ ((r = -nI 1 ∧ ∃ cl' res', S' 13 3 = nI cl' ∧ cl' ≤ 160 ∧ Cls (S' 14) lt 0 cl' res' ∧ T' 0 14 = clsV res' ∧ Bd (clsV res')) ∨ ∃ f, f ≤ L ∧ r = nI f) := by
  have hL := t.1
  have l59 : (59 : Int32) = nI 59 := rfl
  intro n
  induction n with
  | zero => intro n' i S T a cl res kc; have := kc.2.2.2.1; omega
  | succ n ih =>
    intro n' i S T a cl res kc km h13 hcls hfd hi hi160 hn hn'
    have ha0 := kc.2.2.2.1
    obtain ⟨n', rfl⟩ : ∃ m, n' = m + 1 := ⟨n' - 1, by omega⟩
    have h17 : b01 (T 0 17) := by
      rcases hfd with h | h
      · exact Or.inl h.1
      · exact Or.inr h.1
    obtain ⟨r, S1, T1, e1, e2, f1, f2, g3⟩ := clause_ls t hlt kc km h13 h17
    rw [c_Reader_read_13_h11, e2, bV_some]
    simp only [lits, l59, bnd_eq]
    rw [if_neg (show ¬ nI 160 ≤ nI i from nI_ge (by omega) (by omega)), e1, bI_some]
    simp only []
    rcases g3 with ⟨hr, a', cl', res1, kc1, km1, p1, p2, p3, p4, p5⟩ | ⟨hr, f, hf, hSf, hTf⟩
    · subst hr
      have hge := sk_ge b L a'
      have hle := sk_le b kc1.2.2.2.1
      have hcl1 := kc1.2.2.2.2
      have hcls1 : ∃ res2, Cls (S1 14) lt 0 cl' res2 ∧ ((T1 0 17 = nI 0 ∧ res2 = none ∧ T1 0 14 = nI 0) ∨ (T1 0 17 = nI 1 ∧ ∃ w, res2 = some w ∧ Bd w ∧ T1 0 14 = w)) := by
        have hc0 : Cls (S1 14) lt 0 cl res := hcls.cong (fun k _ hk => p3 k hk)
        rcases hfd with ⟨q1, q2, q3⟩ | ⟨q1, w, q2, q4, q3⟩
        · subst q2
          rcases p5.1 q1 with ⟨u1, u2, u3⟩ | ⟨w, u1, u4, u2, u3⟩
          · subst u1
            exact ⟨none, Cls_tr hc0 p4, Or.inl ⟨u2, rfl, u3.trans q3⟩⟩
          · subst u1
            exact ⟨some w, Cls_tr hc0 p4, Or.inr ⟨u2, w, rfl, u4, u3⟩⟩
        · subst q2
          obtain ⟨u2, u3⟩ := p5.2 q1
          exact ⟨some w, Cls_ext hc0 p2, Or.inr ⟨u2, w, rfl, q4, u3.trans q3⟩⟩
      obtain ⟨res2, hc2, hfd2⟩ := hcls1
      rw [if_neg m10, next13_eq t kc1.1 kc1.2.2.2.1 kc1.2.1, bI_some, m_goThrough_1_h32]
      unfold m_goThrough_1_b66
      simp only [lits, l59, bnd_eq]
      rw [if_pos km1.2.2.1, look_eq t km1.1 kc1.2.2.2.1 km1.2.1, bI_some]
      simp only []
      have hcu := cu_lt t (sk b L a')
      have kc2 := kc1.sk
      have km2 := km1.at (a1 := sk b L a')
      by_cases h0 : cu b L (sk b L a') = 0
      · have hend : L ≤ sk b L a' := by rw [cu_0 t] at h0; exact h0
        have hm1 : cuM b L (sk b L a') = -nI 1 := by rw [cuM_m1 t]; exact hend
        rw [h0, if_pos rfl, hm1, if_neg (show ¬ -nI 1 = nI 59 by decide), if_pos km2.2.2.1, look_eq t km2.1 kc2.2.2.2.1 km2.2.1, bI_some, sk_sk, hm1]
        unfold c_LikingReader_isWhole
        rw [nz_1, bI_some]
        simp only []
        rw [if_neg (show ¬ (1 : Int32) = nI 0 by decide), if_pos trivial]
        have fBd : Bd (clsV res2) := by
          rcases hfd2 with ⟨_, q2, _⟩ | ⟨_, w, q2, q3, _⟩
          · rw [q2]; exact ⟨by decide, by decide⟩
          · rw [q2]; exact q3
        have f14 : (up2 (up2 T1 0 10 (nI (sk b L a'))) 0 10 (nI (sk b L a'))) 0 14 = clsV res2 := by
          rw [up2_k (by omega), up2_k (by omega)]
          rcases hfd2 with ⟨_, q2, q3⟩ | ⟨_, w, q2, _, q3⟩
          · rw [q2]; exact q3
          · rw [q2]; exact q3
        refine ⟨_, _, _, rfl, rfl, cF_at f1, (f2.up (o := 0) (k := 10) (by unfold mF2; omega)).up (by unfold mF2; omega), ?_, Or.inl ⟨rfl, cl', res2, kc2.2.2.1, by omega, hc2.cong (fun k _ _ => up2_o (by omega)), f14, fBd⟩⟩
        rw [up2_k (by omega), up2_k (by omega)]; exact km1.2.2.1
      · have hlt2 : sk b L a' < L := cu_pos (c := cu b L (sk b L a')) (by omega) rfl
        rw [if_neg (nI_nn h0 (by omega) (by omega))]
        by_cases h59 : cu b L (sk b L a') = 59
        · rw [takes13_1 (a := sk b L a') t kc2.1 kc2.2.2.2.1 kc2.2.1 (by rw [sk_sk]; exact h59), bI_some, sk_sk]
          simp only []
          rw [if_neg m10, if_pos (show cuM b L (sk b L a') = nI 59 by rw [cuM_eq t _ (by omega) (by omega)]; exact h59), up2_hit rfl rfl, nI_add, nI_add, up2_up2, up2_up2]
          have kc3 : KC b L (up2 S1 13 1 (nI (sk b L a' + 1))) (sk b L a' + 1) cl' := kc1.at (by omega) (by omega)
          have km3 : KM b L ob bs lt (up2 T1 0 10 (nI (sk b L a' + 1))) (sk b L a' + 1) 0 := km1.at
          have hfd3 : ((up2 T1 0 10 (nI (sk b L a' + 1))) 0 17 = nI 0 ∧ res2 = none ∧ (up2 T1 0 10 (nI (sk b L a' + 1))) 0 14 = nI 0) ∨ ((up2 T1 0 10 (nI (sk b L a' + 1))) 0 17 = nI 1 ∧ ∃ w, res2 = some w ∧ Bd w ∧ (up2 T1 0 10 (nI (sk b L a' + 1))) 0 14 = w) := by
            rw [up2_k (by omega), up2_k (by omega)]; exact hfd2
          by_cases hnx : i + 1 = 160
          · exfalso; omega
          obtain ⟨r, S', T', e3, e4, q1, q2, q3, q4⟩ := ih n' (i + 1) _ _ (sk b L a' + 1) cl' res2 kc3 km3 ((up2_k (by omega)).trans ((f2 _ _ (by unfold mF2; omega)).trans h13)) (hc2.cong (fun k _ _ => up2_o (by omega))) hfd3 (by omega) (by omega) (by omega) (by omega)
          exact ⟨r, S', T', e3, e4, (cF_at f1).tr q1, (f2.up (o := 0) (k := 10) (by unfold mF2; omega)).tr q2, q3, q4⟩
        · rw [takes13_0 (a := sk b L a') t kc2.1 kc2.2.2.2.1 kc2.2.1 (by omega) (by rw [sk_sk]; exact h59), bI_some, sk_sk]
          simp only []
          rw [if_pos trivial, if_neg (show ¬ cuM b L (sk b L a') = nI 59 by rw [cuM_eq t _ (by omega) (by omega)]; exact h59), if_pos km2.2.2.1, look_eq t km2.1 kc2.2.2.2.1 km2.2.1, bI_some, sk_sk]
          simp only []
          rw [if_neg (by rw [cuM_m1 t]; omega), fails_1 ((up2_k (by omega)).trans km2.2.2.1) (up2_hit rfl rfl), bI_some, up2_hit rfl rfl]
          simp only []
          exact ⟨_, _, _, rfl, rfl, cF_at (cF_at f1), ((f2.up (o := 0) (k := 10) (by unfold mF2; omega)).up (o := 0) (k := 10) (by unfold mF2; omega)).up (by unfold mF2; omega), up2_hit rfl rfl, Or.inr ⟨_, hle, rfl⟩⟩
    · subst hr
      rw [if_pos rfl, go1_f (by omega) (fl_ne hTf t hf)]
      exact ⟨_, _, _, rfl, rfl, f1, f2, hTf.trans hSf.symm, Or.inr ⟨f, hf, hSf⟩⟩
theorem read1_ls (t : Txt b L) (hlt : ∀ k, k < 6 → lt k ≤ 10000) {S T : St} {bs : Nat} (pt : PT b L S) (ht : ∀ k, k < L → T 1 (bs + k) = sb (b k)) (hbs : bs + L ≤ 160) (hl : LtM lt T) :
    ∃ r S' T', c_Reader_read_13 S = some (r, S') ∧ m_goThrough_1 (nI bs) (nI L) T = some T' ∧ Fr cF S S' ∧ Fr goP T T' ∧ T' 0 11 = r ∧ ((r = -nI 1 ∧ ∃ cl' res', S' 13 3 = nI cl' ∧ cl' ≤ 160 ∧ Cls (S' 14) lt 0 cl' res' ∧ T' 0 14 = clsV res' ∧ Bd (clsV res')) ∨ ∃ f, f ≤ L ∧ r = nI f) := by
  have hL := t.1
  have l121 : (121 : Int32) = nI 121 := rfl
  unfold c_Reader_read_13 c_LikingReader_begin m_goThrough_1 m_opens_1
  simp only [lits, bnd_eq, bV_some, l121]
  have fr1 : Fr cF S (up2 (up2 S 13 1 (nI 0)) 13 3 (nI 0)) := (Fr.rfl.up (Or.inl ⟨rfl, Or.inl rfl⟩)).up (Or.inl ⟨rfl, Or.inr rfl⟩)
  have kc : KC b L (up2 (up2 S 13 1 (nI 0)) 13 3 (nI 0)) 0 0 := ⟨pt.fr (fun q j hq => by rw [up2_o (by omega), up2_o (by omega)]), by rw [up2_k (by omega), up2_hit rfl rfl], up2_hit rfl rfl, by omega, Nat.le_refl _⟩
  have fr2 : Fr goP T (up2 (up2 (up2 (up2 (up2 (up2 (up2 (up2 (up2 T 0 5 (nI 0)) 0 8 (nI bs)) 0 9 (nI L)) 0 10 (nI 0)) 0 11 (-nI 1)) 0 13 (nI 121)) 0 12 (nI 0)) 0 17 (nI 0)) 0 14 (nI 0)) := by
    refine ((((((((Fr.rfl.up ?_).up ?_).up ?_).up ?_).up ?_).up ?_).up ?_).up ?_).up ?_ <;> (unfold goP; omega)
  generalize hT1 : up2 (up2 (up2 (up2 (up2 (up2 (up2 (up2 (up2 T 0 5 (nI 0)) 0 8 (nI bs)) 0 9 (nI L)) 0 10 (nI 0)) 0 11 (-nI 1)) 0 13 (nI 121)) 0 12 (nI 0)) 0 17 (nI 0)) 0 14 (nI 0) = T1 at *
  have pm : PMt b L 0 bs T1 := by
    subst hT1
    refine ⟨?_, ?_, ?_, fun k hk => ?_, by omega⟩
    · simp (disch := omega) only [up2_k, up2_hit]
    · simp (disch := omega) only [up2_k, up2_hit]
    · simp (disch := omega) only [up2_k, up2_hit]
    · simp (disch := omega) only [up2_o]; exact ht k hk
  have km : KM b L 0 bs lt T1 0 0 := by
    refine ⟨pm, ?_, ?_, ?_, hl.fr (fun j => fr2 4 j (by unfold goP; omega))⟩
    · subst hT1; simp (disch := omega) only [up2_k, up2_hit]
    · subst hT1; simp (disch := omega) only [up2_k, up2_hit]
    · subst hT1; simp (disch := omega) only [up2_k, up2_hit]
  obtain ⟨r, S', T', e3, e4, q1, q2, q3, q4⟩ := read1_loop t hlt FU FU 0 _ _ 0 0 none kc km (by subst hT1; simp (disch := omega) only [up2_k, up2_hit]) (Cls_nil _ _ _) (Or.inl ⟨by subst hT1; simp (disch := omega) only [up2_k, up2_hit], rfl, by subst hT1; simp (disch := omega) only [up2_k, up2_hit]⟩) (by omega) (by omega) (by unfold FU; omega) (by unfold FU; omega)
  exact ⟨r, S', T', e3, e4, fr1.tr q1, fr2.tr (q2.mono (fun q j hp => by unfold mF2 at hp; unfold goP; omega)), q3, q4⟩
theorem go2_f {T : St} {n : Nat} (hn : 0 < n) (hf : T 0 11 ≠ -nI 1) : m_goThrough_2_h32 n T = some T := by
  obtain ⟨n, rfl⟩ : ∃ m, n = m + 1 := ⟨n - 1, by omega⟩
  rw [m_goThrough_2_h32]
  unfold m_goThrough_2_b66
  simp only [lits]
  rw [if_neg hf, if_neg hf]
theorem read2_loop (t : Txt b L) (hlt : ∀ k, k < 6 → lt k ≤ 10000) : ∀ (n n' i : Nat) (S T : St) (a cl : Nat) (res : Option Int32), KC b L S a cl → KM b L ob bs lt T a 0 → T 0 13 = nI 121 → Cls (S 14) lt 0 cl res → ((T 0 17 = nI 0 ∧ res = none ∧ T 0 14 = nI 0) ∨ (T 0 17 = nI 1 ∧ ∃ w, res = some w ∧ Bd w ∧ T 0 14 = w)) → i ≤ a → i ≠ 160 → L < n + a → L < n' + a →
    ∃ r S' T', c_Reader_read_13_h11 n (nI i) S = some (r, S') ∧ bV (m_clause T) (fun T1 => m_goThrough_2_h32 n' T1) = some T' ∧ Fr cF S S' ∧ Fr mF2 T T' ∧ T' 0 11 = r ∧ ((r = -nI 1 ∧ ∃ cl' res', S' 13 3 = nI cl' ∧ cl' ≤ 160 ∧ Cls (S' 14) lt 0 cl' res' ∧ T' 0 14 = clsV res' ∧ Bd (clsV res')) ∨ ∃ f, f ≤ L ∧ r = nI f) := by
  have hL := t.1
  have l59 : (59 : Int32) = nI 59 := rfl
  intro n
  induction n with
  | zero => intro n' i S T a cl res kc; have := kc.2.2.2.1; omega
  | succ n ih =>
    intro n' i S T a cl res kc km h13 hcls hfd hi hi160 hn hn'
    have ha0 := kc.2.2.2.1
    obtain ⟨n', rfl⟩ : ∃ m, n' = m + 1 := ⟨n' - 1, by omega⟩
    have h17 : b01 (T 0 17) := by
      rcases hfd with h | h
      · exact Or.inl h.1
      · exact Or.inr h.1
    obtain ⟨r, S1, T1, e1, e2, f1, f2, g3⟩ := clause_ls t hlt kc km h13 h17
    rw [c_Reader_read_13_h11, e2, bV_some]
    simp only [lits, l59, bnd_eq]
    rw [if_neg (show ¬ nI 160 ≤ nI i from nI_ge (by omega) (by omega)), e1, bI_some]
    simp only []
    rcases g3 with ⟨hr, a', cl', res1, kc1, km1, p1, p2, p3, p4, p5⟩ | ⟨hr, f, hf, hSf, hTf⟩
    · subst hr
      have hge := sk_ge b L a'
      have hle := sk_le b kc1.2.2.2.1
      have hcl1 := kc1.2.2.2.2
      have hcls1 : ∃ res2, Cls (S1 14) lt 0 cl' res2 ∧ ((T1 0 17 = nI 0 ∧ res2 = none ∧ T1 0 14 = nI 0) ∨ (T1 0 17 = nI 1 ∧ ∃ w, res2 = some w ∧ Bd w ∧ T1 0 14 = w)) := by
        have hc0 : Cls (S1 14) lt 0 cl res := hcls.cong (fun k _ hk => p3 k hk)
        rcases hfd with ⟨q1, q2, q3⟩ | ⟨q1, w, q2, q4, q3⟩
        · subst q2
          rcases p5.1 q1 with ⟨u1, u2, u3⟩ | ⟨w, u1, u4, u2, u3⟩
          · subst u1
            exact ⟨none, Cls_tr hc0 p4, Or.inl ⟨u2, rfl, u3.trans q3⟩⟩
          · subst u1
            exact ⟨some w, Cls_tr hc0 p4, Or.inr ⟨u2, w, rfl, u4, u3⟩⟩
        · subst q2
          obtain ⟨u2, u3⟩ := p5.2 q1
          exact ⟨some w, Cls_ext hc0 p2, Or.inr ⟨u2, w, rfl, q4, u3.trans q3⟩⟩
      obtain ⟨res2, hc2, hfd2⟩ := hcls1
      rw [if_neg m10, next13_eq t kc1.1 kc1.2.2.2.1 kc1.2.1, bI_some, m_goThrough_2_h32]
      unfold m_goThrough_2_b66
      simp only [lits, l59, bnd_eq]
      rw [if_pos km1.2.2.1, look_eq t km1.1 kc1.2.2.2.1 km1.2.1, bI_some]
      simp only []
      have hcu := cu_lt t (sk b L a')
      have kc2 := kc1.sk
      have km2 := km1.at (a1 := sk b L a')
      by_cases h0 : cu b L (sk b L a') = 0
      · have hend : L ≤ sk b L a' := by rw [cu_0 t] at h0; exact h0
        have hm1 : cuM b L (sk b L a') = -nI 1 := by rw [cuM_m1 t]; exact hend
        rw [h0, if_pos rfl, hm1, if_neg (show ¬ -nI 1 = nI 59 by decide), if_pos km2.2.2.1, look_eq t km2.1 kc2.2.2.2.1 km2.2.1, bI_some, sk_sk, hm1]
        unfold c_LikingReader_isWhole
        rw [nz_1, bI_some]
        simp only []
        rw [if_neg (show ¬ (1 : Int32) = nI 0 by decide), if_pos trivial]
        have fBd : Bd (clsV res2) := by
          rcases hfd2 with ⟨_, q2, _⟩ | ⟨_, w, q2, q3, _⟩
          · rw [q2]; exact ⟨by decide, by decide⟩
          · rw [q2]; exact q3
        have f14 : (up2 (up2 T1 0 10 (nI (sk b L a'))) 0 10 (nI (sk b L a'))) 0 14 = clsV res2 := by
          rw [up2_k (by omega), up2_k (by omega)]
          rcases hfd2 with ⟨_, q2, q3⟩ | ⟨_, w, q2, _, q3⟩
          · rw [q2]; exact q3
          · rw [q2]; exact q3
        refine ⟨_, _, _, rfl, rfl, cF_at f1, (f2.up (o := 0) (k := 10) (by unfold mF2; omega)).up (by unfold mF2; omega), ?_, Or.inl ⟨rfl, cl', res2, kc2.2.2.1, by omega, hc2.cong (fun k _ _ => up2_o (by omega)), f14, fBd⟩⟩
        rw [up2_k (by omega), up2_k (by omega)]; exact km1.2.2.1
      · have hlt2 : sk b L a' < L := cu_pos (c := cu b L (sk b L a')) (by omega) rfl
        rw [if_neg (nI_nn h0 (by omega) (by omega))]
        by_cases h59 : cu b L (sk b L a') = 59
        · rw [takes13_1 (a := sk b L a') t kc2.1 kc2.2.2.2.1 kc2.2.1 (by rw [sk_sk]; exact h59), bI_some, sk_sk]
          simp only []
          rw [if_neg m10, if_pos (show cuM b L (sk b L a') = nI 59 by rw [cuM_eq t _ (by omega) (by omega)]; exact h59), up2_hit rfl rfl, nI_add, nI_add, up2_up2, up2_up2]
          have kc3 : KC b L (up2 S1 13 1 (nI (sk b L a' + 1))) (sk b L a' + 1) cl' := kc1.at (by omega) (by omega)
          have km3 : KM b L ob bs lt (up2 T1 0 10 (nI (sk b L a' + 1))) (sk b L a' + 1) 0 := km1.at
          have hfd3 : ((up2 T1 0 10 (nI (sk b L a' + 1))) 0 17 = nI 0 ∧ res2 = none ∧ (up2 T1 0 10 (nI (sk b L a' + 1))) 0 14 = nI 0) ∨ ((up2 T1 0 10 (nI (sk b L a' + 1))) 0 17 = nI 1 ∧ ∃ w, res2 = some w ∧ Bd w ∧ (up2 T1 0 10 (nI (sk b L a' + 1))) 0 14 = w) := by
            rw [up2_k (by omega), up2_k (by omega)]; exact hfd2
          by_cases hnx : i + 1 = 160
          · exfalso; omega
          obtain ⟨r, S', T', e3, e4, q1, q2, q3, q4⟩ := ih n' (i + 1) _ _ (sk b L a' + 1) cl' res2 kc3 km3 ((up2_k (by omega)).trans ((f2 _ _ (by unfold mF2; omega)).trans h13)) (hc2.cong (fun k _ _ => up2_o (by omega))) hfd3 (by omega) (by omega) (by omega) (by omega)
          exact ⟨r, S', T', e3, e4, (cF_at f1).tr q1, (f2.up (o := 0) (k := 10) (by unfold mF2; omega)).tr q2, q3, q4⟩
        · rw [takes13_0 (a := sk b L a') t kc2.1 kc2.2.2.2.1 kc2.2.1 (by omega) (by rw [sk_sk]; exact h59), bI_some, sk_sk]
          simp only []
          rw [if_pos trivial, if_neg (show ¬ cuM b L (sk b L a') = nI 59 by rw [cuM_eq t _ (by omega) (by omega)]; exact h59), if_pos km2.2.2.1, look_eq t km2.1 kc2.2.2.2.1 km2.2.1, bI_some, sk_sk]
          simp only []
          rw [if_neg (by rw [cuM_m1 t]; omega), fails_1 ((up2_k (by omega)).trans km2.2.2.1) (up2_hit rfl rfl), bI_some, up2_hit rfl rfl]
          simp only []
          exact ⟨_, _, _, rfl, rfl, cF_at (cF_at f1), ((f2.up (o := 0) (k := 10) (by unfold mF2; omega)).up (o := 0) (k := 10) (by unfold mF2; omega)).up (by unfold mF2; omega), up2_hit rfl rfl, Or.inr ⟨_, hle, rfl⟩⟩
    · subst hr
      rw [if_pos rfl, go2_f (by omega) (fl_ne hTf t hf)]
      exact ⟨_, _, _, rfl, rfl, f1, f2, hTf.trans hSf.symm, Or.inr ⟨f, hf, hSf⟩⟩
theorem read2_ls (t : Txt b L) (hlt : ∀ k, k < 6 → lt k ≤ 10000) {S T : St} {bs : Nat} (pt : PT b L S) (ht : ∀ k, k < L → T 2 (bs + k) = sb (b k)) (hbs : bs + L ≤ 640) (hl : LtM lt T) :
    ∃ r S' T', c_Reader_read_13 S = some (r, S') ∧ m_goThrough_2 (nI bs) (nI L) T = some T' ∧ Fr cF S S' ∧ Fr goP T T' ∧ T' 0 11 = r ∧ ((r = -nI 1 ∧ ∃ cl' res', S' 13 3 = nI cl' ∧ cl' ≤ 160 ∧ Cls (S' 14) lt 0 cl' res' ∧ T' 0 14 = clsV res' ∧ Bd (clsV res')) ∨ ∃ f, f ≤ L ∧ r = nI f) := by
  have hL := t.1
  have l121 : (121 : Int32) = nI 121 := rfl
  unfold c_Reader_read_13 c_LikingReader_begin m_goThrough_2 m_opens_2
  simp only [lits, bnd_eq, bV_some, l121]
  have fr1 : Fr cF S (up2 (up2 S 13 1 (nI 0)) 13 3 (nI 0)) := (Fr.rfl.up (Or.inl ⟨rfl, Or.inl rfl⟩)).up (Or.inl ⟨rfl, Or.inr rfl⟩)
  have kc : KC b L (up2 (up2 S 13 1 (nI 0)) 13 3 (nI 0)) 0 0 := ⟨pt.fr (fun q j hq => by rw [up2_o (by omega), up2_o (by omega)]), by rw [up2_k (by omega), up2_hit rfl rfl], up2_hit rfl rfl, by omega, Nat.le_refl _⟩
  have fr2 : Fr goP T (up2 (up2 (up2 (up2 (up2 (up2 (up2 (up2 (up2 T 0 5 (nI 1)) 0 8 (nI bs)) 0 9 (nI L)) 0 10 (nI 0)) 0 11 (-nI 1)) 0 13 (nI 121)) 0 12 (nI 0)) 0 17 (nI 0)) 0 14 (nI 0)) := by
    refine ((((((((Fr.rfl.up ?_).up ?_).up ?_).up ?_).up ?_).up ?_).up ?_).up ?_).up ?_ <;> (unfold goP; omega)
  generalize hT1 : up2 (up2 (up2 (up2 (up2 (up2 (up2 (up2 (up2 T 0 5 (nI 1)) 0 8 (nI bs)) 0 9 (nI L)) 0 10 (nI 0)) 0 11 (-nI 1)) 0 13 (nI 121)) 0 12 (nI 0)) 0 17 (nI 0)) 0 14 (nI 0) = T1 at *
  have pm : PMt b L 1 bs T1 := by
    subst hT1
    refine ⟨?_, ?_, ?_, fun k hk => ?_, by omega⟩
    · simp (disch := omega) only [up2_k, up2_hit]
    · simp (disch := omega) only [up2_k, up2_hit]
    · simp (disch := omega) only [up2_k, up2_hit]
    · simp (disch := omega) only [up2_o]; exact ht k hk
  have km : KM b L 1 bs lt T1 0 0 := by
    refine ⟨pm, ?_, ?_, ?_, hl.fr (fun j => fr2 4 j (by unfold goP; omega))⟩
    · subst hT1; simp (disch := omega) only [up2_k, up2_hit]
    · subst hT1; simp (disch := omega) only [up2_k, up2_hit]
    · subst hT1; simp (disch := omega) only [up2_k, up2_hit]
  obtain ⟨r, S', T', e3, e4, q1, q2, q3, q4⟩ := read2_loop t hlt FU FU 0 _ _ 0 0 none kc km (by subst hT1; simp (disch := omega) only [up2_k, up2_hit]) (Cls_nil _ _ _) (Or.inl ⟨by subst hT1; simp (disch := omega) only [up2_k, up2_hit], rfl, by subst hT1; simp (disch := omega) only [up2_k, up2_hit]⟩) (by omega) (by omega) (by unfold FU; omega) (by unfold FU; omega)
  exact ⟨r, S', T', e3, e4, fr1.tr q1, fr2.tr (q2.mono (fun q j hp => by unfold mF2 at hp; unfold goP; omega)), q3, q4⟩
end CLAUSE2
