/-! CALLS, one after another: those that ask one noon -/
theorem op_meal {S T : St} (h : Rel S T) (v : Int32) : Opp (c_N_meal v S) (m_meal v T) := by
  obtain ⟨X, E, h⟩ := h
  unfold c_N_meal m_meal
  simp only [lits, lits64, bnd_eq, nzI0, nzI1]
  have h := h.z (nI 0)
  generalize up2 T 0 0 (nI 0) = T at h ⊢
  rcases house2 h v with ⟨k, hk, hk6, rfl, e1, e2⟩ | ⟨e1, e2⟩
  · rw [e1, e2, bI_some, bI_some, if_neg m10, if_neg m10]
    obtain ⟨S1, T1, r1, r2, n1, n2, nc, nm, hr⟩ := run2 h (by omega)
    obtain ⟨S2, T2, r3, r4, p1, p2, hr2, _⟩ := meal2 hr nc nm hk
    rw [r1, r2, bV_some, bV_some, r3, r4, bI_some, bI_some]
    exact opp_now hr2 _
  · rw [e1, e2, bI_some, bI_some, if_pos rfl, if_pos rfl]
    exact opp_now h _
theorem op_share {S T : St} (h : Rel S T) (v w : Int32) : Opp (c_N_share v w S) (m_share v w T) := by
  obtain ⟨X, E, h⟩ := h
  unfold c_N_share m_share
  simp only [lits, lits64, bnd_eq, nzI0, nzI1]
  have h := h.z (nI 0)
  generalize up2 T 0 0 (nI 0) = T at h ⊢
  have iv := h.2.1.2.2.1.1
  have h6 := iv.1
  rcases house2 h v with ⟨k, hk, hk6, rfl, e1, e2⟩ | ⟨e1, e2⟩
  · rw [e1, e2, bI_some, bI_some, if_neg m10, if_neg m10]
    rcases stuff2 w S T with ⟨s, hs, rfl, e3, e4⟩ | ⟨e3, e4, _⟩
    · rw [e3, e4, bI_some, bI_some, if_neg m10, if_neg m10]
      obtain ⟨S1, T1, r1, r2, n1, n2, nc, nm, hr⟩ := run2 h (by omega)
      obtain ⟨g1, g2, g3, g4, g5⟩ := res2 iv n1 n2 hk
      rw [r1, r2, bV_some, bV_some, got_eq hk6 (by omega), bI_some, pk_mul, nI_add, ckI (by omega) (by omega), nI_clamp (by omega)]
      simp only []
      rw [g1 s (by omega), g3 s (by omega)]
      exact opp_now hr _
    · rw [e3, e4, bI_some, bI_some, if_pos rfl, if_pos rfl]
      exact opp_now h _
  · rw [e1, e2, bI_some, bI_some, if_pos rfl, if_pos rfl]
    exact opp_now h _
theorem op_heat {S T : St} (h : Rel S T) (v : Int32) : Opp (c_N_heat v S) (m_heat v T) := by
  obtain ⟨X, E, h⟩ := h
  unfold c_N_heat m_heat
  simp only [lits, lits64, bnd_eq, nzI0, nzI1]
  have h := h.z (nI 0)
  generalize up2 T 0 0 (nI 0) = T at h ⊢
  have iv := h.2.1.2.2.1.1
  have h6 := iv.1
  rcases house2 h v with ⟨k, hk, hk6, rfl, e1, e2⟩ | ⟨e1, e2⟩
  · rw [e1, e2, bI_some, bI_some, if_neg m10, if_neg m10]
    obtain ⟨S1, T1, r1, r2, n1, n2, nc, nm, hr⟩ := run2 h (by omega)
    obtain ⟨g1, g2, g3, g4, g5⟩ := res2 iv n1 n2 hk
    have hp := (plc_spec iv hk).1
    rw [r1, r2, bV_some, bV_some, heatOf_eq hk6 nc.1.2.2.2.1 g2 iv.2.2.2.1 (by omega), bI_some, ckI hk6 (by omega), nI_clamp (by omega), g4]
    exact opp_now hr _
  · rw [e1, e2, bI_some, bI_some, if_pos rfl, if_pos rfl]
    exact opp_now h _
theorem op_first {S T : St} (h : Rel S T) : Opp (c_N_first S) (m_first T) := by
  obtain ⟨X, E, h⟩ := h
  unfold c_N_first m_first
  simp only [lits, lits64, bnd_eq, nzI0, nzI1]
  have h := h.z (nI 0)
  generalize up2 T 0 0 (nI 0) = T at h ⊢
  rcases street2 h with ⟨h0, e1, e2⟩ | ⟨h0, e1, e2⟩
  · rw [e1, bI_some, if_neg m10, if_neg e2]
    obtain ⟨S1, T1, r1, r2, n1, n2, nc, nm, hr⟩ := run2 h h0
    rw [r1, r2, bV_some, bV_some, n1.2.1, n2.2.1]
    exact opp_now hr _
  · rw [e1, bI_some, if_pos rfl, if_pos e2]
    exact opp_now h _
theorem left_h26 {T : St} {hs p : Nat} (h1 : T 0 24 = nI hs) (h2 : 0 < hs) (h3 : hs ≤ 6) (h4 : T 11 (hs - 1) = nI p) (h5 : p < 6) {n k : Nat} {v : Int32} (hk : k < 5) : m_left_h26 (n + 1) v (nI k) T = m_left_h26 n (v + T 16 (6 * p + k)) (nI (k + 1)) T := by
  rw [m_left_h26]
  simp only [lits, bnd_eq]
  rw [if_neg (show ¬ nI 5 ≤ nI k from nI_ge hk (by omega)), h1, pk_sub (by omega), ckI (by omega) (by omega), nI_clamp (by omega), h4, pk_mul, nI_add, ckI (by omega) (by omega), nI_clamp (by omega), nI_add]
theorem op_left {S T : St} (h : Rel S T) : Opp (c_N_left S) (m_left T) := by
  obtain ⟨X, E, h⟩ := h
  unfold c_N_left m_left
  simp only [lits, lits64, bnd_eq, nzI0, nzI1]
  have h := h.z (nI 0)
  generalize up2 T 0 0 (nI 0) = T at h ⊢
  have iv := h.2.1.2.2.1.1
  have h6 := iv.1
  rcases street2 h with ⟨h0, e1, e2⟩ | ⟨h0, e1, e2⟩
  · rw [e1, bI_some, if_neg m10, if_neg e2]
    obtain ⟨S1, T1, r1, r2, n1, n2, nc, nm, hr⟩ := run2 h h0
    have hl := iv.2.2.2.2.2.2.2.2.2.1 (X 0 0 - 1) (by omega)
    obtain ⟨g1, g2, g3, g4, g5⟩ := res2 iv n1 n2 hl
    have cl := nc.1.2.2.2.2.2.2.2 (X 0 0 - 1) (by omega)
    have ml := nm.1.2.2.2.2.2.2 (X 0 0 - 1) (by omega)
    rw [r1, r2, bV_some, bV_some, nc.1.1, pk_sub (by omega), ckI (by omega) (by omega), nI_clamp (by omega), cl, grainsOf_eq (by omega) g1, bI_some]
    rw [show FU = 994 + 1 + 1 + 1 + 1 + 1 + 1 from rfl, left_h26 nm.1.1 h0 h6 ml (by omega) (by omega), left_h26 nm.1.1 h0 h6 ml (by omega) (by omega), left_h26 nm.1.1 h0 h6 ml (by omega) (by omega), left_h26 nm.1.1 h0 h6 ml (by omega) (by omega), left_h26 nm.1.1 h0 h6 ml (by omega) (by omega), m_left_h26]
    simp only [lits]
    rw [if_pos (show nI 5 ≤ nI (0 + 1 + 1 + 1 + 1 + 1) by decide), g3 0 (by omega), g3 (0 + 1) (by omega), g3 (0 + 1 + 1) (by omega), g3 (0 + 1 + 1 + 1) (by omega), g3 (0 + 1 + 1 + 1 + 1) (by omega), nI_add, nI_add, nI_add, nI_add, nI_add]
    rw [show 0 + gtP X (plc X (X 6 (X 0 0 - 1))) 0 + gtP X (plc X (X 6 (X 0 0 - 1))) (0 + 1) + gtP X (plc X (X 6 (X 0 0 - 1))) (0 + 1 + 1) + gtP X (plc X (X 6 (X 0 0 - 1))) (0 + 1 + 1 + 1) + gtP X (plc X (X 6 (X 0 0 - 1))) (0 + 1 + 1 + 1 + 1) = sm5 (gtP X (plc X (X 6 (X 0 0 - 1)))) by unfold sm5; simp]
    exact opp_now hr _
  · rw [e1, bI_some, if_pos rfl, if_pos e2]
    exact opp_now h _
theorem op_eaten {S T : St} (h : Rel S T) (v : Int32) : Opp (c_N_eaten v S) (m_eaten v T) := by
  obtain ⟨X, E, h⟩ := h
  unfold c_N_eaten m_eaten
  simp only [lits, lits64, bnd_eq, nzI0, nzI1]
  have h := h.z (nI 0)
  generalize up2 T 0 0 (nI 0) = T at h ⊢
  rcases house2 h v with ⟨k, hk, hk6, rfl, e1, e2⟩ | ⟨e1, e2⟩
  · rw [e1, e2, bI_some, bI_some, if_neg m10, if_neg m10, ckI hk6 (by omega), ckI hk6 (by omega), nI_clamp (by omega)]
    simp only []
    rw [h.2.2.2.1 k hk]
    exact opp_now h _
  · rw [e1, e2, bI_some, bI_some, if_pos rfl, if_pos rfl]
    exact opp_now h _
theorem op_end {S T : St} (h : Rel S T) (v : Int32) : Opp (c_N_end v S) (m_end v T) := by
  obtain ⟨X, E, h⟩ := h
  unfold c_N_end m_end
  simp only [lits, lits64, bnd_eq, nzI0, nzI1]
  have h := h.z (nI 0)
  generalize up2 T 0 0 (nI 0) = T at h ⊢
  obtain ⟨h1, h2, h3, h4, h5, h6⟩ := h
  obtain ⟨b, L, t, pt, g1, g2⟩ := h1
  have hL := t.1
  rw [pt.1, g1]
  have hre : Re X E S T := ⟨⟨b, L, t, pt, g1, g2⟩, h2, h3, h4, h5, h6⟩
  by_cases hv : v < nI 0
  · rw [if_pos hv, if_pos hv]
    exact opp_now hre _
  · obtain ⟨k, hk, rfl⟩ := nI_of hv
    rw [if_neg hv, if_neg hv]
    by_cases hkL : k ≤ L
    · rw [if_pos (show nI k ≤ nI L from nI_le hkL (by omega)), if_pos (show nI k ≤ nI L from nI_le hkL (by omega))]
      refine ⟨_, _, _, rfl, rfl, X, E, ⟨b, k, ⟨by omega, fun j hj => t.2 j (by omega)⟩, ⟨up2_hit rfl rfl, fun j hj => (up2_o (by omega)).trans (pt.2 j (by omega))⟩, up2_hit rfl rfl, fun j hj => (up2_o (by omega)).trans (g2 j (by omega))⟩, h2.fr (fun q j hq => up2_n (by omega)) (fun q j hq => up2_n (by omega)), h3.fr (fun q j hq => up2_n (by omega)) (fun q j hq => up2_n (by omega)), h4.fr (fun j => up2_n (by omega)) (fun j => up2_n (by omega)), h5.fr (fun q j hq => up2_n (by omega)) (fun q j hq => up2_n (by omega)), h6.fr (fun q j hq => up2_n (by omega)) (fun q j hq => up2_n (by omega))⟩
    · rw [if_neg (show ¬ nI k ≤ nI L from nI_ge (by omega) (by omega)), if_neg (show ¬ nI k ≤ nI L from nI_ge (by omega) (by omega))]
      exact opp_now hre _
theorem op_liking {S T : St} (h : Rel S T) (v : Int32) : Opp (c_N_liking v S) (m_liking v T) := by
  obtain ⟨X, E, h⟩ := h
  unfold c_N_liking m_liking
  simp only [lits, lits64, bnd_eq, nzI0, nzI1]
  have h := h.z (nI 0)
  generalize up2 T 0 0 (nI 0) = T at h ⊢
  rcases street2 h with ⟨h0, e1, e2⟩ | ⟨h0, e1, e2⟩
  · obtain ⟨h1, h2, h3, h4, h5, h6⟩ := h
    have hre : Re X E S T := ⟨h1, h2, h3, h4, h5, h6⟩
    obtain ⟨n, hn, a1, a2, a3, a4⟩ := h3
    rw [e1, bI_some, if_neg m10, if_neg e2]
    simp only []
    have hold : ∀ (E' : Ev) (x : Int32) (S' : St), (∀ q j, ¬ (q = 0 ∧ j = 5) → ¬ (q = 111 ∧ j = 6) → S' q j = S q j) → RH n E' S' (up2 T 0 31 x) → Rel S' (up2 T 0 31 x) := by
      intro E' x S' hS hrh
      refine ⟨X, E', h1.fr (fun q j hq => hS _ _ (by omega) (by omega)) (fun q j hq => up2_n (by omega)), h2.fr (fun q j hq => hS _ _ (by omega) (by omega)) (fun q j hq => up2_n (by omega)), ⟨n, hn, (hS _ _ (by omega) (by omega)).trans a1, (up2_n (by omega)).trans a2, fun j hj => ?_, hrh⟩, h4.fr (fun j => hS _ _ (by omega) (by omega)) (fun j => up2_n (by omega)), h5.fr (fun q j hq => hS _ _ (by omega) (by omega)) (fun q j hq => up2_n (by omega)), h6.fr (fun q j hq => hS _ _ (by omega) (by omega)) (fun q j hq => up2_n (by omega))⟩
      obtain ⟨E1, b1, b2, b3⟩ := a3 j hj
      exact ⟨E1, b1.fr (fun q k hq1 hq2 => hS _ _ (by omega) (by omega)) (by omega), b2.fr (fun q k hq => up2_n (by omega)), b3⟩
    unfold c_N_hold
    simp only [lits, bnd_eq]
    rw [a1, a2]
    by_cases hm : v = -nI 1
    · subst hm
      rw [if_neg (show ¬ -nI 1 < -nI 1 by decide), if_pos (show -nI 1 < nI n by rw [Int32.lt_iff_toInt_lt, nI_toInt (by omega), show (-nI 1 : Int32).toInt = -1 by decide]; omega), if_pos rfl, if_pos (show -nI 1 < nI 0 by decide), bV_some]
      refine ⟨_, _, _, rfl, rfl, hold plainE _ _ (fun q j h1 h2 => by rw [up2_n (by omega), up2_n (by omega)]) (Or.inl ⟨?_, up2_hit rfl rfl, up2_hit rfl rfl, rfl⟩)⟩
      rw [up2_o (by omega)]; exact up2_hit rfl rfl
    · rw [if_neg hm]
      rcases pk_ix v (n := n) (by omega) with hv | hv | ⟨k, hk, rfl⟩
      · have hi : v.toInt < 0 := Int32.lt_iff_toInt_lt.mp hv
        have hlt : v < -nI 1 := by
          rw [Int32.lt_iff_toInt_lt, show (-nI 1 : Int32).toInt = -1 by decide]
          have : v.toInt ≠ -1 := fun e => hm (Int32.toInt_inj.mp (e.trans (by decide)))
          omega
        rw [if_pos hlt]
        have hin : m_isIn v.toInt64 (lN 0) (nI n - nI 1).toInt64 T = some (nI 0, T) := by
          unfold m_isIn
          simp only [lg_cmp_lt, lg_cmp_gt]
          rw [if_pos (show v.toInt64 < lN 0 by rw [Int64.lt_iff_toInt_lt, Int32.toInt_toInt64, lN_toInt (by omega)]; omega)]
          exact nz_0 _
        rw [hin, bI_some, if_pos rfl]
        exact opp_now hre _
      · have hnl : ¬ v < -nI 1 := by
          rw [Int32.lt_iff_toInt_lt, show (-nI 1 : Int32).toInt = -1 by decide]
          have := Int32.le_iff_toInt_le.mp hv
          rw [nI_toInt (by omega)] at this
          omega
        have hnl2 : ¬ v < nI n := by
          rw [Int32.lt_iff_toInt_lt]
          have := Int32.le_iff_toInt_le.mp hv
          omega
        rw [if_neg hnl, if_neg hnl2]
        have hin : m_isIn v.toInt64 (lN 0) (nI n - nI 1).toInt64 T = some (nI 0, T) := by
          have hv0 := Int32.le_iff_toInt_le.mp hv
          rw [nI_toInt (by omega)] at hv0
          unfold m_isIn
          simp only [lg_cmp_lt, lg_cmp_gt]
          rw [if_neg (show ¬ v.toInt64 < lN 0 by rw [Int64.lt_iff_toInt_lt, Int32.toInt_toInt64, lN_toInt (by omega)]; omega), if_pos (show (nI n - nI 1).toInt64 < v.toInt64 by rw [Int64.lt_iff_toInt_lt, Int32.toInt_toInt64, Int32.toInt_toInt64, pk_sub_toInt (by omega) (by omega)]; omega)]
          exact nz_0 _
        rw [hin, bI_some, if_pos rfl]
        exact opp_now hre _
      · rw [if_neg (show ¬ nI k < -nI 1 by rw [Int32.lt_iff_toInt_lt, nI_toInt (by omega), show (-nI 1 : Int32).toInt = -1 by decide]; omega), if_pos (show nI k < nI n from nI_lt hk (by omega)), if_neg (show ¬ nI k < nI 0 from nI_pos (by omega)), if_neg (show ¬ nI 4 ≤ nI k from nI_ge (by omega) (by omega)), ckI (by omega) (by omega), bV_some]
        rw [pk_sub (by omega), ← nI_l (n := 0) (by omega), isInM (by omega) (by omega) (by omega), if_pos (by omega), bI_some, if_neg m10]
        obtain ⟨E', b1, b2, b3⟩ := a3 k hk
        refine ⟨_, _, _, rfl, rfl, hold E' _ _ (fun q j h1 h2 => by rw [up2_n (by omega), up2_n (by omega)]) (Or.inr ⟨k, hk, ?_, up2_hit rfl rfl, up2_hit rfl rfl, b1.fr (fun q k hq1 hq2 => by rw [up2_n (by omega), up2_n (by omega)]) (by omega), b2.fr (fun q k hq => up2_n (by omega)), b3⟩)⟩
        rw [up2_o (by omega)]; exact up2_hit rfl rfl
  · rw [e1, bI_some, if_pos rfl, if_pos e2]
    exact opp_now h _
