/-! stranger and exchange -/
theorem NrM.fr2 {T T' : St} {X : Cf} {E : Ev} (h : NrM T X E) (iv : Iv X) (hf : ∀ q j, (q = 0 ∧ (j = 24 ∨ j = 31)) ∨ q = 2 ∨ q = 3 ∨ q = 5 ∨ q = 7 ∨ q = 9 ∨ q = 11 ∨ q = 12 ∨ (16 ≤ q ∧ q ≤ 19) → T' q j = T q j) : NrM T' X E := by
  obtain ⟨h1, h2, h3⟩ := h
  refine ⟨h1.fr (fun q j hq => hf q j (by omega)), ⟨fun pl hpl => ?_, fun hx s hs => (hf _ _ (by omega)).trans (h2.2 hx s hs)⟩, h3.fr (fun q j hq => hf q j (by omega))⟩
  obtain ⟨a1, a2, a3⟩ := h2.1 pl hpl
  exact ⟨fun s hs => (hf _ _ (by omega)).trans (a1 s hs), (hf _ _ (by omega)).trans a2, (hf _ _ (by omega)).trans a3⟩
theorem sg_h4 {S : St} {v : Int32} {n k : Nat} (hk : k < 5) : c_Noon_strangerGrains_h4 (n + 1) v (nI k) S = c_Noon_strangerGrains_h4 n (v + S 128 k) (nI (k + 1)) S := by
  rw [c_Noon_strangerGrains_h4]
  simp only [lits, bnd_eq]
  rw [if_neg (show ¬ nI 5 ≤ nI k from nI_ge hk (by omega)), ckI (by omega) (by omega), nI_clamp (by omega), nI_add]
theorem sgC {S : St} {p : Nat → Nat} (h : ∀ s, s < 6 → S 128 s = nI (p s)) : c_Noon_strangerGrains S = some (nI (sm5 p), S) := by
  unfold c_Noon_strangerGrains
  simp only [lits]
  rw [show FU = 994 + 1 + 1 + 1 + 1 + 1 + 1 from rfl, sg_h4 (by omega), sg_h4 (by omega), sg_h4 (by omega), sg_h4 (by omega), sg_h4 (by omega), c_Noon_strangerGrains_h4]
  simp only [lits]
  rw [if_pos (show nI 5 ≤ nI (0 + 1 + 1 + 1 + 1 + 1) by decide), h 0 (by omega), h (0 + 1) (by omega), h (0 + 1 + 1) (by omega), h (0 + 1 + 1 + 1) (by omega), h (0 + 1 + 1 + 1 + 1) (by omega), nI_add, nI_add, nI_add, nI_add, nI_add]
  rw [show 0 + p 0 + p (0 + 1) + p (0 + 1 + 1) + p (0 + 1 + 1 + 1) + p (0 + 1 + 1 + 1 + 1) = sm5 p by unfold sm5; simp]
theorem st_h102 {T : St} {v3 v4 v5 : Int32} {n k : Nat} (hk : k < 6) : m_stranger_h102 (n + 1) v3 v4 v5 (nI k) T = m_stranger_h102 n v3 v4 (v5 + T 18 k) (nI (k + 1)) T := by
  rw [m_stranger_h102]
  simp only [lits, bnd_eq]
  rw [if_neg (show ¬ nI 5 < nI k from nI_nlt (by omega) (by omega)), ckI hk (by omega), nI_clamp (by omega), nI_add]
theorem stM {T : St} {p : Nat → Nat} {v3 v4 : Int32} (h : ∀ s, s < 6 → T 18 s = nI (p s)) (h5 : p 5 = 0) : m_stranger_h102 FU v3 v4 (nI 0) (nI 0) T = (if v3 = nI 0 then some (nI (sm5 p), T) else bI (m_allMeals (nI 0) (T 0 32) T) (fun x2 S1 => some (v4 - x2, S1))) := by
  rw [show FU = 993 + 1 + 1 + 1 + 1 + 1 + 1 + 1 from rfl, st_h102 (by omega), st_h102 (by omega), st_h102 (by omega), st_h102 (by omega), st_h102 (by omega), st_h102 (by omega), m_stranger_h102]
  simp only [lits]
  rw [if_pos (show nI 5 < nI (0 + 1 + 1 + 1 + 1 + 1 + 1) by decide), h 0 (by omega), h (0 + 1) (by omega), h (0 + 1 + 1) (by omega), h (0 + 1 + 1 + 1) (by omega), h (0 + 1 + 1 + 1 + 1) (by omega), h (0 + 1 + 1 + 1 + 1 + 1) (by omega), nI_add, nI_add, nI_add, nI_add, nI_add, nI_add]
  rw [show 0 + p 0 + p (0 + 1) + p (0 + 1 + 1) + p (0 + 1 + 1 + 1) + p (0 + 1 + 1 + 1 + 1) + p (0 + 1 + 1 + 1 + 1 + 1) = sm5 p by unfold sm5; simp [h5]]
theorem op_stranger {S T : St} (h : Rel S T) (v w u : Int32) : Opp (c_N_stranger v w u S) (m_stranger v w u T) := by
  obtain ⟨X, E, h⟩ := h
  unfold c_N_stranger m_stranger
  simp only [lits, lits64, bnd_eq, nzI0, nzI1]
  have h := h.z (nI 0)
  generalize up2 T 0 0 (nI 0) = T at h ⊢
  have h6 := h.2.1.2.2.1.1.1
  have hin : ∀ (k : Nat), k < X 0 0 → m_isIn (nI k).toInt64 (lN 0) (T 0 24 - nI 1).toInt64 T = some (nI 1, T) := fun k hk => by
    rw [h.2.1.2.1.1, pk_sub (by omega), ← nI_l (n := 0) (by omega), isInM (by omega) (by omega) (by omega), if_pos (by omega)]
  rcases pk_ix v (n := X 0 0) (by omega) with hv | hv | ⟨k, hk, rfl⟩
  · have e1 : c_N_isHouse v S = some (nI 0, S) := by
      unfold c_N_isHouse
      rw [if_pos hv]; exact nz_0 _
    have e2 : m_isIn v.toInt64 (lN 0) (T 0 24 - nI 1).toInt64 T = some (nI 0, T) := by
      have hi : v.toInt < 0 := Int32.lt_iff_toInt_lt.mp hv
      unfold m_isIn
      simp only [lg_cmp_lt, lg_cmp_gt]
      rw [if_pos (show v.toInt64 < lN 0 by rw [Int64.lt_iff_toInt_lt, Int32.toInt_toInt64, lN_toInt (by omega)]; omega)]
      exact nz_0 _
    rw [e1, bI_some, if_pos rfl, e2, bI_some]
    by_cases c : T 0 24 = nI 0
    · rw [if_pos c]; exact opp_now h _
    · rw [if_neg c, if_pos rfl]; exact opp_now h _
  · have hvi := Int32.le_iff_toInt_le.mp hv
    rw [nI_toInt (by omega)] at hvi
    have hn0 : ¬ v < 0 := by
      rw [Int32.lt_iff_toInt_lt]
      show ¬ v.toInt < 0
      omega
    have e1 : c_N_isHouse v S = some (nI 0, S) := by
      unfold c_N_isHouse
      rw [if_neg hn0, h.2.1.1.1, if_pos hv]; exact nz_0 _
    have e2 : m_isIn v.toInt64 (lN 0) (T 0 24 - nI 1).toInt64 T = some (nI 0, T) := by
      unfold m_isIn
      simp only [lg_cmp_lt, lg_cmp_gt]
      rw [if_neg (show ¬ v.toInt64 < lN 0 by rw [Int64.lt_iff_toInt_lt, Int32.toInt_toInt64, lN_toInt (by omega)]; omega), if_pos (show (T 0 24 - nI 1).toInt64 < v.toInt64 by rw [h.2.1.2.1.1, Int64.lt_iff_toInt_lt, Int32.toInt_toInt64, Int32.toInt_toInt64, pk_sub_toInt (by omega) (by omega)]; omega)]
      exact nz_0 _
    rw [e1, bI_some, if_pos rfl, e2, bI_some]
    by_cases c : T 0 24 = nI 0
    · rw [if_pos c]; exact opp_now h _
    · rw [if_neg c, if_pos rfl]; exact opp_now h _
  · have e1 : c_N_isHouse (nI k) S = some (nI 1, S) := by
      rcases house2 h (nI k) with ⟨_, _, _, _, e, _⟩ | ⟨e, _⟩
      · exact e
      · exfalso
        unfold c_N_isHouse at e
        rw [if_neg (nI_pos (by omega)), h.2.1.1.1, if_neg (nI_ge hk (by omega)), nz_1] at e
        have := congrArg Prod.fst (Option.some.inj e)
        exact absurd (show (1 : Int32) = nI 0 from this) (by decide)
    rw [e1, bI_some, if_neg m10, if_neg (show ¬ T 0 24 = nI 0 by rw [h.2.1.2.1.1]; exact nI_nn (by omega) (by omega) (by omega)), hin k hk, bI_some, if_neg m10]
    simp only []
    rcases within2 w (l := 0) (h := 99) (by omega) (by omega) S T with ⟨l, l1, hl, rfl, e7, e8⟩ | ⟨e7, e8, _⟩
    · rw [e7, e8, bI_some, bI_some, if_neg m10, if_neg m10]
      simp only []
      rcases choice2 u S T with ⟨c, hc, rfl, e5, e6⟩ | ⟨e5, e6⟩
      · rw [e5, e6, bI_some, bI_some, if_neg m10, if_neg m10]
        simp only []
        obtain ⟨S1, T1, r1, r2, n1, n2, nc, nm, hr⟩ := run2 h (by omega)
        have iv := h.2.1.2.2.1.1
        have hd1 : T1 0 32 = nI (X 0 4) := hr.2.1.2.2.2.1
        obtain ⟨⟨x, S2⟩, r3, p1, p2⟩ := mealsTogether_ok (Or.inl rfl) iv nc
        obtain ⟨⟨y, T2⟩, r4, p3, p4⟩ := allMeals_ok (b := 0) (by omega) iv (by omega) nm
        simp only at p1 p3
        rw [show allE E X 0 = smM E X (X 0 0) from if_pos rfl] at p3
        subst p1
        subst p3
        rw [r1, r2, bV_some, bV_some, r3, bI_some, hd1, r4, bI_some]
        simp only []
        have h2 := hr.go (p2.mono meal_jC) (p4.mono meal_jM)
        -- the noon with the stranger
        obtain ⟨q1, ⟨cq, mq, ⟨_, pl, _⟩, hd, h40, h42⟩, q3, q4⟩ := h2
        have he : ∀ q j, ¬ (q = 0 ∧ 5 ≤ j) → uX (uX X 0 7 k) 0 8 l q j = X q j := fun q j hn => by rw [uX_n (by omega), uX_n (by omega)]
        have x5 : uX (uX X 0 7 k) 0 8 l 0 5 = 99 := by rw [uX_n (by omega), uX_n (by omega)]; exact pl.1
        have x6 : uX (uX X 0 7 k) 0 8 l 0 6 ≤ 99 := by rw [uX_n (by omega), uX_n (by omega)]; exact iv.2.2.2.2.2.1
        have x7 : uX (uX X 0 7 k) 0 8 l 0 7 = k := by rw [uX_n (by omega), uX_hit ⟨rfl, rfl⟩]
        have x8 : uX (uX X 0 7 k) 0 8 l 0 8 = l := uX_hit ⟨rfl, rfl⟩
        have x0 := he 0 0 (by omega)
        have x4 := he 0 4 (by omega)
        generalize uX (uX X 0 7 k) 0 8 l = Y at *
        have ivY : Iv Y := iv.cg he x6 (by omega)
        have h0 : 0 < Y 0 0 := by omega
        have ce := q3.ce
        obtain ⟨S3, r5, n3⟩ := runSt_ok (Or.inl rfl) ivY x5 (by omega) h0 (cq.cg he)
        rw [x7, x8] at r5
        have mqY : Mq (up2 (up2 T2 0 42 (nI k)) 0 43 (nI l)) Y := (mq.fr (fun q j hq => by rw [up2_n (by omega), up2_n (by omega)])).cg (fun q j hn => he q j (by omega))
        have mps : Mps (up2 (up2 T2 0 42 (nI k)) 0 43 (nI l)) Y := ⟨Or.inr ⟨x5, by rw [up2_k (by omega), up2_k (by omega)]; exact h40⟩, fun hn => absurd x5 hn, Or.inl (by rw [x7, up2_k (by omega)]; exact up2_hit rfl rfl), fun _ => by rw [x8]; exact up2_hit rfl rfl, by omega, by omega⟩
        obtain ⟨T3, r6, n4⟩ := noonM_ok ivY h0 mqY mps
        rw [x4] at r6
        have hd3 : (up2 (up2 T2 0 42 (nI k)) 0 43 (nI l)) 0 32 = nI (X 0 4) := by rw [up2_n (by omega), up2_n (by omega)]; exact hd
        have meY : ME (up2 (up2 T2 0 42 (nI k)) 0 43 (nI l)) E := ce.2.fr (fun q j hq => by rw [up2_n (by omega), up2_n (by omega)])
        have nc3 : NrC S3 33 Y E := NrC.of n3 (cq.cg he) (Or.inl rfl) ce.1
        have nm3 : NrM (up2 T3 0 42 (-nI 1)) Y E := (NrM.of n4 mqY meY).fr2 ivY (fun q j hq => up2_n (by omega))
        have fT : Fr jM T2 (up2 T3 0 42 (-nI 1)) := fun q j hj => by
          by_cases e : q = 0 ∧ j = 42
          · rw [e.1, e.2, up2_hit rfl rfl]; exact h42.symm
          · rw [up2_n e, n4.2.2 q j (fun hn => hj (noon_jM q j hn))]
            have : ¬ (q = 0 ∧ j = 43) := fun e2 => hj (by unfold jM kM; omega)
            rw [up2_n this, up2_n e]
        have fS : Fr jC S2 S3 := n3.2.2.2.mono noon_jC
        have h3 : Re X E S3 (up2 T3 0 42 (-nI 1)) := Re.go ⟨q1, ⟨cq, mq, ⟨iv, pl, by assumption⟩, hd, h40, h42⟩, q3, q4⟩ fS fT
        have s18 : ∀ s, s < 6 → (up2 T3 0 42 (-nI 1)) 18 s = nI (sgP Y s) := fun s hs => by rw [up2_o (by omega)]; exact n4.1.2 (by omega) s hs
        have s128 : ∀ s, s < 6 → S3 128 s = nI (sgP Y s) := fun s hs => n3.1.2 (by omega) s hs
        have sg5 : sgP Y 5 = 0 := by
          have z := pois_0 ivY (Y 0 7) (by omega) (fun p hp e => by
            have := ivY.2.2.2.2.2.2.2.2.2.1 p (by omega)
            omega)
          have z2 := tk_le (ptS Y (Y 0 7)) (Y 0 8) 5 (by omega)
          unfold sgP
          omega
        have hd4 : (up2 T3 0 42 (-nI 1)) 0 32 = nI (Y 0 4) := by rw [x4]; exact h3.2.1.2.2.2.1
        rw [r5, bV_some, hd3, r6, bV_some, stM s18 sg5, sgC s128]
        by_cases c0 : c = 0
        · subst c0
          rw [if_pos rfl, if_pos rfl, bI_some]
          exact opp_now h3 _
        · rw [if_neg (nI_nn c0 (by omega) (by omega)), if_neg (nI_nn c0 (by omega) (by omega))]
          obtain ⟨⟨x', S4⟩, r7, p5, p6⟩ := mealsTogether_ok (Or.inl rfl) ivY nc3
          obtain ⟨⟨y', T4⟩, r8, p7, p8⟩ := allMeals_ok (b := 0) (by omega) ivY (by omega) nm3
          simp only at p5 p7
          rw [show allE E Y 0 = smM E Y (Y 0 0) from if_pos rfl] at p7
          subst p5
          subst p7
          rw [r7, hd4, r8, bI_some, bI_some]
          exact opp_go h3 _ (p6.mono meal_jC) (p8.mono meal_jM)
      · rw [e5, e6, bI_some, bI_some, if_pos rfl, if_pos rfl]
        exact opp_now h _
    · rw [e7, e8, bI_some, bI_some, if_pos rfl, if_pos rfl]
      exact opp_now h _
