/-! terms and sums -/
theorem joined_42 (x y : Int32) (S : St) : c_Liking_joined (nI 42) x y S = some (wi (x.toInt64 * y.toInt64), S) := by
  unfold c_Liking_joined
  rw [if_neg (show ¬ nI 42 = 38 by decide), if_pos (show nI 42 = 42 from rfl)]
  rfl
theorem joined_43 (x y : Int32) (S : St) : c_Liking_joined (nI 43) x y S = some (wi (x.toInt64 + y.toInt64), S) := by
  unfold c_Liking_joined
  rw [if_neg (show ¬ nI 43 = 38 by decide), if_neg (show ¬ nI 43 = 42 by decide), if_pos (show nI 43 = 43 from rfl)]
  rfl
theorem joined_45 (x y : Int32) (S : St) : c_Liking_joined (nI 45) x y S = some (wi (x.toInt64 - y.toInt64), S) := by
  unfold c_Liking_joined
  rw [if_neg (show ¬ nI 45 = 38 by decide), if_neg (show ¬ nI 45 = 42 by decide), if_neg (show ¬ nI 45 = 43 by decide), if_pos (show nI 45 = 45 from rfl)]
  rfl
theorem joined_47 (x y : Int32) (S : St) : c_Liking_joined (nI 47) x y S = some (if y = 0 then 0 else x / y, S) := by
  unfold c_Liking_joined
  rw [if_neg (show ¬ nI 47 = 38 by decide), if_neg (show ¬ nI 47 = 42 by decide), if_neg (show ¬ nI 47 = 43 by decide), if_neg (show ¬ nI 47 = 45 by decide), if_pos (show nI 47 = 47 from rfl)]
  by_cases h : y = 0
  · rw [if_pos h, if_pos h]
  · rw [if_neg h, if_neg h, dv_in h]
theorem toInt64_0 {y : Int32} : y.toInt64 = 0 ↔ y = 0 := by
  rw [← Int64.toInt_inj, ← Int32.toInt_inj, Int32.toInt_toInt64]
  have e1 : (0 : Int64).toInt = 0 := by decide
  have e2 : (0 : Int32).toInt = 0 := by decide
  rw [e1, e2]
section SUMS
variable {b : Nat → Nat} {L ob bs : Nat} {lt : Nat → Nat}
theorem termM_f {rec : Nat → Int32 → Int32 → St → Option (Int32 × St)} {T : St} {n : Nat} (v : Int32) (hf : T 0 11 ≠ -nI 1) (hn : 0 < n) : m_term_h5 rec n v T = some (v, T) := by
  obtain ⟨n, rfl⟩ : ∃ m, n = m + 1 := ⟨n - 1, by omega⟩
  rw [m_term_h5]
  simp only [lits]
  rw [if_neg hf]
theorem termM_end (t : Txt b L) {rec : Nat → Int32 → Int32 → St → Option (Int32 × St)} {T : St} {n a d : Nat} (v : Int32) (km : KM b L ob bs lt T a d) (ha : a ≤ L) (hn : 0 < n) (h1 : cu b L (sk b L a) ≠ 42) (h2 : cu b L (sk b L a) ≠ 47) : m_term_h5 rec n v T = some (v, up2 T 0 10 (nI (sk b L a))) := by
  obtain ⟨n, rfl⟩ : ∃ m, n = m + 1 := ⟨n - 1, by omega⟩
  have lP : (42 : Int32) = nI 42 := rfl
  have lQ : (47 : Int32) = nI 47 := rfl
  rw [m_term_h5]
  simp only [lits, lP, lQ]
  rw [if_pos km.2.2.1, look_eq t km.1 ha km.2.1, bI_some]
  simp only []
  rw [if_neg (show ¬ cuM b L (sk b L a) = nI 42 by rw [cuM_eq t _ (by omega) (by omega)]; exact h1), look_eq t (km.at (a1 := sk b L a)).1 (sk_le b ha) (up2_hit rfl rfl), bI_some, sk_sk]
  simp only []
  rw [if_neg (show ¬ cuM b L (sk b L a) = nI 47 by rw [cuM_eq t _ (by omega) (by omega)]; exact h2), up2_up2]
theorem termM_1 (t : Txt b L) {rec : Nat → Int32 → Int32 → St → Option (Int32 × St)} {T : St} {n a d : Nat} (v : Int32) (km : KM b L ob bs lt T a d) (ha : a ≤ L) (h1 : cu b L (sk b L a) = 42) : m_term_h5 rec (n + 1) v T = m_term_b45 rec (m_term_h5 rec n) v (nI 1) (up2 T 0 10 (nI (sk b L a))) := by
  have lP : (42 : Int32) = nI 42 := rfl
  have hc : cuM b L (sk b L a) = nI 42 := by rw [cuM_eq t _ (by omega) (by omega)]; exact h1
  rw [m_term_h5]
  unfold m_term_b31
  simp only [lits, lP]
  rw [if_pos km.2.2.1, look_eq t km.1 ha km.2.1, bI_some]
  simp only []
  rw [if_pos hc, look_eq t (km.at (a1 := sk b L a)).1 (sk_le b ha) (up2_hit rfl rfl), bI_some, sk_sk]
  simp only []
  rw [if_pos hc, up2_up2]
theorem termM_2 (t : Txt b L) {rec : Nat → Int32 → Int32 → St → Option (Int32 × St)} {T : St} {n a d : Nat} (v : Int32) (km : KM b L ob bs lt T a d) (ha : a ≤ L) (h1 : cu b L (sk b L a) = 47) : m_term_h5 rec (n + 1) v T = m_term_b45 rec (m_term_h5 rec n) v (nI 0) (up2 T 0 10 (nI (sk b L a))) := by
  have lP : (42 : Int32) = nI 42 := rfl
  have lQ : (47 : Int32) = nI 47 := rfl
  have hc : cuM b L (sk b L a) = nI 47 := by rw [cuM_eq t _ (by omega) (by omega)]; exact h1
  have hc2 : ¬ nI 47 = nI 42 := by decide
  rw [m_term_h5]
  unfold m_term_b31
  simp only [lits, lP, lQ]
  rw [if_pos km.2.2.1, look_eq t km.1 ha km.2.1, bI_some, hc]
  simp only []
  rw [if_neg hc2, look_eq t (km.at (a1 := sk b L a)).1 (sk_le b ha) (up2_hit rfl rfl), bI_some, sk_sk, hc]
  simp only []
  rw [if_pos trivial, up2_up2, look_eq t (km.at (a1 := sk b L a)).1 (sk_le b ha) (up2_hit rfl rfl), bI_some, sk_sk, hc]
  simp only []
  rw [if_neg hc2, up2_up2]

theorem term_b45 {rec : Nat → Int32 → Int32 → St → Option (Int32 × St)} {L5 : Int32 → St → Option (Int32 × St)} {x y k0 : Int32} {T T3 : St} {a1 c : Nat} (hT : T 0 10 = nI a1) (hx : Bd x) (hk : (k0 = nI 1 ∧ c = 42) ∨ (k0 = nI 0 ∧ c = 47)) (e : rec 0 0 0 (up2 T 0 10 (nI (a1 + 1))) = some (y, T3)) : ∃ w, Bd w ∧ (∀ S, c_Liking_joined (nI c) x y S = some (w, S)) ∧ m_term_b45 rec L5 x k0 T = L5 w T3 := by
  unfold m_term_b45 m_term_b87 m_within
  simp only [lits, bnd_eq]
  have e' : rec 0 (nI 0) (nI 0) (up2 T 0 10 (nI (a1 + 1))) = some (y, T3) := e
  rw [hT, nI_add, e', bI_some]
  simp only []
  rcases hk with ⟨h1, h2⟩ | ⟨h1, h2⟩
  · subst h1; subst h2
    exact ⟨wi (x.toInt64 * y.toInt64), wi_Bd _, joined_42 x y, by rw [if_neg m10, bI_some]; rfl⟩
  · subst h1; subst h2
    rw [if_pos rfl]
    by_cases h : y = 0
    · refine ⟨0, Bd_nI (n := 0) (by omega), fun S => by rw [joined_47, if_pos h], ?_⟩
      rw [if_pos (by rw [show nI 0 = (0 : Int32) from rfl, lg_cmp_eq]; exact toInt64_0.mpr h), bI_some]
      rfl
    · refine ⟨x / y, Bd_div hx, fun S => by rw [joined_47, if_neg h], ?_⟩
      have hn : y.toInt64 ≠ 0 := fun q => h (toInt64_0.mp q)
      rw [if_neg (by rw [show nI 0 = (0 : Int32) from rfl, lg_cmp_eq]; exact hn)]
      unfold dvL
      rw [if_neg hn, bI_some]
      show L5 (wi (x.toInt64 / y.toInt64)) T3 = _
      rw [wi_div hx]
theorem term_loop (t : Txt b L) {d nc nm : Nat} (ha0 : AtomSt b L ob bs lt d nc nm) : ∀ (n n' i : Nat) (S T : St) (a1 am cl0 cl : Nat) (x : Int32), KC b L S a1 cl → sk b L a1 = a1 → KM b L ob bs lt T am d → sk b L am = a1 → am ≤ L → cl0 < cl → Seg (S 14) lt cl0 cl x → Bd x → i ≤ a1 → L < n + a1 → L < n' + a1 →
    ∃ r S' v T', c_LikingReader_readTerm_h17 (c_lk nc) n (nI d) (nI (cu b L a1)) (nI i) S = some (r, S') ∧ m_term_h5 (m_ex nm) n' x T = some (v, T') ∧ Gd b L ob bs lt Bd (fun _ => True) S T a1 cl0 cl d S' T' r v := by
  have hL := t.1
  intro n
  induction n with
  | zero => intro n' i S T a1 am cl0 cl x kc; have := kc.2.2.2.1; omega
  | succ n ih =>
    intro n' i S T a1 am cl0 cl x kc hs1 km hsm ham hcl0 sg bx hi hn hn'
    have ha1 := kc.2.2.2.1
    have hcla := kc.2.2.2.2
    obtain ⟨n', rfl⟩ : ∃ m, n' = m + 1 := ⟨n' - 1, by omega⟩
    have lP : (42 : Int32) = nI 42 := rfl
    have lQ : (47 : Int32) = nI 47 := rfl
    have hcu := cu_lt t a1
    by_cases hop : cu b L a1 = 42 ∨ cu b L a1 = 47
    · have hlt : a1 < L := cu_pos (c := cu b L a1) (by omega) rfl
      have kc2 : KC b L (up2 S 13 1 (nI (a1 + 1))) (a1 + 1) cl := kc.at (by omega) (by omega)
      have km1 := km.at (a1 := a1)
      have km2 : KM b L ob bs lt (up2 (up2 T 0 10 (nI a1)) 0 10 (nI (a1 + 1))) (a1 + 1) d := km1.at
      obtain ⟨r, S3, y, T3, e1, e2, g1, g2, g3⟩ := ha0 _ _ _ _ kc2 km2
      have f1 : Fr cF S S3 := (cF_at Fr.rfl).tr g1
      have f2 : Fr mF T T3 := (mF_at (mF_at Fr.rfl (Or.inl rfl)) (Or.inl rfl)).tr g2
      -- the reference's side
      have hM : ∃ w, Bd w ∧ (∀ S, c_Liking_joined (nI (cu b L a1)) x y S = some (w, S)) ∧ m_term_h5 (m_ex nm) (n' + 1) x T = m_term_h5 (m_ex nm) n' w T3 := by
        rcases hop with h | h
        · rw [termM_1 t x km ham (by rw [hsm]; exact h), hsm]
          exact term_b45 (rec := m_ex nm) (L5 := m_term_h5 (m_ex nm) n') km1.2.1 bx (Or.inl ⟨rfl, h⟩) e2
        · rw [termM_2 t x km ham (by rw [hsm]; exact h), hsm]
          exact term_b45 (rec := m_ex nm) (L5 := m_term_h5 (m_ex nm) n') km1.2.1 bx (Or.inr ⟨rfl, h⟩) e2
      obtain ⟨w, bw, hj, hM⟩ := hM
      rw [hM]
      -- the class's side
      have hC : c_LikingReader_readTerm_h17 (c_lk nc) (n + 1) (nI d) (nI (cu b L a1)) (nI i) S = c_LikingReader_readTerm_b36 (c_lk nc) (c_LikingReader_readTerm_h17 (c_lk nc) n) (nI d) (nI (cu b L a1)) (nI i) S := by
        rw [c_LikingReader_readTerm_h17]
        simp only [lits, lP, lQ]
        rw [if_neg (nI_ge (b := 160) (by omega) (by omega))]
        rcases hop with h | h
        · rw [if_pos (by rw [h])]
        · rw [h, if_neg (show ¬ nI 47 = nI 42 by decide), if_pos rfl]
      rw [hC]
      unfold c_LikingReader_readTerm_b36
      simp only [bnd_eq, lits]
      rw [kc.2.1, nI_add, e1, bI_some]
      simp only []
      rcases g3 with ⟨hr, hB, a', cl', kc3, km3, p1, p2, p3, p4, p5, p6⟩ | ⟨hr, _, f, hf, hSf, hTf⟩
      · subst hr
        have hge3 := sk_ge b L a'
        have hcl3 := kc3.2.2.2.2
        rw [if_neg m10, write_eq (m := 0) t kc3 (by omega) (by omega) hcu, bV_some]
        have kc4 := kc3.wr (show cl' < a' by omega) (nI (0 * 256 + cu b L a1))
        have kc5 := kc4.sk
        rw [next13_eq t kc4.1 kc4.2.2.2.1 kc4.2.1, bI_some, nI_add]
        have sg1 : Seg ((up2 (up2 (up2 S3 14 cl' (nI (0 * 256 + cu b L a1))) 13 3 (nI (cl' + 1))) 13 1 (nI (sk b L a'))) 14) lt cl0 (cl' + 1) w := by
          refine Seg_bin (a1 := cl) (s := cu b L a1) (x := x) (y := y) (sg.cong (fun k h1 h2 => ?_)) (p6.cong (fun k h1 h2 => ?_)) ?_ ?_ hj hcl0 p3
          · rw [up2_o (by omega), wr_cd.2 k (by omega), p5 k h2, up2_o (by omega)]
          · rw [up2_o (by omega), wr_cd.2 k (by omega)]
          · unfold opS; omega
          · rw [up2_o (by omega), wr_cd.1, Nat.zero_mul, Nat.zero_add]
        obtain ⟨r, S', v, T', e3, e4, q1, q2, q3⟩ := ih n' (i + 1) _ T3 (sk b L a') a' cl0 (cl' + 1) w kc5 (sk_sk b L a') km3 rfl kc3.2.2.2.1 (by omega) sg1 bw (by omega) (by omega) (by omega)
        refine ⟨r, S', v, T', e3, e4, (cF_at (cF_wr f1)).tr q1, f2.tr q2, ?_⟩
        rcases q3 with ⟨hr, hB2, a2, cl2, kc6, km6, u1, u2, u3, u4, u5, u6⟩ | ⟨hr, hx⟩
        · refine Or.inl ⟨hr, hB2, a2, cl2, kc6, km6, by omega, by omega, u3, by omega, fun k hk => ?_, u6⟩
          rw [u5 k (by omega), up2_o (by omega), wr_cd.2 k (by omega), p5 k hk, up2_o (by omega)]
        · exact Or.inr ⟨hr, hx⟩
      · subst hr
        rw [if_pos rfl, termM_f w (fl_ne hTf t hf) (by omega)]
        exact ⟨_, _, _, _, rfl, rfl, f1, f2, Or.inr ⟨rfl, trivial, f, hf, hSf, hTf⟩⟩
    · have h1 : cu b L a1 ≠ 42 := fun e => hop (Or.inl e)
      have h2 : cu b L a1 ≠ 47 := fun e => hop (Or.inr e)
      rw [termM_end t x km ham (by omega) (by rw [hsm]; exact h1) (by rw [hsm]; exact h2), hsm]
      have hC : c_LikingReader_readTerm_h17 (c_lk nc) (n + 1) (nI d) (nI (cu b L a1)) (nI i) S = some (nI 1, S) := by
        rw [c_LikingReader_readTerm_h17]
        simp only [lits, lP, lQ]
        by_cases h3 : nI 160 ≤ nI i
        · rw [if_pos h3]; rfl
        · rw [if_neg h3, if_neg (nI_nn h1 (by omega) (by omega)), if_neg (nI_nn h2 (by omega) (by omega))]; rfl
      exact ⟨_, _, _, _, hC, rfl, Fr.rfl, mF_at Fr.rfl (Or.inl rfl), Or.inl ⟨rfl, bx, a1, cl, kc, km.at, Nat.le_refl _, Nat.le_refl _, hcl0, by omega, fun k hk => rfl, sg⟩⟩
theorem term_ls (t : Txt b L) {d nc nm : Nat} (ha0 : AtomSt b L ob bs lt d nc nm) : TermSt b L ob bs lt d (nc + 1) (nm + 1) := by
  have hL := t.1
  intro S T a cl kc km
  show ∃ r S' v T', c_LikingReader_readTerm (c_lk nc) (nI d) S = some (r, S') ∧ m_term (m_ex nm) T = some (v, T') ∧ _
  obtain ⟨r, S3, y, T3, e1, e2, f1, f2, g3⟩ := ha0 _ _ _ _ kc km
  unfold c_LikingReader_readTerm m_term
  rw [e1, bI_some, e2, bI_some]
  simp only [lits]
  rcases g3 with ⟨hr, hB, a', cl', kc3, km3, p1, p2, p3, p4, p5, p6⟩ | ⟨hr, _, f, hf, hSf, hTf⟩
  · subst hr
    have hge3 := sk_ge b L a'
    rw [if_neg m10, next13_eq t kc3.1 kc3.2.2.2.1 kc3.2.1, bI_some]
    have kc5 := kc3.sk
    obtain ⟨r, S', v, T', e3, e4, q1, q2, q3⟩ := term_loop t ha0 FU FU 0 _ T3 (sk b L a') a' cl cl' y kc5 (sk_sk b L a') km3 rfl kc3.2.2.2.1 p3 (p6.cong (fun k h1 h2 => up2_o (by omega))) hB (by omega) (by unfold FU; omega) (by unfold FU; omega)
    refine ⟨r, S', v, T', e3, e4, (cF_at f1).tr q1, f2.tr q2, ?_⟩
    rcases q3 with ⟨hr, hB2, a2, cl2, kc6, km6, u1, u2, u3, u4, u5, u6⟩ | ⟨hr, hx⟩
    · refine Or.inl ⟨hr, hB2, a2, cl2, kc6, km6, by omega, by omega, u3, by omega, fun k hk => ?_, u6⟩
      rw [u5 k (by omega), up2_o (by omega), p5 k hk]
    · exact Or.inr ⟨hr, hx⟩
  · subst hr
    rw [if_pos rfl, termM_f y (fl_ne hTf t hf) (by unfold FU; omega)]
    exact ⟨_, _, _, _, rfl, rfl, f1, f2, Or.inr ⟨rfl, trivial, f, hf, hSf, hTf⟩⟩
theorem sumM_f {rec : Nat → Int32 → Int32 → St → Option (Int32 × St)} {T : St} {n : Nat} (v : Int32) (hf : T 0 11 ≠ -nI 1) (hn : 0 < n) : m_sum_h5 rec n v T = some (v, T) := by
  obtain ⟨n, rfl⟩ : ∃ m, n = m + 1 := ⟨n - 1, by omega⟩
  rw [m_sum_h5]
  simp only [lits]
  rw [if_neg hf]
theorem sumM_end (t : Txt b L) {rec : Nat → Int32 → Int32 → St → Option (Int32 × St)} {T : St} {n a d : Nat} (v : Int32) (km : KM b L ob bs lt T a d) (ha : a ≤ L) (hn : 0 < n) (h1 : cu b L (sk b L a) ≠ 43) (h2 : cu b L (sk b L a) ≠ 45) : m_sum_h5 rec n v T = some (v, up2 T 0 10 (nI (sk b L a))) := by
  obtain ⟨n, rfl⟩ : ∃ m, n = m + 1 := ⟨n - 1, by omega⟩
  have lP : (43 : Int32) = nI 43 := rfl
  have lQ : (45 : Int32) = nI 45 := rfl
  rw [m_sum_h5]
  simp only [lits, lP, lQ]
  rw [if_pos km.2.2.1, look_eq t km.1 ha km.2.1, bI_some]
  simp only []
  rw [if_neg (show ¬ cuM b L (sk b L a) = nI 43 by rw [cuM_eq t _ (by omega) (by omega)]; exact h1), look_eq t (km.at (a1 := sk b L a)).1 (sk_le b ha) (up2_hit rfl rfl), bI_some, sk_sk]
  simp only []
  rw [if_neg (show ¬ cuM b L (sk b L a) = nI 45 by rw [cuM_eq t _ (by omega) (by omega)]; exact h2), up2_up2]
theorem sumM_1 (t : Txt b L) {rec : Nat → Int32 → Int32 → St → Option (Int32 × St)} {T : St} {n a d : Nat} (v : Int32) (km : KM b L ob bs lt T a d) (ha : a ≤ L) (h1 : cu b L (sk b L a) = 43) : m_sum_h5 rec (n + 1) v T = m_sum_b45 rec (m_sum_h5 rec n) v (nI 1) (up2 T 0 10 (nI (sk b L a))) := by
  have lP : (43 : Int32) = nI 43 := rfl
  have hc : cuM b L (sk b L a) = nI 43 := by rw [cuM_eq t _ (by omega) (by omega)]; exact h1
  rw [m_sum_h5]
  unfold m_sum_b31
  simp only [lits, lP]
  rw [if_pos km.2.2.1, look_eq t km.1 ha km.2.1, bI_some]
  simp only []
  rw [if_pos hc, look_eq t (km.at (a1 := sk b L a)).1 (sk_le b ha) (up2_hit rfl rfl), bI_some, sk_sk]
  simp only []
  rw [if_pos hc, up2_up2]
theorem sumM_2 (t : Txt b L) {rec : Nat → Int32 → Int32 → St → Option (Int32 × St)} {T : St} {n a d : Nat} (v : Int32) (km : KM b L ob bs lt T a d) (ha : a ≤ L) (h1 : cu b L (sk b L a) = 45) : m_sum_h5 rec (n + 1) v T = m_sum_b45 rec (m_sum_h5 rec n) v (nI 0) (up2 T 0 10 (nI (sk b L a))) := by
  have lP : (43 : Int32) = nI 43 := rfl
  have lQ : (45 : Int32) = nI 45 := rfl
  have hc : cuM b L (sk b L a) = nI 45 := by rw [cuM_eq t _ (by omega) (by omega)]; exact h1
  have hc2 : ¬ nI 45 = nI 43 := by decide
  rw [m_sum_h5]
  unfold m_sum_b31
  simp only [lits, lP, lQ]
  rw [if_pos km.2.2.1, look_eq t km.1 ha km.2.1, bI_some, hc]
  simp only []
  rw [if_neg hc2, look_eq t (km.at (a1 := sk b L a)).1 (sk_le b ha) (up2_hit rfl rfl), bI_some, sk_sk, hc]
  simp only []
  rw [if_pos trivial, up2_up2, look_eq t (km.at (a1 := sk b L a)).1 (sk_le b ha) (up2_hit rfl rfl), bI_some, sk_sk, hc]
  simp only []
  rw [if_neg hc2, up2_up2]

theorem sum_b45 {rec : Nat → Int32 → Int32 → St → Option (Int32 × St)} {L5 : Int32 → St → Option (Int32 × St)} {x y k0 : Int32} {T T3 : St} {a1 c : Nat} (hT : T 0 10 = nI a1) (hx : Bd x) (hk : (k0 = nI 1 ∧ c = 43) ∨ (k0 = nI 0 ∧ c = 45)) (e : rec 1 0 0 (up2 T 0 10 (nI (a1 + 1))) = some (y, T3)) : ∃ w, Bd w ∧ (∀ S, c_Liking_joined (nI c) x y S = some (w, S)) ∧ m_sum_b45 rec L5 x k0 T = L5 w T3 := by
  unfold m_sum_b45 m_sum_b77 m_within
  simp only [lits, bnd_eq]
  have e' : rec 1 (nI 0) (nI 0) (up2 T 0 10 (nI (a1 + 1))) = some (y, T3) := e
  rw [hT, nI_add, e', bI_some]
  simp only []
  rcases hk with ⟨h1, h2⟩ | ⟨h1, h2⟩
  · subst h1; subst h2
    exact ⟨wi (x.toInt64 + y.toInt64), wi_Bd _, joined_43 x y, by rw [if_neg m10, bI_some]; rfl⟩
  · subst h1; subst h2
    exact ⟨wi (x.toInt64 - y.toInt64), wi_Bd _, joined_45 x y, by rw [if_pos rfl, bI_some]; rfl⟩
theorem sum_loop (t : Txt b L) {d nc nm : Nat} (ha0 : TermSt b L ob bs lt d nc nm) : ∀ (n n' i : Nat) (S T : St) (a1 am cl0 cl : Nat) (x : Int32), KC b L S a1 cl → sk b L a1 = a1 → KM b L ob bs lt T am d → sk b L am = a1 → am ≤ L → cl0 < cl → Seg (S 14) lt cl0 cl x → Bd x → i ≤ a1 → L < n + a1 → L < n' + a1 →
    ∃ r S' v T', c_LikingReader_readSum_h17 (c_lk nc) n (nI d) (nI (cu b L a1)) (nI i) S = some (r, S') ∧ m_sum_h5 (m_ex nm) n' x T = some (v, T') ∧ Gd b L ob bs lt Bd (fun _ => True) S T a1 cl0 cl d S' T' r v := by
  have hL := t.1
  intro n
  induction n with
  | zero => intro n' i S T a1 am cl0 cl x kc; have := kc.2.2.2.1; omega
  | succ n ih =>
    intro n' i S T a1 am cl0 cl x kc hs1 km hsm ham hcl0 sg bx hi hn hn'
    have ha1 := kc.2.2.2.1
    have hcla := kc.2.2.2.2
    obtain ⟨n', rfl⟩ : ∃ m, n' = m + 1 := ⟨n' - 1, by omega⟩
    have lP : (43 : Int32) = nI 43 := rfl
    have lQ : (45 : Int32) = nI 45 := rfl
    have hcu := cu_lt t a1
    by_cases hop : cu b L a1 = 43 ∨ cu b L a1 = 45
    · have hlt : a1 < L := cu_pos (c := cu b L a1) (by omega) rfl
      have kc2 : KC b L (up2 S 13 1 (nI (a1 + 1))) (a1 + 1) cl := kc.at (by omega) (by omega)
      have km1 := km.at (a1 := a1)
      have km2 : KM b L ob bs lt (up2 (up2 T 0 10 (nI a1)) 0 10 (nI (a1 + 1))) (a1 + 1) d := km1.at
      obtain ⟨r, S3, y, T3, e1, e2, g1, g2, g3⟩ := ha0 _ _ _ _ kc2 km2
      have f1 : Fr cF S S3 := (cF_at Fr.rfl).tr g1
      have f2 : Fr mF T T3 := (mF_at (mF_at Fr.rfl (Or.inl rfl)) (Or.inl rfl)).tr g2
      -- the reference's side
      have hM : ∃ w, Bd w ∧ (∀ S, c_Liking_joined (nI (cu b L a1)) x y S = some (w, S)) ∧ m_sum_h5 (m_ex nm) (n' + 1) x T = m_sum_h5 (m_ex nm) n' w T3 := by
        rcases hop with h | h
        · rw [sumM_1 t x km ham (by rw [hsm]; exact h), hsm]
          exact sum_b45 (rec := m_ex nm) (L5 := m_sum_h5 (m_ex nm) n') km1.2.1 bx (Or.inl ⟨rfl, h⟩) e2
        · rw [sumM_2 t x km ham (by rw [hsm]; exact h), hsm]
          exact sum_b45 (rec := m_ex nm) (L5 := m_sum_h5 (m_ex nm) n') km1.2.1 bx (Or.inr ⟨rfl, h⟩) e2
      obtain ⟨w, bw, hj, hM⟩ := hM
      rw [hM]
      -- the class's side
      have hC : c_LikingReader_readSum_h17 (c_lk nc) (n + 1) (nI d) (nI (cu b L a1)) (nI i) S = c_LikingReader_readSum_b36 (c_lk nc) (c_LikingReader_readSum_h17 (c_lk nc) n) (nI d) (nI (cu b L a1)) (nI i) S := by
        rw [c_LikingReader_readSum_h17]
        simp only [lits, lP, lQ]
        rw [if_neg (nI_ge (b := 160) (by omega) (by omega))]
        rcases hop with h | h
        · rw [if_pos (by rw [h])]
        · rw [h, if_neg (show ¬ nI 45 = nI 43 by decide), if_pos rfl]
      rw [hC]
      unfold c_LikingReader_readSum_b36
      simp only [bnd_eq, lits]
      rw [kc.2.1, nI_add, e1, bI_some]
      simp only []
      rcases g3 with ⟨hr, hB, a', cl', kc3, km3, p1, p2, p3, p4, p5, p6⟩ | ⟨hr, _, f, hf, hSf, hTf⟩
      · subst hr
        have hge3 := sk_ge b L a'
        have hcl3 := kc3.2.2.2.2
        rw [if_neg m10, write_eq (m := 0) t kc3 (by omega) (by omega) hcu, bV_some]
        have kc4 := kc3.wr (show cl' < a' by omega) (nI (0 * 256 + cu b L a1))
        have kc5 := kc4.sk
        rw [next13_eq t kc4.1 kc4.2.2.2.1 kc4.2.1, bI_some, nI_add]
        have sg1 : Seg ((up2 (up2 (up2 S3 14 cl' (nI (0 * 256 + cu b L a1))) 13 3 (nI (cl' + 1))) 13 1 (nI (sk b L a'))) 14) lt cl0 (cl' + 1) w := by
          refine Seg_bin (a1 := cl) (s := cu b L a1) (x := x) (y := y) (sg.cong (fun k h1 h2 => ?_)) (p6.cong (fun k h1 h2 => ?_)) ?_ ?_ hj hcl0 p3
          · rw [up2_o (by omega), wr_cd.2 k (by omega), p5 k h2, up2_o (by omega)]
          · rw [up2_o (by omega), wr_cd.2 k (by omega)]
          · unfold opS; omega
          · rw [up2_o (by omega), wr_cd.1, Nat.zero_mul, Nat.zero_add]
        obtain ⟨r, S', v, T', e3, e4, q1, q2, q3⟩ := ih n' (i + 1) _ T3 (sk b L a') a' cl0 (cl' + 1) w kc5 (sk_sk b L a') km3 rfl kc3.2.2.2.1 (by omega) sg1 bw (by omega) (by omega) (by omega)
        refine ⟨r, S', v, T', e3, e4, (cF_at (cF_wr f1)).tr q1, f2.tr q2, ?_⟩
        rcases q3 with ⟨hr, hB2, a2, cl2, kc6, km6, u1, u2, u3, u4, u5, u6⟩ | ⟨hr, hx⟩
        · refine Or.inl ⟨hr, hB2, a2, cl2, kc6, km6, by omega, by omega, u3, by omega, fun k hk => ?_, u6⟩
          rw [u5 k (by omega), up2_o (by omega), wr_cd.2 k (by omega), p5 k hk, up2_o (by omega)]
        · exact Or.inr ⟨hr, hx⟩
      · subst hr
        rw [if_pos rfl, sumM_f w (fl_ne hTf t hf) (by omega)]
        exact ⟨_, _, _, _, rfl, rfl, f1, f2, Or.inr ⟨rfl, trivial, f, hf, hSf, hTf⟩⟩
    · have h1 : cu b L a1 ≠ 43 := fun e => hop (Or.inl e)
      have h2 : cu b L a1 ≠ 45 := fun e => hop (Or.inr e)
      rw [sumM_end t x km ham (by omega) (by rw [hsm]; exact h1) (by rw [hsm]; exact h2), hsm]
      have hC : c_LikingReader_readSum_h17 (c_lk nc) (n + 1) (nI d) (nI (cu b L a1)) (nI i) S = some (nI 1, S) := by
        rw [c_LikingReader_readSum_h17]
        simp only [lits, lP, lQ]
        by_cases h3 : nI 160 ≤ nI i
        · rw [if_pos h3]; rfl
        · rw [if_neg h3, if_neg (nI_nn h1 (by omega) (by omega)), if_neg (nI_nn h2 (by omega) (by omega))]; rfl
      exact ⟨_, _, _, _, hC, rfl, Fr.rfl, mF_at Fr.rfl (Or.inl rfl), Or.inl ⟨rfl, bx, a1, cl, kc, km.at, Nat.le_refl _, Nat.le_refl _, hcl0, by omega, fun k hk => rfl, sg⟩⟩
theorem sum_ls (t : Txt b L) {d nc nm : Nat} (ha0 : TermSt b L ob bs lt d nc nm) : SumSt b L ob bs lt d (nc + 1) (nm + 1) := by
  have hL := t.1
  intro S T a cl kc km
  show ∃ r S' v T', c_LikingReader_readSum (c_lk nc) (nI d) S = some (r, S') ∧ m_sum (m_ex nm) T = some (v, T') ∧ _
  obtain ⟨r, S3, y, T3, e1, e2, f1, f2, g3⟩ := ha0 _ _ _ _ kc km
  unfold c_LikingReader_readSum m_sum
  rw [e1, bI_some, e2, bI_some]
  simp only [lits]
  rcases g3 with ⟨hr, hB, a', cl', kc3, km3, p1, p2, p3, p4, p5, p6⟩ | ⟨hr, _, f, hf, hSf, hTf⟩
  · subst hr
    have hge3 := sk_ge b L a'
    rw [if_neg m10, next13_eq t kc3.1 kc3.2.2.2.1 kc3.2.1, bI_some]
    have kc5 := kc3.sk
    obtain ⟨r, S', v, T', e3, e4, q1, q2, q3⟩ := sum_loop t ha0 FU FU 0 _ T3 (sk b L a') a' cl cl' y kc5 (sk_sk b L a') km3 rfl kc3.2.2.2.1 p3 (p6.cong (fun k h1 h2 => up2_o (by omega))) hB (by omega) (by unfold FU; omega) (by unfold FU; omega)
    refine ⟨r, S', v, T', e3, e4, (cF_at f1).tr q1, f2.tr q2, ?_⟩
    rcases q3 with ⟨hr, hB2, a2, cl2, kc6, km6, u1, u2, u3, u4, u5, u6⟩ | ⟨hr, hx⟩
    · refine Or.inl ⟨hr, hB2, a2, cl2, kc6, km6, by omega, by omega, u3, by omega, fun k hk => ?_, u6⟩
      rw [u5 k (by omega), up2_o (by omega), p5 k hk]
    · exact Or.inr ⟨hr, hx⟩
  · subst hr
    rw [if_pos rfl, sumM_f y (fl_ne hTf t hf) (by unfold FU; omega)]
    exact ⟨_, _, _, _, rfl, rfl, f1, f2, Or.inr ⟨rfl, trivial, f, hf, hSf, hTf⟩⟩
theorem sums (t : Txt b L) (hlt : ∀ k, k < 6 → lt k ≤ 10000) : ∀ (e d nc nm : Nat), d + e = 6 → 3 * (e + 1) ≤ nc → 3 * (e + 1) ≤ nm → SumSt b L ob bs lt d nc nm := by
  intro e
  induction e with
  | zero =>
    intro d nc nm hd h1 h2
    obtain ⟨nc, rfl⟩ : ∃ m, nc = m + 1 + 1 + 1 := ⟨nc - 3, by omega⟩
    obtain ⟨nm, rfl⟩ : ∃ m, nm = m + 1 + 1 + 1 := ⟨nm - 3, by omega⟩
    exact sum_ls t (term_ls t (atom_ls t hlt (by omega) (fun h => by omega)))
  | succ e ih =>
    intro d nc nm hd h1 h2
    obtain ⟨nc, rfl⟩ : ∃ m, nc = m + 1 + 1 + 1 := ⟨nc - 3, by omega⟩
    obtain ⟨nm, rfl⟩ : ∃ m, nm = m + 1 + 1 + 1 := ⟨nm - 3, by omega⟩
    exact sum_ls t (term_ls t (atom_ls t hlt (by omega) (fun h => ih (d + 1) nc nm (by omega) (by omega) (by omega))))
end SUMS
