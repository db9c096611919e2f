/-! comparisons and conditions -/
def b01 (v : Int32) : Prop := v = nI 0 ∨ v = nI 1
theorem nz_b {ρ : Type} {v : Int32} (h : b01 v) (M : Option ρ) : nzM v M = M := if_pos h
def cmpV (c : Nat) (x y : Int32) : Int32 := if c = 61 then (if x = y then nI 1 else nI 0) else if c = 60 then (if y ≤ x then nI 0 else nI 1) else (if x ≤ y then nI 0 else nI 1)
theorem cmpV_b (c : Nat) (x y : Int32) : b01 (cmpV c x y) := by
  unfold cmpV b01
  split
  · split
    · exact Or.inr rfl
    · exact Or.inl rfl
  · split
    · split
      · exact Or.inl rfl
      · exact Or.inr rfl
    · split
      · exact Or.inl rfl
      · exact Or.inr rfl
theorem joined_cmp {c : Nat} (h : c = 61 ∨ c = 60 ∨ c = 62) (x y : Int32) (S : St) : c_Liking_joined (nI c) x y S = some (cmpV c x y, S) := by
  unfold c_Liking_joined cmpV
  rcases h with h | h | h
  · subst h
    rw [if_neg (show ¬ nI 61 = 38 by decide), if_neg (show ¬ nI 61 = 42 by decide), if_neg (show ¬ nI 61 = 43 by decide), if_neg (show ¬ nI 61 = 45 by decide), if_neg (show ¬ nI 61 = 47 by decide), if_neg (show ¬ nI 61 = 60 by decide), if_pos (show nI 61 = 61 from rfl), if_pos (show (61 : Nat) = 61 from rfl)]
    by_cases e : x = y
    · rw [if_pos e, if_pos e]; rfl
    · rw [if_neg e, if_neg e]; rfl
  · subst h
    rw [if_neg (show ¬ nI 60 = 38 by decide), if_neg (show ¬ nI 60 = 42 by decide), if_neg (show ¬ nI 60 = 43 by decide), if_neg (show ¬ nI 60 = 45 by decide), if_neg (show ¬ nI 60 = 47 by decide), if_pos (show nI 60 = 60 from rfl), if_neg (show ¬ (60 : Nat) = 61 by omega), if_pos (show (60 : Nat) = 60 from rfl)]
    by_cases e : y ≤ x
    · rw [if_pos e, if_pos e]; rfl
    · rw [if_neg e, if_neg e]; rfl
  · subst h
    rw [if_neg (show ¬ nI 62 = 38 by decide), if_neg (show ¬ nI 62 = 42 by decide), if_neg (show ¬ nI 62 = 43 by decide), if_neg (show ¬ nI 62 = 45 by decide), if_neg (show ¬ nI 62 = 47 by decide), if_neg (show ¬ nI 62 = 60 by decide), if_neg (show ¬ nI 62 = 61 by decide), if_pos (show nI 62 = 62 from rfl), if_neg (show ¬ (62 : Nat) = 61 by omega), if_neg (show ¬ (62 : Nat) = 60 by omega)]
    by_cases e : x ≤ y
    · rw [if_pos e, if_pos e]; rfl
    · rw [if_neg e, if_neg e]; rfl
theorem joined_38 (x y : Int32) (S : St) : c_Liking_joined (nI 38) x y S = some (x &&& y, S) := by
  unfold c_Liking_joined
  rw [if_pos (show nI 38 = 38 from rfl)]
theorem joined_124 (x y : Int32) (S : St) : c_Liking_joined (nI 124) x y S = some (x ||| y, S) := by
  unfold c_Liking_joined
  rw [if_neg (show ¬ nI 124 = 38 by decide), if_neg (show ¬ nI 124 = 42 by decide), if_neg (show ¬ nI 124 = 43 by decide), if_neg (show ¬ nI 124 = 45 by decide), if_neg (show ¬ nI 124 = 47 by decide), if_neg (show ¬ nI 124 = 60 by decide), if_neg (show ¬ nI 124 = 61 by decide), if_neg (show ¬ nI 124 = 62 by decide)]
theorem and_b {x y : Int32} (hx : b01 x) (hy : b01 y) : b01 (x &&& y) ∧ ∀ (ρ : Type) (K : Int32 → ρ), (if x = nI 0 then K (nI 0) else if y = nI 0 then K (nI 0) else K (nI 1)) = K (x &&& y) := by
  rcases hx with h | h <;> rcases hy with h2 | h2 <;> subst h <;> subst h2
  · exact ⟨Or.inl (by decide), fun ρ K => by rw [if_pos rfl]; rfl⟩
  · exact ⟨Or.inl (by decide), fun ρ K => by rw [if_pos rfl]; rfl⟩
  · exact ⟨Or.inl (by decide), fun ρ K => by rw [if_neg m10, if_pos rfl]; rfl⟩
  · exact ⟨Or.inr (by decide), fun ρ K => by rw [if_neg m10, if_neg m10]; rfl⟩
theorem or_b {x y : Int32} (hx : b01 x) (hy : b01 y) : b01 (x ||| y) ∧ ∀ (ρ : Type) (K : Int32 → ρ), (if x = nI 0 then (if y = nI 0 then K (nI 0) else K (nI 1)) else K (nI 1)) = K (x ||| y) := by
  rcases hx with h | h <;> rcases hy with h2 | h2 <;> subst h <;> subst h2
  · exact ⟨Or.inl (by decide), fun ρ K => by rw [if_pos rfl, if_pos rfl]; rfl⟩
  · exact ⟨Or.inr (by decide), fun ρ K => by rw [if_pos rfl, if_neg m10]; rfl⟩
  · exact ⟨Or.inr (by decide), fun ρ K => by rw [if_neg m10]; rfl⟩
  · exact ⟨Or.inr (by decide), fun ρ K => by rw [if_neg m10]; rfl⟩
theorem isSign_1 {c : Nat} (h : c = 61 ∨ c = 60 ∨ c = 62) (S : St) : m_isSign (nI c) S = some (nI 1, S) ∧ c_LikingReader_isComparison (nI c) S = some (nI 1, S) := by
  rcases h with h | h | h <;> subst h <;> exact ⟨rfl, rfl⟩
section COND
variable {b : Nat → Nat} {L ob bs : Nat} {lt : Nat → Nat}
theorem isSign_M (t : Txt b L) (a : Nat) (S : St) : m_isSign (cuM b L a) S = some (if cu b L a = 61 ∨ cu b L a = 60 ∨ cu b L a = 62 then nI 1 else nI 0, S) := by
  have l1 : (61 : Int32) = nI 61 := rfl
  have l2 : (60 : Int32) = nI 60 := rfl
  have l3 : (62 : Int32) = nI 62 := rfl
  unfold m_isSign
  simp only [l1, l2, l3, cuM_eq t a (show 1 ≤ 61 by omega) (show 61 < 256 by omega), cuM_eq t a (show 1 ≤ 60 by omega) (show 60 < 256 by omega), cuM_eq t a (show 1 ≤ 62 by omega) (show 62 < 256 by omega)]
  by_cases h1 : cu b L a = 61
  · rw [if_pos h1, if_pos (Or.inl h1)]; rfl
  · rw [if_neg h1]
    by_cases h2 : cu b L a = 60
    · rw [if_pos h2, if_pos (Or.inr (Or.inl h2))]; rfl
    · rw [if_neg h2]
      by_cases h3 : cu b L a = 62
      · rw [if_pos h3, if_pos (Or.inr (Or.inr h3))]; rfl
      · rw [if_neg h3, if_neg (by omega)]; rfl
theorem isCmp_C (t : Txt b L) (a : Nat) (S : St) : c_LikingReader_isComparison (nI (cu b L a)) S = some (if cu b L a = 61 ∨ cu b L a = 60 ∨ cu b L a = 62 then nI 1 else nI 0, S) := by
  have hc := cu_lt t a
  have l1 : (61 : Int32) = nI 61 := rfl
  have l2 : (60 : Int32) = nI 60 := rfl
  have l3 : (62 : Int32) = nI 62 := rfl
  unfold c_LikingReader_isComparison
  simp (disch := omega) only [l1, l2, l3, nI_eqE]
  by_cases h1 : cu b L a = 61
  · rw [if_pos h1, if_pos (Or.inl h1)]; rfl
  · rw [if_neg h1]
    by_cases h2 : cu b L a = 60
    · rw [if_pos h2, if_pos (Or.inr (Or.inl h2))]; rfl
    · rw [if_neg h2]
      by_cases h3 : cu b L a = 62
      · rw [if_pos h3, if_pos (Or.inr (Or.inr h3))]; rfl
      · rw [if_neg h3, if_neg (by omega)]; rfl
theorem cmpM_f {rec : Nat → Int32 → Int32 → St → Option (Int32 × St)} {T : St} (v : Int32) (hf : T 0 11 ≠ -nI 1) : m_compares_b12 rec v T = some (nI 0, T) := by
  unfold m_compares_b12
  simp only [lits]
  rw [if_neg hf]
  rfl
theorem cmp_ls (t : Txt b L) {d nc nm : Nat} (hs : SumSt b L ob bs lt d nc nm) : ∀ (S T : St) (a cl0 cl : Nat) (x : Int32), KC b L S a cl → KM b L ob bs lt T a d → cl0 < cl → Seg (S 14) lt cl0 cl x → ∃ r S' v T', c_LikingReader_readComparison (c_lk nc) (nI d) S = some (r, S') ∧ m_compares_b12 (m_ex nm) x T = some (v, T') ∧ Gd b L ob bs lt b01 b01 S T a cl0 cl d S' T' r v := by
  have hL := t.1
  intro S T a cl0 cl x kc km hcl sg
  have hge := sk_ge b L a
  have hle := sk_le b kc.2.2.2.1
  have hcla := kc.2.2.2.2
  have hcu := cu_lt t (sk b L a)
  have kc1 := kc.sk
  have km1 := km.at (a1 := sk b L a)
  unfold c_LikingReader_readComparison m_compares_b12
  rw [next13_eq t kc.1 kc.2.2.2.1 kc.2.1, bI_some, if_pos (show T 0 11 = (-1 : Int32) from km.2.2.1), look_eq t km.1 kc.2.2.2.1 km.2.1, bI_some]
  simp only []
  rw [isCmp_C t, bI_some, isSign_M t, bI_some]
  simp only [lits, bnd_eq]
  by_cases hc : cu b L (sk b L a) = 61 ∨ cu b L (sk b L a) = 60 ∨ cu b L (sk b L a) = 62
  · have hlt2 : sk b L a < L := cu_pos (c := cu b L (sk b L a)) (by omega) rfl
    rw [if_pos hc, if_neg m10, if_neg m10, up2_hit rfl rfl, up2_hit rfl rfl, nI_add, up2_up2, up2_up2]
    obtain ⟨r, S3, y, T3, e1, e2, g1, g2, g3⟩ := hs _ _ _ _ (kc.at (a1 := sk b L a + 1) (by omega) (by omega)) (km.at (a1 := sk b L a + 1))
    have f1 : Fr cF S S3 := (cF_at Fr.rfl).tr g1
    have f2 : Fr mF T T3 := (mF_at Fr.rfl (Or.inl rfl)).tr g2
    have e2' : m_ex nm 2 (nI 0) (nI 0) (up2 T 0 10 (nI (sk b L a + 1))) = some (y, T3) := e2
    rw [e1, bI_some, e2', bI_some]
    simp only []
    have l1 : (61 : Int32) = nI 61 := rfl
    have l2 : (60 : Int32) = nI 60 := rfl
    have hv : (if cuM b L (sk b L a) = (61 : Int32) then (if x = y then nzM (nI 1) (some (nI 1, T3)) else nzM (nI 0) (some (nI 0, T3))) else if cuM b L (sk b L a) = (60 : Int32) then (if y ≤ x then nzM (nI 0) (some (nI 0, T3)) else nzM (nI 1) (some (nI 1, T3))) else if x ≤ y then nzM (nI 0) (some (nI 0, T3)) else nzM (nI 1) (some (nI 1, T3))) = some (cmpV (cu b L (sk b L a)) x y, T3) := by
      simp only [l1, l2, cuM_eq t (sk b L a) (show 1 ≤ 61 by omega) (show 61 < 256 by omega), cuM_eq t (sk b L a) (show 1 ≤ 60 by omega) (show 60 < 256 by omega)]
      unfold cmpV
      by_cases h1 : cu b L (sk b L a) = 61
      · rw [if_pos h1, if_pos h1]
        by_cases e : x = y
        · rw [if_pos e, if_pos e]; rfl
        · rw [if_neg e, if_neg e]; rfl
      · rw [if_neg h1, if_neg h1]
        by_cases h2 : cu b L (sk b L a) = 60
        · rw [if_pos h2, if_pos h2]
          by_cases e : y ≤ x
          · rw [if_pos e, if_pos e]; rfl
          · rw [if_neg e, if_neg e]; rfl
        · rw [if_neg h2, if_neg h2]
          by_cases e : x ≤ y
          · rw [if_pos e, if_pos e]; rfl
          · rw [if_neg e, if_neg e]; rfl
    rw [hv]
    rcases g3 with ⟨hr, hB, a', cl', kc3, km3, p1, p2, p3, p4, p5, p6⟩ | ⟨hr, _, f, hf, hSf, hTf⟩
    · subst hr
      rw [if_neg m10, write_eq (m := 0) t kc3 (by omega) (by omega) hcu, bV_some]
      have kc4 := kc3.wr (show cl' < a' by omega) (nI (0 * 256 + cu b L (sk b L a)))
      refine ⟨_, _, _, _, rfl, rfl, cF_wr f1, f2, Or.inl ⟨rfl, cmpV_b _ _ _, a', cl' + 1, kc4, km3, by omega, by omega, by omega, by omega, fun k hk => ?_, ?_⟩⟩
      · rw [wr_cd.2 k (by omega), p5 k hk, up2_o (by omega)]
      · refine Seg_bin (a1 := cl) (s := cu b L (sk b L a)) (x := x) (y := y) (sg.cong (fun k h1 h2 => ?_)) (p6.cong (fun k h1 h2 => ?_)) ?_ ?_ (joined_cmp hc x y) hcl p3
        · rw [wr_cd.2 k (by omega), p5 k h2, up2_o (by omega)]
        · rw [wr_cd.2 k (by omega)]
        · unfold opS; omega
        · rw [wr_cd.1, Nat.zero_mul, Nat.zero_add]
    · subst hr
      rw [if_pos rfl]
      exact ⟨_, _, _, _, rfl, rfl, f1, f2, Or.inr ⟨rfl, cmpV_b _ _ _, f, hf, hSf, hTf⟩⟩
  · rw [if_neg hc, if_pos rfl, if_pos rfl, fails_1 km1.2.2.1 km1.2.1, bI_some]
    refine ⟨_, _, _, up2 (up2 T 0 10 (nI (sk b L a))) 0 11 (nI (sk b L a)), rfl, rfl, cF_at Fr.rfl, mF_at (mF_at Fr.rfl (Or.inl rfl)) (Or.inr (Or.inl rfl)), Or.inr ⟨rfl, Or.inl rfl, sk b L a, hle, up2_hit rfl rfl, up2_hit rfl rfl⟩⟩
def UnitSt (b : Nat → Nat) (L ob bs : Nat) (lt : Nat → Nat) (d nc nm : Nat) : Prop := ∀ (S T : St) (a cl : Nat), KC b L S a cl → KM b L ob bs lt T a d → ∃ r S' v T', c_lk nc 0 (nI d) S = some (r, S') ∧ m_ex nm 4 0 0 T = some (v, T') ∧ Gd b L ob bs lt b01 b01 S T a cl cl d S' T' r v
theorem partM_f {rec : Nat → Int32 → Int32 → St → Option (Int32 × St)} {T : St} {v : Int32} {n : Nat} (hn : 0 < n) (hv : b01 v) (hf : T 0 11 ≠ -nI 1) : m_part_h18 rec n v T = some (v, T) := by
  obtain ⟨n, rfl⟩ : ∃ m, n = m + 1 := ⟨n - 1, by omega⟩
  rw [m_part_h18]
  simp only [lits]
  rw [if_neg hf, nz_b hv]
theorem condM_f {rec : Nat → Int32 → Int32 → St → Option (Int32 × St)} {T : St} {v : Int32} {n : Nat} (hn : 0 < n) (hv : b01 v) (hf : T 0 11 ≠ -nI 1) : m_condition_h7 rec n v T = some (v, T) := by
  obtain ⟨n, rfl⟩ : ∃ m, n = m + 1 := ⟨n - 1, by omega⟩
  rw [m_condition_h7]
  simp only [lits]
  rw [if_neg hf, nz_b hv]
theorem end160 (t : Txt b L) {a i : Nat} (ha : a ≤ L) (hi : i ≤ a) (h : 160 ≤ i) : sk b L a = a ∧ cu b L a = 0 := by
  have := t.1
  have e : a = L := by omega
  refine ⟨sk_stay (fun q => by omega), ?_⟩
  rw [cu_0 t]; omega
theorem truth_loop (t : Txt b L) {d nc nm : Nat} (hu : UnitSt b L ob bs lt d nc nm) : ∀ (n n' i : Nat) (S T : St) (a cl0 cl : Nat) (x : Int32), KC b L S a cl → KM b L ob bs lt T a d → cl0 < cl → Seg (S 14) lt cl0 cl x → b01 x → i ≤ a → L < n + a → L < n' + a →
    ∃ r S' v T', c_LikingReader_readRestOfTruth_h2 (c_lk nc) n (nI d) (nI i) S = some (r, S') ∧ m_part_h18 (m_ex nm) n' x T = some (v, T') ∧ Gd b L ob bs lt b01 b01 S T a cl0 cl d S' T' r v := by
  have hL := t.1
  intro n
  induction n with
  | zero => intro n' i S T a cl0 cl x kc; have := kc.2.2.2.1; omega
  | succ n ih =>
    intro n' i S T a cl0 cl x kc km hcl0 sg bx hi hn hn'
    have ha := kc.2.2.2.1
    have hcla := kc.2.2.2.2
    have hge := sk_ge b L a
    have hle := sk_le b ha
    obtain ⟨n', rfl⟩ : ∃ m, n' = m + 1 := ⟨n' - 1, by omega⟩
    have l38 : (38 : Int32) = nI 38 := rfl
    rw [c_LikingReader_readRestOfTruth_h2, m_part_h18]
    simp only [lits, l38, bnd_eq]
    rw [if_pos km.2.2.1, look_eq t km.1 ha km.2.1, bI_some]
    simp only []
    by_cases h38 : cu b L (sk b L a) = 38
    · have hlt : sk b L a < L := cu_pos (by omega) h38
      rw [if_neg (show ¬ nI 160 ≤ nI i from nI_ge (by omega) (by omega)), takes13_1 t kc.1 ha kc.2.1 h38, bI_some]
      simp only []
      rw [if_neg m10, if_pos (show cuM b L (sk b L a) = nI 38 by rw [cuM_eq t _ (by omega) (by omega)]; exact h38), up2_hit rfl rfl, nI_add, nI_add, up2_up2]
      obtain ⟨r, S3, y, T3, e1, e2, g1, g2, g3⟩ := hu _ _ _ _ (kc.at (a1 := sk b L a + 1) (by omega) (by omega)) (km.at (a1 := sk b L a + 1))
      have f1 : Fr cF S S3 := (cF_at Fr.rfl).tr g1
      have f2 : Fr mF T T3 := (mF_at Fr.rfl (Or.inl rfl)).tr g2
      have e2' : m_ex nm 4 (nI 0) (nI 0) (up2 T 0 10 (nI (sk b L a + 1))) = some (y, T3) := e2
      rw [e1, bI_some, e2', bI_some]
      unfold m_part_b64 m_part_b65
      simp only [lits]
      rcases g3 with ⟨hr, hB, a', cl', kc3, km3, p1, p2, p3, p4, p5, p6⟩ | ⟨hr, hB, f, hf, hSf, hTf⟩
      · subst hr
        rw [(and_b bx hB).2 _ (fun w => m_part_h18 (m_ex nm) n' w T3)]
        rw [if_neg m10, write_eq (m := 0) t kc3 (by omega) (by omega) (by omega), bV_some]
        have kc4 := kc3.wr (show cl' < a' by omega) (nI (0 * 256 + 38))
        have sg1 : Seg ((up2 (up2 S3 14 cl' (nI (0 * 256 + 38))) 13 3 (nI (cl' + 1))) 14) lt cl0 (cl' + 1) (x &&& y) := by
          refine Seg_bin (a1 := cl) (s := 38) (x := x) (y := y) (sg.cong (fun k h1 h2 => ?_)) (p6.cong (fun k h1 h2 => ?_)) ?_ ?_ (joined_38 x y) hcl0 p3
          · rw [wr_cd.2 k (by omega), p5 k h2, up2_o (by omega)]
          · rw [wr_cd.2 k (by omega)]
          · unfold opS; omega
          · rw [wr_cd.1]
        obtain ⟨r, S', v, T', e3, e4, q1, q2, q3⟩ := ih n' (i + 1) _ T3 a' cl0 (cl' + 1) (x &&& y) kc4 km3 (by omega) sg1 (and_b bx hB).1 (by omega) (by omega) (by omega)
        refine ⟨r, S', v, T', e3, e4, (cF_wr f1).tr q1, f2.tr q2, ?_⟩
        rcases q3 with ⟨hr, hB2, a2, cl2, kc6, km6, u1, u2, u3, u4, u5, u6⟩ | ⟨hr, hx⟩
        · refine Or.inl ⟨hr, hB2, a2, cl2, kc6, km6, by omega, by omega, u3, by omega, fun k hk => ?_, u6⟩
          rw [u5 k (by omega), wr_cd.2 k (by omega), p5 k hk, up2_o (by omega)]
        · exact Or.inr ⟨hr, hx⟩
      · subst hr
        rw [(and_b bx hB).2 _ (fun w => m_part_h18 (m_ex nm) n' w T3), if_pos rfl, partM_f (by omega) (and_b bx hB).1 (fl_ne hTf t hf)]
        exact ⟨_, _, _, _, rfl, rfl, f1, f2, Or.inr ⟨rfl, (and_b bx hB).1, f, hf, hSf, hTf⟩⟩
    · rw [if_neg (show ¬ cuM b L (sk b L a) = nI 38 by rw [cuM_eq t _ (by omega) (by omega)]; exact h38), nz_b bx]
      by_cases h160 : 160 ≤ i
      · rw [if_pos (nI_le h160 (by omega)), (end160 t ha hi h160).1]
        exact ⟨_, _, _, _, rfl, rfl, Fr.rfl, mF_at Fr.rfl (Or.inl rfl), Or.inl ⟨rfl, bx, a, cl, kc, km.at, Nat.le_refl _, Nat.le_refl _, hcl0, by omega, fun k hk => rfl, sg⟩⟩
      · rw [if_neg (show ¬ nI 160 ≤ nI i from nI_ge (by omega) (by omega)), takes13_0 t kc.1 ha kc.2.1 (by omega) h38, bI_some]
        simp only []
        rw [if_pos trivial]
        exact ⟨_, _, _, _, rfl, rfl, cF_at Fr.rfl, mF_at Fr.rfl (Or.inl rfl), Or.inl ⟨rfl, bx, sk b L a, cl, kc.sk, km.at, hge, Nat.le_refl _, hcl0, by omega, fun k hk => up2_o (by omega), sg.cong (fun k h1 h2 => up2_o (by omega))⟩⟩
theorem lk_3 (nc : Nat) (v : Int32) (S : St) : c_lk (nc + 1) 3 v S = c_LikingReader_readRestOfTruth_h2 (c_lk nc) FU v (nI 0) S := by
  rw [c_lk, if_neg (by omega), if_neg (by omega), if_neg (by omega), if_pos rfl]
  unfold c_LikingReader_readRestOfTruth
  rw [show (0 : Int32) = nI 0 from rfl]
theorem cond_loop (t : Txt b L) {d nc nm : Nat} (hu1 : UnitSt b L ob bs lt d (nc + 1) nm) (hu : UnitSt b L ob bs lt d nc nm) : ∀ (n n' i : Nat) (S T : St) (a cl0 cl : Nat) (x : Int32), KC b L S a cl → KM b L ob bs lt T a d → cl0 < cl → Seg (S 14) lt cl0 cl x → b01 x → i ≤ a → L < n + a → L < n' + a →
    ∃ r S' v T', c_LikingReader_readRestOfCondition_h12 (c_lk (nc + 1)) n (nI d) (nI i) S = some (r, S') ∧ m_condition_h7 (m_ex (nm + 1)) n' x T = some (v, T') ∧ Gd b L ob bs lt b01 b01 S T a cl0 cl d S' T' r v := by
  have hL := t.1
  intro n
  induction n with
  | zero => intro n' i S T a cl0 cl x kc; have := kc.2.2.2.1; omega
  | succ n ih =>
    intro n' i S T a cl0 cl x kc km hcl0 sg bx hi hn hn'
    have ha := kc.2.2.2.1
    have hcla := kc.2.2.2.2
    have hge := sk_ge b L a
    have hle := sk_le b ha
    obtain ⟨n', rfl⟩ : ∃ m, n' = m + 1 := ⟨n' - 1, by omega⟩
    have l124 : (124 : Int32) = nI 124 := rfl
    rw [c_LikingReader_readRestOfCondition_h12, m_condition_h7]
    simp only [lits, l124, bnd_eq]
    rw [if_pos km.2.2.1, look_eq t km.1 ha km.2.1, bI_some]
    simp only []
    by_cases hc : cu b L (sk b L a) = 124
    · have hlt : sk b L a < L := cu_pos (by omega) hc
      rw [if_neg (show ¬ nI 160 ≤ nI i from nI_ge (by omega) (by omega)), takes13_1 t kc.1 ha kc.2.1 hc, bI_some]
      simp only []
      rw [if_neg m10, if_pos (show cuM b L (sk b L a) = nI 124 by rw [cuM_eq t _ (by omega) (by omega)]; exact hc), up2_hit rfl rfl, nI_add, nI_add, up2_up2]
      obtain ⟨r, S3, y, T3, e1, e2, g1, g2, g3⟩ := hu1 _ _ _ _ (kc.at (a1 := sk b L a + 1) (by omega) (by omega)) (km.at (a1 := sk b L a + 1))
      have f1 : Fr cF S S3 := (cF_at Fr.rfl).tr g1
      have f2 : Fr mF T T3 := (mF_at Fr.rfl (Or.inl rfl)).tr g2
      have e2' : m_ex (nm + 1) 5 (nI 0) (nI 0) (up2 T 0 10 (nI (sk b L a + 1))) = m_part_h18 (m_ex nm) FU y T3 := by
        show m_part (m_ex nm) (nI 0) (nI 0) _ = _
        unfold m_part m_part_b17
        rw [if_pos (show nI 0 = 0 from rfl), e2, bI_some]
      rw [e1, bI_some, e2']
      unfold m_condition_b51 m_condition_b56
      simp only [lits]
      rcases g3 with ⟨hr, hB, a', cl', kc3, km3, p1, p2, p3, p4, p5, p6⟩ | ⟨hr, hB, f, hf, hSf, hTf⟩
      · subst hr
        rw [if_neg m10]
        obtain ⟨r, S4, z, T4, e3, e4, g4, g5, g6⟩ := truth_loop t hu FU FU 0 S3 T3 a' cl cl' y kc3 km3 p3 p6 hB (by omega) (by unfold FU; omega) (by unfold FU; omega)
        have e3' : c_lk (nc + 1) 3 (nI d) S3 = some (r, S4) := (lk_3 nc (nI d) S3).trans e3
        have f3 := f1.tr g4
        have f4 := f2.tr g5
        rw [e3', bI_some, e4, bI_some]
        simp only []
        rcases g6 with ⟨hr, hB2, a2, cl2, kc4, km4, u1, u2, u3, u4, u5, u6⟩ | ⟨hr, hB2, f, hf, hSf, hTf⟩
        · subst hr
          rw [(or_b bx hB2).2 _ (fun w => m_condition_h7 (m_ex (nm + 1)) n' w T4)]
          rw [if_neg m10, write_eq (m := 0) t kc4 (by omega) (by omega) (by omega), bV_some]
          have kc5 := kc4.wr (show cl2 < a2 by omega) (nI (0 * 256 + 124))
          have sg1 : Seg ((up2 (up2 S4 14 cl2 (nI (0 * 256 + 124))) 13 3 (nI (cl2 + 1))) 14) lt cl0 (cl2 + 1) (x ||| z) := by
            refine Seg_bin (a1 := cl) (s := 124) (x := x) (y := z) (sg.cong (fun k h1 h2 => ?_)) (u6.cong (fun k h1 h2 => ?_)) ?_ ?_ (joined_124 x z) hcl0 (by omega)
            · rw [wr_cd.2 k (by omega), u5 k (by omega), p5 k h2, up2_o (by omega)]
            · rw [wr_cd.2 k (by omega)]
            · unfold opS; omega
            · rw [wr_cd.1]
          obtain ⟨r, S', v, T', e5, e6, q1, q2, q3⟩ := ih n' (i + 1) _ T4 a2 cl0 (cl2 + 1) (x ||| z) kc5 km4 (by omega) sg1 (or_b bx hB2).1 (by omega) (by omega) (by omega)
          refine ⟨r, S', v, T', e5, e6, (cF_wr f3).tr q1, f4.tr q2, ?_⟩
          rcases q3 with ⟨hr, hB2, a3, cl3, kc6, km6, w1, w2, w3, w4, w5, w6⟩ | ⟨hr, hx⟩
          · refine Or.inl ⟨hr, hB2, a3, cl3, kc6, km6, by omega, by omega, w3, by omega, fun k hk => ?_, w6⟩
            rw [w5 k (by omega), wr_cd.2 k (by omega), u5 k (by omega), p5 k hk, up2_o (by omega)]
          · exact Or.inr ⟨hr, hx⟩
        · subst hr
          rw [(or_b bx hB2).2 _ (fun w => m_condition_h7 (m_ex (nm + 1)) n' w T4), if_pos rfl, condM_f (by omega) (or_b bx hB2).1 (fl_ne hTf t hf)]
          exact ⟨_, _, _, _, rfl, rfl, f3, f4, Or.inr ⟨rfl, (or_b bx hB2).1, f, hf, hSf, hTf⟩⟩
      · subst hr
        rw [if_pos rfl, partM_f (by unfold FU; omega) hB (fl_ne hTf t hf), bI_some]
        simp only []
        rw [(or_b bx hB).2 _ (fun w => m_condition_h7 (m_ex (nm + 1)) n' w T3), condM_f (by omega) (or_b bx hB).1 (fl_ne hTf t hf)]
        exact ⟨_, _, _, _, rfl, rfl, f1, f2, Or.inr ⟨rfl, (or_b bx hB).1, f, hf, hSf, hTf⟩⟩
    · rw [if_neg (show ¬ cuM b L (sk b L a) = nI 124 by rw [cuM_eq t _ (by omega) (by omega)]; exact hc), nz_b bx]
      by_cases h160 : 160 ≤ i
      · rw [if_pos (nI_le h160 (by omega)), (end160 t ha hi h160).1]
        exact ⟨_, _, _, _, rfl, rfl, Fr.rfl, mF_at Fr.rfl (Or.inl rfl), Or.inl ⟨rfl, bx, a, cl, kc, km.at, Nat.le_refl _, Nat.le_refl _, hcl0, by omega, fun k hk => rfl, sg⟩⟩
      · rw [if_neg (show ¬ nI 160 ≤ nI i from nI_ge (by omega) (by omega)), takes13_0 t kc.1 ha kc.2.1 (by omega) hc, bI_some]
        simp only []
        rw [if_pos trivial]
        exact ⟨_, _, _, _, rfl, rfl, cF_at Fr.rfl, mF_at Fr.rfl (Or.inl rfl), Or.inl ⟨rfl, bx, sk b L a, cl, kc.sk, km.at, hge, Nat.le_refl _, hcl0, by omega, fun k hk => up2_o (by omega), sg.cong (fun k h1 h2 => up2_o (by omega))⟩⟩
/-- the rest of a condition, behind its first unit -/
theorem rest_ls (t : Txt b L) {d nc nm : Nat} (hu1 : UnitSt b L ob bs lt d (nc + 1) nm) (hu : UnitSt b L ob bs lt d nc nm) (S T : St) (a cl0 cl : Nat) (x : Int32) (kc : KC b L S a cl) (km : KM b L ob bs lt T a d) (hcl : cl0 < cl) (sg : Seg (S 14) lt cl0 cl x) (bx : b01 x) :
    ∃ r S' v T', c_LikingReader_readRestOfCondition (c_lk (nc + 1)) (nI d) S = some (r, S') ∧ bI (m_part_b17 (m_ex nm) x T) (fun x2 S1 => m_condition_h7 (m_ex (nm + 1)) FU x2 S1) = some (v, T') ∧ Gd b L ob bs lt b01 b01 S T a cl0 cl d S' T' r v := by
  have hL := t.1
  obtain ⟨r, S4, z, T4, e3, e4, g4, g5, g6⟩ := truth_loop t hu FU FU 0 S T a cl0 cl x kc km hcl sg bx (by omega) (by unfold FU; omega) (by unfold FU; omega)
  have e3' : c_lk (nc + 1) 3 (nI d) S = some (r, S4) := (lk_3 nc (nI d) S).trans e3
  unfold c_LikingReader_readRestOfCondition m_part_b17
  rw [e3', bI_some, e4, bI_some]
  simp only [lits]
  rcases g6 with ⟨hr, hB2, a2, cl2, kc4, km4, u1, u2, u3, u4, u5, u6⟩ | ⟨hr, hB2, f, hf, hSf, hTf⟩
  · subst hr
    rw [if_neg m10]
    obtain ⟨r, S', v, T', e5, e6, q1, q2, q3⟩ := cond_loop t hu1 hu FU FU 0 S4 T4 a2 cl0 cl2 z kc4 km4 u3 u6 hB2 (by omega) (by unfold FU; omega) (by unfold FU; omega)
    refine ⟨r, S', v, T', e5, e6, g4.tr q1, g5.tr q2, ?_⟩
    rcases q3 with ⟨hr, hB2, a3, cl3, kc6, km6, w1, w2, w3, w4, w5, w6⟩ | ⟨hr, hx⟩
    · refine Or.inl ⟨hr, hB2, a3, cl3, kc6, km6, by omega, by omega, w3, by omega, fun k hk => ?_, w6⟩
      rw [w5 k (by omega), u5 k hk]
    · exact Or.inr ⟨hr, hx⟩
  · subst hr
    rw [if_pos rfl, condM_f (by unfold FU; omega) hB2 (fl_ne hTf t hf)]
    exact ⟨_, _, _, _, rfl, rfl, g4, g5, Or.inr ⟨rfl, hB2, f, hf, hSf, hTf⟩⟩
/-- a first unit and the rest: the reference's condition(false, 0) -/
theorem cond_ls (t : Txt b L) {d nc nm : Nat} (hu0 : UnitSt b L ob bs lt d (nc + 2) nm) (hu1 : UnitSt b L ob bs lt d (nc + 1) nm) (hu : UnitSt b L ob bs lt d nc nm) (S T : St) (a cl : Nat) (kc : KC b L S a cl) (km : KM b L ob bs lt T a d) :
    (∃ S1 r S' v T' a1 cl1, c_lk (nc + 2) 0 (nI d) S = some (nI 1, S1) ∧ a ≤ a1 ∧ KC b L S1 a1 cl1 ∧ c_lk (nc + 2) 2 (nI d) S1 = some (r, S') ∧ m_ex (nm + 2) 6 0 0 T = some (v, T') ∧ Gd b L ob bs lt b01 b01 S T a cl cl d S' T' r v) ∨
    (∃ S1 v T', c_lk (nc + 2) 0 (nI d) S = some (nI 0, S1) ∧ m_ex (nm + 2) 6 0 0 T = some (v, T') ∧ Gd b L ob bs lt b01 b01 S T a cl cl d S1 T' (nI 0) v) := by
  obtain ⟨r, S3, y, T3, e1, e2, f1, f2, g3⟩ := hu0 _ _ _ _ kc km
  have e6 : m_ex (nm + 2) 6 0 0 T = bI (m_part_b17 (m_ex nm) y T3) (fun x2 S1 => m_condition_h7 (m_ex (nm + 1)) FU x2 S1) := by
    show m_condition (m_ex (nm + 1)) 0 0 T = _
    unfold m_condition
    have e5 : m_ex (nm + 1) 5 0 0 T = m_part_b17 (m_ex nm) y T3 := by
      show m_part (m_ex nm) 0 0 T = _
      unfold m_part
      rw [if_pos rfl, e2, bI_some]
    rw [e5]
  rcases g3 with ⟨hr, hB, a', cl', kc3, km3, p1, p2, p3, p4, p5, p6⟩ | ⟨hr, hB, f, hf, hSf, hTf⟩
  · left
    subst hr
    obtain ⟨r, S', v, T', e3, e4, q1, q2, q3⟩ := rest_ls t hu1 hu S3 T3 a' cl cl' y kc3 km3 p3 p6 hB
    refine ⟨S3, r, S', v, T', a', cl', e1, p1, kc3, e3, by rw [e6]; exact e4, f1.tr q1, f2.tr q2, ?_⟩
    rcases q3 with ⟨hr, hB2, a3, cl3, kc6, km6, w1, w2, w3, w4, w5, w6⟩ | ⟨hr, hx⟩
    · refine Or.inl ⟨hr, hB2, a3, cl3, kc6, km6, by omega, by omega, w3, by omega, fun k hk => ?_, w6⟩
      rw [w5 k (by omega), p5 k hk]
    · exact Or.inr ⟨hr, hx⟩
  · right
    subst hr
    refine ⟨S3, y, T3, e1, ?_, f1, f2, Or.inr ⟨rfl, hB, f, hf, hSf, hTf⟩⟩
    rw [e6]
    unfold m_part_b17
    rw [partM_f (by unfold FU; omega) hB (fl_ne hTf t hf), bI_some, condM_f (by unfold FU; omega) hB (fl_ne hTf t hf)]
end COND
