/-! A LIKING IS READ on both sides, step by step -/
def wi (q : Int64) : Int32 := (lmax (-1000000 : Int64) (lmin (1000000 : Int64) q)).toInt32
theorem wi_toInt (q : Int64) : (wi q).toInt = max (-1000000) (min 1000000 q.toInt) := by
  unfold wi lmax lmin
  have e1 : (-1000000 : Int64).toInt = -1000000 := by decide
  have e2 : (1000000 : Int64).toInt = 1000000 := by decide
  rw [Int64.toInt_toInt32]
  by_cases h1 : q < (1000000 : Int64)
  · rw [if_pos h1]
    rw [Int64.lt_iff_toInt_lt, e2] at h1
    by_cases h2 : q < (-1000000 : Int64)
    · rw [if_pos h2]
      rw [Int64.lt_iff_toInt_lt, e1] at h2
      rw [e1, Int.bmod_eq_of_le (by omega) (by omega)]
      omega
    · rw [if_neg h2]
      rw [Int64.lt_iff_toInt_lt, e1] at h2
      rw [Int.bmod_eq_of_le (by omega) (by omega)]
      omega
  · rw [if_neg h1]
    rw [Int64.lt_iff_toInt_lt, e2] at h1
    rw [if_neg (by decide), e2, Int.bmod_eq_of_le (by omega) (by omega)]
    omega
theorem wi_Bd (q : Int64) : Bd (wi q) := by
  unfold Bd
  rw [wi_toInt]
  omega
theorem wi_id {z : Int32} (h : Bd z) : wi z.toInt64 = z := by
  apply Int32.toInt_inj.mp
  rw [wi_toInt, Int32.toInt_toInt64]
  unfold Bd at h
  omega
theorem Bd_div {x y : Int32} (h : Bd x) : Bd (x / y) := by
  have hx : x ≠ Int32.minValue := by
    intro e
    rw [e] at h
    exact absurd h.1 (by decide)
  unfold Bd at *
  rw [Int32.toInt_div_of_ne_left _ _ hx]
  have h1 := Int.natAbs_tdiv_le_natAbs x.toInt y.toInt
  omega
theorem wi_div {x y : Int32} (h : Bd x) : wi (x.toInt64 / y.toInt64) = x / y := by
  have hx : x ≠ Int32.minValue := by
    intro e
    rw [e] at h
    exact absurd h.1 (by decide)
  rw [← Int32.toInt64_div_of_ne_left _ _ hx]
  exact wi_id (Bd_div h)
theorem Bd_nI {n : Nat} (h : n ≤ 1000000) : Bd (nI n) := by
  unfold Bd
  rw [nI_toInt (by omega)]
  omega
theorem nI_nn {a b : Nat} (h : a ≠ b) (ha : a < 2 ^ 31) (hb : b < 2 ^ 31) : ¬ nI a = nI b := fun e => h ((nI_eq ha hb).mp e)
theorem n10 : ¬ nI 1 = (0 : Int32) := by decide
theorem n00 : nI 0 = (0 : Int32) := rfl
theorem m10 : ¬ nI 1 = nI 0 := by decide
/-- the class's reader at a, with cl numbers of code -/
def KC (b : Nat → Nat) (L : Nat) (S : St) (a cl : Nat) : Prop := PT b L S ∧ S 13 1 = nI a ∧ S 13 3 = nI cl ∧ a ≤ L ∧ cl ≤ a
def LtM (lt : Nat → Nat) (T : St) : Prop := T 4 108 = nI (lt 0) ∧ T 4 110 = nI (lt 1) ∧ T 4 115 = nI (lt 2) ∧ T 4 104 = nI (lt 3) ∧ T 4 105 = nI (lt 4) ∧ T 4 116 = nI (lt 5)
theorem LtM.fr {lt : Nat → Nat} {T T' : St} (h : LtM lt T) (hf : ∀ j, T' 4 j = T 4 j) : LtM lt T' := by
  unfold LtM
  rw [hf, hf, hf, hf, hf, hf]
  exact h
def KM (b : Nat → Nat) (L ob bs : Nat) (lt : Nat → Nat) (T : St) (a d : Nat) : Prop := PMt b L ob bs T ∧ T 0 10 = nI a ∧ T 0 11 = -nI 1 ∧ T 0 12 = nI d ∧ LtM lt T
def cF : Nat → Nat → Prop := fun q j => (q = 13 ∧ (j = 1 ∨ j = 3)) ∨ q = 14
def mF : Nat → Nat → Prop := fun q j => q = 0 ∧ (j = 10 ∨ j = 11 ∨ j = 12)
def Gd (b : Nat → Nat) (L ob bs : Nat) (lt : Nat → Nat) (B B' : Int32 → Prop) (S T : St) (a cl0 cl d : Nat) (S' T' : St) (r v : Int32) : Prop :=
  Fr cF S S' ∧ Fr mF T T' ∧ ((r = nI 1 ∧ B v ∧ ∃ a' cl', KC b L S' a' cl' ∧ KM b L ob bs lt T' a' d ∧ a ≤ a' ∧ cl ≤ cl' ∧ cl0 < cl' ∧ cl' + a ≤ cl + a' ∧ (∀ k, k < cl → S' 14 k = S 14 k) ∧ Seg (S' 14) lt cl0 cl' v) ∨ (r = nI 0 ∧ B' v ∧ ∃ f, f ≤ L ∧ S' 13 1 = nI f ∧ T' 0 11 = nI f))
section EXPR
variable {b : Nat → Nat} {L ob bs : Nat} {lt : Nat → Nat}
theorem KC.at {S : St} {a cl a1 : Nat} (h : KC b L S a cl) (h1 : a1 ≤ L) (h2 : cl ≤ a1) : KC b L (up2 S 13 1 (nI a1)) a1 cl :=
  ⟨h.1.fr (fun q j hq => up2_o (by omega)), up2_hit rfl rfl, (up2_k (by omega)).trans h.2.2.1, h1, h2⟩
theorem KM.at {T : St} {a d a1 : Nat} (h : KM b L ob bs lt T a d) : KM b L ob bs lt (up2 T 0 10 (nI a1)) a1 d :=
  ⟨h.1.fr (fun q j hq => up2_n (by omega)), up2_hit rfl rfl, (up2_k (by omega)).trans h.2.2.1, (up2_k (by omega)).trans h.2.2.2.1, h.2.2.2.2.fr (fun j => up2_o (by omega))⟩
theorem KM.dp {T : St} {a d d1 : Nat} (h : KM b L ob bs lt T a d) : KM b L ob bs lt (up2 T 0 12 (nI d1)) a d1 :=
  ⟨h.1.fr (fun q j hq => up2_n (by omega)), (up2_k (by omega)).trans h.2.1, (up2_k (by omega)).trans h.2.2.1, up2_hit rfl rfl, h.2.2.2.2.fr (fun j => up2_o (by omega))⟩
theorem KC.sk {S : St} {a cl : Nat} (h : KC b L S a cl) : KC b L (up2 S 13 1 (nI (sk b L a))) (sk b L a) cl := h.at (sk_le b h.2.2.2.1) (Nat.le_trans h.2.2.2.2 (sk_ge b L a))
theorem fl_ne {T : St} {f : Nat} (h : T 0 11 = nI f) (t : Txt b L) (hf : f ≤ L) : T 0 11 ≠ -nI 1 := by
  have := t.1
  rw [h, Ne, nI_nneg (by omega)]
  exact id
theorem write_eq (t : Txt b L) {S : St} {a cl m s : Nat} (h : KC b L S a cl) (hcl : cl < a) (hm : m < 2 ^ 22) (hs : s < 256) : c_LikingReader_write (nI s) (nI m) S = some (up2 (up2 S 14 cl (nI (m * 256 + s))) 13 3 (nI (cl + 1))) := by
  have := t.1
  have := h.2.2.2.1
  unfold c_LikingReader_write
  rw [h.2.2.1, if_neg (show ¬ (160 : Int32) ≤ nI cl from nI_ge (b := 160) (by omega) (by omega)), ckI (by omega) (by omega), nI_clamp (by omega), enc_eq hm hs]
  simp only [bnd_eq]
  rw [up2_o (by omega), h.2.2.1]
  simp only [lits, nI_add]
theorem KC.wr {S : St} {a cl : Nat} (h : KC b L S a cl) (hcl : cl < a) (w : Int32) : KC b L (up2 (up2 S 14 cl w) 13 3 (nI (cl + 1))) a (cl + 1) :=
  ⟨h.1.fr (fun q j hq => by rw [up2_o (by omega), up2_o (by omega)]), by rw [up2_k (by omega), up2_o (by omega)]; exact h.2.1, up2_hit rfl rfl, h.2.2.2.1, hcl⟩
theorem wr_cd {S : St} {cl : Nat} {w : Int32} : (up2 (up2 S 14 cl w) 13 3 (nI (cl + 1))) 14 cl = w ∧ ∀ k, k ≠ cl → (up2 (up2 S 14 cl w) 13 3 (nI (cl + 1))) 14 k = S 14 k := by
  refine ⟨by rw [up2_o (by omega), up2_hit rfl rfl], fun k hk => by rw [up2_o (by omega), up2_k hk]⟩
/-- numbers -/
theorem num_ls (t : Txt b L) (rec : Nat → Int32 → Int32 → St → Option (Int32 × St)) : ∀ (k i a v n n' : Nat) (S T : St) (cl d : Nat), i + k = 4 → k < n → k < n' → KC b L S a cl → KM b L ob bs lt T a d → v < 10 ^ i →
    (∃ a' w, a ≤ a' ∧ a' ≤ L ∧ w < 10000 ∧ c_Reader_number_13_h13 n (nI 4) (nI v) (nI i) S = some (nI w, up2 S 13 1 (nI a')) ∧ m_atom_h90 rec n' (nI v) (nI i) T = some (nI w, up2 T 0 10 (nI a'))) ∨
    (∃ a', a' ≤ L ∧ c_Reader_number_13_h13 n (nI 4) (nI v) (nI i) S = some (-nI 1, up2 S 13 1 (nI a')) ∧ m_atom_h90 rec n' (nI v) (nI i) T = some (nI 0, up2 (up2 T 0 10 (nI a')) 0 11 (nI a'))) := by
  have hL := t.1
  intro k
  induction k with
  | zero =>
    intro i a v n n' S T cl d hi hn hn' kc km hv
    have hi4 : i = 4 := by omega
    subst hi4
    obtain ⟨n, rfl⟩ : ∃ m, n = m + 1 := ⟨n - 1, by omega⟩
    obtain ⟨n', rfl⟩ : ∃ m, n' = m + 1 := ⟨n' - 1, by omega⟩
    rw [c_Reader_number_13_h13, if_pos (by decide), m_atom_h90]
    unfold c_Reader_number_13_b62
    by_cases hd : isD b L a
    · right
      refine ⟨a, kc.2.2.2.1, ?_, ?_⟩
      · rw [dig13_1 t kc.1 kc.2.1 hd, bI_some]
        simp only [lits]
        rw [if_neg (by decide), up2_self kc.2.1]
      · rw [digM_1 t km.1 km.2.1 hd, bI_some]
        simp only [lits]
        rw [if_neg (by decide), if_pos km.2.2.1, if_pos (by simp), fails_1 km.2.2.1 km.2.1, bI_some, up2_self km.2.1]
    · left
      refine ⟨a, v, Nat.le_refl _, kc.2.2.2.1, by omega, ?_, ?_⟩
      · rw [dig13_0 t kc.1 kc.2.2.2.1 kc.2.1 hd, bI_some]
        simp only [lits]
        rw [if_pos (by simp), up2_self kc.2.1]
      · rw [digM_0 t km.1 kc.2.2.2.1 km.2.1 hd, bI_some]
        simp only [lits]
        rw [if_pos (by simp), up2_self km.2.1]
  | succ k ih =>
    intro i a v n n' S T cl d hi hn hn' kc km hv
    obtain ⟨n, rfl⟩ : ∃ m, n = m + 1 := ⟨n - 1, by omega⟩
    obtain ⟨n', rfl⟩ : ∃ m, n' = m + 1 := ⟨n' - 1, by omega⟩
    have hp : (10 : Nat) ^ i ≤ 10 ^ 3 := Nat.pow_le_pow_right (by omega) (by omega)
    rw [c_Reader_number_13_h13, if_neg (by rw [nI_leE (by omega) (by omega)]; omega), m_atom_h90]
    by_cases hd : isD b L a
    · have hb := t.2 a hd.1
      have hd0 := hd
      obtain ⟨d1, d2, d3⟩ := hd
      obtain ⟨a1, a2, a3, a4⟩ := km.1.al d1
      have l48 : (48 : Int32) = nI 48 := rfl
      rw [dig13_1 t kc.1 kc.2.1 hd0, bI_some, digM_1 t km.1 km.2.1 hd0, bI_some]
      simp only [lits, l48, bnd_eq]
      rw [if_neg (by decide), kc.2.1, ckI (by omega) (by omega), nI_clamp (by omega), kc.1.2 a d1, pk_mul, nI_add, pk_sub (by omega), nI_add, nI_add]
      rw [if_neg (by decide), if_pos km.2.2.1, if_neg (by rw [nI_eqE (by omega) (by omega)]; omega), km.1.1, km.1.2.1, km.2.1, ckI (by omega) (by omega), nI_add, nI_clamp (by omega), ckI a1 a2, nI_clamp a4, km.1.2.2.2.1 a d1, sb_dig _ (by omega) d2 d3, pk_mul, nI_add, pk_sub (by omega), nI_add]
      have hv2 : v * 10 + b a - 48 < 10 ^ (i + 1) := by rw [Nat.pow_succ]; omega
      rw [show 10 * v + b a - 48 = v * 10 + b a - 48 by omega]
      rcases ih (i + 1) (a + 1) (v * 10 + b a - 48) n n' _ _ cl d (by omega) (by omega) (by omega) (kc.at (a1 := a + 1) (by omega) (by have := kc.2.2.2.2; omega)) (km.at (a1 := a + 1)) hv2 with ⟨a', w, q1, q2, q3, q4, q5⟩ | ⟨a', q1, q2, q3⟩
      · left
        refine ⟨a', w, by omega, q2, q3, ?_, ?_⟩
        · rw [q4, up2_up2]
        · rw [q5, up2_up2]
      · right
        refine ⟨a', q1, ?_, ?_⟩
        · rw [q2, up2_up2]
        · rw [q3, up2_up2]
    · left
      refine ⟨a, v, Nat.le_refl _, kc.2.2.2.1, by omega, ?_, ?_⟩
      · unfold c_Reader_number_13_b62
        rw [dig13_0 t kc.1 kc.2.2.2.1 kc.2.1 hd, bI_some]
        simp only [lits]
        rw [if_pos (by simp), dig13_0 t kc.1 kc.2.2.2.1 kc.2.1 hd, bI_some]
        simp only []
        rw [if_pos (by simp), up2_self kc.2.1]
      · rw [digM_0 t km.1 kc.2.2.2.1 km.2.1 hd, bI_some]
        simp only [lits]
        rw [if_pos (by simp), up2_self km.2.1]
theorem li0_cases : ∀ c, c < 256 → li 0 c < 99 → (c = 108 ∧ li 0 c = 0) ∨ (c = 110 ∧ li 0 c = 1) ∨ (c = 115 ∧ li 0 c = 2) ∨ (c = 104 ∧ li 0 c = 3) ∨ (c = 105 ∧ li 0 c = 4) ∨ (c = 116 ∧ li 0 c = 5) := by decide +kernel
theorem LtM.get {T : St} (h : LtM lt T) {c : Nat} (hc : c < 256) (hl : li 0 c < 99) : T 4 c = nI (lt (li 0 c)) ∧ li 0 c < 6 ∧ c < 128 ∧ c ≠ 91 ∧ c ≠ 0 := by
  obtain ⟨h0, h1, h2, h3, h4, h5⟩ := h
  rcases li0_cases c hc hl with ⟨e, f⟩ | ⟨e, f⟩ | ⟨e, f⟩ | ⟨e, f⟩ | ⟨e, f⟩ | ⟨e, f⟩ <;> (rw [f]; subst e; refine ⟨by assumption, by omega, by omega, by omega, by omega⟩)
def SumSt (b : Nat → Nat) (L ob bs : Nat) (lt : Nat → Nat) (d nc nm : Nat) : Prop := ∀ (S T : St) (a cl : Nat), KC b L S a cl → KM b L ob bs lt T a d → ∃ r S' v T', c_lk nc 4 (nI d) S = some (r, S') ∧ m_ex nm 2 0 0 T = some (v, T') ∧ Gd b L ob bs lt Bd (fun _ => True) S T a cl cl d S' T' r v
def TermSt (b : Nat → Nat) (L ob bs : Nat) (lt : Nat → Nat) (d nc nm : Nat) : Prop := ∀ (S T : St) (a cl : Nat), KC b L S a cl → KM b L ob bs lt T a d → ∃ r S' v T', c_lk nc 5 (nI d) S = some (r, S') ∧ m_ex nm 1 0 0 T = some (v, T') ∧ Gd b L ob bs lt Bd (fun _ => True) S T a cl cl d S' T' r v
def AtomSt (b : Nat → Nat) (L ob bs : Nat) (lt : Nat → Nat) (d nc nm : Nat) : Prop := ∀ (S T : St) (a cl : Nat), KC b L S a cl → KM b L ob bs lt T a d → ∃ r S' v T', c_lk nc 6 (nI d) S = some (r, S') ∧ m_ex nm 0 0 0 T = some (v, T') ∧ Gd b L ob bs lt Bd (fun _ => True) S T a cl cl d S' T' r v
theorem cF_at {S S' : St} {a : Nat} (h : Fr cF S S') : Fr cF S (up2 S' 13 1 (nI a)) := h.up (Or.inl ⟨rfl, Or.inl rfl⟩)
theorem cF_wr {S S' : St} {cl : Nat} {w x : Int32} (h : Fr cF S S') : Fr cF S (up2 (up2 S' 14 cl w) 13 3 x) := (h.up (Or.inr rfl)).up (Or.inl ⟨rfl, Or.inr rfl⟩)
theorem mF_at {T T' : St} {x : Int32} {j : Nat} (h : Fr mF T T') (hj : j = 10 ∨ j = 11 ∨ j = 12) : Fr mF T (up2 T' 0 j x) := h.up ⟨rfl, hj⟩
theorem cu_pos {a : Nat} {c : Nat} (hc : 1 ≤ c) (h : cu b L a = c) : a < L := by
  unfold cu at h
  by_cases e : a < L
  · exact e
  · rw [if_neg e] at h; omega
set_option maxHeartbeats 4000000 in
theorem atom_ls (t : Txt b L) (hlt : ∀ k, k < 6 → lt k ≤ 10000) {d nc nm : Nat} (hd : d ≤ 6) (hs : d < 6 → SumSt b L ob bs lt (d + 1) nc nm) : AtomSt b L ob bs lt d (nc + 1) (nm + 1) := by
  have hL := t.1
  intro S T a cl kc km
  show ∃ r S' v T', c_LikingReader_readAtom (c_lk nc) (nI d) S = some (r, S') ∧ m_atom (m_ex nm) T = some (v, T') ∧ _
  have l91 : (91 : Int32) = nI 91 := rfl
  have l93 : (93 : Int32) = nI 93 := rfl
  have l48 : (48 : Int32) = nI 48 := rfl
  have l121 : (121 : Int32) = nI 121 := rfl
  have hge := sk_ge b L a
  have hle := sk_le b kc.2.2.2.1
  have hcl := kc.2.2.2.2
  have kc1 := kc.sk
  have km1 := km.at (a1 := sk b L a)
  have hcu := cu_lt t (sk b L a)
  unfold c_LikingReader_readAtom m_atom
  rw [next13_eq t kc.1 kc.2.2.2.1 kc.2.1, bI_some, look_eq t km.1 kc.2.2.2.1 km.2.1, bI_some]
  simp only [l91]
  rw [among_eq (by omega), bI_some]
  simp only []
  by_cases h91 : cu b L (sk b L a) = 91
  · have hlt2 := cu_pos (by omega) h91
    rw [h91, if_pos (show nI 91 = nI 91 from rfl), if_neg (show ¬ li 0 91 < 99 by decide)]
    rw [if_pos (show nI 0 = 0 from rfl), if_pos (show cuM b L (sk b L a) = nI 91 by rw [cuM_eq t _ (by omega) (by omega)]; exact h91)]
    unfold m_goesIn
    rw [km1.2.2.2.1]
    by_cases hd6 : d < 6
    · rw [if_pos (show nI d < (6 : Int32) from nI_lt (b := 6) hd6 (by omega)), if_neg (show ¬ nI d = (6 : Int32) from nI_nn (b := 6) (by omega) (by omega) (by omega))]
      simp only [bnd_eq, lits, l93]
      rw [up2_hit rfl rfl, nI_add, nI_add, up2_up2, show nI 1 = (1 : Int32) from rfl, nz_1, bI_some]
      simp only []
      rw [if_neg (show ¬ (1 : Int32) = nI 0 by decide), up2_k (by omega), up2_hit rfl rfl, show (1 : Int32) = nI 1 from rfl, nI_add]
      have kc2 : KC b L (up2 S 13 1 (nI (sk b L a + 1))) (sk b L a + 1) cl := kc.at (by omega) (by omega)
      have km2 : KM b L ob bs lt (up2 (up2 (up2 T 0 10 (nI (sk b L a))) 0 12 (nI (d + 1))) 0 10 (nI (sk b L a + 1))) (sk b L a + 1) (d + 1) := (km1.dp).at
      obtain ⟨r, S3, v, T3, e1, e2, g1, g2, g3⟩ := hs hd6 _ _ _ _ kc2 km2
      have f1 : Fr cF S S3 := (cF_at Fr.rfl).tr g1
      have f2 : Fr mF T T3 := (mF_at (mF_at (mF_at Fr.rfl (Or.inl rfl)) (Or.inr (Or.inr rfl))) (Or.inl rfl)).tr g2
      have e2' : m_ex nm 2 (nI 0) (nI 0) (up2 (up2 (up2 T 0 10 (nI (sk b L a))) 0 12 (nI (d + 1))) 0 10 (nI (sk b L a + 1))) = some (v, T3) := e2
      rw [e1, bI_some, e2', bI_some]
      simp only []
      rcases g3 with ⟨hr, hB, a', cl', kc3, km3, p1, p2, p3, p4, p5, p6⟩ | ⟨hr, _, f, hf, hSf, hTf⟩
      · subst hr
        rw [if_neg m10]
        by_cases h93 : cu b L (sk b L a') = 93
        · have hlt3 := cu_pos (by omega) h93
          have hge3 := sk_ge b L a'
          rw [takes13_1 t kc3.1 kc3.2.2.2.1 kc3.2.1 h93, bI_some, takesM_1 t km3.1 kc3.2.2.2.1 km3.2.1 km3.2.2.1 (by omega) (by omega) h93, bI_some]
          simp only []
          rw [if_neg m10, if_neg m10, up2_k (by omega), km3.2.2.2.1, pk_sub (by omega)]
          refine ⟨_, _, _, _, rfl, rfl, cF_at f1, mF_at (mF_at f2 (Or.inl rfl)) (Or.inr (Or.inr rfl)), Or.inl ⟨rfl, hB, sk b L a' + 1, cl', kc3.at (by omega) (by have := kc3.2.2.2.2; omega), ?_, by omega, p2, p3, by omega, fun k hk => ?_, ?_⟩⟩
          · rw [show d + 1 - 1 = d by omega]; exact (km3.at).dp
          · rw [up2_o (by omega), p5 k hk, up2_o (by omega)]
          · exact p6.cong (fun k h1 h2 => up2_o (by omega))
        · rw [takes13_0 t kc3.1 kc3.2.2.2.1 kc3.2.1 (by omega) h93, bI_some, takesM_0 t km3.1 kc3.2.2.2.1 km3.2.1 km3.2.2.1 (by omega) (by omega) h93, bI_some]
          simp only [if_true]
          exact ⟨_, _, _, _, rfl, rfl, cF_at f1, mF_at (mF_at f2 (Or.inl rfl)) (Or.inr (Or.inl rfl)), Or.inr ⟨rfl, trivial, sk b L a', sk_le b kc3.2.2.2.1, up2_hit rfl rfl, up2_hit rfl rfl⟩⟩
      · subst hr
        rw [takesM_f _ (fl_ne hTf t hf), bI_some]
        simp only [if_true]
        exact ⟨_, _, _, _, rfl, rfl, f1, f2, Or.inr ⟨rfl, trivial, f, hf, hSf, hTf⟩⟩
    · have hd7 : d = 6 := by omega
      subst hd7
      rw [if_neg (show ¬ nI 6 < (6 : Int32) by decide), if_pos (show nI 6 = (6 : Int32) from rfl), fails_1 km1.2.2.1 km1.2.1, bI_some]
      simp only []
      rw [show nI 0 = (0 : Int32) from rfl, nz_0, nz_0, bI_some]
      simp only [if_true]
      exact ⟨_, _, _, _, rfl, rfl, cF_at Fr.rfl, mF_at (mF_at Fr.rfl (Or.inl rfl)) (Or.inr (Or.inl rfl)), Or.inr ⟨rfl, trivial, sk b L a, hle, up2_hit rfl rfl, up2_hit rfl rfl⟩⟩
  · rw [if_neg (by rw [nI_eqE (by omega) (by omega)]; exact h91), indexOf_eq (by omega) hcu, bI_some]
    simp only []
    by_cases hli : li 0 (cu b L (sk b L a)) < 99
    · obtain ⟨g1, g2, g3, g4, g5⟩ := km1.2.2.2.2.get hcu hli
      have hlt2 : sk b L a < L := cu_pos (c := cu b L (sk b L a)) (by omega) rfl
      have hcm : cuM b L (sk b L a) = nI (cu b L (sk b L a)) := by rw [cuM_eq t _ (by omega) hcu]
      have hlir : liR (li 0 (cu b L (sk b L a))) = nI (li 0 (cu b L (sk b L a))) := if_pos hli
      rw [if_pos hli, if_neg n10, hlir, if_neg (show ¬ nI (li 0 (cu b L (sk b L a))) < 0 from nI_pos (by omega))]
      simp only [bnd_eq, lits]
      rw [up2_hit rfl rfl, up2_hit rfl rfl, nI_add, up2_up2, up2_up2, hcm, ckI (by omega) (by omega), nI_clamp (by omega), l121]
      have kc2 : KC b L (up2 S 13 1 (nI (sk b L a + 1))) (sk b L a + 1) cl := kc.at (by omega) (by omega)
      rw [write_eq t kc2 (by omega) (by omega) (by omega), bV_some]
      have g1' : up2 T 0 10 (nI (sk b L a + 1)) 4 (cu b L (sk b L a)) = nI (lt (li 0 (cu b L (sk b L a)))) := by
        rw [up2_o (by omega)]; rw [up2_o (by omega)] at g1; exact g1
      rw [g1']
      refine ⟨_, _, _, _, rfl, rfl, cF_wr (cF_at Fr.rfl), mF_at Fr.rfl (Or.inl rfl), Or.inl ⟨rfl, Bd_nI (Nat.le_trans (hlt _ g2) (by omega)), sk b L a + 1, cl + 1, kc2.wr (by omega) _, km.at, by omega, by omega, by omega, by omega, fun k hk => ?_, ?_⟩⟩
      · rw [wr_cd.2 k (by omega), up2_o (by omega)]
      · exact Seg_let g2 wr_cd.1
    · have hlir : liR (li 0 (cu b L (sk b L a))) = -nI 1 := if_neg hli
      rw [if_neg hli, if_pos (show nI 0 = 0 from rfl), if_neg (show ¬ cuM b L (sk b L a) = nI 91 by rw [cuM_eq t _ (by omega) (by omega)]; exact h91), hlir, if_pos (show -nI 1 < 0 by decide)]
      unfold c_Reader_number_13 m_atom_b86
      by_cases hdg : isD b L (sk b L a)
      · rw [dig13_1 t kc1.1 kc1.2.1 hdg, bI_some, digM_1 t km1.1 km1.2.1 hdg, bI_some]
        simp only [lits]
        rw [if_neg (by decide), if_neg (by decide)]
        rw [show nI 4 = nI 4 from rfl]
        rcases num_ls t (m_ex nm) 4 0 (sk b L a) 0 FU FU _ _ cl d (by omega) (by unfold FU; omega) (by unfold FU; omega) kc1 km1 (by decide) with ⟨a', w, q1, q2, q3, q4, q5⟩ | ⟨a', q1, q2, q3⟩
        · rw [q4, bI_some, q5]
          simp only []
          -- at least one digit was read
          have q6 : sk b L a < a' ∨ a' = sk b L a := by omega
          have hlt2 := hdg.1
          rw [if_neg (by rw [nI_nneg (by omega)]; exact id), up2_up2, up2_up2]
          by_cases q7 : a' = sk b L a
          · exfalso
            subst q7
            have e4 : FU = 999 + 1 := rfl
            rw [e4, c_Reader_number_13_h13, if_neg (by decide), dig13_1 t kc1.1 kc1.2.1 hdg, bI_some] at q4
            have l48 : (48 : Int32) = nI 48 := rfl
            simp only [lits, l48, bnd_eq] at q4
            have hb := t.2 _ hdg.1
            rw [if_neg (by decide), kc1.2.1, ckI (by omega) (by omega), nI_clamp (by omega), kc1.1.2 _ hdg.1, pk_mul, nI_add, pk_sub (by have := hdg.2.1; omega), nI_add, nI_add] at q4
            have hb2 := hdg.2
            rcases num_ls t (m_ex nm) 3 1 (sk b L a + 1) (0 * 10 + b (sk b L a) - 48) 999 FU _ (up2 T 0 10 (nI (sk b L a + 1))) cl d (by omega) (by omega) (by unfold FU; omega) (kc1.at (a1 := sk b L a + 1) (by omega) (by omega)) km.at (by omega) with ⟨a2, w2, z1, z2, z3, z4, z5⟩ | ⟨a2, z1, z2, z3⟩
            · rw [z4] at q4
              have := congrArg (fun o => (o.map (fun z => z.2 13 1))) q4
              simp only [Option.map] at this
              rw [up2_hit rfl rfl, up2_hit rfl rfl] at this
              have h3 := Option.some.inj this
              rw [nI_eqE (by omega) (by omega)] at h3
              omega
            · rw [z2] at q4
              have := congrArg (fun o => (o.map (fun z => z.1))) q4
              simp only [Option.map] at this
              have h3 := (Option.some.inj this).symm
              rw [nI_nneg (by omega)] at h3
              exact h3
          · have kc2 : KC b L (up2 S 13 1 (nI a')) a' cl := kc.at q2 (by omega)
            rw [l48, write_eq t kc2 (by omega) (by omega) (by omega), bV_some]
            refine ⟨_, _, _, _, rfl, rfl, cF_wr (cF_at Fr.rfl), mF_at Fr.rfl (Or.inl rfl), Or.inl ⟨rfl, Bd_nI (by omega), a', cl + 1, kc2.wr (by omega) _, km.at, by omega, by omega, by omega, by omega, fun k hk => ?_, ?_⟩⟩
            · rw [wr_cd.2 k (by omega), up2_o (by omega)]
            · exact Seg_num (by omega) wr_cd.1
        · rw [q2, bI_some, q3]
          simp only []
          rw [if_pos trivial, up2_up2, up2_up2]
          exact ⟨_, _, _, _, rfl, rfl, cF_at Fr.rfl, mF_at (mF_at Fr.rfl (Or.inl rfl)) (Or.inr (Or.inl rfl)), Or.inr ⟨rfl, trivial, a', q1, up2_hit rfl rfl, up2_hit rfl rfl⟩⟩
      · rw [dig13_0 t kc1.1 kc1.2.2.2.1 kc1.2.1 hdg, bI_some, digM_0 t km1.1 kc1.2.2.2.1 km1.2.1 hdg, bI_some]
        simp only [lits]
        rw [if_pos trivial, if_pos trivial, fails_1 km1.2.2.1 km1.2.1, bI_some, bI_some]
        simp only []
        have km2 : PMt b L ob bs (up2 (up2 T 0 10 (nI (sk b L a))) 0 11 (nI (sk b L a))) := km1.1.fr (fun q j hq => up2_n (by omega))
        rw [show FU = 999 + 1 from rfl, m_atom_h90, digM_0 t km2 kc1.2.2.2.1 ((up2_k (by omega)).trans (up2_hit rfl rfl)) hdg, bI_some]
        simp only [lits]
        rw [if_pos trivial, if_pos trivial]
        exact ⟨_, _, _, _, rfl, rfl, cF_at Fr.rfl, mF_at (mF_at Fr.rfl (Or.inl rfl)) (Or.inr (Or.inl rfl)), Or.inr ⟨rfl, trivial, sk b L a, hle, up2_hit rfl rfl, up2_hit rfl rfl⟩⟩
end EXPR
