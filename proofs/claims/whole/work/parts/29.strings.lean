/-! STRINGS: where a letter stands -/
def fpos (l : List Int32) (x : Int32) : Nat → Nat → Nat
  | 0, _ => 99
  | d + 1, k => if l.getD k 0 = x then k else fpos l x d (k + 1)
def li (i c : Nat) : Nat := fpos (sbs i) (nI c) (sbs i).length 0
def liR (m : Nat) : Int32 := if m < 99 then nI m else -nI 1
theorem idx_h7 {i : Nat} {x : Int32} {S : St} (hl : (sbs i).length < 20) : ∀ (d k n : Nat), k + d = (sbs i).length → d < n → j_StringLatin1_indexOfChar_4cfef_h7 i n (nI (sbs i).length) x (nI k) S = some (liR (fpos (sbs i) x d k), S) := by
  intro d
  induction d with
  | zero =>
    intro k n hk hn
    obtain ⟨n, rfl⟩ : ∃ m, n = m + 1 := ⟨n - 1, by omega⟩
    rw [j_StringLatin1_indexOfChar_4cfef_h7, if_pos (by rw [nI_leE (by omega) (by omega)]; omega)]
    rfl
  | succ d ih =>
    intro k n hk hn
    obtain ⟨n, rfl⟩ : ∃ m, n = m + 1 := ⟨n - 1, by omega⟩
    rw [j_StringLatin1_indexOfChar_4cfef_h7, if_neg (by rw [nI_leE (by omega) (by omega)]; omega), ckI (by omega) (by omega), nI_clamp (by omega)]
    unfold fpos
    simp only [lits, bnd_eq, nI_add]
    by_cases h : (sbs i).getD k (nI 0) = x
    · rw [if_pos h, if_pos h]
      unfold liR
      rw [if_pos (by omega)]
    · rw [if_neg h, if_neg h]
      exact ih (k + 1) n (by omega) (by omega)
theorem strlen_eq {i : Nat} (hl : (sbs i).length < 20) (S : St) : j_String_length_8abf5 i S = some (nI (sbs i).length, S) := by
  unfold j_String_length_8abf5 j_String_coder_7d493
  have e : nbM (0 : Int32) (some ((0 : Int32), S)) = some ((0 : Int32), S) := if_pos (by decide)
  rw [if_neg (by decide), e, bI_some]
  simp only []
  have h2 := pk_shrN (n := (sbs i).length) (by omega) ((0 : Int32) &&& 31) 0 (by decide)
  rw [show Int32.ofNat (sbs i).length = nI (sbs i).length from rfl, h2]
  simp
theorem sbs_len : (sbs 0).length = 6 ∧ (sbs 1).length = 5 ∧ (sbs 2).length = 8 ∧ (sbs 3).length = 3 ∧ (sbs 4).length = 1 := ⟨rfl, rfl, rfl, rfl, rfl⟩
theorem sbs_l {i : Nat} (hi : i < 5) : (sbs i).length < 20 ∧ 0 < (sbs i).length := by
  match i, hi with
  | 0, _ => decide
  | 1, _ => decide
  | 2, _ => decide
  | 3, _ => decide
  | 4, _ => decide
theorem sbs_sb : ∀ i, i < 4 → ∀ c, c < 256 → fpos (sbs i) (sb c) (sbs i).length 0 = li i c := by decide +kernel
theorem sbs_m1 : ∀ i, i < 5 → fpos (sbs i) (-nI 1) (sbs i).length 0 = 99 ∧ li i 0 = 99 := by decide +kernel
theorem sbs_ch : ∀ i, i < 5 → ∀ k, k < (sbs i).length → ((((sbs i).getD k 0) &&& (255 : Int32)).toUInt32 % 65536).toInt32 = (sbs i).getD k 0 ∧ (((sbs i).getD k 0).toUInt32 % 65536).toInt32 = (sbs i).getD k 0 := by decide +kernel
theorem chr_eq {c : Nat} (hc : c < 256) : ((nI c).toUInt32 % 65536).toInt32 = nI c := by
  rw [pk_char, pk_tn (by omega), Nat.mod_eq_of_lt (by omega)]
theorem indexOf_eq {i c : Nat} (hi : i < 4) (hc : c < 256) (S : St) : j_String_indexOf_0f7a4 i (((nI c).toUInt32 % 65536).toInt32) S = some (liR (li i c), S) := by
  obtain ⟨h1, h2⟩ := sbs_l (show i < 5 by omega)
  rw [chr_eq hc]
  unfold j_String_indexOf_0f7a4 j_String_indexOf_7cf53 j_String_isLatin1_aae02
  rw [if_neg (by decide), if_pos rfl, nz_1, bI_some]
  simp only []
  rw [if_neg (by decide), strlen_eq h1, bI_some]
  unfold j_StringLatin1_indexOf_4cfef j_StringLatin1_canEncode_9a6ad
  have l : (255 : Int32) = nI 255 := rfl
  simp only [l, lits]
  rw [if_neg (by rw [nI_ltE (by omega) (by omega)]; omega), if_neg (by rw [nI_ltE (by omega) (by omega)]; omega), show nI 1 = (1 : Int32) from rfl, nz_1, bI_some]
  simp only [lits, bnd_eq]
  have e1 : imax (nI 0) (nI 0) = nI 0 := by decide
  have e2 : imin (nI (sbs i).length) (Int32.ofNat (sbs i).length) = nI (sbs i).length := by
    unfold imin
    rw [show Int32.ofNat (sbs i).length = nI (sbs i).length from rfl]
    by_cases h : nI (sbs i).length < nI (sbs i).length
    · rw [if_pos h]
    · rw [if_neg h]
  rw [if_neg (by decide), e1, e2, if_pos (by rw [nI_ltE (by omega) (by omega)]; omega)]
  unfold j_StringLatin1_indexOfChar_4cfef
  simp only [bnd_eq]
  rw [idx_h7 h1 (sbs i).length 0 FU (by omega) (by unfold FU; omega), bI_some, bI_some, bI_some, ← sbs_sb i hi c hc]
  rfl
theorem charAt_eq {i k : Nat} (hi : i < 5) (hk : k < (sbs i).length) (S : St) : j_String_charAt_5068e i (nI k) S = some ((sbs i).getD k 0, S) := by
  obtain ⟨h1, h2⟩ := sbs_l hi
  obtain ⟨c1, c2⟩ := sbs_ch i hi k hk
  unfold j_String_charAt_5068e j_String_isLatin1_aae02
  rw [if_neg (by decide), if_pos rfl, nz_1, bI_some]
  simp only []
  rw [if_neg (by decide)]
  unfold j_StringLatin1_charAt_3b067 j_String_checkIndex_df160 j_pc_checkIndex
  rw [if_neg (by rw [lits.1, nI_ltE (by omega) (by omega)]; omega), if_pos (show nI k < Int32.ofNat (sbs i).length from (nI_ltI (by omega) (by omega)).mpr hk), bI_some, bV_some, ckI (by omega) (by omega), nI_clamp (by omega), c1]
  unfold ncM
  rw [if_pos c2, bI_some]
  simp only []
  rw [if_pos c2]
theorem place_h2 {i : Nat} {x : Int32} {S : St} (hi : i < 5) : ∀ (d k n : Nat), k + d = (sbs i).length → d < n → m_placeOf_h2 i n x (nI k) S = some (liR (fpos (sbs i) x d k), S) := by
  obtain ⟨h1, h2⟩ := sbs_l hi
  intro d
  induction d with
  | zero =>
    intro k n hk hn
    obtain ⟨n, rfl⟩ : ∃ m, n = m + 1 := ⟨n - 1, by omega⟩
    rw [m_placeOf_h2, strlen_eq h1, bI_some]
    simp only []
    rw [if_pos (by rw [nI_leE (by omega) (by omega)]; omega)]
    rfl
  | succ d ih =>
    intro k n hk hn
    obtain ⟨n, rfl⟩ : ∃ m, n = m + 1 := ⟨n - 1, by omega⟩
    rw [m_placeOf_h2, strlen_eq h1, bI_some]
    simp only []
    rw [if_neg (by rw [nI_leE (by omega) (by omega)]; omega), charAt_eq hi (by omega), bI_some]
    unfold fpos
    simp only [lits, bnd_eq, nI_add]
    by_cases h : (sbs i).getD k (nI 0) = x
    · rw [if_pos h, if_pos h]
      unfold liR
      rw [if_pos (by omega)]
    · rw [if_neg h, if_neg h]
      exact ih (k + 1) n (by omega) (by omega)
theorem among_h2 {i : Nat} {x : Int32} {S : St} (hi : i < 5) : ∀ (d k n : Nat), k + d = (sbs i).length → d < n → m_isAmong_h2 i n x (nI k) S = some (if fpos (sbs i) x d k < 99 then nI 1 else nI 0, S) := by
  obtain ⟨h1, h2⟩ := sbs_l hi
  intro d
  induction d with
  | zero =>
    intro k n hk hn
    obtain ⟨n, rfl⟩ : ∃ m, n = m + 1 := ⟨n - 1, by omega⟩
    rw [m_isAmong_h2, strlen_eq h1, bI_some]
    simp only []
    rw [if_pos (by rw [nI_leE (by omega) (by omega)]; omega)]
    rfl
  | succ d ih =>
    intro k n hk hn
    obtain ⟨n, rfl⟩ : ∃ m, n = m + 1 := ⟨n - 1, by omega⟩
    rw [m_isAmong_h2, strlen_eq h1, bI_some]
    simp only []
    rw [if_neg (by rw [nI_leE (by omega) (by omega)]; omega), charAt_eq hi (by omega), bI_some]
    unfold fpos
    simp only [lits, bnd_eq, nI_add]
    by_cases h : (sbs i).getD k (nI 0) = x
    · rw [if_pos h, if_pos h, if_pos (by omega)]
      rfl
    · rw [if_neg h, if_neg h]
      exact ih (k + 1) n (by omega) (by omega)
theorem fposM {b : Nat → Nat} {L a i : Nat} (hi : i < 5) : fpos (sbs i) (cuM b L a) (sbs i).length 0 = li i (cu b L a) := by
  unfold cuM cu
  by_cases h : a < L
  · rw [if_pos h, if_pos h]; rfl
  · rw [if_neg h, if_neg h, (sbs_m1 i hi).1, (sbs_m1 i hi).2]
theorem placeOf_eq {b : Nat → Nat} {L a i : Nat} (hi : i < 5) (S : St) : m_placeOf i (cuM b L a) S = some (liR (li i (cu b L a)), S) := by
  unfold m_placeOf
  rw [← fposM (b := b) (L := L) (a := a) hi]
  exact place_h2 hi _ 0 FU (by omega) (by have := (sbs_l hi).1; unfold FU; omega)
theorem among_eq {b : Nat → Nat} {L a i : Nat} (hi : i < 5) (S : St) : m_isAmong i (cuM b L a) S = some (if li i (cu b L a) < 99 then nI 1 else nI 0, S) := by
  unfold m_isAmong
  rw [← fposM (b := b) (L := L) (a := a) hi]
  exact among_h2 hi _ 0 FU (by omega) (by have := (sbs_l hi).1; unfold FU; omega)
/-! BITS -/
theorem sh31 : ∀ k, k < 32 → ((nI k &&& 31).toBitVec.smod 32).toNat = k := by decide +kernel
theorem one_sh : ∀ k, k < 32 → ∀ j, j < 32 → (nI 1 <<< (nI k &&& 31)).toBitVec.getLsbD j = decide (j = k) := by decide +kernel
theorem hasB_bit {m : Int32} {k : Nat} (hk : k < 32) : hasB m k ↔ m.toBitVec.getLsbD k = true := by
  unfold hasB
  rw [← Int32.toBitVec_inj, Int32.toBitVec_and, Int32.toBitVec_shiftRight]
  have e1 : (nI 1).toBitVec = 1#32 := by decide
  rw [e1]
  have e2 := sh31 k hk
  show (m.toBitVec.sshiftRight ((nI k &&& 31).toBitVec.smod 32).toNat &&& 1#32 = 1#32) ↔ _
  rw [e2]
  have e3 : (m.toBitVec.sshiftRight k).getLsbD 0 = m.toBitVec.getLsbD k := by
    rw [BitVec.getLsbD_sshiftRight]
    simp
    omega
  rw [← e3]
  constructor
  · intro h
    have := congrArg (fun v => BitVec.getLsbD v 0) h
    simpa using this
  · intro h
    apply BitVec.eq_of_getLsbD_eq
    intro i hi
    rw [BitVec.getLsbD_and]
    by_cases h0 : i = 0
    · subst h0; rw [h]; rfl
    · have e4 : (1#32).getLsbD i = false := by
        rw [BitVec.getLsbD_one]
        simp
        omega
      rw [e4]; simp
theorem hasB_or {m : Int32} {k j : Nat} (hk : k < 32) (hj : j < 32) : hasB (m ||| (nI 1 <<< (nI k &&& 31))) j ↔ hasB m j ∨ j = k := by
  rw [hasB_bit hj, hasB_bit hj, Int32.toBitVec_or, BitVec.getLsbD_or, one_sh k hk j hj]
  simp
theorem hasB_0 {j : Nat} (hj : j < 32) : ¬ hasB (nI 0) j := by
  rw [hasB_bit hj]
  have : (nI 0).toBitVec = 0#32 := by decide
  rw [this]
  simp
