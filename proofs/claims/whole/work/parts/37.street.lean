/-! A STREET IS READ on both sides -/
def lsN (i k : Nat) : Nat := if i = 3 ∧ k = 0 then 1 else 0
def msN (i k : Nat) : Nat := if i = 1 then 99 else if i = 2 then (if k < 6 then 99 else if k = 6 then 4 else 5) else (if k = 0 then 30 else if k = 1 then 1 else 20)
theorem msN_le : ∀ i k, msN i k ≤ 99 := by
  intro i k
  unfold msN
  repeat' split
  all_goals omega
theorem lsN_le : ∀ i k, lsN i k ≤ 1 := by
  intro i k
  unfold lsN
  split <;> omega
def kindN (i : Nat) : Nat := if i = 1 then 112 else if i = 2 then 104 else 108
def lenN (i : Nat) : Nat := if i = 1 then 5 else if i = 2 then 8 else 3
theorem li_lt : ∀ i, i = 1 ∨ i = 2 ∨ i = 3 → ∀ c, c < 256 → li i c < 99 → li i c < lenN i ∧ c ≠ 0 := by
  intro i hi
  rcases hi with h | h | h <;> subst h <;> decide +kernel
def cntB (m : Int32) : Nat → Nat
  | 0 => 0
  | k + 1 => cntB m k + (if hasB m k then 1 else 0)
theorem cntB_le (m : Int32) : ∀ k, cntB m k ≤ k
  | 0 => Nat.le_refl 0
  | k + 1 => by
    have := cntB_le m k
    unfold cntB
    split <;> omega
theorem cntB_lt {m : Int32} {j : Nat} (hj : ¬ hasB m j) : ∀ k, j < k → cntB m k < k
  | 0, h => by omega
  | k + 1, h => by
    unfold cntB
    by_cases e : j = k
    · subst e
      rw [if_neg hj]
      have := cntB_le m j
      omega
    · have := cntB_lt hj k (by omega)
      split <;> omega
theorem cntB_or {m : Int32} {j : Nat} (hj32 : j < 32) (hj : ¬ hasB m j) : ∀ k, k ≤ 32 → cntB (m ||| (nI 1 <<< (nI j &&& 31))) k = cntB m k + (if j < k then 1 else 0)
  | 0, _ => rfl
  | k + 1, hk => by
    have ih := cntB_or hj32 hj k (by omega)
    unfold cntB
    rw [ih]
    by_cases e : j = k
    · subst e
      rw [if_pos ((hasB_or hj32 hj32).mpr (Or.inr rfl)), if_neg hj, if_neg (by omega), if_pos (by omega)]
    · have h1 : hasB (m ||| (nI 1 <<< (nI j &&& 31))) k ↔ hasB m k := by
        rw [hasB_or hj32 (by omega)]
        exact ⟨fun h => h.elim id (fun q => absurd q.symm e), Or.inl⟩
      by_cases h2 : hasB m k
      · rw [if_pos (h1.mpr h2), if_pos h2]
        by_cases h3 : j < k
        · rw [if_pos h3, if_pos (by omega)]
        · rw [if_neg h3, if_neg (by omega)]
      · rw [if_neg (fun q => h2 (h1.mp q)), if_neg h2]
        by_cases h3 : j < k
        · rw [if_pos h3, if_pos (by omega)]
        · rw [if_neg h3, if_neg (by omega)]
theorem cntB_0 : ∀ k, k ≤ 32 → cntB (nI 0) k = 0
  | 0, _ => rfl
  | k + 1, hk => by
    unfold cntB
    rw [cntB_0 k (by omega), if_neg (hasB_0 (by omega))]
theorem isInM {v l h : Nat} (hv : v < 2 ^ 31) (hl : l < 2 ^ 31) (hh : h < 2 ^ 31) (S : St) : m_isIn (nI v).toInt64 (nI l).toInt64 (nI h).toInt64 S = some (if l ≤ v ∧ v ≤ h then nI 1 else nI 0, S) := by
  unfold m_isIn
  rw [nI_l hv, nI_l hl, nI_l hh]
  simp only [lg_cmp_lt, lg_cmp_gt, lN_lt hv hl, lN_lt hh hv]
  by_cases h1 : v < l
  · rw [if_pos h1, if_neg (by omega)]; rfl
  · rw [if_neg h1]
    by_cases h2 : h < v
    · rw [if_pos h2, if_neg (by omega)]; rfl
    · rw [if_neg h2, if_pos (by omega)]; rfl
theorem withinC {v l h : Nat} (hv : v < 2 ^ 31) (hl : l < 2 ^ 31) (hh : h < 2 ^ 31) (S : St) : c_N_isWithin (nI v) (nI l) (nI h) S = some (if l ≤ v ∧ v ≤ h then nI 1 else nI 0, S) := by
  unfold c_N_isWithin
  simp only [nI_ltE hv hl, nI_ltE hh hv]
  by_cases h1 : v < l
  · rw [if_pos h1, if_neg (by omega)]; rfl
  · rw [if_neg h1]
    by_cases h2 : h < v
    · rw [if_pos h2, if_neg (by omega)]; rfl
    · rw [if_neg h2, if_pos (by omega)]; rfl
section STREET
variable {b : Nat → Nat} {L : Nat}
/-- the class's number of two digits -/
theorem num3 (t : Txt b L) {S : St} {a : Nat} (pt : PT b L S) (ha : a ≤ L) (hS : S 3 1 = nI a) :
    (¬ isD b L a ∧ c_Reader_number_3 (nI 2) S = some (-nI 1, S)) ∨ (isD b L a ∧ ¬ isD b L (a + 1) ∧ c_Reader_number_3 (nI 2) S = some (nI (b a - 48), up2 S 3 1 (nI (a + 1)))) ∨ (isD b L a ∧ isD b L (a + 1) ∧ ¬ isD b L (a + 2) ∧ c_Reader_number_3 (nI 2) S = some (nI ((b a - 48) * 10 + b (a + 1) - 48), up2 S 3 1 (nI (a + 2)))) ∨ (isD b L a ∧ isD b L (a + 1) ∧ isD b L (a + 2) ∧ c_Reader_number_3 (nI 2) S = some (-nI 1, up2 S 3 1 (nI (a + 2)))) := by
  have hL := t.1
  have l48 : (48 : Int32) = nI 48 := rfl
  unfold c_Reader_number_3
  by_cases h0 : isD b L a
  · right
    have hb0 := t.2 a h0.1
    have h00 := h0
    obtain ⟨d1, d2, d3⟩ := h0
    rw [dig3_1 t pt hS h00, bI_some]
    simp only [lits]
    rw [if_neg m10, show FU = 997 + 1 + 1 + 1 from rfl, c_Reader_number_3_h13, if_neg (show ¬ nI 2 ≤ nI 0 by decide), dig3_1 t pt hS h00, bI_some]
    simp only [lits, l48, bnd_eq]
    rw [if_neg m10, hS, ckI (by omega) (by omega), nI_clamp (by omega), pt.2 a d1, pk_mul, nI_add, pk_sub (by omega), nI_add, nI_add, show 0 * 10 + b a - 48 = b a - 48 by omega]
    have pt1 : PT b L (up2 S 3 1 (nI (a + 1))) := pt.fr (fun q j hq => up2_o (by omega))
    have hS1 : (up2 S 3 1 (nI (a + 1))) 3 1 = nI (a + 1) := up2_hit rfl rfl
    rw [c_Reader_number_3_h13, if_neg (show ¬ nI 2 ≤ nI (0 + 1) by decide)]
    by_cases h1 : isD b L (a + 1)
    · right
      have hb1 := t.2 _ h1.1
      have h11 := h1
      obtain ⟨k1, k2, k3⟩ := h1
      rw [dig3_1 t pt1 hS1 h11, bI_some]
      simp only [lits, l48, bnd_eq]
      rw [if_neg m10, hS1, ckI (by omega) (by omega), nI_clamp (by omega), pt1.2 _ k1, pk_mul, nI_add, pk_sub (by omega), nI_add, nI_add, up2_up2]
      have pt2 : PT b L (up2 S 3 1 (nI (a + 1 + 1))) := pt.fr (fun q j hq => up2_o (by omega))
      have hS2 : (up2 S 3 1 (nI (a + 1 + 1))) 3 1 = nI (a + 2) := up2_hit rfl rfl
      rw [c_Reader_number_3_h13, if_pos (show nI 2 ≤ nI (0 + 1 + 1) by decide)]
      unfold c_Reader_number_3_b62
      by_cases h2 : isD b L (a + 2)
      · right
        rw [dig3_1 t pt2 hS2 h2, bI_some]
        simp only [lits]
        rw [if_neg m10]
        exact ⟨h00, h11, h2, rfl⟩
      · left
        rw [dig3_0 t pt2 (by omega) hS2 h2, bI_some]
        simp only [lits]
        rw [if_pos trivial]
        exact ⟨h00, h11, h2, rfl⟩
    · left
      unfold c_Reader_number_3_b62
      rw [dig3_0 t pt1 (by omega) hS1 h1, bI_some]
      simp only [lits]
      rw [if_pos trivial, dig3_0 t pt1 (by omega) hS1 h1, bI_some]
      simp only []
      rw [if_pos trivial]
      exact ⟨h00, h1, rfl⟩
  · left
    rw [dig3_0 t pt ha hS h0, bI_some]
    simp only [lits]
    rw [if_pos trivial]
    exact ⟨h0, rfl⟩
/-- the reference's item behind its number -/
theorem b78_ok (t : Txt b L) {T : St} {a q ix l h v : Nat} (pm : PMt b L 0 0 T) (ha : a ≤ L) (ha1 : 1 ≤ a) (hT : T 0 10 = nI a) (hf : T 0 11 = -nI 1) (hd : ¬ isD b L a) (hix : ix < alen tpM q) (hal : alen tpM q < 2 ^ 31) (hl : l ≤ 1) (hh : h ≤ 99) (hv : v ≤ 99) :
    m_readItem_b78 q (nI ix) (nI l) (nI h) (nI v) T = some (if l ≤ v ∧ v ≤ h then up2 T q ix (nI v) else up2 (up2 T 0 10 (nI (a - 1))) 0 11 (nI (a - 1))) := by
  have hL := t.1
  unfold m_readItem_b78
  rw [digM_0 t pm ha hT hd, bI_some]
  simp only [lits]
  rw [if_pos trivial, isInM (by omega) (by omega) (by omega), bI_some]
  simp only [bnd_eq]
  by_cases hi : l ≤ v ∧ v ≤ h
  · rw [if_pos hi, if_neg m10, ckI hix hal, nI_clamp (by omega), if_pos hi]
  · rw [if_neg hi, if_pos rfl, if_neg hi, hT, pk_sub ha1, fails_1 ((up2_k (by omega)).trans hf) (up2_hit rfl rfl), bI_some]
theorem b78_f (t : Txt b L) {T : St} {a q : Nat} {x y z v : Int32} (pm : PMt b L 0 0 T) (hT : T 0 10 = nI a) (hf : T 0 11 = -nI 1) (hd : isD b L a) : m_readItem_b78 q x y z v T = some (up2 T 0 11 (nI a)) := by
  unfold m_readItem_b78
  rw [digM_1 t pm hT hd, bI_some]
  simp only [lits]
  rw [if_neg m10, fails_1 hf hT, bI_some]
theorem PMt.at {T : St} {x : Int32} {ob bs : Nat} (h : PMt b L ob bs T) : PMt b L ob bs (up2 T 0 10 x) := h.fr (fun q j hq => up2_n (by omega))
theorem here_eq (t : Txt b L) {T : St} {a : Nat} (pm : PMt b L 0 0 T) (hT : T 0 10 = nI a) (ha : a < L) : m_here T = some (nI (b a), T) := by
  have hL := t.1
  obtain ⟨a1, a2, a3, a4⟩ := pm.al ha
  have hb := t.2 a ha
  have l : (255 : Int32) = nI 255 := rfl
  unfold m_here
  rw [pm.2.2.1, hT, if_neg (show ¬ nI L ≤ nI a from nI_ge ha (by omega)), pm.1, pm.2.1, ckI (by omega) (by omega), nI_add, nI_clamp (by omega), ckI a1 a2, nI_clamp a4, pm.2.2.2.1 a ha, l, sb_and _ (by omega)]
/-- the reference's readItem, in four cases -/
theorem item_M (t : Txt b L) {T : St} {a a2 q ix l h : Nat} (pm : PMt b L 0 0 T) (ha : a < L) (hT : T 0 10 = nI a) (hf : T 0 11 = -nI 1) (h2 : sk b L (a + 1) = a2) (hix : ix < alen tpM q) (hal : alen tpM q < 2 ^ 31) (hl : l ≤ 1) (hh : h ≤ 99) :
    (¬ isD b L a2 → m_readItem q (nI ix) (nI l) (nI h) T = some (up2 (up2 T 0 10 (nI a2)) 0 11 (nI a2))) ∧
    (isD b L a2 → ¬ isD b L (a2 + 1) → m_readItem q (nI ix) (nI l) (nI h) T = some (if l ≤ b a2 - 48 ∧ b a2 - 48 ≤ h then up2 (up2 T 0 10 (nI (a2 + 1))) q ix (nI (b a2 - 48)) else up2 (up2 T 0 10 (nI a2)) 0 11 (nI a2))) ∧
    (isD b L a2 → isD b L (a2 + 1) → ¬ isD b L (a2 + 2) → m_readItem q (nI ix) (nI l) (nI h) T = some (if l ≤ (b a2 - 48) * 10 + b (a2 + 1) - 48 ∧ (b a2 - 48) * 10 + b (a2 + 1) - 48 ≤ h then up2 (up2 T 0 10 (nI (a2 + 2))) q ix (nI ((b a2 - 48) * 10 + b (a2 + 1) - 48)) else up2 (up2 T 0 10 (nI (a2 + 1))) 0 11 (nI (a2 + 1)))) ∧
    (isD b L a2 → isD b L (a2 + 1) → isD b L (a2 + 2) → m_readItem q (nI ix) (nI l) (nI h) T = some (up2 (up2 T 0 10 (nI (a2 + 2))) 0 11 (nI (a2 + 2)))) := by
  have hL := t.1
  have hle : a2 ≤ L := h2 ▸ sk_le b (show a + 1 ≤ L by omega)
  have l48 : (48 : Int32) = nI 48 := rfl
  have hf1 : ∀ x, (up2 T 0 10 (nI x)) 0 11 = -nI 1 := fun x => (up2_k (by omega)).trans hf
  have st : m_readItem q (nI ix) (nI l) (nI h) T = bI (m_isDigit (up2 T 0 10 (nI a2))) (fun x5 S4 => (if x5 = nI 0 then (bI (m_fails S4) (fun x15 S14 => (some S14))) else (bnd (cuM b L a2 - nI 48) (fun x6 => (bnd (up2 S4 0 10 ((S4 0 10) + nI 1)) (fun S7 => (bI (m_isDigit S7) (fun x9 S8 => (if x9 = nI 0 then (m_readItem_b78 q (nI ix) (nI l) (nI h) x6 S8) else (bI (m_here S8) (fun x11 S10 => (bnd (((nI 10 * x6) + x11) - nI 48) (fun x12 => (bnd (up2 S10 0 10 ((S10 0 10) + nI 1)) (fun S13 => (m_readItem_b78 q (nI ix) (nI l) (nI h) x12 S13)))))))))))))))) := by
    unfold m_readItem
    simp only [lits, l48]
    rw [bnd_eq, hT, nI_add, look_eq t pm.at (by omega) (up2_hit rfl rfl), bI_some, h2, up2_up2]
  have two : isD b L a2 → m_readItem q (nI ix) (nI l) (nI h) T = bI (m_isDigit (up2 T 0 10 (nI (a2 + 1)))) (fun x9 S8 => (if x9 = nI 0 then (m_readItem_b78 q (nI ix) (nI l) (nI h) (nI (b a2 - 48)) S8) else (bI (m_here S8) (fun x11 S10 => (bnd (((nI 10 * nI (b a2 - 48)) + x11) - nI 48) (fun x12 => (bnd (up2 S10 0 10 ((S10 0 10) + nI 1)) (fun S13 => (m_readItem_b78 q (nI ix) (nI l) (nI h) x12 S13)))))))))  := by
    intro h0
    have hcm : cuM b L a2 = nI (b a2) := if_pos h0.1
    rw [st, digM_1 t pm.at (up2_hit rfl rfl) h0, bI_some]
    simp only [bnd_eq]
    rw [if_neg m10, hcm, pk_sub h0.2.1, up2_hit rfl rfl, nI_add, up2_up2]
  have three : isD b L a2 → isD b L (a2 + 1) → m_readItem q (nI ix) (nI l) (nI h) T = m_readItem_b78 q (nI ix) (nI l) (nI h) (nI ((b a2 - 48) * 10 + b (a2 + 1) - 48)) (up2 T 0 10 (nI (a2 + 2))) := by
    intro h0 h1
    rw [two h0, digM_1 t pm.at (up2_hit rfl rfl) h1, bI_some]
    simp only [bnd_eq]
    rw [if_neg m10, here_eq t pm.at (up2_hit rfl rfl) h1.1, bI_some]
    simp only []
    rw [pk_mul, nI_add, pk_sub (by have := h1.2.1; omega), up2_hit rfl rfl, nI_add, up2_up2, Nat.mul_comm]
  refine ⟨fun h0 => ?_, fun h0 h1 => ?_, fun h0 h1 hh2 => ?_, fun h0 h1 hh2 => ?_⟩
  · rw [st, digM_0 t pm.at hle (up2_hit rfl rfl) h0, bI_some]
    simp only []
    rw [if_pos trivial, fails_1 (hf1 _) (up2_hit rfl rfl), bI_some]
  · have g0 := h0.1
    have g1 := h0.2
    rw [two h0, digM_0 t pm.at (by omega) (up2_hit rfl rfl) h1, bI_some]
    simp only []
    rw [if_pos trivial, b78_ok t pm.at (by omega) (by omega) (up2_hit rfl rfl) (hf1 _) h1 hix hal hl hh (by omega), up2_up2, show a2 + 1 - 1 = a2 by omega]
  · have g0 := h0.2
    have g1 := h1.1
    have g2 := h1.2
    rw [three h0 h1, b78_ok t pm.at (by omega) (by omega) (up2_hit rfl rfl) (hf1 _) hh2 hix hal hl hh (by omega), up2_up2, show a2 + 2 - 1 = a2 + 1 by omega]
  · rw [three h0 h1, b78_f t pm.at (up2_hit rfl rfl) (hf1 _) hh2]
/-- what both have of a row of items -/
def Rw (i o q row : Nat) (S T : St) : Prop := ∀ k, k < lenN i → ∃ v, S o k = nI v ∧ T q (row + k) = nI v ∧ lsN i k ≤ v ∧ v ≤ msN i k
end STREET
