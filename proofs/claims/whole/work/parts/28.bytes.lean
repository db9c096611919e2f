/-! BYTES: what both sides read of a text -/
theorem up2_self {S : St} {o k : Nat} {v : Int32} (h : S o k = v) : up2 S o k v = S := by
  funext q j
  by_cases e : q = o ∧ j = k
  · rw [up2_hit e.1 e.2, e.1, e.2]; exact h.symm
  · exact up2_n e
theorem up2_up2 {S : St} {o k : Nat} {v w : Int32} : up2 (up2 S o k v) o k w = up2 S o k w := by
  funext q j
  by_cases e : q = o ∧ j = k
  · rw [up2_hit e.1 e.2, up2_hit e.1 e.2]
  · rw [up2_n e, up2_n e, up2_n e]
def sb (b : Nat) : Int32 := (nI b).toInt8.toInt32
theorem sb_and : ∀ b, b < 256 → sb b &&& nI 255 = nI b := by decide +kernel
theorem sb_32 : ∀ b, b < 256 → (sb b = nI 32 ↔ b = 32) := by decide +kernel
theorem sb_lo : ∀ b, b < 256 → (sb b < nI 48 ↔ (b < 48 ∨ 128 ≤ b)) := by decide +kernel
theorem sb_hi : ∀ b, b < 256 → (nI 57 < sb b ↔ (57 < b ∧ b < 128)) := by decide +kernel
theorem sb_dig : ∀ b, b < 256 → 48 ≤ b → b ≤ 57 → sb b = nI b := by decide +kernel
def skF (b : Nat → Nat) (L : Nat) : Nat → Nat → Nat
  | 0, a => a
  | d + 1, a => if a < L ∧ b a = 32 then skF b L d (a + 1) else a
/-- the next place that is no blank -/
def sk (b : Nat → Nat) (L a : Nat) : Nat := skF b L (L - a) a
theorem skF_ge (b : Nat → Nat) (L : Nat) : ∀ d a, a ≤ skF b L d a
  | 0, a => Nat.le_refl a
  | d + 1, a => by
    unfold skF
    by_cases h : a < L ∧ b a = 32
    · rw [if_pos h]; exact Nat.le_trans (Nat.le_succ a) (skF_ge b L d (a + 1))
    · rw [if_neg h]; exact Nat.le_refl a
theorem skF_le (b : Nat → Nat) (L : Nat) : ∀ d a, a ≤ L → skF b L d a ≤ L
  | 0, a, h => h
  | d + 1, a, h => by
    unfold skF
    by_cases h2 : a < L ∧ b a = 32
    · rw [if_pos h2]; exact skF_le b L d (a + 1) h2.1
    · rw [if_neg h2]; exact h
theorem skF_end (b : Nat → Nat) (L : Nat) : ∀ d a, L ≤ a + d → ¬ (skF b L d a < L ∧ b (skF b L d a) = 32)
  | 0, a, h => by unfold skF; omega
  | d + 1, a, h => by
    unfold skF
    by_cases h2 : a < L ∧ b a = 32
    · rw [if_pos h2]; exact skF_end b L d (a + 1) (by omega)
    · rw [if_neg h2]; exact h2
theorem sk_ge (b : Nat → Nat) (L a : Nat) : a ≤ sk b L a := skF_ge b L _ a
theorem sk_le (b : Nat → Nat) {L a : Nat} (h : a ≤ L) : sk b L a ≤ L := skF_le b L _ a h
theorem sk_end (b : Nat → Nat) (L a : Nat) : ¬ (sk b L a < L ∧ b (sk b L a) = 32) := skF_end b L _ a (by omega)
theorem sk_step {b : Nat → Nat} {L a : Nat} (h : a < L) (h2 : b a = 32) : sk b L a = sk b L (a + 1) := by
  unfold sk
  rw [show L - a = (L - (a + 1)) + 1 by omega]
  show (if a < L ∧ b a = 32 then _ else _) = _
  rw [if_pos ⟨h, h2⟩]
theorem sk_stay {b : Nat → Nat} {L a : Nat} (h : ¬ (a < L ∧ b a = 32)) : sk b L a = a := by
  unfold sk
  cases hd : L - a with
  | zero => rfl
  | succ d => show (if a < L ∧ b a = 32 then _ else _) = _; rw [if_neg h]
theorem sk_sk (b : Nat → Nat) (L a : Nat) : sk b L (sk b L a) = sk b L a := sk_stay (sk_end b L a)
/-- the byte there; 0: the end -/
def cu (b : Nat → Nat) (L a : Nat) : Nat := if a < L then b a else 0
def cuM (b : Nat → Nat) (L a : Nat) : Int32 := if a < L then nI (b a) else -nI 1
def Txt (b : Nat → Nat) (L : Nat) : Prop := L ≤ 160 ∧ ∀ k, k < L → 1 ≤ b k ∧ b k ≤ 255
theorem cu_lt {b : Nat → Nat} {L : Nat} (h : Txt b L) (a : Nat) : cu b L a < 256 := by
  unfold cu
  by_cases e : a < L
  · rw [if_pos e]; have := h.2 a e; omega
  · rw [if_neg e]; omega
theorem cuM_eq {b : Nat → Nat} {L : Nat} (h : Txt b L) (a : Nat) {c : Nat} (hc : 1 ≤ c) (hc2 : c < 256) : (cuM b L a = nI c) = (cu b L a = c) := by
  unfold cuM cu
  by_cases e : a < L
  · have := h.2 a e
    rw [if_pos e, if_pos e, nI_eqE (by omega) (by omega)]
  · rw [if_neg e, if_neg e]
    have e1 : (0 = c) = False := eq_false (by omega)
    rw [e1]
    apply eq_false
    intro e2
    have := nI_nneg (a := c) (by omega)
    rw [← e2] at this
    exact (this ▸ rfl : False)
theorem cu_0 {b : Nat → Nat} {L : Nat} (h : Txt b L) (a : Nat) : (cu b L a = 0) = (L ≤ a) := by
  unfold cu
  by_cases e : a < L
  · have := h.2 a e
    rw [if_pos e]; exact propext ⟨fun q => by omega, fun q => by omega⟩
  · rw [if_neg e]; exact propext ⟨fun q => by omega, fun q => rfl⟩
theorem cuM_m1 {b : Nat → Nat} {L : Nat} (h : Txt b L) (a : Nat) : (cuM b L a = -nI 1) = (L ≤ a) := by
  unfold cuM
  by_cases e : a < L
  · have := h.2 a e
    rw [if_pos e, nI_nneg (by omega)]; exact (eq_false (by omega)).symm
  · rw [if_neg e]; exact (eq_true rfl).trans (eq_true (by omega)).symm
def isD (b : Nat → Nat) (L a : Nat) : Prop := a < L ∧ 48 ≤ b a ∧ b a ≤ 57
/-- the class's tape -/
def PT (b : Nat → Nat) (L : Nat) (S : St) : Prop := S 1 1 = nI L ∧ ∀ k, k < L → S 2 k = nI (b k)
theorem PT.fr {b : Nat → Nat} {L : Nat} {S S' : St} (h : PT b L S) (hf : ∀ q j, q = 1 ∨ q = 2 → S' q j = S q j) : PT b L S' := ⟨(hf _ _ (Or.inl rfl)).trans h.1, fun k hk => (hf _ _ (Or.inr rfl)).trans (h.2 k hk)⟩
theorem next13_b44 {b : Nat → Nat} {L a : Nat} {S : St} (t : Txt b L) (pt : PT b L S) (ha : a ≤ L) (hS : S 13 1 = nI a) : c_Reader_next_13_b44 S = some (nI (cu b L a), S) := by
  have := t.1
  unfold c_Reader_next_13_b44 cu
  rw [pt.1, hS]
  simp (disch := omega) only [nI_leE, nI_clamp]
  by_cases h : a < L
  · rw [if_neg (by omega), if_pos h, ckI (by omega) (by omega), pt.2 a h]
  · rw [if_pos (by omega), if_neg h]; rfl
theorem next13_h0 {b : Nat → Nat} {L : Nat} (t : Txt b L) : ∀ (n a : Nat) (S : St), PT b L S → a ≤ L → L < n + a → S 13 1 = nI a → c_Reader_next_13_h0 n S = some (nI (cu b L (sk b L a)), up2 S 13 1 (nI (sk b L a))) := by
  have hL := t.1
  intro n
  induction n with
  | zero => intro a S _ h1 h2; omega
  | succ n ih =>
    intro a S pt ha hn hS
    rw [c_Reader_next_13_h0, pt.1, hS]
    simp (disch := omega) only [nI_leE, nI_clamp, lits, nI_add]
    have l32 : (32 : Int32) = nI 32 := rfl
    by_cases h : a < L
    · have hb := t.2 a h
      rw [if_neg (by omega), ckI (by omega) (by omega), pt.2 a h, l32]
      simp (disch := omega) only [nI_eqE, bnd_eq]
      by_cases h3 : b a = 32
      · rw [if_pos h3, ih (a + 1) _ (pt.fr (fun q j hq => by rw [up2_o (by omega)])) (by omega) (by omega) (up2_hit rfl rfl), up2_up2, ← sk_step h h3]
      · rw [if_neg h3, next13_b44 t pt ha hS, sk_stay (fun q => h3 q.2), up2_self hS]
    · rw [if_pos (by omega), next13_b44 t pt ha hS, sk_stay (fun q => h q.1), up2_self hS]
theorem next13_eq {b : Nat → Nat} {L a : Nat} {S : St} (t : Txt b L) (pt : PT b L S) (ha : a ≤ L) (hS : S 13 1 = nI a) : c_Reader_next_13 S = some (nI (cu b L (sk b L a)), up2 S 13 1 (nI (sk b L a))) := next13_h0 t FU a S pt ha (by have := t.1; unfold FU; omega) hS
theorem takes13_1 {b : Nat → Nat} {L a c : Nat} {S : St} (t : Txt b L) (pt : PT b L S) (ha : a ≤ L) (hS : S 13 1 = nI a) (hc : cu b L (sk b L a) = c) : c_Reader_takes_13 (nI c) S = some (nI 1, up2 S 13 1 (nI (sk b L a + 1))) := by
  unfold c_Reader_takes_13
  rw [next13_eq t pt ha hS, bI_some]
  simp only [lits, bnd_eq]
  rw [if_pos (by rw [hc]), up2_hit rfl rfl, nI_add, up2_up2]
  rfl
theorem takes13_0 {b : Nat → Nat} {L a c : Nat} {S : St} (t : Txt b L) (pt : PT b L S) (ha : a ≤ L) (hS : S 13 1 = nI a) (hc2 : c < 256) (hc : cu b L (sk b L a) ≠ c) : c_Reader_takes_13 (nI c) S = some (nI 0, up2 S 13 1 (nI (sk b L a))) := by
  have := cu_lt t (sk b L a)
  unfold c_Reader_takes_13
  rw [next13_eq t pt ha hS, bI_some]
  simp only [lits, bnd_eq]
  rw [if_neg (by rw [nI_eqE (by omega) (by omega)]; exact hc)]
  rfl
theorem dig13_1 {b : Nat → Nat} {L a : Nat} {S : St} (t : Txt b L) (pt : PT b L S) (hS : S 13 1 = nI a) (hd : isD b L a) : c_Reader_isAtDigit_13 S = some (nI 1, S) := by
  have := t.1
  have hb := t.2 a hd.1
  obtain ⟨d1, d2, d3⟩ := hd
  have l1 : (48 : Int32) = nI 48 := rfl
  have l2 : (57 : Int32) = nI 57 := rfl
  unfold c_Reader_isAtDigit_13
  rw [pt.1, hS]
  simp (disch := omega) only [nI_leE, nI_clamp, ckI, l1, l2]
  rw [pt.2 a d1]
  simp (disch := omega) only [nI_ltE]
  rw [if_neg (by omega), if_neg (by omega), if_neg (by omega)]
  rfl
theorem dig13_0 {b : Nat → Nat} {L a : Nat} {S : St} (t : Txt b L) (pt : PT b L S) (ha : a ≤ L) (hS : S 13 1 = nI a) (hd : ¬ isD b L a) : c_Reader_isAtDigit_13 S = some (nI 0, S) := by
  have := t.1
  have l1 : (48 : Int32) = nI 48 := rfl
  have l2 : (57 : Int32) = nI 57 := rfl
  unfold c_Reader_isAtDigit_13
  rw [pt.1, hS]
  by_cases h : a < L
  · have hb := t.2 a h
    simp (disch := omega) only [nI_leE, nI_clamp, ckI, l1, l2]
    rw [pt.2 a h]
    simp (disch := omega) only [nI_ltE]
    rw [if_neg (by omega)]
    by_cases h1 : b a < 48
    · rw [if_pos h1]; rfl
    · rw [if_neg h1, if_pos (by unfold isD at hd; omega)]; rfl
  · simp (disch := omega) only [nI_leE]
    rw [if_pos (by omega)]; rfl
theorem next3_b44 {b : Nat → Nat} {L a : Nat} {S : St} (t : Txt b L) (pt : PT b L S) (ha : a ≤ L) (hS : S 3 1 = nI a) : c_Reader_next_3_b44 S = some (nI (cu b L a), S) := by
  have := t.1
  unfold c_Reader_next_3_b44 cu
  rw [pt.1, hS]
  simp (disch := omega) only [nI_leE, nI_clamp]
  by_cases h : a < L
  · rw [if_neg (by omega), if_pos h, ckI (by omega) (by omega), pt.2 a h]
  · rw [if_pos (by omega), if_neg h]; rfl
theorem next3_h0 {b : Nat → Nat} {L : Nat} (t : Txt b L) : ∀ (n a : Nat) (S : St), PT b L S → a ≤ L → L < n + a → S 3 1 = nI a → c_Reader_next_3_h0 n S = some (nI (cu b L (sk b L a)), up2 S 3 1 (nI (sk b L a))) := by
  have hL := t.1
  intro n
  induction n with
  | zero => intro a S _ h1 h2; omega
  | succ n ih =>
    intro a S pt ha hn hS
    rw [c_Reader_next_3_h0, pt.1, hS]
    simp (disch := omega) only [nI_leE, nI_clamp, lits, nI_add]
    have l32 : (32 : Int32) = nI 32 := rfl
    by_cases h : a < L
    · have hb := t.2 a h
      rw [if_neg (by omega), ckI (by omega) (by omega), pt.2 a h, l32]
      simp (disch := omega) only [nI_eqE, bnd_eq]
      by_cases h3 : b a = 32
      · rw [if_pos h3, ih (a + 1) _ (pt.fr (fun q j hq => by rw [up2_o (by omega)])) (by omega) (by omega) (up2_hit rfl rfl), up2_up2, ← sk_step h h3]
      · rw [if_neg h3, next3_b44 t pt ha hS, sk_stay (fun q => h3 q.2), up2_self hS]
    · rw [if_pos (by omega), next3_b44 t pt ha hS, sk_stay (fun q => h q.1), up2_self hS]
theorem next3_eq {b : Nat → Nat} {L a : Nat} {S : St} (t : Txt b L) (pt : PT b L S) (ha : a ≤ L) (hS : S 3 1 = nI a) : c_Reader_next_3 S = some (nI (cu b L (sk b L a)), up2 S 3 1 (nI (sk b L a))) := next3_h0 t FU a S pt ha (by have := t.1; unfold FU; omega) hS
theorem takes3_1 {b : Nat → Nat} {L a c : Nat} {S : St} (t : Txt b L) (pt : PT b L S) (ha : a ≤ L) (hS : S 3 1 = nI a) (hc : cu b L (sk b L a) = c) : c_Reader_takes_3 (nI c) S = some (nI 1, up2 S 3 1 (nI (sk b L a + 1))) := by
  unfold c_Reader_takes_3
  rw [next3_eq t pt ha hS, bI_some]
  simp only [lits, bnd_eq]
  rw [if_pos (by rw [hc]), up2_hit rfl rfl, nI_add, up2_up2]
  rfl
theorem takes3_0 {b : Nat → Nat} {L a c : Nat} {S : St} (t : Txt b L) (pt : PT b L S) (ha : a ≤ L) (hS : S 3 1 = nI a) (hc2 : c < 256) (hc : cu b L (sk b L a) ≠ c) : c_Reader_takes_3 (nI c) S = some (nI 0, up2 S 3 1 (nI (sk b L a))) := by
  have := cu_lt t (sk b L a)
  unfold c_Reader_takes_3
  rw [next3_eq t pt ha hS, bI_some]
  simp only [lits, bnd_eq]
  rw [if_neg (by rw [nI_eqE (by omega) (by omega)]; exact hc)]
  rfl
theorem dig3_1 {b : Nat → Nat} {L a : Nat} {S : St} (t : Txt b L) (pt : PT b L S) (hS : S 3 1 = nI a) (hd : isD b L a) : c_Reader_isAtDigit_3 S = some (nI 1, S) := by
  have := t.1
  have hb := t.2 a hd.1
  obtain ⟨d1, d2, d3⟩ := hd
  have l1 : (48 : Int32) = nI 48 := rfl
  have l2 : (57 : Int32) = nI 57 := rfl
  unfold c_Reader_isAtDigit_3
  rw [pt.1, hS]
  simp (disch := omega) only [nI_leE, nI_clamp, ckI, l1, l2]
  rw [pt.2 a d1]
  simp (disch := omega) only [nI_ltE]
  rw [if_neg (by omega), if_neg (by omega), if_neg (by omega)]
  rfl
theorem dig3_0 {b : Nat → Nat} {L a : Nat} {S : St} (t : Txt b L) (pt : PT b L S) (ha : a ≤ L) (hS : S 3 1 = nI a) (hd : ¬ isD b L a) : c_Reader_isAtDigit_3 S = some (nI 0, S) := by
  have := t.1
  have l1 : (48 : Int32) = nI 48 := rfl
  have l2 : (57 : Int32) = nI 57 := rfl
  unfold c_Reader_isAtDigit_3
  rw [pt.1, hS]
  by_cases h : a < L
  · have hb := t.2 a h
    simp (disch := omega) only [nI_leE, nI_clamp, ckI, l1, l2]
    rw [pt.2 a h]
    simp (disch := omega) only [nI_ltE]
    rw [if_neg (by omega)]
    by_cases h1 : b a < 48
    · rw [if_pos h1]; rfl
    · rw [if_neg h1, if_pos (by unfold isD at hd; omega)]; rfl
  · simp (disch := omega) only [nI_leE]
    rw [if_pos (by omega)]; rfl
/-! the reference's side -/
def PMt (b : Nat → Nat) (L ob bs : Nat) (T : St) : Prop := T 0 5 = nI ob ∧ T 0 8 = nI bs ∧ T 0 9 = nI L ∧ (∀ k, k < L → T (1 + ob) (bs + k) = sb (b k)) ∧ ((ob = 0 ∧ bs + L ≤ 160) ∨ (ob = 1 ∧ bs + L ≤ 640))
theorem PMt.fr {b : Nat → Nat} {L ob bs : Nat} {T T' : St} (h : PMt b L ob bs T) (hf : ∀ q j, (q = 0 ∧ (j = 5 ∨ j = 8 ∨ j = 9)) ∨ q = 1 ∨ q = 2 → T' q j = T q j) : PMt b L ob bs T' := by
  obtain ⟨h1, h2, h3, h4, h5⟩ := h
  exact ⟨(hf _ _ (by omega)).trans h1, (hf _ _ (by omega)).trans h2, (hf _ _ (by omega)).trans h3, fun k hk => (hf _ _ (by omega)).trans (h4 k hk), h5⟩
theorem alen_1 : alen tpM (1 + 0) = 160 := rfl
theorem alen_2 : alen tpM (1 + 1) = 640 := rfl
theorem PMt.al {b : Nat → Nat} {L ob bs : Nat} {T : St} (h : PMt b L ob bs T) {a : Nat} (ha : a < L) : bs + a < alen tpM (1 + ob) ∧ alen tpM (1 + ob) < 2 ^ 31 ∧ ob < 2 ∧ bs + a < 2 ^ 31 := by
  rcases h.2.2.2.2 with ⟨e, h2⟩ | ⟨e, h2⟩
  · subst e; rw [alen_1]; omega
  · subst e; rw [alen_2]; omega
theorem look_b43 {b : Nat → Nat} {L a ob bs : Nat} {T : St} (t : Txt b L) (pm : PMt b L ob bs T) (ha : a ≤ L) (hT : T 0 10 = nI a) : m_look_b43 T = some (cuM b L a, T) := by
  have := t.1
  unfold m_look_b43 cuM
  rw [pm.2.2.1, hT]
  simp (disch := omega) only [nI_leE]
  by_cases h : a < L
  · obtain ⟨a1, a2, a3, a4⟩ := pm.al h
    have hb := t.2 a h
    have l : (255 : Int32) = nI 255 := rfl
    rw [if_neg (by omega), if_pos h, pm.1, pm.2.1, ckI (by omega) (by omega), nI_add, nI_clamp (by omega), ckI a1 a2, nI_clamp a4, pm.2.2.2.1 a h, l, sb_and _ (by omega)]
  · rw [if_pos (by omega), if_neg h]; rfl
theorem look_h0 {b : Nat → Nat} {L ob bs : Nat} (t : Txt b L) : ∀ (n a : Nat) (T : St), PMt b L ob bs T → a ≤ L → L < n + a → T 0 10 = nI a → m_look_h0 n T = some (cuM b L (sk b L a), up2 T 0 10 (nI (sk b L a))) := by
  have hL := t.1
  intro n
  induction n with
  | zero => intro a S _ h1 h2; omega
  | succ n ih =>
    intro a S pt ha hn hS
    rw [m_look_h0, pt.2.2.1, hS]
    simp (disch := omega) only [nI_leE, lits, nI_add]
    have l32 : (32 : Int32) = nI 32 := rfl
    by_cases h : a < L
    · have hb := t.2 a h
      obtain ⟨a1, a2, a3, a4⟩ := pt.al h
      rw [if_neg (by omega), pt.1, pt.2.1, ckI (by omega) (by omega), nI_add, nI_clamp (by omega), ckI a1 a2, nI_clamp a4, pt.2.2.2.1 a h, l32]
      simp only [sb_32 _ (show b a < 256 by omega), bnd_eq]
      by_cases h3 : b a = 32
      · rw [if_pos h3, ih (a + 1) _ (pt.fr (fun q j hq => by rw [up2_n (by omega)])) (by omega) (by omega) (up2_hit rfl rfl), up2_up2, ← sk_step h h3]
      · rw [if_neg h3, look_b43 t pt ha hS, sk_stay (fun q => h3 q.2), up2_self hS]
    · rw [if_pos (by omega), look_b43 t pt ha hS, sk_stay (fun q => h q.1), up2_self hS]
theorem look_eq {b : Nat → Nat} {L a ob bs : Nat} {T : St} (t : Txt b L) (pm : PMt b L ob bs T) (ha : a ≤ L) (hT : T 0 10 = nI a) : m_look T = some (cuM b L (sk b L a), up2 T 0 10 (nI (sk b L a))) := look_h0 t FU a T pm ha (by have := t.1; unfold FU; omega) hT
theorem digM_1 {b : Nat → Nat} {L a ob bs : Nat} {T : St} (t : Txt b L) (pm : PMt b L ob bs T) (hT : T 0 10 = nI a) (hd : isD b L a) : m_isDigit T = some (nI 1, T) := by
  have := t.1
  have hb := t.2 a hd.1
  obtain ⟨a1, a2, a3, a4⟩ := pm.al hd.1
  obtain ⟨d1, d2, d3⟩ := hd
  have l1 : (48 : Int32) = nI 48 := rfl
  have l2 : (57 : Int32) = nI 57 := rfl
  unfold m_isDigit
  rw [pm.2.2.1, hT, if_neg (by rw [nI_leE (by omega) (by omega)]; omega), pm.1, pm.2.1, ckI (by omega) (by omega), nI_add, nI_clamp (by omega), ckI a1 a2, nI_clamp a4, pm.2.2.2.1 a d1, l1, l2]
  rw [if_neg (by rw [sb_lo _ (by omega)]; omega), ckI (by omega) (by omega), ckI a1 a2, if_neg (by rw [sb_hi _ (by omega)]; omega)]
  rfl
theorem digM_0 {b : Nat → Nat} {L a ob bs : Nat} {T : St} (t : Txt b L) (pm : PMt b L ob bs T) (ha : a ≤ L) (hT : T 0 10 = nI a) (hd : ¬ isD b L a) : m_isDigit T = some (nI 0, T) := by
  have := t.1
  have l1 : (48 : Int32) = nI 48 := rfl
  have l2 : (57 : Int32) = nI 57 := rfl
  unfold m_isDigit
  rw [pm.2.2.1, hT]
  by_cases h : a < L
  · obtain ⟨a1, a2, a3, a4⟩ := pm.al h
    have hb := t.2 a h
    rw [if_neg (by rw [nI_leE (by omega) (by omega)]; omega), pm.1, pm.2.1, ckI (by omega) (by omega), nI_add, nI_clamp (by omega), ckI a1 a2, nI_clamp a4, pm.2.2.2.1 a h, l1, l2]
    by_cases h1 : b a < 48 ∨ 128 ≤ b a
    · rw [if_pos (by rw [sb_lo _ (by omega)]; exact h1)]; rfl
    · rw [if_neg (by rw [sb_lo _ (by omega)]; exact h1), ckI (by omega) (by omega), ckI a1 a2, if_pos (by rw [sb_hi _ (by omega)]; unfold isD at hd; omega)]; rfl
  · rw [if_pos (by rw [nI_leE (by omega) (by omega)]; omega)]; rfl
theorem fails_1 {T : St} {a : Nat} (hf : T 0 11 = -nI 1) (ha : T 0 10 = nI a) : m_fails T = some (nI 0, up2 T 0 11 (nI a)) := by
  unfold m_fails
  simp only [lits, bnd_eq]
  rw [if_pos hf, ha]
  rfl
theorem fails_2 {T : St} (hf : T 0 11 ≠ -nI 1) : m_fails T = some (nI 0, T) := by
  unfold m_fails
  simp only [lits, bnd_eq]
  rw [if_neg hf]
  rfl
theorem takesM_1 {b : Nat → Nat} {L a ob bs c : Nat} {T : St} (t : Txt b L) (pm : PMt b L ob bs T) (ha : a ≤ L) (hT : T 0 10 = nI a) (hf : T 0 11 = -nI 1) (hc1 : 1 ≤ c) (hc2 : c < 256) (hc : cu b L (sk b L a) = c) : m_takes (nI c) T = some (nI 1, up2 T 0 10 (nI (sk b L a + 1))) := by
  unfold m_takes
  simp only [lits, bnd_eq]
  rw [if_pos hf, look_eq t pm ha hT, bI_some]
  simp only []
  rw [if_pos (by rw [cuM_eq t _ hc1 hc2]; exact hc), up2_hit rfl rfl, nI_add, up2_up2]
  rfl
theorem takesM_0 {b : Nat → Nat} {L a ob bs c : Nat} {T : St} (t : Txt b L) (pm : PMt b L ob bs T) (ha : a ≤ L) (hT : T 0 10 = nI a) (hf : T 0 11 = -nI 1) (hc1 : 1 ≤ c) (hc2 : c < 256) (hc : cu b L (sk b L a) ≠ c) : m_takes (nI c) T = some (nI 0, up2 (up2 T 0 10 (nI (sk b L a))) 0 11 (nI (sk b L a))) := by
  unfold m_takes m_takes_b16
  simp only [lits, bnd_eq]
  rw [if_pos hf, look_eq t pm ha hT, bI_some]
  simp only []
  rw [if_neg (by rw [cuM_eq t _ hc1 hc2]; exact hc), fails_1 (by rw [up2_k (by omega)]; exact hf) (up2_hit rfl rfl), bI_some]
  rfl
theorem takesM_f {T : St} (c : Int32) (hf : T 0 11 ≠ -nI 1) : m_takes c T = some (nI 0, T) := by
  unfold m_takes m_takes_b16
  simp only [lits, bnd_eq]
  rw [if_neg hf, fails_2 hf, bI_some]
  rfl
