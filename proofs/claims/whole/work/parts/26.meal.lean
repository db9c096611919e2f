/-! THE MEALS: letters of a meal, and what a liking makes of them -/
def ltr (X : Cf) (p : Nat → Nat) (pl h : Nat) : Nat → Nat
  | 0 => p (X 3 h)
  | 1 => if X 4 h < 5 then p (X 4 h) else 0
  | 2 => sm5 p
  | 3 => 100 - X 0 3 * pl
  | 4 => pl
  | _ => X 0 4
abbrev Ev : Type := (Nat → Nat) → Int32
def plainE : Ev := fun lt => nI (lt 2) + nI (lt 0) - nI 3 * nI (lt 1)
def LkC (S : St) (j : Nat) (E : Ev) : Prop := ∀ (S' : St) (lt : Nat → Nat), S' (16 + j) 2 = S (16 + j) 2 → (∀ k, k < 160 → S' (20 + j) k = S (20 + j) k) → (∀ k, k < 6 → S' 129 k = nI (lt k) ∧ lt k ≤ 10000) → Ok (c_Liking_worth_129 (16 + j) S') (fun z => z.1 = E lt ∧ Fr (fun q _ => 24 ≤ q ∧ q ≤ 27) S' z.2)
def goP : Nat → Nat → Prop := fun q j => q = 0 ∧ (j = 5 ∨ (8 ≤ j ∧ j ≤ 14) ∨ j = 17)
def LkM (T : St) (j : Nat) (E : Ev) : Prop := ∀ (T' : St) (lt : Nat → Nat), (∀ k, k < 160 → T' 2 (160 * j + k) = T 2 (160 * j + k)) → T' 4 108 = nI (lt 0) → T' 4 110 = nI (lt 1) → T' 4 115 = nI (lt 2) → T' 4 104 = nI (lt 3) → T' 4 105 = nI (lt 4) → T' 4 116 = nI (lt 5) → (∀ k, k < 6 → lt k ≤ 10000) → Ok (m_goThrough_2 (nI (160 * j)) (T 3 j) T') (fun T'' => T'' 0 14 = E lt ∧ Fr goP T' T'')
def CE (S : St) (E : Ev) : Prop := (S 111 6 = -nI 1 ∧ E = plainE) ∨ ∃ j, j < 4 ∧ S 111 6 = nI j ∧ LkC S j E
def ME (T : St) (E : Ev) : Prop := (T 0 31 = -nI 1 ∧ E = plainE) ∨ ∃ j, j < 4 ∧ T 0 31 = nI j ∧ LkM T j E
theorem LkC.fr {S S' : St} {j : Nat} {E : Ev} (h : LkC S j E) (hf : ∀ q k, 16 ≤ q → q ≤ 23 → S' q k = S q k) (hj : j < 4) : LkC S' j E := fun S2 lt h1 h2 h3 => h S2 lt (h1.trans (hf _ _ (by omega) (by omega))) (fun k hk => (h2 k hk).trans (hf _ _ (by omega) (by omega))) h3
theorem LkM.fr {T T' : St} {j : Nat} {E : Ev} (h : LkM T j E) (hf : ∀ q k, q = 2 ∨ q = 3 → T' q k = T q k) : LkM T' j E := fun T2 lt h1 a b c d e f g => by
  rw [hf 3 j (Or.inr rfl)]
  exact h T2 lt (fun k hk => (h1 k hk).trans (hf _ _ (Or.inl rfl))) a b c d e f g
theorem CE.fr {S S' : St} {E : Ev} (h : CE S E) (hf : ∀ q k, (16 ≤ q ∧ q ≤ 23) ∨ (q = 111 ∧ k = 6) → S' q k = S q k) : CE S' E := by
  rcases h with ⟨h1, h2⟩ | ⟨j, h1, h2, h3⟩
  · exact Or.inl ⟨(hf _ _ (by omega)).trans h1, h2⟩
  · exact Or.inr ⟨j, h1, (hf _ _ (by omega)).trans h2, h3.fr (fun q k h4 h5 => hf q k (by omega)) h1⟩
theorem ME.fr {T T' : St} {E : Ev} (h : ME T E) (hf : ∀ q k, q = 2 ∨ q = 3 ∨ (q = 0 ∧ k = 31) → T' q k = T q k) : ME T' E := by
  rcases h with ⟨h1, h2⟩ | ⟨j, h1, h2, h3⟩
  · exact Or.inl ⟨(hf _ _ (by omega)).trans h1, h2⟩
  · exact Or.inr ⟨j, h1, (hf _ _ (by omega)).trans h2, h3.fr (fun q k h4 => hf q k (by omega))⟩
def mealPC : Nat → Nat → Prop := fun q _ => q = 129 ∨ (24 ≤ q ∧ q ≤ 27)
theorem ltr_le {X : Cf} (iv : Iv X) {p : Nat → Nat} (hp : ∀ s, s < 6 → p s ≤ 1200) {pl h : Nat} (hpl : pl < 6) (hh : h < X 0 0) : ∀ k, k < 6 → ltr X p pl h k ≤ 10000 := by
  obtain ⟨j1, j2, j3, j4, j5⟩ := iv.2.2.2.2.2.2.2.2.1 h hh
  intro k hk
  match k, hk with
  | 0, _ => exact Nat.le_trans (hp _ (by omega)) (by omega)
  | 1, _ =>
    show (if X 4 h < 5 then p (X 4 h) else 0) ≤ _
    by_cases h5 : X 4 h < 5
    · rw [if_pos h5]; exact Nat.le_trans (hp _ (by omega)) (by omega)
    · rw [if_neg h5]; omega
  | 2, _ =>
    show sm5 p ≤ _
    unfold sm5
    have h0 := hp 0 (by omega)
    have h1 := hp 1 (by omega)
    have h2 := hp 2 (by omega)
    have h3 := hp 3 (by omega)
    have h4 := hp 4 (by omega)
    omega
  | 3, _ => show 100 - X 0 3 * pl ≤ _; omega
  | 4, _ => show pl ≤ _; omega
  | 5, _ => have := iv.2.2.2.2.1; show X 0 4 ≤ _; omega
set_option maxHeartbeats 4000000 in
theorem mealC_ok {S : St} {o : Nat} {X : Cf} {E : Ev} {p : Nat → Nat} {pl h : Nat} (iv : Iv X) (cq : Cq S o X) (hh : h < X 0 0) (hpl : pl < 6) (hp : ∀ s, s < 6 → S (121 + h) s = nI (p s)) (hb : ∀ s, s < 6 → p s ≤ 1200) (h127 : S 127 h = nI pl) (hday : S 111 7 = nI (X 0 4)) (ce : CE S E) : Ok (c_Noon_mealOf (nI h) S) (fun z => z.1 = E (ltr X p pl h) ∧ Fr mealPC S z.2) := by
  have i1 := iv.1
  obtain ⟨j1, j2, j3, j4, j5⟩ := iv.2.2.2.2.2.2.2.2.1 h hh
  obtain ⟨c1, c2, c3, c4, c5⟩ := cq.2.2.2.2.2.2.1 h hh
  have key : ∀ k0 : Int32, k0 = nI (ltr X p pl h 1) → Ok (c_Noon_mealOf_b60 (nI h) (nI (p (X 3 h))) k0 S) (fun z => z.1 = E (ltr X p pl h) ∧ Fr mealPC S z.2) := by
    intro k0 hk0
    unfold c_Noon_mealOf_b60
    rw [grainsOf_eq (by omega) hp, bI_some]
    simp (disch := omega) only [lits, ckI, nI_clamp, bnd_eq]
    rcases ce with ⟨e1, e2⟩ | ⟨j, hj, e1, lk⟩
    · rw [if_pos e1]
      refine ok_some ⟨?_, Fr.rfl⟩
      rw [e2, hk0]
      rfl
    · rw [e1]
      rw [if_neg (by rw [nI_nneg (by omega)]; exact id), ckI (by omega) (by omega)]
      rw [heatOf_eq (S := up2 (up2 (up2 S 129 0 (nI (p (X 3 h)))) 129 1 k0) 129 2 (nI (sm5 p))) (c := X 0 3) (pl := pl) (by omega) (by simp (disch := omega) only [up2_o]; exact cq.2.2.2.1) (by simp (disch := omega) only [up2_o]; exact h127) iv.2.2.2.1 hpl, bI_some]
      simp (disch := omega) only [up2_o, ckI, nI_clamp]
      rw [e1, h127, hday, if_neg (by rw [nI_nneg (by omega)]; exact id), ckI (by omega) (by omega), nI_clamp (by omega)]
      refine ok_bI (lk _ (ltr X p pl h) (by simp (disch := omega) only [up2_o]) (fun k hk => by simp (disch := omega) only [up2_o]) (fun k hk => ⟨?_, ltr_le iv hb hpl hh k hk⟩)) (fun x S2 hq => ok_some ⟨hq.1, ?_⟩)
      · match k, hk with
        | 0, _ => simp (disch := omega) only [up2_k, up2_hit]; rfl
        | 1, _ => simp (disch := omega) only [up2_k, up2_hit]; exact hk0
        | 2, _ => simp (disch := omega) only [up2_k, up2_hit]; rfl
        | 3, _ => simp (disch := omega) only [up2_k, up2_hit]; rfl
        | 4, _ => simp (disch := omega) only [up2_k, up2_hit]; rfl
        | 5, _ => simp (disch := omega) only [up2_k, up2_hit]; rfl
      · intro q j2 hn
        have hn1 : q ≠ 129 := fun e => hn (Or.inl e)
        rw [hq.2 q j2 (fun e => hn (Or.inr e))]
        simp (disch := omega) only [up2_o]
  unfold c_Noon_mealOf
  simp (disch := omega) only [lits, ckI, nI_clamp, nI_ltE]
  rw [if_neg (by omega), if_pos (by omega), c2, got_eq (by omega) (by omega), bI_some]
  simp only []
  rw [hp _ (by omega), c3]
  by_cases h5 : X 4 h < 5
  · rw [isStuff_1 h5, bI_some]
    simp only []
    rw [if_neg (by decide), c3, got_eq (by omega) (by omega), bI_some]
    simp only []
    refine key _ ?_
    show _ = nI (if X 4 h < 5 then p (X 4 h) else 0)
    rw [if_pos h5]; exact hp _ (by omega)
  · rw [isStuff_0 (by omega) (by omega), bI_some]
    simp only [if_true]
    refine key _ ?_
    show _ = nI (if X 4 h < 5 then p (X 4 h) else 0)
    rw [if_neg h5]
theorem placeIn_ok {T : St} {X : Cf} (iv : Iv X) {pl h : Nat} (hl : ∀ p, p < X 0 0 → T 11 p = nI (X 6 p)) (hpl : pl < X 0 0) (hh : X 6 pl = h) : m_placeIn (nI h) T = some (nI pl, T) := by
  obtain ⟨i1, i2, i3, i4, i5, i6, i7, i8, i9, i10, i11⟩ := iv
  have key : ∀ (d k n : Nat), k + d = pl → d < n → m_placeIn_h2 n (nI h) (nI k) T = some (nI pl, T) := by
    intro d
    induction d with
    | zero =>
      intro k n hk hn
      obtain ⟨n, rfl⟩ : ∃ m, n = m + 1 := ⟨n - 1, by omega⟩
      rw [m_placeIn_h2]
      simp (disch := omega) only [ckI, nI_clamp]
      rw [hl k (by omega), show k = pl by omega, hh, if_pos rfl]
    | succ d ih =>
      intro k n hk hn
      obtain ⟨n, rfl⟩ : ∃ m, n = m + 1 := ⟨n - 1, by omega⟩
      rw [m_placeIn_h2]
      simp (disch := omega) only [ckI, nI_clamp, lits, bnd_eq, nI_add]
      have h1 := i10 k (by omega)
      have h2 := i10 pl hpl
      rw [hl k (by omega), if_neg]
      · exact ih (k + 1) n (by omega) (by omega)
      · rw [nI_eqE (by omega) (by omega)]
        intro e
        have := i11 k pl (by omega) hpl (e.trans hh.symm)
        omega
  unfold m_placeIn
  exact key pl 0 FU (by omega) (by unfold FU; omega)
def mealPM : Nat → Nat → Prop := fun q j => goP q j ∨ q = 4
theorem mealM_h11 {T : St} {h d : Nat} {v4 : Int32} {n k : Nat} (hh : h < 6) (hk : k < 5) : m_mealOf_h11 (n + 1) (nI h) (nI d) (nI (6 * h)) v4 (nI k) T = m_mealOf_h11 n (nI h) (nI d) (nI (6 * h)) (v4 + T 16 (6 * h + k)) (nI (k + 1)) T := by
  rw [m_mealOf_h11]
  simp only [lits]
  rw [if_neg (by rw [nI_leE (by omega) (by omega)]; omega)]
  simp (disch := omega) only [ckI, nI_clamp, lits, bnd_eq, nI_add]
set_option maxHeartbeats 4000000 in
theorem mealM_ok {T : St} {X : Cf} {E : Ev} {p : Nat → Nat} {pl h : Nat} (iv : Iv X) (mq : Mq T X) (hpl : pl < X 0 0) (hh : X 6 pl = h) (hp : ∀ s, s < 6 → T 16 (6 * h + s) = nI (p s)) (hb : ∀ s, s < 6 → p s ≤ 1200) (h17 : T 17 h = nI (100 - X 0 3 * pl)) (me : ME T E) : Ok (m_mealOf (nI h) (nI (X 0 4)) T) (fun z => z.1 = E (ltr X p pl h) ∧ Fr mealPM T z.2) := by
  have i1 := iv.1
  have hhs : h < X 0 0 := hh ▸ iv.2.2.2.2.2.2.2.2.2.1 pl hpl
  obtain ⟨j1, j2, j3, j4, j5⟩ := iv.2.2.2.2.2.2.2.2.1 h hhs
  obtain ⟨c1, c2, c3, c4, c5⟩ := mq.2.2.2.2.2.1 h hhs
  have key : ∀ k0 : Int32, k0 = nI (ltr X p pl h 1) → Ok (m_mealOf_b97 (nI h) (nI (X 0 4)) (nI (sm5 p)) (nI (p (X 3 h))) k0 T) (fun z => z.1 = E (ltr X p pl h) ∧ Fr mealPM T z.2) := by
    intro k0 hk0
    unfold m_mealOf_b97
    have l1 : (108 : Int32) = nI 108 := rfl
    have l2 : (110 : Int32) = nI 110 := rfl
    have l3 : (115 : Int32) = nI 115 := rfl
    have l4 : (104 : Int32) = nI 104 := rfl
    have l5 : (105 : Int32) = nI 105 := rfl
    have l6 : (116 : Int32) = nI 116 := rfl
    simp (disch := omega) only [lits, l1, l2, l3, l4, l5, l6, ckI, nI_clamp, bnd_eq]
    rcases me with ⟨e1, e2⟩ | ⟨j, hj, e1, lk⟩
    · rw [if_pos e1]
      refine ok_some ⟨?_, Fr.rfl⟩
      rw [e2, hk0]
      rfl
    · rw [e1, if_neg (by rw [nI_nneg (by omega)]; exact id)]
      simp (disch := omega) only [up2_o]
      rw [placeIn_ok iv (pl := pl) (h := h) (fun q hq => by simp (disch := omega) only [up2_o]; exact mq.2.2.2.2.2.2 q hq) hpl hh, bI_some]
      simp (disch := omega) only [up2_o]
      rw [e1, ckI (by omega) (by omega), nI_clamp (by omega), pk_mul, h17]
      refine ok_bV (lk _ (ltr X p pl h) (fun k hk => by simp (disch := omega) only [up2_o]) ?_ ?_ ?_ ?_ ?_ ?_ (ltr_le iv hb (by omega) hhs)) (fun T2 hq => ok_some ⟨hq.1, ?_⟩)
      · simp (disch := omega) only [up2_k, up2_hit]; rfl
      · simp (disch := omega) only [up2_k, up2_hit]; exact hk0
      · simp (disch := omega) only [up2_k, up2_hit]; rfl
      · simp (disch := omega) only [up2_k, up2_hit]; rfl
      · simp (disch := omega) only [up2_k, up2_hit]; rfl
      · simp (disch := omega) only [up2_k, up2_hit]; rfl
      · intro q j2 hn
        have hn1 : q ≠ 4 := fun e => hn (Or.inr e)
        show T2 q j2 = T q j2
        rw [hq.2 q j2 (fun e => hn (Or.inl e))]
        simp (disch := omega) only [up2_o]
  unfold m_mealOf
  simp only [lits, bnd_eq, pk_mul]
  rw [show FU = 994 + 1 + 1 + 1 + 1 + 1 + 1 from rfl, mealM_h11 (by omega) (by omega), mealM_h11 (by omega) (by omega), mealM_h11 (by omega) (by omega), mealM_h11 (by omega) (by omega), mealM_h11 (by omega) (by omega), m_mealOf_h11]
  rw [hp 0 (by omega), hp (0 + 1) (by omega), hp (0 + 1 + 1) (by omega), hp (0 + 1 + 1 + 1) (by omega), hp (0 + 1 + 1 + 1 + 1) (by omega)]
  have es : nI 0 + nI (p 0) + nI (p (0 + 1)) + nI (p (0 + 1 + 1)) + nI (p (0 + 1 + 1 + 1)) + nI (p (0 + 1 + 1 + 1 + 1)) = nI (sm5 p) := by
    unfold sm5
    simp only [nI_add, Nat.zero_add, Nat.reduceAdd]
  rw [es]
  simp only [lits]
  rw [if_pos (by decide)]
  simp (disch := omega) only [pk_mul, nI_add, ckI, nI_clamp, bnd_eq]
  rw [c2]
  simp (disch := omega) only [nI_add, ckI, nI_clamp]
  rw [hp _ (by omega), c3]
  simp (disch := omega) only [nI_eqE]
  refine ok_if (fun h5 => key _ ?_) (fun h5 => ?_)
  · show _ = nI (if X 4 h < 5 then p (X 4 h) else 0)
    rw [if_neg (by omega)]
  · simp (disch := omega) only [nI_add, ckI, nI_clamp]
    refine key _ ?_
    show _ = nI (if X 4 h < 5 then p (X 4 h) else 0)
    rw [if_pos (by omega)]
    exact hp _ (by omega)
