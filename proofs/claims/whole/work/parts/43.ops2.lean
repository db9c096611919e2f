/-! CALLS that change one thing -/
def uX (X : Cf) (a b v : Nat) : Cf := fun q j => if q = a ∧ j = b then v else X q j
theorem uX_hit {X : Cf} {a b v q j : Nat} (h : q = a ∧ j = b) : uX X a b v q j = v := if_pos h
theorem uX_n {X : Cf} {a b v q j : Nat} (h : ¬ (q = a ∧ j = b)) : uX X a b v q j = X q j := if_neg h
/-- the same street -/
def SS (X X' : Cf) : Prop := (∀ j, j ≠ 4 → X' 0 j = X 0 j) ∧ ∀ q j, 1 ≤ q → q ≤ 4 → X' q j = X q j
theorem SS.rfl {X : Cf} : SS X X := ⟨fun _ _ => Eq.refl _, fun _ _ _ _ => Eq.refl _⟩
theorem SS.tr {X Y Z : Cf} (h : SS X Y) (k : SS Y Z) : SS X Z := ⟨fun j hj => (k.1 j hj).trans (h.1 j hj), fun q j h1 h2 => (k.2 q j h1 h2).trans (h.2 q j h1 h2)⟩
theorem SS.u {X Y : Cf} (h : SS X Y) {a b v : Nat} (ha : 5 ≤ a ∨ (a = 0 ∧ b = 4)) : SS X (uX Y a b v) := ⟨fun j hj => (uX_n (by omega)).trans (h.1 j hj), fun q j h1 h2 => (uX_n (by omega)).trans (h.2 q j h1 h2)⟩
/-- what of a configuration may change from call to call -/
def Vr (X : Cf) (n : Nat) : Prop := X 0 4 ≤ 999 ∧ (∀ h, h < n → (X 7 h ≤ 4 ∨ X 7 h = 9) ∧ ∀ s, s < 5 → X (10 + h) s ≤ 99) ∧ (∀ p, p < n → X 6 p < n) ∧ (∀ p q, p < n → q < n → X 6 p = X 6 q → p = q)
theorem Lw.vr {X : Cf} (h : Lw X) : Vr X (X 0 0) := by
  obtain ⟨⟨i1, i2, i3, i4, i5, i6, i7, i8, i9, i10, i11⟩, _, h3, _⟩ := h
  exact ⟨h3, fun a ha => ⟨(i9 a ha).2.2.2.1, (i9 a ha).2.2.2.2⟩, i10, i11⟩
theorem Lw.mk {X X' : Cf} (h : Lw X) (ss : SS X X') (vr : Vr X' (X 0 0)) : Lw X' := by
  obtain ⟨⟨i1, i2, i3, i4, i5, i6, i7, i8, i9, i10, i11⟩, ⟨p1, p2⟩, h3, h4, h5⟩ := h
  obtain ⟨v1, v2, v3, v4⟩ := vr
  have z : ∀ j, j ≠ 4 → X' 0 j = X 0 j := ss.1
  have z2 := ss.2
  refine ⟨⟨by rw [z _ (by omega)]; exact i1, by rw [z _ (by omega)]; exact i2, by rw [z _ (by omega)]; exact i3, by rw [z _ (by omega)]; exact i4, by omega, by rw [z _ (by omega)]; exact i6, by rw [z _ (by omega)]; exact i7, fun s hs => by rw [z2 _ _ (by omega) (by omega)]; exact i8 s hs, fun a ha => ?_, ?_, ?_⟩, ⟨by rw [z _ (by omega)]; exact p1, by rw [z _ (by omega)]; exact p2⟩, v1, ?_, ?_⟩
  · rw [z _ (by omega)] at ha
    obtain ⟨j1, j2, j3, j4, j5⟩ := i9 a ha
    rw [z2 _ _ (by omega) (by omega), z2 _ _ (by omega) (by omega), z2 _ _ (by omega) (by omega)]
    exact ⟨j1, j2, j3, (v2 a ha).1, (v2 a ha).2⟩
  · rw [z _ (by omega)]; exact v3
  · rw [z _ (by omega)]; exact v4
  · rw [z _ (by omega), z _ (by omega), z _ (by omega), z _ (by omega)]; exact h4
  · rw [z _ (by omega), z _ (by omega)]; exact h5
/-- the cells of a side that tell what may change -/
def VrC (X : Cf) (n o : Nat) (S : St) : Prop := S o 0 = nI (X 0 4) ∧ (∀ h, h < n → S (o + 4) h = nI (X 7 h) ∧ ∀ s, s < 5 → S (o + 1) (5 * h + s) = nI (X (10 + h) s)) ∧ (∀ p, p < n → S (o + 3) p = nI (X 6 p))
def VrM (X : Cf) (n : Nat) (T : St) : Prop := T 0 32 = nI (X 0 4) ∧ (∀ h, h < n → T 12 h = nI (X 7 h) ∧ ∀ s, s < 5 → T 7 (8 * h + s) = nI (X (10 + h) s)) ∧ (∀ p, p < n → T 11 p = nI (X 6 p))
theorem Cq.vr {S : St} {o : Nat} {X : Cf} (h : Cq S o X) : VrC X (X 0 0) o S := ⟨h.2.2.2.2.1, fun a ha => ⟨(h.2.2.2.2.2.2.1 a ha).2.2.2.1, (h.2.2.2.2.2.2.1 a ha).2.2.2.2⟩, h.2.2.2.2.2.2.2⟩
theorem Cq.mk {X X' : Cf} {S S' : St} {o o' : Nat} (h : Cq S o X) (ss : SS X X') (hS : ∀ q j, 28 ≤ q ∧ q ≤ 32 → S' q j = S q j) (v : VrC X' (X 0 0) o' S') : Cq S' o' X' := by
  obtain ⟨h1, h2, h3, h4, h5, h6, h7, h8⟩ := h
  obtain ⟨v1, v2, v3⟩ := v
  have z : ∀ j, j ≠ 4 → X' 0 j = X 0 j := ss.1
  have z2 := ss.2
  refine ⟨by rw [z _ (by omega), hS _ _ (by omega)]; exact h1, by rw [z _ (by omega), hS _ _ (by omega)]; exact h2, by rw [z _ (by omega), hS _ _ (by omega)]; exact h3, by rw [z _ (by omega), hS _ _ (by omega)]; exact h4, v1, fun s hs => by rw [z2 _ _ (by omega) (by omega), hS _ _ (by omega)]; exact h6 s hs, fun a ha => ?_, fun p hp => v3 p (by rw [z _ (by omega)] at hp; exact hp)⟩
  rw [z _ (by omega)] at ha
  obtain ⟨g1, g2, g3, g4, g5⟩ := h7 a ha
  exact ⟨by rw [z2 _ _ (by omega) (by omega), hS _ _ (by omega)]; exact g1, by rw [z2 _ _ (by omega) (by omega), hS _ _ (by omega)]; exact g2, by rw [z2 _ _ (by omega) (by omega), hS _ _ (by omega)]; exact g3, (v2 a ha).1, (v2 a ha).2⟩
theorem Mq.mk {X X' : Cf} {T T' : St} (h : Mq T X) (ss : SS X X') (hT : ∀ q j, (q = 0 ∧ j = 24) ∨ q = 9 ∨ q = 5 ∨ (q = 7 ∧ 5 ≤ j % 8) → T' q j = T q j) (v : VrM X' (X 0 0) T') : Mq T' X' := by
  obtain ⟨h1, h2, h3, h4, h6, h7, h8⟩ := h
  obtain ⟨v1, v2, v3⟩ := v
  have z : ∀ j, j ≠ 4 → X' 0 j = X 0 j := ss.1
  have z2 := ss.2
  refine ⟨by rw [z _ (by omega), hT _ _ (by omega)]; exact h1, by rw [z _ (by omega), hT _ _ (by omega)]; exact h2, by rw [z _ (by omega), hT _ _ (by omega)]; exact h3, by rw [z _ (by omega), hT _ _ (by omega)]; exact h4, fun s hs => by rw [z2 _ _ (by omega) (by omega), hT _ _ (by omega)]; exact h6 s hs, fun a ha => ?_, fun p hp => v3 p (by rw [z _ (by omega)] at hp; exact hp)⟩
  rw [z _ (by omega)] at ha
  obtain ⟨g1, g2, g3, g4, g5⟩ := h7 a ha
  exact ⟨by rw [z2 _ _ (by omega) (by omega), hT _ _ (by omega)]; exact g1, by rw [z2 _ _ (by omega) (by omega), hT _ _ (by omega)]; exact g2, by rw [z2 _ _ (by omega) (by omega), hT _ _ (by omega)]; exact g3, (v2 a ha).1, (v2 a ha).2⟩
theorem RX.mk {X X' : Cf} {S T S' T' : St} (h : RX X S T) (ss : SS X X') (vr : Vr X' (X 0 0)) (hS : ∀ q j, 28 ≤ q ∧ q ≤ 32 → S' q j = S q j) (vc : VrC X' (X 0 0) 33 S') (hT : ∀ q j, (q = 0 ∧ (j = 24 ∨ j = 40 ∨ j = 42)) ∨ q = 9 ∨ q = 5 ∨ (q = 7 ∧ 5 ≤ j % 8) → T' q j = T q j) (vm : VrM X' (X 0 0) T') : RX X' S' T' := by
  obtain ⟨h1, h2, h3, h4, h5, h6⟩ := h
  exact ⟨h1.mk ss hS vc, h2.mk ss (fun q j hq => hT q j (by omega)) vm, h3.mk ss vr, vm.1, (hT _ _ (by omega)).trans h5, (hT _ _ (by omega)).trans h6⟩
theorem RE.cg {X X' : Cf} {S T : St} (h : RE X S T) (h0 : X' 0 0 = X 0 0) : RE X' S T := fun a ha => h a (by omega)
theorem RU.cg {X X' : Cf} {S T : St} (h : RU X S T) (h0 : X' 0 0 = X 0 0) (h4 : X 0 4 ≤ X' 0 4) : RU X' S T := by
  obtain ⟨u, nx, h1, h2, h3, h4, h5, h6, h7⟩ := h
  exact ⟨u, nx, h1, h2, by omega, h4, h5, h6, fun i hi a ha => h7 i hi a (by omega)⟩
/-- one cell told anew on both sides -/
theorem op_tell {X X' : Cf} {E : Ev} {S T : St} {q1 j1 q2 j2 : Nat} {x y : Int32} (h : Re X E S T) (ss : SS X X') (h4 : X' 0 4 = X 0 4) (vr : Vr X' (X 0 0)) (hq : q1 = 34 ∨ q1 = 37) (hq2 : (q2 = 7 ∧ j2 % 8 < 5) ∨ q2 = 12) (vc : VrC X' (X 0 0) 33 (up2 S q1 j1 x)) (vm : VrM X' (X 0 0) (up2 T q2 j2 y)) : Re X' E (up2 S q1 j1 x) (up2 T q2 j2 y) := by
  obtain ⟨h1, h2, h3, h4', h5, h6⟩ := h
  have z := ss.1 0 (by omega)
  exact ⟨h1.fr (fun q j hq => up2_n (by omega)) (fun q j hq => up2_n (by omega)), h2.mk ss vr (fun q j hq => up2_n (by omega)) vc (fun q j hq => up2_n (by omega)) vm, h3.fr (fun q j hq => up2_n (by omega)) (fun q j hq => up2_n (by omega)), (h4'.fr (fun j => up2_n (by omega)) (fun j => up2_n (by omega))).cg z, (h5.fr (fun q j hq => up2_n (by omega)) (fun q j hq => up2_n (by omega))).cg z (by omega), h6.fr (fun q j hq => up2_n (by omega)) (fun q j hq => up2_n (by omega))⟩
theorem tell_put {X : Cf} {E : Ev} {S T : St} (h : Re X E S T) {k s : Nat} (hk : k < X 0 0) (hs : s ≤ 4 ∨ s = 9) : Re (uX X 7 k s) E (up2 S 37 k (nI s)) (up2 T 12 k (nI s)) := by
  have lw := h.2.1.2.2.1
  have iv := lw.1
  obtain ⟨v1, v2, v3, v4⟩ := lw.vr
  obtain ⟨c1, c2, c3⟩ := h.2.1.1.vr
  have mq := h.2.1.2.1
  have h6 := iv.1
  refine op_tell h (SS.rfl.u (by omega)) (uX_n (by omega)) ⟨by rw [uX_n (by omega)]; exact v1, fun a ha => ⟨?_, fun t ht => by rw [uX_n (by omega)]; exact (v2 a ha).2 t ht⟩, fun p hp => by rw [uX_n (by omega)]; exact v3 p hp, fun p q hp hq => by rw [uX_n (by omega), uX_n (by omega)]; exact v4 p q hp hq⟩ (by omega) (by omega) ⟨by rw [uX_n (by omega), up2_o (by omega)]; exact c1, fun a ha => ⟨?_, fun t ht => by rw [uX_n (by omega), up2_o (by omega)]; exact (c2 a ha).2 t ht⟩, fun p hp => by rw [uX_n (by omega), up2_o (by omega)]; exact c3 p hp⟩ ⟨by rw [uX_n (by omega), up2_o (by omega)]; exact h.2.1.2.2.2.1, fun a ha => ⟨?_, fun t ht => by rw [uX_n (by omega), up2_o (by omega)]; exact (mq.2.2.2.2.2.1 a ha).2.2.2.2 t ht⟩, fun p hp => by rw [uX_n (by omega), up2_o (by omega)]; exact mq.2.2.2.2.2.2 p hp⟩
  · by_cases e : a = k
    · rw [uX_hit ⟨rfl, e⟩]; exact hs
    · rw [uX_n (by omega)]; exact (v2 a ha).1
  · by_cases e : a = k
    · rw [uX_hit ⟨rfl, e⟩, up2_hit rfl e]
    · rw [uX_n (by omega), up2_k e]; exact (c2 a ha).1
  · by_cases e : a = k
    · rw [uX_hit ⟨rfl, e⟩, up2_hit rfl e]
    · rw [uX_n (by omega), up2_k e]; exact (mq.2.2.2.2.2.1 a ha).2.2.2.1
theorem tell_fill {X : Cf} {E : Ev} {S T : St} (h : Re X E S T) {k s v : Nat} (hk : k < X 0 0) (hs : s < 5) (hv : v ≤ 99) : Re (uX X (10 + k) s v) E (up2 S 34 (5 * k + s) (nI v)) (up2 T 7 (8 * k + s) (nI v)) := by
  have lw := h.2.1.2.2.1
  have iv := lw.1
  obtain ⟨v1, v2, v3, v4⟩ := lw.vr
  obtain ⟨c1, c2, c3⟩ := h.2.1.1.vr
  have mq := h.2.1.2.1
  have h6 := iv.1
  refine op_tell h (SS.rfl.u (by omega)) (uX_n (by omega)) ⟨by rw [uX_n (by omega)]; exact v1, fun a ha => ⟨by rw [uX_n (by omega)]; exact (v2 a ha).1, fun t ht => ?_⟩, fun p hp => by rw [uX_n (by omega)]; exact v3 p hp, fun p q hp hq => by rw [uX_n (by omega), uX_n (by omega)]; exact v4 p q hp hq⟩ (by omega) (by omega) ⟨by rw [uX_n (by omega), up2_o (by omega)]; exact c1, fun a ha => ⟨by rw [uX_n (by omega), up2_o (by omega)]; exact (c2 a ha).1, fun t ht => ?_⟩, fun p hp => by rw [uX_n (by omega), up2_o (by omega)]; exact c3 p hp⟩ ⟨by rw [uX_n (by omega), up2_o (by omega)]; exact h.2.1.2.2.2.1, fun a ha => ⟨by rw [uX_n (by omega), up2_o (by omega)]; exact (mq.2.2.2.2.2.1 a ha).2.2.2.1, fun t ht => ?_⟩, fun p hp => by rw [uX_n (by omega), up2_o (by omega)]; exact mq.2.2.2.2.2.2 p hp⟩
  · by_cases e : a = k ∧ t = s
    · rw [uX_hit (by omega)]; exact hv
    · rw [uX_n (by omega)]; exact (v2 a ha).2 t ht
  · by_cases e : a = k ∧ t = s
    · rw [uX_hit (by omega), up2_hit rfl (by omega)]
    · rw [uX_n (by omega), up2_k (by omega)]; exact (c2 a ha).2 t ht
  · by_cases e : a = k ∧ t = s
    · rw [uX_hit (by omega), up2_hit rfl (by omega)]
    · rw [uX_n (by omega), up2_k (by omega)]; exact (mq.2.2.2.2.2.1 a ha).2.2.2.2 t ht
theorem op_put {S T : St} (h : Rel S T) (v w : Int32) : Opp (c_N_put v w S) (m_put v w T) := by
  obtain ⟨X, E, h⟩ := h
  unfold c_N_put m_put c_N_put_b23 m_put_b28
  simp only [lits, lits64, bnd_eq, nzI0, nzI1]
  have h := h.z (nI 0)
  generalize up2 T 0 0 (nI 0) = T at h ⊢
  rcases house2 h v with ⟨k, hk, hk6, rfl, e1, e2⟩ | ⟨e1, e2⟩
  · rw [e1, e2, bI_some, bI_some, if_neg m10, if_neg m10]
    rcases stuff2 w S T with ⟨s, hs, rfl, e3, e4⟩ | ⟨e3, e4, _⟩
    · rw [e3, e4, bI_some, bI_some, if_neg m10, if_neg m10, ckI hk6 (by omega), ckI hk6 (by omega), nI_clamp (by omega)]
      exact ⟨_, _, _, rfl, rfl, _, E, tell_put h hk (by omega)⟩
    · rw [e3, e4, bI_some, bI_some, if_pos rfl, if_pos rfl]
      simp only []
      by_cases h9 : w = nI 9
      · subst h9
        rw [if_pos rfl, if_pos rfl, ckI hk6 (by omega), ckI hk6 (by omega), nI_clamp (by omega)]
        exact ⟨_, _, _, rfl, rfl, _, E, tell_put h hk (by omega)⟩
      · rw [if_neg h9, if_neg h9]
        exact opp_now h _
  · rw [e1, e2, bI_some, bI_some, if_pos rfl, if_pos rfl]
    exact opp_now h _
theorem setStore_eq {S : St} {o h s : Nat} {x : Int32} (hh : h < 6) (hs : s < 5) : c_State_setStore o (nI h) (nI s) x S = some (up2 S (o + 1) (5 * h + s) x) := by
  unfold c_State_setStore
  rw [isStore_1 hh hs, bI_some]
  simp only [lits, bnd_eq]
  rw [if_neg m10, pk_mul, nI_add, ckI (by omega) (by omega), nI_clamp (by omega), Nat.mul_comm]
theorem store_eq {S : St} {o h s : Nat} (hh : h < 6) (hs : s < 5) : c_State_store o (nI h) (nI s) S = some (S (o + 1) (5 * h + s), S) := by
  unfold c_State_store
  rw [isStore_1 hh hs, bI_some]
  simp only [lits, bnd_eq]
  rw [if_neg m10, pk_mul, nI_add, ckI (by omega) (by omega), nI_clamp (by omega), Nat.mul_comm]
theorem op_fill {S T : St} (h : Rel S T) (v w g : Int32) : Opp (c_N_fill v w g S) (m_fill v w g T) := by
  obtain ⟨X, E, h⟩ := h
  unfold c_N_fill m_fill
  simp only [lits, lits64, bnd_eq, nzI0, nzI1]
  have h := h.z (nI 0)
  generalize up2 T 0 0 (nI 0) = T at h ⊢
  rcases house2 h v with ⟨k, hk, hk6, rfl, e1, e2⟩ | ⟨e1, e2⟩
  · rw [e1, e2, bI_some, bI_some, if_neg m10, if_neg m10]
    rcases stuff2 w S T with ⟨s, hs, rfl, e3, e4⟩ | ⟨e3, e4, _⟩
    · rw [e3, e4, bI_some, bI_some, if_neg m10, if_neg m10]
      rcases within2 g (l := 0) (h := 99) (by omega) (by omega) S T with ⟨j, _, hj, rfl, e5, e6⟩ | ⟨e5, e6, _⟩
      · rw [e5, e6, bI_some, bI_some, if_neg m10, if_neg m10, setStore_eq hk6 hs, bV_some, pk_mul, nI_add, ckI (by omega) (by omega), nI_clamp (by omega)]
        exact ⟨_, _, _, rfl, rfl, _, E, tell_fill h hk hs hj⟩
      · rw [e5, e6, bI_some, bI_some, if_pos rfl, if_pos rfl]
        exact opp_now h _
    · rw [e3, e4, bI_some, bI_some, if_pos rfl, if_pos rfl]
      exact opp_now h _
  · rw [e1, e2, bI_some, bI_some, if_pos rfl, if_pos rfl]
    exact opp_now h _
theorem digits2 {S T : St} {oC oM hs : Nat} (h1 : S 28 0 = nI hs) (h2 : T 0 24 = nI hs) (h6 : hs ≤ 6) (he : ∀ p, p < hs → S oC p = T oM p) : ∀ (n k : Nat) (v : Int32), k ≤ hs → hs < n + k → ∃ r, c_N_asDigits_h4 oC n v (nI k) S = some (r, S) ∧ m_digitsOf_h4 oM n v (nI k) T = some (r, T) := by
  intro n
  induction n with
  | zero => intro k v hk hn; omega
  | succ n ih =>
    intro k v hk hn
    rw [c_N_asDigits_h4, m_digitsOf_h4]
    simp only [lits, bnd_eq]
    rw [h1, h2]
    by_cases hkk : k < hs
    · rw [if_neg (show ¬ nI hs ≤ nI k from nI_ge hkk (by omega)), if_neg (show ¬ nI hs ≤ nI k from nI_ge hkk (by omega)), if_neg (show ¬ nI 6 ≤ nI k from nI_ge (by omega) (by omega)), ckI (by omega) (by omega), ckI (by omega) (by omega), nI_clamp (by omega), nI_add, he k hkk, Int32.mul_comm]
      exact ih (k + 1) _ (by omega) (by omega)
    · rw [if_pos (show nI hs ≤ nI k by rw [nI_leE (by omega) (by omega)]; omega), if_pos (show nI hs ≤ nI k by rw [nI_leE (by omega) (by omega)]; omega)]
      exact ⟨v, rfl, rfl⟩
theorem op_count {S T : St} (h : Rel S T) (v : Int32) : Opp (c_N_count v S) (m_count v T) := by
  obtain ⟨X, E, h⟩ := h
  unfold c_N_count m_count c_N_asDigits m_digitsOf
  simp only [lits, lits64, bnd_eq, nzI0, nzI1]
  have h := h.z (nI 0)
  generalize up2 T 0 0 (nI 0) = T at h ⊢
  have hre := h
  obtain ⟨⟨b, L, t, pt, g1, g2⟩, ⟨cq, mq, lw, hd, _⟩, ⟨n, hn, a1, a2, a3, a4⟩, h4, ⟨u, nx, u1, u2, u3, u4, u5, u6, u7⟩, _⟩ := h
  have h6 := lw.1.1
  by_cases c0 : v = nI 0
  · rw [if_pos c0, if_pos c0, cq.1, mq.1]; exact opp_now hre _
  rw [if_neg c0, if_neg c0]
  by_cases c1 : v = nI 1
  · rw [if_pos c1, if_pos c1, a1, a2]; exact opp_now hre _
  rw [if_neg c1, if_neg c1]
  by_cases c2 : v = nI 2
  · rw [if_pos c2, if_pos c2, pt.1, g1]; exact opp_now hre _
  rw [if_neg c2, if_neg c2]
  by_cases c3 : v = nI 3
  · rw [if_pos c3, if_pos c3, cq.2.2.2.2.1, hd]; exact opp_now hre _
  rw [if_neg c3, if_neg c3]
  by_cases c4 : v = nI 4
  · rw [if_pos c4, if_pos c4]
    have e : S 0 5 = T 0 31 := by
      rcases a4 with ⟨x1, _, x3, _⟩ | ⟨j, _, x1, _, x3, _⟩
      · rw [x1, x3]
      · rw [x1, x3]
    rw [e]; exact opp_now hre _
  rw [if_neg c4, if_neg c4]
  have hz : ∀ (x : Nat) (y : Int32), (X 0 0 = 0 → x = 0) → y = nI x → Opp (some (nI x, S)) (if T 0 24 = nI 0 then some (nI 0, T) else some (y, T)) := by
    intro x y hx hy
    rw [mq.1]
    by_cases h0 : X 0 0 = 0
    · rw [h0, if_pos rfl, hx h0]; exact opp_now hre _
    · rw [if_neg (nI_nn h0 (by omega) (by omega)), hy]; exact opp_now hre _
  by_cases c5 : v = nI 5
  · rw [if_pos c5, if_pos c5, ckI (by omega) (by omega), nI_clamp (by omega), cq.2.1]; exact hz _ _ (fun h0 => (lw.2.2.2.1 h0).1) mq.2.1
  rw [if_neg c5, if_neg c5]
  by_cases c6 : v = nI 6
  · rw [if_pos c6, if_pos c6, ckI (by omega) (by omega), nI_clamp (by omega), cq.2.2.1]; exact hz _ _ (fun h0 => (lw.2.2.2.1 h0).2.1) mq.2.2.1
  rw [if_neg c6, if_neg c6]
  by_cases c7 : v = nI 7
  · rw [if_pos c7, if_pos c7, ckI (by omega) (by omega), nI_clamp (by omega), cq.2.2.2.1]; exact hz _ _ (fun h0 => (lw.2.2.2.1 h0).2.2) mq.2.2.2.1
  rw [if_neg c7, if_neg c7]
  by_cases c8 : v = nI 8
  · rw [if_pos c8, if_pos c8, u4, u6]; exact opp_now hre _
  rw [if_neg c8, if_neg c8]
  by_cases c9 : v = nI 9
  · rw [if_pos c9, if_pos c9]
    obtain ⟨r, e1, e2⟩ := digits2 (oC := 36) (oM := 11) cq.1 mq.1 h6 (fun p hp => (cq.2.2.2.2.2.2.2 p hp).trans (mq.2.2.2.2.2.2 p hp).symm) FU 0 (nI 0) (by omega) (by unfold FU; omega)
    rw [e1, e2, bI_some, bI_some]
    exact opp_now hre _
  rw [if_neg c9, if_neg c9]
  by_cases c10 : v = nI 10
  · rw [if_pos c10, if_pos c10]
    obtain ⟨r, e1, e2⟩ := digits2 (oC := 37) (oM := 12) cq.1 mq.1 h6 (fun p hp => (cq.2.2.2.2.2.2.1 p hp).2.2.2.1.trans (mq.2.2.2.2.2.1 p hp).2.2.2.1.symm) FU 0 (nI 0) (by omega) (by unfold FU; omega)
    rw [e1, e2, bI_some, bI_some]
    exact opp_now hre _
  rw [if_neg c10, if_neg c10]
  exact opp_now hre _
theorem placeOfC {S : St} {X : Cf} (iv : Iv X) {pl h : Nat} (hl : ∀ p, p < X 0 0 → S 36 p = nI (X 6 p)) (hpl : pl < X 0 0) (hh : X 6 pl = h) : c_State_placeOf 33 (nI h) S = some (nI pl, S) := by
  have h6 := iv.1
  have hx := iv.2.2.2.2.2.2.2.2.2.1
  have key : ∀ (n k : Nat), k ≤ pl → pl < n + k → c_State_placeOf_h2 33 n (nI h) (nI k) S = some (nI pl, S) := by
    intro n
    induction n with
    | zero => intro k hk hn; omega
    | succ n ih =>
      intro k hk hn
      rw [c_State_placeOf_h2]
      simp only [lits, bnd_eq]
      have hxk := hx k (by omega)
      have hxp := hx pl hpl
      rw [if_neg (show ¬ nI 6 ≤ nI k from nI_ge (by omega) (by omega)), ckI (by omega) (by omega), nI_clamp (by omega), hl k (by omega)]
      by_cases e : k = pl
      · subst e
        rw [if_pos (show nI (X 6 k) = nI h by rw [hh])]
      · rw [if_neg (nI_nn (fun e2 => e (iv.2.2.2.2.2.2.2.2.2.2 k pl (by omega) hpl (e2.trans hh.symm))) (by omega) (by omega)), nI_add]
        exact ih (k + 1) (by omega) (by omega)
  exact key FU 0 (by omega) (by unfold FU; omega)
theorem op_house {S T : St} (h : Rel S T) (v w : Int32) : ∃ S' T', Rel S' T' ∧ ((∃ r, c_N_house v w S = some (some r, S') ∧ m_house v w T = some (r, T') ∧ T' 0 0 = nI 0) ∨ (∃ r, c_N_house v w S = some (none, S') ∧ m_house v w T = some (r, T') ∧ T' 0 0 = nI 1)) := by
  obtain ⟨X, E, h⟩ := h
  unfold c_N_house m_house m_house_b25 m_house_b26
  simp only [lits, lits64, bnd_eq, nzI0, nzI1]
  have bad : ∀ (M : Option (Option Int32 × St)), M = some (none, S) → ∃ S' T', Rel S' T' ∧ ((∃ r, M = some (some r, S') ∧ (if (up2 T 0 0 (nI 1)) 0 0 ≤ nI 0 then (if nI 8 ≤ w then (if w = nI 8 then ckM v 6 (some ((up2 T 0 0 (nI 1)) 12 v.toNatClampNeg, up2 T 0 0 (nI 1))) else bI (m_placeIn v (up2 T 0 0 (nI 1))) (fun x3 S2 => some (x3, S2))) else ckM (nI 8 * v + w) 48 (some ((up2 T 0 0 (nI 1)) 7 (nI 8 * v + w).toNatClampNeg, up2 T 0 0 (nI 1)))) else some (nI 0, up2 T 0 0 (nI 1))) = some (r, T') ∧ T' 0 0 = nI 0) ∨ (∃ r, M = some (none, S') ∧ (if (up2 T 0 0 (nI 1)) 0 0 ≤ nI 0 then (if nI 8 ≤ w then (if w = nI 8 then ckM v 6 (some ((up2 T 0 0 (nI 1)) 12 v.toNatClampNeg, up2 T 0 0 (nI 1))) else bI (m_placeIn v (up2 T 0 0 (nI 1))) (fun x3 S2 => some (x3, S2))) else ckM (nI 8 * v + w) 48 (some ((up2 T 0 0 (nI 1)) 7 (nI 8 * v + w).toNatClampNeg, up2 T 0 0 (nI 1)))) else some (nI 0, up2 T 0 0 (nI 1))) = some (r, T') ∧ T' 0 0 = nI 1)) := by
    intro M hM
    refine ⟨S, up2 T 0 0 (nI 1), ⟨X, E, h.z _⟩, Or.inr ⟨nI 0, hM, ?_, up2_hit rfl rfl⟩⟩
    rw [if_neg (by rw [up2_hit rfl rfl]; decide)]
  rcases house2 h v with ⟨k, hk, hk6, rfl, e1, e2⟩ | ⟨e1, e2⟩
  · have lw := h.2.1.2.2.1
    have iv := lw.1
    rcases within2 w (l := 0) (h := 9) (by omega) (by omega) S T with ⟨j, _, hj, rfl, _, e4⟩ | ⟨_, e4, hno⟩
    · rw [e1, e2, bI_some, bI_some, if_neg m10, if_neg m10, e4, bI_some]
      simp only []
      rw [if_neg m10, if_pos (by rw [up2_hit rfl rfl]; decide)]
      have hz := h.z (nI 0)
      have t0 : (up2 T 0 0 (nI 0)) 0 0 = nI 0 := up2_hit rfl rfl
      have cq := hz.2.1.1
      have mq := hz.2.1.2.1
      obtain ⟨q1, q2, q3, q4, q5⟩ := cq.2.2.2.2.2.2.1 k hk
      obtain ⟨p1, p2, p3, p4, p5⟩ := mq.2.2.2.2.2.1 k hk
      have fin : ∀ (M : Option (Option Int32 × St)) (N : Option (Int32 × St)) (r : Int32), M = some (some r, S) → N = some (r, up2 T 0 0 (nI 0)) → ∃ S' T', Rel S' T' ∧ ((∃ r, M = some (some r, S') ∧ N = some (r, T') ∧ T' 0 0 = nI 0) ∨ (∃ r, M = some (none, S') ∧ N = some (r, T') ∧ T' 0 0 = nI 1)) := fun M N r hM hN => ⟨S, _, ⟨X, E, hz⟩, Or.inl ⟨r, hM, hN, t0⟩⟩
      by_cases hj5 : j < 5
      · rw [isStuff_1 hj5, bI_some]
        simp only []
        rw [if_neg m10, store_eq hk6 hj5, bI_some, if_neg (show ¬ nI 8 ≤ nI j from nI_ge (by omega) (by omega)), pk_mul, nI_add, ckI (by omega) (by omega), nI_clamp (by omega), p5 j hj5]
        simp only []
        rw [q5 j hj5]
        exact fin _ _ _ rfl rfl
      · rw [isStuff_0 (by omega) (by omega), bI_some]
        simp only []
        simp only [nI_eqE (show j < 2 ^ 31 by omega) (show 5 < 2 ^ 31 by omega), nI_eqE (show j < 2 ^ 31 by omega) (show 6 < 2 ^ 31 by omega), nI_eqE (show j < 2 ^ 31 by omega) (show 7 < 2 ^ 31 by omega), nI_eqE (show j < 2 ^ 31 by omega) (show 8 < 2 ^ 31 by omega), nI_eqE (show j < 2 ^ 31 by omega) (show 9 < 2 ^ 31 by omega), nI_leE (show 8 < 2 ^ 31 by omega) (show j < 2 ^ 31 by omega)]
        rw [if_pos trivial, ckI hk6 (by omega), ckI hk6 (by omega), ckI hk6 (by omega), ckI hk6 (by omega), ckI hk6 (by omega), nI_clamp (n := k) (by omega)]
        rcases (show j = 5 ∨ j = 6 ∨ j = 7 ∨ j = 8 ∨ j = 9 by omega) with e | e | e | e | e
        · subst e
          rw [if_pos rfl, if_neg (by omega), q1, pk_mul, nI_add, ckI (by omega) (by omega), nI_clamp (by omega), p1]
          exact fin _ _ _ rfl rfl
        · subst e
          rw [if_neg (by omega), if_pos rfl, if_neg (by omega), q2, pk_mul, nI_add, ckI (by omega) (by omega), nI_clamp (by omega), p2]
          exact fin _ _ _ rfl rfl
        · subst e
          rw [if_neg (by omega), if_neg (by omega), if_pos rfl, if_neg (by omega), q3, pk_mul, nI_add, ckI (by omega) (by omega), nI_clamp (by omega), p3]
          exact fin _ _ _ rfl rfl
        · subst e
          rw [if_neg (by omega), if_neg (by omega), if_neg (by omega), if_pos rfl, if_pos (by omega), if_pos rfl, q4, p4]
          exact fin _ _ _ rfl rfl
        · subst e
          obtain ⟨s1, s2⟩ := plc_spec iv hk
          rw [if_neg (by omega), if_neg (by omega), if_neg (by omega), if_neg (by omega), if_pos rfl, if_pos (by omega), if_neg (by omega), placeOfC iv cq.2.2.2.2.2.2.2 s1 s2, placeIn_ok iv mq.2.2.2.2.2.2 s1 s2, bI_some, bI_some]
          exact fin _ _ _ rfl rfl
    · rw [e2, bI_some, if_neg m10, e4, bI_some]
      simp only []
      rw [if_pos trivial]
      apply bad
      rw [e1, bI_some, if_neg m10]
      rcases stuff2 w S T with ⟨s, hs, rfl, _, _⟩ | ⟨e5, _, _⟩
      · exact absurd rfl (hno s (by omega) (by omega))
      · rw [e5, bI_some]
        simp only []
        rw [if_pos trivial, if_neg (hno 5 (by omega) (by omega)), if_neg (hno 6 (by omega) (by omega)), if_neg (hno 7 (by omega) (by omega)), if_neg (hno 8 (by omega) (by omega)), if_neg (hno 9 (by omega) (by omega))]
  · rw [e2, bI_some]
    simp only []
    rw [if_pos trivial]
    apply bad
    rw [e1, bI_some, if_pos rfl]
theorem op_lasts {S T : St} (h : Rel S T) (v : Int32) : Opp (c_N_lasts v S) (m_lasts v T) := by
  obtain ⟨X, E, h⟩ := h
  unfold c_N_lasts m_lasts c_N_lasts_b87 c_N_lasts_b99
  simp only [lits, lits64, bnd_eq, nzI0, nzI1]
  have h := h.z (nI 0)
  generalize up2 T 0 0 (nI 0) = T at h ⊢
  rcases house2 h v with ⟨k, hk, hk6, rfl, e1, e2⟩ | ⟨e1, e2⟩
  · have lw := h.2.1.2.2.1
    have iv := lw.1
    have hg := lw.2.2.2.2 (by omega)
    have cq := h.2.1.1
    have mq := h.2.1.2.1
    have hs6 := iv.1
    have hg2 := iv.2.1
    obtain ⟨q1, q2, q3, q4, q5⟩ := cq.2.2.2.2.2.2.1 k hk
    obtain ⟨p1, p2, p3, p4, p5⟩ := mq.2.2.2.2.2.1 k hk
    obtain ⟨_, _, _, i4, i5⟩ := iv.2.2.2.2.2.2.2.2.1 k hk
    obtain ⟨s1, s2⟩ := plc_spec iv hk
    have ml := mq.2.2.2.2.2.2 (X 0 0 - 1) (by omega)
    have hl := iv.2.2.2.2.2.2.2.2.2.1 (X 0 0 - 1) (by omega)
    rw [e1, e2, bI_some, bI_some, if_neg m10, if_neg m10]
    simp only [ckI hk6 (show 6 < 2 ^ 31 by omega), nI_clamp (show k < 2 ^ 31 by omega), p4, q4]
    by_cases h9 : X 7 k = 9
    · rw [h9, isStuff_0 (by omega) (by omega), bI_some, if_pos rfl, if_pos rfl]
      exact opp_now h _
    · have h5 : X 7 k < 5 := by omega
      have i5' := i5 _ h5
      rw [isStuff_1 h5, bI_some, if_neg m10, if_neg (nI_nn h9 (by omega) (by omega))]
      simp only []
      rw [cq.2.1, if_pos (show nI 1 ≤ nI (X 0 1) by rw [nI_leE (by omega) (by omega)]; omega), q4, store_eq hk6 h5, bI_some]
      simp only []
      rw [cq.2.1, q5 _ h5, dv_in (nI_nn (b := 0) (by omega) (by omega) (by omega)), pk_div (by omega) (by omega) (by omega), placeOfC iv cq.2.2.2.2.2.2.2 s1 s2, bI_some]
      simp only []
      rw [pk_mul, nI_add, ckI (by omega) (by omega), ckI (by omega) (by omega), nI_clamp (by omega), nI_clamp (by omega), mq.2.1, dv_in (nI_nn (b := 0) (by omega) (by omega) (by omega)), p5 _ h5, pk_div (by omega) (by omega) (by omega), cq.1, mq.1, pk_sub (by omega), ckI (by omega) (by omega), nI_clamp (by omega), ml]
      have hq : X (10 + k) (X 7 k) / X 0 1 ≤ 99 := Nat.le_trans (Nat.div_le_self _ _) i5'
      generalize X (10 + k) (X 7 k) / X 0 1 = q at *
      have hm1 : imin (nI q) (nI 99) = nI q := if_neg (nI_nlt (by omega) (by omega))
      have hm2 : imin (nI 99) (nI q) = nI q := by
        unfold imin
        by_cases e : q = 99
        · rw [e]; decide
        · rw [if_pos (nI_lt (by omega) (by omega))]
      rw [hm1, hm2]
      have hfin : Opp (if nI (plc X k) = nI (X 0 0 - 1) then (if nI 1 = nI 0 then some (nI q, S) else if nI q ≤ nI 0 then some (nI q, S) else some (nI 99, S)) else (if nI 0 = nI 0 then some (nI q, S) else if nI q ≤ nI 0 then some (nI q, S) else some (nI 99, S))) (if nI (X 6 (X 0 0 - 1)) = nI k then (if nI q = nI 0 then some (nI 0, T) else some (nI 99, T)) else some (nI q, T)) := by
        by_cases e : plc X k = X 0 0 - 1
        · rw [if_pos (show nI (plc X k) = nI (X 0 0 - 1) by rw [e]), if_neg m10, if_pos (show nI (X 6 (X 0 0 - 1)) = nI k by rw [← e, s2])]
          by_cases q0 : q = 0
          · rw [q0, if_pos (show nI 0 ≤ nI 0 by decide), if_pos rfl]; exact opp_now h _
          · rw [if_neg (show ¬ nI q ≤ nI 0 from nI_ge (by omega) (by omega)), if_neg (nI_nn q0 (by omega) (by omega))]; exact opp_now h _
        · rw [if_neg (nI_nn e (by omega) (by omega)), if_pos rfl, if_neg (nI_nn (fun e2 => e (iv.2.2.2.2.2.2.2.2.2.2 _ _ s1 (by omega) (s2.trans e2.symm))) (by omega) (by omega))]; exact opp_now h _
      exact hfin
  · rw [e1, e2, bI_some, bI_some, if_pos rfl, if_pos rfl]
    exact opp_now h _
