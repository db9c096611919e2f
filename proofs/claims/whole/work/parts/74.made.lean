/-! THE MADE OBJECTS: where each lies, what it holds -/
def piC (i : Nat) : Nat := if i < 16 then i else if i < 20 then 16 + 3 * (i - 16) else if i < 24 then 17 + 3 * (i - 20) else if i < 28 then 18 + 3 * (i - 24) else if i < 50 then i else if i = 50 then 80 else if i < 81 then i - 1 else if i < 113 then i else if i = 113 then 120 else if i < 121 then i - 1 else i
def aCf (n0 : Nat) (r : Nat → Nat) (i : Nat) : Nat := if 200 ≤ i then r i else n0 + piC i
def aMf (n0 : Nat) (r : Nat → Nat) (i : Nat) : Nat := if 200 ≤ i then r i else n0 + (132 + i)
theorem piC_lt : ∀ i, i < 132 → piC i < 132 := by decide +kernel
theorem piC_inj : ∀ i, i < 132 → ∀ j, j < 132 → piC i = piC j → i = j := by decide +kernel
def S0s : St := fun q => if q = 0 then (fun j => if j = 5 then -1 else 0) else if q = 111 then (fun j => if j = 6 ∨ j = 8 ∨ j = 9 ∨ j = 11 then -1 else 0) else if q = 130 then (fun j => if j = 4 then -1 else 0) else fun _ => 0
def T0s : St := fun q => if q = 0 then (fun j => if j = 31 ∨ j = 40 ∨ j = 42 then -1 else 0) else fun _ => 0
theorem rel_0 : Rel S0s T0s := by
  refine rel_init (fun q j h => ?_) (fun q j h => ?_)
  · unfold S0s
    by_cases h0 : q = 0
    · rw [if_pos h0]
      by_cases h5 : j = 5
      · rw [if_pos h5, if_pos (by omega)]; rfl
      · rw [if_neg h5, if_neg (by omega)]; rfl
    · rw [if_neg h0]
      by_cases h1 : q = 111
      · have h6 : j = 6 := by unfold kC at h; omega
        rw [if_pos h1, if_pos (Or.inl h6), if_pos (by omega)]; rfl
      · rw [if_neg h1]
        have h2 : ¬ q = 130 := by unfold kC at h; omega
        rw [if_neg h2, if_neg (by omega)]; rfl
  · unfold T0s
    by_cases h0 : q = 0
    · rw [if_pos h0]
      by_cases h5 : j = 31 ∨ j = 40 ∨ j = 42
      · rw [if_pos h5, if_pos ⟨h0, h5⟩]; rfl
      · rw [if_neg h5, if_neg (fun z => h5 z.2)]; rfl
    · rw [if_neg h0, if_neg (fun z => h0 z.1)]; rfl
theorem arrV_cg {c : ClassId} {n : Nat} {f g : Nat → Value} (h : ∀ j, j < n → f j = g j) : arrV c n f = arrV c n g := by
  unfold arrV
  have e : (fun j : Fin n => f j.val) = fun j : Fin n => g j.val := funext fun j => h j.val j.isLt
  rw [e]
def eqE (x y : va_E) : Prop := x = y ∨ ∃ (c : ClassId) (n : Nat) (g g' : Nat → Option Nat), x = .inl (c, n, .inr (.inr (.inr (.inr g)))) ∧ y = .inl (c, n, .inr (.inr (.inr (.inr g')))) ∧ ∀ j, j < n → g j = g' j
theorem eqE_row {c : ClassId} {n : Nat} {g g' : Nat → Option Nat} (h : ∀ j, j < n → g j = g' j) : eqE (.inl (c, n, .inr (.inr (.inr (.inr g))))) (.inl (c, n, .inr (.inr (.inr (.inr g'))))) := Or.inr ⟨c, n, g, g', rfl, rfl, h⟩
theorem eqE_at {D : va_G} {cl : List vw_C} {q : Nat} {x y : va_E} {H : Heap} (h : eqE x y) (hx : va_at D cl (q, x) H) : va_at D cl (q, y) H := by
  rcases h with rfl | ⟨c, n, g, g', rfl, rfl, h⟩
  · exact hx
  · have hx : H[q]? = some (vp_cell c (n, .inr (.inr (.inr (.inr g))))) := hx
    show H[q]? = some (vp_cell c (n, .inr (.inr (.inr (.inr g')))))
    rw [hx, vp_cell_q, vp_cell_q]
    congr 1
    exact arrV_cg (fun j hj => by rw [h j hj])
def E0N : Nat → va_E := fun _ => .inr (0, [])
def E1N : Nat → va_E := va_up E0N 0 (.inr (9, [.null, .null, .null, .null, .int 0, .int 0, .null, .null, .null, .null, .int 0, .null, .null, .null, .null]))
def E2N (n0 : Nat) (ca : Nat → ClassId) (r : Nat → Nat) : Nat → va_E := k_N_0_e49 n0 ca (aCf n0 r) E1N
def E3N (n0 : Nat) (ca : Nat → ClassId) (r : Nat → Nat) : Nat → va_E := va_up (E2N n0 ca r) 132 (.inr (10, [.int 0, .null, .null, .null, .null, .null, .int 0, .int 0, .int 0, .int 0, .int 0, .int 0, .int 0, .int 0, .int 0, .null, .null, .int 0, .null, .null, .null, .null, .null, .null, .int 0, .int 0, .int 0, .int 0, .null, .null, .null, .int 0, .int 0, .null, .null, .null, .null, .null, .null, .int 0, .int 0, .int 0, .int 0, .int 0, .null, .null, .int 0, .null, .null, .int 0, .int 0, .int 0, .null, .null, .null, .null, .null, .int 0, .int 0]))
def E4N (n0 : Nat) (ca : Nat → ClassId) (r : Nat → Nat) : Nat → va_E := k_M_132_e62 n0 ca (aMf n0 r) (E3N n0 ca r)
set_option maxRecDepth 100000 in
set_option maxHeartbeats 40000000 in
theorem made_eC (n0 : Nat) (ca : Nat → ClassId) (r : Nat → Nat) : ∀ o, o < 132 → eqE (E2N n0 ca r (piC o)) (enx ca (aCf n0 r) (tpC.getD o (.inr (0, 0, 0))) (S0s o))
  | 0, _ => Or.inl rfl
  | 1, _ => Or.inl rfl
  | 2, _ => Or.inl rfl
  | 3, _ => Or.inl rfl
  | 4, _ => Or.inl rfl
  | 5, _ => eqE_row (fun j hj => by
      rcases (show j = 0 ∨ j = 1 ∨ j = 2 ∨ j = 3 ∨ j = 4 ∨ j = 5 by omega) with rfl | rfl | rfl | rfl | rfl | rfl <;> rfl)
  | 6, _ => Or.inl rfl
  | 7, _ => Or.inl rfl
  | 8, _ => Or.inl rfl
  | 9, _ => Or.inl rfl
  | 10, _ => Or.inl rfl
  | 11, _ => Or.inl rfl
  | 12, _ => Or.inl rfl
  | 13, _ => Or.inl rfl
  | 14, _ => Or.inl rfl
  | 15, _ => eqE_row (fun j hj => by
      rcases (show j = 0 ∨ j = 1 ∨ j = 2 ∨ j = 3 by omega) with rfl | rfl | rfl | rfl <;> rfl)
  | 16, _ => Or.inl rfl
  | 17, _ => Or.inl rfl
  | 18, _ => Or.inl rfl
  | 19, _ => Or.inl rfl
  | 20, _ => Or.inl rfl
  | 21, _ => Or.inl rfl
  | 22, _ => Or.inl rfl
  | 23, _ => Or.inl rfl
  | 24, _ => Or.inl rfl
  | 25, _ => Or.inl rfl
  | 26, _ => Or.inl rfl
  | 27, _ => Or.inl rfl
  | 28, _ => Or.inl rfl
  | 29, _ => Or.inl rfl
  | 30, _ => Or.inl rfl
  | 31, _ => Or.inl rfl
  | 32, _ => Or.inl rfl
  | 33, _ => Or.inl rfl
  | 34, _ => Or.inl rfl
  | 35, _ => Or.inl rfl
  | 36, _ => Or.inl rfl
  | 37, _ => Or.inl rfl
  | 38, _ => Or.inl rfl
  | 39, _ => Or.inl rfl
  | 40, _ => Or.inl rfl
  | 41, _ => Or.inl rfl
  | 42, _ => Or.inl rfl
  | 43, _ => Or.inl rfl
  | 44, _ => Or.inl rfl
  | 45, _ => Or.inl rfl
  | 46, _ => Or.inl rfl
  | 47, _ => Or.inl rfl
  | 48, _ => Or.inl rfl
  | 49, _ => eqE_row (fun j hj => by
      rcases (show j = 0 ∨ j = 1 ∨ j = 2 ∨ j = 3 ∨ j = 4 ∨ j = 5 ∨ j = 6 ∨ j = 7 ∨ j = 8 ∨ j = 9 ∨ j = 10 ∨ j = 11 ∨ j = 12 ∨ j = 13 ∨ j = 14 ∨ j = 15 ∨ j = 16 ∨ j = 17 ∨ j = 18 ∨ j = 19 ∨ j = 20 ∨ j = 21 ∨ j = 22 ∨ j = 23 ∨ j = 24 ∨ j = 25 ∨ j = 26 ∨ j = 27 ∨ j = 28 ∨ j = 29 by omega) with rfl | rfl | rfl | rfl | rfl | rfl | rfl | rfl | rfl | rfl | rfl | rfl | rfl | rfl | rfl | rfl | rfl | rfl | rfl | rfl | rfl | rfl | rfl | rfl | rfl | rfl | rfl | rfl | rfl | rfl <;> rfl)
  | 50, _ => eqE_row (fun j hj => by
      rcases (show j = 0 ∨ j = 1 ∨ j = 2 ∨ j = 3 ∨ j = 4 ∨ j = 5 ∨ j = 6 ∨ j = 7 ∨ j = 8 ∨ j = 9 ∨ j = 10 ∨ j = 11 ∨ j = 12 ∨ j = 13 ∨ j = 14 ∨ j = 15 ∨ j = 16 ∨ j = 17 ∨ j = 18 ∨ j = 19 ∨ j = 20 ∨ j = 21 ∨ j = 22 ∨ j = 23 ∨ j = 24 ∨ j = 25 ∨ j = 26 ∨ j = 27 ∨ j = 28 ∨ j = 29 by omega) with rfl | rfl | rfl | rfl | rfl | rfl | rfl | rfl | rfl | rfl | rfl | rfl | rfl | rfl | rfl | rfl | rfl | rfl | rfl | rfl | rfl | rfl | rfl | rfl | rfl | rfl | rfl | rfl | rfl | rfl <;> rfl)
  | 51, _ => Or.inl rfl
  | 52, _ => Or.inl rfl
  | 53, _ => Or.inl rfl
  | 54, _ => Or.inl rfl
  | 55, _ => Or.inl rfl
  | 56, _ => Or.inl rfl
  | 57, _ => Or.inl rfl
  | 58, _ => Or.inl rfl
  | 59, _ => Or.inl rfl
  | 60, _ => Or.inl rfl
  | 61, _ => Or.inl rfl
  | 62, _ => Or.inl rfl
  | 63, _ => Or.inl rfl
  | 64, _ => Or.inl rfl
  | 65, _ => Or.inl rfl
  | 66, _ => Or.inl rfl
  | 67, _ => Or.inl rfl
  | 68, _ => Or.inl rfl
  | 69, _ => Or.inl rfl
  | 70, _ => Or.inl rfl
  | 71, _ => Or.inl rfl
  | 72, _ => Or.inl rfl
  | 73, _ => Or.inl rfl
  | 74, _ => Or.inl rfl
  | 75, _ => Or.inl rfl
  | 76, _ => Or.inl rfl
  | 77, _ => Or.inl rfl
  | 78, _ => Or.inl rfl
  | 79, _ => Or.inl rfl
  | 80, _ => Or.inl rfl
  | 81, _ => Or.inl rfl
  | 82, _ => Or.inl rfl
  | 83, _ => Or.inl rfl
  | 84, _ => Or.inl rfl
  | 85, _ => Or.inl rfl
  | 86, _ => Or.inl rfl
  | 87, _ => Or.inl rfl
  | 88, _ => Or.inl rfl
  | 89, _ => Or.inl rfl
  | 90, _ => Or.inl rfl
  | 91, _ => Or.inl rfl
  | 92, _ => Or.inl rfl
  | 93, _ => Or.inl rfl
  | 94, _ => Or.inl rfl
  | 95, _ => Or.inl rfl
  | 96, _ => Or.inl rfl
  | 97, _ => Or.inl rfl
  | 98, _ => Or.inl rfl
  | 99, _ => Or.inl rfl
  | 100, _ => Or.inl rfl
  | 101, _ => Or.inl rfl
  | 102, _ => Or.inl rfl
  | 103, _ => Or.inl rfl
  | 104, _ => Or.inl rfl
  | 105, _ => Or.inl rfl
  | 106, _ => Or.inl rfl
  | 107, _ => Or.inl rfl
  | 108, _ => Or.inl rfl
  | 109, _ => Or.inl rfl
  | 110, _ => Or.inl rfl
  | 111, _ => Or.inl rfl
  | 112, _ => eqE_row (fun j hj => by
      rcases (show j = 0 ∨ j = 1 ∨ j = 2 ∨ j = 3 ∨ j = 4 ∨ j = 5 ∨ j = 6 by omega) with rfl | rfl | rfl | rfl | rfl | rfl | rfl <;> rfl)
  | 113, _ => eqE_row (fun j hj => by
      rcases (show j = 0 ∨ j = 1 ∨ j = 2 ∨ j = 3 ∨ j = 4 ∨ j = 5 by omega) with rfl | rfl | rfl | rfl | rfl | rfl <;> rfl)
  | 114, _ => Or.inl rfl
  | 115, _ => Or.inl rfl
  | 116, _ => Or.inl rfl
  | 117, _ => Or.inl rfl
  | 118, _ => Or.inl rfl
  | 119, _ => Or.inl rfl
  | 120, _ => Or.inl rfl
  | 121, _ => Or.inl rfl
  | 122, _ => Or.inl rfl
  | 123, _ => Or.inl rfl
  | 124, _ => Or.inl rfl
  | 125, _ => Or.inl rfl
  | 126, _ => Or.inl rfl
  | 127, _ => Or.inl rfl
  | 128, _ => Or.inl rfl
  | 129, _ => Or.inl rfl
  | 130, _ => Or.inl rfl
  | 131, _ => Or.inl rfl
  | o + 132, h => absurd h (by omega)
theorem upE_ne {f : Nat → va_E} {k i : Nat} {v : va_E} (h : i ≠ k) : va_up f k v i = f i := if_neg h
theorem km_1 (n0 : Nat) (ca : Nat → ClassId) (a : Nat → Nat) (E : Nat → va_E) {i : Nat} (hi : i < 132) : k_M_132_e1 n0 ca a E i = E i := (upE_ne (by omega))
theorem km_2 (n0 : Nat) (ca : Nat → ClassId) (a : Nat → Nat) (E : Nat → va_E) {i : Nat} (hi : i < 132) : k_M_132_e2 n0 ca a E i = E i := (upE_ne (by omega)).trans (km_1 n0 ca a E hi)
theorem km_3 (n0 : Nat) (ca : Nat → ClassId) (a : Nat → Nat) (E : Nat → va_E) {i : Nat} (hi : i < 132) : k_M_132_e3 n0 ca a E i = E i := (upE_ne (by omega)).trans (km_2 n0 ca a E hi)
theorem km_4 (n0 : Nat) (ca : Nat → ClassId) (a : Nat → Nat) (E : Nat → va_E) {i : Nat} (hi : i < 132) : k_M_132_e4 n0 ca a E i = E i := (upE_ne (by omega)).trans (km_3 n0 ca a E hi)
theorem km_5 (n0 : Nat) (ca : Nat → ClassId) (a : Nat → Nat) (E : Nat → va_E) {i : Nat} (hi : i < 132) : k_M_132_e5 n0 ca a E i = E i := (upE_ne (by omega)).trans (km_4 n0 ca a E hi)
theorem km_6 (n0 : Nat) (ca : Nat → ClassId) (a : Nat → Nat) (E : Nat → va_E) {i : Nat} (hi : i < 132) : k_M_132_e6 n0 ca a E i = E i := (upE_ne (by omega)).trans (km_5 n0 ca a E hi)
theorem km_7 (n0 : Nat) (ca : Nat → ClassId) (a : Nat → Nat) (E : Nat → va_E) {i : Nat} (hi : i < 132) : k_M_132_e7 n0 ca a E i = E i := (upE_ne (by omega)).trans (km_6 n0 ca a E hi)
theorem km_8 (n0 : Nat) (ca : Nat → ClassId) (a : Nat → Nat) (E : Nat → va_E) {i : Nat} (hi : i < 132) : k_M_132_e8 n0 ca a E i = E i := (upE_ne (by omega)).trans (km_7 n0 ca a E hi)
theorem km_9 (n0 : Nat) (ca : Nat → ClassId) (a : Nat → Nat) (E : Nat → va_E) {i : Nat} (hi : i < 132) : k_M_132_e9 n0 ca a E i = E i := (upE_ne (by omega)).trans (km_8 n0 ca a E hi)
theorem km_10 (n0 : Nat) (ca : Nat → ClassId) (a : Nat → Nat) (E : Nat → va_E) {i : Nat} (hi : i < 132) : k_M_132_e10 n0 ca a E i = E i := (upE_ne (by omega)).trans (km_9 n0 ca a E hi)
theorem km_11 (n0 : Nat) (ca : Nat → ClassId) (a : Nat → Nat) (E : Nat → va_E) {i : Nat} (hi : i < 132) : k_M_132_e11 n0 ca a E i = E i := (upE_ne (by omega)).trans (km_10 n0 ca a E hi)
theorem km_12 (n0 : Nat) (ca : Nat → ClassId) (a : Nat → Nat) (E : Nat → va_E) {i : Nat} (hi : i < 132) : k_M_132_e12 n0 ca a E i = E i := (upE_ne (by omega)).trans (km_11 n0 ca a E hi)
theorem km_13 (n0 : Nat) (ca : Nat → ClassId) (a : Nat → Nat) (E : Nat → va_E) {i : Nat} (hi : i < 132) : k_M_132_e13 n0 ca a E i = E i := (upE_ne (by omega)).trans (km_12 n0 ca a E hi)
theorem km_14 (n0 : Nat) (ca : Nat → ClassId) (a : Nat → Nat) (E : Nat → va_E) {i : Nat} (hi : i < 132) : k_M_132_e14 n0 ca a E i = E i := (upE_ne (by omega)).trans (km_13 n0 ca a E hi)
theorem km_15 (n0 : Nat) (ca : Nat → ClassId) (a : Nat → Nat) (E : Nat → va_E) {i : Nat} (hi : i < 132) : k_M_132_e15 n0 ca a E i = E i := (upE_ne (by omega)).trans (km_14 n0 ca a E hi)
theorem km_16 (n0 : Nat) (ca : Nat → ClassId) (a : Nat → Nat) (E : Nat → va_E) {i : Nat} (hi : i < 132) : k_M_132_e16 n0 ca a E i = E i := (upE_ne (by omega)).trans (km_15 n0 ca a E hi)
theorem km_17 (n0 : Nat) (ca : Nat → ClassId) (a : Nat → Nat) (E : Nat → va_E) {i : Nat} (hi : i < 132) : k_M_132_e17 n0 ca a E i = E i := (upE_ne (by omega)).trans (km_16 n0 ca a E hi)
theorem km_18 (n0 : Nat) (ca : Nat → ClassId) (a : Nat → Nat) (E : Nat → va_E) {i : Nat} (hi : i < 132) : k_M_132_e18 n0 ca a E i = E i := (upE_ne (by omega)).trans (km_17 n0 ca a E hi)
theorem km_19 (n0 : Nat) (ca : Nat → ClassId) (a : Nat → Nat) (E : Nat → va_E) {i : Nat} (hi : i < 132) : k_M_132_e19 n0 ca a E i = E i := (upE_ne (by omega)).trans (km_18 n0 ca a E hi)
theorem km_20 (n0 : Nat) (ca : Nat → ClassId) (a : Nat → Nat) (E : Nat → va_E) {i : Nat} (hi : i < 132) : k_M_132_e20 n0 ca a E i = E i := (upE_ne (by omega)).trans (km_19 n0 ca a E hi)
theorem km_21 (n0 : Nat) (ca : Nat → ClassId) (a : Nat → Nat) (E : Nat → va_E) {i : Nat} (hi : i < 132) : k_M_132_e21 n0 ca a E i = E i := (upE_ne (by omega)).trans (km_20 n0 ca a E hi)
theorem km_22 (n0 : Nat) (ca : Nat → ClassId) (a : Nat → Nat) (E : Nat → va_E) {i : Nat} (hi : i < 132) : k_M_132_e22 n0 ca a E i = E i := (upE_ne (by omega)).trans (km_21 n0 ca a E hi)
theorem km_23 (n0 : Nat) (ca : Nat → ClassId) (a : Nat → Nat) (E : Nat → va_E) {i : Nat} (hi : i < 132) : k_M_132_e23 n0 ca a E i = E i := (upE_ne (by omega)).trans (km_22 n0 ca a E hi)
theorem km_24 (n0 : Nat) (ca : Nat → ClassId) (a : Nat → Nat) (E : Nat → va_E) {i : Nat} (hi : i < 132) : k_M_132_e24 n0 ca a E i = E i := (upE_ne (by omega)).trans (km_23 n0 ca a E hi)
theorem km_25 (n0 : Nat) (ca : Nat → ClassId) (a : Nat → Nat) (E : Nat → va_E) {i : Nat} (hi : i < 132) : k_M_132_e25 n0 ca a E i = E i := (upE_ne (by omega)).trans (km_24 n0 ca a E hi)
theorem km_26 (n0 : Nat) (ca : Nat → ClassId) (a : Nat → Nat) (E : Nat → va_E) {i : Nat} (hi : i < 132) : k_M_132_e26 n0 ca a E i = E i := (upE_ne (by omega)).trans (km_25 n0 ca a E hi)
theorem km_27 (n0 : Nat) (ca : Nat → ClassId) (a : Nat → Nat) (E : Nat → va_E) {i : Nat} (hi : i < 132) : k_M_132_e27 n0 ca a E i = E i := (upE_ne (by omega)).trans (km_26 n0 ca a E hi)
theorem km_28 (n0 : Nat) (ca : Nat → ClassId) (a : Nat → Nat) (E : Nat → va_E) {i : Nat} (hi : i < 132) : k_M_132_e28 n0 ca a E i = E i := (upE_ne (by omega)).trans (km_27 n0 ca a E hi)
theorem km_29 (n0 : Nat) (ca : Nat → ClassId) (a : Nat → Nat) (E : Nat → va_E) {i : Nat} (hi : i < 132) : k_M_132_e29 n0 ca a E i = E i := (upE_ne (by omega)).trans (km_28 n0 ca a E hi)
theorem km_30 (n0 : Nat) (ca : Nat → ClassId) (a : Nat → Nat) (E : Nat → va_E) {i : Nat} (hi : i < 132) : k_M_132_e30 n0 ca a E i = E i := (upE_ne (by omega)).trans (km_29 n0 ca a E hi)
theorem km_31 (n0 : Nat) (ca : Nat → ClassId) (a : Nat → Nat) (E : Nat → va_E) {i : Nat} (hi : i < 132) : k_M_132_e31 n0 ca a E i = E i := (upE_ne (by omega)).trans (km_30 n0 ca a E hi)
theorem km_32 (n0 : Nat) (ca : Nat → ClassId) (a : Nat → Nat) (E : Nat → va_E) {i : Nat} (hi : i < 132) : k_M_132_e32 n0 ca a E i = E i := (upE_ne (by omega)).trans (km_31 n0 ca a E hi)
theorem km_33 (n0 : Nat) (ca : Nat → ClassId) (a : Nat → Nat) (E : Nat → va_E) {i : Nat} (hi : i < 132) : k_M_132_e33 n0 ca a E i = E i := (upE_ne (by omega)).trans (km_32 n0 ca a E hi)
theorem km_34 (n0 : Nat) (ca : Nat → ClassId) (a : Nat → Nat) (E : Nat → va_E) {i : Nat} (hi : i < 132) : k_M_132_e34 n0 ca a E i = E i := (upE_ne (by omega)).trans (km_33 n0 ca a E hi)
theorem km_35 (n0 : Nat) (ca : Nat → ClassId) (a : Nat → Nat) (E : Nat → va_E) {i : Nat} (hi : i < 132) : k_M_132_e35 n0 ca a E i = E i := (upE_ne (by omega)).trans (km_34 n0 ca a E hi)
theorem km_36 (n0 : Nat) (ca : Nat → ClassId) (a : Nat → Nat) (E : Nat → va_E) {i : Nat} (hi : i < 132) : k_M_132_e36 n0 ca a E i = E i := (upE_ne (by omega)).trans (km_35 n0 ca a E hi)
theorem km_37 (n0 : Nat) (ca : Nat → ClassId) (a : Nat → Nat) (E : Nat → va_E) {i : Nat} (hi : i < 132) : k_M_132_e37 n0 ca a E i = E i := (upE_ne (by omega)).trans (km_36 n0 ca a E hi)
theorem km_38 (n0 : Nat) (ca : Nat → ClassId) (a : Nat → Nat) (E : Nat → va_E) {i : Nat} (hi : i < 132) : k_M_132_e38 n0 ca a E i = E i := (upE_ne (by omega)).trans (km_37 n0 ca a E hi)
theorem km_39 (n0 : Nat) (ca : Nat → ClassId) (a : Nat → Nat) (E : Nat → va_E) {i : Nat} (hi : i < 132) : k_M_132_e39 n0 ca a E i = E i := (upE_ne (by omega)).trans (km_38 n0 ca a E hi)
theorem km_40 (n0 : Nat) (ca : Nat → ClassId) (a : Nat → Nat) (E : Nat → va_E) {i : Nat} (hi : i < 132) : k_M_132_e40 n0 ca a E i = E i := (upE_ne (by omega)).trans (km_39 n0 ca a E hi)
theorem km_41 (n0 : Nat) (ca : Nat → ClassId) (a : Nat → Nat) (E : Nat → va_E) {i : Nat} (hi : i < 132) : k_M_132_e41 n0 ca a E i = E i := (upE_ne (by omega)).trans (km_40 n0 ca a E hi)
theorem km_42 (n0 : Nat) (ca : Nat → ClassId) (a : Nat → Nat) (E : Nat → va_E) {i : Nat} (hi : i < 132) : k_M_132_e42 n0 ca a E i = E i := (upE_ne (by omega)).trans (km_41 n0 ca a E hi)
theorem km_43 (n0 : Nat) (ca : Nat → ClassId) (a : Nat → Nat) (E : Nat → va_E) {i : Nat} (hi : i < 132) : k_M_132_e43 n0 ca a E i = E i := (upE_ne (by omega)).trans (km_42 n0 ca a E hi)
theorem km_44 (n0 : Nat) (ca : Nat → ClassId) (a : Nat → Nat) (E : Nat → va_E) {i : Nat} (hi : i < 132) : k_M_132_e44 n0 ca a E i = E i := (upE_ne (by omega)).trans (km_43 n0 ca a E hi)
theorem km_45 (n0 : Nat) (ca : Nat → ClassId) (a : Nat → Nat) (E : Nat → va_E) {i : Nat} (hi : i < 132) : k_M_132_e45 n0 ca a E i = E i := (upE_ne (by omega)).trans (km_44 n0 ca a E hi)
theorem km_46 (n0 : Nat) (ca : Nat → ClassId) (a : Nat → Nat) (E : Nat → va_E) {i : Nat} (hi : i < 132) : k_M_132_e46 n0 ca a E i = E i := (upE_ne (by omega)).trans (km_45 n0 ca a E hi)
theorem km_47 (n0 : Nat) (ca : Nat → ClassId) (a : Nat → Nat) (E : Nat → va_E) {i : Nat} (hi : i < 132) : k_M_132_e47 n0 ca a E i = E i := (upE_ne (by omega)).trans (km_46 n0 ca a E hi)
theorem km_48 (n0 : Nat) (ca : Nat → ClassId) (a : Nat → Nat) (E : Nat → va_E) {i : Nat} (hi : i < 132) : k_M_132_e48 n0 ca a E i = E i := (upE_ne (by omega)).trans (km_47 n0 ca a E hi)
theorem km_49 (n0 : Nat) (ca : Nat → ClassId) (a : Nat → Nat) (E : Nat → va_E) {i : Nat} (hi : i < 132) : k_M_132_e49 n0 ca a E i = E i := (upE_ne (by omega)).trans (km_48 n0 ca a E hi)
theorem km_50 (n0 : Nat) (ca : Nat → ClassId) (a : Nat → Nat) (E : Nat → va_E) {i : Nat} (hi : i < 132) : k_M_132_e50 n0 ca a E i = E i := (upE_ne (by omega)).trans (km_49 n0 ca a E hi)
theorem km_51 (n0 : Nat) (ca : Nat → ClassId) (a : Nat → Nat) (E : Nat → va_E) {i : Nat} (hi : i < 132) : k_M_132_e51 n0 ca a E i = E i := (upE_ne (by omega)).trans (km_50 n0 ca a E hi)
theorem km_52 (n0 : Nat) (ca : Nat → ClassId) (a : Nat → Nat) (E : Nat → va_E) {i : Nat} (hi : i < 132) : k_M_132_e52 n0 ca a E i = E i := (upE_ne (by omega)).trans (km_51 n0 ca a E hi)
theorem km_53 (n0 : Nat) (ca : Nat → ClassId) (a : Nat → Nat) (E : Nat → va_E) {i : Nat} (hi : i < 132) : k_M_132_e53 n0 ca a E i = E i := (upE_ne (by omega)).trans (km_52 n0 ca a E hi)
theorem km_54 (n0 : Nat) (ca : Nat → ClassId) (a : Nat → Nat) (E : Nat → va_E) {i : Nat} (hi : i < 132) : k_M_132_e54 n0 ca a E i = E i := (upE_ne (by omega)).trans (km_53 n0 ca a E hi)
theorem km_55 (n0 : Nat) (ca : Nat → ClassId) (a : Nat → Nat) (E : Nat → va_E) {i : Nat} (hi : i < 132) : k_M_132_e55 n0 ca a E i = E i := (upE_ne (by omega)).trans (km_54 n0 ca a E hi)
theorem km_56 (n0 : Nat) (ca : Nat → ClassId) (a : Nat → Nat) (E : Nat → va_E) {i : Nat} (hi : i < 132) : k_M_132_e56 n0 ca a E i = E i := (upE_ne (by omega)).trans (km_55 n0 ca a E hi)
theorem km_57 (n0 : Nat) (ca : Nat → ClassId) (a : Nat → Nat) (E : Nat → va_E) {i : Nat} (hi : i < 132) : k_M_132_e57 n0 ca a E i = E i := (upE_ne (by omega)).trans (km_56 n0 ca a E hi)
theorem km_58 (n0 : Nat) (ca : Nat → ClassId) (a : Nat → Nat) (E : Nat → va_E) {i : Nat} (hi : i < 132) : k_M_132_e58 n0 ca a E i = E i := (upE_ne (by omega)).trans (km_57 n0 ca a E hi)
theorem km_59 (n0 : Nat) (ca : Nat → ClassId) (a : Nat → Nat) (E : Nat → va_E) {i : Nat} (hi : i < 132) : k_M_132_e59 n0 ca a E i = E i := (upE_ne (by omega)).trans (km_58 n0 ca a E hi)
theorem km_60 (n0 : Nat) (ca : Nat → ClassId) (a : Nat → Nat) (E : Nat → va_E) {i : Nat} (hi : i < 132) : k_M_132_e60 n0 ca a E i = E i := (upE_ne (by omega)).trans (km_59 n0 ca a E hi)
theorem km_61 (n0 : Nat) (ca : Nat → ClassId) (a : Nat → Nat) (E : Nat → va_E) {i : Nat} (hi : i < 132) : k_M_132_e61 n0 ca a E i = E i := (upE_ne (by omega)).trans (km_60 n0 ca a E hi)
theorem km_62 (n0 : Nat) (ca : Nat → ClassId) (a : Nat → Nat) (E : Nat → va_E) {i : Nat} (hi : i < 132) : k_M_132_e62 n0 ca a E i = E i := (upE_ne (by omega)).trans (km_61 n0 ca a E hi)
theorem made_24 (n0 : Nat) (ca : Nat → ClassId) (r : Nat → Nat) {i : Nat} (hi : i < 132) : E4N n0 ca r i = E2N n0 ca r i := (km_62 n0 ca (aMf n0 r) (E3N n0 ca r) hi).trans (upE_ne (by omega))
set_option maxRecDepth 100000 in
set_option maxHeartbeats 40000000 in
theorem made_eM (n0 : Nat) (ca : Nat → ClassId) (r : Nat → Nat) : ∀ o, o < 29 → E4N n0 ca r (132 + o) = enx ca (aMf n0 r) (tpM.getD o (.inr (0, 0, 0))) (T0s o)
  | 0, _ => rfl
  | 1, _ => rfl
  | 2, _ => rfl
  | 3, _ => rfl
  | 4, _ => rfl
  | 5, _ => rfl
  | 6, _ => rfl
  | 7, _ => rfl
  | 8, _ => rfl
  | 9, _ => rfl
  | 10, _ => rfl
  | 11, _ => rfl
  | 12, _ => rfl
  | 13, _ => rfl
  | 14, _ => rfl
  | 15, _ => rfl
  | 16, _ => rfl
  | 17, _ => rfl
  | 18, _ => rfl
  | 19, _ => rfl
  | 20, _ => rfl
  | 21, _ => rfl
  | 22, _ => rfl
  | 23, _ => rfl
  | 24, _ => rfl
  | 25, _ => rfl
  | 26, _ => rfl
  | 27, _ => rfl
  | 28, _ => rfl
  | o + 29, h => absurd h (by omega)
theorem aCf_at {n0 : Nat} {r : Nat → Nat} {o : Nat} (h : o < 132) : aCf n0 r o = n0 + piC o := if_neg (by omega)
theorem aMf_at {n0 : Nat} {r : Nat → Nat} {o : Nat} (h : o < 29) : aMf n0 r o = n0 + (132 + o) := if_neg (by omega)
set_option maxRecDepth 100000 in
theorem tpC_len : tpC.length = 132 := rfl
theorem tpM_len : tpM.length = 29 := rfl
theorem cells_inv {ca : Nat → ClassId} {a : Nat → Nat} {tp : List ODt} {S : St} {k : Nat} {q : Nat × va_E} (h : (cellsOf ca a tp S)[k]? = some q) : k < tp.length ∧ q = (a k, enx ca a (tp.getD k (.inr (0, 0, 0))) (S k)) := by
  rw [cells_get] at h
  cases hd : tp[k]? with
  | none => rw [hd] at h; cases h
  | some d =>
    rw [hd] at h
    have e : tp.getD k (.inr (0, 0, 0)) = d := by simp [List.getD, hd]
    refine ⟨(List.getElem?_eq_some_iff.mp hd).1, ?_⟩
    rw [e]
    exact (Option.some.inj h).symm
theorem made_C {D : va_G} {n0 N : Nat} {ca : Nat → ClassId} {r : Nat → Nat} {H : Heap} (hN : 132 ≤ N) (hw : va_P D vwCl (celE n0 N (E4N n0 ca r)) H) : Wd D ca tpC (aCf n0 r) (AC n0) S0s H := by
  refine ⟨fun k q hq => ?_, fun i j x y hi hj hxy => ?_, fun k q hq => ?_⟩
  · obtain ⟨h1, rfl⟩ := cells_inv hq
    rw [tpC_len] at h1
    have hp := piC_lt k h1
    have h2 := hw (piC k) _ (celE_at (n0 := n0) (show piC k < N by omega) rfl)
    rw [made_24 n0 ca r hp] at h2
    rw [aCf_at h1]
    exact eqE_at (made_eC n0 ca r k h1) h2
  · obtain ⟨h1, rfl⟩ := cells_inv hi
    obtain ⟨h2, rfl⟩ := cells_inv hj
    rw [tpC_len] at h1 h2
    have hxy : aCf n0 r i = aCf n0 r j := hxy
    rw [aCf_at h1, aCf_at h2] at hxy
    exact piC_inj i h1 j h2 (by omega)
  · obtain ⟨h1, rfl⟩ := cells_inv hq
    rw [tpC_len] at h1
    have hp := piC_lt k h1
    show AC n0 (aCf n0 r k)
    rw [aCf_at h1]
    unfold AC
    omega
theorem made_M {D : va_G} {n0 N : Nat} {ca : Nat → ClassId} {r : Nat → Nat} {H : Heap} (hN : 161 ≤ N) (hw : va_P D vwCl (celE n0 N (E4N n0 ca r)) H) : Wd D ca tpM (aMf n0 r) (AM n0) T0s H := by
  refine ⟨fun k q hq => ?_, fun i j x y hi hj hxy => ?_, fun k q hq => ?_⟩
  · obtain ⟨h1, rfl⟩ := cells_inv hq
    rw [tpM_len] at h1
    have h2 := hw (132 + k) _ (celE_at (n0 := n0) (show 132 + k < N by omega) rfl)
    rw [made_eM n0 ca r k h1] at h2
    rw [aMf_at h1]
    exact h2
  · obtain ⟨h1, rfl⟩ := cells_inv hi
    obtain ⟨h2, rfl⟩ := cells_inv hj
    rw [tpM_len] at h1 h2
    have hxy : aMf n0 r i = aMf n0 r j := hxy
    rw [aMf_at h1, aMf_at h2] at hxy
    omega
  · obtain ⟨h1, rfl⟩ := cells_inv hq
    rw [tpM_len] at h1
    show AM n0 (aMf n0 r k)
    rw [aMf_at h1]
    unfold AM
    omega
