/-! PURE ROWS. Ok: the mirror answers, and its answer has P -/
def Ok {ρ : Type} (M : Option ρ) (P : ρ → Prop) : Prop := ∃ z, M = some z ∧ P z
theorem ok_some {ρ : Type} {z : ρ} {P : ρ → Prop} (h : P z) : Ok (some z) P := ⟨z, rfl, h⟩
theorem Ok.mono {ρ : Type} {M : Option ρ} {P Q : ρ → Prop} (h : Ok M P) (k : ∀ z, P z → Q z) : Ok M Q := ⟨h.choose, h.choose_spec.1, k _ h.choose_spec.2⟩
theorem bI_some {ρ : Type} (z : Int32 × St) (K : Int32 → St → Option ρ) : bI (some z) K = K z.1 z.2 := rfl
theorem bV_some {ρ : Type} (z : St) (K : St → Option ρ) : bV (some z) K = K z := rfl
theorem bnd_eq {α β : Type} (x : α) (f : α → β) : bnd x f = f x := rfl
theorem ok_bI {ρ : Type} {g : Option (Int32 × St)} {K : Int32 → St → Option ρ} {R : Int32 × St → Prop} {P : ρ → Prop} (h : Ok g R) (k : ∀ x S, R (x, S) → Ok (K x S) P) : Ok (bI g K) P := by
  obtain ⟨⟨x, S⟩, e, r⟩ := h
  rw [e]
  exact k x S r
theorem ok_bV {ρ : Type} {g : Option St} {K : St → Option ρ} {R : St → Prop} {P : ρ → Prop} (h : Ok g R) (k : ∀ S, R S → Ok (K S) P) : Ok (bV g K) P := by
  obtain ⟨S, e, r⟩ := h
  rw [e]
  exact k S r
theorem ok_if {ρ : Type} {c : Prop} [Decidable c] {A B : Option ρ} {P : ρ → Prop} (h1 : c → Ok A P) (h2 : ¬ c → Ok B P) : Ok (if c then A else B) P := by
  by_cases h : c
  · rw [if_pos h]; exact h1 h
  · rw [if_neg h]; exact h2 h
theorem ckI {ρ : Type} {k n : Nat} {M : Option ρ} (h : k < n) (hn : n < 2 ^ 31) : ckM (nI k) n M = M := if_neg (nI_in h hn)
theorem dv_in {ρ : Type} {y : Int32} {M : Option ρ} (h : y ≠ 0) : dvM y M = M := if_neg h
theorem nz_0 {ρ : Type} (M : Option ρ) : nzM 0 M = M := if_pos (Or.inl rfl)
theorem nz_1 {ρ : Type} (M : Option ρ) : nzM 1 M = M := if_pos (Or.inr rfl)
theorem up2_hit {S : St} {o k q j : Nat} {v : Int32} (hq : q = o) (hj : j = k) : up2 S o k v q j = v := by
  subst hq; subst hj
  unfold up2; rw [upR_self]; exact if_pos rfl
theorem up2_o {S : St} {o k q j : Nat} {v : Int32} (hq : q ≠ o) : up2 S o k v q j = S q j := by
  unfold up2; rw [upR_ne S _ hq]
theorem up2_k {S : St} {o k q j : Nat} {v : Int32} (hj : j ≠ k) : up2 S o k v q j = S q j := by
  by_cases hq : q = o
  · subst hq; unfold up2; rw [upR_self]; exact if_neg hj
  · exact up2_o hq
theorem up2_n {S : St} {o k q j : Nat} {v : Int32} (h : ¬ (q = o ∧ j = k)) : up2 S o k v q j = S q j := by
  by_cases hq : q = o
  · exact up2_k (fun hj => h ⟨hq, hj⟩)
  · exact up2_o hq
theorem lits : (0 : Int32) = nI 0 ∧ (1 : Int32) = nI 1 ∧ (2 : Int32) = nI 2 ∧ (3 : Int32) = nI 3 ∧ (4 : Int32) = nI 4 ∧ (5 : Int32) = nI 5 ∧ (6 : Int32) = nI 6 ∧ (7 : Int32) = nI 7 ∧ (8 : Int32) = nI 8 ∧ (9 : Int32) = nI 9 ∧ (10 : Int32) = nI 10 ∧ (20 : Int32) = nI 20 ∧ (29 : Int32) = nI 29 ∧ (30 : Int32) = nI 30 ∧ (99 : Int32) = nI 99 ∧ (100 : Int32) = nI 100 ∧ (160 : Int32) = nI 160 ∧ (999 : Int32) = nI 999 ∧ (2147483647 : Int32) = nI 2147483647 := ⟨rfl, rfl, rfl, rfl, rfl, rfl, rfl, rfl, rfl, rfl, rfl, rfl, rfl, rfl, rfl, rfl, rfl, rfl, rfl⟩
theorem nI_nneg {a : Nat} (ha : a < 2 ^ 31) : (nI a = -nI 1) = False := by
  apply eq_false
  intro h
  have h1 := nI_toInt ha
  rw [h] at h1
  have h2 : (-nI 1 : Int32).toInt = -1 := by decide
  omega
theorem nI_eqE {a b : Nat} (ha : a < 2 ^ 31) (hb : b < 2 ^ 31) : (nI a = nI b) = (a = b) := propext (nI_eq ha hb)
theorem nI_leE {a b : Nat} (ha : a < 2 ^ 31) (hb : b < 2 ^ 31) : (nI a ≤ nI b) = (a ≤ b) := propext (nI_leI ha hb)
theorem nI_ltE {a b : Nat} (ha : a < 2 ^ 31) (hb : b < 2 ^ 31) : (nI a < nI b) = (a < b) := propext (nI_ltI ha hb)
theorem nI_rem {a d : Nat} (ha : a < 2 ^ 31) (h0 : 0 < d) (hd : d < 2 ^ 31) : nI a - nI a / nI d * nI d = nI (a % d) := pk_rem ha h0 hd
/-- frames: outside P nothing has changed -/
def Fr (P : Nat → Nat → Prop) (S S' : St) : Prop := ∀ q j, ¬ P q j → S' q j = S q j
theorem Fr.rfl {P : Nat → Nat → Prop} {S : St} : Fr P S S := fun _ _ _ => Eq.refl _
theorem Fr.tr {P : Nat → Nat → Prop} {S S' S'' : St} (h : Fr P S S') (k : Fr P S' S'') : Fr P S S'' := fun q j hp => (k q j hp).trans (h q j hp)
theorem Fr.mono {P Q : Nat → Nat → Prop} {S S' : St} (h : Fr P S S') (k : ∀ q j, P q j → Q q j) : Fr Q S S' := fun q j hp => h q j (fun hh => hp (k q j hh))
theorem Fr.up {P : Nat → Nat → Prop} {S S' : St} {o k : Nat} {v : Int32} (h : Fr P S S') (hp : P o k) : Fr P S (up2 S' o k v) := fun q j hq => by
  have hn : ¬ (q = o ∧ j = k) := by
    rintro ⟨rfl, rfl⟩
    exact hq hp
  rw [up2_n hn]
  exact h q j hq
/-! THE NOON on paper, in whole numbers. X 0: 0 houses, 1 grains, 2 twice, 3 colder, 4 day, 5 poisoner (99 none), 6 its grains, 7 the stranger's place (99 none), 8 its ladle; X 1 the pot; X 2 ladles, X 3 likes, X 4 bars; X 6 line; X 7 puts; X (10 + h) stores -/
abbrev Cf : Type := Nat → Nat → Nat
def sm6 (p : Nat → Nat) : Nat := p 0 + p 1 + p 2 + p 3 + p 4 + p 5
def tk (p : Nat → Nat) (L : Nat) (s : Nat) : Nat := if sm6 p ≤ L then p s else p s * L / sm6 p
def ladOf (X : Cf) (pl h : Nat) : Nat := if pl + 1 = X 0 0 then 2147483647 else X 2 h
abbrev dP (X : Cf) (h : Nat) : Prop := X 7 h ≠ 9 ∧ X 0 1 ≤ X (10 + h) (X 7 h)
def stQ (X : Cf) (pl : Nat) (p : Nat → Nat) (s : Nat) : Nat := if pl = X 0 7 then p s - tk p (X 0 8) s else p s
def ad1 (X : Cf) (h s : Nat) : Nat := if dP X h ∧ s = X 7 h then X 0 1 else 0
def ad2 (X : Cf) (h s : Nat) : Nat := if h = X 0 5 ∧ s = 5 then X 0 6 else 0
def pt0 (X : Cf) (s : Nat) : Nat := if s < 5 then (if (X 0 4 + 1) % 7 = 0 then 2 else 1) * X 1 s else 0
def ptS (X : Cf) : Nat → Nat → Nat
  | 0 => pt0 X
  | pl + 1 => fun s => stQ X pl (ptS X pl) s - tk (stQ X pl (ptS X pl)) (ladOf X pl (X 6 pl)) s + ad1 X (X 6 pl) s + ad2 X (X 6 pl) s
def ptQ (X : Cf) (pl : Nat) : Nat → Nat := stQ X pl (ptS X pl)
def gtP (X : Cf) (pl s : Nat) : Nat := tk (ptQ X pl) (ladOf X pl (X 6 pl)) s
def sgP (X : Cf) (s : Nat) : Nat := tk (ptS X (X 0 7)) (X 0 8) s
def ah (X : Cf) : Nat → Int32
  | 0 => nI 0
  | pl + 1 => if dP X (X 6 pl) then ah X pl ||| (nI 1 <<< (nI (X 7 (X 6 pl)) &&& 31)) else ah X pl
abbrev hasB (m : Int32) (k : Nat) : Prop := ((m >>> (nI k &&& 31)) &&& nI 1) = nI 1
def bk (X : Cf) : Nat → Int32
  | 0 => -nI 1
  | pl + 1 => if dP X (X 6 pl) ∧ bk X pl = -nI 1 ∧ X 0 2 = 1 ∧ hasB (ah X pl) (X 7 (X 6 pl)) then nI (X 6 pl) else bk X pl
/-- what is always so of a street -/
def Iv (X : Cf) : Prop := X 0 0 ≤ 6 ∧ X 0 1 ≤ 30 ∧ X 0 2 ≤ 1 ∧ X 0 3 ≤ 20 ∧ X 0 4 ≤ 1100 ∧ X 0 6 ≤ 99 ∧ X 0 8 ≤ 99 ∧ (∀ s, s < 5 → X 1 s ≤ 99) ∧ (∀ h, h < X 0 0 → X 2 h ≤ 99 ∧ X 3 h ≤ 4 ∧ X 4 h ≤ 5 ∧ (X 7 h ≤ 4 ∨ X 7 h = 9) ∧ (∀ s, s < 5 → X (10 + h) s ≤ 99)) ∧ (∀ p, p < X 0 0 → X 6 p < X 0 0) ∧ (∀ p q, p < X 0 0 → q < X 0 0 → X 6 p = X 6 q → p = q)
theorem tk_le (p : Nat → Nat) (L s : Nat) (hs : s < 6) : tk p L s ≤ p s := by
  unfold tk
  by_cases h : sm6 p ≤ L
  · rw [if_pos h]; exact Nat.le_refl _
  · rw [if_neg h]
    have h1 : L ≤ sm6 p := by omega
    apply Nat.div_le_of_le_mul
    rw [Nat.mul_comm (sm6 p)]
    exact Nat.mul_le_mul_left _ h1
theorem stQ_le (X : Cf) (pl : Nat) (p : Nat → Nat) (s : Nat) : stQ X pl p s ≤ p s := by
  unfold stQ
  by_cases h : pl = X 0 7
  · rw [if_pos h]; omega
  · rw [if_neg h]; omega
theorem ad1_le {X : Cf} (h : Iv X) (a s : Nat) : ad1 X a s ≤ 30 := by
  unfold ad1
  have := h.2.1
  split <;> omega
theorem ad2_le {X : Cf} (h : Iv X) (a s : Nat) : ad2 X a s ≤ 99 := by
  unfold ad2
  have := h.2.2.2.2.2.1
  split <;> omega
theorem ptS_le {X : Cf} (h : Iv X) : ∀ (pl s : Nat), s < 6 → ptS X pl s ≤ 198 + 129 * pl
  | 0, s, hs => by
    show pt0 X s ≤ _
    unfold pt0
    by_cases h5 : s < 5
    · rw [if_pos h5]
      have := h.2.2.2.2.2.2.2.1 s h5
      split <;> omega
    · rw [if_neg h5]; omega
  | pl + 1, s, hs => by
    show stQ X pl (ptS X pl) s - tk (stQ X pl (ptS X pl)) (ladOf X pl (X 6 pl)) s + ad1 X (X 6 pl) s + ad2 X (X 6 pl) s ≤ _
    have h1 := ptS_le h pl s hs
    have h2 := stQ_le X pl (ptS X pl) s
    have h3 := ad1_le h (X 6 pl) s
    have h4 := ad2_le h (X 6 pl) s
    omega
theorem ptQ_le {X : Cf} (h : Iv X) (pl s : Nat) (hs : s < 6) : ptQ X pl s ≤ 198 + 129 * pl := Nat.le_trans (stQ_le X pl _ s) (ptS_le h pl s hs)
theorem gtP_le {X : Cf} (h : Iv X) (pl s : Nat) (hs : s < 6) : gtP X pl s ≤ 198 + 129 * pl := Nat.le_trans (tk_le _ _ _ hs) (ptQ_le h pl s hs)
