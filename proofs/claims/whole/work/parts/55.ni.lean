/-! what a text is does not hang on what the letters stand for -/
def RR (S U : St) : Prop := (∀ q j, ¬ (q = 4 ∨ (q = 0 ∧ (j = 14 ∨ j = 17))) → S q j = U q j) ∧ S 0 5 = nI 0
def RO (P : Int32 → Int32 → Prop) (A B : Option (Int32 × St)) : Prop := (A = none ∧ B = none) ∨ ∃ x y S U, A = some (x, S) ∧ B = some (y, U) ∧ P x y ∧ RR S U
def RV (A B : Option St) : Prop := (A = none ∧ B = none) ∨ ∃ S U, A = some S ∧ B = some U ∧ RR S U
def pE (x y : Int32) : Prop := x = y
def pA (_ _ : Int32) : Prop := True
def pB (x y : Int32) : Prop := b01 x ∧ b01 y
theorem RO.b {P Q : Int32 → Int32 → Prop} {A B : Option (Int32 × St)} {K K' : Int32 → St → Option (Int32 × St)} (h : RO P A B) (k : ∀ x y S U, P x y → RR S U → RO Q (K x S) (K' y U)) : RO Q (bI A K) (bI B K') := by
  rcases h with ⟨h1, h2⟩ | ⟨x, y, S, U, h1, h2, h3, h4⟩
  · rw [h1, h2]; exact Or.inl ⟨rfl, rfl⟩
  · rw [h1, h2]; exact k x y S U h3 h4
theorem RO.bv {P : Int32 → Int32 → Prop} {A B : Option (Int32 × St)} {K K' : Int32 → St → Option St} (h : RO P A B) (k : ∀ x y S U, P x y → RR S U → RV (K x S) (K' y U)) : RV (bI A K) (bI B K') := by
  rcases h with ⟨h1, h2⟩ | ⟨x, y, S, U, h1, h2, h3, h4⟩
  · rw [h1, h2]; exact Or.inl ⟨rfl, rfl⟩
  · rw [h1, h2]; exact k x y S U h3 h4
theorem RV.b {A B : Option St} {K K' : St → Option St} (h : RV A B) (k : ∀ S U, RR S U → RV (K S) (K' U)) : RV (bV A K) (bV B K') := by
  rcases h with ⟨h1, h2⟩ | ⟨S, U, h1, h2, h4⟩
  · rw [h1, h2]; exact Or.inl ⟨rfl, rfl⟩
  · rw [h1, h2]; exact k S U h4
theorem RO.ite {P : Int32 → Int32 → Prop} {c : Prop} [Decidable c] {A B A' B' : Option (Int32 × St)} (h1 : c → RO P A B) (h2 : ¬ c → RO P A' B') : RO P (if c then A else A') (if c then B else B') := by
  by_cases h : c
  · rw [if_pos h, if_pos h]; exact h1 h
  · rw [if_neg h, if_neg h]; exact h2 h
theorem RV.ite {c : Prop} [Decidable c] {A B A' B' : Option St} (h1 : c → RV A B) (h2 : ¬ c → RV A' B') : RV (if c then A else A') (if c then B else B') := by
  by_cases h : c
  · rw [if_pos h, if_pos h]; exact h1 h
  · rw [if_neg h, if_neg h]; exact h2 h
theorem RO.ck {P : Int32 → Int32 → Prop} {i : Int32} {n : Nat} {A B : Option (Int32 × St)} (h : RO P A B) : RO P (ckM i n A) (ckM i n B) := by
  unfold ckM
  exact RO.ite (fun _ => Or.inl ⟨rfl, rfl⟩) (fun _ => h)
theorem RO.nz {P : Int32 → Int32 → Prop} {x : Int32} {A B : Option (Int32 × St)} (h : RO P A B) : RO P (nzM x A) (nzM x B) := by
  unfold nzM
  exact RO.ite (fun _ => h) (fun _ => Or.inl ⟨rfl, rfl⟩)
theorem RO.nzb {P : Int32 → Int32 → Prop} {x y : Int32} {A B : Option (Int32 × St)} (hp : pB x y) (h : RO P A B) : RO P (nzM x A) (nzM y B) := by
  rw [nz_b hp.1, nz_b hp.2]; exact h
theorem RO.now {P : Int32 → Int32 → Prop} {x y : Int32} {S U : St} (hp : P x y) (h : RR S U) : RO P (some (x, S)) (some (y, U)) := Or.inr ⟨x, y, S, U, rfl, rfl, hp, h⟩
theorem RV.now {S U : St} (h : RR S U) : RV (some S) (some U) := Or.inr ⟨S, U, rfl, rfl, h⟩
theorem RR.up {S U : St} {o k : Nat} {v w : Int32} (h : RR S U) (hv : v = w) (h5 : ¬ (o = 0 ∧ k = 5)) : RR (up2 S o k v) (up2 U o k w) := by
  subst hv
  refine ⟨fun q j hq => ?_, (up2_n (by omega)).trans h.2⟩
  by_cases e : q = o ∧ j = k
  · rw [up2_hit e.1 e.2, up2_hit e.1 e.2]
  · rw [up2_n e, up2_n e]; exact h.1 q j hq
theorem RR.up4 {S U : St} {j : Nat} {v w : Int32} (h : RR S U) (hj : j = 14 ∨ j = 17) : RR (up2 S 0 j v) (up2 U 0 j w) := by
  refine ⟨fun q i hq => ?_, (up2_n (by omega)).trans h.2⟩
  rw [up2_n (by omega), up2_n (by omega)]; exact h.1 q i hq
theorem RR.up4l {S U : St} {j : Nat} {v : Int32} (h : RR S U) (hj : j = 14 ∨ j = 17) : RR (up2 S 0 j v) U := by
  refine ⟨fun q i hq => ?_, (up2_n (by omega)).trans h.2⟩
  rw [up2_n (by omega)]; exact h.1 q i hq
theorem RR.up4r {S U : St} {j : Nat} {v : Int32} (h : RR S U) (hj : j = 14 ∨ j = 17) : RR S (up2 U 0 j v) := by
  refine ⟨fun q i hq => ?_, h.2⟩
  rw [up2_n (by omega)]; exact h.1 q i hq
theorem RR.t {S U : St} (h : RR S U) (j : Nat) : S (1 + (U 0 5).toNatClampNeg) j = U (1 + (U 0 5).toNatClampNeg) j := by
  have e5 : U 0 5 = nI 0 := (h.1 0 5 (by omega)).symm.trans h.2
  rw [e5, nI_clamp (by omega)]
  exact h.1 _ _ (by omega)
theorem ni_b43 {S U : St} (h : RR S U) : RO pE (m_look_b43 S) (m_look_b43 U) := by
  unfold m_look_b43
  simp only [h.1 0 5 (by omega), h.1 0 8 (by omega), h.1 0 9 (by omega), h.1 0 10 (by omega), h.t]
  exact RO.ite (fun _ => RO.now rfl h) (fun _ => RO.ck (RO.ck (RO.now rfl h)))
theorem ni_look {S U : St} (h : RR S U) : RO pE (m_look S) (m_look U) := by
  have key : ∀ n (S U : St), RR S U → RO pE (m_look_h0 n S) (m_look_h0 n U) := by
    intro n
    induction n with
    | zero => intro S U h; exact Or.inl ⟨rfl, rfl⟩
    | succ n ih =>
      intro S U h
      rw [m_look_h0, m_look_h0]
      simp only [h.1 0 5 (by omega), h.1 0 8 (by omega), h.1 0 9 (by omega), h.1 0 10 (by omega), h.t, bnd_eq]
      exact RO.ite (fun _ => ni_b43 h) (fun _ => RO.ck (RO.ck (RO.ite (fun _ => ih _ _ (h.up rfl (by omega))) (fun _ => ni_b43 h))))
  exact key FU S U h
theorem ni_dig {S U : St} (h : RR S U) : RO pE (m_isDigit S) (m_isDigit U) := by
  unfold m_isDigit
  simp only [h.1 0 5 (by omega), h.1 0 8 (by omega), h.1 0 9 (by omega), h.1 0 10 (by omega), h.t]
  exact RO.ite (fun _ => RO.nz (RO.now rfl h)) (fun _ => RO.ck (RO.ck (RO.ite (fun _ => RO.nz (RO.now rfl h)) (fun _ => RO.ck (RO.ck (RO.ite (fun _ => RO.nz (RO.now rfl h)) (fun _ => RO.nz (RO.now rfl h))))))))
theorem ni_fails {S U : St} (h : RR S U) : RO (fun x y => x = y ∧ x = (0 : Int32)) (m_fails S) (m_fails U) := by
  unfold m_fails
  simp only [h.1 0 11 (by omega), h.1 0 10 (by omega), bnd_eq]
  exact RO.ite (fun _ => RO.nz (RO.now ⟨rfl, rfl⟩ (h.up rfl (by omega)))) (fun _ => RO.nz (RO.now ⟨rfl, rfl⟩ h))
theorem ni_in {S U : St} (h : RR S U) : RO pE (m_goesIn S) (m_goesIn U) := by
  unfold m_goesIn
  simp only [h.1 0 12 (by omega), bnd_eq]
  refine RO.ite (fun _ => (ni_fails h).b (fun x y S U e hR => ?_)) (fun _ => RO.nz (RO.now rfl ?_))
  · rw [e.1]; exact RO.nz (RO.now rfl hR)
  · have h1 : RR (up2 S 0 12 (U 0 12 + 1)) (up2 U 0 12 (U 0 12 + 1)) := h.up rfl (by omega)
    exact h1.up (by rw [h1.1 0 10 (by omega)]) (by omega)
theorem ni_takes {S U : St} (h : RR S U) (c : Int32) : RO pE (m_takes c S) (m_takes c U) := by
  have hb : ∀ (S U : St), RR S U → RO pE (m_takes_b16 S) (m_takes_b16 U) := fun S U h => by
    unfold m_takes_b16
    refine (ni_fails h).b (fun x y S U e hR => ?_)
    rw [e.1]; exact RO.nz (RO.now rfl hR)
  unfold m_takes
  simp only [h.1 0 11 (by omega), bnd_eq]
  refine RO.ite (fun _ => (ni_look h).b (fun x y S U e hR => ?_)) (fun _ => hb _ _ h)
  rw [show x = y from e]
  exact RO.ite (fun _ => RO.nz (RO.now rfl (hR.up (by rw [hR.1 0 10 (by omega)]) (by omega)))) (fun _ => hb _ _ hR)
theorem ni_among {S U : St} (h : RR S U) {i : Nat} (hi : i < 5) (x : Int32) : RO pE (m_isAmong i x S) (m_isAmong i x U) := by
  unfold m_isAmong
  have e : ∀ S : St, m_isAmong_h2 i FU x (0 : Int32) S = some (if fpos (sbs i) x (sbs i).length 0 < 99 then nI 1 else nI 0, S) := fun S => among_h2 hi (sbs i).length 0 FU (by omega) (by have := sbs_l hi; unfold FU; omega)
  rw [e, e]
  exact RO.now rfl h
theorem ni_sign {S U : St} (h : RR S U) (x : Int32) : RO pE (m_isSign x S) (m_isSign x U) := by
  unfold m_isSign
  exact RO.ite (fun _ => RO.nz (RO.now rfl h)) (fun _ => RO.ite (fun _ => RO.nz (RO.now rfl h)) (fun _ => RO.ite (fun _ => RO.nz (RO.now rfl h)) (fun _ => RO.nz (RO.now rfl h))))
def NiR (rec : Nat → Int32 → Int32 → St → Option (Int32 × St)) : Prop := ∀ (t : Nat) (v1 v2 v2' : Int32) (S U : St), RR S U → RO (if t ≤ 2 then pA else pB) (rec t v1 v2 S) (rec t v1 v2' U)
theorem ni_h90 {rec : Nat → Int32 → Int32 → St → Option (Int32 × St)} : ∀ n v v3 (S U : St), RR S U → RO pA (m_atom_h90 rec n v v3 S) (m_atom_h90 rec n v v3 U) := by
  intro n
  induction n with
  | zero => intro v v3 S U h; exact Or.inl ⟨rfl, rfl⟩
  | succ n ih =>
    intro v v3 S U h
    rw [m_atom_h90, m_atom_h90]
    refine (ni_dig h).b (fun x y S U e hR => ?_)
    rw [show x = y from e]
    simp only [hR.1 0 5 (by omega), hR.1 0 8 (by omega), hR.1 0 10 (by omega), hR.1 0 11 (by omega), hR.t, bnd_eq]
    exact RO.ite (fun _ => RO.now trivial hR) (fun _ => RO.ite (fun _ => RO.ite (fun _ => (ni_fails hR).b (fun x y S U e hR => RO.now trivial hR)) (fun _ => RO.ck (RO.ck (ih _ _ _ _ (hR.up rfl (by omega)))))) (fun _ => RO.now trivial hR))
theorem RO.wk {P : Int32 → Int32 → Prop} {A B : Option (Int32 × St)} (h : RO P A B) : RO pA A B := by
  rcases h with h | ⟨x, y, S, U, h1, h2, _, h4⟩
  · exact Or.inl h
  · exact Or.inr ⟨x, y, S, U, h1, h2, trivial, h4⟩
theorem ni_atom {rec : Nat → Int32 → Int32 → St → Option (Int32 × St)} (hr : NiR rec) {S U : St} (h : RR S U) : RO pA (m_atom rec S) (m_atom rec U) := by
  unfold m_atom m_atom_b86
  refine (ni_look h).b (fun x y S U e hR => ?_)
  rw [show x = y from e]
  refine (ni_among hR (by omega) y).b (fun x2 y2 S U e hR => ?_)
  rw [show x2 = y2 from e]
  simp only [bnd_eq]
  refine RO.ite (fun _ => RO.ite (fun _ => ?_) (fun _ => ?_)) (fun _ => ?_)
  · refine (ni_in hR).b (fun x3 y3 S U e hR => ?_)
    rw [show x3 = y3 from e]
    refine RO.ite (fun _ => RO.now trivial hR) (fun _ => ?_)
    refine (hr 2 0 0 0 S U hR).b (fun x4 y4 S U _ hR => ?_)
    refine (ni_takes hR _).b (fun x5 y5 S U e hR => ?_)
    rw [show x5 = y5 from e]
    exact RO.ite (fun _ => RO.now trivial hR) (fun _ => RO.now trivial (hR.up (by rw [hR.1 0 12 (by omega)]) (by omega)))
  · refine (ni_dig hR).b (fun x3 y3 S U e hR => ?_)
    rw [show x3 = y3 from e]
    refine RO.ite (fun _ => ?_) (fun _ => ni_h90 _ _ _ _ _ hR)
    exact (ni_fails hR).b (fun x4 y4 S U _ hR => ni_h90 _ _ _ _ _ hR)
  · exact RO.ck (RO.now trivial (hR.up (by rw [hR.1 0 10 (by omega)]) (by omega)))
theorem ni_within (v w : Int64) {S U : St} (h : RR S U) : RO pA (m_within v S) (m_within w U) := RO.now trivial h
theorem RO.ite2 {P : Int32 → Int32 → Prop} {c d : Prop} [Decidable c] [Decidable d] {A B A' B' : Option (Int32 × St)} (h11 : RO P A B) (h12 : RO P A B') (h21 : RO P A' B) (h22 : RO P A' B') : RO P (if c then A else A') (if d then B else B') := by
  by_cases h : c
  · rw [if_pos h]
    by_cases h2 : d
    · rw [if_pos h2]; exact h11
    · rw [if_neg h2]; exact h12
  · rw [if_neg h]
    by_cases h2 : d
    · rw [if_pos h2]; exact h21
    · rw [if_neg h2]; exact h22
theorem ni_term {rec : Nat → Int32 → Int32 → St → Option (Int32 × St)} (hr : NiR rec) {S U : St} (h : RR S U) : RO pA (m_term rec S) (m_term rec U) := by
  have key : ∀ n v w (S U : St), RR S U → RO pA (m_term_h5 rec n v S) (m_term_h5 rec n w U) := by
    intro n
    induction n with
    | zero => intro v w S U h; exact Or.inl ⟨rfl, rfl⟩
    | succ n ih =>
      have d0 : ∀ (x y : Int64) (S U : St), RR S U → RO pA (m_term_b87 rec (m_term_h5 rec n) x S) (m_term_b87 rec (m_term_h5 rec n) y U) := fun x y S U h => by
        unfold m_term_b87
        exact (ni_within x y h).b (fun x y S U _ hR => ih _ _ _ _ hR)
      have d1 : ∀ (k : Int32) (v w : Int32) (S U : St), RR S U → RO pA (m_term_b45 rec (m_term_h5 rec n) v k S) (m_term_b45 rec (m_term_h5 rec n) w k U) := fun k v w S U h => by
        unfold m_term_b45
        simp only [bnd_eq]
        refine (hr 0 0 0 0 _ _ (h.up (by rw [h.1 0 10 (by omega)]) (by omega))).b (fun x y S U _ hR => ?_)
        refine RO.ite (fun _ => ?_) (fun _ => d0 _ _ _ _ hR)
        have dz : ∀ (z : Int64) (a : Int64), ¬ lg_cmp z 0 = 0 → ∀ S, dvL z (m_term_b87 rec (m_term_h5 rec n) a S) = m_term_b87 rec (m_term_h5 rec n) a S := fun z a hz S => if_neg (fun e => hz (by rw [e]; decide))
        by_cases c1 : lg_cmp x.toInt64 0 = 0
        · rw [if_pos c1]
          by_cases c2 : lg_cmp y.toInt64 0 = 0
          · rw [if_pos c2]; exact d0 _ _ _ _ hR
          · rw [if_neg c2, dz _ _ c2]; exact d0 _ _ _ _ hR
        · rw [if_neg c1, dz _ _ c1]
          by_cases c2 : lg_cmp y.toInt64 0 = 0
          · rw [if_pos c2]; exact d0 _ _ _ _ hR
          · rw [if_neg c2, dz _ _ c2]; exact d0 _ _ _ _ hR
      have d2 : ∀ (v w : Int32) (S U : St), RR S U → RO pA (m_term_b31 rec (m_term_h5 rec n) v S) (m_term_b31 rec (m_term_h5 rec n) w U) := fun v w S U h => by
        unfold m_term_b31
        refine (ni_look h).b (fun x y S U e hR => ?_)
        rw [show x = y from e]
        exact RO.ite (fun _ => d1 _ _ _ _ _ hR) (fun _ => d1 _ _ _ _ _ hR)
      intro v w S U h
      rw [m_term_h5, m_term_h5, h.1 0 11 (by omega)]
      refine RO.ite (fun _ => ?_) (fun _ => RO.now trivial h)
      refine (ni_look h).b (fun x y S U e hR => ?_)
      rw [show x = y from e]
      refine RO.ite (fun _ => d2 _ _ _ _ hR) (fun _ => ?_)
      refine (ni_look hR).b (fun x2 y2 S U e hR => ?_)
      rw [show x2 = y2 from e]
      exact RO.ite (fun _ => d2 _ _ _ _ hR) (fun _ => RO.now trivial hR)
  unfold m_term
  exact (hr 0 0 0 0 S U h).b (fun x y S U _ hR => key _ _ _ _ _ hR)
theorem ni_sum {rec : Nat → Int32 → Int32 → St → Option (Int32 × St)} (hr : NiR rec) {S U : St} (h : RR S U) : RO pA (m_sum rec S) (m_sum rec U) := by
  have key : ∀ n v w (S U : St), RR S U → RO pA (m_sum_h5 rec n v S) (m_sum_h5 rec n w U) := by
    intro n
    induction n with
    | zero => intro v w S U h; exact Or.inl ⟨rfl, rfl⟩
    | succ n ih =>
      have d0 : ∀ (x y : Int64) (S U : St), RR S U → RO pA (m_sum_b77 rec (m_sum_h5 rec n) x S) (m_sum_b77 rec (m_sum_h5 rec n) y U) := fun x y S U h => by
        unfold m_sum_b77
        exact (ni_within x y h).b (fun x y S U _ hR => ih _ _ _ _ hR)
      have d1 : ∀ (k : Int32) (v w : Int32) (S U : St), RR S U → RO pA (m_sum_b45 rec (m_sum_h5 rec n) v k S) (m_sum_b45 rec (m_sum_h5 rec n) w k U) := fun k v w S U h => by
        unfold m_sum_b45
        simp only [bnd_eq]
        refine (hr 1 0 0 0 _ _ (h.up (by rw [h.1 0 10 (by omega)]) (by omega))).b (fun x y S U _ hR => ?_)
        exact RO.ite (fun _ => d0 _ _ _ _ hR) (fun _ => d0 _ _ _ _ hR)
      have d2 : ∀ (v w : Int32) (S U : St), RR S U → RO pA (m_sum_b31 rec (m_sum_h5 rec n) v S) (m_sum_b31 rec (m_sum_h5 rec n) w U) := fun v w S U h => by
        unfold m_sum_b31
        refine (ni_look h).b (fun x y S U e hR => ?_)
        rw [show x = y from e]
        exact RO.ite (fun _ => d1 _ _ _ _ _ hR) (fun _ => d1 _ _ _ _ _ hR)
      intro v w S U h
      rw [m_sum_h5, m_sum_h5, h.1 0 11 (by omega)]
      refine RO.ite (fun _ => ?_) (fun _ => RO.now trivial h)
      refine (ni_look h).b (fun x y S U e hR => ?_)
      rw [show x = y from e]
      refine RO.ite (fun _ => d2 _ _ _ _ hR) (fun _ => ?_)
      refine (ni_look hR).b (fun x2 y2 S U e hR => ?_)
      rw [show x2 = y2 from e]
      exact RO.ite (fun _ => d2 _ _ _ _ hR) (fun _ => RO.now trivial hR)
  unfold m_sum
  exact (hr 1 0 0 0 S U h).b (fun x y S U _ hR => key _ _ _ _ _ hR)
theorem b00 : b01 (0 : Int32) := Or.inl rfl
theorem b11 : b01 (1 : Int32) := Or.inr rfl
theorem RO.bb {x y : Int32} {S U : St} (hx : b01 x) (hy : b01 y) (h : RR S U) : RO pB (nzM x (some (x, S))) (nzM y (some (y, U))) := RO.nzb ⟨hx, hy⟩ (RO.now ⟨hx, hy⟩ h)
theorem ni_cmp {rec : Nat → Int32 → Int32 → St → Option (Int32 × St)} (hr : NiR rec) {S U : St} (h : RR S U) (v1 v2 v2' : Int32) : RO pB (m_compares rec v1 v2 S) (m_compares rec v1 v2' U) := by
  have key : ∀ v w (S U : St), RR S U → RO pB (m_compares_b12 rec v S) (m_compares_b12 rec w U) := by
    intro v w S U h
    unfold m_compares_b12
    rw [h.1 0 11 (by omega)]
    refine RO.ite (fun _ => ?_) (fun _ => RO.bb b00 b00 h)
    refine (ni_look h).b (fun x y S U e hR => ?_)
    rw [show x = y from e]
    refine (ni_sign hR y).b (fun x2 y2 S U e hR => ?_)
    rw [show x2 = y2 from e]
    simp only [bnd_eq]
    refine RO.ite (fun _ => ?_) (fun _ => ?_)
    · refine (ni_fails hR).b (fun x3 y3 S U e hR => ?_)
      rw [← e.1, e.2]; exact RO.bb b00 b00 hR
    · refine (hr 2 0 0 0 _ _ (hR.up (by rw [hR.1 0 10 (by omega)]) (by omega))).b (fun x3 y3 S U _ hR => ?_)
      have a00 := RO.bb b00 b00 hR
      have a01 := RO.bb b00 b11 hR
      have a10 := RO.bb b11 b00 hR
      have a11 := RO.bb b11 b11 hR
      exact RO.ite (fun _ => RO.ite2 a11 a10 a01 a00) (fun _ => RO.ite (fun _ => RO.ite2 a00 a01 a10 a11) (fun _ => RO.ite2 a00 a01 a10 a11))
  unfold m_compares
  exact RO.ite (fun _ => (hr 2 0 0 0 S U h).b (fun x y S U _ hR => key _ _ _ _ hR)) (fun _ => key _ _ _ _ h)
theorem ni_unit {rec : Nat → Int32 → Int32 → St → Option (Int32 × St)} (hr : NiR rec) {S U : St} (h : RR S U) : RO pB (m_unit rec S) (m_unit rec U) := by
  unfold m_unit
  refine (ni_look h).b (fun x y S U e hR => ?_)
  rw [show x = y from e]
  simp only [bnd_eq]
  refine RO.ite (fun _ => ?_) (fun _ => RO.ite (fun _ => ?_) (fun _ => ?_))
  · refine (ni_in hR).b (fun x2 y2 S U e hR => ?_)
    rw [show x2 = y2 from e]
    refine RO.ite (fun _ => RO.bb b00 b00 hR) (fun _ => ?_)
    refine (hr 4 0 0 0 S U hR).b (fun x3 y3 S U _ hR => ?_)
    have hR' := hR.up (o := 0) (k := 12) (show S 0 12 - 1 = U 0 12 - 1 by rw [hR.1 0 12 (by omega)]) (by omega)
    exact RO.ite2 (RO.bb b11 b11 hR') (RO.bb b11 b00 hR') (RO.bb b00 b11 hR') (RO.bb b00 b00 hR')
  · refine (ni_in hR).b (fun x2 y2 S U e hR => ?_)
    rw [show x2 = y2 from e]
    refine RO.ite (fun _ => RO.bb b00 b00 hR) (fun _ => ?_)
    refine (hr 6 0 0 0 S U hR).b (fun x3 y3 S U hb hR => ?_)
    have hb' : pB x3 y3 := hb
    refine (ni_takes hR _).b (fun x4 y4 S U e hR => ?_)
    rw [show x4 = y4 from e]
    exact RO.ite (fun _ => RO.bb b00 b00 hR) (fun _ => RO.bb hb'.1 hb'.2 (hR.up (by rw [hR.1 0 12 (by omega)]) (by omega)))
  · refine (hr 3 0 0 0 S U hR).b (fun x3 y3 S U hb hR => ?_)
    have hb' : pB x3 y3 := hb
    exact RO.bb hb'.1 hb'.2 hR
theorem ni_part {rec : Nat → Int32 → Int32 → St → Option (Int32 × St)} (hr : NiR rec) {S U : St} (h : RR S U) (v1 v2 v2' : Int32) : RO pB (m_part rec v1 v2 S) (m_part rec v1 v2' U) := by
  have key : ∀ n v w (S U : St), b01 v → b01 w → RR S U → RO pB (m_part_h18 rec n v S) (m_part_h18 rec n w U) := by
    intro n
    induction n with
    | zero => intro v w S U _ _ h; exact Or.inl ⟨rfl, rfl⟩
    | succ n ih =>
      intro v w S U hv hw h
      rw [m_part_h18, m_part_h18, h.1 0 11 (by omega)]
      unfold m_part_b64 m_part_b65
      refine RO.ite (fun _ => ?_) (fun _ => RO.bb hv hw h)
      refine (ni_look h).b (fun x y S U e hR => ?_)
      rw [show x = y from e]
      simp only [bnd_eq]
      refine RO.ite (fun _ => ?_) (fun _ => RO.bb hv hw hR)
      refine (hr 4 0 0 0 _ _ (hR.up (by rw [hR.1 0 10 (by omega)]) (by omega))).b (fun x3 y3 S U _ hR => ?_)
      have a : ∀ p q : Int32, b01 p → b01 q → RO pB (m_part_h18 rec n p S) (m_part_h18 rec n q U) := fun p q hp hq => ih _ _ _ _ hp hq hR
      have a1 : ∀ q : Int32, b01 q → ∀ c : Prop, [Decidable c] → RO pB (m_part_h18 rec n q S) (if c then m_part_h18 rec n (0 : Int32) U else m_part_h18 rec n (1 : Int32) U) := fun q hq c _ => by
        by_cases hc : c
        · rw [if_pos hc]; exact a _ _ hq b00
        · rw [if_neg hc]; exact a _ _ hq b11
      have a2 : ∀ q : Int32, b01 q → ∀ c : Prop, [Decidable c] → RO pB (if c then m_part_h18 rec n (0 : Int32) S else m_part_h18 rec n (1 : Int32) S) (m_part_h18 rec n q U) := fun q hq c _ => by
        by_cases hc : c
        · rw [if_pos hc]; exact a _ _ b00 hq
        · rw [if_neg hc]; exact a _ _ b11 hq
      exact RO.ite2 (a _ _ b00 b00) (a1 _ b00 _) (a2 _ b00 _) (RO.ite2 (a _ _ b00 b00) (a _ _ b00 b11) (a _ _ b11 b00) (a _ _ b11 b11))
  unfold m_part m_part_b17
  refine RO.ite (fun _ => (hr 4 0 0 0 S U h).b (fun x y S U hb hR => ?_)) (fun _ => (hr 3 1 v2 v2' S U h).b (fun x y S U hb hR => ?_))
  · have hb' : pB x y := hb
    exact key _ _ _ _ _ hb'.1 hb'.2 hR
  · have hb' : pB x y := hb
    exact key _ _ _ _ _ hb'.1 hb'.2 hR
theorem ni_cond {rec : Nat → Int32 → Int32 → St → Option (Int32 × St)} (hr : NiR rec) {S U : St} (h : RR S U) (v1 v2 v2' : Int32) : RO pB (m_condition rec v1 v2 S) (m_condition rec v1 v2' U) := by
  have key : ∀ n v w (S U : St), b01 v → b01 w → RR S U → RO pB (m_condition_h7 rec n v S) (m_condition_h7 rec n w U) := by
    intro n
    induction n with
    | zero => intro v w S U _ _ h; exact Or.inl ⟨rfl, rfl⟩
    | succ n ih =>
      intro v w S U hv hw h
      rw [m_condition_h7, m_condition_h7, h.1 0 11 (by omega)]
      unfold m_condition_b51 m_condition_b56
      refine RO.ite (fun _ => ?_) (fun _ => RO.bb hv hw h)
      refine (ni_look h).b (fun x y S U e hR => ?_)
      rw [show x = y from e]
      simp only [bnd_eq]
      refine RO.ite (fun _ => ?_) (fun _ => RO.bb hv hw hR)
      refine (hr 5 0 0 0 _ _ (hR.up (by rw [hR.1 0 10 (by omega)]) (by omega))).b (fun x3 y3 S U _ hR => ?_)
      have a : ∀ p q : Int32, b01 p → b01 q → RO pB (m_condition_h7 rec n p S) (m_condition_h7 rec n q U) := fun p q hp hq => ih _ _ _ _ hp hq hR
      have a1 : ∀ q : Int32, b01 q → ∀ c : Prop, [Decidable c] → RO pB (m_condition_h7 rec n q S) (if c then m_condition_h7 rec n (0 : Int32) U else m_condition_h7 rec n (1 : Int32) U) := fun q hq c _ => by
        by_cases hc : c
        · rw [if_pos hc]; exact a _ _ hq b00
        · rw [if_neg hc]; exact a _ _ hq b11
      have a2 : ∀ q : Int32, b01 q → ∀ c : Prop, [Decidable c] → RO pB (if c then m_condition_h7 rec n (0 : Int32) S else m_condition_h7 rec n (1 : Int32) S) (m_condition_h7 rec n q U) := fun q hq c _ => by
        by_cases hc : c
        · rw [if_pos hc]; exact a _ _ b00 hq
        · rw [if_neg hc]; exact a _ _ b11 hq
      exact RO.ite2 (RO.ite2 (a _ _ b00 b00) (a _ _ b00 b11) (a _ _ b11 b00) (a _ _ b11 b11)) (a2 _ b11 _) (a1 _ b11 _) (a _ _ b11 b11)
  unfold m_condition
  refine (hr 5 v1 v2 v2' S U h).b (fun x y S U hb hR => ?_)
  have hb' : pB x y := hb
  exact key _ _ _ _ _ hb'.1 hb'.2 hR
theorem ni_ex : ∀ n, NiR (m_ex n) := by
  intro n
  induction n with
  | zero => intro t v1 v2 v2' S U h; exact Or.inl ⟨rfl, rfl⟩
  | succ n ih =>
    intro t v1 v2 v2' S U h
    rw [m_ex, m_ex]
    by_cases h0 : t = 0
    · subst h0; exact ni_atom ih h
    rw [if_neg h0, if_neg h0]
    by_cases h1 : t = 1
    · subst h1; exact ni_term ih h
    rw [if_neg h1, if_neg h1]
    by_cases h2 : t = 2
    · subst h2; exact ni_sum ih h
    rw [if_neg h2, if_neg h2, if_neg (by omega)]
    by_cases h3 : t = 3
    · subst h3; exact ni_cmp ih h _ _ _
    rw [if_neg h3, if_neg h3]
    by_cases h4 : t = 4
    · subst h4; exact ni_unit ih h
    rw [if_neg h4, if_neg h4]
    by_cases h5 : t = 5
    · subst h5; exact ni_part ih h _ _ _
    rw [if_neg h5, if_neg h5]
    by_cases h6 : t = 6
    · subst h6; exact ni_cond ih h _ _ _
    rw [if_neg h6, if_neg h6]
    exact Or.inl ⟨rfl, rfl⟩
theorem ni_134 {S U : St} (h : RR S U) (v1 a b c d : Int32) : RV (m_clause_b134 v1 a c S) (m_clause_b134 v1 b d U) := by
  have key : ∀ (S : St) (a c : Int32), m_clause_b134 v1 a c S = some S ∨ ∃ x y, m_clause_b134 v1 a c S = some (up2 (up2 S 0 17 x) 0 14 y) := fun S a c => by
    unfold m_clause_b134
    simp only [bnd_eq]
    by_cases c1 : S 0 11 = -1
    · rw [if_pos c1]
      by_cases c2 : S 0 17 = 0
      · rw [if_pos c2]
        by_cases c3 : v1 = S 0 13
        · rw [if_pos c3]
          by_cases c4 : a = 0
          · rw [if_pos c4]; exact Or.inl rfl
          · rw [if_neg c4]; exact Or.inr ⟨_, _, rfl⟩
        · rw [if_neg c3]; exact Or.inl rfl
      · rw [if_neg c2]; exact Or.inl rfl
    · rw [if_neg c1]; exact Or.inl rfl
  rcases key S a c with e1 | ⟨x, y, e1⟩
  · rcases key U b d with e2 | ⟨x2, y2, e2⟩
    · rw [e1, e2]; exact RV.now h
    · rw [e1, e2]; exact RV.now ((h.up4r (by omega)).up4r (by omega))
  · rcases key U b d with e2 | ⟨x2, y2, e2⟩
    · rw [e1, e2]; exact RV.now ((h.up4l (by omega)).up4l (by omega))
    · rw [e1, e2]; exact RV.now ((h.up4 (by omega)).up4 (by omega))
theorem ni_clause {S U : St} (h : RR S U) : RV (m_clause S) (m_clause U) := by
  have hs : ∀ (S U : St), RR S U → RO pA (m_sum_x S) (m_sum_x U) := fun S U h => ni_ex 40 2 0 0 0 S U h
  have hc : ∀ (v a b : Int32) (S U : St), RR S U → RO pB (m_condition_x v a S) (m_condition_x v b U) := fun v a b S U h => ni_ex 40 6 v a b S U h
  have h64 : ∀ (v : Int32) (S U : St), RR S U → RV (m_clause_b64 v S) (m_clause_b64 v U) := fun v S U h => by
    unfold m_clause_b64
    refine (hc 0 0 0 S U h).bv (fun x y S U _ hR => ?_)
    refine (ni_takes hR _).bv (fun x2 y2 S U e hR => ?_)
    rw [show x2 = y2 from e]
    exact RV.ite (fun _ => RV.now hR) (fun _ => (hs S U hR).bv (fun x3 y3 S U _ hR => ni_134 hR _ _ _ _ _))
  unfold m_clause
  refine (ni_look h).bv (fun x y S U e hR => ?_)
  rw [show x = y from e]
  refine (ni_among hR (by omega) y).bv (fun x2 y2 S U e hR => ?_)
  rw [show x2 = y2 from e]
  refine RV.ite (fun _ => (ni_fails hR).bv (fun x3 y3 S U _ hR => RV.now hR)) (fun _ => ?_)
  rw [bnd_eq, bnd_eq]
  refine (ni_takes (hR.up (by rw [hR.1 0 10 (by omega)]) (by omega)) _).bv (fun x3 y3 S U e hR => ?_)
  rw [show x3 = y3 from e]
  refine RV.ite (fun _ => RV.now hR) (fun _ => ?_)
  refine (ni_look hR).bv (fun x4 y4 S U e hR => ?_)
  rw [show x4 = y4 from e]
  refine RV.ite (fun _ => h64 _ _ _ hR) (fun _ => RV.ite (fun _ => h64 _ _ _ hR) (fun _ => ?_))
  refine (hs S U hR).bv (fun x5 y5 S U _ hR => ?_)
  rw [hR.1 0 11 (by omega)]
  refine RV.ite (fun _ => ?_) (fun _ => ni_134 hR _ _ _ _ _)
  refine (ni_look hR).bv (fun x6 y6 S U e hR => ?_)
  rw [show x6 = y6 from e]
  refine (ni_sign hR y6).bv (fun x7 y7 S U e hR => ?_)
  rw [show x7 = y7 from e]
  refine RV.ite (fun _ => ni_134 hR _ _ _ _ _) (fun _ => ?_)
  refine (hc 1 _ _ S U hR).bv (fun x8 y8 S U _ hR => ?_)
  refine (ni_takes hR _).bv (fun x9 y9 S U e hR => ?_)
  rw [show x9 = y9 from e]
  exact RV.ite (fun _ => RV.now hR) (fun _ => (hs S U hR).bv (fun x3 y3 S U _ hR => ni_134 hR _ _ _ _ _))
theorem ni_go {S U : St} (h : ∀ q j, q ≠ 4 → S q j = U q j) (v w : Int32) : RV (m_goThrough_1 v w S) (m_goThrough_1 v w U) := by
  have h66 : ∀ (S U : St), RR S U → RV (m_goThrough_1_b66 S) (m_goThrough_1_b66 U) := fun S U h => by
    unfold m_goThrough_1_b66
    rw [h.1 0 11 (by omega)]
    refine RV.ite (fun _ => (ni_look h).bv (fun x y S U e hR => ?_)) (fun _ => RV.now h)
    rw [show x = y from e]
    exact RV.ite (fun _ => RV.now hR) (fun _ => (ni_fails hR).bv (fun x3 y3 S U _ hR => RV.now hR))
  have key : ∀ n (S U : St), RR S U → RV (m_goThrough_1_h32 n S) (m_goThrough_1_h32 n U) := by
    intro n
    induction n with
    | zero => intro S U h; exact Or.inl ⟨rfl, rfl⟩
    | succ n ih =>
      intro S U h
      rw [m_goThrough_1_h32, m_goThrough_1_h32, h.1 0 11 (by omega)]
      refine RV.ite (fun _ => (ni_look h).bv (fun x y S U e hR => ?_)) (fun _ => h66 _ _ h)
      rw [show x = y from e]
      refine RV.ite (fun _ => ?_) (fun _ => h66 _ _ hR)
      rw [bnd_eq, bnd_eq]
      exact (ni_clause (hR.up (by rw [hR.1 0 10 (by omega)]) (by omega))).b (fun S U hR => ih _ _ hR)
  unfold m_goThrough_1 m_opens_1
  simp only [bnd_eq, bV_some]
  refine (ni_clause ?_).b (fun S U hR => key _ _ _ hR)
  refine ⟨fun q j hq => ?_, ?_⟩
  · have hq4 : q ≠ 4 := by omega
    unfold up2 upR
    have := h q j hq4
    have h0 := fun j => h 0 j (by omega)
    by_cases e : q = 0
    · subst e
      simp only [if_true]
      rw [show S 0 = U 0 from funext h0]
    · simp only [if_neg e]; exact this
  · simp (disch := omega) only [up2_k, up2_hit]
    rfl
