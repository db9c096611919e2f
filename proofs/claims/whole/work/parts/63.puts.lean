/-! puts: what is asked -/
def pX (X : Cf) (g : Nat → Nat) : Cf := fun q j => if q = 7 ∧ j < X 0 0 then g j else X q j
theorem pX_o (X : Cf) (g : Nat → Nat) : ∀ q j, q ≠ 7 → pX X g q j = X q j := fun q j hq => if_neg (fun e => hq e.1)
theorem pX_7 (X : Cf) (g : Nat → Nat) {j : Nat} (hj : j < X 0 0) : pX X g 7 j = g j := if_pos ⟨rfl, hj⟩
theorem pX_cg {X : Cf} {g g' : Nat → Nat} (h : ∀ j, j < X 0 0 → g' j = g j) : pX X g' = pX X g := by
  funext q j
  unfold pX
  by_cases c : q = 7 ∧ j < X 0 0
  · rw [if_pos c, if_pos c, h j c.2]
  · rw [if_neg c, if_neg c]
def okP (X : Cf) (h s : Nat) : Prop := s = 9 ∨ (s < 5 ∧ X 0 1 ≤ X (10 + h) s)
theorem pX_iv {X : Cf} {g : Nat → Nat} (iv : Iv X) (hg : ∀ j, j < X 0 0 → okP X j (g j)) : Iv (pX X g) := by
  obtain ⟨i1, i2, i3, i4, i5, i6, i7, i8, i9, i10, i11⟩ := iv
  have z := pX_o X g
  refine ⟨by rw [z _ _ (by omega)]; exact i1, by rw [z _ _ (by omega)]; exact i2, by rw [z _ _ (by omega)]; exact i3, by rw [z _ _ (by omega)]; exact i4, by rw [z _ _ (by omega)]; exact i5, by rw [z _ _ (by omega)]; exact i6, by rw [z _ _ (by omega)]; exact i7, fun s hs => by rw [z _ _ (by omega)]; exact i8 s hs, fun a ha => ?_, ?_, ?_⟩
  · rw [z _ _ (by omega)] at ha
    obtain ⟨j1, j2, j3, j4, j5⟩ := i9 a ha
    refine ⟨by rw [z _ _ (by omega)]; exact j1, by rw [z _ _ (by omega)]; exact j2, by rw [z _ _ (by omega)]; exact j3, ?_, fun s hs => by rw [z _ _ (by omega)]; exact j5 s hs⟩
    rw [pX_7 X g ha]
    rcases hg a ha with h | h <;> omega
  · intro a ha
    rw [z 0 0 (by omega)] at ha ⊢
    rw [z _ _ (by omega)]; exact i10 a ha
  · intro a c ha hc e
    rw [z 0 0 (by omega)] at ha hc
    rw [z _ _ (by omega), z _ _ (by omega)] at e
    exact i11 a c ha hc e
theorem pX_dP {X : Cf} {g : Nat → Nat} {a : Nat} (ha : a < X 0 0) (hg : okP X a (g a)) : dP (pX X g) a ↔ g a ≠ 9 := by
  unfold dP
  rw [pX_7 X g ha, pX_o X g 0 1 (by omega), pX_o X g (10 + a) _ (by omega)]
  refine ⟨fun h => h.1, fun h => ⟨h, ?_⟩⟩
  rcases hg with h2 | h2
  · exact absurd h2 h
  · exact h2.2
theorem pX_lo {X : Cf} (iv : Iv X) {g g' : Nat → Nat} {p : Nat} (hp : p ≤ X 0 0) (h : ∀ q, q < p → g' (X 6 q) = g (X 6 q)) : Lo (pX X g) (pX X g') p := by
  refine ⟨fun q j _ h7 => by rw [pX_o X g' q j h7, pX_o X g q j h7], fun j hj => ?_⟩
  have hl := iv.2.2.2.2.2.2.2.2.2.1 j (by omega)
  rw [pX_o X g' 6 j (by omega), pX_o X g 6 j (by omega), pX_7 X g' hl, pX_7 X g hl]
  exact ⟨rfl, h j hj⟩
theorem bk_lo {X Y : Cf} : ∀ pl, Lo X Y pl → bk Y pl = bk X pl
  | 0, _ => rfl
  | pl + 1, h => by
    have ih := bk_lo pl (h.le (by omega))
    have ha := ah_lo pl (h.le (by omega))
    obtain ⟨e6, e7⟩ := h.2 pl (by omega)
    have hd := dP_lo h.1 e7
    have e2 := h.1 0 2 (by omega) (by omega)
    show (if dP Y (Y 6 pl) ∧ bk Y pl = -nI 1 ∧ Y 0 2 = 1 ∧ hasB (ah Y pl) (Y 7 (Y 6 pl)) then nI (Y 6 pl) else bk Y pl) = (if dP X (X 6 pl) ∧ bk X pl = -nI 1 ∧ X 0 2 = 1 ∧ hasB (ah X pl) (X 7 (X 6 pl)) then nI (X 6 pl) else bk X pl)
    by_cases c : dP X (X 6 pl) ∧ bk X pl = -nI 1 ∧ X 0 2 = 1 ∧ hasB (ah X pl) (X 7 (X 6 pl))
    · rw [if_pos c, if_pos ⟨by rw [e6]; exact hd.mpr c.1, by rw [ih]; exact c.2.1, by rw [e2]; exact c.2.2.1, by rw [ha, e6, e7]; exact c.2.2.2⟩, e6]
    · rw [if_neg c, if_neg (fun d => c ⟨hd.mp (by rw [← e6]; exact d.1), by rw [← ih]; exact d.2.1, by rw [← e2]; exact d.2.2.1, by
        have := d.2.2.2
        rw [ha, e6, e7] at this
        exact this⟩), ih]
theorem bk_mono {X : Cf} {p : Nat} (h : bk X p ≠ -nI 1) : ∀ k, bk X (p + k) = bk X p
  | 0 => rfl
  | k + 1 => by
    have ih := bk_mono h k
    show (if dP X (X 6 (p + k)) ∧ bk X (p + k) = -nI 1 ∧ X 0 2 = 1 ∧ hasB (ah X (p + k)) (X 7 (X 6 (p + k))) then nI (X 6 (p + k)) else bk X (p + k)) = bk X p
    rw [if_neg (fun c => h (by rw [← ih]; exact c.2.1)), ih]
theorem bk_le {X : Cf} {p q : Nat} (hpq : p ≤ q) (h : bk X q = -nI 1) : bk X p = -nI 1 := by
  apply Classical.byContradiction
  intro hn
  have := bk_mono hn (q - p)
  rw [show p + (q - p) = q by omega] at this
  exact hn (this.symm.trans h)
/-- what the best is -/
def Dm (A : Nat → Int32 → Prop) (d : Nat) (v : Int32) : Prop := A d v ∧ ∀ d' v', A d' v' → v' < v ∨ (v' = v ∧ d ≤ d')
def CB (A : Nat → Int32 → Prop) (S : St) : Prop := (S 130 4 = -nI 1 ∧ ∀ d v, ¬ A d v) ∨ ∃ d, d < 2 ^ 31 ∧ S 130 4 = nI d ∧ Dm A d (S 130 5)
def MB (A : Nat → Int32 → Prop) (T : St) : Prop := (T 0 51 = nI 0 ∧ ∀ d v, ¬ A d v) ∨ ∃ d, d < 2 ^ 31 ∧ T 0 51 = nI 1 ∧ T 0 49 = nI d ∧ Dm A d (T 0 50)
def Ad (A : Nat → Int32 → Prop) (D : Nat) (x : Int32) : Nat → Int32 → Prop := fun d v => A d v ∨ (d = D ∧ v = x)
theorem Dm.cg {A A' : Nat → Int32 → Prop} (he : ∀ d v, A d v ↔ A' d v) {d : Nat} {v : Int32} (h : Dm A d v) : Dm A' d v := ⟨(he _ _).mp h.1, fun d' v' ha => h.2 d' v' ((he _ _).mpr ha)⟩
theorem CB.cg {A A' : Nat → Int32 → Prop} {S : St} (h : CB A S) (he : ∀ d v, A d v ↔ A' d v) : CB A' S := by
  rcases h with ⟨h1, h2⟩ | ⟨d, h1, h2, h3⟩
  · exact Or.inl ⟨h1, fun d v ha => h2 d v ((he _ _).mpr ha)⟩
  · exact Or.inr ⟨d, h1, h2, h3.cg he⟩
theorem MB.cg {A A' : Nat → Int32 → Prop} {T : St} (h : MB A T) (he : ∀ d v, A d v ↔ A' d v) : MB A' T := by
  rcases h with ⟨h1, h2⟩ | ⟨d, h1, h2, h3, h4⟩
  · exact Or.inl ⟨h1, fun d v ha => h2 d v ((he _ _).mpr ha)⟩
  · exact Or.inr ⟨d, h1, h2, h3, h4.cg he⟩
theorem CB.fr {A : Nat → Int32 → Prop} {S S' : St} (h : CB A S) (hS : ∀ j, S' 130 j = S 130 j) : CB A S' := by
  rcases h with ⟨h1, h2⟩ | ⟨d, h1, h2, h3⟩
  · exact Or.inl ⟨(hS _).trans h1, h2⟩
  · exact Or.inr ⟨d, h1, (hS _).trans h2, by rw [hS]; exact h3⟩
theorem MB.fr {A : Nat → Int32 → Prop} {T T' : St} (h : MB A T) (hT : ∀ j, 49 ≤ j → j ≤ 51 → T' 0 j = T 0 j) : MB A T' := by
  rcases h with ⟨h1, h2⟩ | ⟨d, h1, h2, h3, h4⟩
  · exact Or.inl ⟨(hT _ (by omega) (by omega)).trans h1, h2⟩
  · exact Or.inr ⟨d, h1, (hT _ (by omega) (by omega)).trans h2, (hT _ (by omega) (by omega)).trans h3, by rw [hT _ (by omega) (by omega)]; exact h4⟩
theorem Dm_new {A : Nat → Int32 → Prop} {D : Nat} {x : Int32} (h : ∀ d' v', A d' v' → v' < x ∨ (v' = x ∧ D ≤ d')) : Dm (Ad A D x) D x := ⟨Or.inr ⟨rfl, rfl⟩, fun d' v' ha => ha.elim (h d' v') (fun e => Or.inr ⟨e.2, by omega⟩)⟩
theorem Dm_old {A : Nat → Int32 → Prop} {D d : Nat} {x v : Int32} (h : Dm A d v) (hx : x < v ∨ (x = v ∧ d ≤ D)) : Dm (Ad A D x) d v := ⟨Or.inl h.1, fun d' v' ha => ha.elim (h.2 d' v') (fun e => by rw [e.1, e.2]; exact hx)⟩
theorem i_tri (x y : Int32) : x < y ∨ x = y ∨ y < x := by
  rcases (show x.toInt < y.toInt ∨ x.toInt = y.toInt ∨ y.toInt < x.toInt by omega) with h | h | h
  · exact Or.inl (Int32.lt_iff_toInt_lt.mpr h)
  · exact Or.inr (Or.inl (Int32.toInt_inj.mp h))
  · exact Or.inr (Or.inr (Int32.lt_iff_toInt_lt.mpr h))
theorem i_trans {x y z : Int32} (h1 : x < y) (h2 : y < z) : x < z := by
  rw [Int32.lt_iff_toInt_lt] at *
  omega
theorem cons_C {A : Nat → Int32 → Prop} {S : St} {D : Nat} {x : Int32} (h : CB A S) (hD : D < 2 ^ 31) : ∃ S', c_Best_consider x (nI D) S = some S' ∧ CB (Ad A D x) S' ∧ Fr b45 S S' := by
  have hset : c_Best_consider_b32 x (nI D) S = some (up2 (up2 S 130 5 x) 130 4 (nI D)) := by
    unfold c_Best_consider_b32
    rw [bnd_eq, bnd_eq]
  have fS : Fr b45 S (up2 (up2 S 130 5 x) 130 4 (nI D)) := (Fr.rfl.up (by unfold b45; omega)).up (by unfold b45; omega)
  have new : (∀ d' v', A d' v' → v' < x ∨ (v' = x ∧ D ≤ d')) → CB (Ad A D x) (up2 (up2 S 130 5 x) 130 4 (nI D)) := fun hh => Or.inr ⟨D, hD, up2_hit rfl rfl, by rw [up2_k (by omega), up2_hit rfl rfl]; exact Dm_new hh⟩
  unfold c_Best_consider
  rcases h with ⟨h1, h2⟩ | ⟨d, h1, h2, h3⟩
  · rw [if_pos (show S 130 4 = (-1 : Int32) from h1), hset]
    exact ⟨_, rfl, new (fun d' v' ha => absurd ha (h2 d' v')), fS⟩
  · rw [if_neg (show ¬ S 130 4 = (-1 : Int32) by rw [h2]; exact fun e => (nI_nneg h1).mp e), h2]
    rcases i_tri x (S 130 5) with c | c | c
    · have c1 : ¬ S 130 5 < x := fun c2 => by
        have := i_trans c c2
        rw [Int32.lt_iff_toInt_lt] at this
        omega
      have c2 : ¬ x = S 130 5 := fun c2 => by
        rw [Int32.lt_iff_toInt_lt, c2] at c
        omega
      rw [if_neg c1, if_neg c2]
      exact ⟨S, rfl, Or.inr ⟨d, h1, h2, Dm_old h3 (Or.inl c)⟩, Fr.rfl⟩
    · have c1 : ¬ S 130 5 < x := fun c2 => by
        rw [Int32.lt_iff_toInt_lt, c] at c2
        omega
      rw [if_neg c1, if_pos c]
      by_cases cd : d ≤ D
      · rw [if_pos (show nI d ≤ nI D from nI_le cd hD)]
        exact ⟨S, rfl, Or.inr ⟨d, h1, h2, Dm_old h3 (Or.inr ⟨c, cd⟩)⟩, Fr.rfl⟩
      · rw [if_neg (show ¬ nI d ≤ nI D from nI_ge (by omega) h1), hset]
        refine ⟨_, rfl, new (fun d' v' ha => ?_), fS⟩
        rcases h3.2 d' v' ha with hh | hh
        · left; rw [c]; exact hh
        · right; rw [c]; exact ⟨hh.1, by omega⟩
    · rw [if_pos c, hset]
      refine ⟨_, rfl, new (fun d' v' ha => ?_), fS⟩
      rcases h3.2 d' v' ha with hh | hh
      · left; exact i_trans hh c
      · left; rw [hh.1]; exact c
theorem cons_M {A : Nat → Int32 → Prop} {T : St} {D : Nat} {x : Int32} (h : MB A T) (hD : D < 2 ^ 31) (hA : ∀ d v, A d v → d ≤ D) : ∃ T', m_offers (nI D) x T = some T' ∧ MB (Ad A D x) T' ∧ Fr b49 T T' := by
  have fT : Fr b49 T (up2 (up2 (up2 T 0 51 (nI 1)) 0 49 (nI D)) 0 50 x) := ((Fr.rfl.up (by unfold b49; omega)).up (by unfold b49; omega)).up (by unfold b49; omega)
  have new : (∀ d' v', A d' v' → v' < x ∨ (v' = x ∧ D ≤ d')) → MB (Ad A D x) (up2 (up2 (up2 T 0 51 (nI 1)) 0 49 (nI D)) 0 50 x) := fun hh => Or.inr ⟨D, hD, by rw [up2_k (by omega), up2_k (by omega), up2_hit rfl rfl], by rw [up2_k (by omega), up2_hit rfl rfl], by rw [up2_hit rfl rfl]; exact Dm_new hh⟩
  rcases h with ⟨h1, h2⟩ | ⟨d, h1, h2, h3, h4⟩
  · rw [offers_0 _ _ h1]
    exact ⟨_, rfl, new (fun d' v' ha => absurd ha (h2 d' v')), fT⟩
  · rw [offers_1 _ _ h2]
    by_cases c : T 0 50 < x
    · rw [if_pos c]
      refine ⟨_, rfl, new (fun d' v' ha => ?_), fT⟩
      rcases h4.2 d' v' ha with hh | hh
      · left; exact i_trans hh c
      · left; rw [hh.1]; exact c
    · rw [if_neg c]
      refine ⟨_, rfl, Or.inr ⟨d, h1, h2, h3, Dm_old h4 ?_⟩, Fr.rfl⟩
      rcases i_tri x (T 0 50) with c2 | c2 | c2
      · exact Or.inl c2
      · exact Or.inr ⟨c2, hA _ _ h4.1⟩
      · exact absurd c2 c
/-- digits -/
def dH (g : Nat → Nat) : Nat → Nat
  | 0 => 0
  | k + 1 => dH g k * 10 + g k
theorem dH_cg {g g' : Nat → Nat} : ∀ n, (∀ j, j < n → g' j = g j) → dH g' n = dH g n
  | 0, _ => rfl
  | n + 1, h => by
    show dH g' n * 10 + g' n = dH g n * 10 + g n
    rw [dH_cg n (fun j hj => h j (by omega)), h n (by omega)]
theorem dH_le {g g' : Nat → Nat} : ∀ n, (∀ j, j < n → g' j ≤ g j) → dH g' n ≤ dH g n
  | 0, _ => Nat.le_refl 0
  | n + 1, h => by
    have := dH_le n (fun j hj => h j (by omega))
    have := h n (by omega)
    show dH g' n * 10 + g' n ≤ dH g n * 10 + g n
    omega
theorem dH_lt {g : Nat → Nat} : ∀ n, (∀ j, j < n → g j ≤ 9) → dH g n < 10 ^ n
  | 0, _ => by show 0 < 10 ^ 0; decide
  | n + 1, h => by
    have := dH_lt n (fun j hj => h j (by omega))
    have := h n (by omega)
    show dH g n * 10 + g n < 10 ^ (n + 1)
    rw [Nat.pow_succ]
    omega
theorem dH_rng {g g' : Nat → Nat} {h : Nat} (he : ∀ j, j < h → g' j = g j) : ∀ k, (∀ j, j < h + k → g' j ≤ 9) → dH g h * 10 ^ k ≤ dH g' (h + k) ∧ dH g' (h + k) < (dH g h + 1) * 10 ^ k
  | 0, _ => by
    rw [Nat.pow_zero, Nat.add_zero, dH_cg h he]
    omega
  | k + 1, hh => by
    obtain ⟨i1, i2⟩ := dH_rng he k (fun j hj => hh j (by omega))
    have := hh (h + k) (by omega)
    show dH g h * 10 ^ (k + 1) ≤ dH g' (h + k) * 10 + g' (h + k) ∧ dH g' (h + k) * 10 + g' (h + k) < (dH g h + 1) * 10 ^ (k + 1)
    rw [Nat.pow_succ, ← Nat.mul_assoc, ← Nat.mul_assoc]
    omega
theorem dH_fo {g : Nat → Nat} {n : Nat} : ∀ k, k ≤ n → foP (fun x y => x + y) (nI 0) (fun h => nI (10 ^ (n - 1 - h) * g h)) k = nI (dH g k * 10 ^ (n - k))
  | 0, _ => by
    show nI 0 = nI (0 * 10 ^ (n - 0))
    rw [Nat.zero_mul]
  | k + 1, h => by
    show foP (fun x y => x + y) (nI 0) (fun h => nI (10 ^ (n - 1 - h) * g h)) k + nI (10 ^ (n - 1 - k) * g k) = nI ((dH g k * 10 + g k) * 10 ^ (n - (k + 1)))
    rw [dH_fo k (by omega), nI_add, show n - k = n - (k + 1) + 1 by omega, show n - 1 - k = n - (k + 1) by omega, Nat.pow_succ, Nat.add_mul]
    congr 1
    rw [Nat.mul_comm (10 ^ (n - (k + 1))) 10, ← Nat.mul_assoc, Nat.mul_comm (10 ^ (n - (k + 1))) (g k)]
/-- the least put of a house -/
def lpF (X : Cf) (a : Nat) : Nat → Nat → Nat
  | 0, _ => 9
  | d + 1, k => if X 0 1 ≤ X (10 + a) k then k else lpF X a d (k + 1)
def lp (X : Cf) (a : Nat) : Nat := lpF X a 5 0
theorem lpF_ok (X : Cf) (a : Nat) : ∀ d k, k + d = 5 → okP X a (lpF X a d k) ∧ (∀ s, k ≤ s → s < 5 → X 0 1 ≤ X (10 + a) s → lpF X a d k ≤ s) ∧ lpF X a d k ≤ 9
  | 0, k, h => ⟨Or.inl rfl, fun s h1 h2 => by omega, Nat.le_refl 9⟩
  | d + 1, k, h => by
    obtain ⟨i1, i2, i3⟩ := lpF_ok X a d (k + 1) (by omega)
    unfold lpF
    by_cases c : X 0 1 ≤ X (10 + a) k
    · rw [if_pos c]
      exact ⟨Or.inr ⟨by omega, c⟩, fun s h1 _ _ => h1, by omega⟩
    · rw [if_neg c]
      refine ⟨i1, fun s h1 h2 h3 => ?_, i3⟩
      by_cases e : s = k
      · subst e; exact absurd h3 c
      · exact i2 s (by omega) h2 h3
theorem lp_le {X : Cf} {a s : Nat} (h : okP X a s) : lp X a ≤ s := by
  obtain ⟨i1, i2, i3⟩ := lpF_ok X a 5 0 (by omega)
  rcases h with h | h
  · rw [h]; exact i3
  · exact i2 s (by omega) h.1 h.2
theorem enough_s {S : St} {X : Cf} (cq : Cq S 33 X) (iv : Iv X) {a s : Nat} (ha : a < X 0 0) (hs : s < 5) : c_State_hasEnough 33 (nI a) (nI s) (nI (X 0 1)) S = some (if X 0 1 ≤ X (10 + a) s then nI 1 else nI 0, S) := by
  have h6 := iv.1
  have hg := iv.2.1
  have hv := (iv.2.2.2.2.2.2.2.2.1 a ha).2.2.2.2 s hs
  have hst := (cq.2.2.2.2.2.2.1 a ha).2.2.2.2 s hs
  by_cases c : X 0 1 ≤ X (10 + a) s
  · rw [if_pos c]; exact enough_1 (by omega) hs hst (by omega) (by omega) c
  · rw [if_neg c]; exact enough_0 (by omega) hs hst (by omega) (by omega) (by omega)
theorem leastPut_eq {S : St} {X : Cf} (cq : Cq S 33 X) (iv : Iv X) {a : Nat} (ha : a < X 0 0) : c_Best_leastPut (nI a) S = some (nI (lp X a), S) := by
  have key : ∀ d k n, k + d = 5 → d < n → c_Best_leastPut_h2 n (nI a) (nI k) S = some (nI (lpF X a d k), S) := by
    intro d
    induction d with
    | zero =>
      intro k n hk hn
      obtain ⟨n, rfl⟩ : ∃ m, n = m + 1 := ⟨n - 1, by omega⟩
      rw [c_Best_leastPut_h2, if_pos (show (5 : Int32) ≤ nI k from nI_le (a := 5) (by omega) (by omega))]
      rfl
    | succ d ih =>
      intro k n hk hn
      obtain ⟨n, rfl⟩ : ∃ m, n = m + 1 := ⟨n - 1, by omega⟩
      rw [c_Best_leastPut_h2, if_neg (show ¬ (5 : Int32) ≤ nI k from nI_ge (b := 5) (by omega) (by omega)), cq.2.1, enough_s cq iv ha (by omega), bI_some, bnd_eq]
      simp only []
      rw [show nI k + (1 : Int32) = nI (k + 1) from nI_add k 1]
      unfold lpF
      by_cases c : X 0 1 ≤ X (10 + a) k
      · rw [if_pos c, if_pos c, if_neg (show ¬ nI 1 = (0 : Int32) by decide)]
      · rw [if_neg c, if_neg c, if_pos (show nI 0 = (0 : Int32) from rfl)]
        exact ih (k + 1) n (by omega) (by omega)
  exact key 5 0 FU (by omega) (by unfold FU; omega)
theorem tens : (∀ k, k < 6 → roV 9 k = nI (10 ^ k)) ∧ (roL 9).length = 6 := by decide +kernel
theorem unit_eq {S : St} {hs a : Nat} (h : S 28 0 = nI hs) (h6 : hs ≤ 6) (ha : a < hs) : c_Best_unitOf (nI a) S = some (nI (10 ^ (hs - 1 - a)), S) := by
  unfold c_Best_unitOf
  rw [bnd_eq, h, show nI hs - (1 : Int32) = nI (hs - 1) from pk_sub (b := 1) (by omega), pk_sub (by omega), if_neg (show ¬ nI (hs - 1 - a) < (0 : Int32) from nI_pos (by omega)), if_neg (show ¬ (6 : Int32) ≤ nI (hs - 1 - a) from nI_ge (b := 6) (by omega) (by omega)), tens.2, ckI (by omega) (by omega), nI_clamp (by omega), tens.1 _ (by omega)]
