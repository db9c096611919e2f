/-! leaf methods of the class, as equations -/
theorem isLast_0 {S : St} {hs pl : Nat} (h : S 28 0 = nI hs) (hh : hs ≤ 6) (hp : pl + 1 < hs) : c_Noon_isLast (nI pl) S = some (nI 0, S) := by
  unfold c_Noon_isLast
  simp only [lits]
  rw [h, pk_sub (by omega), if_pos (by rw [nI_ltE (by omega) (by omega)]; omega)]
  rfl
theorem isLast_1 {S : St} {hs pl : Nat} (h : S 28 0 = nI hs) (hh : hs ≤ 6) (h1 : 1 ≤ hs) (hp6 : pl < 7) (hp : hs ≤ pl + 1) : c_Noon_isLast (nI pl) S = some (nI 1, S) := by
  unfold c_Noon_isLast
  simp only [lits]
  rw [h, pk_sub (by omega), if_neg (by rw [nI_ltE (by omega) (by omega)]; omega)]
  rfl
theorem got_eq {S : St} {h s : Nat} (hh : h < 6) (hs : s < 6) : c_Noon_got (nI h) (nI s) S = some (S (121 + h) s, S) := by
  unfold c_Noon_got c_Noon_got_b25
  simp (disch := omega) only [lits, nI_ltE, nI_leE, nI_eqE, ckI, nI_clamp]
  simp (disch := omega) only [Nat.not_lt_zero, if_false, if_neg, Nat.not_le.mpr hh, Nat.not_le.mpr hs]
theorem isStuff_1 {S : St} {s : Nat} (hs : s < 5) : c_N_isStuff (nI s) S = some (nI 1, S) := by
  unfold c_N_isStuff
  simp only [lits]
  rw [if_neg (by rw [nI_ltE (by omega) (by omega)]; omega), if_neg (by rw [nI_leE (by omega) (by omega)]; omega)]
  rfl
theorem isStuff_0 {S : St} {s : Nat} (hs : 5 ≤ s) (h2 : s < 2 ^ 31) : c_N_isStuff (nI s) S = some (nI 0, S) := by
  unfold c_N_isStuff
  simp only [lits]
  rw [if_neg (by rw [nI_ltE (by omega) (by omega)]; omega), if_pos (by rw [nI_leE (by omega) (by omega)]; omega)]
  rfl
theorem grains_h4 {S : St} {h : Nat} (hh : h < 6) {v2 : Int32} {n k : Nat} (hk : k < 5) : c_Noon_grainsOf_h4 (n + 1) (nI h) v2 (nI k) S = c_Noon_grainsOf_h4 n (nI h) (v2 + S (121 + h) k) (nI (k + 1)) S := by
  rw [c_Noon_grainsOf_h4]
  simp only [lits]
  rw [if_neg (by rw [nI_leE (by omega) (by omega)]; omega), got_eq hh (by omega), bI_some]
  simp only [bnd_eq, nI_add]
def sm5 (p : Nat → Nat) : Nat := p 0 + p 1 + p 2 + p 3 + p 4
theorem grainsOf_eq {S : St} {h : Nat} {p : Nat → Nat} (hh : h < 6) (hS : ∀ s, s < 6 → S (121 + h) s = nI (p s)) : c_Noon_grainsOf (nI h) S = some (nI (sm5 p), S) := by
  unfold c_Noon_grainsOf
  simp only [lits]
  rw [show FU = 994 + 1 + 1 + 1 + 1 + 1 + 1 from rfl, grains_h4 hh (by omega), grains_h4 hh (by omega), grains_h4 hh (by omega), grains_h4 hh (by omega), grains_h4 hh (by omega), c_Noon_grainsOf_h4]
  rw [if_pos (by decide), hS 0 (by omega), hS (0 + 1) (by omega), hS (0 + 1 + 1) (by omega), hS (0 + 1 + 1 + 1) (by omega), hS (0 + 1 + 1 + 1 + 1) (by omega)]
  unfold sm5
  simp only [nI_add, Nat.zero_add, Nat.reduceAdd]
theorem heatOf_eq {S : St} {h c pl : Nat} (hh : h < 6) (hc : S 28 3 = nI c) (hp : S 127 h = nI pl) (c1 : c ≤ 20) (p1 : pl < 6) : c_Noon_heatOf (nI h) S = some (nI (100 - c * pl), S) := by
  have hm : c * pl ≤ 20 * 6 := Nat.mul_le_mul c1 (by omega)
  unfold c_Noon_heatOf c_Noon_heatOf_b15
  simp (disch := omega) only [lits, nI_ltE, nI_leE, nI_eqE, ckI, nI_clamp]
  rw [if_neg (by omega), if_neg (by omega), if_neg (by omega), hc, hp, pk_mul]
  unfold imax
  by_cases h1 : c * pl < 100
  · rw [pk_sub (by omega), if_pos (by rw [nI_ltE (by omega) (by omega)]; omega)]
  · rw [show 100 - c * pl = 0 by omega]
    by_cases h2 : c * pl = 100
    · rw [h2, if_neg (by decide)]
    · rw [if_neg]
      intro hlt
      have := pk_sneg (a := 100) (b := c * pl) (by omega) (by omega)
      rw [Int32.lt_iff_toInt_lt] at this hlt
      have e0 : (nI 0).toInt = 0 := by decide
      have e1 : (0 : Int32).toInt = 0 := by decide
      omega
theorem putOf_eq {S : St} {o h : Nat} (hh : h < 6) : c_State_putOf o (nI h) S = some (S (o + 4) h, S) := by
  unfold c_State_putOf
  simp (disch := omega) only [lits, nI_ltE, nI_leE, ckI, nI_clamp]
  rw [if_neg (by omega), if_neg (by omega)]
theorem isStore_1 {S : St} {h s : Nat} (hh : h < 6) (hs : s < 5) : c_State_isStore (nI h) (nI s) S = some (nI 1, S) := by
  unfold c_State_isStore
  rw [isStuff_1 hs, bI_some]
  simp (disch := omega) only [lits, nI_ltE, nI_leE, nI_eqE]
  rw [if_neg (by omega), if_neg (by omega), if_neg (by omega)]
  rfl
theorem isStore_0 {S : St} {h s : Nat} (hh : h < 6) (hs : 5 ≤ s) (h2 : s < 2 ^ 31) : c_State_isStore (nI h) (nI s) S = some (nI 0, S) := by
  unfold c_State_isStore
  rw [isStuff_0 hs h2, bI_some]
  simp (disch := omega) only [lits, nI_ltE, nI_leE, nI_eqE]
  rw [if_neg (by omega), if_neg (by omega), if_pos (by simp)]
  rfl
theorem enough_9 {S : St} {o h s : Nat} {g : Int32} (hh : h < 6) (hs : 5 ≤ s) (h2 : s < 2 ^ 31) : c_State_hasEnough o (nI h) (nI s) g S = some (nI 0, S) := by
  unfold c_State_hasEnough
  rw [isStore_0 hh hs h2, bI_some]
  simp only [lits, if_true]
  rfl
theorem enough_1 {S : St} {o h s v g : Nat} (hh : h < 6) (hs : s < 5) (hS : S (o + 1) (5 * h + s) = nI v) (hv : v < 2 ^ 31) (hg : g < 2 ^ 31) (hle : g ≤ v) : c_State_hasEnough o (nI h) (nI s) (nI g) S = some (nI 1, S) := by
  unfold c_State_hasEnough
  rw [isStore_1 hh hs, bI_some]
  simp (disch := omega) only [lits, nI_eqE, pk_mul, nI_add, ckI, nI_clamp]
  rw [show h * 5 + s = 5 * h + s by omega, hS, if_neg (by omega), if_neg (by rw [nI_ltE (by omega) (by omega)]; omega)]
  rfl
theorem enough_0 {S : St} {o h s v g : Nat} (hh : h < 6) (hs : s < 5) (hS : S (o + 1) (5 * h + s) = nI v) (hv : v < 2 ^ 31) (hg : g < 2 ^ 31) (hle : v < g) : c_State_hasEnough o (nI h) (nI s) (nI g) S = some (nI 0, S) := by
  unfold c_State_hasEnough
  rw [isStore_1 hh hs, bI_some]
  simp (disch := omega) only [lits, nI_eqE, pk_mul, nI_add, ckI, nI_clamp]
  rw [show h * 5 + s = 5 * h + s by omega, hS, if_neg (by omega), if_pos (by rw [nI_ltE (by omega) (by omega)]; omega)]
  rfl
theorem breaks_eq {S : St} {tw : Nat} (h : S 28 2 = nI tw) (ht : tw ≤ 1) (m : Int32) (s : Nat) : c_Noon_breaksLaw m (nI s) S = some (if tw = 1 ∧ hasB m s then nI 1 else nI 0, S) := by
  unfold c_Noon_breaksLaw
  simp only [lits]
  rw [h]
  simp only [nI_eqE (show tw < 2 ^ 31 by omega) (show 1 < 2 ^ 31 by omega)]
  by_cases h1 : tw = 1
  · rw [if_pos h1]
    by_cases h2 : hasB m s
    · rw [if_pos h2, if_pos ⟨h1, h2⟩]; rfl
    · rw [if_neg h2, if_neg (fun q => h2 q.2)]; rfl
  · rw [if_neg h1, if_neg (fun q => h1 q.1)]; rfl
theorem pour_eq {S : St} {pl s : Nat} (g : Int32) (hp : pl < 6) (hs : s < 6) : c_Noon_pour (nI pl) (nI s) g S = some (up2 S (114 + (pl + 1)) s (S (114 + (pl + 1)) s + g)) := by
  unfold c_Noon_pour
  simp (disch := omega) only [lits, nI_ltE, nI_leE, nI_add, ckI, nI_clamp, bnd_eq]
  rw [if_neg (by omega), if_neg (by omega), if_neg (by omega), if_neg (by omega)]
/-! what a State and the street hold -/
def Cq (S : St) (o : Nat) (X : Cf) : Prop := S 28 0 = nI (X 0 0) ∧ S 28 1 = nI (X 0 1) ∧ S 28 2 = nI (X 0 2) ∧ S 28 3 = nI (X 0 3) ∧ S o 0 = nI (X 0 4) ∧ (∀ s, s < 5 → S 29 s = nI (X 1 s)) ∧ (∀ h, h < X 0 0 → S 30 h = nI (X 2 h) ∧ S 31 h = nI (X 3 h) ∧ S 32 h = nI (X 4 h) ∧ S (o + 4) h = nI (X 7 h) ∧ ∀ s, s < 5 → S (o + 1) (5 * h + s) = nI (X (10 + h) s)) ∧ (∀ p, p < X 0 0 → S (o + 3) p = nI (X 6 p))
theorem Cq.fr {S S' : St} {o : Nat} {X : Cf} (h : Cq S o X) (ho : 28 ≤ o ∧ o ≤ 100) (hf : ∀ q j, 28 ≤ q → q ≤ 110 → S' q j = S q j) : Cq S' o X := by
  obtain ⟨h1, h2, h3, h4, h5, h6, h7, h8⟩ := h
  refine ⟨?_, ?_, ?_, ?_, ?_, fun s hs => ?_, fun a ha => ⟨?_, ?_, ?_, ?_, fun s hs => ?_⟩, fun p hp => ?_⟩
  · rw [hf _ _ (by omega) (by omega)]; exact h1
  · rw [hf _ _ (by omega) (by omega)]; exact h2
  · rw [hf _ _ (by omega) (by omega)]; exact h3
  · rw [hf _ _ (by omega) (by omega)]; exact h4
  · rw [hf _ _ (by omega) (by omega)]; exact h5
  · rw [hf _ _ (by omega) (by omega)]; exact h6 s hs
  · rw [hf _ _ (by omega) (by omega)]; exact (h7 a ha).1
  · rw [hf _ _ (by omega) (by omega)]; exact (h7 a ha).2.1
  · rw [hf _ _ (by omega) (by omega)]; exact (h7 a ha).2.2.1
  · rw [hf _ _ (by omega) (by omega)]; exact (h7 a ha).2.2.2.1
  · rw [hf _ _ (by omega) (by omega)]; exact (h7 a ha).2.2.2.2 s hs
  · rw [hf _ _ (by omega) (by omega)]; exact h8 p hp
/-- a house's put: has it enough? -/
theorem enough_dP {S : St} {o : Nat} {X : Cf} (h : Cq S o X) (iv : Iv X) {a : Nat} (ha : a < X 0 0) : c_State_hasEnough o (nI a) (nI (X 7 a)) (nI (X 0 1)) S = some (if dP X a then nI 1 else nI 0, S) := by
  obtain ⟨i1, i2, i3, i4, i5, i6, i7, i8, i9, i10, i11⟩ := iv
  obtain ⟨j1, j2, j3, j4, j5⟩ := i9 a ha
  by_cases h9 : X 7 a = 9
  · rw [if_neg (fun q => q.1 h9), enough_9 (by omega) (by omega) (by omega)]
  · have hs : X 7 a < 5 := by omega
    have hv := j5 _ hs
    by_cases hd : X 0 1 ≤ X (10 + a) (X 7 a)
    · rw [if_pos ⟨h9, hd⟩, enough_1 (by omega) hs ((h.2.2.2.2.2.2.1 a ha).2.2.2.2 _ hs) (by omega) (by omega) hd]
    · rw [if_neg (fun q => hd q.2), enough_0 (by omega) hs ((h.2.2.2.2.2.2.1 a ha).2.2.2.2 _ hs) (by omega) (by omega) (by omega)]
/-- serve: what the house at a place takes -/
theorem serve_ok {S : St} {pl h hs lad : Nat} {p : Nat → Nat} (hh : S 28 0 = nI hs) (h6 : hs ≤ 6) (hp : pl < hs) (ha : h < 6) (hl : S 30 h = nI lad) (hl9 : lad ≤ 99) (hS : ∀ s, s < 6 → S (114 + pl) s = nI (p s)) (hb : ∀ s, s < 6 → p s ≤ 1200) :
    Ok (c_Noon_serve (nI pl) (nI h) S) (fun S' => (∀ s, s < 6 → S' (121 + h) s = nI (tk p (if pl + 1 = hs then 2147483647 else lad) s) ∧ S' (114 + (pl + 1)) s = nI (p s - tk p (if pl + 1 = hs then 2147483647 else lad) s)) ∧ S' 127 h = nI pl ∧ Fr (fun q j => ((q = 121 + h ∨ q = 114 + (pl + 1)) ∧ j < 6) ∨ (q = 127 ∧ j = h)) S S') := by
  have key : ∀ L, L < 2 ^ 31 → Ok (c_Noon_serve_b50 (nI pl) (nI h) (nI L) (up2 S 127 h (nI pl))) (fun S' => (∀ s, s < 6 → S' (121 + h) s = nI (tk p L s) ∧ S' (114 + (pl + 1)) s = nI (p s - tk p L s)) ∧ S' 127 h = nI pl ∧ Fr (fun q j => ((q = 121 + h ∨ q = 114 + (pl + 1)) ∧ j < 6) ∨ (q = 127 ∧ j = h)) S S') := by
    intro L hL
    unfold c_Noon_serve_b50
    simp (disch := omega) only [lits, nI_add, ckI, nI_clamp]
    have hS1 : ∀ s, s < 6 → up2 S 127 h (nI pl) (114 + pl) s = nI (p s) := fun s hs => by rw [up2_o (by omega)]; exact hS s hs
    refine ok_bV (scoop_ok (o0 := 114 + pl) (o1 := 121 + h) (o2 := 114 + (pl + 1)) (by omega) (by omega) hL hS1 hb) (fun S' hq => ok_some ⟨hq.1, ?_, ?_⟩)
    · rw [hq.2 127 h (by omega), up2_hit rfl rfl]
    · intro q j hn
      rw [hq.2 q j (by omega), up2_n (by omega)]
  unfold c_Noon_serve
  simp (disch := omega) only [lits, nI_ltE, nI_leE, ckI, nI_clamp, bnd_eq]
  rw [if_neg (by omega), if_neg (by omega), if_neg (by omega), if_pos ha]
  have hh1 : up2 S 127 h (nI pl) 28 0 = nI hs := by rw [up2_o (by omega)]; exact hh
  by_cases hlast : pl + 1 = hs
  · rw [isLast_1 hh1 h6 (by omega) (by omega) (by omega), bI_some]
    simp only [if_pos hlast]
    rw [if_neg (by decide)]
    exact key 2147483647 (by omega)
  · rw [isLast_0 hh1 h6 (by omega), bI_some]
    simp only [if_neg hlast, if_true]
    rw [up2_o (by omega), hl]
    exact key lad (by omega)
