/-! THE CODE of a liking: what a piece of it works -/
theorem enc_eq {m s : Nat} (hm : m < 2 ^ 22) (hs : s < 256) : (nI m <<< ((8 : Int32) &&& 31)) ||| nI s = nI (m * 256 + s) := by
  have h1 := pk_shlN (n := m) ((8 : Int32) &&& 31) 8 (by decide) (by omega)
  rw [h1]
  apply Int32.toBitVec_inj.mp
  rw [Int32.toBitVec_or]
  apply BitVec.eq_of_toNat_eq
  rw [BitVec.toNat_or, pk_tn (by omega), pk_tn (by omega), pk_tn (by omega)]
  have h2 := Nat.two_pow_add_eq_or_of_lt (i := 8) (b := s) (by omega) m
  rw [Nat.mul_comm] at h2
  rw [← h2]
theorem dec_lo {m s : Nat} (hm : m < 2 ^ 22) (hs : s < 256) : nI (m * 256 + s) &&& (255 : Int32) = nI s := by
  rw [pk_andN (by omega) 8 (by decide)]
  congr 1
  omega
theorem dec_hi {m s : Nat} (hm : m < 2 ^ 22) (hs : s < 256) : nI (m * 256 + s) >>> ((8 : Int32) &&& 31) = nI m := by
  rw [pk_shrN (by omega) _ 8 (by decide)]
  congr 1
  omega
def Bd (v : Int32) : Prop := -1000000 ≤ v.toInt ∧ v.toInt ≤ 1000000
def Ltr (lt : Nat → Nat) (S : St) : Prop := ∀ k, k < 6 → S 129 k = nI (lt k)
/-- the machine of the class stands at a, with sz numbers on its stack -/
def VmS (cd : Nat → Int32) (lt : Nat → Nat) (j len a a' : Nat) (S : St) : Prop := j < 4 ∧ len ≤ 160 ∧ a' ≤ len ∧ S (16 + j) 2 = nI len ∧ (∀ k, a ≤ k → k < a' → S (20 + j) k = cd k) ∧ Ltr lt S
def Seg (cd : Nat → Int32) (lt : Nat → Nat) (a a' : Nat) (v : Int32) : Prop := a ≤ a' ∧ ∀ (j len sz n : Nat) (S : St), VmS cd lt j len a a' S → sz ≤ a → ∃ S', c_Liking_worth_129_h4 (16 + j) (n + (a' - a)) (nI sz) (nI a) S = c_Liking_worth_129_h4 (16 + j) n (nI (sz + 1)) (nI a') S' ∧ S' (24 + j) sz = v ∧ Fr (fun q k => q = 24 + j ∧ sz ≤ k) S S'
theorem Seg.cong {cd cd' : Nat → Int32} {lt : Nat → Nat} {a a' : Nat} {v : Int32} (h : Seg cd lt a a' v) (hc : ∀ k, a ≤ k → k < a' → cd' k = cd k) : Seg cd' lt a a' v :=
  ⟨h.1, fun j len sz n S hv hs => h.2 j len sz n S ⟨hv.1, hv.2.1, hv.2.2.1, hv.2.2.2.1, fun k h1 h2 => (hv.2.2.2.2.1 k h1 h2).trans (hc k h1 h2), hv.2.2.2.2.2⟩ hs⟩
theorem VmS.fr {cd : Nat → Int32} {lt : Nat → Nat} {j len a a' : Nat} {S S' : St} (h : VmS cd lt j len a a' S) {sz : Nat} (hf : Fr (fun q k => q = 24 + j ∧ sz ≤ k) S S') : VmS cd lt j len a a' S' := by
  obtain ⟨h1, h2, h3, h4, h5, h6⟩ := h
  exact ⟨h1, h2, h3, (hf _ _ (by omega)).trans h4, fun k a1 a2 => (hf _ _ (by omega)).trans (h5 k a1 a2), fun k hk => (hf _ _ (by omega)).trans (h6 k hk)⟩
theorem VmS.sub {cd : Nat → Int32} {lt : Nat → Nat} {j len a a' c c' : Nat} {S : St} (h : VmS cd lt j len a a' S) (h1 : a ≤ c) (h2 : c' ≤ a') : VmS cd lt j len c c' S := by
  obtain ⟨g1, g2, g3, g4, g5, g6⟩ := h
  exact ⟨g1, g2, by omega, g4, fun k a1 a2 => g5 k (by omega) (by omega), g6⟩
/-- what one instruction works: its sign, its argument -/
def vmB (o0 : Nat) (L4 : Int32 → Int32 → St → Option (Int32 × St)) (v2 v3 x1 x2 : Int32) (S : St) : Option (Int32 × St) := (if x1 = (48 : Int32) then (c_Liking_worth_129_b49 o0 L4 v2 v3 x1 x2 S) else (if x1 = (121 : Int32) then (c_Liking_worth_129_b49 o0 L4 v2 v3 x1 x2 S) else (if (1 : Int32) ≤ v2 then (ckM (v2 - (1 : Int32)) 160 (bnd (S (o0 + 8) (v2 - (1 : Int32)).toNatClampNeg) (fun x3 => (if x1 = (59 : Int32) then (some (x3, S)) else (if x1 = (63 : Int32) then (bnd (v2 + (-1 : Int32)) (fun x9 => (if x3 = 0 then (c_Liking_worth_129_b144 o0 L4 x9 (imax v3 (x2 - (1 : Int32))) S) else (c_Liking_worth_129_b144 o0 L4 x9 v3 S)))) else (if x1 = (33 : Int32) then (ckM (v2 - (1 : Int32)) 160 (bnd (up2 S (o0 + 8) (v2 - (1 : Int32)).toNatClampNeg ((1 : Int32) - x3)) (fun S8 => (c_Liking_worth_129_b201 o0 L4 v2 v3 S8)))) else (if v2 < (2 : Int32) then (c_Liking_worth_129_b201 o0 L4 v2 v3 S) else (bnd (v2 + (-1 : Int32)) (fun x4 => (ckM (x4 - (1 : Int32)) 160 (bI (c_Liking_joined x1 (S (o0 + 8) (x4 - (1 : Int32)).toNatClampNeg) x3 S) (fun x6 S5 => (ckM (x4 - (1 : Int32)) 160 (bnd (up2 S5 (o0 + 8) (x4 - (1 : Int32)).toNatClampNeg x6) (fun S7 => (c_Liking_worth_129_b201 o0 L4 x4 v3 S7)))))))))))))))) else (some ((0 : Int32), S)))))
theorem vm_unf (o0 n : Nat) (v2 v3 : Int32) (S : St) : c_Liking_worth_129_h4 o0 (n + 1) v2 v3 S = (if (S o0 2) ≤ v3 then (some ((0 : Int32), S)) else (ckM v3 160 (ckM v3 160 (vmB o0 (c_Liking_worth_129_h4 o0 n) v2 v3 ((S (o0 + 4) v3.toNatClampNeg) &&& (255 : Int32)) ((S (o0 + 4) v3.toNatClampNeg) >>> ((8 : Int32) &&& 31)) S)))) := rfl
theorem vm_step {cd : Nat → Int32} {lt : Nat → Nat} {j len a a' sz m s n : Nat} {S : St} (h : VmS cd lt j len a a' S) (ha : a < a') (hm : m < 2 ^ 22) (hs : s < 256) (hcd : cd a = nI (m * 256 + s)) :
    c_Liking_worth_129_h4 (16 + j) (n + 1) (nI sz) (nI a) S = vmB (16 + j) (c_Liking_worth_129_h4 (16 + j) n) (nI sz) (nI a) (nI s) (nI m) S := by
  obtain ⟨h1, h2, h3, h4, h5, h6⟩ := h
  have e20 : 16 + j + 4 = 20 + j := by omega
  rw [vm_unf, h4, if_neg (by rw [nI_leE (by omega) (by omega)]; omega), ckI (by omega) (by omega), ckI (by omega) (by omega), nI_clamp (by omega), e20, h5 a (by omega) ha, hcd, dec_lo hm hs, dec_hi hm hs]
theorem m1_eq (n : Nat) : nI (n + 1) + (-1 : Int32) = nI n := pk_m1 n
theorem s1_eq (n : Nat) : nI (n + 1) - (1 : Int32) = nI n := nI_pred n
theorem Seg_num {cd : Nat → Int32} {lt : Nat → Nat} {a m : Nat} (hm : m < 2 ^ 22) (hcd : cd a = nI (m * 256 + 48)) : Seg cd lt a (a + 1) (nI m) := by
  refine ⟨by omega, fun j len sz n S hv hs => ⟨up2 S (24 + j) sz (nI m), ?_, up2_hit rfl rfl, Fr.rfl.up ⟨rfl, Nat.le_refl _⟩⟩⟩
  have h1 := hv.2.1
  have h2 := hv.2.2.1
  have e24 : 16 + j + 8 = 24 + j := by omega
  rw [show n + (a + 1 - a) = n + 1 by omega, vm_step hv (by omega) hm (by omega) hcd]
  unfold vmB
  rw [if_pos (show nI 48 = 48 from rfl)]
  unfold c_Liking_worth_129_b49 c_Liking_worth_129_b83 c_Liking_worth_129_b201
  rw [if_pos (show nI sz < (160 : Int32) by show nI sz < nI 160; rw [nI_ltE (by omega) (by omega)]; omega), if_pos (show nI 48 = 48 from rfl), ckI (by omega) (by omega), nI_clamp (by omega), e24]
  simp only [lits, bnd_eq, nI_add]
theorem Seg_let {cd : Nat → Int32} {lt : Nat → Nat} {a i : Nat} (hi : i < 6) (hcd : cd a = nI (i * 256 + 121)) : Seg cd lt a (a + 1) (nI (lt i)) := by
  refine ⟨by omega, fun j len sz n S hv hs => ⟨up2 S (24 + j) sz (nI (lt i)), ?_, up2_hit rfl rfl, Fr.rfl.up ⟨rfl, Nat.le_refl _⟩⟩⟩
  have h1 := hv.2.1
  have h2 := hv.2.2.1
  have e24 : 16 + j + 8 = 24 + j := by omega
  rw [show n + (a + 1 - a) = n + 1 by omega, vm_step hv (by omega) (by omega) (by omega) hcd]
  unfold vmB
  rw [if_neg (show ¬ nI 121 = 48 by decide), if_pos (show nI 121 = 121 from rfl)]
  unfold c_Liking_worth_129_b49 c_Liking_worth_129_b83 c_Liking_worth_129_b201 c_Liking_letterOf_129
  rw [if_pos (show nI sz < (160 : Int32) by show nI sz < nI 160; rw [nI_ltE (by omega) (by omega)]; omega), if_neg (show ¬ nI 121 = 48 by decide), if_neg (show ¬ nI i < (0 : Int32) by show ¬ nI i < nI 0; rw [nI_ltE (by omega) (by omega)]; omega), if_neg (show ¬ (6 : Int32) ≤ nI i by show ¬ nI 6 ≤ nI i; rw [nI_leE (by omega) (by omega)]; omega), ckI hi (by omega), bI_some]
  simp only [lits, bnd_eq, nI_add]
  rw [ckI (by omega) (by omega), nI_clamp (by omega), nI_clamp (by omega), e24, hv.2.2.2.2.2 i hi]
def opS (s : Nat) : Prop := s < 256 ∧ s ≠ 48 ∧ s ≠ 121 ∧ s ≠ 59 ∧ s ≠ 63 ∧ s ≠ 33
theorem Seg_bin {cd : Nat → Int32} {lt : Nat → Nat} {a a1 a2 s : Nat} {x y w : Int32} (h1 : Seg cd lt a a1 x) (h2 : Seg cd lt a1 a2 y) (ho : opS s) (hcd : cd a2 = nI s) (hj : ∀ S, c_Liking_joined (nI s) x y S = some (w, S)) (h01 : a < a1) (h12 : a1 < a2) : Seg cd lt a (a2 + 1) w := by
  refine ⟨by omega, fun j len sz n S hv hs => ?_⟩
  have g1 := hv.2.1
  have g2 := hv.2.2.1
  obtain ⟨S1, e1, v1, f1⟩ := h1.2 j len sz (n + 1 + (a2 - a1)) S (hv.sub (by omega) (by omega)) hs
  have hv1 := hv.fr f1
  obtain ⟨S2, e2, v2, f2⟩ := h2.2 j len (sz + 1) (n + 1) S1 (hv1.sub (by omega) (by omega)) (by omega)
  have hv2 := hv1.fr f2
  obtain ⟨o1, o2, o3, o4, o5, o6⟩ := ho
  have vx : S2 (24 + j) sz = x := by rw [f2 _ _ (by omega)]; exact v1
  refine ⟨up2 S2 (24 + j) sz w, ?_, up2_hit rfl rfl, ?_⟩
  · rw [show n + (a2 + 1 - a) = n + 1 + (a2 - a1) + (a1 - a) by omega, e1, e2, vm_step (hv2.sub (c := a2) (c' := a2 + 1) (by omega) (by omega)) (by omega) (m := 0) (s := s) (by omega) o1 (by rw [hcd]; congr 1; omega)]
    unfold vmB
    rw [if_neg (show ¬ nI s = (48 : Int32) by show ¬ nI s = nI 48; rw [nI_eqE (by omega) (by omega)]; omega), if_neg (show ¬ nI s = (121 : Int32) by show ¬ nI s = nI 121; rw [nI_eqE (by omega) (by omega)]; omega), if_pos (show (1 : Int32) ≤ nI (sz + 1 + 1) by show nI 1 ≤ nI (sz + 1 + 1); rw [nI_leE (by omega) (by omega)]; omega), s1_eq, ckI (by omega) (by omega), bnd_eq]
    rw [if_neg (show ¬ nI s = (59 : Int32) by show ¬ nI s = nI 59; rw [nI_eqE (by omega) (by omega)]; omega), if_neg (show ¬ nI s = (63 : Int32) by show ¬ nI s = nI 63; rw [nI_eqE (by omega) (by omega)]; omega), if_neg (show ¬ nI s = (33 : Int32) by show ¬ nI s = nI 33; rw [nI_eqE (by omega) (by omega)]; omega), if_neg (show ¬ nI (sz + 1 + 1) < (2 : Int32) by show ¬ nI (sz + 1 + 1) < nI 2; rw [nI_ltE (by omega) (by omega)]; omega), bnd_eq, m1_eq, s1_eq, ckI (by omega) (by omega), nI_clamp (by omega), nI_clamp (by omega), show 16 + j + 8 = 24 + j by omega, v2, vx, hj S2, bI_some]
    rw [ckI (by omega) (by omega), bnd_eq]
    unfold c_Liking_worth_129_b201
    simp only [bnd_eq, lits, nI_add]
  · exact (f1.tr (f2.mono (fun q k hp => ⟨hp.1, by omega⟩))).up ⟨rfl, Nat.le_refl _⟩
theorem Seg_not {cd : Nat → Int32} {lt : Nat → Nat} {a a1 : Nat} {x : Int32} (h1 : Seg cd lt a a1 x) (hcd : cd a1 = nI 33) (h01 : a < a1) : Seg cd lt a (a1 + 1) (nI 1 - x) := by
  refine ⟨by omega, fun j len sz n S hv hs => ?_⟩
  have g1 := hv.2.1
  have g2 := hv.2.2.1
  obtain ⟨S1, e1, v1, f1⟩ := h1.2 j len sz (n + 1) S (hv.sub (by omega) (by omega)) hs
  have hv1 := hv.fr f1
  refine ⟨up2 S1 (24 + j) sz (nI 1 - x), ?_, up2_hit rfl rfl, f1.up ⟨rfl, Nat.le_refl _⟩⟩
  rw [show n + (a1 + 1 - a) = n + 1 + (a1 - a) by omega, e1, vm_step (hv1.sub (c := a1) (c' := a1 + 1) (by omega) (by omega)) (by omega) (m := 0) (s := 33) (by omega) (by omega) (by rw [hcd])]
  unfold vmB
  rw [if_neg (show ¬ nI 33 = 48 by decide), if_neg (show ¬ nI 33 = 121 by decide), if_pos (show (1 : Int32) ≤ nI (sz + 1) by show nI 1 ≤ nI (sz + 1); rw [nI_leE (by omega) (by omega)]; omega), s1_eq, ckI (by omega) (by omega), bnd_eq]
  rw [if_neg (show ¬ nI 33 = 59 by decide), if_neg (show ¬ nI 33 = 63 by decide), if_pos (show nI 33 = 33 from rfl), ckI (by omega) (by omega), nI_clamp (by omega), show 16 + j + 8 = 24 + j by omega, v1, bnd_eq]
  unfold c_Liking_worth_129_b201
  simp only [bnd_eq, lits, nI_add]
/-- a clause: it answers, or is passed by -/
def Cls (cd : Nat → Int32) (lt : Nat → Nat) (a a' : Nat) (r : Option Int32) : Prop := a ≤ a' ∧ ∀ (j len n : Nat) (S : St), VmS cd lt j len a a' S → match r with
  | some w => ∃ S', c_Liking_worth_129_h4 (16 + j) (n + (a' - a)) (nI 0) (nI a) S = some (w, S') ∧ Fr (fun q _ => q = 24 + j) S S'
  | none => ∃ S' m, n ≤ m ∧ c_Liking_worth_129_h4 (16 + j) (n + (a' - a)) (nI 0) (nI a) S = c_Liking_worth_129_h4 (16 + j) m (nI 0) (nI a') S' ∧ Fr (fun q _ => q = 24 + j) S S'
theorem Cls.cong {cd cd' : Nat → Int32} {lt : Nat → Nat} {a a' : Nat} {r : Option Int32} (h : Cls cd lt a a' r) (hc : ∀ k, a ≤ k → k < a' → cd' k = cd k) : Cls cd' lt a a' r :=
  ⟨h.1, fun j len n S hv => h.2 j len n S ⟨hv.1, hv.2.1, hv.2.2.1, hv.2.2.2.1, fun k h1 h2 => (hv.2.2.2.2.1 k h1 h2).trans (hc k h1 h2), hv.2.2.2.2.2⟩⟩
/-- the answer behind a sum -/
theorem ans_step {cd : Nat → Int32} {lt : Nat → Nat} {j len a n : Nat} {S : St} (h : VmS cd lt j len a (a + 1) S) (hcd : cd a = nI 59) : c_Liking_worth_129_h4 (16 + j) (n + 1) (nI 1) (nI a) S = some (S (24 + j) 0, S) := by
  rw [vm_step h (by omega) (m := 0) (s := 59) (by omega) (by omega) (by rw [hcd])]
  unfold vmB
  rw [if_neg (show ¬ nI 59 = 48 by decide), if_neg (show ¬ nI 59 = 121 by decide), if_pos (show (1 : Int32) ≤ nI 1 by decide), show nI 1 - (1 : Int32) = nI 0 from rfl, ckI (by omega) (by omega), bnd_eq]
  rw [if_pos (show nI 59 = 59 from rfl), nI_clamp (by omega), show 16 + j + 8 = 24 + j by omega]
theorem Cls_sum {cd : Nat → Int32} {lt : Nat → Nat} {a a1 : Nat} {x : Int32} (h1 : Seg cd lt a a1 x) (hcd : cd a1 = nI 59) : Cls cd lt a (a1 + 1) (some x) := by
  have h0 := h1.1
  refine ⟨by omega, fun j len n S hv => ?_⟩
  obtain ⟨S1, e1, v1, f1⟩ := h1.2 j len 0 (n + 1) S (hv.sub (by omega) (by omega)) (by omega)
  refine ⟨S1, ?_, f1.mono (fun q k hp => hp.1)⟩
  rw [show n + (a1 + 1 - a) = n + 1 + (a1 - a) by omega, e1, ans_step ((hv.fr f1).sub (by omega) (by omega)) hcd, v1]
theorem imax_jump {a m : Nat} (h : a < m) (hm : m < 2 ^ 31) : imax (nI a) (nI m - nI 1) = nI (m - 1) := by
  rw [pk_sub (by omega)]
  unfold imax
  by_cases e : a = m - 1
  · rw [e, if_neg (by rw [nI_ltE (by omega) (by omega)]; omega)]
  · rw [if_pos (by rw [nI_ltE (by omega) (by omega)]; omega)]
theorem Cls_cond {cd : Nat → Int32} {lt : Nat → Nat} {a a1 a2 : Nat} {x y : Int32} (h1 : Seg cd lt a a1 x) (h2 : Seg cd lt (a1 + 1) a2 y) (hx : x = nI 0 ∨ x = nI 1) (hsk : cd a1 = nI ((a2 + 1) * 256 + 63)) (ha2 : a2 < 1000) (hcd : cd a2 = nI 59) : Cls cd lt a (a2 + 1) (if x = nI 0 then none else some y) := by
  have h0 := h1.1
  have h02 := h2.1
  refine ⟨by omega, fun j len n S hv => ?_⟩
  have g1 := hv.2.1
  have g2 := hv.2.2.1
  obtain ⟨S1, e1, v1, f1⟩ := h1.2 j len 0 (n + (a2 + 1 - (a1 + 1)) + 1) S (hv.sub (by omega) (by omega)) (by omega)
  have hv1 := hv.fr f1
  have step : c_Liking_worth_129_h4 (16 + j) (n + (a2 + 1 - a)) (nI 0) (nI a) S = if x = nI 0 then c_Liking_worth_129_h4 (16 + j) (n + (a2 + 1 - (a1 + 1))) (nI 0) (nI (a2 + 1)) S1 else c_Liking_worth_129_h4 (16 + j) (n + (a2 + 1 - (a1 + 1))) (nI 0) (nI (a1 + 1)) S1 := by
    rw [show n + (a2 + 1 - a) = n + (a2 + 1 - (a1 + 1)) + 1 + (a1 - a) by omega, e1, vm_step (hv1.sub (c := a1) (c' := a1 + 1) (by omega) (by omega)) (by omega) (m := a2 + 1) (s := 63) (by omega) (by omega) hsk]
    unfold vmB
    rw [if_neg (show ¬ nI 63 = 48 by decide), if_neg (show ¬ nI 63 = 121 by decide), if_pos (show (1 : Int32) ≤ nI (0 + 1) by decide), s1_eq, ckI (by omega) (by omega), bnd_eq]
    rw [if_neg (show ¬ nI 63 = 59 by decide), if_pos (show nI 63 = 63 from rfl), nI_clamp (by omega), show 16 + j + 8 = 24 + j by omega, v1, bnd_eq, m1_eq, show nI (a2 + 1) - (1 : Int32) = nI (a2 + 1) - nI 1 from rfl, imax_jump (by omega) (by omega)]
    unfold c_Liking_worth_129_b144 c_Liking_worth_129_b201
    simp only [bnd_eq, lits, nI_add]
    rw [show a2 + 1 - 1 + 1 = a2 + 1 by omega]
  by_cases e0 : x = nI 0
  · rw [if_pos e0] at step
    simp only [if_pos e0]
    exact ⟨S1, n + (a2 + 1 - (a1 + 1)), by omega, step, f1.mono (fun q k hp => hp.1)⟩
  · rw [if_neg e0] at step
    simp only [if_neg e0]
    obtain ⟨S2, e2, v2, f2⟩ := h2.2 j len 0 (n + 1) S1 (hv1.sub (by omega) (by omega)) (by omega)
    refine ⟨S2, ?_, (f1.mono (fun q k hp => hp.1)).tr (f2.mono (fun q k hp => hp.1))⟩
    rw [step, show n + (a2 + 1 - (a1 + 1)) = n + 1 + (a2 - (a1 + 1)) by omega, e2, ans_step ((hv1.fr f2).sub (by omega) (by omega)) hcd, v2]
