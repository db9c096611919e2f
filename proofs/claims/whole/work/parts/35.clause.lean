/-! CLAUSES of a liking, and the whole text -/
def clsV (r : Option Int32) : Int32 := match r with
  | some w => w
  | none => nI 0
theorem Cls_nil (cd : Nat → Int32) (lt : Nat → Nat) (a : Nat) : Cls cd lt a a none := ⟨Nat.le_refl a, fun j len n S hv => ⟨S, n, Nat.le_refl n, by rw [Nat.sub_self, Nat.add_zero], Fr.rfl⟩⟩
theorem Cls_ext {cd : Nat → Int32} {lt : Nat → Nat} {a a1 a2 : Nat} {w : Int32} (h : Cls cd lt a a1 (some w)) (h2 : a1 ≤ a2) : Cls cd lt a a2 (some w) := by
  have h0 := h.1
  refine ⟨by omega, fun j len n S hv => ?_⟩
  obtain ⟨S', e, f⟩ := h.2 j len (n + (a2 - a1)) S (hv.sub (by omega) (by omega))
  exact ⟨S', by rw [← e]; congr 1; omega, f⟩
theorem VmS.fr2 {cd : Nat → Int32} {lt : Nat → Nat} {j len a a' : Nat} {S S' : St} (h : VmS cd lt j len a a' S) (hf : Fr (fun q _ => q = 24 + j) S S') : VmS cd lt j len a a' S' := by
  obtain ⟨h1, h2, h3, h4, h5, h6⟩ := h
  exact ⟨h1, h2, h3, (hf _ _ (by omega)).trans h4, fun k a1 a2 => (hf _ _ (by omega)).trans (h5 k a1 a2), fun k hk => (hf _ _ (by omega)).trans (h6 k hk)⟩
theorem Cls_tr {cd : Nat → Int32} {lt : Nat → Nat} {a a1 a2 : Nat} {r : Option Int32} (h : Cls cd lt a a1 none) (h2 : Cls cd lt a1 a2 r) : Cls cd lt a a2 r := by
  have h0 := h.1
  have h02 := h2.1
  refine ⟨by omega, fun j len n S hv => ?_⟩
  obtain ⟨S1, m, hm, e1, f1⟩ := h.2 j len (n + (a2 - a1)) S (hv.sub (by omega) (by omega))
  have hv1 := (hv.fr2 f1).sub (c := a1) (c' := a2) (by omega) (by omega)
  have e1' : c_Liking_worth_129_h4 (16 + j) (n + (a2 - a)) (nI 0) (nI a) S = c_Liking_worth_129_h4 (16 + j) (m - (a2 - a1) + (a2 - a1)) (nI 0) (nI a1) S1 := by
    rw [show n + (a2 - a) = n + (a2 - a1) + (a1 - a) by omega, e1]; congr 1; omega
  have k2 := h2.2 j len (m - (a2 - a1)) S1 hv1
  cases r with
  | some w =>
    obtain ⟨S2, e2, f2⟩ := k2
    exact ⟨S2, e1'.trans e2, f1.tr f2⟩
  | none =>
    obtain ⟨S2, m2, hm2, e2, f2⟩ := k2
    exact ⟨S2, m2, by omega, e1'.trans e2, f1.tr f2⟩
/-- the machine's answer -/
theorem worth_of {cd : Nat → Int32} {lt : Nat → Nat} {cl : Nat} {r : Option Int32} (h : Cls cd lt 0 cl r) (hcl : cl ≤ 160) {j : Nat} {S : St} (hj : j < 4) (hl : S (16 + j) 2 = nI cl) (hc : ∀ k, k < cl → S (20 + j) k = cd k) (hlt : Ltr lt S) : Ok (c_Liking_worth_129 (16 + j) S) (fun z => z.1 = clsV r ∧ Fr (fun q _ => q = 24 + j) S z.2) := by
  have hv : VmS cd lt j cl 0 cl S := ⟨hj, hcl, Nat.le_refl _, hl, fun k _ hk => hc k hk, hlt⟩
  have k2 := h.2 j cl (1000 - cl) S hv
  have e0 : c_Liking_worth_129 (16 + j) S = c_Liking_worth_129_h4 (16 + j) (1000 - cl + (cl - 0)) (nI 0) (nI 0) S := by
    unfold c_Liking_worth_129
    simp only [lits]
    congr 1
    unfold FU
    omega
  rw [e0]
  cases r with
  | some w =>
    obtain ⟨S2, e2, f2⟩ := k2
    rw [e2]
    exact ok_some ⟨rfl, f2⟩
  | none =>
    obtain ⟨S2, m2, hm2, e2, f2⟩ := k2
    obtain ⟨m2, rfl⟩ : ∃ m, m2 = m + 1 := ⟨m2 - 1, by omega⟩
    have e3 : S2 (16 + j) 2 = nI cl := (f2 _ _ (by omega)).trans hl
    rw [e2, vm_unf, e3, if_pos (show nI cl ≤ nI cl from nI_le (Nat.le_refl _) (by omega))]
    exact ok_some ⟨rfl, f2⟩
def mF2 : Nat → Nat → Prop := fun q j => q = 0 ∧ (j = 10 ∨ j = 11 ∨ j = 12 ∨ j = 14 ∨ j = 17)
theorem mF2_of {T T' : St} (h : Fr mF T T') : Fr mF2 T T' := h.mono (fun q j hp => by unfold mF at hp; unfold mF2; omega)
def fnd (T T' : St) (res : Option Int32) : Prop := (T 0 17 = nI 0 → (res = none ∧ T' 0 17 = nI 0 ∧ T' 0 14 = T 0 14) ∨ (∃ w, res = some w ∧ Bd w ∧ T' 0 17 = nI 1 ∧ T' 0 14 = w)) ∧ (T 0 17 = nI 1 → T' 0 17 = nI 1 ∧ T' 0 14 = T 0 14)
section CLAUSE
variable {b : Nat → Nat} {L ob bs : Nat} {lt : Nat → Nat}
def ClR (b : Nat → Nat) (L ob bs : Nat) (lt : Nat → Nat) (S T : St) (a cl : Nat) (r : Int32) (S' T' : St) : Prop := Fr cF S S' ∧ Fr mF2 T T' ∧ ((r = nI 1 ∧ ∃ a' cl' res, KC b L S' a' cl' ∧ KM b L ob bs lt T' a' 0 ∧ a < a' ∧ cl ≤ cl' ∧ (∀ k, k < cl → S' 14 k = S 14 k) ∧ Cls (S' 14) lt cl cl' res ∧ fnd T T' res) ∨ (r = nI 0 ∧ ∃ f, f ≤ L ∧ S' 13 1 = nI f ∧ T' 0 11 = nI f))
theorem b134_f {T : St} (v1 v2 v3 : Int32) (hf : T 0 11 ≠ -nI 1) : m_clause_b134 v1 v2 v3 T = some T := by
  unfold m_clause_b134
  simp only [lits]
  rw [if_neg hf]
theorem KM.f14 {T : St} {a d : Nat} {x y : Int32} (h : KM b L ob bs lt T a d) : KM b L ob bs lt (up2 (up2 T 0 17 x) 0 14 y) a d :=
  ⟨h.1.fr (fun q j hq => by rw [up2_n (by omega), up2_n (by omega)]), by rw [up2_k (by omega), up2_k (by omega)]; exact h.2.1, by rw [up2_k (by omega), up2_k (by omega)]; exact h.2.2.1, by rw [up2_k (by omega), up2_k (by omega)]; exact h.2.2.2.1, h.2.2.2.2.fr (fun j => by rw [up2_o (by omega), up2_o (by omega)])⟩
/-- what a clause found is kept, the first time -/
theorem b134_ok {T0 T : St} {a : Nat} (km : KM b L ob bs lt T a 0) (f0 : Fr mF T0 T) (h13 : T0 0 13 = nI 121) (h17 : b01 (T0 0 17)) {x v : Int32} (hx : b01 x) (hv : Bd v) : ∃ T', m_clause_b134 (nI 121) x v T = some T' ∧ KM b L ob bs lt T' a 0 ∧ Fr mF2 T0 T' ∧ fnd T0 T' (if x = nI 0 then none else some v) := by
  have g13 : T 0 13 = nI 121 := (f0 0 13 (by unfold mF; omega)).trans h13
  have g17 : T 0 17 = T0 0 17 := f0 0 17 (by unfold mF; omega)
  have g14 : T 0 14 = T0 0 14 := f0 0 14 (by unfold mF; omega)
  unfold m_clause_b134
  simp only [lits, bnd_eq]
  rw [if_pos km.2.2.1, g13, if_pos (show nI 121 = nI 121 from rfl), g17]
  rcases h17 with h | h
  · rw [if_pos h]
    by_cases h0 : x = nI 0
    · rw [if_pos h0, if_pos h0]
      exact ⟨T, rfl, km, mF2_of f0, fun _ => Or.inl ⟨rfl, g17.trans h, g14⟩, fun h1 => absurd (h.symm.trans h1) (by decide)⟩
    · rw [if_neg h0, if_neg h0]
      refine ⟨_, rfl, km.f14, ((mF2_of f0).up (o := 0) (k := 17) (by unfold mF2; omega)).up (by unfold mF2; omega), fun _ => Or.inr ⟨v, rfl, hv, ?_, up2_hit rfl rfl⟩, fun h1 => absurd (h.symm.trans h1) (by decide)⟩
      rw [up2_k (by omega), up2_hit rfl rfl]
  · rw [h, if_neg m10]
    exact ⟨T, rfl, km, mF2_of f0, fun h1 => absurd (h.symm.trans h1) (by decide), fun _ => ⟨g17.trans h, g14⟩⟩
theorem li4 : ∀ c, c < 256 → (li 4 c < 99 ↔ c = 121) := by decide +kernel
/-- an answer is written behind a sum -/
theorem skipTo_eq (t : Txt b L) {S : St} {a cl i : Nat} (h : KC b L S a cl) (hi : i < 160) : c_LikingReader_skipToHere (nI i) S = some (up2 S 14 i (nI (cl * 256 + 63))) := by
  have := t.1
  have := h.2.2.2.1
  have := h.2.2.2.2
  unfold c_LikingReader_skipToHere
  have l63 : (63 : Int32) = nI 63 := rfl
  rw [if_neg (show ¬ nI i < 0 from nI_pos (by omega)), if_neg (show ¬ (160 : Int32) ≤ nI i from nI_ge (b := 160) (by omega) (by omega)), ckI hi (by omega), nI_clamp (by omega), h.2.2.1, l63, enc_eq (by omega) (by omega)]
  rfl
theorem skipTo_m1 (S : St) : c_LikingReader_skipToHere (-nI 1) S = some S := by
  unfold c_LikingReader_skipToHere
  rw [if_pos (show -nI 1 < 0 by decide)]
set_option maxHeartbeats 4000000 in
theorem ask_ls (t : Txt b L) (hs : SumSt b L ob bs lt 0 40 40) {S0 T0 S T : St} {a0 a cl0 cl : Nat} {x : Int32} (f1 : Fr cF S0 S) (f2 : Fr mF T0 T) (kc : KC b L S a cl) (km : KM b L ob bs lt T a 0) (ha : a0 < a) (hcl0 : cl0 < cl) (hsl : cl + 1 < a) (h0 : ∀ k, k < cl0 → S 14 k = S0 14 k) (sg : Seg (S 14) lt cl0 cl x) (bx : b01 x) (h13 : T0 0 13 = nI 121) (h17 : b01 (T0 0 17)) :
    ∃ r S' T', (bI (c_Reader_takes_13 (nI 63) S) (fun x4 S3 => (if x4 = nI 0 then (nzM (nI 0) (some (nI 0, S3))) else (bnd (S3 13 3) (fun x5 => (bV (c_LikingReader_write (nI 63) (nI 0) S3) (fun S6 => (bI (c_LikingReader_readSum_x (nI 0) S6) (fun x8 S7 => (if x8 = nI 0 then (nzM (nI 0) (some (nI 0, S7))) else (c_LikingReader_readClause_b141 x5 S7))))))))))) = some (r, S') ∧
      (bI (m_takes (nI 63) T) (fun x4 S3 => (if x4 = nI 0 then (some S3) else (bI (m_sum_x S3) (fun x6 S5 => (m_clause_b134 (nI 121) x x6 S5)))))) = some T' ∧ ClR b L ob bs lt S0 T0 a0 cl0 r S' T' := by
  have hL := t.1
  have hge := sk_ge b L a
  have hle := sk_le b kc.2.2.2.1
  by_cases h63 : cu b L (sk b L a) = 63
  · have hlt2 := cu_pos (by omega) h63
    rw [takes13_1 t kc.1 kc.2.2.2.1 kc.2.1 h63, bI_some, takesM_1 t km.1 kc.2.2.2.1 km.2.1 km.2.2.1 (by omega) (by omega) h63, bI_some]
    simp only [bnd_eq]
    have kc1 : KC b L (up2 S 13 1 (nI (sk b L a + 1))) (sk b L a + 1) cl := kc.at (by omega) (by omega)
    rw [if_neg m10, if_neg m10, write_eq (m := 0) t kc1 (by omega) (by omega) (by omega), bV_some, kc1.2.2.1]
    have kc2 := kc1.wr (show cl < sk b L a + 1 by omega) (nI (0 * 256 + 63))
    have km2 : KM b L ob bs lt (up2 T 0 10 (nI (sk b L a + 1))) (sk b L a + 1) 0 := km.at
    obtain ⟨r, S3, y, T3, e1, e2, g1, g2, g3⟩ := hs _ _ _ _ kc2 km2
    have f3 : Fr cF S0 S3 := (cF_wr (cF_at f1)).tr g1
    have f4 : Fr mF T0 T3 := (mF_at f2 (Or.inl rfl)).tr g2
    have e1' : c_LikingReader_readSum_x (nI 0) (up2 (up2 (up2 S 13 1 (nI (sk b L a + 1))) 14 cl (nI (0 * 256 + 63))) 13 3 (nI (cl + 1))) = some (r, S3) := e1
    have e2' : m_sum_x (up2 T 0 10 (nI (sk b L a + 1))) = some (y, T3) := e2
    rw [e1', bI_some, e2', bI_some]
    simp only []
    rcases g3 with ⟨hr, hB, a', cl', kc3, km3, p1, p2, p3, p4, p5, p6⟩ | ⟨hr, _, f, hf, hSf, hTf⟩
    · subst hr
      have hcl3 := kc3.2.2.2.2
      have ha3 := kc3.2.2.2.1
      rw [if_neg m10]
      unfold c_LikingReader_readClause_b141
      have l59 : (59 : Int32) = nI 59 := rfl
      simp only [l59, lits]
      rw [write_eq (m := 0) t kc3 (by omega) (by omega) (by omega), bV_some]
      have kc4 := kc3.wr (show cl' < a' by omega) (nI (0 * 256 + 59))
      rw [skipTo_eq t kc4 (by omega), bV_some]
      obtain ⟨T', m1, m2, m3, m4⟩ := b134_ok (v := y) km3 f4 h13 h17 bx hB
      rw [m1]
      refine ⟨_, _, T', rfl, rfl, (cF_wr f3).up (Or.inr rfl), m3, Or.inl ⟨rfl, a', cl' + 1, _, ?_, m2, by omega, by omega, fun k hk => ?_, ?_, m4⟩⟩
      · exact ⟨kc4.1.fr (fun q j hq => up2_o (by omega)), (up2_o (by omega)).trans kc4.2.1, (up2_o (by omega)).trans kc4.2.2.1, kc4.2.2.2.1, kc4.2.2.2.2⟩
      · rw [up2_k (by omega), wr_cd.2 k (by omega), p5 k (by omega), wr_cd.2 k (by omega), up2_o (by omega), h0 k hk]
      · refine Cls_cond (a1 := cl) (a2 := cl') (sg.cong (fun k h1 h2 => ?_)) (p6.cong (fun k h1 h2 => ?_)) bx ?_ (by omega) ?_
        · rw [up2_k (by omega), wr_cd.2 k (by omega), p5 k (by omega), wr_cd.2 k (by omega), up2_o (by omega)]
        · rw [up2_k (by omega), wr_cd.2 k (by omega)]
        · rw [up2_hit rfl rfl]
        · rw [up2_k (by omega), wr_cd.1]
    · subst hr
      rw [if_pos rfl, b134_f _ _ _ (fl_ne hTf t hf)]
      exact ⟨_, _, _, rfl, rfl, f3, mF2_of f4, Or.inr ⟨rfl, f, hf, hSf, hTf⟩⟩
  · rw [takes13_0 t kc.1 kc.2.2.2.1 kc.2.1 (by omega) h63, bI_some, takesM_0 t km.1 kc.2.2.2.1 km.2.1 km.2.2.1 (by omega) (by omega) h63, bI_some]
    simp only [if_true]
    exact ⟨_, _, _, rfl, rfl, cF_at f1, mF2_of (mF_at (mF_at f2 (Or.inl rfl)) (Or.inr (Or.inl rfl))), Or.inr ⟨rfl, sk b L a, hle, up2_hit rfl rfl, up2_hit rfl rfl⟩⟩
end CLAUSE
