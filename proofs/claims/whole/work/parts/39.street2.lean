/-! clauses of a street and the street -/
def usN (k : Nat) : Nat := if k = 5 then 20 else if k = 7 then 5 else 0
def puN (k : Nat) : Nat := if k = 0 then 50 else 0
def luN (k : Nat) : Nat := if k = 0 then 10 else if k = 1 then 1 else 5
theorem cpyE {f g : Nat → Int32} {n j : Nat} (h : j < n) : cpy f g 0 0 n j = f j := by
  show (if 0 ≤ j ∧ j < 0 + n then f (0 + (j - 0)) else g j) = f j
  rw [if_pos (by omega), show 0 + (j - 0) = j by omega]
theorem cpyF {f g : Nat → Int32} {n j : Nat} (h : n ≤ j) : cpy f g 0 0 n j = g j := by
  show (if 0 ≤ j ∧ j < 0 + n then f (0 + (j - 0)) else g j) = g j
  rw [if_neg (by omega)]
theorem cpI {ρ : Type} {a b n n0 n1 : Nat} {M : Option ρ} (h0 : a + n ≤ n0) (h1 : b + n ≤ n1) (h2 : n0 < 2 ^ 31) (h3 : n1 < 2 ^ 31) : cpM (nI a) (nI b) (nI n) n0 n1 M = M := by
  unfold cpM
  rw [if_neg]
  rw [nI_clamp (by omega), nI_clamp (by omega), nI_clamp (by omega)]
  have z : ∀ k, k < 2 ^ 31 → ¬ nI k < (0 : Int32) := fun k hk => by
    show ¬ nI k < nI 0
    rw [nI_ltE hk (by omega)]; omega
  rintro (h | h | h | h | h)
  · exact z _ (by omega) h
  · exact z _ (by omega) h
  · exact z _ (by omega) h
  · omega
  · omega
theorem Rw.fr {i o q row : Nat} {S T S' T' : St} (h : Rw i o q row S T) (hS : ∀ k, k < lenN i → S' o k = S o k) (hT : ∀ k, k < lenN i → T' q (row + k) = T q (row + k)) : Rw i o q row S' T' := fun k hk => by
  obtain ⟨v, h1, h2, h3⟩ := h k hk
  exact ⟨v, (hS k hk).trans h1, (hT k hk).trans h2, h3⟩
def cSt : Nat → Nat → Prop := fun q j => (q = 3 ∧ (j = 1 ∨ (5 ≤ j ∧ j ≤ 7))) ∨ (4 ≤ q ∧ q ≤ 12)
def mSt : Nat → Nat → Prop := fun q j => (q = 0 ∧ (j = 5 ∨ (8 ≤ j ∧ j ≤ 11) ∨ (25 ≤ j ∧ j ≤ 27))) ∨ q = 6 ∨ q = 8 ∨ q = 10
def SRr (hc : Nat) (S T : St) : Prop := hc ≤ 6 ∧ S 3 5 = nI hc ∧ T 0 25 = nI hc ∧ (∃ p, p ≤ 1 ∧ S 3 6 = nI p ∧ T 0 26 = nI p) ∧ (∃ p, p ≤ 1 ∧ S 3 7 = nI p ∧ T 0 27 = nI p) ∧ Rw 1 4 6 0 S T ∧ Rw 3 12 10 0 S T ∧ (∀ h, h < hc → Rw 2 (6 + h) 8 (8 * h) S T) ∧ (∀ h, hc ≤ h → h < 6 → ∀ k, k < 8 → S (6 + h) k = nI (usN k))
theorem SRr.fr {hc : Nat} {S T S' T' : St} (h : SRr hc S T) (hS : ∀ q j, (q = 3 ∧ 5 ≤ j) ∨ (4 ≤ q ∧ q ≤ 12) → S' q j = S q j) (hT : ∀ q j, (q = 0 ∧ 25 ≤ j ∧ j ≤ 27) ∨ q = 6 ∨ q = 8 ∨ q = 10 → T' q j = T q j) : SRr hc S' T' := by
  obtain ⟨h1, h2, h3, ⟨p, p1, p2, p3⟩, ⟨p', p4, p5, p6⟩, h4, h5, h6, h7⟩ := h
  refine ⟨h1, (hS _ _ (by omega)).trans h2, (hT _ _ (by omega)).trans h3, ⟨p, p1, (hS _ _ (by omega)).trans p2, (hT _ _ (by omega)).trans p3⟩, ⟨p', p4, (hS _ _ (by omega)).trans p5, (hT _ _ (by omega)).trans p6⟩, h4.fr (fun k hk => hS _ _ (by omega)) (fun k hk => hT _ _ (by omega)), h5.fr (fun k hk => hS _ _ (by omega)) (fun k hk => hT _ _ (by omega)), fun h hh => (h6 h hh).fr (fun k hk => hS _ _ (by omega)) (fun k hk => hT _ _ (by omega)), fun h hh h6' k hk => (hS _ _ (by omega)).trans (h7 h hh h6' k hk)⟩
theorem mcl1 (T : St) : m_readClause_b46 (nI 112) T = m_readClause_b235 (nI 112) (nI 0) 6 1 (up2 (up2 T 0 10 (T 0 10 + nI 1)) 0 26 (nI 1)) := by
  unfold m_readClause_b46 m_readClause_b51 m_readClause_b89 m_readClause_b120 m_readClause_b147 m_readClause_b160 m_readClause_b171
  have a1 : ¬ nI 112 = (104 : Int32) := by decide
  have a2 : nI 112 = (112 : Int32) := rfl
  have a3 : ¬ nI 112 = (108 : Int32) := by decide
  have a4 : ¬ (1 : Int32) = 0 := by decide
  rw [if_neg a4, bnd_eq, if_neg a1, if_neg a1, if_pos a2, if_neg a1, if_pos a2, if_pos a2, bnd_eq, if_neg a3, if_neg a1]
  rfl
theorem mcl3 (T : St) : m_readClause_b46 (nI 108) T = m_readClause_b235 (nI 108) (nI 0) 10 3 (up2 (up2 T 0 10 (T 0 10 + nI 1)) 0 27 (nI 1)) := by
  unfold m_readClause_b46 m_readClause_b51 m_readClause_b89 m_readClause_b120 m_readClause_b147 m_readClause_b160 m_readClause_b171
  have a1 : ¬ nI 108 = (104 : Int32) := by decide
  have a2 : ¬ nI 108 = (112 : Int32) := by decide
  have a3 : nI 108 = (108 : Int32) := rfl
  have a4 : ¬ (1 : Int32) = 0 := by decide
  rw [if_neg a4, bnd_eq, if_neg a1, if_neg a1, if_neg a2, if_neg a1, if_neg a2, if_neg a2, if_pos a3, bnd_eq, if_neg a1]
  rfl
theorem mcl2 (T : St) : m_readClause_b46 (nI 104) T = bnd (up2 (up2 T 0 10 (T 0 10 + nI 1)) 0 25 ((T 0 25) + nI 1)) (fun T1 => m_readClause_h190 FU (nI 104) (nI 8 * T 0 25) 8 2 (nI 0) T1) := by
  unfold m_readClause_b46 m_readClause_b51 m_readClause_b89 m_readClause_b120 m_readClause_b147 m_readClause_b160 m_readClause_b171
  have a1 : nI 104 = (104 : Int32) := rfl
  have a2 : ¬ nI 104 = (112 : Int32) := by decide
  have a3 : ¬ nI 104 = (108 : Int32) := by decide
  have a4 : ¬ (1 : Int32) = 0 := by decide
  rw [if_neg a4, bnd_eq, if_pos a1, if_pos a1, if_pos a1, if_neg a2, if_neg a3, if_pos a1, up2_k (j := 25) (by omega)]
  rfl
theorem pre_ok {hc : Nat} (h6 : hc < 6) : ∀ (n k : Nat) (T : St), k ≤ 8 → 8 < n + k → ∃ T', m_readClause_h190 n (nI 104) (nI (8 * hc)) 8 2 (nI k) T = m_readClause_b235 (nI 104) (nI (8 * hc)) 8 2 T' ∧ (∀ j, k ≤ j → j < 8 → T' 8 (8 * hc + j) = nI (usN j)) ∧ Fr (fun q j => q = 8 ∧ 8 * hc + k ≤ j ∧ j < 8 * hc + 8) T T' := by
  have hal : alen tpM 8 = 48 := rfl
  intro n
  induction n with
  | zero => intro k T h1 h2; omega
  | succ n ih =>
    intro k T h1 h2
    rw [m_readClause_h190]
    unfold m_readClause_b228
    simp only [lits, bnd_eq]
    by_cases hk : k < 8
    · have key : (if nI k = nI 5 then ckM (nI (8 * hc) + nI k) (alen tpM 8) (m_readClause_h190 n (nI 104) (nI (8 * hc)) 8 2 (nI k + nI 1) (up2 T 8 (nI (8 * hc) + nI k).toNatClampNeg (nI 20))) else if nI k = nI 7 then ckM (nI (8 * hc) + nI k) (alen tpM 8) (m_readClause_h190 n (nI 104) (nI (8 * hc)) 8 2 (nI k + nI 1) (up2 T 8 (nI (8 * hc) + nI k).toNatClampNeg (nI 5))) else ckM (nI (8 * hc) + nI k) (alen tpM 8) (m_readClause_h190 n (nI 104) (nI (8 * hc)) 8 2 (nI k + nI 1) (up2 T 8 (nI (8 * hc) + nI k).toNatClampNeg (nI 0)))) = m_readClause_h190 n (nI 104) (nI (8 * hc)) 8 2 (nI (k + 1)) (up2 T 8 (8 * hc + k) (nI (usN k))) := by
        rw [nI_add, nI_add, hal, ckI (by omega) (by omega), ckI (by omega) (by omega), ckI (by omega) (by omega), nI_clamp (by omega)]
        simp only [nI_eqE (show k < 2 ^ 31 by omega) (show 5 < 2 ^ 31 by omega), nI_eqE (show k < 2 ^ 31 by omega) (show 7 < 2 ^ 31 by omega)]
        unfold usN
        by_cases h5 : k = 5
        · rw [if_pos h5, if_pos h5]
        · rw [if_neg h5, if_neg h5]
          by_cases h7 : k = 7
          · rw [if_pos h7, if_pos h7]
          · rw [if_neg h7, if_neg h7]
      rw [if_neg (show ¬ nI 8 ≤ nI k from nI_ge (by omega) (by omega)), key]
      obtain ⟨T', e, g1, g2⟩ := ih (k + 1) (up2 T 8 (8 * hc + k) (nI (usN k))) (by omega) (by omega)
      refine ⟨T', e, fun j hj1 hj2 => ?_, fun q j hp => ?_⟩
      · by_cases hjk : j = k
        · subst hjk
          rw [g2 _ _ (by omega)]; exact up2_hit rfl rfl
        · exact g1 j (by omega) hj2
      · rw [g2 _ _ (by omega)]; exact up2_n (by omega)
    · rw [if_pos (show nI 8 ≤ nI k by rw [nI_leE (by omega) (by omega)]; omega)]
      exact ⟨T, rfl, fun j _ _ => by omega, Fr.rfl⟩
section STREET2
variable {b : Nat → Nat} {L : Nat}
def SR (b : Nat → Nat) (L a hc : Nat) (S T : St) : Prop := PT b L S ∧ S 3 1 = nI a ∧ a ≤ L ∧ PMt b L 0 0 T ∧ T 0 10 = nI a ∧ T 0 11 = -nI 1 ∧ SRr hc S T
theorem b235_eq (t : Txt b L) {T : St} {a q i : Nat} {v1 v3 : Int32} (pm : PMt b L 0 0 T) (ha : a ≤ L) (hT : T 0 10 = nI a) (hi : i < 5) : m_readClause_b235 v1 v3 q i T = m_readClause_h249 FU v1 v3 q i (nI 0) (liR (li i (cu b L (sk b L a)))) (up2 T 0 10 (nI (sk b L a))) := by
  unfold m_readClause_b235
  rw [look_eq t pm ha hT, bI_some]
  simp only []
  rw [placeOf_eq hi, bI_some]
  rfl
theorem mcl_0 (t : Txt b L) {T : St} {a0 : Nat} {v : Int32} (hT : T 0 10 = nI a0) (hf : T 0 11 = -nI 1) : m_readClause_b50 v T = some (up2 T 0 11 (nI a0)) := by
  unfold m_readClause_b50 m_readClause_b51
  rw [if_pos rfl, fails_1 hf hT, bI_some]
def SlR (b : Nat → Nat) (L a : Nat) (S T S' T' : St) (r : Int32) : Prop := Fr cSt S S' ∧ Fr mSt T T' ∧ ((r = nI 1 ∧ ∃ a' hc', a < a' ∧ SR b L a' hc' S' T') ∨ (r = nI 0 ∧ ∃ f, f ≤ L ∧ S' 3 1 = nI f ∧ T' 0 11 = nI f))
set_option maxHeartbeats 2000000 in
theorem sclause_ls (t : Txt b L) {S T : St} {a hc : Nat} (h : SR b L a hc S T) : ∃ r S' T', c_StreetReader_readClause S = some (r, S') ∧ m_readClause T = some T' ∧ SlR b L a S T S' T' r := by
  have hL := t.1
  obtain ⟨pt, hS, ha, pm, hT, hf, sr⟩ := h
  have hge := sk_ge b L a
  have hle := sk_le b ha
  have hcu := cu_lt t (sk b L a)
  have l1 : lenN 1 = 5 := rfl
  have l2 : lenN 2 = 8 := rfl
  have l3 : lenN 3 = 3 := rfl
  obtain ⟨s1, s2, s3, ⟨p, p1, p2, p3⟩, ⟨p', p4, p5, p6⟩, s4, s5, s6, s7⟩ := sr
  unfold c_StreetReader_readClause m_readClause
  rw [next3_eq t pt ha hS, bI_some, look_eq t pm ha hT, bI_some]
  simp only [lits, bnd_eq]
  have l112 : (112 : Int32) = nI 112 := rfl
  have l104 : (104 : Int32) = nI 104 := rfl
  have l108 : (108 : Int32) = nI 108 := rfl
  have fc0 : Fr cSt S (up2 S 3 1 (nI (sk b L a))) := Fr.rfl.up (Or.inl ⟨rfl, Or.inl rfl⟩)
  have fm0 : Fr mSt T (up2 T 0 10 (nI (sk b L a))) := Fr.rfl.up (by unfold mSt; omega)
  have pt0 : PT b L (up2 S 3 1 (nI (sk b L a))) := pt.fr (fun q j hq => up2_o (by omega))
  have pm0 : PMt b L 0 0 (up2 T 0 10 (nI (sk b L a))) := pm.at
  have x10 : (up2 T 0 10 (nI (sk b L a))) 0 10 = nI (sk b L a) := up2_hit rfl rfl
  have x11 : (up2 T 0 10 (nI (sk b L a))) 0 11 = -nI 1 := (up2_k (by omega)).trans hf
  generalize hc0 : cu b L (sk b L a) = c at *
  have hcM : ∀ d, 1 ≤ d → d < 256 → (cuM b L (sk b L a) = nI d) = (c = d) := fun d h1 h2 => by rw [cuM_eq t _ h1 h2, hc0]
  have nocl : ∀ (hn : ¬ (c = 112 ∧ p = 0)) (hn2 : ¬ (c = 104 ∧ hc < 6)) (hn3 : ¬ (c = 108 ∧ p' = 0)), ∃ r S' T', c_StreetReader_readClause_b50 (nI c) (up2 S 3 1 (nI (sk b L a))) = some (r, S') ∧ m_readClause_b20 (cuM b L (sk b L a)) (up2 T 0 10 (nI (sk b L a))) = some T' ∧ SlR b L a S T S' T' r := by
    intro hn hn2 hn3
    refine ⟨nI 0, up2 S 3 1 (nI (sk b L a)), up2 (up2 T 0 10 (nI (sk b L a))) 0 11 (nI (sk b L a)), ?_, ?_, fc0, fm0.up (by unfold mSt; omega), Or.inr ⟨rfl, _, hle, up2_hit rfl rfl, up2_hit rfl rfl⟩⟩
    · have e2 : c_StreetReader_readClause_b109 (nI c) (up2 S 3 1 (nI (sk b L a))) = some (nI 0, up2 S 3 1 (nI (sk b L a))) := by
        unfold c_StreetReader_readClause_b109
        rw [up2_k (j := 7) (by omega), p5]
        by_cases h1 : c = 108
        · rw [if_pos (show nI c = (108 : Int32) by rw [h1]; rfl), if_neg (show ¬ nI p' = (0 : Int32) from nI_nn (b := 0) (fun h2 => hn3 ⟨h1, h2⟩) (by omega) (by omega))]; exact nz_0 _
        · rw [if_neg (show ¬ nI c = (108 : Int32) from nI_nn (b := 108) h1 (by omega) (by omega))]; exact nz_0 _
      unfold c_StreetReader_readClause_b50
      rw [up2_k (j := 5) (by omega), s2]
      by_cases h1 : c = 104
      · rw [if_pos (show nI c = (104 : Int32) by rw [h1]; rfl), if_pos (show (6 : Int32) ≤ nI hc from nI_le (a := 6) (by omega) (by omega)), e2]
      · rw [if_neg (show ¬ nI c = (104 : Int32) from nI_nn (b := 104) h1 (by omega) (by omega)), e2]
    · have e2 : m_readClause_b33 (cuM b L (sk b L a)) (up2 T 0 10 (nI (sk b L a))) = some (up2 (up2 T 0 10 (nI (sk b L a))) 0 11 (nI (sk b L a))) := by
        unfold m_readClause_b33
        rw [up2_k (j := 27) (by omega), p6]
        by_cases h1 : c = 108
        · rw [if_pos (show cuM b L (sk b L a) = (108 : Int32) from cast (hcM 108 (by omega) (by omega)).symm h1), if_neg (show ¬ nI p' = (0 : Int32) from nI_nn (b := 0) (fun h2 => hn3 ⟨h1, h2⟩) (by omega) (by omega))]; exact mcl_0 t x10 x11
        · rw [if_neg (show ¬ cuM b L (sk b L a) = (108 : Int32) from fun e => h1 (cast (hcM 108 (by omega) (by omega)) e))]; exact mcl_0 t x10 x11
      unfold m_readClause_b20
      rw [up2_k (j := 26) (by omega), p3]
      by_cases h1 : c = 112
      · rw [if_pos (show cuM b L (sk b L a) = (112 : Int32) from cast (hcM 112 (by omega) (by omega)).symm h1), if_neg (show ¬ nI p = (0 : Int32) from nI_nn (b := 0) (fun h2 => hn ⟨h1, h2⟩) (by omega) (by omega)), e2]
      · rw [if_neg (show ¬ cuM b L (sk b L a) = (112 : Int32) from fun e => h1 (cast (hcM 112 (by omega) (by omega)) e)), e2]
  simp only [l104, l112, hcM 104 (by omega) (by omega), nI_eqE (show c < 2 ^ 31 by omega) (show 112 < 2 ^ 31 by omega)]
  rw [up2_k (j := 25) (by omega), s3, up2_k (j := 6) (by omega), p2]
  simp only [nI_ltE (show hc < 2 ^ 31 by omega) (show 6 < 2 ^ 31 by omega), nI_eqE (show p < 2 ^ 31 by omega) (show 0 < 2 ^ 31 by omega)]
  have hlt : ∀ (h0 : c ≠ 0), sk b L a < L := fun h0 => cu_pos (c := cu b L (sk b L a)) (by omega) rfl
  by_cases hp : c = 112 ∧ p = 0
  · obtain ⟨h1, h2⟩ := hp
    have hlt := hlt (by omega)
    have hm : cuM b L (sk b L a) = nI 112 := by rw [hcM _ (by omega) (by omega)]; exact h1
    rw [if_pos h1, if_pos h2, if_neg (by omega)]
    unfold m_readClause_b20
    rw [hm, if_pos l112.symm, up2_k (j := 26) (by omega), p3, h2, if_pos (show nI 0 = (0 : Int32) from rfl), mcl1, x10, nI_add, up2_up2]
    rw [up2_hit rfl rfl, nI_add, up2_up2]
    have pm1 : PMt b L 0 0 (up2 (up2 T 0 10 (nI (sk b L a + 1))) 0 26 (nI 1)) := (pm.at (x := nI (sk b L a + 1))).fr (fun q j hq => up2_n (by omega))
    rw [b235_eq t (a := sk b L a + 1) pm1 (by omega) ((up2_k (by omega)).trans (up2_hit rfl rfl)) (by omega)]
    have pt1 : PT b L (up2 (up2 S 3 1 (nI (sk b L a + 1))) 3 6 (nI 1)) := pt.fr (fun q j hq => by rw [up2_o (by omega), up2_o (by omega)])
    obtain ⟨r, S', T', e1, e2, f1, f2, g⟩ := items1_ls t (o := 4) (row := 0) (by omega) (by omega) FU FU _ _ (sk b L a + 1) (nI 0) pt1 ((up2_k (by omega)).trans (up2_hit rfl rfl)) (by omega) pm1.at (up2_hit rfl rfl) (by rw [up2_k (by omega), up2_k (by omega), up2_k (by omega)]; exact hf) (s4.fr (fun k hk => by rw [up2_o (by omega), up2_o (by omega)]) (fun k hk => by rw [up2_o (by omega), up2_o (by omega), up2_o (by omega)])) (by unfold FU; omega) (by unfold FU; omega)
    rw [cntB_0 _ (by omega)] at e1
    unfold c_StreetReader_readItems_200p1_n5_300p3_300p4
    simp only [lits]
    rw [e1, bI_some, e2]
    simp only []
    rw [l1] at f1 f2
    have hr : b01 r := by
      rcases g with g | g
      · exact Or.inr g.1
      · exact Or.inl g.1
    rw [nz_b hr]
    have fc1 : Fr cSt S S' := ((Fr.rfl.up (o := 3) (k := 1) (Or.inl ⟨rfl, Or.inl rfl⟩)).up (o := 3) (k := 6) (by unfold cSt; omega)).tr (f1.mono (fun q j hq => by unfold cIt at hq; unfold cSt; omega))
    have fm1 : Fr mSt T T' := (((Fr.rfl.up (o := 0) (k := 10) (by unfold mSt; omega)).up (o := 0) (k := 26) (by unfold mSt; omega)).up (o := 0) (k := 10) (by unfold mSt; omega)).tr (f2.mono (fun q j hq => by unfold mIt at hq; unfold mSt; omega))
    have qS : ∀ q j, ¬ (q = 3 ∧ (j = 1 ∨ j = 6)) → q ≠ 4 → S' q j = S q j := fun q j h1 h2 => by rw [f1 q j (by unfold cIt; omega), up2_n (by omega), up2_n (by omega)]
    have qT : ∀ q j, ¬ (q = 0 ∧ (j = 10 ∨ j = 11 ∨ j = 26)) → q ≠ 6 → T' q j = T q j := fun q j h1 h2 => by rw [f2 q j (by unfold mIt; omega), up2_n (by omega), up2_n (by omega), up2_n (by omega)]
    refine ⟨r, S', T', rfl, rfl, fc1, fm1, ?_⟩
    rcases g with ⟨g1, g2, g3, a', g4, g5, g6, g7⟩ | g
    · refine Or.inl ⟨g1, a', hc, by omega, pt.fr (fun q j hq => qS q j (by omega) (by omega)), g6, g5, pm.fr (fun q j hq => qT q j (by omega) (by omega)), g7, g3, s1, (qS _ _ (by omega) (by omega)).trans s2, (qT _ _ (by omega) (by omega)).trans s3, ⟨1, by omega, by rw [f1 _ _ (by unfold cIt; omega)]; exact up2_hit rfl rfl, by rw [f2 _ _ (by unfold mIt; omega), up2_k (by omega)]; exact up2_hit rfl rfl⟩, ⟨p', p4, (qS _ _ (by omega) (by omega)).trans p5, (qT _ _ (by omega) (by omega)).trans p6⟩, g2, s5.fr (fun k hk => qS _ _ (by omega) (by omega)) (fun k hk => qT _ _ (by omega) (by omega)), fun h hh => (s6 h hh).fr (fun k hk => qS _ _ (by omega) (by omega)) (fun k hk => qT _ _ (by omega) (by omega)), fun h hh h6 k hk => (qS _ _ (by omega) (by omega)).trans (s7 h hh h6 k hk)⟩
    · exact Or.inr g
  · have hcC : (if c = 112 then if p = 0 then (bI (c_StreetReader_readItems_200p1_n5_300p3_300p4 4 (up2 (up2 (up2 S 3 1 (nI (sk b L a))) 3 1 ((up2 S 3 1 (nI (sk b L a))) 3 1 + nI 1)) 3 6 (nI 1))) (fun x6 S5 => (nzM x6 (some (x6, S5))))) else c_StreetReader_readClause_b50 (nI c) (up2 S 3 1 (nI (sk b L a))) else c_StreetReader_readClause_b50 (nI c) (up2 S 3 1 (nI (sk b L a)))) = c_StreetReader_readClause_b50 (nI c) (up2 S 3 1 (nI (sk b L a))) := by
      by_cases h1 : c = 112
      · rw [if_pos h1, if_neg (fun h2 => hp ⟨h1, h2⟩)]
      · rw [if_neg h1]
    rw [hcC]
    by_cases hh : c = 104 ∧ hc < 6
    · obtain ⟨h1, h2⟩ := hh
      have hlt := hlt (by omega)
      have hm : cuM b L (sk b L a) = nI 104 := by rw [hcM _ (by omega) (by omega)]; exact h1
      rw [if_pos h1, if_pos h2, hm, mcl2, x10, nI_add, up2_up2, up2_k (j := 25) (by omega), s3, nI_add, pk_mul, bnd_eq]
      unfold c_StreetReader_readClause_b50
      simp only [lits, bnd_eq]
      rw [h1, if_pos (show nI 104 = (104 : Int32) from rfl), up2_k (j := 5) (by omega), s2, if_neg (show ¬ nI 6 ≤ nI hc from nI_ge (by omega) (by omega))]
      have e5 : (up2 S 3 1 (nI (sk b L a + 1))) 3 5 = nI hc := (up2_k (by omega)).trans s2
      rw [up2_hit (j := 1) rfl rfl, nI_add, up2_up2, e5, nI_add, up2_hit (j := 5) rfl rfl, pk_sub (by omega), show hc + 1 - 1 = hc by omega, ckI h2 (by omega), nI_clamp (by omega)]
      obtain ⟨T1, e0, g1, g2⟩ := pre_ok h2 FU 0 (up2 (up2 T 0 10 (nI (sk b L a + 1))) 0 25 (nI (hc + 1))) (by omega) (by unfold FU; omega)
      rw [e0]
      have pm1 : PMt b L 0 0 T1 := pm.fr (fun q j hq => by rw [g2 _ _ (by omega), up2_n (by omega), up2_n (by omega)])
      have t10 : T1 0 10 = nI (sk b L a + 1) := by rw [g2 _ _ (by omega), up2_k (by omega)]; exact up2_hit rfl rfl
      rw [b235_eq t (a := sk b L a + 1) pm1 (by omega) t10 (by omega)]
      have pt1 : PT b L (up2 (up2 S 3 1 (nI (sk b L a + 1))) 3 5 (nI (hc + 1))) := pt.fr (fun q j hq => by rw [up2_o (by omega), up2_o (by omega)])
      obtain ⟨r, S', T', e1, e2, f1, f2, g⟩ := items2_ls t (o := 6 + hc) (row := 8 * hc) (by omega) (by omega) FU FU _ _ (sk b L a + 1) (nI 0) pt1 ((up2_k (by omega)).trans (up2_hit rfl rfl)) (by omega) pm1.at (up2_hit rfl rfl) (by rw [up2_k (by omega), g2 _ _ (by omega), up2_k (by omega), up2_k (by omega)]; exact hf) (fun k hk => by
        rw [l2] at hk
        refine ⟨usN k, by rw [up2_o (by omega), up2_o (by omega)]; exact s7 hc (Nat.le_refl _) h2 k hk, by rw [up2_o (by omega)]; exact g1 k (by omega) hk, ?_, ?_⟩
        · unfold lsN; rw [if_neg (by omega)]; omega
        · unfold msN usN; repeat' split
          all_goals omega) (by unfold FU; omega) (by unfold FU; omega)
      rw [cntB_0 _ (by omega)] at e1
      unfold c_StreetReader_readItems_200p2_n8_300p5_300p6
      simp only [lits]
      rw [e1, bI_some, e2]
      simp only []
      rw [l2] at f1 f2
      have hr : b01 r := by
        rcases g with g | g
        · exact Or.inr g.1
        · exact Or.inl g.1
      rw [nz_b hr]
      have fc1 : Fr cSt S S' := ((Fr.rfl.up (o := 3) (k := 1) (Or.inl ⟨rfl, Or.inl rfl⟩)).up (o := 3) (k := 5) (by unfold cSt; omega)).tr (f1.mono (fun q j hq => by unfold cIt at hq; unfold cSt; omega))
      have fm1 : Fr mSt T T' := ((((Fr.rfl.up (o := 0) (k := 10) (by unfold mSt; omega)).up (o := 0) (k := 25) (by unfold mSt; omega)).tr (g2.mono (fun q j hq => by unfold mSt; omega))).up (o := 0) (k := 10) (by unfold mSt; omega)).tr (f2.mono (fun q j hq => by unfold mIt at hq; unfold mSt; omega))
      have qS : ∀ q j, ¬ (q = 3 ∧ (j = 1 ∨ j = 5)) → q ≠ 6 + hc → S' q j = S q j := fun q j h1 h2 => by rw [f1 q j (by unfold cIt; omega), up2_n (by omega), up2_n (by omega)]
      have qT : ∀ q j, ¬ (q = 0 ∧ (j = 10 ∨ j = 11 ∨ j = 25)) → ¬ (q = 8 ∧ 8 * hc ≤ j ∧ j < 8 * hc + 8) → T' q j = T q j := fun q j h1 h2 => by rw [f2 q j (by unfold mIt; omega), up2_n (by omega), g2 q j (by omega), up2_n (by omega), up2_n (by omega)]
      refine ⟨r, S', T', rfl, rfl, fc1, fm1, ?_⟩
      rcases g with ⟨g1', g2', g3, a', g4, g5, g6, g7⟩ | g
      · refine Or.inl ⟨g1', a', hc + 1, by omega, pt.fr (fun q j hq => qS q j (by omega) (by omega)), g6, g5, pm.fr (fun q j hq => qT q j (by omega) (by omega)), g7, g3, by omega, by rw [f1 _ _ (by unfold cIt; omega)]; exact up2_hit rfl rfl, by rw [f2 _ _ (by unfold mIt; omega), up2_k (by omega), g2 _ _ (by omega)]; exact up2_hit rfl rfl, ⟨p, p1, (qS _ _ (by omega) (by omega)).trans p2, (qT _ _ (by omega) (by omega)).trans p3⟩, ⟨p', p4, (qS _ _ (by omega) (by omega)).trans p5, (qT _ _ (by omega) (by omega)).trans p6⟩, s4.fr (fun k hk => qS _ _ (by omega) (by omega)) (fun k hk => qT _ _ (by omega) (by omega)), s5.fr (fun k hk => qS _ _ (by omega) (by omega)) (fun k hk => qT _ _ (by omega) (by omega)), fun h hh => ?_, fun h hh h6 k hk => (qS _ _ (by omega) (by omega)).trans (s7 h (by omega) h6 k hk)⟩
        by_cases e : h = hc
        · subst e; exact g2'
        · exact (s6 h (by omega)).fr (fun k hk => qS _ _ (by omega) (by omega)) (fun k hk => qT _ _ (by omega) (by rw [l2] at hk; omega))
      · exact Or.inr g
    · have hcM2 : (if c = 104 then if hc < 6 then m_readClause_b46 (cuM b L (sk b L a)) (up2 T 0 10 (nI (sk b L a))) else m_readClause_b20 (cuM b L (sk b L a)) (up2 T 0 10 (nI (sk b L a))) else m_readClause_b20 (cuM b L (sk b L a)) (up2 T 0 10 (nI (sk b L a)))) = m_readClause_b20 (cuM b L (sk b L a)) (up2 T 0 10 (nI (sk b L a))) := by
        by_cases h1 : c = 104
        · rw [if_pos h1, if_neg (fun h2 => hh ⟨h1, h2⟩)]
        · rw [if_neg h1]
      rw [hcM2]
      by_cases hl : c = 108 ∧ p' = 0
      · obtain ⟨h1, h2⟩ := hl
        have hlt := hlt (by omega)
        have hm : cuM b L (sk b L a) = nI 108 := by rw [hcM _ (by omega) (by omega)]; exact h1
        unfold m_readClause_b20 m_readClause_b33
        rw [hm, if_neg (show ¬ nI 108 = (112 : Int32) by decide), if_pos l108.symm, up2_k (j := 27) (by omega), p6, h2, if_pos (show nI 0 = (0 : Int32) from rfl), mcl3, x10, nI_add, up2_up2]
        unfold c_StreetReader_readClause_b50 c_StreetReader_readClause_b109
        simp only [lits, bnd_eq]
        rw [h1, if_neg (show ¬ nI 108 = (104 : Int32) by decide), if_pos l108.symm, up2_k (j := 7) (by omega), p5, h2, if_pos rfl, up2_hit (j := 1) rfl rfl, nI_add, up2_up2]
        have pm1 : PMt b L 0 0 (up2 (up2 T 0 10 (nI (sk b L a + 1))) 0 27 (nI 1)) := (pm.at (x := nI (sk b L a + 1))).fr (fun q j hq => up2_n (by omega))
        rw [b235_eq t (a := sk b L a + 1) pm1 (by omega) ((up2_k (by omega)).trans (up2_hit rfl rfl)) (by omega)]
        have pt1 : PT b L (up2 (up2 S 3 1 (nI (sk b L a + 1))) 3 7 (nI 1)) := pt.fr (fun q j hq => by rw [up2_o (by omega), up2_o (by omega)])
        obtain ⟨r, S', T', e1, e2, f1, f2, g⟩ := items3_ls t (o := 12) (row := 0) (by omega) (by omega) FU FU _ _ (sk b L a + 1) (nI 0) pt1 ((up2_k (by omega)).trans (up2_hit rfl rfl)) (by omega) pm1.at (up2_hit rfl rfl) (by rw [up2_k (by omega), up2_k (by omega), up2_k (by omega)]; exact hf) (s5.fr (fun k hk => by rw [up2_o (by omega), up2_o (by omega)]) (fun k hk => by rw [up2_o (by omega), up2_o (by omega), up2_o (by omega)])) (by unfold FU; omega) (by unfold FU; omega)
        rw [cntB_0 _ (by omega)] at e1
        unfold c_StreetReader_readItems_200p3_n3_300p7_300p8
        simp only [lits]
        rw [e1, bI_some, e2]
        simp only []
        rw [l3] at f1 f2
        have hr : b01 r := by
          rcases g with g | g
          · exact Or.inr g.1
          · exact Or.inl g.1
        rw [nz_b hr]
        have fc1 : Fr cSt S S' := ((Fr.rfl.up (o := 3) (k := 1) (Or.inl ⟨rfl, Or.inl rfl⟩)).up (o := 3) (k := 7) (by unfold cSt; omega)).tr (f1.mono (fun q j hq => by unfold cIt at hq; unfold cSt; omega))
        have fm1 : Fr mSt T T' := (((Fr.rfl.up (o := 0) (k := 10) (by unfold mSt; omega)).up (o := 0) (k := 27) (by unfold mSt; omega)).up (o := 0) (k := 10) (by unfold mSt; omega)).tr (f2.mono (fun q j hq => by unfold mIt at hq; unfold mSt; omega))
        have qS : ∀ q j, ¬ (q = 3 ∧ (j = 1 ∨ j = 7)) → q ≠ 12 → S' q j = S q j := fun q j h1 h2 => by rw [f1 q j (by unfold cIt; omega), up2_n (by omega), up2_n (by omega)]
        have qT : ∀ q j, ¬ (q = 0 ∧ (j = 10 ∨ j = 11 ∨ j = 27)) → q ≠ 10 → T' q j = T q j := fun q j h1 h2 => by rw [f2 q j (by unfold mIt; omega), up2_n (by omega), up2_n (by omega), up2_n (by omega)]
        refine ⟨r, S', T', rfl, rfl, fc1, fm1, ?_⟩
        rcases g with ⟨g1, g2, g3, a', g4, g5, g6, g7⟩ | g
        · refine Or.inl ⟨g1, a', hc, by omega, pt.fr (fun q j hq => qS q j (by omega) (by omega)), g6, g5, pm.fr (fun q j hq => qT q j (by omega) (by omega)), g7, g3, s1, (qS _ _ (by omega) (by omega)).trans s2, (qT _ _ (by omega) (by omega)).trans s3, ⟨p, p1, (qS _ _ (by omega) (by omega)).trans p2, (qT _ _ (by omega) (by omega)).trans p3⟩, ⟨1, by omega, by rw [f1 _ _ (by unfold cIt; omega)]; exact up2_hit rfl rfl, by rw [f2 _ _ (by unfold mIt; omega), up2_k (by omega)]; exact up2_hit rfl rfl⟩, s4.fr (fun k hk => qS _ _ (by omega) (by omega)) (fun k hk => qT _ _ (by omega) (by omega)), g2, fun h hh => (s6 h hh).fr (fun k hk => qS _ _ (by omega) (by omega)) (fun k hk => qT _ _ (by omega) (by omega)), fun h hh h6 k hk => (qS _ _ (by omega) (by omega)).trans (s7 h hh h6 k hk)⟩
        · exact Or.inr g
      · exact nocl hp hh hl
theorem st81_f {T : St} {n : Nat} (hn : 0 < n) (hf : T 0 11 ≠ -nI 1) : m_readStreet_h81 n (nI 0) T = some T := by
  obtain ⟨n, rfl⟩ : ∃ m, n = m + 1 := ⟨n - 1, by omega⟩
  rw [m_readStreet_h81]
  unfold m_readStreet_b137
  rw [if_pos (show nI 0 = (0 : Int32) from rfl), if_neg (show ¬ T 0 11 = (-1 : Int32) from hf)]
theorem street_loop (t : Txt b L) : ∀ (n n' i : Nat) (S T : St) (a hc : Nat), SR b L a hc S T → i ≤ a → i ≠ 160 → L < n + a → L + 1 < n' + a →
    ∃ r S' T', c_Reader_read_3_h11 n (nI i) S = some (r, S') ∧ m_readStreet_h81 n' (nI 1) T = some T' ∧ Fr cSt S S' ∧ Fr mSt T T' ∧ T' 0 11 = r ∧ ((r = -nI 1 ∧ ∃ hc', 0 < hc' ∧ SRr hc' S' T') ∨ ∃ f, f ≤ L ∧ r = nI f) := by
  have hL := t.1
  have l59 : (59 : Int32) = nI 59 := rfl
  intro n
  induction n with
  | zero => intro n' i S T a hc h; have := h.2.2.1; omega
  | succ n ih =>
    intro n' i S T a hc h hi hi160 hn hn'
    have ha0 := h.2.2.1
    obtain ⟨n', rfl⟩ : ∃ m, n' = m + 1 := ⟨n' - 1, by omega⟩
    obtain ⟨r, S1, T1, e1, e2, f1, f2, g3⟩ := sclause_ls t h
    rw [c_Reader_read_3_h11, m_readStreet_h81]
    unfold m_readStreet_b118 m_readStreet_b119
    simp only [lits, l59, bnd_eq]
    rw [if_neg (show ¬ nI 160 ≤ nI i from nI_ge (by omega) (by omega)), e1, bI_some, if_neg m10, if_pos h.2.2.2.2.2.1, e2, bV_some]
    simp only []
    rcases g3 with ⟨hr, a', hc', p1, pt1, hS1, ha1, pm1, hT1, hf1, sr1⟩ | ⟨hr, f, hf, hSf, hTf⟩
    · subst hr
      have hge := sk_ge b L a'
      have hle := sk_le b ha1
      have hcu := cu_lt t (sk b L a')
      rw [if_neg m10, next3_eq t pt1 ha1 hS1, bI_some, if_pos hf1, look_eq t pm1 ha1 hT1, bI_some]
      simp only []
      have pt2 : PT b L (up2 S1 3 1 (nI (sk b L a'))) := pt1.fr (fun q j hq => up2_o (by omega))
      have pm2 : PMt b L 0 0 (up2 T1 0 10 (nI (sk b L a'))) := pm1.at
      have x11 : (up2 T1 0 10 (nI (sk b L a'))) 0 11 = -nI 1 := (up2_k (by omega)).trans hf1
      have fc1 : Fr cSt S (up2 S1 3 1 (nI (sk b L a'))) := f1.up (Or.inl ⟨rfl, Or.inl rfl⟩)
      have fm1 : Fr mSt T (up2 T1 0 10 (nI (sk b L a'))) := f2.up (by unfold mSt; omega)
      have sr2 : SRr hc' (up2 S1 3 1 (nI (sk b L a'))) (up2 T1 0 10 (nI (sk b L a'))) := sr1.fr (fun q j hq => up2_n (by omega)) (fun q j hq => up2_n (by omega))
      by_cases h0 : cu b L (sk b L a') = 0
      · have hend : L ≤ sk b L a' := by rw [cu_0 t] at h0; exact h0
        have hm1 : cuM b L (sk b L a') = -nI 1 := by rw [cuM_m1 t]; exact hend
        obtain ⟨n', rfl⟩ : ∃ m, n' = m + 1 := ⟨n' - 1, by omega⟩
        rw [h0, if_pos rfl, hm1, if_neg (show ¬ -nI 1 = nI 59 by decide), if_pos trivial, m_readStreet_h81]
        unfold m_readStreet_b137 c_StreetReader_isWhole m_readStreet_b160
        simp only [lits]
        rw [if_pos trivial, if_pos x11, look_eq t pm2 hle (up2_hit rfl rfl), bI_some, sk_sk, hm1, up2_up2, up2_k (j := 5) (by omega), sr1.2.1]
        simp only []
        rw [if_pos trivial, up2_k (j := 25) (by omega), sr1.2.2.1]
        have hc6 := sr1.1
        simp only [nI_leE (show hc' < 2 ^ 31 by omega) (show 0 < 2 ^ 31 by omega), nI_eqE (show hc' < 2 ^ 31 by omega) (show 0 < 2 ^ 31 by omega)]
        by_cases hz : hc' = 0
        · rw [if_pos (by omega), if_pos hz, show nI 0 = (0 : Int32) from rfl, nz_0, bI_some, fails_1 x11 (up2_hit rfl rfl), bI_some]
          simp only []
          rw [if_pos trivial, up2_hit rfl rfl]
          exact ⟨_, _, _, rfl, rfl, fc1, fm1.up (by unfold mSt; omega), up2_hit rfl rfl, Or.inr ⟨_, hle, rfl⟩⟩
        · rw [if_neg (by omega), if_neg hz, show nI 1 = (1 : Int32) from rfl, nz_1, bI_some]
          simp only []
          rw [if_neg (show ¬ (1 : Int32) = nI 0 by decide)]
          exact ⟨_, _, _, rfl, rfl, fc1, fm1, x11, Or.inl ⟨rfl, hc', by omega, sr2⟩⟩
      · have hlt2 : sk b L a' < L := cu_pos (c := cu b L (sk b L a')) (by omega) rfl
        rw [if_neg (nI_nn h0 (by omega) (by omega))]
        by_cases h59 : cu b L (sk b L a') = 59
        · rw [takes3_1 (a := sk b L a') t pt2 hle (up2_hit rfl rfl) (by rw [sk_sk]; exact h59), bI_some, sk_sk]
          simp only []
          rw [if_neg m10, if_pos (show cuM b L (sk b L a') = nI 59 by rw [cuM_eq t _ (by omega) (by omega)]; exact h59), if_neg m10, up2_hit rfl rfl, nI_add, nI_add, up2_up2, up2_up2]
          have sr3 : SR b L (sk b L a' + 1) hc' (up2 S1 3 1 (nI (sk b L a' + 1))) (up2 T1 0 10 (nI (sk b L a' + 1))) := ⟨pt1.fr (fun q j hq => up2_o (by omega)), up2_hit rfl rfl, by omega, pm1.at, up2_hit rfl rfl, (up2_k (by omega)).trans hf1, sr1.fr (fun q j hq => up2_n (by omega)) (fun q j hq => up2_n (by omega))⟩
          obtain ⟨r, S', T', e3, e4, q1, q2, q3, q4⟩ := ih n' (i + 1) _ _ (sk b L a' + 1) hc' sr3 (by omega) (by omega) (by omega) (by omega)
          exact ⟨r, S', T', e3, e4, (f1.up (o := 3) (k := 1) (Or.inl ⟨rfl, Or.inl rfl⟩)).tr q1, (f2.up (o := 0) (k := 10) (by unfold mSt; omega)).tr q2, q3, q4⟩
        · obtain ⟨n', rfl⟩ : ∃ m, n' = m + 1 := ⟨n' - 1, by omega⟩
          rw [takes3_0 (a := sk b L a') t pt2 hle (up2_hit rfl rfl) (by omega) (by rw [sk_sk]; exact h59), bI_some, sk_sk]
          simp only []
          rw [if_pos trivial, if_neg (show ¬ cuM b L (sk b L a') = nI 59 by rw [cuM_eq t _ (by omega) (by omega)]; exact h59), if_pos trivial, m_readStreet_h81]
          unfold m_readStreet_b137 m_readStreet_b160
          simp only [lits]
          rw [if_pos trivial, if_pos x11, look_eq t pm2 hle (up2_hit rfl rfl), bI_some, sk_sk, up2_up2, up2_up2]
          simp only []
          rw [if_neg (by rw [cuM_m1 t]; omega), fails_1 x11 (up2_hit rfl rfl), bI_some, up2_hit rfl rfl]
          simp only []
          exact ⟨_, _, _, rfl, rfl, fc1, fm1.up (by unfold mSt; omega), up2_hit rfl rfl, Or.inr ⟨_, hle, rfl⟩⟩
    · subst hr
      rw [if_pos rfl, if_neg (fl_ne hTf t hf), if_pos trivial, st81_f (by omega) (fl_ne hTf t hf)]
      exact ⟨_, _, _, rfl, rfl, f1, f2, hTf.trans hSf.symm, Or.inr ⟨f, hf, hSf⟩⟩
end STREET2
