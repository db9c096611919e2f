/-! feed -/
def byN (v : Int32) (m : Nat) : Nat := v.toBitVec.toNat / 2 ^ (8 * m) % 256
theorem tnI (y : Int32) : (y.toInt < 0 ∧ (y.toBitVec.toNat : Int) = y.toInt + 4294967296) ∨ (0 ≤ y.toInt ∧ (y.toBitVec.toNat : Int) = y.toInt) := by
  have h1 : y.toInt = y.toBitVec.toInt := rfl
  have h2 := BitVec.toInt_eq_toNat_cond y.toBitVec
  have h3 := y.toBitVec.isLt
  rw [h1, h2]
  by_cases c : 2 * y.toBitVec.toNat < 2 ^ 32
  · rw [if_pos c]; right; omega
  · rw [if_neg c]; left; omega
theorem byC (v : Int32) {m : Nat} (hm : m < 4) : ((v.toUInt32 >>> ((nI (8 * m)).toUInt32 &&& Int32.toUInt32 31)).toInt32) &&& (255 : Int32) = nI (byN v m) := by
  have hs : (((nI (8 * m)).toUInt32 &&& Int32.toUInt32 31).toBitVec % 32).toNat = 8 * m := by
    match m, hm with
    | 0, _ => decide
    | 1, _ => decide
    | 2, _ => decide
    | 3, _ => decide
  rw [pk_and _ 8 (by decide), pk_ushr v (nI (8 * m)) (8 * m) hs]
  rfl
theorem byM (v : Int32) {m : Nat} (hm : m < 4) : (v >>> (nI (8 * m) &&& 31)).toBitVec.toNat % 256 = byN v m := by
  have h1 := pk_shr v (nI (8 * m) &&& 31) (8 * m) (sh31 (8 * m) (by omega))
  have h2 := tnI v
  have h3 := tnI (v >>> (nI (8 * m) &&& 31))
  rw [h1, Int.shiftRight_eq_div_pow] at h3
  unfold byN
  match m, hm with
  | 0, _ => simp only [Nat.mul_zero, Nat.pow_zero] at h3 ⊢; omega
  | 1, _ => simp only [show 8 * 1 = 8 from rfl, show (2 : Nat) ^ 8 = 256 from rfl] at h3 ⊢; omega
  | 2, _ => simp only [show 8 * 2 = 16 from rfl, show (2 : Nat) ^ 16 = 65536 from rfl] at h3 ⊢; omega
  | 3, _ => simp only [show 8 * 3 = 24 from rfl, show (2 : Nat) ^ 24 = 16777216 from rfl] at h3 ⊢; omega
theorem i8_low (x : Int32) : x.toInt8 = (nI (x.toBitVec.toNat % 256)).toInt8 := by
  apply Int8.toBitVec_inj.mp
  show x.toBitVec.signExtend 8 = (nI (x.toBitVec.toNat % 256)).toBitVec.signExtend 8
  rw [BitVec.signExtend_eq_setWidth_of_le _ (by omega), BitVec.signExtend_eq_setWidth_of_le _ (by omega)]
  apply BitVec.eq_of_toNat_eq
  rw [BitVec.toNat_setWidth, BitVec.toNat_setWidth, pk_tn (by omega)]
  omega
theorem sb_2 (x : Int32) : ((x.toInt8.toInt32).toInt8.toInt32) = sb (x.toBitVec.toNat % 256) := by
  unfold sb
  rw [← i8_low x]
  simp
def cbN (v : Int32) : Nat → Nat
  | 0 => 0
  | m + 1 => cbN v m + (if byN v m = 0 then 0 else 1)
theorem cbN_le (v : Int32) : ∀ m, cbN v m ≤ m
  | 0 => Nat.le_refl 0
  | m + 1 => by
    have := cbN_le v m
    unfold cbN
    split <;> omega
theorem sh_step (m : Nat) : nI (8 * (m + 1)) - nI 8 = nI (8 * m) ∧ nI (8 * m) + (-8 : Int32) = nI (8 * m) - nI 8 := by
  refine ⟨?_, ?_⟩
  · rw [pk_sub (by omega)]
    congr 1
  · rw [Int32.sub_eq_add_neg]
    rfl
theorem bytesC {S : St} (v : Int32) : ∀ (m n c : Nat), m ≤ 4 → m < n → c_Tape_bytesOf_h5 n v (nI c) (nI (8 * m) - nI 8) S = some (nI (c + cbN v m), S) := by
  intro m
  induction m with
  | zero =>
    intro n c hm hn
    obtain ⟨n, rfl⟩ : ∃ a, n = a + 1 := ⟨n - 1, by omega⟩
    rw [c_Tape_bytesOf_h5, if_pos (show nI (8 * 0) - nI 8 < (0 : Int32) by decide)]
    rfl
  | succ m ih =>
    intro n c hm hn
    obtain ⟨n, rfl⟩ : ∃ a, n = a + 1 := ⟨n - 1, by omega⟩
    rw [c_Tape_bytesOf_h5, (sh_step m).1, if_neg (show ¬ nI (8 * m) < (0 : Int32) from nI_pos (by omega)), byC v (by omega)]
    unfold c_Tape_bytesOf_b22
    simp only [bnd_eq]
    have hlt : byN v m < 256 := Nat.mod_lt _ (by omega)
    rw [show nI c + (1 : Int32) = nI (c + 1) from nI_add c 1, (sh_step m).2]
    show _ = some (nI (c + (cbN v m + (if byN v m = 0 then 0 else 1))), S)
    by_cases e : byN v m = 0
    · rw [if_pos (show nI (byN v m) = (0 : Int32) by rw [e]; rfl), if_pos e, ih n c (by omega) (by omega)]
      rfl
    · rw [if_neg (show ¬ nI (byN v m) = (0 : Int32) from nI_nn (b := 0) e (by omega) (by omega)), if_neg e, ih n (c + 1) (by omega) (by omega), show c + 1 + cbN v m = c + (cbN v m + 1) by omega]
theorem bytesM {T : St} (v : Int32) : ∀ (m n c : Nat), m ≤ 4 → m < n → m_bytesIn_h5 n v (nI c) (nI (8 * m) - nI 8) T = some (nI (c + cbN v m), T) := by
  intro m
  induction m with
  | zero =>
    intro n c hm hn
    obtain ⟨n, rfl⟩ : ∃ a, n = a + 1 := ⟨n - 1, by omega⟩
    rw [m_bytesIn_h5, if_pos (show nI (8 * 0) - nI 8 < (0 : Int32) by decide)]
    rfl
  | succ m ih =>
    intro n c hm hn
    obtain ⟨n, rfl⟩ : ∃ a, n = a + 1 := ⟨n - 1, by omega⟩
    rw [m_bytesIn_h5, (sh_step m).1, if_neg (show ¬ nI (8 * m) < (0 : Int32) from nI_pos (by omega)), pk_and _ 8 (by decide), show (2 : Nat) ^ 8 = 256 from rfl, byM v (by omega)]
    unfold m_bytesIn_b25
    simp only [bnd_eq]
    have hlt : byN v m < 256 := Nat.mod_lt _ (by omega)
    rw [show nI c + (1 : Int32) = nI (c + 1) from nI_add c 1, show nI c + (0 : Int32) = nI c from nI_add c 0, (sh_step m).2]
    show _ = some (nI (c + (cbN v m + (if byN v m = 0 then 0 else 1))), T)
    by_cases e : byN v m = 0
    · rw [if_pos (show nI (byN v m) = (0 : Int32) by rw [e]; rfl), if_pos e, ih n c (by omega) (by omega)]
      rfl
    · rw [if_neg (show ¬ nI (byN v m) = (0 : Int32) from nI_nn (b := 0) e (by omega) (by omega)), if_neg e, ih n (c + 1) (by omega) (by omega), show c + 1 + cbN v m = c + (cbN v m + 1) by omega]
/-- the tape on both sides -/
def Tp (L : Nat) (S T : St) : Prop := ∃ b, Txt b L ∧ PT b L S ∧ T 0 6 = nI L ∧ ∀ k, k < L → T 1 k = sb (b k)
def fdC : Nat → Nat → Prop := fun q j => (q = 1 ∧ j = 1) ∨ q = 2
def fdM : Nat → Nat → Prop := fun q j => (q = 0 ∧ j = 6) ∨ q = 1
theorem add_ls (v : Int32) : ∀ (m n n' L : Nat) (S T : St), m ≤ 4 → m < n → m < n' → Tp L S T → L + cbN v m ≤ 160 → ∃ S' T', c_Tape_add_h3 n v (nI (8 * m) - nI 8) S = some S' ∧ m_pack_h3 n' v (nI (8 * m) - nI 8) T = some T' ∧ Tp (L + cbN v m) S' T' ∧ Fr fdC S S' ∧ Fr fdM T T' := by
  intro m
  induction m with
  | zero =>
    intro n n' L S T hm hn hn' tp hL
    obtain ⟨n, rfl⟩ : ∃ a, n = a + 1 := ⟨n - 1, by omega⟩
    obtain ⟨n', rfl⟩ : ∃ a, n' = a + 1 := ⟨n' - 1, by omega⟩
    rw [c_Tape_add_h3, m_pack_h3, if_pos (show nI (8 * 0) - nI 8 < (0 : Int32) by decide), if_pos (show nI (8 * 0) - nI 8 < (0 : Int32) by decide)]
    exact ⟨S, T, rfl, rfl, tp, Fr.rfl, Fr.rfl⟩
  | succ m ih =>
    intro n n' L S T hm hn hn' tp hL
    obtain ⟨n, rfl⟩ : ∃ a, n = a + 1 := ⟨n - 1, by omega⟩
    obtain ⟨n', rfl⟩ : ∃ a, n' = a + 1 := ⟨n' - 1, by omega⟩
    have hlt : byN v m < 256 := Nat.mod_lt _ (by omega)
    rw [c_Tape_add_h3, m_pack_h3, (sh_step m).1, if_neg (show ¬ nI (8 * m) < (0 : Int32) from nI_pos (by omega)), if_neg (show ¬ nI (8 * m) < (0 : Int32) from nI_pos (by omega)), byC v (by omega), pk_and _ 8 (by decide), show (2 : Nat) ^ 8 = 256 from rfl, byM v (by omega), sb_2, byM v (by omega)]
    unfold c_Tape_add_b49 m_pack_b43
    simp only [bnd_eq]
    rw [(sh_step m).2]
    rw [show cbN v (m + 1) = cbN v m + (if byN v m = 0 then 0 else 1) from rfl] at hL ⊢
    by_cases e : byN v m = 0
    · rw [if_pos e] at hL ⊢
      rw [if_pos (show nI (byN v m) = (0 : Int32) by rw [e]; rfl), if_pos (show nI (byN v m) = (0 : Int32) by rw [e]; rfl)]
      exact ih n n' L S T (by omega) (by omega) (by omega) tp (by omega)
    · rw [if_neg e] at hL ⊢
      obtain ⟨b, t, pt, h1, h2⟩ := tp
      have hne : ¬ nI (byN v m) = (0 : Int32) := nI_nn (b := 0) e (by omega) (by omega)
      rw [if_neg hne, if_neg hne, pt.1, h1, if_neg (show ¬ (160 : Int32) ≤ nI L from nI_ge (b := 160) (by omega) (by omega)), ckI (by omega) (by omega), ckI (by omega) (by omega), nI_clamp (by omega), up2_o (show 1 ≠ 2 by omega), pt.1, up2_o (show 0 ≠ 1 by omega), h1, show nI L + (1 : Int32) = nI (L + 1) from nI_add L 1]
      have tp' : Tp (L + 1) (up2 (up2 S 2 L (nI (byN v m))) 1 1 (nI (L + 1))) (up2 (up2 T 1 L (sb (byN v m))) 0 6 (nI (L + 1))) := by
        have b1 : ∀ k, k = L → (fun k => if k = L then byN v m else b k) k = byN v m := fun k hk => if_pos hk
        have b2 : ∀ k, ¬ k = L → (fun k => if k = L then byN v m else b k) k = b k := fun k hk => if_neg hk
        generalize (fun k => if k = L then byN v m else b k) = bb at b1 b2
        refine ⟨bb, ⟨by omega, fun k hk => ?_⟩, ⟨up2_hit rfl rfl, fun k hk => ?_⟩, up2_hit rfl rfl, fun k hk => ?_⟩
        · by_cases ek : k = L
          · rw [b1 k ek]; omega
          · rw [b2 k ek]; exact t.2 k (by omega)
        · rw [up2_o (by omega)]
          by_cases ek : k = L
          · rw [b1 k ek, up2_hit rfl ek]
          · rw [b2 k ek, up2_k ek]; exact pt.2 k (by omega)
        · rw [up2_o (by omega)]
          by_cases ek : k = L
          · rw [b1 k ek, up2_hit rfl ek]
          · rw [b2 k ek, up2_k ek]; exact h2 k (by omega)
      obtain ⟨S', T', r1, r2, tp2, f1, f2⟩ := ih n n' (L + 1) _ _ (by omega) (by omega) (by omega) tp' (by omega)
      refine ⟨S', T', r1, r2, ?_, ((Fr.rfl.up (o := 2) (Or.inr rfl)).up (Or.inl ⟨rfl, rfl⟩)).tr f1, ((Fr.rfl.up (o := 1) (Or.inr rfl)).up (Or.inl ⟨rfl, rfl⟩)).tr f2⟩
      rw [show L + (cbN v m + 1) = L + 1 + cbN v m by omega]
      exact tp2
theorem add2 (v : Int32) {L : Nat} {S T : St} (tp : Tp L S T) (hL : L + cbN v 4 ≤ 160) : ∃ S' T', c_Tape_add v S = some S' ∧ m_pack v T = some T' ∧ Tp (L + cbN v 4) S' T' ∧ Fr fdC S S' ∧ Fr fdM T T' := add_ls v 4 FU FU L S T (by omega) (by unfold FU; omega) (by unfold FU; omega) tp hL
theorem op_feed {S T : St} (h : Rel S T) (v1 v2 v3 v4 v5 : Int32) : Opp (c_N_feed v1 v2 v3 v4 v5 S) (m_feed v1 v2 v3 v4 v5 T) := by
  obtain ⟨X, E, h⟩ := h
  have h := h.z (nI 0)
  unfold c_N_feed m_feed
  rw [bnd_eq, show up2 T 0 0 (0 : Int32) = up2 T 0 0 (nI 0) from rfl]
  generalize up2 T 0 0 (nI 0) = T at h ⊢
  have eC : ∀ v (S : St), c_Tape_bytesOf v S = some (nI (cbN v 4), S) := fun v S => by
    have := bytesC (S := S) v 4 FU 0 (by omega) (by unfold FU; omega)
    rw [show 0 + cbN v 4 = cbN v 4 by omega] at this
    exact this
  have eM : ∀ v (T : St), m_bytesIn v T = some (nI (cbN v 4), T) := fun v T => by
    have := bytesM (T := T) v 4 FU 0 (by omega) (by unfold FU; omega)
    rw [show 0 + cbN v 4 = cbN v 4 by omega] at this
    exact this
  have c1 := cbN_le v1 4
  have c2 := cbN_le v2 4
  have c3 := cbN_le v3 4
  have c4 := cbN_le v4 4
  have c5 := cbN_le v5 4
  obtain ⟨⟨b, L, t, pt, g1, g2⟩, hx, hl, he, hu, hi⟩ := h
  have hL := t.1
  simp only [eC, eM, bI_some, bnd_eq]
  rw [pt.1, g1, nI_add, nI_add, nI_add, nI_add, nI_add, nI_add, nI_add, nI_add, nI_add, nI_add]
  by_cases c : L + (cbN v1 4 + cbN v2 4 + cbN v3 4 + cbN v4 4 + cbN v5 4) ≤ 160
  · rw [if_pos (show nI (L + (cbN v1 4 + cbN v2 4 + cbN v3 4 + cbN v4 4 + cbN v5 4)) ≤ (160 : Int32) from nI_le (b := 160) c (by omega)), if_pos (show nI (L + cbN v1 4 + cbN v2 4 + cbN v3 4 + cbN v4 4 + cbN v5 4) ≤ (160 : Int32) from nI_le (b := 160) (by omega) (by omega))]
    obtain ⟨S1, T1, r1, q1, tp1, f1, e1⟩ := add2 v1 (L := L) ⟨b, t, pt, g1, g2⟩ (by omega)
    obtain ⟨S2, T2, r2, q2, tp2, f2, e2⟩ := add2 v2 tp1 (by omega)
    obtain ⟨S3, T3, r3, q3, tp3, f3, e3⟩ := add2 v3 tp2 (by omega)
    obtain ⟨S4, T4, r4, q4, tp4, f4, e4⟩ := add2 v4 tp3 (by omega)
    obtain ⟨S5, T5, r5, q5, tp5, f5, e5⟩ := add2 v5 tp4 (by omega)
    rw [r1, q1, bV_some, bV_some, r2, q2, bV_some, bV_some, r3, q3, bV_some, bV_some, r4, q4, bV_some, bV_some, r5, q5, bV_some, bV_some]
    obtain ⟨b5, t5, pt5, u1, u2⟩ := tp5
    rw [pt5.1, u1]
    have fS := (((f1.tr f2).tr f3).tr f4).tr f5
    have fT := (((e1.tr e2).tr e3).tr e4).tr e5
    exact ⟨_, _, _, rfl, rfl, X, E, ⟨b5, _, t5, pt5, u1, u2⟩, hx.fr (fun q j hq => fS _ _ (by unfold fdC; omega)) (fun q j hq => fT _ _ (by unfold fdM; omega)), hl.fr (fun q j hq => fS _ _ (by unfold fdC; omega)) (fun q j hq => fT _ _ (by unfold fdM; omega)), he.fr (fun j => fS _ _ (by unfold fdC; omega)) (fun j => fT _ _ (by unfold fdM; omega)), hu.fr (fun q j hq => fS _ _ (by unfold fdC; omega)) (fun q j hq => fT _ _ (by unfold fdM; omega)), hi.fr (fun q j hq => fS _ _ (by unfold fdC; omega)) (fun q j hq => fT _ _ (by unfold fdM; omega))⟩
  · rw [if_neg (show ¬ nI (L + (cbN v1 4 + cbN v2 4 + cbN v3 4 + cbN v4 4 + cbN v5 4)) ≤ (160 : Int32) from nI_ge (a := 160) (by omega) (by omega)), if_neg (show ¬ nI (L + cbN v1 4 + cbN v2 4 + cbN v3 4 + cbN v4 4 + cbN v5 4) ≤ (160 : Int32) from nI_ge (a := 160) (by omega) (by omega))]
    exact ⟨_, _, _, rfl, rfl, X, E, ⟨b, L, t, pt, g1, g2⟩, hx, hl, he, hu, hi⟩
