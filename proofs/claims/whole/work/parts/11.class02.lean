section GEN
variable {p : Program} {l : Launch} {e : Env} {s : State} {m : MethodId} {args : Array Value} {below : List Frame} {meth : Method} {c : Code}
variable {D : va_G} {ca : Nat → ClassId} {tp : List ODt} {a : Nat → Nat} {A : Nat → Prop} {s0 : State} {args0 : Array Value} {t : Nat}
def c_lk : Nat → Nat → Int32 → St → Option (Int32 × St)
  | 0, _, _, _ => none
  | n + 1, t, v1, S => if t = 0 then c_LikingReader_readUnit (c_lk n) v1 S else if t = 1 then c_LikingReader_readComparison (c_lk n) v1 S else if t = 2 then c_LikingReader_readRestOfCondition (c_lk n) v1 S else if t = 3 then c_LikingReader_readRestOfTruth (c_lk n) v1 S else if t = 4 then c_LikingReader_readSum (c_lk n) v1 S else if t = 5 then c_LikingReader_readTerm (c_lk n) v1 S else if t = 6 then c_LikingReader_readAtom (c_lk n) v1 S else none
set_option maxHeartbeats 4000000 in
set_option maxRecDepth 100000 in
theorem c_lk_ct (g : GG s0 args0 D ca a A) : ∀ n : Nat, (∀ (v1 : Int32) (S : St) (z : Int32 × St), c_lk n 0 v1 S = some z → CtI l yX2_readUnit cX2_readUnit 3 .boolean (n + 5) s0 D ca tpC a A [.ref (a 13), .int v1] S z) ∧ (∀ (v1 : Int32) (S : St) (z : Int32 × St), c_lk n 1 v1 S = some z → CtI l yX2_readComparison cX2_readComparison 3 .boolean (n + 5) s0 D ca tpC a A [.ref (a 13), .int v1] S z) ∧ (∀ (v1 : Int32) (S : St) (z : Int32 × St), c_lk n 2 v1 S = some z → CtI l yX2_readRestOfCondition cX2_readRestOfCondition 3 .boolean (n + 5) s0 D ca tpC a A [.ref (a 13), .int v1] S z) ∧ (∀ (v1 : Int32) (S : St) (z : Int32 × St), c_lk n 3 v1 S = some z → CtI l yX2_readRestOfTruth cX2_readRestOfTruth 3 .boolean (n + 5) s0 D ca tpC a A [.ref (a 13), .int v1] S z) ∧ (∀ (v1 : Int32) (S : St) (z : Int32 × St), c_lk n 4 v1 S = some z → CtI l yX2_readSum cX2_readSum 4 .boolean (n + 5) s0 D ca tpC a A [.ref (a 13), .int v1] S z) ∧ (∀ (v1 : Int32) (S : St) (z : Int32 × St), c_lk n 5 v1 S = some z → CtI l yX2_readTerm cX2_readTerm 4 .boolean (n + 5) s0 D ca tpC a A [.ref (a 13), .int v1] S z) ∧ (∀ (v1 : Int32) (S : St) (z : Int32 × St), c_lk n 6 v1 S = some z → CtI l yX2_readAtom cX2_readAtom 5 .boolean (n + 5) s0 D ca tpC a A [.ref (a 13), .int v1] S z) := by
  intro n
  induction n with
  | zero => exact ⟨fun _ _ _ hz => (nomatch hz), fun _ _ _ hz => (nomatch hz), fun _ _ _ hz => (nomatch hz), fun _ _ _ hz => (nomatch hz), fun _ _ _ hz => (nomatch hz), fun _ _ _ hz => (nomatch hz), fun _ _ _ hz => (nomatch hz)⟩
  | succ n ih =>
    refine ⟨?_, ?_, ?_, ?_, ?_, ?_, ?_⟩
    · exact fun v1 S z hz => CtI_mk g (by decide +kernel) (Nat.le_of_ble_eq_true rfl) (show c_LikingReader_readUnit (c_lk n) v1 S = some z from hz) (fun p e s m args below meth c h hr hlk => c_LikingReader_readUnit_ok h hr hlk (by omega) (c_lk n) ih (by omega) v1 S)
    · exact fun v1 S z hz => CtI_mk g (by decide +kernel) (Nat.le_of_ble_eq_true rfl) (show c_LikingReader_readComparison (c_lk n) v1 S = some z from hz) (fun p e s m args below meth c h hr hlk => c_LikingReader_readComparison_ok h hr hlk (by omega) (c_lk n) ih (by omega) v1 S)
    · exact fun v1 S z hz => CtI_mk g (by decide +kernel) (Nat.le_of_ble_eq_true rfl) (show c_LikingReader_readRestOfCondition (c_lk n) v1 S = some z from hz) (fun p e s m args below meth c h hr hlk => c_LikingReader_readRestOfCondition_ok h hr hlk (by omega) (c_lk n) ih (by omega) v1 S)
    · exact fun v1 S z hz => CtI_mk g (by decide +kernel) (Nat.le_of_ble_eq_true rfl) (show c_LikingReader_readRestOfTruth (c_lk n) v1 S = some z from hz) (fun p e s m args below meth c h hr hlk => c_LikingReader_readRestOfTruth_ok h hr hlk (by omega) (c_lk n) ih (by omega) v1 S)
    · exact fun v1 S z hz => CtI_mk g (by decide +kernel) (Nat.le_of_ble_eq_true rfl) (show c_LikingReader_readSum (c_lk n) v1 S = some z from hz) (fun p e s m args below meth c h hr hlk => c_LikingReader_readSum_ok h hr hlk (by omega) (c_lk n) ih (by omega) v1 S)
    · exact fun v1 S z hz => CtI_mk g (by decide +kernel) (Nat.le_of_ble_eq_true rfl) (show c_LikingReader_readTerm (c_lk n) v1 S = some z from hz) (fun p e s m args below meth c h hr hlk => c_LikingReader_readTerm_ok h hr hlk (by omega) (c_lk n) ih (by omega) v1 S)
    · exact fun v1 S z hz => CtI_mk g (by decide +kernel) (Nat.le_of_ble_eq_true rfl) (show c_LikingReader_readAtom (c_lk n) v1 S = some z from hz) (fun p e s m args below meth c h hr hlk => c_LikingReader_readAtom_ok h hr hlk (by omega) (c_lk n) ih (by omega) v1 S)
def c_LikingReader_readUnit_x (v1 : Int32) (S : St) : Option (Int32 × St) := c_lk 40 0 v1 S
theorem c_LikingReader_readUnit_x_ct {d : Nat} (g : GG s0 args0 D ca a A) (hD : d ≤ 45) (hD2 : 45 ≤ d) (v1 : Int32) (S : St) (z : (Int32 × St)) (hz : c_LikingReader_readUnit_x v1 S = some z) : CtI l yX2_readUnit cX2_readUnit 3 .boolean d s0 D ca tpC a A [.ref (a 13), .int v1] S z := by
 have e : d = 40 + 5 := by omega
 subst e
 exact (c_lk_ct g 40).1 v1 S z hz
def c_LikingReader_readComparison_x (v1 : Int32) (S : St) : Option (Int32 × St) := c_lk 40 1 v1 S
theorem c_LikingReader_readComparison_x_ct {d : Nat} (g : GG s0 args0 D ca a A) (hD : d ≤ 45) (hD2 : 45 ≤ d) (v1 : Int32) (S : St) (z : (Int32 × St)) (hz : c_LikingReader_readComparison_x v1 S = some z) : CtI l yX2_readComparison cX2_readComparison 3 .boolean d s0 D ca tpC a A [.ref (a 13), .int v1] S z := by
 have e : d = 40 + 5 := by omega
 subst e
 exact (c_lk_ct g 40).2.1 v1 S z hz
def c_LikingReader_readRestOfCondition_x (v1 : Int32) (S : St) : Option (Int32 × St) := c_lk 40 2 v1 S
theorem c_LikingReader_readRestOfCondition_x_ct {d : Nat} (g : GG s0 args0 D ca a A) (hD : d ≤ 45) (hD2 : 45 ≤ d) (v1 : Int32) (S : St) (z : (Int32 × St)) (hz : c_LikingReader_readRestOfCondition_x v1 S = some z) : CtI l yX2_readRestOfCondition cX2_readRestOfCondition 3 .boolean d s0 D ca tpC a A [.ref (a 13), .int v1] S z := by
 have e : d = 40 + 5 := by omega
 subst e
 exact (c_lk_ct g 40).2.2.1 v1 S z hz
def c_LikingReader_readRestOfTruth_x (v1 : Int32) (S : St) : Option (Int32 × St) := c_lk 40 3 v1 S
theorem c_LikingReader_readRestOfTruth_x_ct {d : Nat} (g : GG s0 args0 D ca a A) (hD : d ≤ 45) (hD2 : 45 ≤ d) (v1 : Int32) (S : St) (z : (Int32 × St)) (hz : c_LikingReader_readRestOfTruth_x v1 S = some z) : CtI l yX2_readRestOfTruth cX2_readRestOfTruth 3 .boolean d s0 D ca tpC a A [.ref (a 13), .int v1] S z := by
 have e : d = 40 + 5 := by omega
 subst e
 exact (c_lk_ct g 40).2.2.2.1 v1 S z hz
def c_LikingReader_readSum_x (v1 : Int32) (S : St) : Option (Int32 × St) := c_lk 40 4 v1 S
theorem c_LikingReader_readSum_x_ct {d : Nat} (g : GG s0 args0 D ca a A) (hD : d ≤ 45) (hD2 : 45 ≤ d) (v1 : Int32) (S : St) (z : (Int32 × St)) (hz : c_LikingReader_readSum_x v1 S = some z) : CtI l yX2_readSum cX2_readSum 4 .boolean d s0 D ca tpC a A [.ref (a 13), .int v1] S z := by
 have e : d = 40 + 5 := by omega
 subst e
 exact (c_lk_ct g 40).2.2.2.2.1 v1 S z hz
def c_LikingReader_readTerm_x (v1 : Int32) (S : St) : Option (Int32 × St) := c_lk 40 5 v1 S
theorem c_LikingReader_readTerm_x_ct {d : Nat} (g : GG s0 args0 D ca a A) (hD : d ≤ 45) (hD2 : 45 ≤ d) (v1 : Int32) (S : St) (z : (Int32 × St)) (hz : c_LikingReader_readTerm_x v1 S = some z) : CtI l yX2_readTerm cX2_readTerm 4 .boolean d s0 D ca tpC a A [.ref (a 13), .int v1] S z := by
 have e : d = 40 + 5 := by omega
 subst e
 exact (c_lk_ct g 40).2.2.2.2.2.1 v1 S z hz
def c_LikingReader_readAtom_x (v1 : Int32) (S : St) : Option (Int32 × St) := c_lk 40 6 v1 S
theorem c_LikingReader_readAtom_x_ct {d : Nat} (g : GG s0 args0 D ca a A) (hD : d ≤ 45) (hD2 : 45 ≤ d) (v1 : Int32) (S : St) (z : (Int32 × St)) (hz : c_LikingReader_readAtom_x v1 S = some z) : CtI l yX2_readAtom cX2_readAtom 5 .boolean d s0 D ca tpC a A [.ref (a 13), .int v1] S z := by
 have e : d = 40 + 5 := by omega
 subst e
 exact (c_lk_ct g 40).2.2.2.2.2.2 v1 S z hz
def c_Noon_isLast (v1 : Int32) (S : St) : Option (Int32 × St) := (if v1 < ((S 28 0) - (1 : Int32)) then (nzM (0 : Int32) (some ((0 : Int32), S))) else (nzM (1 : Int32) (some ((1 : Int32), S))))
set_option maxHeartbeats 4000000 in
set_option maxRecDepth 100000 in
theorem c_Noon_isLast_ok {d : Nat} (h : Cx p s m c cX3_isLast 2 RX3 s0 args0 D ca a A) (hr : meth.sig.returnType = some .boolean) (hlk : meth.locks = false) (hD : 1 ≤ d) (v1 : Int32) (S : St) : VV p l e (rmd d) s m args below meth c D ca tpC a A 2 (QmI D ca tpC a A below args s) S [(0, .ref (a 111)), (1, .int v1)] 0 [] (c_Noon_isLast v1 S) := by
  unfold c_Noon_isLast
  refine V_iload_n (pc := 0) h 1 dX3_isLast_0 rfl rfl ?_
  refine V_aload_n (pc := 1) h 0 dX3_isLast_1 rfl rfl ?_
  refine V_get (pc := 2) h 111 0 (.ref (a 28)) fl_X3_29_X3 oC_111 rfl rfl dX3_isLast_2 ?_
  refine V_get (pc := 5) h 28 0 (.int (S 28 0)) fl_X3_66_X7 oC_28 rfl rfl dX3_isLast_5 ?_
  refine V_iconst (pc := 8) (v := 1) h dX3_isLast_8 (by decide) ?_
  refine V_isub (pc := 9) h dX3_isLast_9 ?_
  refine V_icmp_lt (pc := 10) h 17 dX3_isLast_10 (by decide) ?_ ?_
  · refine V_iconst (pc := 17) (v := 0) h dX3_isLast_17 (by decide) ?_
    exact V_zret (pc := 18) h hr hlk dX3_isLast_18
  · refine V_iconst (pc := 13) (v := 1) h dX3_isLast_13 (by decide) ?_
    refine V_goto (pc := 14) h 18 dX3_isLast_14 (by decide) ?_
    exact V_zret (pc := 18) h hr hlk dX3_isLast_18
theorem c_Noon_isLast_ct {d : Nat} (g : GG s0 args0 D ca a A) (hD : 1 ≤ d) (v1 : Int32) (S : St) (z : Int32 × St) (hz : c_Noon_isLast v1 S = some z) : CtI l yX3_isLast cX3_isLast 2 .boolean d s0 D ca tpC a A [.ref (a 111), .int v1] S z := CtI_mk g (by decide +kernel) (Nat.le_of_ble_eq_true rfl) hz (fun p e s m args below meth c h hr hlk => c_Noon_isLast_ok h hr hlk hD v1 S)
def c_Noon_scoop_b81 (o0 : Nat) (o1 : Nat) (o2 : Nat) (L50 : Int32 → Int32 → Int32 → Int32 → St → Option St) (v1 : Int32) (v4 : Int32) (v5 : Int32) (v6 : Int32) (k0 : Int32) (k1 : Int32) (S : St) : Option St := (ckM k1 6 (bnd (up2 S o1 k1.toNatClampNeg k0) (fun S1 => (ckM v6 6 (ckM v6 6 (ckM v6 6 (bnd (up2 S1 o2 v6.toNatClampNeg ((S1 o0 v6.toNatClampNeg) - (S1 o1 v6.toNatClampNeg))) (fun S2 => (bnd (v6 + (1 : Int32)) (fun x3 => (L50 v1 v4 v5 x3 S2)))))))))))
set_option maxHeartbeats 4000000 in
set_option maxRecDepth 100000 in
theorem c_Noon_scoop_b81_ok {d : Nat} (h : Cx p s m c cX3_scoop 7 RX3 s0 args0 D ca a A) (hr : meth.sig.returnType = none) (hlk : meth.locks = false) (hD : 1 ≤ d) (o0 : Nat) (o1 : Nat) (o2 : Nat) (ho0 : tpC[o0]? = some (.inr (0, 6, 0))) (ho1 : tpC[o1]? = some (.inr (0, 6, 0))) (ho2 : tpC[o2]? = some (.inr (0, 6, 0))) (L50 : Int32 → Int32 → Int32 → Int32 → St → Option St) (hL50 : ∀ (v1 : Int32) (v4 : Int32) (v5 : Int32) (v6 : Int32) (S : St), VV p l e (rmd d) s m args below meth c D ca tpC a A 7 (QmV D ca tpC a A below args s) S [(0, .ref (a o0)), (1, .int v1), (2, .ref (a o1)), (3, .ref (a o2)), (4, .int v4), (5, .int v5), (6, .int v6)] 50 [] (L50 v1 v4 v5 v6 S)) (v1 : Int32) (v4 : Int32) (v5 : Int32) (v6 : Int32) (k0 : Int32) (k1 : Int32) (S : St) : VV p l e (rmd d) s m args below meth c D ca tpC a A 7 (QmV D ca tpC a A below args s) S [(0, .ref (a o0)), (1, .int v1), (2, .ref (a o1)), (3, .ref (a o2)), (4, .int v4), (5, .int v5), (6, .int v6)] 81 [.int k0, .int k1, .ref (a o1)] (c_Noon_scoop_b81 o0 o1 o2 L50 v1 v4 v5 v6 k0 k1 S) := by
  unfold c_Noon_scoop_b81
  refine V_iast (pc := 81) h o1 ho1 dX3_scoop_81 (fun S1 => ?_)
  refine V_aload_n (pc := 82) h 3 dX3_scoop_82 rfl rfl ?_
  refine V_iload (pc := 83) h 6 dX3_scoop_83 rfl ?_
  refine V_aload_n (pc := 85) h 0 dX3_scoop_85 rfl rfl ?_
  refine V_iload (pc := 86) h 6 dX3_scoop_86 rfl ?_
  refine V_iald (pc := 88) h o0 ho0 dX3_scoop_88 ?_
  refine V_aload_n (pc := 89) h 2 dX3_scoop_89 rfl rfl ?_
  refine V_iload (pc := 90) h 6 dX3_scoop_90 rfl ?_
  refine V_iald (pc := 92) h o1 ho1 dX3_scoop_92 ?_
  refine V_isub (pc := 93) h dX3_scoop_93 ?_
  refine V_iast (pc := 94) h o2 ho2 dX3_scoop_94 (fun S2 => ?_)
  refine V_iincB (pc := 95) h 6 (1 : Int32) (fun x3 => [(6, .int x3), (0, .ref (a o0)), (1, .int v1), (2, .ref (a o1)), (3, .ref (a o2)), (4, .int v4), (5, .int v5)]) dX3_scoop_95 rfl (by decide) (by decide) (fun _ => rfl) (fun x3 => ?_)
  refine V_goto (pc := 98) h 50 dX3_scoop_98 (by decide) ?_
  exact V_ls [1, 2, 3, 4, 5, 6, 0] rfl (hL50 v1 v4 v5 x3 S2)
def c_Noon_scoop_h50 (o0 : Nat) (o1 : Nat) (o2 : Nat) : Nat → Int32 → Int32 → Int32 → Int32 → St → Option St
  | 0, _, _, _, _, _ => none
  | n + 1, v1, v4, v5, v6, S => (if (6 : Int32) ≤ v6 then (some S) else (if v5 = 0 then (ckM v6 6 (dvM v4 (c_Noon_scoop_b81 o0 o1 o2 (c_Noon_scoop_h50 o0 o1 o2 n) v1 v4 v5 v6 (((S o0 v6.toNatClampNeg) * v1) / v4) v6 S))) else (ckM v6 6 (c_Noon_scoop_b81 o0 o1 o2 (c_Noon_scoop_h50 o0 o1 o2 n) v1 v4 v5 v6 (S o0 v6.toNatClampNeg) v6 S))))
set_option maxHeartbeats 4000000 in
set_option maxRecDepth 100000 in
theorem c_Noon_scoop_h50_ok {d : Nat} (h : Cx p s m c cX3_scoop 7 RX3 s0 args0 D ca a A) (hr : meth.sig.returnType = none) (hlk : meth.locks = false) (hD : 1 ≤ d) (o0 : Nat) (o1 : Nat) (o2 : Nat) (ho0 : tpC[o0]? = some (.inr (0, 6, 0))) (ho1 : tpC[o1]? = some (.inr (0, 6, 0))) (ho2 : tpC[o2]? = some (.inr (0, 6, 0))) : ∀ (n : Nat) (v1 : Int32) (v4 : Int32) (v5 : Int32) (v6 : Int32) (S : St), VV p l e (rmd d) s m args below meth c D ca tpC a A 7 (QmV D ca tpC a A below args s) S [(0, .ref (a o0)), (1, .int v1), (2, .ref (a o1)), (3, .ref (a o2)), (4, .int v4), (5, .int v5), (6, .int v6)] 50 [] (c_Noon_scoop_h50 o0 o1 o2 n v1 v4 v5 v6 S) := by
  intro n
  induction n with
  | zero => intro v1 v4 v5 v6 S; exact V_none
  | succ n ih =>
    intro v1 v4 v5 v6 S
    unfold c_Noon_scoop_h50
    refine V_iload (pc := 50) h 6 dX3_scoop_50 rfl ?_
    refine V_bipush (pc := 52) (v := 6) h dX3_scoop_52 (by decide) ?_
    refine V_icmp_ge (pc := 54) h 101 dX3_scoop_54 (by decide) ?_ ?_
    · exact V_vret (pc := 101) h hr hlk dX3_scoop_101
    · refine V_aload_n (pc := 57) h 2 dX3_scoop_57 rfl rfl ?_
      refine V_iload (pc := 58) h 6 dX3_scoop_58 rfl ?_
      refine V_iload (pc := 60) h 5 dX3_scoop_60 rfl ?_
      refine V_if_eq (pc := 62) h 72 dX3_scoop_62 (by decide) ?_ ?_
      · refine V_aload_n (pc := 72) h 0 dX3_scoop_72 rfl rfl ?_
        refine V_iload (pc := 73) h 6 dX3_scoop_73 rfl ?_
        refine V_iald (pc := 75) h o0 ho0 dX3_scoop_75 ?_
        refine V_iload_n (pc := 76) h 1 dX3_scoop_76 rfl rfl ?_
        refine V_imul (pc := 77) h dX3_scoop_77 ?_
        refine V_iload (pc := 78) h 4 dX3_scoop_78 rfl ?_
        refine V_idiv (pc := 80) h dX3_scoop_80 ?_
        exact V_ls [0, 1, 2, 3, 4, 5, 6] rfl (c_Noon_scoop_b81_ok h hr hlk hD o0 o1 o2 ho0 ho1 ho2 (c_Noon_scoop_h50 o0 o1 o2 n) ih v1 v4 v5 v6 (((S o0 v6.toNatClampNeg) * v1) / v4) v6 S)
      · refine V_aload_n (pc := 65) h 0 dX3_scoop_65 rfl rfl ?_
        refine V_iload (pc := 66) h 6 dX3_scoop_66 rfl ?_
        refine V_iald (pc := 68) h o0 ho0 dX3_scoop_68 ?_
        refine V_goto (pc := 69) h 81 dX3_scoop_69 (by decide) ?_
        exact V_ls [0, 1, 2, 3, 4, 5, 6] rfl (c_Noon_scoop_b81_ok h hr hlk hD o0 o1 o2 ho0 ho1 ho2 (c_Noon_scoop_h50 o0 o1 o2 n) ih v1 v4 v5 v6 (S o0 v6.toNatClampNeg) v6 S)
def c_Noon_scoop_b45 (o0 : Nat) (o1 : Nat) (o2 : Nat) (v1 : Int32) (v4 : Int32) (k0 : Int32) (S : St) : Option St := (c_Noon_scoop_h50 o0 o1 o2 FU v1 v4 k0 (0 : Int32) S)
set_option maxHeartbeats 4000000 in
set_option maxRecDepth 100000 in
theorem c_Noon_scoop_b45_ok {d : Nat} (h : Cx p s m c cX3_scoop 7 RX3 s0 args0 D ca a A) (hr : meth.sig.returnType = none) (hlk : meth.locks = false) (hD : 1 ≤ d) (o0 : Nat) (o1 : Nat) (o2 : Nat) (ho0 : tpC[o0]? = some (.inr (0, 6, 0))) (ho1 : tpC[o1]? = some (.inr (0, 6, 0))) (ho2 : tpC[o2]? = some (.inr (0, 6, 0))) (v1 : Int32) (v4 : Int32) (k0 : Int32) (S : St) : VV p l e (rmd d) s m args below meth c D ca tpC a A 7 (QmV D ca tpC a A below args s) S [(0, .ref (a o0)), (1, .int v1), (2, .ref (a o1)), (3, .ref (a o2)), (4, .int v4)] 45 [.int k0] (c_Noon_scoop_b45 o0 o1 o2 v1 v4 k0 S) := by
  unfold c_Noon_scoop_b45
  refine V_istore (pc := 45) h [(5, .int k0), (0, .ref (a o0)), (1, .int v1), (2, .ref (a o1)), (3, .ref (a o2)), (4, .int v4)] dX3_scoop_45 (by decide) rfl ?_
  refine V_iconst (pc := 47) (v := 0) h dX3_scoop_47 (by decide) ?_
  refine V_istore (pc := 48) h [(6, .int (0 : Int32)), (5, .int k0), (0, .ref (a o0)), (1, .int v1), (2, .ref (a o1)), (3, .ref (a o2)), (4, .int v4)] dX3_scoop_48 (by decide) rfl ?_
  exact V_ls [2, 3, 4, 5, 6, 1, 0] rfl (c_Noon_scoop_h50_ok h hr hlk hD o0 o1 o2 ho0 ho1 ho2 FU v1 v4 k0 (0 : Int32) S)
def c_Noon_scoop_b40 (o0 : Nat) (o1 : Nat) (o2 : Nat) (v1 : Int32) (v4 : Int32) (S : St) : Option St := (c_Noon_scoop_b45 o0 o1 o2 v1 v4 (1 : Int32) S)
set_option maxHeartbeats 4000000 in
set_option maxRecDepth 100000 in
theorem c_Noon_scoop_b40_ok {d : Nat} (h : Cx p s m c cX3_scoop 7 RX3 s0 args0 D ca a A) (hr : meth.sig.returnType = none) (hlk : meth.locks = false) (hD : 1 ≤ d) (o0 : Nat) (o1 : Nat) (o2 : Nat) (ho0 : tpC[o0]? = some (.inr (0, 6, 0))) (ho1 : tpC[o1]? = some (.inr (0, 6, 0))) (ho2 : tpC[o2]? = some (.inr (0, 6, 0))) (v1 : Int32) (v4 : Int32) (S : St) : VV p l e (rmd d) s m args below meth c D ca tpC a A 7 (QmV D ca tpC a A below args s) S [(0, .ref (a o0)), (1, .int v1), (2, .ref (a o1)), (3, .ref (a o2)), (4, .int v4)] 40 [] (c_Noon_scoop_b40 o0 o1 o2 v1 v4 S) := by
  unfold c_Noon_scoop_b40
  refine V_iconst (pc := 40) (v := 1) h dX3_scoop_40 (by decide) ?_
  refine V_goto (pc := 41) h 45 dX3_scoop_41 (by decide) ?_
  exact V_ls [0, 1, 2, 3, 4] rfl (c_Noon_scoop_b45_ok h hr hlk hD o0 o1 o2 ho0 ho1 ho2 v1 v4 (1 : Int32) S)
def c_Noon_scoop_h6 (o0 : Nat) (o1 : Nat) (o2 : Nat) : Nat → Int32 → Int32 → Int32 → St → Option St
  | 0, _, _, _, _ => none
  | n + 1, v1, v4, v5, S => (if (6 : Int32) ≤ v5 then (if v4 < (1 : Int32) then (c_Noon_scoop_b40 o0 o1 o2 v1 v4 S) else (if v1 < v4 then (c_Noon_scoop_b45 o0 o1 o2 v1 v4 (0 : Int32) S) else (c_Noon_scoop_b40 o0 o1 o2 v1 v4 S))) else (ckM v5 6 (bnd (v4 + (S o0 v5.toNatClampNeg)) (fun x1 => (bnd (v5 + (1 : Int32)) (fun x2 => ((c_Noon_scoop_h6 o0 o1 o2 n) v1 x1 x2 S)))))))
set_option maxHeartbeats 4000000 in
set_option maxRecDepth 100000 in
theorem c_Noon_scoop_h6_ok {d : Nat} (h : Cx p s m c cX3_scoop 7 RX3 s0 args0 D ca a A) (hr : meth.sig.returnType = none) (hlk : meth.locks = false) (hD : 1 ≤ d) (o0 : Nat) (o1 : Nat) (o2 : Nat) (ho0 : tpC[o0]? = some (.inr (0, 6, 0))) (ho1 : tpC[o1]? = some (.inr (0, 6, 0))) (ho2 : tpC[o2]? = some (.inr (0, 6, 0))) : ∀ (n : Nat) (v1 : Int32) (v4 : Int32) (v5 : Int32) (S : St), VV p l e (rmd d) s m args below meth c D ca tpC a A 7 (QmV D ca tpC a A below args s) S [(0, .ref (a o0)), (1, .int v1), (2, .ref (a o1)), (3, .ref (a o2)), (4, .int v4), (5, .int v5)] 6 [] (c_Noon_scoop_h6 o0 o1 o2 n v1 v4 v5 S) := by
  intro n
  induction n with
  | zero => intro v1 v4 v5 S; exact V_none
  | succ n ih =>
    intro v1 v4 v5 S
    unfold c_Noon_scoop_h6
    refine V_iload (pc := 6) h 5 dX3_scoop_6 rfl ?_
    refine V_bipush (pc := 8) (v := 6) h dX3_scoop_8 (by decide) ?_
    refine V_icmp_ge (pc := 10) h 28 dX3_scoop_10 (by decide) ?_ ?_
    · refine V_iload (pc := 28) h 4 dX3_scoop_28 rfl ?_
      refine V_iconst (pc := 30) (v := 1) h dX3_scoop_30 (by decide) ?_
      refine V_icmp_lt (pc := 31) h 40 dX3_scoop_31 (by decide) ?_ ?_
      · exact V_ls [0, 1, 2, 3, 4] rfl (c_Noon_scoop_b40_ok h hr hlk hD o0 o1 o2 ho0 ho1 ho2 v1 v4 S)
      · refine V_iload (pc := 34) h 4 dX3_scoop_34 rfl ?_
        refine V_iload_n (pc := 36) h 1 dX3_scoop_36 rfl rfl ?_
        refine V_icmp_gt (pc := 37) h 44 dX3_scoop_37 (by decide) ?_ ?_
        · refine V_iconst (pc := 44) (v := 0) h dX3_scoop_44 (by decide) ?_
          exact V_ls [0, 1, 2, 3, 4] rfl (c_Noon_scoop_b45_ok h hr hlk hD o0 o1 o2 ho0 ho1 ho2 v1 v4 (0 : Int32) S)
        · exact V_ls [0, 1, 2, 3, 4] rfl (c_Noon_scoop_b40_ok h hr hlk hD o0 o1 o2 ho0 ho1 ho2 v1 v4 S)
    · refine V_iload (pc := 13) h 4 dX3_scoop_13 rfl ?_
      refine V_aload_n (pc := 15) h 0 dX3_scoop_15 rfl rfl ?_
      refine V_iload (pc := 16) h 5 dX3_scoop_16 rfl ?_
      refine V_iald (pc := 18) h o0 ho0 dX3_scoop_18 ?_
      refine V_iadd (pc := 19) h dX3_scoop_19 ?_
      refine V_top (fun x1 => ?_)
      refine V_istore (pc := 20) h [(4, .int x1), (0, .ref (a o0)), (1, .int v1), (2, .ref (a o1)), (3, .ref (a o2)), (5, .int v5)] dX3_scoop_20 (by decide) rfl ?_
      refine V_iincB (pc := 22) h 5 (1 : Int32) (fun x2 => [(5, .int x2), (4, .int x1), (0, .ref (a o0)), (1, .int v1), (2, .ref (a o1)), (3, .ref (a o2))]) dX3_scoop_22 rfl (by decide) (by decide) (fun _ => rfl) (fun x2 => ?_)
      refine V_goto (pc := 25) h 6 dX3_scoop_25 (by decide) ?_
      exact V_ls [2, 3, 4, 5, 1, 0] rfl (ih v1 x1 x2 S)
def c_Noon_scoop (o0 : Nat) (o1 : Nat) (o2 : Nat) (v1 : Int32) (S : St) : Option St := (c_Noon_scoop_h6 o0 o1 o2 FU v1 (0 : Int32) (0 : Int32) S)
set_option maxHeartbeats 4000000 in
set_option maxRecDepth 100000 in
theorem c_Noon_scoop_ok {d : Nat} (h : Cx p s m c cX3_scoop 7 RX3 s0 args0 D ca a A) (hr : meth.sig.returnType = none) (hlk : meth.locks = false) (hD : 1 ≤ d) (o0 : Nat) (o1 : Nat) (o2 : Nat) (ho0 : tpC[o0]? = some (.inr (0, 6, 0))) (ho1 : tpC[o1]? = some (.inr (0, 6, 0))) (ho2 : tpC[o2]? = some (.inr (0, 6, 0))) (v1 : Int32) (S : St) : VV p l e (rmd d) s m args below meth c D ca tpC a A 7 (QmV D ca tpC a A below args s) S [(0, .ref (a o0)), (1, .int v1), (2, .ref (a o1)), (3, .ref (a o2))] 0 [] (c_Noon_scoop o0 o1 o2 v1 S) := by
  unfold c_Noon_scoop
  refine V_iconst (pc := 0) (v := 0) h dX3_scoop_0 (by decide) ?_
  refine V_istore (pc := 1) h [(4, .int (0 : Int32)), (0, .ref (a o0)), (1, .int v1), (2, .ref (a o1)), (3, .ref (a o2))] dX3_scoop_1 (by decide) rfl ?_
  refine V_iconst (pc := 3) (v := 0) h dX3_scoop_3 (by decide) ?_
  refine V_istore (pc := 4) h [(5, .int (0 : Int32)), (4, .int (0 : Int32)), (0, .ref (a o0)), (1, .int v1), (2, .ref (a o1)), (3, .ref (a o2))] dX3_scoop_4 (by decide) rfl ?_
  exact V_ls [2, 3, 4, 5, 1, 0] rfl (c_Noon_scoop_h6_ok h hr hlk hD o0 o1 o2 ho0 ho1 ho2 FU v1 (0 : Int32) (0 : Int32) S)
theorem c_Noon_scoop_ct {d : Nat} (g : GG s0 args0 D ca a A) (hD : 1 ≤ d) {o0 : Nat} {o1 : Nat} {o2 : Nat} (ho0 : tpC[o0]? = some (.inr (0, 6, 0))) (ho1 : tpC[o1]? = some (.inr (0, 6, 0))) (ho2 : tpC[o2]? = some (.inr (0, 6, 0))) (v1 : Int32) (S : St) (z : St) (hz : c_Noon_scoop o0 o1 o2 v1 S = some z) : CtV l yX3_scoop cX3_scoop 7 d s0 D ca tpC a A [.ref (a o0), .int v1, .ref (a o1), .ref (a o2)] S z := CtV_mk g (by decide +kernel) (Nat.le_of_ble_eq_true rfl) hz (fun p e s m args below meth c h hr hlk => c_Noon_scoop_ok h hr hlk hD o0 o1 o2 ho0 ho1 ho2 v1 S)
def c_Noon_serve_b50 (v1 : Int32) (v2 : Int32) (k0 : Int32) (S : St) : Option St := (ckM v1 7 (ckM v2 6 (ckM (v1 + (1 : Int32)) 7 (bV (c_Noon_scoop (114 + v1.toNatClampNeg) (121 + v2.toNatClampNeg) (114 + (v1 + (1 : Int32)).toNatClampNeg) k0 S) (fun S7 => (some S7))))))
set_option maxHeartbeats 4000000 in
set_option maxRecDepth 100000 in
theorem c_Noon_serve_b50_ok {d : Nat} (h : Cx p s m c cX3_serve 4 RX3 s0 args0 D ca a A) (hr : meth.sig.returnType = none) (hlk : meth.locks = false) (hD : 2 ≤ d) (v1 : Int32) (v2 : Int32) (k0 : Int32) (S : St) : VV p l e (rmd d) s m args below meth c D ca tpC a A 4 (QmV D ca tpC a A below args s) S [(0, .ref (a 111)), (1, .int v1), (2, .int v2)] 50 [.int k0] (c_Noon_serve_b50 v1 v2 k0 S) := by
  unfold c_Noon_serve_b50
  refine V_istore_n (pc := 50) h [(3, .int k0), (0, .ref (a 111)), (1, .int v1), (2, .int v2)] dX3_serve_50 rfl (by decide) rfl ?_
  refine V_aload_n (pc := 51) h 1 dX3_serve_51 rfl rfl ?_
  refine V_get (pc := 52) h 111 1 (.ref (a 112)) fl_X3_11_X3 oC_111 rfl rfl dX3_serve_52 ?_
  refine V_iload_n (pc := 55) h 2 dX3_serve_55 rfl rfl ?_
  refine V_aald0 (pc := 56) h 112 oC_112 (by decide) dX3_serve_56 (fun h1 h2 => ?_)
  refine V_iload_n (pc := 57) h 0 dX3_serve_57 rfl rfl ?_
  refine V_aload_n (pc := 58) h 1 dX3_serve_58 rfl rfl ?_
  refine V_get (pc := 59) h 111 2 (.ref (a 113)) fl_X3_16_X3 oC_111 rfl rfl dX3_serve_59 ?_
  refine V_iload_n (pc := 62) h 3 dX3_serve_62 rfl rfl ?_
  refine V_aald0 (pc := 63) h 113 oC_113 (by decide) dX3_serve_63 (fun h3 h4 => ?_)
  refine V_aload_n (pc := 64) h 1 dX3_serve_64 rfl rfl ?_
  refine V_get (pc := 65) h 111 1 (.ref (a 112)) fl_X3_11_X3 oC_111 rfl rfl dX3_serve_65 ?_
  refine V_iload_n (pc := 68) h 2 dX3_serve_68 rfl rfl ?_
  refine V_iconst (pc := 69) (v := 1) h dX3_serve_69 (by decide) ?_
  refine V_iadd (pc := 70) h dX3_serve_70 ?_
  refine V_aald0 (pc := 71) h 112 oC_112 (by decide) dX3_serve_71 (fun h5 h6 => ?_)
  refine V_callSV (pc := 72) (dy := 1) h [.ref (a (114 + v1.toNatClampNeg)), .int k0, .ref (a (121 + v2.toNatClampNeg)), .ref (a (114 + (v1 + (1 : Int32)).toNatClampNeg))] [] ms_X3_74 dX3_serve_72 rfl rfl (Nat.le_of_ble_eq_true rfl) (Nat.le_trans (by decide) hD) (c_Noon_scoop (114 + v1.toNatClampNeg) (121 + v2.toNatClampNeg) (114 + (v1 + (1 : Int32)).toNatClampNeg) k0 S) (fun z9 hz9 => c_Noon_scoop_ct h.gg (Nat.le_refl 1) (rC_112 _ h2) (rC_113 _ h4) (rC_112 _ h6) k0 S z9 hz9) (fun S7 => ?_)
  exact V_vret (pc := 75) h hr hlk dX3_serve_75
def c_Noon_serve (v1 : Int32) (v2 : Int32) (S : St) : Option St := (if v1 < 0 then (some S) else (if (6 : Int32) ≤ v1 then (some S) else (if v2 < 0 then (some S) else (if v2 < (6 : Int32) then (ckM v2 6 (bnd (up2 S 127 v2.toNatClampNeg v1) (fun S1 => (bI (c_Noon_isLast v1 S1) (fun x3 S2 => (if x3 = 0 then (ckM v2 6 (c_Noon_serve_b50 v1 v2 (S2 30 v2.toNatClampNeg) S2)) else (c_Noon_serve_b50 v1 v2 (2147483647 : Int32) S2))))))) else (some S)))))
set_option maxHeartbeats 4000000 in
set_option maxRecDepth 100000 in
theorem c_Noon_serve_ok {d : Nat} (h : Cx p s m c cX3_serve 4 RX3 s0 args0 D ca a A) (hr : meth.sig.returnType = none) (hlk : meth.locks = false) (hD : 2 ≤ d) (v1 : Int32) (v2 : Int32) (S : St) : VV p l e (rmd d) s m args below meth c D ca tpC a A 4 (QmV D ca tpC a A below args s) S [(0, .ref (a 111)), (1, .int v1), (2, .int v2)] 0 [] (c_Noon_serve v1 v2 S) := by
  unfold c_Noon_serve
  refine V_iload_n (pc := 0) h 1 dX3_serve_0 rfl rfl ?_
  refine V_if_lt (pc := 1) h 20 dX3_serve_1 (by decide) ?_ ?_
  · exact V_vret (pc := 20) h hr hlk dX3_serve_20
  · refine V_iload_n (pc := 4) h 1 dX3_serve_4 rfl rfl ?_
    refine V_bipush (pc := 5) (v := 6) h dX3_serve_5 (by decide) ?_
    refine V_icmp_ge (pc := 7) h 20 dX3_serve_7 (by decide) ?_ ?_
    · exact V_vret (pc := 20) h hr hlk dX3_serve_20
    · refine V_iload_n (pc := 10) h 2 dX3_serve_10 rfl rfl ?_
      refine V_if_lt (pc := 11) h 20 dX3_serve_11 (by decide) ?_ ?_
      · exact V_vret (pc := 20) h hr hlk dX3_serve_20
      · refine V_iload_n (pc := 14) h 2 dX3_serve_14 rfl rfl ?_
        refine V_bipush (pc := 15) (v := 6) h dX3_serve_15 (by decide) ?_
        refine V_icmp_lt (pc := 17) h 21 dX3_serve_17 (by decide) ?_ ?_
        · refine V_aload_n (pc := 21) h 0 dX3_serve_21 rfl rfl ?_
          refine V_get (pc := 22) h 111 3 (.ref (a 127)) fl_X3_19_X3 oC_111 rfl rfl dX3_serve_22 ?_
          refine V_iload_n (pc := 25) h 2 dX3_serve_25 rfl rfl ?_
          refine V_iload_n (pc := 26) h 1 dX3_serve_26 rfl rfl ?_
          refine V_iast (pc := 27) h 127 oC_127 dX3_serve_27 (fun S1 => ?_)
          refine V_aload_n (pc := 28) h 0 dX3_serve_28 rfl rfl ?_
          refine V_iload_n (pc := 29) h 1 dX3_serve_29 rfl rfl ?_
          refine V_callVI (pc := 30) (dy := 1) (q := (RX3, TX3, 13)) h [.int v1] [] 111 mv_X3_82 oC_111 rfl dX3_serve_30 rfl rfl (Nat.le_of_ble_eq_true rfl) (Nat.le_trans (by decide) hD) (c_Noon_isLast v1 S1) (fun z9 hz9 => c_Noon_isLast_ct h.gg (Nat.le_refl 1) v1 S1 z9 hz9) (fun x3 S2 => ?_)
          refine V_if_eq (pc := 33) h 41 dX3_serve_33 (by decide) ?_ ?_
          · refine V_aload_n (pc := 41) h 0 dX3_serve_41 rfl rfl ?_
            refine V_get (pc := 42) h 111 0 (.ref (a 28)) fl_X3_29_X3 oC_111 rfl rfl dX3_serve_42 ?_
            refine V_get (pc := 45) h 28 5 (.ref (a 30)) fl_X3_112_X7 oC_28 rfl rfl dX3_serve_45 ?_
            refine V_iload_n (pc := 48) h 2 dX3_serve_48 rfl rfl ?_
            refine V_iald (pc := 49) h 30 oC_30 dX3_serve_49 ?_
            exact V_ls [0, 1, 2] rfl (c_Noon_serve_b50_ok h hr hlk hD v1 v2 (S2 30 v2.toNatClampNeg) S2)
          · refine V_ldc (pc := 36) (v := 2147483647) h dX3_serve_36 tw_3_222 ?_
            refine V_goto (pc := 38) h 50 dX3_serve_38 (by decide) ?_
            exact V_ls [0, 1, 2] rfl (c_Noon_serve_b50_ok h hr hlk hD v1 v2 (2147483647 : Int32) S2)
        · exact V_vret (pc := 20) h hr hlk dX3_serve_20
theorem c_Noon_serve_ct {d : Nat} (g : GG s0 args0 D ca a A) (hD : 2 ≤ d) (v1 : Int32) (v2 : Int32) (S : St) (z : St) (hz : c_Noon_serve v1 v2 S = some z) : CtV l yX3_serve cX3_serve 4 d s0 D ca tpC a A [.ref (a 111), .int v1, .int v2] S z := CtV_mk g (by decide +kernel) (Nat.le_of_ble_eq_true rfl) hz (fun p e s m args below meth c h hr hlk => c_Noon_serve_ok h hr hlk hD v1 v2 S)
def c_Noon_got_b25 (v1 : Int32) (v2 : Int32) (k0 : Int32) (S : St) : Option (Int32 × St) := (if k0 = 0 then (some ((0 : Int32), S)) else (ckM v1 6 (ckM v2 6 (some ((S (121 + v1.toNatClampNeg) v2.toNatClampNeg), S)))))
set_option maxHeartbeats 4000000 in
set_option maxRecDepth 100000 in
theorem c_Noon_got_b25_ok {d : Nat} (h : Cx p s m c cX3_got 4 RX3 s0 args0 D ca a A) (hr : meth.sig.returnType = some .int) (hlk : meth.locks = false) (hD : 1 ≤ d) (v1 : Int32) (v2 : Int32) (k0 : Int32) (S : St) : VV p l e (rmd d) s m args below meth c D ca tpC a A 4 (QmI D ca tpC a A below args s) S [(0, .ref (a 111)), (1, .int v1), (2, .int v2)] 25 [.int k0] (c_Noon_got_b25 v1 v2 k0 S) := by
  unfold c_Noon_got_b25
  refine V_istore_n (pc := 25) h [(3, .int k0), (0, .ref (a 111)), (1, .int v1), (2, .int v2)] dX3_got_25 rfl (by decide) rfl ?_
  refine V_iload_n (pc := 26) h 0 dX3_got_26 rfl rfl ?_
  refine V_if_eq (pc := 27) h 41 dX3_got_27 (by decide) ?_ ?_
  · refine V_iconst (pc := 41) (v := 0) h dX3_got_41 (by decide) ?_
    exact V_iret (pc := 42) h hr hlk dX3_got_42
  · refine V_aload_n (pc := 30) h 1 dX3_got_30 rfl rfl ?_
    refine V_get (pc := 31) h 111 2 (.ref (a 113)) fl_X3_16_X3 oC_111 rfl rfl dX3_got_31 ?_
    refine V_iload_n (pc := 34) h 2 dX3_got_34 rfl rfl ?_
    refine V_aald0 (pc := 35) h 113 oC_113 (by decide) dX3_got_35 (fun h1 h2 => ?_)
    refine V_iload_n (pc := 36) h 3 dX3_got_36 rfl rfl ?_
    refine V_iald (pc := 37) h (121 + v1.toNatClampNeg) (rC_113 _ h2) dX3_got_37 ?_
    refine V_goto (pc := 38) h 42 dX3_got_38 (by decide) ?_
    exact V_iret (pc := 42) h hr hlk dX3_got_42
def c_Noon_got_b24 (v1 : Int32) (v2 : Int32) (S : St) : Option (Int32 × St) := (c_Noon_got_b25 v1 v2 (0 : Int32) S)
set_option maxHeartbeats 4000000 in
set_option maxRecDepth 100000 in
theorem c_Noon_got_b24_ok {d : Nat} (h : Cx p s m c cX3_got 4 RX3 s0 args0 D ca a A) (hr : meth.sig.returnType = some .int) (hlk : meth.locks = false) (hD : 1 ≤ d) (v1 : Int32) (v2 : Int32) (S : St) : VV p l e (rmd d) s m args below meth c D ca tpC a A 4 (QmI D ca tpC a A below args s) S [(0, .ref (a 111)), (1, .int v1), (2, .int v2)] 24 [] (c_Noon_got_b24 v1 v2 S) := by
  unfold c_Noon_got_b24
  refine V_iconst (pc := 24) (v := 0) h dX3_got_24 (by decide) ?_
  exact V_ls [0, 1, 2] rfl (c_Noon_got_b25_ok h hr hlk hD v1 v2 (0 : Int32) S)
def c_Noon_got (v1 : Int32) (v2 : Int32) (S : St) : Option (Int32 × St) := (if v1 < 0 then (c_Noon_got_b24 v1 v2 S) else (if (6 : Int32) ≤ v1 then (c_Noon_got_b24 v1 v2 S) else (if v2 < 0 then (c_Noon_got_b24 v1 v2 S) else (if (6 : Int32) ≤ v2 then (c_Noon_got_b24 v1 v2 S) else (c_Noon_got_b25 v1 v2 (1 : Int32) S)))))
set_option maxHeartbeats 4000000 in
set_option maxRecDepth 100000 in
theorem c_Noon_got_ok {d : Nat} (h : Cx p s m c cX3_got 4 RX3 s0 args0 D ca a A) (hr : meth.sig.returnType = some .int) (hlk : meth.locks = false) (hD : 1 ≤ d) (v1 : Int32) (v2 : Int32) (S : St) : VV p l e (rmd d) s m args below meth c D ca tpC a A 4 (QmI D ca tpC a A below args s) S [(0, .ref (a 111)), (1, .int v1), (2, .int v2)] 0 [] (c_Noon_got v1 v2 S) := by
  unfold c_Noon_got
  refine V_iload_n (pc := 0) h 1 dX3_got_0 rfl rfl ?_
  refine V_if_lt (pc := 1) h 24 dX3_got_1 (by decide) ?_ ?_
  · exact V_ls [0, 1, 2] rfl (c_Noon_got_b24_ok h hr hlk hD v1 v2 S)
  · refine V_iload_n (pc := 4) h 1 dX3_got_4 rfl rfl ?_
    refine V_bipush (pc := 5) (v := 6) h dX3_got_5 (by decide) ?_
    refine V_icmp_ge (pc := 7) h 24 dX3_got_7 (by decide) ?_ ?_
    · exact V_ls [0, 1, 2] rfl (c_Noon_got_b24_ok h hr hlk hD v1 v2 S)
    · refine V_iload_n (pc := 10) h 2 dX3_got_10 rfl rfl ?_
      refine V_if_lt (pc := 11) h 24 dX3_got_11 (by decide) ?_ ?_
      · exact V_ls [0, 1, 2] rfl (c_Noon_got_b24_ok h hr hlk hD v1 v2 S)
      · refine V_iload_n (pc := 14) h 2 dX3_got_14 rfl rfl ?_
        refine V_bipush (pc := 15) (v := 6) h dX3_got_15 (by decide) ?_
        refine V_icmp_ge (pc := 17) h 24 dX3_got_17 (by decide) ?_ ?_
        · exact V_ls [0, 1, 2] rfl (c_Noon_got_b24_ok h hr hlk hD v1 v2 S)
        · refine V_iconst (pc := 20) (v := 1) h dX3_got_20 (by decide) ?_
          refine V_goto (pc := 21) h 25 dX3_got_21 (by decide) ?_
          exact V_ls [0, 1, 2] rfl (c_Noon_got_b25_ok h hr hlk hD v1 v2 (1 : Int32) S)
theorem c_Noon_got_ct {d : Nat} (g : GG s0 args0 D ca a A) (hD : 1 ≤ d) (v1 : Int32) (v2 : Int32) (S : St) (z : Int32 × St) (hz : c_Noon_got v1 v2 S = some z) : CtI l yX3_got cX3_got 4 .int d s0 D ca tpC a A [.ref (a 111), .int v1, .int v2] S z := CtI_mk g (by decide +kernel) (Nat.le_of_ble_eq_true rfl) hz (fun p e s m args below meth c h hr hlk => c_Noon_got_ok h hr hlk hD v1 v2 S)
def c_N_isStuff (v0 : Int32) (S : St) : Option (Int32 × St) := (if v0 < 0 then (nzM (0 : Int32) (some ((0 : Int32), S))) else (if (5 : Int32) ≤ v0 then (nzM (0 : Int32) (some ((0 : Int32), S))) else (nzM (1 : Int32) (some ((1 : Int32), S)))))
set_option maxHeartbeats 4000000 in
set_option maxRecDepth 100000 in
theorem c_N_isStuff_ok {d : Nat} (h : Cx p s m c cX10_isStuff 1 RX10 s0 args0 D ca a A) (hr : meth.sig.returnType = some .boolean) (hlk : meth.locks = false) (hD : 1 ≤ d) (v0 : Int32) (S : St) : VV p l e (rmd d) s m args below meth c D ca tpC a A 1 (QmI D ca tpC a A below args s) S [(0, .int v0)] 0 [] (c_N_isStuff v0 S) := by
  unfold c_N_isStuff
  refine V_iload_n (pc := 0) h 0 dX10_isStuff_0 rfl rfl ?_
  refine V_if_lt (pc := 1) h 13 dX10_isStuff_1 (by decide) ?_ ?_
  · refine V_iconst (pc := 13) (v := 0) h dX10_isStuff_13 (by decide) ?_
    exact V_zret (pc := 14) h hr hlk dX10_isStuff_14
  · refine V_iload_n (pc := 4) h 0 dX10_isStuff_4 rfl rfl ?_
    refine V_iconst (pc := 5) (v := 5) h dX10_isStuff_5 (by decide) ?_
    refine V_icmp_ge (pc := 6) h 13 dX10_isStuff_6 (by decide) ?_ ?_
    · refine V_iconst (pc := 13) (v := 0) h dX10_isStuff_13 (by decide) ?_
      exact V_zret (pc := 14) h hr hlk dX10_isStuff_14
    · refine V_iconst (pc := 9) (v := 1) h dX10_isStuff_9 (by decide) ?_
      refine V_goto (pc := 10) h 14 dX10_isStuff_10 (by decide) ?_
      exact V_zret (pc := 14) h hr hlk dX10_isStuff_14
theorem c_N_isStuff_ct {d : Nat} (g : GG s0 args0 D ca a A) (hD : 1 ≤ d) (v0 : Int32) (S : St) (z : Int32 × St) (hz : c_N_isStuff v0 S = some z) : CtI l yX10_isStuff cX10_isStuff 1 .boolean d s0 D ca tpC a A [.int v0] S z := CtI_mk g (by decide +kernel) (Nat.le_of_ble_eq_true rfl) hz (fun p e s m args below meth c h hr hlk => c_N_isStuff_ok h hr hlk hD v0 S)
def c_Noon_grainsOf_h4 : Nat → Int32 → Int32 → Int32 → St → Option (Int32 × St)
  | 0, _, _, _, _ => none
  | n + 1, v1, v2, v3, S => (if (5 : Int32) ≤ v3 then (some (v2, S)) else (bI (c_Noon_got v1 v3 S) (fun x2 S1 => (bnd (v2 + x2) (fun x3 => (bnd (v3 + (1 : Int32)) (fun x4 => ((c_Noon_grainsOf_h4 n) v1 x3 x4 S1))))))))
set_option maxHeartbeats 4000000 in
set_option maxRecDepth 100000 in
theorem c_Noon_grainsOf_h4_ok {d : Nat} (h : Cx p s m c cX3_grainsOf 4 RX3 s0 args0 D ca a A) (hr : meth.sig.returnType = some .int) (hlk : meth.locks = false) (hD : 2 ≤ d) : ∀ (n : Nat) (v1 : Int32) (v2 : Int32) (v3 : Int32) (S : St), VV p l e (rmd d) s m args below meth c D ca tpC a A 4 (QmI D ca tpC a A below args s) S [(0, .ref (a 111)), (1, .int v1), (2, .int v2), (3, .int v3)] 4 [] (c_Noon_grainsOf_h4 n v1 v2 v3 S) := by
  intro n
  induction n with
  | zero => intro v1 v2 v3 S; exact V_none
  | succ n ih =>
    intro v1 v2 v3 S
    unfold c_Noon_grainsOf_h4
    refine V_iload_n (pc := 4) h 3 dX3_grainsOf_4 rfl rfl ?_
    refine V_iconst (pc := 5) (v := 5) h dX3_grainsOf_5 (by decide) ?_
    refine V_icmp_ge (pc := 6) h 24 dX3_grainsOf_6 (by decide) ?_ ?_
    · refine V_iload_n (pc := 24) h 2 dX3_grainsOf_24 rfl rfl ?_
      exact V_iret (pc := 25) h hr hlk dX3_grainsOf_25
    · refine V_iload_n (pc := 9) h 2 dX3_grainsOf_9 rfl rfl ?_
      refine V_aload_n (pc := 10) h 0 dX3_grainsOf_10 rfl rfl ?_
      refine V_iload_n (pc := 11) h 1 dX3_grainsOf_11 rfl rfl ?_
      refine V_iload_n (pc := 12) h 3 dX3_grainsOf_12 rfl rfl ?_
      refine V_callVI (pc := 13) (dy := 1) (q := (RX3, TX3, 13)) h [.int v1, .int v3] [.int v2] 111 mv_X3_124 oC_111 rfl dX3_grainsOf_13 rfl rfl (Nat.le_of_ble_eq_true rfl) (Nat.le_trans (by decide) hD) (c_Noon_got v1 v3 S) (fun z9 hz9 => c_Noon_got_ct h.gg (Nat.le_refl 1) v1 v3 S z9 hz9) (fun x2 S1 => ?_)
      refine V_iadd (pc := 16) h dX3_grainsOf_16 ?_
      refine V_top (fun x3 => ?_)
      refine V_istore_n (pc := 17) h [(2, .int x3), (0, .ref (a 111)), (1, .int v1), (3, .int v3)] dX3_grainsOf_17 rfl (by decide) rfl ?_
      refine V_iincB (pc := 18) h 3 (1 : Int32) (fun x4 => [(3, .int x4), (2, .int x3), (0, .ref (a 111)), (1, .int v1)]) dX3_grainsOf_18 rfl (by decide) (by decide) (fun _ => rfl) (fun x4 => ?_)
      refine V_goto (pc := 21) h 4 dX3_grainsOf_21 (by decide) ?_
      exact V_ls [2, 3, 1, 0] rfl (ih v1 x3 x4 S1)
def c_Noon_grainsOf (v1 : Int32) (S : St) : Option (Int32 × St) := (c_Noon_grainsOf_h4 FU v1 (0 : Int32) (0 : Int32) S)
set_option maxHeartbeats 4000000 in
set_option maxRecDepth 100000 in
theorem c_Noon_grainsOf_ok {d : Nat} (h : Cx p s m c cX3_grainsOf 4 RX3 s0 args0 D ca a A) (hr : meth.sig.returnType = some .int) (hlk : meth.locks = false) (hD : 2 ≤ d) (v1 : Int32) (S : St) : VV p l e (rmd d) s m args below meth c D ca tpC a A 4 (QmI D ca tpC a A below args s) S [(0, .ref (a 111)), (1, .int v1)] 0 [] (c_Noon_grainsOf v1 S) := by
  unfold c_Noon_grainsOf
  refine V_iconst (pc := 0) (v := 0) h dX3_grainsOf_0 (by decide) ?_
  refine V_istore_n (pc := 1) h [(2, .int (0 : Int32)), (0, .ref (a 111)), (1, .int v1)] dX3_grainsOf_1 rfl (by decide) rfl ?_
  refine V_iconst (pc := 2) (v := 0) h dX3_grainsOf_2 (by decide) ?_
  refine V_istore_n (pc := 3) h [(3, .int (0 : Int32)), (2, .int (0 : Int32)), (0, .ref (a 111)), (1, .int v1)] dX3_grainsOf_3 rfl (by decide) rfl ?_
  exact V_ls [2, 3, 1, 0] rfl (c_Noon_grainsOf_h4_ok h hr hlk hD FU v1 (0 : Int32) (0 : Int32) S)
theorem c_Noon_grainsOf_ct {d : Nat} (g : GG s0 args0 D ca a A) (hD : 2 ≤ d) (v1 : Int32) (S : St) (z : Int32 × St) (hz : c_Noon_grainsOf v1 S = some z) : CtI l yX3_grainsOf cX3_grainsOf 4 .int d s0 D ca tpC a A [.ref (a 111), .int v1] S z := CtI_mk g (by decide +kernel) (Nat.le_of_ble_eq_true rfl) hz (fun p e s m args below meth c h hr hlk => c_Noon_grainsOf_ok h hr hlk hD v1 S)
def c_Noon_heatOf_b15 (v1 : Int32) (k0 : Int32) (S : St) : Option (Int32 × St) := (if k0 = 0 then (some ((0 : Int32), S)) else (ckM v1 6 (some ((imax (0 : Int32) ((100 : Int32) - ((S 28 3) * (S 127 v1.toNatClampNeg)))), S))))
set_option maxHeartbeats 4000000 in
set_option maxRecDepth 100000 in
theorem c_Noon_heatOf_b15_ok {d : Nat} (h : Cx p s m c cX3_heatOf 3 RX3 s0 args0 D ca a A) (hr : meth.sig.returnType = some .int) (hlk : meth.locks = false) (hD : 1 ≤ d) (v1 : Int32) (k0 : Int32) (S : St) : VV p l e (rmd d) s m args below meth c D ca tpC a A 3 (QmI D ca tpC a A below args s) S [(0, .ref (a 111)), (1, .int v1)] 15 [.int k0] (c_Noon_heatOf_b15 v1 k0 S) := by
  unfold c_Noon_heatOf_b15
  refine V_istore_n (pc := 15) h [(2, .int k0), (0, .ref (a 111)), (1, .int v1)] dX3_heatOf_15 rfl (by decide) rfl ?_
  refine V_iload_n (pc := 16) h 0 dX3_heatOf_16 rfl rfl ?_
  refine V_if_eq (pc := 17) h 44 dX3_heatOf_17 (by decide) ?_ ?_
  · refine V_iconst (pc := 44) (v := 0) h dX3_heatOf_44 (by decide) ?_
    exact V_iret (pc := 45) h hr hlk dX3_heatOf_45
  · refine V_iconst (pc := 20) (v := 0) h dX3_heatOf_20 (by decide) ?_
    refine V_bipush (pc := 21) (v := 100) h dX3_heatOf_21 (by decide) ?_
    refine V_aload_n (pc := 23) h 1 dX3_heatOf_23 rfl rfl ?_
    refine V_get (pc := 24) h 111 0 (.ref (a 28)) fl_X3_29_X3 oC_111 rfl rfl dX3_heatOf_24 ?_
    refine V_get (pc := 27) h 28 3 (.int (S 28 3)) fl_X3_115_X7 oC_28 rfl rfl dX3_heatOf_27 ?_
    refine V_aload_n (pc := 30) h 1 dX3_heatOf_30 rfl rfl ?_
    refine V_get (pc := 31) h 111 3 (.ref (a 127)) fl_X3_19_X3 oC_111 rfl rfl dX3_heatOf_31 ?_
    refine V_iload_n (pc := 34) h 2 dX3_heatOf_34 rfl rfl ?_
    refine V_iald (pc := 35) h 127 oC_127 dX3_heatOf_35 ?_
    refine V_imul (pc := 36) h dX3_heatOf_36 ?_
    refine V_isub (pc := 37) h dX3_heatOf_37 ?_
    refine V_mmax (pc := 38) h dX3_heatOf_38 tw_4_16 tw_2_224 tw_1_16 tw_2_225 (Nat.le_trans (by decide) hD) (Nat.le_of_ble_eq_true rfl) ?_
    refine V_goto (pc := 41) h 45 dX3_heatOf_41 (by decide) ?_
    exact V_iret (pc := 45) h hr hlk dX3_heatOf_45
def c_Noon_heatOf_b14 (v1 : Int32) (S : St) : Option (Int32 × St) := (c_Noon_heatOf_b15 v1 (0 : Int32) S)
set_option maxHeartbeats 4000000 in
set_option maxRecDepth 100000 in
theorem c_Noon_heatOf_b14_ok {d : Nat} (h : Cx p s m c cX3_heatOf 3 RX3 s0 args0 D ca a A) (hr : meth.sig.returnType = some .int) (hlk : meth.locks = false) (hD : 1 ≤ d) (v1 : Int32) (S : St) : VV p l e (rmd d) s m args below meth c D ca tpC a A 3 (QmI D ca tpC a A below args s) S [(0, .ref (a 111)), (1, .int v1)] 14 [] (c_Noon_heatOf_b14 v1 S) := by
  unfold c_Noon_heatOf_b14
  refine V_iconst (pc := 14) (v := 0) h dX3_heatOf_14 (by decide) ?_
  exact V_ls [0, 1] rfl (c_Noon_heatOf_b15_ok h hr hlk hD v1 (0 : Int32) S)
def c_Noon_heatOf (v1 : Int32) (S : St) : Option (Int32 × St) := (if v1 < 0 then (c_Noon_heatOf_b14 v1 S) else (if (6 : Int32) ≤ v1 then (c_Noon_heatOf_b14 v1 S) else (c_Noon_heatOf_b15 v1 (1 : Int32) S)))
set_option maxHeartbeats 4000000 in
set_option maxRecDepth 100000 in
theorem c_Noon_heatOf_ok {d : Nat} (h : Cx p s m c cX3_heatOf 3 RX3 s0 args0 D ca a A) (hr : meth.sig.returnType = some .int) (hlk : meth.locks = false) (hD : 1 ≤ d) (v1 : Int32) (S : St) : VV p l e (rmd d) s m args below meth c D ca tpC a A 3 (QmI D ca tpC a A below args s) S [(0, .ref (a 111)), (1, .int v1)] 0 [] (c_Noon_heatOf v1 S) := by
  unfold c_Noon_heatOf
  refine V_iload_n (pc := 0) h 1 dX3_heatOf_0 rfl rfl ?_
  refine V_if_lt (pc := 1) h 14 dX3_heatOf_1 (by decide) ?_ ?_
  · exact V_ls [0, 1] rfl (c_Noon_heatOf_b14_ok h hr hlk hD v1 S)
  · refine V_iload_n (pc := 4) h 1 dX3_heatOf_4 rfl rfl ?_
    refine V_bipush (pc := 5) (v := 6) h dX3_heatOf_5 (by decide) ?_
    refine V_icmp_ge (pc := 7) h 14 dX3_heatOf_7 (by decide) ?_ ?_
    · exact V_ls [0, 1] rfl (c_Noon_heatOf_b14_ok h hr hlk hD v1 S)
    · refine V_iconst (pc := 10) (v := 1) h dX3_heatOf_10 (by decide) ?_
      refine V_goto (pc := 11) h 15 dX3_heatOf_11 (by decide) ?_
      exact V_ls [0, 1] rfl (c_Noon_heatOf_b15_ok h hr hlk hD v1 (1 : Int32) S)
theorem c_Noon_heatOf_ct {d : Nat} (g : GG s0 args0 D ca a A) (hD : 1 ≤ d) (v1 : Int32) (S : St) (z : Int32 × St) (hz : c_Noon_heatOf v1 S = some z) : CtI l yX3_heatOf cX3_heatOf 3 .int d s0 D ca tpC a A [.ref (a 111), .int v1] S z := CtI_mk g (by decide +kernel) (Nat.le_of_ble_eq_true rfl) hz (fun p e s m args below meth c h hr hlk => c_Noon_heatOf_ok h hr hlk hD v1 S)
def c_Liking_bounded (v0 : Int64) (S : St) : Option (Int32 × St) := (some (((lmax (-1000000 : Int64) (lmin (1000000 : Int64) v0)).toInt32), S))
set_option maxHeartbeats 4000000 in
set_option maxRecDepth 100000 in
theorem c_Liking_bounded_ok {d : Nat} (h : Cx p s m c cX1_bounded 2 RX1 s0 args0 D ca a A) (hr : meth.sig.returnType = some .int) (hlk : meth.locks = false) (hD : 1 ≤ d) (v0 : Int64) (S : St) : VV p l e (rmd d) s m args below meth c D ca tpC a A 2 (QmI D ca tpC a A below args s) S [(0, .long v0)] 0 [] (c_Liking_bounded v0 S) := by
  unfold c_Liking_bounded
  refine V_ldc2 (pc := 0) (v := -1000000) h dX1_bounded_0 tw_4_31 ?_
  refine V_ldc2 (pc := 3) (v := 1000000) h dX1_bounded_3 tw_4_32 ?_
  refine V_lload_n (pc := 6) h 0 dX1_bounded_6 rfl rfl ?_
  refine V_mminL (pc := 7) h dX1_bounded_7 tw_4_33 tw_4_34 tw_1_16 tw_4_35 (Nat.le_trans (by decide) hD) (Nat.le_of_ble_eq_true rfl) ?_
  refine V_mmaxL (pc := 10) h dX1_bounded_10 tw_4_36 tw_4_37 tw_1_16 tw_4_38 (Nat.le_trans (by decide) hD) (Nat.le_of_ble_eq_true rfl) ?_
  refine V_l2i (pc := 13) h dX1_bounded_13 ?_
  exact V_iret (pc := 14) h hr hlk dX1_bounded_14
theorem c_Liking_bounded_ct {d : Nat} (g : GG s0 args0 D ca a A) (hD : 1 ≤ d) (v0 : Int64) (S : St) (z : Int32 × St) (hz : c_Liking_bounded v0 S = some z) : CtI l yX1_bounded cX1_bounded 2 .int d s0 D ca tpC a A [.long v0] S z := CtI_mk g (by decide +kernel) (Nat.le_of_ble_eq_true rfl) hz (fun p e s m args below meth c h hr hlk => c_Liking_bounded_ok h hr hlk hD v0 S)
def c_Liking_joined (v0 : Int32) (v1 : Int32) (v2 : Int32) (S : St) : Option (Int32 × St) := (if v0 = (38 : Int32) then (some ((v1 &&& v2), S)) else (if v0 = (42 : Int32) then (bI (c_Liking_bounded ((v1.toInt64) * (v2.toInt64)) S) (fun x6 S5 => (some (x6, S5)))) else (if v0 = (43 : Int32) then (bI (c_Liking_bounded ((v1.toInt64) + (v2.toInt64)) S) (fun x10 S9 => (some (x10, S9)))) else (if v0 = (45 : Int32) then (bI (c_Liking_bounded ((v1.toInt64) - (v2.toInt64)) S) (fun x14 S13 => (some (x14, S13)))) else (if v0 = (47 : Int32) then (if v2 = 0 then (some ((0 : Int32), S)) else (dvM v2 (some ((v1 / v2), S)))) else (if v0 = (60 : Int32) then (if v2 ≤ v1 then (some ((0 : Int32), S)) else (some ((1 : Int32), S))) else (if v0 = (61 : Int32) then (if v1 = v2 then (some ((1 : Int32), S)) else (some ((0 : Int32), S))) else (if v0 = (62 : Int32) then (if v1 ≤ v2 then (some ((0 : Int32), S)) else (some ((1 : Int32), S))) else (some ((v1 ||| v2), S))))))))))
set_option maxHeartbeats 4000000 in
set_option maxRecDepth 100000 in
theorem c_Liking_joined_ok {d : Nat} (h : Cx p s m c cX1_joined 3 RX1 s0 args0 D ca a A) (hr : meth.sig.returnType = some .int) (hlk : meth.locks = false) (hD : 2 ≤ d) (v0 : Int32) (v1 : Int32) (v2 : Int32) (S : St) : VV p l e (rmd d) s m args below meth c D ca tpC a A 3 (QmI D ca tpC a A below args s) S [(0, .int v0), (1, .int v1), (2, .int v2)] 0 [] (c_Liking_joined v0 v1 v2 S) := by
  unfold c_Liking_joined
  refine V_iload_n (pc := 0) h 0 dX1_joined_0 rfl rfl ?_
  refine V_split _ (fun c2 => ?_) (fun n1 => ?_)
  · refine V_tswIn (pc := 1) h (38 : Int32) 188 dX1_joined_1 c2 (by decide) (by decide) rfl (by decide) ?_
    refine V_iload_n (pc := 188) h 1 dX1_joined_188 rfl rfl ?_
    refine V_iload_n (pc := 189) h 2 dX1_joined_189 rfl rfl ?_
    refine V_iand (pc := 190) h dX1_joined_190 ?_
    exact V_iret (pc := 191) h hr hlk dX1_joined_191
  · refine V_split _ (fun c4 => ?_) (fun n3 => ?_)
    · refine V_tswIn (pc := 1) h (42 : Int32) 134 dX1_joined_1 c4 (by decide) (by decide) rfl (by decide) ?_
      refine V_iload_n (pc := 134) h 1 dX1_joined_134 rfl rfl ?_
      refine V_i2l (pc := 135) h dX1_joined_135 ?_
      refine V_iload_n (pc := 136) h 2 dX1_joined_136 rfl rfl ?_
      refine V_i2l (pc := 137) h dX1_joined_137 ?_
      refine V_lmul (pc := 138) h dX1_joined_138 ?_
      refine V_callSI (pc := 139) (dy := 1) h [.long ((v1.toInt64) * (v2.toInt64))] [] ms_X1_46 dX1_joined_139 rfl rfl (Nat.le_of_ble_eq_true rfl) (Nat.le_trans (by decide) hD) (c_Liking_bounded ((v1.toInt64) * (v2.toInt64)) S) (fun z9 hz9 => c_Liking_bounded_ct h.gg (Nat.le_refl 1) ((v1.toInt64) * (v2.toInt64)) S z9 hz9) (fun x6 S5 => ?_)
      exact V_iret (pc := 142) h hr hlk dX1_joined_142
    · refine V_split _ (fun c8 => ?_) (fun n7 => ?_)
      · refine V_tswIn (pc := 1) h (43 : Int32) 116 dX1_joined_1 c8 (by decide) (by decide) rfl (by decide) ?_
        refine V_iload_n (pc := 116) h 1 dX1_joined_116 rfl rfl ?_
        refine V_i2l (pc := 117) h dX1_joined_117 ?_
        refine V_iload_n (pc := 118) h 2 dX1_joined_118 rfl rfl ?_
        refine V_i2l (pc := 119) h dX1_joined_119 ?_
        refine V_ladd (pc := 120) h dX1_joined_120 ?_
        refine V_callSI (pc := 121) (dy := 1) h [.long ((v1.toInt64) + (v2.toInt64))] [] ms_X1_46 dX1_joined_121 rfl rfl (Nat.le_of_ble_eq_true rfl) (Nat.le_trans (by decide) hD) (c_Liking_bounded ((v1.toInt64) + (v2.toInt64)) S) (fun z9 hz9 => c_Liking_bounded_ct h.gg (Nat.le_refl 1) ((v1.toInt64) + (v2.toInt64)) S z9 hz9) (fun x10 S9 => ?_)
        exact V_iret (pc := 124) h hr hlk dX1_joined_124
      · refine V_split _ (fun c12 => ?_) (fun n11 => ?_)
        · refine V_tswIn (pc := 1) h (45 : Int32) 125 dX1_joined_1 c12 (by decide) (by decide) rfl (by decide) ?_
          refine V_iload_n (pc := 125) h 1 dX1_joined_125 rfl rfl ?_
          refine V_i2l (pc := 126) h dX1_joined_126 ?_
          refine V_iload_n (pc := 127) h 2 dX1_joined_127 rfl rfl ?_
          refine V_i2l (pc := 128) h dX1_joined_128 ?_
          refine V_lsub (pc := 129) h dX1_joined_129 ?_
          refine V_callSI (pc := 130) (dy := 1) h [.long ((v1.toInt64) - (v2.toInt64))] [] ms_X1_46 dX1_joined_130 rfl rfl (Nat.le_of_ble_eq_true rfl) (Nat.le_trans (by decide) hD) (c_Liking_bounded ((v1.toInt64) - (v2.toInt64)) S) (fun z9 hz9 => c_Liking_bounded_ct h.gg (Nat.le_refl 1) ((v1.toInt64) - (v2.toInt64)) S z9 hz9) (fun x14 S13 => ?_)
          exact V_iret (pc := 133) h hr hlk dX1_joined_133
        · refine V_split _ (fun c16 => ?_) (fun n15 => ?_)
          · refine V_tswIn (pc := 1) h (47 : Int32) 143 dX1_joined_1 c16 (by decide) (by decide) rfl (by decide) ?_
            refine V_iload_n (pc := 143) h 2 dX1_joined_143 rfl rfl ?_
            refine V_if_ne (pc := 144) h 151 dX1_joined_144 (by decide) ?_ ?_
            · refine V_iload_n (pc := 151) h 1 dX1_joined_151 rfl rfl ?_
              refine V_iload_n (pc := 152) h 2 dX1_joined_152 rfl rfl ?_
              refine V_idiv (pc := 153) h dX1_joined_153 ?_
              exact V_iret (pc := 154) h hr hlk dX1_joined_154
            · refine V_iconst (pc := 147) (v := 0) h dX1_joined_147 (by decide) ?_
              refine V_goto (pc := 148) h 154 dX1_joined_148 (by decide) ?_
              exact V_iret (pc := 154) h hr hlk dX1_joined_154
          · refine V_split _ (fun c18 => ?_) (fun n17 => ?_)
            · refine V_tswIn (pc := 1) h (60 : Int32) 166 dX1_joined_1 c18 (by decide) (by decide) rfl (by decide) ?_
              refine V_iload_n (pc := 166) h 1 dX1_joined_166 rfl rfl ?_
              refine V_iload_n (pc := 167) h 2 dX1_joined_167 rfl rfl ?_
              refine V_icmp_ge (pc := 168) h 175 dX1_joined_168 (by decide) ?_ ?_
              · refine V_iconst (pc := 175) (v := 0) h dX1_joined_175 (by decide) ?_
                exact V_iret (pc := 176) h hr hlk dX1_joined_176
              · refine V_iconst (pc := 171) (v := 1) h dX1_joined_171 (by decide) ?_
                refine V_goto (pc := 172) h 176 dX1_joined_172 (by decide) ?_
                exact V_iret (pc := 176) h hr hlk dX1_joined_176
            · refine V_split _ (fun c20 => ?_) (fun n19 => ?_)
              · refine V_tswIn (pc := 1) h (61 : Int32) 155 dX1_joined_1 c20 (by decide) (by decide) rfl (by decide) ?_
                refine V_iload_n (pc := 155) h 1 dX1_joined_155 rfl rfl ?_
                refine V_iload_n (pc := 156) h 2 dX1_joined_156 rfl rfl ?_
                refine V_icmp_ne (pc := 157) h 164 dX1_joined_157 (by decide) ?_ ?_
                · refine V_iconst (pc := 164) (v := 0) h dX1_joined_164 (by decide) ?_
                  exact V_iret (pc := 165) h hr hlk dX1_joined_165
                · refine V_iconst (pc := 160) (v := 1) h dX1_joined_160 (by decide) ?_
                  refine V_goto (pc := 161) h 165 dX1_joined_161 (by decide) ?_
                  exact V_iret (pc := 165) h hr hlk dX1_joined_165
              · refine V_split _ (fun c22 => ?_) (fun n21 => ?_)
                · refine V_tswIn (pc := 1) h (62 : Int32) 177 dX1_joined_1 c22 (by decide) (by decide) rfl (by decide) ?_
                  refine V_iload_n (pc := 177) h 1 dX1_joined_177 rfl rfl ?_
                  refine V_iload_n (pc := 178) h 2 dX1_joined_178 rfl rfl ?_
                  refine V_icmp_le (pc := 179) h 186 dX1_joined_179 (by decide) ?_ ?_
                  · refine V_iconst (pc := 186) (v := 0) h dX1_joined_186 (by decide) ?_
                    exact V_iret (pc := 187) h hr hlk dX1_joined_187
                  · refine V_iconst (pc := 182) (v := 1) h dX1_joined_182 (by decide) ?_
                    refine V_goto (pc := 183) h 187 dX1_joined_183 (by decide) ?_
                    exact V_iret (pc := 187) h hr hlk dX1_joined_187
                · refine V_tswDef (pc := 1) h [38, 42, 43, 45, 47, 60, 61, 62] 192 dX1_joined_1 (List.forall_mem_cons.mpr ⟨n1, List.forall_mem_cons.mpr ⟨n3, List.forall_mem_cons.mpr ⟨n7, List.forall_mem_cons.mpr ⟨n11, List.forall_mem_cons.mpr ⟨n15, List.forall_mem_cons.mpr ⟨n17, List.forall_mem_cons.mpr ⟨n19, List.forall_mem_cons.mpr ⟨n21, fun _ q => nomatch q⟩⟩⟩⟩⟩⟩⟩⟩) (by decide) (by decide) (by decide) ?_
                  refine V_iload_n (pc := 192) h 1 dX1_joined_192 rfl rfl ?_
                  refine V_iload_n (pc := 193) h 2 dX1_joined_193 rfl rfl ?_
                  refine V_ior (pc := 194) h dX1_joined_194 ?_
                  exact V_iret (pc := 195) h hr hlk dX1_joined_195
theorem c_Liking_joined_ct {d : Nat} (g : GG s0 args0 D ca a A) (hD : 2 ≤ d) (v0 : Int32) (v1 : Int32) (v2 : Int32) (S : St) (z : Int32 × St) (hz : c_Liking_joined v0 v1 v2 S = some z) : CtI l yX1_joined cX1_joined 3 .int d s0 D ca tpC a A [.int v0, .int v1, .int v2] S z := CtI_mk g (by decide +kernel) (Nat.le_of_ble_eq_true rfl) hz (fun p e s m args below meth c h hr hlk => c_Liking_joined_ok h hr hlk hD v0 v1 v2 S)
def c_Liking_letterOf_129 (v1 : Int32) (S : St) : Option (Int32 × St) := (if v1 < 0 then (some ((0 : Int32), S)) else (if (6 : Int32) ≤ v1 then (some ((0 : Int32), S)) else (ckM v1 6 (some ((S 129 v1.toNatClampNeg), S)))))
set_option maxHeartbeats 4000000 in
set_option maxRecDepth 100000 in
theorem c_Liking_letterOf_129_ok {d : Nat} (h : Cx p s m c cX1_letterOf 2 RX1 s0 args0 D ca a A) (hr : meth.sig.returnType = some .int) (hlk : meth.locks = false) (hD : 1 ≤ d) (v1 : Int32) (S : St) : VV p l e (rmd d) s m args below meth c D ca tpC a A 2 (QmI D ca tpC a A below args s) S [(0, .ref (a 129)), (1, .int v1)] 0 [] (c_Liking_letterOf_129 v1 S) := by
  unfold c_Liking_letterOf_129
  refine V_iload_n (pc := 0) h 1 dX1_letterOf_0 rfl rfl ?_
  refine V_if_lt (pc := 1) h 16 dX1_letterOf_1 (by decide) ?_ ?_
  · refine V_iconst (pc := 16) (v := 0) h dX1_letterOf_16 (by decide) ?_
    exact V_iret (pc := 17) h hr hlk dX1_letterOf_17
  · refine V_iload_n (pc := 4) h 1 dX1_letterOf_4 rfl rfl ?_
    refine V_aload_n (pc := 5) h 0 dX1_letterOf_5 rfl rfl ?_
    refine V_alen (pc := 6) h 129 (6 : Int32) oC_129 (by decide) (by decide) dX1_letterOf_6 ?_
    refine V_icmp_ge (pc := 7) h 16 dX1_letterOf_7 (by decide) ?_ ?_
    · refine V_iconst (pc := 16) (v := 0) h dX1_letterOf_16 (by decide) ?_
      exact V_iret (pc := 17) h hr hlk dX1_letterOf_17
    · refine V_aload_n (pc := 10) h 0 dX1_letterOf_10 rfl rfl ?_
      refine V_iload_n (pc := 11) h 1 dX1_letterOf_11 rfl rfl ?_
      refine V_iald (pc := 12) h 129 oC_129 dX1_letterOf_12 ?_
      refine V_goto (pc := 13) h 17 dX1_letterOf_13 (by decide) ?_
      exact V_iret (pc := 17) h hr hlk dX1_letterOf_17
theorem c_Liking_letterOf_129_ct {d : Nat} (g : GG s0 args0 D ca a A) (hD : 1 ≤ d) (v1 : Int32) (S : St) (z : Int32 × St) (hz : c_Liking_letterOf_129 v1 S = some z) : CtI l yX1_letterOf cX1_letterOf 2 .int d s0 D ca tpC a A [.ref (a 129), .int v1] S z := CtI_mk g (by decide +kernel) (Nat.le_of_ble_eq_true rfl) hz (fun p e s m args below meth c h hr hlk => c_Liking_letterOf_129_ok h hr hlk hD v1 S)
def c_Liking_worth_129_b201 (o0 : Nat) (L4 : Int32 → Int32 → St → Option (Int32 × St)) (v2 : Int32) (v3 : Int32) (S : St) : Option (Int32 × St) := (bnd (v3 + (1 : Int32)) (fun x1 => (L4 v2 x1 S)))
set_option maxHeartbeats 4000000 in
set_option maxRecDepth 100000 in
theorem c_Liking_worth_129_b201_ok {d : Nat} (h : Cx p s m c cX1_worth 7 RX1 s0 args0 D ca a A) (hr : meth.sig.returnType = some .int) (hlk : meth.locks = false) (hD : 3 ≤ d) (o0 : Nat) (ho0 : isLk o0) (L4 : Int32 → Int32 → St → Option (Int32 × St)) (hL4 : ∀ (v2 : Int32) (v3 : Int32) (S : St), VV p l e (rmd d) s m args below meth c D ca tpC a A 7 (QmI D ca tpC a A below args s) S [(0, .ref (a o0)), (1, .ref (a 129)), (2, .int v2), (3, .int v3)] 4 [] (L4 v2 v3 S)) (v2 : Int32) (v3 : Int32) (S : St) : VV p l e (rmd d) s m args below meth c D ca tpC a A 7 (QmI D ca tpC a A below args s) S [(0, .ref (a o0)), (1, .ref (a 129)), (2, .int v2), (3, .int v3)] 201 [] (c_Liking_worth_129_b201 o0 L4 v2 v3 S) := by
  unfold c_Liking_worth_129_b201
  refine V_iincB (pc := 201) h 3 (1 : Int32) (fun x1 => [(3, .int x1), (0, .ref (a o0)), (1, .ref (a 129)), (2, .int v2)]) dX1_worth_201 rfl (by decide) (by decide) (fun _ => rfl) (fun x1 => ?_)
  refine V_goto (pc := 204) h 4 dX1_worth_204 (by decide) ?_
  exact V_ls [1, 2, 3, 0] rfl (hL4 v2 x1 S)
def c_Liking_worth_129_b83 (o0 : Nat) (L4 : Int32 → Int32 → St → Option (Int32 × St)) (v2 : Int32) (v3 : Int32) (k0 : Int32) (k1 : Int32) (S : St) : Option (Int32 × St) := (ckM k1 160 (bnd (up2 S (o0 + 8) k1.toNatClampNeg k0) (fun S1 => (bnd (v2 + (1 : Int32)) (fun x2 => (c_Liking_worth_129_b201 o0 L4 x2 v3 S1))))))
set_option maxHeartbeats 4000000 in
set_option maxRecDepth 100000 in
theorem c_Liking_worth_129_b83_ok {d : Nat} (h : Cx p s m c cX1_worth 7 RX1 s0 args0 D ca a A) (hr : meth.sig.returnType = some .int) (hlk : meth.locks = false) (hD : 3 ≤ d) (o0 : Nat) (ho0 : isLk o0) (L4 : Int32 → Int32 → St → Option (Int32 × St)) (hL4 : ∀ (v2 : Int32) (v3 : Int32) (S : St), VV p l e (rmd d) s m args below meth c D ca tpC a A 7 (QmI D ca tpC a A below args s) S [(0, .ref (a o0)), (1, .ref (a 129)), (2, .int v2), (3, .int v3)] 4 [] (L4 v2 v3 S)) (v2 : Int32) (v3 : Int32) (k0 : Int32) (k1 : Int32) (S : St) : VV p l e (rmd d) s m args below meth c D ca tpC a A 7 (QmI D ca tpC a A below args s) S [(0, .ref (a o0)), (1, .ref (a 129)), (2, .int v2), (3, .int v3)] 83 [.int k0, .int k1, .ref (a (o0 + 8))] (c_Liking_worth_129_b83 o0 L4 v2 v3 k0 k1 S) := by
  unfold c_Liking_worth_129_b83
  refine V_iast (pc := 83) h (o0 + 8) ho0.2.2 dX1_worth_83 (fun S1 => ?_)
  refine V_iincB (pc := 84) h 2 (1 : Int32) (fun x2 => [(2, .int x2), (0, .ref (a o0)), (1, .ref (a 129)), (3, .int v3)]) dX1_worth_84 rfl (by decide) (by decide) (fun _ => rfl) (fun x2 => ?_)
  refine V_goto (pc := 87) h 201 dX1_worth_87 (by decide) ?_
  exact V_ls [1, 2, 0, 3] rfl (c_Liking_worth_129_b201_ok h hr hlk hD o0 ho0 L4 hL4 x2 v3 S1)
def c_Liking_worth_129_b49 (o0 : Nat) (L4 : Int32 → Int32 → St → Option (Int32 × St)) (v2 : Int32) (v3 : Int32) (v4 : Int32) (v5 : Int32) (S : St) : Option (Int32 × St) := (if v2 < (160 : Int32) then (if v4 = (48 : Int32) then (c_Liking_worth_129_b83 o0 L4 v2 v3 v5 v2 S) else (bI (c_Liking_letterOf_129 v5 S) (fun x2 S1 => (c_Liking_worth_129_b83 o0 L4 v2 v3 x2 v2 S1)))) else (some ((0 : Int32), S)))
set_option maxHeartbeats 4000000 in
set_option maxRecDepth 100000 in
theorem c_Liking_worth_129_b49_ok {d : Nat} (h : Cx p s m c cX1_worth 7 RX1 s0 args0 D ca a A) (hr : meth.sig.returnType = some .int) (hlk : meth.locks = false) (hD : 3 ≤ d) (o0 : Nat) (ho0 : isLk o0) (L4 : Int32 → Int32 → St → Option (Int32 × St)) (hL4 : ∀ (v2 : Int32) (v3 : Int32) (S : St), VV p l e (rmd d) s m args below meth c D ca tpC a A 7 (QmI D ca tpC a A below args s) S [(0, .ref (a o0)), (1, .ref (a 129)), (2, .int v2), (3, .int v3)] 4 [] (L4 v2 v3 S)) (v2 : Int32) (v3 : Int32) (v4 : Int32) (v5 : Int32) (S : St) : VV p l e (rmd d) s m args below meth c D ca tpC a A 7 (QmI D ca tpC a A below args s) S [(0, .ref (a o0)), (1, .ref (a 129)), (2, .int v2), (3, .int v3), (4, .int v4), (5, .int v5)] 49 [] (c_Liking_worth_129_b49 o0 L4 v2 v3 v4 v5 S) := by
  unfold c_Liking_worth_129_b49
  refine V_iload_n (pc := 49) h 2 dX1_worth_49 rfl rfl ?_
  refine V_aload_n (pc := 50) h 0 dX1_worth_50 rfl rfl ?_
  refine V_get (pc := 51) h o0 1 (.ref (a (o0 + 8))) fl_X1_15_X1 ho0.1 rfl rfl dX1_worth_51 ?_
  refine V_alen (pc := 54) h (o0 + 8) (160 : Int32) ho0.2.2 (by decide) (by decide) dX1_worth_54 ?_
  refine V_icmp_lt (pc := 55) h 60 dX1_worth_55 (by decide) ?_ ?_
  · refine V_aload_n (pc := 60) h 0 dX1_worth_60 rfl rfl ?_
    refine V_get (pc := 61) h o0 1 (.ref (a (o0 + 8))) fl_X1_15_X1 ho0.1 rfl rfl dX1_worth_61 ?_
    refine V_iload_n (pc := 64) h 2 dX1_worth_64 rfl rfl ?_
    refine V_iload (pc := 65) h 4 dX1_worth_65 rfl ?_
    refine V_bipush (pc := 67) (v := 48) h dX1_worth_67 (by decide) ?_
    refine V_icmp_ne (pc := 69) h 77 dX1_worth_69 (by decide) ?_ ?_
    · refine V_aload_n (pc := 77) h 1 dX1_worth_77 rfl rfl ?_
      refine V_iload (pc := 78) h 5 dX1_worth_78 rfl ?_
      refine V_callSI (pc := 80) (dy := 1) h [.ref (a 129), .int v5] [.int v2, .ref (a (o0 + 8))] ms_X1_32 dX1_worth_80 rfl rfl (Nat.le_of_ble_eq_true rfl) (Nat.le_trans (by decide) hD) (c_Liking_letterOf_129 v5 S) (fun z9 hz9 => c_Liking_letterOf_129_ct h.gg (Nat.le_refl 1) v5 S z9 hz9) (fun x2 S1 => ?_)
      exact V_ls [0, 1, 2, 3] rfl (c_Liking_worth_129_b83_ok h hr hlk hD o0 ho0 L4 hL4 v2 v3 x2 v2 S1)
    · refine V_iload (pc := 72) h 5 dX1_worth_72 rfl ?_
      refine V_goto (pc := 74) h 83 dX1_worth_74 (by decide) ?_
      exact V_ls [0, 1, 2, 3] rfl (c_Liking_worth_129_b83_ok h hr hlk hD o0 ho0 L4 hL4 v2 v3 v5 v2 S)
  · refine V_iconst (pc := 58) (v := 0) h dX1_worth_58 (by decide) ?_
    exact V_iret (pc := 59) h hr hlk dX1_worth_59
def c_Liking_worth_129_b144 (o0 : Nat) (L4 : Int32 → Int32 → St → Option (Int32 × St)) (v2 : Int32) (k0 : Int32) (S : St) : Option (Int32 × St) := (c_Liking_worth_129_b201 o0 L4 v2 k0 S)
set_option maxHeartbeats 4000000 in
set_option maxRecDepth 100000 in
theorem c_Liking_worth_129_b144_ok {d : Nat} (h : Cx p s m c cX1_worth 7 RX1 s0 args0 D ca a A) (hr : meth.sig.returnType = some .int) (hlk : meth.locks = false) (hD : 3 ≤ d) (o0 : Nat) (ho0 : isLk o0) (L4 : Int32 → Int32 → St → Option (Int32 × St)) (hL4 : ∀ (v2 : Int32) (v3 : Int32) (S : St), VV p l e (rmd d) s m args below meth c D ca tpC a A 7 (QmI D ca tpC a A below args s) S [(0, .ref (a o0)), (1, .ref (a 129)), (2, .int v2), (3, .int v3)] 4 [] (L4 v2 v3 S)) (v2 : Int32) (k0 : Int32) (S : St) : VV p l e (rmd d) s m args below meth c D ca tpC a A 7 (QmI D ca tpC a A below args s) S [(0, .ref (a o0)), (1, .ref (a 129)), (2, .int v2)] 144 [.int k0] (c_Liking_worth_129_b144 o0 L4 v2 k0 S) := by
  unfold c_Liking_worth_129_b144
  refine V_istore_n (pc := 144) h [(3, .int k0), (0, .ref (a o0)), (1, .ref (a 129)), (2, .int v2)] dX1_worth_144 rfl (by decide) rfl ?_
  refine V_goto (pc := 145) h 201 dX1_worth_145 (by decide) ?_
  exact V_ls [1, 2, 3, 0] rfl (c_Liking_worth_129_b201_ok h hr hlk hD o0 ho0 L4 hL4 v2 k0 S)
def c_Liking_worth_129_h4 (o0 : Nat) : Nat → Int32 → Int32 → St → Option (Int32 × St)
  | 0, _, _, _ => none
  | n + 1, v2, v3, S => (if (S o0 2) ≤ v3 then (some ((0 : Int32), S)) else (ckM v3 160 (bnd ((S (o0 + 4) v3.toNatClampNeg) &&& (255 : Int32)) (fun x1 => (ckM v3 160 (bnd ((S (o0 + 4) v3.toNatClampNeg) >>> ((8 : Int32) &&& 31)) (fun x2 => (if x1 = (48 : Int32) then (c_Liking_worth_129_b49 o0 (c_Liking_worth_129_h4 o0 n) v2 v3 x1 x2 S) else (if x1 = (121 : Int32) then (c_Liking_worth_129_b49 o0 (c_Liking_worth_129_h4 o0 n) v2 v3 x1 x2 S) else (if (1 : Int32) ≤ v2 then (ckM (v2 - (1 : Int32)) 160 (bnd (S (o0 + 8) (v2 - (1 : Int32)).toNatClampNeg) (fun x3 => (if x1 = (59 : Int32) then (some (x3, S)) else (if x1 = (63 : Int32) then (bnd (v2 + (-1 : Int32)) (fun x9 => (if x3 = 0 then (c_Liking_worth_129_b144 o0 (c_Liking_worth_129_h4 o0 n) x9 (imax v3 (x2 - (1 : Int32))) S) else (c_Liking_worth_129_b144 o0 (c_Liking_worth_129_h4 o0 n) x9 v3 S)))) else (if x1 = (33 : Int32) then (ckM (v2 - (1 : Int32)) 160 (bnd (up2 S (o0 + 8) (v2 - (1 : Int32)).toNatClampNeg ((1 : Int32) - x3)) (fun S8 => (c_Liking_worth_129_b201 o0 (c_Liking_worth_129_h4 o0 n) v2 v3 S8)))) else (if v2 < (2 : Int32) then (c_Liking_worth_129_b201 o0 (c_Liking_worth_129_h4 o0 n) v2 v3 S) else (bnd (v2 + (-1 : Int32)) (fun x4 => (ckM (x4 - (1 : Int32)) 160 (bI (c_Liking_joined x1 (S (o0 + 8) (x4 - (1 : Int32)).toNatClampNeg) x3 S) (fun x6 S5 => (ckM (x4 - (1 : Int32)) 160 (bnd (up2 S5 (o0 + 8) (x4 - (1 : Int32)).toNatClampNeg x6) (fun S7 => (c_Liking_worth_129_b201 o0 (c_Liking_worth_129_h4 o0 n) x4 v3 S7)))))))))))))))) else (some ((0 : Int32), S))))))))))))
set_option maxHeartbeats 4000000 in
set_option maxRecDepth 100000 in
theorem c_Liking_worth_129_h4_ok {d : Nat} (h : Cx p s m c cX1_worth 7 RX1 s0 args0 D ca a A) (hr : meth.sig.returnType = some .int) (hlk : meth.locks = false) (hD : 3 ≤ d) (o0 : Nat) (ho0 : isLk o0) : ∀ (n : Nat) (v2 : Int32) (v3 : Int32) (S : St), VV p l e (rmd d) s m args below meth c D ca tpC a A 7 (QmI D ca tpC a A below args s) S [(0, .ref (a o0)), (1, .ref (a 129)), (2, .int v2), (3, .int v3)] 4 [] (c_Liking_worth_129_h4 o0 n v2 v3 S) := by
  intro n
  induction n with
  | zero => intro v2 v3 S; exact V_none
  | succ n ih =>
    intro v2 v3 S
    unfold c_Liking_worth_129_h4
    refine V_iload_n (pc := 4) h 3 dX1_worth_4 rfl rfl ?_
    refine V_aload_n (pc := 5) h 0 dX1_worth_5 rfl rfl ?_
    refine V_get (pc := 6) h o0 2 (.int (S o0 2)) fl_X1_24_X1 ho0.1 rfl rfl dX1_worth_6 ?_
    refine V_icmp_ge (pc := 9) h 207 dX1_worth_9 (by decide) ?_ ?_
    · refine V_iconst (pc := 207) (v := 0) h dX1_worth_207 (by decide) ?_
      exact V_iret (pc := 208) h hr hlk dX1_worth_208
    · refine V_aload_n (pc := 12) h 0 dX1_worth_12 rfl rfl ?_
      refine V_get (pc := 13) h o0 0 (.ref (a (o0 + 4))) fl_X1_9_X1 ho0.1 rfl rfl dX1_worth_13 ?_
      refine V_iload_n (pc := 16) h 3 dX1_worth_16 rfl rfl ?_
      refine V_iald (pc := 17) h (o0 + 4) ho0.2.1 dX1_worth_17 ?_
      refine V_sipush (pc := 18) (v := 255) h dX1_worth_18 (by decide) ?_
      refine V_iand (pc := 21) h dX1_worth_21 ?_
      refine V_top (fun x1 => ?_)
      refine V_istore (pc := 22) h [(4, .int x1), (0, .ref (a o0)), (1, .ref (a 129)), (2, .int v2), (3, .int v3)] dX1_worth_22 (by decide) rfl ?_
      refine V_aload_n (pc := 24) h 1 dX1_worth_24 rfl rfl ?_
      refine V_get (pc := 25) h o0 0 (.ref (a (o0 + 4))) fl_X1_9_X1 ho0.1 rfl rfl dX1_worth_25 ?_
      refine V_iload_n (pc := 28) h 4 dX1_worth_28 rfl rfl ?_
      refine V_iald (pc := 29) h (o0 + 4) ho0.2.1 dX1_worth_29 ?_
      refine V_bipush (pc := 30) (v := 8) h dX1_worth_30 (by decide) ?_
      refine V_ishr (pc := 32) h dX1_worth_32 ?_
      refine V_top (fun x2 => ?_)
      refine V_istore (pc := 33) h [(5, .int x2), (4, .int x1), (0, .ref (a o0)), (1, .ref (a 129)), (2, .int v2), (3, .int v3)] dX1_worth_33 (by decide) rfl ?_
      refine V_iload (pc := 35) h 1 dX1_worth_35 rfl ?_
      refine V_bipush (pc := 37) (v := 48) h dX1_worth_37 (by decide) ?_
      refine V_icmp_eq (pc := 39) h 49 dX1_worth_39 (by decide) ?_ ?_
      · exact V_ls [2, 3, 4, 5, 1, 0] rfl (c_Liking_worth_129_b49_ok h hr hlk hD o0 ho0 (c_Liking_worth_129_h4 o0 n) ih v2 v3 x1 x2 S)
      · refine V_iload (pc := 42) h 1 dX1_worth_42 rfl ?_
        refine V_bipush (pc := 44) (v := 121) h dX1_worth_44 (by decide) ?_
        refine V_icmp_ne (pc := 46) h 90 dX1_worth_46 (by decide) ?_ ?_
        · refine V_iload_n (pc := 90) h 4 dX1_worth_90 rfl rfl ?_
          refine V_iconst (pc := 91) (v := 1) h dX1_worth_91 (by decide) ?_
          refine V_icmp_ge (pc := 92) h 97 dX1_worth_92 (by decide) ?_ ?_
          · refine V_aload_n (pc := 97) h 2 dX1_worth_97 rfl rfl ?_
            refine V_get (pc := 98) h o0 1 (.ref (a (o0 + 8))) fl_X1_15_X1 ho0.1 rfl rfl dX1_worth_98 ?_
            refine V_iload_n (pc := 101) h 4 dX1_worth_101 rfl rfl ?_
            refine V_iconst (pc := 102) (v := 1) h dX1_worth_102 (by decide) ?_
            refine V_isub (pc := 103) h dX1_worth_103 ?_
            refine V_iald (pc := 104) h (o0 + 8) ho0.2.2 dX1_worth_104 ?_
            refine V_top (fun x3 => ?_)
            refine V_istore (pc := 105) h [(6, .int x3), (5, .int x2), (4, .int x1), (0, .ref (a o0)), (1, .ref (a 129)), (2, .int v2), (3, .int v3)] dX1_worth_105 (by decide) rfl ?_
            refine V_iload (pc := 107) h 2 dX1_worth_107 rfl ?_
            refine V_bipush (pc := 109) (v := 59) h dX1_worth_109 (by decide) ?_
            refine V_icmp_ne (pc := 111) h 117 dX1_worth_111 (by decide) ?_ ?_
            · refine V_iload (pc := 117) h 2 dX1_worth_117 rfl ?_
              refine V_bipush (pc := 119) (v := 63) h dX1_worth_119 (by decide) ?_
              refine V_icmp_ne (pc := 121) h 148 dX1_worth_121 (by decide) ?_ ?_
              · refine V_iload (pc := 148) h 2 dX1_worth_148 rfl ?_
                refine V_bipush (pc := 150) (v := 33) h dX1_worth_150 (by decide) ?_
                refine V_icmp_ne (pc := 152) h 170 dX1_worth_152 (by decide) ?_ ?_
                · refine V_iload_n (pc := 170) h 5 dX1_worth_170 rfl rfl ?_
                  refine V_iconst (pc := 171) (v := 2) h dX1_worth_171 (by decide) ?_
                  refine V_icmp_lt (pc := 172) h 201 dX1_worth_172 (by decide) ?_ ?_
                  · exact V_ls [3, 4, 5, 6] rfl (c_Liking_worth_129_b201_ok h hr hlk hD o0 ho0 (c_Liking_worth_129_h4 o0 n) ih v2 v3 S)
                  · refine V_iincB (pc := 175) h 5 (-1 : Int32) (fun x4 => [(2, .int x4), (6, .int x3), (5, .int x2), (4, .int x1), (0, .ref (a o0)), (1, .ref (a 129)), (3, .int v3)]) dX1_worth_175 rfl (by decide) (by decide) (fun _ => rfl) (fun x4 => ?_)
                    refine V_aload_n (pc := 178) h 4 dX1_worth_178 rfl rfl ?_
                    refine V_get (pc := 179) h o0 1 (.ref (a (o0 + 8))) fl_X1_15_X1 ho0.1 rfl rfl dX1_worth_179 ?_
                    refine V_iload_n (pc := 182) h 0 dX1_worth_182 rfl rfl ?_
                    refine V_iconst (pc := 183) (v := 1) h dX1_worth_183 (by decide) ?_
                    refine V_isub (pc := 184) h dX1_worth_184 ?_
                    refine V_iload (pc := 185) h 3 dX1_worth_185 rfl ?_
                    refine V_aload_n (pc := 187) h 4 dX1_worth_187 rfl rfl ?_
                    refine V_get (pc := 188) h o0 1 (.ref (a (o0 + 8))) fl_X1_15_X1 ho0.1 rfl rfl dX1_worth_188 ?_
                    refine V_iload_n (pc := 191) h 0 dX1_worth_191 rfl rfl ?_
                    refine V_iconst (pc := 192) (v := 1) h dX1_worth_192 (by decide) ?_
                    refine V_isub (pc := 193) h dX1_worth_193 ?_
                    refine V_iald (pc := 194) h (o0 + 8) ho0.2.2 dX1_worth_194 ?_
                    refine V_iload (pc := 195) h 1 dX1_worth_195 rfl ?_
                    refine V_callSI (pc := 197) (dy := 2) h [.int x1, .int (S (o0 + 8) (x4 - (1 : Int32)).toNatClampNeg), .int x3] [.int (x4 - (1 : Int32)), .ref (a (o0 + 8))] ms_X1_42 dX1_worth_197 rfl rfl (Nat.le_of_ble_eq_true rfl) (Nat.le_trans (by decide) hD) (c_Liking_joined x1 (S (o0 + 8) (x4 - (1 : Int32)).toNatClampNeg) x3 S) (fun z9 hz9 => c_Liking_joined_ct h.gg (Nat.le_refl 2) x1 (S (o0 + 8) (x4 - (1 : Int32)).toNatClampNeg) x3 S z9 hz9) (fun x6 S5 => ?_)
                    refine V_iast (pc := 200) h (o0 + 8) ho0.2.2 dX1_worth_200 (fun S7 => ?_)
                    exact V_ls [4, 5, 0, 6] rfl (c_Liking_worth_129_b201_ok h hr hlk hD o0 ho0 (c_Liking_worth_129_h4 o0 n) ih x4 v3 S7)
                · refine V_aload_n (pc := 155) h 3 dX1_worth_155 rfl rfl ?_
                  refine V_get (pc := 156) h o0 1 (.ref (a (o0 + 8))) fl_X1_15_X1 ho0.1 rfl rfl dX1_worth_156 ?_
                  refine V_iload_n (pc := 159) h 5 dX1_worth_159 rfl rfl ?_
                  refine V_iconst (pc := 160) (v := 1) h dX1_worth_160 (by decide) ?_
                  refine V_isub (pc := 161) h dX1_worth_161 ?_
                  refine V_iconst (pc := 162) (v := 1) h dX1_worth_162 (by decide) ?_
                  refine V_iload (pc := 163) h 0 dX1_worth_163 rfl ?_
                  refine V_isub (pc := 165) h dX1_worth_165 ?_
                  refine V_iast (pc := 166) h (o0 + 8) ho0.2.2 dX1_worth_166 (fun S8 => ?_)
                  refine V_goto (pc := 167) h 201 dX1_worth_167 (by decide) ?_
                  exact V_ls [3, 4, 5, 6] rfl (c_Liking_worth_129_b201_ok h hr hlk hD o0 ho0 (c_Liking_worth_129_h4 o0 n) ih v2 v3 S8)
              · refine V_iincB (pc := 124) h 5 (-1 : Int32) (fun x9 => [(2, .int x9), (6, .int x3), (5, .int x2), (4, .int x1), (0, .ref (a o0)), (1, .ref (a 129)), (3, .int v3)]) dX1_worth_124 rfl (by decide) (by decide) (fun _ => rfl) (fun x9 => ?_)
                refine V_iload (pc := 127) h 1 dX1_worth_127 rfl ?_
                refine V_if_ne (pc := 129) h 143 dX1_worth_129 (by decide) ?_ ?_
                · refine V_iload_n (pc := 143) h 6 dX1_worth_143 rfl rfl ?_
                  exact V_ls [4, 5, 0] rfl (c_Liking_worth_129_b144_ok h hr hlk hD o0 ho0 (c_Liking_worth_129_h4 o0 n) ih x9 v3 S)
                · refine V_iload_n (pc := 132) h 6 dX1_worth_132 rfl rfl ?_
                  refine V_iload (pc := 133) h 2 dX1_worth_133 rfl ?_
                  refine V_iconst (pc := 135) (v := 1) h dX1_worth_135 (by decide) ?_
                  refine V_isub (pc := 136) h dX1_worth_136 ?_
                  refine V_mmax (pc := 137) h dX1_worth_137 tw_4_24 tw_2_224 tw_1_16 tw_2_225 (Nat.le_trans (by decide) hD) (Nat.le_of_ble_eq_true rfl) ?_
                  refine V_goto (pc := 140) h 144 dX1_worth_140 (by decide) ?_
                  exact V_ls [4, 5, 0] rfl (c_Liking_worth_129_b144_ok h hr hlk hD o0 ho0 (c_Liking_worth_129_h4 o0 n) ih x9 (imax v3 (x2 - (1 : Int32))) S)
            · refine V_iload (pc := 114) h 0 dX1_worth_114 rfl ?_
              exact V_iret (pc := 116) h hr hlk dX1_worth_116
          · refine V_iconst (pc := 95) (v := 0) h dX1_worth_95 (by decide) ?_
            exact V_iret (pc := 96) h hr hlk dX1_worth_96
        · exact V_ls [2, 3, 4, 5, 1, 0] rfl (c_Liking_worth_129_b49_ok h hr hlk hD o0 ho0 (c_Liking_worth_129_h4 o0 n) ih v2 v3 x1 x2 S)
def c_Liking_worth_129 (o0 : Nat) (S : St) : Option (Int32 × St) := (c_Liking_worth_129_h4 o0 FU (0 : Int32) (0 : Int32) S)
set_option maxHeartbeats 4000000 in
set_option maxRecDepth 100000 in
theorem c_Liking_worth_129_ok {d : Nat} (h : Cx p s m c cX1_worth 7 RX1 s0 args0 D ca a A) (hr : meth.sig.returnType = some .int) (hlk : meth.locks = false) (hD : 3 ≤ d) (o0 : Nat) (ho0 : isLk o0) (S : St) : VV p l e (rmd d) s m args below meth c D ca tpC a A 7 (QmI D ca tpC a A below args s) S [(0, .ref (a o0)), (1, .ref (a 129))] 0 [] (c_Liking_worth_129 o0 S) := by
  unfold c_Liking_worth_129
  refine V_iconst (pc := 0) (v := 0) h dX1_worth_0 (by decide) ?_
  refine V_istore_n (pc := 1) h [(2, .int (0 : Int32)), (0, .ref (a o0)), (1, .ref (a 129))] dX1_worth_1 rfl (by decide) rfl ?_
  refine V_iconst (pc := 2) (v := 0) h dX1_worth_2 (by decide) ?_
  refine V_istore_n (pc := 3) h [(3, .int (0 : Int32)), (2, .int (0 : Int32)), (0, .ref (a o0)), (1, .ref (a 129))] dX1_worth_3 rfl (by decide) rfl ?_
  exact V_ls [2, 3, 1, 0] rfl (c_Liking_worth_129_h4_ok h hr hlk hD o0 ho0 FU (0 : Int32) (0 : Int32) S)
theorem c_Liking_worth_129_ct {d : Nat} (g : GG s0 args0 D ca a A) (hD : 3 ≤ d) {o0 : Nat} (ho0 : isLk o0) (S : St) (z : Int32 × St) (hz : c_Liking_worth_129 o0 S = some z) : CtI l yX1_worth cX1_worth 7 .int d s0 D ca tpC a A [.ref (a o0), .ref (a 129)] S z := CtI_mk g (by decide +kernel) (Nat.le_of_ble_eq_true rfl) hz (fun p e s m args below meth c h hr hlk => c_Liking_worth_129_ok h hr hlk hD o0 ho0 S)
def c_Noon_mealOf_b60 (v1 : Int32) (v2 : Int32) (k0 : Int32) (S : St) : Option (Int32 × St) := (bI (c_Noon_grainsOf v1 S) (fun x2 S1 => (if (S1 111 6) = -1 then (some (((x2 + v2) - ((3 : Int32) * k0)), S1)) else (ckM (S1 111 6) 4 (ckM (0 : Int32) 6 (bnd (up2 S1 129 (0 : Int32).toNatClampNeg v2) (fun S5 => (ckM (1 : Int32) 6 (bnd (up2 S5 129 (1 : Int32).toNatClampNeg k0) (fun S6 => (ckM (2 : Int32) 6 (bnd (up2 S6 129 (2 : Int32).toNatClampNeg x2) (fun S7 => (bI (c_Noon_heatOf v1 S7) (fun x9 S8 => (ckM (3 : Int32) 6 (bnd (up2 S8 129 (3 : Int32).toNatClampNeg x9) (fun S10 => (ckM v1 6 (ckM (4 : Int32) 6 (bnd (up2 S10 129 (4 : Int32).toNatClampNeg (S10 127 v1.toNatClampNeg)) (fun S11 => (ckM (5 : Int32) 6 (bnd (up2 S11 129 (5 : Int32).toNatClampNeg (S11 111 7)) (fun S12 => (if (S12 111 6) = -1 then none else (ckM (S12 111 6) 4 (bI (c_Liking_worth_129 (16 + (S12 111 6).toNatClampNeg) S12) (fun x16 S15 => (some (x16, S15)))))))))))))))))))))))))))))))
set_option maxHeartbeats 4000000 in
set_option maxRecDepth 100000 in
theorem c_Noon_mealOf_b60_ok {d : Nat} (h : Cx p s m c cX3_mealOf 5 RX3 s0 args0 D ca a A) (hr : meth.sig.returnType = some .int) (hlk : meth.locks = false) (hD : 4 ≤ d) (v1 : Int32) (v2 : Int32) (k0 : Int32) (S : St) : VV p l e (rmd d) s m args below meth c D ca tpC a A 5 (QmI D ca tpC a A below args s) S [(0, .ref (a 111)), (1, .int v1), (2, .int v2)] 60 [.int k0] (c_Noon_mealOf_b60 v1 v2 k0 S) := by
  unfold c_Noon_mealOf_b60
  refine V_istore_n (pc := 60) h [(3, .int k0), (0, .ref (a 111)), (1, .int v1), (2, .int v2)] dX3_mealOf_60 rfl (by decide) rfl ?_
  refine V_aload_n (pc := 61) h 1 dX3_mealOf_61 rfl rfl ?_
  refine V_iload_n (pc := 62) h 2 dX3_mealOf_62 rfl rfl ?_
  refine V_callVI (pc := 63) (dy := 2) (q := (RX3, TX3, 13)) h [.int v1] [] 111 mv_X3_136 oC_111 rfl dX3_mealOf_63 rfl rfl (Nat.le_of_ble_eq_true rfl) (Nat.le_trans (by decide) hD) (c_Noon_grainsOf v1 S) (fun z9 hz9 => c_Noon_grainsOf_ct h.gg (Nat.le_refl 2) v1 S z9 hz9) (fun x2 S1 => ?_)
  refine V_istore (pc := 66) h [(4, .int x2), (3, .int k0), (0, .ref (a 111)), (1, .int v1), (2, .int v2)] dX3_mealOf_66 (by decide) rfl ?_
  refine V_aload_n (pc := 68) h 2 dX3_mealOf_68 rfl rfl ?_
  refine V_getD0 (pc := 69) h 111 6 4 fl_X3_33_X3 oC_111 rfl dX3_mealOf_69 ?_ (fun h3 h4 => ?_)
  · refine V_ifnonnullN (pc := 72) h dX3_mealOf_72 ?_
    refine V_iload (pc := 75) h 0 dX3_mealOf_75 rfl ?_
    refine V_iload_n (pc := 77) h 4 dX3_mealOf_77 rfl rfl ?_
    refine V_iadd (pc := 78) h dX3_mealOf_78 ?_
    refine V_iconst (pc := 79) (v := 3) h dX3_mealOf_79 (by decide) ?_
    refine V_iload_n (pc := 80) h 1 dX3_mealOf_80 rfl rfl ?_
    refine V_imul (pc := 81) h dX3_mealOf_81 ?_
    refine V_isub (pc := 82) h dX3_mealOf_82 ?_
    exact V_iret (pc := 83) h hr hlk dX3_mealOf_83
  · refine V_ifnonnull (pc := 72) h 84 dX3_mealOf_72 (by decide) ?_
    refine V_aload_n (pc := 84) h 2 dX3_mealOf_84 rfl rfl ?_
    refine V_get (pc := 85) h 111 5 (.ref (a 129)) fl_X3_26_X3 oC_111 rfl rfl dX3_mealOf_85 ?_
    refine V_iconst (pc := 88) (v := 0) h dX3_mealOf_88 (by decide) ?_
    refine V_iload_n (pc := 89) h 4 dX3_mealOf_89 rfl rfl ?_
    refine V_iast (pc := 90) h 129 oC_129 dX3_mealOf_90 (fun S5 => ?_)
    refine V_aload_n (pc := 91) h 2 dX3_mealOf_91 rfl rfl ?_
    refine V_get (pc := 92) h 111 5 (.ref (a 129)) fl_X3_26_X3 oC_111 rfl rfl dX3_mealOf_92 ?_
    refine V_iconst (pc := 95) (v := 1) h dX3_mealOf_95 (by decide) ?_
    refine V_iload_n (pc := 96) h 1 dX3_mealOf_96 rfl rfl ?_
    refine V_iast (pc := 97) h 129 oC_129 dX3_mealOf_97 (fun S6 => ?_)
    refine V_aload_n (pc := 98) h 2 dX3_mealOf_98 rfl rfl ?_
    refine V_get (pc := 99) h 111 5 (.ref (a 129)) fl_X3_26_X3 oC_111 rfl rfl dX3_mealOf_99 ?_
    refine V_iconst (pc := 102) (v := 2) h dX3_mealOf_102 (by decide) ?_
    refine V_iload (pc := 103) h 0 dX3_mealOf_103 rfl ?_
    refine V_iast (pc := 105) h 129 oC_129 dX3_mealOf_105 (fun S7 => ?_)
    refine V_aload_n (pc := 106) h 2 dX3_mealOf_106 rfl rfl ?_
    refine V_get (pc := 107) h 111 5 (.ref (a 129)) fl_X3_26_X3 oC_111 rfl rfl dX3_mealOf_107 ?_
    refine V_iconst (pc := 110) (v := 3) h dX3_mealOf_110 (by decide) ?_
    refine V_aload_n (pc := 111) h 2 dX3_mealOf_111 rfl rfl ?_
    refine V_iload_n (pc := 112) h 3 dX3_mealOf_112 rfl rfl ?_
    refine V_callVI (pc := 113) (dy := 1) (q := (RX3, TX3, 13)) h [.int v1] [.int (3 : Int32), .ref (a 129)] 111 mv_X3_139 oC_111 rfl dX3_mealOf_113 rfl rfl (Nat.le_of_ble_eq_true rfl) (Nat.le_trans (by decide) hD) (c_Noon_heatOf v1 S7) (fun z9 hz9 => c_Noon_heatOf_ct h.gg (Nat.le_refl 1) v1 S7 z9 hz9) (fun x9 S8 => ?_)
    refine V_iast (pc := 116) h 129 oC_129 dX3_mealOf_116 (fun S10 => ?_)
    refine V_aload_n (pc := 117) h 2 dX3_mealOf_117 rfl rfl ?_
    refine V_get (pc := 118) h 111 5 (.ref (a 129)) fl_X3_26_X3 oC_111 rfl rfl dX3_mealOf_118 ?_
    refine V_iconst (pc := 121) (v := 4) h dX3_mealOf_121 (by decide) ?_
    refine V_aload_n (pc := 122) h 2 dX3_mealOf_122 rfl rfl ?_
    refine V_get (pc := 123) h 111 3 (.ref (a 127)) fl_X3_19_X3 oC_111 rfl rfl dX3_mealOf_123 ?_
    refine V_iload_n (pc := 126) h 3 dX3_mealOf_126 rfl rfl ?_
    refine V_iald (pc := 127) h 127 oC_127 dX3_mealOf_127 ?_
    refine V_iast (pc := 128) h 129 oC_129 dX3_mealOf_128 (fun S11 => ?_)
    refine V_aload_n (pc := 129) h 2 dX3_mealOf_129 rfl rfl ?_
    refine V_get (pc := 130) h 111 5 (.ref (a 129)) fl_X3_26_X3 oC_111 rfl rfl dX3_mealOf_130 ?_
    refine V_iconst (pc := 133) (v := 5) h dX3_mealOf_133 (by decide) ?_
    refine V_aload_n (pc := 134) h 2 dX3_mealOf_134 rfl rfl ?_
    refine V_get (pc := 135) h 111 7 (.int (S11 111 7)) fl_X3_105_X3 oC_111 rfl rfl dX3_mealOf_135 ?_
    refine V_iast (pc := 138) h 129 oC_129 dX3_mealOf_138 (fun S12 => ?_)
    refine V_aload_n (pc := 139) h 2 dX3_mealOf_139 rfl rfl ?_
    refine V_getD0 (pc := 140) h 111 6 4 fl_X3_33_X3 oC_111 rfl dX3_mealOf_140 ?_ (fun h13 h14 => ?_)
    · refine V_aload_n (pc := 143) h 2 dX3_mealOf_143 rfl rfl ?_
      refine V_get (pc := 144) h 111 5 (.ref (a 129)) fl_X3_26_X3 oC_111 rfl rfl dX3_mealOf_144 ?_
      exact V_none
    · refine V_aload_n (pc := 143) h 2 dX3_mealOf_143 rfl rfl ?_
      refine V_get (pc := 144) h 111 5 (.ref (a 129)) fl_X3_26_X3 oC_111 rfl rfl dX3_mealOf_144 ?_
      refine V_callVI (pc := 147) (dy := 3) (q := (RX1, TX1, 3)) h [.ref (a 129)] [] (16 + (S12 111 6).toNatClampNeg) mv_X3_142 (isLk_all _ h14).1 rfl dX3_mealOf_147 rfl rfl (Nat.le_of_ble_eq_true rfl) (Nat.le_trans (by decide) hD) (c_Liking_worth_129 (16 + (S12 111 6).toNatClampNeg) S12) (fun z9 hz9 => c_Liking_worth_129_ct h.gg (Nat.le_refl 3) (isLk_all _ h14) S12 z9 hz9) (fun x16 S15 => ?_)
      exact V_iret (pc := 150) h hr hlk dX3_mealOf_150
def c_Noon_mealOf (v1 : Int32) (S : St) : Option (Int32 × St) := (if v1 < 0 then (some ((0 : Int32), S)) else (if v1 < (6 : Int32) then (ckM v1 6 (bI (c_Noon_got v1 (S 31 v1.toNatClampNeg) S) (fun x2 S1 => (ckM v1 6 (bI (c_N_isStuff (S1 32 v1.toNatClampNeg) S1) (fun x4 S3 => (if x4 = 0 then (c_Noon_mealOf_b60 v1 x2 (0 : Int32) S3) else (ckM v1 6 (bI (c_Noon_got v1 (S3 32 v1.toNatClampNeg) S3) (fun x6 S5 => (c_Noon_mealOf_b60 v1 x2 x6 S5))))))))))) else (some ((0 : Int32), S))))
set_option maxHeartbeats 4000000 in
set_option maxRecDepth 100000 in
theorem c_Noon_mealOf_ok {d : Nat} (h : Cx p s m c cX3_mealOf 5 RX3 s0 args0 D ca a A) (hr : meth.sig.returnType = some .int) (hlk : meth.locks = false) (hD : 4 ≤ d) (v1 : Int32) (S : St) : VV p l e (rmd d) s m args below meth c D ca tpC a A 5 (QmI D ca tpC a A below args s) S [(0, .ref (a 111)), (1, .int v1)] 0 [] (c_Noon_mealOf v1 S) := by
  unfold c_Noon_mealOf
  refine V_iload_n (pc := 0) h 1 dX3_mealOf_0 rfl rfl ?_
  refine V_if_lt (pc := 1) h 10 dX3_mealOf_1 (by decide) ?_ ?_
  · refine V_iconst (pc := 10) (v := 0) h dX3_mealOf_10 (by decide) ?_
    exact V_iret (pc := 11) h hr hlk dX3_mealOf_11
  · refine V_iload_n (pc := 4) h 1 dX3_mealOf_4 rfl rfl ?_
    refine V_bipush (pc := 5) (v := 6) h dX3_mealOf_5 (by decide) ?_
    refine V_icmp_lt (pc := 7) h 12 dX3_mealOf_7 (by decide) ?_ ?_
    · refine V_aload_n (pc := 12) h 0 dX3_mealOf_12 rfl rfl ?_
      refine V_iload_n (pc := 13) h 1 dX3_mealOf_13 rfl rfl ?_
      refine V_aload_n (pc := 14) h 0 dX3_mealOf_14 rfl rfl ?_
      refine V_get (pc := 15) h 111 0 (.ref (a 28)) fl_X3_29_X3 oC_111 rfl rfl dX3_mealOf_15 ?_
      refine V_get (pc := 18) h 28 6 (.ref (a 31)) fl_X3_127_X7 oC_28 rfl rfl dX3_mealOf_18 ?_
      refine V_iload_n (pc := 21) h 1 dX3_mealOf_21 rfl rfl ?_
      refine V_iald (pc := 22) h 31 oC_31 dX3_mealOf_22 ?_
      refine V_callVI (pc := 23) (dy := 1) (q := (RX3, TX3, 13)) h [.int v1, .int (S 31 v1.toNatClampNeg)] [] 111 mv_X3_124 oC_111 rfl dX3_mealOf_23 rfl rfl (Nat.le_of_ble_eq_true rfl) (Nat.le_trans (by decide) hD) (c_Noon_got v1 (S 31 v1.toNatClampNeg) S) (fun z9 hz9 => c_Noon_got_ct h.gg (Nat.le_refl 1) v1 (S 31 v1.toNatClampNeg) S z9 hz9) (fun x2 S1 => ?_)
      refine V_istore_n (pc := 26) h [(2, .int x2), (0, .ref (a 111)), (1, .int v1)] dX3_mealOf_26 rfl (by decide) rfl ?_
      refine V_aload_n (pc := 27) h 1 dX3_mealOf_27 rfl rfl ?_
      refine V_get (pc := 28) h 111 0 (.ref (a 28)) fl_X3_29_X3 oC_111 rfl rfl dX3_mealOf_28 ?_
      refine V_get (pc := 31) h 28 7 (.ref (a 32)) fl_X3_130_X7 oC_28 rfl rfl dX3_mealOf_31 ?_
      refine V_iload_n (pc := 34) h 2 dX3_mealOf_34 rfl rfl ?_
      refine V_iald (pc := 35) h 32 oC_32 dX3_mealOf_35 ?_
      refine V_callSI (pc := 36) (dy := 1) h [.int (S1 32 v1.toNatClampNeg)] [] ms_X3_133 dX3_mealOf_36 rfl rfl (Nat.le_of_ble_eq_true rfl) (Nat.le_trans (by decide) hD) (c_N_isStuff (S1 32 v1.toNatClampNeg) S1) (fun z9 hz9 => c_N_isStuff_ct h.gg (Nat.le_refl 1) (S1 32 v1.toNatClampNeg) S1 z9 hz9) (fun x4 S3 => ?_)
      refine V_if_eq (pc := 39) h 59 dX3_mealOf_39 (by decide) ?_ ?_
      · refine V_iconst (pc := 59) (v := 0) h dX3_mealOf_59 (by decide) ?_
        exact V_ls [1, 2, 0] rfl (c_Noon_mealOf_b60_ok h hr hlk hD v1 x2 (0 : Int32) S3)
      · refine V_aload_n (pc := 42) h 1 dX3_mealOf_42 rfl rfl ?_
        refine V_iload_n (pc := 43) h 2 dX3_mealOf_43 rfl rfl ?_
        refine V_aload_n (pc := 44) h 1 dX3_mealOf_44 rfl rfl ?_
        refine V_get (pc := 45) h 111 0 (.ref (a 28)) fl_X3_29_X3 oC_111 rfl rfl dX3_mealOf_45 ?_
        refine V_get (pc := 48) h 28 7 (.ref (a 32)) fl_X3_130_X7 oC_28 rfl rfl dX3_mealOf_48 ?_
        refine V_iload_n (pc := 51) h 2 dX3_mealOf_51 rfl rfl ?_
        refine V_iald (pc := 52) h 32 oC_32 dX3_mealOf_52 ?_
        refine V_callVI (pc := 53) (dy := 1) (q := (RX3, TX3, 13)) h [.int v1, .int (S3 32 v1.toNatClampNeg)] [] 111 mv_X3_124 oC_111 rfl dX3_mealOf_53 rfl rfl (Nat.le_of_ble_eq_true rfl) (Nat.le_trans (by decide) hD) (c_Noon_got v1 (S3 32 v1.toNatClampNeg) S3) (fun z9 hz9 => c_Noon_got_ct h.gg (Nat.le_refl 1) v1 (S3 32 v1.toNatClampNeg) S3 z9 hz9) (fun x6 S5 => ?_)
        refine V_goto (pc := 56) h 60 dX3_mealOf_56 (by decide) ?_
        exact V_ls [1, 2, 0] rfl (c_Noon_mealOf_b60_ok h hr hlk hD v1 x2 x6 S5)
    · refine V_iconst (pc := 10) (v := 0) h dX3_mealOf_10 (by decide) ?_
      exact V_iret (pc := 11) h hr hlk dX3_mealOf_11
theorem c_Noon_mealOf_ct {d : Nat} (g : GG s0 args0 D ca a A) (hD : 4 ≤ d) (v1 : Int32) (S : St) (z : Int32 × St) (hz : c_Noon_mealOf v1 S = some z) : CtI l yX3_mealOf cX3_mealOf 5 .int d s0 D ca tpC a A [.ref (a 111), .int v1] S z := CtI_mk g (by decide +kernel) (Nat.le_of_ble_eq_true rfl) hz (fun p e s m args below meth c h hr hlk => c_Noon_mealOf_ok h hr hlk hD v1 S)
def c_Best_withMeal (v1 : Int32) (v2 : Int32) (S : St) : Option (Int32 × St) := (if (S 130 3) = 0 then (some ((v1 + v2), S)) else (some ((imin v1 v2), S)))
set_option maxHeartbeats 4000000 in
set_option maxRecDepth 100000 in
theorem c_Best_withMeal_ok {d : Nat} (h : Cx p s m c cX0_withMeal 3 RX0 s0 args0 D ca a A) (hr : meth.sig.returnType = some .int) (hlk : meth.locks = false) (hD : 1 ≤ d) (v1 : Int32) (v2 : Int32) (S : St) : VV p l e (rmd d) s m args below meth c D ca tpC a A 3 (QmI D ca tpC a A below args s) S [(0, .ref (a 130)), (1, .int v1), (2, .int v2)] 0 [] (c_Best_withMeal v1 v2 S) := by
  unfold c_Best_withMeal
  refine V_aload_n (pc := 0) h 0 dX0_withMeal_0 rfl rfl ?_
  refine V_get (pc := 1) h 130 3 (.int (S 130 3)) fl_X0_42_X0 oC_130 rfl rfl dX0_withMeal_1 ?_
  refine V_if_ne (pc := 4) h 13 dX0_withMeal_4 (by decide) ?_ ?_
  · refine V_iload_n (pc := 13) h 1 dX0_withMeal_13 rfl rfl ?_
    refine V_iload_n (pc := 14) h 2 dX0_withMeal_14 rfl rfl ?_
    refine V_mmin (pc := 15) h dX0_withMeal_15 tw_4_126 tw_2_227 tw_1_16 tw_2_228 (Nat.le_trans (by decide) hD) (Nat.le_of_ble_eq_true rfl) ?_
    exact V_iret (pc := 18) h hr hlk dX0_withMeal_18
  · refine V_iload_n (pc := 7) h 1 dX0_withMeal_7 rfl rfl ?_
    refine V_iload_n (pc := 8) h 2 dX0_withMeal_8 rfl rfl ?_
    refine V_iadd (pc := 9) h dX0_withMeal_9 ?_
    refine V_goto (pc := 10) h 18 dX0_withMeal_10 (by decide) ?_
    exact V_iret (pc := 18) h hr hlk dX0_withMeal_18
theorem c_Best_withMeal_ct {d : Nat} (g : GG s0 args0 D ca a A) (hD : 1 ≤ d) (v1 : Int32) (v2 : Int32) (S : St) (z : Int32 × St) (hz : c_Best_withMeal v1 v2 S = some z) : CtI l yX0_withMeal cX0_withMeal 3 .int d s0 D ca tpC a A [.ref (a 130), .int v1, .int v2] S z := CtI_mk g (by decide +kernel) (Nat.le_of_ble_eq_true rfl) hz (fun p e s m args below meth c h hr hlk => c_Best_withMeal_ok h hr hlk hD v1 v2 S)
def c_Best_unitOf (v1 : Int32) (S : St) : Option (Int32 × St) := (bnd (((S 28 0) - (1 : Int32)) - v1) (fun x1 => (if x1 < 0 then (some ((0 : Int32), S)) else (if (6 : Int32) ≤ x1 then (some ((0 : Int32), S)) else (ckM x1 (roL 9).length (some ((roV 9 x1.toNatClampNeg), S)))))))
set_option maxHeartbeats 4000000 in
set_option maxRecDepth 100000 in
theorem c_Best_unitOf_ok {d : Nat} (h : Cx p s m c cX0_unitOf 3 RX0 s0 args0 D ca a A) (hr : meth.sig.returnType = some .int) (hlk : meth.locks = false) (hD : 1 ≤ d) (v1 : Int32) (S : St) : VV p l e (rmd d) s m args below meth c D ca tpC a A 3 (QmI D ca tpC a A below args s) S [(0, .ref (a 130)), (1, .int v1)] 0 [] (c_Best_unitOf v1 S) := by
  unfold c_Best_unitOf
  refine V_aload_n (pc := 0) h 0 dX0_unitOf_0 rfl rfl ?_
  refine V_get (pc := 1) h 130 0 (.ref (a 28)) fl_X0_9_X0 oC_130 rfl rfl dX0_unitOf_1 ?_
  refine V_get (pc := 4) h 28 0 (.int (S 28 0)) fl_X0_64_X7 oC_28 rfl rfl dX0_unitOf_4 ?_
  refine V_iconst (pc := 7) (v := 1) h dX0_unitOf_7 (by decide) ?_
  refine V_isub (pc := 8) h dX0_unitOf_8 ?_
  refine V_iload_n (pc := 9) h 1 dX0_unitOf_9 rfl rfl ?_
  refine V_isub (pc := 10) h dX0_unitOf_10 ?_
  refine V_top (fun x1 => ?_)
  refine V_istore_n (pc := 11) h [(2, .int x1), (0, .ref (a 130)), (1, .int v1)] dX0_unitOf_11 rfl (by decide) rfl ?_
  refine V_iload_n (pc := 12) h 0 dX0_unitOf_12 rfl rfl ?_
  refine V_if_lt (pc := 13) h 32 dX0_unitOf_13 (by decide) ?_ ?_
  · refine V_iconst (pc := 32) (v := 0) h dX0_unitOf_32 (by decide) ?_
    exact V_iret (pc := 33) h hr hlk dX0_unitOf_33
  · refine V_iload_n (pc := 16) h 0 dX0_unitOf_16 rfl rfl ?_
    refine V_gets (pc := 17) h 9 (by decide) (Or.inr ⟨_, tw_4_131⟩) dX0_unitOf_17 ?_
    refine V_rolen (pc := 20) h 9 (by decide) (6 : Int32) (by decide) dX0_unitOf_20 ?_
    refine V_icmp_ge (pc := 21) h 32 dX0_unitOf_21 (by decide) ?_ ?_
    · refine V_iconst (pc := 32) (v := 0) h dX0_unitOf_32 (by decide) ?_
      exact V_iret (pc := 33) h hr hlk dX0_unitOf_33
    · refine V_gets (pc := 24) h 9 (by decide) (Or.inr ⟨_, tw_4_131⟩) dX0_unitOf_24 ?_
      refine V_iload_n (pc := 27) h 0 dX0_unitOf_27 rfl rfl ?_
      refine V_roald (pc := 28) h 9 (by decide) dX0_unitOf_28 ?_
      refine V_goto (pc := 29) h 33 dX0_unitOf_29 (by decide) ?_
      exact V_iret (pc := 33) h hr hlk dX0_unitOf_33
theorem c_Best_unitOf_ct {d : Nat} (g : GG s0 args0 D ca a A) (hD : 1 ≤ d) (v1 : Int32) (S : St) (z : Int32 × St) (hz : c_Best_unitOf v1 S = some z) : CtI l yX0_unitOf cX0_unitOf 3 .int d s0 D ca tpC a A [.ref (a 130), .int v1] S z := CtI_mk g (by decide +kernel) (Nat.le_of_ble_eq_true rfl) hz (fun p e s m args below meth c h hr hlk => c_Best_unitOf_ok h hr hlk hD v1 S)
def c_State_isStore (v0 : Int32) (v1 : Int32) (S : St) : Option (Int32 × St) := (if v0 < 0 then (nzM (0 : Int32) (some ((0 : Int32), S))) else (if (6 : Int32) ≤ v0 then (nzM (0 : Int32) (some ((0 : Int32), S))) else (bI (c_N_isStuff v1 S) (fun x2 S1 => (if x2 = 0 then (nzM (0 : Int32) (some ((0 : Int32), S1))) else (nzM (1 : Int32) (some ((1 : Int32), S1))))))))
set_option maxHeartbeats 4000000 in
set_option maxRecDepth 100000 in
theorem c_State_isStore_ok {d : Nat} (h : Cx p s m c cX6_isStore 2 RX6 s0 args0 D ca a A) (hr : meth.sig.returnType = some .boolean) (hlk : meth.locks = false) (hD : 2 ≤ d) (v0 : Int32) (v1 : Int32) (S : St) : VV p l e (rmd d) s m args below meth c D ca tpC a A 2 (QmI D ca tpC a A below args s) S [(0, .int v0), (1, .int v1)] 0 [] (c_State_isStore v0 v1 S) := by
  unfold c_State_isStore
  refine V_iload_n (pc := 0) h 0 dX6_isStore_0 rfl rfl ?_
  refine V_if_lt (pc := 1) h 21 dX6_isStore_1 (by decide) ?_ ?_
  · refine V_iconst (pc := 21) (v := 0) h dX6_isStore_21 (by decide) ?_
    exact V_zret (pc := 22) h hr hlk dX6_isStore_22
  · refine V_iload_n (pc := 4) h 0 dX6_isStore_4 rfl rfl ?_
    refine V_bipush (pc := 5) (v := 6) h dX6_isStore_5 (by decide) ?_
    refine V_icmp_ge (pc := 7) h 21 dX6_isStore_7 (by decide) ?_ ?_
    · refine V_iconst (pc := 21) (v := 0) h dX6_isStore_21 (by decide) ?_
      exact V_zret (pc := 22) h hr hlk dX6_isStore_22
    · refine V_iload_n (pc := 10) h 1 dX6_isStore_10 rfl rfl ?_
      refine V_callSI (pc := 11) (dy := 1) h [.int v1] [] ms_X6_40 dX6_isStore_11 rfl rfl (Nat.le_of_ble_eq_true rfl) (Nat.le_trans (by decide) hD) (c_N_isStuff v1 S) (fun z9 hz9 => c_N_isStuff_ct h.gg (Nat.le_refl 1) v1 S z9 hz9) (fun x2 S1 => ?_)
      refine V_if_eq (pc := 14) h 21 dX6_isStore_14 (by decide) ?_ ?_
      · refine V_iconst (pc := 21) (v := 0) h dX6_isStore_21 (by decide) ?_
        exact V_zret (pc := 22) h hr hlk dX6_isStore_22
      · refine V_iconst (pc := 17) (v := 1) h dX6_isStore_17 (by decide) ?_
        refine V_goto (pc := 18) h 22 dX6_isStore_18 (by decide) ?_
        exact V_zret (pc := 22) h hr hlk dX6_isStore_22
theorem c_State_isStore_ct {d : Nat} (g : GG s0 args0 D ca a A) (hD : 2 ≤ d) (v0 : Int32) (v1 : Int32) (S : St) (z : Int32 × St) (hz : c_State_isStore v0 v1 S = some z) : CtI l yX6_isStore cX6_isStore 2 .boolean d s0 D ca tpC a A [.int v0, .int v1] S z := CtI_mk g (by decide +kernel) (Nat.le_of_ble_eq_true rfl) hz (fun p e s m args below meth c h hr hlk => c_State_isStore_ok h hr hlk hD v0 v1 S)
def c_State_hasEnough (o0 : Nat) (v1 : Int32) (v2 : Int32) (v3 : Int32) (S : St) : Option (Int32 × St) := (bI (c_State_isStore v1 v2 S) (fun x2 S1 => (if x2 = 0 then (nzM (0 : Int32) (some ((0 : Int32), S1))) else (ckM ((v1 * (5 : Int32)) + v2) 30 (if (S1 (o0 + 1) ((v1 * (5 : Int32)) + v2).toNatClampNeg) < v3 then (nzM (0 : Int32) (some ((0 : Int32), S1))) else (nzM (1 : Int32) (some ((1 : Int32), S1))))))))
set_option maxHeartbeats 4000000 in
set_option maxRecDepth 100000 in
theorem c_State_hasEnough_ok {d : Nat} (h : Cx p s m c cX6_hasEnough 4 RX6 s0 args0 D ca a A) (hr : meth.sig.returnType = some .boolean) (hlk : meth.locks = false) (hD : 3 ≤ d) (o0 : Nat) (ho0 : isSt o0) (v1 : Int32) (v2 : Int32) (v3 : Int32) (S : St) : VV p l e (rmd d) s m args below meth c D ca tpC a A 4 (QmI D ca tpC a A below args s) S [(0, .ref (a o0)), (1, .int v1), (2, .int v2), (3, .int v3)] 0 [] (c_State_hasEnough o0 v1 v2 v3 S) := by
  unfold c_State_hasEnough
  refine V_iload_n (pc := 0) h 1 dX6_hasEnough_0 rfl rfl ?_
  refine V_iload_n (pc := 1) h 2 dX6_hasEnough_1 rfl rfl ?_
  refine V_callSI (pc := 2) (dy := 2) h [.int v1, .int v2] [] ms_X6_44 dX6_hasEnough_2 rfl rfl (Nat.le_of_ble_eq_true rfl) (Nat.le_trans (by decide) hD) (c_State_isStore v1 v2 S) (fun z9 hz9 => c_State_isStore_ct h.gg (Nat.le_refl 2) v1 v2 S z9 hz9) (fun x2 S1 => ?_)
  refine V_if_eq (pc := 5) h 26 dX6_hasEnough_5 (by decide) ?_ ?_
  · refine V_iconst (pc := 26) (v := 0) h dX6_hasEnough_26 (by decide) ?_
    exact V_zret (pc := 27) h hr hlk dX6_hasEnough_27
  · refine V_aload_n (pc := 8) h 0 dX6_hasEnough_8 rfl rfl ?_
    refine V_get (pc := 9) h o0 1 (.ref (a (o0 + 1))) fl_X6_9_X6 ho0.1 rfl rfl dX6_hasEnough_9 ?_
    refine V_iload_n (pc := 12) h 1 dX6_hasEnough_12 rfl rfl ?_
    refine V_iconst (pc := 13) (v := 5) h dX6_hasEnough_13 (by decide) ?_
    refine V_imul (pc := 14) h dX6_hasEnough_14 ?_
    refine V_iload_n (pc := 15) h 2 dX6_hasEnough_15 rfl rfl ?_
    refine V_iadd (pc := 16) h dX6_hasEnough_16 ?_
    refine V_iald (pc := 17) h (o0 + 1) ho0.2.1 dX6_hasEnough_17 ?_
    refine V_iload_n (pc := 18) h 3 dX6_hasEnough_18 rfl rfl ?_
    refine V_icmp_lt (pc := 19) h 26 dX6_hasEnough_19 (by decide) ?_ ?_
    · refine V_iconst (pc := 26) (v := 0) h dX6_hasEnough_26 (by decide) ?_
      exact V_zret (pc := 27) h hr hlk dX6_hasEnough_27
    · refine V_iconst (pc := 22) (v := 1) h dX6_hasEnough_22 (by decide) ?_
      refine V_goto (pc := 23) h 27 dX6_hasEnough_23 (by decide) ?_
      exact V_zret (pc := 27) h hr hlk dX6_hasEnough_27
theorem c_State_hasEnough_ct {d : Nat} (g : GG s0 args0 D ca a A) (hD : 3 ≤ d) {o0 : Nat} (ho0 : isSt o0) (v1 : Int32) (v2 : Int32) (v3 : Int32) (S : St) (z : Int32 × St) (hz : c_State_hasEnough o0 v1 v2 v3 S = some z) : CtI l yX6_hasEnough cX6_hasEnough 4 .boolean d s0 D ca tpC a A [.ref (a o0), .int v1, .int v2, .int v3] S z := CtI_mk g (by decide +kernel) (Nat.le_of_ble_eq_true rfl) hz (fun p e s m args below meth c h hr hlk => c_State_hasEnough_ok h hr hlk hD o0 ho0 v1 v2 v3 S)
end GEN
