section GEN
variable {p : Program} {l : Launch} {e : Env} {s : State} {m : MethodId} {args : Array Value} {below : List Frame} {meth : Method} {c : Code}
variable {D : va_G} {ca : Nat → ClassId} {tp : List ODt} {a : Nat → Nat} {A : Nat → Prop} {s0 : State} {args0 : Array Value} {t : Nat}
def c_Street_learn_3_h58 : Nat → Int32 → St → Option St
  | 0, _, _ => none
  | n + 1, v2, S => (if (6 : Int32) ≤ v2 then (some S) else (ckM v2 6 (ckM (5 : Int32) 8 (ckM v2 6 (bnd (up2 S 30 v2.toNatClampNeg (S (6 + v2.toNatClampNeg) (5 : Int32).toNatClampNeg)) (fun S3 => (ckM v2 6 (ckM (6 : Int32) 8 (ckM v2 6 (bnd (up2 S3 31 v2.toNatClampNeg (S3 (6 + v2.toNatClampNeg) (6 : Int32).toNatClampNeg)) (fun S6 => (ckM v2 6 (ckM (7 : Int32) 8 (ckM v2 6 (bnd (up2 S6 32 v2.toNatClampNeg (S6 (6 + v2.toNatClampNeg) (7 : Int32).toNatClampNeg)) (fun S9 => (bnd (v2 + (1 : Int32)) (fun x10 => ((c_Street_learn_3_h58 n) x10 S9)))))))))))))))))))
set_option maxHeartbeats 4000000 in
set_option maxRecDepth 100000 in
theorem c_Street_learn_3_h58_ok {d : Nat} (h : Cx p s m c cX7_learn 3 RX7 s0 args0 D ca a A) (hr : meth.sig.returnType = none) (hlk : meth.locks = false) (hD : 1 ≤ d) : ∀ (n : Nat) (v2 : Int32) (S : St), VV p l e (rmd d) s m args below meth c D ca tpC a A 3 (QmV D ca tpC a A below args s) S [(0, .ref (a 28)), (1, .ref (a 3)), (2, .int v2)] 58 [] (c_Street_learn_3_h58 n v2 S) := by
  intro n
  induction n with
  | zero => intro v2 S; exact V_none
  | succ n ih =>
    intro v2 S
    unfold c_Street_learn_3_h58
    refine V_iload_n (pc := 58) h 2 dX7_learn_58 rfl rfl ?_
    refine V_bipush (pc := 59) (v := 6) h dX7_learn_59 (by decide) ?_
    refine V_icmp_ge (pc := 61) h 114 dX7_learn_61 (by decide) ?_ ?_
    · exact V_vret (pc := 114) h hr hlk dX7_learn_114
    · refine V_aload_n (pc := 64) h 0 dX7_learn_64 rfl rfl ?_
      refine V_get (pc := 65) h 28 5 (.ref (a 30)) fl_X7_15_X7 oC_28 rfl rfl dX7_learn_65 ?_
      refine V_iload_n (pc := 68) h 2 dX7_learn_68 rfl rfl ?_
      refine V_aload_n (pc := 69) h 1 dX7_learn_69 rfl rfl ?_
      refine V_get (pc := 70) h 3 3 (.ref (a 5)) fl_X7_50_X8 oC_3 rfl rfl dX7_learn_70 ?_
      refine V_iload_n (pc := 73) h 2 dX7_learn_73 rfl rfl ?_
      refine V_aald0 (pc := 74) h 5 oC_5 (by decide) dX7_learn_74 (fun h1 h2 => ?_)
      refine V_iconst (pc := 75) (v := 5) h dX7_learn_75 (by decide) ?_
      refine V_iald (pc := 76) h (6 + v2.toNatClampNeg) (rC_5 _ h2) dX7_learn_76 ?_
      refine V_iast (pc := 77) h 30 oC_30 dX7_learn_77 (fun S3 => ?_)
      refine V_aload_n (pc := 78) h 0 dX7_learn_78 rfl rfl ?_
      refine V_get (pc := 79) h 28 6 (.ref (a 31)) fl_X7_18_X7 oC_28 rfl rfl dX7_learn_79 ?_
      refine V_iload_n (pc := 82) h 2 dX7_learn_82 rfl rfl ?_
      refine V_aload_n (pc := 83) h 1 dX7_learn_83 rfl rfl ?_
      refine V_get (pc := 84) h 3 3 (.ref (a 5)) fl_X7_50_X8 oC_3 rfl rfl dX7_learn_84 ?_
      refine V_iload_n (pc := 87) h 2 dX7_learn_87 rfl rfl ?_
      refine V_aald0 (pc := 88) h 5 oC_5 (by decide) dX7_learn_88 (fun h4 h5 => ?_)
      refine V_bipush (pc := 89) (v := 6) h dX7_learn_89 (by decide) ?_
      refine V_iald (pc := 91) h (6 + v2.toNatClampNeg) (rC_5 _ h5) dX7_learn_91 ?_
      refine V_iast (pc := 92) h 31 oC_31 dX7_learn_92 (fun S6 => ?_)
      refine V_aload_n (pc := 93) h 0 dX7_learn_93 rfl rfl ?_
      refine V_get (pc := 94) h 28 7 (.ref (a 32)) fl_X7_21_X7 oC_28 rfl rfl dX7_learn_94 ?_
      refine V_iload_n (pc := 97) h 2 dX7_learn_97 rfl rfl ?_
      refine V_aload_n (pc := 98) h 1 dX7_learn_98 rfl rfl ?_
      refine V_get (pc := 99) h 3 3 (.ref (a 5)) fl_X7_50_X8 oC_3 rfl rfl dX7_learn_99 ?_
      refine V_iload_n (pc := 102) h 2 dX7_learn_102 rfl rfl ?_
      refine V_aald0 (pc := 103) h 5 oC_5 (by decide) dX7_learn_103 (fun h7 h8 => ?_)
      refine V_bipush (pc := 104) (v := 7) h dX7_learn_104 (by decide) ?_
      refine V_iald (pc := 106) h (6 + v2.toNatClampNeg) (rC_5 _ h8) dX7_learn_106 ?_
      refine V_iast (pc := 107) h 32 oC_32 dX7_learn_107 (fun S9 => ?_)
      refine V_iincB (pc := 108) h 2 (1 : Int32) (fun x10 => [(2, .int x10), (0, .ref (a 28)), (1, .ref (a 3))]) dX7_learn_108 rfl (by decide) (by decide) (fun _ => rfl) (fun x10 => ?_)
      refine V_goto (pc := 111) h 58 dX7_learn_111 (by decide) ?_
      exact V_ls [1, 2, 0] rfl (ih x10 S9)
def c_Street_learn_3 (S : St) : Option St := (bnd (up2 S 28 0 (S 3 5)) (fun S1 => (ckM (0 : Int32) 3 (bnd (up2 S1 28 1 (S1 12 (0 : Int32).toNatClampNeg)) (fun S2 => (ckM (1 : Int32) 3 (bnd (up2 S2 28 2 (S2 12 (1 : Int32).toNatClampNeg)) (fun S3 => (ckM (2 : Int32) 3 (bnd (up2 S3 28 3 (S3 12 (2 : Int32).toNatClampNeg)) (fun S4 => (cpM (0 : Int32) (0 : Int32) (5 : Int32) 5 5 (bnd (upR S4 29 (cpy (S4 4) (S4 29) (0 : Int32).toNatClampNeg (0 : Int32).toNatClampNeg (5 : Int32).toNatClampNeg)) (fun S5 => (c_Street_learn_3_h58 FU (0 : Int32) S5)))))))))))))))
set_option maxHeartbeats 4000000 in
set_option maxRecDepth 100000 in
theorem c_Street_learn_3_ok {d : Nat} (h : Cx p s m c cX7_learn 3 RX7 s0 args0 D ca a A) (hr : meth.sig.returnType = none) (hlk : meth.locks = false) (hD : 1 ≤ d) (S : St) : VV p l e (rmd d) s m args below meth c D ca tpC a A 3 (QmV D ca tpC a A below args s) S [(0, .ref (a 28)), (1, .ref (a 3))] 0 [] (c_Street_learn_3 S) := by
  unfold c_Street_learn_3
  refine V_aload_n (pc := 0) h 0 dX7_learn_0 rfl rfl ?_
  refine V_aload_n (pc := 1) h 1 dX7_learn_1 rfl rfl ?_
  refine V_get (pc := 2) h 3 5 (.int (S 3 5)) fl_X7_24_X8 oC_3 rfl rfl dX7_learn_2 ?_
  refine V_put (pc := 5) h 28 0 (S 3 5) fp_X7_30_X7 oC_28 rfl rfl rfl rfl dX7_learn_5 (fun S1 => ?_)
  refine V_aload_n (pc := 8) h 0 dX7_learn_8 rfl rfl ?_
  refine V_aload_n (pc := 9) h 1 dX7_learn_9 rfl rfl ?_
  refine V_get (pc := 10) h 3 4 (.ref (a 12)) fl_X7_31_X8 oC_3 rfl rfl dX7_learn_10 ?_
  refine V_iconst (pc := 13) (v := 0) h dX7_learn_13 (by decide) ?_
  refine V_iald (pc := 14) h 12 oC_12 dX7_learn_14 ?_
  refine V_put (pc := 15) h 28 1 (S1 12 (0 : Int32).toNatClampNeg) fp_X7_34_X7 oC_28 rfl rfl rfl rfl dX7_learn_15 (fun S2 => ?_)
  refine V_aload_n (pc := 18) h 0 dX7_learn_18 rfl rfl ?_
  refine V_aload_n (pc := 19) h 1 dX7_learn_19 rfl rfl ?_
  refine V_get (pc := 20) h 3 4 (.ref (a 12)) fl_X7_31_X8 oC_3 rfl rfl dX7_learn_20 ?_
  refine V_iconst (pc := 23) (v := 1) h dX7_learn_23 (by decide) ?_
  refine V_iald (pc := 24) h 12 oC_12 dX7_learn_24 ?_
  refine V_put (pc := 25) h 28 2 (S2 12 (1 : Int32).toNatClampNeg) fp_X7_37_X7 oC_28 rfl rfl rfl rfl dX7_learn_25 (fun S3 => ?_)
  refine V_aload_n (pc := 28) h 0 dX7_learn_28 rfl rfl ?_
  refine V_aload_n (pc := 29) h 1 dX7_learn_29 rfl rfl ?_
  refine V_get (pc := 30) h 3 4 (.ref (a 12)) fl_X7_31_X8 oC_3 rfl rfl dX7_learn_30 ?_
  refine V_iconst (pc := 33) (v := 2) h dX7_learn_33 (by decide) ?_
  refine V_iald (pc := 34) h 12 oC_12 dX7_learn_34 ?_
  refine V_put (pc := 35) h 28 3 (S3 12 (2 : Int32).toNatClampNeg) fp_X7_40_X7 oC_28 rfl rfl rfl rfl dX7_learn_35 (fun S4 => ?_)
  refine V_aload_n (pc := 38) h 1 dX7_learn_38 rfl rfl ?_
  refine V_get (pc := 39) h 3 2 (.ref (a 4)) fl_X7_43_X8 oC_3 rfl rfl dX7_learn_39 ?_
  refine V_iconst (pc := 42) (v := 0) h dX7_learn_42 (by decide) ?_
  refine V_aload_n (pc := 43) h 0 dX7_learn_43 rfl rfl ?_
  refine V_get (pc := 44) h 28 4 (.ref (a 29)) fl_X7_9_X7 oC_28 rfl rfl dX7_learn_44 ?_
  refine V_iconst (pc := 47) (v := 0) h dX7_learn_47 (by decide) ?_
  refine V_aload_n (pc := 48) h 0 dX7_learn_48 rfl rfl ?_
  refine V_get (pc := 49) h 28 4 (.ref (a 29)) fl_X7_9_X7 oC_28 rfl rfl dX7_learn_49 ?_
  refine V_alen (pc := 52) h 29 (5 : Int32) oC_29 (by decide) (by decide) dX7_learn_52 ?_
  refine V_copy (pc := 53) h 4 29 oC_4 oC_29 dX7_learn_53 tw_3_135 tw_2_151 tw_2_150 tw_1_13 (Nat.le_trans (by decide) hD) (Nat.le_of_ble_eq_true rfl) (fun S5 => ?_)
  refine V_iconst (pc := 56) (v := 0) h dX7_learn_56 (by decide) ?_
  refine V_istore_n (pc := 57) h [(2, .int (0 : Int32)), (0, .ref (a 28)), (1, .ref (a 3))] dX7_learn_57 rfl (by decide) rfl ?_
  exact V_ls [1, 2, 0] rfl (c_Street_learn_3_h58_ok h hr hlk hD FU (0 : Int32) S5)
theorem c_Street_learn_3_ct {d : Nat} (g : GG s0 args0 D ca a A) (hD : 1 ≤ d) (S : St) (z : St) (hz : c_Street_learn_3 S = some z) : CtV l yX7_learn cX7_learn 3 d s0 D ca tpC a A [.ref (a 28), .ref (a 3)] S z := CtV_mk g (by decide +kernel) (Nat.le_of_ble_eq_true rfl) hz (fun p e s m args below meth c h hr hlk => c_Street_learn_3_ok h hr hlk hD S)
def c_State_begin_3_h7 (o0 : Nat) : Nat → Int32 → St → Option St
  | 0, _, _ => none
  | n + 1, v2, S => (if (6 : Int32) ≤ v2 then (some S) else (ckM v2 6 (cpM (0 : Int32) (v2 * (5 : Int32)) (5 : Int32) 8 30 (bnd (upR S (o0 + 1) (cpy (S (6 + v2.toNatClampNeg)) (S (o0 + 1)) (0 : Int32).toNatClampNeg (v2 * (5 : Int32)).toNatClampNeg (5 : Int32).toNatClampNeg)) (fun S3 => (ckM v2 6 (bnd (up2 S3 (o0 + 2) v2.toNatClampNeg (0 : Int32)) (fun S4 => (ckM v2 6 (bnd (up2 S4 (o0 + 3) v2.toNatClampNeg v2) (fun S5 => (ckM v2 6 (bnd (up2 S5 (o0 + 4) v2.toNatClampNeg (9 : Int32)) (fun S6 => (bnd (v2 + (1 : Int32)) (fun x7 => ((c_State_begin_3_h7 o0 n) x7 S6)))))))))))))))))
set_option maxHeartbeats 4000000 in
set_option maxRecDepth 100000 in
theorem c_State_begin_3_h7_ok {d : Nat} (h : Cx p s m c cX6_begin 3 RX6 s0 args0 D ca a A) (hr : meth.sig.returnType = none) (hlk : meth.locks = false) (hD : 1 ≤ d) (o0 : Nat) (ho0 : isSt o0) : ∀ (n : Nat) (v2 : Int32) (S : St), VV p l e (rmd d) s m args below meth c D ca tpC a A 3 (QmV D ca tpC a A below args s) S [(0, .ref (a o0)), (1, .ref (a 3)), (2, .int v2)] 7 [] (c_State_begin_3_h7 o0 n v2 S) := by
  intro n
  induction n with
  | zero => intro v2 S; exact V_none
  | succ n ih =>
    intro v2 S
    unfold c_State_begin_3_h7
    refine V_iload_n (pc := 7) h 2 dX6_begin_7 rfl rfl ?_
    refine V_bipush (pc := 8) (v := 6) h dX6_begin_8 (by decide) ?_
    refine V_icmp_ge (pc := 10) h 59 dX6_begin_10 (by decide) ?_ ?_
    · exact V_vret (pc := 59) h hr hlk dX6_begin_59
    · refine V_aload_n (pc := 13) h 1 dX6_begin_13 rfl rfl ?_
      refine V_get (pc := 14) h 3 3 (.ref (a 5)) fl_X6_28_X8 oC_3 rfl rfl dX6_begin_14 ?_
      refine V_iload_n (pc := 17) h 2 dX6_begin_17 rfl rfl ?_
      refine V_aald0 (pc := 18) h 5 oC_5 (by decide) dX6_begin_18 (fun h1 h2 => ?_)
      refine V_iconst (pc := 19) (v := 0) h dX6_begin_19 (by decide) ?_
      refine V_aload_n (pc := 20) h 0 dX6_begin_20 rfl rfl ?_
      refine V_get (pc := 21) h o0 1 (.ref (a (o0 + 1))) fl_X6_9_X6 ho0.1 rfl rfl dX6_begin_21 ?_
      refine V_iload_n (pc := 24) h 2 dX6_begin_24 rfl rfl ?_
      refine V_iconst (pc := 25) (v := 5) h dX6_begin_25 (by decide) ?_
      refine V_imul (pc := 26) h dX6_begin_26 ?_
      refine V_iconst (pc := 27) (v := 5) h dX6_begin_27 (by decide) ?_
      refine V_copy (pc := 28) h (6 + v2.toNatClampNeg) (o0 + 1) (rC_5 _ h2) ho0.2.1 dX6_begin_28 tw_3_140 tw_2_151 tw_2_150 tw_1_13 (Nat.le_trans (by decide) hD) (Nat.le_of_ble_eq_true rfl) (fun S3 => ?_)
      refine V_aload_n (pc := 31) h 0 dX6_begin_31 rfl rfl ?_
      refine V_get (pc := 32) h o0 2 (.ref (a (o0 + 2))) fl_X6_15_X6 ho0.1 rfl rfl dX6_begin_32 ?_
      refine V_iload_n (pc := 35) h 2 dX6_begin_35 rfl rfl ?_
      refine V_iconst (pc := 36) (v := 0) h dX6_begin_36 (by decide) ?_
      refine V_iast (pc := 37) h (o0 + 2) ho0.2.2.1 dX6_begin_37 (fun S4 => ?_)
      refine V_aload_n (pc := 38) h 0 dX6_begin_38 rfl rfl ?_
      refine V_get (pc := 39) h o0 3 (.ref (a (o0 + 3))) fl_X6_18_X6 ho0.1 rfl rfl dX6_begin_39 ?_
      refine V_iload_n (pc := 42) h 2 dX6_begin_42 rfl rfl ?_
      refine V_iload_n (pc := 43) h 2 dX6_begin_43 rfl rfl ?_
      refine V_iast (pc := 44) h (o0 + 3) ho0.2.2.2.1 dX6_begin_44 (fun S5 => ?_)
      refine V_aload_n (pc := 45) h 0 dX6_begin_45 rfl rfl ?_
      refine V_get (pc := 46) h o0 4 (.ref (a (o0 + 4))) fl_X6_21_X6 ho0.1 rfl rfl dX6_begin_46 ?_
      refine V_iload_n (pc := 49) h 2 dX6_begin_49 rfl rfl ?_
      refine V_bipush (pc := 50) (v := 9) h dX6_begin_50 (by decide) ?_
      refine V_iast (pc := 52) h (o0 + 4) ho0.2.2.2.2 dX6_begin_52 (fun S6 => ?_)
      refine V_iincB (pc := 53) h 2 (1 : Int32) (fun x7 => [(2, .int x7), (0, .ref (a o0)), (1, .ref (a 3))]) dX6_begin_53 rfl (by decide) (by decide) (fun _ => rfl) (fun x7 => ?_)
      refine V_goto (pc := 56) h 7 dX6_begin_56 (by decide) ?_
      exact V_ls [1, 2, 0] rfl (ih x7 S6)
def c_State_begin_3 (o0 : Nat) (S : St) : Option St := (bnd (up2 S o0 0 (0 : Int32)) (fun S1 => (c_State_begin_3_h7 o0 FU (0 : Int32) S1)))
set_option maxHeartbeats 4000000 in
set_option maxRecDepth 100000 in
theorem c_State_begin_3_ok {d : Nat} (h : Cx p s m c cX6_begin 3 RX6 s0 args0 D ca a A) (hr : meth.sig.returnType = none) (hlk : meth.locks = false) (hD : 1 ≤ d) (o0 : Nat) (ho0 : isSt o0) (S : St) : VV p l e (rmd d) s m args below meth c D ca tpC a A 3 (QmV D ca tpC a A below args s) S [(0, .ref (a o0)), (1, .ref (a 3))] 0 [] (c_State_begin_3 o0 S) := by
  unfold c_State_begin_3
  refine V_aload_n (pc := 0) h 0 dX6_begin_0 rfl rfl ?_
  refine V_iconst (pc := 1) (v := 0) h dX6_begin_1 (by decide) ?_
  refine V_put (pc := 2) h o0 0 (0 : Int32) fp_X6_24_X6 ho0.1 rfl rfl rfl rfl dX6_begin_2 (fun S1 => ?_)
  refine V_iconst (pc := 5) (v := 0) h dX6_begin_5 (by decide) ?_
  refine V_istore_n (pc := 6) h [(2, .int (0 : Int32)), (0, .ref (a o0)), (1, .ref (a 3))] dX6_begin_6 rfl (by decide) rfl ?_
  exact V_ls [1, 2, 0] rfl (c_State_begin_3_h7_ok h hr hlk hD o0 ho0 FU (0 : Int32) S1)
theorem c_State_begin_3_ct {d : Nat} (g : GG s0 args0 D ca a A) (hD : 1 ≤ d) {o0 : Nat} (ho0 : isSt o0) (S : St) (z : St) (hz : c_State_begin_3 o0 S = some z) : CtV l yX6_begin cX6_begin 3 d s0 D ca tpC a A [.ref (a o0), .ref (a 3)] S z := CtV_mk g (by decide +kernel) (Nat.le_of_ble_eq_true rfl) hz (fun p e s m args below meth c h hr hlk => c_State_begin_3_ok h hr hlk hD o0 ho0 S)
def c_Past_forget (S : St) : Option St := (bnd (up2 S 48 2 (0 : Int32)) (fun S1 => (bnd (up2 S1 48 3 (0 : Int32)) (fun S2 => (some S2)))))
set_option maxHeartbeats 4000000 in
set_option maxRecDepth 100000 in
theorem c_Past_forget_ok {d : Nat} (h : Cx p s m c cX4_forget 1 RX4 s0 args0 D ca a A) (hr : meth.sig.returnType = none) (hlk : meth.locks = false) (hD : 1 ≤ d) (S : St) : VV p l e (rmd d) s m args below meth c D ca tpC a A 1 (QmV D ca tpC a A below args s) S [(0, .ref (a 48))] 0 [] (c_Past_forget S) := by
  unfold c_Past_forget
  refine V_aload_n (pc := 0) h 0 dX4_forget_0 rfl rfl ?_
  refine V_iconst (pc := 1) (v := 0) h dX4_forget_1 (by decide) ?_
  refine V_put (pc := 2) h 48 2 (0 : Int32) fp_X4_19_X4 oC_48 rfl rfl rfl rfl dX4_forget_2 (fun S1 => ?_)
  refine V_aload_n (pc := 5) h 0 dX4_forget_5 rfl rfl ?_
  refine V_iconst (pc := 6) (v := 0) h dX4_forget_6 (by decide) ?_
  refine V_put (pc := 7) h 48 3 (0 : Int32) fp_X4_23_X4 oC_48 rfl rfl rfl rfl dX4_forget_7 (fun S2 => ?_)
  exact V_vret (pc := 10) h hr hlk dX4_forget_10
theorem c_Past_forget_ct {d : Nat} (g : GG s0 args0 D ca a A) (hD : 1 ≤ d) (S : St) (z : St) (hz : c_Past_forget S = some z) : CtV l yX4_forget cX4_forget 1 d s0 D ca tpC a A [.ref (a 48)] S z := CtV_mk g (by decide +kernel) (Nat.le_of_ble_eq_true rfl) hz (fun p e s m args below meth c h hr hlk => c_Past_forget_ok h hr hlk hD S)
def c_N_hold (v1 : Int32) (S : St) : Option St := (bnd (up2 S 0 5 v1) (fun S1 => (if v1 < 0 then (bnd (up2 S1 111 6 (-1 : Int32)) (fun S2 => (some S2))) else (if (4 : Int32) ≤ v1 then (bnd (up2 S1 111 6 (-1 : Int32)) (fun S3 => (some S3))) else (ckM v1 4 (bnd (up2 S1 111 6 v1) (fun S6 => (some S6))))))))
set_option maxHeartbeats 4000000 in
set_option maxRecDepth 100000 in
theorem c_N_hold_ok {d : Nat} (h : Cx p s m c cX10_hold 2 RX10 s0 args0 D ca a A) (hr : meth.sig.returnType = none) (hlk : meth.locks = false) (hD : 1 ≤ d) (v1 : Int32) (S : St) : VV p l e (rmd d) s m args below meth c D ca tpC a A 2 (QmV D ca tpC a A below args s) S [(0, .ref (a 0)), (1, .int v1)] 0 [] (c_N_hold v1 S) := by
  unfold c_N_hold
  refine V_aload_n (pc := 0) h 0 dX10_hold_0 rfl rfl ?_
  refine V_iload_n (pc := 1) h 1 dX10_hold_1 rfl rfl ?_
  refine V_put (pc := 2) h 0 5 v1 fp_X10_43_X10 oC_0 rfl rfl rfl rfl dX10_hold_2 (fun S1 => ?_)
  refine V_aload_n (pc := 5) h 0 dX10_hold_5 rfl rfl ?_
  refine V_get (pc := 6) h 0 12 (.ref (a 111)) fl_X10_82_X10 oC_0 rfl rfl dX10_hold_6 ?_
  refine V_iload_n (pc := 9) h 1 dX10_hold_9 rfl rfl ?_
  refine V_if_lt (pc := 10) h 27 dX10_hold_10 (by decide) ?_ ?_
  · refine V_null (pc := 27) h dX10_hold_27 ?_
    refine V_put (pc := 28) h 111 6 (-1 : Int32) fp_X10_176_X3 oC_111 rfl (fvv_dynN) rfl rfl dX10_hold_28 (fun S2 => ?_)
    exact V_vret (pc := 31) h hr hlk dX10_hold_31
  · refine V_iload_n (pc := 13) h 1 dX10_hold_13 rfl rfl ?_
    refine V_iconst (pc := 14) (v := 4) h dX10_hold_14 (by decide) ?_
    refine V_icmp_ge (pc := 15) h 27 dX10_hold_15 (by decide) ?_ ?_
    · refine V_null (pc := 27) h dX10_hold_27 ?_
      refine V_put (pc := 28) h 111 6 (-1 : Int32) fp_X10_176_X3 oC_111 rfl (fvv_dynN) rfl rfl dX10_hold_28 (fun S3 => ?_)
      exact V_vret (pc := 31) h hr hlk dX10_hold_31
    · refine V_aload_n (pc := 18) h 0 dX10_hold_18 rfl rfl ?_
      refine V_get (pc := 19) h 0 3 (.ref (a 15)) fl_X10_34_X10 oC_0 rfl rfl dX10_hold_19 ?_
      refine V_iload_n (pc := 22) h 1 dX10_hold_22 rfl rfl ?_
      refine V_aald0 (pc := 23) h 15 oC_15 (by decide) dX10_hold_23 (fun h4 h5 => ?_)
      refine V_goto (pc := 24) h 28 dX10_hold_24 (by decide) ?_
      refine V_put (pc := 28) h 111 6 v1 fp_X10_176_X3 oC_111 rfl (fvv_dynP h4) rfl rfl dX10_hold_28 (fun S6 => ?_)
      exact V_vret (pc := 31) h hr hlk dX10_hold_31
theorem c_N_hold_ct {d : Nat} (g : GG s0 args0 D ca a A) (hD : 1 ≤ d) (v1 : Int32) (S : St) (z : St) (hz : c_N_hold v1 S = some z) : CtV l yX10_hold cX10_hold 2 d s0 D ca tpC a A [.ref (a 0), .int v1] S z := CtV_mk g (by decide +kernel) (Nat.le_of_ble_eq_true rfl) hz (fun p e s m args below meth c h hr hlk => c_N_hold_ok h hr hlk hD v1 S)
def c_N_moveToStreet (S : St) : Option St := (bV (c_Street_learn_3 S) (fun S1 => (bV (c_State_begin_3 33 S1) (fun S2 => (bV (c_Past_forget S2) (fun S3 => (bnd (up2 S3 0 10 (0 : Int32)) (fun S4 => (bV (c_N_hold (-1 : Int32) S4) (fun S5 => (some S5)))))))))))
set_option maxHeartbeats 4000000 in
set_option maxRecDepth 100000 in
theorem c_N_moveToStreet_ok {d : Nat} (h : Cx p s m c cX10_moveToStreet 1 RX10 s0 args0 D ca a A) (hr : meth.sig.returnType = none) (hlk : meth.locks = false) (hD : 2 ≤ d) (S : St) : VV p l e (rmd d) s m args below meth c D ca tpC a A 1 (QmV D ca tpC a A below args s) S [(0, .ref (a 0))] 0 [] (c_N_moveToStreet S) := by
  unfold c_N_moveToStreet
  refine V_aload_n (pc := 0) h 0 dX10_moveToStreet_0 rfl rfl ?_
  refine V_get (pc := 1) h 0 6 (.ref (a 28)) fl_X10_49_X10 oC_0 rfl rfl dX10_moveToStreet_1 ?_
  refine V_aload_n (pc := 4) h 0 dX10_moveToStreet_4 rfl rfl ?_
  refine V_get (pc := 5) h 0 1 (.ref (a 3)) fl_X10_21_X10 oC_0 rfl rfl dX10_moveToStreet_5 ?_
  refine V_callVV (pc := 8) (dy := 1) (q := (RX7, TX7, 8)) h [.ref (a 3)] [] 28 mv_X10_125 oC_28 rfl dX10_moveToStreet_8 rfl rfl (Nat.le_of_ble_eq_true rfl) (Nat.le_trans (by decide) hD) (c_Street_learn_3 S) (fun z9 hz9 => c_Street_learn_3_ct h.gg (Nat.le_refl 1) S z9 hz9) (fun S1 => ?_)
  refine V_aload_n (pc := 11) h 0 dX10_moveToStreet_11 rfl rfl ?_
  refine V_get (pc := 12) h 0 7 (.ref (a 33)) fl_X10_56_X10 oC_0 rfl rfl dX10_moveToStreet_12 ?_
  refine V_aload_n (pc := 15) h 0 dX10_moveToStreet_15 rfl rfl ?_
  refine V_get (pc := 16) h 0 1 (.ref (a 3)) fl_X10_21_X10 oC_0 rfl rfl dX10_moveToStreet_16 ?_
  refine V_callVV (pc := 19) (dy := 1) (q := (RX6, TX6, 5)) h [.ref (a 3)] [] 33 mv_X10_128 oC_33 rfl dX10_moveToStreet_19 rfl rfl (Nat.le_of_ble_eq_true rfl) (Nat.le_trans (by decide) hD) (c_State_begin_3 33 S1) (fun z9 hz9 => c_State_begin_3_ct h.gg (Nat.le_refl 1) isSt_33 S1 z9 hz9) (fun S2 => ?_)
  refine V_aload_n (pc := 22) h 0 dX10_moveToStreet_22 rfl rfl ?_
  refine V_get (pc := 23) h 0 11 (.ref (a 48)) fl_X10_73_X10 oC_0 rfl rfl dX10_moveToStreet_23 ?_
  refine V_callVV (pc := 26) (dy := 1) (q := (RX4, TX4, 4)) h [] [] 48 mv_X10_131 oC_48 rfl dX10_moveToStreet_26 rfl rfl (Nat.le_of_ble_eq_true rfl) (Nat.le_trans (by decide) hD) (c_Past_forget S2) (fun z9 hz9 => c_Past_forget_ct h.gg (Nat.le_refl 1) S2 z9 hz9) (fun S3 => ?_)
  refine V_aload_n (pc := 29) h 0 dX10_moveToStreet_29 rfl rfl ?_
  refine V_iconst (pc := 30) (v := 0) h dX10_moveToStreet_30 (by decide) ?_
  refine V_put (pc := 31) h 0 10 (0 : Int32) fp_X10_66_X10 oC_0 rfl rfl rfl rfl dX10_moveToStreet_31 (fun S4 => ?_)
  refine V_aload_n (pc := 34) h 0 dX10_moveToStreet_34 rfl rfl ?_
  refine V_iconst (pc := 35) (v := -1) h dX10_moveToStreet_35 (by decide) ?_
  refine V_callVV (pc := 36) (dy := 1) (q := (RX10, TX10, 15)) h [.int (-1 : Int32)] [] 0 mv_X10_134 oC_0 rfl dX10_moveToStreet_36 rfl rfl (Nat.le_of_ble_eq_true rfl) (Nat.le_trans (by decide) hD) (c_N_hold (-1 : Int32) S4) (fun z9 hz9 => c_N_hold_ct h.gg (Nat.le_refl 1) (-1 : Int32) S4 z9 hz9) (fun S5 => ?_)
  exact V_vret (pc := 39) h hr hlk dX10_moveToStreet_39
theorem c_N_moveToStreet_ct {d : Nat} (g : GG s0 args0 D ca a A) (hD : 2 ≤ d) (S : St) (z : St) (hz : c_N_moveToStreet S = some z) : CtV l yX10_moveToStreet cX10_moveToStreet 1 d s0 D ca tpC a A [.ref (a 0)] S z := CtV_mk g (by decide +kernel) (Nat.le_of_ble_eq_true rfl) hz (fun p e s m args below meth c h hr hlk => c_N_moveToStreet_ok h hr hlk hD S)
def c_Liking_learn_13 (o0 : Nat) (S : St) : Option St := (bnd (up2 S o0 2 (S 13 3)) (fun S1 => (cpM (0 : Int32) (0 : Int32) (160 : Int32) 160 160 (bnd (upR S1 (o0 + 4) (cpy (S1 14) (S1 (o0 + 4)) (0 : Int32).toNatClampNeg (0 : Int32).toNatClampNeg (160 : Int32).toNatClampNeg)) (fun S2 => (some S2))))))
set_option maxHeartbeats 4000000 in
set_option maxRecDepth 100000 in
theorem c_Liking_learn_13_ok {d : Nat} (h : Cx p s m c cX1_learn 2 RX1 s0 args0 D ca a A) (hr : meth.sig.returnType = none) (hlk : meth.locks = false) (hD : 1 ≤ d) (o0 : Nat) (ho0 : isLk o0) (S : St) : VV p l e (rmd d) s m args below meth c D ca tpC a A 2 (QmV D ca tpC a A below args s) S [(0, .ref (a o0)), (1, .ref (a 13))] 0 [] (c_Liking_learn_13 o0 S) := by
  unfold c_Liking_learn_13
  refine V_aload_n (pc := 0) h 0 dX1_learn_0 rfl rfl ?_
  refine V_aload_n (pc := 1) h 1 dX1_learn_1 rfl rfl ?_
  refine V_get (pc := 2) h 13 3 (.int (S 13 3)) fl_X1_18_X2 oC_13 rfl rfl dX1_learn_2 ?_
  refine V_put (pc := 5) h o0 2 (S 13 3) fp_X1_24_X1 ho0.1 rfl rfl rfl rfl dX1_learn_5 (fun S1 => ?_)
  refine V_aload_n (pc := 8) h 1 dX1_learn_8 rfl rfl ?_
  refine V_get (pc := 9) h 13 2 (.ref (a 14)) fl_X1_25_X2 oC_13 rfl rfl dX1_learn_9 ?_
  refine V_iconst (pc := 12) (v := 0) h dX1_learn_12 (by decide) ?_
  refine V_aload_n (pc := 13) h 0 dX1_learn_13 rfl rfl ?_
  refine V_get (pc := 14) h o0 0 (.ref (a (o0 + 4))) fl_X1_9_X1 ho0.1 rfl rfl dX1_learn_14 ?_
  refine V_iconst (pc := 17) (v := 0) h dX1_learn_17 (by decide) ?_
  refine V_aload_n (pc := 18) h 0 dX1_learn_18 rfl rfl ?_
  refine V_get (pc := 19) h o0 0 (.ref (a (o0 + 4))) fl_X1_9_X1 ho0.1 rfl rfl dX1_learn_19 ?_
  refine V_alen (pc := 22) h (o0 + 4) (160 : Int32) ho0.2.1 (by decide) (by decide) dX1_learn_22 ?_
  refine V_copy (pc := 23) h 14 (o0 + 4) oC_14 ho0.2.1 dX1_learn_23 tw_3_153 tw_2_151 tw_2_150 tw_1_13 (Nat.le_trans (by decide) hD) (Nat.le_of_ble_eq_true rfl) (fun S2 => ?_)
  exact V_vret (pc := 26) h hr hlk dX1_learn_26
theorem c_Liking_learn_13_ct {d : Nat} (g : GG s0 args0 D ca a A) (hD : 1 ≤ d) {o0 : Nat} (ho0 : isLk o0) (S : St) (z : St) (hz : c_Liking_learn_13 o0 S = some z) : CtV l yX1_learn cX1_learn 2 d s0 D ca tpC a A [.ref (a o0), .ref (a 13)] S z := CtV_mk g (by decide +kernel) (Nat.le_of_ble_eq_true rfl) hz (fun p e s m args below meth c h hr hlk => c_Liking_learn_13_ok h hr hlk hD o0 ho0 S)
def c_N_text_b35 (v1 : Int32) (S : St) : Option (Int32 × St) := (if v1 = (1 : Int32) then (if (4 : Int32) ≤ (S 0 4) then (some ((-1 : Int32), S)) else (bI (c_Reader_read_13 S) (fun x2 S1 => (if x2 = (-1 : Int32) then (bnd (up2 S1 1 1 (0 : Int32)) (fun S3 => (ckM (S3 0 4) 4 (bV (c_Liking_learn_13 (16 + (S3 0 4).toNatClampNeg) S3) (fun S6 => (bnd (up2 S6 0 4 ((S6 0 4) + (1 : Int32))) (fun S7 => (some (((S7 0 4) - (1 : Int32)), S7))))))))) else (some ((-1 : Int32), S1)))))) else (some ((-1 : Int32), S)))
set_option maxHeartbeats 4000000 in
set_option maxRecDepth 100000 in
theorem c_N_text_b35_ok {d : Nat} (h : Cx p s m c cX10_text 2 RX10 s0 args0 D ca a A) (hr : meth.sig.returnType = some .int) (hlk : meth.locks = false) (hD : 48 ≤ d) (v1 : Int32) (S : St) : VV p l e (rmd d) s m args below meth c D ca tpC a A 2 (QmI D ca tpC a A below args s) S [(0, .ref (a 0)), (1, .int v1)] 35 [] (c_N_text_b35 v1 S) := by
  unfold c_N_text_b35
  refine V_iload_n (pc := 35) h 1 dX10_text_35 rfl rfl ?_
  refine V_iconst (pc := 36) (v := 1) h dX10_text_36 (by decide) ?_
  refine V_icmp_ne (pc := 37) h 100 dX10_text_37 (by decide) ?_ ?_
  · refine V_iconst (pc := 100) (v := -1) h dX10_text_100 (by decide) ?_
    exact V_iret (pc := 101) h hr hlk dX10_text_101
  · refine V_aload_n (pc := 40) h 0 dX10_text_40 rfl rfl ?_
    refine V_get (pc := 41) h 0 4 (.int (S 0 4)) fl_X10_39_X10 oC_0 rfl rfl dX10_text_41 ?_
    refine V_iconst (pc := 44) (v := 4) h dX10_text_44 (by decide) ?_
    refine V_icmp_ge (pc := 45) h 100 dX10_text_45 (by decide) ?_ ?_
    · refine V_iconst (pc := 100) (v := -1) h dX10_text_100 (by decide) ?_
      exact V_iret (pc := 101) h hr hlk dX10_text_101
    · refine V_aload_n (pc := 48) h 0 dX10_text_48 rfl rfl ?_
      refine V_get (pc := 49) h 0 2 (.ref (a 13)) fl_X10_28_X10 oC_0 rfl rfl dX10_text_49 ?_
      refine V_callUI (pc := 52) (dy := 47) (q := (RX2, TX2, 4)) h [] [] 13 mu_X10_114_X2 oC_13 rfl dX10_text_52 rfl rfl (Nat.le_of_ble_eq_true rfl) (Nat.le_trans (by decide) hD) (c_Reader_read_13 S) (fun z9 hz9 => c_Reader_read_13_ct h.gg (Nat.le_refl 47) S z9 hz9) (fun x2 S1 => ?_)
      refine V_iconst (pc := 55) (v := -1) h dX10_text_55 (by decide) ?_
      refine V_icmp_ne (pc := 56) h 100 dX10_text_56 (by decide) ?_ ?_
      · refine V_iconst (pc := 100) (v := -1) h dX10_text_100 (by decide) ?_
        exact V_iret (pc := 101) h hr hlk dX10_text_101
      · refine V_aload_n (pc := 59) h 0 dX10_text_59 rfl rfl ?_
        refine V_get (pc := 60) h 0 0 (.ref (a 1)) fl_X10_10_X10 oC_0 rfl rfl dX10_text_60 ?_
        refine V_iconst (pc := 63) (v := 0) h dX10_text_63 (by decide) ?_
        refine V_put (pc := 64) h 1 1 (0 : Int32) fp_X10_103_X9 oC_1 rfl rfl rfl rfl dX10_text_64 (fun S3 => ?_)
        refine V_aload_n (pc := 67) h 0 dX10_text_67 rfl rfl ?_
        refine V_get (pc := 68) h 0 3 (.ref (a 15)) fl_X10_34_X10 oC_0 rfl rfl dX10_text_68 ?_
        refine V_aload_n (pc := 71) h 0 dX10_text_71 rfl rfl ?_
        refine V_get (pc := 72) h 0 4 (.int (S3 0 4)) fl_X10_39_X10 oC_0 rfl rfl dX10_text_72 ?_
        refine V_aald0 (pc := 75) h 15 oC_15 (by decide) dX10_text_75 (fun h4 h5 => ?_)
        refine V_aload_n (pc := 76) h 0 dX10_text_76 rfl rfl ?_
        refine V_get (pc := 77) h 0 2 (.ref (a 13)) fl_X10_28_X10 oC_0 rfl rfl dX10_text_77 ?_
        refine V_callVV (pc := 80) (dy := 1) (q := (RX1, TX1, 3)) h [.ref (a 13)] [] (16 + (S3 0 4).toNatClampNeg) mv_X10_121 (isLk_all _ h5).1 rfl dX10_text_80 rfl rfl (Nat.le_of_ble_eq_true rfl) (Nat.le_trans (by decide) hD) (c_Liking_learn_13 (16 + (S3 0 4).toNatClampNeg) S3) (fun z9 hz9 => c_Liking_learn_13_ct h.gg (Nat.le_refl 1) (isLk_all _ h5) S3 z9 hz9) (fun S6 => ?_)
        refine V_aload_n (pc := 83) h 0 dX10_text_83 rfl rfl ?_
        refine V_dup (pc := 84) h dX10_text_84 rfl ?_
        refine V_get (pc := 85) h 0 4 (.int (S6 0 4)) fl_X10_39_X10 oC_0 rfl rfl dX10_text_85 ?_
        refine V_iconst (pc := 88) (v := 1) h dX10_text_88 (by decide) ?_
        refine V_iadd (pc := 89) h dX10_text_89 ?_
        refine V_put (pc := 90) h 0 4 ((S6 0 4) + (1 : Int32)) fp_X10_39_X10 oC_0 rfl rfl rfl rfl dX10_text_90 (fun S7 => ?_)
        refine V_aload_n (pc := 93) h 0 dX10_text_93 rfl rfl ?_
        refine V_get (pc := 94) h 0 4 (.int (S7 0 4)) fl_X10_39_X10 oC_0 rfl rfl dX10_text_94 ?_
        refine V_iconst (pc := 97) (v := 1) h dX10_text_97 (by decide) ?_
        refine V_isub (pc := 98) h dX10_text_98 ?_
        exact V_iret (pc := 99) h hr hlk dX10_text_99
def c_N_text (v1 : Int32) (S : St) : Option (Int32 × St) := (if v1 = 0 then (bI (c_Reader_read_3 S) (fun x2 S1 => (if x2 = (-1 : Int32) then (bnd (up2 S1 1 1 (0 : Int32)) (fun S3 => (bV (c_N_moveToStreet S3) (fun S4 => (some ((S4 28 0), S4)))))) else (c_N_text_b35 v1 S1)))) else (c_N_text_b35 v1 S))
set_option maxHeartbeats 4000000 in
set_option maxRecDepth 100000 in
theorem c_N_text_ok {d : Nat} (h : Cx p s m c cX10_text 2 RX10 s0 args0 D ca a A) (hr : meth.sig.returnType = some .int) (hlk : meth.locks = false) (hD : 48 ≤ d) (v1 : Int32) (S : St) : VV p l e (rmd d) s m args below meth c D ca tpC a A 2 (QmI D ca tpC a A below args s) S [(0, .ref (a 0)), (1, .int v1)] 0 [] (c_N_text v1 S) := by
  unfold c_N_text
  refine V_iload_n (pc := 0) h 1 dX10_text_0 rfl rfl ?_
  refine V_if_ne (pc := 1) h 35 dX10_text_1 (by decide) ?_ ?_
  · exact V_ls [0, 1] rfl (c_N_text_b35_ok h hr hlk hD v1 S)
  · refine V_aload_n (pc := 4) h 0 dX10_text_4 rfl rfl ?_
    refine V_get (pc := 5) h 0 1 (.ref (a 3)) fl_X10_21_X10 oC_0 rfl rfl dX10_text_5 ?_
    refine V_callUI (pc := 8) (dy := 7) (q := (RX8, TX8, 8)) h [] [] 3 mu_X10_110_X8 oC_3 rfl dX10_text_8 rfl rfl (Nat.le_of_ble_eq_true rfl) (Nat.le_trans (by decide) hD) (c_Reader_read_3 S) (fun z9 hz9 => c_Reader_read_3_ct h.gg (Nat.le_refl 7) S z9 hz9) (fun x2 S1 => ?_)
    refine V_iconst (pc := 11) (v := -1) h dX10_text_11 (by decide) ?_
    refine V_icmp_ne (pc := 12) h 35 dX10_text_12 (by decide) ?_ ?_
    · exact V_ls [0, 1] rfl (c_N_text_b35_ok h hr hlk hD v1 S1)
    · refine V_aload_n (pc := 15) h 0 dX10_text_15 rfl rfl ?_
      refine V_get (pc := 16) h 0 0 (.ref (a 1)) fl_X10_10_X10 oC_0 rfl rfl dX10_text_16 ?_
      refine V_iconst (pc := 19) (v := 0) h dX10_text_19 (by decide) ?_
      refine V_put (pc := 20) h 1 1 (0 : Int32) fp_X10_103_X9 oC_1 rfl rfl rfl rfl dX10_text_20 (fun S3 => ?_)
      refine V_aload_n (pc := 23) h 0 dX10_text_23 rfl rfl ?_
      refine V_callVV (pc := 24) (dy := 2) (q := (RX10, TX10, 15)) h [] [] 0 mv_X10_115 oC_0 rfl dX10_text_24 rfl rfl (Nat.le_of_ble_eq_true rfl) (Nat.le_trans (by decide) hD) (c_N_moveToStreet S3) (fun z9 hz9 => c_N_moveToStreet_ct h.gg (Nat.le_refl 2) S3 z9 hz9) (fun S4 => ?_)
      refine V_aload_n (pc := 27) h 0 dX10_text_27 rfl rfl ?_
      refine V_get (pc := 28) h 0 6 (.ref (a 28)) fl_X10_49_X10 oC_0 rfl rfl dX10_text_28 ?_
      refine V_get (pc := 31) h 28 0 (.int (S4 28 0)) fl_X10_118_X7 oC_28 rfl rfl dX10_text_31 ?_
      exact V_iret (pc := 34) h hr hlk dX10_text_34
theorem c_N_text_ct {d : Nat} (g : GG s0 args0 D ca a A) (hD : 48 ≤ d) (v1 : Int32) (S : St) (z : Int32 × St) (hz : c_N_text v1 S = some z) : CtI l yX10_text cX10_text 2 .int d s0 D ca tpC a A [.ref (a 0), .int v1] S z := CtI_mk g (by decide +kernel) (Nat.le_of_ble_eq_true rfl) hz (fun p e s m args below meth c h hr hlk => c_N_text_ok h hr hlk hD v1 S)
def c_N_hasStreet (S : St) : Option (Int32 × St) := (if (S 28 0) ≤ 0 then (nzM (0 : Int32) (some ((0 : Int32), S))) else (nzM (1 : Int32) (some ((1 : Int32), S))))
set_option maxHeartbeats 4000000 in
set_option maxRecDepth 100000 in
theorem c_N_hasStreet_ok {d : Nat} (h : Cx p s m c cX10_hasStreet 1 RX10 s0 args0 D ca a A) (hr : meth.sig.returnType = some .boolean) (hlk : meth.locks = false) (hD : 1 ≤ d) (S : St) : VV p l e (rmd d) s m args below meth c D ca tpC a A 1 (QmI D ca tpC a A below args s) S [(0, .ref (a 0))] 0 [] (c_N_hasStreet S) := by
  unfold c_N_hasStreet
  refine V_aload_n (pc := 0) h 0 dX10_hasStreet_0 rfl rfl ?_
  refine V_get (pc := 1) h 0 6 (.ref (a 28)) fl_X10_49_X10 oC_0 rfl rfl dX10_hasStreet_1 ?_
  refine V_get (pc := 4) h 28 0 (.int (S 28 0)) fl_X10_118_X7 oC_28 rfl rfl dX10_hasStreet_4 ?_
  refine V_if_le (pc := 7) h 14 dX10_hasStreet_7 (by decide) ?_ ?_
  · refine V_iconst (pc := 14) (v := 0) h dX10_hasStreet_14 (by decide) ?_
    exact V_zret (pc := 15) h hr hlk dX10_hasStreet_15
  · refine V_iconst (pc := 10) (v := 1) h dX10_hasStreet_10 (by decide) ?_
    refine V_goto (pc := 11) h 15 dX10_hasStreet_11 (by decide) ?_
    exact V_zret (pc := 15) h hr hlk dX10_hasStreet_15
theorem c_N_hasStreet_ct {d : Nat} (g : GG s0 args0 D ca a A) (hD : 1 ≤ d) (S : St) (z : Int32 × St) (hz : c_N_hasStreet S = some z) : CtI l yX10_hasStreet cX10_hasStreet 1 .boolean d s0 D ca tpC a A [.ref (a 0)] S z := CtI_mk g (by decide +kernel) (Nat.le_of_ble_eq_true rfl) hz (fun p e s m args below meth c h hr hlk => c_N_hasStreet_ok h hr hlk hD S)
def c_N_liking (v1 : Int32) (S : St) : Option (Int32 × St) := (bI (c_N_hasStreet S) (fun x2 S1 => (if x2 = 0 then (nzM (0 : Int32) (some ((0 : Int32), S1))) else (if v1 < (-1 : Int32) then (nzM (0 : Int32) (some ((0 : Int32), S1))) else (if v1 < (S1 0 4) then (bV (c_N_hold v1 S1) (fun S3 => (nzM (1 : Int32) (some ((1 : Int32), S3))))) else (nzM (0 : Int32) (some ((0 : Int32), S1))))))))
set_option maxHeartbeats 4000000 in
set_option maxRecDepth 100000 in
theorem c_N_liking_ok {d : Nat} (h : Cx p s m c cX10_liking 2 RX10 s0 args0 D ca a A) (hr : meth.sig.returnType = some .boolean) (hlk : meth.locks = false) (hD : 2 ≤ d) (v1 : Int32) (S : St) : VV p l e (rmd d) s m args below meth c D ca tpC a A 2 (QmI D ca tpC a A below args s) S [(0, .ref (a 0)), (1, .int v1)] 0 [] (c_N_liking v1 S) := by
  unfold c_N_liking
  refine V_aload_n (pc := 0) h 0 dX10_liking_0 rfl rfl ?_
  refine V_callVI (pc := 1) (dy := 1) (q := (RX10, TX10, 15)) h [] [] 0 mv_X10_172 oC_0 rfl dX10_liking_1 rfl rfl (Nat.le_of_ble_eq_true rfl) (Nat.le_trans (by decide) hD) (c_N_hasStreet S) (fun z9 hz9 => c_N_hasStreet_ct h.gg (Nat.le_refl 1) S z9 hz9) (fun x2 S1 => ?_)
  refine V_if_eq (pc := 4) h 20 dX10_liking_4 (by decide) ?_ ?_
  · refine V_iconst (pc := 20) (v := 0) h dX10_liking_20 (by decide) ?_
    exact V_zret (pc := 21) h hr hlk dX10_liking_21
  · refine V_iload_n (pc := 7) h 1 dX10_liking_7 rfl rfl ?_
    refine V_iconst (pc := 8) (v := -1) h dX10_liking_8 (by decide) ?_
    refine V_icmp_lt (pc := 9) h 20 dX10_liking_9 (by decide) ?_ ?_
    · refine V_iconst (pc := 20) (v := 0) h dX10_liking_20 (by decide) ?_
      exact V_zret (pc := 21) h hr hlk dX10_liking_21
    · refine V_iload_n (pc := 12) h 1 dX10_liking_12 rfl rfl ?_
      refine V_aload_n (pc := 13) h 0 dX10_liking_13 rfl rfl ?_
      refine V_get (pc := 14) h 0 4 (.int (S1 0 4)) fl_X10_39_X10 oC_0 rfl rfl dX10_liking_14 ?_
      refine V_icmp_lt (pc := 17) h 22 dX10_liking_17 (by decide) ?_ ?_
      · refine V_aload_n (pc := 22) h 0 dX10_liking_22 rfl rfl ?_
        refine V_iload_n (pc := 23) h 1 dX10_liking_23 rfl rfl ?_
        refine V_callVV (pc := 24) (dy := 1) (q := (RX10, TX10, 15)) h [.int v1] [] 0 mv_X10_134 oC_0 rfl dX10_liking_24 rfl rfl (Nat.le_of_ble_eq_true rfl) (Nat.le_trans (by decide) hD) (c_N_hold v1 S1) (fun z9 hz9 => c_N_hold_ct h.gg (Nat.le_refl 1) v1 S1 z9 hz9) (fun S3 => ?_)
        refine V_iconst (pc := 27) (v := 1) h dX10_liking_27 (by decide) ?_
        exact V_zret (pc := 28) h hr hlk dX10_liking_28
      · refine V_iconst (pc := 20) (v := 0) h dX10_liking_20 (by decide) ?_
        exact V_zret (pc := 21) h hr hlk dX10_liking_21
theorem c_N_liking_ct {d : Nat} (g : GG s0 args0 D ca a A) (hD : 2 ≤ d) (v1 : Int32) (S : St) (z : Int32 × St) (hz : c_N_liking v1 S = some z) : CtI l yX10_liking cX10_liking 2 .boolean d s0 D ca tpC a A [.ref (a 0), .int v1] S z := CtI_mk g (by decide +kernel) (Nat.le_of_ble_eq_true rfl) hz (fun p e s m args below meth c h hr hlk => c_N_liking_ok h hr hlk hD v1 S)
def c_N_isOrder_h13 : Nat → Int32 → Int32 → Int32 → St → Option (Int32 × St)
  | 0, _, _, _, _ => none
  | n + 1, v2, v3, v4, S => (if (S 28 0) ≤ v4 then (if v2 = 0 then (nzM (1 : Int32) (some ((1 : Int32), S))) else (nzM (0 : Int32) (some ((0 : Int32), S)))) else (dvM (10 : Int32) (bnd (v2 - v2 / (10 : Int32) * (10 : Int32)) (fun x1 => (if (S 28 0) ≤ x1 then (nzM (0 : Int32) (some ((0 : Int32), S))) else (if ((v3 >>> (x1 &&& 31)) &&& (1 : Int32)) = (1 : Int32) then (nzM (0 : Int32) (some ((0 : Int32), S))) else (bnd (v3 ||| ((1 : Int32) <<< (x1 &&& 31))) (fun x2 => (dvM (10 : Int32) (bnd (v2 / (10 : Int32)) (fun x3 => (bnd (v4 + (1 : Int32)) (fun x4 => ((c_N_isOrder_h13 n) x3 x2 x4 S))))))))))))))
set_option maxHeartbeats 4000000 in
set_option maxRecDepth 100000 in
theorem c_N_isOrder_h13_ok {d : Nat} (h : Cx p s m c cX10_isOrder 6 RX10 s0 args0 D ca a A) (hr : meth.sig.returnType = some .boolean) (hlk : meth.locks = false) (hD : 1 ≤ d) : ∀ (n : Nat) (v2 : Int32) (v3 : Int32) (v4 : Int32) (S : St), VV p l e (rmd d) s m args below meth c D ca tpC a A 6 (QmI D ca tpC a A below args s) S [(0, .ref (a 0)), (2, .int v2), (3, .int v3), (4, .int v4)] 13 [] (c_N_isOrder_h13 n v2 v3 v4 S) := by
  intro n
  induction n with
  | zero => intro v2 v3 v4 S; exact V_none
  | succ n ih =>
    intro v2 v3 v4 S
    unfold c_N_isOrder_h13
    refine V_iload (pc := 13) h 3 dX10_isOrder_13 rfl ?_
    refine V_aload_n (pc := 15) h 0 dX10_isOrder_15 rfl rfl ?_
    refine V_get (pc := 16) h 0 6 (.ref (a 28)) fl_X10_49_X10 oC_0 rfl rfl dX10_isOrder_16 ?_
    refine V_get (pc := 19) h 28 0 (.int (S 28 0)) fl_X10_118_X7 oC_28 rfl rfl dX10_isOrder_19 ?_
    refine V_icmp_ge (pc := 22) h 73 dX10_isOrder_22 (by decide) ?_ ?_
    · refine V_iload_n (pc := 73) h 1 dX10_isOrder_73 rfl rfl ?_
      refine V_if_ne (pc := 74) h 81 dX10_isOrder_74 (by decide) ?_ ?_
      · refine V_iconst (pc := 81) (v := 0) h dX10_isOrder_81 (by decide) ?_
        exact V_zret (pc := 82) h hr hlk dX10_isOrder_82
      · refine V_iconst (pc := 77) (v := 1) h dX10_isOrder_77 (by decide) ?_
        refine V_goto (pc := 78) h 82 dX10_isOrder_78 (by decide) ?_
        exact V_zret (pc := 82) h hr hlk dX10_isOrder_82
    · refine V_iload_n (pc := 25) h 1 dX10_isOrder_25 rfl rfl ?_
      refine V_bipush (pc := 26) (v := 10) h dX10_isOrder_26 (by decide) ?_
      refine V_irem (pc := 28) h dX10_isOrder_28 ?_
      refine V_top (fun x1 => ?_)
      refine V_istore (pc := 29) h [(5, .int x1), (0, .ref (a 0)), (2, .int v2), (3, .int v3), (4, .int v4)] dX10_isOrder_29 (by decide) rfl ?_
      refine V_iload (pc := 31) h 0 dX10_isOrder_31 rfl ?_
      refine V_aload_n (pc := 33) h 1 dX10_isOrder_33 rfl rfl ?_
      refine V_get (pc := 34) h 0 6 (.ref (a 28)) fl_X10_49_X10 oC_0 rfl rfl dX10_isOrder_34 ?_
      refine V_get (pc := 37) h 28 0 (.int (S 28 0)) fl_X10_118_X7 oC_28 rfl rfl dX10_isOrder_37 ?_
      refine V_icmp_ge (pc := 40) h 53 dX10_isOrder_40 (by decide) ?_ ?_
      · refine V_iconst (pc := 53) (v := 0) h dX10_isOrder_53 (by decide) ?_
        exact V_zret (pc := 54) h hr hlk dX10_isOrder_54
      · refine V_iload_n (pc := 43) h 3 dX10_isOrder_43 rfl rfl ?_
        refine V_iload (pc := 44) h 0 dX10_isOrder_44 rfl ?_
        refine V_ishr (pc := 46) h dX10_isOrder_46 ?_
        refine V_iconst (pc := 47) (v := 1) h dX10_isOrder_47 (by decide) ?_
        refine V_iand (pc := 48) h dX10_isOrder_48 ?_
        refine V_iconst (pc := 49) (v := 1) h dX10_isOrder_49 (by decide) ?_
        refine V_icmp_ne (pc := 50) h 55 dX10_isOrder_50 (by decide) ?_ ?_
        · refine V_iload_n (pc := 55) h 3 dX10_isOrder_55 rfl rfl ?_
          refine V_iconst (pc := 56) (v := 1) h dX10_isOrder_56 (by decide) ?_
          refine V_iload (pc := 57) h 0 dX10_isOrder_57 rfl ?_
          refine V_ishl (pc := 59) h dX10_isOrder_59 ?_
          refine V_ior (pc := 60) h dX10_isOrder_60 ?_
          refine V_top (fun x2 => ?_)
          refine V_istore_n (pc := 61) h [(3, .int x2), (5, .int x1), (0, .ref (a 0)), (2, .int v2), (4, .int v4)] dX10_isOrder_61 rfl (by decide) rfl ?_
          refine V_iload_n (pc := 62) h 3 dX10_isOrder_62 rfl rfl ?_
          refine V_bipush (pc := 63) (v := 10) h dX10_isOrder_63 (by decide) ?_
          refine V_idiv (pc := 65) h dX10_isOrder_65 ?_
          refine V_top (fun x3 => ?_)
          refine V_istore_n (pc := 66) h [(2, .int x3), (3, .int x2), (5, .int x1), (0, .ref (a 0)), (4, .int v4)] dX10_isOrder_66 rfl (by decide) rfl ?_
          refine V_iincB (pc := 67) h 4 (1 : Int32) (fun x4 => [(4, .int x4), (2, .int x3), (3, .int x2), (5, .int x1), (0, .ref (a 0))]) dX10_isOrder_67 rfl (by decide) (by decide) (fun _ => rfl) (fun x4 => ?_)
          refine V_goto (pc := 70) h 13 dX10_isOrder_70 (by decide) ?_
          exact V_ls [4, 1, 2, 0] rfl (ih x3 x2 x4 S)
        · refine V_iconst (pc := 53) (v := 0) h dX10_isOrder_53 (by decide) ?_
          exact V_zret (pc := 54) h hr hlk dX10_isOrder_54
def c_N_isOrder (v1 : Int32) (S : St) : Option (Int32 × St) := (if 0 ≤ v1 then (c_N_isOrder_h13 FU v1 (0 : Int32) (0 : Int32) S) else (nzM (0 : Int32) (some ((0 : Int32), S))))
set_option maxHeartbeats 4000000 in
set_option maxRecDepth 100000 in
theorem c_N_isOrder_ok {d : Nat} (h : Cx p s m c cX10_isOrder 6 RX10 s0 args0 D ca a A) (hr : meth.sig.returnType = some .boolean) (hlk : meth.locks = false) (hD : 1 ≤ d) (v1 : Int32) (S : St) : VV p l e (rmd d) s m args below meth c D ca tpC a A 6 (QmI D ca tpC a A below args s) S [(0, .ref (a 0)), (1, .int v1)] 0 [] (c_N_isOrder v1 S) := by
  unfold c_N_isOrder
  refine V_iload_n (pc := 0) h 1 dX10_isOrder_0 rfl rfl ?_
  refine V_if_ge (pc := 1) h 6 dX10_isOrder_1 (by decide) ?_ ?_
  · refine V_iload_n (pc := 6) h 1 dX10_isOrder_6 rfl rfl ?_
    refine V_istore_n (pc := 7) h [(2, .int v1), (0, .ref (a 0)), (1, .int v1)] dX10_isOrder_7 rfl (by decide) rfl ?_
    refine V_iconst (pc := 8) (v := 0) h dX10_isOrder_8 (by decide) ?_
    refine V_istore_n (pc := 9) h [(3, .int (0 : Int32)), (2, .int v1), (0, .ref (a 0)), (1, .int v1)] dX10_isOrder_9 rfl (by decide) rfl ?_
    refine V_iconst (pc := 10) (v := 0) h dX10_isOrder_10 (by decide) ?_
    refine V_istore (pc := 11) h [(4, .int (0 : Int32)), (3, .int (0 : Int32)), (2, .int v1), (0, .ref (a 0)), (1, .int v1)] dX10_isOrder_11 (by decide) rfl ?_
    exact V_ls [3, 2, 1, 0] rfl (c_N_isOrder_h13_ok h hr hlk hD FU v1 (0 : Int32) (0 : Int32) S)
  · refine V_iconst (pc := 4) (v := 0) h dX10_isOrder_4 (by decide) ?_
    exact V_zret (pc := 5) h hr hlk dX10_isOrder_5
theorem c_N_isOrder_ct {d : Nat} (g : GG s0 args0 D ca a A) (hD : 1 ≤ d) (v1 : Int32) (S : St) (z : Int32 × St) (hz : c_N_isOrder v1 S = some z) : CtI l yX10_isOrder cX10_isOrder 6 .boolean d s0 D ca tpC a A [.ref (a 0), .int v1] S z := CtI_mk g (by decide +kernel) (Nat.le_of_ble_eq_true rfl) hz (fun p e s m args below meth c h hr hlk => c_N_isOrder_ok h hr hlk hD v1 S)
def c_N_order_h29 : Nat → Int32 → Int32 → St → Option (Int32 × St)
  | 0, _, _, _ => none
  | n + 1, v2, v3, S => (if v3 < 0 then (nzM (1 : Int32) (some ((1 : Int32), S))) else (dvM (10 : Int32) (ckM v3 6 (bnd (up2 S 36 v3.toNatClampNeg (v2 - v2 / (10 : Int32) * (10 : Int32))) (fun S1 => (dvM (10 : Int32) (bnd (v2 / (10 : Int32)) (fun x2 => (bnd (v3 + (-1 : Int32)) (fun x3 => ((c_N_order_h29 n) x2 x3 S1)))))))))))
set_option maxHeartbeats 4000000 in
set_option maxRecDepth 100000 in
theorem c_N_order_h29_ok {d : Nat} (h : Cx p s m c cX10_order 4 RX10 s0 args0 D ca a A) (hr : meth.sig.returnType = some .boolean) (hlk : meth.locks = false) (hD : 2 ≤ d) : ∀ (n : Nat) (v2 : Int32) (v3 : Int32) (S : St), VV p l e (rmd d) s m args below meth c D ca tpC a A 4 (QmI D ca tpC a A below args s) S [(0, .ref (a 0)), (2, .int v2), (3, .int v3)] 29 [] (c_N_order_h29 n v2 v3 S) := by
  intro n
  induction n with
  | zero => intro v2 v3 S; exact V_none
  | succ n ih =>
    intro v2 v3 S
    unfold c_N_order_h29
    refine V_iload_n (pc := 29) h 2 dX10_order_29 rfl rfl ?_
    refine V_if_lt (pc := 30) h 57 dX10_order_30 (by decide) ?_ ?_
    · refine V_iconst (pc := 57) (v := 1) h dX10_order_57 (by decide) ?_
      exact V_zret (pc := 58) h hr hlk dX10_order_58
    · refine V_aload_n (pc := 33) h 0 dX10_order_33 rfl rfl ?_
      refine V_get (pc := 34) h 0 7 (.ref (a 33)) fl_X10_56_X10 oC_0 rfl rfl dX10_order_34 ?_
      refine V_get (pc := 37) h 33 3 (.ref (a 36)) fl_X10_183_X6 oC_33 rfl rfl dX10_order_37 ?_
      refine V_iload_n (pc := 40) h 2 dX10_order_40 rfl rfl ?_
      refine V_iload_n (pc := 41) h 1 dX10_order_41 rfl rfl ?_
      refine V_bipush (pc := 42) (v := 10) h dX10_order_42 (by decide) ?_
      refine V_irem (pc := 44) h dX10_order_44 ?_
      refine V_iast (pc := 45) h 36 oC_36 dX10_order_45 (fun S1 => ?_)
      refine V_iload_n (pc := 46) h 1 dX10_order_46 rfl rfl ?_
      refine V_bipush (pc := 47) (v := 10) h dX10_order_47 (by decide) ?_
      refine V_idiv (pc := 49) h dX10_order_49 ?_
      refine V_top (fun x2 => ?_)
      refine V_istore_n (pc := 50) h [(2, .int x2), (0, .ref (a 0)), (3, .int v3)] dX10_order_50 rfl (by decide) rfl ?_
      refine V_iincB (pc := 51) h 2 (-1 : Int32) (fun x3 => [(3, .int x3), (2, .int x2), (0, .ref (a 0))]) dX10_order_51 rfl (by decide) (by decide) (fun _ => rfl) (fun x3 => ?_)
      refine V_goto (pc := 54) h 29 dX10_order_54 (by decide) ?_
      exact V_ls [2, 1, 0] rfl (ih x2 x3 S1)
def c_N_order (v1 : Int32) (S : St) : Option (Int32 × St) := (bI (c_N_hasStreet S) (fun x2 S1 => (if x2 = 0 then (nzM (0 : Int32) (some ((0 : Int32), S1))) else (bI (c_N_isOrder v1 S1) (fun x4 S3 => (if x4 = 0 then (nzM (0 : Int32) (some ((0 : Int32), S3))) else (bnd ((S3 28 0) - (1 : Int32)) (fun x5 => (c_N_order_h29 FU v1 x5 S3)))))))))
set_option maxHeartbeats 4000000 in
set_option maxRecDepth 100000 in
theorem c_N_order_ok {d : Nat} (h : Cx p s m c cX10_order 4 RX10 s0 args0 D ca a A) (hr : meth.sig.returnType = some .boolean) (hlk : meth.locks = false) (hD : 2 ≤ d) (v1 : Int32) (S : St) : VV p l e (rmd d) s m args below meth c D ca tpC a A 4 (QmI D ca tpC a A below args s) S [(0, .ref (a 0)), (1, .int v1)] 0 [] (c_N_order v1 S) := by
  unfold c_N_order
  refine V_aload_n (pc := 0) h 0 dX10_order_0 rfl rfl ?_
  refine V_callVI (pc := 1) (dy := 1) (q := (RX10, TX10, 15)) h [] [] 0 mv_X10_172 oC_0 rfl dX10_order_1 rfl rfl (Nat.le_of_ble_eq_true rfl) (Nat.le_trans (by decide) hD) (c_N_hasStreet S) (fun z9 hz9 => c_N_hasStreet_ct h.gg (Nat.le_refl 1) S z9 hz9) (fun x2 S1 => ?_)
  refine V_if_eq (pc := 4) h 15 dX10_order_4 (by decide) ?_ ?_
  · refine V_iconst (pc := 15) (v := 0) h dX10_order_15 (by decide) ?_
    exact V_zret (pc := 16) h hr hlk dX10_order_16
  · refine V_aload_n (pc := 7) h 0 dX10_order_7 rfl rfl ?_
    refine V_iload_n (pc := 8) h 1 dX10_order_8 rfl rfl ?_
    refine V_callVI (pc := 9) (dy := 1) (q := (RX10, TX10, 15)) h [.int v1] [] 0 mv_X10_180 oC_0 rfl dX10_order_9 rfl rfl (Nat.le_of_ble_eq_true rfl) (Nat.le_trans (by decide) hD) (c_N_isOrder v1 S1) (fun z9 hz9 => c_N_isOrder_ct h.gg (Nat.le_refl 1) v1 S1 z9 hz9) (fun x4 S3 => ?_)
    refine V_if_ne (pc := 12) h 17 dX10_order_12 (by decide) ?_ ?_
    · refine V_iload_n (pc := 17) h 1 dX10_order_17 rfl rfl ?_
      refine V_istore_n (pc := 18) h [(2, .int v1), (0, .ref (a 0)), (1, .int v1)] dX10_order_18 rfl (by decide) rfl ?_
      refine V_aload_n (pc := 19) h 1 dX10_order_19 rfl rfl ?_
      refine V_get (pc := 20) h 0 6 (.ref (a 28)) fl_X10_49_X10 oC_0 rfl rfl dX10_order_20 ?_
      refine V_get (pc := 23) h 28 0 (.int (S3 28 0)) fl_X10_118_X7 oC_28 rfl rfl dX10_order_23 ?_
      refine V_iconst (pc := 26) (v := 1) h dX10_order_26 (by decide) ?_
      refine V_isub (pc := 27) h dX10_order_27 ?_
      refine V_top (fun x5 => ?_)
      refine V_istore_n (pc := 28) h [(3, .int x5), (2, .int v1), (0, .ref (a 0)), (1, .int v1)] dX10_order_28 rfl (by decide) rfl ?_
      exact V_ls [2, 1, 0] rfl (c_N_order_h29_ok h hr hlk hD FU v1 x5 S3)
    · refine V_iconst (pc := 15) (v := 0) h dX10_order_15 (by decide) ?_
      exact V_zret (pc := 16) h hr hlk dX10_order_16
theorem c_N_order_ct {d : Nat} (g : GG s0 args0 D ca a A) (hD : 2 ≤ d) (v1 : Int32) (S : St) (z : Int32 × St) (hz : c_N_order v1 S = some z) : CtI l yX10_order cX10_order 4 .boolean d s0 D ca tpC a A [.ref (a 0), .int v1] S z := CtI_mk g (by decide +kernel) (Nat.le_of_ble_eq_true rfl) hz (fun p e s m args below meth c h hr hlk => c_N_order_ok h hr hlk hD v1 S)
def c_N_isHouse (v1 : Int32) (S : St) : Option (Int32 × St) := (if v1 < 0 then (nzM (0 : Int32) (some ((0 : Int32), S))) else (if (S 28 0) ≤ v1 then (nzM (0 : Int32) (some ((0 : Int32), S))) else (nzM (1 : Int32) (some ((1 : Int32), S)))))
set_option maxHeartbeats 4000000 in
set_option maxRecDepth 100000 in
theorem c_N_isHouse_ok {d : Nat} (h : Cx p s m c cX10_isHouse 2 RX10 s0 args0 D ca a A) (hr : meth.sig.returnType = some .boolean) (hlk : meth.locks = false) (hD : 1 ≤ d) (v1 : Int32) (S : St) : VV p l e (rmd d) s m args below meth c D ca tpC a A 2 (QmI D ca tpC a A below args s) S [(0, .ref (a 0)), (1, .int v1)] 0 [] (c_N_isHouse v1 S) := by
  unfold c_N_isHouse
  refine V_iload_n (pc := 0) h 1 dX10_isHouse_0 rfl rfl ?_
  refine V_if_lt (pc := 1) h 19 dX10_isHouse_1 (by decide) ?_ ?_
  · refine V_iconst (pc := 19) (v := 0) h dX10_isHouse_19 (by decide) ?_
    exact V_zret (pc := 20) h hr hlk dX10_isHouse_20
  · refine V_iload_n (pc := 4) h 1 dX10_isHouse_4 rfl rfl ?_
    refine V_aload_n (pc := 5) h 0 dX10_isHouse_5 rfl rfl ?_
    refine V_get (pc := 6) h 0 6 (.ref (a 28)) fl_X10_49_X10 oC_0 rfl rfl dX10_isHouse_6 ?_
    refine V_get (pc := 9) h 28 0 (.int (S 28 0)) fl_X10_118_X7 oC_28 rfl rfl dX10_isHouse_9 ?_
    refine V_icmp_ge (pc := 12) h 19 dX10_isHouse_12 (by decide) ?_ ?_
    · refine V_iconst (pc := 19) (v := 0) h dX10_isHouse_19 (by decide) ?_
      exact V_zret (pc := 20) h hr hlk dX10_isHouse_20
    · refine V_iconst (pc := 15) (v := 1) h dX10_isHouse_15 (by decide) ?_
      refine V_goto (pc := 16) h 20 dX10_isHouse_16 (by decide) ?_
      exact V_zret (pc := 20) h hr hlk dX10_isHouse_20
theorem c_N_isHouse_ct {d : Nat} (g : GG s0 args0 D ca a A) (hD : 1 ≤ d) (v1 : Int32) (S : St) (z : Int32 × St) (hz : c_N_isHouse v1 S = some z) : CtI l yX10_isHouse cX10_isHouse 2 .boolean d s0 D ca tpC a A [.ref (a 0), .int v1] S z := CtI_mk g (by decide +kernel) (Nat.le_of_ble_eq_true rfl) hz (fun p e s m args below meth c h hr hlk => c_N_isHouse_ok h hr hlk hD v1 S)
def c_N_put_b23 (v1 : Int32) (v2 : Int32) (S : St) : Option (Int32 × St) := (ckM v1 6 (bnd (up2 S 37 v1.toNatClampNeg v2) (fun S1 => (nzM (1 : Int32) (some ((1 : Int32), S1))))))
set_option maxHeartbeats 4000000 in
set_option maxRecDepth 100000 in
theorem c_N_put_b23_ok {d : Nat} (h : Cx p s m c cX10_put 3 RX10 s0 args0 D ca a A) (hr : meth.sig.returnType = some .boolean) (hlk : meth.locks = false) (hD : 2 ≤ d) (v1 : Int32) (v2 : Int32) (S : St) : VV p l e (rmd d) s m args below meth c D ca tpC a A 3 (QmI D ca tpC a A below args s) S [(0, .ref (a 0)), (1, .int v1), (2, .int v2)] 23 [] (c_N_put_b23 v1 v2 S) := by
  unfold c_N_put_b23
  refine V_aload_n (pc := 23) h 0 dX10_put_23 rfl rfl ?_
  refine V_get (pc := 24) h 0 7 (.ref (a 33)) fl_X10_56_X10 oC_0 rfl rfl dX10_put_24 ?_
  refine V_get (pc := 27) h 33 4 (.ref (a 37)) fl_X10_164_X6 oC_33 rfl rfl dX10_put_27 ?_
  refine V_iload_n (pc := 30) h 1 dX10_put_30 rfl rfl ?_
  refine V_iload_n (pc := 31) h 2 dX10_put_31 rfl rfl ?_
  refine V_iast (pc := 32) h 37 oC_37 dX10_put_32 (fun S1 => ?_)
  refine V_iconst (pc := 33) (v := 1) h dX10_put_33 (by decide) ?_
  exact V_zret (pc := 34) h hr hlk dX10_put_34
def c_N_put (v1 : Int32) (v2 : Int32) (S : St) : Option (Int32 × St) := (bI (c_N_isHouse v1 S) (fun x2 S1 => (if x2 = 0 then (nzM (0 : Int32) (some ((0 : Int32), S1))) else (bI (c_N_isStuff v2 S1) (fun x4 S3 => (if x4 = 0 then (if v2 = (9 : Int32) then (c_N_put_b23 v1 v2 S3) else (nzM (0 : Int32) (some ((0 : Int32), S3)))) else (c_N_put_b23 v1 v2 S3)))))))
set_option maxHeartbeats 4000000 in
set_option maxRecDepth 100000 in
theorem c_N_put_ok {d : Nat} (h : Cx p s m c cX10_put 3 RX10 s0 args0 D ca a A) (hr : meth.sig.returnType = some .boolean) (hlk : meth.locks = false) (hD : 2 ≤ d) (v1 : Int32) (v2 : Int32) (S : St) : VV p l e (rmd d) s m args below meth c D ca tpC a A 3 (QmI D ca tpC a A below args s) S [(0, .ref (a 0)), (1, .int v1), (2, .int v2)] 0 [] (c_N_put v1 v2 S) := by
  unfold c_N_put
  refine V_aload_n (pc := 0) h 0 dX10_put_0 rfl rfl ?_
  refine V_iload_n (pc := 1) h 1 dX10_put_1 rfl rfl ?_
  refine V_callVI (pc := 2) (dy := 1) (q := (RX10, TX10, 15)) h [.int v1] [] 0 mv_X10_137 oC_0 rfl dX10_put_2 rfl rfl (Nat.le_of_ble_eq_true rfl) (Nat.le_trans (by decide) hD) (c_N_isHouse v1 S) (fun z9 hz9 => c_N_isHouse_ct h.gg (Nat.le_refl 1) v1 S z9 hz9) (fun x2 S1 => ?_)
  refine V_if_eq (pc := 5) h 21 dX10_put_5 (by decide) ?_ ?_
  · refine V_iconst (pc := 21) (v := 0) h dX10_put_21 (by decide) ?_
    exact V_zret (pc := 22) h hr hlk dX10_put_22
  · refine V_iload_n (pc := 8) h 2 dX10_put_8 rfl rfl ?_
    refine V_callSI (pc := 9) (dy := 1) h [.int v2] [] ms_X10_148 dX10_put_9 rfl rfl (Nat.le_of_ble_eq_true rfl) (Nat.le_trans (by decide) hD) (c_N_isStuff v2 S1) (fun z9 hz9 => c_N_isStuff_ct h.gg (Nat.le_refl 1) v2 S1 z9 hz9) (fun x4 S3 => ?_)
    refine V_if_ne (pc := 12) h 23 dX10_put_12 (by decide) ?_ ?_
    · exact V_ls [0, 1, 2] rfl (c_N_put_b23_ok h hr hlk hD v1 v2 S3)
    · refine V_iload_n (pc := 15) h 2 dX10_put_15 rfl rfl ?_
      refine V_bipush (pc := 16) (v := 9) h dX10_put_16 (by decide) ?_
      refine V_icmp_eq (pc := 18) h 23 dX10_put_18 (by decide) ?_ ?_
      · exact V_ls [0, 1, 2] rfl (c_N_put_b23_ok h hr hlk hD v1 v2 S3)
      · refine V_iconst (pc := 21) (v := 0) h dX10_put_21 (by decide) ?_
        exact V_zret (pc := 22) h hr hlk dX10_put_22
theorem c_N_put_ct {d : Nat} (g : GG s0 args0 D ca a A) (hD : 2 ≤ d) (v1 : Int32) (v2 : Int32) (S : St) (z : Int32 × St) (hz : c_N_put v1 v2 S = some z) : CtI l yX10_put cX10_put 3 .boolean d s0 D ca tpC a A [.ref (a 0), .int v1, .int v2] S z := CtI_mk g (by decide +kernel) (Nat.le_of_ble_eq_true rfl) hz (fun p e s m args below meth c h hr hlk => c_N_put_ok h hr hlk hD v1 v2 S)
def c_State_setStore (o0 : Nat) (v1 : Int32) (v2 : Int32) (v3 : Int32) (S : St) : Option St := (bI (c_State_isStore v1 v2 S) (fun x2 S1 => (if x2 = 0 then (some S1) else (ckM ((v1 * (5 : Int32)) + v2) 30 (bnd (up2 S1 (o0 + 1) ((v1 * (5 : Int32)) + v2).toNatClampNeg v3) (fun S3 => (some S3)))))))
set_option maxHeartbeats 4000000 in
set_option maxRecDepth 100000 in
theorem c_State_setStore_ok {d : Nat} (h : Cx p s m c cX6_setStore 4 RX6 s0 args0 D ca a A) (hr : meth.sig.returnType = none) (hlk : meth.locks = false) (hD : 3 ≤ d) (o0 : Nat) (ho0 : isSt o0) (v1 : Int32) (v2 : Int32) (v3 : Int32) (S : St) : VV p l e (rmd d) s m args below meth c D ca tpC a A 4 (QmV D ca tpC a A below args s) S [(0, .ref (a o0)), (1, .int v1), (2, .int v2), (3, .int v3)] 0 [] (c_State_setStore o0 v1 v2 v3 S) := by
  unfold c_State_setStore
  refine V_iload_n (pc := 0) h 1 dX6_setStore_0 rfl rfl ?_
  refine V_iload_n (pc := 1) h 2 dX6_setStore_1 rfl rfl ?_
  refine V_callSI (pc := 2) (dy := 2) h [.int v1, .int v2] [] ms_X6_44 dX6_setStore_2 rfl rfl (Nat.le_of_ble_eq_true rfl) (Nat.le_trans (by decide) hD) (c_State_isStore v1 v2 S) (fun z9 hz9 => c_State_isStore_ct h.gg (Nat.le_refl 2) v1 v2 S z9 hz9) (fun x2 S1 => ?_)
  refine V_if_eq (pc := 5) h 19 dX6_setStore_5 (by decide) ?_ ?_
  · exact V_vret (pc := 19) h hr hlk dX6_setStore_19
  · refine V_aload_n (pc := 8) h 0 dX6_setStore_8 rfl rfl ?_
    refine V_get (pc := 9) h o0 1 (.ref (a (o0 + 1))) fl_X6_9_X6 ho0.1 rfl rfl dX6_setStore_9 ?_
    refine V_iload_n (pc := 12) h 1 dX6_setStore_12 rfl rfl ?_
    refine V_iconst (pc := 13) (v := 5) h dX6_setStore_13 (by decide) ?_
    refine V_imul (pc := 14) h dX6_setStore_14 ?_
    refine V_iload_n (pc := 15) h 2 dX6_setStore_15 rfl rfl ?_
    refine V_iadd (pc := 16) h dX6_setStore_16 ?_
    refine V_iload_n (pc := 17) h 3 dX6_setStore_17 rfl rfl ?_
    refine V_iast (pc := 18) h (o0 + 1) ho0.2.1 dX6_setStore_18 (fun S3 => ?_)
    exact V_vret (pc := 19) h hr hlk dX6_setStore_19
theorem c_State_setStore_ct {d : Nat} (g : GG s0 args0 D ca a A) (hD : 3 ≤ d) {o0 : Nat} (ho0 : isSt o0) (v1 : Int32) (v2 : Int32) (v3 : Int32) (S : St) (z : St) (hz : c_State_setStore o0 v1 v2 v3 S = some z) : CtV l yX6_setStore cX6_setStore 4 d s0 D ca tpC a A [.ref (a o0), .int v1, .int v2, .int v3] S z := CtV_mk g (by decide +kernel) (Nat.le_of_ble_eq_true rfl) hz (fun p e s m args below meth c h hr hlk => c_State_setStore_ok h hr hlk hD o0 ho0 v1 v2 v3 S)
def c_N_fill (v1 : Int32) (v2 : Int32) (v3 : Int32) (S : St) : Option (Int32 × St) := (bI (c_N_isHouse v1 S) (fun x2 S1 => (if x2 = 0 then (nzM (0 : Int32) (some ((0 : Int32), S1))) else (bI (c_N_isStuff v2 S1) (fun x4 S3 => (if x4 = 0 then (nzM (0 : Int32) (some ((0 : Int32), S3))) else (bI (c_N_isWithin v3 (0 : Int32) (99 : Int32) S3) (fun x6 S5 => (if x6 = 0 then (nzM (0 : Int32) (some ((0 : Int32), S5))) else (bV (c_State_setStore 33 v1 v2 v3 S5) (fun S7 => (nzM (1 : Int32) (some ((1 : Int32), S7))))))))))))))
set_option maxHeartbeats 4000000 in
set_option maxRecDepth 100000 in
theorem c_N_fill_ok {d : Nat} (h : Cx p s m c cX10_fill 4 RX10 s0 args0 D ca a A) (hr : meth.sig.returnType = some .boolean) (hlk : meth.locks = false) (hD : 4 ≤ d) (v1 : Int32) (v2 : Int32) (v3 : Int32) (S : St) : VV p l e (rmd d) s m args below meth c D ca tpC a A 4 (QmI D ca tpC a A below args s) S [(0, .ref (a 0)), (1, .int v1), (2, .int v2), (3, .int v3)] 0 [] (c_N_fill v1 v2 v3 S) := by
  unfold c_N_fill
  refine V_aload_n (pc := 0) h 0 dX10_fill_0 rfl rfl ?_
  refine V_iload_n (pc := 1) h 1 dX10_fill_1 rfl rfl ?_
  refine V_callVI (pc := 2) (dy := 1) (q := (RX10, TX10, 15)) h [.int v1] [] 0 mv_X10_137 oC_0 rfl dX10_fill_2 rfl rfl (Nat.le_of_ble_eq_true rfl) (Nat.le_trans (by decide) hD) (c_N_isHouse v1 S) (fun z9 hz9 => c_N_isHouse_ct h.gg (Nat.le_refl 1) v1 S z9 hz9) (fun x2 S1 => ?_)
  refine V_if_eq (pc := 5) h 25 dX10_fill_5 (by decide) ?_ ?_
  · refine V_iconst (pc := 25) (v := 0) h dX10_fill_25 (by decide) ?_
    exact V_zret (pc := 26) h hr hlk dX10_fill_26
  · refine V_iload_n (pc := 8) h 2 dX10_fill_8 rfl rfl ?_
    refine V_callSI (pc := 9) (dy := 1) h [.int v2] [] ms_X10_148 dX10_fill_9 rfl rfl (Nat.le_of_ble_eq_true rfl) (Nat.le_trans (by decide) hD) (c_N_isStuff v2 S1) (fun z9 hz9 => c_N_isStuff_ct h.gg (Nat.le_refl 1) v2 S1 z9 hz9) (fun x4 S3 => ?_)
    refine V_if_eq (pc := 12) h 25 dX10_fill_12 (by decide) ?_ ?_
    · refine V_iconst (pc := 25) (v := 0) h dX10_fill_25 (by decide) ?_
      exact V_zret (pc := 26) h hr hlk dX10_fill_26
    · refine V_iload_n (pc := 15) h 3 dX10_fill_15 rfl rfl ?_
      refine V_iconst (pc := 16) (v := 0) h dX10_fill_16 (by decide) ?_
      refine V_bipush (pc := 17) (v := 99) h dX10_fill_17 (by decide) ?_
      refine V_callSI (pc := 19) (dy := 1) h [.int v3, .int (0 : Int32), .int (99 : Int32)] [] ms_X10_186 dX10_fill_19 rfl rfl (Nat.le_of_ble_eq_true rfl) (Nat.le_trans (by decide) hD) (c_N_isWithin v3 (0 : Int32) (99 : Int32) S3) (fun z9 hz9 => c_N_isWithin_ct h.gg (Nat.le_refl 1) v3 (0 : Int32) (99 : Int32) S3 z9 hz9) (fun x6 S5 => ?_)
      refine V_if_ne (pc := 22) h 27 dX10_fill_22 (by decide) ?_ ?_
      · refine V_aload_n (pc := 27) h 0 dX10_fill_27 rfl rfl ?_
        refine V_get (pc := 28) h 0 7 (.ref (a 33)) fl_X10_56_X10 oC_0 rfl rfl dX10_fill_28 ?_
        refine V_iload_n (pc := 31) h 1 dX10_fill_31 rfl rfl ?_
        refine V_iload_n (pc := 32) h 2 dX10_fill_32 rfl rfl ?_
        refine V_iload_n (pc := 33) h 3 dX10_fill_33 rfl rfl ?_
        refine V_callVV (pc := 34) (dy := 3) (q := (RX6, TX6, 5)) h [.int v1, .int v2, .int v3] [] 33 mv_X10_190 oC_33 rfl dX10_fill_34 rfl rfl (Nat.le_of_ble_eq_true rfl) (Nat.le_trans (by decide) hD) (c_State_setStore 33 v1 v2 v3 S5) (fun z9 hz9 => c_State_setStore_ct h.gg (Nat.le_refl 3) isSt_33 v1 v2 v3 S5 z9 hz9) (fun S7 => ?_)
        refine V_iconst (pc := 37) (v := 1) h dX10_fill_37 (by decide) ?_
        exact V_zret (pc := 38) h hr hlk dX10_fill_38
      · refine V_iconst (pc := 25) (v := 0) h dX10_fill_25 (by decide) ?_
        exact V_zret (pc := 26) h hr hlk dX10_fill_26
theorem c_N_fill_ct {d : Nat} (g : GG s0 args0 D ca a A) (hD : 4 ≤ d) (v1 : Int32) (v2 : Int32) (v3 : Int32) (S : St) (z : Int32 × St) (hz : c_N_fill v1 v2 v3 S = some z) : CtI l yX10_fill cX10_fill 4 .boolean d s0 D ca tpC a A [.ref (a 0), .int v1, .int v2, .int v3] S z := CtI_mk g (by decide +kernel) (Nat.le_of_ble_eq_true rfl) hz (fun p e s m args below meth c h hr hlk => c_N_fill_ok h hr hlk hD v1 v2 v3 S)
def c_Noon_begin_h30 : Nat → Int32 → Int32 → St → Option St
  | 0, _, _, _ => none
  | n + 1, v2, v3, S => (if (5 : Int32) ≤ v3 then (ckM (0 : Int32) 7 (ckM (5 : Int32) 6 (bnd (up2 S (114 + (0 : Int32).toNatClampNeg) (5 : Int32).toNatClampNeg (0 : Int32)) (fun S3 => (some S3))))) else (ckM (0 : Int32) 7 (ckM v3 5 (ckM v3 6 (bnd (up2 S (114 + (0 : Int32).toNatClampNeg) v3.toNatClampNeg (v2 * (S 29 v3.toNatClampNeg))) (fun S6 => (bnd (v3 + (1 : Int32)) (fun x7 => ((c_Noon_begin_h30 n) v2 x7 S6)))))))))
set_option maxHeartbeats 4000000 in
set_option maxRecDepth 100000 in
theorem c_Noon_begin_h30_ok {d : Nat} (h : Cx p s m c cX3_begin 4 RX3 s0 args0 D ca a A) (hr : meth.sig.returnType = none) (hlk : meth.locks = false) (hD : 1 ≤ d) : ∀ (n : Nat) (v2 : Int32) (v3 : Int32) (S : St), VV p l e (rmd d) s m args below meth c D ca tpC a A 4 (QmV D ca tpC a A below args s) S [(0, .ref (a 111)), (2, .int v2), (3, .int v3)] 30 [] (c_Noon_begin_h30 n v2 v3 S) := by
  intro n
  induction n with
  | zero => intro v2 v3 S; exact V_none
  | succ n ih =>
    intro v2 v3 S
    unfold c_Noon_begin_h30
    refine V_iload_n (pc := 30) h 2 dX3_begin_30 rfl rfl ?_
    refine V_iconst (pc := 31) (v := 5) h dX3_begin_31 (by decide) ?_
    refine V_icmp_ge (pc := 32) h 60 dX3_begin_32 (by decide) ?_ ?_
    · refine V_aload_n (pc := 60) h 0 dX3_begin_60 rfl rfl ?_
      refine V_get (pc := 61) h 111 1 (.ref (a 112)) fl_X3_11_X3 oC_111 rfl rfl dX3_begin_61 ?_
      refine V_iconst (pc := 64) (v := 0) h dX3_begin_64 (by decide) ?_
      refine V_aald0 (pc := 65) h 112 oC_112 (by decide) dX3_begin_65 (fun h1 h2 => ?_)
      refine V_iconst (pc := 66) (v := 5) h dX3_begin_66 (by decide) ?_
      refine V_iconst (pc := 67) (v := 0) h dX3_begin_67 (by decide) ?_
      refine V_iast (pc := 68) h (114 + (0 : Int32).toNatClampNeg) (rC_112 _ h2) dX3_begin_68 (fun S3 => ?_)
      exact V_vret (pc := 69) h hr hlk dX3_begin_69
    · refine V_aload_n (pc := 35) h 0 dX3_begin_35 rfl rfl ?_
      refine V_get (pc := 36) h 111 1 (.ref (a 112)) fl_X3_11_X3 oC_111 rfl rfl dX3_begin_36 ?_
      refine V_iconst (pc := 39) (v := 0) h dX3_begin_39 (by decide) ?_
      refine V_aald0 (pc := 40) h 112 oC_112 (by decide) dX3_begin_40 (fun h4 h5 => ?_)
      refine V_iload_n (pc := 41) h 2 dX3_begin_41 rfl rfl ?_
      refine V_iload_n (pc := 42) h 1 dX3_begin_42 rfl rfl ?_
      refine V_aload_n (pc := 43) h 0 dX3_begin_43 rfl rfl ?_
      refine V_get (pc := 44) h 111 0 (.ref (a 28)) fl_X3_29_X3 oC_111 rfl rfl dX3_begin_44 ?_
      refine V_get (pc := 47) h 28 4 (.ref (a 29)) fl_X3_106_X7 oC_28 rfl rfl dX3_begin_47 ?_
      refine V_iload_n (pc := 50) h 2 dX3_begin_50 rfl rfl ?_
      refine V_iald (pc := 51) h 29 oC_29 dX3_begin_51 ?_
      refine V_imul (pc := 52) h dX3_begin_52 ?_
      refine V_iast (pc := 53) h (114 + (0 : Int32).toNatClampNeg) (rC_112 _ h5) dX3_begin_53 (fun S6 => ?_)
      refine V_iincB (pc := 54) h 2 (1 : Int32) (fun x7 => [(3, .int x7), (0, .ref (a 111)), (2, .int v2)]) dX3_begin_54 rfl (by decide) (by decide) (fun _ => rfl) (fun x7 => ?_)
      refine V_goto (pc := 57) h 30 dX3_begin_57 (by decide) ?_
      exact V_ls [1, 2, 0] rfl (ih v2 x7 S6)
def c_Noon_begin_b27 (k0 : Int32) (S : St) : Option St := (c_Noon_begin_h30 FU k0 (0 : Int32) S)
set_option maxHeartbeats 4000000 in
set_option maxRecDepth 100000 in
theorem c_Noon_begin_b27_ok {d : Nat} (h : Cx p s m c cX3_begin 4 RX3 s0 args0 D ca a A) (hr : meth.sig.returnType = none) (hlk : meth.locks = false) (hD : 1 ≤ d) (k0 : Int32) (S : St) : VV p l e (rmd d) s m args below meth c D ca tpC a A 4 (QmV D ca tpC a A below args s) S [(0, .ref (a 111))] 27 [.int k0] (c_Noon_begin_b27 k0 S) := by
  unfold c_Noon_begin_b27
  refine V_istore_n (pc := 27) h [(2, .int k0), (0, .ref (a 111))] dX3_begin_27 rfl (by decide) rfl ?_
  refine V_iconst (pc := 28) (v := 0) h dX3_begin_28 (by decide) ?_
  refine V_istore_n (pc := 29) h [(3, .int (0 : Int32)), (2, .int k0), (0, .ref (a 111))] dX3_begin_29 rfl (by decide) rfl ?_
  exact V_ls [2, 1, 0] rfl (c_Noon_begin_h30_ok h hr hlk hD FU k0 (0 : Int32) S)
def c_Noon_begin (v1 : Int32) (S : St) : Option St := (bnd (up2 S 111 7 v1) (fun S1 => (bnd (up2 S1 111 8 (-1 : Int32)) (fun S2 => (dvM (7 : Int32) (if (((S2 111 7) + (1 : Int32)) - ((S2 111 7) + (1 : Int32)) / (7 : Int32) * (7 : Int32)) = 0 then (c_Noon_begin_b27 (2 : Int32) S2) else (c_Noon_begin_b27 (1 : Int32) S2)))))))
set_option maxHeartbeats 4000000 in
set_option maxRecDepth 100000 in
theorem c_Noon_begin_ok {d : Nat} (h : Cx p s m c cX3_begin 4 RX3 s0 args0 D ca a A) (hr : meth.sig.returnType = none) (hlk : meth.locks = false) (hD : 1 ≤ d) (v1 : Int32) (S : St) : VV p l e (rmd d) s m args below meth c D ca tpC a A 4 (QmV D ca tpC a A below args s) S [(0, .ref (a 111)), (1, .int v1)] 0 [] (c_Noon_begin v1 S) := by
  unfold c_Noon_begin
  refine V_aload_n (pc := 0) h 0 dX3_begin_0 rfl rfl ?_
  refine V_iload_n (pc := 1) h 1 dX3_begin_1 rfl rfl ?_
  refine V_put (pc := 2) h 111 7 v1 fp_X3_105_X3 oC_111 rfl rfl rfl rfl dX3_begin_2 (fun S1 => ?_)
  refine V_aload_n (pc := 5) h 0 dX3_begin_5 rfl rfl ?_
  refine V_iconst (pc := 6) (v := -1) h dX3_begin_6 (by decide) ?_
  refine V_put (pc := 7) h 111 8 (-1 : Int32) fp_X3_37_X3 oC_111 rfl rfl rfl rfl dX3_begin_7 (fun S2 => ?_)
  refine V_aload_n (pc := 10) h 0 dX3_begin_10 rfl rfl ?_
  refine V_get (pc := 11) h 111 7 (.int (S2 111 7)) fl_X3_105_X3 oC_111 rfl rfl dX3_begin_11 ?_
  refine V_iconst (pc := 14) (v := 1) h dX3_begin_14 (by decide) ?_
  refine V_iadd (pc := 15) h dX3_begin_15 ?_
  refine V_bipush (pc := 16) (v := 7) h dX3_begin_16 (by decide) ?_
  refine V_irem (pc := 18) h dX3_begin_18 ?_
  refine V_if_ne (pc := 19) h 26 dX3_begin_19 (by decide) ?_ ?_
  · refine V_iconst (pc := 26) (v := 1) h dX3_begin_26 (by decide) ?_
    exact V_ls [0] rfl (c_Noon_begin_b27_ok h hr hlk hD (1 : Int32) S2)
  · refine V_iconst (pc := 22) (v := 2) h dX3_begin_22 (by decide) ?_
    refine V_goto (pc := 23) h 27 dX3_begin_23 (by decide) ?_
    exact V_ls [0] rfl (c_Noon_begin_b27_ok h hr hlk hD (2 : Int32) S2)
theorem c_Noon_begin_ct {d : Nat} (g : GG s0 args0 D ca a A) (hD : 1 ≤ d) (v1 : Int32) (S : St) (z : St) (hz : c_Noon_begin v1 S = some z) : CtV l yX3_begin cX3_begin 4 d s0 D ca tpC a A [.ref (a 111), .int v1] S z := CtV_mk g (by decide +kernel) (Nat.le_of_ble_eq_true rfl) hz (fun p e s m args below meth c h hr hlk => c_Noon_begin_ok h hr hlk hD v1 S)
def c_Noon_goDownTheStreet_b168 (o1 : Nat) (L12 : Int32 → Int32 → St → Option St) (v2 : Int32) (v3 : Int32) (S : St) : Option St := (bnd (v3 + (1 : Int32)) (fun x1 => (L12 v2 x1 S)))
set_option maxHeartbeats 4000000 in
set_option maxRecDepth 100000 in
theorem c_Noon_goDownTheStreet_b168_ok {d : Nat} (h : Cx p s m c cX3_goDownTheStreet 6 RX3 s0 args0 D ca a A) (hr : meth.sig.returnType = none) (hlk : meth.locks = false) (hD : 4 ≤ d) (o1 : Nat) (ho1 : isSt o1) (L12 : Int32 → Int32 → St → Option St) (hL12 : ∀ (v2 : Int32) (v3 : Int32) (S : St), VV p l e (rmd d) s m args below meth c D ca tpC a A 6 (QmV D ca tpC a A below args s) S [(0, .ref (a 111)), (1, .ref (a o1)), (2, .int v2), (3, .int v3)] 12 [] (L12 v2 v3 S)) (v2 : Int32) (v3 : Int32) (S : St) : VV p l e (rmd d) s m args below meth c D ca tpC a A 6 (QmV D ca tpC a A below args s) S [(0, .ref (a 111)), (1, .ref (a o1)), (2, .int v2), (3, .int v3)] 168 [] (c_Noon_goDownTheStreet_b168 o1 L12 v2 v3 S) := by
  unfold c_Noon_goDownTheStreet_b168
  refine V_iincB (pc := 168) h 3 (1 : Int32) (fun x1 => [(3, .int x1), (0, .ref (a 111)), (1, .ref (a o1)), (2, .int v2)]) dX3_goDownTheStreet_168 rfl (by decide) (by decide) (fun _ => rfl) (fun x1 => ?_)
  refine V_goto (pc := 171) h 12 dX3_goDownTheStreet_171 (by decide) ?_
  exact V_ls [1, 2, 3, 0] rfl (hL12 v2 x1 S)
def c_Noon_goDownTheStreet_b149 (o1 : Nat) (L12 : Int32 → Int32 → St → Option St) (v2 : Int32) (v3 : Int32) (v4 : Int32) (S : St) : Option St := (if v4 = (S 111 9) then (bV (c_Noon_pour v3 (5 : Int32) (S 111 10) S) (fun S1 => (c_Noon_goDownTheStreet_b168 o1 L12 v2 v3 S1))) else (c_Noon_goDownTheStreet_b168 o1 L12 v2 v3 S))
set_option maxHeartbeats 4000000 in
set_option maxRecDepth 100000 in
theorem c_Noon_goDownTheStreet_b149_ok {d : Nat} (h : Cx p s m c cX3_goDownTheStreet 6 RX3 s0 args0 D ca a A) (hr : meth.sig.returnType = none) (hlk : meth.locks = false) (hD : 4 ≤ d) (o1 : Nat) (ho1 : isSt o1) (L12 : Int32 → Int32 → St → Option St) (hL12 : ∀ (v2 : Int32) (v3 : Int32) (S : St), VV p l e (rmd d) s m args below meth c D ca tpC a A 6 (QmV D ca tpC a A below args s) S [(0, .ref (a 111)), (1, .ref (a o1)), (2, .int v2), (3, .int v3)] 12 [] (L12 v2 v3 S)) (v2 : Int32) (v3 : Int32) (v4 : Int32) (S : St) : VV p l e (rmd d) s m args below meth c D ca tpC a A 6 (QmV D ca tpC a A below args s) S [(0, .ref (a 111)), (1, .ref (a o1)), (2, .int v2), (3, .int v3), (4, .int v4)] 149 [] (c_Noon_goDownTheStreet_b149 o1 L12 v2 v3 v4 S) := by
  unfold c_Noon_goDownTheStreet_b149
  refine V_iload (pc := 149) h 4 dX3_goDownTheStreet_149 rfl ?_
  refine V_aload_n (pc := 151) h 0 dX3_goDownTheStreet_151 rfl rfl ?_
  refine V_get (pc := 152) h 111 9 (.int (S 111 9)) fl_X3_41_X3 oC_111 rfl rfl dX3_goDownTheStreet_152 ?_
  refine V_icmp_ne (pc := 155) h 168 dX3_goDownTheStreet_155 (by decide) ?_ ?_
  · exact V_ls [0, 1, 2, 3] rfl (c_Noon_goDownTheStreet_b168_ok h hr hlk hD o1 ho1 L12 hL12 v2 v3 S)
  · refine V_aload_n (pc := 158) h 0 dX3_goDownTheStreet_158 rfl rfl ?_
    refine V_iload_n (pc := 159) h 3 dX3_goDownTheStreet_159 rfl rfl ?_
    refine V_iconst (pc := 160) (v := 5) h dX3_goDownTheStreet_160 (by decide) ?_
    refine V_aload_n (pc := 161) h 0 dX3_goDownTheStreet_161 rfl rfl ?_
    refine V_get (pc := 162) h 111 10 (.int (S 111 10)) fl_X3_51_X3 oC_111 rfl rfl dX3_goDownTheStreet_162 ?_
    refine V_callVV (pc := 165) (dy := 1) (q := (RX3, TX3, 13)) h [.int v3, .int (5 : Int32), .int (S 111 10)] [] 111 mv_X3_101 oC_111 rfl dX3_goDownTheStreet_165 rfl rfl (Nat.le_of_ble_eq_true rfl) (Nat.le_trans (by decide) hD) (c_Noon_pour v3 (5 : Int32) (S 111 10) S) (fun z9 hz9 => c_Noon_pour_ct h.gg (Nat.le_refl 1) v3 (5 : Int32) (S 111 10) S z9 hz9) (fun S1 => ?_)
    exact V_ls [0, 1, 2, 3] rfl (c_Noon_goDownTheStreet_b168_ok h hr hlk hD o1 ho1 L12 hL12 v2 v3 S1)
def c_Noon_goDownTheStreet_b128 (o1 : Nat) (L12 : Int32 → Int32 → St → Option St) (v2 : Int32) (v3 : Int32) (v4 : Int32) (v5 : Int32) (S : St) : Option St := (bnd (v2 ||| ((1 : Int32) <<< (v5 &&& 31))) (fun x1 => (bV (c_Noon_pour v3 v5 (S 28 1) S) (fun S2 => (c_Noon_goDownTheStreet_b149 o1 L12 x1 v3 v4 S2)))))
set_option maxHeartbeats 4000000 in
set_option maxRecDepth 100000 in
theorem c_Noon_goDownTheStreet_b128_ok {d : Nat} (h : Cx p s m c cX3_goDownTheStreet 6 RX3 s0 args0 D ca a A) (hr : meth.sig.returnType = none) (hlk : meth.locks = false) (hD : 4 ≤ d) (o1 : Nat) (ho1 : isSt o1) (L12 : Int32 → Int32 → St → Option St) (hL12 : ∀ (v2 : Int32) (v3 : Int32) (S : St), VV p l e (rmd d) s m args below meth c D ca tpC a A 6 (QmV D ca tpC a A below args s) S [(0, .ref (a 111)), (1, .ref (a o1)), (2, .int v2), (3, .int v3)] 12 [] (L12 v2 v3 S)) (v2 : Int32) (v3 : Int32) (v4 : Int32) (v5 : Int32) (S : St) : VV p l e (rmd d) s m args below meth c D ca tpC a A 6 (QmV D ca tpC a A below args s) S [(0, .ref (a 111)), (1, .ref (a o1)), (2, .int v2), (3, .int v3), (4, .int v4), (5, .int v5)] 128 [] (c_Noon_goDownTheStreet_b128 o1 L12 v2 v3 v4 v5 S) := by
  unfold c_Noon_goDownTheStreet_b128
  refine V_iload_n (pc := 128) h 2 dX3_goDownTheStreet_128 rfl rfl ?_
  refine V_iconst (pc := 129) (v := 1) h dX3_goDownTheStreet_129 (by decide) ?_
  refine V_iload (pc := 130) h 5 dX3_goDownTheStreet_130 rfl ?_
  refine V_ishl (pc := 132) h dX3_goDownTheStreet_132 ?_
  refine V_ior (pc := 133) h dX3_goDownTheStreet_133 ?_
  refine V_top (fun x1 => ?_)
  refine V_istore_n (pc := 134) h [(2, .int x1), (0, .ref (a 111)), (1, .ref (a o1)), (3, .int v3), (4, .int v4), (5, .int v5)] dX3_goDownTheStreet_134 rfl (by decide) rfl ?_
  refine V_aload_n (pc := 135) h 1 dX3_goDownTheStreet_135 rfl rfl ?_
  refine V_iload_n (pc := 136) h 3 dX3_goDownTheStreet_136 rfl rfl ?_
  refine V_iload (pc := 137) h 5 dX3_goDownTheStreet_137 rfl ?_
  refine V_aload_n (pc := 139) h 1 dX3_goDownTheStreet_139 rfl rfl ?_
  refine V_get (pc := 140) h 111 0 (.ref (a 28)) fl_X3_29_X3 oC_111 rfl rfl dX3_goDownTheStreet_140 ?_
  refine V_get (pc := 143) h 28 1 (.int (S 28 1)) fl_X3_90_X7 oC_28 rfl rfl dX3_goDownTheStreet_143 ?_
  refine V_callVV (pc := 146) (dy := 1) (q := (RX3, TX3, 13)) h [.int v3, .int v5, .int (S 28 1)] [] 111 mv_X3_101 oC_111 rfl dX3_goDownTheStreet_146 rfl rfl (Nat.le_of_ble_eq_true rfl) (Nat.le_trans (by decide) hD) (c_Noon_pour v3 v5 (S 28 1) S) (fun z9 hz9 => c_Noon_pour_ct h.gg (Nat.le_refl 1) v3 v5 (S 28 1) S z9 hz9) (fun S2 => ?_)
  exact V_ls [1, 2, 0, 3, 4] rfl (c_Noon_goDownTheStreet_b149_ok h hr hlk hD o1 ho1 L12 hL12 x1 v3 v4 S2)
def c_Noon_goDownTheStreet_b62 (o1 : Nat) (L12 : Int32 → Int32 → St → Option St) (v2 : Int32) (v3 : Int32) (v4 : Int32) (S : St) : Option St := (bV (c_Noon_serve v3 v4 S) (fun S1 => (bI (c_Noon_isLast v3 S1) (fun x3 S2 => (if x3 = 0 then (bI (c_State_putOf o1 v4 S2) (fun x5 S4 => (bI (c_State_hasEnough o1 v4 x5 (S4 28 1) S4) (fun x7 S6 => (if x7 = 0 then (c_Noon_goDownTheStreet_b149 o1 L12 v2 v3 v4 S6) else (if (S6 111 8) = (-1 : Int32) then (bI (c_Noon_breaksLaw v2 x5 S6) (fun x9 S8 => (if x9 = 0 then (c_Noon_goDownTheStreet_b128 o1 L12 v2 v3 v4 x5 S8) else (bnd (up2 S8 111 8 v4) (fun S10 => (c_Noon_goDownTheStreet_b128 o1 L12 v2 v3 v4 x5 S10)))))) else (c_Noon_goDownTheStreet_b128 o1 L12 v2 v3 v4 x5 S6))))))) else (some S2))))))
set_option maxHeartbeats 4000000 in
set_option maxRecDepth 100000 in
theorem c_Noon_goDownTheStreet_b62_ok {d : Nat} (h : Cx p s m c cX3_goDownTheStreet 6 RX3 s0 args0 D ca a A) (hr : meth.sig.returnType = none) (hlk : meth.locks = false) (hD : 4 ≤ d) (o1 : Nat) (ho1 : isSt o1) (L12 : Int32 → Int32 → St → Option St) (hL12 : ∀ (v2 : Int32) (v3 : Int32) (S : St), VV p l e (rmd d) s m args below meth c D ca tpC a A 6 (QmV D ca tpC a A below args s) S [(0, .ref (a 111)), (1, .ref (a o1)), (2, .int v2), (3, .int v3)] 12 [] (L12 v2 v3 S)) (v2 : Int32) (v3 : Int32) (v4 : Int32) (S : St) : VV p l e (rmd d) s m args below meth c D ca tpC a A 6 (QmV D ca tpC a A below args s) S [(0, .ref (a 111)), (1, .ref (a o1)), (2, .int v2), (3, .int v3), (4, .int v4)] 62 [] (c_Noon_goDownTheStreet_b62 o1 L12 v2 v3 v4 S) := by
  unfold c_Noon_goDownTheStreet_b62
  refine V_aload_n (pc := 62) h 0 dX3_goDownTheStreet_62 rfl rfl ?_
  refine V_iload_n (pc := 63) h 3 dX3_goDownTheStreet_63 rfl rfl ?_
  refine V_iload (pc := 64) h 4 dX3_goDownTheStreet_64 rfl ?_
  refine V_callVV (pc := 66) (dy := 2) (q := (RX3, TX3, 13)) h [.int v3, .int v4] [] 111 mv_X3_78 oC_111 rfl dX3_goDownTheStreet_66 rfl rfl (Nat.le_of_ble_eq_true rfl) (Nat.le_trans (by decide) hD) (c_Noon_serve v3 v4 S) (fun z9 hz9 => c_Noon_serve_ct h.gg (Nat.le_refl 2) v3 v4 S z9 hz9) (fun S1 => ?_)
  refine V_aload_n (pc := 69) h 0 dX3_goDownTheStreet_69 rfl rfl ?_
  refine V_iload_n (pc := 70) h 3 dX3_goDownTheStreet_70 rfl rfl ?_
  refine V_callVI (pc := 71) (dy := 1) (q := (RX3, TX3, 13)) h [.int v3] [] 111 mv_X3_82 oC_111 rfl dX3_goDownTheStreet_71 rfl rfl (Nat.le_of_ble_eq_true rfl) (Nat.le_trans (by decide) hD) (c_Noon_isLast v3 S1) (fun z9 hz9 => c_Noon_isLast_ct h.gg (Nat.le_refl 1) v3 S1 z9 hz9) (fun x3 S2 => ?_)
  refine V_if_eq (pc := 74) h 78 dX3_goDownTheStreet_74 (by decide) ?_ ?_
  · refine V_aload_n (pc := 78) h 1 dX3_goDownTheStreet_78 rfl rfl ?_
    refine V_iload (pc := 79) h 4 dX3_goDownTheStreet_79 rfl ?_
    refine V_callVI (pc := 81) (dy := 1) (q := (RX6, TX6, 5)) h [.int v4] [] o1 mv_X3_86 ho1.1 rfl dX3_goDownTheStreet_81 rfl rfl (Nat.le_of_ble_eq_true rfl) (Nat.le_trans (by decide) hD) (c_State_putOf o1 v4 S2) (fun z9 hz9 => c_State_putOf_ct h.gg (Nat.le_refl 1) ho1 v4 S2 z9 hz9) (fun x5 S4 => ?_)
    refine V_istore (pc := 84) h [(5, .int x5), (0, .ref (a 111)), (1, .ref (a o1)), (2, .int v2), (3, .int v3), (4, .int v4)] dX3_goDownTheStreet_84 (by decide) rfl ?_
    refine V_aload_n (pc := 86) h 2 dX3_goDownTheStreet_86 rfl rfl ?_
    refine V_iload (pc := 87) h 5 dX3_goDownTheStreet_87 rfl ?_
    refine V_iload (pc := 89) h 0 dX3_goDownTheStreet_89 rfl ?_
    refine V_aload_n (pc := 91) h 1 dX3_goDownTheStreet_91 rfl rfl ?_
    refine V_get (pc := 92) h 111 0 (.ref (a 28)) fl_X3_29_X3 oC_111 rfl rfl dX3_goDownTheStreet_92 ?_
    refine V_get (pc := 95) h 28 1 (.int (S4 28 1)) fl_X3_90_X7 oC_28 rfl rfl dX3_goDownTheStreet_95 ?_
    refine V_callVI (pc := 98) (dy := 3) (q := (RX6, TX6, 5)) h [.int v4, .int x5, .int (S4 28 1)] [] o1 mv_X3_93 ho1.1 rfl dX3_goDownTheStreet_98 rfl rfl (Nat.le_of_ble_eq_true rfl) (Nat.le_trans (by decide) hD) (c_State_hasEnough o1 v4 x5 (S4 28 1) S4) (fun z9 hz9 => c_State_hasEnough_ct h.gg (Nat.le_refl 3) ho1 v4 x5 (S4 28 1) S4 z9 hz9) (fun x7 S6 => ?_)
    refine V_if_eq (pc := 101) h 149 dX3_goDownTheStreet_101 (by decide) ?_ ?_
    · exact V_ls [1, 2, 3, 4, 5] rfl (c_Noon_goDownTheStreet_b149_ok h hr hlk hD o1 ho1 L12 hL12 v2 v3 v4 S6)
    · refine V_aload_n (pc := 104) h 1 dX3_goDownTheStreet_104 rfl rfl ?_
      refine V_get (pc := 105) h 111 8 (.int (S6 111 8)) fl_X3_37_X3 oC_111 rfl rfl dX3_goDownTheStreet_105 ?_
      refine V_iconst (pc := 108) (v := -1) h dX3_goDownTheStreet_108 (by decide) ?_
      refine V_icmp_ne (pc := 109) h 128 dX3_goDownTheStreet_109 (by decide) ?_ ?_
      · exact V_ls [1, 2, 3, 4, 5, 0] rfl (c_Noon_goDownTheStreet_b128_ok h hr hlk hD o1 ho1 L12 hL12 v2 v3 v4 x5 S6)
      · refine V_aload_n (pc := 112) h 1 dX3_goDownTheStreet_112 rfl rfl ?_
        refine V_iload_n (pc := 113) h 3 dX3_goDownTheStreet_113 rfl rfl ?_
        refine V_iload (pc := 114) h 0 dX3_goDownTheStreet_114 rfl ?_
        refine V_callVI (pc := 116) (dy := 1) (q := (RX3, TX3, 13)) h [.int v2, .int x5] [] 111 mv_X3_97 oC_111 rfl dX3_goDownTheStreet_116 rfl rfl (Nat.le_of_ble_eq_true rfl) (Nat.le_trans (by decide) hD) (c_Noon_breaksLaw v2 x5 S6) (fun z9 hz9 => c_Noon_breaksLaw_ct h.gg (Nat.le_refl 1) v2 x5 S6 z9 hz9) (fun x9 S8 => ?_)
        refine V_if_eq (pc := 119) h 128 dX3_goDownTheStreet_119 (by decide) ?_ ?_
        · exact V_ls [1, 2, 3, 4, 5, 0] rfl (c_Noon_goDownTheStreet_b128_ok h hr hlk hD o1 ho1 L12 hL12 v2 v3 v4 x5 S8)
        · refine V_aload_n (pc := 122) h 1 dX3_goDownTheStreet_122 rfl rfl ?_
          refine V_iload (pc := 123) h 5 dX3_goDownTheStreet_123 rfl ?_
          refine V_put (pc := 125) h 111 8 v4 fp_X3_37_X3 oC_111 rfl rfl rfl rfl dX3_goDownTheStreet_125 (fun S10 => ?_)
          exact V_ls [1, 2, 3, 4, 5, 0] rfl (c_Noon_goDownTheStreet_b128_ok h hr hlk hD o1 ho1 L12 hL12 v2 v3 v4 x5 S10)
  · exact V_vret (pc := 77) h hr hlk dX3_goDownTheStreet_77
def c_Noon_goDownTheStreet_h12 (o1 : Nat) : Nat → Int32 → Int32 → St → Option St
  | 0, _, _, _ => none
  | n + 1, v2, v3, S => (if (S 28 0) ≤ v3 then (some S) else (ckM v3 6 (bnd (S (o1 + 3) v3.toNatClampNeg) (fun x1 => (if v3 = (S 111 11) then (ckM v3 7 (ckM v3 7 (bV (c_Noon_scoop (114 + v3.toNatClampNeg) 128 (114 + v3.toNatClampNeg) (S 111 12) S) (fun S6 => (c_Noon_goDownTheStreet_b62 o1 (c_Noon_goDownTheStreet_h12 o1 n) v2 v3 x1 S6))))) else (c_Noon_goDownTheStreet_b62 o1 (c_Noon_goDownTheStreet_h12 o1 n) v2 v3 x1 S))))))
set_option maxHeartbeats 4000000 in
set_option maxRecDepth 100000 in
theorem c_Noon_goDownTheStreet_h12_ok {d : Nat} (h : Cx p s m c cX3_goDownTheStreet 6 RX3 s0 args0 D ca a A) (hr : meth.sig.returnType = none) (hlk : meth.locks = false) (hD : 4 ≤ d) (o1 : Nat) (ho1 : isSt o1) : ∀ (n : Nat) (v2 : Int32) (v3 : Int32) (S : St), VV p l e (rmd d) s m args below meth c D ca tpC a A 6 (QmV D ca tpC a A below args s) S [(0, .ref (a 111)), (1, .ref (a o1)), (2, .int v2), (3, .int v3)] 12 [] (c_Noon_goDownTheStreet_h12 o1 n v2 v3 S) := by
  intro n
  induction n with
  | zero => intro v2 v3 S; exact V_none
  | succ n ih =>
    intro v2 v3 S
    unfold c_Noon_goDownTheStreet_h12
    refine V_iload_n (pc := 12) h 3 dX3_goDownTheStreet_12 rfl rfl ?_
    refine V_aload_n (pc := 13) h 0 dX3_goDownTheStreet_13 rfl rfl ?_
    refine V_get (pc := 14) h 111 0 (.ref (a 28)) fl_X3_29_X3 oC_111 rfl rfl dX3_goDownTheStreet_14 ?_
    refine V_get (pc := 17) h 28 0 (.int (S 28 0)) fl_X3_66_X7 oC_28 rfl rfl dX3_goDownTheStreet_17 ?_
    refine V_icmp_ge (pc := 20) h 174 dX3_goDownTheStreet_20 (by decide) ?_ ?_
    · exact V_vret (pc := 174) h hr hlk dX3_goDownTheStreet_174
    · refine V_aload_n (pc := 23) h 1 dX3_goDownTheStreet_23 rfl rfl ?_
      refine V_get (pc := 24) h o1 3 (.ref (a (o1 + 3))) fl_X3_71_X6 ho1.1 rfl rfl dX3_goDownTheStreet_24 ?_
      refine V_iload_n (pc := 27) h 3 dX3_goDownTheStreet_27 rfl rfl ?_
      refine V_iald (pc := 28) h (o1 + 3) ho1.2.2.2.1 dX3_goDownTheStreet_28 ?_
      refine V_top (fun x1 => ?_)
      refine V_istore (pc := 29) h [(4, .int x1), (0, .ref (a 111)), (1, .ref (a o1)), (2, .int v2), (3, .int v3)] dX3_goDownTheStreet_29 (by decide) rfl ?_
      refine V_iload_n (pc := 31) h 4 dX3_goDownTheStreet_31 rfl rfl ?_
      refine V_aload_n (pc := 32) h 1 dX3_goDownTheStreet_32 rfl rfl ?_
      refine V_get (pc := 33) h 111 11 (.int (S 111 11)) fl_X3_44_X3 oC_111 rfl rfl dX3_goDownTheStreet_33 ?_
      refine V_icmp_ne (pc := 36) h 62 dX3_goDownTheStreet_36 (by decide) ?_ ?_
      · exact V_ls [1, 2, 3, 4, 0] rfl (c_Noon_goDownTheStreet_b62_ok h hr hlk hD o1 ho1 (c_Noon_goDownTheStreet_h12 o1 n) ih v2 v3 x1 S)
      · refine V_aload_n (pc := 39) h 1 dX3_goDownTheStreet_39 rfl rfl ?_
        refine V_get (pc := 40) h 111 1 (.ref (a 112)) fl_X3_11_X3 oC_111 rfl rfl dX3_goDownTheStreet_40 ?_
        refine V_iload_n (pc := 43) h 4 dX3_goDownTheStreet_43 rfl rfl ?_
        refine V_aald0 (pc := 44) h 112 oC_112 (by decide) dX3_goDownTheStreet_44 (fun h2 h3 => ?_)
        refine V_aload_n (pc := 45) h 1 dX3_goDownTheStreet_45 rfl rfl ?_
        refine V_get (pc := 46) h 111 12 (.int (S 111 12)) fl_X3_54_X3 oC_111 rfl rfl dX3_goDownTheStreet_46 ?_
        refine V_aload_n (pc := 49) h 1 dX3_goDownTheStreet_49 rfl rfl ?_
        refine V_get (pc := 50) h 111 4 (.ref (a 128)) fl_X3_23_X3 oC_111 rfl rfl dX3_goDownTheStreet_50 ?_
        refine V_aload_n (pc := 53) h 1 dX3_goDownTheStreet_53 rfl rfl ?_
        refine V_get (pc := 54) h 111 1 (.ref (a 112)) fl_X3_11_X3 oC_111 rfl rfl dX3_goDownTheStreet_54 ?_
        refine V_iload_n (pc := 57) h 4 dX3_goDownTheStreet_57 rfl rfl ?_
        refine V_aald0 (pc := 58) h 112 oC_112 (by decide) dX3_goDownTheStreet_58 (fun h4 h5 => ?_)
        refine V_callSV (pc := 59) (dy := 1) h [.ref (a (114 + v3.toNatClampNeg)), .int (S 111 12), .ref (a 128), .ref (a (114 + v3.toNatClampNeg))] [] ms_X3_74 dX3_goDownTheStreet_59 rfl rfl (Nat.le_of_ble_eq_true rfl) (Nat.le_trans (by decide) hD) (c_Noon_scoop (114 + v3.toNatClampNeg) 128 (114 + v3.toNatClampNeg) (S 111 12) S) (fun z9 hz9 => c_Noon_scoop_ct h.gg (Nat.le_refl 1) (rC_112 _ h3) oC_128 (rC_112 _ h5) (S 111 12) S z9 hz9) (fun S6 => ?_)
        exact V_ls [1, 2, 3, 4, 0] rfl (c_Noon_goDownTheStreet_b62_ok h hr hlk hD o1 ho1 (c_Noon_goDownTheStreet_h12 o1 n) ih v2 v3 x1 S6)
def c_Noon_goDownTheStreet (o1 : Nat) (S : St) : Option St := (bV (c_Noon_begin (S o1 0) S) (fun S1 => (c_Noon_goDownTheStreet_h12 o1 FU (0 : Int32) (0 : Int32) S1)))
set_option maxHeartbeats 4000000 in
set_option maxRecDepth 100000 in
theorem c_Noon_goDownTheStreet_ok {d : Nat} (h : Cx p s m c cX3_goDownTheStreet 6 RX3 s0 args0 D ca a A) (hr : meth.sig.returnType = none) (hlk : meth.locks = false) (hD : 4 ≤ d) (o1 : Nat) (ho1 : isSt o1) (S : St) : VV p l e (rmd d) s m args below meth c D ca tpC a A 6 (QmV D ca tpC a A below args s) S [(0, .ref (a 111)), (1, .ref (a o1))] 0 [] (c_Noon_goDownTheStreet o1 S) := by
  unfold c_Noon_goDownTheStreet
  refine V_aload_n (pc := 0) h 0 dX3_goDownTheStreet_0 rfl rfl ?_
  refine V_aload_n (pc := 1) h 1 dX3_goDownTheStreet_1 rfl rfl ?_
  refine V_get (pc := 2) h o1 0 (.int (S o1 0)) fl_X3_57_X6 ho1.1 rfl rfl dX3_goDownTheStreet_2 ?_
  refine V_callVV (pc := 5) (dy := 1) (q := (RX3, TX3, 13)) h [.int (S o1 0)] [] 111 mv_X3_62 oC_111 rfl dX3_goDownTheStreet_5 rfl rfl (Nat.le_of_ble_eq_true rfl) (Nat.le_trans (by decide) hD) (c_Noon_begin (S o1 0) S) (fun z9 hz9 => c_Noon_begin_ct h.gg (Nat.le_refl 1) (S o1 0) S z9 hz9) (fun S1 => ?_)
  refine V_iconst (pc := 8) (v := 0) h dX3_goDownTheStreet_8 (by decide) ?_
  refine V_istore_n (pc := 9) h [(2, .int (0 : Int32)), (0, .ref (a 111)), (1, .ref (a o1))] dX3_goDownTheStreet_9 rfl (by decide) rfl ?_
  refine V_iconst (pc := 10) (v := 0) h dX3_goDownTheStreet_10 (by decide) ?_
  refine V_istore_n (pc := 11) h [(3, .int (0 : Int32)), (2, .int (0 : Int32)), (0, .ref (a 111)), (1, .ref (a o1))] dX3_goDownTheStreet_11 rfl (by decide) rfl ?_
  exact V_ls [2, 3, 1, 0] rfl (c_Noon_goDownTheStreet_h12_ok h hr hlk hD o1 ho1 FU (0 : Int32) (0 : Int32) S1)
theorem c_Noon_goDownTheStreet_ct {d : Nat} (g : GG s0 args0 D ca a A) (hD : 4 ≤ d) {o1 : Nat} (ho1 : isSt o1) (S : St) (z : St) (hz : c_Noon_goDownTheStreet o1 S = some z) : CtV l yX3_goDownTheStreet cX3_goDownTheStreet 6 d s0 D ca tpC a A [.ref (a 111), .ref (a o1)] S z := CtV_mk g (by decide +kernel) (Nat.le_of_ble_eq_true rfl) hz (fun p e s m args below meth c h hr hlk => c_Noon_goDownTheStreet_ok h hr hlk hD o1 ho1 S)
def c_Noon_run (o1 : Nat) (S : St) : Option St := (bnd (up2 S 111 9 (-1 : Int32)) (fun S1 => (bnd (up2 S1 111 11 (-1 : Int32)) (fun S2 => (bV (c_Noon_goDownTheStreet o1 S2) (fun S3 => (some S3)))))))
set_option maxHeartbeats 4000000 in
set_option maxRecDepth 100000 in
theorem c_Noon_run_ok {d : Nat} (h : Cx p s m c cX3_run 2 RX3 s0 args0 D ca a A) (hr : meth.sig.returnType = none) (hlk : meth.locks = false) (hD : 5 ≤ d) (o1 : Nat) (ho1 : isSt o1) (S : St) : VV p l e (rmd d) s m args below meth c D ca tpC a A 2 (QmV D ca tpC a A below args s) S [(0, .ref (a 111)), (1, .ref (a o1))] 0 [] (c_Noon_run o1 S) := by
  unfold c_Noon_run
  refine V_aload_n (pc := 0) h 0 dX3_run_0 rfl rfl ?_
  refine V_iconst (pc := 1) (v := -1) h dX3_run_1 (by decide) ?_
  refine V_put (pc := 2) h 111 9 (-1 : Int32) fp_X3_41_X3 oC_111 rfl rfl rfl rfl dX3_run_2 (fun S1 => ?_)
  refine V_aload_n (pc := 5) h 0 dX3_run_5 rfl rfl ?_
  refine V_iconst (pc := 6) (v := -1) h dX3_run_6 (by decide) ?_
  refine V_put (pc := 7) h 111 11 (-1 : Int32) fp_X3_44_X3 oC_111 rfl rfl rfl rfl dX3_run_7 (fun S2 => ?_)
  refine V_aload_n (pc := 10) h 0 dX3_run_10 rfl rfl ?_
  refine V_aload_n (pc := 11) h 1 dX3_run_11 rfl rfl ?_
  refine V_callVV (pc := 12) (dy := 4) (q := (RX3, TX3, 13)) h [.ref (a o1)] [] 111 mv_X3_47 oC_111 rfl dX3_run_12 rfl rfl (Nat.le_of_ble_eq_true rfl) (Nat.le_trans (by decide) hD) (c_Noon_goDownTheStreet o1 S2) (fun z9 hz9 => c_Noon_goDownTheStreet_ct h.gg (Nat.le_refl 4) ho1 S2 z9 hz9) (fun S3 => ?_)
  exact V_vret (pc := 15) h hr hlk dX3_run_15
theorem c_Noon_run_ct {d : Nat} (g : GG s0 args0 D ca a A) (hD : 5 ≤ d) {o1 : Nat} (ho1 : isSt o1) (S : St) (z : St) (hz : c_Noon_run o1 S = some z) : CtV l yX3_run cX3_run 2 d s0 D ca tpC a A [.ref (a 111), .ref (a o1)] S z := CtV_mk g (by decide +kernel) (Nat.le_of_ble_eq_true rfl) hz (fun p e s m args below meth c h hr hlk => c_Noon_run_ok h hr hlk hD o1 ho1 S)
def c_N_meal (v1 : Int32) (S : St) : Option (Int32 × St) := (bI (c_N_isHouse v1 S) (fun x2 S1 => (if x2 = 0 then (some ((-100000000 : Int32), S1)) else (bV (c_Noon_run 33 S1) (fun S3 => (bI (c_Noon_mealOf v1 S3) (fun x5 S4 => (some (x5, S4)))))))))
set_option maxHeartbeats 4000000 in
set_option maxRecDepth 100000 in
theorem c_N_meal_ok {d : Nat} (h : Cx p s m c cX10_meal 2 RX10 s0 args0 D ca a A) (hr : meth.sig.returnType = some .int) (hlk : meth.locks = false) (hD : 6 ≤ d) (v1 : Int32) (S : St) : VV p l e (rmd d) s m args below meth c D ca tpC a A 2 (QmI D ca tpC a A below args s) S [(0, .ref (a 0)), (1, .int v1)] 0 [] (c_N_meal v1 S) := by
  unfold c_N_meal
  refine V_aload_n (pc := 0) h 0 dX10_meal_0 rfl rfl ?_
  refine V_iload_n (pc := 1) h 1 dX10_meal_1 rfl rfl ?_
  refine V_callVI (pc := 2) (dy := 1) (q := (RX10, TX10, 15)) h [.int v1] [] 0 mv_X10_137 oC_0 rfl dX10_meal_2 rfl rfl (Nat.le_of_ble_eq_true rfl) (Nat.le_trans (by decide) hD) (c_N_isHouse v1 S) (fun z9 hz9 => c_N_isHouse_ct h.gg (Nat.le_refl 1) v1 S z9 hz9) (fun x2 S1 => ?_)
  refine V_if_ne (pc := 5) h 11 dX10_meal_5 (by decide) ?_ ?_
  · refine V_aload_n (pc := 11) h 0 dX10_meal_11 rfl rfl ?_
    refine V_get (pc := 12) h 0 12 (.ref (a 111)) fl_X10_82_X10 oC_0 rfl rfl dX10_meal_12 ?_
    refine V_aload_n (pc := 15) h 0 dX10_meal_15 rfl rfl ?_
    refine V_get (pc := 16) h 0 7 (.ref (a 33)) fl_X10_56_X10 oC_0 rfl rfl dX10_meal_16 ?_
    refine V_callVV (pc := 19) (dy := 5) (q := (RX3, TX3, 13)) h [.ref (a 33)] [] 111 mv_X10_195 oC_111 rfl dX10_meal_19 rfl rfl (Nat.le_of_ble_eq_true rfl) (Nat.le_trans (by decide) hD) (c_Noon_run 33 S1) (fun z9 hz9 => c_Noon_run_ct h.gg (Nat.le_refl 5) isSt_33 S1 z9 hz9) (fun S3 => ?_)
    refine V_aload_n (pc := 22) h 0 dX10_meal_22 rfl rfl ?_
    refine V_get (pc := 23) h 0 12 (.ref (a 111)) fl_X10_82_X10 oC_0 rfl rfl dX10_meal_23 ?_
    refine V_iload_n (pc := 26) h 1 dX10_meal_26 rfl rfl ?_
    refine V_callVI (pc := 27) (dy := 4) (q := (RX3, TX3, 13)) h [.int v1] [] 111 mv_X10_199 oC_111 rfl dX10_meal_27 rfl rfl (Nat.le_of_ble_eq_true rfl) (Nat.le_trans (by decide) hD) (c_Noon_mealOf v1 S3) (fun z9 hz9 => c_Noon_mealOf_ct h.gg (Nat.le_refl 4) v1 S3 z9 hz9) (fun x5 S4 => ?_)
    exact V_iret (pc := 30) h hr hlk dX10_meal_30
  · refine V_ldc (pc := 8) (v := -100000000) h dX10_meal_8 tw_3_198 ?_
    exact V_iret (pc := 10) h hr hlk dX10_meal_10
theorem c_N_meal_ct {d : Nat} (g : GG s0 args0 D ca a A) (hD : 6 ≤ d) (v1 : Int32) (S : St) (z : Int32 × St) (hz : c_N_meal v1 S = some z) : CtI l yX10_meal cX10_meal 2 .int d s0 D ca tpC a A [.ref (a 0), .int v1] S z := CtI_mk g (by decide +kernel) (Nat.le_of_ble_eq_true rfl) hz (fun p e s m args below meth c h hr hlk => c_N_meal_ok h hr hlk hD v1 S)
def c_N_share (v1 : Int32) (v2 : Int32) (S : St) : Option (Int32 × St) := (bI (c_N_isHouse v1 S) (fun x2 S1 => (if x2 = 0 then (some ((-1 : Int32), S1)) else (bI (c_N_isStuff v2 S1) (fun x4 S3 => (if x4 = 0 then (some ((-1 : Int32), S3)) else (bV (c_Noon_run 33 S3) (fun S5 => (bI (c_Noon_got v1 v2 S5) (fun x7 S6 => (some (x7, S6))))))))))))
set_option maxHeartbeats 4000000 in
set_option maxRecDepth 100000 in
theorem c_N_share_ok {d : Nat} (h : Cx p s m c cX10_share 3 RX10 s0 args0 D ca a A) (hr : meth.sig.returnType = some .int) (hlk : meth.locks = false) (hD : 6 ≤ d) (v1 : Int32) (v2 : Int32) (S : St) : VV p l e (rmd d) s m args below meth c D ca tpC a A 3 (QmI D ca tpC a A below args s) S [(0, .ref (a 0)), (1, .int v1), (2, .int v2)] 0 [] (c_N_share v1 v2 S) := by
  unfold c_N_share
  refine V_aload_n (pc := 0) h 0 dX10_share_0 rfl rfl ?_
  refine V_iload_n (pc := 1) h 1 dX10_share_1 rfl rfl ?_
  refine V_callVI (pc := 2) (dy := 1) (q := (RX10, TX10, 15)) h [.int v1] [] 0 mv_X10_137 oC_0 rfl dX10_share_2 rfl rfl (Nat.le_of_ble_eq_true rfl) (Nat.le_trans (by decide) hD) (c_N_isHouse v1 S) (fun z9 hz9 => c_N_isHouse_ct h.gg (Nat.le_refl 1) v1 S z9 hz9) (fun x2 S1 => ?_)
  refine V_if_eq (pc := 5) h 15 dX10_share_5 (by decide) ?_ ?_
  · refine V_iconst (pc := 15) (v := -1) h dX10_share_15 (by decide) ?_
    exact V_iret (pc := 16) h hr hlk dX10_share_16
  · refine V_iload_n (pc := 8) h 2 dX10_share_8 rfl rfl ?_
    refine V_callSI (pc := 9) (dy := 1) h [.int v2] [] ms_X10_148 dX10_share_9 rfl rfl (Nat.le_of_ble_eq_true rfl) (Nat.le_trans (by decide) hD) (c_N_isStuff v2 S1) (fun z9 hz9 => c_N_isStuff_ct h.gg (Nat.le_refl 1) v2 S1 z9 hz9) (fun x4 S3 => ?_)
    refine V_if_ne (pc := 12) h 17 dX10_share_12 (by decide) ?_ ?_
    · refine V_aload_n (pc := 17) h 0 dX10_share_17 rfl rfl ?_
      refine V_get (pc := 18) h 0 12 (.ref (a 111)) fl_X10_82_X10 oC_0 rfl rfl dX10_share_18 ?_
      refine V_aload_n (pc := 21) h 0 dX10_share_21 rfl rfl ?_
      refine V_get (pc := 22) h 0 7 (.ref (a 33)) fl_X10_56_X10 oC_0 rfl rfl dX10_share_22 ?_
      refine V_callVV (pc := 25) (dy := 5) (q := (RX3, TX3, 13)) h [.ref (a 33)] [] 111 mv_X10_195 oC_111 rfl dX10_share_25 rfl rfl (Nat.le_of_ble_eq_true rfl) (Nat.le_trans (by decide) hD) (c_Noon_run 33 S3) (fun z9 hz9 => c_Noon_run_ct h.gg (Nat.le_refl 5) isSt_33 S3 z9 hz9) (fun S5 => ?_)
      refine V_aload_n (pc := 28) h 0 dX10_share_28 rfl rfl ?_
      refine V_get (pc := 29) h 0 12 (.ref (a 111)) fl_X10_82_X10 oC_0 rfl rfl dX10_share_29 ?_
      refine V_iload_n (pc := 32) h 1 dX10_share_32 rfl rfl ?_
      refine V_iload_n (pc := 33) h 2 dX10_share_33 rfl rfl ?_
      refine V_callVI (pc := 34) (dy := 1) (q := (RX3, TX3, 13)) h [.int v1, .int v2] [] 111 mv_X10_202 oC_111 rfl dX10_share_34 rfl rfl (Nat.le_of_ble_eq_true rfl) (Nat.le_trans (by decide) hD) (c_Noon_got v1 v2 S5) (fun z9 hz9 => c_Noon_got_ct h.gg (Nat.le_refl 1) v1 v2 S5 z9 hz9) (fun x7 S6 => ?_)
      exact V_iret (pc := 37) h hr hlk dX10_share_37
    · refine V_iconst (pc := 15) (v := -1) h dX10_share_15 (by decide) ?_
      exact V_iret (pc := 16) h hr hlk dX10_share_16
theorem c_N_share_ct {d : Nat} (g : GG s0 args0 D ca a A) (hD : 6 ≤ d) (v1 : Int32) (v2 : Int32) (S : St) (z : Int32 × St) (hz : c_N_share v1 v2 S = some z) : CtI l yX10_share cX10_share 3 .int d s0 D ca tpC a A [.ref (a 0), .int v1, .int v2] S z := CtI_mk g (by decide +kernel) (Nat.le_of_ble_eq_true rfl) hz (fun p e s m args below meth c h hr hlk => c_N_share_ok h hr hlk hD v1 v2 S)
def c_N_heat (v1 : Int32) (S : St) : Option (Int32 × St) := (bI (c_N_isHouse v1 S) (fun x2 S1 => (if x2 = 0 then (some ((-1 : Int32), S1)) else (bV (c_Noon_run 33 S1) (fun S3 => (bI (c_Noon_heatOf v1 S3) (fun x5 S4 => (some (x5, S4)))))))))
set_option maxHeartbeats 4000000 in
set_option maxRecDepth 100000 in
theorem c_N_heat_ok {d : Nat} (h : Cx p s m c cX10_heat 2 RX10 s0 args0 D ca a A) (hr : meth.sig.returnType = some .int) (hlk : meth.locks = false) (hD : 6 ≤ d) (v1 : Int32) (S : St) : VV p l e (rmd d) s m args below meth c D ca tpC a A 2 (QmI D ca tpC a A below args s) S [(0, .ref (a 0)), (1, .int v1)] 0 [] (c_N_heat v1 S) := by
  unfold c_N_heat
  refine V_aload_n (pc := 0) h 0 dX10_heat_0 rfl rfl ?_
  refine V_iload_n (pc := 1) h 1 dX10_heat_1 rfl rfl ?_
  refine V_callVI (pc := 2) (dy := 1) (q := (RX10, TX10, 15)) h [.int v1] [] 0 mv_X10_137 oC_0 rfl dX10_heat_2 rfl rfl (Nat.le_of_ble_eq_true rfl) (Nat.le_trans (by decide) hD) (c_N_isHouse v1 S) (fun z9 hz9 => c_N_isHouse_ct h.gg (Nat.le_refl 1) v1 S z9 hz9) (fun x2 S1 => ?_)
  refine V_if_ne (pc := 5) h 10 dX10_heat_5 (by decide) ?_ ?_
  · refine V_aload_n (pc := 10) h 0 dX10_heat_10 rfl rfl ?_
    refine V_get (pc := 11) h 0 12 (.ref (a 111)) fl_X10_82_X10 oC_0 rfl rfl dX10_heat_11 ?_
    refine V_aload_n (pc := 14) h 0 dX10_heat_14 rfl rfl ?_
    refine V_get (pc := 15) h 0 7 (.ref (a 33)) fl_X10_56_X10 oC_0 rfl rfl dX10_heat_15 ?_
    refine V_callVV (pc := 18) (dy := 5) (q := (RX3, TX3, 13)) h [.ref (a 33)] [] 111 mv_X10_195 oC_111 rfl dX10_heat_18 rfl rfl (Nat.le_of_ble_eq_true rfl) (Nat.le_trans (by decide) hD) (c_Noon_run 33 S1) (fun z9 hz9 => c_Noon_run_ct h.gg (Nat.le_refl 5) isSt_33 S1 z9 hz9) (fun S3 => ?_)
    refine V_aload_n (pc := 21) h 0 dX10_heat_21 rfl rfl ?_
    refine V_get (pc := 22) h 0 12 (.ref (a 111)) fl_X10_82_X10 oC_0 rfl rfl dX10_heat_22 ?_
    refine V_iload_n (pc := 25) h 1 dX10_heat_25 rfl rfl ?_
    refine V_callVI (pc := 26) (dy := 1) (q := (RX3, TX3, 13)) h [.int v1] [] 111 mv_X10_205 oC_111 rfl dX10_heat_26 rfl rfl (Nat.le_of_ble_eq_true rfl) (Nat.le_trans (by decide) hD) (c_Noon_heatOf v1 S3) (fun z9 hz9 => c_Noon_heatOf_ct h.gg (Nat.le_refl 1) v1 S3 z9 hz9) (fun x5 S4 => ?_)
    exact V_iret (pc := 29) h hr hlk dX10_heat_29
  · refine V_iconst (pc := 8) (v := -1) h dX10_heat_8 (by decide) ?_
    exact V_iret (pc := 9) h hr hlk dX10_heat_9
theorem c_N_heat_ct {d : Nat} (g : GG s0 args0 D ca a A) (hD : 6 ≤ d) (v1 : Int32) (S : St) (z : Int32 × St) (hz : c_N_heat v1 S = some z) : CtI l yX10_heat cX10_heat 2 .int d s0 D ca tpC a A [.ref (a 0), .int v1] S z := CtI_mk g (by decide +kernel) (Nat.le_of_ble_eq_true rfl) hz (fun p e s m args below meth c h hr hlk => c_N_heat_ok h hr hlk hD v1 S)
end GEN
