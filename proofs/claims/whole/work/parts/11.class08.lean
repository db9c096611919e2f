section GEN
variable {p : Program} {l : Launch} {e : Env} {s : State} {m : MethodId} {args : Array Value} {below : List Frame} {meth : Method} {c : Code}
variable {D : va_G} {ca : Nat → ClassId} {tp : List ODt} {a : Nat → Nat} {A : Nat → Prop} {s0 : State} {args0 : Array Value} {t : Nat}
def c_State_placeOf_h2 (o0 : Nat) : Nat → Int32 → Int32 → St → Option (Int32 × St)
  | 0, _, _, _ => none
  | n + 1, v1, v2, S => (if (6 : Int32) ≤ v2 then (some ((-1 : Int32), S)) else (ckM v2 6 (if (S (o0 + 3) v2.toNatClampNeg) = v1 then (some (v2, S)) else (bnd (v2 + (1 : Int32)) (fun x1 => ((c_State_placeOf_h2 o0 n) v1 x1 S))))))
set_option maxHeartbeats 4000000 in
set_option maxRecDepth 100000 in
theorem c_State_placeOf_h2_ok {d : Nat} (h : Cx p s m c cX6_placeOf 3 RX6 s0 args0 D ca a A) (hr : meth.sig.returnType = some .int) (hlk : meth.locks = false) (hD : 1 ≤ d) (o0 : Nat) (ho0 : isSt o0) : ∀ (n : Nat) (v1 : Int32) (v2 : Int32) (S : St), VV p l e (rmd d) s m args below meth c D ca tpC a A 3 (QmI D ca tpC a A below args s) S [(0, .ref (a o0)), (1, .int v1), (2, .int v2)] 2 [] (c_State_placeOf_h2 o0 n v1 v2 S) := by
  intro n
  induction n with
  | zero => intro v1 v2 S; exact V_none
  | succ n ih =>
    intro v1 v2 S
    unfold c_State_placeOf_h2
    refine V_iload_n (pc := 2) h 2 dX6_placeOf_2 rfl rfl ?_
    refine V_bipush (pc := 3) (v := 6) h dX6_placeOf_3 (by decide) ?_
    refine V_icmp_ge (pc := 5) h 26 dX6_placeOf_5 (by decide) ?_ ?_
    · refine V_iconst (pc := 26) (v := -1) h dX6_placeOf_26 (by decide) ?_
      exact V_iret (pc := 27) h hr hlk dX6_placeOf_27
    · refine V_aload_n (pc := 8) h 0 dX6_placeOf_8 rfl rfl ?_
      refine V_get (pc := 9) h o0 3 (.ref (a (o0 + 3))) fl_X6_18_X6 ho0.1 rfl rfl dX6_placeOf_9 ?_
      refine V_iload_n (pc := 12) h 2 dX6_placeOf_12 rfl rfl ?_
      refine V_iald (pc := 13) h (o0 + 3) ho0.2.2.2.1 dX6_placeOf_13 ?_
      refine V_iload_n (pc := 14) h 1 dX6_placeOf_14 rfl rfl ?_
      refine V_icmp_ne (pc := 15) h 20 dX6_placeOf_15 (by decide) ?_ ?_
      · refine V_iincB (pc := 20) h 2 (1 : Int32) (fun x1 => [(2, .int x1), (0, .ref (a o0)), (1, .int v1)]) dX6_placeOf_20 rfl (by decide) (by decide) (fun _ => rfl) (fun x1 => ?_)
        refine V_goto (pc := 23) h 2 dX6_placeOf_23 (by decide) ?_
        exact V_ls [1, 2, 0] rfl (ih v1 x1 S)
      · refine V_iload_n (pc := 18) h 2 dX6_placeOf_18 rfl rfl ?_
        exact V_iret (pc := 19) h hr hlk dX6_placeOf_19
def c_State_placeOf (o0 : Nat) (v1 : Int32) (S : St) : Option (Int32 × St) := (c_State_placeOf_h2 o0 FU v1 (0 : Int32) S)
set_option maxHeartbeats 4000000 in
set_option maxRecDepth 100000 in
theorem c_State_placeOf_ok {d : Nat} (h : Cx p s m c cX6_placeOf 3 RX6 s0 args0 D ca a A) (hr : meth.sig.returnType = some .int) (hlk : meth.locks = false) (hD : 1 ≤ d) (o0 : Nat) (ho0 : isSt o0) (v1 : Int32) (S : St) : VV p l e (rmd d) s m args below meth c D ca tpC a A 3 (QmI D ca tpC a A below args s) S [(0, .ref (a o0)), (1, .int v1)] 0 [] (c_State_placeOf o0 v1 S) := by
  unfold c_State_placeOf
  refine V_iconst (pc := 0) (v := 0) h dX6_placeOf_0 (by decide) ?_
  refine V_istore_n (pc := 1) h [(2, .int (0 : Int32)), (0, .ref (a o0)), (1, .int v1)] dX6_placeOf_1 rfl (by decide) rfl ?_
  exact V_ls [1, 2, 0] rfl (c_State_placeOf_h2_ok h hr hlk hD o0 ho0 FU v1 (0 : Int32) S)
theorem c_State_placeOf_ct {d : Nat} (g : GG s0 args0 D ca a A) (hD : 1 ≤ d) {o0 : Nat} (ho0 : isSt o0) (v1 : Int32) (S : St) (z : Int32 × St) (hz : c_State_placeOf o0 v1 S = some z) : CtI l yX6_placeOf cX6_placeOf 3 .int d s0 D ca tpC a A [.ref (a o0), .int v1] S z := CtI_mk g (by decide +kernel) (Nat.le_of_ble_eq_true rfl) hz (fun p e s m args below meth c h hr hlk => c_State_placeOf_ok h hr hlk hD o0 ho0 v1 S)
def c_N_lasts_b99 (v2 : Int32) (S : St) : Option (Int32 × St) := (some ((imin v2 (99 : Int32)), S))
set_option maxHeartbeats 4000000 in
set_option maxRecDepth 100000 in
theorem c_N_lasts_b99_ok {d : Nat} (h : Cx p s m c cX10_lasts 4 RX10 s0 args0 D ca a A) (hr : meth.sig.returnType = some .int) (hlk : meth.locks = false) (hD : 4 ≤ d) (v2 : Int32) (S : St) : VV p l e (rmd d) s m args below meth c D ca tpC a A 4 (QmI D ca tpC a A below args s) S [(2, .int v2)] 99 [] (c_N_lasts_b99 v2 S) := by
  unfold c_N_lasts_b99
  refine V_iload_n (pc := 99) h 0 dX10_lasts_99 rfl rfl ?_
  refine V_bipush (pc := 100) (v := 99) h dX10_lasts_100 (by decide) ?_
  refine V_mmin (pc := 102) h dX10_lasts_102 tw_5_13 tw_2_227 tw_1_16 tw_2_228 (Nat.le_trans (by decide) hD) (Nat.le_of_ble_eq_true rfl) ?_
  exact V_iret (pc := 105) h hr hlk dX10_lasts_105
def c_N_lasts_b87 (v2 : Int32) (k0 : Int32) (S : St) : Option (Int32 × St) := (if k0 = 0 then (c_N_lasts_b99 v2 S) else (if v2 ≤ 0 then (c_N_lasts_b99 v2 S) else (some ((99 : Int32), S))))
set_option maxHeartbeats 4000000 in
set_option maxRecDepth 100000 in
theorem c_N_lasts_b87_ok {d : Nat} (h : Cx p s m c cX10_lasts 4 RX10 s0 args0 D ca a A) (hr : meth.sig.returnType = some .int) (hlk : meth.locks = false) (hD : 4 ≤ d) (v2 : Int32) (k0 : Int32) (S : St) : VV p l e (rmd d) s m args below meth c D ca tpC a A 4 (QmI D ca tpC a A below args s) S [(2, .int v2)] 87 [.int k0] (c_N_lasts_b87 v2 k0 S) := by
  unfold c_N_lasts_b87
  refine V_istore_n (pc := 87) h [(3, .int k0), (2, .int v2)] dX10_lasts_87 rfl (by decide) rfl ?_
  refine V_iload_n (pc := 88) h 0 dX10_lasts_88 rfl rfl ?_
  refine V_if_eq (pc := 89) h 99 dX10_lasts_89 (by decide) ?_ ?_
  · exact V_ls [1] rfl (c_N_lasts_b99_ok h hr hlk hD v2 S)
  · refine V_iload_n (pc := 92) h 1 dX10_lasts_92 rfl rfl ?_
    refine V_if_le (pc := 93) h 99 dX10_lasts_93 (by decide) ?_ ?_
    · exact V_ls [1] rfl (c_N_lasts_b99_ok h hr hlk hD v2 S)
    · refine V_bipush (pc := 96) (v := 99) h dX10_lasts_96 (by decide) ?_
      exact V_iret (pc := 98) h hr hlk dX10_lasts_98
def c_N_lasts (v1 : Int32) (S : St) : Option (Int32 × St) := (bI (c_N_isHouse v1 S) (fun x2 S1 => (if x2 = 0 then (some ((-1 : Int32), S1)) else (ckM v1 6 (bI (c_N_isStuff (S1 37 v1.toNatClampNeg) S1) (fun x4 S3 => (if x4 = 0 then (some ((-1 : Int32), S3)) else (if (1 : Int32) ≤ (S3 28 1) then (ckM v1 6 (bI (c_State_store 33 v1 (S3 37 v1.toNatClampNeg) S3) (fun x6 S5 => (dvM (S5 28 1) (bnd (x6 / (S5 28 1)) (fun x7 => (bI (c_State_placeOf 33 v1 S5) (fun x9 S8 => (if x9 = ((S8 28 0) - (1 : Int32)) then (c_N_lasts_b87 x7 (1 : Int32) S8) else (c_N_lasts_b87 x7 (0 : Int32) S8)))))))))) else (some ((-1 : Int32), S3))))))))))
set_option maxHeartbeats 4000000 in
set_option maxRecDepth 100000 in
theorem c_N_lasts_ok {d : Nat} (h : Cx p s m c cX10_lasts 4 RX10 s0 args0 D ca a A) (hr : meth.sig.returnType = some .int) (hlk : meth.locks = false) (hD : 4 ≤ d) (v1 : Int32) (S : St) : VV p l e (rmd d) s m args below meth c D ca tpC a A 4 (QmI D ca tpC a A below args s) S [(0, .ref (a 0)), (1, .int v1)] 0 [] (c_N_lasts v1 S) := by
  unfold c_N_lasts
  refine V_aload_n (pc := 0) h 0 dX10_lasts_0 rfl rfl ?_
  refine V_iload_n (pc := 1) h 1 dX10_lasts_1 rfl rfl ?_
  refine V_callVI (pc := 2) (dy := 1) (q := (RX10, TX10, 15)) h [.int v1] [] 0 mv_X10_137 oC_0 rfl dX10_lasts_2 rfl rfl (Nat.le_of_ble_eq_true rfl) (Nat.le_trans (by decide) hD) (c_N_isHouse v1 S) (fun z9 hz9 => c_N_isHouse_ct h.gg (Nat.le_refl 1) v1 S z9 hz9) (fun x2 S1 => ?_)
  refine V_if_eq (pc := 5) h 34 dX10_lasts_5 (by decide) ?_ ?_
  · refine V_iconst (pc := 34) (v := -1) h dX10_lasts_34 (by decide) ?_
    exact V_iret (pc := 35) h hr hlk dX10_lasts_35
  · refine V_aload_n (pc := 8) h 0 dX10_lasts_8 rfl rfl ?_
    refine V_get (pc := 9) h 0 7 (.ref (a 33)) fl_X10_56_X10 oC_0 rfl rfl dX10_lasts_9 ?_
    refine V_get (pc := 12) h 33 4 (.ref (a 37)) fl_X10_164_X6 oC_33 rfl rfl dX10_lasts_12 ?_
    refine V_iload_n (pc := 15) h 1 dX10_lasts_15 rfl rfl ?_
    refine V_iald (pc := 16) h 37 oC_37 dX10_lasts_16 ?_
    refine V_callSI (pc := 17) (dy := 1) h [.int (S1 37 v1.toNatClampNeg)] [] ms_X10_148 dX10_lasts_17 rfl rfl (Nat.le_of_ble_eq_true rfl) (Nat.le_trans (by decide) hD) (c_N_isStuff (S1 37 v1.toNatClampNeg) S1) (fun z9 hz9 => c_N_isStuff_ct h.gg (Nat.le_refl 1) (S1 37 v1.toNatClampNeg) S1 z9 hz9) (fun x4 S3 => ?_)
    refine V_if_eq (pc := 20) h 34 dX10_lasts_20 (by decide) ?_ ?_
    · refine V_iconst (pc := 34) (v := -1) h dX10_lasts_34 (by decide) ?_
      exact V_iret (pc := 35) h hr hlk dX10_lasts_35
    · refine V_aload_n (pc := 23) h 0 dX10_lasts_23 rfl rfl ?_
      refine V_get (pc := 24) h 0 6 (.ref (a 28)) fl_X10_49_X10 oC_0 rfl rfl dX10_lasts_24 ?_
      refine V_get (pc := 27) h 28 1 (.int (S3 28 1)) fl_X10_226_X7 oC_28 rfl rfl dX10_lasts_27 ?_
      refine V_iconst (pc := 30) (v := 1) h dX10_lasts_30 (by decide) ?_
      refine V_icmp_ge (pc := 31) h 36 dX10_lasts_31 (by decide) ?_ ?_
      · refine V_aload_n (pc := 36) h 0 dX10_lasts_36 rfl rfl ?_
        refine V_get (pc := 37) h 0 7 (.ref (a 33)) fl_X10_56_X10 oC_0 rfl rfl dX10_lasts_37 ?_
        refine V_iload_n (pc := 40) h 1 dX10_lasts_40 rfl rfl ?_
        refine V_aload_n (pc := 41) h 0 dX10_lasts_41 rfl rfl ?_
        refine V_get (pc := 42) h 0 7 (.ref (a 33)) fl_X10_56_X10 oC_0 rfl rfl dX10_lasts_42 ?_
        refine V_get (pc := 45) h 33 4 (.ref (a 37)) fl_X10_164_X6 oC_33 rfl rfl dX10_lasts_45 ?_
        refine V_iload_n (pc := 48) h 1 dX10_lasts_48 rfl rfl ?_
        refine V_iald (pc := 49) h 37 oC_37 dX10_lasts_49 ?_
        refine V_callVI (pc := 50) (dy := 3) (q := (RX6, TX6, 5)) h [.int v1, .int (S3 37 v1.toNatClampNeg)] [] 33 mv_X10_151 oC_33 rfl dX10_lasts_50 rfl rfl (Nat.le_of_ble_eq_true rfl) (Nat.le_trans (by decide) hD) (c_State_store 33 v1 (S3 37 v1.toNatClampNeg) S3) (fun z9 hz9 => c_State_store_ct h.gg (Nat.le_refl 3) isSt_33 v1 (S3 37 v1.toNatClampNeg) S3 z9 hz9) (fun x6 S5 => ?_)
        refine V_aload_n (pc := 53) h 0 dX10_lasts_53 rfl rfl ?_
        refine V_get (pc := 54) h 0 6 (.ref (a 28)) fl_X10_49_X10 oC_0 rfl rfl dX10_lasts_54 ?_
        refine V_get (pc := 57) h 28 1 (.int (S5 28 1)) fl_X10_226_X7 oC_28 rfl rfl dX10_lasts_57 ?_
        refine V_idiv (pc := 60) h dX10_lasts_60 ?_
        refine V_top (fun x7 => ?_)
        refine V_istore_n (pc := 61) h [(2, .int x7), (0, .ref (a 0)), (1, .int v1)] dX10_lasts_61 rfl (by decide) rfl ?_
        refine V_aload_n (pc := 62) h 1 dX10_lasts_62 rfl rfl ?_
        refine V_get (pc := 63) h 0 7 (.ref (a 33)) fl_X10_56_X10 oC_0 rfl rfl dX10_lasts_63 ?_
        refine V_iload_n (pc := 66) h 2 dX10_lasts_66 rfl rfl ?_
        refine V_callVI (pc := 67) (dy := 1) (q := (RX6, TX6, 5)) h [.int v1] [] 33 mv_X10_167 oC_33 rfl dX10_lasts_67 rfl rfl (Nat.le_of_ble_eq_true rfl) (Nat.le_trans (by decide) hD) (c_State_placeOf 33 v1 S5) (fun z9 hz9 => c_State_placeOf_ct h.gg (Nat.le_refl 1) isSt_33 v1 S5 z9 hz9) (fun x9 S8 => ?_)
        refine V_aload_n (pc := 70) h 1 dX10_lasts_70 rfl rfl ?_
        refine V_get (pc := 71) h 0 6 (.ref (a 28)) fl_X10_49_X10 oC_0 rfl rfl dX10_lasts_71 ?_
        refine V_get (pc := 74) h 28 0 (.int (S8 28 0)) fl_X10_118_X7 oC_28 rfl rfl dX10_lasts_74 ?_
        refine V_iconst (pc := 77) (v := 1) h dX10_lasts_77 (by decide) ?_
        refine V_isub (pc := 78) h dX10_lasts_78 ?_
        refine V_icmp_ne (pc := 79) h 86 dX10_lasts_79 (by decide) ?_ ?_
        · refine V_iconst (pc := 86) (v := 0) h dX10_lasts_86 (by decide) ?_
          exact V_ls [0] rfl (c_N_lasts_b87_ok h hr hlk hD x7 (0 : Int32) S8)
        · refine V_iconst (pc := 82) (v := 1) h dX10_lasts_82 (by decide) ?_
          refine V_goto (pc := 83) h 87 dX10_lasts_83 (by decide) ?_
          exact V_ls [0] rfl (c_N_lasts_b87_ok h hr hlk hD x7 (1 : Int32) S8)
      · refine V_iconst (pc := 34) (v := -1) h dX10_lasts_34 (by decide) ?_
        exact V_iret (pc := 35) h hr hlk dX10_lasts_35
theorem c_N_lasts_ct {d : Nat} (g : GG s0 args0 D ca a A) (hD : 4 ≤ d) (v1 : Int32) (S : St) (z : Int32 × St) (hz : c_N_lasts v1 S = some z) : CtI l yX10_lasts cX10_lasts 4 .int d s0 D ca tpC a A [.ref (a 0), .int v1] S z := CtI_mk g (by decide +kernel) (Nat.le_of_ble_eq_true rfl) hz (fun p e s m args below meth c h hr hlk => c_N_lasts_ok h hr hlk hD v1 S)
def c_N_left (S : St) : Option (Int32 × St) := (bI (c_N_hasStreet S) (fun x2 S1 => (if x2 = 0 then (some ((-1 : Int32), S1)) else (bV (c_Noon_run 33 S1) (fun S3 => (ckM ((S3 28 0) - (1 : Int32)) 6 (bI (c_Noon_grainsOf (S3 36 ((S3 28 0) - (1 : Int32)).toNatClampNeg) S3) (fun x5 S4 => (some (x5, S4))))))))))
set_option maxHeartbeats 4000000 in
set_option maxRecDepth 100000 in
theorem c_N_left_ok {d : Nat} (h : Cx p s m c cX10_left 1 RX10 s0 args0 D ca a A) (hr : meth.sig.returnType = some .int) (hlk : meth.locks = false) (hD : 6 ≤ d) (S : St) : VV p l e (rmd d) s m args below meth c D ca tpC a A 1 (QmI D ca tpC a A below args s) S [(0, .ref (a 0))] 0 [] (c_N_left S) := by
  unfold c_N_left
  refine V_aload_n (pc := 0) h 0 dX10_left_0 rfl rfl ?_
  refine V_callVI (pc := 1) (dy := 1) (q := (RX10, TX10, 15)) h [] [] 0 mv_X10_172 oC_0 rfl dX10_left_1 rfl rfl (Nat.le_of_ble_eq_true rfl) (Nat.le_trans (by decide) hD) (c_N_hasStreet S) (fun z9 hz9 => c_N_hasStreet_ct h.gg (Nat.le_refl 1) S z9 hz9) (fun x2 S1 => ?_)
  refine V_if_ne (pc := 4) h 9 dX10_left_4 (by decide) ?_ ?_
  · refine V_aload_n (pc := 9) h 0 dX10_left_9 rfl rfl ?_
    refine V_get (pc := 10) h 0 12 (.ref (a 111)) fl_X10_82_X10 oC_0 rfl rfl dX10_left_10 ?_
    refine V_aload_n (pc := 13) h 0 dX10_left_13 rfl rfl ?_
    refine V_get (pc := 14) h 0 7 (.ref (a 33)) fl_X10_56_X10 oC_0 rfl rfl dX10_left_14 ?_
    refine V_callVV (pc := 17) (dy := 5) (q := (RX3, TX3, 13)) h [.ref (a 33)] [] 111 mv_X10_195 oC_111 rfl dX10_left_17 rfl rfl (Nat.le_of_ble_eq_true rfl) (Nat.le_trans (by decide) hD) (c_Noon_run 33 S1) (fun z9 hz9 => c_Noon_run_ct h.gg (Nat.le_refl 5) isSt_33 S1 z9 hz9) (fun S3 => ?_)
    refine V_aload_n (pc := 20) h 0 dX10_left_20 rfl rfl ?_
    refine V_get (pc := 21) h 0 12 (.ref (a 111)) fl_X10_82_X10 oC_0 rfl rfl dX10_left_21 ?_
    refine V_aload_n (pc := 24) h 0 dX10_left_24 rfl rfl ?_
    refine V_get (pc := 25) h 0 7 (.ref (a 33)) fl_X10_56_X10 oC_0 rfl rfl dX10_left_25 ?_
    refine V_get (pc := 28) h 33 3 (.ref (a 36)) fl_X10_183_X6 oC_33 rfl rfl dX10_left_28 ?_
    refine V_aload_n (pc := 31) h 0 dX10_left_31 rfl rfl ?_
    refine V_get (pc := 32) h 0 6 (.ref (a 28)) fl_X10_49_X10 oC_0 rfl rfl dX10_left_32 ?_
    refine V_get (pc := 35) h 28 0 (.int (S3 28 0)) fl_X10_118_X7 oC_28 rfl rfl dX10_left_35 ?_
    refine V_iconst (pc := 38) (v := 1) h dX10_left_38 (by decide) ?_
    refine V_isub (pc := 39) h dX10_left_39 ?_
    refine V_iald (pc := 40) h 36 oC_36 dX10_left_40 ?_
    refine V_callVI (pc := 41) (dy := 2) (q := (RX3, TX3, 13)) h [.int (S3 36 ((S3 28 0) - (1 : Int32)).toNatClampNeg)] [] 111 mv_X10_303 oC_111 rfl dX10_left_41 rfl rfl (Nat.le_of_ble_eq_true rfl) (Nat.le_trans (by decide) hD) (c_Noon_grainsOf (S3 36 ((S3 28 0) - (1 : Int32)).toNatClampNeg) S3) (fun z9 hz9 => c_Noon_grainsOf_ct h.gg (Nat.le_refl 2) (S3 36 ((S3 28 0) - (1 : Int32)).toNatClampNeg) S3 z9 hz9) (fun x5 S4 => ?_)
    exact V_iret (pc := 44) h hr hlk dX10_left_44
  · refine V_iconst (pc := 7) (v := -1) h dX10_left_7 (by decide) ?_
    exact V_iret (pc := 8) h hr hlk dX10_left_8
theorem c_N_left_ct {d : Nat} (g : GG s0 args0 D ca a A) (hD : 6 ≤ d) (S : St) (z : Int32 × St) (hz : c_N_left S = some z) : CtI l yX10_left cX10_left 1 .int d s0 D ca tpC a A [.ref (a 0)] S z := CtI_mk g (by decide +kernel) (Nat.le_of_ble_eq_true rfl) hz (fun p e s m args below meth c h hr hlk => c_N_left_ok h hr hlk hD S)
def c_N_drawn_h25 (L16 : Int32 → Int64 → Int32 → St → Option (Int32 × St)) : Nat → Int32 → Int64 → Int32 → Int32 → St → Option (Int32 × St)
  | 0, _, _, _, _, _ => none
  | n + 1, v1, v4, v6, v7, S => (if (S 28 0) ≤ v7 then (bV (c_N_goOn S) (fun S1 => (bnd (v6 + (1 : Int32)) (fun x2 => (L16 v1 v4 x2 S1))))) else (bnd ((v4 * (6364136223846793005 : Int64)) + (1442695040888963407 : Int64)) (fun x3 => (dvL (6 : Int64) (bI (c_N_putByNumber ((((x3.toUInt64 >>> ((33 : Int32).toInt64.toUInt64 &&& Int64.toUInt64 63)).toInt64) - ((x3.toUInt64 >>> ((33 : Int32).toInt64.toUInt64 &&& Int64.toUInt64 63)).toInt64) / (6 : Int64) * (6 : Int64)).toInt32) S) (fun x5 S4 => (ckM v7 6 (bnd (up2 S4 37 v7.toNatClampNeg x5) (fun S6 => (bnd (v7 + (1 : Int32)) (fun x7 => ((c_N_drawn_h25 L16 n) v1 x3 v6 x7 S6))))))))))))
set_option maxHeartbeats 4000000 in
set_option maxRecDepth 100000 in
theorem c_N_drawn_h25_ok {d : Nat} (h : Cx p s m c cX10_drawn 8 RX10 s0 args0 D ca a A) (hr : meth.sig.returnType = some .int) (hlk : meth.locks = false) (hD : 7 ≤ d) (L16 : Int32 → Int64 → Int32 → St → Option (Int32 × St)) (hL16 : ∀ (v1 : Int32) (v4 : Int64) (v6 : Int32) (S : St), VV p l e (rmd d) s m args below meth c D ca tpC a A 8 (QmI D ca tpC a A below args s) S [(0, .ref (a 0)), (1, .int v1), (4, .long v4), (6, .int v6)] 16 [] (L16 v1 v4 v6 S)) : ∀ (n : Nat) (v1 : Int32) (v4 : Int64) (v6 : Int32) (v7 : Int32) (S : St), VV p l e (rmd d) s m args below meth c D ca tpC a A 8 (QmI D ca tpC a A below args s) S [(0, .ref (a 0)), (1, .int v1), (4, .long v4), (6, .int v6), (7, .int v7)] 25 [] (c_N_drawn_h25 L16 n v1 v4 v6 v7 S) := by
  intro n
  induction n with
  | zero => intro v1 v4 v6 v7 S; exact V_none
  | succ n ih =>
    intro v1 v4 v6 v7 S
    unfold c_N_drawn_h25
    refine V_iload (pc := 25) h 4 dX10_drawn_25 rfl ?_
    refine V_aload_n (pc := 27) h 0 dX10_drawn_27 rfl rfl ?_
    refine V_get (pc := 28) h 0 6 (.ref (a 28)) fl_X10_49_X10 oC_0 rfl rfl dX10_drawn_28 ?_
    refine V_get (pc := 31) h 28 0 (.int (S 28 0)) fl_X10_118_X7 oC_28 rfl rfl dX10_drawn_31 ?_
    refine V_icmp_ge (pc := 34) h 78 dX10_drawn_34 (by decide) ?_ ?_
    · refine V_aload_n (pc := 78) h 0 dX10_drawn_78 rfl rfl ?_
      refine V_callVV (pc := 79) (dy := 6) (q := (RX10, TX10, 15)) h [] [] 0 mv_X10_214 oC_0 rfl dX10_drawn_79 rfl rfl (Nat.le_of_ble_eq_true rfl) (Nat.le_trans (by decide) hD) (c_N_goOn S) (fun z9 hz9 => c_N_goOn_ct h.gg (Nat.le_refl 6) S z9 hz9) (fun S1 => ?_)
      refine V_iincB (pc := 82) h 3 (1 : Int32) (fun x2 => [(6, .int x2), (0, .ref (a 0)), (1, .int v1), (4, .long v4), (7, .int v7)]) dX10_drawn_82 rfl (by decide) (by decide) (fun _ => rfl) (fun x2 => ?_)
      refine V_goto (pc := 85) h 16 dX10_drawn_85 (by decide) ?_
      exact V_ls [1, 2, 3, 0] rfl (hL16 v1 v4 x2 S1)
    · refine V_lload (pc := 37) h 2 dX10_drawn_37 rfl ?_
      refine V_ldc2 (pc := 39) (v := 6364136223846793005) h dX10_drawn_39 tw_5_23 ?_
      refine V_lmul (pc := 42) h dX10_drawn_42 ?_
      refine V_ldc2 (pc := 43) (v := 1442695040888963407) h dX10_drawn_43 tw_5_24 ?_
      refine V_ladd (pc := 46) h dX10_drawn_46 ?_
      refine V_topl (fun x3 => ?_)
      refine V_lstore (pc := 47) h [(4, .long x3), (0, .ref (a 0)), (1, .int v1), (6, .int v6), (7, .int v7)] dX10_drawn_47 (by decide) rfl ?_
      refine V_aload_n (pc := 49) h 1 dX10_drawn_49 rfl rfl ?_
      refine V_get (pc := 50) h 0 7 (.ref (a 33)) fl_X10_56_X10 oC_0 rfl rfl dX10_drawn_50 ?_
      refine V_get (pc := 53) h 33 4 (.ref (a 37)) fl_X10_164_X6 oC_33 rfl rfl dX10_drawn_53 ?_
      refine V_iload (pc := 56) h 4 dX10_drawn_56 rfl ?_
      refine V_lload (pc := 58) h 0 dX10_drawn_58 rfl ?_
      refine V_bipush (pc := 60) (v := 33) h dX10_drawn_60 (by decide) ?_
      refine V_lushr (pc := 62) h dX10_drawn_62 ?_
      refine V_ldc2 (pc := 63) (v := 6) h dX10_drawn_63 tw_5_25 ?_
      refine V_lrem (pc := 66) h dX10_drawn_66 ?_
      refine V_l2i (pc := 67) h dX10_drawn_67 ?_
      refine V_callSI (pc := 68) (dy := 1) h [.int ((((x3.toUInt64 >>> ((33 : Int32).toInt64.toUInt64 &&& Int64.toUInt64 63)).toInt64) - ((x3.toUInt64 >>> ((33 : Int32).toInt64.toUInt64 &&& Int64.toUInt64 63)).toInt64) / (6 : Int64) * (6 : Int64)).toInt32)] [.int v7, .ref (a 37)] ms_X10_255 dX10_drawn_68 rfl rfl (Nat.le_of_ble_eq_true rfl) (Nat.le_trans (by decide) hD) (c_N_putByNumber ((((x3.toUInt64 >>> ((33 : Int32).toInt64.toUInt64 &&& Int64.toUInt64 63)).toInt64) - ((x3.toUInt64 >>> ((33 : Int32).toInt64.toUInt64 &&& Int64.toUInt64 63)).toInt64) / (6 : Int64) * (6 : Int64)).toInt32) S) (fun z9 hz9 => c_N_putByNumber_ct h.gg (Nat.le_refl 1) ((((x3.toUInt64 >>> ((33 : Int32).toInt64.toUInt64 &&& Int64.toUInt64 63)).toInt64) - ((x3.toUInt64 >>> ((33 : Int32).toInt64.toUInt64 &&& Int64.toUInt64 63)).toInt64) / (6 : Int64) * (6 : Int64)).toInt32) S z9 hz9) (fun x5 S4 => ?_)
      refine V_iast (pc := 71) h 37 oC_37 dX10_drawn_71 (fun S6 => ?_)
      refine V_iincB (pc := 72) h 4 (1 : Int32) (fun x7 => [(7, .int x7), (4, .long x3), (0, .ref (a 0)), (1, .int v1), (6, .int v6)]) dX10_drawn_72 rfl (by decide) (by decide) (fun _ => rfl) (fun x7 => ?_)
      refine V_goto (pc := 75) h 25 dX10_drawn_75 (by decide) ?_
      exact V_ls [2, 3, 1, 4, 0] rfl (ih v1 x3 v6 x7 S6)
def c_N_drawn_h16 : Nat → Int32 → Int64 → Int32 → St → Option (Int32 × St)
  | 0, _, _, _, _ => none
  | n + 1, v1, v4, v6, S => (if v1 ≤ v6 then (some ((S 33 0), S)) else (c_N_drawn_h25 (c_N_drawn_h16 n) FU v1 v4 v6 (0 : Int32) S))
set_option maxHeartbeats 4000000 in
set_option maxRecDepth 100000 in
theorem c_N_drawn_h16_ok {d : Nat} (h : Cx p s m c cX10_drawn 8 RX10 s0 args0 D ca a A) (hr : meth.sig.returnType = some .int) (hlk : meth.locks = false) (hD : 7 ≤ d) : ∀ (n : Nat) (v1 : Int32) (v4 : Int64) (v6 : Int32) (S : St), VV p l e (rmd d) s m args below meth c D ca tpC a A 8 (QmI D ca tpC a A below args s) S [(0, .ref (a 0)), (1, .int v1), (4, .long v4), (6, .int v6)] 16 [] (c_N_drawn_h16 n v1 v4 v6 S) := by
  intro n
  induction n with
  | zero => intro v1 v4 v6 S; exact V_none
  | succ n ih =>
    intro v1 v4 v6 S
    unfold c_N_drawn_h16
    refine V_iload (pc := 16) h 3 dX10_drawn_16 rfl ?_
    refine V_iload_n (pc := 18) h 1 dX10_drawn_18 rfl rfl ?_
    refine V_icmp_ge (pc := 19) h 88 dX10_drawn_19 (by decide) ?_ ?_
    · refine V_aload_n (pc := 88) h 0 dX10_drawn_88 rfl rfl ?_
      refine V_get (pc := 89) h 0 7 (.ref (a 33)) fl_X10_56_X10 oC_0 rfl rfl dX10_drawn_89 ?_
      refine V_get (pc := 92) h 33 0 (.int (S 33 0)) fl_X10_217_X6 oC_33 rfl rfl dX10_drawn_92 ?_
      exact V_iret (pc := 95) h hr hlk dX10_drawn_95
    · refine V_iconst (pc := 22) (v := 0) h dX10_drawn_22 (by decide) ?_
      refine V_istore (pc := 23) h [(7, .int (0 : Int32)), (0, .ref (a 0)), (1, .int v1), (4, .long v4), (6, .int v6)] dX10_drawn_23 (by decide) rfl ?_
      exact V_ls [1, 2, 3, 4, 0] rfl (c_N_drawn_h25_ok h hr hlk hD (c_N_drawn_h16 n) ih FU v1 v4 v6 (0 : Int32) S)
def c_N_drawn (v1 : Int32) (v2 : Int64) (S : St) : Option (Int32 × St) := (bI (c_N_canGoOn v1 S) (fun x2 S1 => (if x2 = 0 then (some ((-1 : Int32), S1)) else (c_N_drawn_h16 FU v1 v2 (0 : Int32) S1))))
set_option maxHeartbeats 4000000 in
set_option maxRecDepth 100000 in
theorem c_N_drawn_ok {d : Nat} (h : Cx p s m c cX10_drawn 8 RX10 s0 args0 D ca a A) (hr : meth.sig.returnType = some .int) (hlk : meth.locks = false) (hD : 7 ≤ d) (v1 : Int32) (v2 : Int64) (S : St) : VV p l e (rmd d) s m args below meth c D ca tpC a A 8 (QmI D ca tpC a A below args s) S [(0, .ref (a 0)), (1, .int v1), (2, .long v2)] 0 [] (c_N_drawn v1 v2 S) := by
  unfold c_N_drawn
  refine V_aload_n (pc := 0) h 0 dX10_drawn_0 rfl rfl ?_
  refine V_iload_n (pc := 1) h 1 dX10_drawn_1 rfl rfl ?_
  refine V_callVI (pc := 2) (dy := 2) (q := (RX10, TX10, 15)) h [.int v1] [] 0 mv_X10_211 oC_0 rfl dX10_drawn_2 rfl rfl (Nat.le_of_ble_eq_true rfl) (Nat.le_trans (by decide) hD) (c_N_canGoOn v1 S) (fun z9 hz9 => c_N_canGoOn_ct h.gg (Nat.le_refl 2) v1 S z9 hz9) (fun x2 S1 => ?_)
  refine V_if_ne (pc := 5) h 10 dX10_drawn_5 (by decide) ?_ ?_
  · refine V_lload_n (pc := 10) h 2 dX10_drawn_10 rfl rfl ?_
    refine V_lstore (pc := 11) h [(4, .long v2), (0, .ref (a 0)), (1, .int v1), (2, .long v2)] dX10_drawn_11 (by decide) rfl ?_
    refine V_iconst (pc := 13) (v := 0) h dX10_drawn_13 (by decide) ?_
    refine V_istore (pc := 14) h [(6, .int (0 : Int32)), (4, .long v2), (0, .ref (a 0)), (1, .int v1), (2, .long v2)] dX10_drawn_14 (by decide) rfl ?_
    exact V_ls [2, 3, 1, 0] rfl (c_N_drawn_h16_ok h hr hlk hD FU v1 v2 (0 : Int32) S1)
  · refine V_iconst (pc := 8) (v := -1) h dX10_drawn_8 (by decide) ?_
    exact V_iret (pc := 9) h hr hlk dX10_drawn_9
theorem c_N_drawn_ct {d : Nat} (g : GG s0 args0 D ca a A) (hD : 7 ≤ d) (v1 : Int32) (v2 : Int64) (S : St) (z : Int32 × St) (hz : c_N_drawn v1 v2 S = some z) : CtI l yX10_drawn cX10_drawn 8 .int d s0 D ca tpC a A [.ref (a 0), .int v1, .long v2] S z := CtI_mk g (by decide +kernel) (Nat.le_of_ble_eq_true rfl) hz (fun p e s m args below meth c h hr hlk => c_N_drawn_ok h hr hlk hD v1 v2 S)
def c_N_image (S : St) : Option (Int32 × St) := (bI (c_N_hasStreet S) (fun x2 S1 => (if x2 = 0 then (some ((-1 : Int32), S1)) else (bV (c_State_copy 43 33 S1) (fun S3 => (bnd (up2 S3 0 10 (1 : Int32)) (fun S4 => (some ((S4 33 0), S4)))))))))
set_option maxHeartbeats 4000000 in
set_option maxRecDepth 100000 in
theorem c_N_image_ok {d : Nat} (h : Cx p s m c cX10_image 1 RX10 s0 args0 D ca a A) (hr : meth.sig.returnType = some .int) (hlk : meth.locks = false) (hD : 2 ≤ d) (S : St) : VV p l e (rmd d) s m args below meth c D ca tpC a A 1 (QmI D ca tpC a A below args s) S [(0, .ref (a 0))] 0 [] (c_N_image S) := by
  unfold c_N_image
  refine V_aload_n (pc := 0) h 0 dX10_image_0 rfl rfl ?_
  refine V_callVI (pc := 1) (dy := 1) (q := (RX10, TX10, 15)) h [] [] 0 mv_X10_172 oC_0 rfl dX10_image_1 rfl rfl (Nat.le_of_ble_eq_true rfl) (Nat.le_trans (by decide) hD) (c_N_hasStreet S) (fun z9 hz9 => c_N_hasStreet_ct h.gg (Nat.le_refl 1) S z9 hz9) (fun x2 S1 => ?_)
  refine V_if_ne (pc := 4) h 9 dX10_image_4 (by decide) ?_ ?_
  · refine V_aload_n (pc := 9) h 0 dX10_image_9 rfl rfl ?_
    refine V_get (pc := 10) h 0 9 (.ref (a 43)) fl_X10_63_X10 oC_0 rfl rfl dX10_image_10 ?_
    refine V_aload_n (pc := 13) h 0 dX10_image_13 rfl rfl ?_
    refine V_get (pc := 14) h 0 7 (.ref (a 33)) fl_X10_56_X10 oC_0 rfl rfl dX10_image_14 ?_
    refine V_callVV (pc := 17) (dy := 1) (q := (RX6, TX6, 5)) h [.ref (a 33)] [] 43 mv_X10_252 oC_43 rfl dX10_image_17 rfl rfl (Nat.le_of_ble_eq_true rfl) (Nat.le_trans (by decide) hD) (c_State_copy 43 33 S1) (fun z9 hz9 => c_State_copy_ct h.gg (Nat.le_refl 1) isSt_43 isSt_33 S1 z9 hz9) (fun S3 => ?_)
    refine V_aload_n (pc := 20) h 0 dX10_image_20 rfl rfl ?_
    refine V_iconst (pc := 21) (v := 1) h dX10_image_21 (by decide) ?_
    refine V_put (pc := 22) h 0 10 (1 : Int32) fp_X10_66_X10 oC_0 rfl rfl rfl rfl dX10_image_22 (fun S4 => ?_)
    refine V_aload_n (pc := 25) h 0 dX10_image_25 rfl rfl ?_
    refine V_get (pc := 26) h 0 7 (.ref (a 33)) fl_X10_56_X10 oC_0 rfl rfl dX10_image_26 ?_
    refine V_get (pc := 29) h 33 0 (.int (S4 33 0)) fl_X10_217_X6 oC_33 rfl rfl dX10_image_29 ?_
    exact V_iret (pc := 32) h hr hlk dX10_image_32
  · refine V_iconst (pc := 7) (v := -1) h dX10_image_7 (by decide) ?_
    exact V_iret (pc := 8) h hr hlk dX10_image_8
theorem c_N_image_ct {d : Nat} (g : GG s0 args0 D ca a A) (hD : 2 ≤ d) (S : St) (z : Int32 × St) (hz : c_N_image S = some z) : CtI l yX10_image cX10_image 1 .int d s0 D ca tpC a A [.ref (a 0)] S z := CtI_mk g (by decide +kernel) (Nat.le_of_ble_eq_true rfl) hz (fun p e s m args below meth c h hr hlk => c_N_image_ok h hr hlk hD S)
def c_N_back (S : St) : Option (Int32 × St) := (if (S 0 10) = 0 then (some ((-1 : Int32), S)) else (bV (c_State_copy 33 43 S) (fun S1 => (bV (c_Past_forget S1) (fun S2 => (some ((S2 33 0), S2)))))))
set_option maxHeartbeats 4000000 in
set_option maxRecDepth 100000 in
theorem c_N_back_ok {d : Nat} (h : Cx p s m c cX10_back 1 RX10 s0 args0 D ca a A) (hr : meth.sig.returnType = some .int) (hlk : meth.locks = false) (hD : 2 ≤ d) (S : St) : VV p l e (rmd d) s m args below meth c D ca tpC a A 1 (QmI D ca tpC a A below args s) S [(0, .ref (a 0))] 0 [] (c_N_back S) := by
  unfold c_N_back
  refine V_aload_n (pc := 0) h 0 dX10_back_0 rfl rfl ?_
  refine V_get (pc := 1) h 0 10 (.int (S 0 10)) fl_X10_66_X10 oC_0 rfl rfl dX10_back_1 ?_
  refine V_if_ne (pc := 4) h 9 dX10_back_4 (by decide) ?_ ?_
  · refine V_aload_n (pc := 9) h 0 dX10_back_9 rfl rfl ?_
    refine V_get (pc := 10) h 0 7 (.ref (a 33)) fl_X10_56_X10 oC_0 rfl rfl dX10_back_10 ?_
    refine V_aload_n (pc := 13) h 0 dX10_back_13 rfl rfl ?_
    refine V_get (pc := 14) h 0 9 (.ref (a 43)) fl_X10_63_X10 oC_0 rfl rfl dX10_back_14 ?_
    refine V_callVV (pc := 17) (dy := 1) (q := (RX6, TX6, 5)) h [.ref (a 43)] [] 33 mv_X10_252 oC_33 rfl dX10_back_17 rfl rfl (Nat.le_of_ble_eq_true rfl) (Nat.le_trans (by decide) hD) (c_State_copy 33 43 S) (fun z9 hz9 => c_State_copy_ct h.gg (Nat.le_refl 1) isSt_33 isSt_43 S z9 hz9) (fun S1 => ?_)
    refine V_aload_n (pc := 20) h 0 dX10_back_20 rfl rfl ?_
    refine V_get (pc := 21) h 0 11 (.ref (a 48)) fl_X10_73_X10 oC_0 rfl rfl dX10_back_21 ?_
    refine V_callVV (pc := 24) (dy := 1) (q := (RX4, TX4, 4)) h [] [] 48 mv_X10_131 oC_48 rfl dX10_back_24 rfl rfl (Nat.le_of_ble_eq_true rfl) (Nat.le_trans (by decide) hD) (c_Past_forget S1) (fun z9 hz9 => c_Past_forget_ct h.gg (Nat.le_refl 1) S1 z9 hz9) (fun S2 => ?_)
    refine V_aload_n (pc := 27) h 0 dX10_back_27 rfl rfl ?_
    refine V_get (pc := 28) h 0 7 (.ref (a 33)) fl_X10_56_X10 oC_0 rfl rfl dX10_back_28 ?_
    refine V_get (pc := 31) h 33 0 (.int (S2 33 0)) fl_X10_217_X6 oC_33 rfl rfl dX10_back_31 ?_
    exact V_iret (pc := 34) h hr hlk dX10_back_34
  · refine V_iconst (pc := 7) (v := -1) h dX10_back_7 (by decide) ?_
    exact V_iret (pc := 8) h hr hlk dX10_back_8
theorem c_N_back_ct {d : Nat} (g : GG s0 args0 D ca a A) (hD : 2 ≤ d) (S : St) (z : Int32 × St) (hz : c_N_back S = some z) : CtI l yX10_back cX10_back 1 .int d s0 D ca tpC a A [.ref (a 0)] S z := CtI_mk g (by decide +kernel) (Nat.le_of_ble_eq_true rfl) hz (fun p e s m args below meth c h hr hlk => c_N_back_ok h hr hlk hD S)
def c_N_asDigits_h4 (o1 : Nat) : Nat → Int32 → Int32 → St → Option (Int32 × St)
  | 0, _, _, _ => none
  | n + 1, v2, v3, S => (if (S 28 0) ≤ v3 then (some (v2, S)) else (if (6 : Int32) ≤ v3 then (some (v2, S)) else (ckM v3 6 (bnd ((v2 * (10 : Int32)) + (S o1 v3.toNatClampNeg)) (fun x1 => (bnd (v3 + (1 : Int32)) (fun x2 => ((c_N_asDigits_h4 o1 n) x1 x2 S))))))))
set_option maxHeartbeats 4000000 in
set_option maxRecDepth 100000 in
theorem c_N_asDigits_h4_ok {d : Nat} (h : Cx p s m c cX10_asDigits 4 RX10 s0 args0 D ca a A) (hr : meth.sig.returnType = some .int) (hlk : meth.locks = false) (hD : 1 ≤ d) (o1 : Nat) (ho1 : tpC[o1]? = some (.inr (0, 6, 0))) : ∀ (n : Nat) (v2 : Int32) (v3 : Int32) (S : St), VV p l e (rmd d) s m args below meth c D ca tpC a A 4 (QmI D ca tpC a A below args s) S [(0, .ref (a 0)), (1, .ref (a o1)), (2, .int v2), (3, .int v3)] 4 [] (c_N_asDigits_h4 o1 n v2 v3 S) := by
  intro n
  induction n with
  | zero => intro v2 v3 S; exact V_none
  | succ n ih =>
    intro v2 v3 S
    unfold c_N_asDigits_h4
    refine V_iload_n (pc := 4) h 3 dX10_asDigits_4 rfl rfl ?_
    refine V_aload_n (pc := 5) h 0 dX10_asDigits_5 rfl rfl ?_
    refine V_get (pc := 6) h 0 6 (.ref (a 28)) fl_X10_49_X10 oC_0 rfl rfl dX10_asDigits_6 ?_
    refine V_get (pc := 9) h 28 0 (.int (S 28 0)) fl_X10_118_X7 oC_28 rfl rfl dX10_asDigits_9 ?_
    refine V_icmp_ge (pc := 12) h 36 dX10_asDigits_12 (by decide) ?_ ?_
    · refine V_iload_n (pc := 36) h 2 dX10_asDigits_36 rfl rfl ?_
      exact V_iret (pc := 37) h hr hlk dX10_asDigits_37
    · refine V_iload_n (pc := 15) h 3 dX10_asDigits_15 rfl rfl ?_
      refine V_aload_n (pc := 16) h 1 dX10_asDigits_16 rfl rfl ?_
      refine V_alen (pc := 17) h o1 (6 : Int32) ho1 (by decide) (by decide) dX10_asDigits_17 ?_
      refine V_icmp_ge (pc := 18) h 36 dX10_asDigits_18 (by decide) ?_ ?_
      · refine V_iload_n (pc := 36) h 2 dX10_asDigits_36 rfl rfl ?_
        exact V_iret (pc := 37) h hr hlk dX10_asDigits_37
      · refine V_iload_n (pc := 21) h 2 dX10_asDigits_21 rfl rfl ?_
        refine V_bipush (pc := 22) (v := 10) h dX10_asDigits_22 (by decide) ?_
        refine V_imul (pc := 24) h dX10_asDigits_24 ?_
        refine V_aload_n (pc := 25) h 1 dX10_asDigits_25 rfl rfl ?_
        refine V_iload_n (pc := 26) h 3 dX10_asDigits_26 rfl rfl ?_
        refine V_iald (pc := 27) h o1 ho1 dX10_asDigits_27 ?_
        refine V_iadd (pc := 28) h dX10_asDigits_28 ?_
        refine V_top (fun x1 => ?_)
        refine V_istore_n (pc := 29) h [(2, .int x1), (0, .ref (a 0)), (1, .ref (a o1)), (3, .int v3)] dX10_asDigits_29 rfl (by decide) rfl ?_
        refine V_iincB (pc := 30) h 3 (1 : Int32) (fun x2 => [(3, .int x2), (2, .int x1), (0, .ref (a 0)), (1, .ref (a o1))]) dX10_asDigits_30 rfl (by decide) (by decide) (fun _ => rfl) (fun x2 => ?_)
        refine V_goto (pc := 33) h 4 dX10_asDigits_33 (by decide) ?_
        exact V_ls [2, 3, 1, 0] rfl (ih x1 x2 S)
def c_N_asDigits (o1 : Nat) (S : St) : Option (Int32 × St) := (c_N_asDigits_h4 o1 FU (0 : Int32) (0 : Int32) S)
set_option maxHeartbeats 4000000 in
set_option maxRecDepth 100000 in
theorem c_N_asDigits_ok {d : Nat} (h : Cx p s m c cX10_asDigits 4 RX10 s0 args0 D ca a A) (hr : meth.sig.returnType = some .int) (hlk : meth.locks = false) (hD : 1 ≤ d) (o1 : Nat) (ho1 : tpC[o1]? = some (.inr (0, 6, 0))) (S : St) : VV p l e (rmd d) s m args below meth c D ca tpC a A 4 (QmI D ca tpC a A below args s) S [(0, .ref (a 0)), (1, .ref (a o1))] 0 [] (c_N_asDigits o1 S) := by
  unfold c_N_asDigits
  refine V_iconst (pc := 0) (v := 0) h dX10_asDigits_0 (by decide) ?_
  refine V_istore_n (pc := 1) h [(2, .int (0 : Int32)), (0, .ref (a 0)), (1, .ref (a o1))] dX10_asDigits_1 rfl (by decide) rfl ?_
  refine V_iconst (pc := 2) (v := 0) h dX10_asDigits_2 (by decide) ?_
  refine V_istore_n (pc := 3) h [(3, .int (0 : Int32)), (2, .int (0 : Int32)), (0, .ref (a 0)), (1, .ref (a o1))] dX10_asDigits_3 rfl (by decide) rfl ?_
  exact V_ls [2, 3, 1, 0] rfl (c_N_asDigits_h4_ok h hr hlk hD o1 ho1 FU (0 : Int32) (0 : Int32) S)
theorem c_N_asDigits_ct {d : Nat} (g : GG s0 args0 D ca a A) (hD : 1 ≤ d) {o1 : Nat} (ho1 : tpC[o1]? = some (.inr (0, 6, 0))) (S : St) (z : Int32 × St) (hz : c_N_asDigits o1 S = some z) : CtI l yX10_asDigits cX10_asDigits 4 .int d s0 D ca tpC a A [.ref (a 0), .ref (a o1)] S z := CtI_mk g (by decide +kernel) (Nat.le_of_ble_eq_true rfl) hz (fun p e s m args below meth c h hr hlk => c_N_asDigits_ok h hr hlk hD o1 ho1 S)
def c_N_count (v1 : Int32) (S : St) : Option (Int32 × St) := (if v1 = (0 : Int32) then (some ((S 28 0), S)) else (if v1 = (1 : Int32) then (some ((S 0 4), S)) else (if v1 = (2 : Int32) then (some ((S 1 1), S)) else (if v1 = (3 : Int32) then (some ((S 33 0), S)) else (if v1 = (4 : Int32) then (some ((S 0 5), S)) else (if v1 = (5 : Int32) then (some ((S 28 1), S)) else (if v1 = (6 : Int32) then (some ((S 28 2), S)) else (if v1 = (7 : Int32) then (some ((S 28 3), S)) else (if v1 = (8 : Int32) then (some ((S 48 2), S)) else (if v1 = (9 : Int32) then (bI (c_N_asDigits 36 S) (fun x22 S21 => (some (x22, S21)))) else (if v1 = (10 : Int32) then (bI (c_N_asDigits 37 S) (fun x26 S25 => (some (x26, S25)))) else (some ((-100000000 : Int32), S)))))))))))))
set_option maxHeartbeats 4000000 in
set_option maxRecDepth 100000 in
theorem c_N_count_ok {d : Nat} (h : Cx p s m c cX10_count 2 RX10 s0 args0 D ca a A) (hr : meth.sig.returnType = some .int) (hlk : meth.locks = false) (hD : 2 ≤ d) (v1 : Int32) (S : St) : VV p l e (rmd d) s m args below meth c D ca tpC a A 2 (QmI D ca tpC a A below args s) S [(0, .ref (a 0)), (1, .int v1)] 0 [] (c_N_count v1 S) := by
  unfold c_N_count
  refine V_iload_n (pc := 0) h 1 dX10_count_0 rfl rfl ?_
  refine V_split _ (fun c2 => ?_) (fun n1 => ?_)
  · refine V_tswIn (pc := 1) h (0 : Int32) 60 dX10_count_1 c2 (by decide) (by decide) rfl (by decide) ?_
    refine V_aload_n (pc := 60) h 0 dX10_count_60 rfl rfl ?_
    refine V_get (pc := 61) h 0 6 (.ref (a 28)) fl_X10_49_X10 oC_0 rfl rfl dX10_count_61 ?_
    refine V_get (pc := 64) h 28 0 (.int (S 28 0)) fl_X10_118_X7 oC_28 rfl rfl dX10_count_64 ?_
    exact V_iret (pc := 67) h hr hlk dX10_count_67
  · refine V_split _ (fun c4 => ?_) (fun n3 => ?_)
    · refine V_tswIn (pc := 1) h (1 : Int32) 68 dX10_count_1 c4 (by decide) (by decide) rfl (by decide) ?_
      refine V_aload_n (pc := 68) h 0 dX10_count_68 rfl rfl ?_
      refine V_get (pc := 69) h 0 4 (.int (S 0 4)) fl_X10_39_X10 oC_0 rfl rfl dX10_count_69 ?_
      exact V_iret (pc := 72) h hr hlk dX10_count_72
    · refine V_split _ (fun c6 => ?_) (fun n5 => ?_)
      · refine V_tswIn (pc := 1) h (2 : Int32) 73 dX10_count_1 c6 (by decide) (by decide) rfl (by decide) ?_
        refine V_aload_n (pc := 73) h 0 dX10_count_73 rfl rfl ?_
        refine V_get (pc := 74) h 0 0 (.ref (a 1)) fl_X10_10_X10 oC_0 rfl rfl dX10_count_74 ?_
        refine V_get (pc := 77) h 1 1 (.int (S 1 1)) fl_X10_103_X9 oC_1 rfl rfl dX10_count_77 ?_
        exact V_iret (pc := 80) h hr hlk dX10_count_80
      · refine V_split _ (fun c8 => ?_) (fun n7 => ?_)
        · refine V_tswIn (pc := 1) h (3 : Int32) 81 dX10_count_1 c8 (by decide) (by decide) rfl (by decide) ?_
          refine V_aload_n (pc := 81) h 0 dX10_count_81 rfl rfl ?_
          refine V_get (pc := 82) h 0 7 (.ref (a 33)) fl_X10_56_X10 oC_0 rfl rfl dX10_count_82 ?_
          refine V_get (pc := 85) h 33 0 (.int (S 33 0)) fl_X10_217_X6 oC_33 rfl rfl dX10_count_85 ?_
          exact V_iret (pc := 88) h hr hlk dX10_count_88
        · refine V_split _ (fun c10 => ?_) (fun n9 => ?_)
          · refine V_tswIn (pc := 1) h (4 : Int32) 89 dX10_count_1 c10 (by decide) (by decide) rfl (by decide) ?_
            refine V_aload_n (pc := 89) h 0 dX10_count_89 rfl rfl ?_
            refine V_get (pc := 90) h 0 5 (.int (S 0 5)) fl_X10_43_X10 oC_0 rfl rfl dX10_count_90 ?_
            exact V_iret (pc := 93) h hr hlk dX10_count_93
          · refine V_split _ (fun c12 => ?_) (fun n11 => ?_)
            · refine V_tswIn (pc := 1) h (5 : Int32) 94 dX10_count_1 c12 (by decide) (by decide) rfl (by decide) ?_
              refine V_aload_n (pc := 94) h 0 dX10_count_94 rfl rfl ?_
              refine V_get (pc := 95) h 0 6 (.ref (a 28)) fl_X10_49_X10 oC_0 rfl rfl dX10_count_95 ?_
              refine V_get (pc := 98) h 28 1 (.int (S 28 1)) fl_X10_226_X7 oC_28 rfl rfl dX10_count_98 ?_
              exact V_iret (pc := 101) h hr hlk dX10_count_101
            · refine V_split _ (fun c14 => ?_) (fun n13 => ?_)
              · refine V_tswIn (pc := 1) h (6 : Int32) 102 dX10_count_1 c14 (by decide) (by decide) rfl (by decide) ?_
                refine V_aload_n (pc := 102) h 0 dX10_count_102 rfl rfl ?_
                refine V_get (pc := 103) h 0 6 (.ref (a 28)) fl_X10_49_X10 oC_0 rfl rfl dX10_count_103 ?_
                refine V_get (pc := 106) h 28 2 (.int (S 28 2)) fl_X10_312_X7 oC_28 rfl rfl dX10_count_106 ?_
                exact V_iret (pc := 109) h hr hlk dX10_count_109
              · refine V_split _ (fun c16 => ?_) (fun n15 => ?_)
                · refine V_tswIn (pc := 1) h (7 : Int32) 110 dX10_count_1 c16 (by decide) (by decide) rfl (by decide) ?_
                  refine V_aload_n (pc := 110) h 0 dX10_count_110 rfl rfl ?_
                  refine V_get (pc := 111) h 0 6 (.ref (a 28)) fl_X10_49_X10 oC_0 rfl rfl dX10_count_111 ?_
                  refine V_get (pc := 114) h 28 3 (.int (S 28 3)) fl_X10_315_X7 oC_28 rfl rfl dX10_count_114 ?_
                  exact V_iret (pc := 117) h hr hlk dX10_count_117
                · refine V_split _ (fun c18 => ?_) (fun n17 => ?_)
                  · refine V_tswIn (pc := 1) h (8 : Int32) 118 dX10_count_1 c18 (by decide) (by decide) rfl (by decide) ?_
                    refine V_aload_n (pc := 118) h 0 dX10_count_118 rfl rfl ?_
                    refine V_get (pc := 119) h 0 11 (.ref (a 48)) fl_X10_73_X10 oC_0 rfl rfl dX10_count_119 ?_
                    refine V_get (pc := 122) h 48 2 (.int (S 48 2)) fl_X10_318_X4 oC_48 rfl rfl dX10_count_122 ?_
                    exact V_iret (pc := 125) h hr hlk dX10_count_125
                  · refine V_split _ (fun c20 => ?_) (fun n19 => ?_)
                    · refine V_tswIn (pc := 1) h (9 : Int32) 126 dX10_count_1 c20 (by decide) (by decide) rfl (by decide) ?_
                      refine V_aload_n (pc := 126) h 0 dX10_count_126 rfl rfl ?_
                      refine V_aload_n (pc := 127) h 0 dX10_count_127 rfl rfl ?_
                      refine V_get (pc := 128) h 0 7 (.ref (a 33)) fl_X10_56_X10 oC_0 rfl rfl dX10_count_128 ?_
                      refine V_get (pc := 131) h 33 3 (.ref (a 36)) fl_X10_183_X6 oC_33 rfl rfl dX10_count_131 ?_
                      refine V_callVI (pc := 134) (dy := 1) (q := (RX10, TX10, 15)) h [.ref (a 36)] [] 0 mv_X10_321 oC_0 rfl dX10_count_134 rfl rfl (Nat.le_of_ble_eq_true rfl) (Nat.le_trans (by decide) hD) (c_N_asDigits 36 S) (fun z9 hz9 => c_N_asDigits_ct h.gg (Nat.le_refl 1) oC_36 S z9 hz9) (fun x22 S21 => ?_)
                      exact V_iret (pc := 137) h hr hlk dX10_count_137
                    · refine V_split _ (fun c24 => ?_) (fun n23 => ?_)
                      · refine V_tswIn (pc := 1) h (10 : Int32) 138 dX10_count_1 c24 (by decide) (by decide) rfl (by decide) ?_
                        refine V_aload_n (pc := 138) h 0 dX10_count_138 rfl rfl ?_
                        refine V_aload_n (pc := 139) h 0 dX10_count_139 rfl rfl ?_
                        refine V_get (pc := 140) h 0 7 (.ref (a 33)) fl_X10_56_X10 oC_0 rfl rfl dX10_count_140 ?_
                        refine V_get (pc := 143) h 33 4 (.ref (a 37)) fl_X10_164_X6 oC_33 rfl rfl dX10_count_143 ?_
                        refine V_callVI (pc := 146) (dy := 1) (q := (RX10, TX10, 15)) h [.ref (a 37)] [] 0 mv_X10_321 oC_0 rfl dX10_count_146 rfl rfl (Nat.le_of_ble_eq_true rfl) (Nat.le_trans (by decide) hD) (c_N_asDigits 37 S) (fun z9 hz9 => c_N_asDigits_ct h.gg (Nat.le_refl 1) oC_37 S z9 hz9) (fun x26 S25 => ?_)
                        exact V_iret (pc := 149) h hr hlk dX10_count_149
                      · refine V_tswDef (pc := 1) h [0, 1, 2, 3, 4, 5, 6, 7, 8, 9, 10] 150 dX10_count_1 (List.forall_mem_cons.mpr ⟨n1, List.forall_mem_cons.mpr ⟨n3, List.forall_mem_cons.mpr ⟨n5, List.forall_mem_cons.mpr ⟨n7, List.forall_mem_cons.mpr ⟨n9, List.forall_mem_cons.mpr ⟨n11, List.forall_mem_cons.mpr ⟨n13, List.forall_mem_cons.mpr ⟨n15, List.forall_mem_cons.mpr ⟨n17, List.forall_mem_cons.mpr ⟨n19, List.forall_mem_cons.mpr ⟨n23, fun _ q => nomatch q⟩⟩⟩⟩⟩⟩⟩⟩⟩⟩⟩) (by decide) (by decide) (by decide) ?_
                        refine V_ldc (pc := 150) (v := -100000000) h dX10_count_150 tw_3_198 ?_
                        exact V_iret (pc := 152) h hr hlk dX10_count_152
theorem c_N_count_ct {d : Nat} (g : GG s0 args0 D ca a A) (hD : 2 ≤ d) (v1 : Int32) (S : St) (z : Int32 × St) (hz : c_N_count v1 S = some z) : CtI l yX10_count cX10_count 2 .int d s0 D ca tpC a A [.ref (a 0), .int v1] S z := CtI_mk g (by decide +kernel) (Nat.le_of_ble_eq_true rfl) hz (fun p e s m args below meth c h hr hlk => c_N_count_ok h hr hlk hD v1 S)
end GEN
