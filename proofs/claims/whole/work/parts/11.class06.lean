section GEN
variable {p : Program} {l : Launch} {e : Env} {s : State} {m : MethodId} {args : Array Value} {below : List Frame} {meth : Method} {c : Code}
variable {D : va_G} {ca : Nat → ClassId} {tp : List ODt} {a : Nat → Nat} {A : Nat → Prop} {s0 : State} {args0 : Array Value} {t : Nat}
def c_N_first (S : St) : Option (Int32 × St) := (bI (c_N_hasStreet S) (fun x2 S1 => (if x2 = 0 then (some ((-1 : Int32), S1)) else (bV (c_Noon_run 33 S1) (fun S3 => (some ((S3 111 8), S3)))))))
set_option maxHeartbeats 4000000 in
set_option maxRecDepth 100000 in
theorem c_N_first_ok {d : Nat} (h : Cx p s m c cX10_first 1 RX10 s0 args0 D ca a A) (hr : meth.sig.returnType = some .int) (hlk : meth.locks = false) (hD : 6 ≤ d) (S : St) : VV p l e (rmd d) s m args below meth c D ca tpC a A 1 (QmI D ca tpC a A below args s) S [(0, .ref (a 0))] 0 [] (c_N_first S) := by
  unfold c_N_first
  refine V_aload_n (pc := 0) h 0 dX10_first_0 rfl rfl ?_
  refine V_callVI (pc := 1) (dy := 1) (q := (RX10, TX10, 15)) h [] [] 0 mv_X10_172 oC_0 rfl dX10_first_1 rfl rfl (Nat.le_of_ble_eq_true rfl) (Nat.le_trans (by decide) hD) (c_N_hasStreet S) (fun z9 hz9 => c_N_hasStreet_ct h.gg (Nat.le_refl 1) S z9 hz9) (fun x2 S1 => ?_)
  refine V_if_ne (pc := 4) h 9 dX10_first_4 (by decide) ?_ ?_
  · refine V_aload_n (pc := 9) h 0 dX10_first_9 rfl rfl ?_
    refine V_get (pc := 10) h 0 12 (.ref (a 111)) fl_X10_82_X10 oC_0 rfl rfl dX10_first_10 ?_
    refine V_aload_n (pc := 13) h 0 dX10_first_13 rfl rfl ?_
    refine V_get (pc := 14) h 0 7 (.ref (a 33)) fl_X10_56_X10 oC_0 rfl rfl dX10_first_14 ?_
    refine V_callVV (pc := 17) (dy := 5) (q := (RX3, TX3, 13)) h [.ref (a 33)] [] 111 mv_X10_195 oC_111 rfl dX10_first_17 rfl rfl (Nat.le_of_ble_eq_true rfl) (Nat.le_trans (by decide) hD) (c_Noon_run 33 S1) (fun z9 hz9 => c_Noon_run_ct h.gg (Nat.le_refl 5) isSt_33 S1 z9 hz9) (fun S3 => ?_)
    refine V_aload_n (pc := 20) h 0 dX10_first_20 rfl rfl ?_
    refine V_get (pc := 21) h 0 12 (.ref (a 111)) fl_X10_82_X10 oC_0 rfl rfl dX10_first_21 ?_
    refine V_get (pc := 24) h 111 8 (.int (S3 111 8)) fl_X10_208_X3 oC_111 rfl rfl dX10_first_24 ?_
    exact V_iret (pc := 27) h hr hlk dX10_first_27
  · refine V_iconst (pc := 7) (v := -1) h dX10_first_7 (by decide) ?_
    exact V_iret (pc := 8) h hr hlk dX10_first_8
theorem c_N_first_ct {d : Nat} (g : GG s0 args0 D ca a A) (hD : 6 ≤ d) (S : St) (z : Int32 × St) (hz : c_N_first S = some z) : CtI l yX10_first cX10_first 1 .int d s0 D ca tpC a A [.ref (a 0)] S z := CtI_mk g (by decide +kernel) (Nat.le_of_ble_eq_true rfl) hz (fun p e s m args below meth c h hr hlk => c_N_first_ok h hr hlk hD S)
def c_N_canGoOn (v1 : Int32) (S : St) : Option (Int32 × St) := (bI (c_N_hasStreet S) (fun x2 S1 => (if x2 = 0 then (nzM (0 : Int32) (some ((0 : Int32), S1))) else (bI (c_N_isWithin v1 (1 : Int32) (30 : Int32) S1) (fun x4 S3 => (if x4 = 0 then (nzM (0 : Int32) (some ((0 : Int32), S3))) else (if (999 : Int32) < ((S3 33 0) + v1) then (nzM (0 : Int32) (some ((0 : Int32), S3))) else (nzM (1 : Int32) (some ((1 : Int32), S3))))))))))
set_option maxHeartbeats 4000000 in
set_option maxRecDepth 100000 in
theorem c_N_canGoOn_ok {d : Nat} (h : Cx p s m c cX10_canGoOn 2 RX10 s0 args0 D ca a A) (hr : meth.sig.returnType = some .boolean) (hlk : meth.locks = false) (hD : 2 ≤ d) (v1 : Int32) (S : St) : VV p l e (rmd d) s m args below meth c D ca tpC a A 2 (QmI D ca tpC a A below args s) S [(0, .ref (a 0)), (1, .int v1)] 0 [] (c_N_canGoOn v1 S) := by
  unfold c_N_canGoOn
  refine V_aload_n (pc := 0) h 0 dX10_canGoOn_0 rfl rfl ?_
  refine V_callVI (pc := 1) (dy := 1) (q := (RX10, TX10, 15)) h [] [] 0 mv_X10_172 oC_0 rfl dX10_canGoOn_1 rfl rfl (Nat.le_of_ble_eq_true rfl) (Nat.le_trans (by decide) hD) (c_N_hasStreet S) (fun z9 hz9 => c_N_hasStreet_ct h.gg (Nat.le_refl 1) S z9 hz9) (fun x2 S1 => ?_)
  refine V_if_eq (pc := 4) h 36 dX10_canGoOn_4 (by decide) ?_ ?_
  · refine V_iconst (pc := 36) (v := 0) h dX10_canGoOn_36 (by decide) ?_
    exact V_zret (pc := 37) h hr hlk dX10_canGoOn_37
  · refine V_iload_n (pc := 7) h 1 dX10_canGoOn_7 rfl rfl ?_
    refine V_iconst (pc := 8) (v := 1) h dX10_canGoOn_8 (by decide) ?_
    refine V_bipush (pc := 9) (v := 30) h dX10_canGoOn_9 (by decide) ?_
    refine V_callSI (pc := 11) (dy := 1) h [.int v1, .int (1 : Int32), .int (30 : Int32)] [] ms_X10_186 dX10_canGoOn_11 rfl rfl (Nat.le_of_ble_eq_true rfl) (Nat.le_trans (by decide) hD) (c_N_isWithin v1 (1 : Int32) (30 : Int32) S1) (fun z9 hz9 => c_N_isWithin_ct h.gg (Nat.le_refl 1) v1 (1 : Int32) (30 : Int32) S1 z9 hz9) (fun x4 S3 => ?_)
    refine V_if_eq (pc := 14) h 36 dX10_canGoOn_14 (by decide) ?_ ?_
    · refine V_iconst (pc := 36) (v := 0) h dX10_canGoOn_36 (by decide) ?_
      exact V_zret (pc := 37) h hr hlk dX10_canGoOn_37
    · refine V_aload_n (pc := 17) h 0 dX10_canGoOn_17 rfl rfl ?_
      refine V_get (pc := 18) h 0 7 (.ref (a 33)) fl_X10_56_X10 oC_0 rfl rfl dX10_canGoOn_18 ?_
      refine V_get (pc := 21) h 33 0 (.int (S3 33 0)) fl_X10_217_X6 oC_33 rfl rfl dX10_canGoOn_21 ?_
      refine V_iload_n (pc := 24) h 1 dX10_canGoOn_24 rfl rfl ?_
      refine V_iadd (pc := 25) h dX10_canGoOn_25 ?_
      refine V_sipush (pc := 26) (v := 999) h dX10_canGoOn_26 (by decide) ?_
      refine V_icmp_gt (pc := 29) h 36 dX10_canGoOn_29 (by decide) ?_ ?_
      · refine V_iconst (pc := 36) (v := 0) h dX10_canGoOn_36 (by decide) ?_
        exact V_zret (pc := 37) h hr hlk dX10_canGoOn_37
      · refine V_iconst (pc := 32) (v := 1) h dX10_canGoOn_32 (by decide) ?_
        refine V_goto (pc := 33) h 37 dX10_canGoOn_33 (by decide) ?_
        exact V_zret (pc := 37) h hr hlk dX10_canGoOn_37
theorem c_N_canGoOn_ct {d : Nat} (g : GG s0 args0 D ca a A) (hD : 2 ≤ d) (v1 : Int32) (S : St) (z : Int32 × St) (hz : c_N_canGoOn v1 S = some z) : CtI l yX10_canGoOn cX10_canGoOn 2 .boolean d s0 D ca tpC a A [.ref (a 0), .int v1] S z := CtI_mk g (by decide +kernel) (Nat.le_of_ble_eq_true rfl) hz (fun p e s m args below meth c h hr hlk => c_N_canGoOn_ok h hr hlk hD v1 S)
def c_Past_keep_33_b21 (S : St) : Option St := (ckM (S 48 3) 30 (cpM (0 : Int32) (0 : Int32) (30 : Int32) 30 30 (bnd (upR S (51 + (S 48 3).toNatClampNeg) (cpy (S 34) (S (51 + (S 48 3).toNatClampNeg)) (0 : Int32).toNatClampNeg (0 : Int32).toNatClampNeg (30 : Int32).toNatClampNeg)) (fun S3 => (ckM (S3 48 3) 30 (cpM (0 : Int32) (0 : Int32) (6 : Int32) 6 6 (bnd (upR S3 (81 + (S3 48 3).toNatClampNeg) (cpy (S3 35) (S3 (81 + (S3 48 3).toNatClampNeg)) (0 : Int32).toNatClampNeg (0 : Int32).toNatClampNeg (6 : Int32).toNatClampNeg)) (fun S6 => (bnd (up2 S6 48 3 ((S6 48 3) + (1 : Int32))) (fun S7 => (bnd (up2 S7 48 2 (imin ((S7 48 2) + (1 : Int32)) (30 : Int32))) (fun S8 => (some S8)))))))))))))
set_option maxHeartbeats 4000000 in
set_option maxRecDepth 100000 in
theorem c_Past_keep_33_b21_ok {d : Nat} (h : Cx p s m c cX4_keep 2 RX4 s0 args0 D ca a A) (hr : meth.sig.returnType = none) (hlk : meth.locks = false) (hD : 1 ≤ d) (S : St) : VV p l e (rmd d) s m args below meth c D ca tpC a A 2 (QmV D ca tpC a A below args s) S [(0, .ref (a 48)), (1, .ref (a 33))] 21 [] (c_Past_keep_33_b21 S) := by
  unfold c_Past_keep_33_b21
  refine V_aload_n (pc := 21) h 1 dX4_keep_21 rfl rfl ?_
  refine V_get (pc := 22) h 33 1 (.ref (a 34)) fl_X4_26_X6 oC_33 rfl rfl dX4_keep_22 ?_
  refine V_iconst (pc := 25) (v := 0) h dX4_keep_25 (by decide) ?_
  refine V_aload_n (pc := 26) h 0 dX4_keep_26 rfl rfl ?_
  refine V_get (pc := 27) h 48 0 (.ref (a 49)) fl_X4_11_X4 oC_48 rfl rfl dX4_keep_27 ?_
  refine V_aload_n (pc := 30) h 0 dX4_keep_30 rfl rfl ?_
  refine V_get (pc := 31) h 48 3 (.int (S 48 3)) fl_X4_23_X4 oC_48 rfl rfl dX4_keep_31 ?_
  refine V_aald0 (pc := 34) h 49 oC_49 (by decide) dX4_keep_34 (fun h1 h2 => ?_)
  refine V_iconst (pc := 35) (v := 0) h dX4_keep_35 (by decide) ?_
  refine V_aload_n (pc := 36) h 1 dX4_keep_36 rfl rfl ?_
  refine V_get (pc := 37) h 33 1 (.ref (a 34)) fl_X4_26_X6 oC_33 rfl rfl dX4_keep_37 ?_
  refine V_alen (pc := 40) h 34 (30 : Int32) oC_34 (by decide) (by decide) dX4_keep_40 ?_
  refine V_copy (pc := 41) h 34 (51 + (S 48 3).toNatClampNeg) oC_34 (rC_49 _ h2) dX4_keep_41 tw_4_69 tw_2_151 tw_2_150 tw_1_13 (Nat.le_trans (by decide) hD) (Nat.le_of_ble_eq_true rfl) (fun S3 => ?_)
  refine V_aload_n (pc := 44) h 1 dX4_keep_44 rfl rfl ?_
  refine V_get (pc := 45) h 33 2 (.ref (a 35)) fl_X4_37_X6 oC_33 rfl rfl dX4_keep_45 ?_
  refine V_iconst (pc := 48) (v := 0) h dX4_keep_48 (by decide) ?_
  refine V_aload_n (pc := 49) h 0 dX4_keep_49 rfl rfl ?_
  refine V_get (pc := 50) h 48 1 (.ref (a 50)) fl_X4_16_X4 oC_48 rfl rfl dX4_keep_50 ?_
  refine V_aload_n (pc := 53) h 0 dX4_keep_53 rfl rfl ?_
  refine V_get (pc := 54) h 48 3 (.int (S3 48 3)) fl_X4_23_X4 oC_48 rfl rfl dX4_keep_54 ?_
  refine V_aald0 (pc := 57) h 50 oC_50 (by decide) dX4_keep_57 (fun h4 h5 => ?_)
  refine V_iconst (pc := 58) (v := 0) h dX4_keep_58 (by decide) ?_
  refine V_aload_n (pc := 59) h 1 dX4_keep_59 rfl rfl ?_
  refine V_get (pc := 60) h 33 2 (.ref (a 35)) fl_X4_37_X6 oC_33 rfl rfl dX4_keep_60 ?_
  refine V_alen (pc := 63) h 35 (6 : Int32) oC_35 (by decide) (by decide) dX4_keep_63 ?_
  refine V_copy (pc := 64) h 35 (81 + (S3 48 3).toNatClampNeg) oC_35 (rC_50 _ h5) dX4_keep_64 tw_4_69 tw_2_151 tw_2_150 tw_1_13 (Nat.le_trans (by decide) hD) (Nat.le_of_ble_eq_true rfl) (fun S6 => ?_)
  refine V_aload_n (pc := 67) h 0 dX4_keep_67 rfl rfl ?_
  refine V_dup (pc := 68) h dX4_keep_68 rfl ?_
  refine V_get (pc := 69) h 48 3 (.int (S6 48 3)) fl_X4_23_X4 oC_48 rfl rfl dX4_keep_69 ?_
  refine V_iconst (pc := 72) (v := 1) h dX4_keep_72 (by decide) ?_
  refine V_iadd (pc := 73) h dX4_keep_73 ?_
  refine V_put (pc := 74) h 48 3 ((S6 48 3) + (1 : Int32)) fp_X4_23_X4 oC_48 rfl rfl rfl rfl dX4_keep_74 (fun S7 => ?_)
  refine V_aload_n (pc := 77) h 0 dX4_keep_77 rfl rfl ?_
  refine V_aload_n (pc := 78) h 0 dX4_keep_78 rfl rfl ?_
  refine V_get (pc := 79) h 48 2 (.int (S7 48 2)) fl_X4_19_X4 oC_48 rfl rfl dX4_keep_79 ?_
  refine V_iconst (pc := 82) (v := 1) h dX4_keep_82 (by decide) ?_
  refine V_iadd (pc := 83) h dX4_keep_83 ?_
  refine V_bipush (pc := 84) (v := 30) h dX4_keep_84 (by decide) ?_
  refine V_mmin (pc := 86) h dX4_keep_86 tw_4_70 tw_2_227 tw_1_16 tw_2_228 (Nat.le_trans (by decide) hD) (Nat.le_of_ble_eq_true rfl) ?_
  refine V_put (pc := 89) h 48 2 (imin ((S7 48 2) + (1 : Int32)) (30 : Int32)) fp_X4_19_X4 oC_48 rfl rfl rfl rfl dX4_keep_89 (fun S8 => ?_)
  exact V_vret (pc := 92) h hr hlk dX4_keep_92
def c_Past_keep_33_b16 (S : St) : Option St := (bnd (up2 S 48 3 (0 : Int32)) (fun S1 => (c_Past_keep_33_b21 S1)))
set_option maxHeartbeats 4000000 in
set_option maxRecDepth 100000 in
theorem c_Past_keep_33_b16_ok {d : Nat} (h : Cx p s m c cX4_keep 2 RX4 s0 args0 D ca a A) (hr : meth.sig.returnType = none) (hlk : meth.locks = false) (hD : 1 ≤ d) (S : St) : VV p l e (rmd d) s m args below meth c D ca tpC a A 2 (QmV D ca tpC a A below args s) S [(0, .ref (a 48)), (1, .ref (a 33))] 16 [] (c_Past_keep_33_b16 S) := by
  unfold c_Past_keep_33_b16
  refine V_aload_n (pc := 16) h 0 dX4_keep_16 rfl rfl ?_
  refine V_iconst (pc := 17) (v := 0) h dX4_keep_17 (by decide) ?_
  refine V_put (pc := 18) h 48 3 (0 : Int32) fp_X4_23_X4 oC_48 rfl rfl rfl rfl dX4_keep_18 (fun S1 => ?_)
  exact V_ls [0, 1] rfl (c_Past_keep_33_b21_ok h hr hlk hD S1)
def c_Past_keep_33 (S : St) : Option St := (if (S 48 3) < 0 then (c_Past_keep_33_b16 S) else (if (S 48 3) < (30 : Int32) then (c_Past_keep_33_b21 S) else (c_Past_keep_33_b16 S)))
set_option maxHeartbeats 4000000 in
set_option maxRecDepth 100000 in
theorem c_Past_keep_33_ok {d : Nat} (h : Cx p s m c cX4_keep 2 RX4 s0 args0 D ca a A) (hr : meth.sig.returnType = none) (hlk : meth.locks = false) (hD : 1 ≤ d) (S : St) : VV p l e (rmd d) s m args below meth c D ca tpC a A 2 (QmV D ca tpC a A below args s) S [(0, .ref (a 48)), (1, .ref (a 33))] 0 [] (c_Past_keep_33 S) := by
  unfold c_Past_keep_33
  refine V_aload_n (pc := 0) h 0 dX4_keep_0 rfl rfl ?_
  refine V_get (pc := 1) h 48 3 (.int (S 48 3)) fl_X4_23_X4 oC_48 rfl rfl dX4_keep_1 ?_
  refine V_if_lt (pc := 4) h 16 dX4_keep_4 (by decide) ?_ ?_
  · exact V_ls [0, 1] rfl (c_Past_keep_33_b16_ok h hr hlk hD S)
  · refine V_aload_n (pc := 7) h 0 dX4_keep_7 rfl rfl ?_
    refine V_get (pc := 8) h 48 3 (.int (S 48 3)) fl_X4_23_X4 oC_48 rfl rfl dX4_keep_8 ?_
    refine V_bipush (pc := 11) (v := 30) h dX4_keep_11 (by decide) ?_
    refine V_icmp_lt (pc := 13) h 21 dX4_keep_13 (by decide) ?_ ?_
    · exact V_ls [0, 1] rfl (c_Past_keep_33_b21_ok h hr hlk hD S)
    · exact V_ls [0, 1] rfl (c_Past_keep_33_b16_ok h hr hlk hD S)
theorem c_Past_keep_33_ct {d : Nat} (g : GG s0 args0 D ca a A) (hD : 1 ≤ d) (S : St) (z : St) (hz : c_Past_keep_33 S = some z) : CtV l yX4_keep cX4_keep 2 d s0 D ca tpC a A [.ref (a 48), .ref (a 33)] S z := CtV_mk g (by decide +kernel) (Nat.le_of_ble_eq_true rfl) hz (fun p e s m args below meth c h hr hlk => c_Past_keep_33_ok h hr hlk hD S)
def c_State_store (o0 : Nat) (v1 : Int32) (v2 : Int32) (S : St) : Option (Int32 × St) := (bI (c_State_isStore v1 v2 S) (fun x2 S1 => (if x2 = 0 then (some ((0 : Int32), S1)) else (ckM ((v1 * (5 : Int32)) + v2) 30 (some ((S1 (o0 + 1) ((v1 * (5 : Int32)) + v2).toNatClampNeg), S1))))))
set_option maxHeartbeats 4000000 in
set_option maxRecDepth 100000 in
theorem c_State_store_ok {d : Nat} (h : Cx p s m c cX6_store 3 RX6 s0 args0 D ca a A) (hr : meth.sig.returnType = some .int) (hlk : meth.locks = false) (hD : 3 ≤ d) (o0 : Nat) (ho0 : isSt o0) (v1 : Int32) (v2 : Int32) (S : St) : VV p l e (rmd d) s m args below meth c D ca tpC a A 3 (QmI D ca tpC a A below args s) S [(0, .ref (a o0)), (1, .int v1), (2, .int v2)] 0 [] (c_State_store o0 v1 v2 S) := by
  unfold c_State_store
  refine V_iload_n (pc := 0) h 1 dX6_store_0 rfl rfl ?_
  refine V_iload_n (pc := 1) h 2 dX6_store_1 rfl rfl ?_
  refine V_callSI (pc := 2) (dy := 2) h [.int v1, .int v2] [] ms_X6_44 dX6_store_2 rfl rfl (Nat.le_of_ble_eq_true rfl) (Nat.le_trans (by decide) hD) (c_State_isStore v1 v2 S) (fun z9 hz9 => c_State_isStore_ct h.gg (Nat.le_refl 2) v1 v2 S z9 hz9) (fun x2 S1 => ?_)
  refine V_if_eq (pc := 5) h 21 dX6_store_5 (by decide) ?_ ?_
  · refine V_iconst (pc := 21) (v := 0) h dX6_store_21 (by decide) ?_
    exact V_iret (pc := 22) h hr hlk dX6_store_22
  · refine V_aload_n (pc := 8) h 0 dX6_store_8 rfl rfl ?_
    refine V_get (pc := 9) h o0 1 (.ref (a (o0 + 1))) fl_X6_9_X6 ho0.1 rfl rfl dX6_store_9 ?_
    refine V_iload_n (pc := 12) h 1 dX6_store_12 rfl rfl ?_
    refine V_iconst (pc := 13) (v := 5) h dX6_store_13 (by decide) ?_
    refine V_imul (pc := 14) h dX6_store_14 ?_
    refine V_iload_n (pc := 15) h 2 dX6_store_15 rfl rfl ?_
    refine V_iadd (pc := 16) h dX6_store_16 ?_
    refine V_iald (pc := 17) h (o0 + 1) ho0.2.1 dX6_store_17 ?_
    refine V_goto (pc := 18) h 22 dX6_store_18 (by decide) ?_
    exact V_iret (pc := 22) h hr hlk dX6_store_22
theorem c_State_store_ct {d : Nat} (g : GG s0 args0 D ca a A) (hD : 3 ≤ d) {o0 : Nat} (ho0 : isSt o0) (v1 : Int32) (v2 : Int32) (S : St) (z : Int32 × St) (hz : c_State_store o0 v1 v2 S = some z) : CtI l yX6_store cX6_store 3 .int d s0 D ca tpC a A [.ref (a o0), .int v1, .int v2] S z := CtI_mk g (by decide +kernel) (Nat.le_of_ble_eq_true rfl) hz (fun p e s m args below meth c h hr hlk => c_State_store_ok h hr hlk hD o0 ho0 v1 v2 S)
def c_State_usePut (o0 : Nat) (v1 : Int32) (v2 : Int32) (S : St) : Option St := (bI (c_State_putOf o0 v1 S) (fun x2 S1 => (bI (c_State_hasEnough o0 v1 x2 v2 S1) (fun x4 S3 => (if x4 = 0 then (some S3) else (bI (c_State_store o0 v1 x2 S3) (fun x6 S5 => (bV (c_State_setStore o0 v1 x2 (x6 - v2) S5) (fun S7 => (some S7))))))))))
set_option maxHeartbeats 4000000 in
set_option maxRecDepth 100000 in
theorem c_State_usePut_ok {d : Nat} (h : Cx p s m c cX6_usePut 4 RX6 s0 args0 D ca a A) (hr : meth.sig.returnType = none) (hlk : meth.locks = false) (hD : 4 ≤ d) (o0 : Nat) (ho0 : isSt o0) (v1 : Int32) (v2 : Int32) (S : St) : VV p l e (rmd d) s m args below meth c D ca tpC a A 4 (QmV D ca tpC a A below args s) S [(0, .ref (a o0)), (1, .int v1), (2, .int v2)] 0 [] (c_State_usePut o0 v1 v2 S) := by
  unfold c_State_usePut
  refine V_aload_n (pc := 0) h 0 dX6_usePut_0 rfl rfl ?_
  refine V_iload_n (pc := 1) h 1 dX6_usePut_1 rfl rfl ?_
  refine V_callVI (pc := 2) (dy := 1) (q := (RX6, TX6, 5)) h [.int v1] [] o0 mv_X6_48 ho0.1 rfl dX6_usePut_2 rfl rfl (Nat.le_of_ble_eq_true rfl) (Nat.le_trans (by decide) hD) (c_State_putOf o0 v1 S) (fun z9 hz9 => c_State_putOf_ct h.gg (Nat.le_refl 1) ho0 v1 S z9 hz9) (fun x2 S1 => ?_)
  refine V_istore_n (pc := 5) h [(3, .int x2), (0, .ref (a o0)), (1, .int v1), (2, .int v2)] dX6_usePut_5 rfl (by decide) rfl ?_
  refine V_aload_n (pc := 6) h 1 dX6_usePut_6 rfl rfl ?_
  refine V_iload_n (pc := 7) h 2 dX6_usePut_7 rfl rfl ?_
  refine V_iload_n (pc := 8) h 0 dX6_usePut_8 rfl rfl ?_
  refine V_iload_n (pc := 9) h 3 dX6_usePut_9 rfl rfl ?_
  refine V_callVI (pc := 10) (dy := 3) (q := (RX6, TX6, 5)) h [.int v1, .int x2, .int v2] [] o0 mv_X6_52 ho0.1 rfl dX6_usePut_10 rfl rfl (Nat.le_of_ble_eq_true rfl) (Nat.le_trans (by decide) hD) (c_State_hasEnough o0 v1 x2 v2 S1) (fun z9 hz9 => c_State_hasEnough_ct h.gg (Nat.le_refl 3) ho0 v1 x2 v2 S1 z9 hz9) (fun x4 S3 => ?_)
  refine V_if_eq (pc := 13) h 30 dX6_usePut_13 (by decide) ?_ ?_
  · exact V_vret (pc := 30) h hr hlk dX6_usePut_30
  · refine V_aload_n (pc := 16) h 1 dX6_usePut_16 rfl rfl ?_
    refine V_iload_n (pc := 17) h 2 dX6_usePut_17 rfl rfl ?_
    refine V_iload_n (pc := 18) h 0 dX6_usePut_18 rfl rfl ?_
    refine V_aload_n (pc := 19) h 1 dX6_usePut_19 rfl rfl ?_
    refine V_iload_n (pc := 20) h 2 dX6_usePut_20 rfl rfl ?_
    refine V_iload_n (pc := 21) h 0 dX6_usePut_21 rfl rfl ?_
    refine V_callVI (pc := 22) (dy := 3) (q := (RX6, TX6, 5)) h [.int v1, .int x2] [.int x2, .int v1, .ref (a o0)] o0 mv_X6_56 ho0.1 rfl dX6_usePut_22 rfl rfl (Nat.le_of_ble_eq_true rfl) (Nat.le_trans (by decide) hD) (c_State_store o0 v1 x2 S3) (fun z9 hz9 => c_State_store_ct h.gg (Nat.le_refl 3) ho0 v1 x2 S3 z9 hz9) (fun x6 S5 => ?_)
    refine V_iload_n (pc := 25) h 3 dX6_usePut_25 rfl rfl ?_
    refine V_isub (pc := 26) h dX6_usePut_26 ?_
    refine V_callVV (pc := 27) (dy := 3) (q := (RX6, TX6, 5)) h [.int v1, .int x2, .int (x6 - v2)] [] o0 mv_X6_60 ho0.1 rfl dX6_usePut_27 rfl rfl (Nat.le_of_ble_eq_true rfl) (Nat.le_trans (by decide) hD) (c_State_setStore o0 v1 x2 (x6 - v2) S5) (fun z9 hz9 => c_State_setStore_ct h.gg (Nat.le_refl 3) ho0 v1 x2 (x6 - v2) S5 z9 hz9) (fun S7 => ?_)
    exact V_vret (pc := 30) h hr hlk dX6_usePut_30
theorem c_State_usePut_ct {d : Nat} (g : GG s0 args0 D ca a A) (hD : 4 ≤ d) {o0 : Nat} (ho0 : isSt o0) (v1 : Int32) (v2 : Int32) (S : St) (z : St) (hz : c_State_usePut o0 v1 v2 S = some z) : CtV l yX6_usePut cX6_usePut 4 d s0 D ca tpC a A [.ref (a o0), .int v1, .int v2] S z := CtV_mk g (by decide +kernel) (Nat.le_of_ble_eq_true rfl) hz (fun p e s m args below meth c h hr hlk => c_State_usePut_ok h hr hlk hD o0 ho0 v1 v2 S)
def c_N_goOn_h63 : Nat → Int32 → St → Option St
  | 0, _, _ => none
  | n + 1, v1, S => (if ((S 28 0) - (1 : Int32)) ≤ v1 then (bnd (up2 S 33 0 ((S 33 0) + (1 : Int32))) (fun S1 => (some S1))) else (ckM v1 6 (bV (c_State_usePut 33 (S 36 v1.toNatClampNeg) (S 28 1) S) (fun S2 => (bnd (v1 + (1 : Int32)) (fun x3 => ((c_N_goOn_h63 n) x3 S2)))))))
set_option maxHeartbeats 4000000 in
set_option maxRecDepth 100000 in
theorem c_N_goOn_h63_ok {d : Nat} (h : Cx p s m c cX10_goOn 2 RX10 s0 args0 D ca a A) (hr : meth.sig.returnType = none) (hlk : meth.locks = false) (hD : 6 ≤ d) : ∀ (n : Nat) (v1 : Int32) (S : St), VV p l e (rmd d) s m args below meth c D ca tpC a A 2 (QmV D ca tpC a A below args s) S [(0, .ref (a 0)), (1, .int v1)] 63 [] (c_N_goOn_h63 n v1 S) := by
  intro n
  induction n with
  | zero => intro v1 S; exact V_none
  | succ n ih =>
    intro v1 S
    unfold c_N_goOn_h63
    refine V_iload_n (pc := 63) h 1 dX10_goOn_63 rfl rfl ?_
    refine V_aload_n (pc := 64) h 0 dX10_goOn_64 rfl rfl ?_
    refine V_get (pc := 65) h 0 6 (.ref (a 28)) fl_X10_49_X10 oC_0 rfl rfl dX10_goOn_65 ?_
    refine V_get (pc := 68) h 28 0 (.int (S 28 0)) fl_X10_118_X7 oC_28 rfl rfl dX10_goOn_68 ?_
    refine V_iconst (pc := 71) (v := 1) h dX10_goOn_71 (by decide) ?_
    refine V_isub (pc := 72) h dX10_goOn_72 ?_
    refine V_icmp_ge (pc := 73) h 105 dX10_goOn_73 (by decide) ?_ ?_
    · refine V_aload_n (pc := 105) h 0 dX10_goOn_105 rfl rfl ?_
      refine V_get (pc := 106) h 0 7 (.ref (a 33)) fl_X10_56_X10 oC_0 rfl rfl dX10_goOn_106 ?_
      refine V_dup (pc := 109) h dX10_goOn_109 rfl ?_
      refine V_get (pc := 110) h 33 0 (.int (S 33 0)) fl_X10_217_X6 oC_33 rfl rfl dX10_goOn_110 ?_
      refine V_iconst (pc := 113) (v := 1) h dX10_goOn_113 (by decide) ?_
      refine V_iadd (pc := 114) h dX10_goOn_114 ?_
      refine V_put (pc := 115) h 33 0 ((S 33 0) + (1 : Int32)) fp_X10_217_X6 oC_33 rfl rfl rfl rfl dX10_goOn_115 (fun S1 => ?_)
      exact V_vret (pc := 118) h hr hlk dX10_goOn_118
    · refine V_aload_n (pc := 76) h 0 dX10_goOn_76 rfl rfl ?_
      refine V_get (pc := 77) h 0 7 (.ref (a 33)) fl_X10_56_X10 oC_0 rfl rfl dX10_goOn_77 ?_
      refine V_aload_n (pc := 80) h 0 dX10_goOn_80 rfl rfl ?_
      refine V_get (pc := 81) h 0 7 (.ref (a 33)) fl_X10_56_X10 oC_0 rfl rfl dX10_goOn_81 ?_
      refine V_get (pc := 84) h 33 3 (.ref (a 36)) fl_X10_183_X6 oC_33 rfl rfl dX10_goOn_84 ?_
      refine V_iload_n (pc := 87) h 1 dX10_goOn_87 rfl rfl ?_
      refine V_iald (pc := 88) h 36 oC_36 dX10_goOn_88 ?_
      refine V_aload_n (pc := 89) h 0 dX10_goOn_89 rfl rfl ?_
      refine V_get (pc := 90) h 0 6 (.ref (a 28)) fl_X10_49_X10 oC_0 rfl rfl dX10_goOn_90 ?_
      refine V_get (pc := 93) h 28 1 (.int (S 28 1)) fl_X10_226_X7 oC_28 rfl rfl dX10_goOn_93 ?_
      refine V_callVV (pc := 96) (dy := 4) (q := (RX6, TX6, 5)) h [.int (S 36 v1.toNatClampNeg), .int (S 28 1)] [] 33 mv_X10_229 oC_33 rfl dX10_goOn_96 rfl rfl (Nat.le_of_ble_eq_true rfl) (Nat.le_trans (by decide) hD) (c_State_usePut 33 (S 36 v1.toNatClampNeg) (S 28 1) S) (fun z9 hz9 => c_State_usePut_ct h.gg (Nat.le_refl 4) isSt_33 (S 36 v1.toNatClampNeg) (S 28 1) S z9 hz9) (fun S2 => ?_)
      refine V_iincB (pc := 99) h 1 (1 : Int32) (fun x3 => [(1, .int x3), (0, .ref (a 0))]) dX10_goOn_99 rfl (by decide) (by decide) (fun _ => rfl) (fun x3 => ?_)
      refine V_goto (pc := 102) h 63 dX10_goOn_102 (by decide) ?_
      exact V_ls [1, 0] rfl (ih x3 S2)
def c_N_goOn_h24 : Nat → Int32 → St → Option St
  | 0, _, _ => none
  | n + 1, v1, S => (if (S 28 0) ≤ v1 then (c_N_goOn_h63 FU (0 : Int32) S) else (ckM v1 6 (bI (c_Noon_mealOf v1 S) (fun x2 S1 => (ckM v1 6 (bnd (up2 S1 35 v1.toNatClampNeg ((S 35 v1.toNatClampNeg) + x2)) (fun S3 => (bnd (v1 + (1 : Int32)) (fun x4 => ((c_N_goOn_h24 n) x4 S3))))))))))
set_option maxHeartbeats 4000000 in
set_option maxRecDepth 100000 in
theorem c_N_goOn_h24_ok {d : Nat} (h : Cx p s m c cX10_goOn 2 RX10 s0 args0 D ca a A) (hr : meth.sig.returnType = none) (hlk : meth.locks = false) (hD : 6 ≤ d) : ∀ (n : Nat) (v1 : Int32) (S : St), VV p l e (rmd d) s m args below meth c D ca tpC a A 2 (QmV D ca tpC a A below args s) S [(0, .ref (a 0)), (1, .int v1)] 24 [] (c_N_goOn_h24 n v1 S) := by
  intro n
  induction n with
  | zero => intro v1 S; exact V_none
  | succ n ih =>
    intro v1 S
    unfold c_N_goOn_h24
    refine V_iload_n (pc := 24) h 1 dX10_goOn_24 rfl rfl ?_
    refine V_aload_n (pc := 25) h 0 dX10_goOn_25 rfl rfl ?_
    refine V_get (pc := 26) h 0 6 (.ref (a 28)) fl_X10_49_X10 oC_0 rfl rfl dX10_goOn_26 ?_
    refine V_get (pc := 29) h 28 0 (.int (S 28 0)) fl_X10_118_X7 oC_28 rfl rfl dX10_goOn_29 ?_
    refine V_icmp_ge (pc := 32) h 61 dX10_goOn_32 (by decide) ?_ ?_
    · refine V_iconst (pc := 61) (v := 0) h dX10_goOn_61 (by decide) ?_
      refine V_istore_n (pc := 62) h [(1, .int (0 : Int32)), (0, .ref (a 0))] dX10_goOn_62 rfl (by decide) rfl ?_
      exact V_ls [1, 0] rfl (c_N_goOn_h63_ok h hr hlk hD FU (0 : Int32) S)
    · refine V_aload_n (pc := 35) h 0 dX10_goOn_35 rfl rfl ?_
      refine V_get (pc := 36) h 0 7 (.ref (a 33)) fl_X10_56_X10 oC_0 rfl rfl dX10_goOn_36 ?_
      refine V_get (pc := 39) h 33 2 (.ref (a 35)) fl_X10_223_X6 oC_33 rfl rfl dX10_goOn_39 ?_
      refine V_iload_n (pc := 42) h 1 dX10_goOn_42 rfl rfl ?_
      refine V_dup2_11 (pc := 43) h dX10_goOn_43 rfl rfl ?_
      refine V_iald (pc := 44) h 35 oC_35 dX10_goOn_44 ?_
      refine V_aload_n (pc := 45) h 0 dX10_goOn_45 rfl rfl ?_
      refine V_get (pc := 46) h 0 12 (.ref (a 111)) fl_X10_82_X10 oC_0 rfl rfl dX10_goOn_46 ?_
      refine V_iload_n (pc := 49) h 1 dX10_goOn_49 rfl rfl ?_
      refine V_callVI (pc := 50) (dy := 4) (q := (RX3, TX3, 13)) h [.int v1] [.int (S 35 v1.toNatClampNeg), .int v1, .ref (a 35)] 111 mv_X10_199 oC_111 rfl dX10_goOn_50 rfl rfl (Nat.le_of_ble_eq_true rfl) (Nat.le_trans (by decide) hD) (c_Noon_mealOf v1 S) (fun z9 hz9 => c_Noon_mealOf_ct h.gg (Nat.le_refl 4) v1 S z9 hz9) (fun x2 S1 => ?_)
      refine V_iadd (pc := 53) h dX10_goOn_53 ?_
      refine V_iast (pc := 54) h 35 oC_35 dX10_goOn_54 (fun S3 => ?_)
      refine V_iincB (pc := 55) h 1 (1 : Int32) (fun x4 => [(1, .int x4), (0, .ref (a 0))]) dX10_goOn_55 rfl (by decide) (by decide) (fun _ => rfl) (fun x4 => ?_)
      refine V_goto (pc := 58) h 24 dX10_goOn_58 (by decide) ?_
      exact V_ls [1, 0] rfl (ih x4 S3)
def c_N_goOn (S : St) : Option St := (bV (c_Past_keep_33 S) (fun S1 => (bV (c_Noon_run 33 S1) (fun S2 => (c_N_goOn_h24 FU (0 : Int32) S2)))))
set_option maxHeartbeats 4000000 in
set_option maxRecDepth 100000 in
theorem c_N_goOn_ok {d : Nat} (h : Cx p s m c cX10_goOn 2 RX10 s0 args0 D ca a A) (hr : meth.sig.returnType = none) (hlk : meth.locks = false) (hD : 6 ≤ d) (S : St) : VV p l e (rmd d) s m args below meth c D ca tpC a A 2 (QmV D ca tpC a A below args s) S [(0, .ref (a 0))] 0 [] (c_N_goOn S) := by
  unfold c_N_goOn
  refine V_aload_n (pc := 0) h 0 dX10_goOn_0 rfl rfl ?_
  refine V_get (pc := 1) h 0 11 (.ref (a 48)) fl_X10_73_X10 oC_0 rfl rfl dX10_goOn_1 ?_
  refine V_aload_n (pc := 4) h 0 dX10_goOn_4 rfl rfl ?_
  refine V_get (pc := 5) h 0 7 (.ref (a 33)) fl_X10_56_X10 oC_0 rfl rfl dX10_goOn_5 ?_
  refine V_callVV (pc := 8) (dy := 1) (q := (RX4, TX4, 4)) h [.ref (a 33)] [] 48 mv_X10_220 oC_48 rfl dX10_goOn_8 rfl rfl (Nat.le_of_ble_eq_true rfl) (Nat.le_trans (by decide) hD) (c_Past_keep_33 S) (fun z9 hz9 => c_Past_keep_33_ct h.gg (Nat.le_refl 1) S z9 hz9) (fun S1 => ?_)
  refine V_aload_n (pc := 11) h 0 dX10_goOn_11 rfl rfl ?_
  refine V_get (pc := 12) h 0 12 (.ref (a 111)) fl_X10_82_X10 oC_0 rfl rfl dX10_goOn_12 ?_
  refine V_aload_n (pc := 15) h 0 dX10_goOn_15 rfl rfl ?_
  refine V_get (pc := 16) h 0 7 (.ref (a 33)) fl_X10_56_X10 oC_0 rfl rfl dX10_goOn_16 ?_
  refine V_callVV (pc := 19) (dy := 5) (q := (RX3, TX3, 13)) h [.ref (a 33)] [] 111 mv_X10_195 oC_111 rfl dX10_goOn_19 rfl rfl (Nat.le_of_ble_eq_true rfl) (Nat.le_trans (by decide) hD) (c_Noon_run 33 S1) (fun z9 hz9 => c_Noon_run_ct h.gg (Nat.le_refl 5) isSt_33 S1 z9 hz9) (fun S2 => ?_)
  refine V_iconst (pc := 22) (v := 0) h dX10_goOn_22 (by decide) ?_
  refine V_istore_n (pc := 23) h [(1, .int (0 : Int32)), (0, .ref (a 0))] dX10_goOn_23 rfl (by decide) rfl ?_
  exact V_ls [1, 0] rfl (c_N_goOn_h24_ok h hr hlk hD FU (0 : Int32) S2)
theorem c_N_goOn_ct {d : Nat} (g : GG s0 args0 D ca a A) (hD : 6 ≤ d) (S : St) (z : St) (hz : c_N_goOn S = some z) : CtV l yX10_goOn cX10_goOn 2 d s0 D ca tpC a A [.ref (a 0)] S z := CtV_mk g (by decide +kernel) (Nat.le_of_ble_eq_true rfl) hz (fun p e s m args below meth c h hr hlk => c_N_goOn_ok h hr hlk hD S)
def c_N_days_h12 : Nat → Int32 → Int32 → St → Option (Int32 × St)
  | 0, _, _, _ => none
  | n + 1, v1, v2, S => (if v1 ≤ v2 then (some ((S 33 0), S)) else (bV (c_N_goOn S) (fun S1 => (bnd (v2 + (1 : Int32)) (fun x2 => ((c_N_days_h12 n) v1 x2 S1))))))
set_option maxHeartbeats 4000000 in
set_option maxRecDepth 100000 in
theorem c_N_days_h12_ok {d : Nat} (h : Cx p s m c cX10_days 3 RX10 s0 args0 D ca a A) (hr : meth.sig.returnType = some .int) (hlk : meth.locks = false) (hD : 7 ≤ d) : ∀ (n : Nat) (v1 : Int32) (v2 : Int32) (S : St), VV p l e (rmd d) s m args below meth c D ca tpC a A 3 (QmI D ca tpC a A below args s) S [(0, .ref (a 0)), (1, .int v1), (2, .int v2)] 12 [] (c_N_days_h12 n v1 v2 S) := by
  intro n
  induction n with
  | zero => intro v1 v2 S; exact V_none
  | succ n ih =>
    intro v1 v2 S
    unfold c_N_days_h12
    refine V_iload_n (pc := 12) h 2 dX10_days_12 rfl rfl ?_
    refine V_iload_n (pc := 13) h 1 dX10_days_13 rfl rfl ?_
    refine V_icmp_ge (pc := 14) h 27 dX10_days_14 (by decide) ?_ ?_
    · refine V_aload_n (pc := 27) h 0 dX10_days_27 rfl rfl ?_
      refine V_get (pc := 28) h 0 7 (.ref (a 33)) fl_X10_56_X10 oC_0 rfl rfl dX10_days_28 ?_
      refine V_get (pc := 31) h 33 0 (.int (S 33 0)) fl_X10_217_X6 oC_33 rfl rfl dX10_days_31 ?_
      exact V_iret (pc := 34) h hr hlk dX10_days_34
    · refine V_aload_n (pc := 17) h 0 dX10_days_17 rfl rfl ?_
      refine V_callVV (pc := 18) (dy := 6) (q := (RX10, TX10, 15)) h [] [] 0 mv_X10_214 oC_0 rfl dX10_days_18 rfl rfl (Nat.le_of_ble_eq_true rfl) (Nat.le_trans (by decide) hD) (c_N_goOn S) (fun z9 hz9 => c_N_goOn_ct h.gg (Nat.le_refl 6) S z9 hz9) (fun S1 => ?_)
      refine V_iincB (pc := 21) h 2 (1 : Int32) (fun x2 => [(2, .int x2), (0, .ref (a 0)), (1, .int v1)]) dX10_days_21 rfl (by decide) (by decide) (fun _ => rfl) (fun x2 => ?_)
      refine V_goto (pc := 24) h 12 dX10_days_24 (by decide) ?_
      exact V_ls [1, 2, 0] rfl (ih v1 x2 S1)
def c_N_days (v1 : Int32) (S : St) : Option (Int32 × St) := (bI (c_N_canGoOn v1 S) (fun x2 S1 => (if x2 = 0 then (some ((-1 : Int32), S1)) else (c_N_days_h12 FU v1 (0 : Int32) S1))))
set_option maxHeartbeats 4000000 in
set_option maxRecDepth 100000 in
theorem c_N_days_ok {d : Nat} (h : Cx p s m c cX10_days 3 RX10 s0 args0 D ca a A) (hr : meth.sig.returnType = some .int) (hlk : meth.locks = false) (hD : 7 ≤ d) (v1 : Int32) (S : St) : VV p l e (rmd d) s m args below meth c D ca tpC a A 3 (QmI D ca tpC a A below args s) S [(0, .ref (a 0)), (1, .int v1)] 0 [] (c_N_days v1 S) := by
  unfold c_N_days
  refine V_aload_n (pc := 0) h 0 dX10_days_0 rfl rfl ?_
  refine V_iload_n (pc := 1) h 1 dX10_days_1 rfl rfl ?_
  refine V_callVI (pc := 2) (dy := 2) (q := (RX10, TX10, 15)) h [.int v1] [] 0 mv_X10_211 oC_0 rfl dX10_days_2 rfl rfl (Nat.le_of_ble_eq_true rfl) (Nat.le_trans (by decide) hD) (c_N_canGoOn v1 S) (fun z9 hz9 => c_N_canGoOn_ct h.gg (Nat.le_refl 2) v1 S z9 hz9) (fun x2 S1 => ?_)
  refine V_if_ne (pc := 5) h 10 dX10_days_5 (by decide) ?_ ?_
  · refine V_iconst (pc := 10) (v := 0) h dX10_days_10 (by decide) ?_
    refine V_istore_n (pc := 11) h [(2, .int (0 : Int32)), (0, .ref (a 0)), (1, .int v1)] dX10_days_11 rfl (by decide) rfl ?_
    exact V_ls [1, 2, 0] rfl (c_N_days_h12_ok h hr hlk hD FU v1 (0 : Int32) S1)
  · refine V_iconst (pc := 8) (v := -1) h dX10_days_8 (by decide) ?_
    exact V_iret (pc := 9) h hr hlk dX10_days_9
theorem c_N_days_ct {d : Nat} (g : GG s0 args0 D ca a A) (hD : 7 ≤ d) (v1 : Int32) (S : St) (z : Int32 × St) (hz : c_N_days v1 S = some z) : CtI l yX10_days cX10_days 3 .int d s0 D ca tpC a A [.ref (a 0), .int v1] S z := CtI_mk g (by decide +kernel) (Nat.le_of_ble_eq_true rfl) hz (fun p e s m args below meth c h hr hlk => c_N_days_ok h hr hlk hD v1 S)
def c_Past_restore_33_b28 (k0 : Int32) (S : St) : Option (Int32 × St) := (bnd (up2 S 48 3 k0) (fun S1 => (bnd (up2 S1 48 2 ((S1 48 2) - (1 : Int32))) (fun S2 => (ckM (S2 48 3) 30 (cpM (0 : Int32) (0 : Int32) (30 : Int32) 30 30 (bnd (upR S2 34 (cpy (S2 (51 + (S2 48 3).toNatClampNeg)) (S2 34) (0 : Int32).toNatClampNeg (0 : Int32).toNatClampNeg (30 : Int32).toNatClampNeg)) (fun S5 => (ckM (S5 48 3) 30 (cpM (0 : Int32) (0 : Int32) (6 : Int32) 6 6 (bnd (upR S5 35 (cpy (S5 (81 + (S5 48 3).toNatClampNeg)) (S5 35) (0 : Int32).toNatClampNeg (0 : Int32).toNatClampNeg (6 : Int32).toNatClampNeg)) (fun S8 => (bnd (up2 S8 33 0 ((S8 33 0) - (1 : Int32))) (fun S9 => (nzM (1 : Int32) (some ((1 : Int32), S9)))))))))))))))))
set_option maxHeartbeats 4000000 in
set_option maxRecDepth 100000 in
theorem c_Past_restore_33_b28_ok {d : Nat} (h : Cx p s m c cX4_restore 2 RX4 s0 args0 D ca a A) (hr : meth.sig.returnType = some .boolean) (hlk : meth.locks = false) (hD : 1 ≤ d) (k0 : Int32) (S : St) : VV p l e (rmd d) s m args below meth c D ca tpC a A 2 (QmI D ca tpC a A below args s) S [(0, .ref (a 48)), (1, .ref (a 33))] 28 [.int k0, .ref (a 48)] (c_Past_restore_33_b28 k0 S) := by
  unfold c_Past_restore_33_b28
  refine V_put (pc := 28) h 48 3 k0 fp_X4_23_X4 oC_48 rfl rfl rfl rfl dX4_restore_28 (fun S1 => ?_)
  refine V_aload_n (pc := 31) h 0 dX4_restore_31 rfl rfl ?_
  refine V_dup (pc := 32) h dX4_restore_32 rfl ?_
  refine V_get (pc := 33) h 48 2 (.int (S1 48 2)) fl_X4_19_X4 oC_48 rfl rfl dX4_restore_33 ?_
  refine V_iconst (pc := 36) (v := 1) h dX4_restore_36 (by decide) ?_
  refine V_isub (pc := 37) h dX4_restore_37 ?_
  refine V_put (pc := 38) h 48 2 ((S1 48 2) - (1 : Int32)) fp_X4_19_X4 oC_48 rfl rfl rfl rfl dX4_restore_38 (fun S2 => ?_)
  refine V_aload_n (pc := 41) h 0 dX4_restore_41 rfl rfl ?_
  refine V_get (pc := 42) h 48 0 (.ref (a 49)) fl_X4_11_X4 oC_48 rfl rfl dX4_restore_42 ?_
  refine V_aload_n (pc := 45) h 0 dX4_restore_45 rfl rfl ?_
  refine V_get (pc := 46) h 48 3 (.int (S2 48 3)) fl_X4_23_X4 oC_48 rfl rfl dX4_restore_46 ?_
  refine V_aald0 (pc := 49) h 49 oC_49 (by decide) dX4_restore_49 (fun h3 h4 => ?_)
  refine V_iconst (pc := 50) (v := 0) h dX4_restore_50 (by decide) ?_
  refine V_aload_n (pc := 51) h 1 dX4_restore_51 rfl rfl ?_
  refine V_get (pc := 52) h 33 1 (.ref (a 34)) fl_X4_26_X6 oC_33 rfl rfl dX4_restore_52 ?_
  refine V_iconst (pc := 55) (v := 0) h dX4_restore_55 (by decide) ?_
  refine V_aload_n (pc := 56) h 1 dX4_restore_56 rfl rfl ?_
  refine V_get (pc := 57) h 33 1 (.ref (a 34)) fl_X4_26_X6 oC_33 rfl rfl dX4_restore_57 ?_
  refine V_alen (pc := 60) h 34 (30 : Int32) oC_34 (by decide) (by decide) dX4_restore_60 ?_
  refine V_copy (pc := 61) h (51 + (S2 48 3).toNatClampNeg) 34 (rC_49 _ h4) oC_34 dX4_restore_61 tw_4_69 tw_2_151 tw_2_150 tw_1_13 (Nat.le_trans (by decide) hD) (Nat.le_of_ble_eq_true rfl) (fun S5 => ?_)
  refine V_aload_n (pc := 64) h 0 dX4_restore_64 rfl rfl ?_
  refine V_get (pc := 65) h 48 1 (.ref (a 50)) fl_X4_16_X4 oC_48 rfl rfl dX4_restore_65 ?_
  refine V_aload_n (pc := 68) h 0 dX4_restore_68 rfl rfl ?_
  refine V_get (pc := 69) h 48 3 (.int (S5 48 3)) fl_X4_23_X4 oC_48 rfl rfl dX4_restore_69 ?_
  refine V_aald0 (pc := 72) h 50 oC_50 (by decide) dX4_restore_72 (fun h6 h7 => ?_)
  refine V_iconst (pc := 73) (v := 0) h dX4_restore_73 (by decide) ?_
  refine V_aload_n (pc := 74) h 1 dX4_restore_74 rfl rfl ?_
  refine V_get (pc := 75) h 33 2 (.ref (a 35)) fl_X4_37_X6 oC_33 rfl rfl dX4_restore_75 ?_
  refine V_iconst (pc := 78) (v := 0) h dX4_restore_78 (by decide) ?_
  refine V_aload_n (pc := 79) h 1 dX4_restore_79 rfl rfl ?_
  refine V_get (pc := 80) h 33 2 (.ref (a 35)) fl_X4_37_X6 oC_33 rfl rfl dX4_restore_80 ?_
  refine V_alen (pc := 83) h 35 (6 : Int32) oC_35 (by decide) (by decide) dX4_restore_83 ?_
  refine V_copy (pc := 84) h (81 + (S5 48 3).toNatClampNeg) 35 (rC_50 _ h7) oC_35 dX4_restore_84 tw_4_69 tw_2_151 tw_2_150 tw_1_13 (Nat.le_trans (by decide) hD) (Nat.le_of_ble_eq_true rfl) (fun S8 => ?_)
  refine V_aload_n (pc := 87) h 1 dX4_restore_87 rfl rfl ?_
  refine V_dup (pc := 88) h dX4_restore_88 rfl ?_
  refine V_get (pc := 89) h 33 0 (.int (S8 33 0)) fl_X4_45_X6 oC_33 rfl rfl dX4_restore_89 ?_
  refine V_iconst (pc := 92) (v := 1) h dX4_restore_92 (by decide) ?_
  refine V_isub (pc := 93) h dX4_restore_93 ?_
  refine V_put (pc := 94) h 33 0 ((S8 33 0) - (1 : Int32)) fp_X4_45_X6 oC_33 rfl rfl rfl rfl dX4_restore_94 (fun S9 => ?_)
  refine V_iconst (pc := 97) (v := 1) h dX4_restore_97 (by decide) ?_
  exact V_zret (pc := 98) h hr hlk dX4_restore_98
def c_Past_restore_33 (S : St) : Option (Int32 × St) := (if (S 48 2) = 0 then (nzM (0 : Int32) (some ((0 : Int32), S))) else (if (S 48 3) ≤ 0 then (c_Past_restore_33_b28 (29 : Int32) S) else (c_Past_restore_33_b28 ((S 48 3) - (1 : Int32)) S)))
set_option maxHeartbeats 4000000 in
set_option maxRecDepth 100000 in
theorem c_Past_restore_33_ok {d : Nat} (h : Cx p s m c cX4_restore 2 RX4 s0 args0 D ca a A) (hr : meth.sig.returnType = some .boolean) (hlk : meth.locks = false) (hD : 1 ≤ d) (S : St) : VV p l e (rmd d) s m args below meth c D ca tpC a A 2 (QmI D ca tpC a A below args s) S [(0, .ref (a 48)), (1, .ref (a 33))] 0 [] (c_Past_restore_33 S) := by
  unfold c_Past_restore_33
  refine V_aload_n (pc := 0) h 0 dX4_restore_0 rfl rfl ?_
  refine V_get (pc := 1) h 48 2 (.int (S 48 2)) fl_X4_19_X4 oC_48 rfl rfl dX4_restore_1 ?_
  refine V_if_ne (pc := 4) h 9 dX4_restore_4 (by decide) ?_ ?_
  · refine V_aload_n (pc := 9) h 0 dX4_restore_9 rfl rfl ?_
    refine V_aload_n (pc := 10) h 0 dX4_restore_10 rfl rfl ?_
    refine V_get (pc := 11) h 48 3 (.int (S 48 3)) fl_X4_23_X4 oC_48 rfl rfl dX4_restore_11 ?_
    refine V_if_le (pc := 14) h 26 dX4_restore_14 (by decide) ?_ ?_
    · refine V_bipush (pc := 26) (v := 29) h dX4_restore_26 (by decide) ?_
      exact V_ls [0, 1] rfl (c_Past_restore_33_b28_ok h hr hlk hD (29 : Int32) S)
    · refine V_aload_n (pc := 17) h 0 dX4_restore_17 rfl rfl ?_
      refine V_get (pc := 18) h 48 3 (.int (S 48 3)) fl_X4_23_X4 oC_48 rfl rfl dX4_restore_18 ?_
      refine V_iconst (pc := 21) (v := 1) h dX4_restore_21 (by decide) ?_
      refine V_isub (pc := 22) h dX4_restore_22 ?_
      refine V_goto (pc := 23) h 28 dX4_restore_23 (by decide) ?_
      exact V_ls [0, 1] rfl (c_Past_restore_33_b28_ok h hr hlk hD ((S 48 3) - (1 : Int32)) S)
  · refine V_iconst (pc := 7) (v := 0) h dX4_restore_7 (by decide) ?_
    exact V_zret (pc := 8) h hr hlk dX4_restore_8
theorem c_Past_restore_33_ct {d : Nat} (g : GG s0 args0 D ca a A) (hD : 1 ≤ d) (S : St) (z : Int32 × St) (hz : c_Past_restore_33 S = some z) : CtI l yX4_restore cX4_restore 2 .boolean d s0 D ca tpC a A [.ref (a 48), .ref (a 33)] S z := CtI_mk g (by decide +kernel) (Nat.le_of_ble_eq_true rfl) hz (fun p e s m args below meth c h hr hlk => c_Past_restore_33_ok h hr hlk hD S)
def c_N_undo (S : St) : Option (Int32 × St) := (bI (c_Past_restore_33 S) (fun x2 S1 => (if x2 = 0 then (some ((-1 : Int32), S1)) else (some ((S1 33 0), S1)))))
set_option maxHeartbeats 4000000 in
set_option maxRecDepth 100000 in
theorem c_N_undo_ok {d : Nat} (h : Cx p s m c cX10_undo 1 RX10 s0 args0 D ca a A) (hr : meth.sig.returnType = some .int) (hlk : meth.locks = false) (hD : 2 ≤ d) (S : St) : VV p l e (rmd d) s m args below meth c D ca tpC a A 1 (QmI D ca tpC a A below args s) S [(0, .ref (a 0))] 0 [] (c_N_undo S) := by
  unfold c_N_undo
  refine V_aload_n (pc := 0) h 0 dX10_undo_0 rfl rfl ?_
  refine V_get (pc := 1) h 0 11 (.ref (a 48)) fl_X10_73_X10 oC_0 rfl rfl dX10_undo_1 ?_
  refine V_aload_n (pc := 4) h 0 dX10_undo_4 rfl rfl ?_
  refine V_get (pc := 5) h 0 7 (.ref (a 33)) fl_X10_56_X10 oC_0 rfl rfl dX10_undo_5 ?_
  refine V_callVI (pc := 8) (dy := 1) (q := (RX4, TX4, 4)) h [.ref (a 33)] [] 48 mv_X10_233 oC_48 rfl dX10_undo_8 rfl rfl (Nat.le_of_ble_eq_true rfl) (Nat.le_trans (by decide) hD) (c_Past_restore_33 S) (fun z9 hz9 => c_Past_restore_33_ct h.gg (Nat.le_refl 1) S z9 hz9) (fun x2 S1 => ?_)
  refine V_if_ne (pc := 11) h 16 dX10_undo_11 (by decide) ?_ ?_
  · refine V_aload_n (pc := 16) h 0 dX10_undo_16 rfl rfl ?_
    refine V_get (pc := 17) h 0 7 (.ref (a 33)) fl_X10_56_X10 oC_0 rfl rfl dX10_undo_17 ?_
    refine V_get (pc := 20) h 33 0 (.int (S1 33 0)) fl_X10_217_X6 oC_33 rfl rfl dX10_undo_20 ?_
    exact V_iret (pc := 23) h hr hlk dX10_undo_23
  · refine V_iconst (pc := 14) (v := -1) h dX10_undo_14 (by decide) ?_
    exact V_iret (pc := 15) h hr hlk dX10_undo_15
theorem c_N_undo_ct {d : Nat} (g : GG s0 args0 D ca a A) (hD : 2 ≤ d) (S : St) (z : Int32 × St) (hz : c_N_undo S = some z) : CtI l yX10_undo cX10_undo 1 .int d s0 D ca tpC a A [.ref (a 0)] S z := CtI_mk g (by decide +kernel) (Nat.le_of_ble_eq_true rfl) hz (fun p e s m args below meth c h hr hlk => c_N_undo_ok h hr hlk hD S)
def c_N_eaten (v1 : Int32) (S : St) : Option (Int32 × St) := (bI (c_N_isHouse v1 S) (fun x2 S1 => (if x2 = 0 then (some ((-100000000 : Int32), S1)) else (ckM v1 6 (some ((S1 35 v1.toNatClampNeg), S1))))))
set_option maxHeartbeats 4000000 in
set_option maxRecDepth 100000 in
theorem c_N_eaten_ok {d : Nat} (h : Cx p s m c cX10_eaten 2 RX10 s0 args0 D ca a A) (hr : meth.sig.returnType = some .int) (hlk : meth.locks = false) (hD : 2 ≤ d) (v1 : Int32) (S : St) : VV p l e (rmd d) s m args below meth c D ca tpC a A 2 (QmI D ca tpC a A below args s) S [(0, .ref (a 0)), (1, .int v1)] 0 [] (c_N_eaten v1 S) := by
  unfold c_N_eaten
  refine V_aload_n (pc := 0) h 0 dX10_eaten_0 rfl rfl ?_
  refine V_iload_n (pc := 1) h 1 dX10_eaten_1 rfl rfl ?_
  refine V_callVI (pc := 2) (dy := 1) (q := (RX10, TX10, 15)) h [.int v1] [] 0 mv_X10_137 oC_0 rfl dX10_eaten_2 rfl rfl (Nat.le_of_ble_eq_true rfl) (Nat.le_trans (by decide) hD) (c_N_isHouse v1 S) (fun z9 hz9 => c_N_isHouse_ct h.gg (Nat.le_refl 1) v1 S z9 hz9) (fun x2 S1 => ?_)
  refine V_if_eq (pc := 5) h 20 dX10_eaten_5 (by decide) ?_ ?_
  · refine V_ldc (pc := 20) (v := -100000000) h dX10_eaten_20 tw_3_198 ?_
    exact V_iret (pc := 22) h hr hlk dX10_eaten_22
  · refine V_aload_n (pc := 8) h 0 dX10_eaten_8 rfl rfl ?_
    refine V_get (pc := 9) h 0 7 (.ref (a 33)) fl_X10_56_X10 oC_0 rfl rfl dX10_eaten_9 ?_
    refine V_get (pc := 12) h 33 2 (.ref (a 35)) fl_X10_223_X6 oC_33 rfl rfl dX10_eaten_12 ?_
    refine V_iload_n (pc := 15) h 1 dX10_eaten_15 rfl rfl ?_
    refine V_iald (pc := 16) h 35 oC_35 dX10_eaten_16 ?_
    refine V_goto (pc := 17) h 22 dX10_eaten_17 (by decide) ?_
    exact V_iret (pc := 22) h hr hlk dX10_eaten_22
theorem c_N_eaten_ct {d : Nat} (g : GG s0 args0 D ca a A) (hD : 2 ≤ d) (v1 : Int32) (S : St) (z : Int32 × St) (hz : c_N_eaten v1 S = some z) : CtI l yX10_eaten cX10_eaten 2 .int d s0 D ca tpC a A [.ref (a 0), .int v1] S z := CtI_mk g (by decide +kernel) (Nat.le_of_ble_eq_true rfl) hz (fun p e s m args below meth c h hr hlk => c_N_eaten_ok h hr hlk hD v1 S)
def c_N_isChoice (v0 : Int32) (S : St) : Option (Int32 × St) := (if v0 = 0 then (nzM (1 : Int32) (some ((1 : Int32), S))) else (if v0 = (1 : Int32) then (nzM (1 : Int32) (some ((1 : Int32), S))) else (nzM (0 : Int32) (some ((0 : Int32), S)))))
set_option maxHeartbeats 4000000 in
set_option maxRecDepth 100000 in
theorem c_N_isChoice_ok {d : Nat} (h : Cx p s m c cX10_isChoice 1 RX10 s0 args0 D ca a A) (hr : meth.sig.returnType = some .boolean) (hlk : meth.locks = false) (hD : 1 ≤ d) (v0 : Int32) (S : St) : VV p l e (rmd d) s m args below meth c D ca tpC a A 1 (QmI D ca tpC a A below args s) S [(0, .int v0)] 0 [] (c_N_isChoice v0 S) := by
  unfold c_N_isChoice
  refine V_iload_n (pc := 0) h 0 dX10_isChoice_0 rfl rfl ?_
  refine V_if_eq (pc := 1) h 9 dX10_isChoice_1 (by decide) ?_ ?_
  · refine V_iconst (pc := 9) (v := 1) h dX10_isChoice_9 (by decide) ?_
    refine V_goto (pc := 10) h 14 dX10_isChoice_10 (by decide) ?_
    exact V_zret (pc := 14) h hr hlk dX10_isChoice_14
  · refine V_iload_n (pc := 4) h 0 dX10_isChoice_4 rfl rfl ?_
    refine V_iconst (pc := 5) (v := 1) h dX10_isChoice_5 (by decide) ?_
    refine V_icmp_ne (pc := 6) h 13 dX10_isChoice_6 (by decide) ?_ ?_
    · refine V_iconst (pc := 13) (v := 0) h dX10_isChoice_13 (by decide) ?_
      exact V_zret (pc := 14) h hr hlk dX10_isChoice_14
    · refine V_iconst (pc := 9) (v := 1) h dX10_isChoice_9 (by decide) ?_
      refine V_goto (pc := 10) h 14 dX10_isChoice_10 (by decide) ?_
      exact V_zret (pc := 14) h hr hlk dX10_isChoice_14
theorem c_N_isChoice_ct {d : Nat} (g : GG s0 args0 D ca a A) (hD : 1 ≤ d) (v0 : Int32) (S : St) (z : Int32 × St) (hz : c_N_isChoice v0 S = some z) : CtI l yX10_isChoice cX10_isChoice 1 .boolean d s0 D ca tpC a A [.int v0] S z := CtI_mk g (by decide +kernel) (Nat.le_of_ble_eq_true rfl) hz (fun p e s m args below meth c h hr hlk => c_N_isChoice_ok h hr hlk hD v0 S)
def c_Best_begin (v1 : Int32) (S : St) : Option St := (bnd (up2 S 130 3 v1) (fun S1 => (bnd (up2 S1 130 4 (-1 : Int32)) (fun S2 => (bnd (up2 S2 130 5 (-100000000 : Int32)) (fun S3 => (bV (c_Noon_begin (S3 33 0) S3) (fun S4 => (some S4)))))))))
set_option maxHeartbeats 4000000 in
set_option maxRecDepth 100000 in
theorem c_Best_begin_ok {d : Nat} (h : Cx p s m c cX0_begin 2 RX0 s0 args0 D ca a A) (hr : meth.sig.returnType = none) (hlk : meth.locks = false) (hD : 2 ≤ d) (v1 : Int32) (S : St) : VV p l e (rmd d) s m args below meth c D ca tpC a A 2 (QmV D ca tpC a A below args s) S [(0, .ref (a 130)), (1, .int v1)] 0 [] (c_Best_begin v1 S) := by
  unfold c_Best_begin
  refine V_aload_n (pc := 0) h 0 dX0_begin_0 rfl rfl ?_
  refine V_iload_n (pc := 1) h 1 dX0_begin_1 rfl rfl ?_
  refine V_put (pc := 2) h 130 3 v1 fp_X0_42_X0 oC_130 rfl rfl rfl rfl dX0_begin_2 (fun S1 => ?_)
  refine V_aload_n (pc := 5) h 0 dX0_begin_5 rfl rfl ?_
  refine V_iconst (pc := 6) (v := -1) h dX0_begin_6 (by decide) ?_
  refine V_put (pc := 7) h 130 4 (-1 : Int32) fp_X0_23_X0 oC_130 rfl rfl rfl rfl dX0_begin_7 (fun S2 => ?_)
  refine V_aload_n (pc := 10) h 0 dX0_begin_10 rfl rfl ?_
  refine V_ldc (pc := 11) (v := -100000000) h dX0_begin_11 tw_4_109 ?_
  refine V_put (pc := 13) h 130 5 (-100000000 : Int32) fp_X0_46_X0 oC_130 rfl rfl rfl rfl dX0_begin_13 (fun S3 => ?_)
  refine V_aload_n (pc := 16) h 0 dX0_begin_16 rfl rfl ?_
  refine V_get (pc := 17) h 130 2 (.ref (a 111)) fl_X0_19_X0 oC_130 rfl rfl dX0_begin_17 ?_
  refine V_aload_n (pc := 20) h 0 dX0_begin_20 rfl rfl ?_
  refine V_get (pc := 21) h 130 1 (.ref (a 33)) fl_X0_15_X0 oC_130 rfl rfl dX0_begin_21 ?_
  refine V_get (pc := 24) h 33 0 (.int (S3 33 0)) fl_X0_49_X6 oC_33 rfl rfl dX0_begin_24 ?_
  refine V_callVV (pc := 27) (dy := 1) (q := (RX3, TX3, 13)) h [.int (S3 33 0)] [] 111 mv_X0_54 oC_111 rfl dX0_begin_27 rfl rfl (Nat.le_of_ble_eq_true rfl) (Nat.le_trans (by decide) hD) (c_Noon_begin (S3 33 0) S3) (fun z9 hz9 => c_Noon_begin_ct h.gg (Nat.le_refl 1) (S3 33 0) S3 z9 hz9) (fun S4 => ?_)
  exact V_vret (pc := 30) h hr hlk dX0_begin_30
theorem c_Best_begin_ct {d : Nat} (g : GG s0 args0 D ca a A) (hD : 2 ≤ d) (v1 : Int32) (S : St) (z : St) (hz : c_Best_begin v1 S = some z) : CtV l yX0_begin cX0_begin 2 d s0 D ca tpC a A [.ref (a 130), .int v1] S z := CtV_mk g (by decide +kernel) (Nat.le_of_ble_eq_true rfl) hz (fun p e s m args below meth c h hr hlk => c_Best_begin_ok h hr hlk hD v1 S)
def c_Best_noMeal (S : St) : Option (Int32 × St) := (if (S 130 3) = 0 then (some ((0 : Int32), S)) else (some ((2147483647 : Int32), S)))
set_option maxHeartbeats 4000000 in
set_option maxRecDepth 100000 in
theorem c_Best_noMeal_ok {d : Nat} (h : Cx p s m c cX0_noMeal 1 RX0 s0 args0 D ca a A) (hr : meth.sig.returnType = some .int) (hlk : meth.locks = false) (hD : 1 ≤ d) (S : St) : VV p l e (rmd d) s m args below meth c D ca tpC a A 1 (QmI D ca tpC a A below args s) S [(0, .ref (a 130))] 0 [] (c_Best_noMeal S) := by
  unfold c_Best_noMeal
  refine V_aload_n (pc := 0) h 0 dX0_noMeal_0 rfl rfl ?_
  refine V_get (pc := 1) h 130 3 (.int (S 130 3)) fl_X0_42_X0 oC_130 rfl rfl dX0_noMeal_1 ?_
  refine V_if_ne (pc := 4) h 11 dX0_noMeal_4 (by decide) ?_ ?_
  · refine V_ldc (pc := 11) (v := 2147483647) h dX0_noMeal_11 tw_4_115 ?_
    exact V_iret (pc := 13) h hr hlk dX0_noMeal_13
  · refine V_iconst (pc := 7) (v := 0) h dX0_noMeal_7 (by decide) ?_
    refine V_goto (pc := 8) h 13 dX0_noMeal_8 (by decide) ?_
    exact V_iret (pc := 13) h hr hlk dX0_noMeal_13
theorem c_Best_noMeal_ct {d : Nat} (g : GG s0 args0 D ca a A) (hD : 1 ≤ d) (S : St) (z : Int32 × St) (hz : c_Best_noMeal S = some z) : CtI l yX0_noMeal cX0_noMeal 1 .int d s0 D ca tpC a A [.ref (a 130)] S z := CtI_mk g (by decide +kernel) (Nat.le_of_ble_eq_true rfl) hz (fun p e s m args below meth c h hr hlk => c_Best_noMeal_ok h hr hlk hD S)
def c_Best_findPuts (v1 : Int32) (S : St) : Option St := (bV (c_Best_begin v1 S) (fun S1 => (bI (c_Best_noMeal S1) (fun x3 S2 => (bV (c_Best_tryPuts_x (0 : Int32) x3 (0 : Int32) (0 : Int32) S2) (fun S4 => (some S4)))))))
set_option maxHeartbeats 4000000 in
set_option maxRecDepth 100000 in
theorem c_Best_findPuts_ok {d : Nat} (h : Cx p s m c cX0_findPuts 2 RX0 s0 args0 D ca a A) (hr : meth.sig.returnType = none) (hlk : meth.locks = false) (hD : 14 ≤ d) (v1 : Int32) (S : St) : VV p l e (rmd d) s m args below meth c D ca tpC a A 2 (QmV D ca tpC a A below args s) S [(0, .ref (a 130)), (1, .int v1)] 0 [] (c_Best_findPuts v1 S) := by
  unfold c_Best_findPuts
  refine V_aload_n (pc := 0) h 0 dX0_findPuts_0 rfl rfl ?_
  refine V_iload_n (pc := 1) h 1 dX0_findPuts_1 rfl rfl ?_
  refine V_callVV (pc := 2) (dy := 2) (q := (RX0, TX0, 6)) h [.int v1] [] 130 mv_X0_27 oC_130 rfl dX0_findPuts_2 rfl rfl (Nat.le_of_ble_eq_true rfl) (Nat.le_trans (by decide) hD) (c_Best_begin v1 S) (fun z9 hz9 => c_Best_begin_ct h.gg (Nat.le_refl 2) v1 S z9 hz9) (fun S1 => ?_)
  refine V_aload_n (pc := 5) h 0 dX0_findPuts_5 rfl rfl ?_
  refine V_iconst (pc := 6) (v := 0) h dX0_findPuts_6 (by decide) ?_
  refine V_aload_n (pc := 7) h 0 dX0_findPuts_7 rfl rfl ?_
  refine V_callVI (pc := 8) (dy := 1) (q := (RX0, TX0, 6)) h [] [.int (0 : Int32), .ref (a 130)] 130 mv_X0_31 oC_130 rfl dX0_findPuts_8 rfl rfl (Nat.le_of_ble_eq_true rfl) (Nat.le_trans (by decide) hD) (c_Best_noMeal S1) (fun z9 hz9 => c_Best_noMeal_ct h.gg (Nat.le_refl 1) S1 z9 hz9) (fun x3 S2 => ?_)
  refine V_iconst (pc := 11) (v := 0) h dX0_findPuts_11 (by decide) ?_
  refine V_iconst (pc := 12) (v := 0) h dX0_findPuts_12 (by decide) ?_
  refine V_callVV (pc := 13) (dy := 13) (q := (RX0, TX0, 6)) h [.int (0 : Int32), .int x3, .int (0 : Int32), .int (0 : Int32)] [] 130 mv_X0_35 oC_130 rfl dX0_findPuts_13 rfl rfl (Nat.le_of_ble_eq_true rfl) (Nat.le_trans (by decide) hD) (c_Best_tryPuts_x (0 : Int32) x3 (0 : Int32) (0 : Int32) S2) (fun z9 hz9 => c_Best_tryPuts_x_ct h.gg (Nat.le_refl 13) (Nat.le_refl 13) (0 : Int32) x3 (0 : Int32) (0 : Int32) S2 z9 hz9) (fun S4 => ?_)
  exact V_vret (pc := 16) h hr hlk dX0_findPuts_16
theorem c_Best_findPuts_ct {d : Nat} (g : GG s0 args0 D ca a A) (hD : 14 ≤ d) (v1 : Int32) (S : St) (z : St) (hz : c_Best_findPuts v1 S = some z) : CtV l yX0_findPuts cX0_findPuts 2 d s0 D ca tpC a A [.ref (a 130), .int v1] S z := CtV_mk g (by decide +kernel) (Nat.le_of_ble_eq_true rfl) hz (fun p e s m args below meth c h hr hlk => c_Best_findPuts_ok h hr hlk hD v1 S)
def c_N_puts (v1 : Int32) (v2 : Int32) (S : St) : Option (Int32 × St) := (bI (c_N_hasStreet S) (fun x2 S1 => (if x2 = 0 then (some ((-100000000 : Int32), S1)) else (if (5 : Int32) < (S1 28 0) then (some ((-100000000 : Int32), S1)) else (bI (c_N_isChoice v1 S1) (fun x4 S3 => (if x4 = 0 then (some ((-100000000 : Int32), S3)) else (bI (c_N_isChoice v2 S3) (fun x6 S5 => (if x6 = 0 then (some ((-100000000 : Int32), S5)) else (bV (c_Best_findPuts v1 S5) (fun S7 => (if v2 = 0 then (some ((S7 130 4), S7)) else (some ((S7 130 5), S7)))))))))))))))
set_option maxHeartbeats 4000000 in
set_option maxRecDepth 100000 in
theorem c_N_puts_ok {d : Nat} (h : Cx p s m c cX10_puts 3 RX10 s0 args0 D ca a A) (hr : meth.sig.returnType = some .int) (hlk : meth.locks = false) (hD : 15 ≤ d) (v1 : Int32) (v2 : Int32) (S : St) : VV p l e (rmd d) s m args below meth c D ca tpC a A 3 (QmI D ca tpC a A below args s) S [(0, .ref (a 0)), (1, .int v1), (2, .int v2)] 0 [] (c_N_puts v1 v2 S) := by
  unfold c_N_puts
  refine V_aload_n (pc := 0) h 0 dX10_puts_0 rfl rfl ?_
  refine V_callVI (pc := 1) (dy := 1) (q := (RX10, TX10, 15)) h [] [] 0 mv_X10_172 oC_0 rfl dX10_puts_1 rfl rfl (Nat.le_of_ble_eq_true rfl) (Nat.le_trans (by decide) hD) (c_N_hasStreet S) (fun z9 hz9 => c_N_hasStreet_ct h.gg (Nat.le_refl 1) S z9 hz9) (fun x2 S1 => ?_)
  refine V_if_eq (pc := 4) h 32 dX10_puts_4 (by decide) ?_ ?_
  · refine V_ldc (pc := 32) (v := -100000000) h dX10_puts_32 tw_3_198 ?_
    exact V_iret (pc := 34) h hr hlk dX10_puts_34
  · refine V_aload_n (pc := 7) h 0 dX10_puts_7 rfl rfl ?_
    refine V_get (pc := 8) h 0 6 (.ref (a 28)) fl_X10_49_X10 oC_0 rfl rfl dX10_puts_8 ?_
    refine V_get (pc := 11) h 28 0 (.int (S1 28 0)) fl_X10_118_X7 oC_28 rfl rfl dX10_puts_11 ?_
    refine V_iconst (pc := 14) (v := 5) h dX10_puts_14 (by decide) ?_
    refine V_icmp_gt (pc := 15) h 32 dX10_puts_15 (by decide) ?_ ?_
    · refine V_ldc (pc := 32) (v := -100000000) h dX10_puts_32 tw_3_198 ?_
      exact V_iret (pc := 34) h hr hlk dX10_puts_34
    · refine V_iload_n (pc := 18) h 1 dX10_puts_18 rfl rfl ?_
      refine V_callSI (pc := 19) (dy := 1) h [.int v1] [] ms_X10_237 dX10_puts_19 rfl rfl (Nat.le_of_ble_eq_true rfl) (Nat.le_trans (by decide) hD) (c_N_isChoice v1 S1) (fun z9 hz9 => c_N_isChoice_ct h.gg (Nat.le_refl 1) v1 S1 z9 hz9) (fun x4 S3 => ?_)
      refine V_if_eq (pc := 22) h 32 dX10_puts_22 (by decide) ?_ ?_
      · refine V_ldc (pc := 32) (v := -100000000) h dX10_puts_32 tw_3_198 ?_
        exact V_iret (pc := 34) h hr hlk dX10_puts_34
      · refine V_iload_n (pc := 25) h 2 dX10_puts_25 rfl rfl ?_
        refine V_callSI (pc := 26) (dy := 1) h [.int v2] [] ms_X10_237 dX10_puts_26 rfl rfl (Nat.le_of_ble_eq_true rfl) (Nat.le_trans (by decide) hD) (c_N_isChoice v2 S3) (fun z9 hz9 => c_N_isChoice_ct h.gg (Nat.le_refl 1) v2 S3 z9 hz9) (fun x6 S5 => ?_)
        refine V_if_ne (pc := 29) h 35 dX10_puts_29 (by decide) ?_ ?_
        · refine V_aload_n (pc := 35) h 0 dX10_puts_35 rfl rfl ?_
          refine V_get (pc := 36) h 0 13 (.ref (a 130)) fl_X10_91_X10 oC_0 rfl rfl dX10_puts_36 ?_
          refine V_iload_n (pc := 39) h 1 dX10_puts_39 rfl rfl ?_
          refine V_callVV (pc := 40) (dy := 14) (q := (RX0, TX0, 6)) h [.int v1] [] 130 mv_X10_240 oC_130 rfl dX10_puts_40 rfl rfl (Nat.le_of_ble_eq_true rfl) (Nat.le_trans (by decide) hD) (c_Best_findPuts v1 S5) (fun z9 hz9 => c_Best_findPuts_ct h.gg (Nat.le_refl 14) v1 S5 z9 hz9) (fun S7 => ?_)
          refine V_iload_n (pc := 43) h 2 dX10_puts_43 rfl rfl ?_
          refine V_if_ne (pc := 44) h 57 dX10_puts_44 (by decide) ?_ ?_
          · refine V_aload_n (pc := 57) h 0 dX10_puts_57 rfl rfl ?_
            refine V_get (pc := 58) h 0 13 (.ref (a 130)) fl_X10_91_X10 oC_0 rfl rfl dX10_puts_58 ?_
            refine V_get (pc := 61) h 130 5 (.int (S7 130 5)) fl_X10_246_X0 oC_130 rfl rfl dX10_puts_61 ?_
            exact V_iret (pc := 64) h hr hlk dX10_puts_64
          · refine V_aload_n (pc := 47) h 0 dX10_puts_47 rfl rfl ?_
            refine V_get (pc := 48) h 0 13 (.ref (a 130)) fl_X10_91_X10 oC_0 rfl rfl dX10_puts_48 ?_
            refine V_get (pc := 51) h 130 4 (.int (S7 130 4)) fl_X10_243_X0 oC_130 rfl rfl dX10_puts_51 ?_
            refine V_goto (pc := 54) h 64 dX10_puts_54 (by decide) ?_
            exact V_iret (pc := 64) h hr hlk dX10_puts_64
        · refine V_ldc (pc := 32) (v := -100000000) h dX10_puts_32 tw_3_198 ?_
          exact V_iret (pc := 34) h hr hlk dX10_puts_34
theorem c_N_puts_ct {d : Nat} (g : GG s0 args0 D ca a A) (hD : 15 ≤ d) (v1 : Int32) (v2 : Int32) (S : St) (z : Int32 × St) (hz : c_N_puts v1 v2 S = some z) : CtI l yX10_puts cX10_puts 3 .int d s0 D ca tpC a A [.ref (a 0), .int v1, .int v2] S z := CtI_mk g (by decide +kernel) (Nat.le_of_ble_eq_true rfl) hz (fun p e s m args below meth c h hr hlk => c_N_puts_ok h hr hlk hD v1 v2 S)
def c_Best_findOrder (v1 : Int32) (S : St) : Option St := (bV (c_Best_begin v1 S) (fun S1 => (bI (c_Best_noMeal S1) (fun x3 S2 => (bV (c_Best_tryOrders_x (0 : Int32) x3 (0 : Int32) (0 : Int32) S2) (fun S4 => (some S4)))))))
set_option maxHeartbeats 4000000 in
set_option maxRecDepth 100000 in
theorem c_Best_findOrder_ok {d : Nat} (h : Cx p s m c cX0_findOrder 2 RX0 s0 args0 D ca a A) (hr : meth.sig.returnType = none) (hlk : meth.locks = false) (hD : 14 ≤ d) (v1 : Int32) (S : St) : VV p l e (rmd d) s m args below meth c D ca tpC a A 2 (QmV D ca tpC a A below args s) S [(0, .ref (a 130)), (1, .int v1)] 0 [] (c_Best_findOrder v1 S) := by
  unfold c_Best_findOrder
  refine V_aload_n (pc := 0) h 0 dX0_findOrder_0 rfl rfl ?_
  refine V_iload_n (pc := 1) h 1 dX0_findOrder_1 rfl rfl ?_
  refine V_callVV (pc := 2) (dy := 2) (q := (RX0, TX0, 6)) h [.int v1] [] 130 mv_X0_27 oC_130 rfl dX0_findOrder_2 rfl rfl (Nat.le_of_ble_eq_true rfl) (Nat.le_trans (by decide) hD) (c_Best_begin v1 S) (fun z9 hz9 => c_Best_begin_ct h.gg (Nat.le_refl 2) v1 S z9 hz9) (fun S1 => ?_)
  refine V_aload_n (pc := 5) h 0 dX0_findOrder_5 rfl rfl ?_
  refine V_iconst (pc := 6) (v := 0) h dX0_findOrder_6 (by decide) ?_
  refine V_aload_n (pc := 7) h 0 dX0_findOrder_7 rfl rfl ?_
  refine V_callVI (pc := 8) (dy := 1) (q := (RX0, TX0, 6)) h [] [.int (0 : Int32), .ref (a 130)] 130 mv_X0_31 oC_130 rfl dX0_findOrder_8 rfl rfl (Nat.le_of_ble_eq_true rfl) (Nat.le_trans (by decide) hD) (c_Best_noMeal S1) (fun z9 hz9 => c_Best_noMeal_ct h.gg (Nat.le_refl 1) S1 z9 hz9) (fun x3 S2 => ?_)
  refine V_iconst (pc := 11) (v := 0) h dX0_findOrder_11 (by decide) ?_
  refine V_iconst (pc := 12) (v := 0) h dX0_findOrder_12 (by decide) ?_
  refine V_callVV (pc := 13) (dy := 13) (q := (RX0, TX0, 6)) h [.int (0 : Int32), .int x3, .int (0 : Int32), .int (0 : Int32)] [] 130 mv_X0_39 oC_130 rfl dX0_findOrder_13 rfl rfl (Nat.le_of_ble_eq_true rfl) (Nat.le_trans (by decide) hD) (c_Best_tryOrders_x (0 : Int32) x3 (0 : Int32) (0 : Int32) S2) (fun z9 hz9 => c_Best_tryOrders_x_ct h.gg (Nat.le_refl 13) (Nat.le_refl 13) (0 : Int32) x3 (0 : Int32) (0 : Int32) S2 z9 hz9) (fun S4 => ?_)
  exact V_vret (pc := 16) h hr hlk dX0_findOrder_16
theorem c_Best_findOrder_ct {d : Nat} (g : GG s0 args0 D ca a A) (hD : 14 ≤ d) (v1 : Int32) (S : St) (z : St) (hz : c_Best_findOrder v1 S = some z) : CtV l yX0_findOrder cX0_findOrder 2 d s0 D ca tpC a A [.ref (a 130), .int v1] S z := CtV_mk g (by decide +kernel) (Nat.le_of_ble_eq_true rfl) hz (fun p e s m args below meth c h hr hlk => c_Best_findOrder_ok h hr hlk hD v1 S)
def c_N_orders (v1 : Int32) (v2 : Int32) (S : St) : Option (Int32 × St) := (bI (c_N_hasStreet S) (fun x2 S1 => (if x2 = 0 then (some ((-100000000 : Int32), S1)) else (bI (c_N_isChoice v1 S1) (fun x4 S3 => (if x4 = 0 then (some ((-100000000 : Int32), S3)) else (bI (c_N_isChoice v2 S3) (fun x6 S5 => (if x6 = 0 then (some ((-100000000 : Int32), S5)) else (bV (c_Best_findOrder v1 S5) (fun S7 => (if v2 = 0 then (some ((S7 130 4), S7)) else (some ((S7 130 5), S7))))))))))))))
set_option maxHeartbeats 4000000 in
set_option maxRecDepth 100000 in
theorem c_N_orders_ok {d : Nat} (h : Cx p s m c cX10_orders 3 RX10 s0 args0 D ca a A) (hr : meth.sig.returnType = some .int) (hlk : meth.locks = false) (hD : 15 ≤ d) (v1 : Int32) (v2 : Int32) (S : St) : VV p l e (rmd d) s m args below meth c D ca tpC a A 3 (QmI D ca tpC a A below args s) S [(0, .ref (a 0)), (1, .int v1), (2, .int v2)] 0 [] (c_N_orders v1 v2 S) := by
  unfold c_N_orders
  refine V_aload_n (pc := 0) h 0 dX10_orders_0 rfl rfl ?_
  refine V_callVI (pc := 1) (dy := 1) (q := (RX10, TX10, 15)) h [] [] 0 mv_X10_172 oC_0 rfl dX10_orders_1 rfl rfl (Nat.le_of_ble_eq_true rfl) (Nat.le_trans (by decide) hD) (c_N_hasStreet S) (fun z9 hz9 => c_N_hasStreet_ct h.gg (Nat.le_refl 1) S z9 hz9) (fun x2 S1 => ?_)
  refine V_if_eq (pc := 4) h 21 dX10_orders_4 (by decide) ?_ ?_
  · refine V_ldc (pc := 21) (v := -100000000) h dX10_orders_21 tw_3_198 ?_
    exact V_iret (pc := 23) h hr hlk dX10_orders_23
  · refine V_iload_n (pc := 7) h 1 dX10_orders_7 rfl rfl ?_
    refine V_callSI (pc := 8) (dy := 1) h [.int v1] [] ms_X10_237 dX10_orders_8 rfl rfl (Nat.le_of_ble_eq_true rfl) (Nat.le_trans (by decide) hD) (c_N_isChoice v1 S1) (fun z9 hz9 => c_N_isChoice_ct h.gg (Nat.le_refl 1) v1 S1 z9 hz9) (fun x4 S3 => ?_)
    refine V_if_eq (pc := 11) h 21 dX10_orders_11 (by decide) ?_ ?_
    · refine V_ldc (pc := 21) (v := -100000000) h dX10_orders_21 tw_3_198 ?_
      exact V_iret (pc := 23) h hr hlk dX10_orders_23
    · refine V_iload_n (pc := 14) h 2 dX10_orders_14 rfl rfl ?_
      refine V_callSI (pc := 15) (dy := 1) h [.int v2] [] ms_X10_237 dX10_orders_15 rfl rfl (Nat.le_of_ble_eq_true rfl) (Nat.le_trans (by decide) hD) (c_N_isChoice v2 S3) (fun z9 hz9 => c_N_isChoice_ct h.gg (Nat.le_refl 1) v2 S3 z9 hz9) (fun x6 S5 => ?_)
      refine V_if_ne (pc := 18) h 24 dX10_orders_18 (by decide) ?_ ?_
      · refine V_aload_n (pc := 24) h 0 dX10_orders_24 rfl rfl ?_
        refine V_get (pc := 25) h 0 13 (.ref (a 130)) fl_X10_91_X10 oC_0 rfl rfl dX10_orders_25 ?_
        refine V_iload_n (pc := 28) h 1 dX10_orders_28 rfl rfl ?_
        refine V_callVV (pc := 29) (dy := 14) (q := (RX0, TX0, 6)) h [.int v1] [] 130 mv_X10_249 oC_130 rfl dX10_orders_29 rfl rfl (Nat.le_of_ble_eq_true rfl) (Nat.le_trans (by decide) hD) (c_Best_findOrder v1 S5) (fun z9 hz9 => c_Best_findOrder_ct h.gg (Nat.le_refl 14) v1 S5 z9 hz9) (fun S7 => ?_)
        refine V_iload_n (pc := 32) h 2 dX10_orders_32 rfl rfl ?_
        refine V_if_ne (pc := 33) h 46 dX10_orders_33 (by decide) ?_ ?_
        · refine V_aload_n (pc := 46) h 0 dX10_orders_46 rfl rfl ?_
          refine V_get (pc := 47) h 0 13 (.ref (a 130)) fl_X10_91_X10 oC_0 rfl rfl dX10_orders_47 ?_
          refine V_get (pc := 50) h 130 5 (.int (S7 130 5)) fl_X10_246_X0 oC_130 rfl rfl dX10_orders_50 ?_
          exact V_iret (pc := 53) h hr hlk dX10_orders_53
        · refine V_aload_n (pc := 36) h 0 dX10_orders_36 rfl rfl ?_
          refine V_get (pc := 37) h 0 13 (.ref (a 130)) fl_X10_91_X10 oC_0 rfl rfl dX10_orders_37 ?_
          refine V_get (pc := 40) h 130 4 (.int (S7 130 4)) fl_X10_243_X0 oC_130 rfl rfl dX10_orders_40 ?_
          refine V_goto (pc := 43) h 53 dX10_orders_43 (by decide) ?_
          exact V_iret (pc := 53) h hr hlk dX10_orders_53
      · refine V_ldc (pc := 21) (v := -100000000) h dX10_orders_21 tw_3_198 ?_
        exact V_iret (pc := 23) h hr hlk dX10_orders_23
theorem c_N_orders_ct {d : Nat} (g : GG s0 args0 D ca a A) (hD : 15 ≤ d) (v1 : Int32) (v2 : Int32) (S : St) (z : Int32 × St) (hz : c_N_orders v1 v2 S = some z) : CtI l yX10_orders cX10_orders 3 .int d s0 D ca tpC a A [.ref (a 0), .int v1, .int v2] S z := CtI_mk g (by decide +kernel) (Nat.le_of_ble_eq_true rfl) hz (fun p e s m args below meth c h hr hlk => c_N_orders_ok h hr hlk hD v1 v2 S)
def c_State_copy (o0 : Nat) (o1 : Nat) (S : St) : Option St := (bnd (up2 S o0 0 (S o1 0)) (fun S1 => (cpM (0 : Int32) (0 : Int32) (30 : Int32) 30 30 (bnd (upR S1 (o0 + 1) (cpy (S1 (o1 + 1)) (S1 (o0 + 1)) (0 : Int32).toNatClampNeg (0 : Int32).toNatClampNeg (30 : Int32).toNatClampNeg)) (fun S2 => (cpM (0 : Int32) (0 : Int32) (6 : Int32) 6 6 (bnd (upR S2 (o0 + 2) (cpy (S2 (o1 + 2)) (S2 (o0 + 2)) (0 : Int32).toNatClampNeg (0 : Int32).toNatClampNeg (6 : Int32).toNatClampNeg)) (fun S3 => (cpM (0 : Int32) (0 : Int32) (6 : Int32) 6 6 (bnd (upR S3 (o0 + 3) (cpy (S3 (o1 + 3)) (S3 (o0 + 3)) (0 : Int32).toNatClampNeg (0 : Int32).toNatClampNeg (6 : Int32).toNatClampNeg)) (fun S4 => (cpM (0 : Int32) (0 : Int32) (6 : Int32) 6 6 (bnd (upR S4 (o0 + 4) (cpy (S4 (o1 + 4)) (S4 (o0 + 4)) (0 : Int32).toNatClampNeg (0 : Int32).toNatClampNeg (6 : Int32).toNatClampNeg)) (fun S5 => (some S5)))))))))))))))
set_option maxHeartbeats 4000000 in
set_option maxRecDepth 100000 in
theorem c_State_copy_ok {d : Nat} (h : Cx p s m c cX6_copy 2 RX6 s0 args0 D ca a A) (hr : meth.sig.returnType = none) (hlk : meth.locks = false) (hD : 1 ≤ d) (o0 : Nat) (o1 : Nat) (ho0 : isSt o0) (ho1 : isSt o1) (S : St) : VV p l e (rmd d) s m args below meth c D ca tpC a A 2 (QmV D ca tpC a A below args s) S [(0, .ref (a o0)), (1, .ref (a o1))] 0 [] (c_State_copy o0 o1 S) := by
  unfold c_State_copy
  refine V_aload_n (pc := 0) h 0 dX6_copy_0 rfl rfl ?_
  refine V_aload_n (pc := 1) h 1 dX6_copy_1 rfl rfl ?_
  refine V_get (pc := 2) h o1 0 (.int (S o1 0)) fl_X6_24_X6 ho1.1 rfl rfl dX6_copy_2 ?_
  refine V_put (pc := 5) h o0 0 (S o1 0) fp_X6_24_X6 ho0.1 rfl rfl rfl rfl dX6_copy_5 (fun S1 => ?_)
  refine V_aload_n (pc := 8) h 1 dX6_copy_8 rfl rfl ?_
  refine V_get (pc := 9) h o1 1 (.ref (a (o1 + 1))) fl_X6_9_X6 ho1.1 rfl rfl dX6_copy_9 ?_
  refine V_iconst (pc := 12) (v := 0) h dX6_copy_12 (by decide) ?_
  refine V_aload_n (pc := 13) h 0 dX6_copy_13 rfl rfl ?_
  refine V_get (pc := 14) h o0 1 (.ref (a (o0 + 1))) fl_X6_9_X6 ho0.1 rfl rfl dX6_copy_14 ?_
  refine V_iconst (pc := 17) (v := 0) h dX6_copy_17 (by decide) ?_
  refine V_aload_n (pc := 18) h 0 dX6_copy_18 rfl rfl ?_
  refine V_get (pc := 19) h o0 1 (.ref (a (o0 + 1))) fl_X6_9_X6 ho0.1 rfl rfl dX6_copy_19 ?_
  refine V_alen (pc := 22) h (o0 + 1) (30 : Int32) ho0.2.1 (by decide) (by decide) dX6_copy_22 ?_
  refine V_copy (pc := 23) h (o1 + 1) (o0 + 1) ho1.2.1 ho0.2.1 dX6_copy_23 tw_3_140 tw_2_151 tw_2_150 tw_1_13 (Nat.le_trans (by decide) hD) (Nat.le_of_ble_eq_true rfl) (fun S2 => ?_)
  refine V_aload_n (pc := 26) h 1 dX6_copy_26 rfl rfl ?_
  refine V_get (pc := 27) h o1 2 (.ref (a (o1 + 2))) fl_X6_15_X6 ho1.1 rfl rfl dX6_copy_27 ?_
  refine V_iconst (pc := 30) (v := 0) h dX6_copy_30 (by decide) ?_
  refine V_aload_n (pc := 31) h 0 dX6_copy_31 rfl rfl ?_
  refine V_get (pc := 32) h o0 2 (.ref (a (o0 + 2))) fl_X6_15_X6 ho0.1 rfl rfl dX6_copy_32 ?_
  refine V_iconst (pc := 35) (v := 0) h dX6_copy_35 (by decide) ?_
  refine V_aload_n (pc := 36) h 0 dX6_copy_36 rfl rfl ?_
  refine V_get (pc := 37) h o0 2 (.ref (a (o0 + 2))) fl_X6_15_X6 ho0.1 rfl rfl dX6_copy_37 ?_
  refine V_alen (pc := 40) h (o0 + 2) (6 : Int32) ho0.2.2.1 (by decide) (by decide) dX6_copy_40 ?_
  refine V_copy (pc := 41) h (o1 + 2) (o0 + 2) ho1.2.2.1 ho0.2.2.1 dX6_copy_41 tw_3_140 tw_2_151 tw_2_150 tw_1_13 (Nat.le_trans (by decide) hD) (Nat.le_of_ble_eq_true rfl) (fun S3 => ?_)
  refine V_aload_n (pc := 44) h 1 dX6_copy_44 rfl rfl ?_
  refine V_get (pc := 45) h o1 3 (.ref (a (o1 + 3))) fl_X6_18_X6 ho1.1 rfl rfl dX6_copy_45 ?_
  refine V_iconst (pc := 48) (v := 0) h dX6_copy_48 (by decide) ?_
  refine V_aload_n (pc := 49) h 0 dX6_copy_49 rfl rfl ?_
  refine V_get (pc := 50) h o0 3 (.ref (a (o0 + 3))) fl_X6_18_X6 ho0.1 rfl rfl dX6_copy_50 ?_
  refine V_iconst (pc := 53) (v := 0) h dX6_copy_53 (by decide) ?_
  refine V_aload_n (pc := 54) h 0 dX6_copy_54 rfl rfl ?_
  refine V_get (pc := 55) h o0 3 (.ref (a (o0 + 3))) fl_X6_18_X6 ho0.1 rfl rfl dX6_copy_55 ?_
  refine V_alen (pc := 58) h (o0 + 3) (6 : Int32) ho0.2.2.2.1 (by decide) (by decide) dX6_copy_58 ?_
  refine V_copy (pc := 59) h (o1 + 3) (o0 + 3) ho1.2.2.2.1 ho0.2.2.2.1 dX6_copy_59 tw_3_140 tw_2_151 tw_2_150 tw_1_13 (Nat.le_trans (by decide) hD) (Nat.le_of_ble_eq_true rfl) (fun S4 => ?_)
  refine V_aload_n (pc := 62) h 1 dX6_copy_62 rfl rfl ?_
  refine V_get (pc := 63) h o1 4 (.ref (a (o1 + 4))) fl_X6_21_X6 ho1.1 rfl rfl dX6_copy_63 ?_
  refine V_iconst (pc := 66) (v := 0) h dX6_copy_66 (by decide) ?_
  refine V_aload_n (pc := 67) h 0 dX6_copy_67 rfl rfl ?_
  refine V_get (pc := 68) h o0 4 (.ref (a (o0 + 4))) fl_X6_21_X6 ho0.1 rfl rfl dX6_copy_68 ?_
  refine V_iconst (pc := 71) (v := 0) h dX6_copy_71 (by decide) ?_
  refine V_aload_n (pc := 72) h 0 dX6_copy_72 rfl rfl ?_
  refine V_get (pc := 73) h o0 4 (.ref (a (o0 + 4))) fl_X6_21_X6 ho0.1 rfl rfl dX6_copy_73 ?_
  refine V_alen (pc := 76) h (o0 + 4) (6 : Int32) ho0.2.2.2.2 (by decide) (by decide) dX6_copy_76 ?_
  refine V_copy (pc := 77) h (o1 + 4) (o0 + 4) ho1.2.2.2.2 ho0.2.2.2.2 dX6_copy_77 tw_3_140 tw_2_151 tw_2_150 tw_1_13 (Nat.le_trans (by decide) hD) (Nat.le_of_ble_eq_true rfl) (fun S5 => ?_)
  exact V_vret (pc := 80) h hr hlk dX6_copy_80
theorem c_State_copy_ct {d : Nat} (g : GG s0 args0 D ca a A) (hD : 1 ≤ d) {o0 : Nat} {o1 : Nat} (ho0 : isSt o0) (ho1 : isSt o1) (S : St) (z : St) (hz : c_State_copy o0 o1 S = some z) : CtV l yX6_copy cX6_copy 2 d s0 D ca tpC a A [.ref (a o0), .ref (a o1)] S z := CtV_mk g (by decide +kernel) (Nat.le_of_ble_eq_true rfl) hz (fun p e s m args below meth c h hr hlk => c_State_copy_ok h hr hlk hD o0 o1 ho0 ho1 S)
def c_N_putByNumber (v0 : Int32) (S : St) : Option (Int32 × St) := (if (5 : Int32) ≤ v0 then (some ((9 : Int32), S)) else (some (v0, S)))
set_option maxHeartbeats 4000000 in
set_option maxRecDepth 100000 in
theorem c_N_putByNumber_ok {d : Nat} (h : Cx p s m c cX10_putByNumber 1 RX10 s0 args0 D ca a A) (hr : meth.sig.returnType = some .int) (hlk : meth.locks = false) (hD : 1 ≤ d) (v0 : Int32) (S : St) : VV p l e (rmd d) s m args below meth c D ca tpC a A 1 (QmI D ca tpC a A below args s) S [(0, .int v0)] 0 [] (c_N_putByNumber v0 S) := by
  unfold c_N_putByNumber
  refine V_iload_n (pc := 0) h 0 dX10_putByNumber_0 rfl rfl ?_
  refine V_iconst (pc := 1) (v := 5) h dX10_putByNumber_1 (by decide) ?_
  refine V_icmp_ge (pc := 2) h 9 dX10_putByNumber_2 (by decide) ?_ ?_
  · refine V_bipush (pc := 9) (v := 9) h dX10_putByNumber_9 (by decide) ?_
    exact V_iret (pc := 11) h hr hlk dX10_putByNumber_11
  · refine V_iload_n (pc := 5) h 0 dX10_putByNumber_5 rfl rfl ?_
    refine V_goto (pc := 6) h 11 dX10_putByNumber_6 (by decide) ?_
    exact V_iret (pc := 11) h hr hlk dX10_putByNumber_11
theorem c_N_putByNumber_ct {d : Nat} (g : GG s0 args0 D ca a A) (hD : 1 ≤ d) (v0 : Int32) (S : St) (z : Int32 × St) (hz : c_N_putByNumber v0 S = some z) : CtI l yX10_putByNumber cX10_putByNumber 1 .int d s0 D ca tpC a A [.int v0] S z := CtI_mk g (by decide +kernel) (Nat.le_of_ble_eq_true rfl) hz (fun p e s m args below meth c h hr hlk => c_N_putByNumber_ok h hr hlk hD v0 S)
def c_N_bestFor_b113 (L53 : Int32 → Int32 → Int32 → Int32 → Int32 → Int32 → St → Option (Int32 × St)) (v1 : Int32) (v2 : Int32) (v3 : Int32) (v4 : Int32) (v5 : Int32) (v6 : Int32) (S : St) : Option (Int32 × St) := (bnd (v6 + (1 : Int32)) (fun x1 => (L53 v1 v2 v3 v4 v5 x1 S)))
set_option maxHeartbeats 4000000 in
set_option maxRecDepth 100000 in
theorem c_N_bestFor_b113_ok {d : Nat} (h : Cx p s m c cX10_bestFor 9 RX10 s0 args0 D ca a A) (hr : meth.sig.returnType = some .int) (hlk : meth.locks = false) (hD : 6 ≤ d) (L53 : Int32 → Int32 → Int32 → Int32 → Int32 → Int32 → St → Option (Int32 × St)) (hL53 : ∀ (v1 : Int32) (v2 : Int32) (v3 : Int32) (v4 : Int32) (v5 : Int32) (v6 : Int32) (S : St), VV p l e (rmd d) s m args below meth c D ca tpC a A 9 (QmI D ca tpC a A below args s) S [(0, .ref (a 0)), (1, .int v1), (2, .int v2), (3, .int v3), (4, .int v4), (5, .int v5), (6, .int v6)] 53 [] (L53 v1 v2 v3 v4 v5 v6 S)) (v1 : Int32) (v2 : Int32) (v3 : Int32) (v4 : Int32) (v5 : Int32) (v6 : Int32) (S : St) : VV p l e (rmd d) s m args below meth c D ca tpC a A 9 (QmI D ca tpC a A below args s) S [(0, .ref (a 0)), (1, .int v1), (2, .int v2), (3, .int v3), (4, .int v4), (5, .int v5), (6, .int v6)] 113 [] (c_N_bestFor_b113 L53 v1 v2 v3 v4 v5 v6 S) := by
  unfold c_N_bestFor_b113
  refine V_iincB (pc := 113) h 6 (1 : Int32) (fun x1 => [(6, .int x1), (0, .ref (a 0)), (1, .int v1), (2, .int v2), (3, .int v3), (4, .int v4), (5, .int v5)]) dX10_bestFor_113 rfl (by decide) (by decide) (fun _ => rfl) (fun x1 => ?_)
  refine V_goto (pc := 116) h 53 dX10_bestFor_116 (by decide) ?_
  exact V_ls [1, 2, 3, 4, 5, 6, 0] rfl (hL53 v1 v2 v3 v4 v5 x1 S)
def c_N_bestFor_h53 : Nat → Int32 → Int32 → Int32 → Int32 → Int32 → Int32 → St → Option (Int32 × St)
  | 0, _, _, _, _, _, _, _ => none
  | n + 1, v1, v2, v3, v4, v5, v6, S => (if (5 : Int32) < v6 then (if v3 = 0 then (some (v4, S)) else (some (v5, S))) else (bI (c_N_putByNumber v6 S) (fun x2 S1 => (ckM v1 6 (bnd (up2 S1 42 v1.toNatClampNeg x2) (fun S3 => (bV (c_Noon_run 38 S3) (fun S4 => (bI (c_Noon_mealOf v2 S4) (fun x6 S5 => (if x6 ≤ v5 then (c_N_bestFor_b113 (c_N_bestFor_h53 n) v1 v2 v3 v4 v5 v6 S5) else (c_N_bestFor_b113 (c_N_bestFor_h53 n) v1 v2 v3 x2 x6 v6 S5))))))))))))
set_option maxHeartbeats 4000000 in
set_option maxRecDepth 100000 in
theorem c_N_bestFor_h53_ok {d : Nat} (h : Cx p s m c cX10_bestFor 9 RX10 s0 args0 D ca a A) (hr : meth.sig.returnType = some .int) (hlk : meth.locks = false) (hD : 6 ≤ d) : ∀ (n : Nat) (v1 : Int32) (v2 : Int32) (v3 : Int32) (v4 : Int32) (v5 : Int32) (v6 : Int32) (S : St), VV p l e (rmd d) s m args below meth c D ca tpC a A 9 (QmI D ca tpC a A below args s) S [(0, .ref (a 0)), (1, .int v1), (2, .int v2), (3, .int v3), (4, .int v4), (5, .int v5), (6, .int v6)] 53 [] (c_N_bestFor_h53 n v1 v2 v3 v4 v5 v6 S) := by
  intro n
  induction n with
  | zero => intro v1 v2 v3 v4 v5 v6 S; exact V_none
  | succ n ih =>
    intro v1 v2 v3 v4 v5 v6 S
    unfold c_N_bestFor_h53
    refine V_iload (pc := 53) h 6 dX10_bestFor_53 rfl ?_
    refine V_iconst (pc := 55) (v := 5) h dX10_bestFor_55 (by decide) ?_
    refine V_icmp_gt (pc := 56) h 119 dX10_bestFor_56 (by decide) ?_ ?_
    · refine V_iload_n (pc := 119) h 3 dX10_bestFor_119 rfl rfl ?_
      refine V_if_ne (pc := 120) h 128 dX10_bestFor_120 (by decide) ?_ ?_
      · refine V_iload (pc := 128) h 5 dX10_bestFor_128 rfl ?_
        exact V_iret (pc := 130) h hr hlk dX10_bestFor_130
      · refine V_iload (pc := 123) h 4 dX10_bestFor_123 rfl ?_
        refine V_goto (pc := 125) h 130 dX10_bestFor_125 (by decide) ?_
        exact V_iret (pc := 130) h hr hlk dX10_bestFor_130
    · refine V_iload (pc := 59) h 6 dX10_bestFor_59 rfl ?_
      refine V_callSI (pc := 61) (dy := 1) h [.int v6] [] ms_X10_255 dX10_bestFor_61 rfl rfl (Nat.le_of_ble_eq_true rfl) (Nat.le_trans (by decide) hD) (c_N_putByNumber v6 S) (fun z9 hz9 => c_N_putByNumber_ct h.gg (Nat.le_refl 1) v6 S z9 hz9) (fun x2 S1 => ?_)
      refine V_istore (pc := 64) h [(7, .int x2), (0, .ref (a 0)), (1, .int v1), (2, .int v2), (3, .int v3), (4, .int v4), (5, .int v5), (6, .int v6)] dX10_bestFor_64 (by decide) rfl ?_
      refine V_aload_n (pc := 66) h 1 dX10_bestFor_66 rfl rfl ?_
      refine V_get (pc := 67) h 0 8 (.ref (a 38)) fl_X10_60_X10 oC_0 rfl rfl dX10_bestFor_67 ?_
      refine V_get (pc := 70) h 38 4 (.ref (a 42)) fl_X10_164_X6 oC_38 rfl rfl dX10_bestFor_70 ?_
      refine V_iload_n (pc := 73) h 2 dX10_bestFor_73 rfl rfl ?_
      refine V_iload (pc := 74) h 0 dX10_bestFor_74 rfl ?_
      refine V_iast (pc := 76) h 42 oC_42 dX10_bestFor_76 (fun S3 => ?_)
      refine V_aload_n (pc := 77) h 1 dX10_bestFor_77 rfl rfl ?_
      refine V_get (pc := 78) h 0 12 (.ref (a 111)) fl_X10_82_X10 oC_0 rfl rfl dX10_bestFor_78 ?_
      refine V_aload_n (pc := 81) h 1 dX10_bestFor_81 rfl rfl ?_
      refine V_get (pc := 82) h 0 8 (.ref (a 38)) fl_X10_60_X10 oC_0 rfl rfl dX10_bestFor_82 ?_
      refine V_callVV (pc := 85) (dy := 5) (q := (RX3, TX3, 13)) h [.ref (a 38)] [] 111 mv_X10_195 oC_111 rfl dX10_bestFor_85 rfl rfl (Nat.le_of_ble_eq_true rfl) (Nat.le_trans (by decide) hD) (c_Noon_run 38 S3) (fun z9 hz9 => c_Noon_run_ct h.gg (Nat.le_refl 5) isSt_38 S3 z9 hz9) (fun S4 => ?_)
      refine V_aload_n (pc := 88) h 1 dX10_bestFor_88 rfl rfl ?_
      refine V_get (pc := 89) h 0 12 (.ref (a 111)) fl_X10_82_X10 oC_0 rfl rfl dX10_bestFor_89 ?_
      refine V_iload_n (pc := 92) h 3 dX10_bestFor_92 rfl rfl ?_
      refine V_callVI (pc := 93) (dy := 4) (q := (RX3, TX3, 13)) h [.int v2] [] 111 mv_X10_199 oC_111 rfl dX10_bestFor_93 rfl rfl (Nat.le_of_ble_eq_true rfl) (Nat.le_trans (by decide) hD) (c_Noon_mealOf v2 S4) (fun z9 hz9 => c_Noon_mealOf_ct h.gg (Nat.le_refl 4) v2 S4 z9 hz9) (fun x6 S5 => ?_)
      refine V_istore (pc := 96) h [(8, .int x6), (7, .int x2), (0, .ref (a 0)), (1, .int v1), (2, .int v2), (3, .int v3), (4, .int v4), (5, .int v5), (6, .int v6)] dX10_bestFor_96 (by decide) rfl ?_
      refine V_iload (pc := 98) h 0 dX10_bestFor_98 rfl ?_
      refine V_iload (pc := 100) h 7 dX10_bestFor_100 rfl ?_
      refine V_icmp_le (pc := 102) h 113 dX10_bestFor_102 (by decide) ?_ ?_
      · exact V_ls [2, 3, 4, 5, 6, 7, 8] rfl (c_N_bestFor_b113_ok h hr hlk hD (c_N_bestFor_h53 n) ih v1 v2 v3 v4 v5 v6 S5)
      · refine V_iload (pc := 105) h 0 dX10_bestFor_105 rfl ?_
        refine V_istore (pc := 107) h [(5, .int x6), (8, .int x6), (7, .int x2), (0, .ref (a 0)), (1, .int v1), (2, .int v2), (3, .int v3), (4, .int v4), (6, .int v6)] dX10_bestFor_107 (by decide) rfl ?_
        refine V_iload (pc := 109) h 2 dX10_bestFor_109 rfl ?_
        refine V_istore (pc := 111) h [(4, .int x2), (5, .int x6), (8, .int x6), (7, .int x2), (0, .ref (a 0)), (1, .int v1), (2, .int v2), (3, .int v3), (6, .int v6)] dX10_bestFor_111 (by decide) rfl ?_
        exact V_ls [4, 5, 6, 7, 0, 1, 8] rfl (c_N_bestFor_b113_ok h hr hlk hD (c_N_bestFor_h53 n) ih v1 v2 v3 x2 x6 v6 S5)
def c_N_bestFor (v1 : Int32) (v2 : Int32) (v3 : Int32) (S : St) : Option (Int32 × St) := (bI (c_N_isHouse v1 S) (fun x2 S1 => (if x2 = 0 then (some ((-100000000 : Int32), S1)) else (bI (c_N_isHouse v2 S1) (fun x4 S3 => (if x4 = 0 then (some ((-100000000 : Int32), S3)) else (if v1 = v2 then (some ((-100000000 : Int32), S3)) else (bI (c_N_isChoice v3 S3) (fun x6 S5 => (if x6 = 0 then (some ((-100000000 : Int32), S5)) else (bV (c_State_copy 38 33 S5) (fun S7 => (c_N_bestFor_h53 FU v1 v2 v3 (9 : Int32) (-100000000 : Int32) (0 : Int32) S7)))))))))))))
set_option maxHeartbeats 4000000 in
set_option maxRecDepth 100000 in
theorem c_N_bestFor_ok {d : Nat} (h : Cx p s m c cX10_bestFor 9 RX10 s0 args0 D ca a A) (hr : meth.sig.returnType = some .int) (hlk : meth.locks = false) (hD : 6 ≤ d) (v1 : Int32) (v2 : Int32) (v3 : Int32) (S : St) : VV p l e (rmd d) s m args below meth c D ca tpC a A 9 (QmI D ca tpC a A below args s) S [(0, .ref (a 0)), (1, .int v1), (2, .int v2), (3, .int v3)] 0 [] (c_N_bestFor v1 v2 v3 S) := by
  unfold c_N_bestFor
  refine V_aload_n (pc := 0) h 0 dX10_bestFor_0 rfl rfl ?_
  refine V_iload_n (pc := 1) h 1 dX10_bestFor_1 rfl rfl ?_
  refine V_callVI (pc := 2) (dy := 1) (q := (RX10, TX10, 15)) h [.int v1] [] 0 mv_X10_137 oC_0 rfl dX10_bestFor_2 rfl rfl (Nat.le_of_ble_eq_true rfl) (Nat.le_trans (by decide) hD) (c_N_isHouse v1 S) (fun z9 hz9 => c_N_isHouse_ct h.gg (Nat.le_refl 1) v1 S z9 hz9) (fun x2 S1 => ?_)
  refine V_if_eq (pc := 5) h 28 dX10_bestFor_5 (by decide) ?_ ?_
  · refine V_ldc (pc := 28) (v := -100000000) h dX10_bestFor_28 tw_3_198 ?_
    exact V_iret (pc := 30) h hr hlk dX10_bestFor_30
  · refine V_aload_n (pc := 8) h 0 dX10_bestFor_8 rfl rfl ?_
    refine V_iload_n (pc := 9) h 2 dX10_bestFor_9 rfl rfl ?_
    refine V_callVI (pc := 10) (dy := 1) (q := (RX10, TX10, 15)) h [.int v2] [] 0 mv_X10_137 oC_0 rfl dX10_bestFor_10 rfl rfl (Nat.le_of_ble_eq_true rfl) (Nat.le_trans (by decide) hD) (c_N_isHouse v2 S1) (fun z9 hz9 => c_N_isHouse_ct h.gg (Nat.le_refl 1) v2 S1 z9 hz9) (fun x4 S3 => ?_)
    refine V_if_eq (pc := 13) h 28 dX10_bestFor_13 (by decide) ?_ ?_
    · refine V_ldc (pc := 28) (v := -100000000) h dX10_bestFor_28 tw_3_198 ?_
      exact V_iret (pc := 30) h hr hlk dX10_bestFor_30
    · refine V_iload_n (pc := 16) h 1 dX10_bestFor_16 rfl rfl ?_
      refine V_iload_n (pc := 17) h 2 dX10_bestFor_17 rfl rfl ?_
      refine V_icmp_eq (pc := 18) h 28 dX10_bestFor_18 (by decide) ?_ ?_
      · refine V_ldc (pc := 28) (v := -100000000) h dX10_bestFor_28 tw_3_198 ?_
        exact V_iret (pc := 30) h hr hlk dX10_bestFor_30
      · refine V_iload_n (pc := 21) h 3 dX10_bestFor_21 rfl rfl ?_
        refine V_callSI (pc := 22) (dy := 1) h [.int v3] [] ms_X10_237 dX10_bestFor_22 rfl rfl (Nat.le_of_ble_eq_true rfl) (Nat.le_trans (by decide) hD) (c_N_isChoice v3 S3) (fun z9 hz9 => c_N_isChoice_ct h.gg (Nat.le_refl 1) v3 S3 z9 hz9) (fun x6 S5 => ?_)
        refine V_if_ne (pc := 25) h 31 dX10_bestFor_25 (by decide) ?_ ?_
        · refine V_aload_n (pc := 31) h 0 dX10_bestFor_31 rfl rfl ?_
          refine V_get (pc := 32) h 0 8 (.ref (a 38)) fl_X10_60_X10 oC_0 rfl rfl dX10_bestFor_32 ?_
          refine V_aload_n (pc := 35) h 0 dX10_bestFor_35 rfl rfl ?_
          refine V_get (pc := 36) h 0 7 (.ref (a 33)) fl_X10_56_X10 oC_0 rfl rfl dX10_bestFor_36 ?_
          refine V_callVV (pc := 39) (dy := 1) (q := (RX6, TX6, 5)) h [.ref (a 33)] [] 38 mv_X10_252 oC_38 rfl dX10_bestFor_39 rfl rfl (Nat.le_of_ble_eq_true rfl) (Nat.le_trans (by decide) hD) (c_State_copy 38 33 S5) (fun z9 hz9 => c_State_copy_ct h.gg (Nat.le_refl 1) isSt_38 isSt_33 S5 z9 hz9) (fun S7 => ?_)
          refine V_bipush (pc := 42) (v := 9) h dX10_bestFor_42 (by decide) ?_
          refine V_istore (pc := 44) h [(4, .int (9 : Int32)), (0, .ref (a 0)), (1, .int v1), (2, .int v2), (3, .int v3)] dX10_bestFor_44 (by decide) rfl ?_
          refine V_ldc (pc := 46) (v := -100000000) h dX10_bestFor_46 tw_3_198 ?_
          refine V_istore (pc := 48) h [(5, .int (-100000000 : Int32)), (4, .int (9 : Int32)), (0, .ref (a 0)), (1, .int v1), (2, .int v2), (3, .int v3)] dX10_bestFor_48 (by decide) rfl ?_
          refine V_iconst (pc := 50) (v := 0) h dX10_bestFor_50 (by decide) ?_
          refine V_istore (pc := 51) h [(6, .int (0 : Int32)), (5, .int (-100000000 : Int32)), (4, .int (9 : Int32)), (0, .ref (a 0)), (1, .int v1), (2, .int v2), (3, .int v3)] dX10_bestFor_51 (by decide) rfl ?_
          exact V_ls [3, 4, 5, 6, 2, 1, 0] rfl (c_N_bestFor_h53_ok h hr hlk hD FU v1 v2 v3 (9 : Int32) (-100000000 : Int32) (0 : Int32) S7)
        · refine V_ldc (pc := 28) (v := -100000000) h dX10_bestFor_28 tw_3_198 ?_
          exact V_iret (pc := 30) h hr hlk dX10_bestFor_30
theorem c_N_bestFor_ct {d : Nat} (g : GG s0 args0 D ca a A) (hD : 6 ≤ d) (v1 : Int32) (v2 : Int32) (v3 : Int32) (S : St) (z : Int32 × St) (hz : c_N_bestFor v1 v2 v3 S = some z) : CtI l yX10_bestFor cX10_bestFor 9 .int d s0 D ca tpC a A [.ref (a 0), .int v1, .int v2, .int v3] S z := CtI_mk g (by decide +kernel) (Nat.le_of_ble_eq_true rfl) hz (fun p e s m args below meth c h hr hlk => c_N_bestFor_ok h hr hlk hD v1 v2 v3 S)
def c_Arrays_fill_131_h5 : Nat → Int32 → Int32 → Int32 → St → Option St
  | 0, _, _, _, _ => none
  | n + 1, v1, v2, v3, S => (if v3 ≤ v2 then (some S) else (ckM v2 6 (bnd (up2 S 131 v2.toNatClampNeg v1) (fun S1 => (bnd (v2 + (1 : Int32)) (fun x2 => ((c_Arrays_fill_131_h5 n) v1 x2 v3 S1)))))))
set_option maxHeartbeats 4000000 in
set_option maxRecDepth 100000 in
theorem c_Arrays_fill_131_h5_ok {d : Nat} (h : Cx p s m c cJ7_fill_53178 4 RJ7 s0 args0 D ca a A) (hr : meth.sig.returnType = none) (hlk : meth.locks = false) (hD : 1 ≤ d) : ∀ (n : Nat) (v1 : Int32) (v2 : Int32) (v3 : Int32) (S : St), VV p l e (rmd d) s m args below meth c D ca tpC a A 4 (QmV D ca tpC a A below args s) S [(0, .ref (a 131)), (1, .int v1), (2, .int v2), (3, .int v3)] 5 [] (c_Arrays_fill_131_h5 n v1 v2 v3 S) := by
  intro n
  induction n with
  | zero => intro v1 v2 v3 S; exact V_none
  | succ n ih =>
    intro v1 v2 v3 S
    unfold c_Arrays_fill_131_h5
    refine V_iload_n (pc := 5) h 2 dJ7_fill_53178_5 rfl rfl ?_
    refine V_iload_n (pc := 6) h 3 dJ7_fill_53178_6 rfl rfl ?_
    refine V_icmp_ge (pc := 7) h 20 dJ7_fill_53178_7 (by decide) ?_ ?_
    · exact V_vret (pc := 20) h hr hlk dJ7_fill_53178_20
    · refine V_aload_n (pc := 10) h 0 dJ7_fill_53178_10 rfl rfl ?_
      refine V_iload_n (pc := 11) h 2 dJ7_fill_53178_11 rfl rfl ?_
      refine V_iload_n (pc := 12) h 1 dJ7_fill_53178_12 rfl rfl ?_
      refine V_iast (pc := 13) h 131 oC_131 dJ7_fill_53178_13 (fun S1 => ?_)
      refine V_iincB (pc := 14) h 2 (1 : Int32) (fun x2 => [(2, .int x2), (0, .ref (a 131)), (1, .int v1), (3, .int v3)]) dJ7_fill_53178_14 rfl (by decide) (by decide) (fun _ => rfl) (fun x2 => ?_)
      refine V_goto (pc := 17) h 5 dJ7_fill_53178_17 (by decide) ?_
      exact V_ls [1, 2, 0, 3] rfl (ih v1 x2 v3 S1)
def c_Arrays_fill_131 (v1 : Int32) (S : St) : Option St := (c_Arrays_fill_131_h5 FU v1 (0 : Int32) (6 : Int32) S)
set_option maxHeartbeats 4000000 in
set_option maxRecDepth 100000 in
theorem c_Arrays_fill_131_ok {d : Nat} (h : Cx p s m c cJ7_fill_53178 4 RJ7 s0 args0 D ca a A) (hr : meth.sig.returnType = none) (hlk : meth.locks = false) (hD : 1 ≤ d) (v1 : Int32) (S : St) : VV p l e (rmd d) s m args below meth c D ca tpC a A 4 (QmV D ca tpC a A below args s) S [(0, .ref (a 131)), (1, .int v1)] 0 [] (c_Arrays_fill_131 v1 S) := by
  unfold c_Arrays_fill_131
  refine V_iconst (pc := 0) (v := 0) h dJ7_fill_53178_0 (by decide) ?_
  refine V_istore_n (pc := 1) h [(2, .int (0 : Int32)), (0, .ref (a 131)), (1, .int v1)] dJ7_fill_53178_1 rfl (by decide) rfl ?_
  refine V_aload_n (pc := 2) h 1 dJ7_fill_53178_2 rfl rfl ?_
  refine V_alen (pc := 3) h 131 (6 : Int32) oC_131 (by decide) (by decide) dJ7_fill_53178_3 ?_
  refine V_istore_n (pc := 4) h [(3, .int (6 : Int32)), (2, .int (0 : Int32)), (0, .ref (a 131)), (1, .int v1)] dJ7_fill_53178_4 rfl (by decide) rfl ?_
  exact V_ls [2, 3, 1, 0] rfl (c_Arrays_fill_131_h5_ok h hr hlk hD FU v1 (0 : Int32) (6 : Int32) S)
theorem c_Arrays_fill_131_ct {d : Nat} (g : GG s0 args0 D ca a A) (hD : 1 ≤ d) (v1 : Int32) (S : St) (z : St) (hz : c_Arrays_fill_131 v1 S = some z) : CtV l yJ7_fill_53178 cJ7_fill_53178 4 d s0 D ca tpC a A [.ref (a 131), .int v1] S z := CtV_mk g (by decide +kernel) (Nat.le_of_ble_eq_true rfl) hz (fun p e s m args below meth c h hr hlk => c_Arrays_fill_131_ok h hr hlk hD v1 S)
def c_N_lowestOfTotals_b32 (L4 : Int32 → Int32 → St → Option (Int32 × St)) (v1 : Int32) (v2 : Int32) (S : St) : Option (Int32 × St) := (bnd (v2 + (1 : Int32)) (fun x1 => (L4 v1 x1 S)))
set_option maxHeartbeats 4000000 in
set_option maxRecDepth 100000 in
theorem c_N_lowestOfTotals_b32_ok {d : Nat} (h : Cx p s m c cX10_lowestOfTotals 3 RX10 s0 args0 D ca a A) (hr : meth.sig.returnType = some .int) (hlk : meth.locks = false) (hD : 1 ≤ d) (L4 : Int32 → Int32 → St → Option (Int32 × St)) (hL4 : ∀ (v1 : Int32) (v2 : Int32) (S : St), VV p l e (rmd d) s m args below meth c D ca tpC a A 3 (QmI D ca tpC a A below args s) S [(0, .ref (a 0)), (1, .int v1), (2, .int v2)] 4 [] (L4 v1 v2 S)) (v1 : Int32) (v2 : Int32) (S : St) : VV p l e (rmd d) s m args below meth c D ca tpC a A 3 (QmI D ca tpC a A below args s) S [(0, .ref (a 0)), (1, .int v1), (2, .int v2)] 32 [] (c_N_lowestOfTotals_b32 L4 v1 v2 S) := by
  unfold c_N_lowestOfTotals_b32
  refine V_iincB (pc := 32) h 2 (1 : Int32) (fun x1 => [(2, .int x1), (0, .ref (a 0)), (1, .int v1)]) dX10_lowestOfTotals_32 rfl (by decide) (by decide) (fun _ => rfl) (fun x1 => ?_)
  refine V_goto (pc := 35) h 4 dX10_lowestOfTotals_35 (by decide) ?_
  exact V_ls [1, 2, 0] rfl (hL4 v1 x1 S)
def c_N_lowestOfTotals_h4 : Nat → Int32 → Int32 → St → Option (Int32 × St)
  | 0, _, _, _ => none
  | n + 1, v1, v2, S => (if (S 28 0) ≤ v2 then (some (v1, S)) else (ckM v2 6 (ckM v1 6 (if (S 131 v1.toNatClampNeg) ≤ (S 131 v2.toNatClampNeg) then (c_N_lowestOfTotals_b32 (c_N_lowestOfTotals_h4 n) v1 v2 S) else (c_N_lowestOfTotals_b32 (c_N_lowestOfTotals_h4 n) v2 v2 S)))))
set_option maxHeartbeats 4000000 in
set_option maxRecDepth 100000 in
theorem c_N_lowestOfTotals_h4_ok {d : Nat} (h : Cx p s m c cX10_lowestOfTotals 3 RX10 s0 args0 D ca a A) (hr : meth.sig.returnType = some .int) (hlk : meth.locks = false) (hD : 1 ≤ d) : ∀ (n : Nat) (v1 : Int32) (v2 : Int32) (S : St), VV p l e (rmd d) s m args below meth c D ca tpC a A 3 (QmI D ca tpC a A below args s) S [(0, .ref (a 0)), (1, .int v1), (2, .int v2)] 4 [] (c_N_lowestOfTotals_h4 n v1 v2 S) := by
  intro n
  induction n with
  | zero => intro v1 v2 S; exact V_none
  | succ n ih =>
    intro v1 v2 S
    unfold c_N_lowestOfTotals_h4
    refine V_iload_n (pc := 4) h 2 dX10_lowestOfTotals_4 rfl rfl ?_
    refine V_aload_n (pc := 5) h 0 dX10_lowestOfTotals_5 rfl rfl ?_
    refine V_get (pc := 6) h 0 6 (.ref (a 28)) fl_X10_49_X10 oC_0 rfl rfl dX10_lowestOfTotals_6 ?_
    refine V_get (pc := 9) h 28 0 (.int (S 28 0)) fl_X10_118_X7 oC_28 rfl rfl dX10_lowestOfTotals_9 ?_
    refine V_icmp_ge (pc := 12) h 38 dX10_lowestOfTotals_12 (by decide) ?_ ?_
    · refine V_iload_n (pc := 38) h 1 dX10_lowestOfTotals_38 rfl rfl ?_
      exact V_iret (pc := 39) h hr hlk dX10_lowestOfTotals_39
    · refine V_aload_n (pc := 15) h 0 dX10_lowestOfTotals_15 rfl rfl ?_
      refine V_get (pc := 16) h 0 14 (.ref (a 131)) fl_X10_95_X10 oC_0 rfl rfl dX10_lowestOfTotals_16 ?_
      refine V_iload_n (pc := 19) h 2 dX10_lowestOfTotals_19 rfl rfl ?_
      refine V_iald (pc := 20) h 131 oC_131 dX10_lowestOfTotals_20 ?_
      refine V_aload_n (pc := 21) h 0 dX10_lowestOfTotals_21 rfl rfl ?_
      refine V_get (pc := 22) h 0 14 (.ref (a 131)) fl_X10_95_X10 oC_0 rfl rfl dX10_lowestOfTotals_22 ?_
      refine V_iload_n (pc := 25) h 1 dX10_lowestOfTotals_25 rfl rfl ?_
      refine V_iald (pc := 26) h 131 oC_131 dX10_lowestOfTotals_26 ?_
      refine V_icmp_ge (pc := 27) h 32 dX10_lowestOfTotals_27 (by decide) ?_ ?_
      · exact V_ls [0, 1, 2] rfl (c_N_lowestOfTotals_b32_ok h hr hlk hD (c_N_lowestOfTotals_h4 n) ih v1 v2 S)
      · refine V_iload_n (pc := 30) h 2 dX10_lowestOfTotals_30 rfl rfl ?_
        refine V_istore_n (pc := 31) h [(1, .int v2), (0, .ref (a 0)), (2, .int v2)] dX10_lowestOfTotals_31 rfl (by decide) rfl ?_
        exact V_ls [1, 0, 2] rfl (c_N_lowestOfTotals_b32_ok h hr hlk hD (c_N_lowestOfTotals_h4 n) ih v2 v2 S)
def c_N_lowestOfTotals (S : St) : Option (Int32 × St) := (c_N_lowestOfTotals_h4 FU (0 : Int32) (1 : Int32) S)
set_option maxHeartbeats 4000000 in
set_option maxRecDepth 100000 in
theorem c_N_lowestOfTotals_ok {d : Nat} (h : Cx p s m c cX10_lowestOfTotals 3 RX10 s0 args0 D ca a A) (hr : meth.sig.returnType = some .int) (hlk : meth.locks = false) (hD : 1 ≤ d) (S : St) : VV p l e (rmd d) s m args below meth c D ca tpC a A 3 (QmI D ca tpC a A below args s) S [(0, .ref (a 0))] 0 [] (c_N_lowestOfTotals S) := by
  unfold c_N_lowestOfTotals
  refine V_iconst (pc := 0) (v := 0) h dX10_lowestOfTotals_0 (by decide) ?_
  refine V_istore_n (pc := 1) h [(1, .int (0 : Int32)), (0, .ref (a 0))] dX10_lowestOfTotals_1 rfl (by decide) rfl ?_
  refine V_iconst (pc := 2) (v := 1) h dX10_lowestOfTotals_2 (by decide) ?_
  refine V_istore_n (pc := 3) h [(2, .int (1 : Int32)), (1, .int (0 : Int32)), (0, .ref (a 0))] dX10_lowestOfTotals_3 rfl (by decide) rfl ?_
  exact V_ls [2, 1, 0] rfl (c_N_lowestOfTotals_h4_ok h hr hlk hD FU (0 : Int32) (1 : Int32) S)
theorem c_N_lowestOfTotals_ct {d : Nat} (g : GG s0 args0 D ca a A) (hD : 1 ≤ d) (S : St) (z : Int32 × St) (hz : c_N_lowestOfTotals S = some z) : CtI l yX10_lowestOfTotals cX10_lowestOfTotals 3 .int d s0 D ca tpC a A [.ref (a 0)] S z := CtI_mk g (by decide +kernel) (Nat.le_of_ble_eq_true rfl) hz (fun p e s m args below meth c h hr hlk => c_N_lowestOfTotals_ok h hr hlk hD S)
def c_State_turnOrder_b40 (o0 : Nat) (v1 : Int32) (v2 : Int32) (S : St) : Option St := (bI (c_N_isWithin v1 (1 : Int32) (6 : Int32) S) (fun x2 S1 => (if x2 = 0 then (some S1) else (ckM (v1 - (1 : Int32)) 6 (bnd (up2 S1 (o0 + 3) (v1 - (1 : Int32)).toNatClampNeg v2) (fun S3 => (some S3)))))))
set_option maxHeartbeats 4000000 in
set_option maxRecDepth 100000 in
theorem c_State_turnOrder_b40_ok {d : Nat} (h : Cx p s m c cX6_turnOrder 4 RX6 s0 args0 D ca a A) (hr : meth.sig.returnType = none) (hlk : meth.locks = false) (hD : 2 ≤ d) (o0 : Nat) (ho0 : isSt o0) (v1 : Int32) (v2 : Int32) (S : St) : VV p l e (rmd d) s m args below meth c D ca tpC a A 4 (QmV D ca tpC a A below args s) S [(0, .ref (a o0)), (1, .int v1), (2, .int v2)] 40 [] (c_State_turnOrder_b40 o0 v1 v2 S) := by
  unfold c_State_turnOrder_b40
  refine V_iload_n (pc := 40) h 1 dX6_turnOrder_40 rfl rfl ?_
  refine V_iconst (pc := 41) (v := 1) h dX6_turnOrder_41 (by decide) ?_
  refine V_bipush (pc := 42) (v := 6) h dX6_turnOrder_42 (by decide) ?_
  refine V_callSI (pc := 44) (dy := 1) h [.int v1, .int (1 : Int32), .int (6 : Int32)] [] ms_X6_64 dX6_turnOrder_44 rfl rfl (Nat.le_of_ble_eq_true rfl) (Nat.le_trans (by decide) hD) (c_N_isWithin v1 (1 : Int32) (6 : Int32) S) (fun z9 hz9 => c_N_isWithin_ct h.gg (Nat.le_refl 1) v1 (1 : Int32) (6 : Int32) S z9 hz9) (fun x2 S1 => ?_)
  refine V_if_eq (pc := 47) h 59 dX6_turnOrder_47 (by decide) ?_ ?_
  · exact V_vret (pc := 59) h hr hlk dX6_turnOrder_59
  · refine V_aload_n (pc := 50) h 0 dX6_turnOrder_50 rfl rfl ?_
    refine V_get (pc := 51) h o0 3 (.ref (a (o0 + 3))) fl_X6_18_X6 ho0.1 rfl rfl dX6_turnOrder_51 ?_
    refine V_iload_n (pc := 54) h 1 dX6_turnOrder_54 rfl rfl ?_
    refine V_iconst (pc := 55) (v := 1) h dX6_turnOrder_55 (by decide) ?_
    refine V_isub (pc := 56) h dX6_turnOrder_56 ?_
    refine V_iload_n (pc := 57) h 2 dX6_turnOrder_57 rfl rfl ?_
    refine V_iast (pc := 58) h (o0 + 3) ho0.2.2.2.1 dX6_turnOrder_58 (fun S3 => ?_)
    exact V_vret (pc := 59) h hr hlk dX6_turnOrder_59
def c_State_turnOrder_h9 (o0 : Nat) : Nat → Int32 → Int32 → Int32 → St → Option St
  | 0, _, _, _, _ => none
  | n + 1, v1, v2, v3, S => (if v1 ≤ v3 then (c_State_turnOrder_b40 o0 v1 v2 S) else (if (6 : Int32) ≤ v3 then (c_State_turnOrder_b40 o0 v1 v2 S) else (ckM v3 6 (ckM (v3 - (1 : Int32)) 6 (bnd (up2 S (o0 + 3) (v3 - (1 : Int32)).toNatClampNeg (S (o0 + 3) v3.toNatClampNeg)) (fun S1 => (bnd (v3 + (1 : Int32)) (fun x2 => ((c_State_turnOrder_h9 o0 n) v1 v2 x2 S1)))))))))
set_option maxHeartbeats 4000000 in
set_option maxRecDepth 100000 in
theorem c_State_turnOrder_h9_ok {d : Nat} (h : Cx p s m c cX6_turnOrder 4 RX6 s0 args0 D ca a A) (hr : meth.sig.returnType = none) (hlk : meth.locks = false) (hD : 2 ≤ d) (o0 : Nat) (ho0 : isSt o0) : ∀ (n : Nat) (v1 : Int32) (v2 : Int32) (v3 : Int32) (S : St), VV p l e (rmd d) s m args below meth c D ca tpC a A 4 (QmV D ca tpC a A below args s) S [(0, .ref (a o0)), (1, .int v1), (2, .int v2), (3, .int v3)] 9 [] (c_State_turnOrder_h9 o0 n v1 v2 v3 S) := by
  intro n
  induction n with
  | zero => intro v1 v2 v3 S; exact V_none
  | succ n ih =>
    intro v1 v2 v3 S
    unfold c_State_turnOrder_h9
    refine V_iload_n (pc := 9) h 3 dX6_turnOrder_9 rfl rfl ?_
    refine V_iload_n (pc := 10) h 1 dX6_turnOrder_10 rfl rfl ?_
    refine V_icmp_ge (pc := 11) h 40 dX6_turnOrder_11 (by decide) ?_ ?_
    · exact V_ls [0, 1, 2] rfl (c_State_turnOrder_b40_ok h hr hlk hD o0 ho0 v1 v2 S)
    · refine V_iload_n (pc := 14) h 3 dX6_turnOrder_14 rfl rfl ?_
      refine V_bipush (pc := 15) (v := 6) h dX6_turnOrder_15 (by decide) ?_
      refine V_icmp_ge (pc := 17) h 40 dX6_turnOrder_17 (by decide) ?_ ?_
      · exact V_ls [0, 1, 2] rfl (c_State_turnOrder_b40_ok h hr hlk hD o0 ho0 v1 v2 S)
      · refine V_aload_n (pc := 20) h 0 dX6_turnOrder_20 rfl rfl ?_
        refine V_get (pc := 21) h o0 3 (.ref (a (o0 + 3))) fl_X6_18_X6 ho0.1 rfl rfl dX6_turnOrder_21 ?_
        refine V_iload_n (pc := 24) h 3 dX6_turnOrder_24 rfl rfl ?_
        refine V_iconst (pc := 25) (v := 1) h dX6_turnOrder_25 (by decide) ?_
        refine V_isub (pc := 26) h dX6_turnOrder_26 ?_
        refine V_aload_n (pc := 27) h 0 dX6_turnOrder_27 rfl rfl ?_
        refine V_get (pc := 28) h o0 3 (.ref (a (o0 + 3))) fl_X6_18_X6 ho0.1 rfl rfl dX6_turnOrder_28 ?_
        refine V_iload_n (pc := 31) h 3 dX6_turnOrder_31 rfl rfl ?_
        refine V_iald (pc := 32) h (o0 + 3) ho0.2.2.2.1 dX6_turnOrder_32 ?_
        refine V_iast (pc := 33) h (o0 + 3) ho0.2.2.2.1 dX6_turnOrder_33 (fun S1 => ?_)
        refine V_iincB (pc := 34) h 3 (1 : Int32) (fun x2 => [(3, .int x2), (0, .ref (a o0)), (1, .int v1), (2, .int v2)]) dX6_turnOrder_34 rfl (by decide) (by decide) (fun _ => rfl) (fun x2 => ?_)
        refine V_goto (pc := 37) h 9 dX6_turnOrder_37 (by decide) ?_
        exact V_ls [1, 2, 3, 0] rfl (ih v1 v2 x2 S1)
def c_State_turnOrder (o0 : Nat) (v1 : Int32) (S : St) : Option St := (ckM (0 : Int32) 6 (bnd (S (o0 + 3) (0 : Int32).toNatClampNeg) (fun x1 => (c_State_turnOrder_h9 o0 FU v1 x1 (1 : Int32) S))))
set_option maxHeartbeats 4000000 in
set_option maxRecDepth 100000 in
theorem c_State_turnOrder_ok {d : Nat} (h : Cx p s m c cX6_turnOrder 4 RX6 s0 args0 D ca a A) (hr : meth.sig.returnType = none) (hlk : meth.locks = false) (hD : 2 ≤ d) (o0 : Nat) (ho0 : isSt o0) (v1 : Int32) (S : St) : VV p l e (rmd d) s m args below meth c D ca tpC a A 4 (QmV D ca tpC a A below args s) S [(0, .ref (a o0)), (1, .int v1)] 0 [] (c_State_turnOrder o0 v1 S) := by
  unfold c_State_turnOrder
  refine V_aload_n (pc := 0) h 0 dX6_turnOrder_0 rfl rfl ?_
  refine V_get (pc := 1) h o0 3 (.ref (a (o0 + 3))) fl_X6_18_X6 ho0.1 rfl rfl dX6_turnOrder_1 ?_
  refine V_iconst (pc := 4) (v := 0) h dX6_turnOrder_4 (by decide) ?_
  refine V_iald (pc := 5) h (o0 + 3) ho0.2.2.2.1 dX6_turnOrder_5 ?_
  refine V_top (fun x1 => ?_)
  refine V_istore_n (pc := 6) h [(2, .int x1), (0, .ref (a o0)), (1, .int v1)] dX6_turnOrder_6 rfl (by decide) rfl ?_
  refine V_iconst (pc := 7) (v := 1) h dX6_turnOrder_7 (by decide) ?_
  refine V_istore_n (pc := 8) h [(3, .int (1 : Int32)), (2, .int x1), (0, .ref (a o0)), (1, .int v1)] dX6_turnOrder_8 rfl (by decide) rfl ?_
  exact V_ls [2, 3, 1, 0] rfl (c_State_turnOrder_h9_ok h hr hlk hD o0 ho0 FU v1 x1 (1 : Int32) S)
theorem c_State_turnOrder_ct {d : Nat} (g : GG s0 args0 D ca a A) (hD : 2 ≤ d) {o0 : Nat} (ho0 : isSt o0) (v1 : Int32) (S : St) (z : St) (hz : c_State_turnOrder o0 v1 S = some z) : CtV l yX6_turnOrder cX6_turnOrder 4 d s0 D ca tpC a A [.ref (a o0), .int v1] S z := CtV_mk g (by decide +kernel) (Nat.le_of_ble_eq_true rfl) hz (fun p e s m args below meth c h hr hlk => c_State_turnOrder_ok h hr hlk hD o0 ho0 v1 S)
end GEN
