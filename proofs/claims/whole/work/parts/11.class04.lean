section GEN
variable {p : Program} {l : Launch} {e : Env} {s : State} {m : MethodId} {args : Array Value} {below : List Frame} {meth : Method} {c : Code}
variable {D : va_G} {ca : Nat → ClassId} {tp : List ODt} {a : Nat → Nat} {A : Nat → Prop} {s0 : State} {args0 : Array Value} {t : Nat}
def c_StreetReader_begin_h51 : Nat → Int32 → St → Option St
  | 0, _, _ => none
  | n + 1, v1, S => (if (6 : Int32) ≤ v1 then (some S) else (ckM v1 6 (cpM (0 : Int32) (0 : Int32) (8 : Int32) (roL 2).length 8 (bnd (upR S (6 + v1.toNatClampNeg) (cpy (roV 2) (S (6 + v1.toNatClampNeg)) (0 : Int32).toNatClampNeg (0 : Int32).toNatClampNeg (8 : Int32).toNatClampNeg)) (fun S4 => (bnd (v1 + (1 : Int32)) (fun x5 => ((c_StreetReader_begin_h51 n) x5 S4))))))))
set_option maxHeartbeats 4000000 in
set_option maxRecDepth 100000 in
theorem c_StreetReader_begin_h51_ok {d : Nat} (h : Cx p s m c cX8_begin 2 RX8 s0 args0 D ca a A) (hr : meth.sig.returnType = none) (hlk : meth.locks = false) (hD : 1 ≤ d) : ∀ (n : Nat) (v1 : Int32) (S : St), VV p l e (rmd d) s m args below meth c D ca tpC a A 2 (QmV D ca tpC a A below args s) S [(0, .ref (a 3)), (1, .int v1)] 51 [] (c_StreetReader_begin_h51 n v1 S) := by
  intro n
  induction n with
  | zero => intro v1 S; exact V_none
  | succ n ih =>
    intro v1 S
    unfold c_StreetReader_begin_h51
    refine V_iload_n (pc := 51) h 1 dX8_begin_51 rfl rfl ?_
    refine V_bipush (pc := 52) (v := 6) h dX8_begin_52 (by decide) ?_
    refine V_icmp_ge (pc := 54) h 79 dX8_begin_54 (by decide) ?_ ?_
    · exact V_vret (pc := 79) h hr hlk dX8_begin_79
    · refine V_gets (pc := 57) h 2 (by decide) (Or.inr ⟨_, tw_2_154⟩) dX8_begin_57 ?_
      refine V_iconst (pc := 60) (v := 0) h dX8_begin_60 (by decide) ?_
      refine V_aload_n (pc := 61) h 0 dX8_begin_61 rfl rfl ?_
      refine V_get (pc := 62) h 3 3 (.ref (a 5)) fl_X8_17_X8 oC_3 rfl rfl dX8_begin_62 ?_
      refine V_iload_n (pc := 65) h 1 dX8_begin_65 rfl rfl ?_
      refine V_aald0 (pc := 66) h 5 oC_5 (by decide) dX8_begin_66 (fun h1 h2 => ?_)
      refine V_iconst (pc := 67) (v := 0) h dX8_begin_67 (by decide) ?_
      refine V_bipush (pc := 68) (v := 8) h dX8_begin_68 (by decide) ?_
      refine V_rocopy (pc := 70) h 2 (by decide) (6 + v1.toNatClampNeg) (rC_5 _ h2) dX8_begin_70 tw_2_149 tw_2_151 tw_2_150 tw_1_13 (Nat.le_trans (by decide) hD) (Nat.le_of_ble_eq_true rfl) (fun S4 => ?_)
      refine V_iincB (pc := 73) h 1 (1 : Int32) (fun x5 => [(1, .int x5), (0, .ref (a 3))]) dX8_begin_73 rfl (by decide) (by decide) (fun _ => rfl) (fun x5 => ?_)
      refine V_goto (pc := 76) h 51 dX8_begin_76 (by decide) ?_
      exact V_ls [1, 0] rfl (ih x5 S4)
def c_StreetReader_begin (S : St) : Option St := (bnd (up2 S 3 5 (0 : Int32)) (fun S1 => (bnd (up2 S1 3 6 (0 : Int32)) (fun S2 => (bnd (up2 S2 3 7 (0 : Int32)) (fun S3 => (cpM (0 : Int32) (0 : Int32) (5 : Int32) (roL 0).length 5 (bnd (upR S3 4 (cpy (roV 0) (S3 4) (0 : Int32).toNatClampNeg (0 : Int32).toNatClampNeg (5 : Int32).toNatClampNeg)) (fun S5 => (cpM (0 : Int32) (0 : Int32) (3 : Int32) (roL 1).length 3 (bnd (upR S5 12 (cpy (roV 1) (S5 12) (0 : Int32).toNatClampNeg (0 : Int32).toNatClampNeg (3 : Int32).toNatClampNeg)) (fun S7 => (c_StreetReader_begin_h51 FU (0 : Int32) S7)))))))))))))
set_option maxHeartbeats 4000000 in
set_option maxRecDepth 100000 in
theorem c_StreetReader_begin_ok {d : Nat} (h : Cx p s m c cX8_begin 2 RX8 s0 args0 D ca a A) (hr : meth.sig.returnType = none) (hlk : meth.locks = false) (hD : 1 ≤ d) (S : St) : VV p l e (rmd d) s m args below meth c D ca tpC a A 2 (QmV D ca tpC a A below args s) S [(0, .ref (a 3))] 0 [] (c_StreetReader_begin S) := by
  unfold c_StreetReader_begin
  refine V_aload_n (pc := 0) h 0 dX8_begin_0 rfl rfl ?_
  refine V_iconst (pc := 1) (v := 0) h dX8_begin_1 (by decide) ?_
  refine V_put (pc := 2) h 3 5 (0 : Int32) fp_X8_23_X8 oC_3 rfl rfl rfl rfl dX8_begin_2 (fun S1 => ?_)
  refine V_aload_n (pc := 5) h 0 dX8_begin_5 rfl rfl ?_
  refine V_iconst (pc := 6) (v := 0) h dX8_begin_6 (by decide) ?_
  refine V_put (pc := 7) h 3 6 (0 : Int32) fp_X8_27_X8 oC_3 rfl rfl rfl rfl dX8_begin_7 (fun S2 => ?_)
  refine V_aload_n (pc := 10) h 0 dX8_begin_10 rfl rfl ?_
  refine V_iconst (pc := 11) (v := 0) h dX8_begin_11 (by decide) ?_
  refine V_put (pc := 12) h 3 7 (0 : Int32) fp_X8_31_X8 oC_3 rfl rfl rfl rfl dX8_begin_12 (fun S3 => ?_)
  refine V_gets (pc := 15) h 0 (by decide) (Or.inr ⟨_, tw_2_147⟩) dX8_begin_15 ?_
  refine V_iconst (pc := 18) (v := 0) h dX8_begin_18 (by decide) ?_
  refine V_aload_n (pc := 19) h 0 dX8_begin_19 rfl rfl ?_
  refine V_get (pc := 20) h 3 2 (.ref (a 4)) fl_X8_9_X8 oC_3 rfl rfl dX8_begin_20 ?_
  refine V_iconst (pc := 23) (v := 0) h dX8_begin_23 (by decide) ?_
  refine V_aload_n (pc := 24) h 0 dX8_begin_24 rfl rfl ?_
  refine V_get (pc := 25) h 3 2 (.ref (a 4)) fl_X8_9_X8 oC_3 rfl rfl dX8_begin_25 ?_
  refine V_alen (pc := 28) h 4 (5 : Int32) oC_4 (by decide) (by decide) dX8_begin_28 ?_
  refine V_rocopy (pc := 29) h 0 (by decide) 4 oC_4 dX8_begin_29 tw_2_149 tw_2_151 tw_2_150 tw_1_13 (Nat.le_trans (by decide) hD) (Nat.le_of_ble_eq_true rfl) (fun S5 => ?_)
  refine V_gets (pc := 32) h 1 (by decide) (Or.inr ⟨_, tw_2_152⟩) dX8_begin_32 ?_
  refine V_iconst (pc := 35) (v := 0) h dX8_begin_35 (by decide) ?_
  refine V_aload_n (pc := 36) h 0 dX8_begin_36 rfl rfl ?_
  refine V_get (pc := 37) h 3 4 (.ref (a 12)) fl_X8_20_X8 oC_3 rfl rfl dX8_begin_37 ?_
  refine V_iconst (pc := 40) (v := 0) h dX8_begin_40 (by decide) ?_
  refine V_aload_n (pc := 41) h 0 dX8_begin_41 rfl rfl ?_
  refine V_get (pc := 42) h 3 4 (.ref (a 12)) fl_X8_20_X8 oC_3 rfl rfl dX8_begin_42 ?_
  refine V_alen (pc := 45) h 12 (3 : Int32) oC_12 (by decide) (by decide) dX8_begin_45 ?_
  refine V_rocopy (pc := 46) h 1 (by decide) 12 oC_12 dX8_begin_46 tw_2_149 tw_2_151 tw_2_150 tw_1_13 (Nat.le_trans (by decide) hD) (Nat.le_of_ble_eq_true rfl) (fun S7 => ?_)
  refine V_iconst (pc := 49) (v := 0) h dX8_begin_49 (by decide) ?_
  refine V_istore_n (pc := 50) h [(1, .int (0 : Int32)), (0, .ref (a 3))] dX8_begin_50 rfl (by decide) rfl ?_
  exact V_ls [1, 0] rfl (c_StreetReader_begin_h51_ok h hr hlk hD FU (0 : Int32) S7)
theorem c_StreetReader_begin_ct {d : Nat} (g : GG s0 args0 D ca a A) (hD : 1 ≤ d) (S : St) (z : St) (hz : c_StreetReader_begin S = some z) : CtV l yX8_begin cX8_begin 2 d s0 D ca tpC a A [.ref (a 3)] S z := CtV_mk g (by decide +kernel) (Nat.le_of_ble_eq_true rfl) hz (fun p e s m args below meth c h hr hlk => c_StreetReader_begin_ok h hr hlk hD S)
def c_Reader_next_3_b44 (S : St) : Option (Int32 × St) := (if (S 1 1) ≤ (S 3 1) then (some ((0 : Int32), S)) else (ckM (S 3 1) 160 (some ((S 2 (S 3 1).toNatClampNeg), S))))
set_option maxHeartbeats 4000000 in
set_option maxRecDepth 100000 in
theorem c_Reader_next_3_b44_ok {d : Nat} (h : Cx p s m c cX5_next 1 RX5 s0 args0 D ca a A) (hr : meth.sig.returnType = some .int) (hlk : meth.locks = false) (hD : 1 ≤ d) (S : St) : VV p l e (rmd d) s m args below meth c D ca tpC a A 1 (QmI D ca tpC a A below args s) S [(0, .ref (a 3))] 44 [] (c_Reader_next_3_b44 S) := by
  unfold c_Reader_next_3_b44
  refine V_aload_n (pc := 44) h 0 dX5_next_44 rfl rfl ?_
  refine V_get (pc := 45) h 3 1 (.int (S 3 1)) fl_X5_15_X8 oC_3 rfl rfl dX5_next_45 ?_
  refine V_aload_n (pc := 48) h 0 dX5_next_48 rfl rfl ?_
  refine V_get (pc := 49) h 3 0 (.ref (a 1)) fl_X5_9_X8 oC_3 rfl rfl dX5_next_49 ?_
  refine V_get (pc := 52) h 1 1 (.int (S 1 1)) fl_X5_37_X9 oC_1 rfl rfl dX5_next_52 ?_
  refine V_icmp_ge (pc := 55) h 73 dX5_next_55 (by decide) ?_ ?_
  · refine V_iconst (pc := 73) (v := 0) h dX5_next_73 (by decide) ?_
    exact V_iret (pc := 74) h hr hlk dX5_next_74
  · refine V_aload_n (pc := 58) h 0 dX5_next_58 rfl rfl ?_
    refine V_get (pc := 59) h 3 0 (.ref (a 1)) fl_X5_9_X8 oC_3 rfl rfl dX5_next_59 ?_
    refine V_get (pc := 62) h 1 0 (.ref (a 2)) fl_X5_42_X9 oC_1 rfl rfl dX5_next_62 ?_
    refine V_aload_n (pc := 65) h 0 dX5_next_65 rfl rfl ?_
    refine V_get (pc := 66) h 3 1 (.int (S 3 1)) fl_X5_15_X8 oC_3 rfl rfl dX5_next_66 ?_
    refine V_iald (pc := 69) h 2 oC_2 dX5_next_69 ?_
    refine V_goto (pc := 70) h 74 dX5_next_70 (by decide) ?_
    exact V_iret (pc := 74) h hr hlk dX5_next_74
def c_Reader_next_3_h0 : Nat → St → Option (Int32 × St)
  | 0, _ => none
  | n + 1, S => (if (S 1 1) ≤ (S 3 1) then (c_Reader_next_3_b44 S) else (ckM (S 3 1) 160 (if (S 2 (S 3 1).toNatClampNeg) = (32 : Int32) then (bnd (up2 S 3 1 ((S 3 1) + (1 : Int32))) (fun S1 => ((c_Reader_next_3_h0 n) S1))) else (c_Reader_next_3_b44 S))))
set_option maxHeartbeats 4000000 in
set_option maxRecDepth 100000 in
theorem c_Reader_next_3_h0_ok {d : Nat} (h : Cx p s m c cX5_next 1 RX5 s0 args0 D ca a A) (hr : meth.sig.returnType = some .int) (hlk : meth.locks = false) (hD : 1 ≤ d) : ∀ (n : Nat) (S : St), VV p l e (rmd d) s m args below meth c D ca tpC a A 1 (QmI D ca tpC a A below args s) S [(0, .ref (a 3))] 0 [] (c_Reader_next_3_h0 n S) := by
  intro n
  induction n with
  | zero => intro S; exact V_none
  | succ n ih =>
    intro S
    unfold c_Reader_next_3_h0
    refine V_aload_n (pc := 0) h 0 dX5_next_0 rfl rfl ?_
    refine V_get (pc := 1) h 3 1 (.int (S 3 1)) fl_X5_15_X8 oC_3 rfl rfl dX5_next_1 ?_
    refine V_aload_n (pc := 4) h 0 dX5_next_4 rfl rfl ?_
    refine V_get (pc := 5) h 3 0 (.ref (a 1)) fl_X5_9_X8 oC_3 rfl rfl dX5_next_5 ?_
    refine V_get (pc := 8) h 1 1 (.int (S 1 1)) fl_X5_37_X9 oC_1 rfl rfl dX5_next_8 ?_
    refine V_icmp_ge (pc := 11) h 44 dX5_next_11 (by decide) ?_ ?_
    · exact V_ls [0] rfl (c_Reader_next_3_b44_ok h hr hlk hD S)
    · refine V_aload_n (pc := 14) h 0 dX5_next_14 rfl rfl ?_
      refine V_get (pc := 15) h 3 0 (.ref (a 1)) fl_X5_9_X8 oC_3 rfl rfl dX5_next_15 ?_
      refine V_get (pc := 18) h 1 0 (.ref (a 2)) fl_X5_42_X9 oC_1 rfl rfl dX5_next_18 ?_
      refine V_aload_n (pc := 21) h 0 dX5_next_21 rfl rfl ?_
      refine V_get (pc := 22) h 3 1 (.int (S 3 1)) fl_X5_15_X8 oC_3 rfl rfl dX5_next_22 ?_
      refine V_iald (pc := 25) h 2 oC_2 dX5_next_25 ?_
      refine V_bipush (pc := 26) (v := 32) h dX5_next_26 (by decide) ?_
      refine V_icmp_ne (pc := 28) h 44 dX5_next_28 (by decide) ?_ ?_
      · exact V_ls [0] rfl (c_Reader_next_3_b44_ok h hr hlk hD S)
      · refine V_aload_n (pc := 31) h 0 dX5_next_31 rfl rfl ?_
        refine V_dup (pc := 32) h dX5_next_32 rfl ?_
        refine V_get (pc := 33) h 3 1 (.int (S 3 1)) fl_X5_15_X8 oC_3 rfl rfl dX5_next_33 ?_
        refine V_iconst (pc := 36) (v := 1) h dX5_next_36 (by decide) ?_
        refine V_iadd (pc := 37) h dX5_next_37 ?_
        refine V_put (pc := 38) h 3 1 ((S 3 1) + (1 : Int32)) fp_X5_15_X8 oC_3 rfl rfl rfl rfl dX5_next_38 (fun S1 => ?_)
        refine V_goto (pc := 41) h 0 dX5_next_41 (by decide) ?_
        exact V_ls [0] rfl (ih  S1)
def c_Reader_next_3 (S : St) : Option (Int32 × St) := (c_Reader_next_3_h0 FU S)
set_option maxHeartbeats 4000000 in
set_option maxRecDepth 100000 in
theorem c_Reader_next_3_ok {d : Nat} (h : Cx p s m c cX5_next 1 RX5 s0 args0 D ca a A) (hr : meth.sig.returnType = some .int) (hlk : meth.locks = false) (hD : 1 ≤ d) (S : St) : VV p l e (rmd d) s m args below meth c D ca tpC a A 1 (QmI D ca tpC a A below args s) S [(0, .ref (a 3))] 0 [] (c_Reader_next_3 S) := by
  unfold c_Reader_next_3
  exact V_ls [0] rfl (c_Reader_next_3_h0_ok h hr hlk hD FU S)
theorem c_Reader_next_3_ct {d : Nat} (g : GG s0 args0 D ca a A) (hD : 1 ≤ d) (S : St) (z : Int32 × St) (hz : c_Reader_next_3 S = some z) : CtI l yX5_next cX5_next 1 .int d s0 D ca tpC a A [.ref (a 3)] S z := CtI_mk g (by decide +kernel) (Nat.le_of_ble_eq_true rfl) hz (fun p e s m args below meth c h hr hlk => c_Reader_next_3_ok h hr hlk hD S)
def c_Reader_isAtDigit_3 (S : St) : Option (Int32 × St) := (if (S 1 1) ≤ (S 3 1) then (nzM (0 : Int32) (some ((0 : Int32), S))) else (ckM (S 3 1) 160 (if (S 2 (S 3 1).toNatClampNeg) < (48 : Int32) then (nzM (0 : Int32) (some ((0 : Int32), S))) else (ckM (S 3 1) 160 (if (57 : Int32) < (S 2 (S 3 1).toNatClampNeg) then (nzM (0 : Int32) (some ((0 : Int32), S))) else (nzM (1 : Int32) (some ((1 : Int32), S))))))))
set_option maxHeartbeats 4000000 in
set_option maxRecDepth 100000 in
theorem c_Reader_isAtDigit_3_ok {d : Nat} (h : Cx p s m c cX5_isAtDigit 1 RX5 s0 args0 D ca a A) (hr : meth.sig.returnType = some .boolean) (hlk : meth.locks = false) (hD : 1 ≤ d) (S : St) : VV p l e (rmd d) s m args below meth c D ca tpC a A 1 (QmI D ca tpC a A below args s) S [(0, .ref (a 3))] 0 [] (c_Reader_isAtDigit_3 S) := by
  unfold c_Reader_isAtDigit_3
  refine V_aload_n (pc := 0) h 0 dX5_isAtDigit_0 rfl rfl ?_
  refine V_get (pc := 1) h 3 1 (.int (S 3 1)) fl_X5_15_X8 oC_3 rfl rfl dX5_isAtDigit_1 ?_
  refine V_aload_n (pc := 4) h 0 dX5_isAtDigit_4 rfl rfl ?_
  refine V_get (pc := 5) h 3 0 (.ref (a 1)) fl_X5_9_X8 oC_3 rfl rfl dX5_isAtDigit_5 ?_
  refine V_get (pc := 8) h 1 1 (.int (S 1 1)) fl_X5_37_X9 oC_1 rfl rfl dX5_isAtDigit_8 ?_
  refine V_icmp_ge (pc := 11) h 52 dX5_isAtDigit_11 (by decide) ?_ ?_
  · refine V_iconst (pc := 52) (v := 0) h dX5_isAtDigit_52 (by decide) ?_
    exact V_zret (pc := 53) h hr hlk dX5_isAtDigit_53
  · refine V_aload_n (pc := 14) h 0 dX5_isAtDigit_14 rfl rfl ?_
    refine V_get (pc := 15) h 3 0 (.ref (a 1)) fl_X5_9_X8 oC_3 rfl rfl dX5_isAtDigit_15 ?_
    refine V_get (pc := 18) h 1 0 (.ref (a 2)) fl_X5_42_X9 oC_1 rfl rfl dX5_isAtDigit_18 ?_
    refine V_aload_n (pc := 21) h 0 dX5_isAtDigit_21 rfl rfl ?_
    refine V_get (pc := 22) h 3 1 (.int (S 3 1)) fl_X5_15_X8 oC_3 rfl rfl dX5_isAtDigit_22 ?_
    refine V_iald (pc := 25) h 2 oC_2 dX5_isAtDigit_25 ?_
    refine V_bipush (pc := 26) (v := 48) h dX5_isAtDigit_26 (by decide) ?_
    refine V_icmp_lt (pc := 28) h 52 dX5_isAtDigit_28 (by decide) ?_ ?_
    · refine V_iconst (pc := 52) (v := 0) h dX5_isAtDigit_52 (by decide) ?_
      exact V_zret (pc := 53) h hr hlk dX5_isAtDigit_53
    · refine V_aload_n (pc := 31) h 0 dX5_isAtDigit_31 rfl rfl ?_
      refine V_get (pc := 32) h 3 0 (.ref (a 1)) fl_X5_9_X8 oC_3 rfl rfl dX5_isAtDigit_32 ?_
      refine V_get (pc := 35) h 1 0 (.ref (a 2)) fl_X5_42_X9 oC_1 rfl rfl dX5_isAtDigit_35 ?_
      refine V_aload_n (pc := 38) h 0 dX5_isAtDigit_38 rfl rfl ?_
      refine V_get (pc := 39) h 3 1 (.int (S 3 1)) fl_X5_15_X8 oC_3 rfl rfl dX5_isAtDigit_39 ?_
      refine V_iald (pc := 42) h 2 oC_2 dX5_isAtDigit_42 ?_
      refine V_bipush (pc := 43) (v := 57) h dX5_isAtDigit_43 (by decide) ?_
      refine V_icmp_gt (pc := 45) h 52 dX5_isAtDigit_45 (by decide) ?_ ?_
      · refine V_iconst (pc := 52) (v := 0) h dX5_isAtDigit_52 (by decide) ?_
        exact V_zret (pc := 53) h hr hlk dX5_isAtDigit_53
      · refine V_iconst (pc := 48) (v := 1) h dX5_isAtDigit_48 (by decide) ?_
        refine V_goto (pc := 49) h 53 dX5_isAtDigit_49 (by decide) ?_
        exact V_zret (pc := 53) h hr hlk dX5_isAtDigit_53
theorem c_Reader_isAtDigit_3_ct {d : Nat} (g : GG s0 args0 D ca a A) (hD : 1 ≤ d) (S : St) (z : Int32 × St) (hz : c_Reader_isAtDigit_3 S = some z) : CtI l yX5_isAtDigit cX5_isAtDigit 1 .boolean d s0 D ca tpC a A [.ref (a 3)] S z := CtI_mk g (by decide +kernel) (Nat.le_of_ble_eq_true rfl) hz (fun p e s m args below meth c h hr hlk => c_Reader_isAtDigit_3_ok h hr hlk hD S)
def c_Reader_number_3_b62 (v2 : Int32) (S : St) : Option (Int32 × St) := (bI (c_Reader_isAtDigit_3 S) (fun x2 S1 => (if x2 = 0 then (some (v2, S1)) else (some ((-1 : Int32), S1)))))
set_option maxHeartbeats 4000000 in
set_option maxRecDepth 100000 in
theorem c_Reader_number_3_b62_ok {d : Nat} (h : Cx p s m c cX5_number 4 RX5 s0 args0 D ca a A) (hr : meth.sig.returnType = some .int) (hlk : meth.locks = false) (hD : 2 ≤ d) (v2 : Int32) (S : St) : VV p l e (rmd d) s m args below meth c D ca tpC a A 4 (QmI D ca tpC a A below args s) S [(0, .ref (a 3)), (2, .int v2)] 62 [] (c_Reader_number_3_b62 v2 S) := by
  unfold c_Reader_number_3_b62
  refine V_aload_n (pc := 62) h 0 dX5_number_62 rfl rfl ?_
  refine V_callUI (pc := 63) (dy := 1) (q := (RX8, TX8, 8)) h [] [] 3 mu_X5_46_X8 oC_3 rfl dX5_number_63 rfl rfl (Nat.le_of_ble_eq_true rfl) (Nat.le_trans (by decide) hD) (c_Reader_isAtDigit_3 S) (fun z9 hz9 => c_Reader_isAtDigit_3_ct h.gg (Nat.le_refl 1) S z9 hz9) (fun x2 S1 => ?_)
  refine V_if_eq (pc := 66) h 73 dX5_number_66 (by decide) ?_ ?_
  · refine V_iload_n (pc := 73) h 1 dX5_number_73 rfl rfl ?_
    exact V_iret (pc := 74) h hr hlk dX5_number_74
  · refine V_iconst (pc := 69) (v := -1) h dX5_number_69 (by decide) ?_
    refine V_goto (pc := 70) h 74 dX5_number_70 (by decide) ?_
    exact V_iret (pc := 74) h hr hlk dX5_number_74
def c_Reader_number_3_h13 : Nat → Int32 → Int32 → Int32 → St → Option (Int32 × St)
  | 0, _, _, _, _ => none
  | n + 1, v1, v2, v3, S => (if v1 ≤ v3 then (c_Reader_number_3_b62 v2 S) else (bI (c_Reader_isAtDigit_3 S) (fun x2 S1 => (if x2 = 0 then (c_Reader_number_3_b62 v2 S1) else (ckM (S1 3 1) 160 (bnd (((v2 * (10 : Int32)) + (S1 2 (S1 3 1).toNatClampNeg)) - (48 : Int32)) (fun x3 => (bnd (up2 S1 3 1 ((S1 3 1) + (1 : Int32))) (fun S4 => (bnd (v3 + (1 : Int32)) (fun x5 => ((c_Reader_number_3_h13 n) v1 x3 x5 S4))))))))))))
set_option maxHeartbeats 4000000 in
set_option maxRecDepth 100000 in
theorem c_Reader_number_3_h13_ok {d : Nat} (h : Cx p s m c cX5_number 4 RX5 s0 args0 D ca a A) (hr : meth.sig.returnType = some .int) (hlk : meth.locks = false) (hD : 2 ≤ d) : ∀ (n : Nat) (v1 : Int32) (v2 : Int32) (v3 : Int32) (S : St), VV p l e (rmd d) s m args below meth c D ca tpC a A 4 (QmI D ca tpC a A below args s) S [(0, .ref (a 3)), (1, .int v1), (2, .int v2), (3, .int v3)] 13 [] (c_Reader_number_3_h13 n v1 v2 v3 S) := by
  intro n
  induction n with
  | zero => intro v1 v2 v3 S; exact V_none
  | succ n ih =>
    intro v1 v2 v3 S
    unfold c_Reader_number_3_h13
    refine V_iload_n (pc := 13) h 3 dX5_number_13 rfl rfl ?_
    refine V_iload_n (pc := 14) h 1 dX5_number_14 rfl rfl ?_
    refine V_icmp_ge (pc := 15) h 62 dX5_number_15 (by decide) ?_ ?_
    · exact V_ls [0, 2] rfl (c_Reader_number_3_b62_ok h hr hlk hD v2 S)
    · refine V_aload_n (pc := 18) h 0 dX5_number_18 rfl rfl ?_
      refine V_callUI (pc := 19) (dy := 1) (q := (RX8, TX8, 8)) h [] [] 3 mu_X5_46_X8 oC_3 rfl dX5_number_19 rfl rfl (Nat.le_of_ble_eq_true rfl) (Nat.le_trans (by decide) hD) (c_Reader_isAtDigit_3 S) (fun z9 hz9 => c_Reader_isAtDigit_3_ct h.gg (Nat.le_refl 1) S z9 hz9) (fun x2 S1 => ?_)
      refine V_if_eq (pc := 22) h 62 dX5_number_22 (by decide) ?_ ?_
      · exact V_ls [0, 2] rfl (c_Reader_number_3_b62_ok h hr hlk hD v2 S1)
      · refine V_iload_n (pc := 25) h 2 dX5_number_25 rfl rfl ?_
        refine V_bipush (pc := 26) (v := 10) h dX5_number_26 (by decide) ?_
        refine V_imul (pc := 28) h dX5_number_28 ?_
        refine V_aload_n (pc := 29) h 0 dX5_number_29 rfl rfl ?_
        refine V_get (pc := 30) h 3 0 (.ref (a 1)) fl_X5_9_X8 oC_3 rfl rfl dX5_number_30 ?_
        refine V_get (pc := 33) h 1 0 (.ref (a 2)) fl_X5_42_X9 oC_1 rfl rfl dX5_number_33 ?_
        refine V_aload_n (pc := 36) h 0 dX5_number_36 rfl rfl ?_
        refine V_get (pc := 37) h 3 1 (.int (S1 3 1)) fl_X5_15_X8 oC_3 rfl rfl dX5_number_37 ?_
        refine V_iald (pc := 40) h 2 oC_2 dX5_number_40 ?_
        refine V_iadd (pc := 41) h dX5_number_41 ?_
        refine V_bipush (pc := 42) (v := 48) h dX5_number_42 (by decide) ?_
        refine V_isub (pc := 44) h dX5_number_44 ?_
        refine V_top (fun x3 => ?_)
        refine V_istore_n (pc := 45) h [(2, .int x3), (0, .ref (a 3)), (1, .int v1), (3, .int v3)] dX5_number_45 rfl (by decide) rfl ?_
        refine V_aload_n (pc := 46) h 1 dX5_number_46 rfl rfl ?_
        refine V_dup (pc := 47) h dX5_number_47 rfl ?_
        refine V_get (pc := 48) h 3 1 (.int (S1 3 1)) fl_X5_15_X8 oC_3 rfl rfl dX5_number_48 ?_
        refine V_iconst (pc := 51) (v := 1) h dX5_number_51 (by decide) ?_
        refine V_iadd (pc := 52) h dX5_number_52 ?_
        refine V_put (pc := 53) h 3 1 ((S1 3 1) + (1 : Int32)) fp_X5_15_X8 oC_3 rfl rfl rfl rfl dX5_number_53 (fun S4 => ?_)
        refine V_iincB (pc := 56) h 3 (1 : Int32) (fun x5 => [(3, .int x5), (2, .int x3), (0, .ref (a 3)), (1, .int v1)]) dX5_number_56 rfl (by decide) (by decide) (fun _ => rfl) (fun x5 => ?_)
        refine V_goto (pc := 59) h 13 dX5_number_59 (by decide) ?_
        exact V_ls [2, 3, 1, 0] rfl (ih v1 x3 x5 S4)
def c_Reader_number_3 (v1 : Int32) (S : St) : Option (Int32 × St) := (bI (c_Reader_isAtDigit_3 S) (fun x2 S1 => (if x2 = 0 then (some ((-1 : Int32), S1)) else (c_Reader_number_3_h13 FU v1 (0 : Int32) (0 : Int32) S1))))
set_option maxHeartbeats 4000000 in
set_option maxRecDepth 100000 in
theorem c_Reader_number_3_ok {d : Nat} (h : Cx p s m c cX5_number 4 RX5 s0 args0 D ca a A) (hr : meth.sig.returnType = some .int) (hlk : meth.locks = false) (hD : 2 ≤ d) (v1 : Int32) (S : St) : VV p l e (rmd d) s m args below meth c D ca tpC a A 4 (QmI D ca tpC a A below args s) S [(0, .ref (a 3)), (1, .int v1)] 0 [] (c_Reader_number_3 v1 S) := by
  unfold c_Reader_number_3
  refine V_aload_n (pc := 0) h 0 dX5_number_0 rfl rfl ?_
  refine V_callUI (pc := 1) (dy := 1) (q := (RX8, TX8, 8)) h [] [] 3 mu_X5_46_X8 oC_3 rfl dX5_number_1 rfl rfl (Nat.le_of_ble_eq_true rfl) (Nat.le_trans (by decide) hD) (c_Reader_isAtDigit_3 S) (fun z9 hz9 => c_Reader_isAtDigit_3_ct h.gg (Nat.le_refl 1) S z9 hz9) (fun x2 S1 => ?_)
  refine V_if_ne (pc := 4) h 9 dX5_number_4 (by decide) ?_ ?_
  · refine V_iconst (pc := 9) (v := 0) h dX5_number_9 (by decide) ?_
    refine V_istore_n (pc := 10) h [(2, .int (0 : Int32)), (0, .ref (a 3)), (1, .int v1)] dX5_number_10 rfl (by decide) rfl ?_
    refine V_iconst (pc := 11) (v := 0) h dX5_number_11 (by decide) ?_
    refine V_istore_n (pc := 12) h [(3, .int (0 : Int32)), (2, .int (0 : Int32)), (0, .ref (a 3)), (1, .int v1)] dX5_number_12 rfl (by decide) rfl ?_
    exact V_ls [2, 3, 1, 0] rfl (c_Reader_number_3_h13_ok h hr hlk hD FU v1 (0 : Int32) (0 : Int32) S1)
  · refine V_iconst (pc := 7) (v := -1) h dX5_number_7 (by decide) ?_
    exact V_iret (pc := 8) h hr hlk dX5_number_8
theorem c_Reader_number_3_ct {d : Nat} (g : GG s0 args0 D ca a A) (hD : 2 ≤ d) (v1 : Int32) (S : St) (z : Int32 × St) (hz : c_Reader_number_3 v1 S = some z) : CtI l yX5_number cX5_number 4 .int d s0 D ca tpC a A [.ref (a 3), .int v1] S z := CtI_mk g (by decide +kernel) (Nat.le_of_ble_eq_true rfl) hz (fun p e s m args below meth c h hr hlk => c_Reader_number_3_ok h hr hlk hD v1 S)
def c_N_isWithin (v0 : Int32) (v1 : Int32) (v2 : Int32) (S : St) : Option (Int32 × St) := (if v0 < v1 then (nzM (0 : Int32) (some ((0 : Int32), S))) else (if v2 < v0 then (nzM (0 : Int32) (some ((0 : Int32), S))) else (nzM (1 : Int32) (some ((1 : Int32), S)))))
set_option maxHeartbeats 4000000 in
set_option maxRecDepth 100000 in
theorem c_N_isWithin_ok {d : Nat} (h : Cx p s m c cX10_isWithin 3 RX10 s0 args0 D ca a A) (hr : meth.sig.returnType = some .boolean) (hlk : meth.locks = false) (hD : 1 ≤ d) (v0 : Int32) (v1 : Int32) (v2 : Int32) (S : St) : VV p l e (rmd d) s m args below meth c D ca tpC a A 3 (QmI D ca tpC a A below args s) S [(0, .int v0), (1, .int v1), (2, .int v2)] 0 [] (c_N_isWithin v0 v1 v2 S) := by
  unfold c_N_isWithin
  refine V_iload_n (pc := 0) h 0 dX10_isWithin_0 rfl rfl ?_
  refine V_iload_n (pc := 1) h 1 dX10_isWithin_1 rfl rfl ?_
  refine V_icmp_lt (pc := 2) h 14 dX10_isWithin_2 (by decide) ?_ ?_
  · refine V_iconst (pc := 14) (v := 0) h dX10_isWithin_14 (by decide) ?_
    exact V_zret (pc := 15) h hr hlk dX10_isWithin_15
  · refine V_iload_n (pc := 5) h 0 dX10_isWithin_5 rfl rfl ?_
    refine V_iload_n (pc := 6) h 2 dX10_isWithin_6 rfl rfl ?_
    refine V_icmp_gt (pc := 7) h 14 dX10_isWithin_7 (by decide) ?_ ?_
    · refine V_iconst (pc := 14) (v := 0) h dX10_isWithin_14 (by decide) ?_
      exact V_zret (pc := 15) h hr hlk dX10_isWithin_15
    · refine V_iconst (pc := 10) (v := 1) h dX10_isWithin_10 (by decide) ?_
      refine V_goto (pc := 11) h 15 dX10_isWithin_11 (by decide) ?_
      exact V_zret (pc := 15) h hr hlk dX10_isWithin_15
theorem c_N_isWithin_ct {d : Nat} (g : GG s0 args0 D ca a A) (hD : 1 ≤ d) (v0 : Int32) (v1 : Int32) (v2 : Int32) (S : St) (z : Int32 × St) (hz : c_N_isWithin v0 v1 v2 S = some z) : CtI l yX10_isWithin cX10_isWithin 3 .boolean d s0 D ca tpC a A [.int v0, .int v1, .int v2] S z := CtI_mk g (by decide +kernel) (Nat.le_of_ble_eq_true rfl) hz (fun p e s m args below meth c h hr hlk => c_N_isWithin_ok h hr hlk hD v0 v1 v2 S)
def c_StreetReader_readItems_200p1_n5_300p3_300p4_h6 (o2 : Nat) : Nat → Int32 → Int32 → St → Option (Int32 × St)
  | 0, _, _, _ => none
  | n + 1, v5, v6, S => (bI (j_String_length_8abf5 1 S) (fun x2 S1 => (if x2 < v6 then (nzM (1 : Int32) (some ((1 : Int32), S1))) else (bI (c_Reader_next_3 S1) (fun x4 S3 => (bI (j_String_indexOf_0f7a4 1 ((x4.toUInt32 % 65536).toInt32) S3) (fun x6 S5 => (if x6 < 0 then (nzM (1 : Int32) (some ((1 : Int32), S5))) else (if (5 : Int32) ≤ x6 then (nzM (1 : Int32) (some ((1 : Int32), S5))) else (if (5 : Int32) ≤ x6 then (nzM (1 : Int32) (some ((1 : Int32), S5))) else (if x6 < (5 : Int32) then (if ((v5 >>> (x6 &&& 31)) &&& (1 : Int32)) = (1 : Int32) then (nzM (0 : Int32) (some ((0 : Int32), S5))) else (bnd (v5 ||| ((1 : Int32) <<< (x6 &&& 31))) (fun x7 => (bnd (up2 S5 3 1 ((S5 3 1) + (1 : Int32))) (fun S8 => (bI (c_Reader_next_3 S8) (fun x10 S9 => (bI (c_Reader_number_3 (2 : Int32) S9) (fun x12 S11 => (if x12 = (-1 : Int32) then (nzM (0 : Int32) (some ((0 : Int32), S11))) else (ckM x6 (roL 3).length (ckM x6 (roL 4).length (bI (c_N_isWithin x12 (roV 3 x6.toNatClampNeg) (roV 4 x6.toNatClampNeg) S11) (fun x14 S13 => (if x14 = 0 then (bnd (up2 S13 3 1 ((S13 3 1) - (1 : Int32))) (fun S17 => (nzM (0 : Int32) (some ((0 : Int32), S17))))) else (ckM x6 5 (bnd (up2 S13 o2 x6.toNatClampNeg x12) (fun S15 => (bnd (v6 + (1 : Int32)) (fun x16 => ((c_StreetReader_readItems_200p1_n5_300p3_300p4_h6 o2 n) x7 x16 S15))))))))))))))))))))) else (nzM (1 : Int32) (some ((1 : Int32), S5))))))))))))))
set_option maxHeartbeats 4000000 in
set_option maxRecDepth 100000 in
theorem c_StreetReader_readItems_200p1_n5_300p3_300p4_h6_ok {d : Nat} (h : Cx p s m c cX8_readItems 9 RX8 s0 args0 D ca a A) (hr : meth.sig.returnType = some .boolean) (hlk : meth.locks = false) (hD : 5 ≤ d) (o2 : Nat) (ho2 : tpC[o2]? = some (.inr (0, 5, 0))) : ∀ (n : Nat) (v5 : Int32) (v6 : Int32) (S : St), VV p l e (rmd d) s m args below meth c D ca tpC a A 9 (QmI D ca tpC a A below args s) S [(0, .ref (a 3)), (1, .ref (a (200 + 1))), (2, .ref (a o2)), (3, .ref (a (300 + 3))), (4, .ref (a (300 + 4))), (5, .int v5), (6, .int v6)] 6 [] (c_StreetReader_readItems_200p1_n5_300p3_300p4_h6 o2 n v5 v6 S) := by
  intro n
  induction n with
  | zero => intro v5 v6 S; exact V_none
  | succ n ih =>
    intro v5 v6 S
    unfold c_StreetReader_readItems_200p1_n5_300p3_300p4_h6
    refine V_iload (pc := 6) h 6 dX8_readItems_6 rfl ?_
    refine V_aload_n (pc := 8) h 1 dX8_readItems_8 rfl rfl ?_
    refine V_callOI (pc := 9) (dy := 2) h [] [.int v6] 1 (by decide) mv_X8_84 dX8_readItems_9 rfl rfl (Nat.le_of_ble_eq_true rfl) (Nat.le_trans (by decide) hD) (j_String_length_8abf5 1 S) (fun z9 hz9 => j_String_length_8abf5_ct h.gg (Nat.le_refl 2) (by decide) S z9 hz9) (fun x2 S1 => ?_)
    refine V_icmp_gt (pc := 12) h 148 dX8_readItems_12 (by decide) ?_ ?_
    · refine V_iconst (pc := 148) (v := 1) h dX8_readItems_148 (by decide) ?_
      exact V_zret (pc := 149) h hr hlk dX8_readItems_149
    · refine V_aload_n (pc := 15) h 1 dX8_readItems_15 rfl rfl ?_
      refine V_aload_n (pc := 16) h 0 dX8_readItems_16 rfl rfl ?_
      refine V_callUI (pc := 17) (dy := 1) (q := (RX8, TX8, 8)) h [] [.ref (a (200 + 1))] 3 mu_X8_49_X8 oC_3 rfl dX8_readItems_17 rfl rfl (Nat.le_of_ble_eq_true rfl) (Nat.le_trans (by decide) hD) (c_Reader_next_3 S1) (fun z9 hz9 => c_Reader_next_3_ct h.gg (Nat.le_refl 1) S1 z9 hz9) (fun x4 S3 => ?_)
      refine V_i2c (pc := 20) h dX8_readItems_20 ?_
      refine V_callOI (pc := 21) (dy := 4) h [.int ((x4.toUInt32 % 65536).toInt32)] [] 1 (by decide) mv_X8_89 dX8_readItems_21 rfl rfl (Nat.le_of_ble_eq_true rfl) (Nat.le_trans (by decide) hD) (j_String_indexOf_0f7a4 1 ((x4.toUInt32 % 65536).toInt32) S3) (fun z9 hz9 => j_String_indexOf_0f7a4_ct h.gg (Nat.le_refl 4) (by decide) ((x4.toUInt32 % 65536).toInt32) S3 z9 hz9) (fun x6 S5 => ?_)
      refine V_istore (pc := 24) h [(7, .int x6), (0, .ref (a 3)), (1, .ref (a (200 + 1))), (2, .ref (a o2)), (3, .ref (a (300 + 3))), (4, .ref (a (300 + 4))), (5, .int v5), (6, .int v6)] dX8_readItems_24 (by decide) rfl ?_
      refine V_iload (pc := 26) h 0 dX8_readItems_26 rfl ?_
      refine V_if_lt (pc := 28) h 53 dX8_readItems_28 (by decide) ?_ ?_
      · refine V_iconst (pc := 53) (v := 1) h dX8_readItems_53 (by decide) ?_
        exact V_zret (pc := 54) h hr hlk dX8_readItems_54
      · refine V_iload (pc := 31) h 0 dX8_readItems_31 rfl ?_
        refine V_aload_n (pc := 33) h 3 dX8_readItems_33 rfl rfl ?_
        refine V_alen (pc := 34) h o2 (5 : Int32) ho2 (by decide) (by decide) dX8_readItems_34 ?_
        refine V_icmp_ge (pc := 35) h 53 dX8_readItems_35 (by decide) ?_ ?_
        · refine V_iconst (pc := 53) (v := 1) h dX8_readItems_53 (by decide) ?_
          exact V_zret (pc := 54) h hr hlk dX8_readItems_54
        · refine V_iload (pc := 38) h 0 dX8_readItems_38 rfl ?_
          refine V_aload_n (pc := 40) h 4 dX8_readItems_40 rfl rfl ?_
          refine V_rolen (pc := 41) h 3 (by decide) (5 : Int32) (by decide) dX8_readItems_41 ?_
          refine V_icmp_ge (pc := 42) h 53 dX8_readItems_42 (by decide) ?_ ?_
          · refine V_iconst (pc := 53) (v := 1) h dX8_readItems_53 (by decide) ?_
            exact V_zret (pc := 54) h hr hlk dX8_readItems_54
          · refine V_iload (pc := 45) h 0 dX8_readItems_45 rfl ?_
            refine V_aload (pc := 47) h 5 dX8_readItems_47 rfl ?_
            refine V_rolen (pc := 49) h 4 (by decide) (5 : Int32) (by decide) dX8_readItems_49 ?_
            refine V_icmp_lt (pc := 50) h 55 dX8_readItems_50 (by decide) ?_ ?_
            · refine V_iload (pc := 55) h 6 dX8_readItems_55 rfl ?_
              refine V_iload (pc := 57) h 0 dX8_readItems_57 rfl ?_
              refine V_ishr (pc := 59) h dX8_readItems_59 ?_
              refine V_iconst (pc := 60) (v := 1) h dX8_readItems_60 (by decide) ?_
              refine V_iand (pc := 61) h dX8_readItems_61 ?_
              refine V_iconst (pc := 62) (v := 1) h dX8_readItems_62 (by decide) ?_
              refine V_icmp_ne (pc := 63) h 68 dX8_readItems_63 (by decide) ?_ ?_
              · refine V_iload (pc := 68) h 6 dX8_readItems_68 rfl ?_
                refine V_iconst (pc := 70) (v := 1) h dX8_readItems_70 (by decide) ?_
                refine V_iload (pc := 71) h 0 dX8_readItems_71 rfl ?_
                refine V_ishl (pc := 73) h dX8_readItems_73 ?_
                refine V_ior (pc := 74) h dX8_readItems_74 ?_
                refine V_top (fun x7 => ?_)
                refine V_istore (pc := 75) h [(5, .int x7), (7, .int x6), (0, .ref (a 3)), (1, .ref (a (200 + 1))), (2, .ref (a o2)), (3, .ref (a (300 + 3))), (4, .ref (a (300 + 4))), (6, .int v6)] dX8_readItems_75 (by decide) rfl ?_
                refine V_aload_n (pc := 77) h 2 dX8_readItems_77 rfl rfl ?_
                refine V_dup (pc := 78) h dX8_readItems_78 rfl ?_
                refine V_get (pc := 79) h 3 1 (.int (S5 3 1)) fl_X8_53_X8 oC_3 rfl rfl dX8_readItems_79 ?_
                refine V_iconst (pc := 82) (v := 1) h dX8_readItems_82 (by decide) ?_
                refine V_iadd (pc := 83) h dX8_readItems_83 ?_
                refine V_put (pc := 84) h 3 1 ((S5 3 1) + (1 : Int32)) fp_X8_53_X8 oC_3 rfl rfl rfl rfl dX8_readItems_84 (fun S8 => ?_)
                refine V_aload_n (pc := 87) h 2 dX8_readItems_87 rfl rfl ?_
                refine V_callUI (pc := 88) (dy := 1) (q := (RX8, TX8, 8)) h [] [] 3 mu_X8_49_X8 oC_3 rfl dX8_readItems_88 rfl rfl (Nat.le_of_ble_eq_true rfl) (Nat.le_trans (by decide) hD) (c_Reader_next_3 S8) (fun z9 hz9 => c_Reader_next_3_ct h.gg (Nat.le_refl 1) S8 z9 hz9) (fun x10 S9 => ?_)
                refine V_pop (pc := 91) h dX8_readItems_91 rfl ?_
                refine V_aload_n (pc := 92) h 2 dX8_readItems_92 rfl rfl ?_
                refine V_iconst (pc := 93) (v := 2) h dX8_readItems_93 (by decide) ?_
                refine V_callUI (pc := 94) (dy := 2) (q := (RX8, TX8, 8)) h [.int (2 : Int32)] [] 3 mu_X8_93_X8 oC_3 rfl dX8_readItems_94 rfl rfl (Nat.le_of_ble_eq_true rfl) (Nat.le_trans (by decide) hD) (c_Reader_number_3 (2 : Int32) S9) (fun z9 hz9 => c_Reader_number_3_ct h.gg (Nat.le_refl 2) (2 : Int32) S9 z9 hz9) (fun x12 S11 => ?_)
                refine V_istore (pc := 97) h [(8, .int x12), (5, .int x7), (7, .int x6), (0, .ref (a 3)), (1, .ref (a (200 + 1))), (2, .ref (a o2)), (3, .ref (a (300 + 3))), (4, .ref (a (300 + 4))), (6, .int v6)] dX8_readItems_97 (by decide) rfl ?_
                refine V_iload (pc := 99) h 0 dX8_readItems_99 rfl ?_
                refine V_iconst (pc := 101) (v := -1) h dX8_readItems_101 (by decide) ?_
                refine V_icmp_ne (pc := 102) h 107 dX8_readItems_102 (by decide) ?_ ?_
                · refine V_iload (pc := 107) h 0 dX8_readItems_107 rfl ?_
                  refine V_aload_n (pc := 109) h 6 dX8_readItems_109 rfl rfl ?_
                  refine V_iload (pc := 110) h 2 dX8_readItems_110 rfl ?_
                  refine V_roald (pc := 112) h 3 (by decide) dX8_readItems_112 ?_
                  refine V_aload (pc := 113) h 7 dX8_readItems_113 rfl ?_
                  refine V_iload (pc := 115) h 2 dX8_readItems_115 rfl ?_
                  refine V_roald (pc := 117) h 4 (by decide) dX8_readItems_117 ?_
                  refine V_callSI (pc := 118) (dy := 1) h [.int x12, .int (roV 3 x6.toNatClampNeg), .int (roV 4 x6.toNatClampNeg)] [] ms_X8_96 dX8_readItems_118 rfl rfl (Nat.le_of_ble_eq_true rfl) (Nat.le_trans (by decide) hD) (c_N_isWithin x12 (roV 3 x6.toNatClampNeg) (roV 4 x6.toNatClampNeg) S11) (fun z9 hz9 => c_N_isWithin_ct h.gg (Nat.le_refl 1) x12 (roV 3 x6.toNatClampNeg) (roV 4 x6.toNatClampNeg) S11 z9 hz9) (fun x14 S13 => ?_)
                  refine V_if_ne (pc := 121) h 136 dX8_readItems_121 (by decide) ?_ ?_
                  · refine V_aload_n (pc := 136) h 5 dX8_readItems_136 rfl rfl ?_
                    refine V_iload (pc := 137) h 2 dX8_readItems_137 rfl ?_
                    refine V_iload (pc := 139) h 0 dX8_readItems_139 rfl ?_
                    refine V_iast (pc := 141) h o2 ho2 dX8_readItems_141 (fun S15 => ?_)
                    refine V_iincB (pc := 142) h 8 (1 : Int32) (fun x16 => [(6, .int x16), (8, .int x12), (5, .int x7), (7, .int x6), (0, .ref (a 3)), (1, .ref (a (200 + 1))), (2, .ref (a o2)), (3, .ref (a (300 + 3))), (4, .ref (a (300 + 4)))]) dX8_readItems_142 rfl (by decide) (by decide) (fun _ => rfl) (fun x16 => ?_)
                    refine V_goto (pc := 145) h 6 dX8_readItems_145 (by decide) ?_
                    exact V_ls [4, 5, 6, 7, 8, 2, 0] rfl (ih x7 x16 S15)
                  · refine V_aload_n (pc := 124) h 3 dX8_readItems_124 rfl rfl ?_
                    refine V_dup (pc := 125) h dX8_readItems_125 rfl ?_
                    refine V_get (pc := 126) h 3 1 (.int (S13 3 1)) fl_X8_53_X8 oC_3 rfl rfl dX8_readItems_126 ?_
                    refine V_iconst (pc := 129) (v := 1) h dX8_readItems_129 (by decide) ?_
                    refine V_isub (pc := 130) h dX8_readItems_130 ?_
                    refine V_put (pc := 131) h 3 1 ((S13 3 1) - (1 : Int32)) fp_X8_53_X8 oC_3 rfl rfl rfl rfl dX8_readItems_131 (fun S17 => ?_)
                    refine V_iconst (pc := 134) (v := 0) h dX8_readItems_134 (by decide) ?_
                    exact V_zret (pc := 135) h hr hlk dX8_readItems_135
                · refine V_iconst (pc := 105) (v := 0) h dX8_readItems_105 (by decide) ?_
                  exact V_zret (pc := 106) h hr hlk dX8_readItems_106
              · refine V_iconst (pc := 66) (v := 0) h dX8_readItems_66 (by decide) ?_
                exact V_zret (pc := 67) h hr hlk dX8_readItems_67
            · refine V_iconst (pc := 53) (v := 1) h dX8_readItems_53 (by decide) ?_
              exact V_zret (pc := 54) h hr hlk dX8_readItems_54
def c_StreetReader_readItems_200p1_n5_300p3_300p4 (o2 : Nat) (S : St) : Option (Int32 × St) := (c_StreetReader_readItems_200p1_n5_300p3_300p4_h6 o2 FU (0 : Int32) (0 : Int32) S)
set_option maxHeartbeats 4000000 in
set_option maxRecDepth 100000 in
theorem c_StreetReader_readItems_200p1_n5_300p3_300p4_ok {d : Nat} (h : Cx p s m c cX8_readItems 9 RX8 s0 args0 D ca a A) (hr : meth.sig.returnType = some .boolean) (hlk : meth.locks = false) (hD : 5 ≤ d) (o2 : Nat) (ho2 : tpC[o2]? = some (.inr (0, 5, 0))) (S : St) : VV p l e (rmd d) s m args below meth c D ca tpC a A 9 (QmI D ca tpC a A below args s) S [(0, .ref (a 3)), (1, .ref (a (200 + 1))), (2, .ref (a o2)), (3, .ref (a (300 + 3))), (4, .ref (a (300 + 4)))] 0 [] (c_StreetReader_readItems_200p1_n5_300p3_300p4 o2 S) := by
  unfold c_StreetReader_readItems_200p1_n5_300p3_300p4
  refine V_iconst (pc := 0) (v := 0) h dX8_readItems_0 (by decide) ?_
  refine V_istore (pc := 1) h [(5, .int (0 : Int32)), (0, .ref (a 3)), (1, .ref (a (200 + 1))), (2, .ref (a o2)), (3, .ref (a (300 + 3))), (4, .ref (a (300 + 4)))] dX8_readItems_1 (by decide) rfl ?_
  refine V_iconst (pc := 3) (v := 0) h dX8_readItems_3 (by decide) ?_
  refine V_istore (pc := 4) h [(6, .int (0 : Int32)), (5, .int (0 : Int32)), (0, .ref (a 3)), (1, .ref (a (200 + 1))), (2, .ref (a o2)), (3, .ref (a (300 + 3))), (4, .ref (a (300 + 4)))] dX8_readItems_4 (by decide) rfl ?_
  exact V_ls [2, 3, 4, 5, 6, 1, 0] rfl (c_StreetReader_readItems_200p1_n5_300p3_300p4_h6_ok h hr hlk hD o2 ho2 FU (0 : Int32) (0 : Int32) S)
theorem c_StreetReader_readItems_200p1_n5_300p3_300p4_ct {d : Nat} (g : GG s0 args0 D ca a A) (hD : 5 ≤ d) {o2 : Nat} (ho2 : tpC[o2]? = some (.inr (0, 5, 0))) (S : St) (z : Int32 × St) (hz : c_StreetReader_readItems_200p1_n5_300p3_300p4 o2 S = some z) : CtI l yX8_readItems cX8_readItems 9 .boolean d s0 D ca tpC a A [.ref (a 3), .ref (a (200 + 1)), .ref (a o2), .ref (a (300 + 3)), .ref (a (300 + 4))] S z := CtI_mk g (by decide +kernel) (Nat.le_of_ble_eq_true rfl) hz (fun p e s m args below meth c h hr hlk => c_StreetReader_readItems_200p1_n5_300p3_300p4_ok h hr hlk hD o2 ho2 S)
def c_StreetReader_readItems_200p2_n8_300p5_300p6_h6 (o2 : Nat) : Nat → Int32 → Int32 → St → Option (Int32 × St)
  | 0, _, _, _ => none
  | n + 1, v5, v6, S => (bI (j_String_length_8abf5 2 S) (fun x2 S1 => (if x2 < v6 then (nzM (1 : Int32) (some ((1 : Int32), S1))) else (bI (c_Reader_next_3 S1) (fun x4 S3 => (bI (j_String_indexOf_0f7a4 2 ((x4.toUInt32 % 65536).toInt32) S3) (fun x6 S5 => (if x6 < 0 then (nzM (1 : Int32) (some ((1 : Int32), S5))) else (if (8 : Int32) ≤ x6 then (nzM (1 : Int32) (some ((1 : Int32), S5))) else (if (8 : Int32) ≤ x6 then (nzM (1 : Int32) (some ((1 : Int32), S5))) else (if x6 < (8 : Int32) then (if ((v5 >>> (x6 &&& 31)) &&& (1 : Int32)) = (1 : Int32) then (nzM (0 : Int32) (some ((0 : Int32), S5))) else (bnd (v5 ||| ((1 : Int32) <<< (x6 &&& 31))) (fun x7 => (bnd (up2 S5 3 1 ((S5 3 1) + (1 : Int32))) (fun S8 => (bI (c_Reader_next_3 S8) (fun x10 S9 => (bI (c_Reader_number_3 (2 : Int32) S9) (fun x12 S11 => (if x12 = (-1 : Int32) then (nzM (0 : Int32) (some ((0 : Int32), S11))) else (ckM x6 (roL 5).length (ckM x6 (roL 6).length (bI (c_N_isWithin x12 (roV 5 x6.toNatClampNeg) (roV 6 x6.toNatClampNeg) S11) (fun x14 S13 => (if x14 = 0 then (bnd (up2 S13 3 1 ((S13 3 1) - (1 : Int32))) (fun S17 => (nzM (0 : Int32) (some ((0 : Int32), S17))))) else (ckM x6 8 (bnd (up2 S13 o2 x6.toNatClampNeg x12) (fun S15 => (bnd (v6 + (1 : Int32)) (fun x16 => ((c_StreetReader_readItems_200p2_n8_300p5_300p6_h6 o2 n) x7 x16 S15))))))))))))))))))))) else (nzM (1 : Int32) (some ((1 : Int32), S5))))))))))))))
set_option maxHeartbeats 4000000 in
set_option maxRecDepth 100000 in
theorem c_StreetReader_readItems_200p2_n8_300p5_300p6_h6_ok {d : Nat} (h : Cx p s m c cX8_readItems 9 RX8 s0 args0 D ca a A) (hr : meth.sig.returnType = some .boolean) (hlk : meth.locks = false) (hD : 5 ≤ d) (o2 : Nat) (ho2 : tpC[o2]? = some (.inr (0, 8, 0))) : ∀ (n : Nat) (v5 : Int32) (v6 : Int32) (S : St), VV p l e (rmd d) s m args below meth c D ca tpC a A 9 (QmI D ca tpC a A below args s) S [(0, .ref (a 3)), (1, .ref (a (200 + 2))), (2, .ref (a o2)), (3, .ref (a (300 + 5))), (4, .ref (a (300 + 6))), (5, .int v5), (6, .int v6)] 6 [] (c_StreetReader_readItems_200p2_n8_300p5_300p6_h6 o2 n v5 v6 S) := by
  intro n
  induction n with
  | zero => intro v5 v6 S; exact V_none
  | succ n ih =>
    intro v5 v6 S
    unfold c_StreetReader_readItems_200p2_n8_300p5_300p6_h6
    refine V_iload (pc := 6) h 6 dX8_readItems_6 rfl ?_
    refine V_aload_n (pc := 8) h 1 dX8_readItems_8 rfl rfl ?_
    refine V_callOI (pc := 9) (dy := 2) h [] [.int v6] 2 (by decide) mv_X8_84 dX8_readItems_9 rfl rfl (Nat.le_of_ble_eq_true rfl) (Nat.le_trans (by decide) hD) (j_String_length_8abf5 2 S) (fun z9 hz9 => j_String_length_8abf5_ct h.gg (Nat.le_refl 2) (by decide) S z9 hz9) (fun x2 S1 => ?_)
    refine V_icmp_gt (pc := 12) h 148 dX8_readItems_12 (by decide) ?_ ?_
    · refine V_iconst (pc := 148) (v := 1) h dX8_readItems_148 (by decide) ?_
      exact V_zret (pc := 149) h hr hlk dX8_readItems_149
    · refine V_aload_n (pc := 15) h 1 dX8_readItems_15 rfl rfl ?_
      refine V_aload_n (pc := 16) h 0 dX8_readItems_16 rfl rfl ?_
      refine V_callUI (pc := 17) (dy := 1) (q := (RX8, TX8, 8)) h [] [.ref (a (200 + 2))] 3 mu_X8_49_X8 oC_3 rfl dX8_readItems_17 rfl rfl (Nat.le_of_ble_eq_true rfl) (Nat.le_trans (by decide) hD) (c_Reader_next_3 S1) (fun z9 hz9 => c_Reader_next_3_ct h.gg (Nat.le_refl 1) S1 z9 hz9) (fun x4 S3 => ?_)
      refine V_i2c (pc := 20) h dX8_readItems_20 ?_
      refine V_callOI (pc := 21) (dy := 4) h [.int ((x4.toUInt32 % 65536).toInt32)] [] 2 (by decide) mv_X8_89 dX8_readItems_21 rfl rfl (Nat.le_of_ble_eq_true rfl) (Nat.le_trans (by decide) hD) (j_String_indexOf_0f7a4 2 ((x4.toUInt32 % 65536).toInt32) S3) (fun z9 hz9 => j_String_indexOf_0f7a4_ct h.gg (Nat.le_refl 4) (by decide) ((x4.toUInt32 % 65536).toInt32) S3 z9 hz9) (fun x6 S5 => ?_)
      refine V_istore (pc := 24) h [(7, .int x6), (0, .ref (a 3)), (1, .ref (a (200 + 2))), (2, .ref (a o2)), (3, .ref (a (300 + 5))), (4, .ref (a (300 + 6))), (5, .int v5), (6, .int v6)] dX8_readItems_24 (by decide) rfl ?_
      refine V_iload (pc := 26) h 0 dX8_readItems_26 rfl ?_
      refine V_if_lt (pc := 28) h 53 dX8_readItems_28 (by decide) ?_ ?_
      · refine V_iconst (pc := 53) (v := 1) h dX8_readItems_53 (by decide) ?_
        exact V_zret (pc := 54) h hr hlk dX8_readItems_54
      · refine V_iload (pc := 31) h 0 dX8_readItems_31 rfl ?_
        refine V_aload_n (pc := 33) h 3 dX8_readItems_33 rfl rfl ?_
        refine V_alen (pc := 34) h o2 (8 : Int32) ho2 (by decide) (by decide) dX8_readItems_34 ?_
        refine V_icmp_ge (pc := 35) h 53 dX8_readItems_35 (by decide) ?_ ?_
        · refine V_iconst (pc := 53) (v := 1) h dX8_readItems_53 (by decide) ?_
          exact V_zret (pc := 54) h hr hlk dX8_readItems_54
        · refine V_iload (pc := 38) h 0 dX8_readItems_38 rfl ?_
          refine V_aload_n (pc := 40) h 4 dX8_readItems_40 rfl rfl ?_
          refine V_rolen (pc := 41) h 5 (by decide) (8 : Int32) (by decide) dX8_readItems_41 ?_
          refine V_icmp_ge (pc := 42) h 53 dX8_readItems_42 (by decide) ?_ ?_
          · refine V_iconst (pc := 53) (v := 1) h dX8_readItems_53 (by decide) ?_
            exact V_zret (pc := 54) h hr hlk dX8_readItems_54
          · refine V_iload (pc := 45) h 0 dX8_readItems_45 rfl ?_
            refine V_aload (pc := 47) h 5 dX8_readItems_47 rfl ?_
            refine V_rolen (pc := 49) h 6 (by decide) (8 : Int32) (by decide) dX8_readItems_49 ?_
            refine V_icmp_lt (pc := 50) h 55 dX8_readItems_50 (by decide) ?_ ?_
            · refine V_iload (pc := 55) h 6 dX8_readItems_55 rfl ?_
              refine V_iload (pc := 57) h 0 dX8_readItems_57 rfl ?_
              refine V_ishr (pc := 59) h dX8_readItems_59 ?_
              refine V_iconst (pc := 60) (v := 1) h dX8_readItems_60 (by decide) ?_
              refine V_iand (pc := 61) h dX8_readItems_61 ?_
              refine V_iconst (pc := 62) (v := 1) h dX8_readItems_62 (by decide) ?_
              refine V_icmp_ne (pc := 63) h 68 dX8_readItems_63 (by decide) ?_ ?_
              · refine V_iload (pc := 68) h 6 dX8_readItems_68 rfl ?_
                refine V_iconst (pc := 70) (v := 1) h dX8_readItems_70 (by decide) ?_
                refine V_iload (pc := 71) h 0 dX8_readItems_71 rfl ?_
                refine V_ishl (pc := 73) h dX8_readItems_73 ?_
                refine V_ior (pc := 74) h dX8_readItems_74 ?_
                refine V_top (fun x7 => ?_)
                refine V_istore (pc := 75) h [(5, .int x7), (7, .int x6), (0, .ref (a 3)), (1, .ref (a (200 + 2))), (2, .ref (a o2)), (3, .ref (a (300 + 5))), (4, .ref (a (300 + 6))), (6, .int v6)] dX8_readItems_75 (by decide) rfl ?_
                refine V_aload_n (pc := 77) h 2 dX8_readItems_77 rfl rfl ?_
                refine V_dup (pc := 78) h dX8_readItems_78 rfl ?_
                refine V_get (pc := 79) h 3 1 (.int (S5 3 1)) fl_X8_53_X8 oC_3 rfl rfl dX8_readItems_79 ?_
                refine V_iconst (pc := 82) (v := 1) h dX8_readItems_82 (by decide) ?_
                refine V_iadd (pc := 83) h dX8_readItems_83 ?_
                refine V_put (pc := 84) h 3 1 ((S5 3 1) + (1 : Int32)) fp_X8_53_X8 oC_3 rfl rfl rfl rfl dX8_readItems_84 (fun S8 => ?_)
                refine V_aload_n (pc := 87) h 2 dX8_readItems_87 rfl rfl ?_
                refine V_callUI (pc := 88) (dy := 1) (q := (RX8, TX8, 8)) h [] [] 3 mu_X8_49_X8 oC_3 rfl dX8_readItems_88 rfl rfl (Nat.le_of_ble_eq_true rfl) (Nat.le_trans (by decide) hD) (c_Reader_next_3 S8) (fun z9 hz9 => c_Reader_next_3_ct h.gg (Nat.le_refl 1) S8 z9 hz9) (fun x10 S9 => ?_)
                refine V_pop (pc := 91) h dX8_readItems_91 rfl ?_
                refine V_aload_n (pc := 92) h 2 dX8_readItems_92 rfl rfl ?_
                refine V_iconst (pc := 93) (v := 2) h dX8_readItems_93 (by decide) ?_
                refine V_callUI (pc := 94) (dy := 2) (q := (RX8, TX8, 8)) h [.int (2 : Int32)] [] 3 mu_X8_93_X8 oC_3 rfl dX8_readItems_94 rfl rfl (Nat.le_of_ble_eq_true rfl) (Nat.le_trans (by decide) hD) (c_Reader_number_3 (2 : Int32) S9) (fun z9 hz9 => c_Reader_number_3_ct h.gg (Nat.le_refl 2) (2 : Int32) S9 z9 hz9) (fun x12 S11 => ?_)
                refine V_istore (pc := 97) h [(8, .int x12), (5, .int x7), (7, .int x6), (0, .ref (a 3)), (1, .ref (a (200 + 2))), (2, .ref (a o2)), (3, .ref (a (300 + 5))), (4, .ref (a (300 + 6))), (6, .int v6)] dX8_readItems_97 (by decide) rfl ?_
                refine V_iload (pc := 99) h 0 dX8_readItems_99 rfl ?_
                refine V_iconst (pc := 101) (v := -1) h dX8_readItems_101 (by decide) ?_
                refine V_icmp_ne (pc := 102) h 107 dX8_readItems_102 (by decide) ?_ ?_
                · refine V_iload (pc := 107) h 0 dX8_readItems_107 rfl ?_
                  refine V_aload_n (pc := 109) h 6 dX8_readItems_109 rfl rfl ?_
                  refine V_iload (pc := 110) h 2 dX8_readItems_110 rfl ?_
                  refine V_roald (pc := 112) h 5 (by decide) dX8_readItems_112 ?_
                  refine V_aload (pc := 113) h 7 dX8_readItems_113 rfl ?_
                  refine V_iload (pc := 115) h 2 dX8_readItems_115 rfl ?_
                  refine V_roald (pc := 117) h 6 (by decide) dX8_readItems_117 ?_
                  refine V_callSI (pc := 118) (dy := 1) h [.int x12, .int (roV 5 x6.toNatClampNeg), .int (roV 6 x6.toNatClampNeg)] [] ms_X8_96 dX8_readItems_118 rfl rfl (Nat.le_of_ble_eq_true rfl) (Nat.le_trans (by decide) hD) (c_N_isWithin x12 (roV 5 x6.toNatClampNeg) (roV 6 x6.toNatClampNeg) S11) (fun z9 hz9 => c_N_isWithin_ct h.gg (Nat.le_refl 1) x12 (roV 5 x6.toNatClampNeg) (roV 6 x6.toNatClampNeg) S11 z9 hz9) (fun x14 S13 => ?_)
                  refine V_if_ne (pc := 121) h 136 dX8_readItems_121 (by decide) ?_ ?_
                  · refine V_aload_n (pc := 136) h 5 dX8_readItems_136 rfl rfl ?_
                    refine V_iload (pc := 137) h 2 dX8_readItems_137 rfl ?_
                    refine V_iload (pc := 139) h 0 dX8_readItems_139 rfl ?_
                    refine V_iast (pc := 141) h o2 ho2 dX8_readItems_141 (fun S15 => ?_)
                    refine V_iincB (pc := 142) h 8 (1 : Int32) (fun x16 => [(6, .int x16), (8, .int x12), (5, .int x7), (7, .int x6), (0, .ref (a 3)), (1, .ref (a (200 + 2))), (2, .ref (a o2)), (3, .ref (a (300 + 5))), (4, .ref (a (300 + 6)))]) dX8_readItems_142 rfl (by decide) (by decide) (fun _ => rfl) (fun x16 => ?_)
                    refine V_goto (pc := 145) h 6 dX8_readItems_145 (by decide) ?_
                    exact V_ls [4, 5, 6, 7, 8, 2, 0] rfl (ih x7 x16 S15)
                  · refine V_aload_n (pc := 124) h 3 dX8_readItems_124 rfl rfl ?_
                    refine V_dup (pc := 125) h dX8_readItems_125 rfl ?_
                    refine V_get (pc := 126) h 3 1 (.int (S13 3 1)) fl_X8_53_X8 oC_3 rfl rfl dX8_readItems_126 ?_
                    refine V_iconst (pc := 129) (v := 1) h dX8_readItems_129 (by decide) ?_
                    refine V_isub (pc := 130) h dX8_readItems_130 ?_
                    refine V_put (pc := 131) h 3 1 ((S13 3 1) - (1 : Int32)) fp_X8_53_X8 oC_3 rfl rfl rfl rfl dX8_readItems_131 (fun S17 => ?_)
                    refine V_iconst (pc := 134) (v := 0) h dX8_readItems_134 (by decide) ?_
                    exact V_zret (pc := 135) h hr hlk dX8_readItems_135
                · refine V_iconst (pc := 105) (v := 0) h dX8_readItems_105 (by decide) ?_
                  exact V_zret (pc := 106) h hr hlk dX8_readItems_106
              · refine V_iconst (pc := 66) (v := 0) h dX8_readItems_66 (by decide) ?_
                exact V_zret (pc := 67) h hr hlk dX8_readItems_67
            · refine V_iconst (pc := 53) (v := 1) h dX8_readItems_53 (by decide) ?_
              exact V_zret (pc := 54) h hr hlk dX8_readItems_54
def c_StreetReader_readItems_200p2_n8_300p5_300p6 (o2 : Nat) (S : St) : Option (Int32 × St) := (c_StreetReader_readItems_200p2_n8_300p5_300p6_h6 o2 FU (0 : Int32) (0 : Int32) S)
set_option maxHeartbeats 4000000 in
set_option maxRecDepth 100000 in
theorem c_StreetReader_readItems_200p2_n8_300p5_300p6_ok {d : Nat} (h : Cx p s m c cX8_readItems 9 RX8 s0 args0 D ca a A) (hr : meth.sig.returnType = some .boolean) (hlk : meth.locks = false) (hD : 5 ≤ d) (o2 : Nat) (ho2 : tpC[o2]? = some (.inr (0, 8, 0))) (S : St) : VV p l e (rmd d) s m args below meth c D ca tpC a A 9 (QmI D ca tpC a A below args s) S [(0, .ref (a 3)), (1, .ref (a (200 + 2))), (2, .ref (a o2)), (3, .ref (a (300 + 5))), (4, .ref (a (300 + 6)))] 0 [] (c_StreetReader_readItems_200p2_n8_300p5_300p6 o2 S) := by
  unfold c_StreetReader_readItems_200p2_n8_300p5_300p6
  refine V_iconst (pc := 0) (v := 0) h dX8_readItems_0 (by decide) ?_
  refine V_istore (pc := 1) h [(5, .int (0 : Int32)), (0, .ref (a 3)), (1, .ref (a (200 + 2))), (2, .ref (a o2)), (3, .ref (a (300 + 5))), (4, .ref (a (300 + 6)))] dX8_readItems_1 (by decide) rfl ?_
  refine V_iconst (pc := 3) (v := 0) h dX8_readItems_3 (by decide) ?_
  refine V_istore (pc := 4) h [(6, .int (0 : Int32)), (5, .int (0 : Int32)), (0, .ref (a 3)), (1, .ref (a (200 + 2))), (2, .ref (a o2)), (3, .ref (a (300 + 5))), (4, .ref (a (300 + 6)))] dX8_readItems_4 (by decide) rfl ?_
  exact V_ls [2, 3, 4, 5, 6, 1, 0] rfl (c_StreetReader_readItems_200p2_n8_300p5_300p6_h6_ok h hr hlk hD o2 ho2 FU (0 : Int32) (0 : Int32) S)
theorem c_StreetReader_readItems_200p2_n8_300p5_300p6_ct {d : Nat} (g : GG s0 args0 D ca a A) (hD : 5 ≤ d) {o2 : Nat} (ho2 : tpC[o2]? = some (.inr (0, 8, 0))) (S : St) (z : Int32 × St) (hz : c_StreetReader_readItems_200p2_n8_300p5_300p6 o2 S = some z) : CtI l yX8_readItems cX8_readItems 9 .boolean d s0 D ca tpC a A [.ref (a 3), .ref (a (200 + 2)), .ref (a o2), .ref (a (300 + 5)), .ref (a (300 + 6))] S z := CtI_mk g (by decide +kernel) (Nat.le_of_ble_eq_true rfl) hz (fun p e s m args below meth c h hr hlk => c_StreetReader_readItems_200p2_n8_300p5_300p6_ok h hr hlk hD o2 ho2 S)
def c_StreetReader_readItems_200p3_n3_300p7_300p8_h6 (o2 : Nat) : Nat → Int32 → Int32 → St → Option (Int32 × St)
  | 0, _, _, _ => none
  | n + 1, v5, v6, S => (bI (j_String_length_8abf5 3 S) (fun x2 S1 => (if x2 < v6 then (nzM (1 : Int32) (some ((1 : Int32), S1))) else (bI (c_Reader_next_3 S1) (fun x4 S3 => (bI (j_String_indexOf_0f7a4 3 ((x4.toUInt32 % 65536).toInt32) S3) (fun x6 S5 => (if x6 < 0 then (nzM (1 : Int32) (some ((1 : Int32), S5))) else (if (3 : Int32) ≤ x6 then (nzM (1 : Int32) (some ((1 : Int32), S5))) else (if (3 : Int32) ≤ x6 then (nzM (1 : Int32) (some ((1 : Int32), S5))) else (if x6 < (3 : Int32) then (if ((v5 >>> (x6 &&& 31)) &&& (1 : Int32)) = (1 : Int32) then (nzM (0 : Int32) (some ((0 : Int32), S5))) else (bnd (v5 ||| ((1 : Int32) <<< (x6 &&& 31))) (fun x7 => (bnd (up2 S5 3 1 ((S5 3 1) + (1 : Int32))) (fun S8 => (bI (c_Reader_next_3 S8) (fun x10 S9 => (bI (c_Reader_number_3 (2 : Int32) S9) (fun x12 S11 => (if x12 = (-1 : Int32) then (nzM (0 : Int32) (some ((0 : Int32), S11))) else (ckM x6 (roL 7).length (ckM x6 (roL 8).length (bI (c_N_isWithin x12 (roV 7 x6.toNatClampNeg) (roV 8 x6.toNatClampNeg) S11) (fun x14 S13 => (if x14 = 0 then (bnd (up2 S13 3 1 ((S13 3 1) - (1 : Int32))) (fun S17 => (nzM (0 : Int32) (some ((0 : Int32), S17))))) else (ckM x6 3 (bnd (up2 S13 o2 x6.toNatClampNeg x12) (fun S15 => (bnd (v6 + (1 : Int32)) (fun x16 => ((c_StreetReader_readItems_200p3_n3_300p7_300p8_h6 o2 n) x7 x16 S15))))))))))))))))))))) else (nzM (1 : Int32) (some ((1 : Int32), S5))))))))))))))
set_option maxHeartbeats 4000000 in
set_option maxRecDepth 100000 in
theorem c_StreetReader_readItems_200p3_n3_300p7_300p8_h6_ok {d : Nat} (h : Cx p s m c cX8_readItems 9 RX8 s0 args0 D ca a A) (hr : meth.sig.returnType = some .boolean) (hlk : meth.locks = false) (hD : 5 ≤ d) (o2 : Nat) (ho2 : tpC[o2]? = some (.inr (0, 3, 0))) : ∀ (n : Nat) (v5 : Int32) (v6 : Int32) (S : St), VV p l e (rmd d) s m args below meth c D ca tpC a A 9 (QmI D ca tpC a A below args s) S [(0, .ref (a 3)), (1, .ref (a (200 + 3))), (2, .ref (a o2)), (3, .ref (a (300 + 7))), (4, .ref (a (300 + 8))), (5, .int v5), (6, .int v6)] 6 [] (c_StreetReader_readItems_200p3_n3_300p7_300p8_h6 o2 n v5 v6 S) := by
  intro n
  induction n with
  | zero => intro v5 v6 S; exact V_none
  | succ n ih =>
    intro v5 v6 S
    unfold c_StreetReader_readItems_200p3_n3_300p7_300p8_h6
    refine V_iload (pc := 6) h 6 dX8_readItems_6 rfl ?_
    refine V_aload_n (pc := 8) h 1 dX8_readItems_8 rfl rfl ?_
    refine V_callOI (pc := 9) (dy := 2) h [] [.int v6] 3 (by decide) mv_X8_84 dX8_readItems_9 rfl rfl (Nat.le_of_ble_eq_true rfl) (Nat.le_trans (by decide) hD) (j_String_length_8abf5 3 S) (fun z9 hz9 => j_String_length_8abf5_ct h.gg (Nat.le_refl 2) (by decide) S z9 hz9) (fun x2 S1 => ?_)
    refine V_icmp_gt (pc := 12) h 148 dX8_readItems_12 (by decide) ?_ ?_
    · refine V_iconst (pc := 148) (v := 1) h dX8_readItems_148 (by decide) ?_
      exact V_zret (pc := 149) h hr hlk dX8_readItems_149
    · refine V_aload_n (pc := 15) h 1 dX8_readItems_15 rfl rfl ?_
      refine V_aload_n (pc := 16) h 0 dX8_readItems_16 rfl rfl ?_
      refine V_callUI (pc := 17) (dy := 1) (q := (RX8, TX8, 8)) h [] [.ref (a (200 + 3))] 3 mu_X8_49_X8 oC_3 rfl dX8_readItems_17 rfl rfl (Nat.le_of_ble_eq_true rfl) (Nat.le_trans (by decide) hD) (c_Reader_next_3 S1) (fun z9 hz9 => c_Reader_next_3_ct h.gg (Nat.le_refl 1) S1 z9 hz9) (fun x4 S3 => ?_)
      refine V_i2c (pc := 20) h dX8_readItems_20 ?_
      refine V_callOI (pc := 21) (dy := 4) h [.int ((x4.toUInt32 % 65536).toInt32)] [] 3 (by decide) mv_X8_89 dX8_readItems_21 rfl rfl (Nat.le_of_ble_eq_true rfl) (Nat.le_trans (by decide) hD) (j_String_indexOf_0f7a4 3 ((x4.toUInt32 % 65536).toInt32) S3) (fun z9 hz9 => j_String_indexOf_0f7a4_ct h.gg (Nat.le_refl 4) (by decide) ((x4.toUInt32 % 65536).toInt32) S3 z9 hz9) (fun x6 S5 => ?_)
      refine V_istore (pc := 24) h [(7, .int x6), (0, .ref (a 3)), (1, .ref (a (200 + 3))), (2, .ref (a o2)), (3, .ref (a (300 + 7))), (4, .ref (a (300 + 8))), (5, .int v5), (6, .int v6)] dX8_readItems_24 (by decide) rfl ?_
      refine V_iload (pc := 26) h 0 dX8_readItems_26 rfl ?_
      refine V_if_lt (pc := 28) h 53 dX8_readItems_28 (by decide) ?_ ?_
      · refine V_iconst (pc := 53) (v := 1) h dX8_readItems_53 (by decide) ?_
        exact V_zret (pc := 54) h hr hlk dX8_readItems_54
      · refine V_iload (pc := 31) h 0 dX8_readItems_31 rfl ?_
        refine V_aload_n (pc := 33) h 3 dX8_readItems_33 rfl rfl ?_
        refine V_alen (pc := 34) h o2 (3 : Int32) ho2 (by decide) (by decide) dX8_readItems_34 ?_
        refine V_icmp_ge (pc := 35) h 53 dX8_readItems_35 (by decide) ?_ ?_
        · refine V_iconst (pc := 53) (v := 1) h dX8_readItems_53 (by decide) ?_
          exact V_zret (pc := 54) h hr hlk dX8_readItems_54
        · refine V_iload (pc := 38) h 0 dX8_readItems_38 rfl ?_
          refine V_aload_n (pc := 40) h 4 dX8_readItems_40 rfl rfl ?_
          refine V_rolen (pc := 41) h 7 (by decide) (3 : Int32) (by decide) dX8_readItems_41 ?_
          refine V_icmp_ge (pc := 42) h 53 dX8_readItems_42 (by decide) ?_ ?_
          · refine V_iconst (pc := 53) (v := 1) h dX8_readItems_53 (by decide) ?_
            exact V_zret (pc := 54) h hr hlk dX8_readItems_54
          · refine V_iload (pc := 45) h 0 dX8_readItems_45 rfl ?_
            refine V_aload (pc := 47) h 5 dX8_readItems_47 rfl ?_
            refine V_rolen (pc := 49) h 8 (by decide) (3 : Int32) (by decide) dX8_readItems_49 ?_
            refine V_icmp_lt (pc := 50) h 55 dX8_readItems_50 (by decide) ?_ ?_
            · refine V_iload (pc := 55) h 6 dX8_readItems_55 rfl ?_
              refine V_iload (pc := 57) h 0 dX8_readItems_57 rfl ?_
              refine V_ishr (pc := 59) h dX8_readItems_59 ?_
              refine V_iconst (pc := 60) (v := 1) h dX8_readItems_60 (by decide) ?_
              refine V_iand (pc := 61) h dX8_readItems_61 ?_
              refine V_iconst (pc := 62) (v := 1) h dX8_readItems_62 (by decide) ?_
              refine V_icmp_ne (pc := 63) h 68 dX8_readItems_63 (by decide) ?_ ?_
              · refine V_iload (pc := 68) h 6 dX8_readItems_68 rfl ?_
                refine V_iconst (pc := 70) (v := 1) h dX8_readItems_70 (by decide) ?_
                refine V_iload (pc := 71) h 0 dX8_readItems_71 rfl ?_
                refine V_ishl (pc := 73) h dX8_readItems_73 ?_
                refine V_ior (pc := 74) h dX8_readItems_74 ?_
                refine V_top (fun x7 => ?_)
                refine V_istore (pc := 75) h [(5, .int x7), (7, .int x6), (0, .ref (a 3)), (1, .ref (a (200 + 3))), (2, .ref (a o2)), (3, .ref (a (300 + 7))), (4, .ref (a (300 + 8))), (6, .int v6)] dX8_readItems_75 (by decide) rfl ?_
                refine V_aload_n (pc := 77) h 2 dX8_readItems_77 rfl rfl ?_
                refine V_dup (pc := 78) h dX8_readItems_78 rfl ?_
                refine V_get (pc := 79) h 3 1 (.int (S5 3 1)) fl_X8_53_X8 oC_3 rfl rfl dX8_readItems_79 ?_
                refine V_iconst (pc := 82) (v := 1) h dX8_readItems_82 (by decide) ?_
                refine V_iadd (pc := 83) h dX8_readItems_83 ?_
                refine V_put (pc := 84) h 3 1 ((S5 3 1) + (1 : Int32)) fp_X8_53_X8 oC_3 rfl rfl rfl rfl dX8_readItems_84 (fun S8 => ?_)
                refine V_aload_n (pc := 87) h 2 dX8_readItems_87 rfl rfl ?_
                refine V_callUI (pc := 88) (dy := 1) (q := (RX8, TX8, 8)) h [] [] 3 mu_X8_49_X8 oC_3 rfl dX8_readItems_88 rfl rfl (Nat.le_of_ble_eq_true rfl) (Nat.le_trans (by decide) hD) (c_Reader_next_3 S8) (fun z9 hz9 => c_Reader_next_3_ct h.gg (Nat.le_refl 1) S8 z9 hz9) (fun x10 S9 => ?_)
                refine V_pop (pc := 91) h dX8_readItems_91 rfl ?_
                refine V_aload_n (pc := 92) h 2 dX8_readItems_92 rfl rfl ?_
                refine V_iconst (pc := 93) (v := 2) h dX8_readItems_93 (by decide) ?_
                refine V_callUI (pc := 94) (dy := 2) (q := (RX8, TX8, 8)) h [.int (2 : Int32)] [] 3 mu_X8_93_X8 oC_3 rfl dX8_readItems_94 rfl rfl (Nat.le_of_ble_eq_true rfl) (Nat.le_trans (by decide) hD) (c_Reader_number_3 (2 : Int32) S9) (fun z9 hz9 => c_Reader_number_3_ct h.gg (Nat.le_refl 2) (2 : Int32) S9 z9 hz9) (fun x12 S11 => ?_)
                refine V_istore (pc := 97) h [(8, .int x12), (5, .int x7), (7, .int x6), (0, .ref (a 3)), (1, .ref (a (200 + 3))), (2, .ref (a o2)), (3, .ref (a (300 + 7))), (4, .ref (a (300 + 8))), (6, .int v6)] dX8_readItems_97 (by decide) rfl ?_
                refine V_iload (pc := 99) h 0 dX8_readItems_99 rfl ?_
                refine V_iconst (pc := 101) (v := -1) h dX8_readItems_101 (by decide) ?_
                refine V_icmp_ne (pc := 102) h 107 dX8_readItems_102 (by decide) ?_ ?_
                · refine V_iload (pc := 107) h 0 dX8_readItems_107 rfl ?_
                  refine V_aload_n (pc := 109) h 6 dX8_readItems_109 rfl rfl ?_
                  refine V_iload (pc := 110) h 2 dX8_readItems_110 rfl ?_
                  refine V_roald (pc := 112) h 7 (by decide) dX8_readItems_112 ?_
                  refine V_aload (pc := 113) h 7 dX8_readItems_113 rfl ?_
                  refine V_iload (pc := 115) h 2 dX8_readItems_115 rfl ?_
                  refine V_roald (pc := 117) h 8 (by decide) dX8_readItems_117 ?_
                  refine V_callSI (pc := 118) (dy := 1) h [.int x12, .int (roV 7 x6.toNatClampNeg), .int (roV 8 x6.toNatClampNeg)] [] ms_X8_96 dX8_readItems_118 rfl rfl (Nat.le_of_ble_eq_true rfl) (Nat.le_trans (by decide) hD) (c_N_isWithin x12 (roV 7 x6.toNatClampNeg) (roV 8 x6.toNatClampNeg) S11) (fun z9 hz9 => c_N_isWithin_ct h.gg (Nat.le_refl 1) x12 (roV 7 x6.toNatClampNeg) (roV 8 x6.toNatClampNeg) S11 z9 hz9) (fun x14 S13 => ?_)
                  refine V_if_ne (pc := 121) h 136 dX8_readItems_121 (by decide) ?_ ?_
                  · refine V_aload_n (pc := 136) h 5 dX8_readItems_136 rfl rfl ?_
                    refine V_iload (pc := 137) h 2 dX8_readItems_137 rfl ?_
                    refine V_iload (pc := 139) h 0 dX8_readItems_139 rfl ?_
                    refine V_iast (pc := 141) h o2 ho2 dX8_readItems_141 (fun S15 => ?_)
                    refine V_iincB (pc := 142) h 8 (1 : Int32) (fun x16 => [(6, .int x16), (8, .int x12), (5, .int x7), (7, .int x6), (0, .ref (a 3)), (1, .ref (a (200 + 3))), (2, .ref (a o2)), (3, .ref (a (300 + 7))), (4, .ref (a (300 + 8)))]) dX8_readItems_142 rfl (by decide) (by decide) (fun _ => rfl) (fun x16 => ?_)
                    refine V_goto (pc := 145) h 6 dX8_readItems_145 (by decide) ?_
                    exact V_ls [4, 5, 6, 7, 8, 2, 0] rfl (ih x7 x16 S15)
                  · refine V_aload_n (pc := 124) h 3 dX8_readItems_124 rfl rfl ?_
                    refine V_dup (pc := 125) h dX8_readItems_125 rfl ?_
                    refine V_get (pc := 126) h 3 1 (.int (S13 3 1)) fl_X8_53_X8 oC_3 rfl rfl dX8_readItems_126 ?_
                    refine V_iconst (pc := 129) (v := 1) h dX8_readItems_129 (by decide) ?_
                    refine V_isub (pc := 130) h dX8_readItems_130 ?_
                    refine V_put (pc := 131) h 3 1 ((S13 3 1) - (1 : Int32)) fp_X8_53_X8 oC_3 rfl rfl rfl rfl dX8_readItems_131 (fun S17 => ?_)
                    refine V_iconst (pc := 134) (v := 0) h dX8_readItems_134 (by decide) ?_
                    exact V_zret (pc := 135) h hr hlk dX8_readItems_135
                · refine V_iconst (pc := 105) (v := 0) h dX8_readItems_105 (by decide) ?_
                  exact V_zret (pc := 106) h hr hlk dX8_readItems_106
              · refine V_iconst (pc := 66) (v := 0) h dX8_readItems_66 (by decide) ?_
                exact V_zret (pc := 67) h hr hlk dX8_readItems_67
            · refine V_iconst (pc := 53) (v := 1) h dX8_readItems_53 (by decide) ?_
              exact V_zret (pc := 54) h hr hlk dX8_readItems_54
def c_StreetReader_readItems_200p3_n3_300p7_300p8 (o2 : Nat) (S : St) : Option (Int32 × St) := (c_StreetReader_readItems_200p3_n3_300p7_300p8_h6 o2 FU (0 : Int32) (0 : Int32) S)
set_option maxHeartbeats 4000000 in
set_option maxRecDepth 100000 in
theorem c_StreetReader_readItems_200p3_n3_300p7_300p8_ok {d : Nat} (h : Cx p s m c cX8_readItems 9 RX8 s0 args0 D ca a A) (hr : meth.sig.returnType = some .boolean) (hlk : meth.locks = false) (hD : 5 ≤ d) (o2 : Nat) (ho2 : tpC[o2]? = some (.inr (0, 3, 0))) (S : St) : VV p l e (rmd d) s m args below meth c D ca tpC a A 9 (QmI D ca tpC a A below args s) S [(0, .ref (a 3)), (1, .ref (a (200 + 3))), (2, .ref (a o2)), (3, .ref (a (300 + 7))), (4, .ref (a (300 + 8)))] 0 [] (c_StreetReader_readItems_200p3_n3_300p7_300p8 o2 S) := by
  unfold c_StreetReader_readItems_200p3_n3_300p7_300p8
  refine V_iconst (pc := 0) (v := 0) h dX8_readItems_0 (by decide) ?_
  refine V_istore (pc := 1) h [(5, .int (0 : Int32)), (0, .ref (a 3)), (1, .ref (a (200 + 3))), (2, .ref (a o2)), (3, .ref (a (300 + 7))), (4, .ref (a (300 + 8)))] dX8_readItems_1 (by decide) rfl ?_
  refine V_iconst (pc := 3) (v := 0) h dX8_readItems_3 (by decide) ?_
  refine V_istore (pc := 4) h [(6, .int (0 : Int32)), (5, .int (0 : Int32)), (0, .ref (a 3)), (1, .ref (a (200 + 3))), (2, .ref (a o2)), (3, .ref (a (300 + 7))), (4, .ref (a (300 + 8)))] dX8_readItems_4 (by decide) rfl ?_
  exact V_ls [2, 3, 4, 5, 6, 1, 0] rfl (c_StreetReader_readItems_200p3_n3_300p7_300p8_h6_ok h hr hlk hD o2 ho2 FU (0 : Int32) (0 : Int32) S)
theorem c_StreetReader_readItems_200p3_n3_300p7_300p8_ct {d : Nat} (g : GG s0 args0 D ca a A) (hD : 5 ≤ d) {o2 : Nat} (ho2 : tpC[o2]? = some (.inr (0, 3, 0))) (S : St) (z : Int32 × St) (hz : c_StreetReader_readItems_200p3_n3_300p7_300p8 o2 S = some z) : CtI l yX8_readItems cX8_readItems 9 .boolean d s0 D ca tpC a A [.ref (a 3), .ref (a (200 + 3)), .ref (a o2), .ref (a (300 + 7)), .ref (a (300 + 8))] S z := CtI_mk g (by decide +kernel) (Nat.le_of_ble_eq_true rfl) hz (fun p e s m args below meth c h hr hlk => c_StreetReader_readItems_200p3_n3_300p7_300p8_ok h hr hlk hD o2 ho2 S)
def c_StreetReader_readClause_b109 (v1 : Int32) (S : St) : Option (Int32 × St) := (if v1 = (108 : Int32) then (if (S 3 7) = 0 then (bnd (up2 S 3 1 ((S 3 1) + (1 : Int32))) (fun S1 => (bnd (up2 S1 3 7 (1 : Int32)) (fun S2 => (bI (c_StreetReader_readItems_200p3_n3_300p7_300p8 12 S2) (fun x4 S3 => (nzM x4 (some (x4, S3))))))))) else (nzM (0 : Int32) (some ((0 : Int32), S)))) else (nzM (0 : Int32) (some ((0 : Int32), S))))
set_option maxHeartbeats 4000000 in
set_option maxRecDepth 100000 in
theorem c_StreetReader_readClause_b109_ok {d : Nat} (h : Cx p s m c cX8_readClause 2 RX8 s0 args0 D ca a A) (hr : meth.sig.returnType = some .boolean) (hlk : meth.locks = false) (hD : 6 ≤ d) (v1 : Int32) (S : St) : VV p l e (rmd d) s m args below meth c D ca tpC a A 2 (QmI D ca tpC a A below args s) S [(0, .ref (a 3)), (1, .int v1)] 109 [] (c_StreetReader_readClause_b109 v1 S) := by
  unfold c_StreetReader_readClause_b109
  refine V_iload_n (pc := 109) h 1 dX8_readClause_109 rfl rfl ?_
  refine V_bipush (pc := 110) (v := 108) h dX8_readClause_110 (by decide) ?_
  refine V_icmp_ne (pc := 112) h 154 dX8_readClause_112 (by decide) ?_ ?_
  · refine V_iconst (pc := 154) (v := 0) h dX8_readClause_154 (by decide) ?_
    exact V_zret (pc := 155) h hr hlk dX8_readClause_155
  · refine V_aload_n (pc := 115) h 0 dX8_readClause_115 rfl rfl ?_
    refine V_get (pc := 116) h 3 7 (.int (S 3 7)) fl_X8_31_X8 oC_3 rfl rfl dX8_readClause_116 ?_
    refine V_if_ne (pc := 119) h 154 dX8_readClause_119 (by decide) ?_ ?_
    · refine V_iconst (pc := 154) (v := 0) h dX8_readClause_154 (by decide) ?_
      exact V_zret (pc := 155) h hr hlk dX8_readClause_155
    · refine V_aload_n (pc := 122) h 0 dX8_readClause_122 rfl rfl ?_
      refine V_dup (pc := 123) h dX8_readClause_123 rfl ?_
      refine V_get (pc := 124) h 3 1 (.int (S 3 1)) fl_X8_53_X8 oC_3 rfl rfl dX8_readClause_124 ?_
      refine V_iconst (pc := 127) (v := 1) h dX8_readClause_127 (by decide) ?_
      refine V_iadd (pc := 128) h dX8_readClause_128 ?_
      refine V_put (pc := 129) h 3 1 ((S 3 1) + (1 : Int32)) fp_X8_53_X8 oC_3 rfl rfl rfl rfl dX8_readClause_129 (fun S1 => ?_)
      refine V_aload_n (pc := 132) h 0 dX8_readClause_132 rfl rfl ?_
      refine V_iconst (pc := 133) (v := 1) h dX8_readClause_133 (by decide) ?_
      refine V_put (pc := 134) h 3 7 (1 : Int32) fp_X8_31_X8 oC_3 rfl rfl rfl rfl dX8_readClause_134 (fun S2 => ?_)
      refine V_aload_n (pc := 137) h 0 dX8_readClause_137 rfl rfl ?_
      refine V_ldcS (pc := 138) (tx := "gtc") h 3 (by decide) dX8_readClause_138 ?_
      refine V_aload_n (pc := 140) h 0 dX8_readClause_140 rfl rfl ?_
      refine V_get (pc := 141) h 3 4 (.ref (a 12)) fl_X8_20_X8 oC_3 rfl rfl dX8_readClause_141 ?_
      refine V_gets (pc := 144) h 7 (by decide) (Or.inr ⟨_, tw_3_105⟩) dX8_readClause_144 ?_
      refine V_gets (pc := 147) h 8 (by decide) (Or.inr ⟨_, tw_3_107⟩) dX8_readClause_147 ?_
      refine V_callVI (pc := 150) (dy := 5) (q := (RX8, TX8, 8)) h [.ref (a (200 + 3)), .ref (a 12), .ref (a (300 + 7)), .ref (a (300 + 8))] [] 3 mv_X8_64 oC_3 rfl dX8_readClause_150 rfl rfl (Nat.le_of_ble_eq_true rfl) (Nat.le_trans (by decide) hD) (c_StreetReader_readItems_200p3_n3_300p7_300p8 12 S2) (fun z9 hz9 => c_StreetReader_readItems_200p3_n3_300p7_300p8_ct h.gg (Nat.le_refl 5) oC_12 S2 z9 hz9) (fun x4 S3 => ?_)
      exact V_zret (pc := 153) h hr hlk dX8_readClause_153
def c_StreetReader_readClause_b50 (v1 : Int32) (S : St) : Option (Int32 × St) := (if v1 = (104 : Int32) then (if (6 : Int32) ≤ (S 3 5) then (c_StreetReader_readClause_b109 v1 S) else (bnd (up2 S 3 1 ((S 3 1) + (1 : Int32))) (fun S1 => (bnd (up2 S1 3 5 ((S1 3 5) + (1 : Int32))) (fun S2 => (ckM ((S2 3 5) - (1 : Int32)) 6 (bI (c_StreetReader_readItems_200p2_n8_300p5_300p6 (6 + ((S2 3 5) - (1 : Int32)).toNatClampNeg) S2) (fun x6 S5 => (nzM x6 (some (x6, S5))))))))))) else (c_StreetReader_readClause_b109 v1 S))
set_option maxHeartbeats 4000000 in
set_option maxRecDepth 100000 in
theorem c_StreetReader_readClause_b50_ok {d : Nat} (h : Cx p s m c cX8_readClause 2 RX8 s0 args0 D ca a A) (hr : meth.sig.returnType = some .boolean) (hlk : meth.locks = false) (hD : 6 ≤ d) (v1 : Int32) (S : St) : VV p l e (rmd d) s m args below meth c D ca tpC a A 2 (QmI D ca tpC a A below args s) S [(0, .ref (a 3)), (1, .int v1)] 50 [] (c_StreetReader_readClause_b50 v1 S) := by
  unfold c_StreetReader_readClause_b50
  refine V_iload_n (pc := 50) h 1 dX8_readClause_50 rfl rfl ?_
  refine V_bipush (pc := 51) (v := 104) h dX8_readClause_51 (by decide) ?_
  refine V_icmp_ne (pc := 53) h 109 dX8_readClause_53 (by decide) ?_ ?_
  · exact V_ls [0, 1] rfl (c_StreetReader_readClause_b109_ok h hr hlk hD v1 S)
  · refine V_aload_n (pc := 56) h 0 dX8_readClause_56 rfl rfl ?_
    refine V_get (pc := 57) h 3 5 (.int (S 3 5)) fl_X8_23_X8 oC_3 rfl rfl dX8_readClause_57 ?_
    refine V_bipush (pc := 60) (v := 6) h dX8_readClause_60 (by decide) ?_
    refine V_icmp_ge (pc := 62) h 109 dX8_readClause_62 (by decide) ?_ ?_
    · exact V_ls [0, 1] rfl (c_StreetReader_readClause_b109_ok h hr hlk hD v1 S)
    · refine V_aload_n (pc := 65) h 0 dX8_readClause_65 rfl rfl ?_
      refine V_dup (pc := 66) h dX8_readClause_66 rfl ?_
      refine V_get (pc := 67) h 3 1 (.int (S 3 1)) fl_X8_53_X8 oC_3 rfl rfl dX8_readClause_67 ?_
      refine V_iconst (pc := 70) (v := 1) h dX8_readClause_70 (by decide) ?_
      refine V_iadd (pc := 71) h dX8_readClause_71 ?_
      refine V_put (pc := 72) h 3 1 ((S 3 1) + (1 : Int32)) fp_X8_53_X8 oC_3 rfl rfl rfl rfl dX8_readClause_72 (fun S1 => ?_)
      refine V_aload_n (pc := 75) h 0 dX8_readClause_75 rfl rfl ?_
      refine V_dup (pc := 76) h dX8_readClause_76 rfl ?_
      refine V_get (pc := 77) h 3 5 (.int (S1 3 5)) fl_X8_23_X8 oC_3 rfl rfl dX8_readClause_77 ?_
      refine V_iconst (pc := 80) (v := 1) h dX8_readClause_80 (by decide) ?_
      refine V_iadd (pc := 81) h dX8_readClause_81 ?_
      refine V_put (pc := 82) h 3 5 ((S1 3 5) + (1 : Int32)) fp_X8_23_X8 oC_3 rfl rfl rfl rfl dX8_readClause_82 (fun S2 => ?_)
      refine V_aload_n (pc := 85) h 0 dX8_readClause_85 rfl rfl ?_
      refine V_ldcS (pc := 86) (tx := "abcdelkn") h 2 (by decide) dX8_readClause_86 ?_
      refine V_aload_n (pc := 88) h 0 dX8_readClause_88 rfl rfl ?_
      refine V_get (pc := 89) h 3 3 (.ref (a 5)) fl_X8_17_X8 oC_3 rfl rfl dX8_readClause_89 ?_
      refine V_aload_n (pc := 92) h 0 dX8_readClause_92 rfl rfl ?_
      refine V_get (pc := 93) h 3 5 (.int (S2 3 5)) fl_X8_23_X8 oC_3 rfl rfl dX8_readClause_93 ?_
      refine V_iconst (pc := 96) (v := 1) h dX8_readClause_96 (by decide) ?_
      refine V_isub (pc := 97) h dX8_readClause_97 ?_
      refine V_aald0 (pc := 98) h 5 oC_5 (by decide) dX8_readClause_98 (fun h3 h4 => ?_)
      refine V_gets (pc := 99) h 5 (by decide) (Or.inr ⟨_, tw_3_100⟩) dX8_readClause_99 ?_
      refine V_gets (pc := 102) h 6 (by decide) (Or.inr ⟨_, tw_3_102⟩) dX8_readClause_102 ?_
      refine V_callVI (pc := 105) (dy := 5) (q := (RX8, TX8, 8)) h [.ref (a (200 + 2)), .ref (a (6 + ((S2 3 5) - (1 : Int32)).toNatClampNeg)), .ref (a (300 + 5)), .ref (a (300 + 6))] [] 3 mv_X8_64 oC_3 rfl dX8_readClause_105 rfl rfl (Nat.le_of_ble_eq_true rfl) (Nat.le_trans (by decide) hD) (c_StreetReader_readItems_200p2_n8_300p5_300p6 (6 + ((S2 3 5) - (1 : Int32)).toNatClampNeg) S2) (fun z9 hz9 => c_StreetReader_readItems_200p2_n8_300p5_300p6_ct h.gg (Nat.le_refl 5) (rC_5 _ h4) S2 z9 hz9) (fun x6 S5 => ?_)
      exact V_zret (pc := 108) h hr hlk dX8_readClause_108
def c_StreetReader_readClause (S : St) : Option (Int32 × St) := (bI (c_Reader_next_3 S) (fun x2 S1 => (if x2 = (112 : Int32) then (if (S1 3 6) = 0 then (bnd (up2 S1 3 1 ((S1 3 1) + (1 : Int32))) (fun S3 => (bnd (up2 S3 3 6 (1 : Int32)) (fun S4 => (bI (c_StreetReader_readItems_200p1_n5_300p3_300p4 4 S4) (fun x6 S5 => (nzM x6 (some (x6, S5))))))))) else (c_StreetReader_readClause_b50 x2 S1)) else (c_StreetReader_readClause_b50 x2 S1))))
set_option maxHeartbeats 4000000 in
set_option maxRecDepth 100000 in
theorem c_StreetReader_readClause_ok {d : Nat} (h : Cx p s m c cX8_readClause 2 RX8 s0 args0 D ca a A) (hr : meth.sig.returnType = some .boolean) (hlk : meth.locks = false) (hD : 6 ≤ d) (S : St) : VV p l e (rmd d) s m args below meth c D ca tpC a A 2 (QmI D ca tpC a A below args s) S [(0, .ref (a 3))] 0 [] (c_StreetReader_readClause S) := by
  unfold c_StreetReader_readClause
  refine V_aload_n (pc := 0) h 0 dX8_readClause_0 rfl rfl ?_
  refine V_callUI (pc := 1) (dy := 1) (q := (RX8, TX8, 8)) h [] [] 3 mu_X8_49_X8 oC_3 rfl dX8_readClause_1 rfl rfl (Nat.le_of_ble_eq_true rfl) (Nat.le_trans (by decide) hD) (c_Reader_next_3 S) (fun z9 hz9 => c_Reader_next_3_ct h.gg (Nat.le_refl 1) S z9 hz9) (fun x2 S1 => ?_)
  refine V_istore_n (pc := 4) h [(1, .int x2), (0, .ref (a 3))] dX8_readClause_4 rfl (by decide) rfl ?_
  refine V_iload_n (pc := 5) h 0 dX8_readClause_5 rfl rfl ?_
  refine V_bipush (pc := 6) (v := 112) h dX8_readClause_6 (by decide) ?_
  refine V_icmp_ne (pc := 8) h 50 dX8_readClause_8 (by decide) ?_ ?_
  · exact V_ls [1, 0] rfl (c_StreetReader_readClause_b50_ok h hr hlk hD x2 S1)
  · refine V_aload_n (pc := 11) h 1 dX8_readClause_11 rfl rfl ?_
    refine V_get (pc := 12) h 3 6 (.int (S1 3 6)) fl_X8_27_X8 oC_3 rfl rfl dX8_readClause_12 ?_
    refine V_if_ne (pc := 15) h 50 dX8_readClause_15 (by decide) ?_ ?_
    · exact V_ls [1, 0] rfl (c_StreetReader_readClause_b50_ok h hr hlk hD x2 S1)
    · refine V_aload_n (pc := 18) h 1 dX8_readClause_18 rfl rfl ?_
      refine V_dup (pc := 19) h dX8_readClause_19 rfl ?_
      refine V_get (pc := 20) h 3 1 (.int (S1 3 1)) fl_X8_53_X8 oC_3 rfl rfl dX8_readClause_20 ?_
      refine V_iconst (pc := 23) (v := 1) h dX8_readClause_23 (by decide) ?_
      refine V_iadd (pc := 24) h dX8_readClause_24 ?_
      refine V_put (pc := 25) h 3 1 ((S1 3 1) + (1 : Int32)) fp_X8_53_X8 oC_3 rfl rfl rfl rfl dX8_readClause_25 (fun S3 => ?_)
      refine V_aload_n (pc := 28) h 1 dX8_readClause_28 rfl rfl ?_
      refine V_iconst (pc := 29) (v := 1) h dX8_readClause_29 (by decide) ?_
      refine V_put (pc := 30) h 3 6 (1 : Int32) fp_X8_27_X8 oC_3 rfl rfl rfl rfl dX8_readClause_30 (fun S4 => ?_)
      refine V_aload_n (pc := 33) h 1 dX8_readClause_33 rfl rfl ?_
      refine V_ldcS (pc := 34) (tx := "abcde") h 1 (by decide) dX8_readClause_34 ?_
      refine V_aload_n (pc := 36) h 1 dX8_readClause_36 rfl rfl ?_
      refine V_get (pc := 37) h 3 2 (.ref (a 4)) fl_X8_9_X8 oC_3 rfl rfl dX8_readClause_37 ?_
      refine V_gets (pc := 40) h 3 (by decide) (Or.inr ⟨_, tw_3_83⟩) dX8_readClause_40 ?_
      refine V_gets (pc := 43) h 4 (by decide) (Or.inr ⟨_, tw_3_85⟩) dX8_readClause_43 ?_
      refine V_callVI (pc := 46) (dy := 5) (q := (RX8, TX8, 8)) h [.ref (a (200 + 1)), .ref (a 4), .ref (a (300 + 3)), .ref (a (300 + 4))] [] 3 mv_X8_64 oC_3 rfl dX8_readClause_46 rfl rfl (Nat.le_of_ble_eq_true rfl) (Nat.le_trans (by decide) hD) (c_StreetReader_readItems_200p1_n5_300p3_300p4 4 S4) (fun z9 hz9 => c_StreetReader_readItems_200p1_n5_300p3_300p4_ct h.gg (Nat.le_refl 5) oC_4 S4 z9 hz9) (fun x6 S5 => ?_)
      exact V_zret (pc := 49) h hr hlk dX8_readClause_49
theorem c_StreetReader_readClause_ct {d : Nat} (g : GG s0 args0 D ca a A) (hD : 6 ≤ d) (S : St) (z : Int32 × St) (hz : c_StreetReader_readClause S = some z) : CtI l yX8_readClause cX8_readClause 2 .boolean d s0 D ca tpC a A [.ref (a 3)] S z := CtI_mk g (by decide +kernel) (Nat.le_of_ble_eq_true rfl) hz (fun p e s m args below meth c h hr hlk => c_StreetReader_readClause_ok h hr hlk hD S)
def c_Reader_takes_3 (v1 : Int32) (S : St) : Option (Int32 × St) := (bI (c_Reader_next_3 S) (fun x2 S1 => (if x2 = v1 then (bnd (up2 S1 3 1 ((S1 3 1) + (1 : Int32))) (fun S3 => (nzM (1 : Int32) (some ((1 : Int32), S3))))) else (nzM (0 : Int32) (some ((0 : Int32), S1))))))
set_option maxHeartbeats 4000000 in
set_option maxRecDepth 100000 in
theorem c_Reader_takes_3_ok {d : Nat} (h : Cx p s m c cX5_takes 2 RX5 s0 args0 D ca a A) (hr : meth.sig.returnType = some .boolean) (hlk : meth.locks = false) (hD : 2 ≤ d) (v1 : Int32) (S : St) : VV p l e (rmd d) s m args below meth c D ca tpC a A 2 (QmI D ca tpC a A below args s) S [(0, .ref (a 3)), (1, .int v1)] 0 [] (c_Reader_takes_3 v1 S) := by
  unfold c_Reader_takes_3
  refine V_aload_n (pc := 0) h 0 dX5_takes_0 rfl rfl ?_
  refine V_callUI (pc := 1) (dy := 1) (q := (RX8, TX8, 8)) h [] [] 3 mu_X5_26_X8 oC_3 rfl dX5_takes_1 rfl rfl (Nat.le_of_ble_eq_true rfl) (Nat.le_trans (by decide) hD) (c_Reader_next_3 S) (fun z9 hz9 => c_Reader_next_3_ct h.gg (Nat.le_refl 1) S z9 hz9) (fun x2 S1 => ?_)
  refine V_iload_n (pc := 4) h 1 dX5_takes_4 rfl rfl ?_
  refine V_icmp_eq (pc := 5) h 10 dX5_takes_5 (by decide) ?_ ?_
  · refine V_aload_n (pc := 10) h 0 dX5_takes_10 rfl rfl ?_
    refine V_dup (pc := 11) h dX5_takes_11 rfl ?_
    refine V_get (pc := 12) h 3 1 (.int (S1 3 1)) fl_X5_15_X8 oC_3 rfl rfl dX5_takes_12 ?_
    refine V_iconst (pc := 15) (v := 1) h dX5_takes_15 (by decide) ?_
    refine V_iadd (pc := 16) h dX5_takes_16 ?_
    refine V_put (pc := 17) h 3 1 ((S1 3 1) + (1 : Int32)) fp_X5_15_X8 oC_3 rfl rfl rfl rfl dX5_takes_17 (fun S3 => ?_)
    refine V_iconst (pc := 20) (v := 1) h dX5_takes_20 (by decide) ?_
    exact V_zret (pc := 21) h hr hlk dX5_takes_21
  · refine V_iconst (pc := 8) (v := 0) h dX5_takes_8 (by decide) ?_
    exact V_zret (pc := 9) h hr hlk dX5_takes_9
theorem c_Reader_takes_3_ct {d : Nat} (g : GG s0 args0 D ca a A) (hD : 2 ≤ d) (v1 : Int32) (S : St) (z : Int32 × St) (hz : c_Reader_takes_3 v1 S = some z) : CtI l yX5_takes cX5_takes 2 .boolean d s0 D ca tpC a A [.ref (a 3), .int v1] S z := CtI_mk g (by decide +kernel) (Nat.le_of_ble_eq_true rfl) hz (fun p e s m args below meth c h hr hlk => c_Reader_takes_3_ok h hr hlk hD v1 S)
def c_StreetReader_isWhole (S : St) : Option (Int32 × St) := (if (S 3 5) ≤ 0 then (nzM (0 : Int32) (some ((0 : Int32), S))) else (nzM (1 : Int32) (some ((1 : Int32), S))))
set_option maxHeartbeats 4000000 in
set_option maxRecDepth 100000 in
theorem c_StreetReader_isWhole_ok {d : Nat} (h : Cx p s m c cX8_isWhole 1 RX8 s0 args0 D ca a A) (hr : meth.sig.returnType = some .boolean) (hlk : meth.locks = false) (hD : 1 ≤ d) (S : St) : VV p l e (rmd d) s m args below meth c D ca tpC a A 1 (QmI D ca tpC a A below args s) S [(0, .ref (a 3))] 0 [] (c_StreetReader_isWhole S) := by
  unfold c_StreetReader_isWhole
  refine V_aload_n (pc := 0) h 0 dX8_isWhole_0 rfl rfl ?_
  refine V_get (pc := 1) h 3 5 (.int (S 3 5)) fl_X8_23_X8 oC_3 rfl rfl dX8_isWhole_1 ?_
  refine V_if_le (pc := 4) h 11 dX8_isWhole_4 (by decide) ?_ ?_
  · refine V_iconst (pc := 11) (v := 0) h dX8_isWhole_11 (by decide) ?_
    exact V_zret (pc := 12) h hr hlk dX8_isWhole_12
  · refine V_iconst (pc := 7) (v := 1) h dX8_isWhole_7 (by decide) ?_
    refine V_goto (pc := 8) h 12 dX8_isWhole_8 (by decide) ?_
    exact V_zret (pc := 12) h hr hlk dX8_isWhole_12
theorem c_StreetReader_isWhole_ct {d : Nat} (g : GG s0 args0 D ca a A) (hD : 1 ≤ d) (S : St) (z : Int32 × St) (hz : c_StreetReader_isWhole S = some z) : CtI l yX8_isWhole cX8_isWhole 1 .boolean d s0 D ca tpC a A [.ref (a 3)] S z := CtI_mk g (by decide +kernel) (Nat.le_of_ble_eq_true rfl) hz (fun p e s m args below meth c h hr hlk => c_StreetReader_isWhole_ok h hr hlk hD S)
def c_Reader_read_3_h11 : Nat → Int32 → St → Option (Int32 × St)
  | 0, _, _ => none
  | n + 1, v1, S => (if (160 : Int32) ≤ v1 then (some ((S 3 1), S)) else (bI (c_StreetReader_readClause S) (fun x2 S1 => (if x2 = 0 then (some ((S1 3 1), S1)) else (bI (c_Reader_next_3 S1) (fun x4 S3 => (if x4 = 0 then (bI (c_StreetReader_isWhole S3) (fun x9 S8 => (if x9 = 0 then (some ((S8 3 1), S8)) else (some ((-1 : Int32), S8))))) else (bI (c_Reader_takes_3 (59 : Int32) S3) (fun x6 S5 => (if x6 = 0 then (some ((S5 3 1), S5)) else (bnd (v1 + (1 : Int32)) (fun x7 => ((c_Reader_read_3_h11 n) x7 S5)))))))))))))
set_option maxHeartbeats 4000000 in
set_option maxRecDepth 100000 in
theorem c_Reader_read_3_h11_ok {d : Nat} (h : Cx p s m c cX5_read 2 RX5 s0 args0 D ca a A) (hr : meth.sig.returnType = some .int) (hlk : meth.locks = false) (hD : 7 ≤ d) : ∀ (n : Nat) (v1 : Int32) (S : St), VV p l e (rmd d) s m args below meth c D ca tpC a A 2 (QmI D ca tpC a A below args s) S [(0, .ref (a 3)), (1, .int v1)] 11 [] (c_Reader_read_3_h11 n v1 S) := by
  intro n
  induction n with
  | zero => intro v1 S; exact V_none
  | succ n ih =>
    intro v1 S
    unfold c_Reader_read_3_h11
    refine V_iload_n (pc := 11) h 1 dX5_read_11 rfl rfl ?_
    refine V_sipush (pc := 12) (v := 160) h dX5_read_12 (by decide) ?_
    refine V_icmp_ge (pc := 15) h 73 dX5_read_15 (by decide) ?_ ?_
    · refine V_aload_n (pc := 73) h 0 dX5_read_73 rfl rfl ?_
      refine V_get (pc := 74) h 3 1 (.int (S 3 1)) fl_X5_15_X8 oC_3 rfl rfl dX5_read_74 ?_
      exact V_iret (pc := 77) h hr hlk dX5_read_77
    · refine V_aload_n (pc := 18) h 0 dX5_read_18 rfl rfl ?_
      refine V_callUI (pc := 19) (dy := 6) (q := (RX8, TX8, 8)) h [] [] 3 mu_X5_22_X8 oC_3 rfl dX5_read_19 rfl rfl (Nat.le_of_ble_eq_true rfl) (Nat.le_trans (by decide) hD) (c_StreetReader_readClause S) (fun z9 hz9 => c_StreetReader_readClause_ct h.gg (Nat.le_refl 6) S z9 hz9) (fun x2 S1 => ?_)
      refine V_if_ne (pc := 22) h 30 dX5_read_22 (by decide) ?_ ?_
      · refine V_aload_n (pc := 30) h 0 dX5_read_30 rfl rfl ?_
        refine V_callUI (pc := 31) (dy := 1) (q := (RX8, TX8, 8)) h [] [] 3 mu_X5_26_X8 oC_3 rfl dX5_read_31 rfl rfl (Nat.le_of_ble_eq_true rfl) (Nat.le_trans (by decide) hD) (c_Reader_next_3 S1) (fun z9 hz9 => c_Reader_next_3_ct h.gg (Nat.le_refl 1) S1 z9 hz9) (fun x4 S3 => ?_)
        refine V_if_ne (pc := 34) h 53 dX5_read_34 (by decide) ?_ ?_
        · refine V_aload_n (pc := 53) h 0 dX5_read_53 rfl rfl ?_
          refine V_bipush (pc := 54) (v := 59) h dX5_read_54 (by decide) ?_
          refine V_callUI (pc := 56) (dy := 2) (q := (RX8, TX8, 8)) h [.int (59 : Int32)] [] 3 mu_X5_33_X8 oC_3 rfl dX5_read_56 rfl rfl (Nat.le_of_ble_eq_true rfl) (Nat.le_trans (by decide) hD) (c_Reader_takes_3 (59 : Int32) S3) (fun z9 hz9 => c_Reader_takes_3_ct h.gg (Nat.le_refl 2) (59 : Int32) S3 z9 hz9) (fun x6 S5 => ?_)
          refine V_if_ne (pc := 59) h 67 dX5_read_59 (by decide) ?_ ?_
          · refine V_iincB (pc := 67) h 1 (1 : Int32) (fun x7 => [(1, .int x7), (0, .ref (a 3))]) dX5_read_67 rfl (by decide) (by decide) (fun _ => rfl) (fun x7 => ?_)
            refine V_goto (pc := 70) h 11 dX5_read_70 (by decide) ?_
            exact V_ls [1, 0] rfl (ih x7 S5)
          · refine V_aload_n (pc := 62) h 0 dX5_read_62 rfl rfl ?_
            refine V_get (pc := 63) h 3 1 (.int (S5 3 1)) fl_X5_15_X8 oC_3 rfl rfl dX5_read_63 ?_
            exact V_iret (pc := 66) h hr hlk dX5_read_66
        · refine V_aload_n (pc := 37) h 0 dX5_read_37 rfl rfl ?_
          refine V_callUI (pc := 38) (dy := 1) (q := (RX8, TX8, 8)) h [] [] 3 mu_X5_30_X8 oC_3 rfl dX5_read_38 rfl rfl (Nat.le_of_ble_eq_true rfl) (Nat.le_trans (by decide) hD) (c_StreetReader_isWhole S3) (fun z9 hz9 => c_StreetReader_isWhole_ct h.gg (Nat.le_refl 1) S3 z9 hz9) (fun x9 S8 => ?_)
          refine V_if_eq (pc := 41) h 48 dX5_read_41 (by decide) ?_ ?_
          · refine V_aload_n (pc := 48) h 0 dX5_read_48 rfl rfl ?_
            refine V_get (pc := 49) h 3 1 (.int (S8 3 1)) fl_X5_15_X8 oC_3 rfl rfl dX5_read_49 ?_
            exact V_iret (pc := 52) h hr hlk dX5_read_52
          · refine V_iconst (pc := 44) (v := -1) h dX5_read_44 (by decide) ?_
            refine V_goto (pc := 45) h 52 dX5_read_45 (by decide) ?_
            exact V_iret (pc := 52) h hr hlk dX5_read_52
      · refine V_aload_n (pc := 25) h 0 dX5_read_25 rfl rfl ?_
        refine V_get (pc := 26) h 3 1 (.int (S1 3 1)) fl_X5_15_X8 oC_3 rfl rfl dX5_read_26 ?_
        exact V_iret (pc := 29) h hr hlk dX5_read_29
def c_Reader_read_3 (S : St) : Option (Int32 × St) := (bnd (up2 S 3 1 (0 : Int32)) (fun S1 => (bV (c_StreetReader_begin S1) (fun S2 => (c_Reader_read_3_h11 FU (0 : Int32) S2)))))
set_option maxHeartbeats 4000000 in
set_option maxRecDepth 100000 in
theorem c_Reader_read_3_ok {d : Nat} (h : Cx p s m c cX5_read 2 RX5 s0 args0 D ca a A) (hr : meth.sig.returnType = some .int) (hlk : meth.locks = false) (hD : 7 ≤ d) (S : St) : VV p l e (rmd d) s m args below meth c D ca tpC a A 2 (QmI D ca tpC a A below args s) S [(0, .ref (a 3))] 0 [] (c_Reader_read_3 S) := by
  unfold c_Reader_read_3
  refine V_aload_n (pc := 0) h 0 dX5_read_0 rfl rfl ?_
  refine V_iconst (pc := 1) (v := 0) h dX5_read_1 (by decide) ?_
  refine V_put (pc := 2) h 3 1 (0 : Int32) fp_X5_15_X8 oC_3 rfl rfl rfl rfl dX5_read_2 (fun S1 => ?_)
  refine V_aload_n (pc := 5) h 0 dX5_read_5 rfl rfl ?_
  refine V_callUV (pc := 6) (dy := 1) (q := (RX8, TX8, 8)) h [] [] 3 mu_X5_19_X8 oC_3 rfl dX5_read_6 rfl rfl (Nat.le_of_ble_eq_true rfl) (Nat.le_trans (by decide) hD) (c_StreetReader_begin S1) (fun z9 hz9 => c_StreetReader_begin_ct h.gg (Nat.le_refl 1) S1 z9 hz9) (fun S2 => ?_)
  refine V_iconst (pc := 9) (v := 0) h dX5_read_9 (by decide) ?_
  refine V_istore_n (pc := 10) h [(1, .int (0 : Int32)), (0, .ref (a 3))] dX5_read_10 rfl (by decide) rfl ?_
  exact V_ls [1, 0] rfl (c_Reader_read_3_h11_ok h hr hlk hD FU (0 : Int32) S2)
theorem c_Reader_read_3_ct {d : Nat} (g : GG s0 args0 D ca a A) (hD : 7 ≤ d) (S : St) (z : Int32 × St) (hz : c_Reader_read_3 S = some z) : CtI l yX5_read cX5_read 2 .int d s0 D ca tpC a A [.ref (a 3)] S z := CtI_mk g (by decide +kernel) (Nat.le_of_ble_eq_true rfl) hz (fun p e s m args below meth c h hr hlk => c_Reader_read_3_ok h hr hlk hD S)
def c_N_fault (v1 : Int32) (S : St) : Option (Int32 × St) := (if v1 = 0 then (bI (c_Reader_read_3 S) (fun x4 S3 => (some (x4, S3)))) else (if v1 = (1 : Int32) then (bI (c_Reader_read_13 S) (fun x2 S1 => (some (x2, S1)))) else (some ((-2 : Int32), S))))
set_option maxHeartbeats 4000000 in
set_option maxRecDepth 100000 in
theorem c_N_fault_ok {d : Nat} (h : Cx p s m c cX10_fault 2 RX10 s0 args0 D ca a A) (hr : meth.sig.returnType = some .int) (hlk : meth.locks = false) (hD : 48 ≤ d) (v1 : Int32) (S : St) : VV p l e (rmd d) s m args below meth c D ca tpC a A 2 (QmI D ca tpC a A below args s) S [(0, .ref (a 0)), (1, .int v1)] 0 [] (c_N_fault v1 S) := by
  unfold c_N_fault
  refine V_iload_n (pc := 0) h 1 dX10_fault_0 rfl rfl ?_
  refine V_if_ne (pc := 1) h 12 dX10_fault_1 (by decide) ?_ ?_
  · refine V_iload_n (pc := 12) h 1 dX10_fault_12 rfl rfl ?_
    refine V_iconst (pc := 13) (v := 1) h dX10_fault_13 (by decide) ?_
    refine V_icmp_ne (pc := 14) h 25 dX10_fault_14 (by decide) ?_ ?_
    · refine V_bipush (pc := 25) (v := -2) h dX10_fault_25 (by decide) ?_
      exact V_iret (pc := 27) h hr hlk dX10_fault_27
    · refine V_aload_n (pc := 17) h 0 dX10_fault_17 rfl rfl ?_
      refine V_get (pc := 18) h 0 2 (.ref (a 13)) fl_X10_28_X10 oC_0 rfl rfl dX10_fault_18 ?_
      refine V_callUI (pc := 21) (dy := 47) (q := (RX2, TX2, 4)) h [] [] 13 mu_X10_114_X2 oC_13 rfl dX10_fault_21 rfl rfl (Nat.le_of_ble_eq_true rfl) (Nat.le_trans (by decide) hD) (c_Reader_read_13 S) (fun z9 hz9 => c_Reader_read_13_ct h.gg (Nat.le_refl 47) S z9 hz9) (fun x2 S1 => ?_)
      exact V_iret (pc := 24) h hr hlk dX10_fault_24
  · refine V_aload_n (pc := 4) h 0 dX10_fault_4 rfl rfl ?_
    refine V_get (pc := 5) h 0 1 (.ref (a 3)) fl_X10_21_X10 oC_0 rfl rfl dX10_fault_5 ?_
    refine V_callUI (pc := 8) (dy := 7) (q := (RX8, TX8, 8)) h [] [] 3 mu_X10_110_X8 oC_3 rfl dX10_fault_8 rfl rfl (Nat.le_of_ble_eq_true rfl) (Nat.le_trans (by decide) hD) (c_Reader_read_3 S) (fun z9 hz9 => c_Reader_read_3_ct h.gg (Nat.le_refl 7) S z9 hz9) (fun x4 S3 => ?_)
    exact V_iret (pc := 11) h hr hlk dX10_fault_11
theorem c_N_fault_ct {d : Nat} (g : GG s0 args0 D ca a A) (hD : 48 ≤ d) (v1 : Int32) (S : St) (z : Int32 × St) (hz : c_N_fault v1 S = some z) : CtI l yX10_fault cX10_fault 2 .int d s0 D ca tpC a A [.ref (a 0), .int v1] S z := CtI_mk g (by decide +kernel) (Nat.le_of_ble_eq_true rfl) hz (fun p e s m args below meth c h hr hlk => c_N_fault_ok h hr hlk hD v1 S)
end GEN
