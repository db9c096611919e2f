section GEN
variable {p : Program} {l : Launch} {e : Env} {s : State} {m : MethodId} {args : Array Value} {below : List Frame} {meth : Method} {c : Code}
variable {D : va_G} {ca : Nat → ClassId} {tp : List ODt} {a : Nat → Nat} {A : Nat → Prop} {s0 : State} {args0 : Array Value} {t : Nat}
def c_Reader_next_13_b44 (S : St) : Option (Int32 × St) := (if (S 1 1) ≤ (S 13 1) then (some ((0 : Int32), S)) else (ckM (S 13 1) 160 (some ((S 2 (S 13 1).toNatClampNeg), S))))
set_option maxHeartbeats 4000000 in
set_option maxRecDepth 100000 in
theorem c_Reader_next_13_b44_ok {d : Nat} (h : Cx p s m c cX5_next 1 RX5 s0 args0 D ca a A) (hr : meth.sig.returnType = some .int) (hlk : meth.locks = false) (hD : 1 ≤ d) (S : St) : VV p l e (rmd d) s m args below meth c D ca tpC a A 1 (QmI D ca tpC a A below args s) S [(0, .ref (a 13))] 44 [] (c_Reader_next_13_b44 S) := by
  unfold c_Reader_next_13_b44
  refine V_aload_n (pc := 44) h 0 dX5_next_44 rfl rfl ?_
  refine V_get (pc := 45) h 13 1 (.int (S 13 1)) fl_X5_15_X2 oC_13 rfl rfl dX5_next_45 ?_
  refine V_aload_n (pc := 48) h 0 dX5_next_48 rfl rfl ?_
  refine V_get (pc := 49) h 13 0 (.ref (a 1)) fl_X5_9_X2 oC_13 rfl rfl dX5_next_49 ?_
  refine V_get (pc := 52) h 1 1 (.int (S 1 1)) fl_X5_37_X9 oC_1 rfl rfl dX5_next_52 ?_
  refine V_icmp_ge (pc := 55) h 73 dX5_next_55 (by decide) ?_ ?_
  · refine V_iconst (pc := 73) (v := 0) h dX5_next_73 (by decide) ?_
    exact V_iret (pc := 74) h hr hlk dX5_next_74
  · refine V_aload_n (pc := 58) h 0 dX5_next_58 rfl rfl ?_
    refine V_get (pc := 59) h 13 0 (.ref (a 1)) fl_X5_9_X2 oC_13 rfl rfl dX5_next_59 ?_
    refine V_get (pc := 62) h 1 0 (.ref (a 2)) fl_X5_42_X9 oC_1 rfl rfl dX5_next_62 ?_
    refine V_aload_n (pc := 65) h 0 dX5_next_65 rfl rfl ?_
    refine V_get (pc := 66) h 13 1 (.int (S 13 1)) fl_X5_15_X2 oC_13 rfl rfl dX5_next_66 ?_
    refine V_iald (pc := 69) h 2 oC_2 dX5_next_69 ?_
    refine V_goto (pc := 70) h 74 dX5_next_70 (by decide) ?_
    exact V_iret (pc := 74) h hr hlk dX5_next_74
def c_Reader_next_13_h0 : Nat → St → Option (Int32 × St)
  | 0, _ => none
  | n + 1, S => (if (S 1 1) ≤ (S 13 1) then (c_Reader_next_13_b44 S) else (ckM (S 13 1) 160 (if (S 2 (S 13 1).toNatClampNeg) = (32 : Int32) then (bnd (up2 S 13 1 ((S 13 1) + (1 : Int32))) (fun S1 => ((c_Reader_next_13_h0 n) S1))) else (c_Reader_next_13_b44 S))))
set_option maxHeartbeats 4000000 in
set_option maxRecDepth 100000 in
theorem c_Reader_next_13_h0_ok {d : Nat} (h : Cx p s m c cX5_next 1 RX5 s0 args0 D ca a A) (hr : meth.sig.returnType = some .int) (hlk : meth.locks = false) (hD : 1 ≤ d) : ∀ (n : Nat) (S : St), VV p l e (rmd d) s m args below meth c D ca tpC a A 1 (QmI D ca tpC a A below args s) S [(0, .ref (a 13))] 0 [] (c_Reader_next_13_h0 n S) := by
  intro n
  induction n with
  | zero => intro S; exact V_none
  | succ n ih =>
    intro S
    unfold c_Reader_next_13_h0
    refine V_aload_n (pc := 0) h 0 dX5_next_0 rfl rfl ?_
    refine V_get (pc := 1) h 13 1 (.int (S 13 1)) fl_X5_15_X2 oC_13 rfl rfl dX5_next_1 ?_
    refine V_aload_n (pc := 4) h 0 dX5_next_4 rfl rfl ?_
    refine V_get (pc := 5) h 13 0 (.ref (a 1)) fl_X5_9_X2 oC_13 rfl rfl dX5_next_5 ?_
    refine V_get (pc := 8) h 1 1 (.int (S 1 1)) fl_X5_37_X9 oC_1 rfl rfl dX5_next_8 ?_
    refine V_icmp_ge (pc := 11) h 44 dX5_next_11 (by decide) ?_ ?_
    · exact V_ls [0] rfl (c_Reader_next_13_b44_ok h hr hlk hD S)
    · refine V_aload_n (pc := 14) h 0 dX5_next_14 rfl rfl ?_
      refine V_get (pc := 15) h 13 0 (.ref (a 1)) fl_X5_9_X2 oC_13 rfl rfl dX5_next_15 ?_
      refine V_get (pc := 18) h 1 0 (.ref (a 2)) fl_X5_42_X9 oC_1 rfl rfl dX5_next_18 ?_
      refine V_aload_n (pc := 21) h 0 dX5_next_21 rfl rfl ?_
      refine V_get (pc := 22) h 13 1 (.int (S 13 1)) fl_X5_15_X2 oC_13 rfl rfl dX5_next_22 ?_
      refine V_iald (pc := 25) h 2 oC_2 dX5_next_25 ?_
      refine V_bipush (pc := 26) (v := 32) h dX5_next_26 (by decide) ?_
      refine V_icmp_ne (pc := 28) h 44 dX5_next_28 (by decide) ?_ ?_
      · exact V_ls [0] rfl (c_Reader_next_13_b44_ok h hr hlk hD S)
      · refine V_aload_n (pc := 31) h 0 dX5_next_31 rfl rfl ?_
        refine V_dup (pc := 32) h dX5_next_32 rfl ?_
        refine V_get (pc := 33) h 13 1 (.int (S 13 1)) fl_X5_15_X2 oC_13 rfl rfl dX5_next_33 ?_
        refine V_iconst (pc := 36) (v := 1) h dX5_next_36 (by decide) ?_
        refine V_iadd (pc := 37) h dX5_next_37 ?_
        refine V_put (pc := 38) h 13 1 ((S 13 1) + (1 : Int32)) fp_X5_15_X2 oC_13 rfl rfl rfl rfl dX5_next_38 (fun S1 => ?_)
        refine V_goto (pc := 41) h 0 dX5_next_41 (by decide) ?_
        exact V_ls [0] rfl (ih  S1)
def c_Reader_next_13 (S : St) : Option (Int32 × St) := (c_Reader_next_13_h0 FU S)
set_option maxHeartbeats 4000000 in
set_option maxRecDepth 100000 in
theorem c_Reader_next_13_ok {d : Nat} (h : Cx p s m c cX5_next 1 RX5 s0 args0 D ca a A) (hr : meth.sig.returnType = some .int) (hlk : meth.locks = false) (hD : 1 ≤ d) (S : St) : VV p l e (rmd d) s m args below meth c D ca tpC a A 1 (QmI D ca tpC a A below args s) S [(0, .ref (a 13))] 0 [] (c_Reader_next_13 S) := by
  unfold c_Reader_next_13
  exact V_ls [0] rfl (c_Reader_next_13_h0_ok h hr hlk hD FU S)
theorem c_Reader_next_13_ct {d : Nat} (g : GG s0 args0 D ca a A) (hD : 1 ≤ d) (S : St) (z : Int32 × St) (hz : c_Reader_next_13 S = some z) : CtI l yX5_next cX5_next 1 .int d s0 D ca tpC a A [.ref (a 13)] S z := CtI_mk g (by decide +kernel) (Nat.le_of_ble_eq_true rfl) hz (fun p e s m args below meth c h hr hlk => c_Reader_next_13_ok h hr hlk hD S)
def c_LikingReader_write (v1 : Int32) (v2 : Int32) (S : St) : Option St := (if (160 : Int32) ≤ (S 13 3) then (some S) else (ckM (S 13 3) 160 (bnd (up2 S 14 (S 13 3).toNatClampNeg ((v2 <<< ((8 : Int32) &&& 31)) ||| v1)) (fun S1 => (bnd (up2 S1 13 3 ((S1 13 3) + (1 : Int32))) (fun S2 => (some S2)))))))
set_option maxHeartbeats 4000000 in
set_option maxRecDepth 100000 in
theorem c_LikingReader_write_ok {d : Nat} (h : Cx p s m c cX2_write 3 RX2 s0 args0 D ca a A) (hr : meth.sig.returnType = none) (hlk : meth.locks = false) (hD : 1 ≤ d) (v1 : Int32) (v2 : Int32) (S : St) : VV p l e (rmd d) s m args below meth c D ca tpC a A 3 (QmV D ca tpC a A below args s) S [(0, .ref (a 13)), (1, .int v1), (2, .int v2)] 0 [] (c_LikingReader_write v1 v2 S) := by
  unfold c_LikingReader_write
  refine V_aload_n (pc := 0) h 0 dX2_write_0 rfl rfl ?_
  refine V_get (pc := 1) h 13 3 (.int (S 13 3)) fl_X2_15_X2 oC_13 rfl rfl dX2_write_1 ?_
  refine V_aload_n (pc := 4) h 0 dX2_write_4 rfl rfl ?_
  refine V_get (pc := 5) h 13 2 (.ref (a 14)) fl_X2_9_X2 oC_13 rfl rfl dX2_write_5 ?_
  refine V_alen (pc := 8) h 14 (160 : Int32) oC_14 (by decide) (by decide) dX2_write_8 ?_
  refine V_icmp_ge (pc := 9) h 37 dX2_write_9 (by decide) ?_ ?_
  · exact V_vret (pc := 37) h hr hlk dX2_write_37
  · refine V_aload_n (pc := 12) h 0 dX2_write_12 rfl rfl ?_
    refine V_get (pc := 13) h 13 2 (.ref (a 14)) fl_X2_9_X2 oC_13 rfl rfl dX2_write_13 ?_
    refine V_aload_n (pc := 16) h 0 dX2_write_16 rfl rfl ?_
    refine V_get (pc := 17) h 13 3 (.int (S 13 3)) fl_X2_15_X2 oC_13 rfl rfl dX2_write_17 ?_
    refine V_iload_n (pc := 20) h 2 dX2_write_20 rfl rfl ?_
    refine V_bipush (pc := 21) (v := 8) h dX2_write_21 (by decide) ?_
    refine V_ishl (pc := 23) h dX2_write_23 ?_
    refine V_iload_n (pc := 24) h 1 dX2_write_24 rfl rfl ?_
    refine V_ior (pc := 25) h dX2_write_25 ?_
    refine V_iast (pc := 26) h 14 oC_14 dX2_write_26 (fun S1 => ?_)
    refine V_aload_n (pc := 27) h 0 dX2_write_27 rfl rfl ?_
    refine V_dup (pc := 28) h dX2_write_28 rfl ?_
    refine V_get (pc := 29) h 13 3 (.int (S1 13 3)) fl_X2_15_X2 oC_13 rfl rfl dX2_write_29 ?_
    refine V_iconst (pc := 32) (v := 1) h dX2_write_32 (by decide) ?_
    refine V_iadd (pc := 33) h dX2_write_33 ?_
    refine V_put (pc := 34) h 13 3 ((S1 13 3) + (1 : Int32)) fp_X2_15_X2 oC_13 rfl rfl rfl rfl dX2_write_34 (fun S2 => ?_)
    exact V_vret (pc := 37) h hr hlk dX2_write_37
theorem c_LikingReader_write_ct {d : Nat} (g : GG s0 args0 D ca a A) (hD : 1 ≤ d) (v1 : Int32) (v2 : Int32) (S : St) (z : St) (hz : c_LikingReader_write v1 v2 S = some z) : CtV l yX2_write cX2_write 3 d s0 D ca tpC a A [.ref (a 13), .int v1, .int v2] S z := CtV_mk g (by decide +kernel) (Nat.le_of_ble_eq_true rfl) hz (fun p e s m args below meth c h hr hlk => c_LikingReader_write_ok h hr hlk hD v1 v2 S)
def c_Reader_takes_13 (v1 : Int32) (S : St) : Option (Int32 × St) := (bI (c_Reader_next_13 S) (fun x2 S1 => (if x2 = v1 then (bnd (up2 S1 13 1 ((S1 13 1) + (1 : Int32))) (fun S3 => (nzM (1 : Int32) (some ((1 : Int32), S3))))) else (nzM (0 : Int32) (some ((0 : Int32), S1))))))
set_option maxHeartbeats 4000000 in
set_option maxRecDepth 100000 in
theorem c_Reader_takes_13_ok {d : Nat} (h : Cx p s m c cX5_takes 2 RX5 s0 args0 D ca a A) (hr : meth.sig.returnType = some .boolean) (hlk : meth.locks = false) (hD : 2 ≤ d) (v1 : Int32) (S : St) : VV p l e (rmd d) s m args below meth c D ca tpC a A 2 (QmI D ca tpC a A below args s) S [(0, .ref (a 13)), (1, .int v1)] 0 [] (c_Reader_takes_13 v1 S) := by
  unfold c_Reader_takes_13
  refine V_aload_n (pc := 0) h 0 dX5_takes_0 rfl rfl ?_
  refine V_callUI (pc := 1) (dy := 1) (q := (RX2, TX2, 4)) h [] [] 13 mu_X5_26_X2 oC_13 rfl dX5_takes_1 rfl rfl (Nat.le_of_ble_eq_true rfl) (Nat.le_trans (by decide) hD) (c_Reader_next_13 S) (fun z9 hz9 => c_Reader_next_13_ct h.gg (Nat.le_refl 1) S z9 hz9) (fun x2 S1 => ?_)
  refine V_iload_n (pc := 4) h 1 dX5_takes_4 rfl rfl ?_
  refine V_icmp_eq (pc := 5) h 10 dX5_takes_5 (by decide) ?_ ?_
  · refine V_aload_n (pc := 10) h 0 dX5_takes_10 rfl rfl ?_
    refine V_dup (pc := 11) h dX5_takes_11 rfl ?_
    refine V_get (pc := 12) h 13 1 (.int (S1 13 1)) fl_X5_15_X2 oC_13 rfl rfl dX5_takes_12 ?_
    refine V_iconst (pc := 15) (v := 1) h dX5_takes_15 (by decide) ?_
    refine V_iadd (pc := 16) h dX5_takes_16 ?_
    refine V_put (pc := 17) h 13 1 ((S1 13 1) + (1 : Int32)) fp_X5_15_X2 oC_13 rfl rfl rfl rfl dX5_takes_17 (fun S3 => ?_)
    refine V_iconst (pc := 20) (v := 1) h dX5_takes_20 (by decide) ?_
    exact V_zret (pc := 21) h hr hlk dX5_takes_21
  · refine V_iconst (pc := 8) (v := 0) h dX5_takes_8 (by decide) ?_
    exact V_zret (pc := 9) h hr hlk dX5_takes_9
theorem c_Reader_takes_13_ct {d : Nat} (g : GG s0 args0 D ca a A) (hD : 2 ≤ d) (v1 : Int32) (S : St) (z : Int32 × St) (hz : c_Reader_takes_13 v1 S = some z) : CtI l yX5_takes cX5_takes 2 .boolean d s0 D ca tpC a A [.ref (a 13), .int v1] S z := CtI_mk g (by decide +kernel) (Nat.le_of_ble_eq_true rfl) hz (fun p e s m args below meth c h hr hlk => c_Reader_takes_13_ok h hr hlk hD v1 S)
def c_LikingReader_isComparison (v0 : Int32) (S : St) : Option (Int32 × St) := (if v0 = (61 : Int32) then (nzM (1 : Int32) (some ((1 : Int32), S))) else (if v0 = (60 : Int32) then (nzM (1 : Int32) (some ((1 : Int32), S))) else (if v0 = (62 : Int32) then (nzM (1 : Int32) (some ((1 : Int32), S))) else (nzM (0 : Int32) (some ((0 : Int32), S))))))
set_option maxHeartbeats 4000000 in
set_option maxRecDepth 100000 in
theorem c_LikingReader_isComparison_ok {d : Nat} (h : Cx p s m c cX2_isComparison 1 RX2 s0 args0 D ca a A) (hr : meth.sig.returnType = some .boolean) (hlk : meth.locks = false) (hD : 1 ≤ d) (v0 : Int32) (S : St) : VV p l e (rmd d) s m args below meth c D ca tpC a A 1 (QmI D ca tpC a A below args s) S [(0, .int v0)] 0 [] (c_LikingReader_isComparison v0 S) := by
  unfold c_LikingReader_isComparison
  refine V_iload_n (pc := 0) h 0 dX2_isComparison_0 rfl rfl ?_
  refine V_bipush (pc := 1) (v := 61) h dX2_isComparison_1 (by decide) ?_
  refine V_icmp_eq (pc := 3) h 18 dX2_isComparison_3 (by decide) ?_ ?_
  · refine V_iconst (pc := 18) (v := 1) h dX2_isComparison_18 (by decide) ?_
    refine V_goto (pc := 19) h 23 dX2_isComparison_19 (by decide) ?_
    exact V_zret (pc := 23) h hr hlk dX2_isComparison_23
  · refine V_iload_n (pc := 6) h 0 dX2_isComparison_6 rfl rfl ?_
    refine V_bipush (pc := 7) (v := 60) h dX2_isComparison_7 (by decide) ?_
    refine V_icmp_eq (pc := 9) h 18 dX2_isComparison_9 (by decide) ?_ ?_
    · refine V_iconst (pc := 18) (v := 1) h dX2_isComparison_18 (by decide) ?_
      refine V_goto (pc := 19) h 23 dX2_isComparison_19 (by decide) ?_
      exact V_zret (pc := 23) h hr hlk dX2_isComparison_23
    · refine V_iload_n (pc := 12) h 0 dX2_isComparison_12 rfl rfl ?_
      refine V_bipush (pc := 13) (v := 62) h dX2_isComparison_13 (by decide) ?_
      refine V_icmp_ne (pc := 15) h 22 dX2_isComparison_15 (by decide) ?_ ?_
      · refine V_iconst (pc := 22) (v := 0) h dX2_isComparison_22 (by decide) ?_
        exact V_zret (pc := 23) h hr hlk dX2_isComparison_23
      · refine V_iconst (pc := 18) (v := 1) h dX2_isComparison_18 (by decide) ?_
        refine V_goto (pc := 19) h 23 dX2_isComparison_19 (by decide) ?_
        exact V_zret (pc := 23) h hr hlk dX2_isComparison_23
theorem c_LikingReader_isComparison_ct {d : Nat} (g : GG s0 args0 D ca a A) (hD : 1 ≤ d) (v0 : Int32) (S : St) (z : Int32 × St) (hz : c_LikingReader_isComparison v0 S = some z) : CtI l yX2_isComparison cX2_isComparison 1 .boolean d s0 D ca tpC a A [.int v0] S z := CtI_mk g (by decide +kernel) (Nat.le_of_ble_eq_true rfl) hz (fun p e s m args below meth c h hr hlk => c_LikingReader_isComparison_ok h hr hlk hD v0 S)
def j_String_isLatin1_aae02 (i0 : Nat) (S : St) : Option (Int32 × St) := (if (1 : Int32) = 0 then (nzM (0 : Int32) (some ((0 : Int32), S))) else (if (0 : Int32) = 0 then (nzM (1 : Int32) (some ((1 : Int32), S))) else (nzM (0 : Int32) (some ((0 : Int32), S)))))
set_option maxHeartbeats 4000000 in
set_option maxRecDepth 100000 in
theorem j_String_isLatin1_aae02_ok {d : Nat} (h : Cx p s m c cJ0_isLatin1_aae02 1 RJ0 s0 args0 D ca a A) (hr : meth.sig.returnType = some .boolean) (hlk : meth.locks = false) (hD : 1 ≤ d) (i0 : Nat) (hi0 : i0 < 7) (S : St) : VV p l e (rmd d) s m args below meth c D ca tp a A 1 (QmI D ca tp a A below args s) S [(0, .ref (a (200 + i0)))] 0 [] (j_String_isLatin1_aae02 i0 S) := by
  unfold j_String_isLatin1_aae02
  refine V_getsC (pc := 0) h tw_2_207 dJ0_isLatin1_aae02_0 ?_
  refine V_if_eq (pc := 3) h 17 dJ0_isLatin1_aae02_3 (by decide) ?_ ?_
  · refine V_iconst (pc := 17) (v := 0) h dJ0_isLatin1_aae02_17 (by decide) ?_
    exact V_zret (pc := 18) h hr hlk dJ0_isLatin1_aae02_18
  · refine V_aload_n (pc := 6) h 0 dJ0_isLatin1_aae02_6 rfl rfl ?_
    refine V_strcod (pc := 7) h i0 hi0 tw_7_187 dJ0_isLatin1_aae02_7 ?_
    refine V_if_ne (pc := 10) h 17 dJ0_isLatin1_aae02_10 (by decide) ?_ ?_
    · refine V_iconst (pc := 17) (v := 0) h dJ0_isLatin1_aae02_17 (by decide) ?_
      exact V_zret (pc := 18) h hr hlk dJ0_isLatin1_aae02_18
    · refine V_iconst (pc := 13) (v := 1) h dJ0_isLatin1_aae02_13 (by decide) ?_
      refine V_goto (pc := 14) h 18 dJ0_isLatin1_aae02_14 (by decide) ?_
      exact V_zret (pc := 18) h hr hlk dJ0_isLatin1_aae02_18
theorem j_String_isLatin1_aae02_ct {d : Nat} (g : GG s0 args0 D ca a A) (hD : 1 ≤ d) {i0 : Nat} (hi0 : i0 < 7) (S : St) (z : Int32 × St) (hz : j_String_isLatin1_aae02 i0 S = some z) : CtI l yJ0_isLatin1_aae02 cJ0_isLatin1_aae02 1 .boolean d s0 D ca tp a A [.ref (a (200 + i0))] S z := CtI_mk g (by decide +kernel) (Nat.le_of_ble_eq_true rfl) hz (fun p e s m args below meth c h hr hlk => j_String_isLatin1_aae02_ok h hr hlk hD i0 hi0 S)
def j_String_coder_7d493 (i0 : Nat) (S : St) : Option (Int32 × St) := (if (1 : Int32) = 0 then (nbM (1 : Int32) (some ((1 : Int32), S))) else (nbM (0 : Int32) (some ((0 : Int32), S))))
set_option maxHeartbeats 4000000 in
set_option maxRecDepth 100000 in
theorem j_String_coder_7d493_ok {d : Nat} (h : Cx p s m c cJ0_coder_7d493 1 RJ0 s0 args0 D ca a A) (hr : meth.sig.returnType = some .byte) (hlk : meth.locks = false) (hD : 1 ≤ d) (i0 : Nat) (hi0 : i0 < 7) (S : St) : VV p l e (rmd d) s m args below meth c D ca tp a A 1 (QmI D ca tp a A below args s) S [(0, .ref (a (200 + i0)))] 0 [] (j_String_coder_7d493 i0 S) := by
  unfold j_String_coder_7d493
  refine V_getsC (pc := 0) h tw_2_207 dJ0_coder_7d493_0 ?_
  refine V_if_eq (pc := 3) h 13 dJ0_coder_7d493_3 (by decide) ?_ ?_
  · refine V_iconst (pc := 13) (v := 1) h dJ0_coder_7d493_13 (by decide) ?_
    exact V_bret (pc := 14) h hr hlk dJ0_coder_7d493_14
  · refine V_aload_n (pc := 6) h 0 dJ0_coder_7d493_6 rfl rfl ?_
    refine V_strcod (pc := 7) h i0 hi0 tw_7_187 dJ0_coder_7d493_7 ?_
    refine V_goto (pc := 10) h 14 dJ0_coder_7d493_10 (by decide) ?_
    exact V_bret (pc := 14) h hr hlk dJ0_coder_7d493_14
theorem j_String_coder_7d493_ct {d : Nat} (g : GG s0 args0 D ca a A) (hD : 1 ≤ d) {i0 : Nat} (hi0 : i0 < 7) (S : St) (z : Int32 × St) (hz : j_String_coder_7d493 i0 S = some z) : CtI l yJ0_coder_7d493 cJ0_coder_7d493 1 .byte d s0 D ca tp a A [.ref (a (200 + i0))] S z := CtI_mk g (by decide +kernel) (Nat.le_of_ble_eq_true rfl) hz (fun p e s m args below meth c h hr hlk => j_String_coder_7d493_ok h hr hlk hD i0 hi0 S)
def j_String_length_8abf5 (i0 : Nat) (S : St) : Option (Int32 × St) := (bI (j_String_coder_7d493 i0 S) (fun x2 S1 => (some (((Int32.ofNat (sbs i0).length) >>> (x2 &&& 31)), S1))))
set_option maxHeartbeats 4000000 in
set_option maxRecDepth 100000 in
theorem j_String_length_8abf5_ok {d : Nat} (h : Cx p s m c cJ0_length_8abf5 1 RJ0 s0 args0 D ca a A) (hr : meth.sig.returnType = some .int) (hlk : meth.locks = false) (hD : 2 ≤ d) (i0 : Nat) (hi0 : i0 < 7) (S : St) : VV p l e (rmd d) s m args below meth c D ca tp a A 1 (QmI D ca tp a A below args s) S [(0, .ref (a (200 + i0)))] 0 [] (j_String_length_8abf5 i0 S) := by
  unfold j_String_length_8abf5
  refine V_aload_n (pc := 0) h 0 dJ0_length_8abf5_0 rfl rfl ?_
  refine V_strval (pc := 1) h i0 hi0 tw_7_188 dJ0_length_8abf5_1 ?_
  refine V_svlen (pc := 4) h i0 hi0 dJ0_length_8abf5_4 ?_
  refine V_aload_n (pc := 5) h 0 dJ0_length_8abf5_5 rfl rfl ?_
  refine V_callOI (pc := 6) (dy := 1) h [] [.int (Int32.ofNat (sbs i0).length)] i0 hi0 mv_J0_335 dJ0_length_8abf5_6 rfl rfl (Nat.le_of_ble_eq_true rfl) (Nat.le_trans (by decide) hD) (j_String_coder_7d493 i0 S) (fun z9 hz9 => j_String_coder_7d493_ct h.gg (Nat.le_refl 1) hi0 S z9 hz9) (fun x2 S1 => ?_)
  refine V_ishr (pc := 9) h dJ0_length_8abf5_9 ?_
  exact V_iret (pc := 10) h hr hlk dJ0_length_8abf5_10
theorem j_String_length_8abf5_ct {d : Nat} (g : GG s0 args0 D ca a A) (hD : 2 ≤ d) {i0 : Nat} (hi0 : i0 < 7) (S : St) (z : Int32 × St) (hz : j_String_length_8abf5 i0 S = some z) : CtI l yJ0_length_8abf5 cJ0_length_8abf5 1 .int d s0 D ca tp a A [.ref (a (200 + i0))] S z := CtI_mk g (by decide +kernel) (Nat.le_of_ble_eq_true rfl) hz (fun p e s m args below meth c h hr hlk => j_String_length_8abf5_ok h hr hlk hD i0 hi0 S)
def j_StringLatin1_canEncode_9a6ad (v0 : Int32) (S : St) : Option (Int32 × St) := (if v0 < 0 then (nzM (0 : Int32) (some ((0 : Int32), S))) else (if (255 : Int32) < v0 then (nzM (0 : Int32) (some ((0 : Int32), S))) else (nzM (1 : Int32) (some ((1 : Int32), S)))))
set_option maxHeartbeats 4000000 in
set_option maxRecDepth 100000 in
theorem j_StringLatin1_canEncode_9a6ad_ok {d : Nat} (h : Cx p s m c cJ1_canEncode_9a6ad 1 RJ1 s0 args0 D ca a A) (hr : meth.sig.returnType = some .boolean) (hlk : meth.locks = false) (hD : 1 ≤ d) (v0 : Int32) (S : St) : VV p l e (rmd d) s m args below meth c D ca tp a A 1 (QmI D ca tp a A below args s) S [(0, .int v0)] 0 [] (j_StringLatin1_canEncode_9a6ad v0 S) := by
  unfold j_StringLatin1_canEncode_9a6ad
  refine V_iload_n (pc := 0) h 0 dJ1_canEncode_9a6ad_0 rfl rfl ?_
  refine V_if_lt (pc := 1) h 15 dJ1_canEncode_9a6ad_1 (by decide) ?_ ?_
  · refine V_iconst (pc := 15) (v := 0) h dJ1_canEncode_9a6ad_15 (by decide) ?_
    exact V_zret (pc := 16) h hr hlk dJ1_canEncode_9a6ad_16
  · refine V_iload_n (pc := 4) h 0 dJ1_canEncode_9a6ad_4 rfl rfl ?_
    refine V_sipush (pc := 5) (v := 255) h dJ1_canEncode_9a6ad_5 (by decide) ?_
    refine V_icmp_gt (pc := 8) h 15 dJ1_canEncode_9a6ad_8 (by decide) ?_ ?_
    · refine V_iconst (pc := 15) (v := 0) h dJ1_canEncode_9a6ad_15 (by decide) ?_
      exact V_zret (pc := 16) h hr hlk dJ1_canEncode_9a6ad_16
    · refine V_iconst (pc := 11) (v := 1) h dJ1_canEncode_9a6ad_11 (by decide) ?_
      refine V_goto (pc := 12) h 16 dJ1_canEncode_9a6ad_12 (by decide) ?_
      exact V_zret (pc := 16) h hr hlk dJ1_canEncode_9a6ad_16
theorem j_StringLatin1_canEncode_9a6ad_ct {d : Nat} (g : GG s0 args0 D ca a A) (hD : 1 ≤ d) (v0 : Int32) (S : St) (z : Int32 × St) (hz : j_StringLatin1_canEncode_9a6ad v0 S = some z) : CtI l yJ1_canEncode_9a6ad cJ1_canEncode_9a6ad 1 .boolean d s0 D ca tp a A [.int v0] S z := CtI_mk g (by decide +kernel) (Nat.le_of_ble_eq_true rfl) hz (fun p e s m args below meth c h hr hlk => j_StringLatin1_canEncode_9a6ad_ok h hr hlk hD v0 S)
def j_StringLatin1_indexOfChar_4cfef_h7 (i0 : Nat) : Nat → Int32 → Int32 → Int32 → St → Option (Int32 × St)
  | 0, _, _, _, _ => none
  | n + 1, v3, v4, v5, S => (if v3 ≤ v5 then (some ((-1 : Int32), S)) else (ckM v5 (sbs i0).length (if ((sbs i0).getD v5.toNatClampNeg 0) = v4 then (some (v5, S)) else (bnd (v5 + (1 : Int32)) (fun x1 => ((j_StringLatin1_indexOfChar_4cfef_h7 i0 n) v3 v4 x1 S))))))
set_option maxHeartbeats 4000000 in
set_option maxRecDepth 100000 in
theorem j_StringLatin1_indexOfChar_4cfef_h7_ok {d : Nat} (h : Cx p s m c cJ1_indexOfChar_4cfef 6 RJ1 s0 args0 D ca a A) (hr : meth.sig.returnType = some .int) (hlk : meth.locks = false) (hD : 1 ≤ d) (i0 : Nat) (hi0 : i0 < 7) : ∀ (n : Nat) (v3 : Int32) (v4 : Int32) (v5 : Int32) (S : St), VV p l e (rmd d) s m args below meth c D ca tp a A 6 (QmI D ca tp a A below args s) S [(0, .ref (a (220 + i0))), (3, .int v3), (4, .int v4), (5, .int v5)] 7 [] (j_StringLatin1_indexOfChar_4cfef_h7 i0 n v3 v4 v5 S) := by
  intro n
  induction n with
  | zero => intro v3 v4 v5 S; exact V_none
  | succ n ih =>
    intro v3 v4 v5 S
    unfold j_StringLatin1_indexOfChar_4cfef_h7
    refine V_iload (pc := 7) h 3 dJ1_indexOfChar_4cfef_7 rfl ?_
    refine V_iload_n (pc := 9) h 1 dJ1_indexOfChar_4cfef_9 rfl rfl ?_
    refine V_icmp_ge (pc := 10) h 31 dJ1_indexOfChar_4cfef_10 (by decide) ?_ ?_
    · refine V_iconst (pc := 31) (v := -1) h dJ1_indexOfChar_4cfef_31 (by decide) ?_
      exact V_iret (pc := 32) h hr hlk dJ1_indexOfChar_4cfef_32
    · refine V_aload_n (pc := 13) h 0 dJ1_indexOfChar_4cfef_13 rfl rfl ?_
      refine V_iload (pc := 14) h 3 dJ1_indexOfChar_4cfef_14 rfl ?_
      refine V_svald (pc := 16) h i0 hi0 dJ1_indexOfChar_4cfef_16 ?_
      refine V_iload (pc := 17) h 2 dJ1_indexOfChar_4cfef_17 rfl ?_
      refine V_icmp_ne (pc := 19) h 25 dJ1_indexOfChar_4cfef_19 (by decide) ?_ ?_
      · refine V_iincB (pc := 25) h 3 (1 : Int32) (fun x1 => [(5, .int x1), (0, .ref (a (220 + i0))), (3, .int v3), (4, .int v4)]) dJ1_indexOfChar_4cfef_25 rfl (by decide) (by decide) (fun _ => rfl) (fun x1 => ?_)
        refine V_goto (pc := 28) h 7 dJ1_indexOfChar_4cfef_28 (by decide) ?_
        exact V_ls [1, 2, 3, 0] rfl (ih v3 v4 x1 S)
      · refine V_iload (pc := 22) h 3 dJ1_indexOfChar_4cfef_22 rfl ?_
        exact V_iret (pc := 24) h hr hlk dJ1_indexOfChar_4cfef_24
def j_StringLatin1_indexOfChar_4cfef (i0 : Nat) (v1 : Int32) (v2 : Int32) (v3 : Int32) (S : St) : Option (Int32 × St) := (bnd (v1.toInt8.toInt32) (fun x1 => (j_StringLatin1_indexOfChar_4cfef_h7 i0 FU v3 x1 v2 S)))
set_option maxHeartbeats 4000000 in
set_option maxRecDepth 100000 in
theorem j_StringLatin1_indexOfChar_4cfef_ok {d : Nat} (h : Cx p s m c cJ1_indexOfChar_4cfef 6 RJ1 s0 args0 D ca a A) (hr : meth.sig.returnType = some .int) (hlk : meth.locks = false) (hD : 1 ≤ d) (i0 : Nat) (hi0 : i0 < 7) (v1 : Int32) (v2 : Int32) (v3 : Int32) (S : St) : VV p l e (rmd d) s m args below meth c D ca tp a A 6 (QmI D ca tp a A below args s) S [(0, .ref (a (220 + i0))), (1, .int v1), (2, .int v2), (3, .int v3)] 0 [] (j_StringLatin1_indexOfChar_4cfef i0 v1 v2 v3 S) := by
  unfold j_StringLatin1_indexOfChar_4cfef
  refine V_iload_n (pc := 0) h 1 dJ1_indexOfChar_4cfef_0 rfl rfl ?_
  refine V_i2b (pc := 1) h dJ1_indexOfChar_4cfef_1 ?_
  refine V_top (fun x1 => ?_)
  refine V_istore (pc := 2) h [(4, .int x1), (0, .ref (a (220 + i0))), (1, .int v1), (2, .int v2), (3, .int v3)] dJ1_indexOfChar_4cfef_2 (by decide) rfl ?_
  refine V_iload_n (pc := 4) h 3 dJ1_indexOfChar_4cfef_4 rfl rfl ?_
  refine V_istore (pc := 5) h [(5, .int v2), (4, .int x1), (0, .ref (a (220 + i0))), (1, .int v1), (2, .int v2), (3, .int v3)] dJ1_indexOfChar_4cfef_5 (by decide) rfl ?_
  exact V_ls [2, 5, 1, 0] rfl (j_StringLatin1_indexOfChar_4cfef_h7_ok h hr hlk hD i0 hi0 FU v3 x1 v2 S)
theorem j_StringLatin1_indexOfChar_4cfef_ct {d : Nat} (g : GG s0 args0 D ca a A) (hD : 1 ≤ d) {i0 : Nat} (hi0 : i0 < 7) (v1 : Int32) (v2 : Int32) (v3 : Int32) (S : St) (z : Int32 × St) (hz : j_StringLatin1_indexOfChar_4cfef i0 v1 v2 v3 S = some z) : CtI l yJ1_indexOfChar_4cfef cJ1_indexOfChar_4cfef 6 .int d s0 D ca tp a A [.ref (a (220 + i0)), .int v1, .int v2, .int v3] S z := CtI_mk g (by decide +kernel) (Nat.le_of_ble_eq_true rfl) hz (fun p e s m args below meth c h hr hlk => j_StringLatin1_indexOfChar_4cfef_ok h hr hlk hD i0 hi0 v1 v2 v3 S)
def j_StringLatin1_indexOf_4cfef (i0 : Nat) (v1 : Int32) (v2 : Int32) (v3 : Int32) (S : St) : Option (Int32 × St) := (bI (j_StringLatin1_canEncode_9a6ad v1 S) (fun x2 S1 => (if x2 = 0 then (some ((-1 : Int32), S1)) else (bnd (imax v2 (0 : Int32)) (fun x3 => (bnd (imin v3 (Int32.ofNat (sbs i0).length)) (fun x4 => (if x3 < x4 then (bI (j_StringLatin1_indexOfChar_4cfef i0 v1 x3 x4 S1) (fun x6 S5 => (some (x6, S5)))) else (some ((-1 : Int32), S1))))))))))
set_option maxHeartbeats 4000000 in
set_option maxRecDepth 100000 in
theorem j_StringLatin1_indexOf_4cfef_ok {d : Nat} (h : Cx p s m c cJ1_indexOf_4cfef 4 RJ1 s0 args0 D ca a A) (hr : meth.sig.returnType = some .int) (hlk : meth.locks = false) (hD : 2 ≤ d) (i0 : Nat) (hi0 : i0 < 7) (v1 : Int32) (v2 : Int32) (v3 : Int32) (S : St) : VV p l e (rmd d) s m args below meth c D ca tp a A 4 (QmI D ca tp a A below args s) S [(0, .ref (a (220 + i0))), (1, .int v1), (2, .int v2), (3, .int v3)] 0 [] (j_StringLatin1_indexOf_4cfef i0 v1 v2 v3 S) := by
  unfold j_StringLatin1_indexOf_4cfef
  refine V_iload_n (pc := 0) h 1 dJ1_indexOf_4cfef_0 rfl rfl ?_
  refine V_callSI (pc := 1) (dy := 1) h [.int v1] [] ms_J1_88 dJ1_indexOf_4cfef_1 rfl rfl (Nat.le_of_ble_eq_true rfl) (Nat.le_trans (by decide) hD) (j_StringLatin1_canEncode_9a6ad v1 S) (fun z9 hz9 => j_StringLatin1_canEncode_9a6ad_ct h.gg (Nat.le_refl 1) v1 S z9 hz9) (fun x2 S1 => ?_)
  refine V_if_ne (pc := 4) h 9 dJ1_indexOf_4cfef_4 (by decide) ?_ ?_
  · refine V_iload_n (pc := 9) h 2 dJ1_indexOf_4cfef_9 rfl rfl ?_
    refine V_iconst (pc := 10) (v := 0) h dJ1_indexOf_4cfef_10 (by decide) ?_
    refine V_mmax (pc := 11) h dJ1_indexOf_4cfef_11 tw_2_223 tw_2_224 tw_1_16 tw_2_225 (Nat.le_trans (by decide) hD) (Nat.le_of_ble_eq_true rfl) ?_
    refine V_top (fun x3 => ?_)
    refine V_istore_n (pc := 14) h [(2, .int x3), (0, .ref (a (220 + i0))), (1, .int v1), (3, .int v3)] dJ1_indexOf_4cfef_14 rfl (by decide) rfl ?_
    refine V_iload_n (pc := 15) h 3 dJ1_indexOf_4cfef_15 rfl rfl ?_
    refine V_aload_n (pc := 16) h 1 dJ1_indexOf_4cfef_16 rfl rfl ?_
    refine V_svlen (pc := 17) h i0 hi0 dJ1_indexOf_4cfef_17 ?_
    refine V_mmin (pc := 18) h dJ1_indexOf_4cfef_18 tw_2_226 tw_2_227 tw_1_16 tw_2_228 (Nat.le_trans (by decide) hD) (Nat.le_of_ble_eq_true rfl) ?_
    refine V_top (fun x4 => ?_)
    refine V_istore_n (pc := 21) h [(3, .int x4), (2, .int x3), (0, .ref (a (220 + i0))), (1, .int v1)] dJ1_indexOf_4cfef_21 rfl (by decide) rfl ?_
    refine V_iload_n (pc := 22) h 1 dJ1_indexOf_4cfef_22 rfl rfl ?_
    refine V_iload_n (pc := 23) h 0 dJ1_indexOf_4cfef_23 rfl rfl ?_
    refine V_icmp_lt (pc := 24) h 29 dJ1_indexOf_4cfef_24 (by decide) ?_ ?_
    · refine V_aload_n (pc := 29) h 2 dJ1_indexOf_4cfef_29 rfl rfl ?_
      refine V_iload_n (pc := 30) h 3 dJ1_indexOf_4cfef_30 rfl rfl ?_
      refine V_iload_n (pc := 31) h 1 dJ1_indexOf_4cfef_31 rfl rfl ?_
      refine V_iload_n (pc := 32) h 0 dJ1_indexOf_4cfef_32 rfl rfl ?_
      refine V_callSI (pc := 33) (dy := 1) h [.ref (a (220 + i0)), .int v1, .int x3, .int x4] [] ms_J1_95 dJ1_indexOf_4cfef_33 rfl rfl (Nat.le_of_ble_eq_true rfl) (Nat.le_trans (by decide) hD) (j_StringLatin1_indexOfChar_4cfef i0 v1 x3 x4 S1) (fun z9 hz9 => j_StringLatin1_indexOfChar_4cfef_ct h.gg (Nat.le_refl 1) hi0 v1 x3 x4 S1 z9 hz9) (fun x6 S5 => ?_)
      exact V_iret (pc := 36) h hr hlk dJ1_indexOf_4cfef_36
    · refine V_iconst (pc := 27) (v := -1) h dJ1_indexOf_4cfef_27 (by decide) ?_
      exact V_iret (pc := 28) h hr hlk dJ1_indexOf_4cfef_28
  · refine V_iconst (pc := 7) (v := -1) h dJ1_indexOf_4cfef_7 (by decide) ?_
    exact V_iret (pc := 8) h hr hlk dJ1_indexOf_4cfef_8
theorem j_StringLatin1_indexOf_4cfef_ct {d : Nat} (g : GG s0 args0 D ca a A) (hD : 2 ≤ d) {i0 : Nat} (hi0 : i0 < 7) (v1 : Int32) (v2 : Int32) (v3 : Int32) (S : St) (z : Int32 × St) (hz : j_StringLatin1_indexOf_4cfef i0 v1 v2 v3 S = some z) : CtI l yJ1_indexOf_4cfef cJ1_indexOf_4cfef 4 .int d s0 D ca tp a A [.ref (a (220 + i0)), .int v1, .int v2, .int v3] S z := CtI_mk g (by decide +kernel) (Nat.le_of_ble_eq_true rfl) hz (fun p e s m args below meth c h hr hlk => j_StringLatin1_indexOf_4cfef_ok h hr hlk hD i0 hi0 v1 v2 v3 S)
def j_String_indexOf_7cf53 (i0 : Nat) (v1 : Int32) (v2 : Int32) (S : St) : Option (Int32 × St) := (bI (j_String_isLatin1_aae02 i0 S) (fun x2 S1 => (if x2 = 0 then none else (bI (j_String_length_8abf5 i0 S1) (fun x4 S3 => (bI (j_StringLatin1_indexOf_4cfef i0 v1 v2 x4 S3) (fun x6 S5 => (some (x6, S5)))))))))
set_option maxHeartbeats 4000000 in
set_option maxRecDepth 100000 in
theorem j_String_indexOf_7cf53_ok {d : Nat} (h : Cx p s m c cJ0_indexOf_7cf53 3 RJ0 s0 args0 D ca a A) (hr : meth.sig.returnType = some .int) (hlk : meth.locks = false) (hD : 3 ≤ d) (i0 : Nat) (hi0 : i0 < 7) (v1 : Int32) (v2 : Int32) (S : St) : VV p l e (rmd d) s m args below meth c D ca tp a A 3 (QmI D ca tp a A below args s) S [(0, .ref (a (200 + i0))), (1, .int v1), (2, .int v2)] 0 [] (j_String_indexOf_7cf53 i0 v1 v2 S) := by
  unfold j_String_indexOf_7cf53
  refine V_aload_n (pc := 0) h 0 dJ0_indexOf_7cf53_0 rfl rfl ?_
  refine V_callOI (pc := 1) (dy := 1) h [] [] i0 hi0 mv_J0_492 dJ0_indexOf_7cf53_1 rfl rfl (Nat.le_of_ble_eq_true rfl) (Nat.le_trans (by decide) hD) (j_String_isLatin1_aae02 i0 S) (fun z9 hz9 => j_String_isLatin1_aae02_ct h.gg (Nat.le_refl 1) hi0 S z9 hz9) (fun x2 S1 => ?_)
  refine V_if_eq (pc := 4) h 23 dJ0_indexOf_7cf53_4 (by decide) ?_ ?_
  · exact V_none
  · refine V_aload_n (pc := 7) h 0 dJ0_indexOf_7cf53_7 rfl rfl ?_
    refine V_strval (pc := 8) h i0 hi0 tw_7_188 dJ0_indexOf_7cf53_8 ?_
    refine V_iload_n (pc := 11) h 1 dJ0_indexOf_7cf53_11 rfl rfl ?_
    refine V_iload_n (pc := 12) h 2 dJ0_indexOf_7cf53_12 rfl rfl ?_
    refine V_aload_n (pc := 13) h 0 dJ0_indexOf_7cf53_13 rfl rfl ?_
    refine V_callOI (pc := 14) (dy := 2) h [] [.int v2, .int v1, .ref (a (220 + i0))] i0 hi0 mv_J0_505 dJ0_indexOf_7cf53_14 rfl rfl (Nat.le_of_ble_eq_true rfl) (Nat.le_trans (by decide) hD) (j_String_length_8abf5 i0 S1) (fun z9 hz9 => j_String_length_8abf5_ct h.gg (Nat.le_refl 2) hi0 S1 z9 hz9) (fun x4 S3 => ?_)
    refine V_callSI (pc := 17) (dy := 2) h [.ref (a (220 + i0)), .int v1, .int v2, .int x4] [] ms_J0_637 dJ0_indexOf_7cf53_17 rfl rfl (Nat.le_of_ble_eq_true rfl) (Nat.le_trans (by decide) hD) (j_StringLatin1_indexOf_4cfef i0 v1 v2 x4 S3) (fun z9 hz9 => j_StringLatin1_indexOf_4cfef_ct h.gg (Nat.le_refl 2) hi0 v1 v2 x4 S3 z9 hz9) (fun x6 S5 => ?_)
    refine V_goto (pc := 20) h 36 dJ0_indexOf_7cf53_20 (by decide) ?_
    exact V_iret (pc := 36) h hr hlk dJ0_indexOf_7cf53_36
theorem j_String_indexOf_7cf53_ct {d : Nat} (g : GG s0 args0 D ca a A) (hD : 3 ≤ d) {i0 : Nat} (hi0 : i0 < 7) (v1 : Int32) (v2 : Int32) (S : St) (z : Int32 × St) (hz : j_String_indexOf_7cf53 i0 v1 v2 S = some z) : CtI l yJ0_indexOf_7cf53 cJ0_indexOf_7cf53 3 .int d s0 D ca tp a A [.ref (a (200 + i0)), .int v1, .int v2] S z := CtI_mk g (by decide +kernel) (Nat.le_of_ble_eq_true rfl) hz (fun p e s m args below meth c h hr hlk => j_String_indexOf_7cf53_ok h hr hlk hD i0 hi0 v1 v2 S)
def j_String_indexOf_0f7a4 (i0 : Nat) (v1 : Int32) (S : St) : Option (Int32 × St) := (bI (j_String_indexOf_7cf53 i0 v1 (0 : Int32) S) (fun x2 S1 => (some (x2, S1))))
set_option maxHeartbeats 4000000 in
set_option maxRecDepth 100000 in
theorem j_String_indexOf_0f7a4_ok {d : Nat} (h : Cx p s m c cJ0_indexOf_0f7a4 2 RJ0 s0 args0 D ca a A) (hr : meth.sig.returnType = some .int) (hlk : meth.locks = false) (hD : 4 ≤ d) (i0 : Nat) (hi0 : i0 < 7) (v1 : Int32) (S : St) : VV p l e (rmd d) s m args below meth c D ca tp a A 2 (QmI D ca tp a A below args s) S [(0, .ref (a (200 + i0))), (1, .int v1)] 0 [] (j_String_indexOf_0f7a4 i0 v1 S) := by
  unfold j_String_indexOf_0f7a4
  refine V_aload_n (pc := 0) h 0 dJ0_indexOf_0f7a4_0 rfl rfl ?_
  refine V_iload_n (pc := 1) h 1 dJ0_indexOf_0f7a4_1 rfl rfl ?_
  refine V_iconst (pc := 2) (v := 0) h dJ0_indexOf_0f7a4_2 (by decide) ?_
  refine V_callOI (pc := 3) (dy := 3) h [.int v1, .int (0 : Int32)] [] i0 hi0 mv_J0_633 dJ0_indexOf_0f7a4_3 rfl rfl (Nat.le_of_ble_eq_true rfl) (Nat.le_trans (by decide) hD) (j_String_indexOf_7cf53 i0 v1 (0 : Int32) S) (fun z9 hz9 => j_String_indexOf_7cf53_ct h.gg (Nat.le_refl 3) hi0 v1 (0 : Int32) S z9 hz9) (fun x2 S1 => ?_)
  exact V_iret (pc := 6) h hr hlk dJ0_indexOf_0f7a4_6
theorem j_String_indexOf_0f7a4_ct {d : Nat} (g : GG s0 args0 D ca a A) (hD : 4 ≤ d) {i0 : Nat} (hi0 : i0 < 7) (v1 : Int32) (S : St) (z : Int32 × St) (hz : j_String_indexOf_0f7a4 i0 v1 S = some z) : CtI l yJ0_indexOf_0f7a4 cJ0_indexOf_0f7a4 2 .int d s0 D ca tp a A [.ref (a (200 + i0)), .int v1] S z := CtI_mk g (by decide +kernel) (Nat.le_of_ble_eq_true rfl) hz (fun p e s m args below meth c h hr hlk => j_String_indexOf_0f7a4_ok h hr hlk hD i0 hi0 v1 S)
def c_Reader_isAtDigit_13 (S : St) : Option (Int32 × St) := (if (S 1 1) ≤ (S 13 1) then (nzM (0 : Int32) (some ((0 : Int32), S))) else (ckM (S 13 1) 160 (if (S 2 (S 13 1).toNatClampNeg) < (48 : Int32) then (nzM (0 : Int32) (some ((0 : Int32), S))) else (ckM (S 13 1) 160 (if (57 : Int32) < (S 2 (S 13 1).toNatClampNeg) then (nzM (0 : Int32) (some ((0 : Int32), S))) else (nzM (1 : Int32) (some ((1 : Int32), S))))))))
set_option maxHeartbeats 4000000 in
set_option maxRecDepth 100000 in
theorem c_Reader_isAtDigit_13_ok {d : Nat} (h : Cx p s m c cX5_isAtDigit 1 RX5 s0 args0 D ca a A) (hr : meth.sig.returnType = some .boolean) (hlk : meth.locks = false) (hD : 1 ≤ d) (S : St) : VV p l e (rmd d) s m args below meth c D ca tpC a A 1 (QmI D ca tpC a A below args s) S [(0, .ref (a 13))] 0 [] (c_Reader_isAtDigit_13 S) := by
  unfold c_Reader_isAtDigit_13
  refine V_aload_n (pc := 0) h 0 dX5_isAtDigit_0 rfl rfl ?_
  refine V_get (pc := 1) h 13 1 (.int (S 13 1)) fl_X5_15_X2 oC_13 rfl rfl dX5_isAtDigit_1 ?_
  refine V_aload_n (pc := 4) h 0 dX5_isAtDigit_4 rfl rfl ?_
  refine V_get (pc := 5) h 13 0 (.ref (a 1)) fl_X5_9_X2 oC_13 rfl rfl dX5_isAtDigit_5 ?_
  refine V_get (pc := 8) h 1 1 (.int (S 1 1)) fl_X5_37_X9 oC_1 rfl rfl dX5_isAtDigit_8 ?_
  refine V_icmp_ge (pc := 11) h 52 dX5_isAtDigit_11 (by decide) ?_ ?_
  · refine V_iconst (pc := 52) (v := 0) h dX5_isAtDigit_52 (by decide) ?_
    exact V_zret (pc := 53) h hr hlk dX5_isAtDigit_53
  · refine V_aload_n (pc := 14) h 0 dX5_isAtDigit_14 rfl rfl ?_
    refine V_get (pc := 15) h 13 0 (.ref (a 1)) fl_X5_9_X2 oC_13 rfl rfl dX5_isAtDigit_15 ?_
    refine V_get (pc := 18) h 1 0 (.ref (a 2)) fl_X5_42_X9 oC_1 rfl rfl dX5_isAtDigit_18 ?_
    refine V_aload_n (pc := 21) h 0 dX5_isAtDigit_21 rfl rfl ?_
    refine V_get (pc := 22) h 13 1 (.int (S 13 1)) fl_X5_15_X2 oC_13 rfl rfl dX5_isAtDigit_22 ?_
    refine V_iald (pc := 25) h 2 oC_2 dX5_isAtDigit_25 ?_
    refine V_bipush (pc := 26) (v := 48) h dX5_isAtDigit_26 (by decide) ?_
    refine V_icmp_lt (pc := 28) h 52 dX5_isAtDigit_28 (by decide) ?_ ?_
    · refine V_iconst (pc := 52) (v := 0) h dX5_isAtDigit_52 (by decide) ?_
      exact V_zret (pc := 53) h hr hlk dX5_isAtDigit_53
    · refine V_aload_n (pc := 31) h 0 dX5_isAtDigit_31 rfl rfl ?_
      refine V_get (pc := 32) h 13 0 (.ref (a 1)) fl_X5_9_X2 oC_13 rfl rfl dX5_isAtDigit_32 ?_
      refine V_get (pc := 35) h 1 0 (.ref (a 2)) fl_X5_42_X9 oC_1 rfl rfl dX5_isAtDigit_35 ?_
      refine V_aload_n (pc := 38) h 0 dX5_isAtDigit_38 rfl rfl ?_
      refine V_get (pc := 39) h 13 1 (.int (S 13 1)) fl_X5_15_X2 oC_13 rfl rfl dX5_isAtDigit_39 ?_
      refine V_iald (pc := 42) h 2 oC_2 dX5_isAtDigit_42 ?_
      refine V_bipush (pc := 43) (v := 57) h dX5_isAtDigit_43 (by decide) ?_
      refine V_icmp_gt (pc := 45) h 52 dX5_isAtDigit_45 (by decide) ?_ ?_
      · refine V_iconst (pc := 52) (v := 0) h dX5_isAtDigit_52 (by decide) ?_
        exact V_zret (pc := 53) h hr hlk dX5_isAtDigit_53
      · refine V_iconst (pc := 48) (v := 1) h dX5_isAtDigit_48 (by decide) ?_
        refine V_goto (pc := 49) h 53 dX5_isAtDigit_49 (by decide) ?_
        exact V_zret (pc := 53) h hr hlk dX5_isAtDigit_53
theorem c_Reader_isAtDigit_13_ct {d : Nat} (g : GG s0 args0 D ca a A) (hD : 1 ≤ d) (S : St) (z : Int32 × St) (hz : c_Reader_isAtDigit_13 S = some z) : CtI l yX5_isAtDigit cX5_isAtDigit 1 .boolean d s0 D ca tpC a A [.ref (a 13)] S z := CtI_mk g (by decide +kernel) (Nat.le_of_ble_eq_true rfl) hz (fun p e s m args below meth c h hr hlk => c_Reader_isAtDigit_13_ok h hr hlk hD S)
def c_Reader_number_13_b62 (v2 : Int32) (S : St) : Option (Int32 × St) := (bI (c_Reader_isAtDigit_13 S) (fun x2 S1 => (if x2 = 0 then (some (v2, S1)) else (some ((-1 : Int32), S1)))))
set_option maxHeartbeats 4000000 in
set_option maxRecDepth 100000 in
theorem c_Reader_number_13_b62_ok {d : Nat} (h : Cx p s m c cX5_number 4 RX5 s0 args0 D ca a A) (hr : meth.sig.returnType = some .int) (hlk : meth.locks = false) (hD : 2 ≤ d) (v2 : Int32) (S : St) : VV p l e (rmd d) s m args below meth c D ca tpC a A 4 (QmI D ca tpC a A below args s) S [(0, .ref (a 13)), (2, .int v2)] 62 [] (c_Reader_number_13_b62 v2 S) := by
  unfold c_Reader_number_13_b62
  refine V_aload_n (pc := 62) h 0 dX5_number_62 rfl rfl ?_
  refine V_callUI (pc := 63) (dy := 1) (q := (RX2, TX2, 4)) h [] [] 13 mu_X5_46_X2 oC_13 rfl dX5_number_63 rfl rfl (Nat.le_of_ble_eq_true rfl) (Nat.le_trans (by decide) hD) (c_Reader_isAtDigit_13 S) (fun z9 hz9 => c_Reader_isAtDigit_13_ct h.gg (Nat.le_refl 1) S z9 hz9) (fun x2 S1 => ?_)
  refine V_if_eq (pc := 66) h 73 dX5_number_66 (by decide) ?_ ?_
  · refine V_iload_n (pc := 73) h 1 dX5_number_73 rfl rfl ?_
    exact V_iret (pc := 74) h hr hlk dX5_number_74
  · refine V_iconst (pc := 69) (v := -1) h dX5_number_69 (by decide) ?_
    refine V_goto (pc := 70) h 74 dX5_number_70 (by decide) ?_
    exact V_iret (pc := 74) h hr hlk dX5_number_74
def c_Reader_number_13_h13 : Nat → Int32 → Int32 → Int32 → St → Option (Int32 × St)
  | 0, _, _, _, _ => none
  | n + 1, v1, v2, v3, S => (if v1 ≤ v3 then (c_Reader_number_13_b62 v2 S) else (bI (c_Reader_isAtDigit_13 S) (fun x2 S1 => (if x2 = 0 then (c_Reader_number_13_b62 v2 S1) else (ckM (S1 13 1) 160 (bnd (((v2 * (10 : Int32)) + (S1 2 (S1 13 1).toNatClampNeg)) - (48 : Int32)) (fun x3 => (bnd (up2 S1 13 1 ((S1 13 1) + (1 : Int32))) (fun S4 => (bnd (v3 + (1 : Int32)) (fun x5 => ((c_Reader_number_13_h13 n) v1 x3 x5 S4))))))))))))
set_option maxHeartbeats 4000000 in
set_option maxRecDepth 100000 in
theorem c_Reader_number_13_h13_ok {d : Nat} (h : Cx p s m c cX5_number 4 RX5 s0 args0 D ca a A) (hr : meth.sig.returnType = some .int) (hlk : meth.locks = false) (hD : 2 ≤ d) : ∀ (n : Nat) (v1 : Int32) (v2 : Int32) (v3 : Int32) (S : St), VV p l e (rmd d) s m args below meth c D ca tpC a A 4 (QmI D ca tpC a A below args s) S [(0, .ref (a 13)), (1, .int v1), (2, .int v2), (3, .int v3)] 13 [] (c_Reader_number_13_h13 n v1 v2 v3 S) := by
  intro n
  induction n with
  | zero => intro v1 v2 v3 S; exact V_none
  | succ n ih =>
    intro v1 v2 v3 S
    unfold c_Reader_number_13_h13
    refine V_iload_n (pc := 13) h 3 dX5_number_13 rfl rfl ?_
    refine V_iload_n (pc := 14) h 1 dX5_number_14 rfl rfl ?_
    refine V_icmp_ge (pc := 15) h 62 dX5_number_15 (by decide) ?_ ?_
    · exact V_ls [0, 2] rfl (c_Reader_number_13_b62_ok h hr hlk hD v2 S)
    · refine V_aload_n (pc := 18) h 0 dX5_number_18 rfl rfl ?_
      refine V_callUI (pc := 19) (dy := 1) (q := (RX2, TX2, 4)) h [] [] 13 mu_X5_46_X2 oC_13 rfl dX5_number_19 rfl rfl (Nat.le_of_ble_eq_true rfl) (Nat.le_trans (by decide) hD) (c_Reader_isAtDigit_13 S) (fun z9 hz9 => c_Reader_isAtDigit_13_ct h.gg (Nat.le_refl 1) S z9 hz9) (fun x2 S1 => ?_)
      refine V_if_eq (pc := 22) h 62 dX5_number_22 (by decide) ?_ ?_
      · exact V_ls [0, 2] rfl (c_Reader_number_13_b62_ok h hr hlk hD v2 S1)
      · refine V_iload_n (pc := 25) h 2 dX5_number_25 rfl rfl ?_
        refine V_bipush (pc := 26) (v := 10) h dX5_number_26 (by decide) ?_
        refine V_imul (pc := 28) h dX5_number_28 ?_
        refine V_aload_n (pc := 29) h 0 dX5_number_29 rfl rfl ?_
        refine V_get (pc := 30) h 13 0 (.ref (a 1)) fl_X5_9_X2 oC_13 rfl rfl dX5_number_30 ?_
        refine V_get (pc := 33) h 1 0 (.ref (a 2)) fl_X5_42_X9 oC_1 rfl rfl dX5_number_33 ?_
        refine V_aload_n (pc := 36) h 0 dX5_number_36 rfl rfl ?_
        refine V_get (pc := 37) h 13 1 (.int (S1 13 1)) fl_X5_15_X2 oC_13 rfl rfl dX5_number_37 ?_
        refine V_iald (pc := 40) h 2 oC_2 dX5_number_40 ?_
        refine V_iadd (pc := 41) h dX5_number_41 ?_
        refine V_bipush (pc := 42) (v := 48) h dX5_number_42 (by decide) ?_
        refine V_isub (pc := 44) h dX5_number_44 ?_
        refine V_top (fun x3 => ?_)
        refine V_istore_n (pc := 45) h [(2, .int x3), (0, .ref (a 13)), (1, .int v1), (3, .int v3)] dX5_number_45 rfl (by decide) rfl ?_
        refine V_aload_n (pc := 46) h 1 dX5_number_46 rfl rfl ?_
        refine V_dup (pc := 47) h dX5_number_47 rfl ?_
        refine V_get (pc := 48) h 13 1 (.int (S1 13 1)) fl_X5_15_X2 oC_13 rfl rfl dX5_number_48 ?_
        refine V_iconst (pc := 51) (v := 1) h dX5_number_51 (by decide) ?_
        refine V_iadd (pc := 52) h dX5_number_52 ?_
        refine V_put (pc := 53) h 13 1 ((S1 13 1) + (1 : Int32)) fp_X5_15_X2 oC_13 rfl rfl rfl rfl dX5_number_53 (fun S4 => ?_)
        refine V_iincB (pc := 56) h 3 (1 : Int32) (fun x5 => [(3, .int x5), (2, .int x3), (0, .ref (a 13)), (1, .int v1)]) dX5_number_56 rfl (by decide) (by decide) (fun _ => rfl) (fun x5 => ?_)
        refine V_goto (pc := 59) h 13 dX5_number_59 (by decide) ?_
        exact V_ls [2, 3, 1, 0] rfl (ih v1 x3 x5 S4)
def c_Reader_number_13 (v1 : Int32) (S : St) : Option (Int32 × St) := (bI (c_Reader_isAtDigit_13 S) (fun x2 S1 => (if x2 = 0 then (some ((-1 : Int32), S1)) else (c_Reader_number_13_h13 FU v1 (0 : Int32) (0 : Int32) S1))))
set_option maxHeartbeats 4000000 in
set_option maxRecDepth 100000 in
theorem c_Reader_number_13_ok {d : Nat} (h : Cx p s m c cX5_number 4 RX5 s0 args0 D ca a A) (hr : meth.sig.returnType = some .int) (hlk : meth.locks = false) (hD : 2 ≤ d) (v1 : Int32) (S : St) : VV p l e (rmd d) s m args below meth c D ca tpC a A 4 (QmI D ca tpC a A below args s) S [(0, .ref (a 13)), (1, .int v1)] 0 [] (c_Reader_number_13 v1 S) := by
  unfold c_Reader_number_13
  refine V_aload_n (pc := 0) h 0 dX5_number_0 rfl rfl ?_
  refine V_callUI (pc := 1) (dy := 1) (q := (RX2, TX2, 4)) h [] [] 13 mu_X5_46_X2 oC_13 rfl dX5_number_1 rfl rfl (Nat.le_of_ble_eq_true rfl) (Nat.le_trans (by decide) hD) (c_Reader_isAtDigit_13 S) (fun z9 hz9 => c_Reader_isAtDigit_13_ct h.gg (Nat.le_refl 1) S z9 hz9) (fun x2 S1 => ?_)
  refine V_if_ne (pc := 4) h 9 dX5_number_4 (by decide) ?_ ?_
  · refine V_iconst (pc := 9) (v := 0) h dX5_number_9 (by decide) ?_
    refine V_istore_n (pc := 10) h [(2, .int (0 : Int32)), (0, .ref (a 13)), (1, .int v1)] dX5_number_10 rfl (by decide) rfl ?_
    refine V_iconst (pc := 11) (v := 0) h dX5_number_11 (by decide) ?_
    refine V_istore_n (pc := 12) h [(3, .int (0 : Int32)), (2, .int (0 : Int32)), (0, .ref (a 13)), (1, .int v1)] dX5_number_12 rfl (by decide) rfl ?_
    exact V_ls [2, 3, 1, 0] rfl (c_Reader_number_13_h13_ok h hr hlk hD FU v1 (0 : Int32) (0 : Int32) S1)
  · refine V_iconst (pc := 7) (v := -1) h dX5_number_7 (by decide) ?_
    exact V_iret (pc := 8) h hr hlk dX5_number_8
theorem c_Reader_number_13_ct {d : Nat} (g : GG s0 args0 D ca a A) (hD : 2 ≤ d) (v1 : Int32) (S : St) (z : Int32 × St) (hz : c_Reader_number_13 v1 S = some z) : CtI l yX5_number cX5_number 4 .int d s0 D ca tpC a A [.ref (a 13), .int v1] S z := CtI_mk g (by decide +kernel) (Nat.le_of_ble_eq_true rfl) hz (fun p e s m args below meth c h hr hlk => c_Reader_number_13_ok h hr hlk hD v1 S)
def c_LikingReader_readUnit_b39 (rec : Nat → Int32 → St → Option (Int32 × St)) (v1 : Int32) (v2 : Int32) (S : St) : Option (Int32 × St) := (if v1 < (6 : Int32) then (bnd (up2 S 13 1 ((S 13 1) + (1 : Int32))) (fun S1 => (if v2 = (40 : Int32) then (bI (rec 0 (v1 + (1 : Int32)) S1) (fun x6 S5 => (if x6 = 0 then (nzM (0 : Int32) (some ((0 : Int32), S5))) else (bI (rec 2 (v1 + (1 : Int32)) S5) (fun x8 S7 => (if x8 = 0 then (nzM (0 : Int32) (some ((0 : Int32), S7))) else (bI (c_Reader_takes_13 (41 : Int32) S7) (fun x10 S9 => (if x10 = 0 then (nzM (0 : Int32) (some ((0 : Int32), S9))) else (nzM (1 : Int32) (some ((1 : Int32), S9)))))))))))) else (bI (rec 0 (v1 + (1 : Int32)) S1) (fun x3 S2 => (if x3 = 0 then (nzM (0 : Int32) (some ((0 : Int32), S2))) else (bV (c_LikingReader_write (33 : Int32) (0 : Int32) S2) (fun S4 => (nzM (1 : Int32) (some ((1 : Int32), S4))))))))))) else (nzM (0 : Int32) (some ((0 : Int32), S))))
set_option maxHeartbeats 4000000 in
set_option maxRecDepth 100000 in
theorem c_LikingReader_readUnit_b39_ok {d : Nat} (h : Cx p s m c cX2_readUnit 3 RX2 s0 args0 D ca a A) (hr : meth.sig.returnType = some .boolean) (hlk : meth.locks = false) (hD : 5 ≤ d) {dr : Nat} (rec : Nat → Int32 → St → Option (Int32 × St)) (hrec : (∀ (v1 : Int32) (S : St) (z : Int32 × St), rec 0 v1 S = some z → CtI l yX2_readUnit cX2_readUnit 3 .boolean dr s0 D ca tpC a A [.ref (a 13), .int v1] S z) ∧ (∀ (v1 : Int32) (S : St) (z : Int32 × St), rec 1 v1 S = some z → CtI l yX2_readComparison cX2_readComparison 3 .boolean dr s0 D ca tpC a A [.ref (a 13), .int v1] S z) ∧ (∀ (v1 : Int32) (S : St) (z : Int32 × St), rec 2 v1 S = some z → CtI l yX2_readRestOfCondition cX2_readRestOfCondition 3 .boolean dr s0 D ca tpC a A [.ref (a 13), .int v1] S z) ∧ (∀ (v1 : Int32) (S : St) (z : Int32 × St), rec 3 v1 S = some z → CtI l yX2_readRestOfTruth cX2_readRestOfTruth 3 .boolean dr s0 D ca tpC a A [.ref (a 13), .int v1] S z) ∧ (∀ (v1 : Int32) (S : St) (z : Int32 × St), rec 4 v1 S = some z → CtI l yX2_readSum cX2_readSum 4 .boolean dr s0 D ca tpC a A [.ref (a 13), .int v1] S z) ∧ (∀ (v1 : Int32) (S : St) (z : Int32 × St), rec 5 v1 S = some z → CtI l yX2_readTerm cX2_readTerm 4 .boolean dr s0 D ca tpC a A [.ref (a 13), .int v1] S z) ∧ (∀ (v1 : Int32) (S : St) (z : Int32 × St), rec 6 v1 S = some z → CtI l yX2_readAtom cX2_readAtom 5 .boolean dr s0 D ca tpC a A [.ref (a 13), .int v1] S z)) (hdr : dr + 1 ≤ d) (v1 : Int32) (v2 : Int32) (S : St) : VV p l e (rmd d) s m args below meth c D ca tpC a A 3 (QmI D ca tpC a A below args s) S [(0, .ref (a 13)), (1, .int v1), (2, .int v2)] 39 [] (c_LikingReader_readUnit_b39 rec v1 v2 S) := by
  unfold c_LikingReader_readUnit_b39
  refine V_iload_n (pc := 39) h 1 dX2_readUnit_39 rfl rfl ?_
  refine V_bipush (pc := 40) (v := 6) h dX2_readUnit_40 (by decide) ?_
  refine V_icmp_lt (pc := 42) h 47 dX2_readUnit_42 (by decide) ?_ ?_
  · refine V_aload_n (pc := 47) h 0 dX2_readUnit_47 rfl rfl ?_
    refine V_dup (pc := 48) h dX2_readUnit_48 rfl ?_
    refine V_get (pc := 49) h 13 1 (.int (S 13 1)) fl_X2_50_X2 oC_13 rfl rfl dX2_readUnit_49 ?_
    refine V_iconst (pc := 52) (v := 1) h dX2_readUnit_52 (by decide) ?_
    refine V_iadd (pc := 53) h dX2_readUnit_53 ?_
    refine V_put (pc := 54) h 13 1 ((S 13 1) + (1 : Int32)) fp_X2_50_X2 oC_13 rfl rfl rfl rfl dX2_readUnit_54 (fun S1 => ?_)
    refine V_iload_n (pc := 57) h 2 dX2_readUnit_57 rfl rfl ?_
    refine V_bipush (pc := 58) (v := 40) h dX2_readUnit_58 (by decide) ?_
    refine V_icmp_ne (pc := 60) h 98 dX2_readUnit_60 (by decide) ?_ ?_
    · refine V_aload_n (pc := 98) h 0 dX2_readUnit_98 rfl rfl ?_
      refine V_iload_n (pc := 99) h 1 dX2_readUnit_99 rfl rfl ?_
      refine V_iconst (pc := 100) (v := 1) h dX2_readUnit_100 (by decide) ?_
      refine V_iadd (pc := 101) h dX2_readUnit_101 ?_
      refine V_callVI (pc := 102) (dy := dr) (q := (RX2, TX2, 4)) h [.int (v1 + (1 : Int32))] [] 13 mv_X2_27 oC_13 rfl dX2_readUnit_102 rfl rfl (Nat.le_of_ble_eq_true rfl) hdr (rec 0 (v1 + (1 : Int32)) S1) (fun z9 hz9 => hrec.1 (v1 + (1 : Int32)) S1 z9 hz9) (fun x3 S2 => ?_)
      refine V_if_ne (pc := 105) h 110 dX2_readUnit_105 (by decide) ?_ ?_
      · refine V_aload_n (pc := 110) h 0 dX2_readUnit_110 rfl rfl ?_
        refine V_bipush (pc := 111) (v := 33) h dX2_readUnit_111 (by decide) ?_
        refine V_iconst (pc := 113) (v := 0) h dX2_readUnit_113 (by decide) ?_
        refine V_callVV (pc := 114) (dy := 1) (q := (RX2, TX2, 4)) h [.int (33 : Int32), .int (0 : Int32)] [] 13 mv_X2_42 oC_13 rfl dX2_readUnit_114 rfl rfl (Nat.le_of_ble_eq_true rfl) (Nat.le_trans (by decide) hD) (c_LikingReader_write (33 : Int32) (0 : Int32) S2) (fun z9 hz9 => c_LikingReader_write_ct h.gg (Nat.le_refl 1) (33 : Int32) (0 : Int32) S2 z9 hz9) (fun S4 => ?_)
        refine V_iconst (pc := 117) (v := 1) h dX2_readUnit_117 (by decide) ?_
        exact V_zret (pc := 118) h hr hlk dX2_readUnit_118
      · refine V_iconst (pc := 108) (v := 0) h dX2_readUnit_108 (by decide) ?_
        exact V_zret (pc := 109) h hr hlk dX2_readUnit_109
    · refine V_aload_n (pc := 63) h 0 dX2_readUnit_63 rfl rfl ?_
      refine V_iload_n (pc := 64) h 1 dX2_readUnit_64 rfl rfl ?_
      refine V_iconst (pc := 65) (v := 1) h dX2_readUnit_65 (by decide) ?_
      refine V_iadd (pc := 66) h dX2_readUnit_66 ?_
      refine V_callVI (pc := 67) (dy := dr) (q := (RX2, TX2, 4)) h [.int (v1 + (1 : Int32))] [] 13 mv_X2_27 oC_13 rfl dX2_readUnit_67 rfl rfl (Nat.le_of_ble_eq_true rfl) hdr (rec 0 (v1 + (1 : Int32)) S1) (fun z9 hz9 => hrec.1 (v1 + (1 : Int32)) S1 z9 hz9) (fun x6 S5 => ?_)
      refine V_if_eq (pc := 70) h 96 dX2_readUnit_70 (by decide) ?_ ?_
      · refine V_iconst (pc := 96) (v := 0) h dX2_readUnit_96 (by decide) ?_
        exact V_zret (pc := 97) h hr hlk dX2_readUnit_97
      · refine V_aload_n (pc := 73) h 0 dX2_readUnit_73 rfl rfl ?_
        refine V_iload_n (pc := 74) h 1 dX2_readUnit_74 rfl rfl ?_
        refine V_iconst (pc := 75) (v := 1) h dX2_readUnit_75 (by decide) ?_
        refine V_iadd (pc := 76) h dX2_readUnit_76 ?_
        refine V_callVI (pc := 77) (dy := dr) (q := (RX2, TX2, 4)) h [.int (v1 + (1 : Int32))] [] 13 mv_X2_39 oC_13 rfl dX2_readUnit_77 rfl rfl (Nat.le_of_ble_eq_true rfl) hdr (rec 2 (v1 + (1 : Int32)) S5) (fun z9 hz9 => hrec.2.2.1 (v1 + (1 : Int32)) S5 z9 hz9) (fun x8 S7 => ?_)
        refine V_if_eq (pc := 80) h 96 dX2_readUnit_80 (by decide) ?_ ?_
        · refine V_iconst (pc := 96) (v := 0) h dX2_readUnit_96 (by decide) ?_
          exact V_zret (pc := 97) h hr hlk dX2_readUnit_97
        · refine V_aload_n (pc := 83) h 0 dX2_readUnit_83 rfl rfl ?_
          refine V_bipush (pc := 84) (v := 41) h dX2_readUnit_84 (by decide) ?_
          refine V_callUI (pc := 86) (dy := 2) (q := (RX2, TX2, 4)) h [.int (41 : Int32)] [] 13 mu_X2_19_X2 oC_13 rfl dX2_readUnit_86 rfl rfl (Nat.le_of_ble_eq_true rfl) (Nat.le_trans (by decide) hD) (c_Reader_takes_13 (41 : Int32) S7) (fun z9 hz9 => c_Reader_takes_13_ct h.gg (Nat.le_refl 2) (41 : Int32) S7 z9 hz9) (fun x10 S9 => ?_)
          refine V_if_eq (pc := 89) h 96 dX2_readUnit_89 (by decide) ?_ ?_
          · refine V_iconst (pc := 96) (v := 0) h dX2_readUnit_96 (by decide) ?_
            exact V_zret (pc := 97) h hr hlk dX2_readUnit_97
          · refine V_iconst (pc := 92) (v := 1) h dX2_readUnit_92 (by decide) ?_
            refine V_goto (pc := 93) h 97 dX2_readUnit_93 (by decide) ?_
            exact V_zret (pc := 97) h hr hlk dX2_readUnit_97
  · refine V_iconst (pc := 45) (v := 0) h dX2_readUnit_45 (by decide) ?_
    exact V_zret (pc := 46) h hr hlk dX2_readUnit_46
def c_LikingReader_readUnit (rec : Nat → Int32 → St → Option (Int32 × St)) (v1 : Int32) (S : St) : Option (Int32 × St) := (bI (c_Reader_next_13 S) (fun x2 S1 => (if x2 = (33 : Int32) then (c_LikingReader_readUnit_b39 rec v1 x2 S1) else (if x2 = (40 : Int32) then (c_LikingReader_readUnit_b39 rec v1 x2 S1) else (bI (rec 4 v1 S1) (fun x4 S3 => (if x4 = 0 then (nzM (0 : Int32) (some ((0 : Int32), S3))) else (bI (rec 1 v1 S3) (fun x6 S5 => (if x6 = 0 then (nzM (0 : Int32) (some ((0 : Int32), S5))) else (nzM (1 : Int32) (some ((1 : Int32), S5)))))))))))))
set_option maxHeartbeats 4000000 in
set_option maxRecDepth 100000 in
theorem c_LikingReader_readUnit_ok {d : Nat} (h : Cx p s m c cX2_readUnit 3 RX2 s0 args0 D ca a A) (hr : meth.sig.returnType = some .boolean) (hlk : meth.locks = false) (hD : 5 ≤ d) {dr : Nat} (rec : Nat → Int32 → St → Option (Int32 × St)) (hrec : (∀ (v1 : Int32) (S : St) (z : Int32 × St), rec 0 v1 S = some z → CtI l yX2_readUnit cX2_readUnit 3 .boolean dr s0 D ca tpC a A [.ref (a 13), .int v1] S z) ∧ (∀ (v1 : Int32) (S : St) (z : Int32 × St), rec 1 v1 S = some z → CtI l yX2_readComparison cX2_readComparison 3 .boolean dr s0 D ca tpC a A [.ref (a 13), .int v1] S z) ∧ (∀ (v1 : Int32) (S : St) (z : Int32 × St), rec 2 v1 S = some z → CtI l yX2_readRestOfCondition cX2_readRestOfCondition 3 .boolean dr s0 D ca tpC a A [.ref (a 13), .int v1] S z) ∧ (∀ (v1 : Int32) (S : St) (z : Int32 × St), rec 3 v1 S = some z → CtI l yX2_readRestOfTruth cX2_readRestOfTruth 3 .boolean dr s0 D ca tpC a A [.ref (a 13), .int v1] S z) ∧ (∀ (v1 : Int32) (S : St) (z : Int32 × St), rec 4 v1 S = some z → CtI l yX2_readSum cX2_readSum 4 .boolean dr s0 D ca tpC a A [.ref (a 13), .int v1] S z) ∧ (∀ (v1 : Int32) (S : St) (z : Int32 × St), rec 5 v1 S = some z → CtI l yX2_readTerm cX2_readTerm 4 .boolean dr s0 D ca tpC a A [.ref (a 13), .int v1] S z) ∧ (∀ (v1 : Int32) (S : St) (z : Int32 × St), rec 6 v1 S = some z → CtI l yX2_readAtom cX2_readAtom 5 .boolean dr s0 D ca tpC a A [.ref (a 13), .int v1] S z)) (hdr : dr + 1 ≤ d) (v1 : Int32) (S : St) : VV p l e (rmd d) s m args below meth c D ca tpC a A 3 (QmI D ca tpC a A below args s) S [(0, .ref (a 13)), (1, .int v1)] 0 [] (c_LikingReader_readUnit rec v1 S) := by
  unfold c_LikingReader_readUnit
  refine V_aload_n (pc := 0) h 0 dX2_readUnit_0 rfl rfl ?_
  refine V_callUI (pc := 1) (dy := 1) (q := (RX2, TX2, 4)) h [] [] 13 mu_X2_23_X2 oC_13 rfl dX2_readUnit_1 rfl rfl (Nat.le_of_ble_eq_true rfl) (Nat.le_trans (by decide) hD) (c_Reader_next_13 S) (fun z9 hz9 => c_Reader_next_13_ct h.gg (Nat.le_refl 1) S z9 hz9) (fun x2 S1 => ?_)
  refine V_istore_n (pc := 4) h [(2, .int x2), (0, .ref (a 13)), (1, .int v1)] dX2_readUnit_4 rfl (by decide) rfl ?_
  refine V_iload_n (pc := 5) h 0 dX2_readUnit_5 rfl rfl ?_
  refine V_bipush (pc := 6) (v := 33) h dX2_readUnit_6 (by decide) ?_
  refine V_icmp_eq (pc := 8) h 39 dX2_readUnit_8 (by decide) ?_ ?_
  · exact V_ls [1, 2, 0] rfl (c_LikingReader_readUnit_b39_ok h hr hlk hD rec hrec hdr v1 x2 S1)
  · refine V_iload_n (pc := 11) h 0 dX2_readUnit_11 rfl rfl ?_
    refine V_bipush (pc := 12) (v := 40) h dX2_readUnit_12 (by decide) ?_
    refine V_icmp_eq (pc := 14) h 39 dX2_readUnit_14 (by decide) ?_ ?_
    · exact V_ls [1, 2, 0] rfl (c_LikingReader_readUnit_b39_ok h hr hlk hD rec hrec hdr v1 x2 S1)
    · refine V_aload_n (pc := 17) h 1 dX2_readUnit_17 rfl rfl ?_
      refine V_iload_n (pc := 18) h 2 dX2_readUnit_18 rfl rfl ?_
      refine V_callVI (pc := 19) (dy := dr) (q := (RX2, TX2, 4)) h [.int v1] [] 13 mv_X2_30 oC_13 rfl dX2_readUnit_19 rfl rfl (Nat.le_of_ble_eq_true rfl) hdr (rec 4 v1 S1) (fun z9 hz9 => hrec.2.2.2.2.1 v1 S1 z9 hz9) (fun x4 S3 => ?_)
      refine V_if_eq (pc := 22) h 37 dX2_readUnit_22 (by decide) ?_ ?_
      · refine V_iconst (pc := 37) (v := 0) h dX2_readUnit_37 (by decide) ?_
        exact V_zret (pc := 38) h hr hlk dX2_readUnit_38
      · refine V_aload_n (pc := 25) h 1 dX2_readUnit_25 rfl rfl ?_
        refine V_iload_n (pc := 26) h 2 dX2_readUnit_26 rfl rfl ?_
        refine V_callVI (pc := 27) (dy := dr) (q := (RX2, TX2, 4)) h [.int v1] [] 13 mv_X2_36 oC_13 rfl dX2_readUnit_27 rfl rfl (Nat.le_of_ble_eq_true rfl) hdr (rec 1 v1 S3) (fun z9 hz9 => hrec.2.1 v1 S3 z9 hz9) (fun x6 S5 => ?_)
        refine V_if_eq (pc := 30) h 37 dX2_readUnit_30 (by decide) ?_ ?_
        · refine V_iconst (pc := 37) (v := 0) h dX2_readUnit_37 (by decide) ?_
          exact V_zret (pc := 38) h hr hlk dX2_readUnit_38
        · refine V_iconst (pc := 33) (v := 1) h dX2_readUnit_33 (by decide) ?_
          refine V_goto (pc := 34) h 38 dX2_readUnit_34 (by decide) ?_
          exact V_zret (pc := 38) h hr hlk dX2_readUnit_38
def c_LikingReader_readComparison (rec : Nat → Int32 → St → Option (Int32 × St)) (v1 : Int32) (S : St) : Option (Int32 × St) := (bI (c_Reader_next_13 S) (fun x2 S1 => (bI (c_LikingReader_isComparison x2 S1) (fun x4 S3 => (if x4 = 0 then (nzM (0 : Int32) (some ((0 : Int32), S3))) else (bnd (up2 S3 13 1 ((S3 13 1) + (1 : Int32))) (fun S5 => (bI (rec 4 v1 S5) (fun x7 S6 => (if x7 = 0 then (nzM (0 : Int32) (some ((0 : Int32), S6))) else (bV (c_LikingReader_write x2 (0 : Int32) S6) (fun S8 => (nzM (1 : Int32) (some ((1 : Int32), S8)))))))))))))))
set_option maxHeartbeats 4000000 in
set_option maxRecDepth 100000 in
theorem c_LikingReader_readComparison_ok {d : Nat} (h : Cx p s m c cX2_readComparison 3 RX2 s0 args0 D ca a A) (hr : meth.sig.returnType = some .boolean) (hlk : meth.locks = false) (hD : 5 ≤ d) {dr : Nat} (rec : Nat → Int32 → St → Option (Int32 × St)) (hrec : (∀ (v1 : Int32) (S : St) (z : Int32 × St), rec 0 v1 S = some z → CtI l yX2_readUnit cX2_readUnit 3 .boolean dr s0 D ca tpC a A [.ref (a 13), .int v1] S z) ∧ (∀ (v1 : Int32) (S : St) (z : Int32 × St), rec 1 v1 S = some z → CtI l yX2_readComparison cX2_readComparison 3 .boolean dr s0 D ca tpC a A [.ref (a 13), .int v1] S z) ∧ (∀ (v1 : Int32) (S : St) (z : Int32 × St), rec 2 v1 S = some z → CtI l yX2_readRestOfCondition cX2_readRestOfCondition 3 .boolean dr s0 D ca tpC a A [.ref (a 13), .int v1] S z) ∧ (∀ (v1 : Int32) (S : St) (z : Int32 × St), rec 3 v1 S = some z → CtI l yX2_readRestOfTruth cX2_readRestOfTruth 3 .boolean dr s0 D ca tpC a A [.ref (a 13), .int v1] S z) ∧ (∀ (v1 : Int32) (S : St) (z : Int32 × St), rec 4 v1 S = some z → CtI l yX2_readSum cX2_readSum 4 .boolean dr s0 D ca tpC a A [.ref (a 13), .int v1] S z) ∧ (∀ (v1 : Int32) (S : St) (z : Int32 × St), rec 5 v1 S = some z → CtI l yX2_readTerm cX2_readTerm 4 .boolean dr s0 D ca tpC a A [.ref (a 13), .int v1] S z) ∧ (∀ (v1 : Int32) (S : St) (z : Int32 × St), rec 6 v1 S = some z → CtI l yX2_readAtom cX2_readAtom 5 .boolean dr s0 D ca tpC a A [.ref (a 13), .int v1] S z)) (hdr : dr + 1 ≤ d) (v1 : Int32) (S : St) : VV p l e (rmd d) s m args below meth c D ca tpC a A 3 (QmI D ca tpC a A below args s) S [(0, .ref (a 13)), (1, .int v1)] 0 [] (c_LikingReader_readComparison rec v1 S) := by
  unfold c_LikingReader_readComparison
  refine V_aload_n (pc := 0) h 0 dX2_readComparison_0 rfl rfl ?_
  refine V_callUI (pc := 1) (dy := 1) (q := (RX2, TX2, 4)) h [] [] 13 mu_X2_23_X2 oC_13 rfl dX2_readComparison_1 rfl rfl (Nat.le_of_ble_eq_true rfl) (Nat.le_trans (by decide) hD) (c_Reader_next_13 S) (fun z9 hz9 => c_Reader_next_13_ct h.gg (Nat.le_refl 1) S z9 hz9) (fun x2 S1 => ?_)
  refine V_istore_n (pc := 4) h [(2, .int x2), (0, .ref (a 13)), (1, .int v1)] dX2_readComparison_4 rfl (by decide) rfl ?_
  refine V_iload_n (pc := 5) h 0 dX2_readComparison_5 rfl rfl ?_
  refine V_callSI (pc := 6) (dy := 1) h [.int x2] [] ms_X2_33 dX2_readComparison_6 rfl rfl (Nat.le_of_ble_eq_true rfl) (Nat.le_trans (by decide) hD) (c_LikingReader_isComparison x2 S1) (fun z9 hz9 => c_LikingReader_isComparison_ct h.gg (Nat.le_refl 1) x2 S1 z9 hz9) (fun x4 S3 => ?_)
  refine V_if_ne (pc := 9) h 14 dX2_readComparison_9 (by decide) ?_ ?_
  · refine V_aload_n (pc := 14) h 1 dX2_readComparison_14 rfl rfl ?_
    refine V_dup (pc := 15) h dX2_readComparison_15 rfl ?_
    refine V_get (pc := 16) h 13 1 (.int (S3 13 1)) fl_X2_50_X2 oC_13 rfl rfl dX2_readComparison_16 ?_
    refine V_iconst (pc := 19) (v := 1) h dX2_readComparison_19 (by decide) ?_
    refine V_iadd (pc := 20) h dX2_readComparison_20 ?_
    refine V_put (pc := 21) h 13 1 ((S3 13 1) + (1 : Int32)) fp_X2_50_X2 oC_13 rfl rfl rfl rfl dX2_readComparison_21 (fun S5 => ?_)
    refine V_aload_n (pc := 24) h 1 dX2_readComparison_24 rfl rfl ?_
    refine V_iload_n (pc := 25) h 2 dX2_readComparison_25 rfl rfl ?_
    refine V_callVI (pc := 26) (dy := dr) (q := (RX2, TX2, 4)) h [.int v1] [] 13 mv_X2_30 oC_13 rfl dX2_readComparison_26 rfl rfl (Nat.le_of_ble_eq_true rfl) hdr (rec 4 v1 S5) (fun z9 hz9 => hrec.2.2.2.2.1 v1 S5 z9 hz9) (fun x7 S6 => ?_)
    refine V_if_ne (pc := 29) h 34 dX2_readComparison_29 (by decide) ?_ ?_
    · refine V_aload_n (pc := 34) h 1 dX2_readComparison_34 rfl rfl ?_
      refine V_iload_n (pc := 35) h 0 dX2_readComparison_35 rfl rfl ?_
      refine V_iconst (pc := 36) (v := 0) h dX2_readComparison_36 (by decide) ?_
      refine V_callVV (pc := 37) (dy := 1) (q := (RX2, TX2, 4)) h [.int x2, .int (0 : Int32)] [] 13 mv_X2_42 oC_13 rfl dX2_readComparison_37 rfl rfl (Nat.le_of_ble_eq_true rfl) (Nat.le_trans (by decide) hD) (c_LikingReader_write x2 (0 : Int32) S6) (fun z9 hz9 => c_LikingReader_write_ct h.gg (Nat.le_refl 1) x2 (0 : Int32) S6 z9 hz9) (fun S8 => ?_)
      refine V_iconst (pc := 40) (v := 1) h dX2_readComparison_40 (by decide) ?_
      exact V_zret (pc := 41) h hr hlk dX2_readComparison_41
    · refine V_iconst (pc := 32) (v := 0) h dX2_readComparison_32 (by decide) ?_
      exact V_zret (pc := 33) h hr hlk dX2_readComparison_33
  · refine V_iconst (pc := 12) (v := 0) h dX2_readComparison_12 (by decide) ?_
    exact V_zret (pc := 13) h hr hlk dX2_readComparison_13
def c_LikingReader_readRestOfCondition_h12 (rec : Nat → Int32 → St → Option (Int32 × St)) : Nat → Int32 → Int32 → St → Option (Int32 × St)
  | 0, _, _, _ => none
  | n + 1, v1, v2, S => (if (160 : Int32) ≤ v2 then (nzM (1 : Int32) (some ((1 : Int32), S))) else (bI (c_Reader_takes_13 (124 : Int32) S) (fun x2 S1 => (if x2 = 0 then (nzM (1 : Int32) (some ((1 : Int32), S1))) else (bI (rec 0 v1 S1) (fun x4 S3 => (if x4 = 0 then (nzM (0 : Int32) (some ((0 : Int32), S3))) else (bI (rec 3 v1 S3) (fun x6 S5 => (if x6 = 0 then (nzM (0 : Int32) (some ((0 : Int32), S5))) else (bV (c_LikingReader_write (124 : Int32) (0 : Int32) S5) (fun S7 => (bnd (v2 + (1 : Int32)) (fun x8 => ((c_LikingReader_readRestOfCondition_h12 rec n) v1 x8 S7)))))))))))))))
set_option maxHeartbeats 4000000 in
set_option maxRecDepth 100000 in
theorem c_LikingReader_readRestOfCondition_h12_ok {d : Nat} (h : Cx p s m c cX2_readRestOfCondition 3 RX2 s0 args0 D ca a A) (hr : meth.sig.returnType = some .boolean) (hlk : meth.locks = false) (hD : 5 ≤ d) {dr : Nat} (rec : Nat → Int32 → St → Option (Int32 × St)) (hrec : (∀ (v1 : Int32) (S : St) (z : Int32 × St), rec 0 v1 S = some z → CtI l yX2_readUnit cX2_readUnit 3 .boolean dr s0 D ca tpC a A [.ref (a 13), .int v1] S z) ∧ (∀ (v1 : Int32) (S : St) (z : Int32 × St), rec 1 v1 S = some z → CtI l yX2_readComparison cX2_readComparison 3 .boolean dr s0 D ca tpC a A [.ref (a 13), .int v1] S z) ∧ (∀ (v1 : Int32) (S : St) (z : Int32 × St), rec 2 v1 S = some z → CtI l yX2_readRestOfCondition cX2_readRestOfCondition 3 .boolean dr s0 D ca tpC a A [.ref (a 13), .int v1] S z) ∧ (∀ (v1 : Int32) (S : St) (z : Int32 × St), rec 3 v1 S = some z → CtI l yX2_readRestOfTruth cX2_readRestOfTruth 3 .boolean dr s0 D ca tpC a A [.ref (a 13), .int v1] S z) ∧ (∀ (v1 : Int32) (S : St) (z : Int32 × St), rec 4 v1 S = some z → CtI l yX2_readSum cX2_readSum 4 .boolean dr s0 D ca tpC a A [.ref (a 13), .int v1] S z) ∧ (∀ (v1 : Int32) (S : St) (z : Int32 × St), rec 5 v1 S = some z → CtI l yX2_readTerm cX2_readTerm 4 .boolean dr s0 D ca tpC a A [.ref (a 13), .int v1] S z) ∧ (∀ (v1 : Int32) (S : St) (z : Int32 × St), rec 6 v1 S = some z → CtI l yX2_readAtom cX2_readAtom 5 .boolean dr s0 D ca tpC a A [.ref (a 13), .int v1] S z)) (hdr : dr + 1 ≤ d) : ∀ (n : Nat) (v1 : Int32) (v2 : Int32) (S : St), VV p l e (rmd d) s m args below meth c D ca tpC a A 3 (QmI D ca tpC a A below args s) S [(0, .ref (a 13)), (1, .int v1), (2, .int v2)] 12 [] (c_LikingReader_readRestOfCondition_h12 rec n v1 v2 S) := by
  intro n
  induction n with
  | zero => intro v1 v2 S; exact V_none
  | succ n ih =>
    intro v1 v2 S
    unfold c_LikingReader_readRestOfCondition_h12
    refine V_iload_n (pc := 12) h 2 dX2_readRestOfCondition_12 rfl rfl ?_
    refine V_sipush (pc := 13) (v := 160) h dX2_readRestOfCondition_13 (by decide) ?_
    refine V_icmp_ge (pc := 16) h 59 dX2_readRestOfCondition_16 (by decide) ?_ ?_
    · refine V_iconst (pc := 59) (v := 1) h dX2_readRestOfCondition_59 (by decide) ?_
      exact V_zret (pc := 60) h hr hlk dX2_readRestOfCondition_60
    · refine V_aload_n (pc := 19) h 0 dX2_readRestOfCondition_19 rfl rfl ?_
      refine V_bipush (pc := 20) (v := 124) h dX2_readRestOfCondition_20 (by decide) ?_
      refine V_callUI (pc := 22) (dy := 2) (q := (RX2, TX2, 4)) h [.int (124 : Int32)] [] 13 mu_X2_19_X2 oC_13 rfl dX2_readRestOfCondition_22 rfl rfl (Nat.le_of_ble_eq_true rfl) (Nat.le_trans (by decide) hD) (c_Reader_takes_13 (124 : Int32) S) (fun z9 hz9 => c_Reader_takes_13_ct h.gg (Nat.le_refl 2) (124 : Int32) S z9 hz9) (fun x2 S1 => ?_)
      refine V_if_eq (pc := 25) h 59 dX2_readRestOfCondition_25 (by decide) ?_ ?_
      · refine V_iconst (pc := 59) (v := 1) h dX2_readRestOfCondition_59 (by decide) ?_
        exact V_zret (pc := 60) h hr hlk dX2_readRestOfCondition_60
      · refine V_aload_n (pc := 28) h 0 dX2_readRestOfCondition_28 rfl rfl ?_
        refine V_iload_n (pc := 29) h 1 dX2_readRestOfCondition_29 rfl rfl ?_
        refine V_callVI (pc := 30) (dy := dr) (q := (RX2, TX2, 4)) h [.int v1] [] 13 mv_X2_27 oC_13 rfl dX2_readRestOfCondition_30 rfl rfl (Nat.le_of_ble_eq_true rfl) hdr (rec 0 v1 S1) (fun z9 hz9 => hrec.1 v1 S1 z9 hz9) (fun x4 S3 => ?_)
        refine V_if_eq (pc := 33) h 44 dX2_readRestOfCondition_33 (by decide) ?_ ?_
        · refine V_iconst (pc := 44) (v := 0) h dX2_readRestOfCondition_44 (by decide) ?_
          exact V_zret (pc := 45) h hr hlk dX2_readRestOfCondition_45
        · refine V_aload_n (pc := 36) h 0 dX2_readRestOfCondition_36 rfl rfl ?_
          refine V_iload_n (pc := 37) h 1 dX2_readRestOfCondition_37 rfl rfl ?_
          refine V_callVI (pc := 38) (dy := dr) (q := (RX2, TX2, 4)) h [.int v1] [] 13 mv_X2_53 oC_13 rfl dX2_readRestOfCondition_38 rfl rfl (Nat.le_of_ble_eq_true rfl) hdr (rec 3 v1 S3) (fun z9 hz9 => hrec.2.2.2.1 v1 S3 z9 hz9) (fun x6 S5 => ?_)
          refine V_if_ne (pc := 41) h 46 dX2_readRestOfCondition_41 (by decide) ?_ ?_
          · refine V_aload_n (pc := 46) h 0 dX2_readRestOfCondition_46 rfl rfl ?_
            refine V_bipush (pc := 47) (v := 124) h dX2_readRestOfCondition_47 (by decide) ?_
            refine V_iconst (pc := 49) (v := 0) h dX2_readRestOfCondition_49 (by decide) ?_
            refine V_callVV (pc := 50) (dy := 1) (q := (RX2, TX2, 4)) h [.int (124 : Int32), .int (0 : Int32)] [] 13 mv_X2_42 oC_13 rfl dX2_readRestOfCondition_50 rfl rfl (Nat.le_of_ble_eq_true rfl) (Nat.le_trans (by decide) hD) (c_LikingReader_write (124 : Int32) (0 : Int32) S5) (fun z9 hz9 => c_LikingReader_write_ct h.gg (Nat.le_refl 1) (124 : Int32) (0 : Int32) S5 z9 hz9) (fun S7 => ?_)
            refine V_iincB (pc := 53) h 2 (1 : Int32) (fun x8 => [(2, .int x8), (0, .ref (a 13)), (1, .int v1)]) dX2_readRestOfCondition_53 rfl (by decide) (by decide) (fun _ => rfl) (fun x8 => ?_)
            refine V_goto (pc := 56) h 12 dX2_readRestOfCondition_56 (by decide) ?_
            exact V_ls [1, 2, 0] rfl (ih v1 x8 S7)
          · refine V_iconst (pc := 44) (v := 0) h dX2_readRestOfCondition_44 (by decide) ?_
            exact V_zret (pc := 45) h hr hlk dX2_readRestOfCondition_45
def c_LikingReader_readRestOfCondition (rec : Nat → Int32 → St → Option (Int32 × St)) (v1 : Int32) (S : St) : Option (Int32 × St) := (bI (rec 3 v1 S) (fun x2 S1 => (if x2 = 0 then (nzM (0 : Int32) (some ((0 : Int32), S1))) else (c_LikingReader_readRestOfCondition_h12 rec FU v1 (0 : Int32) S1))))
set_option maxHeartbeats 4000000 in
set_option maxRecDepth 100000 in
theorem c_LikingReader_readRestOfCondition_ok {d : Nat} (h : Cx p s m c cX2_readRestOfCondition 3 RX2 s0 args0 D ca a A) (hr : meth.sig.returnType = some .boolean) (hlk : meth.locks = false) (hD : 5 ≤ d) {dr : Nat} (rec : Nat → Int32 → St → Option (Int32 × St)) (hrec : (∀ (v1 : Int32) (S : St) (z : Int32 × St), rec 0 v1 S = some z → CtI l yX2_readUnit cX2_readUnit 3 .boolean dr s0 D ca tpC a A [.ref (a 13), .int v1] S z) ∧ (∀ (v1 : Int32) (S : St) (z : Int32 × St), rec 1 v1 S = some z → CtI l yX2_readComparison cX2_readComparison 3 .boolean dr s0 D ca tpC a A [.ref (a 13), .int v1] S z) ∧ (∀ (v1 : Int32) (S : St) (z : Int32 × St), rec 2 v1 S = some z → CtI l yX2_readRestOfCondition cX2_readRestOfCondition 3 .boolean dr s0 D ca tpC a A [.ref (a 13), .int v1] S z) ∧ (∀ (v1 : Int32) (S : St) (z : Int32 × St), rec 3 v1 S = some z → CtI l yX2_readRestOfTruth cX2_readRestOfTruth 3 .boolean dr s0 D ca tpC a A [.ref (a 13), .int v1] S z) ∧ (∀ (v1 : Int32) (S : St) (z : Int32 × St), rec 4 v1 S = some z → CtI l yX2_readSum cX2_readSum 4 .boolean dr s0 D ca tpC a A [.ref (a 13), .int v1] S z) ∧ (∀ (v1 : Int32) (S : St) (z : Int32 × St), rec 5 v1 S = some z → CtI l yX2_readTerm cX2_readTerm 4 .boolean dr s0 D ca tpC a A [.ref (a 13), .int v1] S z) ∧ (∀ (v1 : Int32) (S : St) (z : Int32 × St), rec 6 v1 S = some z → CtI l yX2_readAtom cX2_readAtom 5 .boolean dr s0 D ca tpC a A [.ref (a 13), .int v1] S z)) (hdr : dr + 1 ≤ d) (v1 : Int32) (S : St) : VV p l e (rmd d) s m args below meth c D ca tpC a A 3 (QmI D ca tpC a A below args s) S [(0, .ref (a 13)), (1, .int v1)] 0 [] (c_LikingReader_readRestOfCondition rec v1 S) := by
  unfold c_LikingReader_readRestOfCondition
  refine V_aload_n (pc := 0) h 0 dX2_readRestOfCondition_0 rfl rfl ?_
  refine V_iload_n (pc := 1) h 1 dX2_readRestOfCondition_1 rfl rfl ?_
  refine V_callVI (pc := 2) (dy := dr) (q := (RX2, TX2, 4)) h [.int v1] [] 13 mv_X2_53 oC_13 rfl dX2_readRestOfCondition_2 rfl rfl (Nat.le_of_ble_eq_true rfl) hdr (rec 3 v1 S) (fun z9 hz9 => hrec.2.2.2.1 v1 S z9 hz9) (fun x2 S1 => ?_)
  refine V_if_ne (pc := 5) h 10 dX2_readRestOfCondition_5 (by decide) ?_ ?_
  · refine V_iconst (pc := 10) (v := 0) h dX2_readRestOfCondition_10 (by decide) ?_
    refine V_istore_n (pc := 11) h [(2, .int (0 : Int32)), (0, .ref (a 13)), (1, .int v1)] dX2_readRestOfCondition_11 rfl (by decide) rfl ?_
    exact V_ls [1, 2, 0] rfl (c_LikingReader_readRestOfCondition_h12_ok h hr hlk hD rec hrec hdr FU v1 (0 : Int32) S1)
  · refine V_iconst (pc := 8) (v := 0) h dX2_readRestOfCondition_8 (by decide) ?_
    exact V_zret (pc := 9) h hr hlk dX2_readRestOfCondition_9
def c_LikingReader_readRestOfTruth_h2 (rec : Nat → Int32 → St → Option (Int32 × St)) : Nat → Int32 → Int32 → St → Option (Int32 × St)
  | 0, _, _, _ => none
  | n + 1, v1, v2, S => (if (160 : Int32) ≤ v2 then (nzM (1 : Int32) (some ((1 : Int32), S))) else (bI (c_Reader_takes_13 (38 : Int32) S) (fun x2 S1 => (if x2 = 0 then (nzM (1 : Int32) (some ((1 : Int32), S1))) else (bI (rec 0 v1 S1) (fun x4 S3 => (if x4 = 0 then (nzM (0 : Int32) (some ((0 : Int32), S3))) else (bV (c_LikingReader_write (38 : Int32) (0 : Int32) S3) (fun S5 => (bnd (v2 + (1 : Int32)) (fun x6 => ((c_LikingReader_readRestOfTruth_h2 rec n) v1 x6 S5))))))))))))
set_option maxHeartbeats 4000000 in
set_option maxRecDepth 100000 in
theorem c_LikingReader_readRestOfTruth_h2_ok {d : Nat} (h : Cx p s m c cX2_readRestOfTruth 3 RX2 s0 args0 D ca a A) (hr : meth.sig.returnType = some .boolean) (hlk : meth.locks = false) (hD : 5 ≤ d) {dr : Nat} (rec : Nat → Int32 → St → Option (Int32 × St)) (hrec : (∀ (v1 : Int32) (S : St) (z : Int32 × St), rec 0 v1 S = some z → CtI l yX2_readUnit cX2_readUnit 3 .boolean dr s0 D ca tpC a A [.ref (a 13), .int v1] S z) ∧ (∀ (v1 : Int32) (S : St) (z : Int32 × St), rec 1 v1 S = some z → CtI l yX2_readComparison cX2_readComparison 3 .boolean dr s0 D ca tpC a A [.ref (a 13), .int v1] S z) ∧ (∀ (v1 : Int32) (S : St) (z : Int32 × St), rec 2 v1 S = some z → CtI l yX2_readRestOfCondition cX2_readRestOfCondition 3 .boolean dr s0 D ca tpC a A [.ref (a 13), .int v1] S z) ∧ (∀ (v1 : Int32) (S : St) (z : Int32 × St), rec 3 v1 S = some z → CtI l yX2_readRestOfTruth cX2_readRestOfTruth 3 .boolean dr s0 D ca tpC a A [.ref (a 13), .int v1] S z) ∧ (∀ (v1 : Int32) (S : St) (z : Int32 × St), rec 4 v1 S = some z → CtI l yX2_readSum cX2_readSum 4 .boolean dr s0 D ca tpC a A [.ref (a 13), .int v1] S z) ∧ (∀ (v1 : Int32) (S : St) (z : Int32 × St), rec 5 v1 S = some z → CtI l yX2_readTerm cX2_readTerm 4 .boolean dr s0 D ca tpC a A [.ref (a 13), .int v1] S z) ∧ (∀ (v1 : Int32) (S : St) (z : Int32 × St), rec 6 v1 S = some z → CtI l yX2_readAtom cX2_readAtom 5 .boolean dr s0 D ca tpC a A [.ref (a 13), .int v1] S z)) (hdr : dr + 1 ≤ d) : ∀ (n : Nat) (v1 : Int32) (v2 : Int32) (S : St), VV p l e (rmd d) s m args below meth c D ca tpC a A 3 (QmI D ca tpC a A below args s) S [(0, .ref (a 13)), (1, .int v1), (2, .int v2)] 2 [] (c_LikingReader_readRestOfTruth_h2 rec n v1 v2 S) := by
  intro n
  induction n with
  | zero => intro v1 v2 S; exact V_none
  | succ n ih =>
    intro v1 v2 S
    unfold c_LikingReader_readRestOfTruth_h2
    refine V_iload_n (pc := 2) h 2 dX2_readRestOfTruth_2 rfl rfl ?_
    refine V_sipush (pc := 3) (v := 160) h dX2_readRestOfTruth_3 (by decide) ?_
    refine V_icmp_ge (pc := 6) h 41 dX2_readRestOfTruth_6 (by decide) ?_ ?_
    · refine V_iconst (pc := 41) (v := 1) h dX2_readRestOfTruth_41 (by decide) ?_
      exact V_zret (pc := 42) h hr hlk dX2_readRestOfTruth_42
    · refine V_aload_n (pc := 9) h 0 dX2_readRestOfTruth_9 rfl rfl ?_
      refine V_bipush (pc := 10) (v := 38) h dX2_readRestOfTruth_10 (by decide) ?_
      refine V_callUI (pc := 12) (dy := 2) (q := (RX2, TX2, 4)) h [.int (38 : Int32)] [] 13 mu_X2_19_X2 oC_13 rfl dX2_readRestOfTruth_12 rfl rfl (Nat.le_of_ble_eq_true rfl) (Nat.le_trans (by decide) hD) (c_Reader_takes_13 (38 : Int32) S) (fun z9 hz9 => c_Reader_takes_13_ct h.gg (Nat.le_refl 2) (38 : Int32) S z9 hz9) (fun x2 S1 => ?_)
      refine V_if_eq (pc := 15) h 41 dX2_readRestOfTruth_15 (by decide) ?_ ?_
      · refine V_iconst (pc := 41) (v := 1) h dX2_readRestOfTruth_41 (by decide) ?_
        exact V_zret (pc := 42) h hr hlk dX2_readRestOfTruth_42
      · refine V_aload_n (pc := 18) h 0 dX2_readRestOfTruth_18 rfl rfl ?_
        refine V_iload_n (pc := 19) h 1 dX2_readRestOfTruth_19 rfl rfl ?_
        refine V_callVI (pc := 20) (dy := dr) (q := (RX2, TX2, 4)) h [.int v1] [] 13 mv_X2_27 oC_13 rfl dX2_readRestOfTruth_20 rfl rfl (Nat.le_of_ble_eq_true rfl) hdr (rec 0 v1 S1) (fun z9 hz9 => hrec.1 v1 S1 z9 hz9) (fun x4 S3 => ?_)
        refine V_if_ne (pc := 23) h 28 dX2_readRestOfTruth_23 (by decide) ?_ ?_
        · refine V_aload_n (pc := 28) h 0 dX2_readRestOfTruth_28 rfl rfl ?_
          refine V_bipush (pc := 29) (v := 38) h dX2_readRestOfTruth_29 (by decide) ?_
          refine V_iconst (pc := 31) (v := 0) h dX2_readRestOfTruth_31 (by decide) ?_
          refine V_callVV (pc := 32) (dy := 1) (q := (RX2, TX2, 4)) h [.int (38 : Int32), .int (0 : Int32)] [] 13 mv_X2_42 oC_13 rfl dX2_readRestOfTruth_32 rfl rfl (Nat.le_of_ble_eq_true rfl) (Nat.le_trans (by decide) hD) (c_LikingReader_write (38 : Int32) (0 : Int32) S3) (fun z9 hz9 => c_LikingReader_write_ct h.gg (Nat.le_refl 1) (38 : Int32) (0 : Int32) S3 z9 hz9) (fun S5 => ?_)
          refine V_iincB (pc := 35) h 2 (1 : Int32) (fun x6 => [(2, .int x6), (0, .ref (a 13)), (1, .int v1)]) dX2_readRestOfTruth_35 rfl (by decide) (by decide) (fun _ => rfl) (fun x6 => ?_)
          refine V_goto (pc := 38) h 2 dX2_readRestOfTruth_38 (by decide) ?_
          exact V_ls [1, 2, 0] rfl (ih v1 x6 S5)
        · refine V_iconst (pc := 26) (v := 0) h dX2_readRestOfTruth_26 (by decide) ?_
          exact V_zret (pc := 27) h hr hlk dX2_readRestOfTruth_27
def c_LikingReader_readRestOfTruth (rec : Nat → Int32 → St → Option (Int32 × St)) (v1 : Int32) (S : St) : Option (Int32 × St) := (c_LikingReader_readRestOfTruth_h2 rec FU v1 (0 : Int32) S)
set_option maxHeartbeats 4000000 in
set_option maxRecDepth 100000 in
theorem c_LikingReader_readRestOfTruth_ok {d : Nat} (h : Cx p s m c cX2_readRestOfTruth 3 RX2 s0 args0 D ca a A) (hr : meth.sig.returnType = some .boolean) (hlk : meth.locks = false) (hD : 5 ≤ d) {dr : Nat} (rec : Nat → Int32 → St → Option (Int32 × St)) (hrec : (∀ (v1 : Int32) (S : St) (z : Int32 × St), rec 0 v1 S = some z → CtI l yX2_readUnit cX2_readUnit 3 .boolean dr s0 D ca tpC a A [.ref (a 13), .int v1] S z) ∧ (∀ (v1 : Int32) (S : St) (z : Int32 × St), rec 1 v1 S = some z → CtI l yX2_readComparison cX2_readComparison 3 .boolean dr s0 D ca tpC a A [.ref (a 13), .int v1] S z) ∧ (∀ (v1 : Int32) (S : St) (z : Int32 × St), rec 2 v1 S = some z → CtI l yX2_readRestOfCondition cX2_readRestOfCondition 3 .boolean dr s0 D ca tpC a A [.ref (a 13), .int v1] S z) ∧ (∀ (v1 : Int32) (S : St) (z : Int32 × St), rec 3 v1 S = some z → CtI l yX2_readRestOfTruth cX2_readRestOfTruth 3 .boolean dr s0 D ca tpC a A [.ref (a 13), .int v1] S z) ∧ (∀ (v1 : Int32) (S : St) (z : Int32 × St), rec 4 v1 S = some z → CtI l yX2_readSum cX2_readSum 4 .boolean dr s0 D ca tpC a A [.ref (a 13), .int v1] S z) ∧ (∀ (v1 : Int32) (S : St) (z : Int32 × St), rec 5 v1 S = some z → CtI l yX2_readTerm cX2_readTerm 4 .boolean dr s0 D ca tpC a A [.ref (a 13), .int v1] S z) ∧ (∀ (v1 : Int32) (S : St) (z : Int32 × St), rec 6 v1 S = some z → CtI l yX2_readAtom cX2_readAtom 5 .boolean dr s0 D ca tpC a A [.ref (a 13), .int v1] S z)) (hdr : dr + 1 ≤ d) (v1 : Int32) (S : St) : VV p l e (rmd d) s m args below meth c D ca tpC a A 3 (QmI D ca tpC a A below args s) S [(0, .ref (a 13)), (1, .int v1)] 0 [] (c_LikingReader_readRestOfTruth rec v1 S) := by
  unfold c_LikingReader_readRestOfTruth
  refine V_iconst (pc := 0) (v := 0) h dX2_readRestOfTruth_0 (by decide) ?_
  refine V_istore_n (pc := 1) h [(2, .int (0 : Int32)), (0, .ref (a 13)), (1, .int v1)] dX2_readRestOfTruth_1 rfl (by decide) rfl ?_
  exact V_ls [1, 2, 0] rfl (c_LikingReader_readRestOfTruth_h2_ok h hr hlk hD rec hrec hdr FU v1 (0 : Int32) S)
def c_LikingReader_readSum_b36 (rec : Nat → Int32 → St → Option (Int32 × St)) (L17 : Int32 → Int32 → Int32 → St → Option (Int32 × St)) (v1 : Int32) (v2 : Int32) (v3 : Int32) (S : St) : Option (Int32 × St) := (bnd (up2 S 13 1 ((S 13 1) + (1 : Int32))) (fun S1 => (bI (rec 5 v1 S1) (fun x3 S2 => (if x3 = 0 then (nzM (0 : Int32) (some ((0 : Int32), S2))) else (bV (c_LikingReader_write v2 (0 : Int32) S2) (fun S4 => (bI (c_Reader_next_13 S4) (fun x6 S5 => (bnd (v3 + (1 : Int32)) (fun x7 => (L17 v1 x6 x7 S5))))))))))))
set_option maxHeartbeats 4000000 in
set_option maxRecDepth 100000 in
theorem c_LikingReader_readSum_b36_ok {d : Nat} (h : Cx p s m c cX2_readSum 4 RX2 s0 args0 D ca a A) (hr : meth.sig.returnType = some .boolean) (hlk : meth.locks = false) (hD : 5 ≤ d) {dr : Nat} (rec : Nat → Int32 → St → Option (Int32 × St)) (hrec : (∀ (v1 : Int32) (S : St) (z : Int32 × St), rec 0 v1 S = some z → CtI l yX2_readUnit cX2_readUnit 3 .boolean dr s0 D ca tpC a A [.ref (a 13), .int v1] S z) ∧ (∀ (v1 : Int32) (S : St) (z : Int32 × St), rec 1 v1 S = some z → CtI l yX2_readComparison cX2_readComparison 3 .boolean dr s0 D ca tpC a A [.ref (a 13), .int v1] S z) ∧ (∀ (v1 : Int32) (S : St) (z : Int32 × St), rec 2 v1 S = some z → CtI l yX2_readRestOfCondition cX2_readRestOfCondition 3 .boolean dr s0 D ca tpC a A [.ref (a 13), .int v1] S z) ∧ (∀ (v1 : Int32) (S : St) (z : Int32 × St), rec 3 v1 S = some z → CtI l yX2_readRestOfTruth cX2_readRestOfTruth 3 .boolean dr s0 D ca tpC a A [.ref (a 13), .int v1] S z) ∧ (∀ (v1 : Int32) (S : St) (z : Int32 × St), rec 4 v1 S = some z → CtI l yX2_readSum cX2_readSum 4 .boolean dr s0 D ca tpC a A [.ref (a 13), .int v1] S z) ∧ (∀ (v1 : Int32) (S : St) (z : Int32 × St), rec 5 v1 S = some z → CtI l yX2_readTerm cX2_readTerm 4 .boolean dr s0 D ca tpC a A [.ref (a 13), .int v1] S z) ∧ (∀ (v1 : Int32) (S : St) (z : Int32 × St), rec 6 v1 S = some z → CtI l yX2_readAtom cX2_readAtom 5 .boolean dr s0 D ca tpC a A [.ref (a 13), .int v1] S z)) (hdr : dr + 1 ≤ d) (L17 : Int32 → Int32 → Int32 → St → Option (Int32 × St)) (hL17 : ∀ (v1 : Int32) (v2 : Int32) (v3 : Int32) (S : St), VV p l e (rmd d) s m args below meth c D ca tpC a A 4 (QmI D ca tpC a A below args s) S [(0, .ref (a 13)), (1, .int v1), (2, .int v2), (3, .int v3)] 17 [] (L17 v1 v2 v3 S)) (v1 : Int32) (v2 : Int32) (v3 : Int32) (S : St) : VV p l e (rmd d) s m args below meth c D ca tpC a A 4 (QmI D ca tpC a A below args s) S [(0, .ref (a 13)), (1, .int v1), (2, .int v2), (3, .int v3)] 36 [] (c_LikingReader_readSum_b36 rec L17 v1 v2 v3 S) := by
  unfold c_LikingReader_readSum_b36
  refine V_aload_n (pc := 36) h 0 dX2_readSum_36 rfl rfl ?_
  refine V_dup (pc := 37) h dX2_readSum_37 rfl ?_
  refine V_get (pc := 38) h 13 1 (.int (S 13 1)) fl_X2_50_X2 oC_13 rfl rfl dX2_readSum_38 ?_
  refine V_iconst (pc := 41) (v := 1) h dX2_readSum_41 (by decide) ?_
  refine V_iadd (pc := 42) h dX2_readSum_42 ?_
  refine V_put (pc := 43) h 13 1 ((S 13 1) + (1 : Int32)) fp_X2_50_X2 oC_13 rfl rfl rfl rfl dX2_readSum_43 (fun S1 => ?_)
  refine V_aload_n (pc := 46) h 0 dX2_readSum_46 rfl rfl ?_
  refine V_iload_n (pc := 47) h 1 dX2_readSum_47 rfl rfl ?_
  refine V_callVI (pc := 48) (dy := dr) (q := (RX2, TX2, 4)) h [.int v1] [] 13 mv_X2_56 oC_13 rfl dX2_readSum_48 rfl rfl (Nat.le_of_ble_eq_true rfl) hdr (rec 5 v1 S1) (fun z9 hz9 => hrec.2.2.2.2.2.1 v1 S1 z9 hz9) (fun x3 S2 => ?_)
  refine V_if_ne (pc := 51) h 56 dX2_readSum_51 (by decide) ?_ ?_
  · refine V_aload_n (pc := 56) h 0 dX2_readSum_56 rfl rfl ?_
    refine V_iload_n (pc := 57) h 2 dX2_readSum_57 rfl rfl ?_
    refine V_iconst (pc := 58) (v := 0) h dX2_readSum_58 (by decide) ?_
    refine V_callVV (pc := 59) (dy := 1) (q := (RX2, TX2, 4)) h [.int v2, .int (0 : Int32)] [] 13 mv_X2_42 oC_13 rfl dX2_readSum_59 rfl rfl (Nat.le_of_ble_eq_true rfl) (Nat.le_trans (by decide) hD) (c_LikingReader_write v2 (0 : Int32) S2) (fun z9 hz9 => c_LikingReader_write_ct h.gg (Nat.le_refl 1) v2 (0 : Int32) S2 z9 hz9) (fun S4 => ?_)
    refine V_aload_n (pc := 62) h 0 dX2_readSum_62 rfl rfl ?_
    refine V_callUI (pc := 63) (dy := 1) (q := (RX2, TX2, 4)) h [] [] 13 mu_X2_23_X2 oC_13 rfl dX2_readSum_63 rfl rfl (Nat.le_of_ble_eq_true rfl) (Nat.le_trans (by decide) hD) (c_Reader_next_13 S4) (fun z9 hz9 => c_Reader_next_13_ct h.gg (Nat.le_refl 1) S4 z9 hz9) (fun x6 S5 => ?_)
    refine V_istore_n (pc := 66) h [(2, .int x6), (0, .ref (a 13)), (1, .int v1), (3, .int v3)] dX2_readSum_66 rfl (by decide) rfl ?_
    refine V_iincB (pc := 67) h 3 (1 : Int32) (fun x7 => [(3, .int x7), (2, .int x6), (0, .ref (a 13)), (1, .int v1)]) dX2_readSum_67 rfl (by decide) (by decide) (fun _ => rfl) (fun x7 => ?_)
    refine V_goto (pc := 70) h 17 dX2_readSum_70 (by decide) ?_
    exact V_ls [2, 3, 1, 0] rfl (hL17 v1 x6 x7 S5)
  · refine V_iconst (pc := 54) (v := 0) h dX2_readSum_54 (by decide) ?_
    exact V_zret (pc := 55) h hr hlk dX2_readSum_55
def c_LikingReader_readSum_h17 (rec : Nat → Int32 → St → Option (Int32 × St)) : Nat → Int32 → Int32 → Int32 → St → Option (Int32 × St)
  | 0, _, _, _, _ => none
  | n + 1, v1, v2, v3, S => (if (160 : Int32) ≤ v3 then (nzM (1 : Int32) (some ((1 : Int32), S))) else (if v2 = (43 : Int32) then (c_LikingReader_readSum_b36 rec (c_LikingReader_readSum_h17 rec n) v1 v2 v3 S) else (if v2 = (45 : Int32) then (c_LikingReader_readSum_b36 rec (c_LikingReader_readSum_h17 rec n) v1 v2 v3 S) else (nzM (1 : Int32) (some ((1 : Int32), S))))))
set_option maxHeartbeats 4000000 in
set_option maxRecDepth 100000 in
theorem c_LikingReader_readSum_h17_ok {d : Nat} (h : Cx p s m c cX2_readSum 4 RX2 s0 args0 D ca a A) (hr : meth.sig.returnType = some .boolean) (hlk : meth.locks = false) (hD : 5 ≤ d) {dr : Nat} (rec : Nat → Int32 → St → Option (Int32 × St)) (hrec : (∀ (v1 : Int32) (S : St) (z : Int32 × St), rec 0 v1 S = some z → CtI l yX2_readUnit cX2_readUnit 3 .boolean dr s0 D ca tpC a A [.ref (a 13), .int v1] S z) ∧ (∀ (v1 : Int32) (S : St) (z : Int32 × St), rec 1 v1 S = some z → CtI l yX2_readComparison cX2_readComparison 3 .boolean dr s0 D ca tpC a A [.ref (a 13), .int v1] S z) ∧ (∀ (v1 : Int32) (S : St) (z : Int32 × St), rec 2 v1 S = some z → CtI l yX2_readRestOfCondition cX2_readRestOfCondition 3 .boolean dr s0 D ca tpC a A [.ref (a 13), .int v1] S z) ∧ (∀ (v1 : Int32) (S : St) (z : Int32 × St), rec 3 v1 S = some z → CtI l yX2_readRestOfTruth cX2_readRestOfTruth 3 .boolean dr s0 D ca tpC a A [.ref (a 13), .int v1] S z) ∧ (∀ (v1 : Int32) (S : St) (z : Int32 × St), rec 4 v1 S = some z → CtI l yX2_readSum cX2_readSum 4 .boolean dr s0 D ca tpC a A [.ref (a 13), .int v1] S z) ∧ (∀ (v1 : Int32) (S : St) (z : Int32 × St), rec 5 v1 S = some z → CtI l yX2_readTerm cX2_readTerm 4 .boolean dr s0 D ca tpC a A [.ref (a 13), .int v1] S z) ∧ (∀ (v1 : Int32) (S : St) (z : Int32 × St), rec 6 v1 S = some z → CtI l yX2_readAtom cX2_readAtom 5 .boolean dr s0 D ca tpC a A [.ref (a 13), .int v1] S z)) (hdr : dr + 1 ≤ d) : ∀ (n : Nat) (v1 : Int32) (v2 : Int32) (v3 : Int32) (S : St), VV p l e (rmd d) s m args below meth c D ca tpC a A 4 (QmI D ca tpC a A below args s) S [(0, .ref (a 13)), (1, .int v1), (2, .int v2), (3, .int v3)] 17 [] (c_LikingReader_readSum_h17 rec n v1 v2 v3 S) := by
  intro n
  induction n with
  | zero => intro v1 v2 v3 S; exact V_none
  | succ n ih =>
    intro v1 v2 v3 S
    unfold c_LikingReader_readSum_h17
    refine V_iload_n (pc := 17) h 3 dX2_readSum_17 rfl rfl ?_
    refine V_sipush (pc := 18) (v := 160) h dX2_readSum_18 (by decide) ?_
    refine V_icmp_ge (pc := 21) h 73 dX2_readSum_21 (by decide) ?_ ?_
    · refine V_iconst (pc := 73) (v := 1) h dX2_readSum_73 (by decide) ?_
      exact V_zret (pc := 74) h hr hlk dX2_readSum_74
    · refine V_iload_n (pc := 24) h 2 dX2_readSum_24 rfl rfl ?_
      refine V_bipush (pc := 25) (v := 43) h dX2_readSum_25 (by decide) ?_
      refine V_icmp_eq (pc := 27) h 36 dX2_readSum_27 (by decide) ?_ ?_
      · exact V_ls [0, 1, 2, 3] rfl (c_LikingReader_readSum_b36_ok h hr hlk hD rec hrec hdr (c_LikingReader_readSum_h17 rec n) ih v1 v2 v3 S)
      · refine V_iload_n (pc := 30) h 2 dX2_readSum_30 rfl rfl ?_
        refine V_bipush (pc := 31) (v := 45) h dX2_readSum_31 (by decide) ?_
        refine V_icmp_ne (pc := 33) h 73 dX2_readSum_33 (by decide) ?_ ?_
        · refine V_iconst (pc := 73) (v := 1) h dX2_readSum_73 (by decide) ?_
          exact V_zret (pc := 74) h hr hlk dX2_readSum_74
        · exact V_ls [0, 1, 2, 3] rfl (c_LikingReader_readSum_b36_ok h hr hlk hD rec hrec hdr (c_LikingReader_readSum_h17 rec n) ih v1 v2 v3 S)
def c_LikingReader_readSum (rec : Nat → Int32 → St → Option (Int32 × St)) (v1 : Int32) (S : St) : Option (Int32 × St) := (bI (rec 5 v1 S) (fun x2 S1 => (if x2 = 0 then (nzM (0 : Int32) (some ((0 : Int32), S1))) else (bI (c_Reader_next_13 S1) (fun x4 S3 => (c_LikingReader_readSum_h17 rec FU v1 x4 (0 : Int32) S3))))))
set_option maxHeartbeats 4000000 in
set_option maxRecDepth 100000 in
theorem c_LikingReader_readSum_ok {d : Nat} (h : Cx p s m c cX2_readSum 4 RX2 s0 args0 D ca a A) (hr : meth.sig.returnType = some .boolean) (hlk : meth.locks = false) (hD : 5 ≤ d) {dr : Nat} (rec : Nat → Int32 → St → Option (Int32 × St)) (hrec : (∀ (v1 : Int32) (S : St) (z : Int32 × St), rec 0 v1 S = some z → CtI l yX2_readUnit cX2_readUnit 3 .boolean dr s0 D ca tpC a A [.ref (a 13), .int v1] S z) ∧ (∀ (v1 : Int32) (S : St) (z : Int32 × St), rec 1 v1 S = some z → CtI l yX2_readComparison cX2_readComparison 3 .boolean dr s0 D ca tpC a A [.ref (a 13), .int v1] S z) ∧ (∀ (v1 : Int32) (S : St) (z : Int32 × St), rec 2 v1 S = some z → CtI l yX2_readRestOfCondition cX2_readRestOfCondition 3 .boolean dr s0 D ca tpC a A [.ref (a 13), .int v1] S z) ∧ (∀ (v1 : Int32) (S : St) (z : Int32 × St), rec 3 v1 S = some z → CtI l yX2_readRestOfTruth cX2_readRestOfTruth 3 .boolean dr s0 D ca tpC a A [.ref (a 13), .int v1] S z) ∧ (∀ (v1 : Int32) (S : St) (z : Int32 × St), rec 4 v1 S = some z → CtI l yX2_readSum cX2_readSum 4 .boolean dr s0 D ca tpC a A [.ref (a 13), .int v1] S z) ∧ (∀ (v1 : Int32) (S : St) (z : Int32 × St), rec 5 v1 S = some z → CtI l yX2_readTerm cX2_readTerm 4 .boolean dr s0 D ca tpC a A [.ref (a 13), .int v1] S z) ∧ (∀ (v1 : Int32) (S : St) (z : Int32 × St), rec 6 v1 S = some z → CtI l yX2_readAtom cX2_readAtom 5 .boolean dr s0 D ca tpC a A [.ref (a 13), .int v1] S z)) (hdr : dr + 1 ≤ d) (v1 : Int32) (S : St) : VV p l e (rmd d) s m args below meth c D ca tpC a A 4 (QmI D ca tpC a A below args s) S [(0, .ref (a 13)), (1, .int v1)] 0 [] (c_LikingReader_readSum rec v1 S) := by
  unfold c_LikingReader_readSum
  refine V_aload_n (pc := 0) h 0 dX2_readSum_0 rfl rfl ?_
  refine V_iload_n (pc := 1) h 1 dX2_readSum_1 rfl rfl ?_
  refine V_callVI (pc := 2) (dy := dr) (q := (RX2, TX2, 4)) h [.int v1] [] 13 mv_X2_56 oC_13 rfl dX2_readSum_2 rfl rfl (Nat.le_of_ble_eq_true rfl) hdr (rec 5 v1 S) (fun z9 hz9 => hrec.2.2.2.2.2.1 v1 S z9 hz9) (fun x2 S1 => ?_)
  refine V_if_ne (pc := 5) h 10 dX2_readSum_5 (by decide) ?_ ?_
  · refine V_aload_n (pc := 10) h 0 dX2_readSum_10 rfl rfl ?_
    refine V_callUI (pc := 11) (dy := 1) (q := (RX2, TX2, 4)) h [] [] 13 mu_X2_23_X2 oC_13 rfl dX2_readSum_11 rfl rfl (Nat.le_of_ble_eq_true rfl) (Nat.le_trans (by decide) hD) (c_Reader_next_13 S1) (fun z9 hz9 => c_Reader_next_13_ct h.gg (Nat.le_refl 1) S1 z9 hz9) (fun x4 S3 => ?_)
    refine V_istore_n (pc := 14) h [(2, .int x4), (0, .ref (a 13)), (1, .int v1)] dX2_readSum_14 rfl (by decide) rfl ?_
    refine V_iconst (pc := 15) (v := 0) h dX2_readSum_15 (by decide) ?_
    refine V_istore_n (pc := 16) h [(3, .int (0 : Int32)), (2, .int x4), (0, .ref (a 13)), (1, .int v1)] dX2_readSum_16 rfl (by decide) rfl ?_
    exact V_ls [2, 3, 1, 0] rfl (c_LikingReader_readSum_h17_ok h hr hlk hD rec hrec hdr FU v1 x4 (0 : Int32) S3)
  · refine V_iconst (pc := 8) (v := 0) h dX2_readSum_8 (by decide) ?_
    exact V_zret (pc := 9) h hr hlk dX2_readSum_9
def c_LikingReader_readTerm_b36 (rec : Nat → Int32 → St → Option (Int32 × St)) (L17 : Int32 → Int32 → Int32 → St → Option (Int32 × St)) (v1 : Int32) (v2 : Int32) (v3 : Int32) (S : St) : Option (Int32 × St) := (bnd (up2 S 13 1 ((S 13 1) + (1 : Int32))) (fun S1 => (bI (rec 6 v1 S1) (fun x3 S2 => (if x3 = 0 then (nzM (0 : Int32) (some ((0 : Int32), S2))) else (bV (c_LikingReader_write v2 (0 : Int32) S2) (fun S4 => (bI (c_Reader_next_13 S4) (fun x6 S5 => (bnd (v3 + (1 : Int32)) (fun x7 => (L17 v1 x6 x7 S5))))))))))))
set_option maxHeartbeats 4000000 in
set_option maxRecDepth 100000 in
theorem c_LikingReader_readTerm_b36_ok {d : Nat} (h : Cx p s m c cX2_readTerm 4 RX2 s0 args0 D ca a A) (hr : meth.sig.returnType = some .boolean) (hlk : meth.locks = false) (hD : 5 ≤ d) {dr : Nat} (rec : Nat → Int32 → St → Option (Int32 × St)) (hrec : (∀ (v1 : Int32) (S : St) (z : Int32 × St), rec 0 v1 S = some z → CtI l yX2_readUnit cX2_readUnit 3 .boolean dr s0 D ca tpC a A [.ref (a 13), .int v1] S z) ∧ (∀ (v1 : Int32) (S : St) (z : Int32 × St), rec 1 v1 S = some z → CtI l yX2_readComparison cX2_readComparison 3 .boolean dr s0 D ca tpC a A [.ref (a 13), .int v1] S z) ∧ (∀ (v1 : Int32) (S : St) (z : Int32 × St), rec 2 v1 S = some z → CtI l yX2_readRestOfCondition cX2_readRestOfCondition 3 .boolean dr s0 D ca tpC a A [.ref (a 13), .int v1] S z) ∧ (∀ (v1 : Int32) (S : St) (z : Int32 × St), rec 3 v1 S = some z → CtI l yX2_readRestOfTruth cX2_readRestOfTruth 3 .boolean dr s0 D ca tpC a A [.ref (a 13), .int v1] S z) ∧ (∀ (v1 : Int32) (S : St) (z : Int32 × St), rec 4 v1 S = some z → CtI l yX2_readSum cX2_readSum 4 .boolean dr s0 D ca tpC a A [.ref (a 13), .int v1] S z) ∧ (∀ (v1 : Int32) (S : St) (z : Int32 × St), rec 5 v1 S = some z → CtI l yX2_readTerm cX2_readTerm 4 .boolean dr s0 D ca tpC a A [.ref (a 13), .int v1] S z) ∧ (∀ (v1 : Int32) (S : St) (z : Int32 × St), rec 6 v1 S = some z → CtI l yX2_readAtom cX2_readAtom 5 .boolean dr s0 D ca tpC a A [.ref (a 13), .int v1] S z)) (hdr : dr + 1 ≤ d) (L17 : Int32 → Int32 → Int32 → St → Option (Int32 × St)) (hL17 : ∀ (v1 : Int32) (v2 : Int32) (v3 : Int32) (S : St), VV p l e (rmd d) s m args below meth c D ca tpC a A 4 (QmI D ca tpC a A below args s) S [(0, .ref (a 13)), (1, .int v1), (2, .int v2), (3, .int v3)] 17 [] (L17 v1 v2 v3 S)) (v1 : Int32) (v2 : Int32) (v3 : Int32) (S : St) : VV p l e (rmd d) s m args below meth c D ca tpC a A 4 (QmI D ca tpC a A below args s) S [(0, .ref (a 13)), (1, .int v1), (2, .int v2), (3, .int v3)] 36 [] (c_LikingReader_readTerm_b36 rec L17 v1 v2 v3 S) := by
  unfold c_LikingReader_readTerm_b36
  refine V_aload_n (pc := 36) h 0 dX2_readTerm_36 rfl rfl ?_
  refine V_dup (pc := 37) h dX2_readTerm_37 rfl ?_
  refine V_get (pc := 38) h 13 1 (.int (S 13 1)) fl_X2_50_X2 oC_13 rfl rfl dX2_readTerm_38 ?_
  refine V_iconst (pc := 41) (v := 1) h dX2_readTerm_41 (by decide) ?_
  refine V_iadd (pc := 42) h dX2_readTerm_42 ?_
  refine V_put (pc := 43) h 13 1 ((S 13 1) + (1 : Int32)) fp_X2_50_X2 oC_13 rfl rfl rfl rfl dX2_readTerm_43 (fun S1 => ?_)
  refine V_aload_n (pc := 46) h 0 dX2_readTerm_46 rfl rfl ?_
  refine V_iload_n (pc := 47) h 1 dX2_readTerm_47 rfl rfl ?_
  refine V_callVI (pc := 48) (dy := dr) (q := (RX2, TX2, 4)) h [.int v1] [] 13 mv_X2_59 oC_13 rfl dX2_readTerm_48 rfl rfl (Nat.le_of_ble_eq_true rfl) hdr (rec 6 v1 S1) (fun z9 hz9 => hrec.2.2.2.2.2.2 v1 S1 z9 hz9) (fun x3 S2 => ?_)
  refine V_if_ne (pc := 51) h 56 dX2_readTerm_51 (by decide) ?_ ?_
  · refine V_aload_n (pc := 56) h 0 dX2_readTerm_56 rfl rfl ?_
    refine V_iload_n (pc := 57) h 2 dX2_readTerm_57 rfl rfl ?_
    refine V_iconst (pc := 58) (v := 0) h dX2_readTerm_58 (by decide) ?_
    refine V_callVV (pc := 59) (dy := 1) (q := (RX2, TX2, 4)) h [.int v2, .int (0 : Int32)] [] 13 mv_X2_42 oC_13 rfl dX2_readTerm_59 rfl rfl (Nat.le_of_ble_eq_true rfl) (Nat.le_trans (by decide) hD) (c_LikingReader_write v2 (0 : Int32) S2) (fun z9 hz9 => c_LikingReader_write_ct h.gg (Nat.le_refl 1) v2 (0 : Int32) S2 z9 hz9) (fun S4 => ?_)
    refine V_aload_n (pc := 62) h 0 dX2_readTerm_62 rfl rfl ?_
    refine V_callUI (pc := 63) (dy := 1) (q := (RX2, TX2, 4)) h [] [] 13 mu_X2_23_X2 oC_13 rfl dX2_readTerm_63 rfl rfl (Nat.le_of_ble_eq_true rfl) (Nat.le_trans (by decide) hD) (c_Reader_next_13 S4) (fun z9 hz9 => c_Reader_next_13_ct h.gg (Nat.le_refl 1) S4 z9 hz9) (fun x6 S5 => ?_)
    refine V_istore_n (pc := 66) h [(2, .int x6), (0, .ref (a 13)), (1, .int v1), (3, .int v3)] dX2_readTerm_66 rfl (by decide) rfl ?_
    refine V_iincB (pc := 67) h 3 (1 : Int32) (fun x7 => [(3, .int x7), (2, .int x6), (0, .ref (a 13)), (1, .int v1)]) dX2_readTerm_67 rfl (by decide) (by decide) (fun _ => rfl) (fun x7 => ?_)
    refine V_goto (pc := 70) h 17 dX2_readTerm_70 (by decide) ?_
    exact V_ls [2, 3, 1, 0] rfl (hL17 v1 x6 x7 S5)
  · refine V_iconst (pc := 54) (v := 0) h dX2_readTerm_54 (by decide) ?_
    exact V_zret (pc := 55) h hr hlk dX2_readTerm_55
def c_LikingReader_readTerm_h17 (rec : Nat → Int32 → St → Option (Int32 × St)) : Nat → Int32 → Int32 → Int32 → St → Option (Int32 × St)
  | 0, _, _, _, _ => none
  | n + 1, v1, v2, v3, S => (if (160 : Int32) ≤ v3 then (nzM (1 : Int32) (some ((1 : Int32), S))) else (if v2 = (42 : Int32) then (c_LikingReader_readTerm_b36 rec (c_LikingReader_readTerm_h17 rec n) v1 v2 v3 S) else (if v2 = (47 : Int32) then (c_LikingReader_readTerm_b36 rec (c_LikingReader_readTerm_h17 rec n) v1 v2 v3 S) else (nzM (1 : Int32) (some ((1 : Int32), S))))))
set_option maxHeartbeats 4000000 in
set_option maxRecDepth 100000 in
theorem c_LikingReader_readTerm_h17_ok {d : Nat} (h : Cx p s m c cX2_readTerm 4 RX2 s0 args0 D ca a A) (hr : meth.sig.returnType = some .boolean) (hlk : meth.locks = false) (hD : 5 ≤ d) {dr : Nat} (rec : Nat → Int32 → St → Option (Int32 × St)) (hrec : (∀ (v1 : Int32) (S : St) (z : Int32 × St), rec 0 v1 S = some z → CtI l yX2_readUnit cX2_readUnit 3 .boolean dr s0 D ca tpC a A [.ref (a 13), .int v1] S z) ∧ (∀ (v1 : Int32) (S : St) (z : Int32 × St), rec 1 v1 S = some z → CtI l yX2_readComparison cX2_readComparison 3 .boolean dr s0 D ca tpC a A [.ref (a 13), .int v1] S z) ∧ (∀ (v1 : Int32) (S : St) (z : Int32 × St), rec 2 v1 S = some z → CtI l yX2_readRestOfCondition cX2_readRestOfCondition 3 .boolean dr s0 D ca tpC a A [.ref (a 13), .int v1] S z) ∧ (∀ (v1 : Int32) (S : St) (z : Int32 × St), rec 3 v1 S = some z → CtI l yX2_readRestOfTruth cX2_readRestOfTruth 3 .boolean dr s0 D ca tpC a A [.ref (a 13), .int v1] S z) ∧ (∀ (v1 : Int32) (S : St) (z : Int32 × St), rec 4 v1 S = some z → CtI l yX2_readSum cX2_readSum 4 .boolean dr s0 D ca tpC a A [.ref (a 13), .int v1] S z) ∧ (∀ (v1 : Int32) (S : St) (z : Int32 × St), rec 5 v1 S = some z → CtI l yX2_readTerm cX2_readTerm 4 .boolean dr s0 D ca tpC a A [.ref (a 13), .int v1] S z) ∧ (∀ (v1 : Int32) (S : St) (z : Int32 × St), rec 6 v1 S = some z → CtI l yX2_readAtom cX2_readAtom 5 .boolean dr s0 D ca tpC a A [.ref (a 13), .int v1] S z)) (hdr : dr + 1 ≤ d) : ∀ (n : Nat) (v1 : Int32) (v2 : Int32) (v3 : Int32) (S : St), VV p l e (rmd d) s m args below meth c D ca tpC a A 4 (QmI D ca tpC a A below args s) S [(0, .ref (a 13)), (1, .int v1), (2, .int v2), (3, .int v3)] 17 [] (c_LikingReader_readTerm_h17 rec n v1 v2 v3 S) := by
  intro n
  induction n with
  | zero => intro v1 v2 v3 S; exact V_none
  | succ n ih =>
    intro v1 v2 v3 S
    unfold c_LikingReader_readTerm_h17
    refine V_iload_n (pc := 17) h 3 dX2_readTerm_17 rfl rfl ?_
    refine V_sipush (pc := 18) (v := 160) h dX2_readTerm_18 (by decide) ?_
    refine V_icmp_ge (pc := 21) h 73 dX2_readTerm_21 (by decide) ?_ ?_
    · refine V_iconst (pc := 73) (v := 1) h dX2_readTerm_73 (by decide) ?_
      exact V_zret (pc := 74) h hr hlk dX2_readTerm_74
    · refine V_iload_n (pc := 24) h 2 dX2_readTerm_24 rfl rfl ?_
      refine V_bipush (pc := 25) (v := 42) h dX2_readTerm_25 (by decide) ?_
      refine V_icmp_eq (pc := 27) h 36 dX2_readTerm_27 (by decide) ?_ ?_
      · exact V_ls [0, 1, 2, 3] rfl (c_LikingReader_readTerm_b36_ok h hr hlk hD rec hrec hdr (c_LikingReader_readTerm_h17 rec n) ih v1 v2 v3 S)
      · refine V_iload_n (pc := 30) h 2 dX2_readTerm_30 rfl rfl ?_
        refine V_bipush (pc := 31) (v := 47) h dX2_readTerm_31 (by decide) ?_
        refine V_icmp_ne (pc := 33) h 73 dX2_readTerm_33 (by decide) ?_ ?_
        · refine V_iconst (pc := 73) (v := 1) h dX2_readTerm_73 (by decide) ?_
          exact V_zret (pc := 74) h hr hlk dX2_readTerm_74
        · exact V_ls [0, 1, 2, 3] rfl (c_LikingReader_readTerm_b36_ok h hr hlk hD rec hrec hdr (c_LikingReader_readTerm_h17 rec n) ih v1 v2 v3 S)
def c_LikingReader_readTerm (rec : Nat → Int32 → St → Option (Int32 × St)) (v1 : Int32) (S : St) : Option (Int32 × St) := (bI (rec 6 v1 S) (fun x2 S1 => (if x2 = 0 then (nzM (0 : Int32) (some ((0 : Int32), S1))) else (bI (c_Reader_next_13 S1) (fun x4 S3 => (c_LikingReader_readTerm_h17 rec FU v1 x4 (0 : Int32) S3))))))
set_option maxHeartbeats 4000000 in
set_option maxRecDepth 100000 in
theorem c_LikingReader_readTerm_ok {d : Nat} (h : Cx p s m c cX2_readTerm 4 RX2 s0 args0 D ca a A) (hr : meth.sig.returnType = some .boolean) (hlk : meth.locks = false) (hD : 5 ≤ d) {dr : Nat} (rec : Nat → Int32 → St → Option (Int32 × St)) (hrec : (∀ (v1 : Int32) (S : St) (z : Int32 × St), rec 0 v1 S = some z → CtI l yX2_readUnit cX2_readUnit 3 .boolean dr s0 D ca tpC a A [.ref (a 13), .int v1] S z) ∧ (∀ (v1 : Int32) (S : St) (z : Int32 × St), rec 1 v1 S = some z → CtI l yX2_readComparison cX2_readComparison 3 .boolean dr s0 D ca tpC a A [.ref (a 13), .int v1] S z) ∧ (∀ (v1 : Int32) (S : St) (z : Int32 × St), rec 2 v1 S = some z → CtI l yX2_readRestOfCondition cX2_readRestOfCondition 3 .boolean dr s0 D ca tpC a A [.ref (a 13), .int v1] S z) ∧ (∀ (v1 : Int32) (S : St) (z : Int32 × St), rec 3 v1 S = some z → CtI l yX2_readRestOfTruth cX2_readRestOfTruth 3 .boolean dr s0 D ca tpC a A [.ref (a 13), .int v1] S z) ∧ (∀ (v1 : Int32) (S : St) (z : Int32 × St), rec 4 v1 S = some z → CtI l yX2_readSum cX2_readSum 4 .boolean dr s0 D ca tpC a A [.ref (a 13), .int v1] S z) ∧ (∀ (v1 : Int32) (S : St) (z : Int32 × St), rec 5 v1 S = some z → CtI l yX2_readTerm cX2_readTerm 4 .boolean dr s0 D ca tpC a A [.ref (a 13), .int v1] S z) ∧ (∀ (v1 : Int32) (S : St) (z : Int32 × St), rec 6 v1 S = some z → CtI l yX2_readAtom cX2_readAtom 5 .boolean dr s0 D ca tpC a A [.ref (a 13), .int v1] S z)) (hdr : dr + 1 ≤ d) (v1 : Int32) (S : St) : VV p l e (rmd d) s m args below meth c D ca tpC a A 4 (QmI D ca tpC a A below args s) S [(0, .ref (a 13)), (1, .int v1)] 0 [] (c_LikingReader_readTerm rec v1 S) := by
  unfold c_LikingReader_readTerm
  refine V_aload_n (pc := 0) h 0 dX2_readTerm_0 rfl rfl ?_
  refine V_iload_n (pc := 1) h 1 dX2_readTerm_1 rfl rfl ?_
  refine V_callVI (pc := 2) (dy := dr) (q := (RX2, TX2, 4)) h [.int v1] [] 13 mv_X2_59 oC_13 rfl dX2_readTerm_2 rfl rfl (Nat.le_of_ble_eq_true rfl) hdr (rec 6 v1 S) (fun z9 hz9 => hrec.2.2.2.2.2.2 v1 S z9 hz9) (fun x2 S1 => ?_)
  refine V_if_ne (pc := 5) h 10 dX2_readTerm_5 (by decide) ?_ ?_
  · refine V_aload_n (pc := 10) h 0 dX2_readTerm_10 rfl rfl ?_
    refine V_callUI (pc := 11) (dy := 1) (q := (RX2, TX2, 4)) h [] [] 13 mu_X2_23_X2 oC_13 rfl dX2_readTerm_11 rfl rfl (Nat.le_of_ble_eq_true rfl) (Nat.le_trans (by decide) hD) (c_Reader_next_13 S1) (fun z9 hz9 => c_Reader_next_13_ct h.gg (Nat.le_refl 1) S1 z9 hz9) (fun x4 S3 => ?_)
    refine V_istore_n (pc := 14) h [(2, .int x4), (0, .ref (a 13)), (1, .int v1)] dX2_readTerm_14 rfl (by decide) rfl ?_
    refine V_iconst (pc := 15) (v := 0) h dX2_readTerm_15 (by decide) ?_
    refine V_istore_n (pc := 16) h [(3, .int (0 : Int32)), (2, .int x4), (0, .ref (a 13)), (1, .int v1)] dX2_readTerm_16 rfl (by decide) rfl ?_
    exact V_ls [2, 3, 1, 0] rfl (c_LikingReader_readTerm_h17_ok h hr hlk hD rec hrec hdr FU v1 x4 (0 : Int32) S3)
  · refine V_iconst (pc := 8) (v := 0) h dX2_readTerm_8 (by decide) ?_
    exact V_zret (pc := 9) h hr hlk dX2_readTerm_9
def c_LikingReader_readAtom (rec : Nat → Int32 → St → Option (Int32 × St)) (v1 : Int32) (S : St) : Option (Int32 × St) := (bI (c_Reader_next_13 S) (fun x2 S1 => (if x2 = (91 : Int32) then (if v1 < (6 : Int32) then (bnd (up2 S1 13 1 ((S1 13 1) + (1 : Int32))) (fun S10 => (bI (rec 4 (v1 + (1 : Int32)) S10) (fun x12 S11 => (if x12 = 0 then (nzM (0 : Int32) (some ((0 : Int32), S11))) else (bI (c_Reader_takes_13 (93 : Int32) S11) (fun x14 S13 => (if x14 = 0 then (nzM (0 : Int32) (some ((0 : Int32), S13))) else (nzM (1 : Int32) (some ((1 : Int32), S13))))))))))) else (nzM (0 : Int32) (some ((0 : Int32), S1)))) else (bI (j_String_indexOf_0f7a4 0 ((x2.toUInt32 % 65536).toInt32) S1) (fun x4 S3 => (if x4 < 0 then (bI (c_Reader_number_13 (4 : Int32) S3) (fun x6 S5 => (if x6 = (-1 : Int32) then (nzM (0 : Int32) (some ((0 : Int32), S5))) else (bV (c_LikingReader_write (48 : Int32) x6 S5) (fun S7 => (nzM (1 : Int32) (some ((1 : Int32), S7)))))))) else (bnd (up2 S3 13 1 ((S3 13 1) + (1 : Int32))) (fun S8 => (bV (c_LikingReader_write (121 : Int32) x4 S8) (fun S9 => (nzM (1 : Int32) (some ((1 : Int32), S9)))))))))))))
set_option maxHeartbeats 4000000 in
set_option maxRecDepth 100000 in
theorem c_LikingReader_readAtom_ok {d : Nat} (h : Cx p s m c cX2_readAtom 5 RX2 s0 args0 D ca a A) (hr : meth.sig.returnType = some .boolean) (hlk : meth.locks = false) (hD : 5 ≤ d) {dr : Nat} (rec : Nat → Int32 → St → Option (Int32 × St)) (hrec : (∀ (v1 : Int32) (S : St) (z : Int32 × St), rec 0 v1 S = some z → CtI l yX2_readUnit cX2_readUnit 3 .boolean dr s0 D ca tpC a A [.ref (a 13), .int v1] S z) ∧ (∀ (v1 : Int32) (S : St) (z : Int32 × St), rec 1 v1 S = some z → CtI l yX2_readComparison cX2_readComparison 3 .boolean dr s0 D ca tpC a A [.ref (a 13), .int v1] S z) ∧ (∀ (v1 : Int32) (S : St) (z : Int32 × St), rec 2 v1 S = some z → CtI l yX2_readRestOfCondition cX2_readRestOfCondition 3 .boolean dr s0 D ca tpC a A [.ref (a 13), .int v1] S z) ∧ (∀ (v1 : Int32) (S : St) (z : Int32 × St), rec 3 v1 S = some z → CtI l yX2_readRestOfTruth cX2_readRestOfTruth 3 .boolean dr s0 D ca tpC a A [.ref (a 13), .int v1] S z) ∧ (∀ (v1 : Int32) (S : St) (z : Int32 × St), rec 4 v1 S = some z → CtI l yX2_readSum cX2_readSum 4 .boolean dr s0 D ca tpC a A [.ref (a 13), .int v1] S z) ∧ (∀ (v1 : Int32) (S : St) (z : Int32 × St), rec 5 v1 S = some z → CtI l yX2_readTerm cX2_readTerm 4 .boolean dr s0 D ca tpC a A [.ref (a 13), .int v1] S z) ∧ (∀ (v1 : Int32) (S : St) (z : Int32 × St), rec 6 v1 S = some z → CtI l yX2_readAtom cX2_readAtom 5 .boolean dr s0 D ca tpC a A [.ref (a 13), .int v1] S z)) (hdr : dr + 1 ≤ d) (v1 : Int32) (S : St) : VV p l e (rmd d) s m args below meth c D ca tpC a A 5 (QmI D ca tpC a A below args s) S [(0, .ref (a 13)), (1, .int v1)] 0 [] (c_LikingReader_readAtom rec v1 S) := by
  unfold c_LikingReader_readAtom
  refine V_aload_n (pc := 0) h 0 dX2_readAtom_0 rfl rfl ?_
  refine V_callUI (pc := 1) (dy := 1) (q := (RX2, TX2, 4)) h [] [] 13 mu_X2_23_X2 oC_13 rfl dX2_readAtom_1 rfl rfl (Nat.le_of_ble_eq_true rfl) (Nat.le_trans (by decide) hD) (c_Reader_next_13 S) (fun z9 hz9 => c_Reader_next_13_ct h.gg (Nat.le_refl 1) S z9 hz9) (fun x2 S1 => ?_)
  refine V_istore_n (pc := 4) h [(2, .int x2), (0, .ref (a 13)), (1, .int v1)] dX2_readAtom_4 rfl (by decide) rfl ?_
  refine V_iload_n (pc := 5) h 0 dX2_readAtom_5 rfl rfl ?_
  refine V_bipush (pc := 6) (v := 91) h dX2_readAtom_6 (by decide) ?_
  refine V_icmp_ne (pc := 8) h 54 dX2_readAtom_8 (by decide) ?_ ?_
  · refine V_ldcS (pc := 54) (tx := "lnshit") h 0 (by decide) dX2_readAtom_54 ?_
    refine V_iload_n (pc := 56) h 0 dX2_readAtom_56 rfl rfl ?_
    refine V_i2c (pc := 57) h dX2_readAtom_57 ?_
    refine V_callOI (pc := 58) (dy := 4) h [.int ((x2.toUInt32 % 65536).toInt32)] [] 0 (by decide) mv_X2_64 dX2_readAtom_58 rfl rfl (Nat.le_of_ble_eq_true rfl) (Nat.le_trans (by decide) hD) (j_String_indexOf_0f7a4 0 ((x2.toUInt32 % 65536).toInt32) S1) (fun z9 hz9 => j_String_indexOf_0f7a4_ct h.gg (Nat.le_refl 4) (by decide) ((x2.toUInt32 % 65536).toInt32) S1 z9 hz9) (fun x4 S3 => ?_)
    refine V_istore_n (pc := 61) h [(3, .int x4), (2, .int x2), (0, .ref (a 13)), (1, .int v1)] dX2_readAtom_61 rfl (by decide) rfl ?_
    refine V_iload_n (pc := 62) h 0 dX2_readAtom_62 rfl rfl ?_
    refine V_if_lt (pc := 63) h 85 dX2_readAtom_63 (by decide) ?_ ?_
    · refine V_aload_n (pc := 85) h 2 dX2_readAtom_85 rfl rfl ?_
      refine V_iconst (pc := 86) (v := 4) h dX2_readAtom_86 (by decide) ?_
      refine V_callUI (pc := 87) (dy := 2) (q := (RX2, TX2, 4)) h [.int (4 : Int32)] [] 13 mu_X2_70_X2 oC_13 rfl dX2_readAtom_87 rfl rfl (Nat.le_of_ble_eq_true rfl) (Nat.le_trans (by decide) hD) (c_Reader_number_13 (4 : Int32) S3) (fun z9 hz9 => c_Reader_number_13_ct h.gg (Nat.le_refl 2) (4 : Int32) S3 z9 hz9) (fun x6 S5 => ?_)
      refine V_istore (pc := 90) h [(4, .int x6), (3, .int x4), (2, .int x2), (0, .ref (a 13)), (1, .int v1)] dX2_readAtom_90 (by decide) rfl ?_
      refine V_iload (pc := 92) h 0 dX2_readAtom_92 rfl ?_
      refine V_iconst (pc := 94) (v := -1) h dX2_readAtom_94 (by decide) ?_
      refine V_icmp_ne (pc := 95) h 100 dX2_readAtom_95 (by decide) ?_ ?_
      · refine V_aload_n (pc := 100) h 3 dX2_readAtom_100 rfl rfl ?_
        refine V_bipush (pc := 101) (v := 48) h dX2_readAtom_101 (by decide) ?_
        refine V_iload (pc := 103) h 0 dX2_readAtom_103 rfl ?_
        refine V_callVV (pc := 105) (dy := 1) (q := (RX2, TX2, 4)) h [.int (48 : Int32), .int x6] [] 13 mv_X2_42 oC_13 rfl dX2_readAtom_105 rfl rfl (Nat.le_of_ble_eq_true rfl) (Nat.le_trans (by decide) hD) (c_LikingReader_write (48 : Int32) x6 S5) (fun z9 hz9 => c_LikingReader_write_ct h.gg (Nat.le_refl 1) (48 : Int32) x6 S5 z9 hz9) (fun S7 => ?_)
        refine V_iconst (pc := 108) (v := 1) h dX2_readAtom_108 (by decide) ?_
        exact V_zret (pc := 109) h hr hlk dX2_readAtom_109
      · refine V_iconst (pc := 98) (v := 0) h dX2_readAtom_98 (by decide) ?_
        exact V_zret (pc := 99) h hr hlk dX2_readAtom_99
    · refine V_aload_n (pc := 66) h 2 dX2_readAtom_66 rfl rfl ?_
      refine V_dup (pc := 67) h dX2_readAtom_67 rfl ?_
      refine V_get (pc := 68) h 13 1 (.int (S3 13 1)) fl_X2_50_X2 oC_13 rfl rfl dX2_readAtom_68 ?_
      refine V_iconst (pc := 71) (v := 1) h dX2_readAtom_71 (by decide) ?_
      refine V_iadd (pc := 72) h dX2_readAtom_72 ?_
      refine V_put (pc := 73) h 13 1 ((S3 13 1) + (1 : Int32)) fp_X2_50_X2 oC_13 rfl rfl rfl rfl dX2_readAtom_73 (fun S8 => ?_)
      refine V_aload_n (pc := 76) h 2 dX2_readAtom_76 rfl rfl ?_
      refine V_bipush (pc := 77) (v := 121) h dX2_readAtom_77 (by decide) ?_
      refine V_iload_n (pc := 79) h 0 dX2_readAtom_79 rfl rfl ?_
      refine V_callVV (pc := 80) (dy := 1) (q := (RX2, TX2, 4)) h [.int (121 : Int32), .int x4] [] 13 mv_X2_42 oC_13 rfl dX2_readAtom_80 rfl rfl (Nat.le_of_ble_eq_true rfl) (Nat.le_trans (by decide) hD) (c_LikingReader_write (121 : Int32) x4 S8) (fun z9 hz9 => c_LikingReader_write_ct h.gg (Nat.le_refl 1) (121 : Int32) x4 S8 z9 hz9) (fun S9 => ?_)
      refine V_iconst (pc := 83) (v := 1) h dX2_readAtom_83 (by decide) ?_
      exact V_zret (pc := 84) h hr hlk dX2_readAtom_84
  · refine V_iload_n (pc := 11) h 2 dX2_readAtom_11 rfl rfl ?_
    refine V_bipush (pc := 12) (v := 6) h dX2_readAtom_12 (by decide) ?_
    refine V_icmp_lt (pc := 14) h 19 dX2_readAtom_14 (by decide) ?_ ?_
    · refine V_aload_n (pc := 19) h 1 dX2_readAtom_19 rfl rfl ?_
      refine V_dup (pc := 20) h dX2_readAtom_20 rfl ?_
      refine V_get (pc := 21) h 13 1 (.int (S1 13 1)) fl_X2_50_X2 oC_13 rfl rfl dX2_readAtom_21 ?_
      refine V_iconst (pc := 24) (v := 1) h dX2_readAtom_24 (by decide) ?_
      refine V_iadd (pc := 25) h dX2_readAtom_25 ?_
      refine V_put (pc := 26) h 13 1 ((S1 13 1) + (1 : Int32)) fp_X2_50_X2 oC_13 rfl rfl rfl rfl dX2_readAtom_26 (fun S10 => ?_)
      refine V_aload_n (pc := 29) h 1 dX2_readAtom_29 rfl rfl ?_
      refine V_iload_n (pc := 30) h 2 dX2_readAtom_30 rfl rfl ?_
      refine V_iconst (pc := 31) (v := 1) h dX2_readAtom_31 (by decide) ?_
      refine V_iadd (pc := 32) h dX2_readAtom_32 ?_
      refine V_callVI (pc := 33) (dy := dr) (q := (RX2, TX2, 4)) h [.int (v1 + (1 : Int32))] [] 13 mv_X2_30 oC_13 rfl dX2_readAtom_33 rfl rfl (Nat.le_of_ble_eq_true rfl) hdr (rec 4 (v1 + (1 : Int32)) S10) (fun z9 hz9 => hrec.2.2.2.2.1 (v1 + (1 : Int32)) S10 z9 hz9) (fun x12 S11 => ?_)
      refine V_if_eq (pc := 36) h 52 dX2_readAtom_36 (by decide) ?_ ?_
      · refine V_iconst (pc := 52) (v := 0) h dX2_readAtom_52 (by decide) ?_
        exact V_zret (pc := 53) h hr hlk dX2_readAtom_53
      · refine V_aload_n (pc := 39) h 1 dX2_readAtom_39 rfl rfl ?_
        refine V_bipush (pc := 40) (v := 93) h dX2_readAtom_40 (by decide) ?_
        refine V_callUI (pc := 42) (dy := 2) (q := (RX2, TX2, 4)) h [.int (93 : Int32)] [] 13 mu_X2_19_X2 oC_13 rfl dX2_readAtom_42 rfl rfl (Nat.le_of_ble_eq_true rfl) (Nat.le_trans (by decide) hD) (c_Reader_takes_13 (93 : Int32) S11) (fun z9 hz9 => c_Reader_takes_13_ct h.gg (Nat.le_refl 2) (93 : Int32) S11 z9 hz9) (fun x14 S13 => ?_)
        refine V_if_eq (pc := 45) h 52 dX2_readAtom_45 (by decide) ?_ ?_
        · refine V_iconst (pc := 52) (v := 0) h dX2_readAtom_52 (by decide) ?_
          exact V_zret (pc := 53) h hr hlk dX2_readAtom_53
        · refine V_iconst (pc := 48) (v := 1) h dX2_readAtom_48 (by decide) ?_
          refine V_goto (pc := 49) h 53 dX2_readAtom_49 (by decide) ?_
          exact V_zret (pc := 53) h hr hlk dX2_readAtom_53
    · refine V_iconst (pc := 17) (v := 0) h dX2_readAtom_17 (by decide) ?_
      exact V_zret (pc := 18) h hr hlk dX2_readAtom_18
end GEN
