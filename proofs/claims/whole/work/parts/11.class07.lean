section GEN
variable {p : Program} {l : Launch} {e : Env} {s : State} {m : MethodId} {args : Array Value} {below : List Frame} {meth : Method} {c : Code}
variable {D : va_G} {ca : Nat → ClassId} {tp : List ODt} {a : Nat → Nat} {A : Nat → Prop} {s0 : State} {args0 : Array Value} {t : Nat}
def c_N_about_h73 (L54 : Int32 → Int32 → Int32 → St → Option (Int32 × St)) : Nat → Int32 → Int32 → Int32 → Int32 → St → Option (Int32 × St)
  | 0, _, _, _, _, _ => none
  | n + 1, v1, v2, v3, v4, S => (if (S 28 0) ≤ v4 then (bV (c_State_turnOrder 38 (S 28 0) S) (fun S1 => (bnd (up2 S1 38 0 ((S1 38 0) + (1 : Int32))) (fun S2 => (bnd (v3 + (1 : Int32)) (fun x3 => (L54 v1 v2 x3 S2))))))) else (ckM v4 6 (bI (c_Noon_mealOf v4 S) (fun x5 S4 => (ckM v4 6 (bnd (up2 S4 131 v4.toNatClampNeg ((S 131 v4.toNatClampNeg) + x5)) (fun S6 => (bnd (v4 + (1 : Int32)) (fun x7 => ((c_N_about_h73 L54 n) v1 v2 v3 x7 S6))))))))))
set_option maxHeartbeats 4000000 in
set_option maxRecDepth 100000 in
theorem c_N_about_h73_ok {d : Nat} (h : Cx p s m c cX10_about 5 RX10 s0 args0 D ca a A) (hr : meth.sig.returnType = some .int) (hlk : meth.locks = false) (hD : 6 ≤ d) (L54 : Int32 → Int32 → Int32 → St → Option (Int32 × St)) (hL54 : ∀ (v1 : Int32) (v2 : Int32) (v3 : Int32) (S : St), VV p l e (rmd d) s m args below meth c D ca tpC a A 5 (QmI D ca tpC a A below args s) S [(0, .ref (a 0)), (1, .int v1), (2, .int v2), (3, .int v3)] 54 [] (L54 v1 v2 v3 S)) : ∀ (n : Nat) (v1 : Int32) (v2 : Int32) (v3 : Int32) (v4 : Int32) (S : St), VV p l e (rmd d) s m args below meth c D ca tpC a A 5 (QmI D ca tpC a A below args s) S [(0, .ref (a 0)), (1, .int v1), (2, .int v2), (3, .int v3), (4, .int v4)] 73 [] (c_N_about_h73 L54 n v1 v2 v3 v4 S) := by
  intro n
  induction n with
  | zero => intro v1 v2 v3 v4 S; exact V_none
  | succ n ih =>
    intro v1 v2 v3 v4 S
    unfold c_N_about_h73
    refine V_iload (pc := 73) h 4 dX10_about_73 rfl ?_
    refine V_aload_n (pc := 75) h 0 dX10_about_75 rfl rfl ?_
    refine V_get (pc := 76) h 0 6 (.ref (a 28)) fl_X10_49_X10 oC_0 rfl rfl dX10_about_76 ?_
    refine V_get (pc := 79) h 28 0 (.int (S 28 0)) fl_X10_118_X7 oC_28 rfl rfl dX10_about_79 ?_
    refine V_icmp_ge (pc := 82) h 110 dX10_about_82 (by decide) ?_ ?_
    · refine V_aload_n (pc := 110) h 0 dX10_about_110 rfl rfl ?_
      refine V_get (pc := 111) h 0 8 (.ref (a 38)) fl_X10_60_X10 oC_0 rfl rfl dX10_about_111 ?_
      refine V_aload_n (pc := 114) h 0 dX10_about_114 rfl rfl ?_
      refine V_get (pc := 115) h 0 6 (.ref (a 28)) fl_X10_49_X10 oC_0 rfl rfl dX10_about_115 ?_
      refine V_get (pc := 118) h 28 0 (.int (S 28 0)) fl_X10_118_X7 oC_28 rfl rfl dX10_about_118 ?_
      refine V_callVV (pc := 121) (dy := 2) (q := (RX6, TX6, 5)) h [.int (S 28 0)] [] 38 mv_X10_264 oC_38 rfl dX10_about_121 rfl rfl (Nat.le_of_ble_eq_true rfl) (Nat.le_trans (by decide) hD) (c_State_turnOrder 38 (S 28 0) S) (fun z9 hz9 => c_State_turnOrder_ct h.gg (Nat.le_refl 2) isSt_38 (S 28 0) S z9 hz9) (fun S1 => ?_)
      refine V_aload_n (pc := 124) h 0 dX10_about_124 rfl rfl ?_
      refine V_get (pc := 125) h 0 8 (.ref (a 38)) fl_X10_60_X10 oC_0 rfl rfl dX10_about_125 ?_
      refine V_dup (pc := 128) h dX10_about_128 rfl ?_
      refine V_get (pc := 129) h 38 0 (.int (S1 38 0)) fl_X10_217_X6 oC_38 rfl rfl dX10_about_129 ?_
      refine V_iconst (pc := 132) (v := 1) h dX10_about_132 (by decide) ?_
      refine V_iadd (pc := 133) h dX10_about_133 ?_
      refine V_put (pc := 134) h 38 0 ((S1 38 0) + (1 : Int32)) fp_X10_217_X6 oC_38 rfl rfl rfl rfl dX10_about_134 (fun S2 => ?_)
      refine V_iincB (pc := 137) h 3 (1 : Int32) (fun x3 => [(3, .int x3), (0, .ref (a 0)), (1, .int v1), (2, .int v2), (4, .int v4)]) dX10_about_137 rfl (by decide) (by decide) (fun _ => rfl) (fun x3 => ?_)
      refine V_goto (pc := 140) h 54 dX10_about_140 (by decide) ?_
      exact V_ls [1, 2, 3, 0] rfl (hL54 v1 v2 x3 S2)
    · refine V_aload_n (pc := 85) h 0 dX10_about_85 rfl rfl ?_
      refine V_get (pc := 86) h 0 14 (.ref (a 131)) fl_X10_95_X10 oC_0 rfl rfl dX10_about_86 ?_
      refine V_iload (pc := 89) h 4 dX10_about_89 rfl ?_
      refine V_dup2_11 (pc := 91) h dX10_about_91 rfl rfl ?_
      refine V_iald (pc := 92) h 131 oC_131 dX10_about_92 ?_
      refine V_aload_n (pc := 93) h 0 dX10_about_93 rfl rfl ?_
      refine V_get (pc := 94) h 0 12 (.ref (a 111)) fl_X10_82_X10 oC_0 rfl rfl dX10_about_94 ?_
      refine V_iload (pc := 97) h 4 dX10_about_97 rfl ?_
      refine V_callVI (pc := 99) (dy := 4) (q := (RX3, TX3, 13)) h [.int v4] [.int (S 131 v4.toNatClampNeg), .int v4, .ref (a 131)] 111 mv_X10_199 oC_111 rfl dX10_about_99 rfl rfl (Nat.le_of_ble_eq_true rfl) (Nat.le_trans (by decide) hD) (c_Noon_mealOf v4 S) (fun z9 hz9 => c_Noon_mealOf_ct h.gg (Nat.le_refl 4) v4 S z9 hz9) (fun x5 S4 => ?_)
      refine V_iadd (pc := 102) h dX10_about_102 ?_
      refine V_iast (pc := 103) h 131 oC_131 dX10_about_103 (fun S6 => ?_)
      refine V_iincB (pc := 104) h 4 (1 : Int32) (fun x7 => [(4, .int x7), (0, .ref (a 0)), (1, .int v1), (2, .int v2), (3, .int v3)]) dX10_about_104 rfl (by decide) (by decide) (fun _ => rfl) (fun x7 => ?_)
      refine V_goto (pc := 107) h 73 dX10_about_107 (by decide) ?_
      exact V_ls [1, 2, 3, 4, 0] rfl (ih v1 v2 v3 x7 S6)
def c_N_about_h54 : Nat → Int32 → Int32 → Int32 → St → Option (Int32 × St)
  | 0, _, _, _, _ => none
  | n + 1, v1, v2, v3, S => (if v2 ≤ v3 then (if v1 = (-1 : Int32) then (bI (c_N_lowestOfTotals S) (fun x2 S1 => (some (x2, S1)))) else (ckM v1 6 (some ((S 131 v1.toNatClampNeg), S)))) else (bV (c_Noon_run 38 S) (fun S3 => (c_N_about_h73 (c_N_about_h54 n) FU v1 v2 v3 (0 : Int32) S3))))
set_option maxHeartbeats 4000000 in
set_option maxRecDepth 100000 in
theorem c_N_about_h54_ok {d : Nat} (h : Cx p s m c cX10_about 5 RX10 s0 args0 D ca a A) (hr : meth.sig.returnType = some .int) (hlk : meth.locks = false) (hD : 6 ≤ d) : ∀ (n : Nat) (v1 : Int32) (v2 : Int32) (v3 : Int32) (S : St), VV p l e (rmd d) s m args below meth c D ca tpC a A 5 (QmI D ca tpC a A below args s) S [(0, .ref (a 0)), (1, .int v1), (2, .int v2), (3, .int v3)] 54 [] (c_N_about_h54 n v1 v2 v3 S) := by
  intro n
  induction n with
  | zero => intro v1 v2 v3 S; exact V_none
  | succ n ih =>
    intro v1 v2 v3 S
    unfold c_N_about_h54
    refine V_iload_n (pc := 54) h 3 dX10_about_54 rfl rfl ?_
    refine V_iload_n (pc := 55) h 2 dX10_about_55 rfl rfl ?_
    refine V_icmp_ge (pc := 56) h 143 dX10_about_56 (by decide) ?_ ?_
    · refine V_iload_n (pc := 143) h 1 dX10_about_143 rfl rfl ?_
      refine V_iconst (pc := 144) (v := -1) h dX10_about_144 (by decide) ?_
      refine V_icmp_ne (pc := 145) h 155 dX10_about_145 (by decide) ?_ ?_
      · refine V_aload_n (pc := 155) h 0 dX10_about_155 rfl rfl ?_
        refine V_get (pc := 156) h 0 14 (.ref (a 131)) fl_X10_95_X10 oC_0 rfl rfl dX10_about_156 ?_
        refine V_iload_n (pc := 159) h 1 dX10_about_159 rfl rfl ?_
        refine V_iald (pc := 160) h 131 oC_131 dX10_about_160 ?_
        exact V_iret (pc := 161) h hr hlk dX10_about_161
      · refine V_aload_n (pc := 148) h 0 dX10_about_148 rfl rfl ?_
        refine V_callVI (pc := 149) (dy := 1) (q := (RX10, TX10, 15)) h [] [] 0 mv_X10_267 oC_0 rfl dX10_about_149 rfl rfl (Nat.le_of_ble_eq_true rfl) (Nat.le_trans (by decide) hD) (c_N_lowestOfTotals S) (fun z9 hz9 => c_N_lowestOfTotals_ct h.gg (Nat.le_refl 1) S z9 hz9) (fun x2 S1 => ?_)
        refine V_goto (pc := 152) h 161 dX10_about_152 (by decide) ?_
        exact V_iret (pc := 161) h hr hlk dX10_about_161
    · refine V_aload_n (pc := 59) h 0 dX10_about_59 rfl rfl ?_
      refine V_get (pc := 60) h 0 12 (.ref (a 111)) fl_X10_82_X10 oC_0 rfl rfl dX10_about_60 ?_
      refine V_aload_n (pc := 63) h 0 dX10_about_63 rfl rfl ?_
      refine V_get (pc := 64) h 0 8 (.ref (a 38)) fl_X10_60_X10 oC_0 rfl rfl dX10_about_64 ?_
      refine V_callVV (pc := 67) (dy := 5) (q := (RX3, TX3, 13)) h [.ref (a 38)] [] 111 mv_X10_195 oC_111 rfl dX10_about_67 rfl rfl (Nat.le_of_ble_eq_true rfl) (Nat.le_trans (by decide) hD) (c_Noon_run 38 S) (fun z9 hz9 => c_Noon_run_ct h.gg (Nat.le_refl 5) isSt_38 S z9 hz9) (fun S3 => ?_)
      refine V_iconst (pc := 70) (v := 0) h dX10_about_70 (by decide) ?_
      refine V_istore (pc := 71) h [(4, .int (0 : Int32)), (0, .ref (a 0)), (1, .int v1), (2, .int v2), (3, .int v3)] dX10_about_71 (by decide) rfl ?_
      exact V_ls [1, 2, 3, 4, 0] rfl (c_N_about_h73_ok h hr hlk hD (c_N_about_h54 n) ih FU v1 v2 v3 (0 : Int32) S3)
def c_N_about_b20 (v1 : Int32) (v2 : Int32) (S : St) : Option (Int32 × St) := (bI (c_N_isWithin v2 (1 : Int32) (30 : Int32) S) (fun x2 S1 => (if x2 = 0 then (some ((-100000000 : Int32), S1)) else (bV (c_Arrays_fill_131 (0 : Int32) S1) (fun S3 => (bV (c_State_copy 38 33 S3) (fun S4 => (c_N_about_h54 FU v1 v2 (0 : Int32) S4))))))))
set_option maxHeartbeats 4000000 in
set_option maxRecDepth 100000 in
theorem c_N_about_b20_ok {d : Nat} (h : Cx p s m c cX10_about 5 RX10 s0 args0 D ca a A) (hr : meth.sig.returnType = some .int) (hlk : meth.locks = false) (hD : 6 ≤ d) (v1 : Int32) (v2 : Int32) (S : St) : VV p l e (rmd d) s m args below meth c D ca tpC a A 5 (QmI D ca tpC a A below args s) S [(0, .ref (a 0)), (1, .int v1), (2, .int v2)] 20 [] (c_N_about_b20 v1 v2 S) := by
  unfold c_N_about_b20
  refine V_iload_n (pc := 20) h 2 dX10_about_20 rfl rfl ?_
  refine V_iconst (pc := 21) (v := 1) h dX10_about_21 (by decide) ?_
  refine V_bipush (pc := 22) (v := 30) h dX10_about_22 (by decide) ?_
  refine V_callSI (pc := 24) (dy := 1) h [.int v2, .int (1 : Int32), .int (30 : Int32)] [] ms_X10_186 dX10_about_24 rfl rfl (Nat.le_of_ble_eq_true rfl) (Nat.le_trans (by decide) hD) (c_N_isWithin v2 (1 : Int32) (30 : Int32) S) (fun z9 hz9 => c_N_isWithin_ct h.gg (Nat.le_refl 1) v2 (1 : Int32) (30 : Int32) S z9 hz9) (fun x2 S1 => ?_)
  refine V_if_ne (pc := 27) h 33 dX10_about_27 (by decide) ?_ ?_
  · refine V_aload_n (pc := 33) h 0 dX10_about_33 rfl rfl ?_
    refine V_get (pc := 34) h 0 14 (.ref (a 131)) fl_X10_95_X10 oC_0 rfl rfl dX10_about_34 ?_
    refine V_iconst (pc := 37) (v := 0) h dX10_about_37 (by decide) ?_
    refine V_callSV (pc := 38) (dy := 1) h [.ref (a 131), .int (0 : Int32)] [] ms_X10_258 dX10_about_38 rfl rfl (Nat.le_of_ble_eq_true rfl) (Nat.le_trans (by decide) hD) (c_Arrays_fill_131 (0 : Int32) S1) (fun z9 hz9 => c_Arrays_fill_131_ct h.gg (Nat.le_refl 1) (0 : Int32) S1 z9 hz9) (fun S3 => ?_)
    refine V_aload_n (pc := 41) h 0 dX10_about_41 rfl rfl ?_
    refine V_get (pc := 42) h 0 8 (.ref (a 38)) fl_X10_60_X10 oC_0 rfl rfl dX10_about_42 ?_
    refine V_aload_n (pc := 45) h 0 dX10_about_45 rfl rfl ?_
    refine V_get (pc := 46) h 0 7 (.ref (a 33)) fl_X10_56_X10 oC_0 rfl rfl dX10_about_46 ?_
    refine V_callVV (pc := 49) (dy := 1) (q := (RX6, TX6, 5)) h [.ref (a 33)] [] 38 mv_X10_252 oC_38 rfl dX10_about_49 rfl rfl (Nat.le_of_ble_eq_true rfl) (Nat.le_trans (by decide) hD) (c_State_copy 38 33 S3) (fun z9 hz9 => c_State_copy_ct h.gg (Nat.le_refl 1) isSt_38 isSt_33 S3 z9 hz9) (fun S4 => ?_)
    refine V_iconst (pc := 52) (v := 0) h dX10_about_52 (by decide) ?_
    refine V_istore_n (pc := 53) h [(3, .int (0 : Int32)), (0, .ref (a 0)), (1, .int v1), (2, .int v2)] dX10_about_53 rfl (by decide) rfl ?_
    exact V_ls [1, 2, 3, 0] rfl (c_N_about_h54_ok h hr hlk hD FU v1 v2 (0 : Int32) S4)
  · refine V_ldc (pc := 30) (v := -100000000) h dX10_about_30 tw_3_198 ?_
    exact V_iret (pc := 32) h hr hlk dX10_about_32
def c_N_about (v1 : Int32) (v2 : Int32) (S : St) : Option (Int32 × St) := (bI (c_N_hasStreet S) (fun x2 S1 => (if x2 = 0 then (some ((-100000000 : Int32), S1)) else (if v1 = (-1 : Int32) then (c_N_about_b20 v1 v2 S1) else (bI (c_N_isHouse v1 S1) (fun x4 S3 => (if x4 = 0 then (some ((-100000000 : Int32), S3)) else (c_N_about_b20 v1 v2 S3))))))))
set_option maxHeartbeats 4000000 in
set_option maxRecDepth 100000 in
theorem c_N_about_ok {d : Nat} (h : Cx p s m c cX10_about 5 RX10 s0 args0 D ca a A) (hr : meth.sig.returnType = some .int) (hlk : meth.locks = false) (hD : 6 ≤ d) (v1 : Int32) (v2 : Int32) (S : St) : VV p l e (rmd d) s m args below meth c D ca tpC a A 5 (QmI D ca tpC a A below args s) S [(0, .ref (a 0)), (1, .int v1), (2, .int v2)] 0 [] (c_N_about v1 v2 S) := by
  unfold c_N_about
  refine V_aload_n (pc := 0) h 0 dX10_about_0 rfl rfl ?_
  refine V_callVI (pc := 1) (dy := 1) (q := (RX10, TX10, 15)) h [] [] 0 mv_X10_172 oC_0 rfl dX10_about_1 rfl rfl (Nat.le_of_ble_eq_true rfl) (Nat.le_trans (by decide) hD) (c_N_hasStreet S) (fun z9 hz9 => c_N_hasStreet_ct h.gg (Nat.le_refl 1) S z9 hz9) (fun x2 S1 => ?_)
  refine V_if_eq (pc := 4) h 30 dX10_about_4 (by decide) ?_ ?_
  · refine V_ldc (pc := 30) (v := -100000000) h dX10_about_30 tw_3_198 ?_
    exact V_iret (pc := 32) h hr hlk dX10_about_32
  · refine V_iload_n (pc := 7) h 1 dX10_about_7 rfl rfl ?_
    refine V_iconst (pc := 8) (v := -1) h dX10_about_8 (by decide) ?_
    refine V_icmp_eq (pc := 9) h 20 dX10_about_9 (by decide) ?_ ?_
    · exact V_ls [0, 1, 2] rfl (c_N_about_b20_ok h hr hlk hD v1 v2 S1)
    · refine V_aload_n (pc := 12) h 0 dX10_about_12 rfl rfl ?_
      refine V_iload_n (pc := 13) h 1 dX10_about_13 rfl rfl ?_
      refine V_callVI (pc := 14) (dy := 1) (q := (RX10, TX10, 15)) h [.int v1] [] 0 mv_X10_137 oC_0 rfl dX10_about_14 rfl rfl (Nat.le_of_ble_eq_true rfl) (Nat.le_trans (by decide) hD) (c_N_isHouse v1 S1) (fun z9 hz9 => c_N_isHouse_ct h.gg (Nat.le_refl 1) v1 S1 z9 hz9) (fun x4 S3 => ?_)
      refine V_if_eq (pc := 17) h 30 dX10_about_17 (by decide) ?_ ?_
      · refine V_ldc (pc := 30) (v := -100000000) h dX10_about_30 tw_3_198 ?_
        exact V_iret (pc := 32) h hr hlk dX10_about_32
      · exact V_ls [0, 1, 2] rfl (c_N_about_b20_ok h hr hlk hD v1 v2 S3)
theorem c_N_about_ct {d : Nat} (g : GG s0 args0 D ca a A) (hD : 6 ≤ d) (v1 : Int32) (v2 : Int32) (S : St) (z : Int32 × St) (hz : c_N_about v1 v2 S = some z) : CtI l yX10_about cX10_about 5 .int d s0 D ca tpC a A [.ref (a 0), .int v1, .int v2] S z := CtI_mk g (by decide +kernel) (Nat.le_of_ble_eq_true rfl) hz (fun p e s m args below meth c h hr hlk => c_N_about_ok h hr hlk hD v1 v2 S)
def c_Noon_runPoisoned (o1 : Nat) (v2 : Int32) (v3 : Int32) (S : St) : Option St := (bnd (up2 S 111 9 v2) (fun S1 => (bnd (up2 S1 111 10 v3) (fun S2 => (bnd (up2 S2 111 11 (-1 : Int32)) (fun S3 => (bV (c_Noon_goDownTheStreet o1 S3) (fun S4 => (some S4)))))))))
set_option maxHeartbeats 4000000 in
set_option maxRecDepth 100000 in
theorem c_Noon_runPoisoned_ok {d : Nat} (h : Cx p s m c cX3_runPoisoned 4 RX3 s0 args0 D ca a A) (hr : meth.sig.returnType = none) (hlk : meth.locks = false) (hD : 5 ≤ d) (o1 : Nat) (ho1 : isSt o1) (v2 : Int32) (v3 : Int32) (S : St) : VV p l e (rmd d) s m args below meth c D ca tpC a A 4 (QmV D ca tpC a A below args s) S [(0, .ref (a 111)), (1, .ref (a o1)), (2, .int v2), (3, .int v3)] 0 [] (c_Noon_runPoisoned o1 v2 v3 S) := by
  unfold c_Noon_runPoisoned
  refine V_aload_n (pc := 0) h 0 dX3_runPoisoned_0 rfl rfl ?_
  refine V_iload_n (pc := 1) h 2 dX3_runPoisoned_1 rfl rfl ?_
  refine V_put (pc := 2) h 111 9 v2 fp_X3_41_X3 oC_111 rfl rfl rfl rfl dX3_runPoisoned_2 (fun S1 => ?_)
  refine V_aload_n (pc := 5) h 0 dX3_runPoisoned_5 rfl rfl ?_
  refine V_iload_n (pc := 6) h 3 dX3_runPoisoned_6 rfl rfl ?_
  refine V_put (pc := 7) h 111 10 v3 fp_X3_51_X3 oC_111 rfl rfl rfl rfl dX3_runPoisoned_7 (fun S2 => ?_)
  refine V_aload_n (pc := 10) h 0 dX3_runPoisoned_10 rfl rfl ?_
  refine V_iconst (pc := 11) (v := -1) h dX3_runPoisoned_11 (by decide) ?_
  refine V_put (pc := 12) h 111 11 (-1 : Int32) fp_X3_44_X3 oC_111 rfl rfl rfl rfl dX3_runPoisoned_12 (fun S3 => ?_)
  refine V_aload_n (pc := 15) h 0 dX3_runPoisoned_15 rfl rfl ?_
  refine V_aload_n (pc := 16) h 1 dX3_runPoisoned_16 rfl rfl ?_
  refine V_callVV (pc := 17) (dy := 4) (q := (RX3, TX3, 13)) h [.ref (a o1)] [] 111 mv_X3_47 oC_111 rfl dX3_runPoisoned_17 rfl rfl (Nat.le_of_ble_eq_true rfl) (Nat.le_trans (by decide) hD) (c_Noon_goDownTheStreet o1 S3) (fun z9 hz9 => c_Noon_goDownTheStreet_ct h.gg (Nat.le_refl 4) ho1 S3 z9 hz9) (fun S4 => ?_)
  exact V_vret (pc := 20) h hr hlk dX3_runPoisoned_20
theorem c_Noon_runPoisoned_ct {d : Nat} (g : GG s0 args0 D ca a A) (hD : 5 ≤ d) {o1 : Nat} (ho1 : isSt o1) (v2 : Int32) (v3 : Int32) (S : St) (z : St) (hz : c_Noon_runPoisoned o1 v2 v3 S = some z) : CtV l yX3_runPoisoned cX3_runPoisoned 4 d s0 D ca tpC a A [.ref (a 111), .ref (a o1), .int v2, .int v3] S z := CtV_mk g (by decide +kernel) (Nat.le_of_ble_eq_true rfl) hz (fun p e s m args below meth c h hr hlk => c_Noon_runPoisoned_ok h hr hlk hD o1 ho1 v2 v3 S)
def c_N_poison (v1 : Int32) (v2 : Int32) (v3 : Int32) (S : St) : Option (Int32 × St) := (bI (c_N_isHouse v1 S) (fun x2 S1 => (if x2 = 0 then (some ((-1 : Int32), S1)) else (bI (c_N_isWithin v2 (1 : Int32) (99 : Int32) S1) (fun x4 S3 => (if x4 = 0 then (some ((-1 : Int32), S3)) else (bI (c_N_isHouse v3 S3) (fun x6 S5 => (if x6 = 0 then (some ((-1 : Int32), S5)) else (bV (c_Noon_runPoisoned 33 v1 v2 S5) (fun S7 => (bI (c_Noon_got v3 (5 : Int32) S7) (fun x9 S8 => (some (x9, S8)))))))))))))))
set_option maxHeartbeats 4000000 in
set_option maxRecDepth 100000 in
theorem c_N_poison_ok {d : Nat} (h : Cx p s m c cX10_poison 4 RX10 s0 args0 D ca a A) (hr : meth.sig.returnType = some .int) (hlk : meth.locks = false) (hD : 6 ≤ d) (v1 : Int32) (v2 : Int32) (v3 : Int32) (S : St) : VV p l e (rmd d) s m args below meth c D ca tpC a A 4 (QmI D ca tpC a A below args s) S [(0, .ref (a 0)), (1, .int v1), (2, .int v2), (3, .int v3)] 0 [] (c_N_poison v1 v2 v3 S) := by
  unfold c_N_poison
  refine V_aload_n (pc := 0) h 0 dX10_poison_0 rfl rfl ?_
  refine V_iload_n (pc := 1) h 1 dX10_poison_1 rfl rfl ?_
  refine V_callVI (pc := 2) (dy := 1) (q := (RX10, TX10, 15)) h [.int v1] [] 0 mv_X10_137 oC_0 rfl dX10_poison_2 rfl rfl (Nat.le_of_ble_eq_true rfl) (Nat.le_trans (by decide) hD) (c_N_isHouse v1 S) (fun z9 hz9 => c_N_isHouse_ct h.gg (Nat.le_refl 1) v1 S z9 hz9) (fun x2 S1 => ?_)
  refine V_if_eq (pc := 5) h 26 dX10_poison_5 (by decide) ?_ ?_
  · refine V_iconst (pc := 26) (v := -1) h dX10_poison_26 (by decide) ?_
    exact V_iret (pc := 27) h hr hlk dX10_poison_27
  · refine V_iload_n (pc := 8) h 2 dX10_poison_8 rfl rfl ?_
    refine V_iconst (pc := 9) (v := 1) h dX10_poison_9 (by decide) ?_
    refine V_bipush (pc := 10) (v := 99) h dX10_poison_10 (by decide) ?_
    refine V_callSI (pc := 12) (dy := 1) h [.int v2, .int (1 : Int32), .int (99 : Int32)] [] ms_X10_186 dX10_poison_12 rfl rfl (Nat.le_of_ble_eq_true rfl) (Nat.le_trans (by decide) hD) (c_N_isWithin v2 (1 : Int32) (99 : Int32) S1) (fun z9 hz9 => c_N_isWithin_ct h.gg (Nat.le_refl 1) v2 (1 : Int32) (99 : Int32) S1 z9 hz9) (fun x4 S3 => ?_)
    refine V_if_eq (pc := 15) h 26 dX10_poison_15 (by decide) ?_ ?_
    · refine V_iconst (pc := 26) (v := -1) h dX10_poison_26 (by decide) ?_
      exact V_iret (pc := 27) h hr hlk dX10_poison_27
    · refine V_aload_n (pc := 18) h 0 dX10_poison_18 rfl rfl ?_
      refine V_iload_n (pc := 19) h 3 dX10_poison_19 rfl rfl ?_
      refine V_callVI (pc := 20) (dy := 1) (q := (RX10, TX10, 15)) h [.int v3] [] 0 mv_X10_137 oC_0 rfl dX10_poison_20 rfl rfl (Nat.le_of_ble_eq_true rfl) (Nat.le_trans (by decide) hD) (c_N_isHouse v3 S3) (fun z9 hz9 => c_N_isHouse_ct h.gg (Nat.le_refl 1) v3 S3 z9 hz9) (fun x6 S5 => ?_)
      refine V_if_ne (pc := 23) h 28 dX10_poison_23 (by decide) ?_ ?_
      · refine V_aload_n (pc := 28) h 0 dX10_poison_28 rfl rfl ?_
        refine V_get (pc := 29) h 0 12 (.ref (a 111)) fl_X10_82_X10 oC_0 rfl rfl dX10_poison_29 ?_
        refine V_aload_n (pc := 32) h 0 dX10_poison_32 rfl rfl ?_
        refine V_get (pc := 33) h 0 7 (.ref (a 33)) fl_X10_56_X10 oC_0 rfl rfl dX10_poison_33 ?_
        refine V_iload_n (pc := 36) h 1 dX10_poison_36 rfl rfl ?_
        refine V_iload_n (pc := 37) h 2 dX10_poison_37 rfl rfl ?_
        refine V_callVV (pc := 38) (dy := 5) (q := (RX3, TX3, 13)) h [.ref (a 33), .int v1, .int v2] [] 111 mv_X10_270 oC_111 rfl dX10_poison_38 rfl rfl (Nat.le_of_ble_eq_true rfl) (Nat.le_trans (by decide) hD) (c_Noon_runPoisoned 33 v1 v2 S5) (fun z9 hz9 => c_Noon_runPoisoned_ct h.gg (Nat.le_refl 5) isSt_33 v1 v2 S5 z9 hz9) (fun S7 => ?_)
        refine V_aload_n (pc := 41) h 0 dX10_poison_41 rfl rfl ?_
        refine V_get (pc := 42) h 0 12 (.ref (a 111)) fl_X10_82_X10 oC_0 rfl rfl dX10_poison_42 ?_
        refine V_iload_n (pc := 45) h 3 dX10_poison_45 rfl rfl ?_
        refine V_iconst (pc := 46) (v := 5) h dX10_poison_46 (by decide) ?_
        refine V_callVI (pc := 47) (dy := 1) (q := (RX3, TX3, 13)) h [.int v3, .int (5 : Int32)] [] 111 mv_X10_202 oC_111 rfl dX10_poison_47 rfl rfl (Nat.le_of_ble_eq_true rfl) (Nat.le_trans (by decide) hD) (c_Noon_got v3 (5 : Int32) S7) (fun z9 hz9 => c_Noon_got_ct h.gg (Nat.le_refl 1) v3 (5 : Int32) S7 z9 hz9) (fun x9 S8 => ?_)
        exact V_iret (pc := 50) h hr hlk dX10_poison_50
      · refine V_iconst (pc := 26) (v := -1) h dX10_poison_26 (by decide) ?_
        exact V_iret (pc := 27) h hr hlk dX10_poison_27
theorem c_N_poison_ct {d : Nat} (g : GG s0 args0 D ca a A) (hD : 6 ≤ d) (v1 : Int32) (v2 : Int32) (v3 : Int32) (S : St) (z : Int32 × St) (hz : c_N_poison v1 v2 v3 S = some z) : CtI l yX10_poison cX10_poison 4 .int d s0 D ca tpC a A [.ref (a 0), .int v1, .int v2, .int v3] S z := CtI_mk g (by decide +kernel) (Nat.le_of_ble_eq_true rfl) hz (fun p e s m args below meth c h hr hlk => c_N_poison_ok h hr hlk hD v1 v2 v3 S)
def c_Noon_poisoned_b31 (L4 : Int32 → Int32 → Int32 → St → Option (Int32 × St)) (v1 : Int32) (v2 : Int32) (v3 : Int32) (S : St) : Option (Int32 × St) := (bnd (v3 + (1 : Int32)) (fun x1 => (L4 v1 v2 x1 S)))
set_option maxHeartbeats 4000000 in
set_option maxRecDepth 100000 in
theorem c_Noon_poisoned_b31_ok {d : Nat} (h : Cx p s m c cX3_poisoned 4 RX3 s0 args0 D ca a A) (hr : meth.sig.returnType = some .int) (hlk : meth.locks = false) (hD : 2 ≤ d) (L4 : Int32 → Int32 → Int32 → St → Option (Int32 × St)) (hL4 : ∀ (v1 : Int32) (v2 : Int32) (v3 : Int32) (S : St), VV p l e (rmd d) s m args below meth c D ca tpC a A 4 (QmI D ca tpC a A below args s) S [(0, .ref (a 111)), (1, .int v1), (2, .int v2), (3, .int v3)] 4 [] (L4 v1 v2 v3 S)) (v1 : Int32) (v2 : Int32) (v3 : Int32) (S : St) : VV p l e (rmd d) s m args below meth c D ca tpC a A 4 (QmI D ca tpC a A below args s) S [(0, .ref (a 111)), (1, .int v1), (2, .int v2), (3, .int v3)] 31 [] (c_Noon_poisoned_b31 L4 v1 v2 v3 S) := by
  unfold c_Noon_poisoned_b31
  refine V_iincB (pc := 31) h 3 (1 : Int32) (fun x1 => [(3, .int x1), (0, .ref (a 111)), (1, .int v1), (2, .int v2)]) dX3_poisoned_31 rfl (by decide) (by decide) (fun _ => rfl) (fun x1 => ?_)
  refine V_goto (pc := 34) h 4 dX3_poisoned_34 (by decide) ?_
  exact V_ls [1, 2, 3, 0] rfl (hL4 v1 v2 x1 S)
def c_Noon_poisoned_h4 : Nat → Int32 → Int32 → Int32 → St → Option (Int32 × St)
  | 0, _, _, _, _ => none
  | n + 1, v1, v2, v3, S => (if (S 28 0) ≤ v3 then (some (v2, S)) else (bI (c_Noon_got v3 (5 : Int32) S) (fun x2 S1 => (if x2 < v1 then (c_Noon_poisoned_b31 (c_Noon_poisoned_h4 n) v1 v2 v3 S1) else (bnd (v2 ||| ((1 : Int32) <<< (v3 &&& 31))) (fun x3 => (c_Noon_poisoned_b31 (c_Noon_poisoned_h4 n) v1 x3 v3 S1)))))))
set_option maxHeartbeats 4000000 in
set_option maxRecDepth 100000 in
theorem c_Noon_poisoned_h4_ok {d : Nat} (h : Cx p s m c cX3_poisoned 4 RX3 s0 args0 D ca a A) (hr : meth.sig.returnType = some .int) (hlk : meth.locks = false) (hD : 2 ≤ d) : ∀ (n : Nat) (v1 : Int32) (v2 : Int32) (v3 : Int32) (S : St), VV p l e (rmd d) s m args below meth c D ca tpC a A 4 (QmI D ca tpC a A below args s) S [(0, .ref (a 111)), (1, .int v1), (2, .int v2), (3, .int v3)] 4 [] (c_Noon_poisoned_h4 n v1 v2 v3 S) := by
  intro n
  induction n with
  | zero => intro v1 v2 v3 S; exact V_none
  | succ n ih =>
    intro v1 v2 v3 S
    unfold c_Noon_poisoned_h4
    refine V_iload_n (pc := 4) h 3 dX3_poisoned_4 rfl rfl ?_
    refine V_aload_n (pc := 5) h 0 dX3_poisoned_5 rfl rfl ?_
    refine V_get (pc := 6) h 111 0 (.ref (a 28)) fl_X3_29_X3 oC_111 rfl rfl dX3_poisoned_6 ?_
    refine V_get (pc := 9) h 28 0 (.int (S 28 0)) fl_X3_66_X7 oC_28 rfl rfl dX3_poisoned_9 ?_
    refine V_icmp_ge (pc := 12) h 37 dX3_poisoned_12 (by decide) ?_ ?_
    · refine V_iload_n (pc := 37) h 2 dX3_poisoned_37 rfl rfl ?_
      exact V_iret (pc := 38) h hr hlk dX3_poisoned_38
    · refine V_aload_n (pc := 15) h 0 dX3_poisoned_15 rfl rfl ?_
      refine V_iload_n (pc := 16) h 3 dX3_poisoned_16 rfl rfl ?_
      refine V_iconst (pc := 17) (v := 5) h dX3_poisoned_17 (by decide) ?_
      refine V_callVI (pc := 18) (dy := 1) (q := (RX3, TX3, 13)) h [.int v3, .int (5 : Int32)] [] 111 mv_X3_124 oC_111 rfl dX3_poisoned_18 rfl rfl (Nat.le_of_ble_eq_true rfl) (Nat.le_trans (by decide) hD) (c_Noon_got v3 (5 : Int32) S) (fun z9 hz9 => c_Noon_got_ct h.gg (Nat.le_refl 1) v3 (5 : Int32) S z9 hz9) (fun x2 S1 => ?_)
      refine V_iload_n (pc := 21) h 1 dX3_poisoned_21 rfl rfl ?_
      refine V_icmp_lt (pc := 22) h 31 dX3_poisoned_22 (by decide) ?_ ?_
      · exact V_ls [0, 1, 2, 3] rfl (c_Noon_poisoned_b31_ok h hr hlk hD (c_Noon_poisoned_h4 n) ih v1 v2 v3 S1)
      · refine V_iload_n (pc := 25) h 2 dX3_poisoned_25 rfl rfl ?_
        refine V_iconst (pc := 26) (v := 1) h dX3_poisoned_26 (by decide) ?_
        refine V_iload_n (pc := 27) h 3 dX3_poisoned_27 rfl rfl ?_
        refine V_ishl (pc := 28) h dX3_poisoned_28 ?_
        refine V_ior (pc := 29) h dX3_poisoned_29 ?_
        refine V_top (fun x3 => ?_)
        refine V_istore_n (pc := 30) h [(2, .int x3), (0, .ref (a 111)), (1, .int v1), (3, .int v3)] dX3_poisoned_30 rfl (by decide) rfl ?_
        exact V_ls [1, 2, 0, 3] rfl (c_Noon_poisoned_b31_ok h hr hlk hD (c_Noon_poisoned_h4 n) ih v1 x3 v3 S1)
def c_Noon_poisoned (v1 : Int32) (S : St) : Option (Int32 × St) := (c_Noon_poisoned_h4 FU v1 (0 : Int32) (0 : Int32) S)
set_option maxHeartbeats 4000000 in
set_option maxRecDepth 100000 in
theorem c_Noon_poisoned_ok {d : Nat} (h : Cx p s m c cX3_poisoned 4 RX3 s0 args0 D ca a A) (hr : meth.sig.returnType = some .int) (hlk : meth.locks = false) (hD : 2 ≤ d) (v1 : Int32) (S : St) : VV p l e (rmd d) s m args below meth c D ca tpC a A 4 (QmI D ca tpC a A below args s) S [(0, .ref (a 111)), (1, .int v1)] 0 [] (c_Noon_poisoned v1 S) := by
  unfold c_Noon_poisoned
  refine V_iconst (pc := 0) (v := 0) h dX3_poisoned_0 (by decide) ?_
  refine V_istore_n (pc := 1) h [(2, .int (0 : Int32)), (0, .ref (a 111)), (1, .int v1)] dX3_poisoned_1 rfl (by decide) rfl ?_
  refine V_iconst (pc := 2) (v := 0) h dX3_poisoned_2 (by decide) ?_
  refine V_istore_n (pc := 3) h [(3, .int (0 : Int32)), (2, .int (0 : Int32)), (0, .ref (a 111)), (1, .int v1)] dX3_poisoned_3 rfl (by decide) rfl ?_
  exact V_ls [2, 3, 1, 0] rfl (c_Noon_poisoned_h4_ok h hr hlk hD FU v1 (0 : Int32) (0 : Int32) S)
theorem c_Noon_poisoned_ct {d : Nat} (g : GG s0 args0 D ca a A) (hD : 2 ≤ d) (v1 : Int32) (S : St) (z : Int32 × St) (hz : c_Noon_poisoned v1 S = some z) : CtI l yX3_poisoned cX3_poisoned 4 .int d s0 D ca tpC a A [.ref (a 111), .int v1] S z := CtI_mk g (by decide +kernel) (Nat.le_of_ble_eq_true rfl) hz (fun p e s m args below meth c h hr hlk => c_Noon_poisoned_ok h hr hlk hD v1 S)
def c_N_guilty_b99 (L52 : Int32 → Int32 → Int32 → Int32 → Int32 → St → Option (Int32 × St)) (v1 : Int32) (v2 : Int32) (v3 : Int32) (v4 : Int32) (v5 : Int32) (S : St) : Option (Int32 × St) := (bnd (v5 + (1 : Int32)) (fun x1 => (L52 v1 v2 v3 v4 x1 S)))
set_option maxHeartbeats 4000000 in
set_option maxRecDepth 100000 in
theorem c_N_guilty_b99_ok {d : Nat} (h : Cx p s m c cX10_guilty 6 RX10 s0 args0 D ca a A) (hr : meth.sig.returnType = some .int) (hlk : meth.locks = false) (hD : 6 ≤ d) (L52 : Int32 → Int32 → Int32 → Int32 → Int32 → St → Option (Int32 × St)) (hL52 : ∀ (v1 : Int32) (v2 : Int32) (v3 : Int32) (v4 : Int32) (v5 : Int32) (S : St), VV p l e (rmd d) s m args below meth c D ca tpC a A 6 (QmI D ca tpC a A below args s) S [(0, .ref (a 0)), (1, .int v1), (2, .int v2), (3, .int v3), (4, .int v4), (5, .int v5)] 52 [] (L52 v1 v2 v3 v4 v5 S)) (v1 : Int32) (v2 : Int32) (v3 : Int32) (v4 : Int32) (v5 : Int32) (S : St) : VV p l e (rmd d) s m args below meth c D ca tpC a A 6 (QmI D ca tpC a A below args s) S [(0, .ref (a 0)), (1, .int v1), (2, .int v2), (3, .int v3), (4, .int v4), (5, .int v5)] 99 [] (c_N_guilty_b99 L52 v1 v2 v3 v4 v5 S) := by
  unfold c_N_guilty_b99
  refine V_iincB (pc := 99) h 5 (1 : Int32) (fun x1 => [(5, .int x1), (0, .ref (a 0)), (1, .int v1), (2, .int v2), (3, .int v3), (4, .int v4)]) dX10_guilty_99 rfl (by decide) (by decide) (fun _ => rfl) (fun x1 => ?_)
  refine V_goto (pc := 102) h 52 dX10_guilty_102 (by decide) ?_
  exact V_ls [1, 2, 3, 4, 5, 0] rfl (hL52 v1 v2 v3 v4 x1 S)
def c_N_guilty_h52 : Nat → Int32 → Int32 → Int32 → Int32 → Int32 → St → Option (Int32 × St)
  | 0, _, _, _, _, _, _ => none
  | n + 1, v1, v2, v3, v4, v5, S => (if (S 28 0) ≤ v5 then (some (v4, S)) else (bV (c_Noon_runPoisoned 33 v5 v1 S) (fun S1 => (bI (c_Noon_poisoned v2 S1) (fun x3 S2 => (if x3 = v3 then (bnd (v4 ||| ((1 : Int32) <<< (v5 &&& 31))) (fun x4 => (c_N_guilty_b99 (c_N_guilty_h52 n) v1 v2 v3 x4 v5 S2))) else (c_N_guilty_b99 (c_N_guilty_h52 n) v1 v2 v3 v4 v5 S2)))))))
set_option maxHeartbeats 4000000 in
set_option maxRecDepth 100000 in
theorem c_N_guilty_h52_ok {d : Nat} (h : Cx p s m c cX10_guilty 6 RX10 s0 args0 D ca a A) (hr : meth.sig.returnType = some .int) (hlk : meth.locks = false) (hD : 6 ≤ d) : ∀ (n : Nat) (v1 : Int32) (v2 : Int32) (v3 : Int32) (v4 : Int32) (v5 : Int32) (S : St), VV p l e (rmd d) s m args below meth c D ca tpC a A 6 (QmI D ca tpC a A below args s) S [(0, .ref (a 0)), (1, .int v1), (2, .int v2), (3, .int v3), (4, .int v4), (5, .int v5)] 52 [] (c_N_guilty_h52 n v1 v2 v3 v4 v5 S) := by
  intro n
  induction n with
  | zero => intro v1 v2 v3 v4 v5 S; exact V_none
  | succ n ih =>
    intro v1 v2 v3 v4 v5 S
    unfold c_N_guilty_h52
    refine V_iload (pc := 52) h 5 dX10_guilty_52 rfl ?_
    refine V_aload_n (pc := 54) h 0 dX10_guilty_54 rfl rfl ?_
    refine V_get (pc := 55) h 0 6 (.ref (a 28)) fl_X10_49_X10 oC_0 rfl rfl dX10_guilty_55 ?_
    refine V_get (pc := 58) h 28 0 (.int (S 28 0)) fl_X10_118_X7 oC_28 rfl rfl dX10_guilty_58 ?_
    refine V_icmp_ge (pc := 61) h 105 dX10_guilty_61 (by decide) ?_ ?_
    · refine V_iload (pc := 105) h 4 dX10_guilty_105 rfl ?_
      exact V_iret (pc := 107) h hr hlk dX10_guilty_107
    · refine V_aload_n (pc := 64) h 0 dX10_guilty_64 rfl rfl ?_
      refine V_get (pc := 65) h 0 12 (.ref (a 111)) fl_X10_82_X10 oC_0 rfl rfl dX10_guilty_65 ?_
      refine V_aload_n (pc := 68) h 0 dX10_guilty_68 rfl rfl ?_
      refine V_get (pc := 69) h 0 7 (.ref (a 33)) fl_X10_56_X10 oC_0 rfl rfl dX10_guilty_69 ?_
      refine V_iload (pc := 72) h 5 dX10_guilty_72 rfl ?_
      refine V_iload_n (pc := 74) h 1 dX10_guilty_74 rfl rfl ?_
      refine V_callVV (pc := 75) (dy := 5) (q := (RX3, TX3, 13)) h [.ref (a 33), .int v5, .int v1] [] 111 mv_X10_270 oC_111 rfl dX10_guilty_75 rfl rfl (Nat.le_of_ble_eq_true rfl) (Nat.le_trans (by decide) hD) (c_Noon_runPoisoned 33 v5 v1 S) (fun z9 hz9 => c_Noon_runPoisoned_ct h.gg (Nat.le_refl 5) isSt_33 v5 v1 S z9 hz9) (fun S1 => ?_)
      refine V_aload_n (pc := 78) h 0 dX10_guilty_78 rfl rfl ?_
      refine V_get (pc := 79) h 0 12 (.ref (a 111)) fl_X10_82_X10 oC_0 rfl rfl dX10_guilty_79 ?_
      refine V_iload_n (pc := 82) h 2 dX10_guilty_82 rfl rfl ?_
      refine V_callVI (pc := 83) (dy := 2) (q := (RX3, TX3, 13)) h [.int v2] [] 111 mv_X10_274 oC_111 rfl dX10_guilty_83 rfl rfl (Nat.le_of_ble_eq_true rfl) (Nat.le_trans (by decide) hD) (c_Noon_poisoned v2 S1) (fun z9 hz9 => c_Noon_poisoned_ct h.gg (Nat.le_refl 2) v2 S1 z9 hz9) (fun x3 S2 => ?_)
      refine V_iload_n (pc := 86) h 3 dX10_guilty_86 rfl rfl ?_
      refine V_icmp_ne (pc := 87) h 99 dX10_guilty_87 (by decide) ?_ ?_
      · exact V_ls [0, 1, 2, 3, 4, 5] rfl (c_N_guilty_b99_ok h hr hlk hD (c_N_guilty_h52 n) ih v1 v2 v3 v4 v5 S2)
      · refine V_iload (pc := 90) h 4 dX10_guilty_90 rfl ?_
        refine V_iconst (pc := 92) (v := 1) h dX10_guilty_92 (by decide) ?_
        refine V_iload (pc := 93) h 5 dX10_guilty_93 rfl ?_
        refine V_ishl (pc := 95) h dX10_guilty_95 ?_
        refine V_ior (pc := 96) h dX10_guilty_96 ?_
        refine V_top (fun x4 => ?_)
        refine V_istore (pc := 97) h [(4, .int x4), (0, .ref (a 0)), (1, .int v1), (2, .int v2), (3, .int v3), (5, .int v5)] dX10_guilty_97 (by decide) rfl ?_
        exact V_ls [1, 2, 3, 4, 0, 5] rfl (c_N_guilty_b99_ok h hr hlk hD (c_N_guilty_h52 n) ih v1 v2 v3 x4 v5 S2)
def c_N_guilty (v1 : Int32) (v2 : Int32) (v3 : Int32) (S : St) : Option (Int32 × St) := (bI (c_N_hasStreet S) (fun x2 S1 => (if x2 = 0 then (some ((-1 : Int32), S1)) else (bI (c_N_isWithin v1 (1 : Int32) (99 : Int32) S1) (fun x4 S3 => (if x4 = 0 then (some ((-1 : Int32), S3)) else (bI (c_N_isWithin v2 (1 : Int32) (99 : Int32) S3) (fun x6 S5 => (if x6 = 0 then (some ((-1 : Int32), S5)) else (if v3 < 0 then (some ((-1 : Int32), S5)) else (if v3 < ((1 : Int32) <<< ((S5 28 0) &&& 31)) then (c_N_guilty_h52 FU v1 v2 v3 (0 : Int32) (0 : Int32) S5) else (some ((-1 : Int32), S5)))))))))))))
set_option maxHeartbeats 4000000 in
set_option maxRecDepth 100000 in
theorem c_N_guilty_ok {d : Nat} (h : Cx p s m c cX10_guilty 6 RX10 s0 args0 D ca a A) (hr : meth.sig.returnType = some .int) (hlk : meth.locks = false) (hD : 6 ≤ d) (v1 : Int32) (v2 : Int32) (v3 : Int32) (S : St) : VV p l e (rmd d) s m args below meth c D ca tpC a A 6 (QmI D ca tpC a A below args s) S [(0, .ref (a 0)), (1, .int v1), (2, .int v2), (3, .int v3)] 0 [] (c_N_guilty v1 v2 v3 S) := by
  unfold c_N_guilty
  refine V_aload_n (pc := 0) h 0 dX10_guilty_0 rfl rfl ?_
  refine V_callVI (pc := 1) (dy := 1) (q := (RX10, TX10, 15)) h [] [] 0 mv_X10_172 oC_0 rfl dX10_guilty_1 rfl rfl (Nat.le_of_ble_eq_true rfl) (Nat.le_trans (by decide) hD) (c_N_hasStreet S) (fun z9 hz9 => c_N_hasStreet_ct h.gg (Nat.le_refl 1) S z9 hz9) (fun x2 S1 => ?_)
  refine V_if_eq (pc := 4) h 44 dX10_guilty_4 (by decide) ?_ ?_
  · refine V_iconst (pc := 44) (v := -1) h dX10_guilty_44 (by decide) ?_
    exact V_iret (pc := 45) h hr hlk dX10_guilty_45
  · refine V_iload_n (pc := 7) h 1 dX10_guilty_7 rfl rfl ?_
    refine V_iconst (pc := 8) (v := 1) h dX10_guilty_8 (by decide) ?_
    refine V_bipush (pc := 9) (v := 99) h dX10_guilty_9 (by decide) ?_
    refine V_callSI (pc := 11) (dy := 1) h [.int v1, .int (1 : Int32), .int (99 : Int32)] [] ms_X10_186 dX10_guilty_11 rfl rfl (Nat.le_of_ble_eq_true rfl) (Nat.le_trans (by decide) hD) (c_N_isWithin v1 (1 : Int32) (99 : Int32) S1) (fun z9 hz9 => c_N_isWithin_ct h.gg (Nat.le_refl 1) v1 (1 : Int32) (99 : Int32) S1 z9 hz9) (fun x4 S3 => ?_)
    refine V_if_eq (pc := 14) h 44 dX10_guilty_14 (by decide) ?_ ?_
    · refine V_iconst (pc := 44) (v := -1) h dX10_guilty_44 (by decide) ?_
      exact V_iret (pc := 45) h hr hlk dX10_guilty_45
    · refine V_iload_n (pc := 17) h 2 dX10_guilty_17 rfl rfl ?_
      refine V_iconst (pc := 18) (v := 1) h dX10_guilty_18 (by decide) ?_
      refine V_bipush (pc := 19) (v := 99) h dX10_guilty_19 (by decide) ?_
      refine V_callSI (pc := 21) (dy := 1) h [.int v2, .int (1 : Int32), .int (99 : Int32)] [] ms_X10_186 dX10_guilty_21 rfl rfl (Nat.le_of_ble_eq_true rfl) (Nat.le_trans (by decide) hD) (c_N_isWithin v2 (1 : Int32) (99 : Int32) S3) (fun z9 hz9 => c_N_isWithin_ct h.gg (Nat.le_refl 1) v2 (1 : Int32) (99 : Int32) S3 z9 hz9) (fun x6 S5 => ?_)
      refine V_if_eq (pc := 24) h 44 dX10_guilty_24 (by decide) ?_ ?_
      · refine V_iconst (pc := 44) (v := -1) h dX10_guilty_44 (by decide) ?_
        exact V_iret (pc := 45) h hr hlk dX10_guilty_45
      · refine V_iload_n (pc := 27) h 3 dX10_guilty_27 rfl rfl ?_
        refine V_if_lt (pc := 28) h 44 dX10_guilty_28 (by decide) ?_ ?_
        · refine V_iconst (pc := 44) (v := -1) h dX10_guilty_44 (by decide) ?_
          exact V_iret (pc := 45) h hr hlk dX10_guilty_45
        · refine V_iload_n (pc := 31) h 3 dX10_guilty_31 rfl rfl ?_
          refine V_iconst (pc := 32) (v := 1) h dX10_guilty_32 (by decide) ?_
          refine V_aload_n (pc := 33) h 0 dX10_guilty_33 rfl rfl ?_
          refine V_get (pc := 34) h 0 6 (.ref (a 28)) fl_X10_49_X10 oC_0 rfl rfl dX10_guilty_34 ?_
          refine V_get (pc := 37) h 28 0 (.int (S5 28 0)) fl_X10_118_X7 oC_28 rfl rfl dX10_guilty_37 ?_
          refine V_ishl (pc := 40) h dX10_guilty_40 ?_
          refine V_icmp_lt (pc := 41) h 46 dX10_guilty_41 (by decide) ?_ ?_
          · refine V_iconst (pc := 46) (v := 0) h dX10_guilty_46 (by decide) ?_
            refine V_istore (pc := 47) h [(4, .int (0 : Int32)), (0, .ref (a 0)), (1, .int v1), (2, .int v2), (3, .int v3)] dX10_guilty_47 (by decide) rfl ?_
            refine V_iconst (pc := 49) (v := 0) h dX10_guilty_49 (by decide) ?_
            refine V_istore (pc := 50) h [(5, .int (0 : Int32)), (4, .int (0 : Int32)), (0, .ref (a 0)), (1, .int v1), (2, .int v2), (3, .int v3)] dX10_guilty_50 (by decide) rfl ?_
            exact V_ls [2, 3, 4, 5, 1, 0] rfl (c_N_guilty_h52_ok h hr hlk hD FU v1 v2 v3 (0 : Int32) (0 : Int32) S5)
          · refine V_iconst (pc := 44) (v := -1) h dX10_guilty_44 (by decide) ?_
            exact V_iret (pc := 45) h hr hlk dX10_guilty_45
theorem c_N_guilty_ct {d : Nat} (g : GG s0 args0 D ca a A) (hD : 6 ≤ d) (v1 : Int32) (v2 : Int32) (v3 : Int32) (S : St) (z : Int32 × St) (hz : c_N_guilty v1 v2 v3 S = some z) : CtI l yX10_guilty cX10_guilty 6 .int d s0 D ca tpC a A [.ref (a 0), .int v1, .int v2, .int v3] S z := CtI_mk g (by decide +kernel) (Nat.le_of_ble_eq_true rfl) hz (fun p e s m args below meth c h hr hlk => c_N_guilty_ok h hr hlk hD v1 v2 v3 S)
def c_Noon_poisonOfAll_h4 : Nat → Int32 → Int32 → St → Option (Int32 × St)
  | 0, _, _, _ => none
  | n + 1, v1, v2, S => (if (S 28 0) ≤ v2 then (some (v1, S)) else (bI (c_Noon_got v2 (5 : Int32) S) (fun x2 S1 => (bnd (v1 + x2) (fun x3 => (bnd (v2 + (1 : Int32)) (fun x4 => ((c_Noon_poisonOfAll_h4 n) x3 x4 S1))))))))
set_option maxHeartbeats 4000000 in
set_option maxRecDepth 100000 in
theorem c_Noon_poisonOfAll_h4_ok {d : Nat} (h : Cx p s m c cX3_poisonOfAll 3 RX3 s0 args0 D ca a A) (hr : meth.sig.returnType = some .int) (hlk : meth.locks = false) (hD : 2 ≤ d) : ∀ (n : Nat) (v1 : Int32) (v2 : Int32) (S : St), VV p l e (rmd d) s m args below meth c D ca tpC a A 3 (QmI D ca tpC a A below args s) S [(0, .ref (a 111)), (1, .int v1), (2, .int v2)] 4 [] (c_Noon_poisonOfAll_h4 n v1 v2 S) := by
  intro n
  induction n with
  | zero => intro v1 v2 S; exact V_none
  | succ n ih =>
    intro v1 v2 S
    unfold c_Noon_poisonOfAll_h4
    refine V_iload_n (pc := 4) h 2 dX3_poisonOfAll_4 rfl rfl ?_
    refine V_aload_n (pc := 5) h 0 dX3_poisonOfAll_5 rfl rfl ?_
    refine V_get (pc := 6) h 111 0 (.ref (a 28)) fl_X3_29_X3 oC_111 rfl rfl dX3_poisonOfAll_6 ?_
    refine V_get (pc := 9) h 28 0 (.int (S 28 0)) fl_X3_66_X7 oC_28 rfl rfl dX3_poisonOfAll_9 ?_
    refine V_icmp_ge (pc := 12) h 30 dX3_poisonOfAll_12 (by decide) ?_ ?_
    · refine V_iload_n (pc := 30) h 1 dX3_poisonOfAll_30 rfl rfl ?_
      exact V_iret (pc := 31) h hr hlk dX3_poisonOfAll_31
    · refine V_iload_n (pc := 15) h 1 dX3_poisonOfAll_15 rfl rfl ?_
      refine V_aload_n (pc := 16) h 0 dX3_poisonOfAll_16 rfl rfl ?_
      refine V_iload_n (pc := 17) h 2 dX3_poisonOfAll_17 rfl rfl ?_
      refine V_iconst (pc := 18) (v := 5) h dX3_poisonOfAll_18 (by decide) ?_
      refine V_callVI (pc := 19) (dy := 1) (q := (RX3, TX3, 13)) h [.int v2, .int (5 : Int32)] [.int v1] 111 mv_X3_124 oC_111 rfl dX3_poisonOfAll_19 rfl rfl (Nat.le_of_ble_eq_true rfl) (Nat.le_trans (by decide) hD) (c_Noon_got v2 (5 : Int32) S) (fun z9 hz9 => c_Noon_got_ct h.gg (Nat.le_refl 1) v2 (5 : Int32) S z9 hz9) (fun x2 S1 => ?_)
      refine V_iadd (pc := 22) h dX3_poisonOfAll_22 ?_
      refine V_top (fun x3 => ?_)
      refine V_istore_n (pc := 23) h [(1, .int x3), (0, .ref (a 111)), (2, .int v2)] dX3_poisonOfAll_23 rfl (by decide) rfl ?_
      refine V_iincB (pc := 24) h 2 (1 : Int32) (fun x4 => [(2, .int x4), (1, .int x3), (0, .ref (a 111))]) dX3_poisonOfAll_24 rfl (by decide) (by decide) (fun _ => rfl) (fun x4 => ?_)
      refine V_goto (pc := 27) h 4 dX3_poisonOfAll_27 (by decide) ?_
      exact V_ls [2, 1, 0] rfl (ih x3 x4 S1)
def c_Noon_poisonOfAll (S : St) : Option (Int32 × St) := (c_Noon_poisonOfAll_h4 FU (0 : Int32) (0 : Int32) S)
set_option maxHeartbeats 4000000 in
set_option maxRecDepth 100000 in
theorem c_Noon_poisonOfAll_ok {d : Nat} (h : Cx p s m c cX3_poisonOfAll 3 RX3 s0 args0 D ca a A) (hr : meth.sig.returnType = some .int) (hlk : meth.locks = false) (hD : 2 ≤ d) (S : St) : VV p l e (rmd d) s m args below meth c D ca tpC a A 3 (QmI D ca tpC a A below args s) S [(0, .ref (a 111))] 0 [] (c_Noon_poisonOfAll S) := by
  unfold c_Noon_poisonOfAll
  refine V_iconst (pc := 0) (v := 0) h dX3_poisonOfAll_0 (by decide) ?_
  refine V_istore_n (pc := 1) h [(1, .int (0 : Int32)), (0, .ref (a 111))] dX3_poisonOfAll_1 rfl (by decide) rfl ?_
  refine V_iconst (pc := 2) (v := 0) h dX3_poisonOfAll_2 (by decide) ?_
  refine V_istore_n (pc := 3) h [(2, .int (0 : Int32)), (1, .int (0 : Int32)), (0, .ref (a 111))] dX3_poisonOfAll_3 rfl (by decide) rfl ?_
  exact V_ls [2, 1, 0] rfl (c_Noon_poisonOfAll_h4_ok h hr hlk hD FU (0 : Int32) (0 : Int32) S)
theorem c_Noon_poisonOfAll_ct {d : Nat} (g : GG s0 args0 D ca a A) (hD : 2 ≤ d) (S : St) (z : Int32 × St) (hz : c_Noon_poisonOfAll S = some z) : CtI l yX3_poisonOfAll cX3_poisonOfAll 3 .int d s0 D ca tpC a A [.ref (a 111)] S z := CtI_mk g (by decide +kernel) (Nat.le_of_ble_eq_true rfl) hz (fun p e s m args below meth c h hr hlk => c_Noon_poisonOfAll_ok h hr hlk hD S)
def c_N_harm_b129 (L36 : Int32 → Int32 → Int32 → Int32 → Int32 → Int32 → St → Option (Int32 × St)) (L46 : Int32 → Int32 → Int32 → Int32 → Int32 → Int32 → Int32 → St → Option (Int32 × St)) (v1 : Int32) (v2 : Int32) (v3 : Int32) (v4 : Int32) (v5 : Int32) (v6 : Int32) (v7 : Int32) (S : St) : Option (Int32 × St) := (bnd (v7 + (1 : Int32)) (fun x1 => (L46 v1 v2 v3 v4 v5 v6 x1 S)))
set_option maxHeartbeats 4000000 in
set_option maxRecDepth 100000 in
theorem c_N_harm_b129_ok {d : Nat} (h : Cx p s m c cX10_harm 10 RX10 s0 args0 D ca a A) (hr : meth.sig.returnType = some .int) (hlk : meth.locks = false) (hD : 6 ≤ d) (L36 : Int32 → Int32 → Int32 → Int32 → Int32 → Int32 → St → Option (Int32 × St)) (hL36 : ∀ (v1 : Int32) (v2 : Int32) (v3 : Int32) (v4 : Int32) (v5 : Int32) (v6 : Int32) (S : St), VV p l e (rmd d) s m args below meth c D ca tpC a A 10 (QmI D ca tpC a A below args s) S [(0, .ref (a 0)), (1, .int v1), (2, .int v2), (3, .int v3), (4, .int v4), (5, .int v5), (6, .int v6)] 36 [] (L36 v1 v2 v3 v4 v5 v6 S)) (L46 : Int32 → Int32 → Int32 → Int32 → Int32 → Int32 → Int32 → St → Option (Int32 × St)) (hL46 : ∀ (v1 : Int32) (v2 : Int32) (v3 : Int32) (v4 : Int32) (v5 : Int32) (v6 : Int32) (v7 : Int32) (S : St), VV p l e (rmd d) s m args below meth c D ca tpC a A 10 (QmI D ca tpC a A below args s) S [(0, .ref (a 0)), (1, .int v1), (2, .int v2), (3, .int v3), (4, .int v4), (5, .int v5), (6, .int v6), (7, .int v7)] 46 [] (L46 v1 v2 v3 v4 v5 v6 v7 S)) (v1 : Int32) (v2 : Int32) (v3 : Int32) (v4 : Int32) (v5 : Int32) (v6 : Int32) (v7 : Int32) (S : St) : VV p l e (rmd d) s m args below meth c D ca tpC a A 10 (QmI D ca tpC a A below args s) S [(0, .ref (a 0)), (1, .int v1), (2, .int v2), (3, .int v3), (4, .int v4), (5, .int v5), (6, .int v6), (7, .int v7)] 129 [] (c_N_harm_b129 L36 L46 v1 v2 v3 v4 v5 v6 v7 S) := by
  unfold c_N_harm_b129
  refine V_iincB (pc := 129) h 7 (1 : Int32) (fun x1 => [(7, .int x1), (0, .ref (a 0)), (1, .int v1), (2, .int v2), (3, .int v3), (4, .int v4), (5, .int v5), (6, .int v6)]) dX10_harm_129 rfl (by decide) (by decide) (fun _ => rfl) (fun x1 => ?_)
  refine V_goto (pc := 132) h 46 dX10_harm_132 (by decide) ?_
  exact V_ls [1, 2, 3, 4, 5, 6, 7, 0] rfl (hL46 v1 v2 v3 v4 v5 v6 x1 S)
def c_N_harm_b115 (L36 : Int32 → Int32 → Int32 → Int32 → Int32 → Int32 → St → Option (Int32 × St)) (L46 : Int32 → Int32 → Int32 → Int32 → Int32 → Int32 → Int32 → St → Option (Int32 × St)) (v1 : Int32) (v2 : Int32) (v3 : Int32) (v6 : Int32) (v7 : Int32) (v9 : Int32) (S : St) : Option (Int32 × St) := (bnd (((100 : Int32) * v7) + v6) (fun x1 => (c_N_harm_b129 L36 L46 v1 v2 v3 x1 v9 v6 v7 S)))
set_option maxHeartbeats 4000000 in
set_option maxRecDepth 100000 in
theorem c_N_harm_b115_ok {d : Nat} (h : Cx p s m c cX10_harm 10 RX10 s0 args0 D ca a A) (hr : meth.sig.returnType = some .int) (hlk : meth.locks = false) (hD : 6 ≤ d) (L36 : Int32 → Int32 → Int32 → Int32 → Int32 → Int32 → St → Option (Int32 × St)) (hL36 : ∀ (v1 : Int32) (v2 : Int32) (v3 : Int32) (v4 : Int32) (v5 : Int32) (v6 : Int32) (S : St), VV p l e (rmd d) s m args below meth c D ca tpC a A 10 (QmI D ca tpC a A below args s) S [(0, .ref (a 0)), (1, .int v1), (2, .int v2), (3, .int v3), (4, .int v4), (5, .int v5), (6, .int v6)] 36 [] (L36 v1 v2 v3 v4 v5 v6 S)) (L46 : Int32 → Int32 → Int32 → Int32 → Int32 → Int32 → Int32 → St → Option (Int32 × St)) (hL46 : ∀ (v1 : Int32) (v2 : Int32) (v3 : Int32) (v4 : Int32) (v5 : Int32) (v6 : Int32) (v7 : Int32) (S : St), VV p l e (rmd d) s m args below meth c D ca tpC a A 10 (QmI D ca tpC a A below args s) S [(0, .ref (a 0)), (1, .int v1), (2, .int v2), (3, .int v3), (4, .int v4), (5, .int v5), (6, .int v6), (7, .int v7)] 46 [] (L46 v1 v2 v3 v4 v5 v6 v7 S)) (v1 : Int32) (v2 : Int32) (v3 : Int32) (v6 : Int32) (v7 : Int32) (v9 : Int32) (S : St) : VV p l e (rmd d) s m args below meth c D ca tpC a A 10 (QmI D ca tpC a A below args s) S [(0, .ref (a 0)), (1, .int v1), (2, .int v2), (3, .int v3), (6, .int v6), (7, .int v7), (9, .int v9)] 115 [] (c_N_harm_b115 L36 L46 v1 v2 v3 v6 v7 v9 S) := by
  unfold c_N_harm_b115
  refine V_bipush (pc := 115) (v := 100) h dX10_harm_115 (by decide) ?_
  refine V_iload (pc := 117) h 5 dX10_harm_117 rfl ?_
  refine V_imul (pc := 119) h dX10_harm_119 ?_
  refine V_iload (pc := 120) h 4 dX10_harm_120 rfl ?_
  refine V_iadd (pc := 122) h dX10_harm_122 ?_
  refine V_top (fun x1 => ?_)
  refine V_istore (pc := 123) h [(4, .int x1), (0, .ref (a 0)), (1, .int v1), (2, .int v2), (3, .int v3), (6, .int v6), (7, .int v7), (9, .int v9)] dX10_harm_123 (by decide) rfl ?_
  refine V_iload (pc := 125) h 7 dX10_harm_125 rfl ?_
  refine V_istore (pc := 127) h [(5, .int v9), (4, .int x1), (0, .ref (a 0)), (1, .int v1), (2, .int v2), (3, .int v3), (6, .int v6), (7, .int v7), (9, .int v9)] dX10_harm_127 (by decide) rfl ?_
  exact V_ls [2, 3, 4, 5, 1, 0, 6, 7] rfl (c_N_harm_b129_ok h hr hlk hD L36 hL36 L46 hL46 v1 v2 v3 x1 v9 v6 v7 S)
def c_N_harm_h46 (L36 : Int32 → Int32 → Int32 → Int32 → Int32 → Int32 → St → Option (Int32 × St)) : Nat → Int32 → Int32 → Int32 → Int32 → Int32 → Int32 → Int32 → St → Option (Int32 × St)
  | 0, _, _, _, _, _, _, _, _ => none
  | n + 1, v1, v2, v3, v4, v5, v6, v7, S => (if (S 28 0) ≤ v7 then (bnd (v6 + (1 : Int32)) (fun x1 => (L36 v1 v2 v3 v4 v5 x1 S))) else (bV (c_Noon_runPoisoned 33 v7 v6 S) (fun S2 => (bI (c_Noon_got v1 (5 : Int32) S2) (fun x4 S3 => (bI (c_Noon_poisonOfAll S3) (fun x6 S5 => (bnd (x6 - x4) (fun x7 => (if x4 < v2 then (c_N_harm_b129 L36 (c_N_harm_h46 L36 n) v1 v2 v3 v4 v5 v6 v7 S5) else (if v4 = (-1 : Int32) then (c_N_harm_b115 L36 (c_N_harm_h46 L36 n) v1 v2 v3 v6 v7 x7 S5) else (if v5 ≤ x7 then (c_N_harm_b129 L36 (c_N_harm_h46 L36 n) v1 v2 v3 v4 v5 v6 v7 S5) else (c_N_harm_b115 L36 (c_N_harm_h46 L36 n) v1 v2 v3 v6 v7 x7 S5)))))))))))))
set_option maxHeartbeats 4000000 in
set_option maxRecDepth 100000 in
theorem c_N_harm_h46_ok {d : Nat} (h : Cx p s m c cX10_harm 10 RX10 s0 args0 D ca a A) (hr : meth.sig.returnType = some .int) (hlk : meth.locks = false) (hD : 6 ≤ d) (L36 : Int32 → Int32 → Int32 → Int32 → Int32 → Int32 → St → Option (Int32 × St)) (hL36 : ∀ (v1 : Int32) (v2 : Int32) (v3 : Int32) (v4 : Int32) (v5 : Int32) (v6 : Int32) (S : St), VV p l e (rmd d) s m args below meth c D ca tpC a A 10 (QmI D ca tpC a A below args s) S [(0, .ref (a 0)), (1, .int v1), (2, .int v2), (3, .int v3), (4, .int v4), (5, .int v5), (6, .int v6)] 36 [] (L36 v1 v2 v3 v4 v5 v6 S)) : ∀ (n : Nat) (v1 : Int32) (v2 : Int32) (v3 : Int32) (v4 : Int32) (v5 : Int32) (v6 : Int32) (v7 : Int32) (S : St), VV p l e (rmd d) s m args below meth c D ca tpC a A 10 (QmI D ca tpC a A below args s) S [(0, .ref (a 0)), (1, .int v1), (2, .int v2), (3, .int v3), (4, .int v4), (5, .int v5), (6, .int v6), (7, .int v7)] 46 [] (c_N_harm_h46 L36 n v1 v2 v3 v4 v5 v6 v7 S) := by
  intro n
  induction n with
  | zero => intro v1 v2 v3 v4 v5 v6 v7 S; exact V_none
  | succ n ih =>
    intro v1 v2 v3 v4 v5 v6 v7 S
    unfold c_N_harm_h46
    refine V_iload (pc := 46) h 7 dX10_harm_46 rfl ?_
    refine V_aload_n (pc := 48) h 0 dX10_harm_48 rfl rfl ?_
    refine V_get (pc := 49) h 0 6 (.ref (a 28)) fl_X10_49_X10 oC_0 rfl rfl dX10_harm_49 ?_
    refine V_get (pc := 52) h 28 0 (.int (S 28 0)) fl_X10_118_X7 oC_28 rfl rfl dX10_harm_52 ?_
    refine V_icmp_ge (pc := 55) h 135 dX10_harm_55 (by decide) ?_ ?_
    · refine V_iincB (pc := 135) h 6 (1 : Int32) (fun x1 => [(6, .int x1), (0, .ref (a 0)), (1, .int v1), (2, .int v2), (3, .int v3), (4, .int v4), (5, .int v5), (7, .int v7)]) dX10_harm_135 rfl (by decide) (by decide) (fun _ => rfl) (fun x1 => ?_)
      refine V_goto (pc := 138) h 36 dX10_harm_138 (by decide) ?_
      exact V_ls [1, 2, 3, 4, 5, 6, 0] rfl (hL36 v1 v2 v3 v4 v5 x1 S)
    · refine V_aload_n (pc := 58) h 0 dX10_harm_58 rfl rfl ?_
      refine V_get (pc := 59) h 0 12 (.ref (a 111)) fl_X10_82_X10 oC_0 rfl rfl dX10_harm_59 ?_
      refine V_aload_n (pc := 62) h 0 dX10_harm_62 rfl rfl ?_
      refine V_get (pc := 63) h 0 7 (.ref (a 33)) fl_X10_56_X10 oC_0 rfl rfl dX10_harm_63 ?_
      refine V_iload (pc := 66) h 7 dX10_harm_66 rfl ?_
      refine V_iload (pc := 68) h 6 dX10_harm_68 rfl ?_
      refine V_callVV (pc := 70) (dy := 5) (q := (RX3, TX3, 13)) h [.ref (a 33), .int v7, .int v6] [] 111 mv_X10_270 oC_111 rfl dX10_harm_70 rfl rfl (Nat.le_of_ble_eq_true rfl) (Nat.le_trans (by decide) hD) (c_Noon_runPoisoned 33 v7 v6 S) (fun z9 hz9 => c_Noon_runPoisoned_ct h.gg (Nat.le_refl 5) isSt_33 v7 v6 S z9 hz9) (fun S2 => ?_)
      refine V_aload_n (pc := 73) h 0 dX10_harm_73 rfl rfl ?_
      refine V_get (pc := 74) h 0 12 (.ref (a 111)) fl_X10_82_X10 oC_0 rfl rfl dX10_harm_74 ?_
      refine V_iload_n (pc := 77) h 1 dX10_harm_77 rfl rfl ?_
      refine V_iconst (pc := 78) (v := 5) h dX10_harm_78 (by decide) ?_
      refine V_callVI (pc := 79) (dy := 1) (q := (RX3, TX3, 13)) h [.int v1, .int (5 : Int32)] [] 111 mv_X10_202 oC_111 rfl dX10_harm_79 rfl rfl (Nat.le_of_ble_eq_true rfl) (Nat.le_trans (by decide) hD) (c_Noon_got v1 (5 : Int32) S2) (fun z9 hz9 => c_Noon_got_ct h.gg (Nat.le_refl 1) v1 (5 : Int32) S2 z9 hz9) (fun x4 S3 => ?_)
      refine V_istore (pc := 82) h [(8, .int x4), (0, .ref (a 0)), (1, .int v1), (2, .int v2), (3, .int v3), (4, .int v4), (5, .int v5), (6, .int v6), (7, .int v7)] dX10_harm_82 (by decide) rfl ?_
      refine V_aload_n (pc := 84) h 1 dX10_harm_84 rfl rfl ?_
      refine V_get (pc := 85) h 0 12 (.ref (a 111)) fl_X10_82_X10 oC_0 rfl rfl dX10_harm_85 ?_
      refine V_callVI (pc := 88) (dy := 2) (q := (RX3, TX3, 13)) h [] [] 111 mv_X10_277 oC_111 rfl dX10_harm_88 rfl rfl (Nat.le_of_ble_eq_true rfl) (Nat.le_trans (by decide) hD) (c_Noon_poisonOfAll S3) (fun z9 hz9 => c_Noon_poisonOfAll_ct h.gg (Nat.le_refl 2) S3 z9 hz9) (fun x6 S5 => ?_)
      refine V_iload (pc := 91) h 0 dX10_harm_91 rfl ?_
      refine V_isub (pc := 93) h dX10_harm_93 ?_
      refine V_top (fun x7 => ?_)
      refine V_istore (pc := 94) h [(9, .int x7), (8, .int x4), (0, .ref (a 0)), (1, .int v1), (2, .int v2), (3, .int v3), (4, .int v4), (5, .int v5), (6, .int v6), (7, .int v7)] dX10_harm_94 (by decide) rfl ?_
      refine V_iload (pc := 96) h 1 dX10_harm_96 rfl ?_
      refine V_iload_n (pc := 98) h 4 dX10_harm_98 rfl rfl ?_
      refine V_icmp_lt (pc := 99) h 129 dX10_harm_99 (by decide) ?_ ?_
      · exact V_ls [2, 3, 4, 5, 6, 7, 8, 9] rfl (c_N_harm_b129_ok h hr hlk hD L36 hL36 (c_N_harm_h46 L36 n) ih v1 v2 v3 v4 v5 v6 v7 S5)
      · refine V_iload (pc := 102) h 6 dX10_harm_102 rfl ?_
        refine V_iconst (pc := 104) (v := -1) h dX10_harm_104 (by decide) ?_
        refine V_icmp_eq (pc := 105) h 115 dX10_harm_105 (by decide) ?_ ?_
        · exact V_ls [2, 3, 4, 5, 8, 9, 0] rfl (c_N_harm_b115_ok h hr hlk hD L36 hL36 (c_N_harm_h46 L36 n) ih v1 v2 v3 v6 v7 x7 S5)
        · refine V_iload (pc := 108) h 0 dX10_harm_108 rfl ?_
          refine V_iload (pc := 110) h 7 dX10_harm_110 rfl ?_
          refine V_icmp_ge (pc := 112) h 129 dX10_harm_112 (by decide) ?_ ?_
          · exact V_ls [2, 3, 4, 5, 6, 7, 8, 9] rfl (c_N_harm_b129_ok h hr hlk hD L36 hL36 (c_N_harm_h46 L36 n) ih v1 v2 v3 v4 v5 v6 v7 S5)
          · exact V_ls [2, 3, 4, 5, 8, 9, 0] rfl (c_N_harm_b115_ok h hr hlk hD L36 hL36 (c_N_harm_h46 L36 n) ih v1 v2 v3 v6 v7 x7 S5)
def c_N_harm_h36 : Nat → Int32 → Int32 → Int32 → Int32 → Int32 → Int32 → St → Option (Int32 × St)
  | 0, _, _, _, _, _, _, _ => none
  | n + 1, v1, v2, v3, v4, v5, v6, S => (if (99 : Int32) < v6 then (if v3 = 0 then (some (v4, S)) else (some (v5, S))) else (c_N_harm_h46 (c_N_harm_h36 n) FU v1 v2 v3 v4 v5 v6 (0 : Int32) S))
set_option maxHeartbeats 4000000 in
set_option maxRecDepth 100000 in
theorem c_N_harm_h36_ok {d : Nat} (h : Cx p s m c cX10_harm 10 RX10 s0 args0 D ca a A) (hr : meth.sig.returnType = some .int) (hlk : meth.locks = false) (hD : 6 ≤ d) : ∀ (n : Nat) (v1 : Int32) (v2 : Int32) (v3 : Int32) (v4 : Int32) (v5 : Int32) (v6 : Int32) (S : St), VV p l e (rmd d) s m args below meth c D ca tpC a A 10 (QmI D ca tpC a A below args s) S [(0, .ref (a 0)), (1, .int v1), (2, .int v2), (3, .int v3), (4, .int v4), (5, .int v5), (6, .int v6)] 36 [] (c_N_harm_h36 n v1 v2 v3 v4 v5 v6 S) := by
  intro n
  induction n with
  | zero => intro v1 v2 v3 v4 v5 v6 S; exact V_none
  | succ n ih =>
    intro v1 v2 v3 v4 v5 v6 S
    unfold c_N_harm_h36
    refine V_iload (pc := 36) h 6 dX10_harm_36 rfl ?_
    refine V_bipush (pc := 38) (v := 99) h dX10_harm_38 (by decide) ?_
    refine V_icmp_gt (pc := 40) h 141 dX10_harm_40 (by decide) ?_ ?_
    · refine V_iload_n (pc := 141) h 3 dX10_harm_141 rfl rfl ?_
      refine V_if_ne (pc := 142) h 150 dX10_harm_142 (by decide) ?_ ?_
      · refine V_iload (pc := 150) h 5 dX10_harm_150 rfl ?_
        exact V_iret (pc := 152) h hr hlk dX10_harm_152
      · refine V_iload (pc := 145) h 4 dX10_harm_145 rfl ?_
        refine V_goto (pc := 147) h 152 dX10_harm_147 (by decide) ?_
        exact V_iret (pc := 152) h hr hlk dX10_harm_152
    · refine V_iconst (pc := 43) (v := 0) h dX10_harm_43 (by decide) ?_
      refine V_istore (pc := 44) h [(7, .int (0 : Int32)), (0, .ref (a 0)), (1, .int v1), (2, .int v2), (3, .int v3), (4, .int v4), (5, .int v5), (6, .int v6)] dX10_harm_44 (by decide) rfl ?_
      exact V_ls [1, 2, 3, 4, 5, 6, 7, 0] rfl (c_N_harm_h46_ok h hr hlk hD (c_N_harm_h36 n) ih FU v1 v2 v3 v4 v5 v6 (0 : Int32) S)
def c_N_harm (v1 : Int32) (v2 : Int32) (v3 : Int32) (S : St) : Option (Int32 × St) := (bI (c_N_isHouse v1 S) (fun x2 S1 => (if x2 = 0 then (some ((-1 : Int32), S1)) else (bI (c_N_isWithin v2 (1 : Int32) (99 : Int32) S1) (fun x4 S3 => (if x4 = 0 then (some ((-1 : Int32), S3)) else (bI (c_N_isChoice v3 S3) (fun x6 S5 => (if x6 = 0 then (some ((-1 : Int32), S5)) else (c_N_harm_h36 FU v1 v2 v3 (-1 : Int32) (-1 : Int32) v2 S5))))))))))
set_option maxHeartbeats 4000000 in
set_option maxRecDepth 100000 in
theorem c_N_harm_ok {d : Nat} (h : Cx p s m c cX10_harm 10 RX10 s0 args0 D ca a A) (hr : meth.sig.returnType = some .int) (hlk : meth.locks = false) (hD : 6 ≤ d) (v1 : Int32) (v2 : Int32) (v3 : Int32) (S : St) : VV p l e (rmd d) s m args below meth c D ca tpC a A 10 (QmI D ca tpC a A below args s) S [(0, .ref (a 0)), (1, .int v1), (2, .int v2), (3, .int v3)] 0 [] (c_N_harm v1 v2 v3 S) := by
  unfold c_N_harm
  refine V_aload_n (pc := 0) h 0 dX10_harm_0 rfl rfl ?_
  refine V_iload_n (pc := 1) h 1 dX10_harm_1 rfl rfl ?_
  refine V_callVI (pc := 2) (dy := 1) (q := (RX10, TX10, 15)) h [.int v1] [] 0 mv_X10_137 oC_0 rfl dX10_harm_2 rfl rfl (Nat.le_of_ble_eq_true rfl) (Nat.le_trans (by decide) hD) (c_N_isHouse v1 S) (fun z9 hz9 => c_N_isHouse_ct h.gg (Nat.le_refl 1) v1 S z9 hz9) (fun x2 S1 => ?_)
  refine V_if_eq (pc := 5) h 25 dX10_harm_5 (by decide) ?_ ?_
  · refine V_iconst (pc := 25) (v := -1) h dX10_harm_25 (by decide) ?_
    exact V_iret (pc := 26) h hr hlk dX10_harm_26
  · refine V_iload_n (pc := 8) h 2 dX10_harm_8 rfl rfl ?_
    refine V_iconst (pc := 9) (v := 1) h dX10_harm_9 (by decide) ?_
    refine V_bipush (pc := 10) (v := 99) h dX10_harm_10 (by decide) ?_
    refine V_callSI (pc := 12) (dy := 1) h [.int v2, .int (1 : Int32), .int (99 : Int32)] [] ms_X10_186 dX10_harm_12 rfl rfl (Nat.le_of_ble_eq_true rfl) (Nat.le_trans (by decide) hD) (c_N_isWithin v2 (1 : Int32) (99 : Int32) S1) (fun z9 hz9 => c_N_isWithin_ct h.gg (Nat.le_refl 1) v2 (1 : Int32) (99 : Int32) S1 z9 hz9) (fun x4 S3 => ?_)
    refine V_if_eq (pc := 15) h 25 dX10_harm_15 (by decide) ?_ ?_
    · refine V_iconst (pc := 25) (v := -1) h dX10_harm_25 (by decide) ?_
      exact V_iret (pc := 26) h hr hlk dX10_harm_26
    · refine V_iload_n (pc := 18) h 3 dX10_harm_18 rfl rfl ?_
      refine V_callSI (pc := 19) (dy := 1) h [.int v3] [] ms_X10_237 dX10_harm_19 rfl rfl (Nat.le_of_ble_eq_true rfl) (Nat.le_trans (by decide) hD) (c_N_isChoice v3 S3) (fun z9 hz9 => c_N_isChoice_ct h.gg (Nat.le_refl 1) v3 S3 z9 hz9) (fun x6 S5 => ?_)
      refine V_if_ne (pc := 22) h 27 dX10_harm_22 (by decide) ?_ ?_
      · refine V_iconst (pc := 27) (v := -1) h dX10_harm_27 (by decide) ?_
        refine V_istore (pc := 28) h [(4, .int (-1 : Int32)), (0, .ref (a 0)), (1, .int v1), (2, .int v2), (3, .int v3)] dX10_harm_28 (by decide) rfl ?_
        refine V_iconst (pc := 30) (v := -1) h dX10_harm_30 (by decide) ?_
        refine V_istore (pc := 31) h [(5, .int (-1 : Int32)), (4, .int (-1 : Int32)), (0, .ref (a 0)), (1, .int v1), (2, .int v2), (3, .int v3)] dX10_harm_31 (by decide) rfl ?_
        refine V_iload_n (pc := 33) h 4 dX10_harm_33 rfl rfl ?_
        refine V_istore (pc := 34) h [(6, .int v2), (5, .int (-1 : Int32)), (4, .int (-1 : Int32)), (0, .ref (a 0)), (1, .int v1), (2, .int v2), (3, .int v3)] dX10_harm_34 (by decide) rfl ?_
        exact V_ls [3, 4, 5, 6, 2, 1, 0] rfl (c_N_harm_h36_ok h hr hlk hD FU v1 v2 v3 (-1 : Int32) (-1 : Int32) v2 S5)
      · refine V_iconst (pc := 25) (v := -1) h dX10_harm_25 (by decide) ?_
        exact V_iret (pc := 26) h hr hlk dX10_harm_26
theorem c_N_harm_ct {d : Nat} (g : GG s0 args0 D ca a A) (hD : 6 ≤ d) (v1 : Int32) (v2 : Int32) (v3 : Int32) (S : St) (z : Int32 × St) (hz : c_N_harm v1 v2 v3 S = some z) : CtI l yX10_harm cX10_harm 10 .int d s0 D ca tpC a A [.ref (a 0), .int v1, .int v2, .int v3] S z := CtI_mk g (by decide +kernel) (Nat.le_of_ble_eq_true rfl) hz (fun p e s m args below meth c h hr hlk => c_N_harm_ok h hr hlk hD v1 v2 v3 S)
def c_Noon_mealsTogether_h4 : Nat → Int32 → Int32 → St → Option (Int32 × St)
  | 0, _, _, _ => none
  | n + 1, v1, v2, S => (if (S 28 0) ≤ v2 then (some (v1, S)) else (bI (c_Noon_mealOf v2 S) (fun x2 S1 => (bnd (v1 + x2) (fun x3 => (bnd (v2 + (1 : Int32)) (fun x4 => ((c_Noon_mealsTogether_h4 n) x3 x4 S1))))))))
set_option maxHeartbeats 4000000 in
set_option maxRecDepth 100000 in
theorem c_Noon_mealsTogether_h4_ok {d : Nat} (h : Cx p s m c cX3_mealsTogether 3 RX3 s0 args0 D ca a A) (hr : meth.sig.returnType = some .int) (hlk : meth.locks = false) (hD : 5 ≤ d) : ∀ (n : Nat) (v1 : Int32) (v2 : Int32) (S : St), VV p l e (rmd d) s m args below meth c D ca tpC a A 3 (QmI D ca tpC a A below args s) S [(0, .ref (a 111)), (1, .int v1), (2, .int v2)] 4 [] (c_Noon_mealsTogether_h4 n v1 v2 S) := by
  intro n
  induction n with
  | zero => intro v1 v2 S; exact V_none
  | succ n ih =>
    intro v1 v2 S
    unfold c_Noon_mealsTogether_h4
    refine V_iload_n (pc := 4) h 2 dX3_mealsTogether_4 rfl rfl ?_
    refine V_aload_n (pc := 5) h 0 dX3_mealsTogether_5 rfl rfl ?_
    refine V_get (pc := 6) h 111 0 (.ref (a 28)) fl_X3_29_X3 oC_111 rfl rfl dX3_mealsTogether_6 ?_
    refine V_get (pc := 9) h 28 0 (.int (S 28 0)) fl_X3_66_X7 oC_28 rfl rfl dX3_mealsTogether_9 ?_
    refine V_icmp_ge (pc := 12) h 29 dX3_mealsTogether_12 (by decide) ?_ ?_
    · refine V_iload_n (pc := 29) h 1 dX3_mealsTogether_29 rfl rfl ?_
      exact V_iret (pc := 30) h hr hlk dX3_mealsTogether_30
    · refine V_iload_n (pc := 15) h 1 dX3_mealsTogether_15 rfl rfl ?_
      refine V_aload_n (pc := 16) h 0 dX3_mealsTogether_16 rfl rfl ?_
      refine V_iload_n (pc := 17) h 2 dX3_mealsTogether_17 rfl rfl ?_
      refine V_callVI (pc := 18) (dy := 4) (q := (RX3, TX3, 13)) h [.int v2] [.int v1] 111 mv_X3_148 oC_111 rfl dX3_mealsTogether_18 rfl rfl (Nat.le_of_ble_eq_true rfl) (Nat.le_trans (by decide) hD) (c_Noon_mealOf v2 S) (fun z9 hz9 => c_Noon_mealOf_ct h.gg (Nat.le_refl 4) v2 S z9 hz9) (fun x2 S1 => ?_)
      refine V_iadd (pc := 21) h dX3_mealsTogether_21 ?_
      refine V_top (fun x3 => ?_)
      refine V_istore_n (pc := 22) h [(1, .int x3), (0, .ref (a 111)), (2, .int v2)] dX3_mealsTogether_22 rfl (by decide) rfl ?_
      refine V_iincB (pc := 23) h 2 (1 : Int32) (fun x4 => [(2, .int x4), (1, .int x3), (0, .ref (a 111))]) dX3_mealsTogether_23 rfl (by decide) (by decide) (fun _ => rfl) (fun x4 => ?_)
      refine V_goto (pc := 26) h 4 dX3_mealsTogether_26 (by decide) ?_
      exact V_ls [2, 1, 0] rfl (ih x3 x4 S1)
def c_Noon_mealsTogether (S : St) : Option (Int32 × St) := (c_Noon_mealsTogether_h4 FU (0 : Int32) (0 : Int32) S)
set_option maxHeartbeats 4000000 in
set_option maxRecDepth 100000 in
theorem c_Noon_mealsTogether_ok {d : Nat} (h : Cx p s m c cX3_mealsTogether 3 RX3 s0 args0 D ca a A) (hr : meth.sig.returnType = some .int) (hlk : meth.locks = false) (hD : 5 ≤ d) (S : St) : VV p l e (rmd d) s m args below meth c D ca tpC a A 3 (QmI D ca tpC a A below args s) S [(0, .ref (a 111))] 0 [] (c_Noon_mealsTogether S) := by
  unfold c_Noon_mealsTogether
  refine V_iconst (pc := 0) (v := 0) h dX3_mealsTogether_0 (by decide) ?_
  refine V_istore_n (pc := 1) h [(1, .int (0 : Int32)), (0, .ref (a 111))] dX3_mealsTogether_1 rfl (by decide) rfl ?_
  refine V_iconst (pc := 2) (v := 0) h dX3_mealsTogether_2 (by decide) ?_
  refine V_istore_n (pc := 3) h [(2, .int (0 : Int32)), (1, .int (0 : Int32)), (0, .ref (a 111))] dX3_mealsTogether_3 rfl (by decide) rfl ?_
  exact V_ls [2, 1, 0] rfl (c_Noon_mealsTogether_h4_ok h hr hlk hD FU (0 : Int32) (0 : Int32) S)
theorem c_Noon_mealsTogether_ct {d : Nat} (g : GG s0 args0 D ca a A) (hD : 5 ≤ d) (S : St) (z : Int32 × St) (hz : c_Noon_mealsTogether S = some z) : CtI l yX3_mealsTogether cX3_mealsTogether 3 .int d s0 D ca tpC a A [.ref (a 111)] S z := CtI_mk g (by decide +kernel) (Nat.le_of_ble_eq_true rfl) hz (fun p e s m args below meth c h hr hlk => c_Noon_mealsTogether_ok h hr hlk hD S)
def c_Noon_runWithStranger (o1 : Nat) (v2 : Int32) (v3 : Int32) (S : St) : Option St := (bnd (up2 S 111 9 (-1 : Int32)) (fun S1 => (bnd (up2 S1 111 11 v2) (fun S2 => (bnd (up2 S2 111 12 v3) (fun S3 => (bV (c_Noon_goDownTheStreet o1 S3) (fun S4 => (some S4)))))))))
set_option maxHeartbeats 4000000 in
set_option maxRecDepth 100000 in
theorem c_Noon_runWithStranger_ok {d : Nat} (h : Cx p s m c cX3_runWithStranger 4 RX3 s0 args0 D ca a A) (hr : meth.sig.returnType = none) (hlk : meth.locks = false) (hD : 5 ≤ d) (o1 : Nat) (ho1 : isSt o1) (v2 : Int32) (v3 : Int32) (S : St) : VV p l e (rmd d) s m args below meth c D ca tpC a A 4 (QmV D ca tpC a A below args s) S [(0, .ref (a 111)), (1, .ref (a o1)), (2, .int v2), (3, .int v3)] 0 [] (c_Noon_runWithStranger o1 v2 v3 S) := by
  unfold c_Noon_runWithStranger
  refine V_aload_n (pc := 0) h 0 dX3_runWithStranger_0 rfl rfl ?_
  refine V_iconst (pc := 1) (v := -1) h dX3_runWithStranger_1 (by decide) ?_
  refine V_put (pc := 2) h 111 9 (-1 : Int32) fp_X3_41_X3 oC_111 rfl rfl rfl rfl dX3_runWithStranger_2 (fun S1 => ?_)
  refine V_aload_n (pc := 5) h 0 dX3_runWithStranger_5 rfl rfl ?_
  refine V_iload_n (pc := 6) h 2 dX3_runWithStranger_6 rfl rfl ?_
  refine V_put (pc := 7) h 111 11 v2 fp_X3_44_X3 oC_111 rfl rfl rfl rfl dX3_runWithStranger_7 (fun S2 => ?_)
  refine V_aload_n (pc := 10) h 0 dX3_runWithStranger_10 rfl rfl ?_
  refine V_iload_n (pc := 11) h 3 dX3_runWithStranger_11 rfl rfl ?_
  refine V_put (pc := 12) h 111 12 v3 fp_X3_54_X3 oC_111 rfl rfl rfl rfl dX3_runWithStranger_12 (fun S3 => ?_)
  refine V_aload_n (pc := 15) h 0 dX3_runWithStranger_15 rfl rfl ?_
  refine V_aload_n (pc := 16) h 1 dX3_runWithStranger_16 rfl rfl ?_
  refine V_callVV (pc := 17) (dy := 4) (q := (RX3, TX3, 13)) h [.ref (a o1)] [] 111 mv_X3_47 oC_111 rfl dX3_runWithStranger_17 rfl rfl (Nat.le_of_ble_eq_true rfl) (Nat.le_trans (by decide) hD) (c_Noon_goDownTheStreet o1 S3) (fun z9 hz9 => c_Noon_goDownTheStreet_ct h.gg (Nat.le_refl 4) ho1 S3 z9 hz9) (fun S4 => ?_)
  exact V_vret (pc := 20) h hr hlk dX3_runWithStranger_20
theorem c_Noon_runWithStranger_ct {d : Nat} (g : GG s0 args0 D ca a A) (hD : 5 ≤ d) {o1 : Nat} (ho1 : isSt o1) (v2 : Int32) (v3 : Int32) (S : St) (z : St) (hz : c_Noon_runWithStranger o1 v2 v3 S = some z) : CtV l yX3_runWithStranger cX3_runWithStranger 4 d s0 D ca tpC a A [.ref (a 111), .ref (a o1), .int v2, .int v3] S z := CtV_mk g (by decide +kernel) (Nat.le_of_ble_eq_true rfl) hz (fun p e s m args below meth c h hr hlk => c_Noon_runWithStranger_ok h hr hlk hD o1 ho1 v2 v3 S)
def c_Noon_strangerGrains_h4 : Nat → Int32 → Int32 → St → Option (Int32 × St)
  | 0, _, _, _ => none
  | n + 1, v1, v2, S => (if (5 : Int32) ≤ v2 then (some (v1, S)) else (ckM v2 6 (bnd (v1 + (S 128 v2.toNatClampNeg)) (fun x1 => (bnd (v2 + (1 : Int32)) (fun x2 => ((c_Noon_strangerGrains_h4 n) x1 x2 S)))))))
set_option maxHeartbeats 4000000 in
set_option maxRecDepth 100000 in
theorem c_Noon_strangerGrains_h4_ok {d : Nat} (h : Cx p s m c cX3_strangerGrains 3 RX3 s0 args0 D ca a A) (hr : meth.sig.returnType = some .int) (hlk : meth.locks = false) (hD : 1 ≤ d) : ∀ (n : Nat) (v1 : Int32) (v2 : Int32) (S : St), VV p l e (rmd d) s m args below meth c D ca tpC a A 3 (QmI D ca tpC a A below args s) S [(0, .ref (a 111)), (1, .int v1), (2, .int v2)] 4 [] (c_Noon_strangerGrains_h4 n v1 v2 S) := by
  intro n
  induction n with
  | zero => intro v1 v2 S; exact V_none
  | succ n ih =>
    intro v1 v2 S
    unfold c_Noon_strangerGrains_h4
    refine V_iload_n (pc := 4) h 2 dX3_strangerGrains_4 rfl rfl ?_
    refine V_iconst (pc := 5) (v := 5) h dX3_strangerGrains_5 (by decide) ?_
    refine V_icmp_ge (pc := 6) h 24 dX3_strangerGrains_6 (by decide) ?_ ?_
    · refine V_iload_n (pc := 24) h 1 dX3_strangerGrains_24 rfl rfl ?_
      exact V_iret (pc := 25) h hr hlk dX3_strangerGrains_25
    · refine V_iload_n (pc := 9) h 1 dX3_strangerGrains_9 rfl rfl ?_
      refine V_aload_n (pc := 10) h 0 dX3_strangerGrains_10 rfl rfl ?_
      refine V_get (pc := 11) h 111 4 (.ref (a 128)) fl_X3_23_X3 oC_111 rfl rfl dX3_strangerGrains_11 ?_
      refine V_iload_n (pc := 14) h 2 dX3_strangerGrains_14 rfl rfl ?_
      refine V_iald (pc := 15) h 128 oC_128 dX3_strangerGrains_15 ?_
      refine V_iadd (pc := 16) h dX3_strangerGrains_16 ?_
      refine V_top (fun x1 => ?_)
      refine V_istore_n (pc := 17) h [(1, .int x1), (0, .ref (a 111)), (2, .int v2)] dX3_strangerGrains_17 rfl (by decide) rfl ?_
      refine V_iincB (pc := 18) h 2 (1 : Int32) (fun x2 => [(2, .int x2), (1, .int x1), (0, .ref (a 111))]) dX3_strangerGrains_18 rfl (by decide) (by decide) (fun _ => rfl) (fun x2 => ?_)
      refine V_goto (pc := 21) h 4 dX3_strangerGrains_21 (by decide) ?_
      exact V_ls [2, 1, 0] rfl (ih x1 x2 S)
def c_Noon_strangerGrains (S : St) : Option (Int32 × St) := (c_Noon_strangerGrains_h4 FU (0 : Int32) (0 : Int32) S)
set_option maxHeartbeats 4000000 in
set_option maxRecDepth 100000 in
theorem c_Noon_strangerGrains_ok {d : Nat} (h : Cx p s m c cX3_strangerGrains 3 RX3 s0 args0 D ca a A) (hr : meth.sig.returnType = some .int) (hlk : meth.locks = false) (hD : 1 ≤ d) (S : St) : VV p l e (rmd d) s m args below meth c D ca tpC a A 3 (QmI D ca tpC a A below args s) S [(0, .ref (a 111))] 0 [] (c_Noon_strangerGrains S) := by
  unfold c_Noon_strangerGrains
  refine V_iconst (pc := 0) (v := 0) h dX3_strangerGrains_0 (by decide) ?_
  refine V_istore_n (pc := 1) h [(1, .int (0 : Int32)), (0, .ref (a 111))] dX3_strangerGrains_1 rfl (by decide) rfl ?_
  refine V_iconst (pc := 2) (v := 0) h dX3_strangerGrains_2 (by decide) ?_
  refine V_istore_n (pc := 3) h [(2, .int (0 : Int32)), (1, .int (0 : Int32)), (0, .ref (a 111))] dX3_strangerGrains_3 rfl (by decide) rfl ?_
  exact V_ls [2, 1, 0] rfl (c_Noon_strangerGrains_h4_ok h hr hlk hD FU (0 : Int32) (0 : Int32) S)
theorem c_Noon_strangerGrains_ct {d : Nat} (g : GG s0 args0 D ca a A) (hD : 1 ≤ d) (S : St) (z : Int32 × St) (hz : c_Noon_strangerGrains S = some z) : CtI l yX3_strangerGrains cX3_strangerGrains 3 .int d s0 D ca tpC a A [.ref (a 111)] S z := CtI_mk g (by decide +kernel) (Nat.le_of_ble_eq_true rfl) hz (fun p e s m args below meth c h hr hlk => c_Noon_strangerGrains_ok h hr hlk hD S)
def c_N_stranger (v1 : Int32) (v2 : Int32) (v3 : Int32) (S : St) : Option (Int32 × St) := (bI (c_N_isHouse v1 S) (fun x2 S1 => (if x2 = 0 then (some ((-100000000 : Int32), S1)) else (bI (c_N_isWithin v2 (0 : Int32) (99 : Int32) S1) (fun x4 S3 => (if x4 = 0 then (some ((-100000000 : Int32), S3)) else (bI (c_N_isChoice v3 S3) (fun x6 S5 => (if x6 = 0 then (some ((-100000000 : Int32), S5)) else (bV (c_Noon_run 33 S5) (fun S7 => (bI (c_Noon_mealsTogether S7) (fun x9 S8 => (bV (c_Noon_runWithStranger 33 v1 v2 S8) (fun S10 => (if v3 = 0 then (bI (c_Noon_strangerGrains S10) (fun x14 S13 => (some (x14, S13)))) else (bI (c_Noon_mealsTogether S10) (fun x12 S11 => (some ((x9 - x12), S11))))))))))))))))))))
set_option maxHeartbeats 4000000 in
set_option maxRecDepth 100000 in
theorem c_N_stranger_ok {d : Nat} (h : Cx p s m c cX10_stranger 5 RX10 s0 args0 D ca a A) (hr : meth.sig.returnType = some .int) (hlk : meth.locks = false) (hD : 6 ≤ d) (v1 : Int32) (v2 : Int32) (v3 : Int32) (S : St) : VV p l e (rmd d) s m args below meth c D ca tpC a A 5 (QmI D ca tpC a A below args s) S [(0, .ref (a 0)), (1, .int v1), (2, .int v2), (3, .int v3)] 0 [] (c_N_stranger v1 v2 v3 S) := by
  unfold c_N_stranger
  refine V_aload_n (pc := 0) h 0 dX10_stranger_0 rfl rfl ?_
  refine V_iload_n (pc := 1) h 1 dX10_stranger_1 rfl rfl ?_
  refine V_callVI (pc := 2) (dy := 1) (q := (RX10, TX10, 15)) h [.int v1] [] 0 mv_X10_137 oC_0 rfl dX10_stranger_2 rfl rfl (Nat.le_of_ble_eq_true rfl) (Nat.le_trans (by decide) hD) (c_N_isHouse v1 S) (fun z9 hz9 => c_N_isHouse_ct h.gg (Nat.le_refl 1) v1 S z9 hz9) (fun x2 S1 => ?_)
  refine V_if_eq (pc := 5) h 25 dX10_stranger_5 (by decide) ?_ ?_
  · refine V_ldc (pc := 25) (v := -100000000) h dX10_stranger_25 tw_3_198 ?_
    exact V_iret (pc := 27) h hr hlk dX10_stranger_27
  · refine V_iload_n (pc := 8) h 2 dX10_stranger_8 rfl rfl ?_
    refine V_iconst (pc := 9) (v := 0) h dX10_stranger_9 (by decide) ?_
    refine V_bipush (pc := 10) (v := 99) h dX10_stranger_10 (by decide) ?_
    refine V_callSI (pc := 12) (dy := 1) h [.int v2, .int (0 : Int32), .int (99 : Int32)] [] ms_X10_186 dX10_stranger_12 rfl rfl (Nat.le_of_ble_eq_true rfl) (Nat.le_trans (by decide) hD) (c_N_isWithin v2 (0 : Int32) (99 : Int32) S1) (fun z9 hz9 => c_N_isWithin_ct h.gg (Nat.le_refl 1) v2 (0 : Int32) (99 : Int32) S1 z9 hz9) (fun x4 S3 => ?_)
    refine V_if_eq (pc := 15) h 25 dX10_stranger_15 (by decide) ?_ ?_
    · refine V_ldc (pc := 25) (v := -100000000) h dX10_stranger_25 tw_3_198 ?_
      exact V_iret (pc := 27) h hr hlk dX10_stranger_27
    · refine V_iload_n (pc := 18) h 3 dX10_stranger_18 rfl rfl ?_
      refine V_callSI (pc := 19) (dy := 1) h [.int v3] [] ms_X10_237 dX10_stranger_19 rfl rfl (Nat.le_of_ble_eq_true rfl) (Nat.le_trans (by decide) hD) (c_N_isChoice v3 S3) (fun z9 hz9 => c_N_isChoice_ct h.gg (Nat.le_refl 1) v3 S3 z9 hz9) (fun x6 S5 => ?_)
      refine V_if_ne (pc := 22) h 28 dX10_stranger_22 (by decide) ?_ ?_
      · refine V_aload_n (pc := 28) h 0 dX10_stranger_28 rfl rfl ?_
        refine V_get (pc := 29) h 0 12 (.ref (a 111)) fl_X10_82_X10 oC_0 rfl rfl dX10_stranger_29 ?_
        refine V_aload_n (pc := 32) h 0 dX10_stranger_32 rfl rfl ?_
        refine V_get (pc := 33) h 0 7 (.ref (a 33)) fl_X10_56_X10 oC_0 rfl rfl dX10_stranger_33 ?_
        refine V_callVV (pc := 36) (dy := 5) (q := (RX3, TX3, 13)) h [.ref (a 33)] [] 111 mv_X10_195 oC_111 rfl dX10_stranger_36 rfl rfl (Nat.le_of_ble_eq_true rfl) (Nat.le_trans (by decide) hD) (c_Noon_run 33 S5) (fun z9 hz9 => c_Noon_run_ct h.gg (Nat.le_refl 5) isSt_33 S5 z9 hz9) (fun S7 => ?_)
        refine V_aload_n (pc := 39) h 0 dX10_stranger_39 rfl rfl ?_
        refine V_get (pc := 40) h 0 12 (.ref (a 111)) fl_X10_82_X10 oC_0 rfl rfl dX10_stranger_40 ?_
        refine V_callVI (pc := 43) (dy := 5) (q := (RX3, TX3, 13)) h [] [] 111 mv_X10_280 oC_111 rfl dX10_stranger_43 rfl rfl (Nat.le_of_ble_eq_true rfl) (Nat.le_trans (by decide) hD) (c_Noon_mealsTogether S7) (fun z9 hz9 => c_Noon_mealsTogether_ct h.gg (Nat.le_refl 5) S7 z9 hz9) (fun x9 S8 => ?_)
        refine V_istore (pc := 46) h [(4, .int x9), (0, .ref (a 0)), (1, .int v1), (2, .int v2), (3, .int v3)] dX10_stranger_46 (by decide) rfl ?_
        refine V_aload_n (pc := 48) h 1 dX10_stranger_48 rfl rfl ?_
        refine V_get (pc := 49) h 0 12 (.ref (a 111)) fl_X10_82_X10 oC_0 rfl rfl dX10_stranger_49 ?_
        refine V_aload_n (pc := 52) h 1 dX10_stranger_52 rfl rfl ?_
        refine V_get (pc := 53) h 0 7 (.ref (a 33)) fl_X10_56_X10 oC_0 rfl rfl dX10_stranger_53 ?_
        refine V_iload_n (pc := 56) h 2 dX10_stranger_56 rfl rfl ?_
        refine V_iload_n (pc := 57) h 3 dX10_stranger_57 rfl rfl ?_
        refine V_callVV (pc := 58) (dy := 5) (q := (RX3, TX3, 13)) h [.ref (a 33), .int v1, .int v2] [] 111 mv_X10_283 oC_111 rfl dX10_stranger_58 rfl rfl (Nat.le_of_ble_eq_true rfl) (Nat.le_trans (by decide) hD) (c_Noon_runWithStranger 33 v1 v2 S8) (fun z9 hz9 => c_Noon_runWithStranger_ct h.gg (Nat.le_refl 5) isSt_33 v1 v2 S8 z9 hz9) (fun S10 => ?_)
        refine V_iload_n (pc := 61) h 4 dX10_stranger_61 rfl rfl ?_
        refine V_if_ne (pc := 62) h 75 dX10_stranger_62 (by decide) ?_ ?_
        · refine V_iload (pc := 75) h 0 dX10_stranger_75 rfl ?_
          refine V_aload_n (pc := 77) h 1 dX10_stranger_77 rfl rfl ?_
          refine V_get (pc := 78) h 0 12 (.ref (a 111)) fl_X10_82_X10 oC_0 rfl rfl dX10_stranger_78 ?_
          refine V_callVI (pc := 81) (dy := 5) (q := (RX3, TX3, 13)) h [] [.int x9] 111 mv_X10_280 oC_111 rfl dX10_stranger_81 rfl rfl (Nat.le_of_ble_eq_true rfl) (Nat.le_trans (by decide) hD) (c_Noon_mealsTogether S10) (fun z9 hz9 => c_Noon_mealsTogether_ct h.gg (Nat.le_refl 5) S10 z9 hz9) (fun x12 S11 => ?_)
          refine V_isub (pc := 84) h dX10_stranger_84 ?_
          exact V_iret (pc := 85) h hr hlk dX10_stranger_85
        · refine V_aload_n (pc := 65) h 1 dX10_stranger_65 rfl rfl ?_
          refine V_get (pc := 66) h 0 12 (.ref (a 111)) fl_X10_82_X10 oC_0 rfl rfl dX10_stranger_66 ?_
          refine V_callVI (pc := 69) (dy := 1) (q := (RX3, TX3, 13)) h [] [] 111 mv_X10_286 oC_111 rfl dX10_stranger_69 rfl rfl (Nat.le_of_ble_eq_true rfl) (Nat.le_trans (by decide) hD) (c_Noon_strangerGrains S10) (fun z9 hz9 => c_Noon_strangerGrains_ct h.gg (Nat.le_refl 1) S10 z9 hz9) (fun x14 S13 => ?_)
          refine V_goto (pc := 72) h 85 dX10_stranger_72 (by decide) ?_
          exact V_iret (pc := 85) h hr hlk dX10_stranger_85
      · refine V_ldc (pc := 25) (v := -100000000) h dX10_stranger_25 tw_3_198 ?_
        exact V_iret (pc := 27) h hr hlk dX10_stranger_27
theorem c_N_stranger_ct {d : Nat} (g : GG s0 args0 D ca a A) (hD : 6 ≤ d) (v1 : Int32) (v2 : Int32) (v3 : Int32) (S : St) (z : Int32 × St) (hz : c_N_stranger v1 v2 v3 S = some z) : CtI l yX10_stranger cX10_stranger 5 .int d s0 D ca tpC a A [.ref (a 0), .int v1, .int v2, .int v3] S z := CtI_mk g (by decide +kernel) (Nat.le_of_ble_eq_true rfl) hz (fun p e s m args below meth c h hr hlk => c_N_stranger_ok h hr hlk hD v1 v2 v3 S)
def c_Noon_leastMeal_h5 : Nat → Int32 → Int32 → St → Option (Int32 × St)
  | 0, _, _, _ => none
  | n + 1, v1, v2, S => (if (S 28 0) ≤ v2 then (some (v1, S)) else (bI (c_Noon_mealOf v2 S) (fun x2 S1 => (bnd (imin v1 x2) (fun x3 => (bnd (v2 + (1 : Int32)) (fun x4 => ((c_Noon_leastMeal_h5 n) x3 x4 S1))))))))
set_option maxHeartbeats 4000000 in
set_option maxRecDepth 100000 in
theorem c_Noon_leastMeal_h5_ok {d : Nat} (h : Cx p s m c cX3_leastMeal 3 RX3 s0 args0 D ca a A) (hr : meth.sig.returnType = some .int) (hlk : meth.locks = false) (hD : 5 ≤ d) : ∀ (n : Nat) (v1 : Int32) (v2 : Int32) (S : St), VV p l e (rmd d) s m args below meth c D ca tpC a A 3 (QmI D ca tpC a A below args s) S [(0, .ref (a 111)), (1, .int v1), (2, .int v2)] 5 [] (c_Noon_leastMeal_h5 n v1 v2 S) := by
  intro n
  induction n with
  | zero => intro v1 v2 S; exact V_none
  | succ n ih =>
    intro v1 v2 S
    unfold c_Noon_leastMeal_h5
    refine V_iload_n (pc := 5) h 2 dX3_leastMeal_5 rfl rfl ?_
    refine V_aload_n (pc := 6) h 0 dX3_leastMeal_6 rfl rfl ?_
    refine V_get (pc := 7) h 111 0 (.ref (a 28)) fl_X3_29_X3 oC_111 rfl rfl dX3_leastMeal_7 ?_
    refine V_get (pc := 10) h 28 0 (.int (S 28 0)) fl_X3_66_X7 oC_28 rfl rfl dX3_leastMeal_10 ?_
    refine V_icmp_ge (pc := 13) h 32 dX3_leastMeal_13 (by decide) ?_ ?_
    · refine V_iload_n (pc := 32) h 1 dX3_leastMeal_32 rfl rfl ?_
      exact V_iret (pc := 33) h hr hlk dX3_leastMeal_33
    · refine V_iload_n (pc := 16) h 1 dX3_leastMeal_16 rfl rfl ?_
      refine V_aload_n (pc := 17) h 0 dX3_leastMeal_17 rfl rfl ?_
      refine V_iload_n (pc := 18) h 2 dX3_leastMeal_18 rfl rfl ?_
      refine V_callVI (pc := 19) (dy := 4) (q := (RX3, TX3, 13)) h [.int v2] [.int v1] 111 mv_X3_148 oC_111 rfl dX3_leastMeal_19 rfl rfl (Nat.le_of_ble_eq_true rfl) (Nat.le_trans (by decide) hD) (c_Noon_mealOf v2 S) (fun z9 hz9 => c_Noon_mealOf_ct h.gg (Nat.le_refl 4) v2 S z9 hz9) (fun x2 S1 => ?_)
      refine V_mmin (pc := 22) h dX3_leastMeal_22 tw_4_234 tw_2_227 tw_1_16 tw_2_228 (Nat.le_trans (by decide) hD) (Nat.le_of_ble_eq_true rfl) ?_
      refine V_top (fun x3 => ?_)
      refine V_istore_n (pc := 25) h [(1, .int x3), (0, .ref (a 111)), (2, .int v2)] dX3_leastMeal_25 rfl (by decide) rfl ?_
      refine V_iincB (pc := 26) h 2 (1 : Int32) (fun x4 => [(2, .int x4), (1, .int x3), (0, .ref (a 111))]) dX3_leastMeal_26 rfl (by decide) (by decide) (fun _ => rfl) (fun x4 => ?_)
      refine V_goto (pc := 29) h 5 dX3_leastMeal_29 (by decide) ?_
      exact V_ls [2, 1, 0] rfl (ih x3 x4 S1)
def c_Noon_leastMeal (S : St) : Option (Int32 × St) := (c_Noon_leastMeal_h5 FU (2147483647 : Int32) (0 : Int32) S)
set_option maxHeartbeats 4000000 in
set_option maxRecDepth 100000 in
theorem c_Noon_leastMeal_ok {d : Nat} (h : Cx p s m c cX3_leastMeal 3 RX3 s0 args0 D ca a A) (hr : meth.sig.returnType = some .int) (hlk : meth.locks = false) (hD : 5 ≤ d) (S : St) : VV p l e (rmd d) s m args below meth c D ca tpC a A 3 (QmI D ca tpC a A below args s) S [(0, .ref (a 111))] 0 [] (c_Noon_leastMeal S) := by
  unfold c_Noon_leastMeal
  refine V_ldc (pc := 0) (v := 2147483647) h dX3_leastMeal_0 tw_3_222 ?_
  refine V_istore_n (pc := 2) h [(1, .int (2147483647 : Int32)), (0, .ref (a 111))] dX3_leastMeal_2 rfl (by decide) rfl ?_
  refine V_iconst (pc := 3) (v := 0) h dX3_leastMeal_3 (by decide) ?_
  refine V_istore_n (pc := 4) h [(2, .int (0 : Int32)), (1, .int (2147483647 : Int32)), (0, .ref (a 111))] dX3_leastMeal_4 rfl (by decide) rfl ?_
  exact V_ls [2, 1, 0] rfl (c_Noon_leastMeal_h5_ok h hr hlk hD FU (2147483647 : Int32) (0 : Int32) S)
theorem c_Noon_leastMeal_ct {d : Nat} (g : GG s0 args0 D ca a A) (hD : 5 ≤ d) (S : St) (z : Int32 × St) (hz : c_Noon_leastMeal S = some z) : CtI l yX3_leastMeal cX3_leastMeal 3 .int d s0 D ca tpC a A [.ref (a 111)] S z := CtI_mk g (by decide +kernel) (Nat.le_of_ble_eq_true rfl) hz (fun p e s m args below meth c h hr hlk => c_Noon_leastMeal_ok h hr hlk hD S)
def c_Street_exchangeLadles (v1 : Int32) (v2 : Int32) (S : St) : Option St := (bI (c_N_isWithin v1 (0 : Int32) (5 : Int32) S) (fun x2 S1 => (if x2 = 0 then (some S1) else (bI (c_N_isWithin v2 (0 : Int32) (5 : Int32) S1) (fun x4 S3 => (if x4 = 0 then (some S3) else (ckM v1 6 (bnd (S3 30 v1.toNatClampNeg) (fun x5 => (ckM v2 6 (ckM v1 6 (bnd (up2 S3 30 v1.toNatClampNeg (S3 30 v2.toNatClampNeg)) (fun S6 => (ckM v2 6 (bnd (up2 S6 30 v2.toNatClampNeg x5) (fun S7 => (some S7)))))))))))))))))
set_option maxHeartbeats 4000000 in
set_option maxRecDepth 100000 in
theorem c_Street_exchangeLadles_ok {d : Nat} (h : Cx p s m c cX7_exchangeLadles 4 RX7 s0 args0 D ca a A) (hr : meth.sig.returnType = none) (hlk : meth.locks = false) (hD : 2 ≤ d) (v1 : Int32) (v2 : Int32) (S : St) : VV p l e (rmd d) s m args below meth c D ca tpC a A 4 (QmV D ca tpC a A below args s) S [(0, .ref (a 28)), (1, .int v1), (2, .int v2)] 0 [] (c_Street_exchangeLadles v1 v2 S) := by
  unfold c_Street_exchangeLadles
  refine V_iload_n (pc := 0) h 1 dX7_exchangeLadles_0 rfl rfl ?_
  refine V_iconst (pc := 1) (v := 0) h dX7_exchangeLadles_1 (by decide) ?_
  refine V_iconst (pc := 2) (v := 5) h dX7_exchangeLadles_2 (by decide) ?_
  refine V_callSI (pc := 3) (dy := 1) h [.int v1, .int (0 : Int32), .int (5 : Int32)] [] ms_X7_54 dX7_exchangeLadles_3 rfl rfl (Nat.le_of_ble_eq_true rfl) (Nat.le_trans (by decide) hD) (c_N_isWithin v1 (0 : Int32) (5 : Int32) S) (fun z9 hz9 => c_N_isWithin_ct h.gg (Nat.le_refl 1) v1 (0 : Int32) (5 : Int32) S z9 hz9) (fun x2 S1 => ?_)
  refine V_if_eq (pc := 6) h 44 dX7_exchangeLadles_6 (by decide) ?_ ?_
  · exact V_vret (pc := 44) h hr hlk dX7_exchangeLadles_44
  · refine V_iload_n (pc := 9) h 2 dX7_exchangeLadles_9 rfl rfl ?_
    refine V_iconst (pc := 10) (v := 0) h dX7_exchangeLadles_10 (by decide) ?_
    refine V_iconst (pc := 11) (v := 5) h dX7_exchangeLadles_11 (by decide) ?_
    refine V_callSI (pc := 12) (dy := 1) h [.int v2, .int (0 : Int32), .int (5 : Int32)] [] ms_X7_54 dX7_exchangeLadles_12 rfl rfl (Nat.le_of_ble_eq_true rfl) (Nat.le_trans (by decide) hD) (c_N_isWithin v2 (0 : Int32) (5 : Int32) S1) (fun z9 hz9 => c_N_isWithin_ct h.gg (Nat.le_refl 1) v2 (0 : Int32) (5 : Int32) S1 z9 hz9) (fun x4 S3 => ?_)
    refine V_if_eq (pc := 15) h 44 dX7_exchangeLadles_15 (by decide) ?_ ?_
    · exact V_vret (pc := 44) h hr hlk dX7_exchangeLadles_44
    · refine V_aload_n (pc := 18) h 0 dX7_exchangeLadles_18 rfl rfl ?_
      refine V_get (pc := 19) h 28 5 (.ref (a 30)) fl_X7_15_X7 oC_28 rfl rfl dX7_exchangeLadles_19 ?_
      refine V_iload_n (pc := 22) h 1 dX7_exchangeLadles_22 rfl rfl ?_
      refine V_iald (pc := 23) h 30 oC_30 dX7_exchangeLadles_23 ?_
      refine V_top (fun x5 => ?_)
      refine V_istore_n (pc := 24) h [(3, .int x5), (0, .ref (a 28)), (1, .int v1), (2, .int v2)] dX7_exchangeLadles_24 rfl (by decide) rfl ?_
      refine V_aload_n (pc := 25) h 1 dX7_exchangeLadles_25 rfl rfl ?_
      refine V_get (pc := 26) h 28 5 (.ref (a 30)) fl_X7_15_X7 oC_28 rfl rfl dX7_exchangeLadles_26 ?_
      refine V_iload_n (pc := 29) h 2 dX7_exchangeLadles_29 rfl rfl ?_
      refine V_aload_n (pc := 30) h 1 dX7_exchangeLadles_30 rfl rfl ?_
      refine V_get (pc := 31) h 28 5 (.ref (a 30)) fl_X7_15_X7 oC_28 rfl rfl dX7_exchangeLadles_31 ?_
      refine V_iload_n (pc := 34) h 3 dX7_exchangeLadles_34 rfl rfl ?_
      refine V_iald (pc := 35) h 30 oC_30 dX7_exchangeLadles_35 ?_
      refine V_iast (pc := 36) h 30 oC_30 dX7_exchangeLadles_36 (fun S6 => ?_)
      refine V_aload_n (pc := 37) h 1 dX7_exchangeLadles_37 rfl rfl ?_
      refine V_get (pc := 38) h 28 5 (.ref (a 30)) fl_X7_15_X7 oC_28 rfl rfl dX7_exchangeLadles_38 ?_
      refine V_iload_n (pc := 41) h 3 dX7_exchangeLadles_41 rfl rfl ?_
      refine V_iload_n (pc := 42) h 0 dX7_exchangeLadles_42 rfl rfl ?_
      refine V_iast (pc := 43) h 30 oC_30 dX7_exchangeLadles_43 (fun S7 => ?_)
      exact V_vret (pc := 44) h hr hlk dX7_exchangeLadles_44
theorem c_Street_exchangeLadles_ct {d : Nat} (g : GG s0 args0 D ca a A) (hD : 2 ≤ d) (v1 : Int32) (v2 : Int32) (S : St) (z : St) (hz : c_Street_exchangeLadles v1 v2 S = some z) : CtV l yX7_exchangeLadles cX7_exchangeLadles 4 d s0 D ca tpC a A [.ref (a 28), .int v1, .int v2] S z := CtV_mk g (by decide +kernel) (Nat.le_of_ble_eq_true rfl) hz (fun p e s m args below meth c h hr hlk => c_Street_exchangeLadles_ok h hr hlk hD v1 v2 S)
def c_N_leastMealExchanged (v1 : Int32) (v2 : Int32) (S : St) : Option (Int32 × St) := (bV (c_Street_exchangeLadles v1 v2 S) (fun S1 => (bV (c_Noon_run 33 S1) (fun S2 => (bI (c_Noon_leastMeal S2) (fun x4 S3 => (bV (c_Street_exchangeLadles v1 v2 S3) (fun S5 => (some (x4, S5))))))))))
set_option maxHeartbeats 4000000 in
set_option maxRecDepth 100000 in
theorem c_N_leastMealExchanged_ok {d : Nat} (h : Cx p s m c cX10_leastMealExchanged 4 RX10 s0 args0 D ca a A) (hr : meth.sig.returnType = some .int) (hlk : meth.locks = false) (hD : 6 ≤ d) (v1 : Int32) (v2 : Int32) (S : St) : VV p l e (rmd d) s m args below meth c D ca tpC a A 4 (QmI D ca tpC a A below args s) S [(0, .ref (a 0)), (1, .int v1), (2, .int v2)] 0 [] (c_N_leastMealExchanged v1 v2 S) := by
  unfold c_N_leastMealExchanged
  refine V_aload_n (pc := 0) h 0 dX10_leastMealExchanged_0 rfl rfl ?_
  refine V_get (pc := 1) h 0 6 (.ref (a 28)) fl_X10_49_X10 oC_0 rfl rfl dX10_leastMealExchanged_1 ?_
  refine V_iload_n (pc := 4) h 1 dX10_leastMealExchanged_4 rfl rfl ?_
  refine V_iload_n (pc := 5) h 2 dX10_leastMealExchanged_5 rfl rfl ?_
  refine V_callVV (pc := 6) (dy := 2) (q := (RX7, TX7, 8)) h [.int v1, .int v2] [] 28 mv_X10_295 oC_28 rfl dX10_leastMealExchanged_6 rfl rfl (Nat.le_of_ble_eq_true rfl) (Nat.le_trans (by decide) hD) (c_Street_exchangeLadles v1 v2 S) (fun z9 hz9 => c_Street_exchangeLadles_ct h.gg (Nat.le_refl 2) v1 v2 S z9 hz9) (fun S1 => ?_)
  refine V_aload_n (pc := 9) h 0 dX10_leastMealExchanged_9 rfl rfl ?_
  refine V_get (pc := 10) h 0 12 (.ref (a 111)) fl_X10_82_X10 oC_0 rfl rfl dX10_leastMealExchanged_10 ?_
  refine V_aload_n (pc := 13) h 0 dX10_leastMealExchanged_13 rfl rfl ?_
  refine V_get (pc := 14) h 0 7 (.ref (a 33)) fl_X10_56_X10 oC_0 rfl rfl dX10_leastMealExchanged_14 ?_
  refine V_callVV (pc := 17) (dy := 5) (q := (RX3, TX3, 13)) h [.ref (a 33)] [] 111 mv_X10_195 oC_111 rfl dX10_leastMealExchanged_17 rfl rfl (Nat.le_of_ble_eq_true rfl) (Nat.le_trans (by decide) hD) (c_Noon_run 33 S1) (fun z9 hz9 => c_Noon_run_ct h.gg (Nat.le_refl 5) isSt_33 S1 z9 hz9) (fun S2 => ?_)
  refine V_aload_n (pc := 20) h 0 dX10_leastMealExchanged_20 rfl rfl ?_
  refine V_get (pc := 21) h 0 12 (.ref (a 111)) fl_X10_82_X10 oC_0 rfl rfl dX10_leastMealExchanged_21 ?_
  refine V_callVI (pc := 24) (dy := 5) (q := (RX3, TX3, 13)) h [] [] 111 mv_X10_289 oC_111 rfl dX10_leastMealExchanged_24 rfl rfl (Nat.le_of_ble_eq_true rfl) (Nat.le_trans (by decide) hD) (c_Noon_leastMeal S2) (fun z9 hz9 => c_Noon_leastMeal_ct h.gg (Nat.le_refl 5) S2 z9 hz9) (fun x4 S3 => ?_)
  refine V_istore_n (pc := 27) h [(3, .int x4), (0, .ref (a 0)), (1, .int v1), (2, .int v2)] dX10_leastMealExchanged_27 rfl (by decide) rfl ?_
  refine V_aload_n (pc := 28) h 1 dX10_leastMealExchanged_28 rfl rfl ?_
  refine V_get (pc := 29) h 0 6 (.ref (a 28)) fl_X10_49_X10 oC_0 rfl rfl dX10_leastMealExchanged_29 ?_
  refine V_iload_n (pc := 32) h 2 dX10_leastMealExchanged_32 rfl rfl ?_
  refine V_iload_n (pc := 33) h 3 dX10_leastMealExchanged_33 rfl rfl ?_
  refine V_callVV (pc := 34) (dy := 2) (q := (RX7, TX7, 8)) h [.int v1, .int v2] [] 28 mv_X10_295 oC_28 rfl dX10_leastMealExchanged_34 rfl rfl (Nat.le_of_ble_eq_true rfl) (Nat.le_trans (by decide) hD) (c_Street_exchangeLadles v1 v2 S3) (fun z9 hz9 => c_Street_exchangeLadles_ct h.gg (Nat.le_refl 2) v1 v2 S3 z9 hz9) (fun S5 => ?_)
  refine V_iload_n (pc := 37) h 0 dX10_leastMealExchanged_37 rfl rfl ?_
  exact V_iret (pc := 38) h hr hlk dX10_leastMealExchanged_38
theorem c_N_leastMealExchanged_ct {d : Nat} (g : GG s0 args0 D ca a A) (hD : 6 ≤ d) (v1 : Int32) (v2 : Int32) (S : St) (z : Int32 × St) (hz : c_N_leastMealExchanged v1 v2 S = some z) : CtI l yX10_leastMealExchanged cX10_leastMealExchanged 4 .int d s0 D ca tpC a A [.ref (a 0), .int v1, .int v2] S z := CtI_mk g (by decide +kernel) (Nat.le_of_ble_eq_true rfl) hz (fun p e s m args below meth c h hr hlk => c_N_leastMealExchanged_ok h hr hlk hD v1 v2 S)
def c_N_exchange_b99 (L41 : Int32 → Int32 → Int32 → Int32 → St → Option (Int32 × St)) (L59 : Int32 → Int32 → Int32 → Int32 → Int32 → St → Option (Int32 × St)) (v1 : Int32) (v2 : Int32) (v3 : Int32) (v4 : Int32) (v5 : Int32) (S : St) : Option (Int32 × St) := (bnd (v5 + (1 : Int32)) (fun x1 => (L59 v1 v2 v3 v4 x1 S)))
set_option maxHeartbeats 4000000 in
set_option maxRecDepth 100000 in
theorem c_N_exchange_b99_ok {d : Nat} (h : Cx p s m c cX10_exchange 7 RX10 s0 args0 D ca a A) (hr : meth.sig.returnType = some .int) (hlk : meth.locks = false) (hD : 7 ≤ d) (L41 : Int32 → Int32 → Int32 → Int32 → St → Option (Int32 × St)) (hL41 : ∀ (v1 : Int32) (v2 : Int32) (v3 : Int32) (v4 : Int32) (S : St), VV p l e (rmd d) s m args below meth c D ca tpC a A 7 (QmI D ca tpC a A below args s) S [(0, .ref (a 0)), (1, .int v1), (2, .int v2), (3, .int v3), (4, .int v4)] 41 [] (L41 v1 v2 v3 v4 S)) (L59 : Int32 → Int32 → Int32 → Int32 → Int32 → St → Option (Int32 × St)) (hL59 : ∀ (v1 : Int32) (v2 : Int32) (v3 : Int32) (v4 : Int32) (v5 : Int32) (S : St), VV p l e (rmd d) s m args below meth c D ca tpC a A 7 (QmI D ca tpC a A below args s) S [(0, .ref (a 0)), (1, .int v1), (2, .int v2), (3, .int v3), (4, .int v4), (5, .int v5)] 59 [] (L59 v1 v2 v3 v4 v5 S)) (v1 : Int32) (v2 : Int32) (v3 : Int32) (v4 : Int32) (v5 : Int32) (S : St) : VV p l e (rmd d) s m args below meth c D ca tpC a A 7 (QmI D ca tpC a A below args s) S [(0, .ref (a 0)), (1, .int v1), (2, .int v2), (3, .int v3), (4, .int v4), (5, .int v5)] 99 [] (c_N_exchange_b99 L41 L59 v1 v2 v3 v4 v5 S) := by
  unfold c_N_exchange_b99
  refine V_iincB (pc := 99) h 5 (1 : Int32) (fun x1 => [(5, .int x1), (0, .ref (a 0)), (1, .int v1), (2, .int v2), (3, .int v3), (4, .int v4)]) dX10_exchange_99 rfl (by decide) (by decide) (fun _ => rfl) (fun x1 => ?_)
  refine V_goto (pc := 102) h 59 dX10_exchange_102 (by decide) ?_
  exact V_ls [1, 2, 3, 4, 5, 0] rfl (hL59 v1 v2 v3 v4 x1 S)
def c_N_exchange_h59 (L41 : Int32 → Int32 → Int32 → Int32 → St → Option (Int32 × St)) : Nat → Int32 → Int32 → Int32 → Int32 → Int32 → St → Option (Int32 × St)
  | 0, _, _, _, _, _, _ => none
  | n + 1, v1, v2, v3, v4, v5, S => (if (S 28 0) ≤ v5 then (bnd (v4 + (1 : Int32)) (fun x1 => (L41 v1 v2 v3 x1 S))) else (bI (c_N_leastMealExchanged v4 v5 S) (fun x3 S2 => (if x3 ≤ v3 then (c_N_exchange_b99 L41 (c_N_exchange_h59 L41 n) v1 v2 v3 v4 v5 S2) else (bnd (((10 : Int32) * v4) + v5) (fun x4 => (c_N_exchange_b99 L41 (c_N_exchange_h59 L41 n) v1 x4 x3 v4 v5 S2)))))))
set_option maxHeartbeats 4000000 in
set_option maxRecDepth 100000 in
theorem c_N_exchange_h59_ok {d : Nat} (h : Cx p s m c cX10_exchange 7 RX10 s0 args0 D ca a A) (hr : meth.sig.returnType = some .int) (hlk : meth.locks = false) (hD : 7 ≤ d) (L41 : Int32 → Int32 → Int32 → Int32 → St → Option (Int32 × St)) (hL41 : ∀ (v1 : Int32) (v2 : Int32) (v3 : Int32) (v4 : Int32) (S : St), VV p l e (rmd d) s m args below meth c D ca tpC a A 7 (QmI D ca tpC a A below args s) S [(0, .ref (a 0)), (1, .int v1), (2, .int v2), (3, .int v3), (4, .int v4)] 41 [] (L41 v1 v2 v3 v4 S)) : ∀ (n : Nat) (v1 : Int32) (v2 : Int32) (v3 : Int32) (v4 : Int32) (v5 : Int32) (S : St), VV p l e (rmd d) s m args below meth c D ca tpC a A 7 (QmI D ca tpC a A below args s) S [(0, .ref (a 0)), (1, .int v1), (2, .int v2), (3, .int v3), (4, .int v4), (5, .int v5)] 59 [] (c_N_exchange_h59 L41 n v1 v2 v3 v4 v5 S) := by
  intro n
  induction n with
  | zero => intro v1 v2 v3 v4 v5 S; exact V_none
  | succ n ih =>
    intro v1 v2 v3 v4 v5 S
    unfold c_N_exchange_h59
    refine V_iload (pc := 59) h 5 dX10_exchange_59 rfl ?_
    refine V_aload_n (pc := 61) h 0 dX10_exchange_61 rfl rfl ?_
    refine V_get (pc := 62) h 0 6 (.ref (a 28)) fl_X10_49_X10 oC_0 rfl rfl dX10_exchange_62 ?_
    refine V_get (pc := 65) h 28 0 (.int (S 28 0)) fl_X10_118_X7 oC_28 rfl rfl dX10_exchange_65 ?_
    refine V_icmp_ge (pc := 68) h 105 dX10_exchange_68 (by decide) ?_ ?_
    · refine V_iincB (pc := 105) h 4 (1 : Int32) (fun x1 => [(4, .int x1), (0, .ref (a 0)), (1, .int v1), (2, .int v2), (3, .int v3), (5, .int v5)]) dX10_exchange_105 rfl (by decide) (by decide) (fun _ => rfl) (fun x1 => ?_)
      refine V_goto (pc := 108) h 41 dX10_exchange_108 (by decide) ?_
      exact V_ls [1, 2, 3, 4, 0] rfl (hL41 v1 v2 v3 x1 S)
    · refine V_aload_n (pc := 71) h 0 dX10_exchange_71 rfl rfl ?_
      refine V_iload (pc := 72) h 4 dX10_exchange_72 rfl ?_
      refine V_iload (pc := 74) h 5 dX10_exchange_74 rfl ?_
      refine V_callVI (pc := 76) (dy := 6) (q := (RX10, TX10, 15)) h [.int v4, .int v5] [] 0 mv_X10_292 oC_0 rfl dX10_exchange_76 rfl rfl (Nat.le_of_ble_eq_true rfl) (Nat.le_trans (by decide) hD) (c_N_leastMealExchanged v4 v5 S) (fun z9 hz9 => c_N_leastMealExchanged_ct h.gg (Nat.le_refl 6) v4 v5 S z9 hz9) (fun x3 S2 => ?_)
      refine V_istore (pc := 79) h [(6, .int x3), (0, .ref (a 0)), (1, .int v1), (2, .int v2), (3, .int v3), (4, .int v4), (5, .int v5)] dX10_exchange_79 (by decide) rfl ?_
      refine V_iload (pc := 81) h 0 dX10_exchange_81 rfl ?_
      refine V_iload_n (pc := 83) h 4 dX10_exchange_83 rfl rfl ?_
      refine V_icmp_le (pc := 84) h 99 dX10_exchange_84 (by decide) ?_ ?_
      · exact V_ls [1, 2, 3, 4, 5, 6] rfl (c_N_exchange_b99_ok h hr hlk hD L41 hL41 (c_N_exchange_h59 L41 n) ih v1 v2 v3 v4 v5 S2)
      · refine V_iload (pc := 87) h 0 dX10_exchange_87 rfl ?_
        refine V_istore_n (pc := 89) h [(3, .int x3), (6, .int x3), (0, .ref (a 0)), (1, .int v1), (2, .int v2), (4, .int v4), (5, .int v5)] dX10_exchange_89 rfl (by decide) rfl ?_
        refine V_bipush (pc := 90) (v := 10) h dX10_exchange_90 (by decide) ?_
        refine V_iload (pc := 92) h 5 dX10_exchange_92 rfl ?_
        refine V_imul (pc := 94) h dX10_exchange_94 ?_
        refine V_iload (pc := 95) h 6 dX10_exchange_95 rfl ?_
        refine V_iadd (pc := 97) h dX10_exchange_97 ?_
        refine V_top (fun x4 => ?_)
        refine V_istore_n (pc := 98) h [(2, .int x4), (3, .int x3), (6, .int x3), (0, .ref (a 0)), (1, .int v1), (4, .int v4), (5, .int v5)] dX10_exchange_98 rfl (by decide) rfl ?_
        exact V_ls [3, 4, 0, 1, 5, 6] rfl (c_N_exchange_b99_ok h hr hlk hD L41 hL41 (c_N_exchange_h59 L41 n) ih v1 x4 x3 v4 v5 S2)
def c_N_exchange_h41 : Nat → Int32 → Int32 → Int32 → Int32 → St → Option (Int32 × St)
  | 0, _, _, _, _, _ => none
  | n + 1, v1, v2, v3, v4, S => (if (S 28 0) ≤ v4 then (if v1 = 0 then (some (v2, S)) else (some (v3, S))) else (bnd (v4 + (1 : Int32)) (fun x1 => (c_N_exchange_h59 (c_N_exchange_h41 n) FU v1 v2 v3 v4 x1 S))))
set_option maxHeartbeats 4000000 in
set_option maxRecDepth 100000 in
theorem c_N_exchange_h41_ok {d : Nat} (h : Cx p s m c cX10_exchange 7 RX10 s0 args0 D ca a A) (hr : meth.sig.returnType = some .int) (hlk : meth.locks = false) (hD : 7 ≤ d) : ∀ (n : Nat) (v1 : Int32) (v2 : Int32) (v3 : Int32) (v4 : Int32) (S : St), VV p l e (rmd d) s m args below meth c D ca tpC a A 7 (QmI D ca tpC a A below args s) S [(0, .ref (a 0)), (1, .int v1), (2, .int v2), (3, .int v3), (4, .int v4)] 41 [] (c_N_exchange_h41 n v1 v2 v3 v4 S) := by
  intro n
  induction n with
  | zero => intro v1 v2 v3 v4 S; exact V_none
  | succ n ih =>
    intro v1 v2 v3 v4 S
    unfold c_N_exchange_h41
    refine V_iload (pc := 41) h 4 dX10_exchange_41 rfl ?_
    refine V_aload_n (pc := 43) h 0 dX10_exchange_43 rfl rfl ?_
    refine V_get (pc := 44) h 0 6 (.ref (a 28)) fl_X10_49_X10 oC_0 rfl rfl dX10_exchange_44 ?_
    refine V_get (pc := 47) h 28 0 (.int (S 28 0)) fl_X10_118_X7 oC_28 rfl rfl dX10_exchange_47 ?_
    refine V_icmp_ge (pc := 50) h 111 dX10_exchange_50 (by decide) ?_ ?_
    · refine V_iload_n (pc := 111) h 1 dX10_exchange_111 rfl rfl ?_
      refine V_if_ne (pc := 112) h 119 dX10_exchange_112 (by decide) ?_ ?_
      · refine V_iload_n (pc := 119) h 3 dX10_exchange_119 rfl rfl ?_
        exact V_iret (pc := 120) h hr hlk dX10_exchange_120
      · refine V_iload_n (pc := 115) h 2 dX10_exchange_115 rfl rfl ?_
        refine V_goto (pc := 116) h 120 dX10_exchange_116 (by decide) ?_
        exact V_iret (pc := 120) h hr hlk dX10_exchange_120
    · refine V_iload (pc := 53) h 4 dX10_exchange_53 rfl ?_
      refine V_iconst (pc := 55) (v := 1) h dX10_exchange_55 (by decide) ?_
      refine V_iadd (pc := 56) h dX10_exchange_56 ?_
      refine V_top (fun x1 => ?_)
      refine V_istore (pc := 57) h [(5, .int x1), (0, .ref (a 0)), (1, .int v1), (2, .int v2), (3, .int v3), (4, .int v4)] dX10_exchange_57 (by decide) rfl ?_
      exact V_ls [1, 2, 3, 4, 5, 0] rfl (c_N_exchange_h59_ok h hr hlk hD (c_N_exchange_h41 n) ih FU v1 v2 v3 v4 x1 S)
def c_N_exchange (v1 : Int32) (S : St) : Option (Int32 × St) := (bI (c_N_hasStreet S) (fun x2 S1 => (if x2 = 0 then (some ((-100000000 : Int32), S1)) else (bI (c_N_isChoice v1 S1) (fun x4 S3 => (if x4 = 0 then (some ((-100000000 : Int32), S3)) else (bV (c_Noon_run 33 S3) (fun S5 => (bI (c_Noon_leastMeal S5) (fun x7 S6 => (c_N_exchange_h41 FU v1 (-1 : Int32) x7 (0 : Int32) S6)))))))))))
set_option maxHeartbeats 4000000 in
set_option maxRecDepth 100000 in
theorem c_N_exchange_ok {d : Nat} (h : Cx p s m c cX10_exchange 7 RX10 s0 args0 D ca a A) (hr : meth.sig.returnType = some .int) (hlk : meth.locks = false) (hD : 7 ≤ d) (v1 : Int32) (S : St) : VV p l e (rmd d) s m args below meth c D ca tpC a A 7 (QmI D ca tpC a A below args s) S [(0, .ref (a 0)), (1, .int v1)] 0 [] (c_N_exchange v1 S) := by
  unfold c_N_exchange
  refine V_aload_n (pc := 0) h 0 dX10_exchange_0 rfl rfl ?_
  refine V_callVI (pc := 1) (dy := 1) (q := (RX10, TX10, 15)) h [] [] 0 mv_X10_172 oC_0 rfl dX10_exchange_1 rfl rfl (Nat.le_of_ble_eq_true rfl) (Nat.le_trans (by decide) hD) (c_N_hasStreet S) (fun z9 hz9 => c_N_hasStreet_ct h.gg (Nat.le_refl 1) S z9 hz9) (fun x2 S1 => ?_)
  refine V_if_eq (pc := 4) h 14 dX10_exchange_4 (by decide) ?_ ?_
  · refine V_ldc (pc := 14) (v := -100000000) h dX10_exchange_14 tw_3_198 ?_
    exact V_iret (pc := 16) h hr hlk dX10_exchange_16
  · refine V_iload_n (pc := 7) h 1 dX10_exchange_7 rfl rfl ?_
    refine V_callSI (pc := 8) (dy := 1) h [.int v1] [] ms_X10_237 dX10_exchange_8 rfl rfl (Nat.le_of_ble_eq_true rfl) (Nat.le_trans (by decide) hD) (c_N_isChoice v1 S1) (fun z9 hz9 => c_N_isChoice_ct h.gg (Nat.le_refl 1) v1 S1 z9 hz9) (fun x4 S3 => ?_)
    refine V_if_ne (pc := 11) h 17 dX10_exchange_11 (by decide) ?_ ?_
    · refine V_aload_n (pc := 17) h 0 dX10_exchange_17 rfl rfl ?_
      refine V_get (pc := 18) h 0 12 (.ref (a 111)) fl_X10_82_X10 oC_0 rfl rfl dX10_exchange_18 ?_
      refine V_aload_n (pc := 21) h 0 dX10_exchange_21 rfl rfl ?_
      refine V_get (pc := 22) h 0 7 (.ref (a 33)) fl_X10_56_X10 oC_0 rfl rfl dX10_exchange_22 ?_
      refine V_callVV (pc := 25) (dy := 5) (q := (RX3, TX3, 13)) h [.ref (a 33)] [] 111 mv_X10_195 oC_111 rfl dX10_exchange_25 rfl rfl (Nat.le_of_ble_eq_true rfl) (Nat.le_trans (by decide) hD) (c_Noon_run 33 S3) (fun z9 hz9 => c_Noon_run_ct h.gg (Nat.le_refl 5) isSt_33 S3 z9 hz9) (fun S5 => ?_)
      refine V_iconst (pc := 28) (v := -1) h dX10_exchange_28 (by decide) ?_
      refine V_istore_n (pc := 29) h [(2, .int (-1 : Int32)), (0, .ref (a 0)), (1, .int v1)] dX10_exchange_29 rfl (by decide) rfl ?_
      refine V_aload_n (pc := 30) h 1 dX10_exchange_30 rfl rfl ?_
      refine V_get (pc := 31) h 0 12 (.ref (a 111)) fl_X10_82_X10 oC_0 rfl rfl dX10_exchange_31 ?_
      refine V_callVI (pc := 34) (dy := 5) (q := (RX3, TX3, 13)) h [] [] 111 mv_X10_289 oC_111 rfl dX10_exchange_34 rfl rfl (Nat.le_of_ble_eq_true rfl) (Nat.le_trans (by decide) hD) (c_Noon_leastMeal S5) (fun z9 hz9 => c_Noon_leastMeal_ct h.gg (Nat.le_refl 5) S5 z9 hz9) (fun x7 S6 => ?_)
      refine V_istore_n (pc := 37) h [(3, .int x7), (2, .int (-1 : Int32)), (0, .ref (a 0)), (1, .int v1)] dX10_exchange_37 rfl (by decide) rfl ?_
      refine V_iconst (pc := 38) (v := 0) h dX10_exchange_38 (by decide) ?_
      refine V_istore (pc := 39) h [(4, .int (0 : Int32)), (3, .int x7), (2, .int (-1 : Int32)), (0, .ref (a 0)), (1, .int v1)] dX10_exchange_39 (by decide) rfl ?_
      exact V_ls [3, 4, 2, 1, 0] rfl (c_N_exchange_h41_ok h hr hlk hD FU v1 (-1 : Int32) x7 (0 : Int32) S6)
    · refine V_ldc (pc := 14) (v := -100000000) h dX10_exchange_14 tw_3_198 ?_
      exact V_iret (pc := 16) h hr hlk dX10_exchange_16
theorem c_N_exchange_ct {d : Nat} (g : GG s0 args0 D ca a A) (hD : 7 ≤ d) (v1 : Int32) (S : St) (z : Int32 × St) (hz : c_N_exchange v1 S = some z) : CtI l yX10_exchange cX10_exchange 7 .int d s0 D ca tpC a A [.ref (a 0), .int v1] S z := CtI_mk g (by decide +kernel) (Nat.le_of_ble_eq_true rfl) hz (fun p e s m args below meth c h hr hlk => c_N_exchange_ok h hr hlk hD v1 S)
end GEN
