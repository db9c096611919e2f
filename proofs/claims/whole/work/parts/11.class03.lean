section GEN
variable {p : Program} {l : Launch} {e : Env} {s : State} {m : MethodId} {args : Array Value} {below : List Frame} {meth : Method} {c : Code}
variable {D : va_G} {ca : Nat → ClassId} {tp : List ODt} {a : Nat → Nat} {A : Nat → Prop} {s0 : State} {args0 : Array Value} {t : Nat}
def c_Best_leastPut_h2 : Nat → Int32 → Int32 → St → Option (Int32 × St)
  | 0, _, _, _ => none
  | n + 1, v1, v2, S => (if (5 : Int32) ≤ v2 then (some ((9 : Int32), S)) else (bI (c_State_hasEnough 33 v1 v2 (S 28 1) S) (fun x2 S1 => (if x2 = 0 then (bnd (v2 + (1 : Int32)) (fun x3 => ((c_Best_leastPut_h2 n) v1 x3 S1))) else (some (v2, S1))))))
set_option maxHeartbeats 4000000 in
set_option maxRecDepth 100000 in
theorem c_Best_leastPut_h2_ok {d : Nat} (h : Cx p s m c cX0_leastPut 3 RX0 s0 args0 D ca a A) (hr : meth.sig.returnType = some .int) (hlk : meth.locks = false) (hD : 4 ≤ d) : ∀ (n : Nat) (v1 : Int32) (v2 : Int32) (S : St), VV p l e (rmd d) s m args below meth c D ca tpC a A 3 (QmI D ca tpC a A below args s) S [(0, .ref (a 130)), (1, .int v1), (2, .int v2)] 2 [] (c_Best_leastPut_h2 n v1 v2 S) := by
  intro n
  induction n with
  | zero => intro v1 v2 S; exact V_none
  | succ n ih =>
    intro v1 v2 S
    unfold c_Best_leastPut_h2
    refine V_iload_n (pc := 2) h 2 dX0_leastPut_2 rfl rfl ?_
    refine V_iconst (pc := 3) (v := 5) h dX0_leastPut_3 (by decide) ?_
    refine V_icmp_ge (pc := 4) h 34 dX0_leastPut_4 (by decide) ?_ ?_
    · refine V_bipush (pc := 34) (v := 9) h dX0_leastPut_34 (by decide) ?_
      exact V_iret (pc := 36) h hr hlk dX0_leastPut_36
    · refine V_aload_n (pc := 7) h 0 dX0_leastPut_7 rfl rfl ?_
      refine V_get (pc := 8) h 130 1 (.ref (a 33)) fl_X0_15_X0 oC_130 rfl rfl dX0_leastPut_8 ?_
      refine V_iload_n (pc := 11) h 1 dX0_leastPut_11 rfl rfl ?_
      refine V_iload_n (pc := 12) h 2 dX0_leastPut_12 rfl rfl ?_
      refine V_aload_n (pc := 13) h 0 dX0_leastPut_13 rfl rfl ?_
      refine V_get (pc := 14) h 130 0 (.ref (a 28)) fl_X0_9_X0 oC_130 rfl rfl dX0_leastPut_14 ?_
      refine V_get (pc := 17) h 28 1 (.int (S 28 1)) fl_X0_97_X7 oC_28 rfl rfl dX0_leastPut_17 ?_
      refine V_callVI (pc := 20) (dy := 3) (q := (RX6, TX6, 5)) h [.int v1, .int v2, .int (S 28 1)] [] 33 mv_X0_100 oC_33 rfl dX0_leastPut_20 rfl rfl (Nat.le_of_ble_eq_true rfl) (Nat.le_trans (by decide) hD) (c_State_hasEnough 33 v1 v2 (S 28 1) S) (fun z9 hz9 => c_State_hasEnough_ct h.gg (Nat.le_refl 3) isSt_33 v1 v2 (S 28 1) S z9 hz9) (fun x2 S1 => ?_)
      refine V_if_eq (pc := 23) h 28 dX0_leastPut_23 (by decide) ?_ ?_
      · refine V_iincB (pc := 28) h 2 (1 : Int32) (fun x3 => [(2, .int x3), (0, .ref (a 130)), (1, .int v1)]) dX0_leastPut_28 rfl (by decide) (by decide) (fun _ => rfl) (fun x3 => ?_)
        refine V_goto (pc := 31) h 2 dX0_leastPut_31 (by decide) ?_
        exact V_ls [1, 2, 0] rfl (ih v1 x3 S1)
      · refine V_iload_n (pc := 26) h 2 dX0_leastPut_26 rfl rfl ?_
        exact V_iret (pc := 27) h hr hlk dX0_leastPut_27
def c_Best_leastPut (v1 : Int32) (S : St) : Option (Int32 × St) := (c_Best_leastPut_h2 FU v1 (0 : Int32) S)
set_option maxHeartbeats 4000000 in
set_option maxRecDepth 100000 in
theorem c_Best_leastPut_ok {d : Nat} (h : Cx p s m c cX0_leastPut 3 RX0 s0 args0 D ca a A) (hr : meth.sig.returnType = some .int) (hlk : meth.locks = false) (hD : 4 ≤ d) (v1 : Int32) (S : St) : VV p l e (rmd d) s m args below meth c D ca tpC a A 3 (QmI D ca tpC a A below args s) S [(0, .ref (a 130)), (1, .int v1)] 0 [] (c_Best_leastPut v1 S) := by
  unfold c_Best_leastPut
  refine V_iconst (pc := 0) (v := 0) h dX0_leastPut_0 (by decide) ?_
  refine V_istore_n (pc := 1) h [(2, .int (0 : Int32)), (0, .ref (a 130)), (1, .int v1)] dX0_leastPut_1 rfl (by decide) rfl ?_
  exact V_ls [1, 2, 0] rfl (c_Best_leastPut_h2_ok h hr hlk hD FU v1 (0 : Int32) S)
theorem c_Best_leastPut_ct {d : Nat} (g : GG s0 args0 D ca a A) (hD : 4 ≤ d) (v1 : Int32) (S : St) (z : Int32 × St) (hz : c_Best_leastPut v1 S = some z) : CtI l yX0_leastPut cX0_leastPut 3 .int d s0 D ca tpC a A [.ref (a 130), .int v1] S z := CtI_mk g (by decide +kernel) (Nat.le_of_ble_eq_true rfl) hz (fun p e s m args below meth c h hr hlk => c_Best_leastPut_ok h hr hlk hD v1 S)
def c_Best_consider_b32 (v1 : Int32) (v2 : Int32) (S : St) : Option St := (bnd (up2 S 130 5 v1) (fun S1 => (bnd (up2 S1 130 4 v2) (fun S2 => (some S2)))))
set_option maxHeartbeats 4000000 in
set_option maxRecDepth 100000 in
theorem c_Best_consider_b32_ok {d : Nat} (h : Cx p s m c cX0_consider 3 RX0 s0 args0 D ca a A) (hr : meth.sig.returnType = none) (hlk : meth.locks = false) (hD : 1 ≤ d) (v1 : Int32) (v2 : Int32) (S : St) : VV p l e (rmd d) s m args below meth c D ca tpC a A 3 (QmV D ca tpC a A below args s) S [(0, .ref (a 130)), (1, .int v1), (2, .int v2)] 32 [] (c_Best_consider_b32 v1 v2 S) := by
  unfold c_Best_consider_b32
  refine V_aload_n (pc := 32) h 0 dX0_consider_32 rfl rfl ?_
  refine V_iload_n (pc := 33) h 1 dX0_consider_33 rfl rfl ?_
  refine V_put (pc := 34) h 130 5 v1 fp_X0_46_X0 oC_130 rfl rfl rfl rfl dX0_consider_34 (fun S1 => ?_)
  refine V_aload_n (pc := 37) h 0 dX0_consider_37 rfl rfl ?_
  refine V_iload_n (pc := 38) h 2 dX0_consider_38 rfl rfl ?_
  refine V_put (pc := 39) h 130 4 v2 fp_X0_23_X0 oC_130 rfl rfl rfl rfl dX0_consider_39 (fun S2 => ?_)
  exact V_vret (pc := 42) h hr hlk dX0_consider_42
def c_Best_consider (v1 : Int32) (v2 : Int32) (S : St) : Option St := (if (S 130 4) = (-1 : Int32) then (c_Best_consider_b32 v1 v2 S) else (if (S 130 5) < v1 then (c_Best_consider_b32 v1 v2 S) else (if v1 = (S 130 5) then (if (S 130 4) ≤ v2 then (some S) else (c_Best_consider_b32 v1 v2 S)) else (some S))))
set_option maxHeartbeats 4000000 in
set_option maxRecDepth 100000 in
theorem c_Best_consider_ok {d : Nat} (h : Cx p s m c cX0_consider 3 RX0 s0 args0 D ca a A) (hr : meth.sig.returnType = none) (hlk : meth.locks = false) (hD : 1 ≤ d) (v1 : Int32) (v2 : Int32) (S : St) : VV p l e (rmd d) s m args below meth c D ca tpC a A 3 (QmV D ca tpC a A below args s) S [(0, .ref (a 130)), (1, .int v1), (2, .int v2)] 0 [] (c_Best_consider v1 v2 S) := by
  unfold c_Best_consider
  refine V_aload_n (pc := 0) h 0 dX0_consider_0 rfl rfl ?_
  refine V_get (pc := 1) h 130 4 (.int (S 130 4)) fl_X0_23_X0 oC_130 rfl rfl dX0_consider_1 ?_
  refine V_iconst (pc := 4) (v := -1) h dX0_consider_4 (by decide) ?_
  refine V_icmp_eq (pc := 5) h 32 dX0_consider_5 (by decide) ?_ ?_
  · exact V_ls [0, 1, 2] rfl (c_Best_consider_b32_ok h hr hlk hD v1 v2 S)
  · refine V_iload_n (pc := 8) h 1 dX0_consider_8 rfl rfl ?_
    refine V_aload_n (pc := 9) h 0 dX0_consider_9 rfl rfl ?_
    refine V_get (pc := 10) h 130 5 (.int (S 130 5)) fl_X0_46_X0 oC_130 rfl rfl dX0_consider_10 ?_
    refine V_icmp_gt (pc := 13) h 32 dX0_consider_13 (by decide) ?_ ?_
    · exact V_ls [0, 1, 2] rfl (c_Best_consider_b32_ok h hr hlk hD v1 v2 S)
    · refine V_iload_n (pc := 16) h 1 dX0_consider_16 rfl rfl ?_
      refine V_aload_n (pc := 17) h 0 dX0_consider_17 rfl rfl ?_
      refine V_get (pc := 18) h 130 5 (.int (S 130 5)) fl_X0_46_X0 oC_130 rfl rfl dX0_consider_18 ?_
      refine V_icmp_ne (pc := 21) h 42 dX0_consider_21 (by decide) ?_ ?_
      · exact V_vret (pc := 42) h hr hlk dX0_consider_42
      · refine V_iload_n (pc := 24) h 2 dX0_consider_24 rfl rfl ?_
        refine V_aload_n (pc := 25) h 0 dX0_consider_25 rfl rfl ?_
        refine V_get (pc := 26) h 130 4 (.int (S 130 4)) fl_X0_23_X0 oC_130 rfl rfl dX0_consider_26 ?_
        refine V_icmp_ge (pc := 29) h 42 dX0_consider_29 (by decide) ?_ ?_
        · exact V_vret (pc := 42) h hr hlk dX0_consider_42
        · exact V_ls [0, 1, 2] rfl (c_Best_consider_b32_ok h hr hlk hD v1 v2 S)
theorem c_Best_consider_ct {d : Nat} (g : GG s0 args0 D ca a A) (hD : 1 ≤ d) (v1 : Int32) (v2 : Int32) (S : St) (z : St) (hz : c_Best_consider v1 v2 S = some z) : CtV l yX0_consider cX0_consider 3 d s0 D ca tpC a A [.ref (a 130), .int v1, .int v2] S z := CtV_mk g (by decide +kernel) (Nat.le_of_ble_eq_true rfl) hz (fun p e s m args below meth c h hr hlk => c_Best_consider_ok h hr hlk hD v1 v2 S)
def c_Noon_breaksLaw (v1 : Int32) (v2 : Int32) (S : St) : Option (Int32 × St) := (if (S 28 2) = (1 : Int32) then (if ((v1 >>> (v2 &&& 31)) &&& (1 : Int32)) = (1 : Int32) then (nzM (1 : Int32) (some ((1 : Int32), S))) else (nzM (0 : Int32) (some ((0 : Int32), S)))) else (nzM (0 : Int32) (some ((0 : Int32), S))))
set_option maxHeartbeats 4000000 in
set_option maxRecDepth 100000 in
theorem c_Noon_breaksLaw_ok {d : Nat} (h : Cx p s m c cX3_breaksLaw 3 RX3 s0 args0 D ca a A) (hr : meth.sig.returnType = some .boolean) (hlk : meth.locks = false) (hD : 1 ≤ d) (v1 : Int32) (v2 : Int32) (S : St) : VV p l e (rmd d) s m args below meth c D ca tpC a A 3 (QmI D ca tpC a A below args s) S [(0, .ref (a 111)), (1, .int v1), (2, .int v2)] 0 [] (c_Noon_breaksLaw v1 v2 S) := by
  unfold c_Noon_breaksLaw
  refine V_aload_n (pc := 0) h 0 dX3_breaksLaw_0 rfl rfl ?_
  refine V_get (pc := 1) h 111 0 (.ref (a 28)) fl_X3_29_X3 oC_111 rfl rfl dX3_breaksLaw_1 ?_
  refine V_get (pc := 4) h 28 2 (.int (S 28 2)) fl_X3_108_X7 oC_28 rfl rfl dX3_breaksLaw_4 ?_
  refine V_iconst (pc := 7) (v := 1) h dX3_breaksLaw_7 (by decide) ?_
  refine V_icmp_ne (pc := 8) h 24 dX3_breaksLaw_8 (by decide) ?_ ?_
  · refine V_iconst (pc := 24) (v := 0) h dX3_breaksLaw_24 (by decide) ?_
    exact V_zret (pc := 25) h hr hlk dX3_breaksLaw_25
  · refine V_iload_n (pc := 11) h 1 dX3_breaksLaw_11 rfl rfl ?_
    refine V_iload_n (pc := 12) h 2 dX3_breaksLaw_12 rfl rfl ?_
    refine V_ishr (pc := 13) h dX3_breaksLaw_13 ?_
    refine V_iconst (pc := 14) (v := 1) h dX3_breaksLaw_14 (by decide) ?_
    refine V_iand (pc := 15) h dX3_breaksLaw_15 ?_
    refine V_iconst (pc := 16) (v := 1) h dX3_breaksLaw_16 (by decide) ?_
    refine V_icmp_ne (pc := 17) h 24 dX3_breaksLaw_17 (by decide) ?_ ?_
    · refine V_iconst (pc := 24) (v := 0) h dX3_breaksLaw_24 (by decide) ?_
      exact V_zret (pc := 25) h hr hlk dX3_breaksLaw_25
    · refine V_iconst (pc := 20) (v := 1) h dX3_breaksLaw_20 (by decide) ?_
      refine V_goto (pc := 21) h 25 dX3_breaksLaw_21 (by decide) ?_
      exact V_zret (pc := 25) h hr hlk dX3_breaksLaw_25
theorem c_Noon_breaksLaw_ct {d : Nat} (g : GG s0 args0 D ca a A) (hD : 1 ≤ d) (v1 : Int32) (v2 : Int32) (S : St) (z : Int32 × St) (hz : c_Noon_breaksLaw v1 v2 S = some z) : CtI l yX3_breaksLaw cX3_breaksLaw 3 .boolean d s0 D ca tpC a A [.ref (a 111), .int v1, .int v2] S z := CtI_mk g (by decide +kernel) (Nat.le_of_ble_eq_true rfl) hz (fun p e s m args below meth c h hr hlk => c_Noon_breaksLaw_ok h hr hlk hD v1 v2 S)
def c_Noon_pour (v1 : Int32) (v2 : Int32) (v3 : Int32) (S : St) : Option St := (if v1 < 0 then (some S) else (if (6 : Int32) ≤ v1 then (some S) else (if v2 < 0 then (some S) else (if (6 : Int32) ≤ v2 then (some S) else (ckM (v1 + (1 : Int32)) 7 (ckM v2 6 (bnd ((S (114 + (v1 + (1 : Int32)).toNatClampNeg) v2.toNatClampNeg) + v3) (fun x4 => (ckM v2 6 (bnd (up2 S (114 + (v1 + (1 : Int32)).toNatClampNeg) v2.toNatClampNeg x4) (fun S5 => (some S5))))))))))))
set_option maxHeartbeats 4000000 in
set_option maxRecDepth 100000 in
theorem c_Noon_pour_ok {d : Nat} (h : Cx p s m c cX3_pour 4 RX3 s0 args0 D ca a A) (hr : meth.sig.returnType = none) (hlk : meth.locks = false) (hD : 1 ≤ d) (v1 : Int32) (v2 : Int32) (v3 : Int32) (S : St) : VV p l e (rmd d) s m args below meth c D ca tpC a A 4 (QmV D ca tpC a A below args s) S [(0, .ref (a 111)), (1, .int v1), (2, .int v2), (3, .int v3)] 0 [] (c_Noon_pour v1 v2 v3 S) := by
  unfold c_Noon_pour
  refine V_iload_n (pc := 0) h 1 dX3_pour_0 rfl rfl ?_
  refine V_if_lt (pc := 1) h 34 dX3_pour_1 (by decide) ?_ ?_
  · exact V_vret (pc := 34) h hr hlk dX3_pour_34
  · refine V_iload_n (pc := 4) h 1 dX3_pour_4 rfl rfl ?_
    refine V_bipush (pc := 5) (v := 6) h dX3_pour_5 (by decide) ?_
    refine V_icmp_ge (pc := 7) h 34 dX3_pour_7 (by decide) ?_ ?_
    · exact V_vret (pc := 34) h hr hlk dX3_pour_34
    · refine V_iload_n (pc := 10) h 2 dX3_pour_10 rfl rfl ?_
      refine V_if_lt (pc := 11) h 34 dX3_pour_11 (by decide) ?_ ?_
      · exact V_vret (pc := 34) h hr hlk dX3_pour_34
      · refine V_iload_n (pc := 14) h 2 dX3_pour_14 rfl rfl ?_
        refine V_bipush (pc := 15) (v := 6) h dX3_pour_15 (by decide) ?_
        refine V_icmp_ge (pc := 17) h 34 dX3_pour_17 (by decide) ?_ ?_
        · exact V_vret (pc := 34) h hr hlk dX3_pour_34
        · refine V_aload_n (pc := 20) h 0 dX3_pour_20 rfl rfl ?_
          refine V_get (pc := 21) h 111 1 (.ref (a 112)) fl_X3_11_X3 oC_111 rfl rfl dX3_pour_21 ?_
          refine V_iload_n (pc := 24) h 1 dX3_pour_24 rfl rfl ?_
          refine V_iconst (pc := 25) (v := 1) h dX3_pour_25 (by decide) ?_
          refine V_iadd (pc := 26) h dX3_pour_26 ?_
          refine V_aald0 (pc := 27) h 112 oC_112 (by decide) dX3_pour_27 (fun h1 h2 => ?_)
          refine V_iload_n (pc := 28) h 2 dX3_pour_28 rfl rfl ?_
          refine V_dup2_11 (pc := 29) h dX3_pour_29 rfl rfl ?_
          refine V_iald (pc := 30) h (114 + (v1 + (1 : Int32)).toNatClampNeg) (rC_112 _ h2) dX3_pour_30 ?_
          refine V_iload_n (pc := 31) h 3 dX3_pour_31 rfl rfl ?_
          refine V_iadd (pc := 32) h dX3_pour_32 ?_
          refine V_top (fun x4 => ?_)
          refine V_iast (pc := 33) h (114 + (v1 + (1 : Int32)).toNatClampNeg) (rC_112 _ h2) dX3_pour_33 (fun S5 => ?_)
          exact V_vret (pc := 34) h hr hlk dX3_pour_34
theorem c_Noon_pour_ct {d : Nat} (g : GG s0 args0 D ca a A) (hD : 1 ≤ d) (v1 : Int32) (v2 : Int32) (v3 : Int32) (S : St) (z : St) (hz : c_Noon_pour v1 v2 v3 S = some z) : CtV l yX3_pour cX3_pour 4 d s0 D ca tpC a A [.ref (a 111), .int v1, .int v2, .int v3] S z := CtV_mk g (by decide +kernel) (Nat.le_of_ble_eq_true rfl) hz (fun p e s m args below meth c h hr hlk => c_Noon_pour_ok h hr hlk hD v1 v2 v3 S)
def c_Best_tryPuts_b210 (rec : Int32 → Int32 → Int32 → Int32 → St → Option St) (L111 : Int32 → Int32 → Int32 → Int32 → Int32 → Int32 → Int32 → St → Option St) (v1 : Int32) (v3 : Int32) (v4 : Int32) (v5 : Int32) (v6 : Int32) (v7 : Int32) (v8 : Int32) (S : St) : Option St := (bnd (v8 + (1 : Int32)) (fun x1 => (L111 v1 v3 v4 v5 v6 v7 x1 S)))
set_option maxHeartbeats 4000000 in
set_option maxRecDepth 100000 in
theorem c_Best_tryPuts_b210_ok {d : Nat} (h : Cx p s m c cX0_tryPuts 9 RX0 s0 args0 D ca a A) (hr : meth.sig.returnType = none) (hlk : meth.locks = false) (hD : 5 ≤ d) {dr : Nat} (rec : Int32 → Int32 → Int32 → Int32 → St → Option St) (hrec : (∀ (v1 v2 v3 v4 : Int32) (S : St) (z : St), rec v1 v2 v3 v4 S = some z → CtV l yX0_tryPuts cX0_tryPuts 9 dr s0 D ca tpC a A [.ref (a 130), .int v1, .int v2, .int v3, .int v4] S z)) (hdr : dr + 1 ≤ d) (L111 : Int32 → Int32 → Int32 → Int32 → Int32 → Int32 → Int32 → St → Option St) (hL111 : ∀ (v1 : Int32) (v3 : Int32) (v4 : Int32) (v5 : Int32) (v6 : Int32) (v7 : Int32) (v8 : Int32) (S : St), VV p l e (rmd d) s m args below meth c D ca tpC a A 9 (QmV D ca tpC a A below args s) S [(0, .ref (a 130)), (1, .int v1), (3, .int v3), (4, .int v4), (5, .int v5), (6, .int v6), (7, .int v7), (8, .int v8)] 111 [] (L111 v1 v3 v4 v5 v6 v7 v8 S)) (v1 : Int32) (v3 : Int32) (v4 : Int32) (v5 : Int32) (v6 : Int32) (v7 : Int32) (v8 : Int32) (S : St) : VV p l e (rmd d) s m args below meth c D ca tpC a A 9 (QmV D ca tpC a A below args s) S [(0, .ref (a 130)), (1, .int v1), (3, .int v3), (4, .int v4), (5, .int v5), (6, .int v6), (7, .int v7), (8, .int v8)] 210 [] (c_Best_tryPuts_b210 rec L111 v1 v3 v4 v5 v6 v7 v8 S) := by
  unfold c_Best_tryPuts_b210
  refine V_iincB (pc := 210) h 7 (1 : Int32) (fun x1 => [(8, .int x1), (0, .ref (a 130)), (1, .int v1), (3, .int v3), (4, .int v4), (5, .int v5), (6, .int v6), (7, .int v7)]) dX0_tryPuts_210 rfl (by decide) (by decide) (fun _ => rfl) (fun x1 => ?_)
  refine V_goto (pc := 213) h 111 dX0_tryPuts_213 (by decide) ?_
  exact V_ls [1, 2, 3, 4, 5, 6, 7, 0] rfl (hL111 v1 v3 v4 v5 v6 v7 x1 S)
def c_Best_tryPuts_h111 (rec : Int32 → Int32 → Int32 → Int32 → St → Option St) : Nat → Int32 → Int32 → Int32 → Int32 → Int32 → Int32 → Int32 → St → Option St
  | 0, _, _, _, _, _, _, _, _ => none
  | n + 1, v1, v3, v4, v5, v6, v7, v8, S => (if (5 : Int32) ≤ v8 then (some S) else (bI (c_State_hasEnough 33 v5 v8 (S 28 1) S) (fun x2 S1 => (if x2 = 0 then (c_Best_tryPuts_b210 rec (c_Best_tryPuts_h111 rec n) v1 v3 v4 v5 v6 v7 v8 S1) else (bI (c_Noon_breaksLaw v4 v8 S1) (fun x4 S3 => (if x4 = 0 then (bV (c_Noon_pour v1 v8 (S3 28 1) S3) (fun S5 => (bV (rec (v1 + (1 : Int32)) v6 (v3 + (v7 * v8)) (v4 ||| ((1 : Int32) <<< (v8 &&& 31))) S5) (fun S6 => (bV (c_Noon_pour v1 v8 (-(S6 28 1)) S6) (fun S7 => (c_Best_tryPuts_b210 rec (c_Best_tryPuts_h111 rec n) v1 v3 v4 v5 v6 v7 v8 S7))))))) else (c_Best_tryPuts_b210 rec (c_Best_tryPuts_h111 rec n) v1 v3 v4 v5 v6 v7 v8 S3))))))))
set_option maxHeartbeats 4000000 in
set_option maxRecDepth 100000 in
theorem c_Best_tryPuts_h111_ok {d : Nat} (h : Cx p s m c cX0_tryPuts 9 RX0 s0 args0 D ca a A) (hr : meth.sig.returnType = none) (hlk : meth.locks = false) (hD : 5 ≤ d) {dr : Nat} (rec : Int32 → Int32 → Int32 → Int32 → St → Option St) (hrec : (∀ (v1 v2 v3 v4 : Int32) (S : St) (z : St), rec v1 v2 v3 v4 S = some z → CtV l yX0_tryPuts cX0_tryPuts 9 dr s0 D ca tpC a A [.ref (a 130), .int v1, .int v2, .int v3, .int v4] S z)) (hdr : dr + 1 ≤ d) : ∀ (n : Nat) (v1 : Int32) (v3 : Int32) (v4 : Int32) (v5 : Int32) (v6 : Int32) (v7 : Int32) (v8 : Int32) (S : St), VV p l e (rmd d) s m args below meth c D ca tpC a A 9 (QmV D ca tpC a A below args s) S [(0, .ref (a 130)), (1, .int v1), (3, .int v3), (4, .int v4), (5, .int v5), (6, .int v6), (7, .int v7), (8, .int v8)] 111 [] (c_Best_tryPuts_h111 rec n v1 v3 v4 v5 v6 v7 v8 S) := by
  intro n
  induction n with
  | zero => intro v1 v3 v4 v5 v6 v7 v8 S; exact V_none
  | succ n ih =>
    intro v1 v3 v4 v5 v6 v7 v8 S
    unfold c_Best_tryPuts_h111
    refine V_iload (pc := 111) h 7 dX0_tryPuts_111 rfl ?_
    refine V_iconst (pc := 113) (v := 5) h dX0_tryPuts_113 (by decide) ?_
    refine V_icmp_ge (pc := 114) h 216 dX0_tryPuts_114 (by decide) ?_ ?_
    · exact V_vret (pc := 216) h hr hlk dX0_tryPuts_216
    · refine V_aload_n (pc := 117) h 0 dX0_tryPuts_117 rfl rfl ?_
      refine V_get (pc := 118) h 130 1 (.ref (a 33)) fl_X0_15_X0 oC_130 rfl rfl dX0_tryPuts_118 ?_
      refine V_iload (pc := 121) h 4 dX0_tryPuts_121 rfl ?_
      refine V_iload (pc := 123) h 7 dX0_tryPuts_123 rfl ?_
      refine V_aload_n (pc := 125) h 0 dX0_tryPuts_125 rfl rfl ?_
      refine V_get (pc := 126) h 130 0 (.ref (a 28)) fl_X0_9_X0 oC_130 rfl rfl dX0_tryPuts_126 ?_
      refine V_get (pc := 129) h 28 1 (.int (S 28 1)) fl_X0_97_X7 oC_28 rfl rfl dX0_tryPuts_129 ?_
      refine V_callVI (pc := 132) (dy := 3) (q := (RX6, TX6, 5)) h [.int v5, .int v8, .int (S 28 1)] [] 33 mv_X0_100 oC_33 rfl dX0_tryPuts_132 rfl rfl (Nat.le_of_ble_eq_true rfl) (Nat.le_trans (by decide) hD) (c_State_hasEnough 33 v5 v8 (S 28 1) S) (fun z9 hz9 => c_State_hasEnough_ct h.gg (Nat.le_refl 3) isSt_33 v5 v8 (S 28 1) S z9 hz9) (fun x2 S1 => ?_)
      refine V_if_eq (pc := 135) h 210 dX0_tryPuts_135 (by decide) ?_ ?_
      · exact V_ls [0, 1, 2, 3, 4, 5, 6, 7] rfl (c_Best_tryPuts_b210_ok h hr hlk hD rec hrec hdr (c_Best_tryPuts_h111 rec n) ih v1 v3 v4 v5 v6 v7 v8 S1)
      · refine V_aload_n (pc := 138) h 0 dX0_tryPuts_138 rfl rfl ?_
        refine V_get (pc := 139) h 130 2 (.ref (a 111)) fl_X0_19_X0 oC_130 rfl rfl dX0_tryPuts_139 ?_
        refine V_iload (pc := 142) h 3 dX0_tryPuts_142 rfl ?_
        refine V_iload (pc := 144) h 7 dX0_tryPuts_144 rfl ?_
        refine V_callVI (pc := 146) (dy := 1) (q := (RX3, TX3, 13)) h [.int v4, .int v8] [] 111 mv_X0_104 oC_111 rfl dX0_tryPuts_146 rfl rfl (Nat.le_of_ble_eq_true rfl) (Nat.le_trans (by decide) hD) (c_Noon_breaksLaw v4 v8 S1) (fun z9 hz9 => c_Noon_breaksLaw_ct h.gg (Nat.le_refl 1) v4 v8 S1 z9 hz9) (fun x4 S3 => ?_)
        refine V_if_ne (pc := 149) h 210 dX0_tryPuts_149 (by decide) ?_ ?_
        · exact V_ls [0, 1, 2, 3, 4, 5, 6, 7] rfl (c_Best_tryPuts_b210_ok h hr hlk hD rec hrec hdr (c_Best_tryPuts_h111 rec n) ih v1 v3 v4 v5 v6 v7 v8 S3)
        · refine V_aload_n (pc := 152) h 0 dX0_tryPuts_152 rfl rfl ?_
          refine V_get (pc := 153) h 130 2 (.ref (a 111)) fl_X0_19_X0 oC_130 rfl rfl dX0_tryPuts_153 ?_
          refine V_iload_n (pc := 156) h 1 dX0_tryPuts_156 rfl rfl ?_
          refine V_iload (pc := 157) h 7 dX0_tryPuts_157 rfl ?_
          refine V_aload_n (pc := 159) h 0 dX0_tryPuts_159 rfl rfl ?_
          refine V_get (pc := 160) h 130 0 (.ref (a 28)) fl_X0_9_X0 oC_130 rfl rfl dX0_tryPuts_160 ?_
          refine V_get (pc := 163) h 28 1 (.int (S3 28 1)) fl_X0_97_X7 oC_28 rfl rfl dX0_tryPuts_163 ?_
          refine V_callVV (pc := 166) (dy := 1) (q := (RX3, TX3, 13)) h [.int v1, .int v8, .int (S3 28 1)] [] 111 mv_X0_108 oC_111 rfl dX0_tryPuts_166 rfl rfl (Nat.le_of_ble_eq_true rfl) (Nat.le_trans (by decide) hD) (c_Noon_pour v1 v8 (S3 28 1) S3) (fun z9 hz9 => c_Noon_pour_ct h.gg (Nat.le_refl 1) v1 v8 (S3 28 1) S3 z9 hz9) (fun S5 => ?_)
          refine V_aload_n (pc := 169) h 0 dX0_tryPuts_169 rfl rfl ?_
          refine V_iload_n (pc := 170) h 1 dX0_tryPuts_170 rfl rfl ?_
          refine V_iconst (pc := 171) (v := 1) h dX0_tryPuts_171 (by decide) ?_
          refine V_iadd (pc := 172) h dX0_tryPuts_172 ?_
          refine V_iload (pc := 173) h 5 dX0_tryPuts_173 rfl ?_
          refine V_iload_n (pc := 175) h 2 dX0_tryPuts_175 rfl rfl ?_
          refine V_iload (pc := 176) h 6 dX0_tryPuts_176 rfl ?_
          refine V_iload (pc := 178) h 7 dX0_tryPuts_178 rfl ?_
          refine V_imul (pc := 180) h dX0_tryPuts_180 ?_
          refine V_iadd (pc := 181) h dX0_tryPuts_181 ?_
          refine V_iload (pc := 182) h 3 dX0_tryPuts_182 rfl ?_
          refine V_iconst (pc := 184) (v := 1) h dX0_tryPuts_184 (by decide) ?_
          refine V_iload (pc := 185) h 7 dX0_tryPuts_185 rfl ?_
          refine V_ishl (pc := 187) h dX0_tryPuts_187 ?_
          refine V_ior (pc := 188) h dX0_tryPuts_188 ?_
          refine V_callVV (pc := 189) (dy := dr) (q := (RX0, TX0, 6)) h [.int (v1 + (1 : Int32)), .int v6, .int (v3 + (v7 * v8)), .int (v4 ||| ((1 : Int32) <<< (v8 &&& 31)))] [] 130 mv_X0_35 oC_130 rfl dX0_tryPuts_189 rfl rfl (Nat.le_of_ble_eq_true rfl) hdr (rec (v1 + (1 : Int32)) v6 (v3 + (v7 * v8)) (v4 ||| ((1 : Int32) <<< (v8 &&& 31))) S5) (fun z9 hz9 => hrec (v1 + (1 : Int32)) v6 (v3 + (v7 * v8)) (v4 ||| ((1 : Int32) <<< (v8 &&& 31))) S5 z9 hz9) (fun S6 => ?_)
          refine V_aload_n (pc := 192) h 0 dX0_tryPuts_192 rfl rfl ?_
          refine V_get (pc := 193) h 130 2 (.ref (a 111)) fl_X0_19_X0 oC_130 rfl rfl dX0_tryPuts_193 ?_
          refine V_iload_n (pc := 196) h 1 dX0_tryPuts_196 rfl rfl ?_
          refine V_iload (pc := 197) h 7 dX0_tryPuts_197 rfl ?_
          refine V_aload_n (pc := 199) h 0 dX0_tryPuts_199 rfl rfl ?_
          refine V_get (pc := 200) h 130 0 (.ref (a 28)) fl_X0_9_X0 oC_130 rfl rfl dX0_tryPuts_200 ?_
          refine V_get (pc := 203) h 28 1 (.int (S6 28 1)) fl_X0_97_X7 oC_28 rfl rfl dX0_tryPuts_203 ?_
          refine V_ineg (pc := 206) h dX0_tryPuts_206 ?_
          refine V_callVV (pc := 207) (dy := 1) (q := (RX3, TX3, 13)) h [.int v1, .int v8, .int (-(S6 28 1))] [] 111 mv_X0_108 oC_111 rfl dX0_tryPuts_207 rfl rfl (Nat.le_of_ble_eq_true rfl) (Nat.le_trans (by decide) hD) (c_Noon_pour v1 v8 (-(S6 28 1)) S6) (fun z9 hz9 => c_Noon_pour_ct h.gg (Nat.le_refl 1) v1 v8 (-(S6 28 1)) S6 z9 hz9) (fun S7 => ?_)
          exact V_ls [0, 1, 2, 3, 4, 5, 6, 7] rfl (c_Best_tryPuts_b210_ok h hr hlk hD rec hrec hdr (c_Best_tryPuts_h111 rec n) ih v1 v3 v4 v5 v6 v7 v8 S7)
def c_Best_tryPuts (rec : Int32 → Int32 → Int32 → Int32 → St → Option St) (v1 : Int32) (v2 : Int32) (v3 : Int32) (v4 : Int32) (S : St) : Option St := (if v1 < 0 then (some S) else (if v1 < (S 28 0) then (ckM v1 6 (bnd (S 36 v1.toNatClampNeg) (fun x1 => (bV (c_Noon_serve v1 x1 S) (fun S2 => (bI (c_Noon_mealOf x1 S2) (fun x4 S3 => (bI (c_Best_withMeal v2 x4 S3) (fun x6 S5 => (bI (c_Best_unitOf x1 S5) (fun x8 S7 => (bI (c_Noon_isLast v1 S7) (fun x10 S9 => (if x10 = 0 then (bV (rec (v1 + (1 : Int32)) x6 (v3 + (x8 * (9 : Int32))) v4 S9) (fun S11 => (c_Best_tryPuts_h111 rec FU v1 v3 v4 x1 x6 x8 (0 : Int32) S11))) else (bI (c_Best_leastPut x1 S9) (fun x13 S12 => (bV (c_Best_consider x6 (v3 + (x8 * x13)) S12) (fun S14 => (some S14))))))))))))))))))) else (some S)))
set_option maxHeartbeats 4000000 in
set_option maxRecDepth 100000 in
theorem c_Best_tryPuts_ok {d : Nat} (h : Cx p s m c cX0_tryPuts 9 RX0 s0 args0 D ca a A) (hr : meth.sig.returnType = none) (hlk : meth.locks = false) (hD : 5 ≤ d) {dr : Nat} (rec : Int32 → Int32 → Int32 → Int32 → St → Option St) (hrec : (∀ (v1 v2 v3 v4 : Int32) (S : St) (z : St), rec v1 v2 v3 v4 S = some z → CtV l yX0_tryPuts cX0_tryPuts 9 dr s0 D ca tpC a A [.ref (a 130), .int v1, .int v2, .int v3, .int v4] S z)) (hdr : dr + 1 ≤ d) (v1 : Int32) (v2 : Int32) (v3 : Int32) (v4 : Int32) (S : St) : VV p l e (rmd d) s m args below meth c D ca tpC a A 9 (QmV D ca tpC a A below args s) S [(0, .ref (a 130)), (1, .int v1), (2, .int v2), (3, .int v3), (4, .int v4)] 0 [] (c_Best_tryPuts rec v1 v2 v3 v4 S) := by
  unfold c_Best_tryPuts
  refine V_iload_n (pc := 0) h 1 dX0_tryPuts_0 rfl rfl ?_
  refine V_if_lt (pc := 1) h 15 dX0_tryPuts_1 (by decide) ?_ ?_
  · exact V_vret (pc := 15) h hr hlk dX0_tryPuts_15
  · refine V_iload_n (pc := 4) h 1 dX0_tryPuts_4 rfl rfl ?_
    refine V_aload_n (pc := 5) h 0 dX0_tryPuts_5 rfl rfl ?_
    refine V_get (pc := 6) h 130 0 (.ref (a 28)) fl_X0_9_X0 oC_130 rfl rfl dX0_tryPuts_6 ?_
    refine V_get (pc := 9) h 28 0 (.int (S 28 0)) fl_X0_64_X7 oC_28 rfl rfl dX0_tryPuts_9 ?_
    refine V_icmp_lt (pc := 12) h 16 dX0_tryPuts_12 (by decide) ?_ ?_
    · refine V_aload_n (pc := 16) h 0 dX0_tryPuts_16 rfl rfl ?_
      refine V_get (pc := 17) h 130 1 (.ref (a 33)) fl_X0_15_X0 oC_130 rfl rfl dX0_tryPuts_17 ?_
      refine V_get (pc := 20) h 33 3 (.ref (a 36)) fl_X0_69_X6 oC_33 rfl rfl dX0_tryPuts_20 ?_
      refine V_iload_n (pc := 23) h 1 dX0_tryPuts_23 rfl rfl ?_
      refine V_iald (pc := 24) h 36 oC_36 dX0_tryPuts_24 ?_
      refine V_top (fun x1 => ?_)
      refine V_istore (pc := 25) h [(5, .int x1), (0, .ref (a 130)), (1, .int v1), (2, .int v2), (3, .int v3), (4, .int v4)] dX0_tryPuts_25 (by decide) rfl ?_
      refine V_aload_n (pc := 27) h 1 dX0_tryPuts_27 rfl rfl ?_
      refine V_get (pc := 28) h 130 2 (.ref (a 111)) fl_X0_19_X0 oC_130 rfl rfl dX0_tryPuts_28 ?_
      refine V_iload_n (pc := 31) h 2 dX0_tryPuts_31 rfl rfl ?_
      refine V_iload (pc := 32) h 0 dX0_tryPuts_32 rfl ?_
      refine V_callVV (pc := 34) (dy := 2) (q := (RX3, TX3, 13)) h [.int v1, .int x1] [] 111 mv_X0_73 oC_111 rfl dX0_tryPuts_34 rfl rfl (Nat.le_of_ble_eq_true rfl) (Nat.le_trans (by decide) hD) (c_Noon_serve v1 x1 S) (fun z9 hz9 => c_Noon_serve_ct h.gg (Nat.le_refl 2) v1 x1 S z9 hz9) (fun S2 => ?_)
      refine V_aload_n (pc := 37) h 1 dX0_tryPuts_37 rfl rfl ?_
      refine V_iload_n (pc := 38) h 3 dX0_tryPuts_38 rfl rfl ?_
      refine V_aload_n (pc := 39) h 1 dX0_tryPuts_39 rfl rfl ?_
      refine V_get (pc := 40) h 130 2 (.ref (a 111)) fl_X0_19_X0 oC_130 rfl rfl dX0_tryPuts_40 ?_
      refine V_iload (pc := 43) h 0 dX0_tryPuts_43 rfl ?_
      refine V_callVI (pc := 45) (dy := 4) (q := (RX3, TX3, 13)) h [.int x1] [.int v2, .ref (a 130)] 111 mv_X0_77 oC_111 rfl dX0_tryPuts_45 rfl rfl (Nat.le_of_ble_eq_true rfl) (Nat.le_trans (by decide) hD) (c_Noon_mealOf x1 S2) (fun z9 hz9 => c_Noon_mealOf_ct h.gg (Nat.le_refl 4) x1 S2 z9 hz9) (fun x4 S3 => ?_)
      refine V_callVI (pc := 48) (dy := 1) (q := (RX0, TX0, 6)) h [.int v2, .int x4] [] 130 mv_X0_81 oC_130 rfl dX0_tryPuts_48 rfl rfl (Nat.le_of_ble_eq_true rfl) (Nat.le_trans (by decide) hD) (c_Best_withMeal v2 x4 S3) (fun z9 hz9 => c_Best_withMeal_ct h.gg (Nat.le_refl 1) v2 x4 S3 z9 hz9) (fun x6 S5 => ?_)
      refine V_istore (pc := 51) h [(6, .int x6), (5, .int x1), (0, .ref (a 130)), (1, .int v1), (2, .int v2), (3, .int v3), (4, .int v4)] dX0_tryPuts_51 (by decide) rfl ?_
      refine V_aload_n (pc := 53) h 2 dX0_tryPuts_53 rfl rfl ?_
      refine V_iload (pc := 54) h 1 dX0_tryPuts_54 rfl ?_
      refine V_callVI (pc := 56) (dy := 1) (q := (RX0, TX0, 6)) h [.int x1] [] 130 mv_X0_84 oC_130 rfl dX0_tryPuts_56 rfl rfl (Nat.le_of_ble_eq_true rfl) (Nat.le_trans (by decide) hD) (c_Best_unitOf x1 S5) (fun z9 hz9 => c_Best_unitOf_ct h.gg (Nat.le_refl 1) x1 S5 z9 hz9) (fun x8 S7 => ?_)
      refine V_istore (pc := 59) h [(7, .int x8), (6, .int x6), (5, .int x1), (0, .ref (a 130)), (1, .int v1), (2, .int v2), (3, .int v3), (4, .int v4)] dX0_tryPuts_59 (by decide) rfl ?_
      refine V_aload_n (pc := 61) h 3 dX0_tryPuts_61 rfl rfl ?_
      refine V_get (pc := 62) h 130 2 (.ref (a 111)) fl_X0_19_X0 oC_130 rfl rfl dX0_tryPuts_62 ?_
      refine V_iload_n (pc := 65) h 4 dX0_tryPuts_65 rfl rfl ?_
      refine V_callVI (pc := 66) (dy := 1) (q := (RX3, TX3, 13)) h [.int v1] [] 111 mv_X0_87 oC_111 rfl dX0_tryPuts_66 rfl rfl (Nat.le_of_ble_eq_true rfl) (Nat.le_trans (by decide) hD) (c_Noon_isLast v1 S7) (fun z9 hz9 => c_Noon_isLast_ct h.gg (Nat.le_refl 1) v1 S7 z9 hz9) (fun x10 S9 => ?_)
      refine V_if_eq (pc := 69) h 90 dX0_tryPuts_69 (by decide) ?_ ?_
      · refine V_aload_n (pc := 90) h 3 dX0_tryPuts_90 rfl rfl ?_
        refine V_iload_n (pc := 91) h 4 dX0_tryPuts_91 rfl rfl ?_
        refine V_iconst (pc := 92) (v := 1) h dX0_tryPuts_92 (by decide) ?_
        refine V_iadd (pc := 93) h dX0_tryPuts_93 ?_
        refine V_iload (pc := 94) h 1 dX0_tryPuts_94 rfl ?_
        refine V_iload_n (pc := 96) h 6 dX0_tryPuts_96 rfl rfl ?_
        refine V_iload (pc := 97) h 0 dX0_tryPuts_97 rfl ?_
        refine V_bipush (pc := 99) (v := 9) h dX0_tryPuts_99 (by decide) ?_
        refine V_imul (pc := 101) h dX0_tryPuts_101 ?_
        refine V_iadd (pc := 102) h dX0_tryPuts_102 ?_
        refine V_iload (pc := 103) h 7 dX0_tryPuts_103 rfl ?_
        refine V_callVV (pc := 105) (dy := dr) (q := (RX0, TX0, 6)) h [.int (v1 + (1 : Int32)), .int x6, .int (v3 + (x8 * (9 : Int32))), .int v4] [] 130 mv_X0_35 oC_130 rfl dX0_tryPuts_105 rfl rfl (Nat.le_of_ble_eq_true rfl) hdr (rec (v1 + (1 : Int32)) x6 (v3 + (x8 * (9 : Int32))) v4 S9) (fun z9 hz9 => hrec (v1 + (1 : Int32)) x6 (v3 + (x8 * (9 : Int32))) v4 S9 z9 hz9) (fun S11 => ?_)
        refine V_iconst (pc := 108) (v := 0) h dX0_tryPuts_108 (by decide) ?_
        refine V_istore (pc := 109) h [(8, .int (0 : Int32)), (7, .int x8), (6, .int x6), (5, .int x1), (0, .ref (a 130)), (1, .int v1), (2, .int v2), (3, .int v3), (4, .int v4)] dX0_tryPuts_109 (by decide) rfl ?_
        exact V_ls [4, 5, 7, 8, 3, 2, 1, 0] rfl (c_Best_tryPuts_h111_ok h hr hlk hD rec hrec hdr FU v1 v3 v4 x1 x6 x8 (0 : Int32) S11)
      · refine V_aload_n (pc := 72) h 3 dX0_tryPuts_72 rfl rfl ?_
        refine V_iload (pc := 73) h 1 dX0_tryPuts_73 rfl ?_
        refine V_iload_n (pc := 75) h 6 dX0_tryPuts_75 rfl rfl ?_
        refine V_iload (pc := 76) h 0 dX0_tryPuts_76 rfl ?_
        refine V_aload_n (pc := 78) h 3 dX0_tryPuts_78 rfl rfl ?_
        refine V_iload (pc := 79) h 2 dX0_tryPuts_79 rfl ?_
        refine V_callVI (pc := 81) (dy := 4) (q := (RX0, TX0, 6)) h [.int x1] [.int x8, .int v3, .int x6, .ref (a 130)] 130 mv_X0_91 oC_130 rfl dX0_tryPuts_81 rfl rfl (Nat.le_of_ble_eq_true rfl) (Nat.le_trans (by decide) hD) (c_Best_leastPut x1 S9) (fun z9 hz9 => c_Best_leastPut_ct h.gg (Nat.le_refl 4) x1 S9 z9 hz9) (fun x13 S12 => ?_)
        refine V_imul (pc := 84) h dX0_tryPuts_84 ?_
        refine V_iadd (pc := 85) h dX0_tryPuts_85 ?_
        refine V_callVV (pc := 86) (dy := 1) (q := (RX0, TX0, 6)) h [.int x6, .int (v3 + (x8 * x13))] [] 130 mv_X0_94 oC_130 rfl dX0_tryPuts_86 rfl rfl (Nat.le_of_ble_eq_true rfl) (Nat.le_trans (by decide) hD) (c_Best_consider x6 (v3 + (x8 * x13)) S12) (fun z9 hz9 => c_Best_consider_ct h.gg (Nat.le_refl 1) x6 (v3 + (x8 * x13)) S12 z9 hz9) (fun S14 => ?_)
        exact V_vret (pc := 89) h hr hlk dX0_tryPuts_89
    · exact V_vret (pc := 15) h hr hlk dX0_tryPuts_15
def c_tp : Nat → Int32 → Int32 → Int32 → Int32 → St → Option St
  | 0, _, _, _, _, _ => none
  | n + 1, v1, v2, v3, v4, S => c_Best_tryPuts (c_tp n) v1 v2 v3 v4 S
set_option maxHeartbeats 4000000 in
set_option maxRecDepth 100000 in
theorem c_tp_ct (g : GG s0 args0 D ca a A) : ∀ n : Nat, (∀ (v1 v2 v3 v4 : Int32) (S : St) (z : St), c_tp n v1 v2 v3 v4 S = some z → CtV l yX0_tryPuts cX0_tryPuts 9 (n + 5) s0 D ca tpC a A [.ref (a 130), .int v1, .int v2, .int v3, .int v4] S z) := by
  intro n
  induction n with
  | zero => exact fun _ _ _ _ _ _ hz => (nomatch hz)
  | succ n ih =>
    exact fun v1 v2 v3 v4 S z hz => CtV_mk g (by decide +kernel) (Nat.le_of_ble_eq_true rfl) (show c_Best_tryPuts (c_tp n) v1 v2 v3 v4 S = some z from hz) (fun p e s m args below meth c h hr hlk => c_Best_tryPuts_ok h hr hlk (by omega) (c_tp n) ih (by omega) v1 v2 v3 v4 S)
def c_Best_tryPuts_x (v1 : Int32) (v2 : Int32) (v3 : Int32) (v4 : Int32) (S : St) : Option St := c_tp 8 v1 v2 v3 v4 S
theorem c_Best_tryPuts_x_ct {d : Nat} (g : GG s0 args0 D ca a A) (hD : d ≤ 13) (hD2 : 13 ≤ d) (v1 : Int32) (v2 : Int32) (v3 : Int32) (v4 : Int32) (S : St) (z : St) (hz : c_Best_tryPuts_x v1 v2 v3 v4 S = some z) : CtV l yX0_tryPuts cX0_tryPuts 9 d s0 D ca tpC a A [.ref (a 130), .int v1, .int v2, .int v3, .int v4] S z := by
 have e : d = 8 + 5 := by omega
 subst e
 exact (c_tp_ct g 8) v1 v2 v3 v4 S z hz
def c_State_putOf (o0 : Nat) (v1 : Int32) (S : St) : Option (Int32 × St) := (if v1 < 0 then (some ((9 : Int32), S)) else (if (6 : Int32) ≤ v1 then (some ((9 : Int32), S)) else (ckM v1 6 (some ((S (o0 + 4) v1.toNatClampNeg), S)))))
set_option maxHeartbeats 4000000 in
set_option maxRecDepth 100000 in
theorem c_State_putOf_ok {d : Nat} (h : Cx p s m c cX6_putOf 2 RX6 s0 args0 D ca a A) (hr : meth.sig.returnType = some .int) (hlk : meth.locks = false) (hD : 1 ≤ d) (o0 : Nat) (ho0 : isSt o0) (v1 : Int32) (S : St) : VV p l e (rmd d) s m args below meth c D ca tpC a A 2 (QmI D ca tpC a A below args s) S [(0, .ref (a o0)), (1, .int v1)] 0 [] (c_State_putOf o0 v1 S) := by
  unfold c_State_putOf
  refine V_iload_n (pc := 0) h 1 dX6_putOf_0 rfl rfl ?_
  refine V_if_lt (pc := 1) h 19 dX6_putOf_1 (by decide) ?_ ?_
  · refine V_bipush (pc := 19) (v := 9) h dX6_putOf_19 (by decide) ?_
    exact V_iret (pc := 21) h hr hlk dX6_putOf_21
  · refine V_iload_n (pc := 4) h 1 dX6_putOf_4 rfl rfl ?_
    refine V_bipush (pc := 5) (v := 6) h dX6_putOf_5 (by decide) ?_
    refine V_icmp_ge (pc := 7) h 19 dX6_putOf_7 (by decide) ?_ ?_
    · refine V_bipush (pc := 19) (v := 9) h dX6_putOf_19 (by decide) ?_
      exact V_iret (pc := 21) h hr hlk dX6_putOf_21
    · refine V_aload_n (pc := 10) h 0 dX6_putOf_10 rfl rfl ?_
      refine V_get (pc := 11) h o0 4 (.ref (a (o0 + 4))) fl_X6_21_X6 ho0.1 rfl rfl dX6_putOf_11 ?_
      refine V_iload_n (pc := 14) h 1 dX6_putOf_14 rfl rfl ?_
      refine V_iald (pc := 15) h (o0 + 4) ho0.2.2.2.2 dX6_putOf_15 ?_
      refine V_goto (pc := 16) h 21 dX6_putOf_16 (by decide) ?_
      exact V_iret (pc := 21) h hr hlk dX6_putOf_21
theorem c_State_putOf_ct {d : Nat} (g : GG s0 args0 D ca a A) (hD : 1 ≤ d) {o0 : Nat} (ho0 : isSt o0) (v1 : Int32) (S : St) (z : Int32 × St) (hz : c_State_putOf o0 v1 S = some z) : CtI l yX6_putOf cX6_putOf 2 .int d s0 D ca tpC a A [.ref (a o0), .int v1] S z := CtI_mk g (by decide +kernel) (Nat.le_of_ble_eq_true rfl) hz (fun p e s m args below meth c h hr hlk => c_State_putOf_ok h hr hlk hD o0 ho0 v1 S)
def c_Best_tryOrders_b170 (rec : Int32 → Int32 → Int32 → Int32 → St → Option St) (L19 : Int32 → Int32 → Int32 → Int32 → Int32 → St → Option St) (v1 : Int32) (v2 : Int32) (v3 : Int32) (v4 : Int32) (v5 : Int32) (S : St) : Option St := (bnd (v5 + (1 : Int32)) (fun x1 => (L19 v1 v2 v3 v4 x1 S)))
set_option maxHeartbeats 4000000 in
set_option maxRecDepth 100000 in
theorem c_Best_tryOrders_b170_ok {d : Nat} (h : Cx p s m c cX0_tryOrders 8 RX0 s0 args0 D ca a A) (hr : meth.sig.returnType = none) (hlk : meth.locks = false) (hD : 5 ≤ d) {dr : Nat} (rec : Int32 → Int32 → Int32 → Int32 → St → Option St) (hrec : (∀ (v1 v2 v3 v4 : Int32) (S : St) (z : St), rec v1 v2 v3 v4 S = some z → CtV l yX0_tryOrders cX0_tryOrders 8 dr s0 D ca tpC a A [.ref (a 130), .int v1, .int v2, .int v3, .int v4] S z)) (hdr : dr + 1 ≤ d) (L19 : Int32 → Int32 → Int32 → Int32 → Int32 → St → Option St) (hL19 : ∀ (v1 : Int32) (v2 : Int32) (v3 : Int32) (v4 : Int32) (v5 : Int32) (S : St), VV p l e (rmd d) s m args below meth c D ca tpC a A 8 (QmV D ca tpC a A below args s) S [(0, .ref (a 130)), (1, .int v1), (2, .int v2), (3, .int v3), (4, .int v4), (5, .int v5)] 19 [] (L19 v1 v2 v3 v4 v5 S)) (v1 : Int32) (v2 : Int32) (v3 : Int32) (v4 : Int32) (v5 : Int32) (S : St) : VV p l e (rmd d) s m args below meth c D ca tpC a A 8 (QmV D ca tpC a A below args s) S [(0, .ref (a 130)), (1, .int v1), (2, .int v2), (3, .int v3), (4, .int v4), (5, .int v5)] 170 [] (c_Best_tryOrders_b170 rec L19 v1 v2 v3 v4 v5 S) := by
  unfold c_Best_tryOrders_b170
  refine V_iincB (pc := 170) h 5 (1 : Int32) (fun x1 => [(5, .int x1), (0, .ref (a 130)), (1, .int v1), (2, .int v2), (3, .int v3), (4, .int v4)]) dX0_tryOrders_170 rfl (by decide) (by decide) (fun _ => rfl) (fun x1 => ?_)
  refine V_goto (pc := 173) h 19 dX0_tryOrders_173 (by decide) ?_
  exact V_ls [1, 2, 3, 4, 5, 0] rfl (hL19 v1 v2 v3 v4 x1 S)
def c_Best_tryOrders_b147 (rec : Int32 → Int32 → Int32 → Int32 → St → Option St) (L19 : Int32 → Int32 → Int32 → Int32 → Int32 → St → Option St) (v1 : Int32) (v2 : Int32) (v3 : Int32) (v4 : Int32) (v5 : Int32) (v6 : Int32) (S : St) : Option St := (bV (rec (v1 + (1 : Int32)) v6 ((v3 * (10 : Int32)) + v5) (v4 ||| ((1 : Int32) <<< (v5 &&& 31))) S) (fun S1 => (c_Best_tryOrders_b170 rec L19 v1 v2 v3 v4 v5 S1)))
set_option maxHeartbeats 4000000 in
set_option maxRecDepth 100000 in
theorem c_Best_tryOrders_b147_ok {d : Nat} (h : Cx p s m c cX0_tryOrders 8 RX0 s0 args0 D ca a A) (hr : meth.sig.returnType = none) (hlk : meth.locks = false) (hD : 5 ≤ d) {dr : Nat} (rec : Int32 → Int32 → Int32 → Int32 → St → Option St) (hrec : (∀ (v1 v2 v3 v4 : Int32) (S : St) (z : St), rec v1 v2 v3 v4 S = some z → CtV l yX0_tryOrders cX0_tryOrders 8 dr s0 D ca tpC a A [.ref (a 130), .int v1, .int v2, .int v3, .int v4] S z)) (hdr : dr + 1 ≤ d) (L19 : Int32 → Int32 → Int32 → Int32 → Int32 → St → Option St) (hL19 : ∀ (v1 : Int32) (v2 : Int32) (v3 : Int32) (v4 : Int32) (v5 : Int32) (S : St), VV p l e (rmd d) s m args below meth c D ca tpC a A 8 (QmV D ca tpC a A below args s) S [(0, .ref (a 130)), (1, .int v1), (2, .int v2), (3, .int v3), (4, .int v4), (5, .int v5)] 19 [] (L19 v1 v2 v3 v4 v5 S)) (v1 : Int32) (v2 : Int32) (v3 : Int32) (v4 : Int32) (v5 : Int32) (v6 : Int32) (S : St) : VV p l e (rmd d) s m args below meth c D ca tpC a A 8 (QmV D ca tpC a A below args s) S [(0, .ref (a 130)), (1, .int v1), (2, .int v2), (3, .int v3), (4, .int v4), (5, .int v5), (6, .int v6)] 147 [] (c_Best_tryOrders_b147 rec L19 v1 v2 v3 v4 v5 v6 S) := by
  unfold c_Best_tryOrders_b147
  refine V_aload_n (pc := 147) h 0 dX0_tryOrders_147 rfl rfl ?_
  refine V_iload_n (pc := 148) h 1 dX0_tryOrders_148 rfl rfl ?_
  refine V_iconst (pc := 149) (v := 1) h dX0_tryOrders_149 (by decide) ?_
  refine V_iadd (pc := 150) h dX0_tryOrders_150 ?_
  refine V_iload (pc := 151) h 6 dX0_tryOrders_151 rfl ?_
  refine V_iload_n (pc := 153) h 3 dX0_tryOrders_153 rfl rfl ?_
  refine V_bipush (pc := 154) (v := 10) h dX0_tryOrders_154 (by decide) ?_
  refine V_imul (pc := 156) h dX0_tryOrders_156 ?_
  refine V_iload (pc := 157) h 5 dX0_tryOrders_157 rfl ?_
  refine V_iadd (pc := 159) h dX0_tryOrders_159 ?_
  refine V_iload (pc := 160) h 4 dX0_tryOrders_160 rfl ?_
  refine V_iconst (pc := 162) (v := 1) h dX0_tryOrders_162 (by decide) ?_
  refine V_iload (pc := 163) h 5 dX0_tryOrders_163 rfl ?_
  refine V_ishl (pc := 165) h dX0_tryOrders_165 ?_
  refine V_ior (pc := 166) h dX0_tryOrders_166 ?_
  refine V_callVV (pc := 167) (dy := dr) (q := (RX0, TX0, 6)) h [.int (v1 + (1 : Int32)), .int v6, .int ((v3 * (10 : Int32)) + v5), .int (v4 ||| ((1 : Int32) <<< (v5 &&& 31)))] [] 130 mv_X0_39 oC_130 rfl dX0_tryOrders_167 rfl rfl (Nat.le_of_ble_eq_true rfl) hdr (rec (v1 + (1 : Int32)) v6 ((v3 * (10 : Int32)) + v5) (v4 ||| ((1 : Int32) <<< (v5 &&& 31))) S) (fun z9 hz9 => hrec (v1 + (1 : Int32)) v6 ((v3 * (10 : Int32)) + v5) (v4 ||| ((1 : Int32) <<< (v5 &&& 31))) S z9 hz9) (fun S1 => ?_)
  exact V_ls [0, 1, 2, 3, 4, 5] rfl (c_Best_tryOrders_b170_ok h hr hlk hD rec hrec hdr L19 hL19 v1 v2 v3 v4 v5 S1)
def c_Best_tryOrders_h19 (rec : Int32 → Int32 → Int32 → Int32 → St → Option St) : Nat → Int32 → Int32 → Int32 → Int32 → Int32 → St → Option St
  | 0, _, _, _, _, _, _ => none
  | n + 1, v1, v2, v3, v4, v5, S => (if (S 28 0) ≤ v5 then (some S) else (if ((v4 >>> (v5 &&& 31)) &&& (1 : Int32)) = (1 : Int32) then (c_Best_tryOrders_b170 rec (c_Best_tryOrders_h19 rec n) v1 v2 v3 v4 v5 S) else (bV (c_Noon_serve v1 v5 S) (fun S1 => (bI (c_Noon_mealOf v5 S1) (fun x3 S2 => (bI (c_Best_withMeal v2 x3 S2) (fun x5 S4 => (bI (c_Noon_isLast v1 S4) (fun x7 S6 => (if x7 = 0 then (bI (c_State_putOf 33 v5 S6) (fun x9 S8 => (bI (c_State_hasEnough 33 v5 x9 (S8 28 1) S8) (fun x11 S10 => (if x11 = 0 then (c_Best_tryOrders_b147 rec (c_Best_tryOrders_h19 rec n) v1 v2 v3 v4 v5 x5 S10) else (bV (c_Noon_pour v1 x9 (S10 28 1) S10) (fun S12 => (c_Best_tryOrders_b147 rec (c_Best_tryOrders_h19 rec n) v1 v2 v3 v4 v5 x5 S12)))))))) else (bV (c_Best_consider x5 ((v3 * (10 : Int32)) + v5) S6) (fun S13 => (c_Best_tryOrders_b170 rec (c_Best_tryOrders_h19 rec n) v1 v2 v3 v4 v5 S13))))))))))))))
set_option maxHeartbeats 4000000 in
set_option maxRecDepth 100000 in
theorem c_Best_tryOrders_h19_ok {d : Nat} (h : Cx p s m c cX0_tryOrders 8 RX0 s0 args0 D ca a A) (hr : meth.sig.returnType = none) (hlk : meth.locks = false) (hD : 5 ≤ d) {dr : Nat} (rec : Int32 → Int32 → Int32 → Int32 → St → Option St) (hrec : (∀ (v1 v2 v3 v4 : Int32) (S : St) (z : St), rec v1 v2 v3 v4 S = some z → CtV l yX0_tryOrders cX0_tryOrders 8 dr s0 D ca tpC a A [.ref (a 130), .int v1, .int v2, .int v3, .int v4] S z)) (hdr : dr + 1 ≤ d) : ∀ (n : Nat) (v1 : Int32) (v2 : Int32) (v3 : Int32) (v4 : Int32) (v5 : Int32) (S : St), VV p l e (rmd d) s m args below meth c D ca tpC a A 8 (QmV D ca tpC a A below args s) S [(0, .ref (a 130)), (1, .int v1), (2, .int v2), (3, .int v3), (4, .int v4), (5, .int v5)] 19 [] (c_Best_tryOrders_h19 rec n v1 v2 v3 v4 v5 S) := by
  intro n
  induction n with
  | zero => intro v1 v2 v3 v4 v5 S; exact V_none
  | succ n ih =>
    intro v1 v2 v3 v4 v5 S
    unfold c_Best_tryOrders_h19
    refine V_iload (pc := 19) h 5 dX0_tryOrders_19 rfl ?_
    refine V_aload_n (pc := 21) h 0 dX0_tryOrders_21 rfl rfl ?_
    refine V_get (pc := 22) h 130 0 (.ref (a 28)) fl_X0_9_X0 oC_130 rfl rfl dX0_tryOrders_22 ?_
    refine V_get (pc := 25) h 28 0 (.int (S 28 0)) fl_X0_64_X7 oC_28 rfl rfl dX0_tryOrders_25 ?_
    refine V_icmp_ge (pc := 28) h 176 dX0_tryOrders_28 (by decide) ?_ ?_
    · exact V_vret (pc := 176) h hr hlk dX0_tryOrders_176
    · refine V_iload (pc := 31) h 4 dX0_tryOrders_31 rfl ?_
      refine V_iload (pc := 33) h 5 dX0_tryOrders_33 rfl ?_
      refine V_ishr (pc := 35) h dX0_tryOrders_35 ?_
      refine V_iconst (pc := 36) (v := 1) h dX0_tryOrders_36 (by decide) ?_
      refine V_iand (pc := 37) h dX0_tryOrders_37 ?_
      refine V_iconst (pc := 38) (v := 1) h dX0_tryOrders_38 (by decide) ?_
      refine V_icmp_ne (pc := 39) h 45 dX0_tryOrders_39 (by decide) ?_ ?_
      · refine V_aload_n (pc := 45) h 0 dX0_tryOrders_45 rfl rfl ?_
        refine V_get (pc := 46) h 130 2 (.ref (a 111)) fl_X0_19_X0 oC_130 rfl rfl dX0_tryOrders_46 ?_
        refine V_iload_n (pc := 49) h 1 dX0_tryOrders_49 rfl rfl ?_
        refine V_iload (pc := 50) h 5 dX0_tryOrders_50 rfl ?_
        refine V_callVV (pc := 52) (dy := 2) (q := (RX3, TX3, 13)) h [.int v1, .int v5] [] 111 mv_X0_73 oC_111 rfl dX0_tryOrders_52 rfl rfl (Nat.le_of_ble_eq_true rfl) (Nat.le_trans (by decide) hD) (c_Noon_serve v1 v5 S) (fun z9 hz9 => c_Noon_serve_ct h.gg (Nat.le_refl 2) v1 v5 S z9 hz9) (fun S1 => ?_)
        refine V_aload_n (pc := 55) h 0 dX0_tryOrders_55 rfl rfl ?_
        refine V_iload_n (pc := 56) h 2 dX0_tryOrders_56 rfl rfl ?_
        refine V_aload_n (pc := 57) h 0 dX0_tryOrders_57 rfl rfl ?_
        refine V_get (pc := 58) h 130 2 (.ref (a 111)) fl_X0_19_X0 oC_130 rfl rfl dX0_tryOrders_58 ?_
        refine V_iload (pc := 61) h 5 dX0_tryOrders_61 rfl ?_
        refine V_callVI (pc := 63) (dy := 4) (q := (RX3, TX3, 13)) h [.int v5] [.int v2, .ref (a 130)] 111 mv_X0_77 oC_111 rfl dX0_tryOrders_63 rfl rfl (Nat.le_of_ble_eq_true rfl) (Nat.le_trans (by decide) hD) (c_Noon_mealOf v5 S1) (fun z9 hz9 => c_Noon_mealOf_ct h.gg (Nat.le_refl 4) v5 S1 z9 hz9) (fun x3 S2 => ?_)
        refine V_callVI (pc := 66) (dy := 1) (q := (RX0, TX0, 6)) h [.int v2, .int x3] [] 130 mv_X0_81 oC_130 rfl dX0_tryOrders_66 rfl rfl (Nat.le_of_ble_eq_true rfl) (Nat.le_trans (by decide) hD) (c_Best_withMeal v2 x3 S2) (fun z9 hz9 => c_Best_withMeal_ct h.gg (Nat.le_refl 1) v2 x3 S2 z9 hz9) (fun x5 S4 => ?_)
        refine V_istore (pc := 69) h [(6, .int x5), (0, .ref (a 130)), (1, .int v1), (2, .int v2), (3, .int v3), (4, .int v4), (5, .int v5)] dX0_tryOrders_69 (by decide) rfl ?_
        refine V_aload_n (pc := 71) h 1 dX0_tryOrders_71 rfl rfl ?_
        refine V_get (pc := 72) h 130 2 (.ref (a 111)) fl_X0_19_X0 oC_130 rfl rfl dX0_tryOrders_72 ?_
        refine V_iload_n (pc := 75) h 2 dX0_tryOrders_75 rfl rfl ?_
        refine V_callVI (pc := 76) (dy := 1) (q := (RX3, TX3, 13)) h [.int v1] [] 111 mv_X0_87 oC_111 rfl dX0_tryOrders_76 rfl rfl (Nat.le_of_ble_eq_true rfl) (Nat.le_trans (by decide) hD) (c_Noon_isLast v1 S4) (fun z9 hz9 => c_Noon_isLast_ct h.gg (Nat.le_refl 1) v1 S4 z9 hz9) (fun x7 S6 => ?_)
        refine V_if_eq (pc := 79) h 98 dX0_tryOrders_79 (by decide) ?_ ?_
        · refine V_aload_n (pc := 98) h 1 dX0_tryOrders_98 rfl rfl ?_
          refine V_get (pc := 99) h 130 1 (.ref (a 33)) fl_X0_15_X0 oC_130 rfl rfl dX0_tryOrders_99 ?_
          refine V_iload (pc := 102) h 6 dX0_tryOrders_102 rfl ?_
          refine V_callVI (pc := 104) (dy := 1) (q := (RX6, TX6, 5)) h [.int v5] [] 33 mv_X0_115 oC_33 rfl dX0_tryOrders_104 rfl rfl (Nat.le_of_ble_eq_true rfl) (Nat.le_trans (by decide) hD) (c_State_putOf 33 v5 S6) (fun z9 hz9 => c_State_putOf_ct h.gg (Nat.le_refl 1) isSt_33 v5 S6 z9 hz9) (fun x9 S8 => ?_)
          refine V_istore (pc := 107) h [(7, .int x9), (6, .int x5), (0, .ref (a 130)), (1, .int v1), (2, .int v2), (3, .int v3), (4, .int v4), (5, .int v5)] dX0_tryOrders_107 (by decide) rfl ?_
          refine V_aload_n (pc := 109) h 2 dX0_tryOrders_109 rfl rfl ?_
          refine V_get (pc := 110) h 130 1 (.ref (a 33)) fl_X0_15_X0 oC_130 rfl rfl dX0_tryOrders_110 ?_
          refine V_iload (pc := 113) h 7 dX0_tryOrders_113 rfl ?_
          refine V_iload (pc := 115) h 0 dX0_tryOrders_115 rfl ?_
          refine V_aload_n (pc := 117) h 2 dX0_tryOrders_117 rfl rfl ?_
          refine V_get (pc := 118) h 130 0 (.ref (a 28)) fl_X0_9_X0 oC_130 rfl rfl dX0_tryOrders_118 ?_
          refine V_get (pc := 121) h 28 1 (.int (S8 28 1)) fl_X0_97_X7 oC_28 rfl rfl dX0_tryOrders_121 ?_
          refine V_callVI (pc := 124) (dy := 3) (q := (RX6, TX6, 5)) h [.int v5, .int x9, .int (S8 28 1)] [] 33 mv_X0_100 oC_33 rfl dX0_tryOrders_124 rfl rfl (Nat.le_of_ble_eq_true rfl) (Nat.le_trans (by decide) hD) (c_State_hasEnough 33 v5 x9 (S8 28 1) S8) (fun z9 hz9 => c_State_hasEnough_ct h.gg (Nat.le_refl 3) isSt_33 v5 x9 (S8 28 1) S8 z9 hz9) (fun x11 S10 => ?_)
          refine V_if_eq (pc := 127) h 147 dX0_tryOrders_127 (by decide) ?_ ?_
          · exact V_ls [2, 3, 4, 5, 6, 7, 1] rfl (c_Best_tryOrders_b147_ok h hr hlk hD rec hrec hdr (c_Best_tryOrders_h19 rec n) ih v1 v2 v3 v4 v5 x5 S10)
          · refine V_aload_n (pc := 130) h 2 dX0_tryOrders_130 rfl rfl ?_
            refine V_get (pc := 131) h 130 2 (.ref (a 111)) fl_X0_19_X0 oC_130 rfl rfl dX0_tryOrders_131 ?_
            refine V_iload_n (pc := 134) h 3 dX0_tryOrders_134 rfl rfl ?_
            refine V_iload (pc := 135) h 0 dX0_tryOrders_135 rfl ?_
            refine V_aload_n (pc := 137) h 2 dX0_tryOrders_137 rfl rfl ?_
            refine V_get (pc := 138) h 130 0 (.ref (a 28)) fl_X0_9_X0 oC_130 rfl rfl dX0_tryOrders_138 ?_
            refine V_get (pc := 141) h 28 1 (.int (S10 28 1)) fl_X0_97_X7 oC_28 rfl rfl dX0_tryOrders_141 ?_
            refine V_callVV (pc := 144) (dy := 1) (q := (RX3, TX3, 13)) h [.int v1, .int x9, .int (S10 28 1)] [] 111 mv_X0_108 oC_111 rfl dX0_tryOrders_144 rfl rfl (Nat.le_of_ble_eq_true rfl) (Nat.le_trans (by decide) hD) (c_Noon_pour v1 x9 (S10 28 1) S10) (fun z9 hz9 => c_Noon_pour_ct h.gg (Nat.le_refl 1) v1 x9 (S10 28 1) S10 z9 hz9) (fun S12 => ?_)
            exact V_ls [2, 3, 4, 5, 6, 7, 1] rfl (c_Best_tryOrders_b147_ok h hr hlk hD rec hrec hdr (c_Best_tryOrders_h19 rec n) ih v1 v2 v3 v4 v5 x5 S12)
        · refine V_aload_n (pc := 82) h 1 dX0_tryOrders_82 rfl rfl ?_
          refine V_iload (pc := 83) h 0 dX0_tryOrders_83 rfl ?_
          refine V_iload_n (pc := 85) h 4 dX0_tryOrders_85 rfl rfl ?_
          refine V_bipush (pc := 86) (v := 10) h dX0_tryOrders_86 (by decide) ?_
          refine V_imul (pc := 88) h dX0_tryOrders_88 ?_
          refine V_iload (pc := 89) h 6 dX0_tryOrders_89 rfl ?_
          refine V_iadd (pc := 91) h dX0_tryOrders_91 ?_
          refine V_callVV (pc := 92) (dy := 1) (q := (RX0, TX0, 6)) h [.int x5, .int ((v3 * (10 : Int32)) + v5)] [] 130 mv_X0_94 oC_130 rfl dX0_tryOrders_92 rfl rfl (Nat.le_of_ble_eq_true rfl) (Nat.le_trans (by decide) hD) (c_Best_consider x5 ((v3 * (10 : Int32)) + v5) S6) (fun z9 hz9 => c_Best_consider_ct h.gg (Nat.le_refl 1) x5 ((v3 * (10 : Int32)) + v5) S6 z9 hz9) (fun S13 => ?_)
          refine V_goto (pc := 95) h 170 dX0_tryOrders_95 (by decide) ?_
          exact V_ls [1, 2, 3, 4, 5, 6] rfl (c_Best_tryOrders_b170_ok h hr hlk hD rec hrec hdr (c_Best_tryOrders_h19 rec n) ih v1 v2 v3 v4 v5 S13)
      · refine V_goto (pc := 42) h 170 dX0_tryOrders_42 (by decide) ?_
        exact V_ls [0, 1, 2, 3, 4, 5] rfl (c_Best_tryOrders_b170_ok h hr hlk hD rec hrec hdr (c_Best_tryOrders_h19 rec n) ih v1 v2 v3 v4 v5 S)
def c_Best_tryOrders (rec : Int32 → Int32 → Int32 → Int32 → St → Option St) (v1 : Int32) (v2 : Int32) (v3 : Int32) (v4 : Int32) (S : St) : Option St := (if v1 < 0 then (some S) else (if v1 < (S 28 0) then (c_Best_tryOrders_h19 rec FU v1 v2 v3 v4 (0 : Int32) S) else (some S)))
set_option maxHeartbeats 4000000 in
set_option maxRecDepth 100000 in
theorem c_Best_tryOrders_ok {d : Nat} (h : Cx p s m c cX0_tryOrders 8 RX0 s0 args0 D ca a A) (hr : meth.sig.returnType = none) (hlk : meth.locks = false) (hD : 5 ≤ d) {dr : Nat} (rec : Int32 → Int32 → Int32 → Int32 → St → Option St) (hrec : (∀ (v1 v2 v3 v4 : Int32) (S : St) (z : St), rec v1 v2 v3 v4 S = some z → CtV l yX0_tryOrders cX0_tryOrders 8 dr s0 D ca tpC a A [.ref (a 130), .int v1, .int v2, .int v3, .int v4] S z)) (hdr : dr + 1 ≤ d) (v1 : Int32) (v2 : Int32) (v3 : Int32) (v4 : Int32) (S : St) : VV p l e (rmd d) s m args below meth c D ca tpC a A 8 (QmV D ca tpC a A below args s) S [(0, .ref (a 130)), (1, .int v1), (2, .int v2), (3, .int v3), (4, .int v4)] 0 [] (c_Best_tryOrders rec v1 v2 v3 v4 S) := by
  unfold c_Best_tryOrders
  refine V_iload_n (pc := 0) h 1 dX0_tryOrders_0 rfl rfl ?_
  refine V_if_lt (pc := 1) h 15 dX0_tryOrders_1 (by decide) ?_ ?_
  · exact V_vret (pc := 15) h hr hlk dX0_tryOrders_15
  · refine V_iload_n (pc := 4) h 1 dX0_tryOrders_4 rfl rfl ?_
    refine V_aload_n (pc := 5) h 0 dX0_tryOrders_5 rfl rfl ?_
    refine V_get (pc := 6) h 130 0 (.ref (a 28)) fl_X0_9_X0 oC_130 rfl rfl dX0_tryOrders_6 ?_
    refine V_get (pc := 9) h 28 0 (.int (S 28 0)) fl_X0_64_X7 oC_28 rfl rfl dX0_tryOrders_9 ?_
    refine V_icmp_lt (pc := 12) h 16 dX0_tryOrders_12 (by decide) ?_ ?_
    · refine V_iconst (pc := 16) (v := 0) h dX0_tryOrders_16 (by decide) ?_
      refine V_istore (pc := 17) h [(5, .int (0 : Int32)), (0, .ref (a 130)), (1, .int v1), (2, .int v2), (3, .int v3), (4, .int v4)] dX0_tryOrders_17 (by decide) rfl ?_
      exact V_ls [1, 2, 3, 4, 5, 0] rfl (c_Best_tryOrders_h19_ok h hr hlk hD rec hrec hdr FU v1 v2 v3 v4 (0 : Int32) S)
    · exact V_vret (pc := 15) h hr hlk dX0_tryOrders_15
def c_to : Nat → Int32 → Int32 → Int32 → Int32 → St → Option St
  | 0, _, _, _, _, _ => none
  | n + 1, v1, v2, v3, v4, S => c_Best_tryOrders (c_to n) v1 v2 v3 v4 S
set_option maxHeartbeats 4000000 in
set_option maxRecDepth 100000 in
theorem c_to_ct (g : GG s0 args0 D ca a A) : ∀ n : Nat, (∀ (v1 v2 v3 v4 : Int32) (S : St) (z : St), c_to n v1 v2 v3 v4 S = some z → CtV l yX0_tryOrders cX0_tryOrders 8 (n + 5) s0 D ca tpC a A [.ref (a 130), .int v1, .int v2, .int v3, .int v4] S z) := by
  intro n
  induction n with
  | zero => exact fun _ _ _ _ _ _ hz => (nomatch hz)
  | succ n ih =>
    exact fun v1 v2 v3 v4 S z hz => CtV_mk g (by decide +kernel) (Nat.le_of_ble_eq_true rfl) (show c_Best_tryOrders (c_to n) v1 v2 v3 v4 S = some z from hz) (fun p e s m args below meth c h hr hlk => c_Best_tryOrders_ok h hr hlk (by omega) (c_to n) ih (by omega) v1 v2 v3 v4 S)
def c_Best_tryOrders_x (v1 : Int32) (v2 : Int32) (v3 : Int32) (v4 : Int32) (S : St) : Option St := c_to 8 v1 v2 v3 v4 S
theorem c_Best_tryOrders_x_ct {d : Nat} (g : GG s0 args0 D ca a A) (hD : d ≤ 13) (hD2 : 13 ≤ d) (v1 : Int32) (v2 : Int32) (v3 : Int32) (v4 : Int32) (S : St) (z : St) (hz : c_Best_tryOrders_x v1 v2 v3 v4 S = some z) : CtV l yX0_tryOrders cX0_tryOrders 8 d s0 D ca tpC a A [.ref (a 130), .int v1, .int v2, .int v3, .int v4] S z := by
 have e : d = 8 + 5 := by omega
 subst e
 exact (c_to_ct g 8) v1 v2 v3 v4 S z hz
def c_Tape_bytesOf_b22 (L5 : Int32 → Int32 → Int32 → St → Option (Int32 × St)) (v0 : Int32) (v1 : Int32) (v2 : Int32) (S : St) : Option (Int32 × St) := (bnd (v2 + (-8 : Int32)) (fun x1 => (L5 v0 v1 x1 S)))
set_option maxHeartbeats 4000000 in
set_option maxRecDepth 100000 in
theorem c_Tape_bytesOf_b22_ok {d : Nat} (h : Cx p s m c cX9_bytesOf 3 RX9 s0 args0 D ca a A) (hr : meth.sig.returnType = some .int) (hlk : meth.locks = false) (hD : 1 ≤ d) (L5 : Int32 → Int32 → Int32 → St → Option (Int32 × St)) (hL5 : ∀ (v0 : Int32) (v1 : Int32) (v2 : Int32) (S : St), VV p l e (rmd d) s m args below meth c D ca tpC a A 3 (QmI D ca tpC a A below args s) S [(0, .int v0), (1, .int v1), (2, .int v2)] 5 [] (L5 v0 v1 v2 S)) (v0 : Int32) (v1 : Int32) (v2 : Int32) (S : St) : VV p l e (rmd d) s m args below meth c D ca tpC a A 3 (QmI D ca tpC a A below args s) S [(0, .int v0), (1, .int v1), (2, .int v2)] 22 [] (c_Tape_bytesOf_b22 L5 v0 v1 v2 S) := by
  unfold c_Tape_bytesOf_b22
  refine V_iincB (pc := 22) h 2 (-8 : Int32) (fun x1 => [(2, .int x1), (0, .int v0), (1, .int v1)]) dX9_bytesOf_22 rfl (by decide) (by decide) (fun _ => rfl) (fun x1 => ?_)
  refine V_goto (pc := 25) h 5 dX9_bytesOf_25 (by decide) ?_
  exact V_ls [1, 2, 0] rfl (hL5 v0 v1 x1 S)
def c_Tape_bytesOf_h5 : Nat → Int32 → Int32 → Int32 → St → Option (Int32 × St)
  | 0, _, _, _, _ => none
  | n + 1, v0, v1, v2, S => (if v2 < 0 then (some (v1, S)) else (if (((v0.toUInt32 >>> (v2.toUInt32 &&& Int32.toUInt32 31)).toInt32) &&& (255 : Int32)) = 0 then (c_Tape_bytesOf_b22 (c_Tape_bytesOf_h5 n) v0 v1 v2 S) else (bnd (v1 + (1 : Int32)) (fun x1 => (c_Tape_bytesOf_b22 (c_Tape_bytesOf_h5 n) v0 x1 v2 S)))))
set_option maxHeartbeats 4000000 in
set_option maxRecDepth 100000 in
theorem c_Tape_bytesOf_h5_ok {d : Nat} (h : Cx p s m c cX9_bytesOf 3 RX9 s0 args0 D ca a A) (hr : meth.sig.returnType = some .int) (hlk : meth.locks = false) (hD : 1 ≤ d) : ∀ (n : Nat) (v0 : Int32) (v1 : Int32) (v2 : Int32) (S : St), VV p l e (rmd d) s m args below meth c D ca tpC a A 3 (QmI D ca tpC a A below args s) S [(0, .int v0), (1, .int v1), (2, .int v2)] 5 [] (c_Tape_bytesOf_h5 n v0 v1 v2 S) := by
  intro n
  induction n with
  | zero => intro v0 v1 v2 S; exact V_none
  | succ n ih =>
    intro v0 v1 v2 S
    unfold c_Tape_bytesOf_h5
    refine V_iload_n (pc := 5) h 2 dX9_bytesOf_5 rfl rfl ?_
    refine V_if_lt (pc := 6) h 28 dX9_bytesOf_6 (by decide) ?_ ?_
    · refine V_iload_n (pc := 28) h 1 dX9_bytesOf_28 rfl rfl ?_
      exact V_iret (pc := 29) h hr hlk dX9_bytesOf_29
    · refine V_iload_n (pc := 9) h 0 dX9_bytesOf_9 rfl rfl ?_
      refine V_iload_n (pc := 10) h 2 dX9_bytesOf_10 rfl rfl ?_
      refine V_iushr (pc := 11) h dX9_bytesOf_11 ?_
      refine V_sipush (pc := 12) (v := 255) h dX9_bytesOf_12 (by decide) ?_
      refine V_iand (pc := 15) h dX9_bytesOf_15 ?_
      refine V_if_eq (pc := 16) h 22 dX9_bytesOf_16 (by decide) ?_ ?_
      · exact V_ls [0, 1, 2] rfl (c_Tape_bytesOf_b22_ok h hr hlk hD (c_Tape_bytesOf_h5 n) ih v0 v1 v2 S)
      · refine V_iincB (pc := 19) h 1 (1 : Int32) (fun x1 => [(1, .int x1), (0, .int v0), (2, .int v2)]) dX9_bytesOf_19 rfl (by decide) (by decide) (fun _ => rfl) (fun x1 => ?_)
        exact V_ls [1, 0, 2] rfl (c_Tape_bytesOf_b22_ok h hr hlk hD (c_Tape_bytesOf_h5 n) ih v0 x1 v2 S)
def c_Tape_bytesOf (v0 : Int32) (S : St) : Option (Int32 × St) := (c_Tape_bytesOf_h5 FU v0 (0 : Int32) (24 : Int32) S)
set_option maxHeartbeats 4000000 in
set_option maxRecDepth 100000 in
theorem c_Tape_bytesOf_ok {d : Nat} (h : Cx p s m c cX9_bytesOf 3 RX9 s0 args0 D ca a A) (hr : meth.sig.returnType = some .int) (hlk : meth.locks = false) (hD : 1 ≤ d) (v0 : Int32) (S : St) : VV p l e (rmd d) s m args below meth c D ca tpC a A 3 (QmI D ca tpC a A below args s) S [(0, .int v0)] 0 [] (c_Tape_bytesOf v0 S) := by
  unfold c_Tape_bytesOf
  refine V_iconst (pc := 0) (v := 0) h dX9_bytesOf_0 (by decide) ?_
  refine V_istore_n (pc := 1) h [(1, .int (0 : Int32)), (0, .int v0)] dX9_bytesOf_1 rfl (by decide) rfl ?_
  refine V_bipush (pc := 2) (v := 24) h dX9_bytesOf_2 (by decide) ?_
  refine V_istore_n (pc := 4) h [(2, .int (24 : Int32)), (1, .int (0 : Int32)), (0, .int v0)] dX9_bytesOf_4 rfl (by decide) rfl ?_
  exact V_ls [2, 1, 0] rfl (c_Tape_bytesOf_h5_ok h hr hlk hD FU v0 (0 : Int32) (24 : Int32) S)
theorem c_Tape_bytesOf_ct {d : Nat} (g : GG s0 args0 D ca a A) (hD : 1 ≤ d) (v0 : Int32) (S : St) (z : Int32 × St) (hz : c_Tape_bytesOf v0 S = some z) : CtI l yX9_bytesOf cX9_bytesOf 3 .int d s0 D ca tpC a A [.int v0] S z := CtI_mk g (by decide +kernel) (Nat.le_of_ble_eq_true rfl) hz (fun p e s m args below meth c h hr hlk => c_Tape_bytesOf_ok h hr hlk hD v0 S)
def c_Tape_add_b49 (L3 : Int32 → Int32 → St → Option St) (v1 : Int32) (v2 : Int32) (S : St) : Option St := (bnd (v2 + (-8 : Int32)) (fun x1 => (L3 v1 x1 S)))
set_option maxHeartbeats 4000000 in
set_option maxRecDepth 100000 in
theorem c_Tape_add_b49_ok {d : Nat} (h : Cx p s m c cX9_add 4 RX9 s0 args0 D ca a A) (hr : meth.sig.returnType = none) (hlk : meth.locks = false) (hD : 1 ≤ d) (L3 : Int32 → Int32 → St → Option St) (hL3 : ∀ (v1 : Int32) (v2 : Int32) (S : St), VV p l e (rmd d) s m args below meth c D ca tpC a A 4 (QmV D ca tpC a A below args s) S [(0, .ref (a 1)), (1, .int v1), (2, .int v2)] 3 [] (L3 v1 v2 S)) (v1 : Int32) (v2 : Int32) (S : St) : VV p l e (rmd d) s m args below meth c D ca tpC a A 4 (QmV D ca tpC a A below args s) S [(0, .ref (a 1)), (1, .int v1), (2, .int v2)] 49 [] (c_Tape_add_b49 L3 v1 v2 S) := by
  unfold c_Tape_add_b49
  refine V_iincB (pc := 49) h 2 (-8 : Int32) (fun x1 => [(2, .int x1), (0, .ref (a 1)), (1, .int v1)]) dX9_add_49 rfl (by decide) (by decide) (fun _ => rfl) (fun x1 => ?_)
  refine V_goto (pc := 52) h 3 dX9_add_52 (by decide) ?_
  exact V_ls [1, 2, 0] rfl (hL3 v1 x1 S)
def c_Tape_add_h3 : Nat → Int32 → Int32 → St → Option St
  | 0, _, _, _ => none
  | n + 1, v1, v2, S => (if v2 < 0 then (some S) else (bnd (((v1.toUInt32 >>> (v2.toUInt32 &&& Int32.toUInt32 31)).toInt32) &&& (255 : Int32)) (fun x1 => (if x1 = 0 then (c_Tape_add_b49 (c_Tape_add_h3 n) v1 v2 S) else (if (160 : Int32) ≤ (S 1 1) then (c_Tape_add_b49 (c_Tape_add_h3 n) v1 v2 S) else (ckM (S 1 1) 160 (bnd (up2 S 2 (S 1 1).toNatClampNeg x1) (fun S2 => (bnd (up2 S2 1 1 ((S2 1 1) + (1 : Int32))) (fun S3 => (c_Tape_add_b49 (c_Tape_add_h3 n) v1 v2 S3)))))))))))
set_option maxHeartbeats 4000000 in
set_option maxRecDepth 100000 in
theorem c_Tape_add_h3_ok {d : Nat} (h : Cx p s m c cX9_add 4 RX9 s0 args0 D ca a A) (hr : meth.sig.returnType = none) (hlk : meth.locks = false) (hD : 1 ≤ d) : ∀ (n : Nat) (v1 : Int32) (v2 : Int32) (S : St), VV p l e (rmd d) s m args below meth c D ca tpC a A 4 (QmV D ca tpC a A below args s) S [(0, .ref (a 1)), (1, .int v1), (2, .int v2)] 3 [] (c_Tape_add_h3 n v1 v2 S) := by
  intro n
  induction n with
  | zero => intro v1 v2 S; exact V_none
  | succ n ih =>
    intro v1 v2 S
    unfold c_Tape_add_h3
    refine V_iload_n (pc := 3) h 2 dX9_add_3 rfl rfl ?_
    refine V_if_lt (pc := 4) h 55 dX9_add_4 (by decide) ?_ ?_
    · exact V_vret (pc := 55) h hr hlk dX9_add_55
    · refine V_iload_n (pc := 7) h 1 dX9_add_7 rfl rfl ?_
      refine V_iload_n (pc := 8) h 2 dX9_add_8 rfl rfl ?_
      refine V_iushr (pc := 9) h dX9_add_9 ?_
      refine V_sipush (pc := 10) (v := 255) h dX9_add_10 (by decide) ?_
      refine V_iand (pc := 13) h dX9_add_13 ?_
      refine V_top (fun x1 => ?_)
      refine V_istore_n (pc := 14) h [(3, .int x1), (0, .ref (a 1)), (1, .int v1), (2, .int v2)] dX9_add_14 rfl (by decide) rfl ?_
      refine V_iload_n (pc := 15) h 0 dX9_add_15 rfl rfl ?_
      refine V_if_eq (pc := 16) h 49 dX9_add_16 (by decide) ?_ ?_
      · exact V_ls [1, 2, 3] rfl (c_Tape_add_b49_ok h hr hlk hD (c_Tape_add_h3 n) ih v1 v2 S)
      · refine V_aload_n (pc := 19) h 1 dX9_add_19 rfl rfl ?_
        refine V_get (pc := 20) h 1 1 (.int (S 1 1)) fl_X9_15_X9 oC_1 rfl rfl dX9_add_20 ?_
        refine V_sipush (pc := 23) (v := 160) h dX9_add_23 (by decide) ?_
        refine V_icmp_ge (pc := 26) h 49 dX9_add_26 (by decide) ?_ ?_
        · exact V_ls [1, 2, 3] rfl (c_Tape_add_b49_ok h hr hlk hD (c_Tape_add_h3 n) ih v1 v2 S)
        · refine V_aload_n (pc := 29) h 1 dX9_add_29 rfl rfl ?_
          refine V_get (pc := 30) h 1 0 (.ref (a 2)) fl_X9_9_X9 oC_1 rfl rfl dX9_add_30 ?_
          refine V_aload_n (pc := 33) h 1 dX9_add_33 rfl rfl ?_
          refine V_get (pc := 34) h 1 1 (.int (S 1 1)) fl_X9_15_X9 oC_1 rfl rfl dX9_add_34 ?_
          refine V_iload_n (pc := 37) h 0 dX9_add_37 rfl rfl ?_
          refine V_iast (pc := 38) h 2 oC_2 dX9_add_38 (fun S2 => ?_)
          refine V_aload_n (pc := 39) h 1 dX9_add_39 rfl rfl ?_
          refine V_dup (pc := 40) h dX9_add_40 rfl ?_
          refine V_get (pc := 41) h 1 1 (.int (S2 1 1)) fl_X9_15_X9 oC_1 rfl rfl dX9_add_41 ?_
          refine V_iconst (pc := 44) (v := 1) h dX9_add_44 (by decide) ?_
          refine V_iadd (pc := 45) h dX9_add_45 ?_
          refine V_put (pc := 46) h 1 1 ((S2 1 1) + (1 : Int32)) fp_X9_15_X9 oC_1 rfl rfl rfl rfl dX9_add_46 (fun S3 => ?_)
          exact V_ls [1, 2, 3] rfl (c_Tape_add_b49_ok h hr hlk hD (c_Tape_add_h3 n) ih v1 v2 S3)
def c_Tape_add (v1 : Int32) (S : St) : Option St := (c_Tape_add_h3 FU v1 (24 : Int32) S)
set_option maxHeartbeats 4000000 in
set_option maxRecDepth 100000 in
theorem c_Tape_add_ok {d : Nat} (h : Cx p s m c cX9_add 4 RX9 s0 args0 D ca a A) (hr : meth.sig.returnType = none) (hlk : meth.locks = false) (hD : 1 ≤ d) (v1 : Int32) (S : St) : VV p l e (rmd d) s m args below meth c D ca tpC a A 4 (QmV D ca tpC a A below args s) S [(0, .ref (a 1)), (1, .int v1)] 0 [] (c_Tape_add v1 S) := by
  unfold c_Tape_add
  refine V_bipush (pc := 0) (v := 24) h dX9_add_0 (by decide) ?_
  refine V_istore_n (pc := 2) h [(2, .int (24 : Int32)), (0, .ref (a 1)), (1, .int v1)] dX9_add_2 rfl (by decide) rfl ?_
  exact V_ls [1, 2, 0] rfl (c_Tape_add_h3_ok h hr hlk hD FU v1 (24 : Int32) S)
theorem c_Tape_add_ct {d : Nat} (g : GG s0 args0 D ca a A) (hD : 1 ≤ d) (v1 : Int32) (S : St) (z : St) (hz : c_Tape_add v1 S = some z) : CtV l yX9_add cX9_add 4 d s0 D ca tpC a A [.ref (a 1), .int v1] S z := CtV_mk g (by decide +kernel) (Nat.le_of_ble_eq_true rfl) hz (fun p e s m args below meth c h hr hlk => c_Tape_add_ok h hr hlk hD v1 S)
def c_N_feed (v1 : Int32) (v2 : Int32) (v3 : Int32) (v4 : Int32) (v5 : Int32) (S : St) : Option (Int32 × St) := (bI (c_Tape_bytesOf v1 S) (fun x2 S1 => (bI (c_Tape_bytesOf v2 S1) (fun x4 S3 => (bI (c_Tape_bytesOf v3 S3) (fun x6 S5 => (bI (c_Tape_bytesOf v4 S5) (fun x8 S7 => (bI (c_Tape_bytesOf v5 S7) (fun x10 S9 => (bnd ((((x2 + x4) + x6) + x8) + x10) (fun x11 => (if ((S9 1 1) + x11) ≤ (160 : Int32) then (bV (c_Tape_add v1 S9) (fun S12 => (bV (c_Tape_add v2 S12) (fun S13 => (bV (c_Tape_add v3 S13) (fun S14 => (bV (c_Tape_add v4 S14) (fun S15 => (bV (c_Tape_add v5 S15) (fun S16 => (some ((S16 1 1), S16)))))))))))) else (some ((-1 : Int32), S9)))))))))))))))
set_option maxHeartbeats 4000000 in
set_option maxRecDepth 100000 in
theorem c_N_feed_ok {d : Nat} (h : Cx p s m c cX10_feed 7 RX10 s0 args0 D ca a A) (hr : meth.sig.returnType = some .int) (hlk : meth.locks = false) (hD : 2 ≤ d) (v1 : Int32) (v2 : Int32) (v3 : Int32) (v4 : Int32) (v5 : Int32) (S : St) : VV p l e (rmd d) s m args below meth c D ca tpC a A 7 (QmI D ca tpC a A below args s) S [(0, .ref (a 0)), (1, .int v1), (2, .int v2), (3, .int v3), (4, .int v4), (5, .int v5)] 0 [] (c_N_feed v1 v2 v3 v4 v5 S) := by
  unfold c_N_feed
  refine V_iload_n (pc := 0) h 1 dX10_feed_0 rfl rfl ?_
  refine V_callSI (pc := 1) (dy := 1) h [.int v1] [] ms_X10_99 dX10_feed_1 rfl rfl (Nat.le_of_ble_eq_true rfl) (Nat.le_trans (by decide) hD) (c_Tape_bytesOf v1 S) (fun z9 hz9 => c_Tape_bytesOf_ct h.gg (Nat.le_refl 1) v1 S z9 hz9) (fun x2 S1 => ?_)
  refine V_iload_n (pc := 4) h 2 dX10_feed_4 rfl rfl ?_
  refine V_callSI (pc := 5) (dy := 1) h [.int v2] [.int x2] ms_X10_99 dX10_feed_5 rfl rfl (Nat.le_of_ble_eq_true rfl) (Nat.le_trans (by decide) hD) (c_Tape_bytesOf v2 S1) (fun z9 hz9 => c_Tape_bytesOf_ct h.gg (Nat.le_refl 1) v2 S1 z9 hz9) (fun x4 S3 => ?_)
  refine V_iadd (pc := 8) h dX10_feed_8 ?_
  refine V_iload_n (pc := 9) h 3 dX10_feed_9 rfl rfl ?_
  refine V_callSI (pc := 10) (dy := 1) h [.int v3] [.int (x2 + x4)] ms_X10_99 dX10_feed_10 rfl rfl (Nat.le_of_ble_eq_true rfl) (Nat.le_trans (by decide) hD) (c_Tape_bytesOf v3 S3) (fun z9 hz9 => c_Tape_bytesOf_ct h.gg (Nat.le_refl 1) v3 S3 z9 hz9) (fun x6 S5 => ?_)
  refine V_iadd (pc := 13) h dX10_feed_13 ?_
  refine V_iload (pc := 14) h 4 dX10_feed_14 rfl ?_
  refine V_callSI (pc := 16) (dy := 1) h [.int v4] [.int ((x2 + x4) + x6)] ms_X10_99 dX10_feed_16 rfl rfl (Nat.le_of_ble_eq_true rfl) (Nat.le_trans (by decide) hD) (c_Tape_bytesOf v4 S5) (fun z9 hz9 => c_Tape_bytesOf_ct h.gg (Nat.le_refl 1) v4 S5 z9 hz9) (fun x8 S7 => ?_)
  refine V_iadd (pc := 19) h dX10_feed_19 ?_
  refine V_iload (pc := 20) h 5 dX10_feed_20 rfl ?_
  refine V_callSI (pc := 22) (dy := 1) h [.int v5] [.int (((x2 + x4) + x6) + x8)] ms_X10_99 dX10_feed_22 rfl rfl (Nat.le_of_ble_eq_true rfl) (Nat.le_trans (by decide) hD) (c_Tape_bytesOf v5 S7) (fun z9 hz9 => c_Tape_bytesOf_ct h.gg (Nat.le_refl 1) v5 S7 z9 hz9) (fun x10 S9 => ?_)
  refine V_iadd (pc := 25) h dX10_feed_25 ?_
  refine V_top (fun x11 => ?_)
  refine V_istore (pc := 26) h [(6, .int x11), (0, .ref (a 0)), (1, .int v1), (2, .int v2), (3, .int v3), (4, .int v4), (5, .int v5)] dX10_feed_26 (by decide) rfl ?_
  refine V_aload_n (pc := 28) h 1 dX10_feed_28 rfl rfl ?_
  refine V_get (pc := 29) h 0 0 (.ref (a 1)) fl_X10_10_X10 oC_0 rfl rfl dX10_feed_29 ?_
  refine V_get (pc := 32) h 1 1 (.int (S9 1 1)) fl_X10_103_X9 oC_1 rfl rfl dX10_feed_32 ?_
  refine V_iload (pc := 35) h 0 dX10_feed_35 rfl ?_
  refine V_iadd (pc := 37) h dX10_feed_37 ?_
  refine V_sipush (pc := 38) (v := 160) h dX10_feed_38 (by decide) ?_
  refine V_icmp_le (pc := 41) h 46 dX10_feed_41 (by decide) ?_ ?_
  · refine V_aload_n (pc := 46) h 1 dX10_feed_46 rfl rfl ?_
    refine V_get (pc := 47) h 0 0 (.ref (a 1)) fl_X10_10_X10 oC_0 rfl rfl dX10_feed_47 ?_
    refine V_iload_n (pc := 50) h 2 dX10_feed_50 rfl rfl ?_
    refine V_callVV (pc := 51) (dy := 1) (q := (RX9, TX9, 2)) h [.int v1] [] 1 mv_X10_106 oC_1 rfl dX10_feed_51 rfl rfl (Nat.le_of_ble_eq_true rfl) (Nat.le_trans (by decide) hD) (c_Tape_add v1 S9) (fun z9 hz9 => c_Tape_add_ct h.gg (Nat.le_refl 1) v1 S9 z9 hz9) (fun S12 => ?_)
    refine V_aload_n (pc := 54) h 1 dX10_feed_54 rfl rfl ?_
    refine V_get (pc := 55) h 0 0 (.ref (a 1)) fl_X10_10_X10 oC_0 rfl rfl dX10_feed_55 ?_
    refine V_iload_n (pc := 58) h 3 dX10_feed_58 rfl rfl ?_
    refine V_callVV (pc := 59) (dy := 1) (q := (RX9, TX9, 2)) h [.int v2] [] 1 mv_X10_106 oC_1 rfl dX10_feed_59 rfl rfl (Nat.le_of_ble_eq_true rfl) (Nat.le_trans (by decide) hD) (c_Tape_add v2 S12) (fun z9 hz9 => c_Tape_add_ct h.gg (Nat.le_refl 1) v2 S12 z9 hz9) (fun S13 => ?_)
    refine V_aload_n (pc := 62) h 1 dX10_feed_62 rfl rfl ?_
    refine V_get (pc := 63) h 0 0 (.ref (a 1)) fl_X10_10_X10 oC_0 rfl rfl dX10_feed_63 ?_
    refine V_iload_n (pc := 66) h 4 dX10_feed_66 rfl rfl ?_
    refine V_callVV (pc := 67) (dy := 1) (q := (RX9, TX9, 2)) h [.int v3] [] 1 mv_X10_106 oC_1 rfl dX10_feed_67 rfl rfl (Nat.le_of_ble_eq_true rfl) (Nat.le_trans (by decide) hD) (c_Tape_add v3 S13) (fun z9 hz9 => c_Tape_add_ct h.gg (Nat.le_refl 1) v3 S13 z9 hz9) (fun S14 => ?_)
    refine V_aload_n (pc := 70) h 1 dX10_feed_70 rfl rfl ?_
    refine V_get (pc := 71) h 0 0 (.ref (a 1)) fl_X10_10_X10 oC_0 rfl rfl dX10_feed_71 ?_
    refine V_iload (pc := 74) h 5 dX10_feed_74 rfl ?_
    refine V_callVV (pc := 76) (dy := 1) (q := (RX9, TX9, 2)) h [.int v4] [] 1 mv_X10_106 oC_1 rfl dX10_feed_76 rfl rfl (Nat.le_of_ble_eq_true rfl) (Nat.le_trans (by decide) hD) (c_Tape_add v4 S14) (fun z9 hz9 => c_Tape_add_ct h.gg (Nat.le_refl 1) v4 S14 z9 hz9) (fun S15 => ?_)
    refine V_aload_n (pc := 79) h 1 dX10_feed_79 rfl rfl ?_
    refine V_get (pc := 80) h 0 0 (.ref (a 1)) fl_X10_10_X10 oC_0 rfl rfl dX10_feed_80 ?_
    refine V_iload (pc := 83) h 6 dX10_feed_83 rfl ?_
    refine V_callVV (pc := 85) (dy := 1) (q := (RX9, TX9, 2)) h [.int v5] [] 1 mv_X10_106 oC_1 rfl dX10_feed_85 rfl rfl (Nat.le_of_ble_eq_true rfl) (Nat.le_trans (by decide) hD) (c_Tape_add v5 S15) (fun z9 hz9 => c_Tape_add_ct h.gg (Nat.le_refl 1) v5 S15 z9 hz9) (fun S16 => ?_)
    refine V_aload_n (pc := 88) h 1 dX10_feed_88 rfl rfl ?_
    refine V_get (pc := 89) h 0 0 (.ref (a 1)) fl_X10_10_X10 oC_0 rfl rfl dX10_feed_89 ?_
    refine V_get (pc := 92) h 1 1 (.int (S16 1 1)) fl_X10_103_X9 oC_1 rfl rfl dX10_feed_92 ?_
    exact V_iret (pc := 95) h hr hlk dX10_feed_95
  · refine V_iconst (pc := 44) (v := -1) h dX10_feed_44 (by decide) ?_
    exact V_iret (pc := 45) h hr hlk dX10_feed_45
theorem c_N_feed_ct {d : Nat} (g : GG s0 args0 D ca a A) (hD : 2 ≤ d) (v1 : Int32) (v2 : Int32) (v3 : Int32) (v4 : Int32) (v5 : Int32) (S : St) (z : Int32 × St) (hz : c_N_feed v1 v2 v3 v4 v5 S = some z) : CtI l yX10_feed cX10_feed 7 .int d s0 D ca tpC a A [.ref (a 0), .int v1, .int v2, .int v3, .int v4, .int v5] S z := CtI_mk g (by decide +kernel) (Nat.le_of_ble_eq_true rfl) hz (fun p e s m args below meth c h hr hlk => c_N_feed_ok h hr hlk hD v1 v2 v3 v4 v5 S)
def c_N_end (v1 : Int32) (S : St) : Option (Int32 × St) := (if v1 < 0 then (nzM (0 : Int32) (some ((0 : Int32), S))) else (if v1 ≤ (S 1 1) then (bnd (up2 S 1 1 v1) (fun S1 => (nzM (1 : Int32) (some ((1 : Int32), S1))))) else (nzM (0 : Int32) (some ((0 : Int32), S)))))
set_option maxHeartbeats 4000000 in
set_option maxRecDepth 100000 in
theorem c_N_end_ok {d : Nat} (h : Cx p s m c cX10_end 2 RX10 s0 args0 D ca a A) (hr : meth.sig.returnType = some .boolean) (hlk : meth.locks = false) (hD : 1 ≤ d) (v1 : Int32) (S : St) : VV p l e (rmd d) s m args below meth c D ca tpC a A 2 (QmI D ca tpC a A below args s) S [(0, .ref (a 0)), (1, .int v1)] 0 [] (c_N_end v1 S) := by
  unfold c_N_end
  refine V_iload_n (pc := 0) h 1 dX10_end_0 rfl rfl ?_
  refine V_if_lt (pc := 1) h 15 dX10_end_1 (by decide) ?_ ?_
  · refine V_iconst (pc := 15) (v := 0) h dX10_end_15 (by decide) ?_
    exact V_zret (pc := 16) h hr hlk dX10_end_16
  · refine V_iload_n (pc := 4) h 1 dX10_end_4 rfl rfl ?_
    refine V_aload_n (pc := 5) h 0 dX10_end_5 rfl rfl ?_
    refine V_get (pc := 6) h 0 0 (.ref (a 1)) fl_X10_10_X10 oC_0 rfl rfl dX10_end_6 ?_
    refine V_get (pc := 9) h 1 1 (.int (S 1 1)) fl_X10_103_X9 oC_1 rfl rfl dX10_end_9 ?_
    refine V_icmp_le (pc := 12) h 17 dX10_end_12 (by decide) ?_ ?_
    · refine V_aload_n (pc := 17) h 0 dX10_end_17 rfl rfl ?_
      refine V_get (pc := 18) h 0 0 (.ref (a 1)) fl_X10_10_X10 oC_0 rfl rfl dX10_end_18 ?_
      refine V_iload_n (pc := 21) h 1 dX10_end_21 rfl rfl ?_
      refine V_put (pc := 22) h 1 1 v1 fp_X10_103_X9 oC_1 rfl rfl rfl rfl dX10_end_22 (fun S1 => ?_)
      refine V_iconst (pc := 25) (v := 1) h dX10_end_25 (by decide) ?_
      exact V_zret (pc := 26) h hr hlk dX10_end_26
    · refine V_iconst (pc := 15) (v := 0) h dX10_end_15 (by decide) ?_
      exact V_zret (pc := 16) h hr hlk dX10_end_16
theorem c_N_end_ct {d : Nat} (g : GG s0 args0 D ca a A) (hD : 1 ≤ d) (v1 : Int32) (S : St) (z : Int32 × St) (hz : c_N_end v1 S = some z) : CtI l yX10_end cX10_end 2 .boolean d s0 D ca tpC a A [.ref (a 0), .int v1] S z := CtI_mk g (by decide +kernel) (Nat.le_of_ble_eq_true rfl) hz (fun p e s m args below meth c h hr hlk => c_N_end_ok h hr hlk hD v1 S)
def c_LikingReader_begin (S : St) : Option St := (bnd (up2 S 13 3 (0 : Int32)) (fun S1 => (some S1)))
set_option maxHeartbeats 4000000 in
set_option maxRecDepth 100000 in
theorem c_LikingReader_begin_ok {d : Nat} (h : Cx p s m c cX2_begin 1 RX2 s0 args0 D ca a A) (hr : meth.sig.returnType = none) (hlk : meth.locks = false) (hD : 1 ≤ d) (S : St) : VV p l e (rmd d) s m args below meth c D ca tpC a A 1 (QmV D ca tpC a A below args s) S [(0, .ref (a 13))] 0 [] (c_LikingReader_begin S) := by
  unfold c_LikingReader_begin
  refine V_aload_n (pc := 0) h 0 dX2_begin_0 rfl rfl ?_
  refine V_iconst (pc := 1) (v := 0) h dX2_begin_1 (by decide) ?_
  refine V_put (pc := 2) h 13 3 (0 : Int32) fp_X2_15_X2 oC_13 rfl rfl rfl rfl dX2_begin_2 (fun S1 => ?_)
  exact V_vret (pc := 5) h hr hlk dX2_begin_5
theorem c_LikingReader_begin_ct {d : Nat} (g : GG s0 args0 D ca a A) (hD : 1 ≤ d) (S : St) (z : St) (hz : c_LikingReader_begin S = some z) : CtV l yX2_begin cX2_begin 1 d s0 D ca tpC a A [.ref (a 13)] S z := CtV_mk g (by decide +kernel) (Nat.le_of_ble_eq_true rfl) hz (fun p e s m args below meth c h hr hlk => c_LikingReader_begin_ok h hr hlk hD S)
def c_LikingReader_skipToHere (v1 : Int32) (S : St) : Option St := (if v1 < 0 then (some S) else (if (160 : Int32) ≤ v1 then (some S) else (ckM v1 160 (bnd (up2 S 14 v1.toNatClampNeg (((S 13 3) <<< ((8 : Int32) &&& 31)) ||| (63 : Int32))) (fun S1 => (some S1))))))
set_option maxHeartbeats 4000000 in
set_option maxRecDepth 100000 in
theorem c_LikingReader_skipToHere_ok {d : Nat} (h : Cx p s m c cX2_skipToHere 2 RX2 s0 args0 D ca a A) (hr : meth.sig.returnType = none) (hlk : meth.locks = false) (hD : 1 ≤ d) (v1 : Int32) (S : St) : VV p l e (rmd d) s m args below meth c D ca tpC a A 2 (QmV D ca tpC a A below args s) S [(0, .ref (a 13)), (1, .int v1)] 0 [] (c_LikingReader_skipToHere v1 S) := by
  unfold c_LikingReader_skipToHere
  refine V_iload_n (pc := 0) h 1 dX2_skipToHere_0 rfl rfl ?_
  refine V_if_lt (pc := 1) h 29 dX2_skipToHere_1 (by decide) ?_ ?_
  · exact V_vret (pc := 29) h hr hlk dX2_skipToHere_29
  · refine V_iload_n (pc := 4) h 1 dX2_skipToHere_4 rfl rfl ?_
    refine V_aload_n (pc := 5) h 0 dX2_skipToHere_5 rfl rfl ?_
    refine V_get (pc := 6) h 13 2 (.ref (a 14)) fl_X2_9_X2 oC_13 rfl rfl dX2_skipToHere_6 ?_
    refine V_alen (pc := 9) h 14 (160 : Int32) oC_14 (by decide) (by decide) dX2_skipToHere_9 ?_
    refine V_icmp_ge (pc := 10) h 29 dX2_skipToHere_10 (by decide) ?_ ?_
    · exact V_vret (pc := 29) h hr hlk dX2_skipToHere_29
    · refine V_aload_n (pc := 13) h 0 dX2_skipToHere_13 rfl rfl ?_
      refine V_get (pc := 14) h 13 2 (.ref (a 14)) fl_X2_9_X2 oC_13 rfl rfl dX2_skipToHere_14 ?_
      refine V_iload_n (pc := 17) h 1 dX2_skipToHere_17 rfl rfl ?_
      refine V_aload_n (pc := 18) h 0 dX2_skipToHere_18 rfl rfl ?_
      refine V_get (pc := 19) h 13 3 (.int (S 13 3)) fl_X2_15_X2 oC_13 rfl rfl dX2_skipToHere_19 ?_
      refine V_bipush (pc := 22) (v := 8) h dX2_skipToHere_22 (by decide) ?_
      refine V_ishl (pc := 24) h dX2_skipToHere_24 ?_
      refine V_bipush (pc := 25) (v := 63) h dX2_skipToHere_25 (by decide) ?_
      refine V_ior (pc := 27) h dX2_skipToHere_27 ?_
      refine V_iast (pc := 28) h 14 oC_14 dX2_skipToHere_28 (fun S1 => ?_)
      exact V_vret (pc := 29) h hr hlk dX2_skipToHere_29
theorem c_LikingReader_skipToHere_ct {d : Nat} (g : GG s0 args0 D ca a A) (hD : 1 ≤ d) (v1 : Int32) (S : St) (z : St) (hz : c_LikingReader_skipToHere v1 S = some z) : CtV l yX2_skipToHere cX2_skipToHere 2 d s0 D ca tpC a A [.ref (a 13), .int v1] S z := CtV_mk g (by decide +kernel) (Nat.le_of_ble_eq_true rfl) hz (fun p e s m args below meth c h hr hlk => c_LikingReader_skipToHere_ok h hr hlk hD v1 S)
def c_LikingReader_readClause_b141 (v3 : Int32) (S : St) : Option (Int32 × St) := (bV (c_LikingReader_write (59 : Int32) (0 : Int32) S) (fun S1 => (bV (c_LikingReader_skipToHere v3 S1) (fun S2 => (nzM (1 : Int32) (some ((1 : Int32), S2)))))))
set_option maxHeartbeats 4000000 in
set_option maxRecDepth 100000 in
theorem c_LikingReader_readClause_b141_ok {d : Nat} (h : Cx p s m c cX2_readClause 4 RX2 s0 args0 D ca a A) (hr : meth.sig.returnType = some .boolean) (hlk : meth.locks = false) (hD : 46 ≤ d) (v3 : Int32) (S : St) : VV p l e (rmd d) s m args below meth c D ca tpC a A 4 (QmI D ca tpC a A below args s) S [(0, .ref (a 13)), (3, .int v3)] 141 [] (c_LikingReader_readClause_b141 v3 S) := by
  unfold c_LikingReader_readClause_b141
  refine V_aload_n (pc := 141) h 0 dX2_readClause_141 rfl rfl ?_
  refine V_bipush (pc := 142) (v := 59) h dX2_readClause_142 (by decide) ?_
  refine V_iconst (pc := 144) (v := 0) h dX2_readClause_144 (by decide) ?_
  refine V_callVV (pc := 145) (dy := 1) (q := (RX2, TX2, 4)) h [.int (59 : Int32), .int (0 : Int32)] [] 13 mv_X2_42 oC_13 rfl dX2_readClause_145 rfl rfl (Nat.le_of_ble_eq_true rfl) (Nat.le_trans (by decide) hD) (c_LikingReader_write (59 : Int32) (0 : Int32) S) (fun z9 hz9 => c_LikingReader_write_ct h.gg (Nat.le_refl 1) (59 : Int32) (0 : Int32) S z9 hz9) (fun S1 => ?_)
  refine V_aload_n (pc := 148) h 0 dX2_readClause_148 rfl rfl ?_
  refine V_iload_n (pc := 149) h 1 dX2_readClause_149 rfl rfl ?_
  refine V_callVV (pc := 150) (dy := 1) (q := (RX2, TX2, 4)) h [.int v3] [] 13 mv_X2_46 oC_13 rfl dX2_readClause_150 rfl rfl (Nat.le_of_ble_eq_true rfl) (Nat.le_trans (by decide) hD) (c_LikingReader_skipToHere v3 S1) (fun z9 hz9 => c_LikingReader_skipToHere_ct h.gg (Nat.le_refl 1) v3 S1 z9 hz9) (fun S2 => ?_)
  refine V_iconst (pc := 153) (v := 1) h dX2_readClause_153 (by decide) ?_
  exact V_zret (pc := 154) h hr hlk dX2_readClause_154
def c_LikingReader_readClause_b94 (v2 : Int32) (S : St) : Option (Int32 × St) := (if v2 = 0 then (c_LikingReader_readClause_b141 (-1 : Int32) S) else (bI (c_LikingReader_readRestOfCondition_x (0 : Int32) S) (fun x2 S1 => (if x2 = 0 then (nzM (0 : Int32) (some ((0 : Int32), S1))) else (bI (c_Reader_takes_13 (63 : Int32) S1) (fun x4 S3 => (if x4 = 0 then (nzM (0 : Int32) (some ((0 : Int32), S3))) else (bnd (S3 13 3) (fun x5 => (bV (c_LikingReader_write (63 : Int32) (0 : Int32) S3) (fun S6 => (bI (c_LikingReader_readSum_x (0 : Int32) S6) (fun x8 S7 => (if x8 = 0 then (nzM (0 : Int32) (some ((0 : Int32), S7))) else (c_LikingReader_readClause_b141 x5 S7)))))))))))))))
set_option maxHeartbeats 4000000 in
set_option maxRecDepth 100000 in
theorem c_LikingReader_readClause_b94_ok {d : Nat} (h : Cx p s m c cX2_readClause 4 RX2 s0 args0 D ca a A) (hr : meth.sig.returnType = some .boolean) (hlk : meth.locks = false) (hD : 46 ≤ d) (v2 : Int32) (S : St) : VV p l e (rmd d) s m args below meth c D ca tpC a A 4 (QmI D ca tpC a A below args s) S [(0, .ref (a 13)), (2, .int v2)] 94 [] (c_LikingReader_readClause_b94 v2 S) := by
  unfold c_LikingReader_readClause_b94
  refine V_iconst (pc := 94) (v := -1) h dX2_readClause_94 (by decide) ?_
  refine V_istore_n (pc := 95) h [(3, .int (-1 : Int32)), (0, .ref (a 13)), (2, .int v2)] dX2_readClause_95 rfl (by decide) rfl ?_
  refine V_iload_n (pc := 96) h 2 dX2_readClause_96 rfl rfl ?_
  refine V_if_eq (pc := 97) h 141 dX2_readClause_97 (by decide) ?_ ?_
  · exact V_ls [1, 0] rfl (c_LikingReader_readClause_b141_ok h hr hlk hD (-1 : Int32) S)
  · refine V_aload_n (pc := 100) h 1 dX2_readClause_100 rfl rfl ?_
    refine V_iconst (pc := 101) (v := 0) h dX2_readClause_101 (by decide) ?_
    refine V_callVI (pc := 102) (dy := 45) (q := (RX2, TX2, 4)) h [.int (0 : Int32)] [] 13 mv_X2_39 oC_13 rfl dX2_readClause_102 rfl rfl (Nat.le_of_ble_eq_true rfl) (Nat.le_trans (by decide) hD) (c_LikingReader_readRestOfCondition_x (0 : Int32) S) (fun z9 hz9 => c_LikingReader_readRestOfCondition_x_ct h.gg (Nat.le_refl 45) (Nat.le_refl 45) (0 : Int32) S z9 hz9) (fun x2 S1 => ?_)
    refine V_if_eq (pc := 105) h 117 dX2_readClause_105 (by decide) ?_ ?_
    · refine V_iconst (pc := 117) (v := 0) h dX2_readClause_117 (by decide) ?_
      exact V_zret (pc := 118) h hr hlk dX2_readClause_118
    · refine V_aload_n (pc := 108) h 1 dX2_readClause_108 rfl rfl ?_
      refine V_bipush (pc := 109) (v := 63) h dX2_readClause_109 (by decide) ?_
      refine V_callUI (pc := 111) (dy := 2) (q := (RX2, TX2, 4)) h [.int (63 : Int32)] [] 13 mu_X2_19_X2 oC_13 rfl dX2_readClause_111 rfl rfl (Nat.le_of_ble_eq_true rfl) (Nat.le_trans (by decide) hD) (c_Reader_takes_13 (63 : Int32) S1) (fun z9 hz9 => c_Reader_takes_13_ct h.gg (Nat.le_refl 2) (63 : Int32) S1 z9 hz9) (fun x4 S3 => ?_)
      refine V_if_ne (pc := 114) h 119 dX2_readClause_114 (by decide) ?_ ?_
      · refine V_aload_n (pc := 119) h 1 dX2_readClause_119 rfl rfl ?_
        refine V_get (pc := 120) h 13 3 (.int (S3 13 3)) fl_X2_15_X2 oC_13 rfl rfl dX2_readClause_120 ?_
        refine V_top (fun x5 => ?_)
        refine V_istore_n (pc := 123) h [(3, .int x5), (0, .ref (a 13)), (2, .int v2)] dX2_readClause_123 rfl (by decide) rfl ?_
        refine V_aload_n (pc := 124) h 1 dX2_readClause_124 rfl rfl ?_
        refine V_bipush (pc := 125) (v := 63) h dX2_readClause_125 (by decide) ?_
        refine V_iconst (pc := 127) (v := 0) h dX2_readClause_127 (by decide) ?_
        refine V_callVV (pc := 128) (dy := 1) (q := (RX2, TX2, 4)) h [.int (63 : Int32), .int (0 : Int32)] [] 13 mv_X2_42 oC_13 rfl dX2_readClause_128 rfl rfl (Nat.le_of_ble_eq_true rfl) (Nat.le_trans (by decide) hD) (c_LikingReader_write (63 : Int32) (0 : Int32) S3) (fun z9 hz9 => c_LikingReader_write_ct h.gg (Nat.le_refl 1) (63 : Int32) (0 : Int32) S3 z9 hz9) (fun S6 => ?_)
        refine V_aload_n (pc := 131) h 1 dX2_readClause_131 rfl rfl ?_
        refine V_iconst (pc := 132) (v := 0) h dX2_readClause_132 (by decide) ?_
        refine V_callVI (pc := 133) (dy := 45) (q := (RX2, TX2, 4)) h [.int (0 : Int32)] [] 13 mv_X2_30 oC_13 rfl dX2_readClause_133 rfl rfl (Nat.le_of_ble_eq_true rfl) (Nat.le_trans (by decide) hD) (c_LikingReader_readSum_x (0 : Int32) S6) (fun z9 hz9 => c_LikingReader_readSum_x_ct h.gg (Nat.le_refl 45) (Nat.le_refl 45) (0 : Int32) S6 z9 hz9) (fun x8 S7 => ?_)
        refine V_if_ne (pc := 136) h 141 dX2_readClause_136 (by decide) ?_ ?_
        · exact V_ls [1, 0] rfl (c_LikingReader_readClause_b141_ok h hr hlk hD x5 S7)
        · refine V_iconst (pc := 139) (v := 0) h dX2_readClause_139 (by decide) ?_
          exact V_zret (pc := 140) h hr hlk dX2_readClause_140
      · refine V_iconst (pc := 117) (v := 0) h dX2_readClause_117 (by decide) ?_
        exact V_zret (pc := 118) h hr hlk dX2_readClause_118
def c_LikingReader_readClause_b68 (v2 : Int32) (S : St) : Option (Int32 × St) := (if v2 = 0 then (bI (c_Reader_next_13 S) (fun x2 S1 => (bI (c_LikingReader_isComparison x2 S1) (fun x4 S3 => (if x4 = 0 then (c_LikingReader_readClause_b94 v2 S3) else (bI (c_LikingReader_readComparison_x (0 : Int32) S3) (fun x6 S5 => (if x6 = 0 then (nzM (0 : Int32) (some ((0 : Int32), S5))) else (c_LikingReader_readClause_b94 (1 : Int32) S5))))))))) else (c_LikingReader_readClause_b94 v2 S))
set_option maxHeartbeats 4000000 in
set_option maxRecDepth 100000 in
theorem c_LikingReader_readClause_b68_ok {d : Nat} (h : Cx p s m c cX2_readClause 4 RX2 s0 args0 D ca a A) (hr : meth.sig.returnType = some .boolean) (hlk : meth.locks = false) (hD : 46 ≤ d) (v2 : Int32) (S : St) : VV p l e (rmd d) s m args below meth c D ca tpC a A 4 (QmI D ca tpC a A below args s) S [(0, .ref (a 13)), (2, .int v2)] 68 [] (c_LikingReader_readClause_b68 v2 S) := by
  unfold c_LikingReader_readClause_b68
  refine V_iload_n (pc := 68) h 1 dX2_readClause_68 rfl rfl ?_
  refine V_if_ne (pc := 69) h 94 dX2_readClause_69 (by decide) ?_ ?_
  · exact V_ls [0, 1] rfl (c_LikingReader_readClause_b94_ok h hr hlk hD v2 S)
  · refine V_aload_n (pc := 72) h 0 dX2_readClause_72 rfl rfl ?_
    refine V_callUI (pc := 73) (dy := 1) (q := (RX2, TX2, 4)) h [] [] 13 mu_X2_23_X2 oC_13 rfl dX2_readClause_73 rfl rfl (Nat.le_of_ble_eq_true rfl) (Nat.le_trans (by decide) hD) (c_Reader_next_13 S) (fun z9 hz9 => c_Reader_next_13_ct h.gg (Nat.le_refl 1) S z9 hz9) (fun x2 S1 => ?_)
    refine V_callSI (pc := 76) (dy := 1) h [.int x2] [] ms_X2_33 dX2_readClause_76 rfl rfl (Nat.le_of_ble_eq_true rfl) (Nat.le_trans (by decide) hD) (c_LikingReader_isComparison x2 S1) (fun z9 hz9 => c_LikingReader_isComparison_ct h.gg (Nat.le_refl 1) x2 S1 z9 hz9) (fun x4 S3 => ?_)
    refine V_if_eq (pc := 79) h 94 dX2_readClause_79 (by decide) ?_ ?_
    · exact V_ls [0, 1] rfl (c_LikingReader_readClause_b94_ok h hr hlk hD v2 S3)
    · refine V_iconst (pc := 82) (v := 1) h dX2_readClause_82 (by decide) ?_
      refine V_istore_n (pc := 83) h [(2, .int (1 : Int32)), (0, .ref (a 13))] dX2_readClause_83 rfl (by decide) rfl ?_
      refine V_aload_n (pc := 84) h 1 dX2_readClause_84 rfl rfl ?_
      refine V_iconst (pc := 85) (v := 0) h dX2_readClause_85 (by decide) ?_
      refine V_callVI (pc := 86) (dy := 45) (q := (RX2, TX2, 4)) h [.int (0 : Int32)] [] 13 mv_X2_36 oC_13 rfl dX2_readClause_86 rfl rfl (Nat.le_of_ble_eq_true rfl) (Nat.le_trans (by decide) hD) (c_LikingReader_readComparison_x (0 : Int32) S3) (fun z9 hz9 => c_LikingReader_readComparison_x_ct h.gg (Nat.le_refl 45) (Nat.le_refl 45) (0 : Int32) S3 z9 hz9) (fun x6 S5 => ?_)
      refine V_if_ne (pc := 89) h 94 dX2_readClause_89 (by decide) ?_ ?_
      · exact V_ls [1, 0] rfl (c_LikingReader_readClause_b94_ok h hr hlk hD (1 : Int32) S5)
      · refine V_iconst (pc := 92) (v := 0) h dX2_readClause_92 (by decide) ?_
        exact V_zret (pc := 93) h hr hlk dX2_readClause_93
def c_LikingReader_readClause_b42 (k0 : Int32) (S : St) : Option (Int32 × St) := (if k0 = 0 then (bI (c_LikingReader_readSum_x (0 : Int32) S) (fun x2 S1 => (if x2 = 0 then (nzM (0 : Int32) (some ((0 : Int32), S1))) else (c_LikingReader_readClause_b68 k0 S1)))) else (bI (c_LikingReader_readUnit_x (0 : Int32) S) (fun x4 S3 => (if x4 = 0 then (nzM (0 : Int32) (some ((0 : Int32), S3))) else (c_LikingReader_readClause_b68 k0 S3)))))
set_option maxHeartbeats 4000000 in
set_option maxRecDepth 100000 in
theorem c_LikingReader_readClause_b42_ok {d : Nat} (h : Cx p s m c cX2_readClause 4 RX2 s0 args0 D ca a A) (hr : meth.sig.returnType = some .boolean) (hlk : meth.locks = false) (hD : 46 ≤ d) (k0 : Int32) (S : St) : VV p l e (rmd d) s m args below meth c D ca tpC a A 4 (QmI D ca tpC a A below args s) S [(0, .ref (a 13))] 42 [.int k0] (c_LikingReader_readClause_b42 k0 S) := by
  unfold c_LikingReader_readClause_b42
  refine V_istore_n (pc := 42) h [(2, .int k0), (0, .ref (a 13))] dX2_readClause_42 rfl (by decide) rfl ?_
  refine V_iload_n (pc := 43) h 0 dX2_readClause_43 rfl rfl ?_
  refine V_if_eq (pc := 44) h 58 dX2_readClause_44 (by decide) ?_ ?_
  · refine V_aload_n (pc := 58) h 1 dX2_readClause_58 rfl rfl ?_
    refine V_iconst (pc := 59) (v := 0) h dX2_readClause_59 (by decide) ?_
    refine V_callVI (pc := 60) (dy := 45) (q := (RX2, TX2, 4)) h [.int (0 : Int32)] [] 13 mv_X2_30 oC_13 rfl dX2_readClause_60 rfl rfl (Nat.le_of_ble_eq_true rfl) (Nat.le_trans (by decide) hD) (c_LikingReader_readSum_x (0 : Int32) S) (fun z9 hz9 => c_LikingReader_readSum_x_ct h.gg (Nat.le_refl 45) (Nat.le_refl 45) (0 : Int32) S z9 hz9) (fun x2 S1 => ?_)
    refine V_if_ne (pc := 63) h 68 dX2_readClause_63 (by decide) ?_ ?_
    · exact V_ls [1, 0] rfl (c_LikingReader_readClause_b68_ok h hr hlk hD k0 S1)
    · refine V_iconst (pc := 66) (v := 0) h dX2_readClause_66 (by decide) ?_
      exact V_zret (pc := 67) h hr hlk dX2_readClause_67
  · refine V_aload_n (pc := 47) h 1 dX2_readClause_47 rfl rfl ?_
    refine V_iconst (pc := 48) (v := 0) h dX2_readClause_48 (by decide) ?_
    refine V_callVI (pc := 49) (dy := 45) (q := (RX2, TX2, 4)) h [.int (0 : Int32)] [] 13 mv_X2_27 oC_13 rfl dX2_readClause_49 rfl rfl (Nat.le_of_ble_eq_true rfl) (Nat.le_trans (by decide) hD) (c_LikingReader_readUnit_x (0 : Int32) S) (fun z9 hz9 => c_LikingReader_readUnit_x_ct h.gg (Nat.le_refl 45) (Nat.le_refl 45) (0 : Int32) S z9 hz9) (fun x4 S3 => ?_)
    refine V_if_ne (pc := 52) h 68 dX2_readClause_52 (by decide) ?_ ?_
    · exact V_ls [1, 0] rfl (c_LikingReader_readClause_b68_ok h hr hlk hD k0 S3)
    · refine V_goto (pc := 55) h 66 dX2_readClause_55 (by decide) ?_
      refine V_iconst (pc := 66) (v := 0) h dX2_readClause_66 (by decide) ?_
      exact V_zret (pc := 67) h hr hlk dX2_readClause_67
def c_LikingReader_readClause_b37 (S : St) : Option (Int32 × St) := (c_LikingReader_readClause_b42 (1 : Int32) S)
set_option maxHeartbeats 4000000 in
set_option maxRecDepth 100000 in
theorem c_LikingReader_readClause_b37_ok {d : Nat} (h : Cx p s m c cX2_readClause 4 RX2 s0 args0 D ca a A) (hr : meth.sig.returnType = some .boolean) (hlk : meth.locks = false) (hD : 46 ≤ d) (S : St) : VV p l e (rmd d) s m args below meth c D ca tpC a A 4 (QmI D ca tpC a A below args s) S [(0, .ref (a 13))] 37 [] (c_LikingReader_readClause_b37 S) := by
  unfold c_LikingReader_readClause_b37
  refine V_iconst (pc := 37) (v := 1) h dX2_readClause_37 (by decide) ?_
  refine V_goto (pc := 38) h 42 dX2_readClause_38 (by decide) ?_
  exact V_ls [0] rfl (c_LikingReader_readClause_b42_ok h hr hlk hD (1 : Int32) S)
def c_LikingReader_readClause (S : St) : Option (Int32 × St) := (bI (c_Reader_takes_13 (121 : Int32) S) (fun x2 S1 => (if x2 = 0 then (nzM (0 : Int32) (some ((0 : Int32), S1))) else (bI (c_Reader_takes_13 (58 : Int32) S1) (fun x4 S3 => (if x4 = 0 then (nzM (0 : Int32) (some ((0 : Int32), S3))) else (bI (c_Reader_next_13 S3) (fun x6 S5 => (if x6 = (33 : Int32) then (c_LikingReader_readClause_b37 S5) else (if x6 = (40 : Int32) then (c_LikingReader_readClause_b37 S5) else (c_LikingReader_readClause_b42 (0 : Int32) S5)))))))))))
set_option maxHeartbeats 4000000 in
set_option maxRecDepth 100000 in
theorem c_LikingReader_readClause_ok {d : Nat} (h : Cx p s m c cX2_readClause 4 RX2 s0 args0 D ca a A) (hr : meth.sig.returnType = some .boolean) (hlk : meth.locks = false) (hD : 46 ≤ d) (S : St) : VV p l e (rmd d) s m args below meth c D ca tpC a A 4 (QmI D ca tpC a A below args s) S [(0, .ref (a 13))] 0 [] (c_LikingReader_readClause S) := by
  unfold c_LikingReader_readClause
  refine V_aload_n (pc := 0) h 0 dX2_readClause_0 rfl rfl ?_
  refine V_bipush (pc := 1) (v := 121) h dX2_readClause_1 (by decide) ?_
  refine V_callUI (pc := 3) (dy := 2) (q := (RX2, TX2, 4)) h [.int (121 : Int32)] [] 13 mu_X2_19_X2 oC_13 rfl dX2_readClause_3 rfl rfl (Nat.le_of_ble_eq_true rfl) (Nat.le_trans (by decide) hD) (c_Reader_takes_13 (121 : Int32) S) (fun z9 hz9 => c_Reader_takes_13_ct h.gg (Nat.le_refl 2) (121 : Int32) S z9 hz9) (fun x2 S1 => ?_)
  refine V_if_eq (pc := 6) h 18 dX2_readClause_6 (by decide) ?_ ?_
  · refine V_iconst (pc := 18) (v := 0) h dX2_readClause_18 (by decide) ?_
    exact V_zret (pc := 19) h hr hlk dX2_readClause_19
  · refine V_aload_n (pc := 9) h 0 dX2_readClause_9 rfl rfl ?_
    refine V_bipush (pc := 10) (v := 58) h dX2_readClause_10 (by decide) ?_
    refine V_callUI (pc := 12) (dy := 2) (q := (RX2, TX2, 4)) h [.int (58 : Int32)] [] 13 mu_X2_19_X2 oC_13 rfl dX2_readClause_12 rfl rfl (Nat.le_of_ble_eq_true rfl) (Nat.le_trans (by decide) hD) (c_Reader_takes_13 (58 : Int32) S1) (fun z9 hz9 => c_Reader_takes_13_ct h.gg (Nat.le_refl 2) (58 : Int32) S1 z9 hz9) (fun x4 S3 => ?_)
    refine V_if_ne (pc := 15) h 20 dX2_readClause_15 (by decide) ?_ ?_
    · refine V_aload_n (pc := 20) h 0 dX2_readClause_20 rfl rfl ?_
      refine V_callUI (pc := 21) (dy := 1) (q := (RX2, TX2, 4)) h [] [] 13 mu_X2_23_X2 oC_13 rfl dX2_readClause_21 rfl rfl (Nat.le_of_ble_eq_true rfl) (Nat.le_trans (by decide) hD) (c_Reader_next_13 S3) (fun z9 hz9 => c_Reader_next_13_ct h.gg (Nat.le_refl 1) S3 z9 hz9) (fun x6 S5 => ?_)
      refine V_istore_n (pc := 24) h [(1, .int x6), (0, .ref (a 13))] dX2_readClause_24 rfl (by decide) rfl ?_
      refine V_iload_n (pc := 25) h 0 dX2_readClause_25 rfl rfl ?_
      refine V_bipush (pc := 26) (v := 33) h dX2_readClause_26 (by decide) ?_
      refine V_icmp_eq (pc := 28) h 37 dX2_readClause_28 (by decide) ?_ ?_
      · exact V_ls [1] rfl (c_LikingReader_readClause_b37_ok h hr hlk hD S5)
      · refine V_iload_n (pc := 31) h 0 dX2_readClause_31 rfl rfl ?_
        refine V_bipush (pc := 32) (v := 40) h dX2_readClause_32 (by decide) ?_
        refine V_icmp_ne (pc := 34) h 41 dX2_readClause_34 (by decide) ?_ ?_
        · refine V_iconst (pc := 41) (v := 0) h dX2_readClause_41 (by decide) ?_
          exact V_ls [1] rfl (c_LikingReader_readClause_b42_ok h hr hlk hD (0 : Int32) S5)
        · exact V_ls [1] rfl (c_LikingReader_readClause_b37_ok h hr hlk hD S5)
    · refine V_iconst (pc := 18) (v := 0) h dX2_readClause_18 (by decide) ?_
      exact V_zret (pc := 19) h hr hlk dX2_readClause_19
theorem c_LikingReader_readClause_ct {d : Nat} (g : GG s0 args0 D ca a A) (hD : 46 ≤ d) (S : St) (z : Int32 × St) (hz : c_LikingReader_readClause S = some z) : CtI l yX2_readClause cX2_readClause 4 .boolean d s0 D ca tpC a A [.ref (a 13)] S z := CtI_mk g (by decide +kernel) (Nat.le_of_ble_eq_true rfl) hz (fun p e s m args below meth c h hr hlk => c_LikingReader_readClause_ok h hr hlk hD S)
def c_LikingReader_isWhole (S : St) : Option (Int32 × St) := (nzM (1 : Int32) (some ((1 : Int32), S)))
set_option maxHeartbeats 4000000 in
set_option maxRecDepth 100000 in
theorem c_LikingReader_isWhole_ok {d : Nat} (h : Cx p s m c cX2_isWhole 1 RX2 s0 args0 D ca a A) (hr : meth.sig.returnType = some .boolean) (hlk : meth.locks = false) (hD : 1 ≤ d) (S : St) : VV p l e (rmd d) s m args below meth c D ca tpC a A 1 (QmI D ca tpC a A below args s) S [(0, .ref (a 13))] 0 [] (c_LikingReader_isWhole S) := by
  unfold c_LikingReader_isWhole
  refine V_iconst (pc := 0) (v := 1) h dX2_isWhole_0 (by decide) ?_
  exact V_zret (pc := 1) h hr hlk dX2_isWhole_1
theorem c_LikingReader_isWhole_ct {d : Nat} (g : GG s0 args0 D ca a A) (hD : 1 ≤ d) (S : St) (z : Int32 × St) (hz : c_LikingReader_isWhole S = some z) : CtI l yX2_isWhole cX2_isWhole 1 .boolean d s0 D ca tpC a A [.ref (a 13)] S z := CtI_mk g (by decide +kernel) (Nat.le_of_ble_eq_true rfl) hz (fun p e s m args below meth c h hr hlk => c_LikingReader_isWhole_ok h hr hlk hD S)
def c_Reader_read_13_h11 : Nat → Int32 → St → Option (Int32 × St)
  | 0, _, _ => none
  | n + 1, v1, S => (if (160 : Int32) ≤ v1 then (some ((S 13 1), S)) else (bI (c_LikingReader_readClause S) (fun x2 S1 => (if x2 = 0 then (some ((S1 13 1), S1)) else (bI (c_Reader_next_13 S1) (fun x4 S3 => (if x4 = 0 then (bI (c_LikingReader_isWhole S3) (fun x9 S8 => (if x9 = 0 then (some ((S8 13 1), S8)) else (some ((-1 : Int32), S8))))) else (bI (c_Reader_takes_13 (59 : Int32) S3) (fun x6 S5 => (if x6 = 0 then (some ((S5 13 1), S5)) else (bnd (v1 + (1 : Int32)) (fun x7 => ((c_Reader_read_13_h11 n) x7 S5)))))))))))))
set_option maxHeartbeats 4000000 in
set_option maxRecDepth 100000 in
theorem c_Reader_read_13_h11_ok {d : Nat} (h : Cx p s m c cX5_read 2 RX5 s0 args0 D ca a A) (hr : meth.sig.returnType = some .int) (hlk : meth.locks = false) (hD : 47 ≤ d) : ∀ (n : Nat) (v1 : Int32) (S : St), VV p l e (rmd d) s m args below meth c D ca tpC a A 2 (QmI D ca tpC a A below args s) S [(0, .ref (a 13)), (1, .int v1)] 11 [] (c_Reader_read_13_h11 n v1 S) := by
  intro n
  induction n with
  | zero => intro v1 S; exact V_none
  | succ n ih =>
    intro v1 S
    unfold c_Reader_read_13_h11
    refine V_iload_n (pc := 11) h 1 dX5_read_11 rfl rfl ?_
    refine V_sipush (pc := 12) (v := 160) h dX5_read_12 (by decide) ?_
    refine V_icmp_ge (pc := 15) h 73 dX5_read_15 (by decide) ?_ ?_
    · refine V_aload_n (pc := 73) h 0 dX5_read_73 rfl rfl ?_
      refine V_get (pc := 74) h 13 1 (.int (S 13 1)) fl_X5_15_X2 oC_13 rfl rfl dX5_read_74 ?_
      exact V_iret (pc := 77) h hr hlk dX5_read_77
    · refine V_aload_n (pc := 18) h 0 dX5_read_18 rfl rfl ?_
      refine V_callUI (pc := 19) (dy := 46) (q := (RX2, TX2, 4)) h [] [] 13 mu_X5_22_X2 oC_13 rfl dX5_read_19 rfl rfl (Nat.le_of_ble_eq_true rfl) (Nat.le_trans (by decide) hD) (c_LikingReader_readClause S) (fun z9 hz9 => c_LikingReader_readClause_ct h.gg (Nat.le_refl 46) S z9 hz9) (fun x2 S1 => ?_)
      refine V_if_ne (pc := 22) h 30 dX5_read_22 (by decide) ?_ ?_
      · refine V_aload_n (pc := 30) h 0 dX5_read_30 rfl rfl ?_
        refine V_callUI (pc := 31) (dy := 1) (q := (RX2, TX2, 4)) h [] [] 13 mu_X5_26_X2 oC_13 rfl dX5_read_31 rfl rfl (Nat.le_of_ble_eq_true rfl) (Nat.le_trans (by decide) hD) (c_Reader_next_13 S1) (fun z9 hz9 => c_Reader_next_13_ct h.gg (Nat.le_refl 1) S1 z9 hz9) (fun x4 S3 => ?_)
        refine V_if_ne (pc := 34) h 53 dX5_read_34 (by decide) ?_ ?_
        · refine V_aload_n (pc := 53) h 0 dX5_read_53 rfl rfl ?_
          refine V_bipush (pc := 54) (v := 59) h dX5_read_54 (by decide) ?_
          refine V_callUI (pc := 56) (dy := 2) (q := (RX2, TX2, 4)) h [.int (59 : Int32)] [] 13 mu_X5_33_X2 oC_13 rfl dX5_read_56 rfl rfl (Nat.le_of_ble_eq_true rfl) (Nat.le_trans (by decide) hD) (c_Reader_takes_13 (59 : Int32) S3) (fun z9 hz9 => c_Reader_takes_13_ct h.gg (Nat.le_refl 2) (59 : Int32) S3 z9 hz9) (fun x6 S5 => ?_)
          refine V_if_ne (pc := 59) h 67 dX5_read_59 (by decide) ?_ ?_
          · refine V_iincB (pc := 67) h 1 (1 : Int32) (fun x7 => [(1, .int x7), (0, .ref (a 13))]) dX5_read_67 rfl (by decide) (by decide) (fun _ => rfl) (fun x7 => ?_)
            refine V_goto (pc := 70) h 11 dX5_read_70 (by decide) ?_
            exact V_ls [1, 0] rfl (ih x7 S5)
          · refine V_aload_n (pc := 62) h 0 dX5_read_62 rfl rfl ?_
            refine V_get (pc := 63) h 13 1 (.int (S5 13 1)) fl_X5_15_X2 oC_13 rfl rfl dX5_read_63 ?_
            exact V_iret (pc := 66) h hr hlk dX5_read_66
        · refine V_aload_n (pc := 37) h 0 dX5_read_37 rfl rfl ?_
          refine V_callUI (pc := 38) (dy := 1) (q := (RX2, TX2, 4)) h [] [] 13 mu_X5_30_X2 oC_13 rfl dX5_read_38 rfl rfl (Nat.le_of_ble_eq_true rfl) (Nat.le_trans (by decide) hD) (c_LikingReader_isWhole S3) (fun z9 hz9 => c_LikingReader_isWhole_ct h.gg (Nat.le_refl 1) S3 z9 hz9) (fun x9 S8 => ?_)
          refine V_if_eq (pc := 41) h 48 dX5_read_41 (by decide) ?_ ?_
          · refine V_aload_n (pc := 48) h 0 dX5_read_48 rfl rfl ?_
            refine V_get (pc := 49) h 13 1 (.int (S8 13 1)) fl_X5_15_X2 oC_13 rfl rfl dX5_read_49 ?_
            exact V_iret (pc := 52) h hr hlk dX5_read_52
          · refine V_iconst (pc := 44) (v := -1) h dX5_read_44 (by decide) ?_
            refine V_goto (pc := 45) h 52 dX5_read_45 (by decide) ?_
            exact V_iret (pc := 52) h hr hlk dX5_read_52
      · refine V_aload_n (pc := 25) h 0 dX5_read_25 rfl rfl ?_
        refine V_get (pc := 26) h 13 1 (.int (S1 13 1)) fl_X5_15_X2 oC_13 rfl rfl dX5_read_26 ?_
        exact V_iret (pc := 29) h hr hlk dX5_read_29
def c_Reader_read_13 (S : St) : Option (Int32 × St) := (bnd (up2 S 13 1 (0 : Int32)) (fun S1 => (bV (c_LikingReader_begin S1) (fun S2 => (c_Reader_read_13_h11 FU (0 : Int32) S2)))))
set_option maxHeartbeats 4000000 in
set_option maxRecDepth 100000 in
theorem c_Reader_read_13_ok {d : Nat} (h : Cx p s m c cX5_read 2 RX5 s0 args0 D ca a A) (hr : meth.sig.returnType = some .int) (hlk : meth.locks = false) (hD : 47 ≤ d) (S : St) : VV p l e (rmd d) s m args below meth c D ca tpC a A 2 (QmI D ca tpC a A below args s) S [(0, .ref (a 13))] 0 [] (c_Reader_read_13 S) := by
  unfold c_Reader_read_13
  refine V_aload_n (pc := 0) h 0 dX5_read_0 rfl rfl ?_
  refine V_iconst (pc := 1) (v := 0) h dX5_read_1 (by decide) ?_
  refine V_put (pc := 2) h 13 1 (0 : Int32) fp_X5_15_X2 oC_13 rfl rfl rfl rfl dX5_read_2 (fun S1 => ?_)
  refine V_aload_n (pc := 5) h 0 dX5_read_5 rfl rfl ?_
  refine V_callUV (pc := 6) (dy := 1) (q := (RX2, TX2, 4)) h [] [] 13 mu_X5_19_X2 oC_13 rfl dX5_read_6 rfl rfl (Nat.le_of_ble_eq_true rfl) (Nat.le_trans (by decide) hD) (c_LikingReader_begin S1) (fun z9 hz9 => c_LikingReader_begin_ct h.gg (Nat.le_refl 1) S1 z9 hz9) (fun S2 => ?_)
  refine V_iconst (pc := 9) (v := 0) h dX5_read_9 (by decide) ?_
  refine V_istore_n (pc := 10) h [(1, .int (0 : Int32)), (0, .ref (a 13))] dX5_read_10 rfl (by decide) rfl ?_
  exact V_ls [1, 0] rfl (c_Reader_read_13_h11_ok h hr hlk hD FU (0 : Int32) S2)
theorem c_Reader_read_13_ct {d : Nat} (g : GG s0 args0 D ca a A) (hD : 47 ≤ d) (S : St) (z : Int32 × St) (hz : c_Reader_read_13 S = some z) : CtI l yX5_read cX5_read 2 .int d s0 D ca tpC a A [.ref (a 13)] S z := CtI_mk g (by decide +kernel) (Nat.le_of_ble_eq_true rfl) hz (fun p e s m args below meth c h hr hlk => c_Reader_read_13_ok h hr hlk hD S)
end GEN
