section GEN
variable {p : Program} {l : Launch} {e : Env} {s : State} {m : MethodId} {args : Array Value} {below : List Frame} {meth : Method} {c : Code}
variable {D : va_G} {ca : Nat → ClassId} {a : Nat → Nat} {A : Nat → Prop} {s0 : State} {args0 : Array Value}
def c_Tape_bytesOf_b22 (L5 : Int32 → Int32 → Int32 → St → Option (Int32 × St)) (v0 : Int32) (v1 : Int32) (v2 : Int32) (S : St) : Option (Int32 × St) := (bnd (v2 + (-8 : Int32)) (fun x1 => (L5 v0 v1 x1 S)))
set_option maxHeartbeats 4000000 in
set_option maxRecDepth 100000 in
theorem c_Tape_bytesOf_b22_ok {d : Nat} (h : Cx p s m c cX9_bytesOf 3 RX9 s0 args0 D ca a A) (hr : meth.sig.returnType = some .int) (hlk : meth.locks = false) (hD : 1 ≤ d) (L5 : Int32 → Int32 → Int32 → St → Option (Int32 × St)) (hL5 : ∀ (v0 : Int32) (v1 : Int32) (v2 : Int32) (S : St), VV p l e (rmd d) s m args below meth c D ca tpC a A 3 (QmI D ca tpC a A below args s) S [(0, .int v0), (1, .int v1), (2, .int v2)] 5 [] (L5 v0 v1 v2 S)) (v0 : Int32) (v1 : Int32) (v2 : Int32) (S : St) : VV p l e (rmd d) s m args below meth c D ca tpC a A 3 (QmI D ca tpC a A below args s) S [(0, .int v0), (1, .int v1), (2, .int v2)] 22 [] (c_Tape_bytesOf_b22 L5 v0 v1 v2 S) := by
  unfold c_Tape_bytesOf_b22
  refine V_iincB (pc := 22) h 2 (-8 : Int32) (fun x1 => [(2, .int x1), (0, .int v0), (1, .int v1)]) dX9_bytesOf_22 rfl (by decide) (by decide) (fun _ => rfl) (fun x1 => ?_)
  refine V_goto (pc := 25) h 5 dX9_bytesOf_25 (by decide) ?_
  exact V_ls [1, 2, 0] rfl (hL5 v0 v1 x1 S)
def c_Tape_bytesOf_h5 : Nat → Int32 → Int32 → Int32 → St → Option (Int32 × St)
  | 0, _, _, _, _ => none
  | n + 1, v0, v1, v2, S => (if v2 < 0 then (some (v1, S)) else (if (((v0.toUInt32 >>> (v2.toUInt32 &&& Int32.toUInt32 31)).toInt32) &&& (255 : Int32)) = 0 then (c_Tape_bytesOf_b22 (c_Tape_bytesOf_h5 n) v0 v1 v2 S) else (bnd (v1 + (1 : Int32)) (fun x1 => (c_Tape_bytesOf_b22 (c_Tape_bytesOf_h5 n) v0 x1 v2 S)))))
set_option maxHeartbeats 4000000 in
set_option maxRecDepth 100000 in
theorem c_Tape_bytesOf_h5_ok {d : Nat} (h : Cx p s m c cX9_bytesOf 3 RX9 s0 args0 D ca a A) (hr : meth.sig.returnType = some .int) (hlk : meth.locks = false) (hD : 1 ≤ d) : ∀ (n : Nat) (v0 : Int32) (v1 : Int32) (v2 : Int32) (S : St), VV p l e (rmd d) s m args below meth c D ca tpC a A 3 (QmI D ca tpC a A below args s) S [(0, .int v0), (1, .int v1), (2, .int v2)] 5 [] (c_Tape_bytesOf_h5 n v0 v1 v2 S) := by
  intro n
  induction n with
  | zero => intro v0 v1 v2 S; exact V_none
  | succ n ih =>
    intro v0 v1 v2 S
    unfold c_Tape_bytesOf_h5
    refine V_iload_n (pc := 5) h 2 dX9_bytesOf_5 rfl rfl ?_
    refine V_if_lt (pc := 6) h 28 dX9_bytesOf_6 (by decide) ?_ ?_
    · refine V_iload_n (pc := 28) h 1 dX9_bytesOf_28 rfl rfl ?_
      exact V_iret (pc := 29) h hr hlk dX9_bytesOf_29
    · refine V_iload_n (pc := 9) h 0 dX9_bytesOf_9 rfl rfl ?_
      refine V_iload_n (pc := 10) h 2 dX9_bytesOf_10 rfl rfl ?_
      refine V_iushr (pc := 11) h dX9_bytesOf_11 ?_
      refine V_sipush (pc := 12) (v := 255) h dX9_bytesOf_12 (by decide) ?_
      refine V_iand (pc := 15) h dX9_bytesOf_15 ?_
      refine V_if_eq (pc := 16) h 22 dX9_bytesOf_16 (by decide) ?_ ?_
      · exact V_ls [0, 1, 2] rfl (c_Tape_bytesOf_b22_ok h hr hlk hD (c_Tape_bytesOf_h5 n) ih v0 v1 v2 S)
      · refine V_iincB (pc := 19) h 1 (1 : Int32) (fun x1 => [(1, .int x1), (0, .int v0), (2, .int v2)]) dX9_bytesOf_19 rfl (by decide) (by decide) (fun _ => rfl) (fun x1 => ?_)
        exact V_ls [1, 0, 2] rfl (c_Tape_bytesOf_b22_ok h hr hlk hD (c_Tape_bytesOf_h5 n) ih v0 x1 v2 S)
def c_Tape_bytesOf (v0 : Int32) (S : St) : Option (Int32 × St) := (c_Tape_bytesOf_h5 FU v0 (0 : Int32) (24 : Int32) S)
set_option maxHeartbeats 4000000 in
set_option maxRecDepth 100000 in
theorem c_Tape_bytesOf_ok {d : Nat} (h : Cx p s m c cX9_bytesOf 3 RX9 s0 args0 D ca a A) (hr : meth.sig.returnType = some .int) (hlk : meth.locks = false) (hD : 1 ≤ d) (v0 : Int32) (S : St) : VV p l e (rmd d) s m args below meth c D ca tpC a A 3 (QmI D ca tpC a A below args s) S [(0, .int v0)] 0 [] (c_Tape_bytesOf v0 S) := by
  unfold c_Tape_bytesOf
  refine V_iconst (pc := 0) (v := 0) h dX9_bytesOf_0 (by decide) ?_
  refine V_istore_n (pc := 1) h [(1, .int (0 : Int32)), (0, .int v0)] dX9_bytesOf_1 rfl (by decide) rfl ?_
  refine V_bipush (pc := 2) (v := 24) h dX9_bytesOf_2 (by decide) ?_
  refine V_istore_n (pc := 4) h [(2, .int (24 : Int32)), (1, .int (0 : Int32)), (0, .int v0)] dX9_bytesOf_4 rfl (by decide) rfl ?_
  exact V_ls [2, 1, 0] rfl (c_Tape_bytesOf_h5_ok h hr hlk hD FU v0 (0 : Int32) (24 : Int32) S)
theorem c_Tape_bytesOf_ct {d : Nat} (g : GG s0 args0 D ca a A) (hD : 1 ≤ d) (v0 : Int32) (S : St) (z : Int32 × St) (hz : c_Tape_bytesOf v0 S = some z) : CtI l yX9_bytesOf cX9_bytesOf 3 .int d s0 D ca tpC a A [.int v0] S z := CtI_mk g (by decide +kernel) (Nat.le_of_ble_eq_true rfl) hz (fun p e s m args below meth c h hr hlk => c_Tape_bytesOf_ok h hr hlk hD v0 S)
def c_Tape_add_b49 (L3 : Int32 → Int32 → St → Option St) (v1 : Int32) (v2 : Int32) (S : St) : Option St := (bnd (v2 + (-8 : Int32)) (fun x1 => (L3 v1 x1 S)))
set_option maxHeartbeats 4000000 in
set_option maxRecDepth 100000 in
theorem c_Tape_add_b49_ok {d : Nat} (h : Cx p s m c cX9_add 4 RX9 s0 args0 D ca a A) (hr : meth.sig.returnType = none) (hlk : meth.locks = false) (hD : 1 ≤ d) (L3 : Int32 → Int32 → St → Option St) (hL3 : ∀ (v1 : Int32) (v2 : Int32) (S : St), VV p l e (rmd d) s m args below meth c D ca tpC a A 4 (QmV D ca tpC a A below args s) S [(0, .ref (a 1)), (1, .int v1), (2, .int v2)] 3 [] (L3 v1 v2 S)) (v1 : Int32) (v2 : Int32) (S : St) : VV p l e (rmd d) s m args below meth c D ca tpC a A 4 (QmV D ca tpC a A below args s) S [(0, .ref (a 1)), (1, .int v1), (2, .int v2)] 49 [] (c_Tape_add_b49 L3 v1 v2 S) := by
  unfold c_Tape_add_b49
  refine V_iincB (pc := 49) h 2 (-8 : Int32) (fun x1 => [(2, .int x1), (0, .ref (a 1)), (1, .int v1)]) dX9_add_49 rfl (by decide) (by decide) (fun _ => rfl) (fun x1 => ?_)
  refine V_goto (pc := 52) h 3 dX9_add_52 (by decide) ?_
  exact V_ls [1, 2, 0] rfl (hL3 v1 x1 S)
def c_Tape_add_h3 : Nat → Int32 → Int32 → St → Option St
  | 0, _, _, _ => none
  | n + 1, v1, v2, S => (if v2 < 0 then (some S) else (bnd (((v1.toUInt32 >>> (v2.toUInt32 &&& Int32.toUInt32 31)).toInt32) &&& (255 : Int32)) (fun x1 => (if x1 = 0 then (c_Tape_add_b49 (c_Tape_add_h3 n) v1 v2 S) else (if (160 : Int32) ≤ (S 1 1) then (c_Tape_add_b49 (c_Tape_add_h3 n) v1 v2 S) else (ckM (S 1 1) 160 (bnd (up2 S 2 (S 1 1).toNatClampNeg x1) (fun S2 => (bnd (up2 S2 1 1 ((S2 1 1) + (1 : Int32))) (fun S3 => (c_Tape_add_b49 (c_Tape_add_h3 n) v1 v2 S3)))))))))))
set_option maxHeartbeats 4000000 in
set_option maxRecDepth 100000 in
theorem c_Tape_add_h3_ok {d : Nat} (h : Cx p s m c cX9_add 4 RX9 s0 args0 D ca a A) (hr : meth.sig.returnType = none) (hlk : meth.locks = false) (hD : 1 ≤ d) : ∀ (n : Nat) (v1 : Int32) (v2 : Int32) (S : St), VV p l e (rmd d) s m args below meth c D ca tpC a A 4 (QmV D ca tpC a A below args s) S [(0, .ref (a 1)), (1, .int v1), (2, .int v2)] 3 [] (c_Tape_add_h3 n v1 v2 S) := by
  intro n
  induction n with
  | zero => intro v1 v2 S; exact V_none
  | succ n ih =>
    intro v1 v2 S
    unfold c_Tape_add_h3
    refine V_iload_n (pc := 3) h 2 dX9_add_3 rfl rfl ?_
    refine V_if_lt (pc := 4) h 55 dX9_add_4 (by decide) ?_ ?_
    · exact V_vret (pc := 55) h hr hlk dX9_add_55
    · refine V_iload_n (pc := 7) h 1 dX9_add_7 rfl rfl ?_
      refine V_iload_n (pc := 8) h 2 dX9_add_8 rfl rfl ?_
      refine V_iushr (pc := 9) h dX9_add_9 ?_
      refine V_sipush (pc := 10) (v := 255) h dX9_add_10 (by decide) ?_
      refine V_iand (pc := 13) h dX9_add_13 ?_
      refine V_top (fun x1 => ?_)
      refine V_istore_n (pc := 14) h [(3, .int x1), (0, .ref (a 1)), (1, .int v1), (2, .int v2)] dX9_add_14 rfl (by decide) rfl ?_
      refine V_iload_n (pc := 15) h 0 dX9_add_15 rfl rfl ?_
      refine V_if_eq (pc := 16) h 49 dX9_add_16 (by decide) ?_ ?_
      · exact V_ls [1, 2, 3] rfl (c_Tape_add_b49_ok h hr hlk hD (c_Tape_add_h3 n) ih v1 v2 S)
      · refine V_aload_n (pc := 19) h 1 dX9_add_19 rfl rfl ?_
        refine V_get (pc := 20) h 1 1 (.int (S 1 1)) fl_X9_15_X9 oC_1 rfl rfl dX9_add_20 ?_
        refine V_sipush (pc := 23) (v := 160) h dX9_add_23 (by decide) ?_
        refine V_icmp_ge (pc := 26) h 49 dX9_add_26 (by decide) ?_ ?_
        · exact V_ls [1, 2, 3] rfl (c_Tape_add_b49_ok h hr hlk hD (c_Tape_add_h3 n) ih v1 v2 S)
        · refine V_aload_n (pc := 29) h 1 dX9_add_29 rfl rfl ?_
          refine V_get (pc := 30) h 1 0 (.ref (a 2)) fl_X9_9_X9 oC_1 rfl rfl dX9_add_30 ?_
          refine V_aload_n (pc := 33) h 1 dX9_add_33 rfl rfl ?_
          refine V_get (pc := 34) h 1 1 (.int (S 1 1)) fl_X9_15_X9 oC_1 rfl rfl dX9_add_34 ?_
          refine V_iload_n (pc := 37) h 0 dX9_add_37 rfl rfl ?_
          refine V_iast (pc := 38) h 2 oC_2 dX9_add_38 (fun S2 => ?_)
          refine V_aload_n (pc := 39) h 1 dX9_add_39 rfl rfl ?_
          refine V_dup (pc := 40) h dX9_add_40 rfl ?_
          refine V_get (pc := 41) h 1 1 (.int (S2 1 1)) fl_X9_15_X9 oC_1 rfl rfl dX9_add_41 ?_
          refine V_iconst (pc := 44) (v := 1) h dX9_add_44 (by decide) ?_
          refine V_iadd (pc := 45) h dX9_add_45 ?_
          refine V_put (pc := 46) h 1 1 ((S2 1 1) + (1 : Int32)) fp_X9_15_X9 oC_1 rfl rfl rfl rfl dX9_add_46 (fun S3 => ?_)
          exact V_ls [1, 2, 3] rfl (c_Tape_add_b49_ok h hr hlk hD (c_Tape_add_h3 n) ih v1 v2 S3)
def c_Tape_add (v1 : Int32) (S : St) : Option St := (c_Tape_add_h3 FU v1 (24 : Int32) S)
set_option maxHeartbeats 4000000 in
set_option maxRecDepth 100000 in
theorem c_Tape_add_ok {d : Nat} (h : Cx p s m c cX9_add 4 RX9 s0 args0 D ca a A) (hr : meth.sig.returnType = none) (hlk : meth.locks = false) (hD : 1 ≤ d) (v1 : Int32) (S : St) : VV p l e (rmd d) s m args below meth c D ca tpC a A 4 (QmV D ca tpC a A below args s) S [(0, .ref (a 1)), (1, .int v1)] 0 [] (c_Tape_add v1 S) := by
  unfold c_Tape_add
  refine V_bipush (pc := 0) (v := 24) h dX9_add_0 (by decide) ?_
  refine V_istore_n (pc := 2) h [(2, .int (24 : Int32)), (0, .ref (a 1)), (1, .int v1)] dX9_add_2 rfl (by decide) rfl ?_
  exact V_ls [1, 2, 0] rfl (c_Tape_add_h3_ok h hr hlk hD FU v1 (24 : Int32) S)
theorem c_Tape_add_ct {d : Nat} (g : GG s0 args0 D ca a A) (hD : 1 ≤ d) (v1 : Int32) (S : St) (z : St) (hz : c_Tape_add v1 S = some z) : CtV l yX9_add cX9_add 4 d s0 D ca tpC a A [.ref (a 1), .int v1] S z := CtV_mk g (by decide +kernel) (Nat.le_of_ble_eq_true rfl) hz (fun p e s m args below meth c h hr hlk => c_Tape_add_ok h hr hlk hD v1 S)
def c_N_feed (v1 : Int32) (v2 : Int32) (v3 : Int32) (v4 : Int32) (v5 : Int32) (S : St) : Option (Int32 × St) := (bI (c_Tape_bytesOf v1 S) (fun x2 S1 => (bI (c_Tape_bytesOf v2 S1) (fun x4 S3 => (bI (c_Tape_bytesOf v3 S3) (fun x6 S5 => (bI (c_Tape_bytesOf v4 S5) (fun x8 S7 => (bI (c_Tape_bytesOf v5 S7) (fun x10 S9 => (bnd ((((x2 + x4) + x6) + x8) + x10) (fun x11 => (if ((S9 1 1) + x11) ≤ (160 : Int32) then (bV (c_Tape_add v1 S9) (fun S12 => (bV (c_Tape_add v2 S12) (fun S13 => (bV (c_Tape_add v3 S13) (fun S14 => (bV (c_Tape_add v4 S14) (fun S15 => (bV (c_Tape_add v5 S15) (fun S16 => (some ((S16 1 1), S16)))))))))))) else (some ((-1 : Int32), S9)))))))))))))))
set_option maxHeartbeats 4000000 in
set_option maxRecDepth 100000 in
theorem c_N_feed_ok {d : Nat} (h : Cx p s m c cX10_feed 7 RX10 s0 args0 D ca a A) (hr : meth.sig.returnType = some .int) (hlk : meth.locks = false) (hD : 2 ≤ d) (v1 : Int32) (v2 : Int32) (v3 : Int32) (v4 : Int32) (v5 : Int32) (S : St) : VV p l e (rmd d) s m args below meth c D ca tpC a A 7 (QmI D ca tpC a A below args s) S [(0, .ref (a 0)), (1, .int v1), (2, .int v2), (3, .int v3), (4, .int v4), (5, .int v5)] 0 [] (c_N_feed v1 v2 v3 v4 v5 S) := by
  unfold c_N_feed
  refine V_iload_n (pc := 0) h 1 dX10_feed_0 rfl rfl ?_
  refine V_callSI (pc := 1) (dy := 1) h [.int v1] [] ms_X10_99 dX10_feed_1 rfl rfl (Nat.le_of_ble_eq_true rfl) (Nat.le_trans (by decide) hD) (c_Tape_bytesOf v1 S) (fun z9 hz9 => c_Tape_bytesOf_ct h.gg (Nat.le_refl 1) v1 S z9 hz9) (fun x2 S1 => ?_)
  refine V_iload_n (pc := 4) h 2 dX10_feed_4 rfl rfl ?_
  refine V_callSI (pc := 5) (dy := 1) h [.int v2] [.int x2] ms_X10_99 dX10_feed_5 rfl rfl (Nat.le_of_ble_eq_true rfl) (Nat.le_trans (by decide) hD) (c_Tape_bytesOf v2 S1) (fun z9 hz9 => c_Tape_bytesOf_ct h.gg (Nat.le_refl 1) v2 S1 z9 hz9) (fun x4 S3 => ?_)
  refine V_iadd (pc := 8) h dX10_feed_8 ?_
  refine V_iload_n (pc := 9) h 3 dX10_feed_9 rfl rfl ?_
  refine V_callSI (pc := 10) (dy := 1) h [.int v3] [.int (x2 + x4)] ms_X10_99 dX10_feed_10 rfl rfl (Nat.le_of_ble_eq_true rfl) (Nat.le_trans (by decide) hD) (c_Tape_bytesOf v3 S3) (fun z9 hz9 => c_Tape_bytesOf_ct h.gg (Nat.le_refl 1) v3 S3 z9 hz9) (fun x6 S5 => ?_)
  refine V_iadd (pc := 13) h dX10_feed_13 ?_
  refine V_iload (pc := 14) h 4 dX10_feed_14 rfl ?_
  refine V_callSI (pc := 16) (dy := 1) h [.int v4] [.int ((x2 + x4) + x6)] ms_X10_99 dX10_feed_16 rfl rfl (Nat.le_of_ble_eq_true rfl) (Nat.le_trans (by decide) hD) (c_Tape_bytesOf v4 S5) (fun z9 hz9 => c_Tape_bytesOf_ct h.gg (Nat.le_refl 1) v4 S5 z9 hz9) (fun x8 S7 => ?_)
  refine V_iadd (pc := 19) h dX10_feed_19 ?_
  refine V_iload (pc := 20) h 5 dX10_feed_20 rfl ?_
  refine V_callSI (pc := 22) (dy := 1) h [.int v5] [.int (((x2 + x4) + x6) + x8)] ms_X10_99 dX10_feed_22 rfl rfl (Nat.le_of_ble_eq_true rfl) (Nat.le_trans (by decide) hD) (c_Tape_bytesOf v5 S7) (fun z9 hz9 => c_Tape_bytesOf_ct h.gg (Nat.le_refl 1) v5 S7 z9 hz9) (fun x10 S9 => ?_)
  refine V_iadd (pc := 25) h dX10_feed_25 ?_
  refine V_top (fun x11 => ?_)
  refine V_istore (pc := 26) h [(6, .int x11), (0, .ref (a 0)), (1, .int v1), (2, .int v2), (3, .int v3), (4, .int v4), (5, .int v5)] dX10_feed_26 (by decide) rfl ?_
  refine V_aload_n (pc := 28) h 1 dX10_feed_28 rfl rfl ?_
  refine V_get (pc := 29) h 0 0 (.ref (a 1)) fl_X10_10_X10 oC_0 rfl rfl dX10_feed_29 ?_
  refine V_get (pc := 32) h 1 1 (.int (S9 1 1)) fl_X10_103_X9 oC_1 rfl rfl dX10_feed_32 ?_
  refine V_iload (pc := 35) h 0 dX10_feed_35 rfl ?_
  refine V_iadd (pc := 37) h dX10_feed_37 ?_
  refine V_sipush (pc := 38) (v := 160) h dX10_feed_38 (by decide) ?_
  refine V_icmp_le (pc := 41) h 46 dX10_feed_41 (by decide) ?_ ?_
  · refine V_aload_n (pc := 46) h 1 dX10_feed_46 rfl rfl ?_
    refine V_get (pc := 47) h 0 0 (.ref (a 1)) fl_X10_10_X10 oC_0 rfl rfl dX10_feed_47 ?_
    refine V_iload_n (pc := 50) h 2 dX10_feed_50 rfl rfl ?_
    refine V_callVV (pc := 51) (dy := 1) (q := (RX9, TX9, 2)) h [.int v1] [] 1 mv_X10_106 oC_1 rfl dX10_feed_51 rfl rfl (Nat.le_of_ble_eq_true rfl) (Nat.le_trans (by decide) hD) (c_Tape_add v1 S9) (fun z9 hz9 => c_Tape_add_ct h.gg (Nat.le_refl 1) v1 S9 z9 hz9) (fun S12 => ?_)
    refine V_aload_n (pc := 54) h 1 dX10_feed_54 rfl rfl ?_
    refine V_get (pc := 55) h 0 0 (.ref (a 1)) fl_X10_10_X10 oC_0 rfl rfl dX10_feed_55 ?_
    refine V_iload_n (pc := 58) h 3 dX10_feed_58 rfl rfl ?_
    refine V_callVV (pc := 59) (dy := 1) (q := (RX9, TX9, 2)) h [.int v2] [] 1 mv_X10_106 oC_1 rfl dX10_feed_59 rfl rfl (Nat.le_of_ble_eq_true rfl) (Nat.le_trans (by decide) hD) (c_Tape_add v2 S12) (fun z9 hz9 => c_Tape_add_ct h.gg (Nat.le_refl 1) v2 S12 z9 hz9) (fun S13 => ?_)
    refine V_aload_n (pc := 62) h 1 dX10_feed_62 rfl rfl ?_
    refine V_get (pc := 63) h 0 0 (.ref (a 1)) fl_X10_10_X10 oC_0 rfl rfl dX10_feed_63 ?_
    refine V_iload_n (pc := 66) h 4 dX10_feed_66 rfl rfl ?_
    refine V_callVV (pc := 67) (dy := 1) (q := (RX9, TX9, 2)) h [.int v3] [] 1 mv_X10_106 oC_1 rfl dX10_feed_67 rfl rfl (Nat.le_of_ble_eq_true rfl) (Nat.le_trans (by decide) hD) (c_Tape_add v3 S13) (fun z9 hz9 => c_Tape_add_ct h.gg (Nat.le_refl 1) v3 S13 z9 hz9) (fun S14 => ?_)
    refine V_aload_n (pc := 70) h 1 dX10_feed_70 rfl rfl ?_
    refine V_get (pc := 71) h 0 0 (.ref (a 1)) fl_X10_10_X10 oC_0 rfl rfl dX10_feed_71 ?_
    refine V_iload (pc := 74) h 5 dX10_feed_74 rfl ?_
    refine V_callVV (pc := 76) (dy := 1) (q := (RX9, TX9, 2)) h [.int v4] [] 1 mv_X10_106 oC_1 rfl dX10_feed_76 rfl rfl (Nat.le_of_ble_eq_true rfl) (Nat.le_trans (by decide) hD) (c_Tape_add v4 S14) (fun z9 hz9 => c_Tape_add_ct h.gg (Nat.le_refl 1) v4 S14 z9 hz9) (fun S15 => ?_)
    refine V_aload_n (pc := 79) h 1 dX10_feed_79 rfl rfl ?_
    refine V_get (pc := 80) h 0 0 (.ref (a 1)) fl_X10_10_X10 oC_0 rfl rfl dX10_feed_80 ?_
    refine V_iload (pc := 83) h 6 dX10_feed_83 rfl ?_
    refine V_callVV (pc := 85) (dy := 1) (q := (RX9, TX9, 2)) h [.int v5] [] 1 mv_X10_106 oC_1 rfl dX10_feed_85 rfl rfl (Nat.le_of_ble_eq_true rfl) (Nat.le_trans (by decide) hD) (c_Tape_add v5 S15) (fun z9 hz9 => c_Tape_add_ct h.gg (Nat.le_refl 1) v5 S15 z9 hz9) (fun S16 => ?_)
    refine V_aload_n (pc := 88) h 1 dX10_feed_88 rfl rfl ?_
    refine V_get (pc := 89) h 0 0 (.ref (a 1)) fl_X10_10_X10 oC_0 rfl rfl dX10_feed_89 ?_
    refine V_get (pc := 92) h 1 1 (.int (S16 1 1)) fl_X10_103_X9 oC_1 rfl rfl dX10_feed_92 ?_
    exact V_iret (pc := 95) h hr hlk dX10_feed_95
  · refine V_iconst (pc := 44) (v := -1) h dX10_feed_44 (by decide) ?_
    exact V_iret (pc := 45) h hr hlk dX10_feed_45
theorem c_N_feed_ct {d : Nat} (g : GG s0 args0 D ca a A) (hD : 2 ≤ d) (v1 : Int32) (v2 : Int32) (v3 : Int32) (v4 : Int32) (v5 : Int32) (S : St) (z : Int32 × St) (hz : c_N_feed v1 v2 v3 v4 v5 S = some z) : CtI l yX10_feed cX10_feed 7 .int d s0 D ca tpC a A [.ref (a 0), .int v1, .int v2, .int v3, .int v4, .int v5] S z := CtI_mk g (by decide +kernel) (Nat.le_of_ble_eq_true rfl) hz (fun p e s m args below meth c h hr hlk => c_N_feed_ok h hr hlk hD v1 v2 v3 v4 v5 S)
def c_N_end (v1 : Int32) (S : St) : Option (Int32 × St) := (if v1 < 0 then (nzM (0 : Int32) (some ((0 : Int32), S))) else (if v1 ≤ (S 1 1) then (bnd (up2 S 1 1 v1) (fun S1 => (nzM (1 : Int32) (some ((1 : Int32), S1))))) else (nzM (0 : Int32) (some ((0 : Int32), S)))))
set_option maxHeartbeats 4000000 in
set_option maxRecDepth 100000 in
theorem c_N_end_ok {d : Nat} (h : Cx p s m c cX10_end 2 RX10 s0 args0 D ca a A) (hr : meth.sig.returnType = some .boolean) (hlk : meth.locks = false) (hD : 1 ≤ d) (v1 : Int32) (S : St) : VV p l e (rmd d) s m args below meth c D ca tpC a A 2 (QmI D ca tpC a A below args s) S [(0, .ref (a 0)), (1, .int v1)] 0 [] (c_N_end v1 S) := by
  unfold c_N_end
  refine V_iload_n (pc := 0) h 1 dX10_end_0 rfl rfl ?_
  refine V_if_lt (pc := 1) h 15 dX10_end_1 (by decide) ?_ ?_
  · refine V_iconst (pc := 15) (v := 0) h dX10_end_15 (by decide) ?_
    exact V_zret (pc := 16) h hr hlk dX10_end_16
  · refine V_iload_n (pc := 4) h 1 dX10_end_4 rfl rfl ?_
    refine V_aload_n (pc := 5) h 0 dX10_end_5 rfl rfl ?_
    refine V_get (pc := 6) h 0 0 (.ref (a 1)) fl_X10_10_X10 oC_0 rfl rfl dX10_end_6 ?_
    refine V_get (pc := 9) h 1 1 (.int (S 1 1)) fl_X10_103_X9 oC_1 rfl rfl dX10_end_9 ?_
    refine V_icmp_le (pc := 12) h 17 dX10_end_12 (by decide) ?_ ?_
    · refine V_aload_n (pc := 17) h 0 dX10_end_17 rfl rfl ?_
      refine V_get (pc := 18) h 0 0 (.ref (a 1)) fl_X10_10_X10 oC_0 rfl rfl dX10_end_18 ?_
      refine V_iload_n (pc := 21) h 1 dX10_end_21 rfl rfl ?_
      refine V_put (pc := 22) h 1 1 v1 fp_X10_103_X9 oC_1 rfl rfl rfl rfl dX10_end_22 (fun S1 => ?_)
      refine V_iconst (pc := 25) (v := 1) h dX10_end_25 (by decide) ?_
      exact V_zret (pc := 26) h hr hlk dX10_end_26
    · refine V_iconst (pc := 15) (v := 0) h dX10_end_15 (by decide) ?_
      exact V_zret (pc := 16) h hr hlk dX10_end_16
theorem c_N_end_ct {d : Nat} (g : GG s0 args0 D ca a A) (hD : 1 ≤ d) (v1 : Int32) (S : St) (z : Int32 × St) (hz : c_N_end v1 S = some z) : CtI l yX10_end cX10_end 2 .boolean d s0 D ca tpC a A [.ref (a 0), .int v1] S z := CtI_mk g (by decide +kernel) (Nat.le_of_ble_eq_true rfl) hz (fun p e s m args below meth c h hr hlk => c_N_end_ok h hr hlk hD v1 S)
end GEN
