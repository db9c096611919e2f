section GEN
variable {p : Program} {l : Launch} {e : Env} {s : State} {m : MethodId} {args : Array Value} {below : List Frame} {meth : Method} {c : Code}
variable {D : va_G} {ca : Nat → ClassId} {tp : List ODt} {a : Nat → Nat} {A : Nat → Prop} {s0 : State} {args0 : Array Value} {t : Nat}
def m_look_b43 (S : St) : Option (Int32 × St) := (if (S 0 9) ≤ (S 0 10) then (some ((-1 : Int32), S)) else (ckM (S 0 5) 2 (ckM ((S 0 8) + (S 0 10)) (alen tpM (1 + (S 0 5).toNatClampNeg)) (some (((S (1 + (S 0 5).toNatClampNeg) ((S 0 8) + (S 0 10)).toNatClampNeg) &&& (255 : Int32)), S)))))
set_option maxHeartbeats 4000000 in
set_option maxRecDepth 100000 in
theorem m_look_b43_ok {d : Nat} (h : Cx p s m c cX11_look 1 RX11 s0 args0 D ca a A) (hr : meth.sig.returnType = some .int) (hlk : meth.locks = false) (hD : 1 ≤ d) (S : St) : VV p l e (rmd d) s m args below meth c D ca tpM a A 1 (QmI D ca tpM a A below args s) S [(0, .ref (a 0))] 43 [] (m_look_b43 S) := by
  unfold m_look_b43
  refine V_aload_n (pc := 43) h 0 dX11_look_43 rfl rfl ?_
  refine V_get (pc := 44) h 0 10 (.int (S 0 10)) fl_X11_142_X11 oM_0 rfl rfl dX11_look_44 ?_
  refine V_aload_n (pc := 47) h 0 dX11_look_47 rfl rfl ?_
  refine V_get (pc := 48) h 0 9 (.int (S 0 9)) fl_X11_145_X11 oM_0 rfl rfl dX11_look_48 ?_
  refine V_icmp_ge (pc := 51) h 75 dX11_look_51 (by decide) ?_ ?_
  · refine V_iconst (pc := 75) (v := -1) h dX11_look_75 (by decide) ?_
    exact V_iret (pc := 76) h hr hlk dX11_look_76
  · refine V_aload_n (pc := 54) h 0 dX11_look_54 rfl rfl ?_
    refine V_getD (pc := 55) h 0 5 2 fl_X11_23_X11 oM_0 rfl dX11_look_55 (fun h1 h2 => ?_)
    refine V_aload_n (pc := 58) h 0 dX11_look_58 rfl rfl ?_
    refine V_get (pc := 59) h 0 8 (.int (S 0 8)) fl_X11_148_X11 oM_0 rfl rfl dX11_look_59 ?_
    refine V_aload_n (pc := 62) h 0 dX11_look_62 rfl rfl ?_
    refine V_get (pc := 63) h 0 10 (.int (S 0 10)) fl_X11_142_X11 oM_0 rfl rfl dX11_look_63 ?_
    refine V_iadd (pc := 66) h dX11_look_66 ?_
    refine V_bald (pc := 67) h (1 + (S 0 5).toNatClampNeg) (isBt_all _ h2) dX11_look_67 ?_
    refine V_sipush (pc := 68) (v := 255) h dX11_look_68 (by decide) ?_
    refine V_iand (pc := 71) h dX11_look_71 ?_
    refine V_goto (pc := 72) h 76 dX11_look_72 (by decide) ?_
    exact V_iret (pc := 76) h hr hlk dX11_look_76
def m_look_h0 : Nat → St → Option (Int32 × St)
  | 0, _ => none
  | n + 1, S => (if (S 0 9) ≤ (S 0 10) then (m_look_b43 S) else (ckM (S 0 5) 2 (ckM ((S 0 8) + (S 0 10)) (alen tpM (1 + (S 0 5).toNatClampNeg)) (if (S (1 + (S 0 5).toNatClampNeg) ((S 0 8) + (S 0 10)).toNatClampNeg) = (32 : Int32) then (bnd (up2 S 0 10 ((S 0 10) + (1 : Int32))) (fun S3 => ((m_look_h0 n) S3))) else (m_look_b43 S)))))
set_option maxHeartbeats 4000000 in
set_option maxRecDepth 100000 in
theorem m_look_h0_ok {d : Nat} (h : Cx p s m c cX11_look 1 RX11 s0 args0 D ca a A) (hr : meth.sig.returnType = some .int) (hlk : meth.locks = false) (hD : 1 ≤ d) : ∀ (n : Nat) (S : St), VV p l e (rmd d) s m args below meth c D ca tpM a A 1 (QmI D ca tpM a A below args s) S [(0, .ref (a 0))] 0 [] (m_look_h0 n S) := by
  intro n
  induction n with
  | zero => intro S; exact V_none
  | succ n ih =>
    intro S
    unfold m_look_h0
    refine V_aload_n (pc := 0) h 0 dX11_look_0 rfl rfl ?_
    refine V_get (pc := 1) h 0 10 (.int (S 0 10)) fl_X11_142_X11 oM_0 rfl rfl dX11_look_1 ?_
    refine V_aload_n (pc := 4) h 0 dX11_look_4 rfl rfl ?_
    refine V_get (pc := 5) h 0 9 (.int (S 0 9)) fl_X11_145_X11 oM_0 rfl rfl dX11_look_5 ?_
    refine V_icmp_ge (pc := 8) h 43 dX11_look_8 (by decide) ?_ ?_
    · exact V_ls [0] rfl (m_look_b43_ok h hr hlk hD S)
    · refine V_aload_n (pc := 11) h 0 dX11_look_11 rfl rfl ?_
      refine V_getD (pc := 12) h 0 5 2 fl_X11_23_X11 oM_0 rfl dX11_look_12 (fun h1 h2 => ?_)
      refine V_aload_n (pc := 15) h 0 dX11_look_15 rfl rfl ?_
      refine V_get (pc := 16) h 0 8 (.int (S 0 8)) fl_X11_148_X11 oM_0 rfl rfl dX11_look_16 ?_
      refine V_aload_n (pc := 19) h 0 dX11_look_19 rfl rfl ?_
      refine V_get (pc := 20) h 0 10 (.int (S 0 10)) fl_X11_142_X11 oM_0 rfl rfl dX11_look_20 ?_
      refine V_iadd (pc := 23) h dX11_look_23 ?_
      refine V_bald (pc := 24) h (1 + (S 0 5).toNatClampNeg) (isBt_all _ h2) dX11_look_24 ?_
      refine V_bipush (pc := 25) (v := 32) h dX11_look_25 (by decide) ?_
      refine V_icmp_ne (pc := 27) h 43 dX11_look_27 (by decide) ?_ ?_
      · exact V_ls [0] rfl (m_look_b43_ok h hr hlk hD S)
      · refine V_aload_n (pc := 30) h 0 dX11_look_30 rfl rfl ?_
        refine V_dup (pc := 31) h dX11_look_31 rfl ?_
        refine V_get (pc := 32) h 0 10 (.int (S 0 10)) fl_X11_142_X11 oM_0 rfl rfl dX11_look_32 ?_
        refine V_iconst (pc := 35) (v := 1) h dX11_look_35 (by decide) ?_
        refine V_iadd (pc := 36) h dX11_look_36 ?_
        refine V_put (pc := 37) h 0 10 ((S 0 10) + (1 : Int32)) fp_X11_142_X11 oM_0 rfl rfl rfl rfl dX11_look_37 (fun S3 => ?_)
        refine V_goto (pc := 40) h 0 dX11_look_40 (by decide) ?_
        exact V_ls [0] rfl (ih  S3)
def m_look (S : St) : Option (Int32 × St) := (m_look_h0 FU S)
set_option maxHeartbeats 4000000 in
set_option maxRecDepth 100000 in
theorem m_look_ok {d : Nat} (h : Cx p s m c cX11_look 1 RX11 s0 args0 D ca a A) (hr : meth.sig.returnType = some .int) (hlk : meth.locks = false) (hD : 1 ≤ d) (S : St) : VV p l e (rmd d) s m args below meth c D ca tpM a A 1 (QmI D ca tpM a A below args s) S [(0, .ref (a 0))] 0 [] (m_look S) := by
  unfold m_look
  exact V_ls [0] rfl (m_look_h0_ok h hr hlk hD FU S)
theorem m_look_ct {d : Nat} (g : GG s0 args0 D ca a A) (hD : 1 ≤ d) (S : St) (z : Int32 × St) (hz : m_look S = some z) : CtI l yX11_look cX11_look 1 .int d s0 D ca tpM a A [.ref (a 0)] S z := CtI_mk g (by decide +kernel) (Nat.le_of_ble_eq_true rfl) hz (fun p e s m args below meth c h hr hlk => m_look_ok h hr hlk hD S)
def j_pc_checkIndex (v0 : Int32) (v1 : Int32) (S : St) : Option (Int32 × St) := (if v0 < 0 then none else (if v0 < v1 then (some (v0, S)) else none))
set_option maxHeartbeats 4000000 in
set_option maxRecDepth 100000 in
theorem j_pc_checkIndex_ok {d : Nat} (h : Cx p s m c cJ3_checkIndex_8e157 3 RJ3 s0 args0 D ca a A) (hr : meth.sig.returnType = some .int) (hlk : meth.locks = false) (hD : 1 ≤ d) (v0 : Int32) (v1 : Int32) (S : St) : VV p l e (rmd d) s m args below meth c D ca tp a A 3 (QmI D ca tp a A below args s) S [(0, .int v0), (1, .int v1), (2, .null)] 0 [] (j_pc_checkIndex v0 v1 S) := by
  unfold j_pc_checkIndex
  refine V_iload_n (pc := 0) h 0 dJ3_checkIndex_8e157_0 rfl rfl ?_
  refine V_if_lt (pc := 1) h 9 dJ3_checkIndex_8e157_1 (by decide) ?_ ?_
  · exact V_none
  · refine V_iload_n (pc := 4) h 0 dJ3_checkIndex_8e157_4 rfl rfl ?_
    refine V_iload_n (pc := 5) h 1 dJ3_checkIndex_8e157_5 rfl rfl ?_
    refine V_icmp_lt (pc := 6) h 16 dJ3_checkIndex_8e157_6 (by decide) ?_ ?_
    · refine V_iload_n (pc := 16) h 0 dJ3_checkIndex_8e157_16 rfl rfl ?_
      exact V_iret (pc := 17) h hr hlk dJ3_checkIndex_8e157_17
    · exact V_none
theorem j_pc_checkIndex_ct {d : Nat} (g : GG s0 args0 D ca a A) (hD : 1 ≤ d) (v0 : Int32) (v1 : Int32) (S : St) (z : Int32 × St) (hz : j_pc_checkIndex v0 v1 S = some z) : CtI l yJ3_checkIndex_8e157 cJ3_checkIndex_8e157 3 .int d s0 D ca tp a A [.int v0, .int v1, .null] S z := CtI_mk g (by decide +kernel) (Nat.le_of_ble_eq_true rfl) hz (fun p e s m args below meth c h hr hlk => j_pc_checkIndex_ok h hr hlk hD v0 v1 S)
set_option maxHeartbeats 4000000 in
set_option maxRecDepth 100000 in
theorem j_pc_checkIndex_okR {d : Nat} (h : Cx p s m c cJ3_checkIndex_8e157 3 RJ3 s0 args0 D ca a A) (hr : meth.sig.returnType = some .int) (hlk : meth.locks = false) (hD : 1 ≤ d) (v0 : Int32) (v1 : Int32) (S : St) : VV p l e (rmd d) s m args below meth c D ca tp a A 3 (QmI D ca tp a A below args s) S [(0, .int v0), (1, .int v1), (2, .ref t)] 0 [] (j_pc_checkIndex v0 v1 S) := by
  unfold j_pc_checkIndex
  refine V_iload_n (pc := 0) h 0 dJ3_checkIndex_8e157_0 rfl rfl ?_
  refine V_if_lt (pc := 1) h 9 dJ3_checkIndex_8e157_1 (by decide) ?_ ?_
  · exact V_none
  · refine V_iload_n (pc := 4) h 0 dJ3_checkIndex_8e157_4 rfl rfl ?_
    refine V_iload_n (pc := 5) h 1 dJ3_checkIndex_8e157_5 rfl rfl ?_
    refine V_icmp_lt (pc := 6) h 16 dJ3_checkIndex_8e157_6 (by decide) ?_ ?_
    · refine V_iload_n (pc := 16) h 0 dJ3_checkIndex_8e157_16 rfl rfl ?_
      exact V_iret (pc := 17) h hr hlk dJ3_checkIndex_8e157_17
    · exact V_none
theorem j_pc_checkIndex_ctR {d : Nat} (g : GG s0 args0 D ca a A) (hD : 1 ≤ d) (v0 : Int32) (v1 : Int32) (S : St) (z : Int32 × St) (hz : j_pc_checkIndex v0 v1 S = some z) : CtI l yJ3_checkIndex_8e157 cJ3_checkIndex_8e157 3 .int d s0 D ca tp a A [.int v0, .int v1, .ref t] S z := CtI_mk g (by decide +kernel) (Nat.le_of_ble_eq_true rfl) hz (fun p e s m args below meth c h hr hlk => j_pc_checkIndex_okR h hr hlk hD v0 v1 S)
def j_String_checkIndex_df160 (v0 : Int32) (v1 : Int32) (S : St) : Option St := (bI (j_pc_checkIndex v0 v1 S) (fun x2 S1 => (some S1)))
set_option maxHeartbeats 4000000 in
set_option maxRecDepth 100000 in
theorem j_String_checkIndex_df160_ok {d : Nat} (h : Cx p s m c cJ0_checkIndex_df160 2 RJ0 s0 args0 D ca a A) (hr : meth.sig.returnType = none) (hlk : meth.locks = false) (hD : 2 ≤ d) (v0 : Int32) (v1 : Int32) (S : St) : VV p l e (rmd d) s m args below meth c D ca tp a A 2 (QmV D ca tp a A below args s) S [(0, .int v0), (1, .int v1)] 0 [] (j_String_checkIndex_df160 v0 v1 S) := by
  unfold j_String_checkIndex_df160
  refine V_iload_n (pc := 0) h 0 dJ0_checkIndex_df160_0 rfl rfl ?_
  refine V_iload_n (pc := 1) h 1 dJ0_checkIndex_df160_1 rfl rfl ?_
  refine V_getsQ (pc := 2) h tw_3_10 dJ0_checkIndex_df160_2 ?_ (fun t => ?_)
  · refine V_callSI (pc := 5) (dy := 1) h [.int v0, .int v1, .null] [] ms_J0_1059 dJ0_checkIndex_df160_5 rfl rfl (Nat.le_of_ble_eq_true rfl) (Nat.le_trans (by decide) hD) (j_pc_checkIndex v0 v1 S) (fun z9 hz9 => j_pc_checkIndex_ct h.gg (Nat.le_refl 1) v0 v1 S z9 hz9) (fun x2 S1 => ?_)
    refine V_pop (pc := 8) h dJ0_checkIndex_df160_8 rfl ?_
    exact V_vret (pc := 9) h hr hlk dJ0_checkIndex_df160_9
  · refine V_callSI (pc := 5) (dy := 1) h [.int v0, .int v1, .ref t] [] ms_J0_1059 dJ0_checkIndex_df160_5 rfl rfl (Nat.le_of_ble_eq_true rfl) (Nat.le_trans (by decide) hD) (j_pc_checkIndex v0 v1 S) (fun z9 hz9 => j_pc_checkIndex_ctR (t := t) h.gg (Nat.le_refl 1) v0 v1 S z9 hz9) (fun x4 S3 => ?_)
    refine V_pop (pc := 8) h dJ0_checkIndex_df160_8 rfl ?_
    exact V_vret (pc := 9) h hr hlk dJ0_checkIndex_df160_9
theorem j_String_checkIndex_df160_ct {d : Nat} (g : GG s0 args0 D ca a A) (hD : 2 ≤ d) (v0 : Int32) (v1 : Int32) (S : St) (z : St) (hz : j_String_checkIndex_df160 v0 v1 S = some z) : CtV l yJ0_checkIndex_df160 cJ0_checkIndex_df160 2 d s0 D ca tp a A [.int v0, .int v1] S z := CtV_mk g (by decide +kernel) (Nat.le_of_ble_eq_true rfl) hz (fun p e s m args below meth c h hr hlk => j_String_checkIndex_df160_ok h hr hlk hD v0 v1 S)
def j_StringLatin1_charAt_3b067 (i0 : Nat) (v1 : Int32) (S : St) : Option (Int32 × St) := (bV (j_String_checkIndex_df160 v1 (Int32.ofNat (sbs i0).length) S) (fun S1 => (ckM v1 (sbs i0).length (ncM (((((sbs i0).getD v1.toNatClampNeg 0) &&& (255 : Int32)).toUInt32 % 65536).toInt32) (some ((((((sbs i0).getD v1.toNatClampNeg 0) &&& (255 : Int32)).toUInt32 % 65536).toInt32), S1))))))
set_option maxHeartbeats 4000000 in
set_option maxRecDepth 100000 in
theorem j_StringLatin1_charAt_3b067_ok {d : Nat} (h : Cx p s m c cJ1_charAt_3b067 2 RJ1 s0 args0 D ca a A) (hr : meth.sig.returnType = some .char) (hlk : meth.locks = false) (hD : 3 ≤ d) (i0 : Nat) (hi0 : i0 < 7) (v1 : Int32) (S : St) : VV p l e (rmd d) s m args below meth c D ca tp a A 2 (QmI D ca tp a A below args s) S [(0, .ref (a (220 + i0))), (1, .int v1)] 0 [] (j_StringLatin1_charAt_3b067 i0 v1 S) := by
  unfold j_StringLatin1_charAt_3b067
  refine V_iload_n (pc := 0) h 1 dJ1_charAt_3b067_0 rfl rfl ?_
  refine V_aload_n (pc := 1) h 0 dJ1_charAt_3b067_1 rfl rfl ?_
  refine V_svlen (pc := 2) h i0 hi0 dJ1_charAt_3b067_2 ?_
  refine V_callSV (pc := 3) (dy := 2) h [.int v1, .int (Int32.ofNat (sbs i0).length)] [] ms_J1_9 dJ1_charAt_3b067_3 rfl rfl (Nat.le_of_ble_eq_true rfl) (Nat.le_trans (by decide) hD) (j_String_checkIndex_df160 v1 (Int32.ofNat (sbs i0).length) S) (fun z9 hz9 => j_String_checkIndex_df160_ct h.gg (Nat.le_refl 2) v1 (Int32.ofNat (sbs i0).length) S z9 hz9) (fun S1 => ?_)
  refine V_aload_n (pc := 6) h 0 dJ1_charAt_3b067_6 rfl rfl ?_
  refine V_iload_n (pc := 7) h 1 dJ1_charAt_3b067_7 rfl rfl ?_
  refine V_svald (pc := 8) h i0 hi0 dJ1_charAt_3b067_8 ?_
  refine V_sipush (pc := 9) (v := 255) h dJ1_charAt_3b067_9 (by decide) ?_
  refine V_iand (pc := 12) h dJ1_charAt_3b067_12 ?_
  refine V_i2c (pc := 13) h dJ1_charAt_3b067_13 ?_
  exact V_cret (pc := 14) h hr hlk dJ1_charAt_3b067_14
theorem j_StringLatin1_charAt_3b067_ct {d : Nat} (g : GG s0 args0 D ca a A) (hD : 3 ≤ d) {i0 : Nat} (hi0 : i0 < 7) (v1 : Int32) (S : St) (z : Int32 × St) (hz : j_StringLatin1_charAt_3b067 i0 v1 S = some z) : CtI l yJ1_charAt_3b067 cJ1_charAt_3b067 2 .char d s0 D ca tp a A [.ref (a (220 + i0)), .int v1] S z := CtI_mk g (by decide +kernel) (Nat.le_of_ble_eq_true rfl) hz (fun p e s m args below meth c h hr hlk => j_StringLatin1_charAt_3b067_ok h hr hlk hD i0 hi0 v1 S)
def j_String_charAt_5068e (i0 : Nat) (v1 : Int32) (S : St) : Option (Int32 × St) := (bI (j_String_isLatin1_aae02 i0 S) (fun x2 S1 => (if x2 = 0 then none else (bI (j_StringLatin1_charAt_3b067 i0 v1 S1) (fun x4 S3 => (ncM x4 (some (x4, S3))))))))
set_option maxHeartbeats 4000000 in
set_option maxRecDepth 100000 in
theorem j_String_charAt_5068e_ok {d : Nat} (h : Cx p s m c cJ0_charAt_5068e 2 RJ0 s0 args0 D ca a A) (hr : meth.sig.returnType = some .char) (hlk : meth.locks = false) (hD : 4 ≤ d) (i0 : Nat) (hi0 : i0 < 7) (v1 : Int32) (S : St) : VV p l e (rmd d) s m args below meth c D ca tp a A 2 (QmI D ca tp a A below args s) S [(0, .ref (a (200 + i0))), (1, .int v1)] 0 [] (j_String_charAt_5068e i0 v1 S) := by
  unfold j_String_charAt_5068e
  refine V_aload_n (pc := 0) h 0 dJ0_charAt_5068e_0 rfl rfl ?_
  refine V_callOI (pc := 1) (dy := 1) h [] [] i0 hi0 mv_J0_492 dJ0_charAt_5068e_1 rfl rfl (Nat.le_of_ble_eq_true rfl) (Nat.le_trans (by decide) hD) (j_String_isLatin1_aae02 i0 S) (fun z9 hz9 => j_String_isLatin1_aae02_ct h.gg (Nat.le_refl 1) hi0 S z9 hz9) (fun x2 S1 => ?_)
  refine V_if_eq (pc := 4) h 16 dJ0_charAt_5068e_4 (by decide) ?_ ?_
  · exact V_none
  · refine V_aload_n (pc := 7) h 0 dJ0_charAt_5068e_7 rfl rfl ?_
    refine V_strval (pc := 8) h i0 hi0 tw_7_188 dJ0_charAt_5068e_8 ?_
    refine V_iload_n (pc := 11) h 1 dJ0_charAt_5068e_11 rfl rfl ?_
    refine V_callSI (pc := 12) (dy := 3) h [.ref (a (220 + i0)), .int v1] [] ms_J0_495 dJ0_charAt_5068e_12 rfl rfl (Nat.le_of_ble_eq_true rfl) (Nat.le_trans (by decide) hD) (j_StringLatin1_charAt_3b067 i0 v1 S1) (fun z9 hz9 => j_StringLatin1_charAt_3b067_ct h.gg (Nat.le_refl 3) hi0 v1 S1 z9 hz9) (fun x4 S3 => ?_)
    exact V_cret (pc := 15) h hr hlk dJ0_charAt_5068e_15
theorem j_String_charAt_5068e_ct {d : Nat} (g : GG s0 args0 D ca a A) (hD : 4 ≤ d) {i0 : Nat} (hi0 : i0 < 7) (v1 : Int32) (S : St) (z : Int32 × St) (hz : j_String_charAt_5068e i0 v1 S = some z) : CtI l yJ0_charAt_5068e cJ0_charAt_5068e 2 .char d s0 D ca tp a A [.ref (a (200 + i0)), .int v1] S z := CtI_mk g (by decide +kernel) (Nat.le_of_ble_eq_true rfl) hz (fun p e s m args below meth c h hr hlk => j_String_charAt_5068e_ok h hr hlk hD i0 hi0 v1 S)
def m_isAmong_h2 (i0 : Nat) : Nat → Int32 → Int32 → St → Option (Int32 × St)
  | 0, _, _, _ => none
  | n + 1, v1, v2, S => (bI (j_String_length_8abf5 i0 S) (fun x2 S1 => (if x2 ≤ v2 then (nzM (0 : Int32) (some ((0 : Int32), S1))) else (bI (j_String_charAt_5068e i0 v2 S1) (fun x4 S3 => (if x4 = v1 then (nzM (1 : Int32) (some ((1 : Int32), S3))) else (bnd (v2 + (1 : Int32)) (fun x5 => ((m_isAmong_h2 i0 n) v1 x5 S3)))))))))
set_option maxHeartbeats 4000000 in
set_option maxRecDepth 100000 in
theorem m_isAmong_h2_ok {d : Nat} (h : Cx p s m c cX11_isAmong 3 RX11 s0 args0 D ca a A) (hr : meth.sig.returnType = some .boolean) (hlk : meth.locks = false) (hD : 5 ≤ d) (i0 : Nat) (hi0 : i0 < 7) : ∀ (n : Nat) (v1 : Int32) (v2 : Int32) (S : St), VV p l e (rmd d) s m args below meth c D ca tpM a A 3 (QmI D ca tpM a A below args s) S [(0, .ref (a (200 + i0))), (1, .int v1), (2, .int v2)] 2 [] (m_isAmong_h2 i0 n v1 v2 S) := by
  intro n
  induction n with
  | zero => intro v1 v2 S; exact V_none
  | succ n ih =>
    intro v1 v2 S
    unfold m_isAmong_h2
    refine V_iload_n (pc := 2) h 2 dX11_isAmong_2 rfl rfl ?_
    refine V_aload_n (pc := 3) h 0 dX11_isAmong_3 rfl rfl ?_
    refine V_callOI (pc := 4) (dy := 2) h [] [.int v2] i0 hi0 mv_X11_122 dX11_isAmong_4 rfl rfl (Nat.le_of_ble_eq_true rfl) (Nat.le_trans (by decide) hD) (j_String_length_8abf5 i0 S) (fun z9 hz9 => j_String_length_8abf5_ct h.gg (Nat.le_refl 2) hi0 S z9 hz9) (fun x2 S1 => ?_)
    refine V_icmp_ge (pc := 7) h 27 dX11_isAmong_7 (by decide) ?_ ?_
    · refine V_iconst (pc := 27) (v := 0) h dX11_isAmong_27 (by decide) ?_
      exact V_zret (pc := 28) h hr hlk dX11_isAmong_28
    · refine V_aload_n (pc := 10) h 0 dX11_isAmong_10 rfl rfl ?_
      refine V_iload_n (pc := 11) h 2 dX11_isAmong_11 rfl rfl ?_
      refine V_callOI (pc := 12) (dy := 4) h [.int v2] [] i0 hi0 mv_X11_128 dX11_isAmong_12 rfl rfl (Nat.le_of_ble_eq_true rfl) (Nat.le_trans (by decide) hD) (j_String_charAt_5068e i0 v2 S1) (fun z9 hz9 => j_String_charAt_5068e_ct h.gg (Nat.le_refl 4) hi0 v2 S1 z9 hz9) (fun x4 S3 => ?_)
      refine V_iload_n (pc := 15) h 1 dX11_isAmong_15 rfl rfl ?_
      refine V_icmp_ne (pc := 16) h 21 dX11_isAmong_16 (by decide) ?_ ?_
      · refine V_iincB (pc := 21) h 2 (1 : Int32) (fun x5 => [(2, .int x5), (0, .ref (a (200 + i0))), (1, .int v1)]) dX11_isAmong_21 rfl (by decide) (by decide) (fun _ => rfl) (fun x5 => ?_)
        refine V_goto (pc := 24) h 2 dX11_isAmong_24 (by decide) ?_
        exact V_ls [1, 2, 0] rfl (ih v1 x5 S3)
      · refine V_iconst (pc := 19) (v := 1) h dX11_isAmong_19 (by decide) ?_
        exact V_zret (pc := 20) h hr hlk dX11_isAmong_20
def m_isAmong (i0 : Nat) (v1 : Int32) (S : St) : Option (Int32 × St) := (m_isAmong_h2 i0 FU v1 (0 : Int32) S)
set_option maxHeartbeats 4000000 in
set_option maxRecDepth 100000 in
theorem m_isAmong_ok {d : Nat} (h : Cx p s m c cX11_isAmong 3 RX11 s0 args0 D ca a A) (hr : meth.sig.returnType = some .boolean) (hlk : meth.locks = false) (hD : 5 ≤ d) (i0 : Nat) (hi0 : i0 < 7) (v1 : Int32) (S : St) : VV p l e (rmd d) s m args below meth c D ca tpM a A 3 (QmI D ca tpM a A below args s) S [(0, .ref (a (200 + i0))), (1, .int v1)] 0 [] (m_isAmong i0 v1 S) := by
  unfold m_isAmong
  refine V_iconst (pc := 0) (v := 0) h dX11_isAmong_0 (by decide) ?_
  refine V_istore_n (pc := 1) h [(2, .int (0 : Int32)), (0, .ref (a (200 + i0))), (1, .int v1)] dX11_isAmong_1 rfl (by decide) rfl ?_
  exact V_ls [1, 2, 0] rfl (m_isAmong_h2_ok h hr hlk hD i0 hi0 FU v1 (0 : Int32) S)
theorem m_isAmong_ct {d : Nat} (g : GG s0 args0 D ca a A) (hD : 5 ≤ d) {i0 : Nat} (hi0 : i0 < 7) (v1 : Int32) (S : St) (z : Int32 × St) (hz : m_isAmong i0 v1 S = some z) : CtI l yX11_isAmong cX11_isAmong 3 .boolean d s0 D ca tpM a A [.ref (a (200 + i0)), .int v1] S z := CtI_mk g (by decide +kernel) (Nat.le_of_ble_eq_true rfl) hz (fun p e s m args below meth c h hr hlk => m_isAmong_ok h hr hlk hD i0 hi0 v1 S)
def m_isDigit (S : St) : Option (Int32 × St) := (if (S 0 9) ≤ (S 0 10) then (nzM (0 : Int32) (some ((0 : Int32), S))) else (ckM (S 0 5) 2 (ckM ((S 0 8) + (S 0 10)) (alen tpM (1 + (S 0 5).toNatClampNeg)) (if (S (1 + (S 0 5).toNatClampNeg) ((S 0 8) + (S 0 10)).toNatClampNeg) < (48 : Int32) then (nzM (0 : Int32) (some ((0 : Int32), S))) else (ckM (S 0 5) 2 (ckM ((S 0 8) + (S 0 10)) (alen tpM (1 + (S 0 5).toNatClampNeg)) (if (57 : Int32) < (S (1 + (S 0 5).toNatClampNeg) ((S 0 8) + (S 0 10)).toNatClampNeg) then (nzM (0 : Int32) (some ((0 : Int32), S))) else (nzM (1 : Int32) (some ((1 : Int32), S))))))))))
set_option maxHeartbeats 4000000 in
set_option maxRecDepth 100000 in
theorem m_isDigit_ok {d : Nat} (h : Cx p s m c cX11_isDigit 1 RX11 s0 args0 D ca a A) (hr : meth.sig.returnType = some .boolean) (hlk : meth.locks = false) (hD : 1 ≤ d) (S : St) : VV p l e (rmd d) s m args below meth c D ca tpM a A 1 (QmI D ca tpM a A below args s) S [(0, .ref (a 0))] 0 [] (m_isDigit S) := by
  unfold m_isDigit
  refine V_aload_n (pc := 0) h 0 dX11_isDigit_0 rfl rfl ?_
  refine V_get (pc := 1) h 0 10 (.int (S 0 10)) fl_X11_142_X11 oM_0 rfl rfl dX11_isDigit_1 ?_
  refine V_aload_n (pc := 4) h 0 dX11_isDigit_4 rfl rfl ?_
  refine V_get (pc := 5) h 0 9 (.int (S 0 9)) fl_X11_145_X11 oM_0 rfl rfl dX11_isDigit_5 ?_
  refine V_icmp_ge (pc := 8) h 53 dX11_isDigit_8 (by decide) ?_ ?_
  · refine V_iconst (pc := 53) (v := 0) h dX11_isDigit_53 (by decide) ?_
    exact V_zret (pc := 54) h hr hlk dX11_isDigit_54
  · refine V_aload_n (pc := 11) h 0 dX11_isDigit_11 rfl rfl ?_
    refine V_getD (pc := 12) h 0 5 2 fl_X11_23_X11 oM_0 rfl dX11_isDigit_12 (fun h1 h2 => ?_)
    refine V_aload_n (pc := 15) h 0 dX11_isDigit_15 rfl rfl ?_
    refine V_get (pc := 16) h 0 8 (.int (S 0 8)) fl_X11_148_X11 oM_0 rfl rfl dX11_isDigit_16 ?_
    refine V_aload_n (pc := 19) h 0 dX11_isDigit_19 rfl rfl ?_
    refine V_get (pc := 20) h 0 10 (.int (S 0 10)) fl_X11_142_X11 oM_0 rfl rfl dX11_isDigit_20 ?_
    refine V_iadd (pc := 23) h dX11_isDigit_23 ?_
    refine V_bald (pc := 24) h (1 + (S 0 5).toNatClampNeg) (isBt_all _ h2) dX11_isDigit_24 ?_
    refine V_bipush (pc := 25) (v := 48) h dX11_isDigit_25 (by decide) ?_
    refine V_icmp_lt (pc := 27) h 53 dX11_isDigit_27 (by decide) ?_ ?_
    · refine V_iconst (pc := 53) (v := 0) h dX11_isDigit_53 (by decide) ?_
      exact V_zret (pc := 54) h hr hlk dX11_isDigit_54
    · refine V_aload_n (pc := 30) h 0 dX11_isDigit_30 rfl rfl ?_
      refine V_getD (pc := 31) h 0 5 2 fl_X11_23_X11 oM_0 rfl dX11_isDigit_31 (fun h3 h4 => ?_)
      refine V_aload_n (pc := 34) h 0 dX11_isDigit_34 rfl rfl ?_
      refine V_get (pc := 35) h 0 8 (.int (S 0 8)) fl_X11_148_X11 oM_0 rfl rfl dX11_isDigit_35 ?_
      refine V_aload_n (pc := 38) h 0 dX11_isDigit_38 rfl rfl ?_
      refine V_get (pc := 39) h 0 10 (.int (S 0 10)) fl_X11_142_X11 oM_0 rfl rfl dX11_isDigit_39 ?_
      refine V_iadd (pc := 42) h dX11_isDigit_42 ?_
      refine V_bald (pc := 43) h (1 + (S 0 5).toNatClampNeg) (isBt_all _ h4) dX11_isDigit_43 ?_
      refine V_bipush (pc := 44) (v := 57) h dX11_isDigit_44 (by decide) ?_
      refine V_icmp_gt (pc := 46) h 53 dX11_isDigit_46 (by decide) ?_ ?_
      · refine V_iconst (pc := 53) (v := 0) h dX11_isDigit_53 (by decide) ?_
        exact V_zret (pc := 54) h hr hlk dX11_isDigit_54
      · refine V_iconst (pc := 49) (v := 1) h dX11_isDigit_49 (by decide) ?_
        refine V_goto (pc := 50) h 54 dX11_isDigit_50 (by decide) ?_
        exact V_zret (pc := 54) h hr hlk dX11_isDigit_54
theorem m_isDigit_ct {d : Nat} (g : GG s0 args0 D ca a A) (hD : 1 ≤ d) (S : St) (z : Int32 × St) (hz : m_isDigit S = some z) : CtI l yX11_isDigit cX11_isDigit 1 .boolean d s0 D ca tpM a A [.ref (a 0)] S z := CtI_mk g (by decide +kernel) (Nat.le_of_ble_eq_true rfl) hz (fun p e s m args below meth c h hr hlk => m_isDigit_ok h hr hlk hD S)
def m_fails (S : St) : Option (Int32 × St) := (if (S 0 11) = (-1 : Int32) then (bnd (up2 S 0 11 (S 0 10)) (fun S1 => (nzM (0 : Int32) (some ((0 : Int32), S1))))) else (nzM (0 : Int32) (some ((0 : Int32), S))))
set_option maxHeartbeats 4000000 in
set_option maxRecDepth 100000 in
theorem m_fails_ok {d : Nat} (h : Cx p s m c cX11_fails 1 RX11 s0 args0 D ca a A) (hr : meth.sig.returnType = some .boolean) (hlk : meth.locks = false) (hD : 1 ≤ d) (S : St) : VV p l e (rmd d) s m args below meth c D ca tpM a A 1 (QmI D ca tpM a A below args s) S [(0, .ref (a 0))] 0 [] (m_fails S) := by
  unfold m_fails
  refine V_aload_n (pc := 0) h 0 dX11_fails_0 rfl rfl ?_
  refine V_get (pc := 1) h 0 11 (.int (S 0 11)) fl_X11_151_X11 oM_0 rfl rfl dX11_fails_1 ?_
  refine V_iconst (pc := 4) (v := -1) h dX11_fails_4 (by decide) ?_
  refine V_icmp_ne (pc := 5) h 16 dX11_fails_5 (by decide) ?_ ?_
  · refine V_iconst (pc := 16) (v := 0) h dX11_fails_16 (by decide) ?_
    exact V_zret (pc := 17) h hr hlk dX11_fails_17
  · refine V_aload_n (pc := 8) h 0 dX11_fails_8 rfl rfl ?_
    refine V_aload_n (pc := 9) h 0 dX11_fails_9 rfl rfl ?_
    refine V_get (pc := 10) h 0 10 (.int (S 0 10)) fl_X11_142_X11 oM_0 rfl rfl dX11_fails_10 ?_
    refine V_put (pc := 13) h 0 11 (S 0 10) fp_X11_151_X11 oM_0 rfl rfl rfl rfl dX11_fails_13 (fun S1 => ?_)
    refine V_iconst (pc := 16) (v := 0) h dX11_fails_16 (by decide) ?_
    exact V_zret (pc := 17) h hr hlk dX11_fails_17
theorem m_fails_ct {d : Nat} (g : GG s0 args0 D ca a A) (hD : 1 ≤ d) (S : St) (z : Int32 × St) (hz : m_fails S = some z) : CtI l yX11_fails cX11_fails 1 .boolean d s0 D ca tpM a A [.ref (a 0)] S z := CtI_mk g (by decide +kernel) (Nat.le_of_ble_eq_true rfl) hz (fun p e s m args below meth c h hr hlk => m_fails_ok h hr hlk hD S)
def m_goesIn (S : St) : Option (Int32 × St) := (if (S 0 12) = (6 : Int32) then (bI (m_fails S) (fun x4 S3 => (nzM x4 (some (x4, S3))))) else (bnd (up2 S 0 12 ((S 0 12) + (1 : Int32))) (fun S1 => (bnd (up2 S1 0 10 ((S1 0 10) + (1 : Int32))) (fun S2 => (nzM (1 : Int32) (some ((1 : Int32), S2))))))))
set_option maxHeartbeats 4000000 in
set_option maxRecDepth 100000 in
theorem m_goesIn_ok {d : Nat} (h : Cx p s m c cX11_goesIn 1 RX11 s0 args0 D ca a A) (hr : meth.sig.returnType = some .boolean) (hlk : meth.locks = false) (hD : 2 ≤ d) (S : St) : VV p l e (rmd d) s m args below meth c D ca tpM a A 1 (QmI D ca tpM a A below args s) S [(0, .ref (a 0))] 0 [] (m_goesIn S) := by
  unfold m_goesIn
  refine V_aload_n (pc := 0) h 0 dX11_goesIn_0 rfl rfl ?_
  refine V_get (pc := 1) h 0 12 (.int (S 0 12)) fl_X11_154_X11 oM_0 rfl rfl dX11_goesIn_1 ?_
  refine V_bipush (pc := 4) (v := 6) h dX11_goesIn_4 (by decide) ?_
  refine V_icmp_ne (pc := 6) h 14 dX11_goesIn_6 (by decide) ?_ ?_
  · refine V_aload_n (pc := 14) h 0 dX11_goesIn_14 rfl rfl ?_
    refine V_dup (pc := 15) h dX11_goesIn_15 rfl ?_
    refine V_get (pc := 16) h 0 12 (.int (S 0 12)) fl_X11_154_X11 oM_0 rfl rfl dX11_goesIn_16 ?_
    refine V_iconst (pc := 19) (v := 1) h dX11_goesIn_19 (by decide) ?_
    refine V_iadd (pc := 20) h dX11_goesIn_20 ?_
    refine V_put (pc := 21) h 0 12 ((S 0 12) + (1 : Int32)) fp_X11_154_X11 oM_0 rfl rfl rfl rfl dX11_goesIn_21 (fun S1 => ?_)
    refine V_aload_n (pc := 24) h 0 dX11_goesIn_24 rfl rfl ?_
    refine V_dup (pc := 25) h dX11_goesIn_25 rfl ?_
    refine V_get (pc := 26) h 0 10 (.int (S1 0 10)) fl_X11_142_X11 oM_0 rfl rfl dX11_goesIn_26 ?_
    refine V_iconst (pc := 29) (v := 1) h dX11_goesIn_29 (by decide) ?_
    refine V_iadd (pc := 30) h dX11_goesIn_30 ?_
    refine V_put (pc := 31) h 0 10 ((S1 0 10) + (1 : Int32)) fp_X11_142_X11 oM_0 rfl rfl rfl rfl dX11_goesIn_31 (fun S2 => ?_)
    refine V_iconst (pc := 34) (v := 1) h dX11_goesIn_34 (by decide) ?_
    exact V_zret (pc := 35) h hr hlk dX11_goesIn_35
  · refine V_aload_n (pc := 9) h 0 dX11_goesIn_9 rfl rfl ?_
    refine V_callVI (pc := 10) (dy := 1) (q := (RX11, TX11, 59)) h [] [] 0 mv_X11_157 oM_0 rfl dX11_goesIn_10 rfl rfl (Nat.le_of_ble_eq_true rfl) (Nat.le_trans (by decide) hD) (m_fails S) (fun z9 hz9 => m_fails_ct h.gg (Nat.le_refl 1) S z9 hz9) (fun x4 S3 => ?_)
    exact V_zret (pc := 13) h hr hlk dX11_goesIn_13
theorem m_goesIn_ct {d : Nat} (g : GG s0 args0 D ca a A) (hD : 2 ≤ d) (S : St) (z : Int32 × St) (hz : m_goesIn S = some z) : CtI l yX11_goesIn cX11_goesIn 1 .boolean d s0 D ca tpM a A [.ref (a 0)] S z := CtI_mk g (by decide +kernel) (Nat.le_of_ble_eq_true rfl) hz (fun p e s m args below meth c h hr hlk => m_goesIn_ok h hr hlk hD S)
def m_takes_b16 (S : St) : Option (Int32 × St) := (bI (m_fails S) (fun x2 S1 => (nzM x2 (some (x2, S1)))))
set_option maxHeartbeats 4000000 in
set_option maxRecDepth 100000 in
theorem m_takes_b16_ok {d : Nat} (h : Cx p s m c cX11_takes 2 RX11 s0 args0 D ca a A) (hr : meth.sig.returnType = some .boolean) (hlk : meth.locks = false) (hD : 2 ≤ d) (S : St) : VV p l e (rmd d) s m args below meth c D ca tpM a A 2 (QmI D ca tpM a A below args s) S [(0, .ref (a 0))] 16 [] (m_takes_b16 S) := by
  unfold m_takes_b16
  refine V_aload_n (pc := 16) h 0 dX11_takes_16 rfl rfl ?_
  refine V_callVI (pc := 17) (dy := 1) (q := (RX11, TX11, 59)) h [] [] 0 mv_X11_157 oM_0 rfl dX11_takes_17 rfl rfl (Nat.le_of_ble_eq_true rfl) (Nat.le_trans (by decide) hD) (m_fails S) (fun z9 hz9 => m_fails_ct h.gg (Nat.le_refl 1) S z9 hz9) (fun x2 S1 => ?_)
  exact V_zret (pc := 20) h hr hlk dX11_takes_20
def m_takes (v1 : Int32) (S : St) : Option (Int32 × St) := (if (S 0 11) = (-1 : Int32) then (bI (m_look S) (fun x2 S1 => (if x2 = v1 then (bnd (up2 S1 0 10 ((S1 0 10) + (1 : Int32))) (fun S3 => (nzM (1 : Int32) (some ((1 : Int32), S3))))) else (m_takes_b16 S1)))) else (m_takes_b16 S))
set_option maxHeartbeats 4000000 in
set_option maxRecDepth 100000 in
theorem m_takes_ok {d : Nat} (h : Cx p s m c cX11_takes 2 RX11 s0 args0 D ca a A) (hr : meth.sig.returnType = some .boolean) (hlk : meth.locks = false) (hD : 2 ≤ d) (v1 : Int32) (S : St) : VV p l e (rmd d) s m args below meth c D ca tpM a A 2 (QmI D ca tpM a A below args s) S [(0, .ref (a 0)), (1, .int v1)] 0 [] (m_takes v1 S) := by
  unfold m_takes
  refine V_aload_n (pc := 0) h 0 dX11_takes_0 rfl rfl ?_
  refine V_get (pc := 1) h 0 11 (.int (S 0 11)) fl_X11_151_X11 oM_0 rfl rfl dX11_takes_1 ?_
  refine V_iconst (pc := 4) (v := -1) h dX11_takes_4 (by decide) ?_
  refine V_icmp_ne (pc := 5) h 16 dX11_takes_5 (by decide) ?_ ?_
  · exact V_ls [0] rfl (m_takes_b16_ok h hr hlk hD S)
  · refine V_aload_n (pc := 8) h 0 dX11_takes_8 rfl rfl ?_
    refine V_callVI (pc := 9) (dy := 1) (q := (RX11, TX11, 59)) h [] [] 0 mv_X11_161 oM_0 rfl dX11_takes_9 rfl rfl (Nat.le_of_ble_eq_true rfl) (Nat.le_trans (by decide) hD) (m_look S) (fun z9 hz9 => m_look_ct h.gg (Nat.le_refl 1) S z9 hz9) (fun x2 S1 => ?_)
    refine V_iload_n (pc := 12) h 1 dX11_takes_12 rfl rfl ?_
    refine V_icmp_eq (pc := 13) h 21 dX11_takes_13 (by decide) ?_ ?_
    · refine V_aload_n (pc := 21) h 0 dX11_takes_21 rfl rfl ?_
      refine V_dup (pc := 22) h dX11_takes_22 rfl ?_
      refine V_get (pc := 23) h 0 10 (.int (S1 0 10)) fl_X11_142_X11 oM_0 rfl rfl dX11_takes_23 ?_
      refine V_iconst (pc := 26) (v := 1) h dX11_takes_26 (by decide) ?_
      refine V_iadd (pc := 27) h dX11_takes_27 ?_
      refine V_put (pc := 28) h 0 10 ((S1 0 10) + (1 : Int32)) fp_X11_142_X11 oM_0 rfl rfl rfl rfl dX11_takes_28 (fun S3 => ?_)
      refine V_iconst (pc := 31) (v := 1) h dX11_takes_31 (by decide) ?_
      exact V_zret (pc := 32) h hr hlk dX11_takes_32
    · exact V_ls [0] rfl (m_takes_b16_ok h hr hlk hD S1)
theorem m_takes_ct {d : Nat} (g : GG s0 args0 D ca a A) (hD : 2 ≤ d) (v1 : Int32) (S : St) (z : Int32 × St) (hz : m_takes v1 S = some z) : CtI l yX11_takes cX11_takes 2 .boolean d s0 D ca tpM a A [.ref (a 0), .int v1] S z := CtI_mk g (by decide +kernel) (Nat.le_of_ble_eq_true rfl) hz (fun p e s m args below meth c h hr hlk => m_takes_ok h hr hlk hD v1 S)
def m_within (v0 : Int64) (S : St) : Option (Int32 × St) := (some (((lmax (-1000000 : Int64) (lmin (1000000 : Int64) v0)).toInt32), S))
set_option maxHeartbeats 4000000 in
set_option maxRecDepth 100000 in
theorem m_within_ok {d : Nat} (h : Cx p s m c cX11_within 2 RX11 s0 args0 D ca a A) (hr : meth.sig.returnType = some .int) (hlk : meth.locks = false) (hD : 1 ≤ d) (v0 : Int64) (S : St) : VV p l e (rmd d) s m args below meth c D ca tpM a A 2 (QmI D ca tpM a A below args s) S [(0, .long v0)] 0 [] (m_within v0 S) := by
  unfold m_within
  refine V_ldc2 (pc := 0) (v := -1000000) h dX11_within_0 tw_6_199 ?_
  refine V_ldc2 (pc := 3) (v := 1000000) h dX11_within_3 tw_6_200 ?_
  refine V_lload_n (pc := 6) h 0 dX11_within_6 rfl rfl ?_
  refine V_mminL (pc := 7) h dX11_within_7 tw_6_201 tw_4_34 tw_1_16 tw_4_35 (Nat.le_trans (by decide) hD) (Nat.le_of_ble_eq_true rfl) ?_
  refine V_mmaxL (pc := 10) h dX11_within_10 tw_6_202 tw_4_37 tw_1_16 tw_4_38 (Nat.le_trans (by decide) hD) (Nat.le_of_ble_eq_true rfl) ?_
  refine V_l2i (pc := 13) h dX11_within_13 ?_
  exact V_iret (pc := 14) h hr hlk dX11_within_14
theorem m_within_ct {d : Nat} (g : GG s0 args0 D ca a A) (hD : 1 ≤ d) (v0 : Int64) (S : St) (z : Int32 × St) (hz : m_within v0 S = some z) : CtI l yX11_within cX11_within 2 .int d s0 D ca tpM a A [.long v0] S z := CtI_mk g (by decide +kernel) (Nat.le_of_ble_eq_true rfl) hz (fun p e s m args below meth c h hr hlk => m_within_ok h hr hlk hD v0 S)
def m_isSign (v0 : Int32) (S : St) : Option (Int32 × St) := (if v0 = (61 : Int32) then (nzM (1 : Int32) (some ((1 : Int32), S))) else (if v0 = (60 : Int32) then (nzM (1 : Int32) (some ((1 : Int32), S))) else (if v0 = (62 : Int32) then (nzM (1 : Int32) (some ((1 : Int32), S))) else (nzM (0 : Int32) (some ((0 : Int32), S))))))
set_option maxHeartbeats 4000000 in
set_option maxRecDepth 100000 in
theorem m_isSign_ok {d : Nat} (h : Cx p s m c cX11_isSign 1 RX11 s0 args0 D ca a A) (hr : meth.sig.returnType = some .boolean) (hlk : meth.locks = false) (hD : 1 ≤ d) (v0 : Int32) (S : St) : VV p l e (rmd d) s m args below meth c D ca tpM a A 1 (QmI D ca tpM a A below args s) S [(0, .int v0)] 0 [] (m_isSign v0 S) := by
  unfold m_isSign
  refine V_iload_n (pc := 0) h 0 dX11_isSign_0 rfl rfl ?_
  refine V_bipush (pc := 1) (v := 61) h dX11_isSign_1 (by decide) ?_
  refine V_icmp_eq (pc := 3) h 18 dX11_isSign_3 (by decide) ?_ ?_
  · refine V_iconst (pc := 18) (v := 1) h dX11_isSign_18 (by decide) ?_
    refine V_goto (pc := 19) h 23 dX11_isSign_19 (by decide) ?_
    exact V_zret (pc := 23) h hr hlk dX11_isSign_23
  · refine V_iload_n (pc := 6) h 0 dX11_isSign_6 rfl rfl ?_
    refine V_bipush (pc := 7) (v := 60) h dX11_isSign_7 (by decide) ?_
    refine V_icmp_eq (pc := 9) h 18 dX11_isSign_9 (by decide) ?_ ?_
    · refine V_iconst (pc := 18) (v := 1) h dX11_isSign_18 (by decide) ?_
      refine V_goto (pc := 19) h 23 dX11_isSign_19 (by decide) ?_
      exact V_zret (pc := 23) h hr hlk dX11_isSign_23
    · refine V_iload_n (pc := 12) h 0 dX11_isSign_12 rfl rfl ?_
      refine V_bipush (pc := 13) (v := 62) h dX11_isSign_13 (by decide) ?_
      refine V_icmp_ne (pc := 15) h 22 dX11_isSign_15 (by decide) ?_ ?_
      · refine V_iconst (pc := 22) (v := 0) h dX11_isSign_22 (by decide) ?_
        exact V_zret (pc := 23) h hr hlk dX11_isSign_23
      · refine V_iconst (pc := 18) (v := 1) h dX11_isSign_18 (by decide) ?_
        refine V_goto (pc := 19) h 23 dX11_isSign_19 (by decide) ?_
        exact V_zret (pc := 23) h hr hlk dX11_isSign_23
theorem m_isSign_ct {d : Nat} (g : GG s0 args0 D ca a A) (hD : 1 ≤ d) (v0 : Int32) (S : St) (z : Int32 × St) (hz : m_isSign v0 S = some z) : CtI l yX11_isSign cX11_isSign 1 .boolean d s0 D ca tpM a A [.int v0] S z := CtI_mk g (by decide +kernel) (Nat.le_of_ble_eq_true rfl) hz (fun p e s m args below meth c h hr hlk => m_isSign_ok h hr hlk hD v0 S)
def m_atom_h90 (rec : Nat → Int32 → Int32 → St → Option (Int32 × St)) : Nat → Int32 → Int32 → St → Option (Int32 × St)
  | 0, _, _, _ => none
  | n + 1, v2, v3, S => (bI (m_isDigit S) (fun x2 S1 => (if x2 = 0 then (some (v2, S1)) else (if (S1 0 11) = (-1 : Int32) then (if v3 = (4 : Int32) then (bI (m_fails S1) (fun x10 S9 => (some ((0 : Int32), S9)))) else (ckM (S1 0 5) 2 (ckM ((S1 0 8) + (S1 0 10)) (alen tpM (1 + (S1 0 5).toNatClampNeg)) (bnd (((10 : Int32) * v2) + (S1 (1 + (S1 0 5).toNatClampNeg) ((S1 0 8) + (S1 0 10)).toNatClampNeg)) (fun x5 => (bnd (x5 - (48 : Int32)) (fun x6 => (bnd (up2 S1 0 10 ((S1 0 10) + (1 : Int32))) (fun S7 => (bnd (v3 + (1 : Int32)) (fun x8 => ((m_atom_h90 rec n) x6 x8 S7)))))))))))) else (some (v2, S1))))))
set_option maxHeartbeats 4000000 in
set_option maxRecDepth 100000 in
theorem m_atom_h90_ok {d : Nat} (h : Cx p s m c cX11_atom 4 RX11 s0 args0 D ca a A) (hr : meth.sig.returnType = some .int) (hlk : meth.locks = false) (hD : 6 ≤ d) {dr : Nat} (rec : Nat → Int32 → Int32 → St → Option (Int32 × St)) (hrec : (∀ (S : St) (z : Int32 × St), rec 0 0 0 S = some z → CtI l yX11_atom cX11_atom 4 .int dr s0 D ca tpM a A [.ref (a 0)] S z) ∧ (∀ (S : St) (z : Int32 × St), rec 1 0 0 S = some z → CtI l yX11_term cX11_term 5 .int dr s0 D ca tpM a A [.ref (a 0)] S z) ∧ (∀ (S : St) (z : Int32 × St), rec 2 0 0 S = some z → CtI l yX11_sum cX11_sum 5 .int dr s0 D ca tpM a A [.ref (a 0)] S z) ∧ (∀ (v1 v2 : Int32) (S : St) (z : Int32 × St), rec 3 v1 v2 S = some z → CtI l yX11_compares cX11_compares 6 .boolean dr s0 D ca tpM a A [.ref (a 0), .int v1, .int v2] S z) ∧ (∀ (S : St) (z : Int32 × St), rec 4 0 0 S = some z → CtI l yX11_unit cX11_unit 3 .boolean dr s0 D ca tpM a A [.ref (a 0)] S z) ∧ (∀ (v1 v2 : Int32) (S : St) (z : Int32 × St), rec 5 v1 v2 S = some z → CtI l yX11_part cX11_part 5 .boolean dr s0 D ca tpM a A [.ref (a 0), .int v1, .int v2] S z) ∧ (∀ (v1 v2 : Int32) (S : St) (z : Int32 × St), rec 6 v1 v2 S = some z → CtI l yX11_condition cX11_condition 5 .boolean dr s0 D ca tpM a A [.ref (a 0), .int v1, .int v2] S z)) (hdr : dr + 1 ≤ d) : ∀ (n : Nat) (v2 : Int32) (v3 : Int32) (S : St), VV p l e (rmd d) s m args below meth c D ca tpM a A 4 (QmI D ca tpM a A below args s) S [(0, .ref (a 0)), (2, .int v2), (3, .int v3)] 90 [] (m_atom_h90 rec n v2 v3 S) := by
  intro n
  induction n with
  | zero => intro v2 v3 S; exact V_none
  | succ n ih =>
    intro v2 v3 S
    unfold m_atom_h90
    refine V_aload_n (pc := 90) h 0 dX11_atom_90 rfl rfl ?_
    refine V_callVI (pc := 91) (dy := 1) (q := (RX11, TX11, 59)) h [] [] 0 mv_X11_191 oM_0 rfl dX11_atom_91 rfl rfl (Nat.le_of_ble_eq_true rfl) (Nat.le_trans (by decide) hD) (m_isDigit S) (fun z9 hz9 => m_isDigit_ct h.gg (Nat.le_refl 1) S z9 hz9) (fun x2 S1 => ?_)
    refine V_if_eq (pc := 94) h 156 dX11_atom_94 (by decide) ?_ ?_
    · refine V_iload_n (pc := 156) h 1 dX11_atom_156 rfl rfl ?_
      exact V_iret (pc := 157) h hr hlk dX11_atom_157
    · refine V_aload_n (pc := 97) h 0 dX11_atom_97 rfl rfl ?_
      refine V_get (pc := 98) h 0 11 (.int (S1 0 11)) fl_X11_151_X11 oM_0 rfl rfl dX11_atom_98 ?_
      refine V_iconst (pc := 101) (v := -1) h dX11_atom_101 (by decide) ?_
      refine V_icmp_ne (pc := 102) h 156 dX11_atom_102 (by decide) ?_ ?_
      · refine V_iload_n (pc := 156) h 1 dX11_atom_156 rfl rfl ?_
        exact V_iret (pc := 157) h hr hlk dX11_atom_157
      · refine V_iload_n (pc := 105) h 2 dX11_atom_105 rfl rfl ?_
        refine V_iconst (pc := 106) (v := 4) h dX11_atom_106 (by decide) ?_
        refine V_icmp_ne (pc := 107) h 117 dX11_atom_107 (by decide) ?_ ?_
        · refine V_bipush (pc := 117) (v := 10) h dX11_atom_117 (by decide) ?_
          refine V_iload_n (pc := 119) h 1 dX11_atom_119 rfl rfl ?_
          refine V_imul (pc := 120) h dX11_atom_120 ?_
          refine V_aload_n (pc := 121) h 0 dX11_atom_121 rfl rfl ?_
          refine V_getD (pc := 122) h 0 5 2 fl_X11_23_X11 oM_0 rfl dX11_atom_122 (fun h3 h4 => ?_)
          refine V_aload_n (pc := 125) h 0 dX11_atom_125 rfl rfl ?_
          refine V_get (pc := 126) h 0 8 (.int (S1 0 8)) fl_X11_148_X11 oM_0 rfl rfl dX11_atom_126 ?_
          refine V_aload_n (pc := 129) h 0 dX11_atom_129 rfl rfl ?_
          refine V_get (pc := 130) h 0 10 (.int (S1 0 10)) fl_X11_142_X11 oM_0 rfl rfl dX11_atom_130 ?_
          refine V_iadd (pc := 133) h dX11_atom_133 ?_
          refine V_bald (pc := 134) h (1 + (S1 0 5).toNatClampNeg) (isBt_all _ h4) dX11_atom_134 ?_
          refine V_iadd (pc := 135) h dX11_atom_135 ?_
          refine V_top (fun x5 => ?_)
          refine V_bipush (pc := 136) (v := 48) h dX11_atom_136 (by decide) ?_
          refine V_isub (pc := 138) h dX11_atom_138 ?_
          refine V_top (fun x6 => ?_)
          refine V_istore_n (pc := 139) h [(2, .int x6), (0, .ref (a 0)), (3, .int v3)] dX11_atom_139 rfl (by decide) rfl ?_
          refine V_aload_n (pc := 140) h 1 dX11_atom_140 rfl rfl ?_
          refine V_dup (pc := 141) h dX11_atom_141 rfl ?_
          refine V_get (pc := 142) h 0 10 (.int (S1 0 10)) fl_X11_142_X11 oM_0 rfl rfl dX11_atom_142 ?_
          refine V_iconst (pc := 145) (v := 1) h dX11_atom_145 (by decide) ?_
          refine V_iadd (pc := 146) h dX11_atom_146 ?_
          refine V_put (pc := 147) h 0 10 ((S1 0 10) + (1 : Int32)) fp_X11_142_X11 oM_0 rfl rfl rfl rfl dX11_atom_147 (fun S7 => ?_)
          refine V_iincB (pc := 150) h 2 (1 : Int32) (fun x8 => [(3, .int x8), (2, .int x6), (0, .ref (a 0))]) dX11_atom_150 rfl (by decide) (by decide) (fun _ => rfl) (fun x8 => ?_)
          refine V_goto (pc := 153) h 90 dX11_atom_153 (by decide) ?_
          exact V_ls [2, 1, 0] rfl (ih x6 x8 S7)
        · refine V_aload_n (pc := 110) h 0 dX11_atom_110 rfl rfl ?_
          refine V_callVI (pc := 111) (dy := 1) (q := (RX11, TX11, 59)) h [] [] 0 mv_X11_157 oM_0 rfl dX11_atom_111 rfl rfl (Nat.le_of_ble_eq_true rfl) (Nat.le_trans (by decide) hD) (m_fails S1) (fun z9 hz9 => m_fails_ct h.gg (Nat.le_refl 1) S1 z9 hz9) (fun x10 S9 => ?_)
          refine V_pop (pc := 114) h dX11_atom_114 rfl ?_
          refine V_iconst (pc := 115) (v := 0) h dX11_atom_115 (by decide) ?_
          exact V_iret (pc := 116) h hr hlk dX11_atom_116
def m_atom_b86 (rec : Nat → Int32 → Int32 → St → Option (Int32 × St)) (S : St) : Option (Int32 × St) := (m_atom_h90 rec FU (0 : Int32) (0 : Int32) S)
set_option maxHeartbeats 4000000 in
set_option maxRecDepth 100000 in
theorem m_atom_b86_ok {d : Nat} (h : Cx p s m c cX11_atom 4 RX11 s0 args0 D ca a A) (hr : meth.sig.returnType = some .int) (hlk : meth.locks = false) (hD : 6 ≤ d) {dr : Nat} (rec : Nat → Int32 → Int32 → St → Option (Int32 × St)) (hrec : (∀ (S : St) (z : Int32 × St), rec 0 0 0 S = some z → CtI l yX11_atom cX11_atom 4 .int dr s0 D ca tpM a A [.ref (a 0)] S z) ∧ (∀ (S : St) (z : Int32 × St), rec 1 0 0 S = some z → CtI l yX11_term cX11_term 5 .int dr s0 D ca tpM a A [.ref (a 0)] S z) ∧ (∀ (S : St) (z : Int32 × St), rec 2 0 0 S = some z → CtI l yX11_sum cX11_sum 5 .int dr s0 D ca tpM a A [.ref (a 0)] S z) ∧ (∀ (v1 v2 : Int32) (S : St) (z : Int32 × St), rec 3 v1 v2 S = some z → CtI l yX11_compares cX11_compares 6 .boolean dr s0 D ca tpM a A [.ref (a 0), .int v1, .int v2] S z) ∧ (∀ (S : St) (z : Int32 × St), rec 4 0 0 S = some z → CtI l yX11_unit cX11_unit 3 .boolean dr s0 D ca tpM a A [.ref (a 0)] S z) ∧ (∀ (v1 v2 : Int32) (S : St) (z : Int32 × St), rec 5 v1 v2 S = some z → CtI l yX11_part cX11_part 5 .boolean dr s0 D ca tpM a A [.ref (a 0), .int v1, .int v2] S z) ∧ (∀ (v1 v2 : Int32) (S : St) (z : Int32 × St), rec 6 v1 v2 S = some z → CtI l yX11_condition cX11_condition 5 .boolean dr s0 D ca tpM a A [.ref (a 0), .int v1, .int v2] S z)) (hdr : dr + 1 ≤ d) (S : St) : VV p l e (rmd d) s m args below meth c D ca tpM a A 4 (QmI D ca tpM a A below args s) S [(0, .ref (a 0))] 86 [] (m_atom_b86 rec S) := by
  unfold m_atom_b86
  refine V_iconst (pc := 86) (v := 0) h dX11_atom_86 (by decide) ?_
  refine V_istore_n (pc := 87) h [(2, .int (0 : Int32)), (0, .ref (a 0))] dX11_atom_87 rfl (by decide) rfl ?_
  refine V_iconst (pc := 88) (v := 0) h dX11_atom_88 (by decide) ?_
  refine V_istore_n (pc := 89) h [(3, .int (0 : Int32)), (2, .int (0 : Int32)), (0, .ref (a 0))] dX11_atom_89 rfl (by decide) rfl ?_
  exact V_ls [2, 1, 0] rfl (m_atom_h90_ok h hr hlk hD rec hrec hdr FU (0 : Int32) (0 : Int32) S)
def m_atom (rec : Nat → Int32 → Int32 → St → Option (Int32 × St)) (S : St) : Option (Int32 × St) := (bI (m_look S) (fun x2 S1 => (bI (m_isAmong 0 x2 S1) (fun x4 S3 => (if x4 = 0 then (if x2 = (91 : Int32) then (bI (m_goesIn S3) (fun x10 S9 => (if x10 = 0 then (some ((0 : Int32), S9)) else (bI (rec 2 0 0 S9) (fun x12 S11 => (bI (m_takes (93 : Int32) S11) (fun x14 S13 => (if x14 = 0 then (some ((0 : Int32), S13)) else (bnd (up2 S13 0 12 ((S13 0 12) - (1 : Int32))) (fun S15 => (some (x12, S15)))))))))))) else (bI (m_isDigit S3) (fun x6 S5 => (if x6 = 0 then (bI (m_fails S5) (fun x8 S7 => (m_atom_b86 rec S7))) else (m_atom_b86 rec S5))))) else (bnd (up2 S3 0 10 ((S3 0 10) + (1 : Int32))) (fun S16 => (ckM x2 128 (some ((S16 4 x2.toNatClampNeg), S16))))))))))
set_option maxHeartbeats 4000000 in
set_option maxRecDepth 100000 in
theorem m_atom_ok {d : Nat} (h : Cx p s m c cX11_atom 4 RX11 s0 args0 D ca a A) (hr : meth.sig.returnType = some .int) (hlk : meth.locks = false) (hD : 6 ≤ d) {dr : Nat} (rec : Nat → Int32 → Int32 → St → Option (Int32 × St)) (hrec : (∀ (S : St) (z : Int32 × St), rec 0 0 0 S = some z → CtI l yX11_atom cX11_atom 4 .int dr s0 D ca tpM a A [.ref (a 0)] S z) ∧ (∀ (S : St) (z : Int32 × St), rec 1 0 0 S = some z → CtI l yX11_term cX11_term 5 .int dr s0 D ca tpM a A [.ref (a 0)] S z) ∧ (∀ (S : St) (z : Int32 × St), rec 2 0 0 S = some z → CtI l yX11_sum cX11_sum 5 .int dr s0 D ca tpM a A [.ref (a 0)] S z) ∧ (∀ (v1 v2 : Int32) (S : St) (z : Int32 × St), rec 3 v1 v2 S = some z → CtI l yX11_compares cX11_compares 6 .boolean dr s0 D ca tpM a A [.ref (a 0), .int v1, .int v2] S z) ∧ (∀ (S : St) (z : Int32 × St), rec 4 0 0 S = some z → CtI l yX11_unit cX11_unit 3 .boolean dr s0 D ca tpM a A [.ref (a 0)] S z) ∧ (∀ (v1 v2 : Int32) (S : St) (z : Int32 × St), rec 5 v1 v2 S = some z → CtI l yX11_part cX11_part 5 .boolean dr s0 D ca tpM a A [.ref (a 0), .int v1, .int v2] S z) ∧ (∀ (v1 v2 : Int32) (S : St) (z : Int32 × St), rec 6 v1 v2 S = some z → CtI l yX11_condition cX11_condition 5 .boolean dr s0 D ca tpM a A [.ref (a 0), .int v1, .int v2] S z)) (hdr : dr + 1 ≤ d) (S : St) : VV p l e (rmd d) s m args below meth c D ca tpM a A 4 (QmI D ca tpM a A below args s) S [(0, .ref (a 0))] 0 [] (m_atom rec S) := by
  unfold m_atom
  refine V_aload_n (pc := 0) h 0 dX11_atom_0 rfl rfl ?_
  refine V_callVI (pc := 1) (dy := 1) (q := (RX11, TX11, 59)) h [] [] 0 mv_X11_161 oM_0 rfl dX11_atom_1 rfl rfl (Nat.le_of_ble_eq_true rfl) (Nat.le_trans (by decide) hD) (m_look S) (fun z9 hz9 => m_look_ct h.gg (Nat.le_refl 1) S z9 hz9) (fun x2 S1 => ?_)
  refine V_istore_n (pc := 4) h [(1, .int x2), (0, .ref (a 0))] dX11_atom_4 rfl (by decide) rfl ?_
  refine V_ldcS (pc := 5) (tx := "lnshit") h 0 (by decide) dX11_atom_5 ?_
  refine V_iload_n (pc := 7) h 0 dX11_atom_7 rfl rfl ?_
  refine V_callSI (pc := 8) (dy := 5) h [.ref (a (200 + 0)), .int x2] [] ms_X11_177 dX11_atom_8 rfl rfl (Nat.le_of_ble_eq_true rfl) (Nat.le_trans (by decide) hD) (m_isAmong 0 x2 S1) (fun z9 hz9 => m_isAmong_ct h.gg (Nat.le_refl 5) (by decide) x2 S1 z9 hz9) (fun x4 S3 => ?_)
  refine V_if_eq (pc := 11) h 31 dX11_atom_11 (by decide) ?_ ?_
  · refine V_iload_n (pc := 31) h 0 dX11_atom_31 rfl rfl ?_
    refine V_bipush (pc := 32) (v := 91) h dX11_atom_32 (by decide) ?_
    refine V_icmp_ne (pc := 34) h 74 dX11_atom_34 (by decide) ?_ ?_
    · refine V_aload_n (pc := 74) h 1 dX11_atom_74 rfl rfl ?_
      refine V_callVI (pc := 75) (dy := 1) (q := (RX11, TX11, 59)) h [] [] 0 mv_X11_191 oM_0 rfl dX11_atom_75 rfl rfl (Nat.le_of_ble_eq_true rfl) (Nat.le_trans (by decide) hD) (m_isDigit S3) (fun z9 hz9 => m_isDigit_ct h.gg (Nat.le_refl 1) S3 z9 hz9) (fun x6 S5 => ?_)
      refine V_if_ne (pc := 78) h 86 dX11_atom_78 (by decide) ?_ ?_
      · exact V_ls [1] rfl (m_atom_b86_ok h hr hlk hD rec hrec hdr S5)
      · refine V_aload_n (pc := 81) h 1 dX11_atom_81 rfl rfl ?_
        refine V_callVI (pc := 82) (dy := 1) (q := (RX11, TX11, 59)) h [] [] 0 mv_X11_157 oM_0 rfl dX11_atom_82 rfl rfl (Nat.le_of_ble_eq_true rfl) (Nat.le_trans (by decide) hD) (m_fails S5) (fun z9 hz9 => m_fails_ct h.gg (Nat.le_refl 1) S5 z9 hz9) (fun x8 S7 => ?_)
        refine V_pop (pc := 85) h dX11_atom_85 rfl ?_
        exact V_ls [1] rfl (m_atom_b86_ok h hr hlk hD rec hrec hdr S7)
    · refine V_aload_n (pc := 37) h 1 dX11_atom_37 rfl rfl ?_
      refine V_callVI (pc := 38) (dy := 2) (q := (RX11, TX11, 59)) h [] [] 0 mv_X11_181 oM_0 rfl dX11_atom_38 rfl rfl (Nat.le_of_ble_eq_true rfl) (Nat.le_trans (by decide) hD) (m_goesIn S3) (fun z9 hz9 => m_goesIn_ct h.gg (Nat.le_refl 2) S3 z9 hz9) (fun x10 S9 => ?_)
      refine V_if_ne (pc := 41) h 46 dX11_atom_41 (by decide) ?_ ?_
      · refine V_aload_n (pc := 46) h 1 dX11_atom_46 rfl rfl ?_
        refine V_callVI (pc := 47) (dy := dr) (q := (RX11, TX11, 59)) h [] [] 0 mv_X11_184 oM_0 rfl dX11_atom_47 rfl rfl (Nat.le_of_ble_eq_true rfl) hdr (rec 2 0 0 S9) (fun z9 hz9 => hrec.2.2.1 S9 z9 hz9) (fun x12 S11 => ?_)
        refine V_istore_n (pc := 50) h [(2, .int x12), (1, .int x2), (0, .ref (a 0))] dX11_atom_50 rfl (by decide) rfl ?_
        refine V_aload_n (pc := 51) h 2 dX11_atom_51 rfl rfl ?_
        refine V_bipush (pc := 52) (v := 93) h dX11_atom_52 (by decide) ?_
        refine V_callVI (pc := 54) (dy := 2) (q := (RX11, TX11, 59)) h [.int (93 : Int32)] [] 0 mv_X11_187 oM_0 rfl dX11_atom_54 rfl rfl (Nat.le_of_ble_eq_true rfl) (Nat.le_trans (by decide) hD) (m_takes (93 : Int32) S11) (fun z9 hz9 => m_takes_ct h.gg (Nat.le_refl 2) (93 : Int32) S11 z9 hz9) (fun x14 S13 => ?_)
        refine V_if_ne (pc := 57) h 62 dX11_atom_57 (by decide) ?_ ?_
        · refine V_aload_n (pc := 62) h 2 dX11_atom_62 rfl rfl ?_
          refine V_dup (pc := 63) h dX11_atom_63 rfl ?_
          refine V_get (pc := 64) h 0 12 (.int (S13 0 12)) fl_X11_154_X11 oM_0 rfl rfl dX11_atom_64 ?_
          refine V_iconst (pc := 67) (v := 1) h dX11_atom_67 (by decide) ?_
          refine V_isub (pc := 68) h dX11_atom_68 ?_
          refine V_put (pc := 69) h 0 12 ((S13 0 12) - (1 : Int32)) fp_X11_154_X11 oM_0 rfl rfl rfl rfl dX11_atom_69 (fun S15 => ?_)
          refine V_iload_n (pc := 72) h 0 dX11_atom_72 rfl rfl ?_
          exact V_iret (pc := 73) h hr hlk dX11_atom_73
        · refine V_iconst (pc := 60) (v := 0) h dX11_atom_60 (by decide) ?_
          exact V_iret (pc := 61) h hr hlk dX11_atom_61
      · refine V_iconst (pc := 44) (v := 0) h dX11_atom_44 (by decide) ?_
        exact V_iret (pc := 45) h hr hlk dX11_atom_45
  · refine V_aload_n (pc := 14) h 1 dX11_atom_14 rfl rfl ?_
    refine V_dup (pc := 15) h dX11_atom_15 rfl ?_
    refine V_get (pc := 16) h 0 10 (.int (S3 0 10)) fl_X11_142_X11 oM_0 rfl rfl dX11_atom_16 ?_
    refine V_iconst (pc := 19) (v := 1) h dX11_atom_19 (by decide) ?_
    refine V_iadd (pc := 20) h dX11_atom_20 ?_
    refine V_put (pc := 21) h 0 10 ((S3 0 10) + (1 : Int32)) fp_X11_142_X11 oM_0 rfl rfl rfl rfl dX11_atom_21 (fun S16 => ?_)
    refine V_aload_n (pc := 24) h 1 dX11_atom_24 rfl rfl ?_
    refine V_get (pc := 25) h 0 4 (.ref (a 4)) fl_X11_20_X11 oM_0 rfl rfl dX11_atom_25 ?_
    refine V_iload_n (pc := 28) h 0 dX11_atom_28 rfl rfl ?_
    refine V_iald (pc := 29) h 4 oM_4 dX11_atom_29 ?_
    exact V_iret (pc := 30) h hr hlk dX11_atom_30
def m_term_b87 (rec : Nat → Int32 → Int32 → St → Option (Int32 × St)) (L5 : Int32 → St → Option (Int32 × St)) (k0 : Int64) (S : St) : Option (Int32 × St) := (bI (m_within k0 S) (fun x2 S1 => (L5 x2 S1)))
set_option maxHeartbeats 4000000 in
set_option maxRecDepth 100000 in
theorem m_term_b87_ok {d : Nat} (h : Cx p s m c cX11_term 5 RX11 s0 args0 D ca a A) (hr : meth.sig.returnType = some .int) (hlk : meth.locks = false) (hD : 6 ≤ d) {dr : Nat} (rec : Nat → Int32 → Int32 → St → Option (Int32 × St)) (hrec : (∀ (S : St) (z : Int32 × St), rec 0 0 0 S = some z → CtI l yX11_atom cX11_atom 4 .int dr s0 D ca tpM a A [.ref (a 0)] S z) ∧ (∀ (S : St) (z : Int32 × St), rec 1 0 0 S = some z → CtI l yX11_term cX11_term 5 .int dr s0 D ca tpM a A [.ref (a 0)] S z) ∧ (∀ (S : St) (z : Int32 × St), rec 2 0 0 S = some z → CtI l yX11_sum cX11_sum 5 .int dr s0 D ca tpM a A [.ref (a 0)] S z) ∧ (∀ (v1 v2 : Int32) (S : St) (z : Int32 × St), rec 3 v1 v2 S = some z → CtI l yX11_compares cX11_compares 6 .boolean dr s0 D ca tpM a A [.ref (a 0), .int v1, .int v2] S z) ∧ (∀ (S : St) (z : Int32 × St), rec 4 0 0 S = some z → CtI l yX11_unit cX11_unit 3 .boolean dr s0 D ca tpM a A [.ref (a 0)] S z) ∧ (∀ (v1 v2 : Int32) (S : St) (z : Int32 × St), rec 5 v1 v2 S = some z → CtI l yX11_part cX11_part 5 .boolean dr s0 D ca tpM a A [.ref (a 0), .int v1, .int v2] S z) ∧ (∀ (v1 v2 : Int32) (S : St) (z : Int32 × St), rec 6 v1 v2 S = some z → CtI l yX11_condition cX11_condition 5 .boolean dr s0 D ca tpM a A [.ref (a 0), .int v1, .int v2] S z)) (hdr : dr + 1 ≤ d) (L5 : Int32 → St → Option (Int32 × St)) (hL5 : ∀ (v1 : Int32) (S : St), VV p l e (rmd d) s m args below meth c D ca tpM a A 5 (QmI D ca tpM a A below args s) S [(0, .ref (a 0)), (1, .int v1)] 5 [] (L5 v1 S)) (k0 : Int64) (S : St) : VV p l e (rmd d) s m args below meth c D ca tpM a A 5 (QmI D ca tpM a A below args s) S [(0, .ref (a 0))] 87 [.long k0] (m_term_b87 rec L5 k0 S) := by
  unfold m_term_b87
  refine V_callSI (pc := 87) (dy := 1) h [.long k0] [] ms_X11_197 dX11_term_87 rfl rfl (Nat.le_of_ble_eq_true rfl) (Nat.le_trans (by decide) hD) (m_within k0 S) (fun z9 hz9 => m_within_ct h.gg (Nat.le_refl 1) k0 S z9 hz9) (fun x2 S1 => ?_)
  refine V_istore_n (pc := 90) h [(1, .int x2), (0, .ref (a 0))] dX11_term_90 rfl (by decide) rfl ?_
  refine V_goto (pc := 91) h 5 dX11_term_91 (by decide) ?_
  exact V_ls [1, 0] rfl (hL5 x2 S1)
def m_term_b45 (rec : Nat → Int32 → Int32 → St → Option (Int32 × St)) (L5 : Int32 → St → Option (Int32 × St)) (v1 : Int32) (k0 : Int32) (S : St) : Option (Int32 × St) := (bnd (up2 S 0 10 ((S 0 10) + (1 : Int32))) (fun S1 => (bI (rec 0 0 0 S1) (fun x3 S2 => (bnd (x3.toInt64) (fun x4 => (if k0 = 0 then (if (lg_cmp x4 (0 : Int64)) = 0 then (m_term_b87 rec L5 (0 : Int64) S2) else (dvL x4 (m_term_b87 rec L5 ((v1.toInt64) / x4) S2))) else (m_term_b87 rec L5 ((v1.toInt64) * x4) S2))))))))
set_option maxHeartbeats 4000000 in
set_option maxRecDepth 100000 in
theorem m_term_b45_ok {d : Nat} (h : Cx p s m c cX11_term 5 RX11 s0 args0 D ca a A) (hr : meth.sig.returnType = some .int) (hlk : meth.locks = false) (hD : 6 ≤ d) {dr : Nat} (rec : Nat → Int32 → Int32 → St → Option (Int32 × St)) (hrec : (∀ (S : St) (z : Int32 × St), rec 0 0 0 S = some z → CtI l yX11_atom cX11_atom 4 .int dr s0 D ca tpM a A [.ref (a 0)] S z) ∧ (∀ (S : St) (z : Int32 × St), rec 1 0 0 S = some z → CtI l yX11_term cX11_term 5 .int dr s0 D ca tpM a A [.ref (a 0)] S z) ∧ (∀ (S : St) (z : Int32 × St), rec 2 0 0 S = some z → CtI l yX11_sum cX11_sum 5 .int dr s0 D ca tpM a A [.ref (a 0)] S z) ∧ (∀ (v1 v2 : Int32) (S : St) (z : Int32 × St), rec 3 v1 v2 S = some z → CtI l yX11_compares cX11_compares 6 .boolean dr s0 D ca tpM a A [.ref (a 0), .int v1, .int v2] S z) ∧ (∀ (S : St) (z : Int32 × St), rec 4 0 0 S = some z → CtI l yX11_unit cX11_unit 3 .boolean dr s0 D ca tpM a A [.ref (a 0)] S z) ∧ (∀ (v1 v2 : Int32) (S : St) (z : Int32 × St), rec 5 v1 v2 S = some z → CtI l yX11_part cX11_part 5 .boolean dr s0 D ca tpM a A [.ref (a 0), .int v1, .int v2] S z) ∧ (∀ (v1 v2 : Int32) (S : St) (z : Int32 × St), rec 6 v1 v2 S = some z → CtI l yX11_condition cX11_condition 5 .boolean dr s0 D ca tpM a A [.ref (a 0), .int v1, .int v2] S z)) (hdr : dr + 1 ≤ d) (L5 : Int32 → St → Option (Int32 × St)) (hL5 : ∀ (v1 : Int32) (S : St), VV p l e (rmd d) s m args below meth c D ca tpM a A 5 (QmI D ca tpM a A below args s) S [(0, .ref (a 0)), (1, .int v1)] 5 [] (L5 v1 S)) (v1 : Int32) (k0 : Int32) (S : St) : VV p l e (rmd d) s m args below meth c D ca tpM a A 5 (QmI D ca tpM a A below args s) S [(0, .ref (a 0)), (1, .int v1)] 45 [.int k0] (m_term_b45 rec L5 v1 k0 S) := by
  unfold m_term_b45
  refine V_istore_n (pc := 45) h [(2, .int k0), (0, .ref (a 0)), (1, .int v1)] dX11_term_45 rfl (by decide) rfl ?_
  refine V_aload_n (pc := 46) h 1 dX11_term_46 rfl rfl ?_
  refine V_dup (pc := 47) h dX11_term_47 rfl ?_
  refine V_get (pc := 48) h 0 10 (.int (S 0 10)) fl_X11_142_X11 oM_0 rfl rfl dX11_term_48 ?_
  refine V_iconst (pc := 51) (v := 1) h dX11_term_51 (by decide) ?_
  refine V_iadd (pc := 52) h dX11_term_52 ?_
  refine V_put (pc := 53) h 0 10 ((S 0 10) + (1 : Int32)) fp_X11_142_X11 oM_0 rfl rfl rfl rfl dX11_term_53 (fun S1 => ?_)
  refine V_aload_n (pc := 56) h 1 dX11_term_56 rfl rfl ?_
  refine V_callVI (pc := 57) (dy := dr) (q := (RX11, TX11, 59)) h [] [] 0 mv_X11_194 oM_0 rfl dX11_term_57 rfl rfl (Nat.le_of_ble_eq_true rfl) hdr (rec 0 0 0 S1) (fun z9 hz9 => hrec.1 S1 z9 hz9) (fun x3 S2 => ?_)
  refine V_i2l (pc := 60) h dX11_term_60 ?_
  refine V_topl (fun x4 => ?_)
  refine V_lstore_n (pc := 61) h [(3, .long x4), (2, .int k0), (0, .ref (a 0)), (1, .int v1)] dX11_term_61 rfl (by decide) rfl ?_
  refine V_iload_n (pc := 62) h 1 dX11_term_62 rfl rfl ?_
  refine V_if_eq (pc := 63) h 73 dX11_term_63 (by decide) ?_ ?_
  · refine V_lload_n (pc := 73) h 0 dX11_term_73 rfl rfl ?_
    refine V_lconst (pc := 74) (v := 0) h dX11_term_74 (by decide) ?_
    refine V_lcmp (pc := 75) h dX11_term_75 ?_
    refine V_if_ne (pc := 76) h 83 dX11_term_76 (by decide) ?_ ?_
    · refine V_iload_n (pc := 83) h 3 dX11_term_83 rfl rfl ?_
      refine V_i2l (pc := 84) h dX11_term_84 ?_
      refine V_lload_n (pc := 85) h 0 dX11_term_85 rfl rfl ?_
      refine V_ldiv (pc := 86) h dX11_term_86 ?_
      exact V_ls [2] rfl (m_term_b87_ok h hr hlk hD rec hrec hdr L5 hL5 ((v1.toInt64) / x4) S2)
    · refine V_lconst (pc := 79) (v := 0) h dX11_term_79 (by decide) ?_
      refine V_goto (pc := 80) h 87 dX11_term_80 (by decide) ?_
      exact V_ls [2] rfl (m_term_b87_ok h hr hlk hD rec hrec hdr L5 hL5 (0 : Int64) S2)
  · refine V_iload_n (pc := 66) h 3 dX11_term_66 rfl rfl ?_
    refine V_i2l (pc := 67) h dX11_term_67 ?_
    refine V_lload_n (pc := 68) h 0 dX11_term_68 rfl rfl ?_
    refine V_lmul (pc := 69) h dX11_term_69 ?_
    refine V_goto (pc := 70) h 87 dX11_term_70 (by decide) ?_
    exact V_ls [2] rfl (m_term_b87_ok h hr hlk hD rec hrec hdr L5 hL5 ((v1.toInt64) * x4) S2)
def m_term_b31 (rec : Nat → Int32 → Int32 → St → Option (Int32 × St)) (L5 : Int32 → St → Option (Int32 × St)) (v1 : Int32) (S : St) : Option (Int32 × St) := (bI (m_look S) (fun x2 S1 => (if x2 = (42 : Int32) then (m_term_b45 rec L5 v1 (1 : Int32) S1) else (m_term_b45 rec L5 v1 (0 : Int32) S1))))
set_option maxHeartbeats 4000000 in
set_option maxRecDepth 100000 in
theorem m_term_b31_ok {d : Nat} (h : Cx p s m c cX11_term 5 RX11 s0 args0 D ca a A) (hr : meth.sig.returnType = some .int) (hlk : meth.locks = false) (hD : 6 ≤ d) {dr : Nat} (rec : Nat → Int32 → Int32 → St → Option (Int32 × St)) (hrec : (∀ (S : St) (z : Int32 × St), rec 0 0 0 S = some z → CtI l yX11_atom cX11_atom 4 .int dr s0 D ca tpM a A [.ref (a 0)] S z) ∧ (∀ (S : St) (z : Int32 × St), rec 1 0 0 S = some z → CtI l yX11_term cX11_term 5 .int dr s0 D ca tpM a A [.ref (a 0)] S z) ∧ (∀ (S : St) (z : Int32 × St), rec 2 0 0 S = some z → CtI l yX11_sum cX11_sum 5 .int dr s0 D ca tpM a A [.ref (a 0)] S z) ∧ (∀ (v1 v2 : Int32) (S : St) (z : Int32 × St), rec 3 v1 v2 S = some z → CtI l yX11_compares cX11_compares 6 .boolean dr s0 D ca tpM a A [.ref (a 0), .int v1, .int v2] S z) ∧ (∀ (S : St) (z : Int32 × St), rec 4 0 0 S = some z → CtI l yX11_unit cX11_unit 3 .boolean dr s0 D ca tpM a A [.ref (a 0)] S z) ∧ (∀ (v1 v2 : Int32) (S : St) (z : Int32 × St), rec 5 v1 v2 S = some z → CtI l yX11_part cX11_part 5 .boolean dr s0 D ca tpM a A [.ref (a 0), .int v1, .int v2] S z) ∧ (∀ (v1 v2 : Int32) (S : St) (z : Int32 × St), rec 6 v1 v2 S = some z → CtI l yX11_condition cX11_condition 5 .boolean dr s0 D ca tpM a A [.ref (a 0), .int v1, .int v2] S z)) (hdr : dr + 1 ≤ d) (L5 : Int32 → St → Option (Int32 × St)) (hL5 : ∀ (v1 : Int32) (S : St), VV p l e (rmd d) s m args below meth c D ca tpM a A 5 (QmI D ca tpM a A below args s) S [(0, .ref (a 0)), (1, .int v1)] 5 [] (L5 v1 S)) (v1 : Int32) (S : St) : VV p l e (rmd d) s m args below meth c D ca tpM a A 5 (QmI D ca tpM a A below args s) S [(0, .ref (a 0)), (1, .int v1)] 31 [] (m_term_b31 rec L5 v1 S) := by
  unfold m_term_b31
  refine V_aload_n (pc := 31) h 0 dX11_term_31 rfl rfl ?_
  refine V_callVI (pc := 32) (dy := 1) (q := (RX11, TX11, 59)) h [] [] 0 mv_X11_161 oM_0 rfl dX11_term_32 rfl rfl (Nat.le_of_ble_eq_true rfl) (Nat.le_trans (by decide) hD) (m_look S) (fun z9 hz9 => m_look_ct h.gg (Nat.le_refl 1) S z9 hz9) (fun x2 S1 => ?_)
  refine V_bipush (pc := 35) (v := 42) h dX11_term_35 (by decide) ?_
  refine V_icmp_ne (pc := 37) h 44 dX11_term_37 (by decide) ?_ ?_
  · refine V_iconst (pc := 44) (v := 0) h dX11_term_44 (by decide) ?_
    exact V_ls [0, 1] rfl (m_term_b45_ok h hr hlk hD rec hrec hdr L5 hL5 v1 (0 : Int32) S1)
  · refine V_iconst (pc := 40) (v := 1) h dX11_term_40 (by decide) ?_
    refine V_goto (pc := 41) h 45 dX11_term_41 (by decide) ?_
    exact V_ls [0, 1] rfl (m_term_b45_ok h hr hlk hD rec hrec hdr L5 hL5 v1 (1 : Int32) S1)
def m_term_h5 (rec : Nat → Int32 → Int32 → St → Option (Int32 × St)) : Nat → Int32 → St → Option (Int32 × St)
  | 0, _, _ => none
  | n + 1, v1, S => (if (S 0 11) = (-1 : Int32) then (bI (m_look S) (fun x2 S1 => (if x2 = (42 : Int32) then (m_term_b31 rec (m_term_h5 rec n) v1 S1) else (bI (m_look S1) (fun x4 S3 => (if x4 = (47 : Int32) then (m_term_b31 rec (m_term_h5 rec n) v1 S3) else (some (v1, S3)))))))) else (some (v1, S)))
set_option maxHeartbeats 4000000 in
set_option maxRecDepth 100000 in
theorem m_term_h5_ok {d : Nat} (h : Cx p s m c cX11_term 5 RX11 s0 args0 D ca a A) (hr : meth.sig.returnType = some .int) (hlk : meth.locks = false) (hD : 6 ≤ d) {dr : Nat} (rec : Nat → Int32 → Int32 → St → Option (Int32 × St)) (hrec : (∀ (S : St) (z : Int32 × St), rec 0 0 0 S = some z → CtI l yX11_atom cX11_atom 4 .int dr s0 D ca tpM a A [.ref (a 0)] S z) ∧ (∀ (S : St) (z : Int32 × St), rec 1 0 0 S = some z → CtI l yX11_term cX11_term 5 .int dr s0 D ca tpM a A [.ref (a 0)] S z) ∧ (∀ (S : St) (z : Int32 × St), rec 2 0 0 S = some z → CtI l yX11_sum cX11_sum 5 .int dr s0 D ca tpM a A [.ref (a 0)] S z) ∧ (∀ (v1 v2 : Int32) (S : St) (z : Int32 × St), rec 3 v1 v2 S = some z → CtI l yX11_compares cX11_compares 6 .boolean dr s0 D ca tpM a A [.ref (a 0), .int v1, .int v2] S z) ∧ (∀ (S : St) (z : Int32 × St), rec 4 0 0 S = some z → CtI l yX11_unit cX11_unit 3 .boolean dr s0 D ca tpM a A [.ref (a 0)] S z) ∧ (∀ (v1 v2 : Int32) (S : St) (z : Int32 × St), rec 5 v1 v2 S = some z → CtI l yX11_part cX11_part 5 .boolean dr s0 D ca tpM a A [.ref (a 0), .int v1, .int v2] S z) ∧ (∀ (v1 v2 : Int32) (S : St) (z : Int32 × St), rec 6 v1 v2 S = some z → CtI l yX11_condition cX11_condition 5 .boolean dr s0 D ca tpM a A [.ref (a 0), .int v1, .int v2] S z)) (hdr : dr + 1 ≤ d) : ∀ (n : Nat) (v1 : Int32) (S : St), VV p l e (rmd d) s m args below meth c D ca tpM a A 5 (QmI D ca tpM a A below args s) S [(0, .ref (a 0)), (1, .int v1)] 5 [] (m_term_h5 rec n v1 S) := by
  intro n
  induction n with
  | zero => intro v1 S; exact V_none
  | succ n ih =>
    intro v1 S
    unfold m_term_h5
    refine V_aload_n (pc := 5) h 0 dX11_term_5 rfl rfl ?_
    refine V_get (pc := 6) h 0 11 (.int (S 0 11)) fl_X11_151_X11 oM_0 rfl rfl dX11_term_6 ?_
    refine V_iconst (pc := 9) (v := -1) h dX11_term_9 (by decide) ?_
    refine V_icmp_ne (pc := 10) h 94 dX11_term_10 (by decide) ?_ ?_
    · refine V_iload_n (pc := 94) h 1 dX11_term_94 rfl rfl ?_
      exact V_iret (pc := 95) h hr hlk dX11_term_95
    · refine V_aload_n (pc := 13) h 0 dX11_term_13 rfl rfl ?_
      refine V_callVI (pc := 14) (dy := 1) (q := (RX11, TX11, 59)) h [] [] 0 mv_X11_161 oM_0 rfl dX11_term_14 rfl rfl (Nat.le_of_ble_eq_true rfl) (Nat.le_trans (by decide) hD) (m_look S) (fun z9 hz9 => m_look_ct h.gg (Nat.le_refl 1) S z9 hz9) (fun x2 S1 => ?_)
      refine V_bipush (pc := 17) (v := 42) h dX11_term_17 (by decide) ?_
      refine V_icmp_eq (pc := 19) h 31 dX11_term_19 (by decide) ?_ ?_
      · exact V_ls [0, 1] rfl (m_term_b31_ok h hr hlk hD rec hrec hdr (m_term_h5 rec n) ih v1 S1)
      · refine V_aload_n (pc := 22) h 0 dX11_term_22 rfl rfl ?_
        refine V_callVI (pc := 23) (dy := 1) (q := (RX11, TX11, 59)) h [] [] 0 mv_X11_161 oM_0 rfl dX11_term_23 rfl rfl (Nat.le_of_ble_eq_true rfl) (Nat.le_trans (by decide) hD) (m_look S1) (fun z9 hz9 => m_look_ct h.gg (Nat.le_refl 1) S1 z9 hz9) (fun x4 S3 => ?_)
        refine V_bipush (pc := 26) (v := 47) h dX11_term_26 (by decide) ?_
        refine V_icmp_ne (pc := 28) h 94 dX11_term_28 (by decide) ?_ ?_
        · refine V_iload_n (pc := 94) h 1 dX11_term_94 rfl rfl ?_
          exact V_iret (pc := 95) h hr hlk dX11_term_95
        · exact V_ls [0, 1] rfl (m_term_b31_ok h hr hlk hD rec hrec hdr (m_term_h5 rec n) ih v1 S3)
def m_term (rec : Nat → Int32 → Int32 → St → Option (Int32 × St)) (S : St) : Option (Int32 × St) := (bI (rec 0 0 0 S) (fun x2 S1 => (m_term_h5 rec FU x2 S1)))
set_option maxHeartbeats 4000000 in
set_option maxRecDepth 100000 in
theorem m_term_ok {d : Nat} (h : Cx p s m c cX11_term 5 RX11 s0 args0 D ca a A) (hr : meth.sig.returnType = some .int) (hlk : meth.locks = false) (hD : 6 ≤ d) {dr : Nat} (rec : Nat → Int32 → Int32 → St → Option (Int32 × St)) (hrec : (∀ (S : St) (z : Int32 × St), rec 0 0 0 S = some z → CtI l yX11_atom cX11_atom 4 .int dr s0 D ca tpM a A [.ref (a 0)] S z) ∧ (∀ (S : St) (z : Int32 × St), rec 1 0 0 S = some z → CtI l yX11_term cX11_term 5 .int dr s0 D ca tpM a A [.ref (a 0)] S z) ∧ (∀ (S : St) (z : Int32 × St), rec 2 0 0 S = some z → CtI l yX11_sum cX11_sum 5 .int dr s0 D ca tpM a A [.ref (a 0)] S z) ∧ (∀ (v1 v2 : Int32) (S : St) (z : Int32 × St), rec 3 v1 v2 S = some z → CtI l yX11_compares cX11_compares 6 .boolean dr s0 D ca tpM a A [.ref (a 0), .int v1, .int v2] S z) ∧ (∀ (S : St) (z : Int32 × St), rec 4 0 0 S = some z → CtI l yX11_unit cX11_unit 3 .boolean dr s0 D ca tpM a A [.ref (a 0)] S z) ∧ (∀ (v1 v2 : Int32) (S : St) (z : Int32 × St), rec 5 v1 v2 S = some z → CtI l yX11_part cX11_part 5 .boolean dr s0 D ca tpM a A [.ref (a 0), .int v1, .int v2] S z) ∧ (∀ (v1 v2 : Int32) (S : St) (z : Int32 × St), rec 6 v1 v2 S = some z → CtI l yX11_condition cX11_condition 5 .boolean dr s0 D ca tpM a A [.ref (a 0), .int v1, .int v2] S z)) (hdr : dr + 1 ≤ d) (S : St) : VV p l e (rmd d) s m args below meth c D ca tpM a A 5 (QmI D ca tpM a A below args s) S [(0, .ref (a 0))] 0 [] (m_term rec S) := by
  unfold m_term
  refine V_aload_n (pc := 0) h 0 dX11_term_0 rfl rfl ?_
  refine V_callVI (pc := 1) (dy := dr) (q := (RX11, TX11, 59)) h [] [] 0 mv_X11_194 oM_0 rfl dX11_term_1 rfl rfl (Nat.le_of_ble_eq_true rfl) hdr (rec 0 0 0 S) (fun z9 hz9 => hrec.1 S z9 hz9) (fun x2 S1 => ?_)
  refine V_istore_n (pc := 4) h [(1, .int x2), (0, .ref (a 0))] dX11_term_4 rfl (by decide) rfl ?_
  exact V_ls [1, 0] rfl (m_term_h5_ok h hr hlk hD rec hrec hdr FU x2 S1)
def m_sum_b77 (rec : Nat → Int32 → Int32 → St → Option (Int32 × St)) (L5 : Int32 → St → Option (Int32 × St)) (k0 : Int64) (S : St) : Option (Int32 × St) := (bI (m_within k0 S) (fun x2 S1 => (L5 x2 S1)))
set_option maxHeartbeats 4000000 in
set_option maxRecDepth 100000 in
theorem m_sum_b77_ok {d : Nat} (h : Cx p s m c cX11_sum 5 RX11 s0 args0 D ca a A) (hr : meth.sig.returnType = some .int) (hlk : meth.locks = false) (hD : 6 ≤ d) {dr : Nat} (rec : Nat → Int32 → Int32 → St → Option (Int32 × St)) (hrec : (∀ (S : St) (z : Int32 × St), rec 0 0 0 S = some z → CtI l yX11_atom cX11_atom 4 .int dr s0 D ca tpM a A [.ref (a 0)] S z) ∧ (∀ (S : St) (z : Int32 × St), rec 1 0 0 S = some z → CtI l yX11_term cX11_term 5 .int dr s0 D ca tpM a A [.ref (a 0)] S z) ∧ (∀ (S : St) (z : Int32 × St), rec 2 0 0 S = some z → CtI l yX11_sum cX11_sum 5 .int dr s0 D ca tpM a A [.ref (a 0)] S z) ∧ (∀ (v1 v2 : Int32) (S : St) (z : Int32 × St), rec 3 v1 v2 S = some z → CtI l yX11_compares cX11_compares 6 .boolean dr s0 D ca tpM a A [.ref (a 0), .int v1, .int v2] S z) ∧ (∀ (S : St) (z : Int32 × St), rec 4 0 0 S = some z → CtI l yX11_unit cX11_unit 3 .boolean dr s0 D ca tpM a A [.ref (a 0)] S z) ∧ (∀ (v1 v2 : Int32) (S : St) (z : Int32 × St), rec 5 v1 v2 S = some z → CtI l yX11_part cX11_part 5 .boolean dr s0 D ca tpM a A [.ref (a 0), .int v1, .int v2] S z) ∧ (∀ (v1 v2 : Int32) (S : St) (z : Int32 × St), rec 6 v1 v2 S = some z → CtI l yX11_condition cX11_condition 5 .boolean dr s0 D ca tpM a A [.ref (a 0), .int v1, .int v2] S z)) (hdr : dr + 1 ≤ d) (L5 : Int32 → St → Option (Int32 × St)) (hL5 : ∀ (v1 : Int32) (S : St), VV p l e (rmd d) s m args below meth c D ca tpM a A 5 (QmI D ca tpM a A below args s) S [(0, .ref (a 0)), (1, .int v1)] 5 [] (L5 v1 S)) (k0 : Int64) (S : St) : VV p l e (rmd d) s m args below meth c D ca tpM a A 5 (QmI D ca tpM a A below args s) S [(0, .ref (a 0))] 77 [.long k0] (m_sum_b77 rec L5 k0 S) := by
  unfold m_sum_b77
  refine V_callSI (pc := 77) (dy := 1) h [.long k0] [] ms_X11_197 dX11_sum_77 rfl rfl (Nat.le_of_ble_eq_true rfl) (Nat.le_trans (by decide) hD) (m_within k0 S) (fun z9 hz9 => m_within_ct h.gg (Nat.le_refl 1) k0 S z9 hz9) (fun x2 S1 => ?_)
  refine V_istore_n (pc := 80) h [(1, .int x2), (0, .ref (a 0))] dX11_sum_80 rfl (by decide) rfl ?_
  refine V_goto (pc := 81) h 5 dX11_sum_81 (by decide) ?_
  exact V_ls [1, 0] rfl (hL5 x2 S1)
def m_sum_b45 (rec : Nat → Int32 → Int32 → St → Option (Int32 × St)) (L5 : Int32 → St → Option (Int32 × St)) (v1 : Int32) (k0 : Int32) (S : St) : Option (Int32 × St) := (bnd (up2 S 0 10 ((S 0 10) + (1 : Int32))) (fun S1 => (bI (rec 1 0 0 S1) (fun x3 S2 => (bnd (x3.toInt64) (fun x4 => (if k0 = 0 then (m_sum_b77 rec L5 ((v1.toInt64) - x4) S2) else (m_sum_b77 rec L5 ((v1.toInt64) + x4) S2))))))))
set_option maxHeartbeats 4000000 in
set_option maxRecDepth 100000 in
theorem m_sum_b45_ok {d : Nat} (h : Cx p s m c cX11_sum 5 RX11 s0 args0 D ca a A) (hr : meth.sig.returnType = some .int) (hlk : meth.locks = false) (hD : 6 ≤ d) {dr : Nat} (rec : Nat → Int32 → Int32 → St → Option (Int32 × St)) (hrec : (∀ (S : St) (z : Int32 × St), rec 0 0 0 S = some z → CtI l yX11_atom cX11_atom 4 .int dr s0 D ca tpM a A [.ref (a 0)] S z) ∧ (∀ (S : St) (z : Int32 × St), rec 1 0 0 S = some z → CtI l yX11_term cX11_term 5 .int dr s0 D ca tpM a A [.ref (a 0)] S z) ∧ (∀ (S : St) (z : Int32 × St), rec 2 0 0 S = some z → CtI l yX11_sum cX11_sum 5 .int dr s0 D ca tpM a A [.ref (a 0)] S z) ∧ (∀ (v1 v2 : Int32) (S : St) (z : Int32 × St), rec 3 v1 v2 S = some z → CtI l yX11_compares cX11_compares 6 .boolean dr s0 D ca tpM a A [.ref (a 0), .int v1, .int v2] S z) ∧ (∀ (S : St) (z : Int32 × St), rec 4 0 0 S = some z → CtI l yX11_unit cX11_unit 3 .boolean dr s0 D ca tpM a A [.ref (a 0)] S z) ∧ (∀ (v1 v2 : Int32) (S : St) (z : Int32 × St), rec 5 v1 v2 S = some z → CtI l yX11_part cX11_part 5 .boolean dr s0 D ca tpM a A [.ref (a 0), .int v1, .int v2] S z) ∧ (∀ (v1 v2 : Int32) (S : St) (z : Int32 × St), rec 6 v1 v2 S = some z → CtI l yX11_condition cX11_condition 5 .boolean dr s0 D ca tpM a A [.ref (a 0), .int v1, .int v2] S z)) (hdr : dr + 1 ≤ d) (L5 : Int32 → St → Option (Int32 × St)) (hL5 : ∀ (v1 : Int32) (S : St), VV p l e (rmd d) s m args below meth c D ca tpM a A 5 (QmI D ca tpM a A below args s) S [(0, .ref (a 0)), (1, .int v1)] 5 [] (L5 v1 S)) (v1 : Int32) (k0 : Int32) (S : St) : VV p l e (rmd d) s m args below meth c D ca tpM a A 5 (QmI D ca tpM a A below args s) S [(0, .ref (a 0)), (1, .int v1)] 45 [.int k0] (m_sum_b45 rec L5 v1 k0 S) := by
  unfold m_sum_b45
  refine V_istore_n (pc := 45) h [(2, .int k0), (0, .ref (a 0)), (1, .int v1)] dX11_sum_45 rfl (by decide) rfl ?_
  refine V_aload_n (pc := 46) h 1 dX11_sum_46 rfl rfl ?_
  refine V_dup (pc := 47) h dX11_sum_47 rfl ?_
  refine V_get (pc := 48) h 0 10 (.int (S 0 10)) fl_X11_142_X11 oM_0 rfl rfl dX11_sum_48 ?_
  refine V_iconst (pc := 51) (v := 1) h dX11_sum_51 (by decide) ?_
  refine V_iadd (pc := 52) h dX11_sum_52 ?_
  refine V_put (pc := 53) h 0 10 ((S 0 10) + (1 : Int32)) fp_X11_142_X11 oM_0 rfl rfl rfl rfl dX11_sum_53 (fun S1 => ?_)
  refine V_aload_n (pc := 56) h 1 dX11_sum_56 rfl rfl ?_
  refine V_callVI (pc := 57) (dy := dr) (q := (RX11, TX11, 59)) h [] [] 0 mv_X11_201 oM_0 rfl dX11_sum_57 rfl rfl (Nat.le_of_ble_eq_true rfl) hdr (rec 1 0 0 S1) (fun z9 hz9 => hrec.2.1 S1 z9 hz9) (fun x3 S2 => ?_)
  refine V_i2l (pc := 60) h dX11_sum_60 ?_
  refine V_topl (fun x4 => ?_)
  refine V_lstore_n (pc := 61) h [(3, .long x4), (2, .int k0), (0, .ref (a 0)), (1, .int v1)] dX11_sum_61 rfl (by decide) rfl ?_
  refine V_iload_n (pc := 62) h 1 dX11_sum_62 rfl rfl ?_
  refine V_if_eq (pc := 63) h 73 dX11_sum_63 (by decide) ?_ ?_
  · refine V_iload_n (pc := 73) h 3 dX11_sum_73 rfl rfl ?_
    refine V_i2l (pc := 74) h dX11_sum_74 ?_
    refine V_lload_n (pc := 75) h 0 dX11_sum_75 rfl rfl ?_
    refine V_lsub (pc := 76) h dX11_sum_76 ?_
    exact V_ls [2] rfl (m_sum_b77_ok h hr hlk hD rec hrec hdr L5 hL5 ((v1.toInt64) - x4) S2)
  · refine V_iload_n (pc := 66) h 3 dX11_sum_66 rfl rfl ?_
    refine V_i2l (pc := 67) h dX11_sum_67 ?_
    refine V_lload_n (pc := 68) h 0 dX11_sum_68 rfl rfl ?_
    refine V_ladd (pc := 69) h dX11_sum_69 ?_
    refine V_goto (pc := 70) h 77 dX11_sum_70 (by decide) ?_
    exact V_ls [2] rfl (m_sum_b77_ok h hr hlk hD rec hrec hdr L5 hL5 ((v1.toInt64) + x4) S2)
def m_sum_b31 (rec : Nat → Int32 → Int32 → St → Option (Int32 × St)) (L5 : Int32 → St → Option (Int32 × St)) (v1 : Int32) (S : St) : Option (Int32 × St) := (bI (m_look S) (fun x2 S1 => (if x2 = (43 : Int32) then (m_sum_b45 rec L5 v1 (1 : Int32) S1) else (m_sum_b45 rec L5 v1 (0 : Int32) S1))))
set_option maxHeartbeats 4000000 in
set_option maxRecDepth 100000 in
theorem m_sum_b31_ok {d : Nat} (h : Cx p s m c cX11_sum 5 RX11 s0 args0 D ca a A) (hr : meth.sig.returnType = some .int) (hlk : meth.locks = false) (hD : 6 ≤ d) {dr : Nat} (rec : Nat → Int32 → Int32 → St → Option (Int32 × St)) (hrec : (∀ (S : St) (z : Int32 × St), rec 0 0 0 S = some z → CtI l yX11_atom cX11_atom 4 .int dr s0 D ca tpM a A [.ref (a 0)] S z) ∧ (∀ (S : St) (z : Int32 × St), rec 1 0 0 S = some z → CtI l yX11_term cX11_term 5 .int dr s0 D ca tpM a A [.ref (a 0)] S z) ∧ (∀ (S : St) (z : Int32 × St), rec 2 0 0 S = some z → CtI l yX11_sum cX11_sum 5 .int dr s0 D ca tpM a A [.ref (a 0)] S z) ∧ (∀ (v1 v2 : Int32) (S : St) (z : Int32 × St), rec 3 v1 v2 S = some z → CtI l yX11_compares cX11_compares 6 .boolean dr s0 D ca tpM a A [.ref (a 0), .int v1, .int v2] S z) ∧ (∀ (S : St) (z : Int32 × St), rec 4 0 0 S = some z → CtI l yX11_unit cX11_unit 3 .boolean dr s0 D ca tpM a A [.ref (a 0)] S z) ∧ (∀ (v1 v2 : Int32) (S : St) (z : Int32 × St), rec 5 v1 v2 S = some z → CtI l yX11_part cX11_part 5 .boolean dr s0 D ca tpM a A [.ref (a 0), .int v1, .int v2] S z) ∧ (∀ (v1 v2 : Int32) (S : St) (z : Int32 × St), rec 6 v1 v2 S = some z → CtI l yX11_condition cX11_condition 5 .boolean dr s0 D ca tpM a A [.ref (a 0), .int v1, .int v2] S z)) (hdr : dr + 1 ≤ d) (L5 : Int32 → St → Option (Int32 × St)) (hL5 : ∀ (v1 : Int32) (S : St), VV p l e (rmd d) s m args below meth c D ca tpM a A 5 (QmI D ca tpM a A below args s) S [(0, .ref (a 0)), (1, .int v1)] 5 [] (L5 v1 S)) (v1 : Int32) (S : St) : VV p l e (rmd d) s m args below meth c D ca tpM a A 5 (QmI D ca tpM a A below args s) S [(0, .ref (a 0)), (1, .int v1)] 31 [] (m_sum_b31 rec L5 v1 S) := by
  unfold m_sum_b31
  refine V_aload_n (pc := 31) h 0 dX11_sum_31 rfl rfl ?_
  refine V_callVI (pc := 32) (dy := 1) (q := (RX11, TX11, 59)) h [] [] 0 mv_X11_161 oM_0 rfl dX11_sum_32 rfl rfl (Nat.le_of_ble_eq_true rfl) (Nat.le_trans (by decide) hD) (m_look S) (fun z9 hz9 => m_look_ct h.gg (Nat.le_refl 1) S z9 hz9) (fun x2 S1 => ?_)
  refine V_bipush (pc := 35) (v := 43) h dX11_sum_35 (by decide) ?_
  refine V_icmp_ne (pc := 37) h 44 dX11_sum_37 (by decide) ?_ ?_
  · refine V_iconst (pc := 44) (v := 0) h dX11_sum_44 (by decide) ?_
    exact V_ls [0, 1] rfl (m_sum_b45_ok h hr hlk hD rec hrec hdr L5 hL5 v1 (0 : Int32) S1)
  · refine V_iconst (pc := 40) (v := 1) h dX11_sum_40 (by decide) ?_
    refine V_goto (pc := 41) h 45 dX11_sum_41 (by decide) ?_
    exact V_ls [0, 1] rfl (m_sum_b45_ok h hr hlk hD rec hrec hdr L5 hL5 v1 (1 : Int32) S1)
def m_sum_h5 (rec : Nat → Int32 → Int32 → St → Option (Int32 × St)) : Nat → Int32 → St → Option (Int32 × St)
  | 0, _, _ => none
  | n + 1, v1, S => (if (S 0 11) = (-1 : Int32) then (bI (m_look S) (fun x2 S1 => (if x2 = (43 : Int32) then (m_sum_b31 rec (m_sum_h5 rec n) v1 S1) else (bI (m_look S1) (fun x4 S3 => (if x4 = (45 : Int32) then (m_sum_b31 rec (m_sum_h5 rec n) v1 S3) else (some (v1, S3)))))))) else (some (v1, S)))
set_option maxHeartbeats 4000000 in
set_option maxRecDepth 100000 in
theorem m_sum_h5_ok {d : Nat} (h : Cx p s m c cX11_sum 5 RX11 s0 args0 D ca a A) (hr : meth.sig.returnType = some .int) (hlk : meth.locks = false) (hD : 6 ≤ d) {dr : Nat} (rec : Nat → Int32 → Int32 → St → Option (Int32 × St)) (hrec : (∀ (S : St) (z : Int32 × St), rec 0 0 0 S = some z → CtI l yX11_atom cX11_atom 4 .int dr s0 D ca tpM a A [.ref (a 0)] S z) ∧ (∀ (S : St) (z : Int32 × St), rec 1 0 0 S = some z → CtI l yX11_term cX11_term 5 .int dr s0 D ca tpM a A [.ref (a 0)] S z) ∧ (∀ (S : St) (z : Int32 × St), rec 2 0 0 S = some z → CtI l yX11_sum cX11_sum 5 .int dr s0 D ca tpM a A [.ref (a 0)] S z) ∧ (∀ (v1 v2 : Int32) (S : St) (z : Int32 × St), rec 3 v1 v2 S = some z → CtI l yX11_compares cX11_compares 6 .boolean dr s0 D ca tpM a A [.ref (a 0), .int v1, .int v2] S z) ∧ (∀ (S : St) (z : Int32 × St), rec 4 0 0 S = some z → CtI l yX11_unit cX11_unit 3 .boolean dr s0 D ca tpM a A [.ref (a 0)] S z) ∧ (∀ (v1 v2 : Int32) (S : St) (z : Int32 × St), rec 5 v1 v2 S = some z → CtI l yX11_part cX11_part 5 .boolean dr s0 D ca tpM a A [.ref (a 0), .int v1, .int v2] S z) ∧ (∀ (v1 v2 : Int32) (S : St) (z : Int32 × St), rec 6 v1 v2 S = some z → CtI l yX11_condition cX11_condition 5 .boolean dr s0 D ca tpM a A [.ref (a 0), .int v1, .int v2] S z)) (hdr : dr + 1 ≤ d) : ∀ (n : Nat) (v1 : Int32) (S : St), VV p l e (rmd d) s m args below meth c D ca tpM a A 5 (QmI D ca tpM a A below args s) S [(0, .ref (a 0)), (1, .int v1)] 5 [] (m_sum_h5 rec n v1 S) := by
  intro n
  induction n with
  | zero => intro v1 S; exact V_none
  | succ n ih =>
    intro v1 S
    unfold m_sum_h5
    refine V_aload_n (pc := 5) h 0 dX11_sum_5 rfl rfl ?_
    refine V_get (pc := 6) h 0 11 (.int (S 0 11)) fl_X11_151_X11 oM_0 rfl rfl dX11_sum_6 ?_
    refine V_iconst (pc := 9) (v := -1) h dX11_sum_9 (by decide) ?_
    refine V_icmp_ne (pc := 10) h 84 dX11_sum_10 (by decide) ?_ ?_
    · refine V_iload_n (pc := 84) h 1 dX11_sum_84 rfl rfl ?_
      exact V_iret (pc := 85) h hr hlk dX11_sum_85
    · refine V_aload_n (pc := 13) h 0 dX11_sum_13 rfl rfl ?_
      refine V_callVI (pc := 14) (dy := 1) (q := (RX11, TX11, 59)) h [] [] 0 mv_X11_161 oM_0 rfl dX11_sum_14 rfl rfl (Nat.le_of_ble_eq_true rfl) (Nat.le_trans (by decide) hD) (m_look S) (fun z9 hz9 => m_look_ct h.gg (Nat.le_refl 1) S z9 hz9) (fun x2 S1 => ?_)
      refine V_bipush (pc := 17) (v := 43) h dX11_sum_17 (by decide) ?_
      refine V_icmp_eq (pc := 19) h 31 dX11_sum_19 (by decide) ?_ ?_
      · exact V_ls [0, 1] rfl (m_sum_b31_ok h hr hlk hD rec hrec hdr (m_sum_h5 rec n) ih v1 S1)
      · refine V_aload_n (pc := 22) h 0 dX11_sum_22 rfl rfl ?_
        refine V_callVI (pc := 23) (dy := 1) (q := (RX11, TX11, 59)) h [] [] 0 mv_X11_161 oM_0 rfl dX11_sum_23 rfl rfl (Nat.le_of_ble_eq_true rfl) (Nat.le_trans (by decide) hD) (m_look S1) (fun z9 hz9 => m_look_ct h.gg (Nat.le_refl 1) S1 z9 hz9) (fun x4 S3 => ?_)
        refine V_bipush (pc := 26) (v := 45) h dX11_sum_26 (by decide) ?_
        refine V_icmp_ne (pc := 28) h 84 dX11_sum_28 (by decide) ?_ ?_
        · refine V_iload_n (pc := 84) h 1 dX11_sum_84 rfl rfl ?_
          exact V_iret (pc := 85) h hr hlk dX11_sum_85
        · exact V_ls [0, 1] rfl (m_sum_b31_ok h hr hlk hD rec hrec hdr (m_sum_h5 rec n) ih v1 S3)
def m_sum (rec : Nat → Int32 → Int32 → St → Option (Int32 × St)) (S : St) : Option (Int32 × St) := (bI (rec 1 0 0 S) (fun x2 S1 => (m_sum_h5 rec FU x2 S1)))
set_option maxHeartbeats 4000000 in
set_option maxRecDepth 100000 in
theorem m_sum_ok {d : Nat} (h : Cx p s m c cX11_sum 5 RX11 s0 args0 D ca a A) (hr : meth.sig.returnType = some .int) (hlk : meth.locks = false) (hD : 6 ≤ d) {dr : Nat} (rec : Nat → Int32 → Int32 → St → Option (Int32 × St)) (hrec : (∀ (S : St) (z : Int32 × St), rec 0 0 0 S = some z → CtI l yX11_atom cX11_atom 4 .int dr s0 D ca tpM a A [.ref (a 0)] S z) ∧ (∀ (S : St) (z : Int32 × St), rec 1 0 0 S = some z → CtI l yX11_term cX11_term 5 .int dr s0 D ca tpM a A [.ref (a 0)] S z) ∧ (∀ (S : St) (z : Int32 × St), rec 2 0 0 S = some z → CtI l yX11_sum cX11_sum 5 .int dr s0 D ca tpM a A [.ref (a 0)] S z) ∧ (∀ (v1 v2 : Int32) (S : St) (z : Int32 × St), rec 3 v1 v2 S = some z → CtI l yX11_compares cX11_compares 6 .boolean dr s0 D ca tpM a A [.ref (a 0), .int v1, .int v2] S z) ∧ (∀ (S : St) (z : Int32 × St), rec 4 0 0 S = some z → CtI l yX11_unit cX11_unit 3 .boolean dr s0 D ca tpM a A [.ref (a 0)] S z) ∧ (∀ (v1 v2 : Int32) (S : St) (z : Int32 × St), rec 5 v1 v2 S = some z → CtI l yX11_part cX11_part 5 .boolean dr s0 D ca tpM a A [.ref (a 0), .int v1, .int v2] S z) ∧ (∀ (v1 v2 : Int32) (S : St) (z : Int32 × St), rec 6 v1 v2 S = some z → CtI l yX11_condition cX11_condition 5 .boolean dr s0 D ca tpM a A [.ref (a 0), .int v1, .int v2] S z)) (hdr : dr + 1 ≤ d) (S : St) : VV p l e (rmd d) s m args below meth c D ca tpM a A 5 (QmI D ca tpM a A below args s) S [(0, .ref (a 0))] 0 [] (m_sum rec S) := by
  unfold m_sum
  refine V_aload_n (pc := 0) h 0 dX11_sum_0 rfl rfl ?_
  refine V_callVI (pc := 1) (dy := dr) (q := (RX11, TX11, 59)) h [] [] 0 mv_X11_201 oM_0 rfl dX11_sum_1 rfl rfl (Nat.le_of_ble_eq_true rfl) hdr (rec 1 0 0 S) (fun z9 hz9 => hrec.2.1 S z9 hz9) (fun x2 S1 => ?_)
  refine V_istore_n (pc := 4) h [(1, .int x2), (0, .ref (a 0))] dX11_sum_4 rfl (by decide) rfl ?_
  exact V_ls [1, 0] rfl (m_sum_h5_ok h hr hlk hD rec hrec hdr FU x2 S1)
def m_compares_b12 (rec : Nat → Int32 → Int32 → St → Option (Int32 × St)) (k0 : Int32) (S : St) : Option (Int32 × St) := (if (S 0 11) = (-1 : Int32) then (bI (m_look S) (fun x2 S1 => (bI (m_isSign x2 S1) (fun x4 S3 => (if x4 = 0 then (bI (m_fails S3) (fun x9 S8 => (nzM x9 (some (x9, S8))))) else (bnd (up2 S3 0 10 ((S3 0 10) + (1 : Int32))) (fun S5 => (bI (rec 2 0 0 S5) (fun x7 S6 => (if x2 = (61 : Int32) then (if k0 = x7 then (nzM (1 : Int32) (some ((1 : Int32), S6))) else (nzM (0 : Int32) (some ((0 : Int32), S6)))) else (if x2 = (60 : Int32) then (if x7 ≤ k0 then (nzM (0 : Int32) (some ((0 : Int32), S6))) else (nzM (1 : Int32) (some ((1 : Int32), S6)))) else (if k0 ≤ x7 then (nzM (0 : Int32) (some ((0 : Int32), S6))) else (nzM (1 : Int32) (some ((1 : Int32), S6))))))))))))))) else (nzM (0 : Int32) (some ((0 : Int32), S))))
set_option maxHeartbeats 4000000 in
set_option maxRecDepth 100000 in
theorem m_compares_b12_ok {d : Nat} (h : Cx p s m c cX11_compares 6 RX11 s0 args0 D ca a A) (hr : meth.sig.returnType = some .boolean) (hlk : meth.locks = false) (hD : 6 ≤ d) {dr : Nat} (rec : Nat → Int32 → Int32 → St → Option (Int32 × St)) (hrec : (∀ (S : St) (z : Int32 × St), rec 0 0 0 S = some z → CtI l yX11_atom cX11_atom 4 .int dr s0 D ca tpM a A [.ref (a 0)] S z) ∧ (∀ (S : St) (z : Int32 × St), rec 1 0 0 S = some z → CtI l yX11_term cX11_term 5 .int dr s0 D ca tpM a A [.ref (a 0)] S z) ∧ (∀ (S : St) (z : Int32 × St), rec 2 0 0 S = some z → CtI l yX11_sum cX11_sum 5 .int dr s0 D ca tpM a A [.ref (a 0)] S z) ∧ (∀ (v1 v2 : Int32) (S : St) (z : Int32 × St), rec 3 v1 v2 S = some z → CtI l yX11_compares cX11_compares 6 .boolean dr s0 D ca tpM a A [.ref (a 0), .int v1, .int v2] S z) ∧ (∀ (S : St) (z : Int32 × St), rec 4 0 0 S = some z → CtI l yX11_unit cX11_unit 3 .boolean dr s0 D ca tpM a A [.ref (a 0)] S z) ∧ (∀ (v1 v2 : Int32) (S : St) (z : Int32 × St), rec 5 v1 v2 S = some z → CtI l yX11_part cX11_part 5 .boolean dr s0 D ca tpM a A [.ref (a 0), .int v1, .int v2] S z) ∧ (∀ (v1 v2 : Int32) (S : St) (z : Int32 × St), rec 6 v1 v2 S = some z → CtI l yX11_condition cX11_condition 5 .boolean dr s0 D ca tpM a A [.ref (a 0), .int v1, .int v2] S z)) (hdr : dr + 1 ≤ d) (k0 : Int32) (S : St) : VV p l e (rmd d) s m args below meth c D ca tpM a A 6 (QmI D ca tpM a A below args s) S [(0, .ref (a 0))] 12 [.int k0] (m_compares_b12 rec k0 S) := by
  unfold m_compares_b12
  refine V_istore_n (pc := 12) h [(3, .int k0), (0, .ref (a 0))] dX11_compares_12 rfl (by decide) rfl ?_
  refine V_aload_n (pc := 13) h 1 dX11_compares_13 rfl rfl ?_
  refine V_get (pc := 14) h 0 11 (.int (S 0 11)) fl_X11_151_X11 oM_0 rfl rfl dX11_compares_14 ?_
  refine V_iconst (pc := 17) (v := -1) h dX11_compares_17 (by decide) ?_
  refine V_icmp_eq (pc := 18) h 23 dX11_compares_18 (by decide) ?_ ?_
  · refine V_aload_n (pc := 23) h 1 dX11_compares_23 rfl rfl ?_
    refine V_callVI (pc := 24) (dy := 1) (q := (RX11, TX11, 59)) h [] [] 0 mv_X11_161 oM_0 rfl dX11_compares_24 rfl rfl (Nat.le_of_ble_eq_true rfl) (Nat.le_trans (by decide) hD) (m_look S) (fun z9 hz9 => m_look_ct h.gg (Nat.le_refl 1) S z9 hz9) (fun x2 S1 => ?_)
    refine V_istore (pc := 27) h [(4, .int x2), (3, .int k0), (0, .ref (a 0))] dX11_compares_27 (by decide) rfl ?_
    refine V_iload (pc := 29) h 0 dX11_compares_29 rfl ?_
    refine V_callSI (pc := 31) (dy := 1) h [.int x2] [] ms_X11_204 dX11_compares_31 rfl rfl (Nat.le_of_ble_eq_true rfl) (Nat.le_trans (by decide) hD) (m_isSign x2 S1) (fun z9 hz9 => m_isSign_ct h.gg (Nat.le_refl 1) x2 S1 z9 hz9) (fun x4 S3 => ?_)
    refine V_if_ne (pc := 34) h 42 dX11_compares_34 (by decide) ?_ ?_
    · refine V_aload_n (pc := 42) h 2 dX11_compares_42 rfl rfl ?_
      refine V_dup (pc := 43) h dX11_compares_43 rfl ?_
      refine V_get (pc := 44) h 0 10 (.int (S3 0 10)) fl_X11_142_X11 oM_0 rfl rfl dX11_compares_44 ?_
      refine V_iconst (pc := 47) (v := 1) h dX11_compares_47 (by decide) ?_
      refine V_iadd (pc := 48) h dX11_compares_48 ?_
      refine V_put (pc := 49) h 0 10 ((S3 0 10) + (1 : Int32)) fp_X11_142_X11 oM_0 rfl rfl rfl rfl dX11_compares_49 (fun S5 => ?_)
      refine V_aload_n (pc := 52) h 2 dX11_compares_52 rfl rfl ?_
      refine V_callVI (pc := 53) (dy := dr) (q := (RX11, TX11, 59)) h [] [] 0 mv_X11_184 oM_0 rfl dX11_compares_53 rfl rfl (Nat.le_of_ble_eq_true rfl) hdr (rec 2 0 0 S5) (fun z9 hz9 => hrec.2.2.1 S5 z9 hz9) (fun x7 S6 => ?_)
      refine V_istore (pc := 56) h [(5, .int x7), (4, .int x2), (3, .int k0), (0, .ref (a 0))] dX11_compares_56 (by decide) rfl ?_
      refine V_iload (pc := 58) h 1 dX11_compares_58 rfl ?_
      refine V_bipush (pc := 60) (v := 61) h dX11_compares_60 (by decide) ?_
      refine V_icmp_ne (pc := 62) h 79 dX11_compares_62 (by decide) ?_ ?_
      · refine V_iload (pc := 79) h 1 dX11_compares_79 rfl ?_
        refine V_bipush (pc := 81) (v := 60) h dX11_compares_81 (by decide) ?_
        refine V_icmp_ne (pc := 83) h 100 dX11_compares_83 (by decide) ?_ ?_
        · refine V_iload_n (pc := 100) h 2 dX11_compares_100 rfl rfl ?_
          refine V_iload (pc := 101) h 0 dX11_compares_101 rfl ?_
          refine V_icmp_le (pc := 103) h 110 dX11_compares_103 (by decide) ?_ ?_
          · refine V_iconst (pc := 110) (v := 0) h dX11_compares_110 (by decide) ?_
            exact V_zret (pc := 111) h hr hlk dX11_compares_111
          · refine V_iconst (pc := 106) (v := 1) h dX11_compares_106 (by decide) ?_
            refine V_goto (pc := 107) h 111 dX11_compares_107 (by decide) ?_
            exact V_zret (pc := 111) h hr hlk dX11_compares_111
        · refine V_iload_n (pc := 86) h 2 dX11_compares_86 rfl rfl ?_
          refine V_iload (pc := 87) h 0 dX11_compares_87 rfl ?_
          refine V_icmp_ge (pc := 89) h 96 dX11_compares_89 (by decide) ?_ ?_
          · refine V_iconst (pc := 96) (v := 0) h dX11_compares_96 (by decide) ?_
            refine V_goto (pc := 97) h 111 dX11_compares_97 (by decide) ?_
            exact V_zret (pc := 111) h hr hlk dX11_compares_111
          · refine V_iconst (pc := 92) (v := 1) h dX11_compares_92 (by decide) ?_
            refine V_goto (pc := 93) h 111 dX11_compares_93 (by decide) ?_
            exact V_zret (pc := 111) h hr hlk dX11_compares_111
      · refine V_iload_n (pc := 65) h 2 dX11_compares_65 rfl rfl ?_
        refine V_iload (pc := 66) h 0 dX11_compares_66 rfl ?_
        refine V_icmp_ne (pc := 68) h 75 dX11_compares_68 (by decide) ?_ ?_
        · refine V_iconst (pc := 75) (v := 0) h dX11_compares_75 (by decide) ?_
          refine V_goto (pc := 76) h 111 dX11_compares_76 (by decide) ?_
          exact V_zret (pc := 111) h hr hlk dX11_compares_111
        · refine V_iconst (pc := 71) (v := 1) h dX11_compares_71 (by decide) ?_
          refine V_goto (pc := 72) h 111 dX11_compares_72 (by decide) ?_
          exact V_zret (pc := 111) h hr hlk dX11_compares_111
    · refine V_aload_n (pc := 37) h 2 dX11_compares_37 rfl rfl ?_
      refine V_callVI (pc := 38) (dy := 1) (q := (RX11, TX11, 59)) h [] [] 0 mv_X11_157 oM_0 rfl dX11_compares_38 rfl rfl (Nat.le_of_ble_eq_true rfl) (Nat.le_trans (by decide) hD) (m_fails S3) (fun z9 hz9 => m_fails_ct h.gg (Nat.le_refl 1) S3 z9 hz9) (fun x9 S8 => ?_)
      exact V_zret (pc := 41) h hr hlk dX11_compares_41
  · refine V_iconst (pc := 21) (v := 0) h dX11_compares_21 (by decide) ?_
    exact V_zret (pc := 22) h hr hlk dX11_compares_22
def m_compares (rec : Nat → Int32 → Int32 → St → Option (Int32 × St)) (v1 : Int32) (v2 : Int32) (S : St) : Option (Int32 × St) := (if v1 = 0 then (bI (rec 2 0 0 S) (fun x2 S1 => (m_compares_b12 rec x2 S1))) else (m_compares_b12 rec v2 S))
set_option maxHeartbeats 4000000 in
set_option maxRecDepth 100000 in
theorem m_compares_ok {d : Nat} (h : Cx p s m c cX11_compares 6 RX11 s0 args0 D ca a A) (hr : meth.sig.returnType = some .boolean) (hlk : meth.locks = false) (hD : 6 ≤ d) {dr : Nat} (rec : Nat → Int32 → Int32 → St → Option (Int32 × St)) (hrec : (∀ (S : St) (z : Int32 × St), rec 0 0 0 S = some z → CtI l yX11_atom cX11_atom 4 .int dr s0 D ca tpM a A [.ref (a 0)] S z) ∧ (∀ (S : St) (z : Int32 × St), rec 1 0 0 S = some z → CtI l yX11_term cX11_term 5 .int dr s0 D ca tpM a A [.ref (a 0)] S z) ∧ (∀ (S : St) (z : Int32 × St), rec 2 0 0 S = some z → CtI l yX11_sum cX11_sum 5 .int dr s0 D ca tpM a A [.ref (a 0)] S z) ∧ (∀ (v1 v2 : Int32) (S : St) (z : Int32 × St), rec 3 v1 v2 S = some z → CtI l yX11_compares cX11_compares 6 .boolean dr s0 D ca tpM a A [.ref (a 0), .int v1, .int v2] S z) ∧ (∀ (S : St) (z : Int32 × St), rec 4 0 0 S = some z → CtI l yX11_unit cX11_unit 3 .boolean dr s0 D ca tpM a A [.ref (a 0)] S z) ∧ (∀ (v1 v2 : Int32) (S : St) (z : Int32 × St), rec 5 v1 v2 S = some z → CtI l yX11_part cX11_part 5 .boolean dr s0 D ca tpM a A [.ref (a 0), .int v1, .int v2] S z) ∧ (∀ (v1 v2 : Int32) (S : St) (z : Int32 × St), rec 6 v1 v2 S = some z → CtI l yX11_condition cX11_condition 5 .boolean dr s0 D ca tpM a A [.ref (a 0), .int v1, .int v2] S z)) (hdr : dr + 1 ≤ d) (v1 : Int32) (v2 : Int32) (S : St) : VV p l e (rmd d) s m args below meth c D ca tpM a A 6 (QmI D ca tpM a A below args s) S [(0, .ref (a 0)), (1, .int v1), (2, .int v2)] 0 [] (m_compares rec v1 v2 S) := by
  unfold m_compares
  refine V_iload_n (pc := 0) h 1 dX11_compares_0 rfl rfl ?_
  refine V_if_eq (pc := 1) h 8 dX11_compares_1 (by decide) ?_ ?_
  · refine V_aload_n (pc := 8) h 0 dX11_compares_8 rfl rfl ?_
    refine V_callVI (pc := 9) (dy := dr) (q := (RX11, TX11, 59)) h [] [] 0 mv_X11_184 oM_0 rfl dX11_compares_9 rfl rfl (Nat.le_of_ble_eq_true rfl) hdr (rec 2 0 0 S) (fun z9 hz9 => hrec.2.2.1 S z9 hz9) (fun x2 S1 => ?_)
    exact V_ls [0] rfl (m_compares_b12_ok h hr hlk hD rec hrec hdr x2 S1)
  · refine V_iload_n (pc := 4) h 2 dX11_compares_4 rfl rfl ?_
    refine V_goto (pc := 5) h 12 dX11_compares_5 (by decide) ?_
    exact V_ls [0] rfl (m_compares_b12_ok h hr hlk hD rec hrec hdr v2 S)
def m_unit (rec : Nat → Int32 → Int32 → St → Option (Int32 × St)) (S : St) : Option (Int32 × St) := (bI (m_look S) (fun x2 S1 => (if x2 = (33 : Int32) then (bI (m_goesIn S1) (fun x13 S12 => (if x13 = 0 then (nzM (0 : Int32) (some ((0 : Int32), S12))) else (bI (rec 4 0 0 S12) (fun x15 S14 => (bnd (up2 S14 0 12 ((S14 0 12) - (1 : Int32))) (fun S16 => (if x15 = 0 then (nzM (1 : Int32) (some ((1 : Int32), S16))) else (nzM (0 : Int32) (some ((0 : Int32), S16))))))))))) else (if x2 = (40 : Int32) then (bI (m_goesIn S1) (fun x6 S5 => (if x6 = 0 then (nzM (0 : Int32) (some ((0 : Int32), S5))) else (bI (rec 6 (0 : Int32) (0 : Int32) S5) (fun x8 S7 => (bI (m_takes (41 : Int32) S7) (fun x10 S9 => (if x10 = 0 then (nzM (0 : Int32) (some ((0 : Int32), S9))) else (bnd (up2 S9 0 12 ((S9 0 12) - (1 : Int32))) (fun S11 => (nzM x8 (some (x8, S11))))))))))))) else (bI (rec 3 (0 : Int32) (0 : Int32) S1) (fun x4 S3 => (nzM x4 (some (x4, S3)))))))))
set_option maxHeartbeats 4000000 in
set_option maxRecDepth 100000 in
theorem m_unit_ok {d : Nat} (h : Cx p s m c cX11_unit 3 RX11 s0 args0 D ca a A) (hr : meth.sig.returnType = some .boolean) (hlk : meth.locks = false) (hD : 6 ≤ d) {dr : Nat} (rec : Nat → Int32 → Int32 → St → Option (Int32 × St)) (hrec : (∀ (S : St) (z : Int32 × St), rec 0 0 0 S = some z → CtI l yX11_atom cX11_atom 4 .int dr s0 D ca tpM a A [.ref (a 0)] S z) ∧ (∀ (S : St) (z : Int32 × St), rec 1 0 0 S = some z → CtI l yX11_term cX11_term 5 .int dr s0 D ca tpM a A [.ref (a 0)] S z) ∧ (∀ (S : St) (z : Int32 × St), rec 2 0 0 S = some z → CtI l yX11_sum cX11_sum 5 .int dr s0 D ca tpM a A [.ref (a 0)] S z) ∧ (∀ (v1 v2 : Int32) (S : St) (z : Int32 × St), rec 3 v1 v2 S = some z → CtI l yX11_compares cX11_compares 6 .boolean dr s0 D ca tpM a A [.ref (a 0), .int v1, .int v2] S z) ∧ (∀ (S : St) (z : Int32 × St), rec 4 0 0 S = some z → CtI l yX11_unit cX11_unit 3 .boolean dr s0 D ca tpM a A [.ref (a 0)] S z) ∧ (∀ (v1 v2 : Int32) (S : St) (z : Int32 × St), rec 5 v1 v2 S = some z → CtI l yX11_part cX11_part 5 .boolean dr s0 D ca tpM a A [.ref (a 0), .int v1, .int v2] S z) ∧ (∀ (v1 v2 : Int32) (S : St) (z : Int32 × St), rec 6 v1 v2 S = some z → CtI l yX11_condition cX11_condition 5 .boolean dr s0 D ca tpM a A [.ref (a 0), .int v1, .int v2] S z)) (hdr : dr + 1 ≤ d) (S : St) : VV p l e (rmd d) s m args below meth c D ca tpM a A 3 (QmI D ca tpM a A below args s) S [(0, .ref (a 0))] 0 [] (m_unit rec S) := by
  unfold m_unit
  refine V_aload_n (pc := 0) h 0 dX11_unit_0 rfl rfl ?_
  refine V_callVI (pc := 1) (dy := 1) (q := (RX11, TX11, 59)) h [] [] 0 mv_X11_161 oM_0 rfl dX11_unit_1 rfl rfl (Nat.le_of_ble_eq_true rfl) (Nat.le_trans (by decide) hD) (m_look S) (fun z9 hz9 => m_look_ct h.gg (Nat.le_refl 1) S z9 hz9) (fun x2 S1 => ?_)
  refine V_istore_n (pc := 4) h [(1, .int x2), (0, .ref (a 0))] dX11_unit_4 rfl (by decide) rfl ?_
  refine V_iload_n (pc := 5) h 0 dX11_unit_5 rfl rfl ?_
  refine V_bipush (pc := 6) (v := 33) h dX11_unit_6 (by decide) ?_
  refine V_icmp_ne (pc := 8) h 45 dX11_unit_8 (by decide) ?_ ?_
  · refine V_iload_n (pc := 45) h 0 dX11_unit_45 rfl rfl ?_
    refine V_bipush (pc := 46) (v := 40) h dX11_unit_46 (by decide) ?_
    refine V_icmp_ne (pc := 48) h 90 dX11_unit_48 (by decide) ?_ ?_
    · refine V_aload_n (pc := 90) h 1 dX11_unit_90 rfl rfl ?_
      refine V_iconst (pc := 91) (v := 0) h dX11_unit_91 (by decide) ?_
      refine V_iconst (pc := 92) (v := 0) h dX11_unit_92 (by decide) ?_
      refine V_callVI (pc := 93) (dy := dr) (q := (RX11, TX11, 59)) h [.int (0 : Int32), .int (0 : Int32)] [] 0 mv_X11_214 oM_0 rfl dX11_unit_93 rfl rfl (Nat.le_of_ble_eq_true rfl) hdr (rec 3 (0 : Int32) (0 : Int32) S1) (fun z9 hz9 => hrec.2.2.2.1 (0 : Int32) (0 : Int32) S1 z9 hz9) (fun x4 S3 => ?_)
      exact V_zret (pc := 96) h hr hlk dX11_unit_96
    · refine V_aload_n (pc := 51) h 1 dX11_unit_51 rfl rfl ?_
      refine V_callVI (pc := 52) (dy := 2) (q := (RX11, TX11, 59)) h [] [] 0 mv_X11_181 oM_0 rfl dX11_unit_52 rfl rfl (Nat.le_of_ble_eq_true rfl) (Nat.le_trans (by decide) hD) (m_goesIn S1) (fun z9 hz9 => m_goesIn_ct h.gg (Nat.le_refl 2) S1 z9 hz9) (fun x6 S5 => ?_)
      refine V_if_ne (pc := 55) h 60 dX11_unit_55 (by decide) ?_ ?_
      · refine V_aload_n (pc := 60) h 1 dX11_unit_60 rfl rfl ?_
        refine V_iconst (pc := 61) (v := 0) h dX11_unit_61 (by decide) ?_
        refine V_iconst (pc := 62) (v := 0) h dX11_unit_62 (by decide) ?_
        refine V_callVI (pc := 63) (dy := dr) (q := (RX11, TX11, 59)) h [.int (0 : Int32), .int (0 : Int32)] [] 0 mv_X11_210 oM_0 rfl dX11_unit_63 rfl rfl (Nat.le_of_ble_eq_true rfl) hdr (rec 6 (0 : Int32) (0 : Int32) S5) (fun z9 hz9 => hrec.2.2.2.2.2.2 (0 : Int32) (0 : Int32) S5 z9 hz9) (fun x8 S7 => ?_)
        refine V_istore_n (pc := 66) h [(2, .int x8), (1, .int x2), (0, .ref (a 0))] dX11_unit_66 rfl (by decide) rfl ?_
        refine V_aload_n (pc := 67) h 2 dX11_unit_67 rfl rfl ?_
        refine V_bipush (pc := 68) (v := 41) h dX11_unit_68 (by decide) ?_
        refine V_callVI (pc := 70) (dy := 2) (q := (RX11, TX11, 59)) h [.int (41 : Int32)] [] 0 mv_X11_187 oM_0 rfl dX11_unit_70 rfl rfl (Nat.le_of_ble_eq_true rfl) (Nat.le_trans (by decide) hD) (m_takes (41 : Int32) S7) (fun z9 hz9 => m_takes_ct h.gg (Nat.le_refl 2) (41 : Int32) S7 z9 hz9) (fun x10 S9 => ?_)
        refine V_if_ne (pc := 73) h 78 dX11_unit_73 (by decide) ?_ ?_
        · refine V_aload_n (pc := 78) h 2 dX11_unit_78 rfl rfl ?_
          refine V_dup (pc := 79) h dX11_unit_79 rfl ?_
          refine V_get (pc := 80) h 0 12 (.int (S9 0 12)) fl_X11_154_X11 oM_0 rfl rfl dX11_unit_80 ?_
          refine V_iconst (pc := 83) (v := 1) h dX11_unit_83 (by decide) ?_
          refine V_isub (pc := 84) h dX11_unit_84 ?_
          refine V_put (pc := 85) h 0 12 ((S9 0 12) - (1 : Int32)) fp_X11_154_X11 oM_0 rfl rfl rfl rfl dX11_unit_85 (fun S11 => ?_)
          refine V_iload_n (pc := 88) h 0 dX11_unit_88 rfl rfl ?_
          exact V_zret (pc := 89) h hr hlk dX11_unit_89
        · refine V_iconst (pc := 76) (v := 0) h dX11_unit_76 (by decide) ?_
          exact V_zret (pc := 77) h hr hlk dX11_unit_77
      · refine V_iconst (pc := 58) (v := 0) h dX11_unit_58 (by decide) ?_
        exact V_zret (pc := 59) h hr hlk dX11_unit_59
  · refine V_aload_n (pc := 11) h 1 dX11_unit_11 rfl rfl ?_
    refine V_callVI (pc := 12) (dy := 2) (q := (RX11, TX11, 59)) h [] [] 0 mv_X11_181 oM_0 rfl dX11_unit_12 rfl rfl (Nat.le_of_ble_eq_true rfl) (Nat.le_trans (by decide) hD) (m_goesIn S1) (fun z9 hz9 => m_goesIn_ct h.gg (Nat.le_refl 2) S1 z9 hz9) (fun x13 S12 => ?_)
    refine V_if_ne (pc := 15) h 20 dX11_unit_15 (by decide) ?_ ?_
    · refine V_aload_n (pc := 20) h 1 dX11_unit_20 rfl rfl ?_
      refine V_callVI (pc := 21) (dy := dr) (q := (RX11, TX11, 59)) h [] [] 0 mv_X11_207 oM_0 rfl dX11_unit_21 rfl rfl (Nat.le_of_ble_eq_true rfl) hdr (rec 4 0 0 S12) (fun z9 hz9 => hrec.2.2.2.2.1 S12 z9 hz9) (fun x15 S14 => ?_)
      refine V_istore_n (pc := 24) h [(2, .int x15), (1, .int x2), (0, .ref (a 0))] dX11_unit_24 rfl (by decide) rfl ?_
      refine V_aload_n (pc := 25) h 2 dX11_unit_25 rfl rfl ?_
      refine V_dup (pc := 26) h dX11_unit_26 rfl ?_
      refine V_get (pc := 27) h 0 12 (.int (S14 0 12)) fl_X11_154_X11 oM_0 rfl rfl dX11_unit_27 ?_
      refine V_iconst (pc := 30) (v := 1) h dX11_unit_30 (by decide) ?_
      refine V_isub (pc := 31) h dX11_unit_31 ?_
      refine V_put (pc := 32) h 0 12 ((S14 0 12) - (1 : Int32)) fp_X11_154_X11 oM_0 rfl rfl rfl rfl dX11_unit_32 (fun S16 => ?_)
      refine V_iload_n (pc := 35) h 0 dX11_unit_35 rfl rfl ?_
      refine V_if_ne (pc := 36) h 43 dX11_unit_36 (by decide) ?_ ?_
      · refine V_iconst (pc := 43) (v := 0) h dX11_unit_43 (by decide) ?_
        exact V_zret (pc := 44) h hr hlk dX11_unit_44
      · refine V_iconst (pc := 39) (v := 1) h dX11_unit_39 (by decide) ?_
        refine V_goto (pc := 40) h 44 dX11_unit_40 (by decide) ?_
        exact V_zret (pc := 44) h hr hlk dX11_unit_44
    · refine V_iconst (pc := 18) (v := 0) h dX11_unit_18 (by decide) ?_
      exact V_zret (pc := 19) h hr hlk dX11_unit_19
def m_part_b65 (rec : Nat → Int32 → Int32 → St → Option (Int32 × St)) (L18 : Int32 → St → Option (Int32 × St)) (k0 : Int32) (S : St) : Option (Int32 × St) := (L18 k0 S)
set_option maxHeartbeats 4000000 in
set_option maxRecDepth 100000 in
theorem m_part_b65_ok {d : Nat} (h : Cx p s m c cX11_part 5 RX11 s0 args0 D ca a A) (hr : meth.sig.returnType = some .boolean) (hlk : meth.locks = false) (hD : 6 ≤ d) {dr : Nat} (rec : Nat → Int32 → Int32 → St → Option (Int32 × St)) (hrec : (∀ (S : St) (z : Int32 × St), rec 0 0 0 S = some z → CtI l yX11_atom cX11_atom 4 .int dr s0 D ca tpM a A [.ref (a 0)] S z) ∧ (∀ (S : St) (z : Int32 × St), rec 1 0 0 S = some z → CtI l yX11_term cX11_term 5 .int dr s0 D ca tpM a A [.ref (a 0)] S z) ∧ (∀ (S : St) (z : Int32 × St), rec 2 0 0 S = some z → CtI l yX11_sum cX11_sum 5 .int dr s0 D ca tpM a A [.ref (a 0)] S z) ∧ (∀ (v1 v2 : Int32) (S : St) (z : Int32 × St), rec 3 v1 v2 S = some z → CtI l yX11_compares cX11_compares 6 .boolean dr s0 D ca tpM a A [.ref (a 0), .int v1, .int v2] S z) ∧ (∀ (S : St) (z : Int32 × St), rec 4 0 0 S = some z → CtI l yX11_unit cX11_unit 3 .boolean dr s0 D ca tpM a A [.ref (a 0)] S z) ∧ (∀ (v1 v2 : Int32) (S : St) (z : Int32 × St), rec 5 v1 v2 S = some z → CtI l yX11_part cX11_part 5 .boolean dr s0 D ca tpM a A [.ref (a 0), .int v1, .int v2] S z) ∧ (∀ (v1 v2 : Int32) (S : St) (z : Int32 × St), rec 6 v1 v2 S = some z → CtI l yX11_condition cX11_condition 5 .boolean dr s0 D ca tpM a A [.ref (a 0), .int v1, .int v2] S z)) (hdr : dr + 1 ≤ d) (L18 : Int32 → St → Option (Int32 × St)) (hL18 : ∀ (v3 : Int32) (S : St), VV p l e (rmd d) s m args below meth c D ca tpM a A 5 (QmI D ca tpM a A below args s) S [(0, .ref (a 0)), (3, .int v3)] 18 [] (L18 v3 S)) (k0 : Int32) (S : St) : VV p l e (rmd d) s m args below meth c D ca tpM a A 5 (QmI D ca tpM a A below args s) S [(0, .ref (a 0))] 65 [.int k0] (m_part_b65 rec L18 k0 S) := by
  unfold m_part_b65
  refine V_istore_n (pc := 65) h [(3, .int k0), (0, .ref (a 0))] dX11_part_65 rfl (by decide) rfl ?_
  refine V_goto (pc := 66) h 18 dX11_part_66 (by decide) ?_
  exact V_ls [1, 0] rfl (hL18 k0 S)
def m_part_b64 (rec : Nat → Int32 → Int32 → St → Option (Int32 × St)) (L18 : Int32 → St → Option (Int32 × St)) (S : St) : Option (Int32 × St) := (m_part_b65 rec L18 (0 : Int32) S)
set_option maxHeartbeats 4000000 in
set_option maxRecDepth 100000 in
theorem m_part_b64_ok {d : Nat} (h : Cx p s m c cX11_part 5 RX11 s0 args0 D ca a A) (hr : meth.sig.returnType = some .boolean) (hlk : meth.locks = false) (hD : 6 ≤ d) {dr : Nat} (rec : Nat → Int32 → Int32 → St → Option (Int32 × St)) (hrec : (∀ (S : St) (z : Int32 × St), rec 0 0 0 S = some z → CtI l yX11_atom cX11_atom 4 .int dr s0 D ca tpM a A [.ref (a 0)] S z) ∧ (∀ (S : St) (z : Int32 × St), rec 1 0 0 S = some z → CtI l yX11_term cX11_term 5 .int dr s0 D ca tpM a A [.ref (a 0)] S z) ∧ (∀ (S : St) (z : Int32 × St), rec 2 0 0 S = some z → CtI l yX11_sum cX11_sum 5 .int dr s0 D ca tpM a A [.ref (a 0)] S z) ∧ (∀ (v1 v2 : Int32) (S : St) (z : Int32 × St), rec 3 v1 v2 S = some z → CtI l yX11_compares cX11_compares 6 .boolean dr s0 D ca tpM a A [.ref (a 0), .int v1, .int v2] S z) ∧ (∀ (S : St) (z : Int32 × St), rec 4 0 0 S = some z → CtI l yX11_unit cX11_unit 3 .boolean dr s0 D ca tpM a A [.ref (a 0)] S z) ∧ (∀ (v1 v2 : Int32) (S : St) (z : Int32 × St), rec 5 v1 v2 S = some z → CtI l yX11_part cX11_part 5 .boolean dr s0 D ca tpM a A [.ref (a 0), .int v1, .int v2] S z) ∧ (∀ (v1 v2 : Int32) (S : St) (z : Int32 × St), rec 6 v1 v2 S = some z → CtI l yX11_condition cX11_condition 5 .boolean dr s0 D ca tpM a A [.ref (a 0), .int v1, .int v2] S z)) (hdr : dr + 1 ≤ d) (L18 : Int32 → St → Option (Int32 × St)) (hL18 : ∀ (v3 : Int32) (S : St), VV p l e (rmd d) s m args below meth c D ca tpM a A 5 (QmI D ca tpM a A below args s) S [(0, .ref (a 0)), (3, .int v3)] 18 [] (L18 v3 S)) (S : St) : VV p l e (rmd d) s m args below meth c D ca tpM a A 5 (QmI D ca tpM a A below args s) S [(0, .ref (a 0))] 64 [] (m_part_b64 rec L18 S) := by
  unfold m_part_b64
  refine V_iconst (pc := 64) (v := 0) h dX11_part_64 (by decide) ?_
  exact V_ls [0] rfl (m_part_b65_ok h hr hlk hD rec hrec hdr L18 hL18 (0 : Int32) S)
def m_part_h18 (rec : Nat → Int32 → Int32 → St → Option (Int32 × St)) : Nat → Int32 → St → Option (Int32 × St)
  | 0, _, _ => none
  | n + 1, v3, S => (if (S 0 11) = (-1 : Int32) then (bI (m_look S) (fun x2 S1 => (if x2 = (38 : Int32) then (bnd (up2 S1 0 10 ((S1 0 10) + (1 : Int32))) (fun S3 => (bI (rec 4 0 0 S3) (fun x5 S4 => (if v3 = 0 then (m_part_b64 rec (m_part_h18 rec n) S4) else (if x5 = 0 then (m_part_b64 rec (m_part_h18 rec n) S4) else (m_part_b65 rec (m_part_h18 rec n) (1 : Int32) S4))))))) else (nzM v3 (some (v3, S1)))))) else (nzM v3 (some (v3, S))))
set_option maxHeartbeats 4000000 in
set_option maxRecDepth 100000 in
theorem m_part_h18_ok {d : Nat} (h : Cx p s m c cX11_part 5 RX11 s0 args0 D ca a A) (hr : meth.sig.returnType = some .boolean) (hlk : meth.locks = false) (hD : 6 ≤ d) {dr : Nat} (rec : Nat → Int32 → Int32 → St → Option (Int32 × St)) (hrec : (∀ (S : St) (z : Int32 × St), rec 0 0 0 S = some z → CtI l yX11_atom cX11_atom 4 .int dr s0 D ca tpM a A [.ref (a 0)] S z) ∧ (∀ (S : St) (z : Int32 × St), rec 1 0 0 S = some z → CtI l yX11_term cX11_term 5 .int dr s0 D ca tpM a A [.ref (a 0)] S z) ∧ (∀ (S : St) (z : Int32 × St), rec 2 0 0 S = some z → CtI l yX11_sum cX11_sum 5 .int dr s0 D ca tpM a A [.ref (a 0)] S z) ∧ (∀ (v1 v2 : Int32) (S : St) (z : Int32 × St), rec 3 v1 v2 S = some z → CtI l yX11_compares cX11_compares 6 .boolean dr s0 D ca tpM a A [.ref (a 0), .int v1, .int v2] S z) ∧ (∀ (S : St) (z : Int32 × St), rec 4 0 0 S = some z → CtI l yX11_unit cX11_unit 3 .boolean dr s0 D ca tpM a A [.ref (a 0)] S z) ∧ (∀ (v1 v2 : Int32) (S : St) (z : Int32 × St), rec 5 v1 v2 S = some z → CtI l yX11_part cX11_part 5 .boolean dr s0 D ca tpM a A [.ref (a 0), .int v1, .int v2] S z) ∧ (∀ (v1 v2 : Int32) (S : St) (z : Int32 × St), rec 6 v1 v2 S = some z → CtI l yX11_condition cX11_condition 5 .boolean dr s0 D ca tpM a A [.ref (a 0), .int v1, .int v2] S z)) (hdr : dr + 1 ≤ d) : ∀ (n : Nat) (v3 : Int32) (S : St), VV p l e (rmd d) s m args below meth c D ca tpM a A 5 (QmI D ca tpM a A below args s) S [(0, .ref (a 0)), (3, .int v3)] 18 [] (m_part_h18 rec n v3 S) := by
  intro n
  induction n with
  | zero => intro v3 S; exact V_none
  | succ n ih =>
    intro v3 S
    unfold m_part_h18
    refine V_aload_n (pc := 18) h 0 dX11_part_18 rfl rfl ?_
    refine V_get (pc := 19) h 0 11 (.int (S 0 11)) fl_X11_151_X11 oM_0 rfl rfl dX11_part_19 ?_
    refine V_iconst (pc := 22) (v := -1) h dX11_part_22 (by decide) ?_
    refine V_icmp_ne (pc := 23) h 69 dX11_part_23 (by decide) ?_ ?_
    · refine V_iload_n (pc := 69) h 1 dX11_part_69 rfl rfl ?_
      exact V_zret (pc := 70) h hr hlk dX11_part_70
    · refine V_aload_n (pc := 26) h 0 dX11_part_26 rfl rfl ?_
      refine V_callVI (pc := 27) (dy := 1) (q := (RX11, TX11, 59)) h [] [] 0 mv_X11_161 oM_0 rfl dX11_part_27 rfl rfl (Nat.le_of_ble_eq_true rfl) (Nat.le_trans (by decide) hD) (m_look S) (fun z9 hz9 => m_look_ct h.gg (Nat.le_refl 1) S z9 hz9) (fun x2 S1 => ?_)
      refine V_bipush (pc := 30) (v := 38) h dX11_part_30 (by decide) ?_
      refine V_icmp_ne (pc := 32) h 69 dX11_part_32 (by decide) ?_ ?_
      · refine V_iload_n (pc := 69) h 1 dX11_part_69 rfl rfl ?_
        exact V_zret (pc := 70) h hr hlk dX11_part_70
      · refine V_aload_n (pc := 35) h 0 dX11_part_35 rfl rfl ?_
        refine V_dup (pc := 36) h dX11_part_36 rfl ?_
        refine V_get (pc := 37) h 0 10 (.int (S1 0 10)) fl_X11_142_X11 oM_0 rfl rfl dX11_part_37 ?_
        refine V_iconst (pc := 40) (v := 1) h dX11_part_40 (by decide) ?_
        refine V_iadd (pc := 41) h dX11_part_41 ?_
        refine V_put (pc := 42) h 0 10 ((S1 0 10) + (1 : Int32)) fp_X11_142_X11 oM_0 rfl rfl rfl rfl dX11_part_42 (fun S3 => ?_)
        refine V_aload_n (pc := 45) h 0 dX11_part_45 rfl rfl ?_
        refine V_callVI (pc := 46) (dy := dr) (q := (RX11, TX11, 59)) h [] [] 0 mv_X11_207 oM_0 rfl dX11_part_46 rfl rfl (Nat.le_of_ble_eq_true rfl) hdr (rec 4 0 0 S3) (fun z9 hz9 => hrec.2.2.2.2.1 S3 z9 hz9) (fun x5 S4 => ?_)
        refine V_istore (pc := 49) h [(4, .int x5), (0, .ref (a 0)), (3, .int v3)] dX11_part_49 (by decide) rfl ?_
        refine V_iload_n (pc := 51) h 2 dX11_part_51 rfl rfl ?_
        refine V_if_eq (pc := 52) h 64 dX11_part_52 (by decide) ?_ ?_
        · exact V_ls [1] rfl (m_part_b64_ok h hr hlk hD rec hrec hdr (m_part_h18 rec n) ih S4)
        · refine V_iload (pc := 55) h 0 dX11_part_55 rfl ?_
          refine V_if_eq (pc := 57) h 64 dX11_part_57 (by decide) ?_ ?_
          · exact V_ls [1] rfl (m_part_b64_ok h hr hlk hD rec hrec hdr (m_part_h18 rec n) ih S4)
          · refine V_iconst (pc := 60) (v := 1) h dX11_part_60 (by decide) ?_
            refine V_goto (pc := 61) h 65 dX11_part_61 (by decide) ?_
            exact V_ls [1] rfl (m_part_b65_ok h hr hlk hD rec hrec hdr (m_part_h18 rec n) ih (1 : Int32) S4)
def m_part_b17 (rec : Nat → Int32 → Int32 → St → Option (Int32 × St)) (k0 : Int32) (S : St) : Option (Int32 × St) := (m_part_h18 rec FU k0 S)
set_option maxHeartbeats 4000000 in
set_option maxRecDepth 100000 in
theorem m_part_b17_ok {d : Nat} (h : Cx p s m c cX11_part 5 RX11 s0 args0 D ca a A) (hr : meth.sig.returnType = some .boolean) (hlk : meth.locks = false) (hD : 6 ≤ d) {dr : Nat} (rec : Nat → Int32 → Int32 → St → Option (Int32 × St)) (hrec : (∀ (S : St) (z : Int32 × St), rec 0 0 0 S = some z → CtI l yX11_atom cX11_atom 4 .int dr s0 D ca tpM a A [.ref (a 0)] S z) ∧ (∀ (S : St) (z : Int32 × St), rec 1 0 0 S = some z → CtI l yX11_term cX11_term 5 .int dr s0 D ca tpM a A [.ref (a 0)] S z) ∧ (∀ (S : St) (z : Int32 × St), rec 2 0 0 S = some z → CtI l yX11_sum cX11_sum 5 .int dr s0 D ca tpM a A [.ref (a 0)] S z) ∧ (∀ (v1 v2 : Int32) (S : St) (z : Int32 × St), rec 3 v1 v2 S = some z → CtI l yX11_compares cX11_compares 6 .boolean dr s0 D ca tpM a A [.ref (a 0), .int v1, .int v2] S z) ∧ (∀ (S : St) (z : Int32 × St), rec 4 0 0 S = some z → CtI l yX11_unit cX11_unit 3 .boolean dr s0 D ca tpM a A [.ref (a 0)] S z) ∧ (∀ (v1 v2 : Int32) (S : St) (z : Int32 × St), rec 5 v1 v2 S = some z → CtI l yX11_part cX11_part 5 .boolean dr s0 D ca tpM a A [.ref (a 0), .int v1, .int v2] S z) ∧ (∀ (v1 v2 : Int32) (S : St) (z : Int32 × St), rec 6 v1 v2 S = some z → CtI l yX11_condition cX11_condition 5 .boolean dr s0 D ca tpM a A [.ref (a 0), .int v1, .int v2] S z)) (hdr : dr + 1 ≤ d) (k0 : Int32) (S : St) : VV p l e (rmd d) s m args below meth c D ca tpM a A 5 (QmI D ca tpM a A below args s) S [(0, .ref (a 0))] 17 [.int k0] (m_part_b17 rec k0 S) := by
  unfold m_part_b17
  refine V_istore_n (pc := 17) h [(3, .int k0), (0, .ref (a 0))] dX11_part_17 rfl (by decide) rfl ?_
  exact V_ls [1, 0] rfl (m_part_h18_ok h hr hlk hD rec hrec hdr FU k0 S)
def m_part (rec : Nat → Int32 → Int32 → St → Option (Int32 × St)) (v1 : Int32) (v2 : Int32) (S : St) : Option (Int32 × St) := (if v1 = 0 then (bI (rec 4 0 0 S) (fun x2 S1 => (m_part_b17 rec x2 S1))) else (bI (rec 3 (1 : Int32) v2 S) (fun x4 S3 => (m_part_b17 rec x4 S3))))
set_option maxHeartbeats 4000000 in
set_option maxRecDepth 100000 in
theorem m_part_ok {d : Nat} (h : Cx p s m c cX11_part 5 RX11 s0 args0 D ca a A) (hr : meth.sig.returnType = some .boolean) (hlk : meth.locks = false) (hD : 6 ≤ d) {dr : Nat} (rec : Nat → Int32 → Int32 → St → Option (Int32 × St)) (hrec : (∀ (S : St) (z : Int32 × St), rec 0 0 0 S = some z → CtI l yX11_atom cX11_atom 4 .int dr s0 D ca tpM a A [.ref (a 0)] S z) ∧ (∀ (S : St) (z : Int32 × St), rec 1 0 0 S = some z → CtI l yX11_term cX11_term 5 .int dr s0 D ca tpM a A [.ref (a 0)] S z) ∧ (∀ (S : St) (z : Int32 × St), rec 2 0 0 S = some z → CtI l yX11_sum cX11_sum 5 .int dr s0 D ca tpM a A [.ref (a 0)] S z) ∧ (∀ (v1 v2 : Int32) (S : St) (z : Int32 × St), rec 3 v1 v2 S = some z → CtI l yX11_compares cX11_compares 6 .boolean dr s0 D ca tpM a A [.ref (a 0), .int v1, .int v2] S z) ∧ (∀ (S : St) (z : Int32 × St), rec 4 0 0 S = some z → CtI l yX11_unit cX11_unit 3 .boolean dr s0 D ca tpM a A [.ref (a 0)] S z) ∧ (∀ (v1 v2 : Int32) (S : St) (z : Int32 × St), rec 5 v1 v2 S = some z → CtI l yX11_part cX11_part 5 .boolean dr s0 D ca tpM a A [.ref (a 0), .int v1, .int v2] S z) ∧ (∀ (v1 v2 : Int32) (S : St) (z : Int32 × St), rec 6 v1 v2 S = some z → CtI l yX11_condition cX11_condition 5 .boolean dr s0 D ca tpM a A [.ref (a 0), .int v1, .int v2] S z)) (hdr : dr + 1 ≤ d) (v1 : Int32) (v2 : Int32) (S : St) : VV p l e (rmd d) s m args below meth c D ca tpM a A 5 (QmI D ca tpM a A below args s) S [(0, .ref (a 0)), (1, .int v1), (2, .int v2)] 0 [] (m_part rec v1 v2 S) := by
  unfold m_part
  refine V_iload_n (pc := 0) h 1 dX11_part_0 rfl rfl ?_
  refine V_if_eq (pc := 1) h 13 dX11_part_1 (by decide) ?_ ?_
  · refine V_aload_n (pc := 13) h 0 dX11_part_13 rfl rfl ?_
    refine V_callVI (pc := 14) (dy := dr) (q := (RX11, TX11, 59)) h [] [] 0 mv_X11_207 oM_0 rfl dX11_part_14 rfl rfl (Nat.le_of_ble_eq_true rfl) hdr (rec 4 0 0 S) (fun z9 hz9 => hrec.2.2.2.2.1 S z9 hz9) (fun x2 S1 => ?_)
    exact V_ls [0] rfl (m_part_b17_ok h hr hlk hD rec hrec hdr x2 S1)
  · refine V_aload_n (pc := 4) h 0 dX11_part_4 rfl rfl ?_
    refine V_iconst (pc := 5) (v := 1) h dX11_part_5 (by decide) ?_
    refine V_iload_n (pc := 6) h 2 dX11_part_6 rfl rfl ?_
    refine V_callVI (pc := 7) (dy := dr) (q := (RX11, TX11, 59)) h [.int (1 : Int32), .int v2] [] 0 mv_X11_214 oM_0 rfl dX11_part_7 rfl rfl (Nat.le_of_ble_eq_true rfl) hdr (rec 3 (1 : Int32) v2 S) (fun z9 hz9 => hrec.2.2.2.1 (1 : Int32) v2 S z9 hz9) (fun x4 S3 => ?_)
    refine V_goto (pc := 10) h 17 dX11_part_10 (by decide) ?_
    exact V_ls [0] rfl (m_part_b17_ok h hr hlk hD rec hrec hdr x4 S3)
end GEN
