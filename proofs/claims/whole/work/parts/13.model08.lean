section GEN
variable {p : Program} {l : Launch} {e : Env} {s : State} {m : MethodId} {args : Array Value} {below : List Frame} {meth : Method} {c : Code}
variable {D : va_G} {ca : Nat → ClassId} {tp : List ODt} {a : Nat → Nat} {A : Nat → Prop} {s0 : State} {args0 : Array Value} {t : Nat}
def m_lasts (v1 : Int32) (S : St) : Option (Int32 × St) := (bnd (up2 S 0 0 (0 : Int32)) (fun S1 => (bI (m_isHouse v1 S1) (fun x3 S2 => (if x3 = 0 then (some ((-1 : Int32), S2)) else (ckM v1 6 (if (S2 12 v1.toNatClampNeg) = (9 : Int32) then (some ((-1 : Int32), S2)) else (ckM v1 6 (bnd (((8 : Int32) * v1) + (S2 12 v1.toNatClampNeg)) (fun x4 => (ckM x4 48 (ckM (0 : Int32) 3 (dvM (S2 9 (0 : Int32).toNatClampNeg) (bnd ((S2 7 x4.toNatClampNeg) / (S2 9 (0 : Int32).toNatClampNeg)) (fun x5 => (ckM ((S2 0 24) - (1 : Int32)) 6 (if (S2 11 ((S2 0 24) - (1 : Int32)).toNatClampNeg) = v1 then (if x5 = 0 then (some ((0 : Int32), S2)) else (some ((99 : Int32), S2))) else (some ((imin (99 : Int32) x5), S2)))))))))))))))))))
set_option maxHeartbeats 4000000 in
set_option maxRecDepth 100000 in
theorem m_lasts_ok {d : Nat} (h : Cx p s m c cX11_lasts 3 RX11 s0 args0 D ca a A) (hr : meth.sig.returnType = some .int) (hlk : meth.locks = false) (hD : 2 ≤ d) (v1 : Int32) (S : St) : VV p l e (rmd d) s m args below meth c D ca tpM a A 3 (QmI D ca tpM a A below args s) S [(0, .ref (a 0)), (1, .int v1)] 0 [] (m_lasts v1 S) := by
  unfold m_lasts
  refine V_aload_n (pc := 0) h 0 dX11_lasts_0 rfl rfl ?_
  refine V_iconst (pc := 1) (v := 0) h dX11_lasts_1 (by decide) ?_
  refine V_put (pc := 2) h 0 0 (0 : Int32) fp_X11_119_X11 oM_0 rfl rfl rfl rfl dX11_lasts_2 (fun S1 => ?_)
  refine V_aload_n (pc := 5) h 0 dX11_lasts_5 rfl rfl ?_
  refine V_iload_n (pc := 6) h 1 dX11_lasts_6 rfl rfl ?_
  refine V_callVI (pc := 7) (dy := 1) (q := (RX11, TX11, 59)) h [.int v1] [] 0 mv_X11_301 oM_0 rfl dX11_lasts_7 rfl rfl (Nat.le_of_ble_eq_true rfl) (Nat.le_trans (by decide) hD) (m_isHouse v1 S1) (fun z9 hz9 => m_isHouse_ct h.gg (Nat.le_refl 1) v1 S1 z9 hz9) (fun x3 S2 => ?_)
  refine V_if_eq (pc := 10) h 24 dX11_lasts_10 (by decide) ?_ ?_
  · refine V_iconst (pc := 24) (v := -1) h dX11_lasts_24 (by decide) ?_
    exact V_iret (pc := 25) h hr hlk dX11_lasts_25
  · refine V_aload_n (pc := 13) h 0 dX11_lasts_13 rfl rfl ?_
    refine V_get (pc := 14) h 0 29 (.ref (a 12)) fl_X11_58_X11 oM_0 rfl rfl dX11_lasts_14 ?_
    refine V_iload_n (pc := 17) h 1 dX11_lasts_17 rfl rfl ?_
    refine V_iald (pc := 18) h 12 oM_12 dX11_lasts_18 ?_
    refine V_bipush (pc := 19) (v := 9) h dX11_lasts_19 (by decide) ?_
    refine V_icmp_ne (pc := 21) h 26 dX11_lasts_21 (by decide) ?_ ?_
    · refine V_aload_n (pc := 26) h 0 dX11_lasts_26 rfl rfl ?_
      refine V_get (pc := 27) h 0 20 (.ref (a 7)) fl_X11_43_X11 oM_0 rfl rfl dX11_lasts_27 ?_
      refine V_bipush (pc := 30) (v := 8) h dX11_lasts_30 (by decide) ?_
      refine V_iload_n (pc := 32) h 1 dX11_lasts_32 rfl rfl ?_
      refine V_imul (pc := 33) h dX11_lasts_33 ?_
      refine V_aload_n (pc := 34) h 0 dX11_lasts_34 rfl rfl ?_
      refine V_get (pc := 35) h 0 29 (.ref (a 12)) fl_X11_58_X11 oM_0 rfl rfl dX11_lasts_35 ?_
      refine V_iload_n (pc := 38) h 1 dX11_lasts_38 rfl rfl ?_
      refine V_iald (pc := 39) h 12 oM_12 dX11_lasts_39 ?_
      refine V_iadd (pc := 40) h dX11_lasts_40 ?_
      refine V_top (fun x4 => ?_)
      refine V_iald (pc := 41) h 7 oM_7 dX11_lasts_41 ?_
      refine V_aload_n (pc := 42) h 0 dX11_lasts_42 rfl rfl ?_
      refine V_get (pc := 43) h 0 22 (.ref (a 9)) fl_X11_49_X11 oM_0 rfl rfl dX11_lasts_43 ?_
      refine V_iconst (pc := 46) (v := 0) h dX11_lasts_46 (by decide) ?_
      refine V_iald (pc := 47) h 9 oM_9 dX11_lasts_47 ?_
      refine V_idiv (pc := 48) h dX11_lasts_48 ?_
      refine V_top (fun x5 => ?_)
      refine V_istore_n (pc := 49) h [(2, .int x5), (0, .ref (a 0)), (1, .int v1)] dX11_lasts_49 rfl (by decide) rfl ?_
      refine V_aload_n (pc := 50) h 1 dX11_lasts_50 rfl rfl ?_
      refine V_get (pc := 51) h 0 28 (.ref (a 11)) fl_X11_55_X11 oM_0 rfl rfl dX11_lasts_51 ?_
      refine V_aload_n (pc := 54) h 1 dX11_lasts_54 rfl rfl ?_
      refine V_get (pc := 55) h 0 24 (.int (S2 0 24)) fl_X11_289_X11 oM_0 rfl rfl dX11_lasts_55 ?_
      refine V_iconst (pc := 58) (v := 1) h dX11_lasts_58 (by decide) ?_
      refine V_isub (pc := 59) h dX11_lasts_59 ?_
      refine V_iald (pc := 60) h 11 oM_11 dX11_lasts_60 ?_
      refine V_iload_n (pc := 61) h 2 dX11_lasts_61 rfl rfl ?_
      refine V_icmp_ne (pc := 62) h 76 dX11_lasts_62 (by decide) ?_ ?_
      · refine V_bipush (pc := 76) (v := 99) h dX11_lasts_76 (by decide) ?_
        refine V_iload_n (pc := 78) h 0 dX11_lasts_78 rfl rfl ?_
        refine V_mmin (pc := 79) h dX11_lasts_79 tw_7_90 tw_2_227 tw_1_16 tw_2_228 (Nat.le_trans (by decide) hD) (Nat.le_of_ble_eq_true rfl) ?_
        exact V_iret (pc := 82) h hr hlk dX11_lasts_82
      · refine V_iload_n (pc := 65) h 0 dX11_lasts_65 rfl rfl ?_
        refine V_if_ne (pc := 66) h 73 dX11_lasts_66 (by decide) ?_ ?_
        · refine V_bipush (pc := 73) (v := 99) h dX11_lasts_73 (by decide) ?_
          exact V_iret (pc := 75) h hr hlk dX11_lasts_75
        · refine V_iconst (pc := 69) (v := 0) h dX11_lasts_69 (by decide) ?_
          refine V_goto (pc := 70) h 75 dX11_lasts_70 (by decide) ?_
          exact V_iret (pc := 75) h hr hlk dX11_lasts_75
    · refine V_iconst (pc := 24) (v := -1) h dX11_lasts_24 (by decide) ?_
      exact V_iret (pc := 25) h hr hlk dX11_lasts_25
theorem m_lasts_ct {d : Nat} (g : GG s0 args0 D ca a A) (hD : 2 ≤ d) (v1 : Int32) (S : St) (z : Int32 × St) (hz : m_lasts v1 S = some z) : CtI l yX11_lasts cX11_lasts 3 .int d s0 D ca tpM a A [.ref (a 0), .int v1] S z := CtI_mk g (by decide +kernel) (Nat.le_of_ble_eq_true rfl) hz (fun p e s m args below meth c h hr hlk => m_lasts_ok h hr hlk hD v1 S)
def m_image_h42 : Nat → Int32 → St → Option (Int32 × St)
  | 0, _, _ => none
  | n + 1, v1, S => (if (6 : Int32) ≤ v1 then (bnd (up2 S 0 57 (S 0 32)) (fun S1 => (bnd (up2 S1 0 58 (1 : Int32)) (fun S2 => (some ((S2 0 32), S2)))))) else (ckM v1 6 (ckM v1 6 (bnd (up2 S 26 v1.toNatClampNeg (S 13 v1.toNatClampNeg)) (fun S3 => (ckM v1 6 (ckM v1 6 (bnd (up2 S3 27 v1.toNatClampNeg (S3 11 v1.toNatClampNeg)) (fun S4 => (ckM v1 6 (ckM v1 6 (bnd (up2 S4 28 v1.toNatClampNeg (S4 12 v1.toNatClampNeg)) (fun S5 => (bnd (v1 + (1 : Int32)) (fun x6 => ((m_image_h42 n) x6 S5))))))))))))))))
set_option maxHeartbeats 4000000 in
set_option maxRecDepth 100000 in
theorem m_image_h42_ok {d : Nat} (h : Cx p s m c cX11_image 2 RX11 s0 args0 D ca a A) (hr : meth.sig.returnType = some .int) (hlk : meth.locks = false) (hD : 1 ≤ d) : ∀ (n : Nat) (v1 : Int32) (S : St), VV p l e (rmd d) s m args below meth c D ca tpM a A 2 (QmI D ca tpM a A below args s) S [(0, .ref (a 0)), (1, .int v1)] 42 [] (m_image_h42 n v1 S) := by
  intro n
  induction n with
  | zero => intro v1 S; exact V_none
  | succ n ih =>
    intro v1 S
    unfold m_image_h42
    refine V_iload_n (pc := 42) h 1 dX11_image_42 rfl rfl ?_
    refine V_bipush (pc := 43) (v := 6) h dX11_image_43 (by decide) ?_
    refine V_icmp_ge (pc := 45) h 90 dX11_image_45 (by decide) ?_ ?_
    · refine V_aload_n (pc := 90) h 0 dX11_image_90 rfl rfl ?_
      refine V_aload_n (pc := 91) h 0 dX11_image_91 rfl rfl ?_
      refine V_get (pc := 92) h 0 32 (.int (S 0 32)) fl_X11_292_X11 oM_0 rfl rfl dX11_image_92 ?_
      refine V_put (pc := 95) h 0 57 (S 0 32) fp_X11_394_X11 oM_0 rfl rfl rfl rfl dX11_image_95 (fun S1 => ?_)
      refine V_aload_n (pc := 98) h 0 dX11_image_98 rfl rfl ?_
      refine V_iconst (pc := 99) (v := 1) h dX11_image_99 (by decide) ?_
      refine V_put (pc := 100) h 0 58 (1 : Int32) fp_X11_298_X11 oM_0 rfl rfl rfl rfl dX11_image_100 (fun S2 => ?_)
      refine V_aload_n (pc := 103) h 0 dX11_image_103 rfl rfl ?_
      refine V_get (pc := 104) h 0 32 (.int (S2 0 32)) fl_X11_292_X11 oM_0 rfl rfl dX11_image_104 ?_
      exact V_iret (pc := 107) h hr hlk dX11_image_107
    · refine V_aload_n (pc := 48) h 0 dX11_image_48 rfl rfl ?_
      refine V_get (pc := 49) h 0 54 (.ref (a 26)) fl_X11_110_X11 oM_0 rfl rfl dX11_image_49 ?_
      refine V_iload_n (pc := 52) h 1 dX11_image_52 rfl rfl ?_
      refine V_aload_n (pc := 53) h 0 dX11_image_53 rfl rfl ?_
      refine V_get (pc := 54) h 0 30 (.ref (a 13)) fl_X11_61_X11 oM_0 rfl rfl dX11_image_54 ?_
      refine V_iload_n (pc := 57) h 1 dX11_image_57 rfl rfl ?_
      refine V_iald (pc := 58) h 13 oM_13 dX11_image_58 ?_
      refine V_iast (pc := 59) h 26 oM_26 dX11_image_59 (fun S3 => ?_)
      refine V_aload_n (pc := 60) h 0 dX11_image_60 rfl rfl ?_
      refine V_get (pc := 61) h 0 55 (.ref (a 27)) fl_X11_113_X11 oM_0 rfl rfl dX11_image_61 ?_
      refine V_iload_n (pc := 64) h 1 dX11_image_64 rfl rfl ?_
      refine V_aload_n (pc := 65) h 0 dX11_image_65 rfl rfl ?_
      refine V_get (pc := 66) h 0 28 (.ref (a 11)) fl_X11_55_X11 oM_0 rfl rfl dX11_image_66 ?_
      refine V_iload_n (pc := 69) h 1 dX11_image_69 rfl rfl ?_
      refine V_iald (pc := 70) h 11 oM_11 dX11_image_70 ?_
      refine V_iast (pc := 71) h 27 oM_27 dX11_image_71 (fun S4 => ?_)
      refine V_aload_n (pc := 72) h 0 dX11_image_72 rfl rfl ?_
      refine V_get (pc := 73) h 0 56 (.ref (a 28)) fl_X11_116_X11 oM_0 rfl rfl dX11_image_73 ?_
      refine V_iload_n (pc := 76) h 1 dX11_image_76 rfl rfl ?_
      refine V_aload_n (pc := 77) h 0 dX11_image_77 rfl rfl ?_
      refine V_get (pc := 78) h 0 29 (.ref (a 12)) fl_X11_58_X11 oM_0 rfl rfl dX11_image_78 ?_
      refine V_iload_n (pc := 81) h 1 dX11_image_81 rfl rfl ?_
      refine V_iald (pc := 82) h 12 oM_12 dX11_image_82 ?_
      refine V_iast (pc := 83) h 28 oM_28 dX11_image_83 (fun S5 => ?_)
      refine V_iincB (pc := 84) h 1 (1 : Int32) (fun x6 => [(1, .int x6), (0, .ref (a 0))]) dX11_image_84 rfl (by decide) (by decide) (fun _ => rfl) (fun x6 => ?_)
      refine V_goto (pc := 87) h 42 dX11_image_87 (by decide) ?_
      exact V_ls [1, 0] rfl (ih x6 S5)
def m_image_h16 : Nat → Int32 → St → Option (Int32 × St)
  | 0, _, _ => none
  | n + 1, v1, S => (if (48 : Int32) ≤ v1 then (m_image_h42 FU (0 : Int32) S) else (ckM v1 48 (ckM v1 48 (bnd (up2 S 25 v1.toNatClampNeg (S 7 v1.toNatClampNeg)) (fun S1 => (bnd (v1 + (1 : Int32)) (fun x2 => ((m_image_h16 n) x2 S1))))))))
set_option maxHeartbeats 4000000 in
set_option maxRecDepth 100000 in
theorem m_image_h16_ok {d : Nat} (h : Cx p s m c cX11_image 2 RX11 s0 args0 D ca a A) (hr : meth.sig.returnType = some .int) (hlk : meth.locks = false) (hD : 1 ≤ d) : ∀ (n : Nat) (v1 : Int32) (S : St), VV p l e (rmd d) s m args below meth c D ca tpM a A 2 (QmI D ca tpM a A below args s) S [(0, .ref (a 0)), (1, .int v1)] 16 [] (m_image_h16 n v1 S) := by
  intro n
  induction n with
  | zero => intro v1 S; exact V_none
  | succ n ih =>
    intro v1 S
    unfold m_image_h16
    refine V_iload_n (pc := 16) h 1 dX11_image_16 rfl rfl ?_
    refine V_bipush (pc := 17) (v := 48) h dX11_image_17 (by decide) ?_
    refine V_icmp_ge (pc := 19) h 40 dX11_image_19 (by decide) ?_ ?_
    · refine V_iconst (pc := 40) (v := 0) h dX11_image_40 (by decide) ?_
      refine V_istore_n (pc := 41) h [(1, .int (0 : Int32)), (0, .ref (a 0))] dX11_image_41 rfl (by decide) rfl ?_
      exact V_ls [1, 0] rfl (m_image_h42_ok h hr hlk hD FU (0 : Int32) S)
    · refine V_aload_n (pc := 22) h 0 dX11_image_22 rfl rfl ?_
      refine V_get (pc := 23) h 0 53 (.ref (a 25)) fl_X11_107_X11 oM_0 rfl rfl dX11_image_23 ?_
      refine V_iload_n (pc := 26) h 1 dX11_image_26 rfl rfl ?_
      refine V_aload_n (pc := 27) h 0 dX11_image_27 rfl rfl ?_
      refine V_get (pc := 28) h 0 20 (.ref (a 7)) fl_X11_43_X11 oM_0 rfl rfl dX11_image_28 ?_
      refine V_iload_n (pc := 31) h 1 dX11_image_31 rfl rfl ?_
      refine V_iald (pc := 32) h 7 oM_7 dX11_image_32 ?_
      refine V_iast (pc := 33) h 25 oM_25 dX11_image_33 (fun S1 => ?_)
      refine V_iincB (pc := 34) h 1 (1 : Int32) (fun x2 => [(1, .int x2), (0, .ref (a 0))]) dX11_image_34 rfl (by decide) (by decide) (fun _ => rfl) (fun x2 => ?_)
      refine V_goto (pc := 37) h 16 dX11_image_37 (by decide) ?_
      exact V_ls [1, 0] rfl (ih x2 S1)
def m_image (S : St) : Option (Int32 × St) := (bnd (up2 S 0 0 (0 : Int32)) (fun S1 => (if (S1 0 24) = 0 then (some ((-1 : Int32), S1)) else (m_image_h16 FU (0 : Int32) S1))))
set_option maxHeartbeats 4000000 in
set_option maxRecDepth 100000 in
theorem m_image_ok {d : Nat} (h : Cx p s m c cX11_image 2 RX11 s0 args0 D ca a A) (hr : meth.sig.returnType = some .int) (hlk : meth.locks = false) (hD : 1 ≤ d) (S : St) : VV p l e (rmd d) s m args below meth c D ca tpM a A 2 (QmI D ca tpM a A below args s) S [(0, .ref (a 0))] 0 [] (m_image S) := by
  unfold m_image
  refine V_aload_n (pc := 0) h 0 dX11_image_0 rfl rfl ?_
  refine V_iconst (pc := 1) (v := 0) h dX11_image_1 (by decide) ?_
  refine V_put (pc := 2) h 0 0 (0 : Int32) fp_X11_119_X11 oM_0 rfl rfl rfl rfl dX11_image_2 (fun S1 => ?_)
  refine V_aload_n (pc := 5) h 0 dX11_image_5 rfl rfl ?_
  refine V_get (pc := 6) h 0 24 (.int (S1 0 24)) fl_X11_289_X11 oM_0 rfl rfl dX11_image_6 ?_
  refine V_if_ne (pc := 9) h 14 dX11_image_9 (by decide) ?_ ?_
  · refine V_iconst (pc := 14) (v := 0) h dX11_image_14 (by decide) ?_
    refine V_istore_n (pc := 15) h [(1, .int (0 : Int32)), (0, .ref (a 0))] dX11_image_15 rfl (by decide) rfl ?_
    exact V_ls [1, 0] rfl (m_image_h16_ok h hr hlk hD FU (0 : Int32) S1)
  · refine V_iconst (pc := 12) (v := -1) h dX11_image_12 (by decide) ?_
    exact V_iret (pc := 13) h hr hlk dX11_image_13
theorem m_image_ct {d : Nat} (g : GG s0 args0 D ca a A) (hD : 1 ≤ d) (S : St) (z : Int32 × St) (hz : m_image S = some z) : CtI l yX11_image cX11_image 2 .int d s0 D ca tpM a A [.ref (a 0)] S z := CtI_mk g (by decide +kernel) (Nat.le_of_ble_eq_true rfl) hz (fun p e s m args below meth c h hr hlk => m_image_ok h hr hlk hD S)
def m_back_h42 : Nat → Int32 → St → Option (Int32 × St)
  | 0, _, _ => none
  | n + 1, v1, S => (if (6 : Int32) ≤ v1 then (bnd (up2 S 0 32 (S 0 57)) (fun S1 => (bnd (up2 S1 0 46 (0 : Int32)) (fun S2 => (some ((S2 0 32), S2)))))) else (ckM v1 6 (ckM v1 6 (bnd (up2 S 13 v1.toNatClampNeg (S 26 v1.toNatClampNeg)) (fun S3 => (ckM v1 6 (ckM v1 6 (bnd (up2 S3 11 v1.toNatClampNeg (S3 27 v1.toNatClampNeg)) (fun S4 => (ckM v1 6 (ckM v1 6 (bnd (up2 S4 12 v1.toNatClampNeg (S4 28 v1.toNatClampNeg)) (fun S5 => (bnd (v1 + (1 : Int32)) (fun x6 => ((m_back_h42 n) x6 S5))))))))))))))))
set_option maxHeartbeats 4000000 in
set_option maxRecDepth 100000 in
theorem m_back_h42_ok {d : Nat} (h : Cx p s m c cX11_back 2 RX11 s0 args0 D ca a A) (hr : meth.sig.returnType = some .int) (hlk : meth.locks = false) (hD : 1 ≤ d) : ∀ (n : Nat) (v1 : Int32) (S : St), VV p l e (rmd d) s m args below meth c D ca tpM a A 2 (QmI D ca tpM a A below args s) S [(0, .ref (a 0)), (1, .int v1)] 42 [] (m_back_h42 n v1 S) := by
  intro n
  induction n with
  | zero => intro v1 S; exact V_none
  | succ n ih =>
    intro v1 S
    unfold m_back_h42
    refine V_iload_n (pc := 42) h 1 dX11_back_42 rfl rfl ?_
    refine V_bipush (pc := 43) (v := 6) h dX11_back_43 (by decide) ?_
    refine V_icmp_ge (pc := 45) h 90 dX11_back_45 (by decide) ?_ ?_
    · refine V_aload_n (pc := 90) h 0 dX11_back_90 rfl rfl ?_
      refine V_aload_n (pc := 91) h 0 dX11_back_91 rfl rfl ?_
      refine V_get (pc := 92) h 0 57 (.int (S 0 57)) fl_X11_394_X11 oM_0 rfl rfl dX11_back_92 ?_
      refine V_put (pc := 95) h 0 32 (S 0 57) fp_X11_292_X11 oM_0 rfl rfl rfl rfl dX11_back_95 (fun S1 => ?_)
      refine V_aload_n (pc := 98) h 0 dX11_back_98 rfl rfl ?_
      refine V_iconst (pc := 99) (v := 0) h dX11_back_99 (by decide) ?_
      refine V_put (pc := 100) h 0 46 (0 : Int32) fp_X11_295_X11 oM_0 rfl rfl rfl rfl dX11_back_100 (fun S2 => ?_)
      refine V_aload_n (pc := 103) h 0 dX11_back_103 rfl rfl ?_
      refine V_get (pc := 104) h 0 32 (.int (S2 0 32)) fl_X11_292_X11 oM_0 rfl rfl dX11_back_104 ?_
      exact V_iret (pc := 107) h hr hlk dX11_back_107
    · refine V_aload_n (pc := 48) h 0 dX11_back_48 rfl rfl ?_
      refine V_get (pc := 49) h 0 30 (.ref (a 13)) fl_X11_61_X11 oM_0 rfl rfl dX11_back_49 ?_
      refine V_iload_n (pc := 52) h 1 dX11_back_52 rfl rfl ?_
      refine V_aload_n (pc := 53) h 0 dX11_back_53 rfl rfl ?_
      refine V_get (pc := 54) h 0 54 (.ref (a 26)) fl_X11_110_X11 oM_0 rfl rfl dX11_back_54 ?_
      refine V_iload_n (pc := 57) h 1 dX11_back_57 rfl rfl ?_
      refine V_iald (pc := 58) h 26 oM_26 dX11_back_58 ?_
      refine V_iast (pc := 59) h 13 oM_13 dX11_back_59 (fun S3 => ?_)
      refine V_aload_n (pc := 60) h 0 dX11_back_60 rfl rfl ?_
      refine V_get (pc := 61) h 0 28 (.ref (a 11)) fl_X11_55_X11 oM_0 rfl rfl dX11_back_61 ?_
      refine V_iload_n (pc := 64) h 1 dX11_back_64 rfl rfl ?_
      refine V_aload_n (pc := 65) h 0 dX11_back_65 rfl rfl ?_
      refine V_get (pc := 66) h 0 55 (.ref (a 27)) fl_X11_113_X11 oM_0 rfl rfl dX11_back_66 ?_
      refine V_iload_n (pc := 69) h 1 dX11_back_69 rfl rfl ?_
      refine V_iald (pc := 70) h 27 oM_27 dX11_back_70 ?_
      refine V_iast (pc := 71) h 11 oM_11 dX11_back_71 (fun S4 => ?_)
      refine V_aload_n (pc := 72) h 0 dX11_back_72 rfl rfl ?_
      refine V_get (pc := 73) h 0 29 (.ref (a 12)) fl_X11_58_X11 oM_0 rfl rfl dX11_back_73 ?_
      refine V_iload_n (pc := 76) h 1 dX11_back_76 rfl rfl ?_
      refine V_aload_n (pc := 77) h 0 dX11_back_77 rfl rfl ?_
      refine V_get (pc := 78) h 0 56 (.ref (a 28)) fl_X11_116_X11 oM_0 rfl rfl dX11_back_78 ?_
      refine V_iload_n (pc := 81) h 1 dX11_back_81 rfl rfl ?_
      refine V_iald (pc := 82) h 28 oM_28 dX11_back_82 ?_
      refine V_iast (pc := 83) h 12 oM_12 dX11_back_83 (fun S5 => ?_)
      refine V_iincB (pc := 84) h 1 (1 : Int32) (fun x6 => [(1, .int x6), (0, .ref (a 0))]) dX11_back_84 rfl (by decide) (by decide) (fun _ => rfl) (fun x6 => ?_)
      refine V_goto (pc := 87) h 42 dX11_back_87 (by decide) ?_
      exact V_ls [1, 0] rfl (ih x6 S5)
def m_back_h16 : Nat → Int32 → St → Option (Int32 × St)
  | 0, _, _ => none
  | n + 1, v1, S => (if (48 : Int32) ≤ v1 then (m_back_h42 FU (0 : Int32) S) else (ckM v1 48 (ckM v1 48 (bnd (up2 S 7 v1.toNatClampNeg (S 25 v1.toNatClampNeg)) (fun S1 => (bnd (v1 + (1 : Int32)) (fun x2 => ((m_back_h16 n) x2 S1))))))))
set_option maxHeartbeats 4000000 in
set_option maxRecDepth 100000 in
theorem m_back_h16_ok {d : Nat} (h : Cx p s m c cX11_back 2 RX11 s0 args0 D ca a A) (hr : meth.sig.returnType = some .int) (hlk : meth.locks = false) (hD : 1 ≤ d) : ∀ (n : Nat) (v1 : Int32) (S : St), VV p l e (rmd d) s m args below meth c D ca tpM a A 2 (QmI D ca tpM a A below args s) S [(0, .ref (a 0)), (1, .int v1)] 16 [] (m_back_h16 n v1 S) := by
  intro n
  induction n with
  | zero => intro v1 S; exact V_none
  | succ n ih =>
    intro v1 S
    unfold m_back_h16
    refine V_iload_n (pc := 16) h 1 dX11_back_16 rfl rfl ?_
    refine V_bipush (pc := 17) (v := 48) h dX11_back_17 (by decide) ?_
    refine V_icmp_ge (pc := 19) h 40 dX11_back_19 (by decide) ?_ ?_
    · refine V_iconst (pc := 40) (v := 0) h dX11_back_40 (by decide) ?_
      refine V_istore_n (pc := 41) h [(1, .int (0 : Int32)), (0, .ref (a 0))] dX11_back_41 rfl (by decide) rfl ?_
      exact V_ls [1, 0] rfl (m_back_h42_ok h hr hlk hD FU (0 : Int32) S)
    · refine V_aload_n (pc := 22) h 0 dX11_back_22 rfl rfl ?_
      refine V_get (pc := 23) h 0 20 (.ref (a 7)) fl_X11_43_X11 oM_0 rfl rfl dX11_back_23 ?_
      refine V_iload_n (pc := 26) h 1 dX11_back_26 rfl rfl ?_
      refine V_aload_n (pc := 27) h 0 dX11_back_27 rfl rfl ?_
      refine V_get (pc := 28) h 0 53 (.ref (a 25)) fl_X11_107_X11 oM_0 rfl rfl dX11_back_28 ?_
      refine V_iload_n (pc := 31) h 1 dX11_back_31 rfl rfl ?_
      refine V_iald (pc := 32) h 25 oM_25 dX11_back_32 ?_
      refine V_iast (pc := 33) h 7 oM_7 dX11_back_33 (fun S1 => ?_)
      refine V_iincB (pc := 34) h 1 (1 : Int32) (fun x2 => [(1, .int x2), (0, .ref (a 0))]) dX11_back_34 rfl (by decide) (by decide) (fun _ => rfl) (fun x2 => ?_)
      refine V_goto (pc := 37) h 16 dX11_back_37 (by decide) ?_
      exact V_ls [1, 0] rfl (ih x2 S1)
def m_back (S : St) : Option (Int32 × St) := (bnd (up2 S 0 0 (0 : Int32)) (fun S1 => (if (S1 0 58) = 0 then (some ((-1 : Int32), S1)) else (m_back_h16 FU (0 : Int32) S1))))
set_option maxHeartbeats 4000000 in
set_option maxRecDepth 100000 in
theorem m_back_ok {d : Nat} (h : Cx p s m c cX11_back 2 RX11 s0 args0 D ca a A) (hr : meth.sig.returnType = some .int) (hlk : meth.locks = false) (hD : 1 ≤ d) (S : St) : VV p l e (rmd d) s m args below meth c D ca tpM a A 2 (QmI D ca tpM a A below args s) S [(0, .ref (a 0))] 0 [] (m_back S) := by
  unfold m_back
  refine V_aload_n (pc := 0) h 0 dX11_back_0 rfl rfl ?_
  refine V_iconst (pc := 1) (v := 0) h dX11_back_1 (by decide) ?_
  refine V_put (pc := 2) h 0 0 (0 : Int32) fp_X11_119_X11 oM_0 rfl rfl rfl rfl dX11_back_2 (fun S1 => ?_)
  refine V_aload_n (pc := 5) h 0 dX11_back_5 rfl rfl ?_
  refine V_get (pc := 6) h 0 58 (.int (S1 0 58)) fl_X11_298_X11 oM_0 rfl rfl dX11_back_6 ?_
  refine V_if_ne (pc := 9) h 14 dX11_back_9 (by decide) ?_ ?_
  · refine V_iconst (pc := 14) (v := 0) h dX11_back_14 (by decide) ?_
    refine V_istore_n (pc := 15) h [(1, .int (0 : Int32)), (0, .ref (a 0))] dX11_back_15 rfl (by decide) rfl ?_
    exact V_ls [1, 0] rfl (m_back_h16_ok h hr hlk hD FU (0 : Int32) S1)
  · refine V_iconst (pc := 12) (v := -1) h dX11_back_12 (by decide) ?_
    exact V_iret (pc := 13) h hr hlk dX11_back_13
theorem m_back_ct {d : Nat} (g : GG s0 args0 D ca a A) (hD : 1 ≤ d) (S : St) (z : Int32 × St) (hz : m_back S = some z) : CtI l yX11_back cX11_back 2 .int d s0 D ca tpM a A [.ref (a 0)] S z := CtI_mk g (by decide +kernel) (Nat.le_of_ble_eq_true rfl) hz (fun p e s m args below meth c h hr hlk => m_back_ok h hr hlk hD S)
def m_digitsOf_h4 (o1 : Nat) : Nat → Int32 → Int32 → St → Option (Int32 × St)
  | 0, _, _, _ => none
  | n + 1, v2, v3, S => (if (S 0 24) ≤ v3 then (some (v2, S)) else (ckM v3 6 (bnd (((10 : Int32) * v2) + (S o1 v3.toNatClampNeg)) (fun x1 => (bnd (v3 + (1 : Int32)) (fun x2 => ((m_digitsOf_h4 o1 n) x1 x2 S)))))))
set_option maxHeartbeats 4000000 in
set_option maxRecDepth 100000 in
theorem m_digitsOf_h4_ok {d : Nat} (h : Cx p s m c cX11_digitsOf 4 RX11 s0 args0 D ca a A) (hr : meth.sig.returnType = some .int) (hlk : meth.locks = false) (hD : 1 ≤ d) (o1 : Nat) (ho1 : tpM[o1]? = some (.inr (0, 6, 0))) : ∀ (n : Nat) (v2 : Int32) (v3 : Int32) (S : St), VV p l e (rmd d) s m args below meth c D ca tpM a A 4 (QmI D ca tpM a A below args s) S [(0, .ref (a 0)), (1, .ref (a o1)), (2, .int v2), (3, .int v3)] 4 [] (m_digitsOf_h4 o1 n v2 v3 S) := by
  intro n
  induction n with
  | zero => intro v2 v3 S; exact V_none
  | succ n ih =>
    intro v2 v3 S
    unfold m_digitsOf_h4
    refine V_iload_n (pc := 4) h 3 dX11_digitsOf_4 rfl rfl ?_
    refine V_aload_n (pc := 5) h 0 dX11_digitsOf_5 rfl rfl ?_
    refine V_get (pc := 6) h 0 24 (.int (S 0 24)) fl_X11_289_X11 oM_0 rfl rfl dX11_digitsOf_6 ?_
    refine V_icmp_ge (pc := 9) h 27 dX11_digitsOf_9 (by decide) ?_ ?_
    · refine V_iload_n (pc := 27) h 2 dX11_digitsOf_27 rfl rfl ?_
      exact V_iret (pc := 28) h hr hlk dX11_digitsOf_28
    · refine V_bipush (pc := 12) (v := 10) h dX11_digitsOf_12 (by decide) ?_
      refine V_iload_n (pc := 14) h 2 dX11_digitsOf_14 rfl rfl ?_
      refine V_imul (pc := 15) h dX11_digitsOf_15 ?_
      refine V_aload_n (pc := 16) h 1 dX11_digitsOf_16 rfl rfl ?_
      refine V_iload_n (pc := 17) h 3 dX11_digitsOf_17 rfl rfl ?_
      refine V_iald (pc := 18) h o1 ho1 dX11_digitsOf_18 ?_
      refine V_iadd (pc := 19) h dX11_digitsOf_19 ?_
      refine V_top (fun x1 => ?_)
      refine V_istore_n (pc := 20) h [(2, .int x1), (0, .ref (a 0)), (1, .ref (a o1)), (3, .int v3)] dX11_digitsOf_20 rfl (by decide) rfl ?_
      refine V_iincB (pc := 21) h 3 (1 : Int32) (fun x2 => [(3, .int x2), (2, .int x1), (0, .ref (a 0)), (1, .ref (a o1))]) dX11_digitsOf_21 rfl (by decide) (by decide) (fun _ => rfl) (fun x2 => ?_)
      refine V_goto (pc := 24) h 4 dX11_digitsOf_24 (by decide) ?_
      exact V_ls [2, 3, 1, 0] rfl (ih x1 x2 S)
def m_digitsOf (o1 : Nat) (S : St) : Option (Int32 × St) := (m_digitsOf_h4 o1 FU (0 : Int32) (0 : Int32) S)
set_option maxHeartbeats 4000000 in
set_option maxRecDepth 100000 in
theorem m_digitsOf_ok {d : Nat} (h : Cx p s m c cX11_digitsOf 4 RX11 s0 args0 D ca a A) (hr : meth.sig.returnType = some .int) (hlk : meth.locks = false) (hD : 1 ≤ d) (o1 : Nat) (ho1 : tpM[o1]? = some (.inr (0, 6, 0))) (S : St) : VV p l e (rmd d) s m args below meth c D ca tpM a A 4 (QmI D ca tpM a A below args s) S [(0, .ref (a 0)), (1, .ref (a o1))] 0 [] (m_digitsOf o1 S) := by
  unfold m_digitsOf
  refine V_iconst (pc := 0) (v := 0) h dX11_digitsOf_0 (by decide) ?_
  refine V_istore_n (pc := 1) h [(2, .int (0 : Int32)), (0, .ref (a 0)), (1, .ref (a o1))] dX11_digitsOf_1 rfl (by decide) rfl ?_
  refine V_iconst (pc := 2) (v := 0) h dX11_digitsOf_2 (by decide) ?_
  refine V_istore_n (pc := 3) h [(3, .int (0 : Int32)), (2, .int (0 : Int32)), (0, .ref (a 0)), (1, .ref (a o1))] dX11_digitsOf_3 rfl (by decide) rfl ?_
  exact V_ls [2, 3, 1, 0] rfl (m_digitsOf_h4_ok h hr hlk hD o1 ho1 FU (0 : Int32) (0 : Int32) S)
theorem m_digitsOf_ct {d : Nat} (g : GG s0 args0 D ca a A) (hD : 1 ≤ d) {o1 : Nat} (ho1 : tpM[o1]? = some (.inr (0, 6, 0))) (S : St) (z : Int32 × St) (hz : m_digitsOf o1 S = some z) : CtI l yX11_digitsOf cX11_digitsOf 4 .int d s0 D ca tpM a A [.ref (a 0), .ref (a o1)] S z := CtI_mk g (by decide +kernel) (Nat.le_of_ble_eq_true rfl) hz (fun p e s m args below meth c h hr hlk => m_digitsOf_ok h hr hlk hD o1 ho1 S)
def m_count (v1 : Int32) (S : St) : Option (Int32 × St) := (bnd (up2 S 0 0 (0 : Int32)) (fun S1 => (if v1 = (0 : Int32) then (some ((S1 0 24), S1)) else (if v1 = (1 : Int32) then (some ((S1 0 7), S1)) else (if v1 = (2 : Int32) then (some ((S1 0 6), S1)) else (if v1 = (3 : Int32) then (some ((S1 0 32), S1)) else (if v1 = (4 : Int32) then (some ((S1 0 31), S1)) else (if v1 = (5 : Int32) then (if (S1 0 24) = 0 then (some ((0 : Int32), S1)) else (ckM (0 : Int32) 3 (some ((S1 9 (0 : Int32).toNatClampNeg), S1)))) else (if v1 = (6 : Int32) then (if (S1 0 24) = 0 then (some ((0 : Int32), S1)) else (ckM (1 : Int32) 3 (some ((S1 9 (1 : Int32).toNatClampNeg), S1)))) else (if v1 = (7 : Int32) then (if (S1 0 24) = 0 then (some ((0 : Int32), S1)) else (ckM (2 : Int32) 3 (some ((S1 9 (2 : Int32).toNatClampNeg), S1)))) else (if v1 = (8 : Int32) then (some ((S1 0 46), S1)) else (if v1 = (9 : Int32) then (bI (m_digitsOf 11 S1) (fun x23 S22 => (some (x23, S22)))) else (if v1 = (10 : Int32) then (bI (m_digitsOf 12 S1) (fun x27 S26 => (some (x27, S26)))) else (some ((-100000000 : Int32), S1)))))))))))))))
set_option maxHeartbeats 4000000 in
set_option maxRecDepth 100000 in
theorem m_count_ok {d : Nat} (h : Cx p s m c cX11_count 2 RX11 s0 args0 D ca a A) (hr : meth.sig.returnType = some .int) (hlk : meth.locks = false) (hD : 2 ≤ d) (v1 : Int32) (S : St) : VV p l e (rmd d) s m args below meth c D ca tpM a A 2 (QmI D ca tpM a A below args s) S [(0, .ref (a 0)), (1, .int v1)] 0 [] (m_count v1 S) := by
  unfold m_count
  refine V_aload_n (pc := 0) h 0 dX11_count_0 rfl rfl ?_
  refine V_iconst (pc := 1) (v := 0) h dX11_count_1 (by decide) ?_
  refine V_put (pc := 2) h 0 0 (0 : Int32) fp_X11_119_X11 oM_0 rfl rfl rfl rfl dX11_count_2 (fun S1 => ?_)
  refine V_iload_n (pc := 5) h 1 dX11_count_5 rfl rfl ?_
  refine V_split _ (fun c3 => ?_) (fun n2 => ?_)
  · refine V_tswIn (pc := 6) h (0 : Int32) 64 dX11_count_6 c3 (by decide) (by decide) rfl (by decide) ?_
    refine V_aload_n (pc := 64) h 0 dX11_count_64 rfl rfl ?_
    refine V_get (pc := 65) h 0 24 (.int (S1 0 24)) fl_X11_289_X11 oM_0 rfl rfl dX11_count_65 ?_
    exact V_iret (pc := 68) h hr hlk dX11_count_68
  · refine V_split _ (fun c5 => ?_) (fun n4 => ?_)
    · refine V_tswIn (pc := 6) h (1 : Int32) 69 dX11_count_6 c5 (by decide) (by decide) rfl (by decide) ?_
      refine V_aload_n (pc := 69) h 0 dX11_count_69 rfl rfl ?_
      refine V_get (pc := 70) h 0 7 (.int (S1 0 7)) fl_X11_284_X11 oM_0 rfl rfl dX11_count_70 ?_
      exact V_iret (pc := 73) h hr hlk dX11_count_73
    · refine V_split _ (fun c7 => ?_) (fun n6 => ?_)
      · refine V_tswIn (pc := 6) h (2 : Int32) 74 dX11_count_6 c7 (by decide) (by decide) rfl (by decide) ?_
        refine V_aload_n (pc := 74) h 0 dX11_count_74 rfl rfl ?_
        refine V_get (pc := 75) h 0 6 (.int (S1 0 6)) fl_X11_132_X11 oM_0 rfl rfl dX11_count_75 ?_
        exact V_iret (pc := 78) h hr hlk dX11_count_78
      · refine V_split _ (fun c9 => ?_) (fun n8 => ?_)
        · refine V_tswIn (pc := 6) h (3 : Int32) 79 dX11_count_6 c9 (by decide) (by decide) rfl (by decide) ?_
          refine V_aload_n (pc := 79) h 0 dX11_count_79 rfl rfl ?_
          refine V_get (pc := 80) h 0 32 (.int (S1 0 32)) fl_X11_292_X11 oM_0 rfl rfl dX11_count_80 ?_
          exact V_iret (pc := 83) h hr hlk dX11_count_83
        · refine V_split _ (fun c11 => ?_) (fun n10 => ?_)
          · refine V_tswIn (pc := 6) h (4 : Int32) 84 dX11_count_6 c11 (by decide) (by decide) rfl (by decide) ?_
            refine V_aload_n (pc := 84) h 0 dX11_count_84 rfl rfl ?_
            refine V_get (pc := 85) h 0 31 (.int (S1 0 31)) fl_X11_64_X11 oM_0 rfl rfl dX11_count_85 ?_
            exact V_iret (pc := 88) h hr hlk dX11_count_88
          · refine V_split _ (fun c13 => ?_) (fun n12 => ?_)
            · refine V_tswIn (pc := 6) h (5 : Int32) 89 dX11_count_6 c13 (by decide) (by decide) rfl (by decide) ?_
              refine V_aload_n (pc := 89) h 0 dX11_count_89 rfl rfl ?_
              refine V_get (pc := 90) h 0 24 (.int (S1 0 24)) fl_X11_289_X11 oM_0 rfl rfl dX11_count_90 ?_
              refine V_if_ne (pc := 93) h 100 dX11_count_93 (by decide) ?_ ?_
              · refine V_aload_n (pc := 100) h 0 dX11_count_100 rfl rfl ?_
                refine V_get (pc := 101) h 0 22 (.ref (a 9)) fl_X11_49_X11 oM_0 rfl rfl dX11_count_101 ?_
                refine V_iconst (pc := 104) (v := 0) h dX11_count_104 (by decide) ?_
                refine V_iald (pc := 105) h 9 oM_9 dX11_count_105 ?_
                exact V_iret (pc := 106) h hr hlk dX11_count_106
              · refine V_iconst (pc := 96) (v := 0) h dX11_count_96 (by decide) ?_
                refine V_goto (pc := 97) h 106 dX11_count_97 (by decide) ?_
                exact V_iret (pc := 106) h hr hlk dX11_count_106
            · refine V_split _ (fun c15 => ?_) (fun n14 => ?_)
              · refine V_tswIn (pc := 6) h (6 : Int32) 107 dX11_count_6 c15 (by decide) (by decide) rfl (by decide) ?_
                refine V_aload_n (pc := 107) h 0 dX11_count_107 rfl rfl ?_
                refine V_get (pc := 108) h 0 24 (.int (S1 0 24)) fl_X11_289_X11 oM_0 rfl rfl dX11_count_108 ?_
                refine V_if_ne (pc := 111) h 118 dX11_count_111 (by decide) ?_ ?_
                · refine V_aload_n (pc := 118) h 0 dX11_count_118 rfl rfl ?_
                  refine V_get (pc := 119) h 0 22 (.ref (a 9)) fl_X11_49_X11 oM_0 rfl rfl dX11_count_119 ?_
                  refine V_iconst (pc := 122) (v := 1) h dX11_count_122 (by decide) ?_
                  refine V_iald (pc := 123) h 9 oM_9 dX11_count_123 ?_
                  exact V_iret (pc := 124) h hr hlk dX11_count_124
                · refine V_iconst (pc := 114) (v := 0) h dX11_count_114 (by decide) ?_
                  refine V_goto (pc := 115) h 124 dX11_count_115 (by decide) ?_
                  exact V_iret (pc := 124) h hr hlk dX11_count_124
              · refine V_split _ (fun c17 => ?_) (fun n16 => ?_)
                · refine V_tswIn (pc := 6) h (7 : Int32) 125 dX11_count_6 c17 (by decide) (by decide) rfl (by decide) ?_
                  refine V_aload_n (pc := 125) h 0 dX11_count_125 rfl rfl ?_
                  refine V_get (pc := 126) h 0 24 (.int (S1 0 24)) fl_X11_289_X11 oM_0 rfl rfl dX11_count_126 ?_
                  refine V_if_ne (pc := 129) h 136 dX11_count_129 (by decide) ?_ ?_
                  · refine V_aload_n (pc := 136) h 0 dX11_count_136 rfl rfl ?_
                    refine V_get (pc := 137) h 0 22 (.ref (a 9)) fl_X11_49_X11 oM_0 rfl rfl dX11_count_137 ?_
                    refine V_iconst (pc := 140) (v := 2) h dX11_count_140 (by decide) ?_
                    refine V_iald (pc := 141) h 9 oM_9 dX11_count_141 ?_
                    exact V_iret (pc := 142) h hr hlk dX11_count_142
                  · refine V_iconst (pc := 132) (v := 0) h dX11_count_132 (by decide) ?_
                    refine V_goto (pc := 133) h 142 dX11_count_133 (by decide) ?_
                    exact V_iret (pc := 142) h hr hlk dX11_count_142
                · refine V_split _ (fun c19 => ?_) (fun n18 => ?_)
                  · refine V_tswIn (pc := 6) h (8 : Int32) 143 dX11_count_6 c19 (by decide) (by decide) rfl (by decide) ?_
                    refine V_aload_n (pc := 143) h 0 dX11_count_143 rfl rfl ?_
                    refine V_get (pc := 144) h 0 46 (.int (S1 0 46)) fl_X11_295_X11 oM_0 rfl rfl dX11_count_144 ?_
                    exact V_iret (pc := 147) h hr hlk dX11_count_147
                  · refine V_split _ (fun c21 => ?_) (fun n20 => ?_)
                    · refine V_tswIn (pc := 6) h (9 : Int32) 148 dX11_count_6 c21 (by decide) (by decide) rfl (by decide) ?_
                      refine V_aload_n (pc := 148) h 0 dX11_count_148 rfl rfl ?_
                      refine V_aload_n (pc := 149) h 0 dX11_count_149 rfl rfl ?_
                      refine V_get (pc := 150) h 0 28 (.ref (a 11)) fl_X11_55_X11 oM_0 rfl rfl dX11_count_150 ?_
                      refine V_callVI (pc := 153) (dy := 1) (q := (RX11, TX11, 59)) h [.ref (a 11)] [] 0 mv_X11_397 oM_0 rfl dX11_count_153 rfl rfl (Nat.le_of_ble_eq_true rfl) (Nat.le_trans (by decide) hD) (m_digitsOf 11 S1) (fun z9 hz9 => m_digitsOf_ct h.gg (Nat.le_refl 1) oM_11 S1 z9 hz9) (fun x23 S22 => ?_)
                      exact V_iret (pc := 156) h hr hlk dX11_count_156
                    · refine V_split _ (fun c25 => ?_) (fun n24 => ?_)
                      · refine V_tswIn (pc := 6) h (10 : Int32) 157 dX11_count_6 c25 (by decide) (by decide) rfl (by decide) ?_
                        refine V_aload_n (pc := 157) h 0 dX11_count_157 rfl rfl ?_
                        refine V_aload_n (pc := 158) h 0 dX11_count_158 rfl rfl ?_
                        refine V_get (pc := 159) h 0 29 (.ref (a 12)) fl_X11_58_X11 oM_0 rfl rfl dX11_count_159 ?_
                        refine V_callVI (pc := 162) (dy := 1) (q := (RX11, TX11, 59)) h [.ref (a 12)] [] 0 mv_X11_397 oM_0 rfl dX11_count_162 rfl rfl (Nat.le_of_ble_eq_true rfl) (Nat.le_trans (by decide) hD) (m_digitsOf 12 S1) (fun z9 hz9 => m_digitsOf_ct h.gg (Nat.le_refl 1) oM_12 S1 z9 hz9) (fun x27 S26 => ?_)
                        exact V_iret (pc := 165) h hr hlk dX11_count_165
                      · refine V_tswDef (pc := 6) h [0, 1, 2, 3, 4, 5, 6, 7, 8, 9, 10] 166 dX11_count_6 (List.forall_mem_cons.mpr ⟨n2, List.forall_mem_cons.mpr ⟨n4, List.forall_mem_cons.mpr ⟨n6, List.forall_mem_cons.mpr ⟨n8, List.forall_mem_cons.mpr ⟨n10, List.forall_mem_cons.mpr ⟨n12, List.forall_mem_cons.mpr ⟨n14, List.forall_mem_cons.mpr ⟨n16, List.forall_mem_cons.mpr ⟨n18, List.forall_mem_cons.mpr ⟨n20, List.forall_mem_cons.mpr ⟨n24, fun _ q => nomatch q⟩⟩⟩⟩⟩⟩⟩⟩⟩⟩⟩) (by decide) (by decide) (by decide) ?_
                        refine V_ldcw (pc := 166) (v := -100000000) h dX11_count_166 tw_7_12 ?_
                        exact V_iret (pc := 169) h hr hlk dX11_count_169
theorem m_count_ct {d : Nat} (g : GG s0 args0 D ca a A) (hD : 2 ≤ d) (v1 : Int32) (S : St) (z : Int32 × St) (hz : m_count v1 S = some z) : CtI l yX11_count cX11_count 2 .int d s0 D ca tpM a A [.ref (a 0), .int v1] S z := CtI_mk g (by decide +kernel) (Nat.le_of_ble_eq_true rfl) hz (fun p e s m args below meth c h hr hlk => m_count_ok h hr hlk hD v1 S)
end GEN
