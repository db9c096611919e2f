section GEN
variable {p : Program} {l : Launch} {e : Env} {s : State} {m : MethodId} {args : Array Value} {below : List Frame} {meth : Method} {c : Code}
variable {D : va_G} {ca : Nat → ClassId} {tp : List ODt} {a : Nat → Nat} {A : Nat → Prop} {s0 : State} {args0 : Array Value} {t : Nat}
def m_remember_h89 (L81 : Int32 → St → Option St) : Nat → Int32 → Int32 → St → Option St
  | 0, _, _, _ => none
  | n + 1, v1, v2, S => (if (5 : Int32) ≤ v2 then (ckM v1 6 (ckM (((6 : Int32) * (S 0 46)) + v1) 180 (bnd (up2 S 21 (((6 : Int32) * (S 0 46)) + v1).toNatClampNeg (S 13 v1.toNatClampNeg)) (fun S1 => (bnd (v1 + (1 : Int32)) (fun x2 => (L81 x2 S1))))))) else (ckM (((8 : Int32) * v1) + v2) 48 (ckM ((((30 : Int32) * (S 0 46)) + ((5 : Int32) * v1)) + v2) 900 (bnd (up2 S 20 ((((30 : Int32) * (S 0 46)) + ((5 : Int32) * v1)) + v2).toNatClampNeg (S 7 (((8 : Int32) * v1) + v2).toNatClampNeg)) (fun S3 => (bnd (v2 + (1 : Int32)) (fun x4 => ((m_remember_h89 L81 n) v1 x4 S3))))))))
set_option maxHeartbeats 4000000 in
set_option maxRecDepth 100000 in
theorem m_remember_h89_ok {d : Nat} (h : Cx p s m c cX11_remember 3 RX11 s0 args0 D ca a A) (hr : meth.sig.returnType = none) (hlk : meth.locks = false) (hD : 1 ≤ d) (L81 : Int32 → St → Option St) (hL81 : ∀ (v1 : Int32) (S : St), VV p l e (rmd d) s m args below meth c D ca tpM a A 3 (QmV D ca tpM a A below args s) S [(0, .ref (a 0)), (1, .int v1)] 81 [] (L81 v1 S)) : ∀ (n : Nat) (v1 : Int32) (v2 : Int32) (S : St), VV p l e (rmd d) s m args below meth c D ca tpM a A 3 (QmV D ca tpM a A below args s) S [(0, .ref (a 0)), (1, .int v1), (2, .int v2)] 89 [] (m_remember_h89 L81 n v1 v2 S) := by
  intro n
  induction n with
  | zero => intro v1 v2 S; exact V_none
  | succ n ih =>
    intro v1 v2 S
    unfold m_remember_h89
    refine V_iload_n (pc := 89) h 2 dX11_remember_89 rfl rfl ?_
    refine V_iconst (pc := 90) (v := 5) h dX11_remember_90 (by decide) ?_
    refine V_icmp_ge (pc := 91) h 129 dX11_remember_91 (by decide) ?_ ?_
    · refine V_aload_n (pc := 129) h 0 dX11_remember_129 rfl rfl ?_
      refine V_get (pc := 130) h 0 45 (.ref (a 21)) fl_X11_95_X11 oM_0 rfl rfl dX11_remember_130 ?_
      refine V_bipush (pc := 133) (v := 6) h dX11_remember_133 (by decide) ?_
      refine V_aload_n (pc := 135) h 0 dX11_remember_135 rfl rfl ?_
      refine V_get (pc := 136) h 0 46 (.int (S 0 46)) fl_X11_295_X11 oM_0 rfl rfl dX11_remember_136 ?_
      refine V_imul (pc := 139) h dX11_remember_139 ?_
      refine V_iload_n (pc := 140) h 1 dX11_remember_140 rfl rfl ?_
      refine V_iadd (pc := 141) h dX11_remember_141 ?_
      refine V_aload_n (pc := 142) h 0 dX11_remember_142 rfl rfl ?_
      refine V_get (pc := 143) h 0 30 (.ref (a 13)) fl_X11_61_X11 oM_0 rfl rfl dX11_remember_143 ?_
      refine V_iload_n (pc := 146) h 1 dX11_remember_146 rfl rfl ?_
      refine V_iald (pc := 147) h 13 oM_13 dX11_remember_147 ?_
      refine V_iast (pc := 148) h 21 oM_21 dX11_remember_148 (fun S1 => ?_)
      refine V_iincB (pc := 149) h 1 (1 : Int32) (fun x2 => [(1, .int x2), (0, .ref (a 0)), (2, .int v2)]) dX11_remember_149 rfl (by decide) (by decide) (fun _ => rfl) (fun x2 => ?_)
      refine V_goto (pc := 152) h 81 dX11_remember_152 (by decide) ?_
      exact V_ls [1, 0] rfl (hL81 x2 S1)
    · refine V_aload_n (pc := 94) h 0 dX11_remember_94 rfl rfl ?_
      refine V_get (pc := 95) h 0 44 (.ref (a 20)) fl_X11_92_X11 oM_0 rfl rfl dX11_remember_95 ?_
      refine V_bipush (pc := 98) (v := 30) h dX11_remember_98 (by decide) ?_
      refine V_aload_n (pc := 100) h 0 dX11_remember_100 rfl rfl ?_
      refine V_get (pc := 101) h 0 46 (.int (S 0 46)) fl_X11_295_X11 oM_0 rfl rfl dX11_remember_101 ?_
      refine V_imul (pc := 104) h dX11_remember_104 ?_
      refine V_iconst (pc := 105) (v := 5) h dX11_remember_105 (by decide) ?_
      refine V_iload_n (pc := 106) h 1 dX11_remember_106 rfl rfl ?_
      refine V_imul (pc := 107) h dX11_remember_107 ?_
      refine V_iadd (pc := 108) h dX11_remember_108 ?_
      refine V_iload_n (pc := 109) h 2 dX11_remember_109 rfl rfl ?_
      refine V_iadd (pc := 110) h dX11_remember_110 ?_
      refine V_aload_n (pc := 111) h 0 dX11_remember_111 rfl rfl ?_
      refine V_get (pc := 112) h 0 20 (.ref (a 7)) fl_X11_43_X11 oM_0 rfl rfl dX11_remember_112 ?_
      refine V_bipush (pc := 115) (v := 8) h dX11_remember_115 (by decide) ?_
      refine V_iload_n (pc := 117) h 1 dX11_remember_117 rfl rfl ?_
      refine V_imul (pc := 118) h dX11_remember_118 ?_
      refine V_iload_n (pc := 119) h 2 dX11_remember_119 rfl rfl ?_
      refine V_iadd (pc := 120) h dX11_remember_120 ?_
      refine V_iald (pc := 121) h 7 oM_7 dX11_remember_121 ?_
      refine V_iast (pc := 122) h 20 oM_20 dX11_remember_122 (fun S3 => ?_)
      refine V_iincB (pc := 123) h 2 (1 : Int32) (fun x4 => [(2, .int x4), (0, .ref (a 0)), (1, .int v1)]) dX11_remember_123 rfl (by decide) (by decide) (fun _ => rfl) (fun x4 => ?_)
      refine V_goto (pc := 126) h 89 dX11_remember_126 (by decide) ?_
      exact V_ls [1, 2, 0] rfl (ih v1 x4 S3)
def m_remember_h81 : Nat → Int32 → St → Option St
  | 0, _, _ => none
  | n + 1, v1, S => (if (6 : Int32) ≤ v1 then (bnd (up2 S 0 46 ((S 0 46) + (1 : Int32))) (fun S1 => (some S1))) else (m_remember_h89 (m_remember_h81 n) FU v1 (0 : Int32) S))
set_option maxHeartbeats 4000000 in
set_option maxRecDepth 100000 in
theorem m_remember_h81_ok {d : Nat} (h : Cx p s m c cX11_remember 3 RX11 s0 args0 D ca a A) (hr : meth.sig.returnType = none) (hlk : meth.locks = false) (hD : 1 ≤ d) : ∀ (n : Nat) (v1 : Int32) (S : St), VV p l e (rmd d) s m args below meth c D ca tpM a A 3 (QmV D ca tpM a A below args s) S [(0, .ref (a 0)), (1, .int v1)] 81 [] (m_remember_h81 n v1 S) := by
  intro n
  induction n with
  | zero => intro v1 S; exact V_none
  | succ n ih =>
    intro v1 S
    unfold m_remember_h81
    refine V_iload_n (pc := 81) h 1 dX11_remember_81 rfl rfl ?_
    refine V_bipush (pc := 82) (v := 6) h dX11_remember_82 (by decide) ?_
    refine V_icmp_ge (pc := 84) h 155 dX11_remember_84 (by decide) ?_ ?_
    · refine V_aload_n (pc := 155) h 0 dX11_remember_155 rfl rfl ?_
      refine V_dup (pc := 156) h dX11_remember_156 rfl ?_
      refine V_get (pc := 157) h 0 46 (.int (S 0 46)) fl_X11_295_X11 oM_0 rfl rfl dX11_remember_157 ?_
      refine V_iconst (pc := 160) (v := 1) h dX11_remember_160 (by decide) ?_
      refine V_iadd (pc := 161) h dX11_remember_161 ?_
      refine V_put (pc := 162) h 0 46 ((S 0 46) + (1 : Int32)) fp_X11_295_X11 oM_0 rfl rfl rfl rfl dX11_remember_162 (fun S1 => ?_)
      exact V_vret (pc := 165) h hr hlk dX11_remember_165
    · refine V_iconst (pc := 87) (v := 0) h dX11_remember_87 (by decide) ?_
      refine V_istore_n (pc := 88) h [(2, .int (0 : Int32)), (0, .ref (a 0)), (1, .int v1)] dX11_remember_88 rfl (by decide) rfl ?_
      exact V_ls [1, 2, 0] rfl (m_remember_h89_ok h hr hlk hD (m_remember_h81 n) ih FU v1 (0 : Int32) S)
def m_remember_b79 (S : St) : Option St := (m_remember_h81 FU (0 : Int32) S)
set_option maxHeartbeats 4000000 in
set_option maxRecDepth 100000 in
theorem m_remember_b79_ok {d : Nat} (h : Cx p s m c cX11_remember 3 RX11 s0 args0 D ca a A) (hr : meth.sig.returnType = none) (hlk : meth.locks = false) (hD : 1 ≤ d) (S : St) : VV p l e (rmd d) s m args below meth c D ca tpM a A 3 (QmV D ca tpM a A below args s) S [(0, .ref (a 0))] 79 [] (m_remember_b79 S) := by
  unfold m_remember_b79
  refine V_iconst (pc := 79) (v := 0) h dX11_remember_79 (by decide) ?_
  refine V_istore_n (pc := 80) h [(1, .int (0 : Int32)), (0, .ref (a 0))] dX11_remember_80 rfl (by decide) rfl ?_
  exact V_ls [1, 0] rfl (m_remember_h81_ok h hr hlk hD FU (0 : Int32) S)
def m_remember_h41 : Nat → Int32 → St → Option St
  | 0, _, _ => none
  | n + 1, v1, S => (if (174 : Int32) ≤ v1 then (bnd (up2 S 0 46 ((S 0 46) - (1 : Int32))) (fun S1 => (m_remember_b79 S1))) else (ckM (v1 + (6 : Int32)) 180 (ckM v1 180 (bnd (up2 S 21 v1.toNatClampNeg (S 21 (v1 + (6 : Int32)).toNatClampNeg)) (fun S2 => (bnd (v1 + (1 : Int32)) (fun x3 => ((m_remember_h41 n) x3 S2))))))))
set_option maxHeartbeats 4000000 in
set_option maxRecDepth 100000 in
theorem m_remember_h41_ok {d : Nat} (h : Cx p s m c cX11_remember 3 RX11 s0 args0 D ca a A) (hr : meth.sig.returnType = none) (hlk : meth.locks = false) (hD : 1 ≤ d) : ∀ (n : Nat) (v1 : Int32) (S : St), VV p l e (rmd d) s m args below meth c D ca tpM a A 3 (QmV D ca tpM a A below args s) S [(0, .ref (a 0)), (1, .int v1)] 41 [] (m_remember_h41 n v1 S) := by
  intro n
  induction n with
  | zero => intro v1 S; exact V_none
  | succ n ih =>
    intro v1 S
    unfold m_remember_h41
    refine V_iload_n (pc := 41) h 1 dX11_remember_41 rfl rfl ?_
    refine V_sipush (pc := 42) (v := 174) h dX11_remember_42 (by decide) ?_
    refine V_icmp_ge (pc := 45) h 69 dX11_remember_45 (by decide) ?_ ?_
    · refine V_aload_n (pc := 69) h 0 dX11_remember_69 rfl rfl ?_
      refine V_dup (pc := 70) h dX11_remember_70 rfl ?_
      refine V_get (pc := 71) h 0 46 (.int (S 0 46)) fl_X11_295_X11 oM_0 rfl rfl dX11_remember_71 ?_
      refine V_iconst (pc := 74) (v := 1) h dX11_remember_74 (by decide) ?_
      refine V_isub (pc := 75) h dX11_remember_75 ?_
      refine V_put (pc := 76) h 0 46 ((S 0 46) - (1 : Int32)) fp_X11_295_X11 oM_0 rfl rfl rfl rfl dX11_remember_76 (fun S1 => ?_)
      exact V_ls [0] rfl (m_remember_b79_ok h hr hlk hD S1)
    · refine V_aload_n (pc := 48) h 0 dX11_remember_48 rfl rfl ?_
      refine V_get (pc := 49) h 0 45 (.ref (a 21)) fl_X11_95_X11 oM_0 rfl rfl dX11_remember_49 ?_
      refine V_iload_n (pc := 52) h 1 dX11_remember_52 rfl rfl ?_
      refine V_aload_n (pc := 53) h 0 dX11_remember_53 rfl rfl ?_
      refine V_get (pc := 54) h 0 45 (.ref (a 21)) fl_X11_95_X11 oM_0 rfl rfl dX11_remember_54 ?_
      refine V_iload_n (pc := 57) h 1 dX11_remember_57 rfl rfl ?_
      refine V_bipush (pc := 58) (v := 6) h dX11_remember_58 (by decide) ?_
      refine V_iadd (pc := 60) h dX11_remember_60 ?_
      refine V_iald (pc := 61) h 21 oM_21 dX11_remember_61 ?_
      refine V_iast (pc := 62) h 21 oM_21 dX11_remember_62 (fun S2 => ?_)
      refine V_iincB (pc := 63) h 1 (1 : Int32) (fun x3 => [(1, .int x3), (0, .ref (a 0))]) dX11_remember_63 rfl (by decide) (by decide) (fun _ => rfl) (fun x3 => ?_)
      refine V_goto (pc := 66) h 41 dX11_remember_66 (by decide) ?_
      exact V_ls [1, 0] rfl (ih x3 S2)
def m_remember_h11 : Nat → Int32 → St → Option St
  | 0, _, _ => none
  | n + 1, v1, S => (if (870 : Int32) ≤ v1 then (m_remember_h41 FU (0 : Int32) S) else (ckM (v1 + (30 : Int32)) 900 (ckM v1 900 (bnd (up2 S 20 v1.toNatClampNeg (S 20 (v1 + (30 : Int32)).toNatClampNeg)) (fun S1 => (bnd (v1 + (1 : Int32)) (fun x2 => ((m_remember_h11 n) x2 S1))))))))
set_option maxHeartbeats 4000000 in
set_option maxRecDepth 100000 in
theorem m_remember_h11_ok {d : Nat} (h : Cx p s m c cX11_remember 3 RX11 s0 args0 D ca a A) (hr : meth.sig.returnType = none) (hlk : meth.locks = false) (hD : 1 ≤ d) : ∀ (n : Nat) (v1 : Int32) (S : St), VV p l e (rmd d) s m args below meth c D ca tpM a A 3 (QmV D ca tpM a A below args s) S [(0, .ref (a 0)), (1, .int v1)] 11 [] (m_remember_h11 n v1 S) := by
  intro n
  induction n with
  | zero => intro v1 S; exact V_none
  | succ n ih =>
    intro v1 S
    unfold m_remember_h11
    refine V_iload_n (pc := 11) h 1 dX11_remember_11 rfl rfl ?_
    refine V_sipush (pc := 12) (v := 870) h dX11_remember_12 (by decide) ?_
    refine V_icmp_ge (pc := 15) h 39 dX11_remember_15 (by decide) ?_ ?_
    · refine V_iconst (pc := 39) (v := 0) h dX11_remember_39 (by decide) ?_
      refine V_istore_n (pc := 40) h [(1, .int (0 : Int32)), (0, .ref (a 0))] dX11_remember_40 rfl (by decide) rfl ?_
      exact V_ls [1, 0] rfl (m_remember_h41_ok h hr hlk hD FU (0 : Int32) S)
    · refine V_aload_n (pc := 18) h 0 dX11_remember_18 rfl rfl ?_
      refine V_get (pc := 19) h 0 44 (.ref (a 20)) fl_X11_92_X11 oM_0 rfl rfl dX11_remember_19 ?_
      refine V_iload_n (pc := 22) h 1 dX11_remember_22 rfl rfl ?_
      refine V_aload_n (pc := 23) h 0 dX11_remember_23 rfl rfl ?_
      refine V_get (pc := 24) h 0 44 (.ref (a 20)) fl_X11_92_X11 oM_0 rfl rfl dX11_remember_24 ?_
      refine V_iload_n (pc := 27) h 1 dX11_remember_27 rfl rfl ?_
      refine V_bipush (pc := 28) (v := 30) h dX11_remember_28 (by decide) ?_
      refine V_iadd (pc := 30) h dX11_remember_30 ?_
      refine V_iald (pc := 31) h 20 oM_20 dX11_remember_31 ?_
      refine V_iast (pc := 32) h 20 oM_20 dX11_remember_32 (fun S1 => ?_)
      refine V_iincB (pc := 33) h 1 (1 : Int32) (fun x2 => [(1, .int x2), (0, .ref (a 0))]) dX11_remember_33 rfl (by decide) (by decide) (fun _ => rfl) (fun x2 => ?_)
      refine V_goto (pc := 36) h 11 dX11_remember_36 (by decide) ?_
      exact V_ls [1, 0] rfl (ih x2 S1)
def m_remember (S : St) : Option St := (if (S 0 46) = (30 : Int32) then (m_remember_h11 FU (0 : Int32) S) else (m_remember_b79 S))
set_option maxHeartbeats 4000000 in
set_option maxRecDepth 100000 in
theorem m_remember_ok {d : Nat} (h : Cx p s m c cX11_remember 3 RX11 s0 args0 D ca a A) (hr : meth.sig.returnType = none) (hlk : meth.locks = false) (hD : 1 ≤ d) (S : St) : VV p l e (rmd d) s m args below meth c D ca tpM a A 3 (QmV D ca tpM a A below args s) S [(0, .ref (a 0))] 0 [] (m_remember S) := by
  unfold m_remember
  refine V_aload_n (pc := 0) h 0 dX11_remember_0 rfl rfl ?_
  refine V_get (pc := 1) h 0 46 (.int (S 0 46)) fl_X11_295_X11 oM_0 rfl rfl dX11_remember_1 ?_
  refine V_bipush (pc := 4) (v := 30) h dX11_remember_4 (by decide) ?_
  refine V_icmp_ne (pc := 6) h 79 dX11_remember_6 (by decide) ?_ ?_
  · exact V_ls [0] rfl (m_remember_b79_ok h hr hlk hD S)
  · refine V_iconst (pc := 9) (v := 0) h dX11_remember_9 (by decide) ?_
    refine V_istore_n (pc := 10) h [(1, .int (0 : Int32)), (0, .ref (a 0))] dX11_remember_10 rfl (by decide) rfl ?_
    exact V_ls [1, 0] rfl (m_remember_h11_ok h hr hlk hD FU (0 : Int32) S)
theorem m_remember_ct {d : Nat} (g : GG s0 args0 D ca a A) (hD : 1 ≤ d) (S : St) (z : St) (hz : m_remember S = some z) : CtV l yX11_remember cX11_remember 3 d s0 D ca tpM a A [.ref (a 0)] S z := CtV_mk g (by decide +kernel) (Nat.le_of_ble_eq_true rfl) hz (fun p e s m args below meth c h hr hlk => m_remember_ok h hr hlk hD S)
def m_goesBy_b76 (L14 : Int32 → St → Option St) (v1 : Int32) (S : St) : Option St := (bnd (v1 + (1 : Int32)) (fun x1 => (L14 x1 S)))
set_option maxHeartbeats 4000000 in
set_option maxRecDepth 100000 in
theorem m_goesBy_b76_ok {d : Nat} (h : Cx p s m c cX11_goesBy 2 RX11 s0 args0 D ca a A) (hr : meth.sig.returnType = none) (hlk : meth.locks = false) (hD : 50 ≤ d) (L14 : Int32 → St → Option St) (hL14 : ∀ (v1 : Int32) (S : St), VV p l e (rmd d) s m args below meth c D ca tpM a A 2 (QmV D ca tpM a A below args s) S [(0, .ref (a 0)), (1, .int v1)] 14 [] (L14 v1 S)) (v1 : Int32) (S : St) : VV p l e (rmd d) s m args below meth c D ca tpM a A 2 (QmV D ca tpM a A below args s) S [(0, .ref (a 0)), (1, .int v1)] 76 [] (m_goesBy_b76 L14 v1 S) := by
  unfold m_goesBy_b76
  refine V_iincB (pc := 76) h 1 (1 : Int32) (fun x1 => [(1, .int x1), (0, .ref (a 0))]) dX11_goesBy_76 rfl (by decide) (by decide) (fun _ => rfl) (fun x1 => ?_)
  refine V_goto (pc := 79) h 14 dX11_goesBy_79 (by decide) ?_
  exact V_ls [1, 0] rfl (hL14 x1 S)
def m_goesBy_h14 : Nat → Int32 → St → Option St
  | 0, _, _ => none
  | n + 1, v1, S => (if (S 0 24) ≤ v1 then (bnd (up2 S 0 32 ((S 0 32) + (1 : Int32))) (fun S1 => (some S1))) else (ckM v1 6 (bI (m_mealOf v1 (S 0 32) S) (fun x3 S2 => (ckM v1 6 (bnd (up2 S2 13 v1.toNatClampNeg ((S 13 v1.toNatClampNeg) + x3)) (fun S4 => (ckM v1 6 (if (S4 19 v1.toNatClampNeg) = (9 : Int32) then (m_goesBy_b76 (m_goesBy_h14 n) v1 S4) else (ckM v1 6 (bnd (((8 : Int32) * v1) + (S4 19 v1.toNatClampNeg)) (fun x5 => (ckM x5 48 (ckM (0 : Int32) 3 (ckM x5 48 (bnd (up2 S4 7 x5.toNatClampNeg ((S4 7 x5.toNatClampNeg) - (S4 9 (0 : Int32).toNatClampNeg))) (fun S6 => (m_goesBy_b76 (m_goesBy_h14 n) v1 S6))))))))))))))))))
set_option maxHeartbeats 4000000 in
set_option maxRecDepth 100000 in
theorem m_goesBy_h14_ok {d : Nat} (h : Cx p s m c cX11_goesBy 2 RX11 s0 args0 D ca a A) (hr : meth.sig.returnType = none) (hlk : meth.locks = false) (hD : 50 ≤ d) : ∀ (n : Nat) (v1 : Int32) (S : St), VV p l e (rmd d) s m args below meth c D ca tpM a A 2 (QmV D ca tpM a A below args s) S [(0, .ref (a 0)), (1, .int v1)] 14 [] (m_goesBy_h14 n v1 S) := by
  intro n
  induction n with
  | zero => intro v1 S; exact V_none
  | succ n ih =>
    intro v1 S
    unfold m_goesBy_h14
    refine V_iload_n (pc := 14) h 1 dX11_goesBy_14 rfl rfl ?_
    refine V_aload_n (pc := 15) h 0 dX11_goesBy_15 rfl rfl ?_
    refine V_get (pc := 16) h 0 24 (.int (S 0 24)) fl_X11_289_X11 oM_0 rfl rfl dX11_goesBy_16 ?_
    refine V_icmp_ge (pc := 19) h 82 dX11_goesBy_19 (by decide) ?_ ?_
    · refine V_aload_n (pc := 82) h 0 dX11_goesBy_82 rfl rfl ?_
      refine V_dup (pc := 83) h dX11_goesBy_83 rfl ?_
      refine V_get (pc := 84) h 0 32 (.int (S 0 32)) fl_X11_292_X11 oM_0 rfl rfl dX11_goesBy_84 ?_
      refine V_iconst (pc := 87) (v := 1) h dX11_goesBy_87 (by decide) ?_
      refine V_iadd (pc := 88) h dX11_goesBy_88 ?_
      refine V_put (pc := 89) h 0 32 ((S 0 32) + (1 : Int32)) fp_X11_292_X11 oM_0 rfl rfl rfl rfl dX11_goesBy_89 (fun S1 => ?_)
      exact V_vret (pc := 92) h hr hlk dX11_goesBy_92
    · refine V_aload_n (pc := 22) h 0 dX11_goesBy_22 rfl rfl ?_
      refine V_get (pc := 23) h 0 30 (.ref (a 13)) fl_X11_61_X11 oM_0 rfl rfl dX11_goesBy_23 ?_
      refine V_iload_n (pc := 26) h 1 dX11_goesBy_26 rfl rfl ?_
      refine V_dup2_11 (pc := 27) h dX11_goesBy_27 rfl rfl ?_
      refine V_iald (pc := 28) h 13 oM_13 dX11_goesBy_28 ?_
      refine V_aload_n (pc := 29) h 0 dX11_goesBy_29 rfl rfl ?_
      refine V_iload_n (pc := 30) h 1 dX11_goesBy_30 rfl rfl ?_
      refine V_aload_n (pc := 31) h 0 dX11_goesBy_31 rfl rfl ?_
      refine V_get (pc := 32) h 0 32 (.int (S 0 32)) fl_X11_292_X11 oM_0 rfl rfl dX11_goesBy_32 ?_
      refine V_callVI (pc := 35) (dy := 49) (q := (RX11, TX11, 59)) h [.int v1, .int (S 0 32)] [.int (S 13 v1.toNatClampNeg), .int v1, .ref (a 13)] 0 mv_X11_332 oM_0 rfl dX11_goesBy_35 rfl rfl (Nat.le_of_ble_eq_true rfl) (Nat.le_trans (by decide) hD) (m_mealOf v1 (S 0 32) S) (fun z9 hz9 => m_mealOf_ct h.gg (Nat.le_refl 49) v1 (S 0 32) S z9 hz9) (fun x3 S2 => ?_)
      refine V_iadd (pc := 38) h dX11_goesBy_38 ?_
      refine V_iast (pc := 39) h 13 oM_13 dX11_goesBy_39 (fun S4 => ?_)
      refine V_aload_n (pc := 40) h 0 dX11_goesBy_40 rfl rfl ?_
      refine V_get (pc := 41) h 0 38 (.ref (a 19)) fl_X11_83_X11 oM_0 rfl rfl dX11_goesBy_41 ?_
      refine V_iload_n (pc := 44) h 1 dX11_goesBy_44 rfl rfl ?_
      refine V_iald (pc := 45) h 19 oM_19 dX11_goesBy_45 ?_
      refine V_bipush (pc := 46) (v := 9) h dX11_goesBy_46 (by decide) ?_
      refine V_icmp_eq (pc := 48) h 76 dX11_goesBy_48 (by decide) ?_ ?_
      · exact V_ls [0, 1] rfl (m_goesBy_b76_ok h hr hlk hD (m_goesBy_h14 n) ih v1 S4)
      · refine V_aload_n (pc := 51) h 0 dX11_goesBy_51 rfl rfl ?_
        refine V_get (pc := 52) h 0 20 (.ref (a 7)) fl_X11_43_X11 oM_0 rfl rfl dX11_goesBy_52 ?_
        refine V_bipush (pc := 55) (v := 8) h dX11_goesBy_55 (by decide) ?_
        refine V_iload_n (pc := 57) h 1 dX11_goesBy_57 rfl rfl ?_
        refine V_imul (pc := 58) h dX11_goesBy_58 ?_
        refine V_aload_n (pc := 59) h 0 dX11_goesBy_59 rfl rfl ?_
        refine V_get (pc := 60) h 0 38 (.ref (a 19)) fl_X11_83_X11 oM_0 rfl rfl dX11_goesBy_60 ?_
        refine V_iload_n (pc := 63) h 1 dX11_goesBy_63 rfl rfl ?_
        refine V_iald (pc := 64) h 19 oM_19 dX11_goesBy_64 ?_
        refine V_iadd (pc := 65) h dX11_goesBy_65 ?_
        refine V_top (fun x5 => ?_)
        refine V_dup2_11 (pc := 66) h dX11_goesBy_66 rfl rfl ?_
        refine V_iald (pc := 67) h 7 oM_7 dX11_goesBy_67 ?_
        refine V_aload_n (pc := 68) h 0 dX11_goesBy_68 rfl rfl ?_
        refine V_get (pc := 69) h 0 22 (.ref (a 9)) fl_X11_49_X11 oM_0 rfl rfl dX11_goesBy_69 ?_
        refine V_iconst (pc := 72) (v := 0) h dX11_goesBy_72 (by decide) ?_
        refine V_iald (pc := 73) h 9 oM_9 dX11_goesBy_73 ?_
        refine V_isub (pc := 74) h dX11_goesBy_74 ?_
        refine V_iast (pc := 75) h 7 oM_7 dX11_goesBy_75 (fun S6 => ?_)
        exact V_ls [0, 1] rfl (m_goesBy_b76_ok h hr hlk hD (m_goesBy_h14 n) ih v1 S6)
def m_goesBy (S : St) : Option St := (bV (m_remember S) (fun S1 => (bV (m_noon (S1 0 32) S1) (fun S2 => (m_goesBy_h14 FU (0 : Int32) S2)))))
set_option maxHeartbeats 4000000 in
set_option maxRecDepth 100000 in
theorem m_goesBy_ok {d : Nat} (h : Cx p s m c cX11_goesBy 2 RX11 s0 args0 D ca a A) (hr : meth.sig.returnType = none) (hlk : meth.locks = false) (hD : 50 ≤ d) (S : St) : VV p l e (rmd d) s m args below meth c D ca tpM a A 2 (QmV D ca tpM a A below args s) S [(0, .ref (a 0))] 0 [] (m_goesBy S) := by
  unfold m_goesBy
  refine V_aload_n (pc := 0) h 0 dX11_goesBy_0 rfl rfl ?_
  refine V_callVV (pc := 1) (dy := 1) (q := (RX11, TX11, 59)) h [] [] 0 mv_X11_341 oM_0 rfl dX11_goesBy_1 rfl rfl (Nat.le_of_ble_eq_true rfl) (Nat.le_trans (by decide) hD) (m_remember S) (fun z9 hz9 => m_remember_ct h.gg (Nat.le_refl 1) S z9 hz9) (fun S1 => ?_)
  refine V_aload_n (pc := 4) h 0 dX11_goesBy_4 rfl rfl ?_
  refine V_aload_n (pc := 5) h 0 dX11_goesBy_5 rfl rfl ?_
  refine V_get (pc := 6) h 0 32 (.int (S1 0 32)) fl_X11_292_X11 oM_0 rfl rfl dX11_goesBy_6 ?_
  refine V_callVV (pc := 9) (dy := 3) (q := (RX11, TX11, 59)) h [.int (S1 0 32)] [] 0 mv_X11_338 oM_0 rfl dX11_goesBy_9 rfl rfl (Nat.le_of_ble_eq_true rfl) (Nat.le_trans (by decide) hD) (m_noon (S1 0 32) S1) (fun z9 hz9 => m_noon_ct h.gg (Nat.le_refl 3) (S1 0 32) S1 z9 hz9) (fun S2 => ?_)
  refine V_iconst (pc := 12) (v := 0) h dX11_goesBy_12 (by decide) ?_
  refine V_istore_n (pc := 13) h [(1, .int (0 : Int32)), (0, .ref (a 0))] dX11_goesBy_13 rfl (by decide) rfl ?_
  exact V_ls [1, 0] rfl (m_goesBy_h14_ok h hr hlk hD FU (0 : Int32) S2)
theorem m_goesBy_ct {d : Nat} (g : GG s0 args0 D ca a A) (hD : 50 ≤ d) (S : St) (z : St) (hz : m_goesBy S = some z) : CtV l yX11_goesBy cX11_goesBy 2 d s0 D ca tpM a A [.ref (a 0)] S z := CtV_mk g (by decide +kernel) (Nat.le_of_ble_eq_true rfl) hz (fun p e s m args below meth c h hr hlk => m_goesBy_ok h hr hlk hD S)
def m_days_h40 : Nat → Int32 → Int32 → St → Option (Int32 × St)
  | 0, _, _, _ => none
  | n + 1, v1, v2, S => (if v1 ≤ v2 then (some ((S 0 32), S)) else (bV (m_goesBy S) (fun S1 => (bnd (v2 + (1 : Int32)) (fun x2 => ((m_days_h40 n) v1 x2 S1))))))
set_option maxHeartbeats 4000000 in
set_option maxRecDepth 100000 in
theorem m_days_h40_ok {d : Nat} (h : Cx p s m c cX11_days 3 RX11 s0 args0 D ca a A) (hr : meth.sig.returnType = some .int) (hlk : meth.locks = false) (hD : 51 ≤ d) : ∀ (n : Nat) (v1 : Int32) (v2 : Int32) (S : St), VV p l e (rmd d) s m args below meth c D ca tpM a A 3 (QmI D ca tpM a A below args s) S [(0, .ref (a 0)), (1, .int v1), (2, .int v2)] 40 [] (m_days_h40 n v1 v2 S) := by
  intro n
  induction n with
  | zero => intro v1 v2 S; exact V_none
  | succ n ih =>
    intro v1 v2 S
    unfold m_days_h40
    refine V_iload_n (pc := 40) h 2 dX11_days_40 rfl rfl ?_
    refine V_iload_n (pc := 41) h 1 dX11_days_41 rfl rfl ?_
    refine V_icmp_ge (pc := 42) h 55 dX11_days_42 (by decide) ?_ ?_
    · refine V_aload_n (pc := 55) h 0 dX11_days_55 rfl rfl ?_
      refine V_get (pc := 56) h 0 32 (.int (S 0 32)) fl_X11_292_X11 oM_0 rfl rfl dX11_days_56 ?_
      exact V_iret (pc := 59) h hr hlk dX11_days_59
    · refine V_aload_n (pc := 45) h 0 dX11_days_45 rfl rfl ?_
      refine V_callVV (pc := 46) (dy := 50) (q := (RX11, TX11, 59)) h [] [] 0 mv_X11_346 oM_0 rfl dX11_days_46 rfl rfl (Nat.le_of_ble_eq_true rfl) (Nat.le_trans (by decide) hD) (m_goesBy S) (fun z9 hz9 => m_goesBy_ct h.gg (Nat.le_refl 50) S z9 hz9) (fun S1 => ?_)
      refine V_iincB (pc := 49) h 2 (1 : Int32) (fun x2 => [(2, .int x2), (0, .ref (a 0)), (1, .int v1)]) dX11_days_49 rfl (by decide) (by decide) (fun _ => rfl) (fun x2 => ?_)
      refine V_goto (pc := 52) h 40 dX11_days_52 (by decide) ?_
      exact V_ls [1, 2, 0] rfl (ih v1 x2 S1)
def m_days (v1 : Int32) (S : St) : Option (Int32 × St) := (bnd (up2 S 0 0 (0 : Int32)) (fun S1 => (if (S1 0 24) = 0 then (some ((-1 : Int32), S1)) else (bI (m_isIn (v1.toInt64) (1 : Int64) (30 : Int64) S1) (fun x3 S2 => (if x3 = 0 then (some ((-1 : Int32), S2)) else (if ((S2 0 32) + v1) ≤ (999 : Int32) then (m_days_h40 FU v1 (0 : Int32) S2) else (some ((-1 : Int32), S2)))))))))
set_option maxHeartbeats 4000000 in
set_option maxRecDepth 100000 in
theorem m_days_ok {d : Nat} (h : Cx p s m c cX11_days 3 RX11 s0 args0 D ca a A) (hr : meth.sig.returnType = some .int) (hlk : meth.locks = false) (hD : 51 ≤ d) (v1 : Int32) (S : St) : VV p l e (rmd d) s m args below meth c D ca tpM a A 3 (QmI D ca tpM a A below args s) S [(0, .ref (a 0)), (1, .int v1)] 0 [] (m_days v1 S) := by
  unfold m_days
  refine V_aload_n (pc := 0) h 0 dX11_days_0 rfl rfl ?_
  refine V_iconst (pc := 1) (v := 0) h dX11_days_1 (by decide) ?_
  refine V_put (pc := 2) h 0 0 (0 : Int32) fp_X11_119_X11 oM_0 rfl rfl rfl rfl dX11_days_2 (fun S1 => ?_)
  refine V_aload_n (pc := 5) h 0 dX11_days_5 rfl rfl ?_
  refine V_get (pc := 6) h 0 24 (.int (S1 0 24)) fl_X11_289_X11 oM_0 rfl rfl dX11_days_6 ?_
  refine V_if_eq (pc := 9) h 36 dX11_days_9 (by decide) ?_ ?_
  · refine V_iconst (pc := 36) (v := -1) h dX11_days_36 (by decide) ?_
    exact V_iret (pc := 37) h hr hlk dX11_days_37
  · refine V_iload_n (pc := 12) h 1 dX11_days_12 rfl rfl ?_
    refine V_i2l (pc := 13) h dX11_days_13 ?_
    refine V_lconst (pc := 14) (v := 1) h dX11_days_14 (by decide) ?_
    refine V_ldc2 (pc := 15) (v := 30) h dX11_days_15 tw_7_50 ?_
    refine V_callSI (pc := 18) (dy := 1) h [.long (v1.toInt64), .long (1 : Int64), .long (30 : Int64)] [] ms_X11_240 dX11_days_18 rfl rfl (Nat.le_of_ble_eq_true rfl) (Nat.le_trans (by decide) hD) (m_isIn (v1.toInt64) (1 : Int64) (30 : Int64) S1) (fun z9 hz9 => m_isIn_ct h.gg (Nat.le_refl 1) (v1.toInt64) (1 : Int64) (30 : Int64) S1 z9 hz9) (fun x3 S2 => ?_)
    refine V_if_eq (pc := 21) h 36 dX11_days_21 (by decide) ?_ ?_
    · refine V_iconst (pc := 36) (v := -1) h dX11_days_36 (by decide) ?_
      exact V_iret (pc := 37) h hr hlk dX11_days_37
    · refine V_aload_n (pc := 24) h 0 dX11_days_24 rfl rfl ?_
      refine V_get (pc := 25) h 0 32 (.int (S2 0 32)) fl_X11_292_X11 oM_0 rfl rfl dX11_days_25 ?_
      refine V_iload_n (pc := 28) h 1 dX11_days_28 rfl rfl ?_
      refine V_iadd (pc := 29) h dX11_days_29 ?_
      refine V_sipush (pc := 30) (v := 999) h dX11_days_30 (by decide) ?_
      refine V_icmp_le (pc := 33) h 38 dX11_days_33 (by decide) ?_ ?_
      · refine V_iconst (pc := 38) (v := 0) h dX11_days_38 (by decide) ?_
        refine V_istore_n (pc := 39) h [(2, .int (0 : Int32)), (0, .ref (a 0)), (1, .int v1)] dX11_days_39 rfl (by decide) rfl ?_
        exact V_ls [1, 2, 0] rfl (m_days_h40_ok h hr hlk hD FU v1 (0 : Int32) S2)
      · refine V_iconst (pc := 36) (v := -1) h dX11_days_36 (by decide) ?_
        exact V_iret (pc := 37) h hr hlk dX11_days_37
theorem m_days_ct {d : Nat} (g : GG s0 args0 D ca a A) (hD : 51 ≤ d) (v1 : Int32) (S : St) (z : Int32 × St) (hz : m_days v1 S = some z) : CtI l yX11_days cX11_days 3 .int d s0 D ca tpM a A [.ref (a 0), .int v1] S z := CtI_mk g (by decide +kernel) (Nat.le_of_ble_eq_true rfl) hz (fun p e s m args below meth c h hr hlk => m_days_ok h hr hlk hD v1 S)
def m_undo_h34 (L26 : Int32 → St → Option (Int32 × St)) : Nat → Int32 → Int32 → St → Option (Int32 × St)
  | 0, _, _, _ => none
  | n + 1, v1, v2, S => (if (5 : Int32) ≤ v2 then (ckM (((6 : Int32) * (S 0 46)) + v1) 180 (ckM v1 6 (bnd (up2 S 13 v1.toNatClampNeg (S 21 (((6 : Int32) * (S 0 46)) + v1).toNatClampNeg)) (fun S1 => (bnd (v1 + (1 : Int32)) (fun x2 => (L26 x2 S1))))))) else (bnd ((((30 : Int32) * (S 0 46)) + ((5 : Int32) * v1)) + v2) (fun x3 => (ckM x3 900 (ckM (((8 : Int32) * v1) + v2) 48 (bnd (up2 S 7 (((8 : Int32) * v1) + v2).toNatClampNeg (S 20 x3.toNatClampNeg)) (fun S4 => (bnd (v2 + (1 : Int32)) (fun x5 => ((m_undo_h34 L26 n) v1 x5 S4))))))))))
set_option maxHeartbeats 4000000 in
set_option maxRecDepth 100000 in
theorem m_undo_h34_ok {d : Nat} (h : Cx p s m c cX11_undo 3 RX11 s0 args0 D ca a A) (hr : meth.sig.returnType = some .int) (hlk : meth.locks = false) (hD : 1 ≤ d) (L26 : Int32 → St → Option (Int32 × St)) (hL26 : ∀ (v1 : Int32) (S : St), VV p l e (rmd d) s m args below meth c D ca tpM a A 3 (QmI D ca tpM a A below args s) S [(0, .ref (a 0)), (1, .int v1)] 26 [] (L26 v1 S)) : ∀ (n : Nat) (v1 : Int32) (v2 : Int32) (S : St), VV p l e (rmd d) s m args below meth c D ca tpM a A 3 (QmI D ca tpM a A below args s) S [(0, .ref (a 0)), (1, .int v1), (2, .int v2)] 34 [] (m_undo_h34 L26 n v1 v2 S) := by
  intro n
  induction n with
  | zero => intro v1 v2 S; exact V_none
  | succ n ih =>
    intro v1 v2 S
    unfold m_undo_h34
    refine V_iload_n (pc := 34) h 2 dX11_undo_34 rfl rfl ?_
    refine V_iconst (pc := 35) (v := 5) h dX11_undo_35 (by decide) ?_
    refine V_icmp_ge (pc := 36) h 74 dX11_undo_36 (by decide) ?_ ?_
    · refine V_aload_n (pc := 74) h 0 dX11_undo_74 rfl rfl ?_
      refine V_get (pc := 75) h 0 30 (.ref (a 13)) fl_X11_61_X11 oM_0 rfl rfl dX11_undo_75 ?_
      refine V_iload_n (pc := 78) h 1 dX11_undo_78 rfl rfl ?_
      refine V_aload_n (pc := 79) h 0 dX11_undo_79 rfl rfl ?_
      refine V_get (pc := 80) h 0 45 (.ref (a 21)) fl_X11_95_X11 oM_0 rfl rfl dX11_undo_80 ?_
      refine V_bipush (pc := 83) (v := 6) h dX11_undo_83 (by decide) ?_
      refine V_aload_n (pc := 85) h 0 dX11_undo_85 rfl rfl ?_
      refine V_get (pc := 86) h 0 46 (.int (S 0 46)) fl_X11_295_X11 oM_0 rfl rfl dX11_undo_86 ?_
      refine V_imul (pc := 89) h dX11_undo_89 ?_
      refine V_iload_n (pc := 90) h 1 dX11_undo_90 rfl rfl ?_
      refine V_iadd (pc := 91) h dX11_undo_91 ?_
      refine V_iald (pc := 92) h 21 oM_21 dX11_undo_92 ?_
      refine V_iast (pc := 93) h 13 oM_13 dX11_undo_93 (fun S1 => ?_)
      refine V_iincB (pc := 94) h 1 (1 : Int32) (fun x2 => [(1, .int x2), (0, .ref (a 0)), (2, .int v2)]) dX11_undo_94 rfl (by decide) (by decide) (fun _ => rfl) (fun x2 => ?_)
      refine V_goto (pc := 97) h 26 dX11_undo_97 (by decide) ?_
      exact V_ls [1, 0] rfl (hL26 x2 S1)
    · refine V_aload_n (pc := 39) h 0 dX11_undo_39 rfl rfl ?_
      refine V_get (pc := 40) h 0 20 (.ref (a 7)) fl_X11_43_X11 oM_0 rfl rfl dX11_undo_40 ?_
      refine V_bipush (pc := 43) (v := 8) h dX11_undo_43 (by decide) ?_
      refine V_iload_n (pc := 45) h 1 dX11_undo_45 rfl rfl ?_
      refine V_imul (pc := 46) h dX11_undo_46 ?_
      refine V_iload_n (pc := 47) h 2 dX11_undo_47 rfl rfl ?_
      refine V_iadd (pc := 48) h dX11_undo_48 ?_
      refine V_aload_n (pc := 49) h 0 dX11_undo_49 rfl rfl ?_
      refine V_get (pc := 50) h 0 44 (.ref (a 20)) fl_X11_92_X11 oM_0 rfl rfl dX11_undo_50 ?_
      refine V_bipush (pc := 53) (v := 30) h dX11_undo_53 (by decide) ?_
      refine V_aload_n (pc := 55) h 0 dX11_undo_55 rfl rfl ?_
      refine V_get (pc := 56) h 0 46 (.int (S 0 46)) fl_X11_295_X11 oM_0 rfl rfl dX11_undo_56 ?_
      refine V_imul (pc := 59) h dX11_undo_59 ?_
      refine V_iconst (pc := 60) (v := 5) h dX11_undo_60 (by decide) ?_
      refine V_iload_n (pc := 61) h 1 dX11_undo_61 rfl rfl ?_
      refine V_imul (pc := 62) h dX11_undo_62 ?_
      refine V_iadd (pc := 63) h dX11_undo_63 ?_
      refine V_iload_n (pc := 64) h 2 dX11_undo_64 rfl rfl ?_
      refine V_iadd (pc := 65) h dX11_undo_65 ?_
      refine V_top (fun x3 => ?_)
      refine V_iald (pc := 66) h 20 oM_20 dX11_undo_66 ?_
      refine V_iast (pc := 67) h 7 oM_7 dX11_undo_67 (fun S4 => ?_)
      refine V_iincB (pc := 68) h 2 (1 : Int32) (fun x5 => [(2, .int x5), (0, .ref (a 0)), (1, .int v1)]) dX11_undo_68 rfl (by decide) (by decide) (fun _ => rfl) (fun x5 => ?_)
      refine V_goto (pc := 71) h 34 dX11_undo_71 (by decide) ?_
      exact V_ls [1, 2, 0] rfl (ih v1 x5 S4)
def m_undo_h26 : Nat → Int32 → St → Option (Int32 × St)
  | 0, _, _ => none
  | n + 1, v1, S => (if (6 : Int32) ≤ v1 then (bnd (up2 S 0 32 ((S 0 32) - (1 : Int32))) (fun S1 => (some ((S1 0 32), S1)))) else (m_undo_h34 (m_undo_h26 n) FU v1 (0 : Int32) S))
set_option maxHeartbeats 4000000 in
set_option maxRecDepth 100000 in
theorem m_undo_h26_ok {d : Nat} (h : Cx p s m c cX11_undo 3 RX11 s0 args0 D ca a A) (hr : meth.sig.returnType = some .int) (hlk : meth.locks = false) (hD : 1 ≤ d) : ∀ (n : Nat) (v1 : Int32) (S : St), VV p l e (rmd d) s m args below meth c D ca tpM a A 3 (QmI D ca tpM a A below args s) S [(0, .ref (a 0)), (1, .int v1)] 26 [] (m_undo_h26 n v1 S) := by
  intro n
  induction n with
  | zero => intro v1 S; exact V_none
  | succ n ih =>
    intro v1 S
    unfold m_undo_h26
    refine V_iload_n (pc := 26) h 1 dX11_undo_26 rfl rfl ?_
    refine V_bipush (pc := 27) (v := 6) h dX11_undo_27 (by decide) ?_
    refine V_icmp_ge (pc := 29) h 100 dX11_undo_29 (by decide) ?_ ?_
    · refine V_aload_n (pc := 100) h 0 dX11_undo_100 rfl rfl ?_
      refine V_dup (pc := 101) h dX11_undo_101 rfl ?_
      refine V_get (pc := 102) h 0 32 (.int (S 0 32)) fl_X11_292_X11 oM_0 rfl rfl dX11_undo_102 ?_
      refine V_iconst (pc := 105) (v := 1) h dX11_undo_105 (by decide) ?_
      refine V_isub (pc := 106) h dX11_undo_106 ?_
      refine V_put (pc := 107) h 0 32 ((S 0 32) - (1 : Int32)) fp_X11_292_X11 oM_0 rfl rfl rfl rfl dX11_undo_107 (fun S1 => ?_)
      refine V_aload_n (pc := 110) h 0 dX11_undo_110 rfl rfl ?_
      refine V_get (pc := 111) h 0 32 (.int (S1 0 32)) fl_X11_292_X11 oM_0 rfl rfl dX11_undo_111 ?_
      exact V_iret (pc := 114) h hr hlk dX11_undo_114
    · refine V_iconst (pc := 32) (v := 0) h dX11_undo_32 (by decide) ?_
      refine V_istore_n (pc := 33) h [(2, .int (0 : Int32)), (0, .ref (a 0)), (1, .int v1)] dX11_undo_33 rfl (by decide) rfl ?_
      exact V_ls [1, 2, 0] rfl (m_undo_h34_ok h hr hlk hD (m_undo_h26 n) ih FU v1 (0 : Int32) S)
def m_undo (S : St) : Option (Int32 × St) := (bnd (up2 S 0 0 (0 : Int32)) (fun S1 => (if (S1 0 46) = 0 then (some ((-1 : Int32), S1)) else (bnd (up2 S1 0 46 ((S1 0 46) - (1 : Int32))) (fun S2 => (m_undo_h26 FU (0 : Int32) S2))))))
set_option maxHeartbeats 4000000 in
set_option maxRecDepth 100000 in
theorem m_undo_ok {d : Nat} (h : Cx p s m c cX11_undo 3 RX11 s0 args0 D ca a A) (hr : meth.sig.returnType = some .int) (hlk : meth.locks = false) (hD : 1 ≤ d) (S : St) : VV p l e (rmd d) s m args below meth c D ca tpM a A 3 (QmI D ca tpM a A below args s) S [(0, .ref (a 0))] 0 [] (m_undo S) := by
  unfold m_undo
  refine V_aload_n (pc := 0) h 0 dX11_undo_0 rfl rfl ?_
  refine V_iconst (pc := 1) (v := 0) h dX11_undo_1 (by decide) ?_
  refine V_put (pc := 2) h 0 0 (0 : Int32) fp_X11_119_X11 oM_0 rfl rfl rfl rfl dX11_undo_2 (fun S1 => ?_)
  refine V_aload_n (pc := 5) h 0 dX11_undo_5 rfl rfl ?_
  refine V_get (pc := 6) h 0 46 (.int (S1 0 46)) fl_X11_295_X11 oM_0 rfl rfl dX11_undo_6 ?_
  refine V_if_ne (pc := 9) h 14 dX11_undo_9 (by decide) ?_ ?_
  · refine V_aload_n (pc := 14) h 0 dX11_undo_14 rfl rfl ?_
    refine V_dup (pc := 15) h dX11_undo_15 rfl ?_
    refine V_get (pc := 16) h 0 46 (.int (S1 0 46)) fl_X11_295_X11 oM_0 rfl rfl dX11_undo_16 ?_
    refine V_iconst (pc := 19) (v := 1) h dX11_undo_19 (by decide) ?_
    refine V_isub (pc := 20) h dX11_undo_20 ?_
    refine V_put (pc := 21) h 0 46 ((S1 0 46) - (1 : Int32)) fp_X11_295_X11 oM_0 rfl rfl rfl rfl dX11_undo_21 (fun S2 => ?_)
    refine V_iconst (pc := 24) (v := 0) h dX11_undo_24 (by decide) ?_
    refine V_istore_n (pc := 25) h [(1, .int (0 : Int32)), (0, .ref (a 0))] dX11_undo_25 rfl (by decide) rfl ?_
    exact V_ls [1, 0] rfl (m_undo_h26_ok h hr hlk hD FU (0 : Int32) S2)
  · refine V_iconst (pc := 12) (v := -1) h dX11_undo_12 (by decide) ?_
    exact V_iret (pc := 13) h hr hlk dX11_undo_13
theorem m_undo_ct {d : Nat} (g : GG s0 args0 D ca a A) (hD : 1 ≤ d) (S : St) (z : Int32 × St) (hz : m_undo S = some z) : CtI l yX11_undo cX11_undo 3 .int d s0 D ca tpM a A [.ref (a 0)] S z := CtI_mk g (by decide +kernel) (Nat.le_of_ble_eq_true rfl) hz (fun p e s m args below meth c h hr hlk => m_undo_ok h hr hlk hD S)
def m_eaten (v1 : Int32) (S : St) : Option (Int32 × St) := (bnd (up2 S 0 0 (0 : Int32)) (fun S1 => (bI (m_isHouse v1 S1) (fun x3 S2 => (if x3 = 0 then (some ((-100000000 : Int32), S2)) else (ckM v1 6 (some ((S2 13 v1.toNatClampNeg), S2))))))))
set_option maxHeartbeats 4000000 in
set_option maxRecDepth 100000 in
theorem m_eaten_ok {d : Nat} (h : Cx p s m c cX11_eaten 2 RX11 s0 args0 D ca a A) (hr : meth.sig.returnType = some .int) (hlk : meth.locks = false) (hD : 2 ≤ d) (v1 : Int32) (S : St) : VV p l e (rmd d) s m args below meth c D ca tpM a A 2 (QmI D ca tpM a A below args s) S [(0, .ref (a 0)), (1, .int v1)] 0 [] (m_eaten v1 S) := by
  unfold m_eaten
  refine V_aload_n (pc := 0) h 0 dX11_eaten_0 rfl rfl ?_
  refine V_iconst (pc := 1) (v := 0) h dX11_eaten_1 (by decide) ?_
  refine V_put (pc := 2) h 0 0 (0 : Int32) fp_X11_119_X11 oM_0 rfl rfl rfl rfl dX11_eaten_2 (fun S1 => ?_)
  refine V_aload_n (pc := 5) h 0 dX11_eaten_5 rfl rfl ?_
  refine V_iload_n (pc := 6) h 1 dX11_eaten_6 rfl rfl ?_
  refine V_callVI (pc := 7) (dy := 1) (q := (RX11, TX11, 59)) h [.int v1] [] 0 mv_X11_301 oM_0 rfl dX11_eaten_7 rfl rfl (Nat.le_of_ble_eq_true rfl) (Nat.le_trans (by decide) hD) (m_isHouse v1 S1) (fun z9 hz9 => m_isHouse_ct h.gg (Nat.le_refl 1) v1 S1 z9 hz9) (fun x3 S2 => ?_)
  refine V_if_eq (pc := 10) h 22 dX11_eaten_10 (by decide) ?_ ?_
  · refine V_ldcw (pc := 22) (v := -100000000) h dX11_eaten_22 tw_7_12 ?_
    exact V_iret (pc := 25) h hr hlk dX11_eaten_25
  · refine V_aload_n (pc := 13) h 0 dX11_eaten_13 rfl rfl ?_
    refine V_get (pc := 14) h 0 30 (.ref (a 13)) fl_X11_61_X11 oM_0 rfl rfl dX11_eaten_14 ?_
    refine V_iload_n (pc := 17) h 1 dX11_eaten_17 rfl rfl ?_
    refine V_iald (pc := 18) h 13 oM_13 dX11_eaten_18 ?_
    refine V_goto (pc := 19) h 25 dX11_eaten_19 (by decide) ?_
    exact V_iret (pc := 25) h hr hlk dX11_eaten_25
theorem m_eaten_ct {d : Nat} (g : GG s0 args0 D ca a A) (hD : 2 ≤ d) (v1 : Int32) (S : St) (z : Int32 × St) (hz : m_eaten v1 S = some z) : CtI l yX11_eaten cX11_eaten 2 .int d s0 D ca tpM a A [.ref (a 0), .int v1] S z := CtI_mk g (by decide +kernel) (Nat.le_of_ble_eq_true rfl) hz (fun p e s m args below meth c h hr hlk => m_eaten_ok h hr hlk hD v1 S)
def m_drawn_b105 (L44 : Int32 → Int64 → Int32 → St → Option (Int32 × St)) (L53 : Int32 → Int64 → Int32 → Int32 → St → Option (Int32 × St)) (v1 : Int32) (v4 : Int64) (v6 : Int32) (v7 : Int32) (k0 : Int32) (k1 : Int32) (S : St) : Option (Int32 × St) := (ckM k1 6 (bnd (up2 S 12 k1.toNatClampNeg k0) (fun S1 => (bnd (v7 + (1 : Int32)) (fun x2 => (L53 v1 v4 v6 x2 S1))))))
set_option maxHeartbeats 4000000 in
set_option maxRecDepth 100000 in
theorem m_drawn_b105_ok {d : Nat} (h : Cx p s m c cX11_drawn 9 RX11 s0 args0 D ca a A) (hr : meth.sig.returnType = some .int) (hlk : meth.locks = false) (hD : 51 ≤ d) (L44 : Int32 → Int64 → Int32 → St → Option (Int32 × St)) (hL44 : ∀ (v1 : Int32) (v4 : Int64) (v6 : Int32) (S : St), VV p l e (rmd d) s m args below meth c D ca tpM a A 9 (QmI D ca tpM a A below args s) S [(0, .ref (a 0)), (1, .int v1), (4, .long v4), (6, .int v6)] 44 [] (L44 v1 v4 v6 S)) (L53 : Int32 → Int64 → Int32 → Int32 → St → Option (Int32 × St)) (hL53 : ∀ (v1 : Int32) (v4 : Int64) (v6 : Int32) (v7 : Int32) (S : St), VV p l e (rmd d) s m args below meth c D ca tpM a A 9 (QmI D ca tpM a A below args s) S [(0, .ref (a 0)), (1, .int v1), (4, .long v4), (6, .int v6), (7, .int v7)] 53 [] (L53 v1 v4 v6 v7 S)) (v1 : Int32) (v4 : Int64) (v6 : Int32) (v7 : Int32) (k0 : Int32) (k1 : Int32) (S : St) : VV p l e (rmd d) s m args below meth c D ca tpM a A 9 (QmI D ca tpM a A below args s) S [(0, .ref (a 0)), (1, .int v1), (4, .long v4), (6, .int v6), (7, .int v7)] 105 [.int k0, .int k1, .ref (a 12)] (m_drawn_b105 L44 L53 v1 v4 v6 v7 k0 k1 S) := by
  unfold m_drawn_b105
  refine V_iast (pc := 105) h 12 oM_12 dX11_drawn_105 (fun S1 => ?_)
  refine V_iincB (pc := 106) h 4 (1 : Int32) (fun x2 => [(7, .int x2), (0, .ref (a 0)), (1, .int v1), (4, .long v4), (6, .int v6)]) dX11_drawn_106 rfl (by decide) (by decide) (fun _ => rfl) (fun x2 => ?_)
  refine V_goto (pc := 109) h 53 dX11_drawn_109 (by decide) ?_
  exact V_ls [1, 2, 3, 4, 0] rfl (hL53 v1 v4 v6 x2 S1)
def m_drawn_h53 (L44 : Int32 → Int64 → Int32 → St → Option (Int32 × St)) : Nat → Int32 → Int64 → Int32 → Int32 → St → Option (Int32 × St)
  | 0, _, _, _, _, _ => none
  | n + 1, v1, v4, v6, v7, S => (if (S 0 24) ≤ v7 then (bV (m_goesBy S) (fun S1 => (bnd (v6 + (1 : Int32)) (fun x2 => (L44 v1 v4 x2 S1))))) else (bnd ((v4 * (6364136223846793005 : Int64)) + (1442695040888963407 : Int64)) (fun x3 => (dvL (6 : Int64) (bnd ((((x3.toUInt64 >>> ((33 : Int32).toInt64.toUInt64 &&& Int64.toUInt64 63)).toInt64) - ((x3.toUInt64 >>> ((33 : Int32).toInt64.toUInt64 &&& Int64.toUInt64 63)).toInt64) / (6 : Int64) * (6 : Int64)).toInt32) (fun x4 => (if x4 = (5 : Int32) then (m_drawn_b105 L44 (m_drawn_h53 L44 n) v1 x3 v6 v7 (9 : Int32) v7 S) else (m_drawn_b105 L44 (m_drawn_h53 L44 n) v1 x3 v6 v7 x4 v7 S))))))))
set_option maxHeartbeats 4000000 in
set_option maxRecDepth 100000 in
theorem m_drawn_h53_ok {d : Nat} (h : Cx p s m c cX11_drawn 9 RX11 s0 args0 D ca a A) (hr : meth.sig.returnType = some .int) (hlk : meth.locks = false) (hD : 51 ≤ d) (L44 : Int32 → Int64 → Int32 → St → Option (Int32 × St)) (hL44 : ∀ (v1 : Int32) (v4 : Int64) (v6 : Int32) (S : St), VV p l e (rmd d) s m args below meth c D ca tpM a A 9 (QmI D ca tpM a A below args s) S [(0, .ref (a 0)), (1, .int v1), (4, .long v4), (6, .int v6)] 44 [] (L44 v1 v4 v6 S)) : ∀ (n : Nat) (v1 : Int32) (v4 : Int64) (v6 : Int32) (v7 : Int32) (S : St), VV p l e (rmd d) s m args below meth c D ca tpM a A 9 (QmI D ca tpM a A below args s) S [(0, .ref (a 0)), (1, .int v1), (4, .long v4), (6, .int v6), (7, .int v7)] 53 [] (m_drawn_h53 L44 n v1 v4 v6 v7 S) := by
  intro n
  induction n with
  | zero => intro v1 v4 v6 v7 S; exact V_none
  | succ n ih =>
    intro v1 v4 v6 v7 S
    unfold m_drawn_h53
    refine V_iload (pc := 53) h 4 dX11_drawn_53 rfl ?_
    refine V_aload_n (pc := 55) h 0 dX11_drawn_55 rfl rfl ?_
    refine V_get (pc := 56) h 0 24 (.int (S 0 24)) fl_X11_289_X11 oM_0 rfl rfl dX11_drawn_56 ?_
    refine V_icmp_ge (pc := 59) h 112 dX11_drawn_59 (by decide) ?_ ?_
    · refine V_aload_n (pc := 112) h 0 dX11_drawn_112 rfl rfl ?_
      refine V_callVV (pc := 113) (dy := 50) (q := (RX11, TX11, 59)) h [] [] 0 mv_X11_346 oM_0 rfl dX11_drawn_113 rfl rfl (Nat.le_of_ble_eq_true rfl) (Nat.le_trans (by decide) hD) (m_goesBy S) (fun z9 hz9 => m_goesBy_ct h.gg (Nat.le_refl 50) S z9 hz9) (fun S1 => ?_)
      refine V_iincB (pc := 116) h 3 (1 : Int32) (fun x2 => [(6, .int x2), (0, .ref (a 0)), (1, .int v1), (4, .long v4), (7, .int v7)]) dX11_drawn_116 rfl (by decide) (by decide) (fun _ => rfl) (fun x2 => ?_)
      refine V_goto (pc := 119) h 44 dX11_drawn_119 (by decide) ?_
      exact V_ls [1, 2, 3, 0] rfl (hL44 v1 v4 x2 S1)
    · refine V_lload (pc := 62) h 2 dX11_drawn_62 rfl ?_
      refine V_ldc2 (pc := 64) (v := 6364136223846793005) h dX11_drawn_64 tw_7_71 ?_
      refine V_lmul (pc := 67) h dX11_drawn_67 ?_
      refine V_ldc2 (pc := 68) (v := 1442695040888963407) h dX11_drawn_68 tw_7_72 ?_
      refine V_ladd (pc := 71) h dX11_drawn_71 ?_
      refine V_topl (fun x3 => ?_)
      refine V_lstore (pc := 72) h [(4, .long x3), (0, .ref (a 0)), (1, .int v1), (6, .int v6), (7, .int v7)] dX11_drawn_72 (by decide) rfl ?_
      refine V_lload (pc := 74) h 0 dX11_drawn_74 rfl ?_
      refine V_bipush (pc := 76) (v := 33) h dX11_drawn_76 (by decide) ?_
      refine V_lushr (pc := 78) h dX11_drawn_78 ?_
      refine V_ldc2 (pc := 79) (v := 6) h dX11_drawn_79 tw_7_73 ?_
      refine V_lrem (pc := 82) h dX11_drawn_82 ?_
      refine V_l2i (pc := 83) h dX11_drawn_83 ?_
      refine V_top (fun x4 => ?_)
      refine V_istore (pc := 84) h [(8, .int x4), (4, .long x3), (0, .ref (a 0)), (1, .int v1), (6, .int v6), (7, .int v7)] dX11_drawn_84 (by decide) rfl ?_
      refine V_aload_n (pc := 86) h 2 dX11_drawn_86 rfl rfl ?_
      refine V_get (pc := 87) h 0 29 (.ref (a 12)) fl_X11_58_X11 oM_0 rfl rfl dX11_drawn_87 ?_
      refine V_iload (pc := 90) h 5 dX11_drawn_90 rfl ?_
      refine V_iload (pc := 92) h 0 dX11_drawn_92 rfl ?_
      refine V_iconst (pc := 94) (v := 5) h dX11_drawn_94 (by decide) ?_
      refine V_icmp_ne (pc := 95) h 103 dX11_drawn_95 (by decide) ?_ ?_
      · refine V_iload (pc := 103) h 0 dX11_drawn_103 rfl ?_
        exact V_ls [2, 3, 1, 4, 5] rfl (m_drawn_b105_ok h hr hlk hD L44 hL44 (m_drawn_h53 L44 n) ih v1 x3 v6 v7 x4 v7 S)
      · refine V_bipush (pc := 98) (v := 9) h dX11_drawn_98 (by decide) ?_
        refine V_goto (pc := 100) h 105 dX11_drawn_100 (by decide) ?_
        exact V_ls [2, 3, 1, 4, 5] rfl (m_drawn_b105_ok h hr hlk hD L44 hL44 (m_drawn_h53 L44 n) ih v1 x3 v6 v7 (9 : Int32) v7 S)
def m_drawn_h44 : Nat → Int32 → Int64 → Int32 → St → Option (Int32 × St)
  | 0, _, _, _, _ => none
  | n + 1, v1, v4, v6, S => (if v1 ≤ v6 then (some ((S 0 32), S)) else (m_drawn_h53 (m_drawn_h44 n) FU v1 v4 v6 (0 : Int32) S))
set_option maxHeartbeats 4000000 in
set_option maxRecDepth 100000 in
theorem m_drawn_h44_ok {d : Nat} (h : Cx p s m c cX11_drawn 9 RX11 s0 args0 D ca a A) (hr : meth.sig.returnType = some .int) (hlk : meth.locks = false) (hD : 51 ≤ d) : ∀ (n : Nat) (v1 : Int32) (v4 : Int64) (v6 : Int32) (S : St), VV p l e (rmd d) s m args below meth c D ca tpM a A 9 (QmI D ca tpM a A below args s) S [(0, .ref (a 0)), (1, .int v1), (4, .long v4), (6, .int v6)] 44 [] (m_drawn_h44 n v1 v4 v6 S) := by
  intro n
  induction n with
  | zero => intro v1 v4 v6 S; exact V_none
  | succ n ih =>
    intro v1 v4 v6 S
    unfold m_drawn_h44
    refine V_iload (pc := 44) h 3 dX11_drawn_44 rfl ?_
    refine V_iload_n (pc := 46) h 1 dX11_drawn_46 rfl rfl ?_
    refine V_icmp_ge (pc := 47) h 122 dX11_drawn_47 (by decide) ?_ ?_
    · refine V_aload_n (pc := 122) h 0 dX11_drawn_122 rfl rfl ?_
      refine V_get (pc := 123) h 0 32 (.int (S 0 32)) fl_X11_292_X11 oM_0 rfl rfl dX11_drawn_123 ?_
      exact V_iret (pc := 126) h hr hlk dX11_drawn_126
    · refine V_iconst (pc := 50) (v := 0) h dX11_drawn_50 (by decide) ?_
      refine V_istore (pc := 51) h [(7, .int (0 : Int32)), (0, .ref (a 0)), (1, .int v1), (4, .long v4), (6, .int v6)] dX11_drawn_51 (by decide) rfl ?_
      exact V_ls [1, 2, 3, 4, 0] rfl (m_drawn_h53_ok h hr hlk hD (m_drawn_h44 n) ih FU v1 v4 v6 (0 : Int32) S)
def m_drawn (v1 : Int32) (v2 : Int64) (S : St) : Option (Int32 × St) := (bnd (up2 S 0 0 (0 : Int32)) (fun S1 => (if (S1 0 24) = 0 then (some ((-1 : Int32), S1)) else (bI (m_isIn (v1.toInt64) (1 : Int64) (30 : Int64) S1) (fun x3 S2 => (if x3 = 0 then (some ((-1 : Int32), S2)) else (if ((S2 0 32) + v1) ≤ (999 : Int32) then (m_drawn_h44 FU v1 v2 (0 : Int32) S2) else (some ((-1 : Int32), S2)))))))))
set_option maxHeartbeats 4000000 in
set_option maxRecDepth 100000 in
theorem m_drawn_ok {d : Nat} (h : Cx p s m c cX11_drawn 9 RX11 s0 args0 D ca a A) (hr : meth.sig.returnType = some .int) (hlk : meth.locks = false) (hD : 51 ≤ d) (v1 : Int32) (v2 : Int64) (S : St) : VV p l e (rmd d) s m args below meth c D ca tpM a A 9 (QmI D ca tpM a A below args s) S [(0, .ref (a 0)), (1, .int v1), (2, .long v2)] 0 [] (m_drawn v1 v2 S) := by
  unfold m_drawn
  refine V_aload_n (pc := 0) h 0 dX11_drawn_0 rfl rfl ?_
  refine V_iconst (pc := 1) (v := 0) h dX11_drawn_1 (by decide) ?_
  refine V_put (pc := 2) h 0 0 (0 : Int32) fp_X11_119_X11 oM_0 rfl rfl rfl rfl dX11_drawn_2 (fun S1 => ?_)
  refine V_aload_n (pc := 5) h 0 dX11_drawn_5 rfl rfl ?_
  refine V_get (pc := 6) h 0 24 (.int (S1 0 24)) fl_X11_289_X11 oM_0 rfl rfl dX11_drawn_6 ?_
  refine V_if_eq (pc := 9) h 36 dX11_drawn_9 (by decide) ?_ ?_
  · refine V_iconst (pc := 36) (v := -1) h dX11_drawn_36 (by decide) ?_
    exact V_iret (pc := 37) h hr hlk dX11_drawn_37
  · refine V_iload_n (pc := 12) h 1 dX11_drawn_12 rfl rfl ?_
    refine V_i2l (pc := 13) h dX11_drawn_13 ?_
    refine V_lconst (pc := 14) (v := 1) h dX11_drawn_14 (by decide) ?_
    refine V_ldc2 (pc := 15) (v := 30) h dX11_drawn_15 tw_7_50 ?_
    refine V_callSI (pc := 18) (dy := 1) h [.long (v1.toInt64), .long (1 : Int64), .long (30 : Int64)] [] ms_X11_240 dX11_drawn_18 rfl rfl (Nat.le_of_ble_eq_true rfl) (Nat.le_trans (by decide) hD) (m_isIn (v1.toInt64) (1 : Int64) (30 : Int64) S1) (fun z9 hz9 => m_isIn_ct h.gg (Nat.le_refl 1) (v1.toInt64) (1 : Int64) (30 : Int64) S1 z9 hz9) (fun x3 S2 => ?_)
    refine V_if_eq (pc := 21) h 36 dX11_drawn_21 (by decide) ?_ ?_
    · refine V_iconst (pc := 36) (v := -1) h dX11_drawn_36 (by decide) ?_
      exact V_iret (pc := 37) h hr hlk dX11_drawn_37
    · refine V_aload_n (pc := 24) h 0 dX11_drawn_24 rfl rfl ?_
      refine V_get (pc := 25) h 0 32 (.int (S2 0 32)) fl_X11_292_X11 oM_0 rfl rfl dX11_drawn_25 ?_
      refine V_iload_n (pc := 28) h 1 dX11_drawn_28 rfl rfl ?_
      refine V_iadd (pc := 29) h dX11_drawn_29 ?_
      refine V_sipush (pc := 30) (v := 999) h dX11_drawn_30 (by decide) ?_
      refine V_icmp_le (pc := 33) h 38 dX11_drawn_33 (by decide) ?_ ?_
      · refine V_lload_n (pc := 38) h 2 dX11_drawn_38 rfl rfl ?_
        refine V_lstore (pc := 39) h [(4, .long v2), (0, .ref (a 0)), (1, .int v1), (2, .long v2)] dX11_drawn_39 (by decide) rfl ?_
        refine V_iconst (pc := 41) (v := 0) h dX11_drawn_41 (by decide) ?_
        refine V_istore (pc := 42) h [(6, .int (0 : Int32)), (4, .long v2), (0, .ref (a 0)), (1, .int v1), (2, .long v2)] dX11_drawn_42 (by decide) rfl ?_
        exact V_ls [2, 3, 1, 0] rfl (m_drawn_h44_ok h hr hlk hD FU v1 v2 (0 : Int32) S2)
      · refine V_iconst (pc := 36) (v := -1) h dX11_drawn_36 (by decide) ?_
        exact V_iret (pc := 37) h hr hlk dX11_drawn_37
theorem m_drawn_ct {d : Nat} (g : GG s0 args0 D ca a A) (hD : 51 ≤ d) (v1 : Int32) (v2 : Int64) (S : St) (z : Int32 × St) (hz : m_drawn v1 v2 S = some z) : CtI l yX11_drawn cX11_drawn 9 .int d s0 D ca tpM a A [.ref (a 0), .int v1, .long v2] S z := CtI_mk g (by decide +kernel) (Nat.le_of_ble_eq_true rfl) hz (fun p e s m args below meth c h hr hlk => m_drawn_ok h hr hlk hD v1 v2 S)
def m_keep_h2 : Nat → Int32 → St → Option St
  | 0, _, _ => none
  | n + 1, v1, S => (if (6 : Int32) ≤ v1 then (bnd (up2 S 0 51 (0 : Int32)) (fun S1 => (some S1))) else (ckM v1 6 (ckM v1 6 (bnd (up2 S 22 v1.toNatClampNeg (S 12 v1.toNatClampNeg)) (fun S2 => (ckM v1 6 (ckM v1 6 (bnd (up2 S2 23 v1.toNatClampNeg (S2 11 v1.toNatClampNeg)) (fun S3 => (bnd (v1 + (1 : Int32)) (fun x4 => ((m_keep_h2 n) x4 S3))))))))))))
set_option maxHeartbeats 4000000 in
set_option maxRecDepth 100000 in
theorem m_keep_h2_ok {d : Nat} (h : Cx p s m c cX11_keep 2 RX11 s0 args0 D ca a A) (hr : meth.sig.returnType = none) (hlk : meth.locks = false) (hD : 1 ≤ d) : ∀ (n : Nat) (v1 : Int32) (S : St), VV p l e (rmd d) s m args below meth c D ca tpM a A 2 (QmV D ca tpM a A below args s) S [(0, .ref (a 0)), (1, .int v1)] 2 [] (m_keep_h2 n v1 S) := by
  intro n
  induction n with
  | zero => intro v1 S; exact V_none
  | succ n ih =>
    intro v1 S
    unfold m_keep_h2
    refine V_iload_n (pc := 2) h 1 dX11_keep_2 rfl rfl ?_
    refine V_bipush (pc := 3) (v := 6) h dX11_keep_3 (by decide) ?_
    refine V_icmp_ge (pc := 5) h 38 dX11_keep_5 (by decide) ?_ ?_
    · refine V_aload_n (pc := 38) h 0 dX11_keep_38 rfl rfl ?_
      refine V_iconst (pc := 39) (v := 0) h dX11_keep_39 (by decide) ?_
      refine V_put (pc := 40) h 0 51 (0 : Int32) fp_X11_355_X11 oM_0 rfl rfl rfl rfl dX11_keep_40 (fun S1 => ?_)
      exact V_vret (pc := 43) h hr hlk dX11_keep_43
    · refine V_aload_n (pc := 8) h 0 dX11_keep_8 rfl rfl ?_
      refine V_get (pc := 9) h 0 47 (.ref (a 22)) fl_X11_98_X11 oM_0 rfl rfl dX11_keep_9 ?_
      refine V_iload_n (pc := 12) h 1 dX11_keep_12 rfl rfl ?_
      refine V_aload_n (pc := 13) h 0 dX11_keep_13 rfl rfl ?_
      refine V_get (pc := 14) h 0 29 (.ref (a 12)) fl_X11_58_X11 oM_0 rfl rfl dX11_keep_14 ?_
      refine V_iload_n (pc := 17) h 1 dX11_keep_17 rfl rfl ?_
      refine V_iald (pc := 18) h 12 oM_12 dX11_keep_18 ?_
      refine V_iast (pc := 19) h 22 oM_22 dX11_keep_19 (fun S2 => ?_)
      refine V_aload_n (pc := 20) h 0 dX11_keep_20 rfl rfl ?_
      refine V_get (pc := 21) h 0 48 (.ref (a 23)) fl_X11_101_X11 oM_0 rfl rfl dX11_keep_21 ?_
      refine V_iload_n (pc := 24) h 1 dX11_keep_24 rfl rfl ?_
      refine V_aload_n (pc := 25) h 0 dX11_keep_25 rfl rfl ?_
      refine V_get (pc := 26) h 0 28 (.ref (a 11)) fl_X11_55_X11 oM_0 rfl rfl dX11_keep_26 ?_
      refine V_iload_n (pc := 29) h 1 dX11_keep_29 rfl rfl ?_
      refine V_iald (pc := 30) h 11 oM_11 dX11_keep_30 ?_
      refine V_iast (pc := 31) h 23 oM_23 dX11_keep_31 (fun S3 => ?_)
      refine V_iincB (pc := 32) h 1 (1 : Int32) (fun x4 => [(1, .int x4), (0, .ref (a 0))]) dX11_keep_32 rfl (by decide) (by decide) (fun _ => rfl) (fun x4 => ?_)
      refine V_goto (pc := 35) h 2 dX11_keep_35 (by decide) ?_
      exact V_ls [1, 0] rfl (ih x4 S3)
def m_keep (S : St) : Option St := (m_keep_h2 FU (0 : Int32) S)
set_option maxHeartbeats 4000000 in
set_option maxRecDepth 100000 in
theorem m_keep_ok {d : Nat} (h : Cx p s m c cX11_keep 2 RX11 s0 args0 D ca a A) (hr : meth.sig.returnType = none) (hlk : meth.locks = false) (hD : 1 ≤ d) (S : St) : VV p l e (rmd d) s m args below meth c D ca tpM a A 2 (QmV D ca tpM a A below args s) S [(0, .ref (a 0))] 0 [] (m_keep S) := by
  unfold m_keep
  refine V_iconst (pc := 0) (v := 0) h dX11_keep_0 (by decide) ?_
  refine V_istore_n (pc := 1) h [(1, .int (0 : Int32)), (0, .ref (a 0))] dX11_keep_1 rfl (by decide) rfl ?_
  exact V_ls [1, 0] rfl (m_keep_h2_ok h hr hlk hD FU (0 : Int32) S)
theorem m_keep_ct {d : Nat} (g : GG s0 args0 D ca a A) (hD : 1 ≤ d) (S : St) (z : St) (hz : m_keep S = some z) : CtV l yX11_keep cX11_keep 2 d s0 D ca tpM a A [.ref (a 0)] S z := CtV_mk g (by decide +kernel) (Nat.le_of_ble_eq_true rfl) hz (fun p e s m args below meth c h hr hlk => m_keep_ok h hr hlk hD S)
def m_putBack_h2 : Nat → Int32 → St → Option St
  | 0, _, _ => none
  | n + 1, v1, S => (if (6 : Int32) ≤ v1 then (some S) else (ckM v1 6 (ckM v1 6 (bnd (up2 S 12 v1.toNatClampNeg (S 22 v1.toNatClampNeg)) (fun S1 => (ckM v1 6 (ckM v1 6 (bnd (up2 S1 11 v1.toNatClampNeg (S1 23 v1.toNatClampNeg)) (fun S2 => (bnd (v1 + (1 : Int32)) (fun x3 => ((m_putBack_h2 n) x3 S2))))))))))))
set_option maxHeartbeats 4000000 in
set_option maxRecDepth 100000 in
theorem m_putBack_h2_ok {d : Nat} (h : Cx p s m c cX11_putBack 2 RX11 s0 args0 D ca a A) (hr : meth.sig.returnType = none) (hlk : meth.locks = false) (hD : 1 ≤ d) : ∀ (n : Nat) (v1 : Int32) (S : St), VV p l e (rmd d) s m args below meth c D ca tpM a A 2 (QmV D ca tpM a A below args s) S [(0, .ref (a 0)), (1, .int v1)] 2 [] (m_putBack_h2 n v1 S) := by
  intro n
  induction n with
  | zero => intro v1 S; exact V_none
  | succ n ih =>
    intro v1 S
    unfold m_putBack_h2
    refine V_iload_n (pc := 2) h 1 dX11_putBack_2 rfl rfl ?_
    refine V_bipush (pc := 3) (v := 6) h dX11_putBack_3 (by decide) ?_
    refine V_icmp_ge (pc := 5) h 38 dX11_putBack_5 (by decide) ?_ ?_
    · exact V_vret (pc := 38) h hr hlk dX11_putBack_38
    · refine V_aload_n (pc := 8) h 0 dX11_putBack_8 rfl rfl ?_
      refine V_get (pc := 9) h 0 29 (.ref (a 12)) fl_X11_58_X11 oM_0 rfl rfl dX11_putBack_9 ?_
      refine V_iload_n (pc := 12) h 1 dX11_putBack_12 rfl rfl ?_
      refine V_aload_n (pc := 13) h 0 dX11_putBack_13 rfl rfl ?_
      refine V_get (pc := 14) h 0 47 (.ref (a 22)) fl_X11_98_X11 oM_0 rfl rfl dX11_putBack_14 ?_
      refine V_iload_n (pc := 17) h 1 dX11_putBack_17 rfl rfl ?_
      refine V_iald (pc := 18) h 22 oM_22 dX11_putBack_18 ?_
      refine V_iast (pc := 19) h 12 oM_12 dX11_putBack_19 (fun S1 => ?_)
      refine V_aload_n (pc := 20) h 0 dX11_putBack_20 rfl rfl ?_
      refine V_get (pc := 21) h 0 28 (.ref (a 11)) fl_X11_55_X11 oM_0 rfl rfl dX11_putBack_21 ?_
      refine V_iload_n (pc := 24) h 1 dX11_putBack_24 rfl rfl ?_
      refine V_aload_n (pc := 25) h 0 dX11_putBack_25 rfl rfl ?_
      refine V_get (pc := 26) h 0 48 (.ref (a 23)) fl_X11_101_X11 oM_0 rfl rfl dX11_putBack_26 ?_
      refine V_iload_n (pc := 29) h 1 dX11_putBack_29 rfl rfl ?_
      refine V_iald (pc := 30) h 23 oM_23 dX11_putBack_30 ?_
      refine V_iast (pc := 31) h 11 oM_11 dX11_putBack_31 (fun S2 => ?_)
      refine V_iincB (pc := 32) h 1 (1 : Int32) (fun x3 => [(1, .int x3), (0, .ref (a 0))]) dX11_putBack_32 rfl (by decide) (by decide) (fun _ => rfl) (fun x3 => ?_)
      refine V_goto (pc := 35) h 2 dX11_putBack_35 (by decide) ?_
      exact V_ls [1, 0] rfl (ih x3 S2)
def m_putBack (S : St) : Option St := (m_putBack_h2 FU (0 : Int32) S)
set_option maxHeartbeats 4000000 in
set_option maxRecDepth 100000 in
theorem m_putBack_ok {d : Nat} (h : Cx p s m c cX11_putBack 2 RX11 s0 args0 D ca a A) (hr : meth.sig.returnType = none) (hlk : meth.locks = false) (hD : 1 ≤ d) (S : St) : VV p l e (rmd d) s m args below meth c D ca tpM a A 2 (QmV D ca tpM a A below args s) S [(0, .ref (a 0))] 0 [] (m_putBack S) := by
  unfold m_putBack
  refine V_iconst (pc := 0) (v := 0) h dX11_putBack_0 (by decide) ?_
  refine V_istore_n (pc := 1) h [(1, .int (0 : Int32)), (0, .ref (a 0))] dX11_putBack_1 rfl (by decide) rfl ?_
  exact V_ls [1, 0] rfl (m_putBack_h2_ok h hr hlk hD FU (0 : Int32) S)
theorem m_putBack_ct {d : Nat} (g : GG s0 args0 D ca a A) (hD : 1 ≤ d) (S : St) (z : St) (hz : m_putBack S = some z) : CtV l yX11_putBack cX11_putBack 2 d s0 D ca tpM a A [.ref (a 0)] S z := CtV_mk g (by decide +kernel) (Nat.le_of_ble_eq_true rfl) hz (fun p e s m args below meth c h hr hlk => m_putBack_ok h hr hlk hD S)
def m_puts (v1 : Int32) (v2 : Int32) (S : St) : Option (Int32 × St) := (bnd (up2 S 0 0 (0 : Int32)) (fun S1 => (if (S1 0 24) = 0 then (some ((-100000000 : Int32), S1)) else (if (S1 0 24) = (6 : Int32) then (some ((-100000000 : Int32), S1)) else (bI (m_isIn (v1.toInt64) (0 : Int64) (1 : Int64) S1) (fun x3 S2 => (if x3 = 0 then (some ((-100000000 : Int32), S2)) else (bI (m_isIn (v2.toInt64) (0 : Int64) (1 : Int64) S2) (fun x5 S4 => (if x5 = 0 then (some ((-100000000 : Int32), S4)) else (bV (m_keep S4) (fun S6 => (bV (m_goPuts_x (0 : Int32) (0 : Int32) v1 S6) (fun S7 => (bV (m_putBack S7) (fun S8 => (if v2 = 0 then (some ((S8 0 49), S8)) else (some ((S8 0 50), S8)))))))))))))))))))
set_option maxHeartbeats 4000000 in
set_option maxRecDepth 100000 in
theorem m_puts_ok {d : Nat} (h : Cx p s m c cX11_puts 3 RX11 s0 args0 D ca a A) (hr : meth.sig.returnType = some .int) (hlk : meth.locks = false) (hD : 60 ≤ d) (v1 : Int32) (v2 : Int32) (S : St) : VV p l e (rmd d) s m args below meth c D ca tpM a A 3 (QmI D ca tpM a A below args s) S [(0, .ref (a 0)), (1, .int v1), (2, .int v2)] 0 [] (m_puts v1 v2 S) := by
  unfold m_puts
  refine V_aload_n (pc := 0) h 0 dX11_puts_0 rfl rfl ?_
  refine V_iconst (pc := 1) (v := 0) h dX11_puts_1 (by decide) ?_
  refine V_put (pc := 2) h 0 0 (0 : Int32) fp_X11_119_X11 oM_0 rfl rfl rfl rfl dX11_puts_2 (fun S1 => ?_)
  refine V_aload_n (pc := 5) h 0 dX11_puts_5 rfl rfl ?_
  refine V_get (pc := 6) h 0 24 (.int (S1 0 24)) fl_X11_289_X11 oM_0 rfl rfl dX11_puts_6 ?_
  refine V_if_eq (pc := 9) h 41 dX11_puts_9 (by decide) ?_ ?_
  · refine V_ldcw (pc := 41) (v := -100000000) h dX11_puts_41 tw_7_12 ?_
    exact V_iret (pc := 44) h hr hlk dX11_puts_44
  · refine V_aload_n (pc := 12) h 0 dX11_puts_12 rfl rfl ?_
    refine V_get (pc := 13) h 0 24 (.int (S1 0 24)) fl_X11_289_X11 oM_0 rfl rfl dX11_puts_13 ?_
    refine V_bipush (pc := 16) (v := 6) h dX11_puts_16 (by decide) ?_
    refine V_icmp_eq (pc := 18) h 41 dX11_puts_18 (by decide) ?_ ?_
    · refine V_ldcw (pc := 41) (v := -100000000) h dX11_puts_41 tw_7_12 ?_
      exact V_iret (pc := 44) h hr hlk dX11_puts_44
    · refine V_iload_n (pc := 21) h 1 dX11_puts_21 rfl rfl ?_
      refine V_i2l (pc := 22) h dX11_puts_22 ?_
      refine V_lconst (pc := 23) (v := 0) h dX11_puts_23 (by decide) ?_
      refine V_lconst (pc := 24) (v := 1) h dX11_puts_24 (by decide) ?_
      refine V_callSI (pc := 25) (dy := 1) h [.long (v1.toInt64), .long (0 : Int64), .long (1 : Int64)] [] ms_X11_240 dX11_puts_25 rfl rfl (Nat.le_of_ble_eq_true rfl) (Nat.le_trans (by decide) hD) (m_isIn (v1.toInt64) (0 : Int64) (1 : Int64) S1) (fun z9 hz9 => m_isIn_ct h.gg (Nat.le_refl 1) (v1.toInt64) (0 : Int64) (1 : Int64) S1 z9 hz9) (fun x3 S2 => ?_)
      refine V_if_eq (pc := 28) h 41 dX11_puts_28 (by decide) ?_ ?_
      · refine V_ldcw (pc := 41) (v := -100000000) h dX11_puts_41 tw_7_12 ?_
        exact V_iret (pc := 44) h hr hlk dX11_puts_44
      · refine V_iload_n (pc := 31) h 2 dX11_puts_31 rfl rfl ?_
        refine V_i2l (pc := 32) h dX11_puts_32 ?_
        refine V_lconst (pc := 33) (v := 0) h dX11_puts_33 (by decide) ?_
        refine V_lconst (pc := 34) (v := 1) h dX11_puts_34 (by decide) ?_
        refine V_callSI (pc := 35) (dy := 1) h [.long (v2.toInt64), .long (0 : Int64), .long (1 : Int64)] [] ms_X11_240 dX11_puts_35 rfl rfl (Nat.le_of_ble_eq_true rfl) (Nat.le_trans (by decide) hD) (m_isIn (v2.toInt64) (0 : Int64) (1 : Int64) S2) (fun z9 hz9 => m_isIn_ct h.gg (Nat.le_refl 1) (v2.toInt64) (0 : Int64) (1 : Int64) S2 z9 hz9) (fun x5 S4 => ?_)
        refine V_if_ne (pc := 38) h 45 dX11_puts_38 (by decide) ?_ ?_
        · refine V_aload_n (pc := 45) h 0 dX11_puts_45 rfl rfl ?_
          refine V_callVV (pc := 46) (dy := 1) (q := (RX11, TX11, 59)) h [] [] 0 mv_X11_375 oM_0 rfl dX11_puts_46 rfl rfl (Nat.le_of_ble_eq_true rfl) (Nat.le_trans (by decide) hD) (m_keep S4) (fun z9 hz9 => m_keep_ct h.gg (Nat.le_refl 1) S4 z9 hz9) (fun S6 => ?_)
          refine V_aload_n (pc := 49) h 0 dX11_puts_49 rfl rfl ?_
          refine V_iconst (pc := 50) (v := 0) h dX11_puts_50 (by decide) ?_
          refine V_iconst (pc := 51) (v := 0) h dX11_puts_51 (by decide) ?_
          refine V_iload_n (pc := 52) h 1 dX11_puts_52 rfl rfl ?_
          refine V_callVV (pc := 53) (dy := 59) (q := (RX11, TX11, 59)) h [.int (0 : Int32), .int (0 : Int32), .int v1] [] 0 mv_X11_371 oM_0 rfl dX11_puts_53 rfl rfl (Nat.le_of_ble_eq_true rfl) (Nat.le_trans (by decide) hD) (m_goPuts_x (0 : Int32) (0 : Int32) v1 S6) (fun z9 hz9 => m_goPuts_x_ct h.gg (Nat.le_refl 59) (Nat.le_refl 59) (0 : Int32) (0 : Int32) v1 S6 z9 hz9) (fun S7 => ?_)
          refine V_aload_n (pc := 56) h 0 dX11_puts_56 rfl rfl ?_
          refine V_callVV (pc := 57) (dy := 1) (q := (RX11, TX11, 59)) h [] [] 0 mv_X11_378 oM_0 rfl dX11_puts_57 rfl rfl (Nat.le_of_ble_eq_true rfl) (Nat.le_trans (by decide) hD) (m_putBack S7) (fun z9 hz9 => m_putBack_ct h.gg (Nat.le_refl 1) S7 z9 hz9) (fun S8 => ?_)
          refine V_iload_n (pc := 60) h 2 dX11_puts_60 rfl rfl ?_
          refine V_if_ne (pc := 61) h 71 dX11_puts_61 (by decide) ?_ ?_
          · refine V_aload_n (pc := 71) h 0 dX11_puts_71 rfl rfl ?_
            refine V_get (pc := 72) h 0 50 (.int (S8 0 50)) fl_X11_358_X11 oM_0 rfl rfl dX11_puts_72 ?_
            exact V_iret (pc := 75) h hr hlk dX11_puts_75
          · refine V_aload_n (pc := 64) h 0 dX11_puts_64 rfl rfl ?_
            refine V_get (pc := 65) h 0 49 (.int (S8 0 49)) fl_X11_361_X11 oM_0 rfl rfl dX11_puts_65 ?_
            refine V_goto (pc := 68) h 75 dX11_puts_68 (by decide) ?_
            exact V_iret (pc := 75) h hr hlk dX11_puts_75
        · refine V_ldcw (pc := 41) (v := -100000000) h dX11_puts_41 tw_7_12 ?_
          exact V_iret (pc := 44) h hr hlk dX11_puts_44
theorem m_puts_ct {d : Nat} (g : GG s0 args0 D ca a A) (hD : 60 ≤ d) (v1 : Int32) (v2 : Int32) (S : St) (z : Int32 × St) (hz : m_puts v1 v2 S = some z) : CtI l yX11_puts cX11_puts 3 .int d s0 D ca tpM a A [.ref (a 0), .int v1, .int v2] S z := CtI_mk g (by decide +kernel) (Nat.le_of_ble_eq_true rfl) hz (fun p e s m args below meth c h hr hlk => m_puts_ok h hr hlk hD v1 v2 S)
def m_orders (v1 : Int32) (v2 : Int32) (S : St) : Option (Int32 × St) := (bnd (up2 S 0 0 (0 : Int32)) (fun S1 => (if (S1 0 24) = 0 then (some ((-100000000 : Int32), S1)) else (bI (m_isIn (v1.toInt64) (0 : Int64) (1 : Int64) S1) (fun x3 S2 => (if x3 = 0 then (some ((-100000000 : Int32), S2)) else (bI (m_isIn (v2.toInt64) (0 : Int64) (1 : Int64) S2) (fun x5 S4 => (if x5 = 0 then (some ((-100000000 : Int32), S4)) else (bV (m_keep S4) (fun S6 => (bV (m_goOrders_x (0 : Int32) (0 : Int32) (0 : Int32) v1 S6) (fun S7 => (bV (m_putBack S7) (fun S8 => (if v2 = 0 then (some ((S8 0 49), S8)) else (some ((S8 0 50), S8))))))))))))))))))
set_option maxHeartbeats 4000000 in
set_option maxRecDepth 100000 in
theorem m_orders_ok {d : Nat} (h : Cx p s m c cX11_orders 3 RX11 s0 args0 D ca a A) (hr : meth.sig.returnType = some .int) (hlk : meth.locks = false) (hD : 60 ≤ d) (v1 : Int32) (v2 : Int32) (S : St) : VV p l e (rmd d) s m args below meth c D ca tpM a A 3 (QmI D ca tpM a A below args s) S [(0, .ref (a 0)), (1, .int v1), (2, .int v2)] 0 [] (m_orders v1 v2 S) := by
  unfold m_orders
  refine V_aload_n (pc := 0) h 0 dX11_orders_0 rfl rfl ?_
  refine V_iconst (pc := 1) (v := 0) h dX11_orders_1 (by decide) ?_
  refine V_put (pc := 2) h 0 0 (0 : Int32) fp_X11_119_X11 oM_0 rfl rfl rfl rfl dX11_orders_2 (fun S1 => ?_)
  refine V_aload_n (pc := 5) h 0 dX11_orders_5 rfl rfl ?_
  refine V_get (pc := 6) h 0 24 (.int (S1 0 24)) fl_X11_289_X11 oM_0 rfl rfl dX11_orders_6 ?_
  refine V_if_eq (pc := 9) h 32 dX11_orders_9 (by decide) ?_ ?_
  · refine V_ldcw (pc := 32) (v := -100000000) h dX11_orders_32 tw_7_12 ?_
    exact V_iret (pc := 35) h hr hlk dX11_orders_35
  · refine V_iload_n (pc := 12) h 1 dX11_orders_12 rfl rfl ?_
    refine V_i2l (pc := 13) h dX11_orders_13 ?_
    refine V_lconst (pc := 14) (v := 0) h dX11_orders_14 (by decide) ?_
    refine V_lconst (pc := 15) (v := 1) h dX11_orders_15 (by decide) ?_
    refine V_callSI (pc := 16) (dy := 1) h [.long (v1.toInt64), .long (0 : Int64), .long (1 : Int64)] [] ms_X11_240 dX11_orders_16 rfl rfl (Nat.le_of_ble_eq_true rfl) (Nat.le_trans (by decide) hD) (m_isIn (v1.toInt64) (0 : Int64) (1 : Int64) S1) (fun z9 hz9 => m_isIn_ct h.gg (Nat.le_refl 1) (v1.toInt64) (0 : Int64) (1 : Int64) S1 z9 hz9) (fun x3 S2 => ?_)
    refine V_if_eq (pc := 19) h 32 dX11_orders_19 (by decide) ?_ ?_
    · refine V_ldcw (pc := 32) (v := -100000000) h dX11_orders_32 tw_7_12 ?_
      exact V_iret (pc := 35) h hr hlk dX11_orders_35
    · refine V_iload_n (pc := 22) h 2 dX11_orders_22 rfl rfl ?_
      refine V_i2l (pc := 23) h dX11_orders_23 ?_
      refine V_lconst (pc := 24) (v := 0) h dX11_orders_24 (by decide) ?_
      refine V_lconst (pc := 25) (v := 1) h dX11_orders_25 (by decide) ?_
      refine V_callSI (pc := 26) (dy := 1) h [.long (v2.toInt64), .long (0 : Int64), .long (1 : Int64)] [] ms_X11_240 dX11_orders_26 rfl rfl (Nat.le_of_ble_eq_true rfl) (Nat.le_trans (by decide) hD) (m_isIn (v2.toInt64) (0 : Int64) (1 : Int64) S2) (fun z9 hz9 => m_isIn_ct h.gg (Nat.le_refl 1) (v2.toInt64) (0 : Int64) (1 : Int64) S2 z9 hz9) (fun x5 S4 => ?_)
      refine V_if_ne (pc := 29) h 36 dX11_orders_29 (by decide) ?_ ?_
      · refine V_aload_n (pc := 36) h 0 dX11_orders_36 rfl rfl ?_
        refine V_callVV (pc := 37) (dy := 1) (q := (RX11, TX11, 59)) h [] [] 0 mv_X11_375 oM_0 rfl dX11_orders_37 rfl rfl (Nat.le_of_ble_eq_true rfl) (Nat.le_trans (by decide) hD) (m_keep S4) (fun z9 hz9 => m_keep_ct h.gg (Nat.le_refl 1) S4 z9 hz9) (fun S6 => ?_)
        refine V_aload_n (pc := 40) h 0 dX11_orders_40 rfl rfl ?_
        refine V_iconst (pc := 41) (v := 0) h dX11_orders_41 (by decide) ?_
        refine V_iconst (pc := 42) (v := 0) h dX11_orders_42 (by decide) ?_
        refine V_iconst (pc := 43) (v := 0) h dX11_orders_43 (by decide) ?_
        refine V_iload_n (pc := 44) h 1 dX11_orders_44 rfl rfl ?_
        refine V_callVV (pc := 45) (dy := 59) (q := (RX11, TX11, 59)) h [.int (0 : Int32), .int (0 : Int32), .int (0 : Int32), .int v1] [] 0 mv_X11_381 oM_0 rfl dX11_orders_45 rfl rfl (Nat.le_of_ble_eq_true rfl) (Nat.le_trans (by decide) hD) (m_goOrders_x (0 : Int32) (0 : Int32) (0 : Int32) v1 S6) (fun z9 hz9 => m_goOrders_x_ct h.gg (Nat.le_refl 59) (Nat.le_refl 59) (0 : Int32) (0 : Int32) (0 : Int32) v1 S6 z9 hz9) (fun S7 => ?_)
        refine V_aload_n (pc := 48) h 0 dX11_orders_48 rfl rfl ?_
        refine V_callVV (pc := 49) (dy := 1) (q := (RX11, TX11, 59)) h [] [] 0 mv_X11_378 oM_0 rfl dX11_orders_49 rfl rfl (Nat.le_of_ble_eq_true rfl) (Nat.le_trans (by decide) hD) (m_putBack S7) (fun z9 hz9 => m_putBack_ct h.gg (Nat.le_refl 1) S7 z9 hz9) (fun S8 => ?_)
        refine V_iload_n (pc := 52) h 2 dX11_orders_52 rfl rfl ?_
        refine V_if_ne (pc := 53) h 63 dX11_orders_53 (by decide) ?_ ?_
        · refine V_aload_n (pc := 63) h 0 dX11_orders_63 rfl rfl ?_
          refine V_get (pc := 64) h 0 50 (.int (S8 0 50)) fl_X11_358_X11 oM_0 rfl rfl dX11_orders_64 ?_
          exact V_iret (pc := 67) h hr hlk dX11_orders_67
        · refine V_aload_n (pc := 56) h 0 dX11_orders_56 rfl rfl ?_
          refine V_get (pc := 57) h 0 49 (.int (S8 0 49)) fl_X11_361_X11 oM_0 rfl rfl dX11_orders_57 ?_
          refine V_goto (pc := 60) h 67 dX11_orders_60 (by decide) ?_
          exact V_iret (pc := 67) h hr hlk dX11_orders_67
      · refine V_ldcw (pc := 32) (v := -100000000) h dX11_orders_32 tw_7_12 ?_
        exact V_iret (pc := 35) h hr hlk dX11_orders_35
theorem m_orders_ct {d : Nat} (g : GG s0 args0 D ca a A) (hD : 60 ≤ d) (v1 : Int32) (v2 : Int32) (S : St) (z : Int32 × St) (hz : m_orders v1 v2 S = some z) : CtI l yX11_orders cX11_orders 3 .int d s0 D ca tpM a A [.ref (a 0), .int v1, .int v2] S z := CtI_mk g (by decide +kernel) (Nat.le_of_ble_eq_true rfl) hz (fun p e s m args below meth c h hr hlk => m_orders_ok h hr hlk hD v1 v2 S)
def m_bestFor_b71 (L47 : Int32 → Int32 → Int32 → Int32 → St → Option (Int32 × St)) (v1 : Int32) (v2 : Int32) (v3 : Int32) (v4 : Int32) (k0 : Int32) (k1 : Int32) (S : St) : Option (Int32 × St) := (ckM k1 6 (bnd (up2 S 12 k1.toNatClampNeg k0) (fun S1 => (bV (m_noon (S1 0 32) S1) (fun S2 => (ckM v1 6 (bI (m_mealOf v2 (S2 0 32) S2) (fun x4 S3 => (bV (m_offers (S2 12 v1.toNatClampNeg) x4 S3) (fun S5 => (bnd (v4 + (1 : Int32)) (fun x6 => (L47 v1 v2 v3 x6 S5)))))))))))))
set_option maxHeartbeats 4000000 in
set_option maxRecDepth 100000 in
theorem m_bestFor_b71_ok {d : Nat} (h : Cx p s m c cX11_bestFor 5 RX11 s0 args0 D ca a A) (hr : meth.sig.returnType = some .int) (hlk : meth.locks = false) (hD : 50 ≤ d) (L47 : Int32 → Int32 → Int32 → Int32 → St → Option (Int32 × St)) (hL47 : ∀ (v1 : Int32) (v2 : Int32) (v3 : Int32) (v4 : Int32) (S : St), VV p l e (rmd d) s m args below meth c D ca tpM a A 5 (QmI D ca tpM a A below args s) S [(0, .ref (a 0)), (1, .int v1), (2, .int v2), (3, .int v3), (4, .int v4)] 47 [] (L47 v1 v2 v3 v4 S)) (v1 : Int32) (v2 : Int32) (v3 : Int32) (v4 : Int32) (k0 : Int32) (k1 : Int32) (S : St) : VV p l e (rmd d) s m args below meth c D ca tpM a A 5 (QmI D ca tpM a A below args s) S [(0, .ref (a 0)), (1, .int v1), (2, .int v2), (3, .int v3), (4, .int v4)] 71 [.int k0, .int k1, .ref (a 12)] (m_bestFor_b71 L47 v1 v2 v3 v4 k0 k1 S) := by
  unfold m_bestFor_b71
  refine V_iast (pc := 71) h 12 oM_12 dX11_bestFor_71 (fun S1 => ?_)
  refine V_aload_n (pc := 72) h 0 dX11_bestFor_72 rfl rfl ?_
  refine V_aload_n (pc := 73) h 0 dX11_bestFor_73 rfl rfl ?_
  refine V_get (pc := 74) h 0 32 (.int (S1 0 32)) fl_X11_292_X11 oM_0 rfl rfl dX11_bestFor_74 ?_
  refine V_callVV (pc := 77) (dy := 3) (q := (RX11, TX11, 59)) h [.int (S1 0 32)] [] 0 mv_X11_338 oM_0 rfl dX11_bestFor_77 rfl rfl (Nat.le_of_ble_eq_true rfl) (Nat.le_trans (by decide) hD) (m_noon (S1 0 32) S1) (fun z9 hz9 => m_noon_ct h.gg (Nat.le_refl 3) (S1 0 32) S1 z9 hz9) (fun S2 => ?_)
  refine V_aload_n (pc := 80) h 0 dX11_bestFor_80 rfl rfl ?_
  refine V_aload_n (pc := 81) h 0 dX11_bestFor_81 rfl rfl ?_
  refine V_get (pc := 82) h 0 29 (.ref (a 12)) fl_X11_58_X11 oM_0 rfl rfl dX11_bestFor_82 ?_
  refine V_iload_n (pc := 85) h 1 dX11_bestFor_85 rfl rfl ?_
  refine V_iald (pc := 86) h 12 oM_12 dX11_bestFor_86 ?_
  refine V_aload_n (pc := 87) h 0 dX11_bestFor_87 rfl rfl ?_
  refine V_iload_n (pc := 88) h 2 dX11_bestFor_88 rfl rfl ?_
  refine V_aload_n (pc := 89) h 0 dX11_bestFor_89 rfl rfl ?_
  refine V_get (pc := 90) h 0 32 (.int (S2 0 32)) fl_X11_292_X11 oM_0 rfl rfl dX11_bestFor_90 ?_
  refine V_callVI (pc := 93) (dy := 49) (q := (RX11, TX11, 59)) h [.int v2, .int (S2 0 32)] [.int (S2 12 v1.toNatClampNeg), .ref (a 0)] 0 mv_X11_332 oM_0 rfl dX11_bestFor_93 rfl rfl (Nat.le_of_ble_eq_true rfl) (Nat.le_trans (by decide) hD) (m_mealOf v2 (S2 0 32) S2) (fun z9 hz9 => m_mealOf_ct h.gg (Nat.le_refl 49) v2 (S2 0 32) S2 z9 hz9) (fun x4 S3 => ?_)
  refine V_callVV (pc := 96) (dy := 1) (q := (RX11, TX11, 59)) h [.int (S2 12 v1.toNatClampNeg), .int x4] [] 0 mv_X11_367 oM_0 rfl dX11_bestFor_96 rfl rfl (Nat.le_of_ble_eq_true rfl) (Nat.le_trans (by decide) hD) (m_offers (S2 12 v1.toNatClampNeg) x4 S3) (fun z9 hz9 => m_offers_ct h.gg (Nat.le_refl 1) (S2 12 v1.toNatClampNeg) x4 S3 z9 hz9) (fun S5 => ?_)
  refine V_iincB (pc := 99) h 4 (1 : Int32) (fun x6 => [(4, .int x6), (0, .ref (a 0)), (1, .int v1), (2, .int v2), (3, .int v3)]) dX11_bestFor_99 rfl (by decide) (by decide) (fun _ => rfl) (fun x6 => ?_)
  refine V_goto (pc := 102) h 47 dX11_bestFor_102 (by decide) ?_
  exact V_ls [1, 2, 3, 4, 0] rfl (hL47 v1 v2 v3 x6 S5)
def m_bestFor_h47 : Nat → Int32 → Int32 → Int32 → Int32 → St → Option (Int32 × St)
  | 0, _, _, _, _, _ => none
  | n + 1, v1, v2, v3, v4, S => (if (5 : Int32) < v4 then (bV (m_putBack S) (fun S1 => (if v3 = 0 then (some ((S1 0 49), S1)) else (some ((S1 0 50), S1))))) else (if v4 = (5 : Int32) then (m_bestFor_b71 (m_bestFor_h47 n) v1 v2 v3 v4 (9 : Int32) v1 S) else (m_bestFor_b71 (m_bestFor_h47 n) v1 v2 v3 v4 v4 v1 S)))
set_option maxHeartbeats 4000000 in
set_option maxRecDepth 100000 in
theorem m_bestFor_h47_ok {d : Nat} (h : Cx p s m c cX11_bestFor 5 RX11 s0 args0 D ca a A) (hr : meth.sig.returnType = some .int) (hlk : meth.locks = false) (hD : 50 ≤ d) : ∀ (n : Nat) (v1 : Int32) (v2 : Int32) (v3 : Int32) (v4 : Int32) (S : St), VV p l e (rmd d) s m args below meth c D ca tpM a A 5 (QmI D ca tpM a A below args s) S [(0, .ref (a 0)), (1, .int v1), (2, .int v2), (3, .int v3), (4, .int v4)] 47 [] (m_bestFor_h47 n v1 v2 v3 v4 S) := by
  intro n
  induction n with
  | zero => intro v1 v2 v3 v4 S; exact V_none
  | succ n ih =>
    intro v1 v2 v3 v4 S
    unfold m_bestFor_h47
    refine V_iload (pc := 47) h 4 dX11_bestFor_47 rfl ?_
    refine V_iconst (pc := 49) (v := 5) h dX11_bestFor_49 (by decide) ?_
    refine V_icmp_gt (pc := 50) h 105 dX11_bestFor_50 (by decide) ?_ ?_
    · refine V_aload_n (pc := 105) h 0 dX11_bestFor_105 rfl rfl ?_
      refine V_callVV (pc := 106) (dy := 1) (q := (RX11, TX11, 59)) h [] [] 0 mv_X11_378 oM_0 rfl dX11_bestFor_106 rfl rfl (Nat.le_of_ble_eq_true rfl) (Nat.le_trans (by decide) hD) (m_putBack S) (fun z9 hz9 => m_putBack_ct h.gg (Nat.le_refl 1) S z9 hz9) (fun S1 => ?_)
      refine V_iload_n (pc := 109) h 3 dX11_bestFor_109 rfl rfl ?_
      refine V_if_ne (pc := 110) h 120 dX11_bestFor_110 (by decide) ?_ ?_
      · refine V_aload_n (pc := 120) h 0 dX11_bestFor_120 rfl rfl ?_
        refine V_get (pc := 121) h 0 50 (.int (S1 0 50)) fl_X11_358_X11 oM_0 rfl rfl dX11_bestFor_121 ?_
        exact V_iret (pc := 124) h hr hlk dX11_bestFor_124
      · refine V_aload_n (pc := 113) h 0 dX11_bestFor_113 rfl rfl ?_
        refine V_get (pc := 114) h 0 49 (.int (S1 0 49)) fl_X11_361_X11 oM_0 rfl rfl dX11_bestFor_114 ?_
        refine V_goto (pc := 117) h 124 dX11_bestFor_117 (by decide) ?_
        exact V_iret (pc := 124) h hr hlk dX11_bestFor_124
    · refine V_aload_n (pc := 53) h 0 dX11_bestFor_53 rfl rfl ?_
      refine V_get (pc := 54) h 0 29 (.ref (a 12)) fl_X11_58_X11 oM_0 rfl rfl dX11_bestFor_54 ?_
      refine V_iload_n (pc := 57) h 1 dX11_bestFor_57 rfl rfl ?_
      refine V_iload (pc := 58) h 4 dX11_bestFor_58 rfl ?_
      refine V_iconst (pc := 60) (v := 5) h dX11_bestFor_60 (by decide) ?_
      refine V_icmp_ne (pc := 61) h 69 dX11_bestFor_61 (by decide) ?_ ?_
      · refine V_iload (pc := 69) h 4 dX11_bestFor_69 rfl ?_
        exact V_ls [0, 1, 2, 3, 4] rfl (m_bestFor_b71_ok h hr hlk hD (m_bestFor_h47 n) ih v1 v2 v3 v4 v4 v1 S)
      · refine V_bipush (pc := 64) (v := 9) h dX11_bestFor_64 (by decide) ?_
        refine V_goto (pc := 66) h 71 dX11_bestFor_66 (by decide) ?_
        exact V_ls [0, 1, 2, 3, 4] rfl (m_bestFor_b71_ok h hr hlk hD (m_bestFor_h47 n) ih v1 v2 v3 v4 (9 : Int32) v1 S)
def m_bestFor (v1 : Int32) (v2 : Int32) (v3 : Int32) (S : St) : Option (Int32 × St) := (bnd (up2 S 0 0 (0 : Int32)) (fun S1 => (bI (m_isHouse v1 S1) (fun x3 S2 => (if x3 = 0 then (some ((-100000000 : Int32), S2)) else (bI (m_isHouse v2 S2) (fun x5 S4 => (if x5 = 0 then (some ((-100000000 : Int32), S4)) else (if v1 = v2 then (some ((-100000000 : Int32), S4)) else (bI (m_isIn (v3.toInt64) (0 : Int64) (1 : Int64) S4) (fun x7 S6 => (if x7 = 0 then (some ((-100000000 : Int32), S6)) else (bV (m_keep S6) (fun S8 => (m_bestFor_h47 FU v1 v2 v3 (0 : Int32) S8)))))))))))))))
set_option maxHeartbeats 4000000 in
set_option maxRecDepth 100000 in
theorem m_bestFor_ok {d : Nat} (h : Cx p s m c cX11_bestFor 5 RX11 s0 args0 D ca a A) (hr : meth.sig.returnType = some .int) (hlk : meth.locks = false) (hD : 50 ≤ d) (v1 : Int32) (v2 : Int32) (v3 : Int32) (S : St) : VV p l e (rmd d) s m args below meth c D ca tpM a A 5 (QmI D ca tpM a A below args s) S [(0, .ref (a 0)), (1, .int v1), (2, .int v2), (3, .int v3)] 0 [] (m_bestFor v1 v2 v3 S) := by
  unfold m_bestFor
  refine V_aload_n (pc := 0) h 0 dX11_bestFor_0 rfl rfl ?_
  refine V_iconst (pc := 1) (v := 0) h dX11_bestFor_1 (by decide) ?_
  refine V_put (pc := 2) h 0 0 (0 : Int32) fp_X11_119_X11 oM_0 rfl rfl rfl rfl dX11_bestFor_2 (fun S1 => ?_)
  refine V_aload_n (pc := 5) h 0 dX11_bestFor_5 rfl rfl ?_
  refine V_iload_n (pc := 6) h 1 dX11_bestFor_6 rfl rfl ?_
  refine V_callVI (pc := 7) (dy := 1) (q := (RX11, TX11, 59)) h [.int v1] [] 0 mv_X11_301 oM_0 rfl dX11_bestFor_7 rfl rfl (Nat.le_of_ble_eq_true rfl) (Nat.le_trans (by decide) hD) (m_isHouse v1 S1) (fun z9 hz9 => m_isHouse_ct h.gg (Nat.le_refl 1) v1 S1 z9 hz9) (fun x3 S2 => ?_)
  refine V_if_eq (pc := 10) h 36 dX11_bestFor_10 (by decide) ?_ ?_
  · refine V_ldcw (pc := 36) (v := -100000000) h dX11_bestFor_36 tw_7_12 ?_
    exact V_iret (pc := 39) h hr hlk dX11_bestFor_39
  · refine V_aload_n (pc := 13) h 0 dX11_bestFor_13 rfl rfl ?_
    refine V_iload_n (pc := 14) h 2 dX11_bestFor_14 rfl rfl ?_
    refine V_callVI (pc := 15) (dy := 1) (q := (RX11, TX11, 59)) h [.int v2] [] 0 mv_X11_301 oM_0 rfl dX11_bestFor_15 rfl rfl (Nat.le_of_ble_eq_true rfl) (Nat.le_trans (by decide) hD) (m_isHouse v2 S2) (fun z9 hz9 => m_isHouse_ct h.gg (Nat.le_refl 1) v2 S2 z9 hz9) (fun x5 S4 => ?_)
    refine V_if_eq (pc := 18) h 36 dX11_bestFor_18 (by decide) ?_ ?_
    · refine V_ldcw (pc := 36) (v := -100000000) h dX11_bestFor_36 tw_7_12 ?_
      exact V_iret (pc := 39) h hr hlk dX11_bestFor_39
    · refine V_iload_n (pc := 21) h 1 dX11_bestFor_21 rfl rfl ?_
      refine V_iload_n (pc := 22) h 2 dX11_bestFor_22 rfl rfl ?_
      refine V_icmp_eq (pc := 23) h 36 dX11_bestFor_23 (by decide) ?_ ?_
      · refine V_ldcw (pc := 36) (v := -100000000) h dX11_bestFor_36 tw_7_12 ?_
        exact V_iret (pc := 39) h hr hlk dX11_bestFor_39
      · refine V_iload_n (pc := 26) h 3 dX11_bestFor_26 rfl rfl ?_
        refine V_i2l (pc := 27) h dX11_bestFor_27 ?_
        refine V_lconst (pc := 28) (v := 0) h dX11_bestFor_28 (by decide) ?_
        refine V_lconst (pc := 29) (v := 1) h dX11_bestFor_29 (by decide) ?_
        refine V_callSI (pc := 30) (dy := 1) h [.long (v3.toInt64), .long (0 : Int64), .long (1 : Int64)] [] ms_X11_240 dX11_bestFor_30 rfl rfl (Nat.le_of_ble_eq_true rfl) (Nat.le_trans (by decide) hD) (m_isIn (v3.toInt64) (0 : Int64) (1 : Int64) S4) (fun z9 hz9 => m_isIn_ct h.gg (Nat.le_refl 1) (v3.toInt64) (0 : Int64) (1 : Int64) S4 z9 hz9) (fun x7 S6 => ?_)
        refine V_if_ne (pc := 33) h 40 dX11_bestFor_33 (by decide) ?_ ?_
        · refine V_aload_n (pc := 40) h 0 dX11_bestFor_40 rfl rfl ?_
          refine V_callVV (pc := 41) (dy := 1) (q := (RX11, TX11, 59)) h [] [] 0 mv_X11_375 oM_0 rfl dX11_bestFor_41 rfl rfl (Nat.le_of_ble_eq_true rfl) (Nat.le_trans (by decide) hD) (m_keep S6) (fun z9 hz9 => m_keep_ct h.gg (Nat.le_refl 1) S6 z9 hz9) (fun S8 => ?_)
          refine V_iconst (pc := 44) (v := 0) h dX11_bestFor_44 (by decide) ?_
          refine V_istore (pc := 45) h [(4, .int (0 : Int32)), (0, .ref (a 0)), (1, .int v1), (2, .int v2), (3, .int v3)] dX11_bestFor_45 (by decide) rfl ?_
          exact V_ls [1, 2, 3, 4, 0] rfl (m_bestFor_h47_ok h hr hlk hD FU v1 v2 v3 (0 : Int32) S8)
        · refine V_ldcw (pc := 36) (v := -100000000) h dX11_bestFor_36 tw_7_12 ?_
          exact V_iret (pc := 39) h hr hlk dX11_bestFor_39
theorem m_bestFor_ct {d : Nat} (g : GG s0 args0 D ca a A) (hD : 50 ≤ d) (v1 : Int32) (v2 : Int32) (v3 : Int32) (S : St) (z : Int32 × St) (hz : m_bestFor v1 v2 v3 S = some z) : CtI l yX11_bestFor cX11_bestFor 5 .int d s0 D ca tpM a A [.ref (a 0), .int v1, .int v2, .int v3] S z := CtI_mk g (by decide +kernel) (Nat.le_of_ble_eq_true rfl) hz (fun p e s m args below meth c h hr hlk => m_bestFor_ok h hr hlk hD v1 v2 v3 S)
end GEN
