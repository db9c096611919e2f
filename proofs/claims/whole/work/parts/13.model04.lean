section GEN
variable {p : Program} {l : Launch} {e : Env} {s : State} {m : MethodId} {args : Array Value} {below : List Frame} {meth : Method} {c : Code}
variable {D : va_G} {ca : Nat → ClassId} {tp : List ODt} {a : Nat → Nat} {A : Nat → Prop} {s0 : State} {args0 : Array Value} {t : Nat}
def m_readItem_b78 (o1 : Nat) (v2 : Int32) (v3 : Int32) (v4 : Int32) (v6 : Int32) (S : St) : Option St := (bI (m_isDigit S) (fun x2 S1 => (if x2 = 0 then (bI (m_isIn (v6.toInt64) (v3.toInt64) (v4.toInt64) S1) (fun x4 S3 => (if x4 = 0 then (bnd (up2 S3 0 10 ((S3 0 10) - (1 : Int32))) (fun S6 => (bI (m_fails S6) (fun x8 S7 => (some S7))))) else (ckM v2 (alen tpM o1) (bnd (up2 S3 o1 v2.toNatClampNeg v6) (fun S5 => (some S5))))))) else (bI (m_fails S1) (fun x10 S9 => (some S9))))))
set_option maxHeartbeats 4000000 in
set_option maxRecDepth 100000 in
theorem m_readItem_b78_ok {d : Nat} (h : Cx p s m c cX11_readItem 7 RX11 s0 args0 D ca a A) (hr : meth.sig.returnType = none) (hlk : meth.locks = false) (hD : 2 ≤ d) (o1 : Nat) (ho1 : tpM[o1]? = some (.inr (0, alen tpM o1, 0))) (v2 : Int32) (v3 : Int32) (v4 : Int32) (v6 : Int32) (S : St) : VV p l e (rmd d) s m args below meth c D ca tpM a A 7 (QmV D ca tpM a A below args s) S [(0, .ref (a 0)), (1, .ref (a o1)), (2, .int v2), (3, .int v3), (4, .int v4), (6, .int v6)] 78 [] (m_readItem_b78 o1 v2 v3 v4 v6 S) := by
  unfold m_readItem_b78
  refine V_aload_n (pc := 78) h 0 dX11_readItem_78 rfl rfl ?_
  refine V_callVI (pc := 79) (dy := 1) (q := (RX11, TX11, 59)) h [] [] 0 mv_X11_191 oM_0 rfl dX11_readItem_79 rfl rfl (Nat.le_of_ble_eq_true rfl) (Nat.le_trans (by decide) hD) (m_isDigit S) (fun z9 hz9 => m_isDigit_ct h.gg (Nat.le_refl 1) S z9 hz9) (fun x2 S1 => ?_)
  refine V_if_eq (pc := 82) h 91 dX11_readItem_82 (by decide) ?_ ?_
  · refine V_iload (pc := 91) h 5 dX11_readItem_91 rfl ?_
    refine V_i2l (pc := 93) h dX11_readItem_93 ?_
    refine V_iload_n (pc := 94) h 3 dX11_readItem_94 rfl rfl ?_
    refine V_i2l (pc := 95) h dX11_readItem_95 ?_
    refine V_iload (pc := 96) h 4 dX11_readItem_96 rfl ?_
    refine V_i2l (pc := 98) h dX11_readItem_98 ?_
    refine V_callSI (pc := 99) (dy := 1) h [.long (v6.toInt64), .long (v3.toInt64), .long (v4.toInt64)] [] ms_X11_240 dX11_readItem_99 rfl rfl (Nat.le_of_ble_eq_true rfl) (Nat.le_trans (by decide) hD) (m_isIn (v6.toInt64) (v3.toInt64) (v4.toInt64) S1) (fun z9 hz9 => m_isIn_ct h.gg (Nat.le_refl 1) (v6.toInt64) (v3.toInt64) (v4.toInt64) S1 z9 hz9) (fun x4 S3 => ?_)
    refine V_if_ne (pc := 102) h 121 dX11_readItem_102 (by decide) ?_ ?_
    · refine V_aload_n (pc := 121) h 1 dX11_readItem_121 rfl rfl ?_
      refine V_iload_n (pc := 122) h 2 dX11_readItem_122 rfl rfl ?_
      refine V_iload (pc := 123) h 5 dX11_readItem_123 rfl ?_
      refine V_iast (pc := 125) h o1 ho1 dX11_readItem_125 (fun S5 => ?_)
      exact V_vret (pc := 126) h hr hlk dX11_readItem_126
    · refine V_aload_n (pc := 105) h 0 dX11_readItem_105 rfl rfl ?_
      refine V_dup (pc := 106) h dX11_readItem_106 rfl ?_
      refine V_get (pc := 107) h 0 10 (.int (S3 0 10)) fl_X11_142_X11 oM_0 rfl rfl dX11_readItem_107 ?_
      refine V_iconst (pc := 110) (v := 1) h dX11_readItem_110 (by decide) ?_
      refine V_isub (pc := 111) h dX11_readItem_111 ?_
      refine V_put (pc := 112) h 0 10 ((S3 0 10) - (1 : Int32)) fp_X11_142_X11 oM_0 rfl rfl rfl rfl dX11_readItem_112 (fun S6 => ?_)
      refine V_aload_n (pc := 115) h 0 dX11_readItem_115 rfl rfl ?_
      refine V_callVI (pc := 116) (dy := 1) (q := (RX11, TX11, 59)) h [] [] 0 mv_X11_157 oM_0 rfl dX11_readItem_116 rfl rfl (Nat.le_of_ble_eq_true rfl) (Nat.le_trans (by decide) hD) (m_fails S6) (fun z9 hz9 => m_fails_ct h.gg (Nat.le_refl 1) S6 z9 hz9) (fun x8 S7 => ?_)
      refine V_pop (pc := 119) h dX11_readItem_119 rfl ?_
      exact V_vret (pc := 120) h hr hlk dX11_readItem_120
  · refine V_aload_n (pc := 85) h 0 dX11_readItem_85 rfl rfl ?_
    refine V_callVI (pc := 86) (dy := 1) (q := (RX11, TX11, 59)) h [] [] 0 mv_X11_157 oM_0 rfl dX11_readItem_86 rfl rfl (Nat.le_of_ble_eq_true rfl) (Nat.le_trans (by decide) hD) (m_fails S1) (fun z9 hz9 => m_fails_ct h.gg (Nat.le_refl 1) S1 z9 hz9) (fun x10 S9 => ?_)
    refine V_pop (pc := 89) h dX11_readItem_89 rfl ?_
    exact V_vret (pc := 90) h hr hlk dX11_readItem_90
def m_readItem (o1 : Nat) (v2 : Int32) (v3 : Int32) (v4 : Int32) (S : St) : Option St := (bnd (up2 S 0 10 ((S 0 10) + (1 : Int32))) (fun S1 => (bI (m_look S1) (fun x3 S2 => (bI (m_isDigit S2) (fun x5 S4 => (if x5 = 0 then (bI (m_fails S4) (fun x15 S14 => (some S14))) else (bnd (x3 - (48 : Int32)) (fun x6 => (bnd (up2 S4 0 10 ((S4 0 10) + (1 : Int32))) (fun S7 => (bI (m_isDigit S7) (fun x9 S8 => (if x9 = 0 then (m_readItem_b78 o1 v2 v3 v4 x6 S8) else (bI (m_here S8) (fun x11 S10 => (bnd ((((10 : Int32) * x6) + x11) - (48 : Int32)) (fun x12 => (bnd (up2 S10 0 10 ((S10 0 10) + (1 : Int32))) (fun S13 => (m_readItem_b78 o1 v2 v3 v4 x12 S13)))))))))))))))))))))
set_option maxHeartbeats 4000000 in
set_option maxRecDepth 100000 in
theorem m_readItem_ok {d : Nat} (h : Cx p s m c cX11_readItem 7 RX11 s0 args0 D ca a A) (hr : meth.sig.returnType = none) (hlk : meth.locks = false) (hD : 2 ≤ d) (o1 : Nat) (ho1 : tpM[o1]? = some (.inr (0, alen tpM o1, 0))) (v2 : Int32) (v3 : Int32) (v4 : Int32) (S : St) : VV p l e (rmd d) s m args below meth c D ca tpM a A 7 (QmV D ca tpM a A below args s) S [(0, .ref (a 0)), (1, .ref (a o1)), (2, .int v2), (3, .int v3), (4, .int v4)] 0 [] (m_readItem o1 v2 v3 v4 S) := by
  unfold m_readItem
  refine V_aload_n (pc := 0) h 0 dX11_readItem_0 rfl rfl ?_
  refine V_dup (pc := 1) h dX11_readItem_1 rfl ?_
  refine V_get (pc := 2) h 0 10 (.int (S 0 10)) fl_X11_142_X11 oM_0 rfl rfl dX11_readItem_2 ?_
  refine V_iconst (pc := 5) (v := 1) h dX11_readItem_5 (by decide) ?_
  refine V_iadd (pc := 6) h dX11_readItem_6 ?_
  refine V_put (pc := 7) h 0 10 ((S 0 10) + (1 : Int32)) fp_X11_142_X11 oM_0 rfl rfl rfl rfl dX11_readItem_7 (fun S1 => ?_)
  refine V_aload_n (pc := 10) h 0 dX11_readItem_10 rfl rfl ?_
  refine V_callVI (pc := 11) (dy := 1) (q := (RX11, TX11, 59)) h [] [] 0 mv_X11_161 oM_0 rfl dX11_readItem_11 rfl rfl (Nat.le_of_ble_eq_true rfl) (Nat.le_trans (by decide) hD) (m_look S1) (fun z9 hz9 => m_look_ct h.gg (Nat.le_refl 1) S1 z9 hz9) (fun x3 S2 => ?_)
  refine V_istore (pc := 14) h [(5, .int x3), (0, .ref (a 0)), (1, .ref (a o1)), (2, .int v2), (3, .int v3), (4, .int v4)] dX11_readItem_14 (by decide) rfl ?_
  refine V_aload_n (pc := 16) h 1 dX11_readItem_16 rfl rfl ?_
  refine V_callVI (pc := 17) (dy := 1) (q := (RX11, TX11, 59)) h [] [] 0 mv_X11_191 oM_0 rfl dX11_readItem_17 rfl rfl (Nat.le_of_ble_eq_true rfl) (Nat.le_trans (by decide) hD) (m_isDigit S2) (fun z9 hz9 => m_isDigit_ct h.gg (Nat.le_refl 1) S2 z9 hz9) (fun x5 S4 => ?_)
  refine V_if_ne (pc := 20) h 29 dX11_readItem_20 (by decide) ?_ ?_
  · refine V_iload (pc := 29) h 0 dX11_readItem_29 rfl ?_
    refine V_bipush (pc := 31) (v := 48) h dX11_readItem_31 (by decide) ?_
    refine V_isub (pc := 33) h dX11_readItem_33 ?_
    refine V_top (fun x6 => ?_)
    refine V_istore (pc := 34) h [(6, .int x6), (5, .int x3), (0, .ref (a 0)), (1, .ref (a o1)), (2, .int v2), (3, .int v3), (4, .int v4)] dX11_readItem_34 (by decide) rfl ?_
    refine V_aload_n (pc := 36) h 2 dX11_readItem_36 rfl rfl ?_
    refine V_dup (pc := 37) h dX11_readItem_37 rfl ?_
    refine V_get (pc := 38) h 0 10 (.int (S4 0 10)) fl_X11_142_X11 oM_0 rfl rfl dX11_readItem_38 ?_
    refine V_iconst (pc := 41) (v := 1) h dX11_readItem_41 (by decide) ?_
    refine V_iadd (pc := 42) h dX11_readItem_42 ?_
    refine V_put (pc := 43) h 0 10 ((S4 0 10) + (1 : Int32)) fp_X11_142_X11 oM_0 rfl rfl rfl rfl dX11_readItem_43 (fun S7 => ?_)
    refine V_aload_n (pc := 46) h 2 dX11_readItem_46 rfl rfl ?_
    refine V_callVI (pc := 47) (dy := 1) (q := (RX11, TX11, 59)) h [] [] 0 mv_X11_191 oM_0 rfl dX11_readItem_47 rfl rfl (Nat.le_of_ble_eq_true rfl) (Nat.le_trans (by decide) hD) (m_isDigit S7) (fun z9 hz9 => m_isDigit_ct h.gg (Nat.le_refl 1) S7 z9 hz9) (fun x9 S8 => ?_)
    refine V_if_eq (pc := 50) h 78 dX11_readItem_50 (by decide) ?_ ?_
    · exact V_ls [2, 3, 4, 5, 6, 0] rfl (m_readItem_b78_ok h hr hlk hD o1 ho1 v2 v3 v4 x6 S8)
    · refine V_bipush (pc := 53) (v := 10) h dX11_readItem_53 (by decide) ?_
      refine V_iload (pc := 55) h 0 dX11_readItem_55 rfl ?_
      refine V_imul (pc := 57) h dX11_readItem_57 ?_
      refine V_aload_n (pc := 58) h 2 dX11_readItem_58 rfl rfl ?_
      refine V_callVI (pc := 59) (dy := 1) (q := (RX11, TX11, 59)) h [] [.int ((10 : Int32) * x6)] 0 mv_X11_237 oM_0 rfl dX11_readItem_59 rfl rfl (Nat.le_of_ble_eq_true rfl) (Nat.le_trans (by decide) hD) (m_here S8) (fun z9 hz9 => m_here_ct h.gg (Nat.le_refl 1) S8 z9 hz9) (fun x11 S10 => ?_)
      refine V_iadd (pc := 62) h dX11_readItem_62 ?_
      refine V_bipush (pc := 63) (v := 48) h dX11_readItem_63 (by decide) ?_
      refine V_isub (pc := 65) h dX11_readItem_65 ?_
      refine V_top (fun x12 => ?_)
      refine V_istore (pc := 66) h [(6, .int x12), (5, .int x3), (0, .ref (a 0)), (1, .ref (a o1)), (2, .int v2), (3, .int v3), (4, .int v4)] dX11_readItem_66 (by decide) rfl ?_
      refine V_aload_n (pc := 68) h 2 dX11_readItem_68 rfl rfl ?_
      refine V_dup (pc := 69) h dX11_readItem_69 rfl ?_
      refine V_get (pc := 70) h 0 10 (.int (S10 0 10)) fl_X11_142_X11 oM_0 rfl rfl dX11_readItem_70 ?_
      refine V_iconst (pc := 73) (v := 1) h dX11_readItem_73 (by decide) ?_
      refine V_iadd (pc := 74) h dX11_readItem_74 ?_
      refine V_put (pc := 75) h 0 10 ((S10 0 10) + (1 : Int32)) fp_X11_142_X11 oM_0 rfl rfl rfl rfl dX11_readItem_75 (fun S13 => ?_)
      exact V_ls [2, 3, 4, 5, 6, 0] rfl (m_readItem_b78_ok h hr hlk hD o1 ho1 v2 v3 v4 x12 S13)
  · refine V_aload_n (pc := 23) h 1 dX11_readItem_23 rfl rfl ?_
    refine V_callVI (pc := 24) (dy := 1) (q := (RX11, TX11, 59)) h [] [] 0 mv_X11_157 oM_0 rfl dX11_readItem_24 rfl rfl (Nat.le_of_ble_eq_true rfl) (Nat.le_trans (by decide) hD) (m_fails S4) (fun z9 hz9 => m_fails_ct h.gg (Nat.le_refl 1) S4 z9 hz9) (fun x15 S14 => ?_)
    refine V_pop (pc := 27) h dX11_readItem_27 rfl ?_
    exact V_vret (pc := 28) h hr hlk dX11_readItem_28
theorem m_readItem_ct {d : Nat} (g : GG s0 args0 D ca a A) (hD : 2 ≤ d) {o1 : Nat} (ho1 : tpM[o1]? = some (.inr (0, alen tpM o1, 0))) (v2 : Int32) (v3 : Int32) (v4 : Int32) (S : St) (z : St) (hz : m_readItem o1 v2 v3 v4 S = some z) : CtV l yX11_readItem cX11_readItem 7 d s0 D ca tpM a A [.ref (a 0), .ref (a o1), .int v2, .int v3, .int v4] S z := CtV_mk g (by decide +kernel) (Nat.le_of_ble_eq_true rfl) hz (fun p e s m args below meth c h hr hlk => m_readItem_ok h hr hlk hD o1 ho1 v2 v3 v4 S)
def m_readClause_b228 (L190 : Int32 → Int32 → Nat → Nat → Int32 → St → Option St) (v1 : Int32) (v3 : Int32) (qv4 : Nat) (qv5 : Nat) (v6 : Int32) (k0 : Int32) (k1 : Int32) (qk2 : Nat) (S : St) : Option St := (ckM k1 (alen tpM qk2) (bnd (up2 S qk2 k1.toNatClampNeg k0) (fun S1 => (bnd (v6 + (1 : Int32)) (fun x2 => (L190 v1 v3 qv4 qv5 x2 S1))))))
set_option maxHeartbeats 4000000 in
set_option maxRecDepth 100000 in
theorem m_readClause_b228_ok {d : Nat} (h : Cx p s m c cX11_readClause 8 RX11 s0 args0 D ca a A) (hr : meth.sig.returnType = none) (hlk : meth.locks = false) (hD : 6 ≤ d) (L190 : Int32 → Int32 → Nat → Nat → Int32 → St → Option St) (hL190 : ∀ (v1 : Int32) (v3 : Int32) (qv4 : Nat) (hqv4 : tpM[qv4]? = some (.inr (0, alen tpM qv4, 0))) (qv5 : Nat) (hqv5 : qv5 < 7) (v6 : Int32) (S : St), VV p l e (rmd d) s m args below meth c D ca tpM a A 8 (QmV D ca tpM a A below args s) S [(0, .ref (a 0)), (1, .int v1), (3, .int v3), (4, .ref (a qv4)), (5, .ref (a (200 + qv5))), (6, .int v6)] 190 [] (L190 v1 v3 qv4 qv5 v6 S)) (v1 : Int32) (v3 : Int32) (qv4 : Nat) (hqv4 : tpM[qv4]? = some (.inr (0, alen tpM qv4, 0))) (qv5 : Nat) (hqv5 : qv5 < 7) (v6 : Int32) (k0 : Int32) (k1 : Int32) (qk2 : Nat) (hqk2 : tpM[qk2]? = some (.inr (0, alen tpM qk2, 0))) (S : St) : VV p l e (rmd d) s m args below meth c D ca tpM a A 8 (QmV D ca tpM a A below args s) S [(0, .ref (a 0)), (1, .int v1), (3, .int v3), (4, .ref (a qv4)), (5, .ref (a (200 + qv5))), (6, .int v6)] 228 [.int k0, .int k1, .ref (a qk2)] (m_readClause_b228 L190 v1 v3 qv4 qv5 v6 k0 k1 qk2 S) := by
  unfold m_readClause_b228
  refine V_iast (pc := 228) h qk2 hqk2 dX11_readClause_228 (fun S1 => ?_)
  refine V_iincB (pc := 229) h 5 (1 : Int32) (fun x2 => [(6, .int x2), (0, .ref (a 0)), (1, .int v1), (3, .int v3), (4, .ref (a qv4)), (5, .ref (a (200 + qv5)))]) dX11_readClause_229 rfl (by decide) (by decide) (fun _ => rfl) (fun x2 => ?_)
  refine V_goto (pc := 232) h 190 dX11_readClause_232 (by decide) ?_
  exact V_ls [1, 2, 3, 4, 5, 0] rfl (hL190 v1 v3 qv4 hqv4 qv5 hqv5 x2 S1)
def m_readClause_b311 (L249 : Int32 → Int32 → Nat → Nat → Int32 → Int32 → St → Option St) (v1 : Int32) (v3 : Int32) (qv4 : Nat) (qv5 : Nat) (v6 : Int32) (v7 : Int32) (k0 : Int32) (k1 : Int32) (qk2 : Nat) (S : St) : Option St := (bI (m_mostOf v1 v7 S) (fun x2 S1 => (bV (m_readItem qk2 k1 k0 x2 S1) (fun S3 => (if (S3 0 11) = (-1 : Int32) then (bI (m_look S3) (fun x5 S4 => (bI (m_placeOf qv5 x5 S4) (fun x7 S6 => (L249 v1 v3 qv4 qv5 v6 x7 S6))))) else (L249 v1 v3 qv4 qv5 v6 v7 S3))))))
set_option maxHeartbeats 4000000 in
set_option maxRecDepth 100000 in
theorem m_readClause_b311_ok {d : Nat} (h : Cx p s m c cX11_readClause 8 RX11 s0 args0 D ca a A) (hr : meth.sig.returnType = none) (hlk : meth.locks = false) (hD : 6 ≤ d) (L249 : Int32 → Int32 → Nat → Nat → Int32 → Int32 → St → Option St) (hL249 : ∀ (v1 : Int32) (v3 : Int32) (qv4 : Nat) (hqv4 : tpM[qv4]? = some (.inr (0, alen tpM qv4, 0))) (qv5 : Nat) (hqv5 : qv5 < 7) (v6 : Int32) (v7 : Int32) (S : St), VV p l e (rmd d) s m args below meth c D ca tpM a A 8 (QmV D ca tpM a A below args s) S [(0, .ref (a 0)), (1, .int v1), (3, .int v3), (4, .ref (a qv4)), (5, .ref (a (200 + qv5))), (6, .int v6), (7, .int v7)] 249 [] (L249 v1 v3 qv4 qv5 v6 v7 S)) (v1 : Int32) (v3 : Int32) (qv4 : Nat) (hqv4 : tpM[qv4]? = some (.inr (0, alen tpM qv4, 0))) (qv5 : Nat) (hqv5 : qv5 < 7) (v6 : Int32) (v7 : Int32) (k0 : Int32) (k1 : Int32) (qk2 : Nat) (hqk2 : tpM[qk2]? = some (.inr (0, alen tpM qk2, 0))) (S : St) : VV p l e (rmd d) s m args below meth c D ca tpM a A 8 (QmV D ca tpM a A below args s) S [(0, .ref (a 0)), (1, .int v1), (3, .int v3), (4, .ref (a qv4)), (5, .ref (a (200 + qv5))), (6, .int v6), (7, .int v7)] 311 [.int k0, .int k1, .ref (a qk2), .ref (a 0)] (m_readClause_b311 L249 v1 v3 qv4 qv5 v6 v7 k0 k1 qk2 S) := by
  unfold m_readClause_b311
  refine V_iload_n (pc := 311) h 1 dX11_readClause_311 rfl rfl ?_
  refine V_iload (pc := 312) h 6 dX11_readClause_312 rfl ?_
  refine V_callSI (pc := 314) (dy := 1) h [.int v1, .int v7] [.int k0, .int k1, .ref (a qk2), .ref (a 0)] ms_X11_267 dX11_readClause_314 rfl rfl (Nat.le_of_ble_eq_true rfl) (Nat.le_trans (by decide) hD) (m_mostOf v1 v7 S) (fun z9 hz9 => m_mostOf_ct h.gg (Nat.le_refl 1) v1 v7 S z9 hz9) (fun x2 S1 => ?_)
  refine V_callVV (pc := 317) (dy := 2) (q := (RX11, TX11, 59)) h [.ref (a qk2), .int k1, .int k0, .int x2] [] 0 mv_X11_271 oM_0 rfl dX11_readClause_317 rfl rfl (Nat.le_of_ble_eq_true rfl) (Nat.le_trans (by decide) hD) (m_readItem qk2 k1 k0 x2 S1) (fun z9 hz9 => m_readItem_ct h.gg (Nat.le_refl 2) hqk2 k1 k0 x2 S1 z9 hz9) (fun S3 => ?_)
  refine V_aload_n (pc := 320) h 0 dX11_readClause_320 rfl rfl ?_
  refine V_get (pc := 321) h 0 11 (.int (S3 0 11)) fl_X11_151_X11 oM_0 rfl rfl dX11_readClause_321 ?_
  refine V_iconst (pc := 324) (v := -1) h dX11_readClause_324 (by decide) ?_
  refine V_icmp_ne (pc := 325) h 249 dX11_readClause_325 (by decide) ?_ ?_
  · exact V_ls [0, 1, 2, 3, 4, 5, 6] rfl (hL249 v1 v3 qv4 hqv4 qv5 hqv5 v6 v7 S3)
  · refine V_aload (pc := 328) h 4 dX11_readClause_328 rfl ?_
    refine V_aload_n (pc := 330) h 0 dX11_readClause_330 rfl rfl ?_
    refine V_callVI (pc := 331) (dy := 1) (q := (RX11, TX11, 59)) h [] [.ref (a (200 + qv5))] 0 mv_X11_161 oM_0 rfl dX11_readClause_331 rfl rfl (Nat.le_of_ble_eq_true rfl) (Nat.le_trans (by decide) hD) (m_look S3) (fun z9 hz9 => m_look_ct h.gg (Nat.le_refl 1) S3 z9 hz9) (fun x5 S4 => ?_)
    refine V_callSI (pc := 334) (dy := 5) h [.ref (a (200 + qv5)), .int x5] [] ms_X11_259 dX11_readClause_334 rfl rfl (Nat.le_of_ble_eq_true rfl) (Nat.le_trans (by decide) hD) (m_placeOf qv5 x5 S4) (fun z9 hz9 => m_placeOf_ct h.gg (Nat.le_refl 5) hqv5 x5 S4 z9 hz9) (fun x7 S6 => ?_)
    refine V_istore (pc := 337) h [(7, .int x7), (0, .ref (a 0)), (1, .int v1), (3, .int v3), (4, .ref (a qv4)), (5, .ref (a (200 + qv5))), (6, .int v6)] dX11_readClause_337 (by decide) rfl ?_
    refine V_goto (pc := 339) h 249 dX11_readClause_339 (by decide) ?_
    exact V_ls [1, 2, 3, 4, 5, 6, 0] rfl (hL249 v1 v3 qv4 hqv4 qv5 hqv5 v6 x7 S6)
def m_readClause_b310 (L249 : Int32 → Int32 → Nat → Nat → Int32 → Int32 → St → Option St) (v1 : Int32) (v3 : Int32) (qv4 : Nat) (qv5 : Nat) (v6 : Int32) (v7 : Int32) (k0 : Int32) (qk1 : Nat) (S : St) : Option St := (m_readClause_b311 L249 v1 v3 qv4 qv5 v6 v7 (0 : Int32) k0 qk1 S)
set_option maxHeartbeats 4000000 in
set_option maxRecDepth 100000 in
theorem m_readClause_b310_ok {d : Nat} (h : Cx p s m c cX11_readClause 8 RX11 s0 args0 D ca a A) (hr : meth.sig.returnType = none) (hlk : meth.locks = false) (hD : 6 ≤ d) (L249 : Int32 → Int32 → Nat → Nat → Int32 → Int32 → St → Option St) (hL249 : ∀ (v1 : Int32) (v3 : Int32) (qv4 : Nat) (hqv4 : tpM[qv4]? = some (.inr (0, alen tpM qv4, 0))) (qv5 : Nat) (hqv5 : qv5 < 7) (v6 : Int32) (v7 : Int32) (S : St), VV p l e (rmd d) s m args below meth c D ca tpM a A 8 (QmV D ca tpM a A below args s) S [(0, .ref (a 0)), (1, .int v1), (3, .int v3), (4, .ref (a qv4)), (5, .ref (a (200 + qv5))), (6, .int v6), (7, .int v7)] 249 [] (L249 v1 v3 qv4 qv5 v6 v7 S)) (v1 : Int32) (v3 : Int32) (qv4 : Nat) (hqv4 : tpM[qv4]? = some (.inr (0, alen tpM qv4, 0))) (qv5 : Nat) (hqv5 : qv5 < 7) (v6 : Int32) (v7 : Int32) (k0 : Int32) (qk1 : Nat) (hqk1 : tpM[qk1]? = some (.inr (0, alen tpM qk1, 0))) (S : St) : VV p l e (rmd d) s m args below meth c D ca tpM a A 8 (QmV D ca tpM a A below args s) S [(0, .ref (a 0)), (1, .int v1), (3, .int v3), (4, .ref (a qv4)), (5, .ref (a (200 + qv5))), (6, .int v6), (7, .int v7)] 310 [.int k0, .ref (a qk1), .ref (a 0)] (m_readClause_b310 L249 v1 v3 qv4 qv5 v6 v7 k0 qk1 S) := by
  unfold m_readClause_b310
  refine V_iconst (pc := 310) (v := 0) h dX11_readClause_310 (by decide) ?_
  exact V_ls [0, 1, 2, 3, 4, 5, 6] rfl (m_readClause_b311_ok h hr hlk hD L249 hL249 v1 v3 qv4 hqv4 qv5 hqv5 v6 v7 (0 : Int32) k0 qk1 hqk1 S)
def m_readClause_h249 : Nat → Int32 → Int32 → Nat → Nat → Int32 → Int32 → St → Option St
  | 0, _, _, _, _, _, _, _ => none
  | n + 1, v1, v3, qv4, qv5, v6, v7, S => (if v7 = (-1 : Int32) then (some S) else (if (S 0 11) = (-1 : Int32) then (bI (m_has v6 v7 S) (fun x2 S1 => (if x2 = 0 then (bnd (v6 ||| ((1 : Int32) <<< (v7 &&& 31))) (fun x3 => (if v1 = (108 : Int32) then (if v7 = 0 then (m_readClause_b311 (m_readClause_h249 n) v1 v3 qv4 qv5 x3 v7 (1 : Int32) (v3 + v7) qv4 S1) else (m_readClause_b310 (m_readClause_h249 n) v1 v3 qv4 qv5 x3 v7 (v3 + v7) qv4 S1)) else (m_readClause_b310 (m_readClause_h249 n) v1 v3 qv4 qv5 x3 v7 (v3 + v7) qv4 S1)))) else (bI (m_fails S1) (fun x5 S4 => (some S4)))))) else (some S)))
set_option maxHeartbeats 4000000 in
set_option maxRecDepth 100000 in
theorem m_readClause_h249_ok {d : Nat} (h : Cx p s m c cX11_readClause 8 RX11 s0 args0 D ca a A) (hr : meth.sig.returnType = none) (hlk : meth.locks = false) (hD : 6 ≤ d) : ∀ (n : Nat) (v1 : Int32) (v3 : Int32) (qv4 : Nat) (hqv4 : tpM[qv4]? = some (.inr (0, alen tpM qv4, 0))) (qv5 : Nat) (hqv5 : qv5 < 7) (v6 : Int32) (v7 : Int32) (S : St), VV p l e (rmd d) s m args below meth c D ca tpM a A 8 (QmV D ca tpM a A below args s) S [(0, .ref (a 0)), (1, .int v1), (3, .int v3), (4, .ref (a qv4)), (5, .ref (a (200 + qv5))), (6, .int v6), (7, .int v7)] 249 [] (m_readClause_h249 n v1 v3 qv4 qv5 v6 v7 S) := by
  intro n
  induction n with
  | zero => intro v1 v3 qv4 hqv4 qv5 hqv5 v6 v7 S; exact V_none
  | succ n ih =>
    intro v1 v3 qv4 hqv4 qv5 hqv5 v6 v7 S
    unfold m_readClause_h249
    refine V_iload (pc := 249) h 6 dX11_readClause_249 rfl ?_
    refine V_iconst (pc := 251) (v := -1) h dX11_readClause_251 (by decide) ?_
    refine V_icmp_eq (pc := 252) h 342 dX11_readClause_252 (by decide) ?_ ?_
    · exact V_vret (pc := 342) h hr hlk dX11_readClause_342
    · refine V_aload_n (pc := 255) h 0 dX11_readClause_255 rfl rfl ?_
      refine V_get (pc := 256) h 0 11 (.int (S 0 11)) fl_X11_151_X11 oM_0 rfl rfl dX11_readClause_256 ?_
      refine V_iconst (pc := 259) (v := -1) h dX11_readClause_259 (by decide) ?_
      refine V_icmp_ne (pc := 260) h 342 dX11_readClause_260 (by decide) ?_ ?_
      · exact V_vret (pc := 342) h hr hlk dX11_readClause_342
      · refine V_iload (pc := 263) h 5 dX11_readClause_263 rfl ?_
        refine V_iload (pc := 265) h 6 dX11_readClause_265 rfl ?_
        refine V_callSI (pc := 267) (dy := 1) h [.int v6, .int v7] [] ms_X11_263 dX11_readClause_267 rfl rfl (Nat.le_of_ble_eq_true rfl) (Nat.le_trans (by decide) hD) (m_has v6 v7 S) (fun z9 hz9 => m_has_ct h.gg (Nat.le_refl 1) v6 v7 S z9 hz9) (fun x2 S1 => ?_)
        refine V_if_eq (pc := 270) h 279 dX11_readClause_270 (by decide) ?_ ?_
        · refine V_iload (pc := 279) h 5 dX11_readClause_279 rfl ?_
          refine V_iconst (pc := 281) (v := 1) h dX11_readClause_281 (by decide) ?_
          refine V_iload (pc := 282) h 6 dX11_readClause_282 rfl ?_
          refine V_ishl (pc := 284) h dX11_readClause_284 ?_
          refine V_ior (pc := 285) h dX11_readClause_285 ?_
          refine V_top (fun x3 => ?_)
          refine V_istore (pc := 286) h [(6, .int x3), (0, .ref (a 0)), (1, .int v1), (3, .int v3), (4, .ref (a qv4)), (5, .ref (a (200 + qv5))), (7, .int v7)] dX11_readClause_286 (by decide) rfl ?_
          refine V_aload_n (pc := 288) h 1 dX11_readClause_288 rfl rfl ?_
          refine V_aload (pc := 289) h 4 dX11_readClause_289 rfl ?_
          refine V_iload_n (pc := 291) h 3 dX11_readClause_291 rfl rfl ?_
          refine V_iload (pc := 292) h 6 dX11_readClause_292 rfl ?_
          refine V_iadd (pc := 294) h dX11_readClause_294 ?_
          refine V_iload_n (pc := 295) h 2 dX11_readClause_295 rfl rfl ?_
          refine V_bipush (pc := 296) (v := 108) h dX11_readClause_296 (by decide) ?_
          refine V_icmp_ne (pc := 298) h 310 dX11_readClause_298 (by decide) ?_ ?_
          · exact V_ls [1, 2, 3, 4, 5, 0, 6] rfl (m_readClause_b310_ok h hr hlk hD (m_readClause_h249 n) ih v1 v3 qv4 hqv4 qv5 hqv5 x3 v7 (v3 + v7) qv4 hqv4 S1)
          · refine V_iload (pc := 301) h 6 dX11_readClause_301 rfl ?_
            refine V_if_ne (pc := 303) h 310 dX11_readClause_303 (by decide) ?_ ?_
            · exact V_ls [1, 2, 3, 4, 5, 0, 6] rfl (m_readClause_b310_ok h hr hlk hD (m_readClause_h249 n) ih v1 v3 qv4 hqv4 qv5 hqv5 x3 v7 (v3 + v7) qv4 hqv4 S1)
            · refine V_iconst (pc := 306) (v := 1) h dX11_readClause_306 (by decide) ?_
              refine V_goto (pc := 307) h 311 dX11_readClause_307 (by decide) ?_
              exact V_ls [1, 2, 3, 4, 5, 0, 6] rfl (m_readClause_b311_ok h hr hlk hD (m_readClause_h249 n) ih v1 v3 qv4 hqv4 qv5 hqv5 x3 v7 (1 : Int32) (v3 + v7) qv4 hqv4 S1)
        · refine V_aload_n (pc := 273) h 0 dX11_readClause_273 rfl rfl ?_
          refine V_callVI (pc := 274) (dy := 1) (q := (RX11, TX11, 59)) h [] [] 0 mv_X11_157 oM_0 rfl dX11_readClause_274 rfl rfl (Nat.le_of_ble_eq_true rfl) (Nat.le_trans (by decide) hD) (m_fails S1) (fun z9 hz9 => m_fails_ct h.gg (Nat.le_refl 1) S1 z9 hz9) (fun x5 S4 => ?_)
          refine V_pop (pc := 277) h dX11_readClause_277 rfl ?_
          exact V_vret (pc := 278) h hr hlk dX11_readClause_278
def m_readClause_b235 (v1 : Int32) (v3 : Int32) (qv4 : Nat) (qv5 : Nat) (S : St) : Option St := (bI (m_look S) (fun x2 S1 => (bI (m_placeOf qv5 x2 S1) (fun x4 S3 => (m_readClause_h249 FU v1 v3 qv4 qv5 (0 : Int32) x4 S3)))))
set_option maxHeartbeats 4000000 in
set_option maxRecDepth 100000 in
theorem m_readClause_b235_ok {d : Nat} (h : Cx p s m c cX11_readClause 8 RX11 s0 args0 D ca a A) (hr : meth.sig.returnType = none) (hlk : meth.locks = false) (hD : 6 ≤ d) (v1 : Int32) (v3 : Int32) (qv4 : Nat) (hqv4 : tpM[qv4]? = some (.inr (0, alen tpM qv4, 0))) (qv5 : Nat) (hqv5 : qv5 < 7) (S : St) : VV p l e (rmd d) s m args below meth c D ca tpM a A 8 (QmV D ca tpM a A below args s) S [(0, .ref (a 0)), (1, .int v1), (3, .int v3), (4, .ref (a qv4)), (5, .ref (a (200 + qv5)))] 235 [] (m_readClause_b235 v1 v3 qv4 qv5 S) := by
  unfold m_readClause_b235
  refine V_iconst (pc := 235) (v := 0) h dX11_readClause_235 (by decide) ?_
  refine V_istore (pc := 236) h [(6, .int (0 : Int32)), (0, .ref (a 0)), (1, .int v1), (3, .int v3), (4, .ref (a qv4)), (5, .ref (a (200 + qv5)))] dX11_readClause_236 (by decide) rfl ?_
  refine V_aload (pc := 238) h 5 dX11_readClause_238 rfl ?_
  refine V_aload_n (pc := 240) h 1 dX11_readClause_240 rfl rfl ?_
  refine V_callVI (pc := 241) (dy := 1) (q := (RX11, TX11, 59)) h [] [.ref (a (200 + qv5))] 0 mv_X11_161 oM_0 rfl dX11_readClause_241 rfl rfl (Nat.le_of_ble_eq_true rfl) (Nat.le_trans (by decide) hD) (m_look S) (fun z9 hz9 => m_look_ct h.gg (Nat.le_refl 1) S z9 hz9) (fun x2 S1 => ?_)
  refine V_callSI (pc := 244) (dy := 5) h [.ref (a (200 + qv5)), .int x2] [] ms_X11_259 dX11_readClause_244 rfl rfl (Nat.le_of_ble_eq_true rfl) (Nat.le_trans (by decide) hD) (m_placeOf qv5 x2 S1) (fun z9 hz9 => m_placeOf_ct h.gg (Nat.le_refl 5) hqv5 x2 S1 z9 hz9) (fun x4 S3 => ?_)
  refine V_istore (pc := 247) h [(7, .int x4), (6, .int (0 : Int32)), (0, .ref (a 0)), (1, .int v1), (3, .int v3), (4, .ref (a qv4)), (5, .ref (a (200 + qv5)))] dX11_readClause_247 (by decide) rfl ?_
  exact V_ls [2, 3, 4, 5, 6, 1, 0] rfl (m_readClause_h249_ok h hr hlk hD FU v1 v3 qv4 hqv4 qv5 hqv5 (0 : Int32) x4 S3)
def m_readClause_h190 : Nat → Int32 → Int32 → Nat → Nat → Int32 → St → Option St
  | 0, _, _, _, _, _, _ => none
  | n + 1, v1, v3, qv4, qv5, v6, S => (if (8 : Int32) ≤ v6 then (m_readClause_b235 v1 v3 qv4 qv5 S) else (if v6 = (5 : Int32) then (m_readClause_b228 (m_readClause_h190 n) v1 v3 qv4 qv5 v6 (20 : Int32) (v3 + v6) 8 S) else (if v6 = (7 : Int32) then (m_readClause_b228 (m_readClause_h190 n) v1 v3 qv4 qv5 v6 (5 : Int32) (v3 + v6) 8 S) else (m_readClause_b228 (m_readClause_h190 n) v1 v3 qv4 qv5 v6 (0 : Int32) (v3 + v6) 8 S))))
set_option maxHeartbeats 4000000 in
set_option maxRecDepth 100000 in
theorem m_readClause_h190_ok {d : Nat} (h : Cx p s m c cX11_readClause 8 RX11 s0 args0 D ca a A) (hr : meth.sig.returnType = none) (hlk : meth.locks = false) (hD : 6 ≤ d) : ∀ (n : Nat) (v1 : Int32) (v3 : Int32) (qv4 : Nat) (hqv4 : tpM[qv4]? = some (.inr (0, alen tpM qv4, 0))) (qv5 : Nat) (hqv5 : qv5 < 7) (v6 : Int32) (S : St), VV p l e (rmd d) s m args below meth c D ca tpM a A 8 (QmV D ca tpM a A below args s) S [(0, .ref (a 0)), (1, .int v1), (3, .int v3), (4, .ref (a qv4)), (5, .ref (a (200 + qv5))), (6, .int v6)] 190 [] (m_readClause_h190 n v1 v3 qv4 qv5 v6 S) := by
  intro n
  induction n with
  | zero => intro v1 v3 qv4 hqv4 qv5 hqv5 v6 S; exact V_none
  | succ n ih =>
    intro v1 v3 qv4 hqv4 qv5 hqv5 v6 S
    unfold m_readClause_h190
    refine V_iload (pc := 190) h 5 dX11_readClause_190 rfl ?_
    refine V_bipush (pc := 192) (v := 8) h dX11_readClause_192 (by decide) ?_
    refine V_icmp_ge (pc := 194) h 235 dX11_readClause_194 (by decide) ?_ ?_
    · exact V_ls [0, 1, 2, 3, 4] rfl (m_readClause_b235_ok h hr hlk hD v1 v3 qv4 hqv4 qv5 hqv5 S)
    · refine V_aload_n (pc := 197) h 0 dX11_readClause_197 rfl rfl ?_
      refine V_get (pc := 198) h 0 21 (.ref (a 8)) fl_X11_46_X11 oM_0 rfl rfl dX11_readClause_198 ?_
      refine V_iload_n (pc := 201) h 2 dX11_readClause_201 rfl rfl ?_
      refine V_iload (pc := 202) h 5 dX11_readClause_202 rfl ?_
      refine V_iadd (pc := 204) h dX11_readClause_204 ?_
      refine V_iload (pc := 205) h 5 dX11_readClause_205 rfl ?_
      refine V_iconst (pc := 207) (v := 5) h dX11_readClause_207 (by decide) ?_
      refine V_icmp_ne (pc := 208) h 216 dX11_readClause_208 (by decide) ?_ ?_
      · refine V_iload (pc := 216) h 5 dX11_readClause_216 rfl ?_
        refine V_bipush (pc := 218) (v := 7) h dX11_readClause_218 (by decide) ?_
        refine V_icmp_ne (pc := 220) h 227 dX11_readClause_220 (by decide) ?_ ?_
        · refine V_iconst (pc := 227) (v := 0) h dX11_readClause_227 (by decide) ?_
          exact V_ls [0, 1, 2, 3, 4, 5] rfl (m_readClause_b228_ok h hr hlk hD (m_readClause_h190 n) ih v1 v3 qv4 hqv4 qv5 hqv5 v6 (0 : Int32) (v3 + v6) 8 oM_8 S)
        · refine V_iconst (pc := 223) (v := 5) h dX11_readClause_223 (by decide) ?_
          refine V_goto (pc := 224) h 228 dX11_readClause_224 (by decide) ?_
          exact V_ls [0, 1, 2, 3, 4, 5] rfl (m_readClause_b228_ok h hr hlk hD (m_readClause_h190 n) ih v1 v3 qv4 hqv4 qv5 hqv5 v6 (5 : Int32) (v3 + v6) 8 oM_8 S)
      · refine V_bipush (pc := 211) (v := 20) h dX11_readClause_211 (by decide) ?_
        refine V_goto (pc := 213) h 228 dX11_readClause_213 (by decide) ?_
        exact V_ls [0, 1, 2, 3, 4, 5] rfl (m_readClause_b228_ok h hr hlk hD (m_readClause_h190 n) ih v1 v3 qv4 hqv4 qv5 hqv5 v6 (20 : Int32) (v3 + v6) 8 oM_8 S)
def m_readClause_b171 (v1 : Int32) (v3 : Int32) (qv4 : Nat) (qv5 : Nat) (S : St) : Option St := (if v1 = (104 : Int32) then (bnd (up2 S 0 25 ((S 0 25) + (1 : Int32))) (fun S1 => (m_readClause_h190 FU v1 v3 qv4 qv5 (0 : Int32) S1))) else (m_readClause_b235 v1 v3 qv4 qv5 S))
set_option maxHeartbeats 4000000 in
set_option maxRecDepth 100000 in
theorem m_readClause_b171_ok {d : Nat} (h : Cx p s m c cX11_readClause 8 RX11 s0 args0 D ca a A) (hr : meth.sig.returnType = none) (hlk : meth.locks = false) (hD : 6 ≤ d) (v1 : Int32) (v3 : Int32) (qv4 : Nat) (hqv4 : tpM[qv4]? = some (.inr (0, alen tpM qv4, 0))) (qv5 : Nat) (hqv5 : qv5 < 7) (S : St) : VV p l e (rmd d) s m args below meth c D ca tpM a A 8 (QmV D ca tpM a A below args s) S [(0, .ref (a 0)), (1, .int v1), (3, .int v3), (4, .ref (a qv4)), (5, .ref (a (200 + qv5)))] 171 [] (m_readClause_b171 v1 v3 qv4 qv5 S) := by
  unfold m_readClause_b171
  refine V_iload_n (pc := 171) h 1 dX11_readClause_171 rfl rfl ?_
  refine V_bipush (pc := 172) (v := 104) h dX11_readClause_172 (by decide) ?_
  refine V_icmp_ne (pc := 174) h 235 dX11_readClause_174 (by decide) ?_ ?_
  · exact V_ls [0, 1, 2, 3, 4] rfl (m_readClause_b235_ok h hr hlk hD v1 v3 qv4 hqv4 qv5 hqv5 S)
  · refine V_aload_n (pc := 177) h 0 dX11_readClause_177 rfl rfl ?_
    refine V_dup (pc := 178) h dX11_readClause_178 rfl ?_
    refine V_get (pc := 179) h 0 25 (.int (S 0 25)) fl_X11_244_X11 oM_0 rfl rfl dX11_readClause_179 ?_
    refine V_iconst (pc := 182) (v := 1) h dX11_readClause_182 (by decide) ?_
    refine V_iadd (pc := 183) h dX11_readClause_183 ?_
    refine V_put (pc := 184) h 0 25 ((S 0 25) + (1 : Int32)) fp_X11_244_X11 oM_0 rfl rfl rfl rfl dX11_readClause_184 (fun S1 => ?_)
    refine V_iconst (pc := 187) (v := 0) h dX11_readClause_187 (by decide) ?_
    refine V_istore (pc := 188) h [(6, .int (0 : Int32)), (0, .ref (a 0)), (1, .int v1), (3, .int v3), (4, .ref (a qv4)), (5, .ref (a (200 + qv5)))] dX11_readClause_188 (by decide) rfl ?_
    exact V_ls [1, 2, 3, 4, 5, 0] rfl (m_readClause_h190_ok h hr hlk hD FU v1 v3 qv4 hqv4 qv5 hqv5 (0 : Int32) S1)
def m_readClause_b160 (v1 : Int32) (v3 : Int32) (qv4 : Nat) (qv5 : Nat) (S : St) : Option St := (if v1 = (108 : Int32) then (bnd (up2 S 0 27 (1 : Int32)) (fun S1 => (m_readClause_b171 v1 v3 qv4 qv5 S1))) else (m_readClause_b171 v1 v3 qv4 qv5 S))
set_option maxHeartbeats 4000000 in
set_option maxRecDepth 100000 in
theorem m_readClause_b160_ok {d : Nat} (h : Cx p s m c cX11_readClause 8 RX11 s0 args0 D ca a A) (hr : meth.sig.returnType = none) (hlk : meth.locks = false) (hD : 6 ≤ d) (v1 : Int32) (v3 : Int32) (qv4 : Nat) (hqv4 : tpM[qv4]? = some (.inr (0, alen tpM qv4, 0))) (qv5 : Nat) (hqv5 : qv5 < 7) (S : St) : VV p l e (rmd d) s m args below meth c D ca tpM a A 8 (QmV D ca tpM a A below args s) S [(0, .ref (a 0)), (1, .int v1), (3, .int v3), (4, .ref (a qv4)), (5, .ref (a (200 + qv5)))] 160 [] (m_readClause_b160 v1 v3 qv4 qv5 S) := by
  unfold m_readClause_b160
  refine V_iload_n (pc := 160) h 1 dX11_readClause_160 rfl rfl ?_
  refine V_bipush (pc := 161) (v := 108) h dX11_readClause_161 (by decide) ?_
  refine V_icmp_ne (pc := 163) h 171 dX11_readClause_163 (by decide) ?_ ?_
  · exact V_ls [0, 1, 2, 3, 4] rfl (m_readClause_b171_ok h hr hlk hD v1 v3 qv4 hqv4 qv5 hqv5 S)
  · refine V_aload_n (pc := 166) h 0 dX11_readClause_166 rfl rfl ?_
    refine V_iconst (pc := 167) (v := 1) h dX11_readClause_167 (by decide) ?_
    refine V_put (pc := 168) h 0 27 (1 : Int32) fp_X11_250_X11 oM_0 rfl rfl rfl rfl dX11_readClause_168 (fun S1 => ?_)
    exact V_ls [0, 1, 2, 3, 4] rfl (m_readClause_b171_ok h hr hlk hD v1 v3 qv4 hqv4 qv5 hqv5 S1)
def m_readClause_b147 (v1 : Int32) (v3 : Int32) (qv4 : Nat) (qk0 : Nat) (S : St) : Option St := (if v1 = (112 : Int32) then (bnd (up2 S 0 26 (1 : Int32)) (fun S1 => (m_readClause_b160 v1 v3 qv4 qk0 S1))) else (m_readClause_b160 v1 v3 qv4 qk0 S))
set_option maxHeartbeats 4000000 in
set_option maxRecDepth 100000 in
theorem m_readClause_b147_ok {d : Nat} (h : Cx p s m c cX11_readClause 8 RX11 s0 args0 D ca a A) (hr : meth.sig.returnType = none) (hlk : meth.locks = false) (hD : 6 ≤ d) (v1 : Int32) (v3 : Int32) (qv4 : Nat) (hqv4 : tpM[qv4]? = some (.inr (0, alen tpM qv4, 0))) (qk0 : Nat) (hqk0 : qk0 < 7) (S : St) : VV p l e (rmd d) s m args below meth c D ca tpM a A 8 (QmV D ca tpM a A below args s) S [(0, .ref (a 0)), (1, .int v1), (3, .int v3), (4, .ref (a qv4))] 147 [.ref (a (200 + qk0))] (m_readClause_b147 v1 v3 qv4 qk0 S) := by
  unfold m_readClause_b147
  refine V_astore (pc := 147) h [(5, .ref (a (200 + qk0))), (0, .ref (a 0)), (1, .int v1), (3, .int v3), (4, .ref (a qv4))] dX11_readClause_147 (by decide) rfl ?_
  refine V_iload_n (pc := 149) h 2 dX11_readClause_149 rfl rfl ?_
  refine V_bipush (pc := 150) (v := 112) h dX11_readClause_150 (by decide) ?_
  refine V_icmp_ne (pc := 152) h 160 dX11_readClause_152 (by decide) ?_ ?_
  · exact V_ls [1, 2, 3, 4, 0] rfl (m_readClause_b160_ok h hr hlk hD v1 v3 qv4 hqv4 qk0 hqk0 S)
  · refine V_aload_n (pc := 155) h 1 dX11_readClause_155 rfl rfl ?_
    refine V_iconst (pc := 156) (v := 1) h dX11_readClause_156 (by decide) ?_
    refine V_put (pc := 157) h 0 26 (1 : Int32) fp_X11_247_X11 oM_0 rfl rfl rfl rfl dX11_readClause_157 (fun S1 => ?_)
    exact V_ls [1, 2, 3, 4, 0] rfl (m_readClause_b160_ok h hr hlk hD v1 v3 qv4 hqv4 qk0 hqk0 S1)
def m_readClause_b120 (v1 : Int32) (v3 : Int32) (qk0 : Nat) (S : St) : Option St := (if v1 = (104 : Int32) then (m_readClause_b147 v1 v3 qk0 2 S) else (if v1 = (112 : Int32) then (m_readClause_b147 v1 v3 qk0 1 S) else (m_readClause_b147 v1 v3 qk0 3 S)))
set_option maxHeartbeats 4000000 in
set_option maxRecDepth 100000 in
theorem m_readClause_b120_ok {d : Nat} (h : Cx p s m c cX11_readClause 8 RX11 s0 args0 D ca a A) (hr : meth.sig.returnType = none) (hlk : meth.locks = false) (hD : 6 ≤ d) (v1 : Int32) (v3 : Int32) (qk0 : Nat) (hqk0 : tpM[qk0]? = some (.inr (0, alen tpM qk0, 0))) (S : St) : VV p l e (rmd d) s m args below meth c D ca tpM a A 8 (QmV D ca tpM a A below args s) S [(0, .ref (a 0)), (1, .int v1), (3, .int v3)] 120 [.ref (a qk0)] (m_readClause_b120 v1 v3 qk0 S) := by
  unfold m_readClause_b120
  refine V_astore (pc := 120) h [(4, .ref (a qk0)), (0, .ref (a 0)), (1, .int v1), (3, .int v3)] dX11_readClause_120 (by decide) rfl ?_
  refine V_iload_n (pc := 122) h 2 dX11_readClause_122 rfl rfl ?_
  refine V_bipush (pc := 123) (v := 104) h dX11_readClause_123 (by decide) ?_
  refine V_icmp_ne (pc := 125) h 133 dX11_readClause_125 (by decide) ?_ ?_
  · refine V_iload_n (pc := 133) h 2 dX11_readClause_133 rfl rfl ?_
    refine V_bipush (pc := 134) (v := 112) h dX11_readClause_134 (by decide) ?_
    refine V_icmp_ne (pc := 136) h 144 dX11_readClause_136 (by decide) ?_ ?_
    · refine V_ldcwS (pc := 144) (tx := "gtc") h 3 (by decide) dX11_readClause_144 ?_
      exact V_ls [1, 2, 3, 0] rfl (m_readClause_b147_ok h hr hlk hD v1 v3 qk0 hqk0 3 (by decide) S)
    · refine V_ldcS (pc := 139) (tx := "abcde") h 1 (by decide) dX11_readClause_139 ?_
      refine V_goto (pc := 141) h 147 dX11_readClause_141 (by decide) ?_
      exact V_ls [1, 2, 3, 0] rfl (m_readClause_b147_ok h hr hlk hD v1 v3 qk0 hqk0 1 (by decide) S)
  · refine V_ldcS (pc := 128) (tx := "abcdelkn") h 2 (by decide) dX11_readClause_128 ?_
    refine V_goto (pc := 130) h 147 dX11_readClause_130 (by decide) ?_
    exact V_ls [1, 2, 3, 0] rfl (m_readClause_b147_ok h hr hlk hD v1 v3 qk0 hqk0 2 (by decide) S)
def m_readClause_b89 (v1 : Int32) (k0 : Int32) (S : St) : Option St := (if v1 = (104 : Int32) then (m_readClause_b120 v1 k0 8 S) else (if v1 = (112 : Int32) then (m_readClause_b120 v1 k0 6 S) else (m_readClause_b120 v1 k0 10 S)))
set_option maxHeartbeats 4000000 in
set_option maxRecDepth 100000 in
theorem m_readClause_b89_ok {d : Nat} (h : Cx p s m c cX11_readClause 8 RX11 s0 args0 D ca a A) (hr : meth.sig.returnType = none) (hlk : meth.locks = false) (hD : 6 ≤ d) (v1 : Int32) (k0 : Int32) (S : St) : VV p l e (rmd d) s m args below meth c D ca tpM a A 8 (QmV D ca tpM a A below args s) S [(0, .ref (a 0)), (1, .int v1)] 89 [.int k0] (m_readClause_b89 v1 k0 S) := by
  unfold m_readClause_b89
  refine V_istore_n (pc := 89) h [(3, .int k0), (0, .ref (a 0)), (1, .int v1)] dX11_readClause_89 rfl (by decide) rfl ?_
  refine V_iload_n (pc := 90) h 2 dX11_readClause_90 rfl rfl ?_
  refine V_bipush (pc := 91) (v := 104) h dX11_readClause_91 (by decide) ?_
  refine V_icmp_ne (pc := 93) h 103 dX11_readClause_93 (by decide) ?_ ?_
  · refine V_iload_n (pc := 103) h 2 dX11_readClause_103 rfl rfl ?_
    refine V_bipush (pc := 104) (v := 112) h dX11_readClause_104 (by decide) ?_
    refine V_icmp_ne (pc := 106) h 116 dX11_readClause_106 (by decide) ?_ ?_
    · refine V_aload_n (pc := 116) h 1 dX11_readClause_116 rfl rfl ?_
      refine V_get (pc := 117) h 0 23 (.ref (a 10)) fl_X11_52_X11 oM_0 rfl rfl dX11_readClause_117 ?_
      exact V_ls [1, 2, 0] rfl (m_readClause_b120_ok h hr hlk hD v1 k0 10 oM_10 S)
    · refine V_aload_n (pc := 109) h 1 dX11_readClause_109 rfl rfl ?_
      refine V_get (pc := 110) h 0 19 (.ref (a 6)) fl_X11_40_X11 oM_0 rfl rfl dX11_readClause_110 ?_
      refine V_goto (pc := 113) h 120 dX11_readClause_113 (by decide) ?_
      exact V_ls [1, 2, 0] rfl (m_readClause_b120_ok h hr hlk hD v1 k0 6 oM_6 S)
  · refine V_aload_n (pc := 96) h 1 dX11_readClause_96 rfl rfl ?_
    refine V_get (pc := 97) h 0 21 (.ref (a 8)) fl_X11_46_X11 oM_0 rfl rfl dX11_readClause_97 ?_
    refine V_goto (pc := 100) h 120 dX11_readClause_100 (by decide) ?_
    exact V_ls [1, 2, 0] rfl (m_readClause_b120_ok h hr hlk hD v1 k0 8 oM_8 S)
def m_readClause_b51 (v1 : Int32) (k0 : Int32) (S : St) : Option St := (if k0 = 0 then (bI (m_fails S) (fun x3 S2 => (some S2))) else (bnd (up2 S 0 10 ((S 0 10) + (1 : Int32))) (fun S1 => (if v1 = (104 : Int32) then (m_readClause_b89 v1 ((8 : Int32) * (S1 0 25)) S1) else (m_readClause_b89 v1 (0 : Int32) S1)))))
set_option maxHeartbeats 4000000 in
set_option maxRecDepth 100000 in
theorem m_readClause_b51_ok {d : Nat} (h : Cx p s m c cX11_readClause 8 RX11 s0 args0 D ca a A) (hr : meth.sig.returnType = none) (hlk : meth.locks = false) (hD : 6 ≤ d) (v1 : Int32) (k0 : Int32) (S : St) : VV p l e (rmd d) s m args below meth c D ca tpM a A 8 (QmV D ca tpM a A below args s) S [(0, .ref (a 0)), (1, .int v1)] 51 [.int k0] (m_readClause_b51 v1 k0 S) := by
  unfold m_readClause_b51
  refine V_istore_n (pc := 51) h [(2, .int k0), (0, .ref (a 0)), (1, .int v1)] dX11_readClause_51 rfl (by decide) rfl ?_
  refine V_iload_n (pc := 52) h 0 dX11_readClause_52 rfl rfl ?_
  refine V_if_ne (pc := 53) h 62 dX11_readClause_53 (by decide) ?_ ?_
  · refine V_aload_n (pc := 62) h 1 dX11_readClause_62 rfl rfl ?_
    refine V_dup (pc := 63) h dX11_readClause_63 rfl ?_
    refine V_get (pc := 64) h 0 10 (.int (S 0 10)) fl_X11_142_X11 oM_0 rfl rfl dX11_readClause_64 ?_
    refine V_iconst (pc := 67) (v := 1) h dX11_readClause_67 (by decide) ?_
    refine V_iadd (pc := 68) h dX11_readClause_68 ?_
    refine V_put (pc := 69) h 0 10 ((S 0 10) + (1 : Int32)) fp_X11_142_X11 oM_0 rfl rfl rfl rfl dX11_readClause_69 (fun S1 => ?_)
    refine V_iload_n (pc := 72) h 2 dX11_readClause_72 rfl rfl ?_
    refine V_bipush (pc := 73) (v := 104) h dX11_readClause_73 (by decide) ?_
    refine V_icmp_ne (pc := 75) h 88 dX11_readClause_75 (by decide) ?_ ?_
    · refine V_iconst (pc := 88) (v := 0) h dX11_readClause_88 (by decide) ?_
      exact V_ls [1, 2] rfl (m_readClause_b89_ok h hr hlk hD v1 (0 : Int32) S1)
    · refine V_bipush (pc := 78) (v := 8) h dX11_readClause_78 (by decide) ?_
      refine V_aload_n (pc := 80) h 1 dX11_readClause_80 rfl rfl ?_
      refine V_get (pc := 81) h 0 25 (.int (S1 0 25)) fl_X11_244_X11 oM_0 rfl rfl dX11_readClause_81 ?_
      refine V_imul (pc := 84) h dX11_readClause_84 ?_
      refine V_goto (pc := 85) h 89 dX11_readClause_85 (by decide) ?_
      exact V_ls [1, 2] rfl (m_readClause_b89_ok h hr hlk hD v1 ((8 : Int32) * (S1 0 25)) S1)
  · refine V_aload_n (pc := 56) h 1 dX11_readClause_56 rfl rfl ?_
    refine V_callVI (pc := 57) (dy := 1) (q := (RX11, TX11, 59)) h [] [] 0 mv_X11_157 oM_0 rfl dX11_readClause_57 rfl rfl (Nat.le_of_ble_eq_true rfl) (Nat.le_trans (by decide) hD) (m_fails S) (fun z9 hz9 => m_fails_ct h.gg (Nat.le_refl 1) S z9 hz9) (fun x3 S2 => ?_)
    refine V_pop (pc := 60) h dX11_readClause_60 rfl ?_
    exact V_vret (pc := 61) h hr hlk dX11_readClause_61
def m_readClause_b46 (v1 : Int32) (S : St) : Option St := (m_readClause_b51 v1 (1 : Int32) S)
set_option maxHeartbeats 4000000 in
set_option maxRecDepth 100000 in
theorem m_readClause_b46_ok {d : Nat} (h : Cx p s m c cX11_readClause 8 RX11 s0 args0 D ca a A) (hr : meth.sig.returnType = none) (hlk : meth.locks = false) (hD : 6 ≤ d) (v1 : Int32) (S : St) : VV p l e (rmd d) s m args below meth c D ca tpM a A 8 (QmV D ca tpM a A below args s) S [(0, .ref (a 0)), (1, .int v1)] 46 [] (m_readClause_b46 v1 S) := by
  unfold m_readClause_b46
  refine V_iconst (pc := 46) (v := 1) h dX11_readClause_46 (by decide) ?_
  refine V_goto (pc := 47) h 51 dX11_readClause_47 (by decide) ?_
  exact V_ls [0, 1] rfl (m_readClause_b51_ok h hr hlk hD v1 (1 : Int32) S)
def m_readClause_b50 (v1 : Int32) (S : St) : Option St := (m_readClause_b51 v1 (0 : Int32) S)
set_option maxHeartbeats 4000000 in
set_option maxRecDepth 100000 in
theorem m_readClause_b50_ok {d : Nat} (h : Cx p s m c cX11_readClause 8 RX11 s0 args0 D ca a A) (hr : meth.sig.returnType = none) (hlk : meth.locks = false) (hD : 6 ≤ d) (v1 : Int32) (S : St) : VV p l e (rmd d) s m args below meth c D ca tpM a A 8 (QmV D ca tpM a A below args s) S [(0, .ref (a 0)), (1, .int v1)] 50 [] (m_readClause_b50 v1 S) := by
  unfold m_readClause_b50
  refine V_iconst (pc := 50) (v := 0) h dX11_readClause_50 (by decide) ?_
  exact V_ls [0, 1] rfl (m_readClause_b51_ok h hr hlk hD v1 (0 : Int32) S)
def m_readClause_b33 (v1 : Int32) (S : St) : Option St := (if v1 = (108 : Int32) then (if (S 0 27) = 0 then (m_readClause_b46 v1 S) else (m_readClause_b50 v1 S)) else (m_readClause_b50 v1 S))
set_option maxHeartbeats 4000000 in
set_option maxRecDepth 100000 in
theorem m_readClause_b33_ok {d : Nat} (h : Cx p s m c cX11_readClause 8 RX11 s0 args0 D ca a A) (hr : meth.sig.returnType = none) (hlk : meth.locks = false) (hD : 6 ≤ d) (v1 : Int32) (S : St) : VV p l e (rmd d) s m args below meth c D ca tpM a A 8 (QmV D ca tpM a A below args s) S [(0, .ref (a 0)), (1, .int v1)] 33 [] (m_readClause_b33 v1 S) := by
  unfold m_readClause_b33
  refine V_iload_n (pc := 33) h 1 dX11_readClause_33 rfl rfl ?_
  refine V_bipush (pc := 34) (v := 108) h dX11_readClause_34 (by decide) ?_
  refine V_icmp_ne (pc := 36) h 50 dX11_readClause_36 (by decide) ?_ ?_
  · exact V_ls [0, 1] rfl (m_readClause_b50_ok h hr hlk hD v1 S)
  · refine V_aload_n (pc := 39) h 0 dX11_readClause_39 rfl rfl ?_
    refine V_get (pc := 40) h 0 27 (.int (S 0 27)) fl_X11_250_X11 oM_0 rfl rfl dX11_readClause_40 ?_
    refine V_if_ne (pc := 43) h 50 dX11_readClause_43 (by decide) ?_ ?_
    · exact V_ls [0, 1] rfl (m_readClause_b50_ok h hr hlk hD v1 S)
    · exact V_ls [0, 1] rfl (m_readClause_b46_ok h hr hlk hD v1 S)
def m_readClause_b20 (v1 : Int32) (S : St) : Option St := (if v1 = (112 : Int32) then (if (S 0 26) = 0 then (m_readClause_b46 v1 S) else (m_readClause_b33 v1 S)) else (m_readClause_b33 v1 S))
set_option maxHeartbeats 4000000 in
set_option maxRecDepth 100000 in
theorem m_readClause_b20_ok {d : Nat} (h : Cx p s m c cX11_readClause 8 RX11 s0 args0 D ca a A) (hr : meth.sig.returnType = none) (hlk : meth.locks = false) (hD : 6 ≤ d) (v1 : Int32) (S : St) : VV p l e (rmd d) s m args below meth c D ca tpM a A 8 (QmV D ca tpM a A below args s) S [(0, .ref (a 0)), (1, .int v1)] 20 [] (m_readClause_b20 v1 S) := by
  unfold m_readClause_b20
  refine V_iload_n (pc := 20) h 1 dX11_readClause_20 rfl rfl ?_
  refine V_bipush (pc := 21) (v := 112) h dX11_readClause_21 (by decide) ?_
  refine V_icmp_ne (pc := 23) h 33 dX11_readClause_23 (by decide) ?_ ?_
  · exact V_ls [0, 1] rfl (m_readClause_b33_ok h hr hlk hD v1 S)
  · refine V_aload_n (pc := 26) h 0 dX11_readClause_26 rfl rfl ?_
    refine V_get (pc := 27) h 0 26 (.int (S 0 26)) fl_X11_247_X11 oM_0 rfl rfl dX11_readClause_27 ?_
    refine V_if_eq (pc := 30) h 46 dX11_readClause_30 (by decide) ?_ ?_
    · exact V_ls [0, 1] rfl (m_readClause_b46_ok h hr hlk hD v1 S)
    · exact V_ls [0, 1] rfl (m_readClause_b33_ok h hr hlk hD v1 S)
def m_readClause (S : St) : Option St := (bI (m_look S) (fun x2 S1 => (if x2 = (104 : Int32) then (if (S1 0 25) < (6 : Int32) then (m_readClause_b46 x2 S1) else (m_readClause_b20 x2 S1)) else (m_readClause_b20 x2 S1))))
set_option maxHeartbeats 4000000 in
set_option maxRecDepth 100000 in
theorem m_readClause_ok {d : Nat} (h : Cx p s m c cX11_readClause 8 RX11 s0 args0 D ca a A) (hr : meth.sig.returnType = none) (hlk : meth.locks = false) (hD : 6 ≤ d) (S : St) : VV p l e (rmd d) s m args below meth c D ca tpM a A 8 (QmV D ca tpM a A below args s) S [(0, .ref (a 0))] 0 [] (m_readClause S) := by
  unfold m_readClause
  refine V_aload_n (pc := 0) h 0 dX11_readClause_0 rfl rfl ?_
  refine V_callVI (pc := 1) (dy := 1) (q := (RX11, TX11, 59)) h [] [] 0 mv_X11_161 oM_0 rfl dX11_readClause_1 rfl rfl (Nat.le_of_ble_eq_true rfl) (Nat.le_trans (by decide) hD) (m_look S) (fun z9 hz9 => m_look_ct h.gg (Nat.le_refl 1) S z9 hz9) (fun x2 S1 => ?_)
  refine V_istore_n (pc := 4) h [(1, .int x2), (0, .ref (a 0))] dX11_readClause_4 rfl (by decide) rfl ?_
  refine V_iload_n (pc := 5) h 0 dX11_readClause_5 rfl rfl ?_
  refine V_bipush (pc := 6) (v := 104) h dX11_readClause_6 (by decide) ?_
  refine V_icmp_ne (pc := 8) h 20 dX11_readClause_8 (by decide) ?_ ?_
  · exact V_ls [1, 0] rfl (m_readClause_b20_ok h hr hlk hD x2 S1)
  · refine V_aload_n (pc := 11) h 1 dX11_readClause_11 rfl rfl ?_
    refine V_get (pc := 12) h 0 25 (.int (S1 0 25)) fl_X11_244_X11 oM_0 rfl rfl dX11_readClause_12 ?_
    refine V_bipush (pc := 15) (v := 6) h dX11_readClause_15 (by decide) ?_
    refine V_icmp_lt (pc := 17) h 46 dX11_readClause_17 (by decide) ?_ ?_
    · exact V_ls [1, 0] rfl (m_readClause_b46_ok h hr hlk hD x2 S1)
    · exact V_ls [1, 0] rfl (m_readClause_b20_ok h hr hlk hD x2 S1)
theorem m_readClause_ct {d : Nat} (g : GG s0 args0 D ca a A) (hD : 6 ≤ d) (S : St) (z : St) (hz : m_readClause S = some z) : CtV l yX11_readClause cX11_readClause 8 d s0 D ca tpM a A [.ref (a 0)] S z := CtV_mk g (by decide +kernel) (Nat.le_of_ble_eq_true rfl) hz (fun p e s m args below meth c h hr hlk => m_readClause_ok h hr hlk hD S)
def m_opens_1 (v2 : Int32) (v3 : Int32) (S : St) : Option St := (bnd (up2 S 0 5 (0 : Int32)) (fun S1 => (bnd (up2 S1 0 8 v2) (fun S2 => (bnd (up2 S2 0 9 v3) (fun S3 => (bnd (up2 S3 0 10 (0 : Int32)) (fun S4 => (bnd (up2 S4 0 11 (-1 : Int32)) (fun S5 => (some S5)))))))))))
set_option maxHeartbeats 4000000 in
set_option maxRecDepth 100000 in
theorem m_opens_1_ok {d : Nat} (h : Cx p s m c cX11_opens 4 RX11 s0 args0 D ca a A) (hr : meth.sig.returnType = none) (hlk : meth.locks = false) (hD : 1 ≤ d) (v2 : Int32) (v3 : Int32) (S : St) : VV p l e (rmd d) s m args below meth c D ca tpM a A 4 (QmV D ca tpM a A below args s) S [(0, .ref (a 0)), (1, .ref (a 1)), (2, .int v2), (3, .int v3)] 0 [] (m_opens_1 v2 v3 S) := by
  unfold m_opens_1
  refine V_aload_n (pc := 0) h 0 dX11_opens_0 rfl rfl ?_
  refine V_aload_n (pc := 1) h 1 dX11_opens_1 rfl rfl ?_
  refine V_put (pc := 2) h 0 5 (0 : Int32) fp_X11_23_X11 oM_0 rfl (fvv_dynP (by decide)) rfl rfl dX11_opens_2 (fun S1 => ?_)
  refine V_aload_n (pc := 5) h 0 dX11_opens_5 rfl rfl ?_
  refine V_iload_n (pc := 6) h 2 dX11_opens_6 rfl rfl ?_
  refine V_put (pc := 7) h 0 8 v2 fp_X11_148_X11 oM_0 rfl rfl rfl rfl dX11_opens_7 (fun S2 => ?_)
  refine V_aload_n (pc := 10) h 0 dX11_opens_10 rfl rfl ?_
  refine V_iload_n (pc := 11) h 3 dX11_opens_11 rfl rfl ?_
  refine V_put (pc := 12) h 0 9 v3 fp_X11_145_X11 oM_0 rfl rfl rfl rfl dX11_opens_12 (fun S3 => ?_)
  refine V_aload_n (pc := 15) h 0 dX11_opens_15 rfl rfl ?_
  refine V_iconst (pc := 16) (v := 0) h dX11_opens_16 (by decide) ?_
  refine V_put (pc := 17) h 0 10 (0 : Int32) fp_X11_142_X11 oM_0 rfl rfl rfl rfl dX11_opens_17 (fun S4 => ?_)
  refine V_aload_n (pc := 20) h 0 dX11_opens_20 rfl rfl ?_
  refine V_iconst (pc := 21) (v := -1) h dX11_opens_21 (by decide) ?_
  refine V_put (pc := 22) h 0 11 (-1 : Int32) fp_X11_151_X11 oM_0 rfl rfl rfl rfl dX11_opens_22 (fun S5 => ?_)
  exact V_vret (pc := 25) h hr hlk dX11_opens_25
theorem m_opens_1_ct {d : Nat} (g : GG s0 args0 D ca a A) (hD : 1 ≤ d) (v2 : Int32) (v3 : Int32) (S : St) (z : St) (hz : m_opens_1 v2 v3 S = some z) : CtV l yX11_opens cX11_opens 4 d s0 D ca tpM a A [.ref (a 0), .ref (a 1), .int v2, .int v3] S z := CtV_mk g (by decide +kernel) (Nat.le_of_ble_eq_true rfl) hz (fun p e s m args below meth c h hr hlk => m_opens_1_ok h hr hlk hD v2 v3 S)
def m_readStreet_b50 (L30 : Int32 → St → Option St) (v1 : Int32) (k0 : Int32) (k1 : Int32) (S : St) : Option St := (ckM k1 5 (bnd (up2 S 6 k1.toNatClampNeg k0) (fun S1 => (bnd (v1 + (1 : Int32)) (fun x2 => (L30 x2 S1))))))
set_option maxHeartbeats 4000000 in
set_option maxRecDepth 100000 in
theorem m_readStreet_b50_ok {d : Nat} (h : Cx p s m c cX11_readStreet 2 RX11 s0 args0 D ca a A) (hr : meth.sig.returnType = none) (hlk : meth.locks = false) (hD : 7 ≤ d) (L30 : Int32 → St → Option St) (hL30 : ∀ (v1 : Int32) (S : St), VV p l e (rmd d) s m args below meth c D ca tpM a A 2 (QmV D ca tpM a A below args s) S [(0, .ref (a 0)), (1, .int v1)] 30 [] (L30 v1 S)) (v1 : Int32) (k0 : Int32) (k1 : Int32) (S : St) : VV p l e (rmd d) s m args below meth c D ca tpM a A 2 (QmV D ca tpM a A below args s) S [(0, .ref (a 0)), (1, .int v1)] 50 [.int k0, .int k1, .ref (a 6)] (m_readStreet_b50 L30 v1 k0 k1 S) := by
  unfold m_readStreet_b50
  refine V_iast (pc := 50) h 6 oM_6 dX11_readStreet_50 (fun S1 => ?_)
  refine V_iincB (pc := 51) h 1 (1 : Int32) (fun x2 => [(1, .int x2), (0, .ref (a 0))]) dX11_readStreet_51 rfl (by decide) (by decide) (fun _ => rfl) (fun x2 => ?_)
  refine V_goto (pc := 54) h 30 dX11_readStreet_54 (by decide) ?_
  exact V_ls [1, 0] rfl (hL30 x2 S1)
def m_readStreet_b119 (L81 : Int32 → St → Option St) (k0 : Int32) (S : St) : Option St := (if k0 = 0 then (L81 k0 S) else (bnd (up2 S 0 10 ((S 0 10) + (1 : Int32))) (fun S1 => (L81 k0 S1))))
set_option maxHeartbeats 4000000 in
set_option maxRecDepth 100000 in
theorem m_readStreet_b119_ok {d : Nat} (h : Cx p s m c cX11_readStreet 2 RX11 s0 args0 D ca a A) (hr : meth.sig.returnType = none) (hlk : meth.locks = false) (hD : 7 ≤ d) (L81 : Int32 → St → Option St) (hL81 : ∀ (v1 : Int32) (S : St), VV p l e (rmd d) s m args below meth c D ca tpM a A 2 (QmV D ca tpM a A below args s) S [(0, .ref (a 0)), (1, .int v1)] 81 [] (L81 v1 S)) (k0 : Int32) (S : St) : VV p l e (rmd d) s m args below meth c D ca tpM a A 2 (QmV D ca tpM a A below args s) S [(0, .ref (a 0))] 119 [.int k0] (m_readStreet_b119 L81 k0 S) := by
  unfold m_readStreet_b119
  refine V_istore_n (pc := 119) h [(1, .int k0), (0, .ref (a 0))] dX11_readStreet_119 rfl (by decide) rfl ?_
  refine V_iload_n (pc := 120) h 0 dX11_readStreet_120 rfl rfl ?_
  refine V_if_eq (pc := 121) h 81 dX11_readStreet_121 (by decide) ?_ ?_
  · exact V_ls [1, 0] rfl (hL81 k0 S)
  · refine V_aload_n (pc := 124) h 1 dX11_readStreet_124 rfl rfl ?_
    refine V_dup (pc := 125) h dX11_readStreet_125 rfl ?_
    refine V_get (pc := 126) h 0 10 (.int (S 0 10)) fl_X11_142_X11 oM_0 rfl rfl dX11_readStreet_126 ?_
    refine V_iconst (pc := 129) (v := 1) h dX11_readStreet_129 (by decide) ?_
    refine V_iadd (pc := 130) h dX11_readStreet_130 ?_
    refine V_put (pc := 131) h 0 10 ((S 0 10) + (1 : Int32)) fp_X11_142_X11 oM_0 rfl rfl rfl rfl dX11_readStreet_131 (fun S1 => ?_)
    refine V_goto (pc := 134) h 81 dX11_readStreet_134 (by decide) ?_
    exact V_ls [1, 0] rfl (hL81 k0 S1)
def m_readStreet_b118 (L81 : Int32 → St → Option St) (S : St) : Option St := (m_readStreet_b119 L81 (0 : Int32) S)
set_option maxHeartbeats 4000000 in
set_option maxRecDepth 100000 in
theorem m_readStreet_b118_ok {d : Nat} (h : Cx p s m c cX11_readStreet 2 RX11 s0 args0 D ca a A) (hr : meth.sig.returnType = none) (hlk : meth.locks = false) (hD : 7 ≤ d) (L81 : Int32 → St → Option St) (hL81 : ∀ (v1 : Int32) (S : St), VV p l e (rmd d) s m args below meth c D ca tpM a A 2 (QmV D ca tpM a A below args s) S [(0, .ref (a 0)), (1, .int v1)] 81 [] (L81 v1 S)) (S : St) : VV p l e (rmd d) s m args below meth c D ca tpM a A 2 (QmV D ca tpM a A below args s) S [(0, .ref (a 0))] 118 [] (m_readStreet_b118 L81 S) := by
  unfold m_readStreet_b118
  refine V_iconst (pc := 118) (v := 0) h dX11_readStreet_118 (by decide) ?_
  exact V_ls [0] rfl (m_readStreet_b119_ok h hr hlk hD L81 hL81 (0 : Int32) S)
def m_readStreet_b160 (S : St) : Option St := (bI (m_fails S) (fun x2 S1 => (some S1)))
set_option maxHeartbeats 4000000 in
set_option maxRecDepth 100000 in
theorem m_readStreet_b160_ok {d : Nat} (h : Cx p s m c cX11_readStreet 2 RX11 s0 args0 D ca a A) (hr : meth.sig.returnType = none) (hlk : meth.locks = false) (hD : 7 ≤ d) (S : St) : VV p l e (rmd d) s m args below meth c D ca tpM a A 2 (QmV D ca tpM a A below args s) S [(0, .ref (a 0))] 160 [] (m_readStreet_b160 S) := by
  unfold m_readStreet_b160
  refine V_aload_n (pc := 160) h 0 dX11_readStreet_160 rfl rfl ?_
  refine V_callVI (pc := 161) (dy := 1) (q := (RX11, TX11, 59)) h [] [] 0 mv_X11_157 oM_0 rfl dX11_readStreet_161 rfl rfl (Nat.le_of_ble_eq_true rfl) (Nat.le_trans (by decide) hD) (m_fails S) (fun z9 hz9 => m_fails_ct h.gg (Nat.le_refl 1) S z9 hz9) (fun x2 S1 => ?_)
  refine V_pop (pc := 164) h dX11_readStreet_164 rfl ?_
  exact V_vret (pc := 165) h hr hlk dX11_readStreet_165
def m_readStreet_b137 (S : St) : Option St := (if (S 0 11) = (-1 : Int32) then (bI (m_look S) (fun x2 S1 => (if x2 = (-1 : Int32) then (if (S1 0 25) = 0 then (m_readStreet_b160 S1) else (some S1)) else (m_readStreet_b160 S1)))) else (some S))
set_option maxHeartbeats 4000000 in
set_option maxRecDepth 100000 in
theorem m_readStreet_b137_ok {d : Nat} (h : Cx p s m c cX11_readStreet 2 RX11 s0 args0 D ca a A) (hr : meth.sig.returnType = none) (hlk : meth.locks = false) (hD : 7 ≤ d) (S : St) : VV p l e (rmd d) s m args below meth c D ca tpM a A 2 (QmV D ca tpM a A below args s) S [(0, .ref (a 0))] 137 [] (m_readStreet_b137 S) := by
  unfold m_readStreet_b137
  refine V_aload_n (pc := 137) h 0 dX11_readStreet_137 rfl rfl ?_
  refine V_get (pc := 138) h 0 11 (.int (S 0 11)) fl_X11_151_X11 oM_0 rfl rfl dX11_readStreet_138 ?_
  refine V_iconst (pc := 141) (v := -1) h dX11_readStreet_141 (by decide) ?_
  refine V_icmp_ne (pc := 142) h 165 dX11_readStreet_142 (by decide) ?_ ?_
  · exact V_vret (pc := 165) h hr hlk dX11_readStreet_165
  · refine V_aload_n (pc := 145) h 0 dX11_readStreet_145 rfl rfl ?_
    refine V_callVI (pc := 146) (dy := 1) (q := (RX11, TX11, 59)) h [] [] 0 mv_X11_161 oM_0 rfl dX11_readStreet_146 rfl rfl (Nat.le_of_ble_eq_true rfl) (Nat.le_trans (by decide) hD) (m_look S) (fun z9 hz9 => m_look_ct h.gg (Nat.le_refl 1) S z9 hz9) (fun x2 S1 => ?_)
    refine V_iconst (pc := 149) (v := -1) h dX11_readStreet_149 (by decide) ?_
    refine V_icmp_ne (pc := 150) h 160 dX11_readStreet_150 (by decide) ?_ ?_
    · exact V_ls [0] rfl (m_readStreet_b160_ok h hr hlk hD S1)
    · refine V_aload_n (pc := 153) h 0 dX11_readStreet_153 rfl rfl ?_
      refine V_get (pc := 154) h 0 25 (.int (S1 0 25)) fl_X11_244_X11 oM_0 rfl rfl dX11_readStreet_154 ?_
      refine V_if_ne (pc := 157) h 165 dX11_readStreet_157 (by decide) ?_ ?_
      · exact V_vret (pc := 165) h hr hlk dX11_readStreet_165
      · exact V_ls [0] rfl (m_readStreet_b160_ok h hr hlk hD S1)
def m_readStreet_h81 : Nat → Int32 → St → Option St
  | 0, _, _ => none
  | n + 1, v1, S => (if v1 = 0 then (m_readStreet_b137 S) else (if (S 0 11) = (-1 : Int32) then (bV (m_readClause S) (fun S1 => (if (S1 0 11) = (-1 : Int32) then (bI (m_look S1) (fun x3 S2 => (if x3 = (59 : Int32) then (m_readStreet_b119 (m_readStreet_h81 n) (1 : Int32) S2) else (m_readStreet_b118 (m_readStreet_h81 n) S2)))) else (m_readStreet_b118 (m_readStreet_h81 n) S1)))) else (m_readStreet_b137 S)))
set_option maxHeartbeats 4000000 in
set_option maxRecDepth 100000 in
theorem m_readStreet_h81_ok {d : Nat} (h : Cx p s m c cX11_readStreet 2 RX11 s0 args0 D ca a A) (hr : meth.sig.returnType = none) (hlk : meth.locks = false) (hD : 7 ≤ d) : ∀ (n : Nat) (v1 : Int32) (S : St), VV p l e (rmd d) s m args below meth c D ca tpM a A 2 (QmV D ca tpM a A below args s) S [(0, .ref (a 0)), (1, .int v1)] 81 [] (m_readStreet_h81 n v1 S) := by
  intro n
  induction n with
  | zero => intro v1 S; exact V_none
  | succ n ih =>
    intro v1 S
    unfold m_readStreet_h81
    refine V_iload_n (pc := 81) h 1 dX11_readStreet_81 rfl rfl ?_
    refine V_if_eq (pc := 82) h 137 dX11_readStreet_82 (by decide) ?_ ?_
    · exact V_ls [0] rfl (m_readStreet_b137_ok h hr hlk hD S)
    · refine V_aload_n (pc := 85) h 0 dX11_readStreet_85 rfl rfl ?_
      refine V_get (pc := 86) h 0 11 (.int (S 0 11)) fl_X11_151_X11 oM_0 rfl rfl dX11_readStreet_86 ?_
      refine V_iconst (pc := 89) (v := -1) h dX11_readStreet_89 (by decide) ?_
      refine V_icmp_ne (pc := 90) h 137 dX11_readStreet_90 (by decide) ?_ ?_
      · exact V_ls [0] rfl (m_readStreet_b137_ok h hr hlk hD S)
      · refine V_aload_n (pc := 93) h 0 dX11_readStreet_93 rfl rfl ?_
        refine V_callVV (pc := 94) (dy := 6) (q := (RX11, TX11, 59)) h [] [] 0 mv_X11_275 oM_0 rfl dX11_readStreet_94 rfl rfl (Nat.le_of_ble_eq_true rfl) (Nat.le_trans (by decide) hD) (m_readClause S) (fun z9 hz9 => m_readClause_ct h.gg (Nat.le_refl 6) S z9 hz9) (fun S1 => ?_)
        refine V_aload_n (pc := 97) h 0 dX11_readStreet_97 rfl rfl ?_
        refine V_get (pc := 98) h 0 11 (.int (S1 0 11)) fl_X11_151_X11 oM_0 rfl rfl dX11_readStreet_98 ?_
        refine V_iconst (pc := 101) (v := -1) h dX11_readStreet_101 (by decide) ?_
        refine V_icmp_ne (pc := 102) h 118 dX11_readStreet_102 (by decide) ?_ ?_
        · exact V_ls [0] rfl (m_readStreet_b118_ok h hr hlk hD (m_readStreet_h81 n) ih S1)
        · refine V_aload_n (pc := 105) h 0 dX11_readStreet_105 rfl rfl ?_
          refine V_callVI (pc := 106) (dy := 1) (q := (RX11, TX11, 59)) h [] [] 0 mv_X11_161 oM_0 rfl dX11_readStreet_106 rfl rfl (Nat.le_of_ble_eq_true rfl) (Nat.le_trans (by decide) hD) (m_look S1) (fun z9 hz9 => m_look_ct h.gg (Nat.le_refl 1) S1 z9 hz9) (fun x3 S2 => ?_)
          refine V_bipush (pc := 109) (v := 59) h dX11_readStreet_109 (by decide) ?_
          refine V_icmp_ne (pc := 111) h 118 dX11_readStreet_111 (by decide) ?_ ?_
          · exact V_ls [0] rfl (m_readStreet_b118_ok h hr hlk hD (m_readStreet_h81 n) ih S2)
          · refine V_iconst (pc := 114) (v := 1) h dX11_readStreet_114 (by decide) ?_
            refine V_goto (pc := 115) h 119 dX11_readStreet_115 (by decide) ?_
            exact V_ls [0] rfl (m_readStreet_b119_ok h hr hlk hD (m_readStreet_h81 n) ih (1 : Int32) S2)
def m_readStreet_h30 : Nat → Int32 → St → Option St
  | 0, _, _ => none
  | n + 1, v1, S => (if (5 : Int32) ≤ v1 then (ckM (0 : Int32) 3 (bnd (up2 S 10 (0 : Int32).toNatClampNeg (10 : Int32)) (fun S1 => (ckM (1 : Int32) 3 (bnd (up2 S1 10 (1 : Int32).toNatClampNeg (1 : Int32)) (fun S2 => (ckM (2 : Int32) 3 (bnd (up2 S2 10 (2 : Int32).toNatClampNeg (5 : Int32)) (fun S3 => (m_readStreet_h81 FU (1 : Int32) S3)))))))))) else (if v1 = 0 then (m_readStreet_b50 (m_readStreet_h30 n) v1 (50 : Int32) v1 S) else (m_readStreet_b50 (m_readStreet_h30 n) v1 (0 : Int32) v1 S)))
set_option maxHeartbeats 4000000 in
set_option maxRecDepth 100000 in
theorem m_readStreet_h30_ok {d : Nat} (h : Cx p s m c cX11_readStreet 2 RX11 s0 args0 D ca a A) (hr : meth.sig.returnType = none) (hlk : meth.locks = false) (hD : 7 ≤ d) : ∀ (n : Nat) (v1 : Int32) (S : St), VV p l e (rmd d) s m args below meth c D ca tpM a A 2 (QmV D ca tpM a A below args s) S [(0, .ref (a 0)), (1, .int v1)] 30 [] (m_readStreet_h30 n v1 S) := by
  intro n
  induction n with
  | zero => intro v1 S; exact V_none
  | succ n ih =>
    intro v1 S
    unfold m_readStreet_h30
    refine V_iload_n (pc := 30) h 1 dX11_readStreet_30 rfl rfl ?_
    refine V_iconst (pc := 31) (v := 5) h dX11_readStreet_31 (by decide) ?_
    refine V_icmp_ge (pc := 32) h 57 dX11_readStreet_32 (by decide) ?_ ?_
    · refine V_aload_n (pc := 57) h 0 dX11_readStreet_57 rfl rfl ?_
      refine V_get (pc := 58) h 0 23 (.ref (a 10)) fl_X11_52_X11 oM_0 rfl rfl dX11_readStreet_58 ?_
      refine V_iconst (pc := 61) (v := 0) h dX11_readStreet_61 (by decide) ?_
      refine V_bipush (pc := 62) (v := 10) h dX11_readStreet_62 (by decide) ?_
      refine V_iast (pc := 64) h 10 oM_10 dX11_readStreet_64 (fun S1 => ?_)
      refine V_aload_n (pc := 65) h 0 dX11_readStreet_65 rfl rfl ?_
      refine V_get (pc := 66) h 0 23 (.ref (a 10)) fl_X11_52_X11 oM_0 rfl rfl dX11_readStreet_66 ?_
      refine V_iconst (pc := 69) (v := 1) h dX11_readStreet_69 (by decide) ?_
      refine V_iconst (pc := 70) (v := 1) h dX11_readStreet_70 (by decide) ?_
      refine V_iast (pc := 71) h 10 oM_10 dX11_readStreet_71 (fun S2 => ?_)
      refine V_aload_n (pc := 72) h 0 dX11_readStreet_72 rfl rfl ?_
      refine V_get (pc := 73) h 0 23 (.ref (a 10)) fl_X11_52_X11 oM_0 rfl rfl dX11_readStreet_73 ?_
      refine V_iconst (pc := 76) (v := 2) h dX11_readStreet_76 (by decide) ?_
      refine V_iconst (pc := 77) (v := 5) h dX11_readStreet_77 (by decide) ?_
      refine V_iast (pc := 78) h 10 oM_10 dX11_readStreet_78 (fun S3 => ?_)
      refine V_iconst (pc := 79) (v := 1) h dX11_readStreet_79 (by decide) ?_
      refine V_istore_n (pc := 80) h [(1, .int (1 : Int32)), (0, .ref (a 0))] dX11_readStreet_80 rfl (by decide) rfl ?_
      exact V_ls [1, 0] rfl (m_readStreet_h81_ok h hr hlk hD FU (1 : Int32) S3)
    · refine V_aload_n (pc := 35) h 0 dX11_readStreet_35 rfl rfl ?_
      refine V_get (pc := 36) h 0 19 (.ref (a 6)) fl_X11_40_X11 oM_0 rfl rfl dX11_readStreet_36 ?_
      refine V_iload_n (pc := 39) h 1 dX11_readStreet_39 rfl rfl ?_
      refine V_iload_n (pc := 40) h 1 dX11_readStreet_40 rfl rfl ?_
      refine V_if_ne (pc := 41) h 49 dX11_readStreet_41 (by decide) ?_ ?_
      · refine V_iconst (pc := 49) (v := 0) h dX11_readStreet_49 (by decide) ?_
        exact V_ls [0, 1] rfl (m_readStreet_b50_ok h hr hlk hD (m_readStreet_h30 n) ih v1 (0 : Int32) v1 S)
      · refine V_bipush (pc := 44) (v := 50) h dX11_readStreet_44 (by decide) ?_
        refine V_goto (pc := 46) h 50 dX11_readStreet_46 (by decide) ?_
        exact V_ls [0, 1] rfl (m_readStreet_b50_ok h hr hlk hD (m_readStreet_h30 n) ih v1 (50 : Int32) v1 S)
def m_readStreet (S : St) : Option St := (bV (m_opens_1 (0 : Int32) (S 0 6) S) (fun S1 => (bnd (up2 S1 0 25 (0 : Int32)) (fun S2 => (bnd (up2 S2 0 26 (0 : Int32)) (fun S3 => (bnd (up2 S3 0 27 (0 : Int32)) (fun S4 => (m_readStreet_h30 FU (0 : Int32) S4)))))))))
set_option maxHeartbeats 4000000 in
set_option maxRecDepth 100000 in
theorem m_readStreet_ok {d : Nat} (h : Cx p s m c cX11_readStreet 2 RX11 s0 args0 D ca a A) (hr : meth.sig.returnType = none) (hlk : meth.locks = false) (hD : 7 ≤ d) (S : St) : VV p l e (rmd d) s m args below meth c D ca tpM a A 2 (QmV D ca tpM a A below args s) S [(0, .ref (a 0))] 0 [] (m_readStreet S) := by
  unfold m_readStreet
  refine V_aload_n (pc := 0) h 0 dX11_readStreet_0 rfl rfl ?_
  refine V_aload_n (pc := 1) h 0 dX11_readStreet_1 rfl rfl ?_
  refine V_get (pc := 2) h 0 1 (.ref (a 1)) fl_X11_9_X11 oM_0 rfl rfl dX11_readStreet_2 ?_
  refine V_iconst (pc := 5) (v := 0) h dX11_readStreet_5 (by decide) ?_
  refine V_aload_n (pc := 6) h 0 dX11_readStreet_6 rfl rfl ?_
  refine V_get (pc := 7) h 0 6 (.int (S 0 6)) fl_X11_132_X11 oM_0 rfl rfl dX11_readStreet_7 ?_
  refine V_callVV (pc := 10) (dy := 1) (q := (RX11, TX11, 59)) h [.ref (a 1), .int (0 : Int32), .int (S 0 6)] [] 0 mv_X11_230 oM_0 rfl dX11_readStreet_10 rfl rfl (Nat.le_of_ble_eq_true rfl) (Nat.le_trans (by decide) hD) (m_opens_1 (0 : Int32) (S 0 6) S) (fun z9 hz9 => m_opens_1_ct h.gg (Nat.le_refl 1) (0 : Int32) (S 0 6) S z9 hz9) (fun S1 => ?_)
  refine V_aload_n (pc := 13) h 0 dX11_readStreet_13 rfl rfl ?_
  refine V_iconst (pc := 14) (v := 0) h dX11_readStreet_14 (by decide) ?_
  refine V_put (pc := 15) h 0 25 (0 : Int32) fp_X11_244_X11 oM_0 rfl rfl rfl rfl dX11_readStreet_15 (fun S2 => ?_)
  refine V_aload_n (pc := 18) h 0 dX11_readStreet_18 rfl rfl ?_
  refine V_iconst (pc := 19) (v := 0) h dX11_readStreet_19 (by decide) ?_
  refine V_put (pc := 20) h 0 26 (0 : Int32) fp_X11_247_X11 oM_0 rfl rfl rfl rfl dX11_readStreet_20 (fun S3 => ?_)
  refine V_aload_n (pc := 23) h 0 dX11_readStreet_23 rfl rfl ?_
  refine V_iconst (pc := 24) (v := 0) h dX11_readStreet_24 (by decide) ?_
  refine V_put (pc := 25) h 0 27 (0 : Int32) fp_X11_250_X11 oM_0 rfl rfl rfl rfl dX11_readStreet_25 (fun S4 => ?_)
  refine V_iconst (pc := 28) (v := 0) h dX11_readStreet_28 (by decide) ?_
  refine V_istore_n (pc := 29) h [(1, .int (0 : Int32)), (0, .ref (a 0))] dX11_readStreet_29 rfl (by decide) rfl ?_
  exact V_ls [1, 0] rfl (m_readStreet_h30_ok h hr hlk hD FU (0 : Int32) S4)
theorem m_readStreet_ct {d : Nat} (g : GG s0 args0 D ca a A) (hD : 7 ≤ d) (S : St) (z : St) (hz : m_readStreet S = some z) : CtV l yX11_readStreet cX11_readStreet 2 d s0 D ca tpM a A [.ref (a 0)] S z := CtV_mk g (by decide +kernel) (Nat.le_of_ble_eq_true rfl) hz (fun p e s m args below meth c h hr hlk => m_readStreet_ok h hr hlk hD S)
def m_goThrough_1_b66 (S : St) : Option St := (if (S 0 11) = (-1 : Int32) then (bI (m_look S) (fun x2 S1 => (if x2 = (-1 : Int32) then (some S1) else (bI (m_fails S1) (fun x4 S3 => (some S3)))))) else (some S))
set_option maxHeartbeats 4000000 in
set_option maxRecDepth 100000 in
theorem m_goThrough_1_b66_ok {d : Nat} (h : Cx p s m c cX11_goThrough 4 RX11 s0 args0 D ca a A) (hr : meth.sig.returnType = none) (hlk : meth.locks = false) (hD : 48 ≤ d) (S : St) : VV p l e (rmd d) s m args below meth c D ca tpM a A 4 (QmV D ca tpM a A below args s) S [(0, .ref (a 0))] 66 [] (m_goThrough_1_b66 S) := by
  unfold m_goThrough_1_b66
  refine V_aload_n (pc := 66) h 0 dX11_goThrough_66 rfl rfl ?_
  refine V_get (pc := 67) h 0 11 (.int (S 0 11)) fl_X11_151_X11 oM_0 rfl rfl dX11_goThrough_67 ?_
  refine V_iconst (pc := 70) (v := -1) h dX11_goThrough_70 (by decide) ?_
  refine V_icmp_ne (pc := 71) h 87 dX11_goThrough_71 (by decide) ?_ ?_
  · exact V_vret (pc := 87) h hr hlk dX11_goThrough_87
  · refine V_aload_n (pc := 74) h 0 dX11_goThrough_74 rfl rfl ?_
    refine V_callVI (pc := 75) (dy := 1) (q := (RX11, TX11, 59)) h [] [] 0 mv_X11_161 oM_0 rfl dX11_goThrough_75 rfl rfl (Nat.le_of_ble_eq_true rfl) (Nat.le_trans (by decide) hD) (m_look S) (fun z9 hz9 => m_look_ct h.gg (Nat.le_refl 1) S z9 hz9) (fun x2 S1 => ?_)
    refine V_iconst (pc := 78) (v := -1) h dX11_goThrough_78 (by decide) ?_
    refine V_icmp_eq (pc := 79) h 87 dX11_goThrough_79 (by decide) ?_ ?_
    · exact V_vret (pc := 87) h hr hlk dX11_goThrough_87
    · refine V_aload_n (pc := 82) h 0 dX11_goThrough_82 rfl rfl ?_
      refine V_callVI (pc := 83) (dy := 1) (q := (RX11, TX11, 59)) h [] [] 0 mv_X11_157 oM_0 rfl dX11_goThrough_83 rfl rfl (Nat.le_of_ble_eq_true rfl) (Nat.le_trans (by decide) hD) (m_fails S1) (fun z9 hz9 => m_fails_ct h.gg (Nat.le_refl 1) S1 z9 hz9) (fun x4 S3 => ?_)
      refine V_pop (pc := 86) h dX11_goThrough_86 rfl ?_
      exact V_vret (pc := 87) h hr hlk dX11_goThrough_87
def m_goThrough_1_h32 : Nat → St → Option St
  | 0, _ => none
  | n + 1, S => (if (S 0 11) = (-1 : Int32) then (bI (m_look S) (fun x2 S1 => (if x2 = (59 : Int32) then (bnd (up2 S1 0 10 ((S1 0 10) + (1 : Int32))) (fun S3 => (bV (m_clause S3) (fun S4 => ((m_goThrough_1_h32 n) S4))))) else (m_goThrough_1_b66 S1)))) else (m_goThrough_1_b66 S))
set_option maxHeartbeats 4000000 in
set_option maxRecDepth 100000 in
theorem m_goThrough_1_h32_ok {d : Nat} (h : Cx p s m c cX11_goThrough 4 RX11 s0 args0 D ca a A) (hr : meth.sig.returnType = none) (hlk : meth.locks = false) (hD : 48 ≤ d) : ∀ (n : Nat) (S : St), VV p l e (rmd d) s m args below meth c D ca tpM a A 4 (QmV D ca tpM a A below args s) S [(0, .ref (a 0))] 32 [] (m_goThrough_1_h32 n S) := by
  intro n
  induction n with
  | zero => intro S; exact V_none
  | succ n ih =>
    intro S
    unfold m_goThrough_1_h32
    refine V_aload_n (pc := 32) h 0 dX11_goThrough_32 rfl rfl ?_
    refine V_get (pc := 33) h 0 11 (.int (S 0 11)) fl_X11_151_X11 oM_0 rfl rfl dX11_goThrough_33 ?_
    refine V_iconst (pc := 36) (v := -1) h dX11_goThrough_36 (by decide) ?_
    refine V_icmp_ne (pc := 37) h 66 dX11_goThrough_37 (by decide) ?_ ?_
    · exact V_ls [0] rfl (m_goThrough_1_b66_ok h hr hlk hD S)
    · refine V_aload_n (pc := 40) h 0 dX11_goThrough_40 rfl rfl ?_
      refine V_callVI (pc := 41) (dy := 1) (q := (RX11, TX11, 59)) h [] [] 0 mv_X11_161 oM_0 rfl dX11_goThrough_41 rfl rfl (Nat.le_of_ble_eq_true rfl) (Nat.le_trans (by decide) hD) (m_look S) (fun z9 hz9 => m_look_ct h.gg (Nat.le_refl 1) S z9 hz9) (fun x2 S1 => ?_)
      refine V_bipush (pc := 44) (v := 59) h dX11_goThrough_44 (by decide) ?_
      refine V_icmp_ne (pc := 46) h 66 dX11_goThrough_46 (by decide) ?_ ?_
      · exact V_ls [0] rfl (m_goThrough_1_b66_ok h hr hlk hD S1)
      · refine V_aload_n (pc := 49) h 0 dX11_goThrough_49 rfl rfl ?_
        refine V_dup (pc := 50) h dX11_goThrough_50 rfl ?_
        refine V_get (pc := 51) h 0 10 (.int (S1 0 10)) fl_X11_142_X11 oM_0 rfl rfl dX11_goThrough_51 ?_
        refine V_iconst (pc := 54) (v := 1) h dX11_goThrough_54 (by decide) ?_
        refine V_iadd (pc := 55) h dX11_goThrough_55 ?_
        refine V_put (pc := 56) h 0 10 ((S1 0 10) + (1 : Int32)) fp_X11_142_X11 oM_0 rfl rfl rfl rfl dX11_goThrough_56 (fun S3 => ?_)
        refine V_aload_n (pc := 59) h 0 dX11_goThrough_59 rfl rfl ?_
        refine V_callVV (pc := 60) (dy := 47) (q := (RX11, TX11, 59)) h [] [] 0 mv_X11_234 oM_0 rfl dX11_goThrough_60 rfl rfl (Nat.le_of_ble_eq_true rfl) (Nat.le_trans (by decide) hD) (m_clause S3) (fun z9 hz9 => m_clause_ct h.gg (Nat.le_refl 47) S3 z9 hz9) (fun S4 => ?_)
        refine V_goto (pc := 63) h 32 dX11_goThrough_63 (by decide) ?_
        exact V_ls [0] rfl (ih  S4)
def m_goThrough_1 (v2 : Int32) (v3 : Int32) (S : St) : Option St := (bV (m_opens_1 v2 v3 S) (fun S1 => (bnd (up2 S1 0 13 (121 : Int32)) (fun S2 => (bnd (up2 S2 0 12 (0 : Int32)) (fun S3 => (bnd (up2 S3 0 17 (0 : Int32)) (fun S4 => (bnd (up2 S4 0 14 (0 : Int32)) (fun S5 => (bV (m_clause S5) (fun S6 => (m_goThrough_1_h32 FU S6)))))))))))))
set_option maxHeartbeats 4000000 in
set_option maxRecDepth 100000 in
theorem m_goThrough_1_ok {d : Nat} (h : Cx p s m c cX11_goThrough 4 RX11 s0 args0 D ca a A) (hr : meth.sig.returnType = none) (hlk : meth.locks = false) (hD : 48 ≤ d) (v2 : Int32) (v3 : Int32) (S : St) : VV p l e (rmd d) s m args below meth c D ca tpM a A 4 (QmV D ca tpM a A below args s) S [(0, .ref (a 0)), (1, .ref (a 1)), (2, .int v2), (3, .int v3)] 0 [] (m_goThrough_1 v2 v3 S) := by
  unfold m_goThrough_1
  refine V_aload_n (pc := 0) h 0 dX11_goThrough_0 rfl rfl ?_
  refine V_aload_n (pc := 1) h 1 dX11_goThrough_1 rfl rfl ?_
  refine V_iload_n (pc := 2) h 2 dX11_goThrough_2 rfl rfl ?_
  refine V_iload_n (pc := 3) h 3 dX11_goThrough_3 rfl rfl ?_
  refine V_callVV (pc := 4) (dy := 1) (q := (RX11, TX11, 59)) h [.ref (a 1), .int v2, .int v3] [] 0 mv_X11_230 oM_0 rfl dX11_goThrough_4 rfl rfl (Nat.le_of_ble_eq_true rfl) (Nat.le_trans (by decide) hD) (m_opens_1 v2 v3 S) (fun z9 hz9 => m_opens_1_ct h.gg (Nat.le_refl 1) v2 v3 S z9 hz9) (fun S1 => ?_)
  refine V_aload_n (pc := 7) h 0 dX11_goThrough_7 rfl rfl ?_
  refine V_bipush (pc := 8) (v := 121) h dX11_goThrough_8 (by decide) ?_
  refine V_put (pc := 10) h 0 13 (121 : Int32) fp_X11_224_X11 oM_0 rfl rfl rfl rfl dX11_goThrough_10 (fun S2 => ?_)
  refine V_aload_n (pc := 13) h 0 dX11_goThrough_13 rfl rfl ?_
  refine V_iconst (pc := 14) (v := 0) h dX11_goThrough_14 (by decide) ?_
  refine V_put (pc := 15) h 0 12 (0 : Int32) fp_X11_154_X11 oM_0 rfl rfl rfl rfl dX11_goThrough_15 (fun S3 => ?_)
  refine V_aload_n (pc := 18) h 0 dX11_goThrough_18 rfl rfl ?_
  refine V_iconst (pc := 19) (v := 0) h dX11_goThrough_19 (by decide) ?_
  refine V_put (pc := 20) h 0 17 (0 : Int32) fp_X11_220_X11 oM_0 rfl rfl rfl rfl dX11_goThrough_20 (fun S4 => ?_)
  refine V_aload_n (pc := 23) h 0 dX11_goThrough_23 rfl rfl ?_
  refine V_iconst (pc := 24) (v := 0) h dX11_goThrough_24 (by decide) ?_
  refine V_put (pc := 25) h 0 14 (0 : Int32) fp_X11_227_X11 oM_0 rfl rfl rfl rfl dX11_goThrough_25 (fun S5 => ?_)
  refine V_aload_n (pc := 28) h 0 dX11_goThrough_28 rfl rfl ?_
  refine V_callVV (pc := 29) (dy := 47) (q := (RX11, TX11, 59)) h [] [] 0 mv_X11_234 oM_0 rfl dX11_goThrough_29 rfl rfl (Nat.le_of_ble_eq_true rfl) (Nat.le_trans (by decide) hD) (m_clause S5) (fun z9 hz9 => m_clause_ct h.gg (Nat.le_refl 47) S5 z9 hz9) (fun S6 => ?_)
  exact V_ls [0] rfl (m_goThrough_1_h32_ok h hr hlk hD FU S6)
theorem m_goThrough_1_ct {d : Nat} (g : GG s0 args0 D ca a A) (hD : 48 ≤ d) (v2 : Int32) (v3 : Int32) (S : St) (z : St) (hz : m_goThrough_1 v2 v3 S = some z) : CtV l yX11_goThrough cX11_goThrough 4 d s0 D ca tpM a A [.ref (a 0), .ref (a 1), .int v2, .int v3] S z := CtV_mk g (by decide +kernel) (Nat.le_of_ble_eq_true rfl) hz (fun p e s m args below meth c h hr hlk => m_goThrough_1_ok h hr hlk hD v2 v3 S)
def m_fault (v1 : Int32) (S : St) : Option (Int32 × St) := (bnd (up2 S 0 0 (0 : Int32)) (fun S1 => (bI (m_isIn (v1.toInt64) (0 : Int64) (1 : Int64) S1) (fun x3 S2 => (if x3 = 0 then (some ((-2 : Int32), S2)) else (if v1 = 0 then (bV (m_readStreet S2) (fun S5 => (some ((S5 0 11), S5)))) else (bV (m_goThrough_1 (0 : Int32) (S2 0 6) S2) (fun S4 => (some ((S4 0 11), S4))))))))))
set_option maxHeartbeats 4000000 in
set_option maxRecDepth 100000 in
theorem m_fault_ok {d : Nat} (h : Cx p s m c cX11_fault 2 RX11 s0 args0 D ca a A) (hr : meth.sig.returnType = some .int) (hlk : meth.locks = false) (hD : 49 ≤ d) (v1 : Int32) (S : St) : VV p l e (rmd d) s m args below meth c D ca tpM a A 2 (QmI D ca tpM a A below args s) S [(0, .ref (a 0)), (1, .int v1)] 0 [] (m_fault v1 S) := by
  unfold m_fault
  refine V_aload_n (pc := 0) h 0 dX11_fault_0 rfl rfl ?_
  refine V_iconst (pc := 1) (v := 0) h dX11_fault_1 (by decide) ?_
  refine V_put (pc := 2) h 0 0 (0 : Int32) fp_X11_119_X11 oM_0 rfl rfl rfl rfl dX11_fault_2 (fun S1 => ?_)
  refine V_iload_n (pc := 5) h 1 dX11_fault_5 rfl rfl ?_
  refine V_i2l (pc := 6) h dX11_fault_6 ?_
  refine V_lconst (pc := 7) (v := 0) h dX11_fault_7 (by decide) ?_
  refine V_lconst (pc := 8) (v := 1) h dX11_fault_8 (by decide) ?_
  refine V_callSI (pc := 9) (dy := 1) h [.long (v1.toInt64), .long (0 : Int64), .long (1 : Int64)] [] ms_X11_240 dX11_fault_9 rfl rfl (Nat.le_of_ble_eq_true rfl) (Nat.le_trans (by decide) hD) (m_isIn (v1.toInt64) (0 : Int64) (1 : Int64) S1) (fun z9 hz9 => m_isIn_ct h.gg (Nat.le_refl 1) (v1.toInt64) (0 : Int64) (1 : Int64) S1 z9 hz9) (fun x3 S2 => ?_)
  refine V_if_ne (pc := 12) h 18 dX11_fault_12 (by decide) ?_ ?_
  · refine V_iload_n (pc := 18) h 1 dX11_fault_18 rfl rfl ?_
    refine V_if_ne (pc := 19) h 29 dX11_fault_19 (by decide) ?_ ?_
    · refine V_aload_n (pc := 29) h 0 dX11_fault_29 rfl rfl ?_
      refine V_aload_n (pc := 30) h 0 dX11_fault_30 rfl rfl ?_
      refine V_get (pc := 31) h 0 1 (.ref (a 1)) fl_X11_9_X11 oM_0 rfl rfl dX11_fault_31 ?_
      refine V_iconst (pc := 34) (v := 0) h dX11_fault_34 (by decide) ?_
      refine V_aload_n (pc := 35) h 0 dX11_fault_35 rfl rfl ?_
      refine V_get (pc := 36) h 0 6 (.int (S2 0 6)) fl_X11_132_X11 oM_0 rfl rfl dX11_fault_36 ?_
      refine V_callVV (pc := 39) (dy := 48) (q := (RX11, TX11, 59)) h [.ref (a 1), .int (0 : Int32), .int (S2 0 6)] [] 0 mv_X11_281 oM_0 rfl dX11_fault_39 rfl rfl (Nat.le_of_ble_eq_true rfl) (Nat.le_trans (by decide) hD) (m_goThrough_1 (0 : Int32) (S2 0 6) S2) (fun z9 hz9 => m_goThrough_1_ct h.gg (Nat.le_refl 48) (0 : Int32) (S2 0 6) S2 z9 hz9) (fun S4 => ?_)
      refine V_aload_n (pc := 42) h 0 dX11_fault_42 rfl rfl ?_
      refine V_get (pc := 43) h 0 11 (.int (S4 0 11)) fl_X11_151_X11 oM_0 rfl rfl dX11_fault_43 ?_
      exact V_iret (pc := 46) h hr hlk dX11_fault_46
    · refine V_aload_n (pc := 22) h 0 dX11_fault_22 rfl rfl ?_
      refine V_callVV (pc := 23) (dy := 7) (q := (RX11, TX11, 59)) h [] [] 0 mv_X11_278 oM_0 rfl dX11_fault_23 rfl rfl (Nat.le_of_ble_eq_true rfl) (Nat.le_trans (by decide) hD) (m_readStreet S2) (fun z9 hz9 => m_readStreet_ct h.gg (Nat.le_refl 7) S2 z9 hz9) (fun S5 => ?_)
      refine V_goto (pc := 26) h 42 dX11_fault_26 (by decide) ?_
      refine V_aload_n (pc := 42) h 0 dX11_fault_42 rfl rfl ?_
      refine V_get (pc := 43) h 0 11 (.int (S5 0 11)) fl_X11_151_X11 oM_0 rfl rfl dX11_fault_43 ?_
      exact V_iret (pc := 46) h hr hlk dX11_fault_46
  · refine V_bipush (pc := 15) (v := -2) h dX11_fault_15 (by decide) ?_
    exact V_iret (pc := 17) h hr hlk dX11_fault_17
theorem m_fault_ct {d : Nat} (g : GG s0 args0 D ca a A) (hD : 49 ≤ d) (v1 : Int32) (S : St) (z : Int32 × St) (hz : m_fault v1 S = some z) : CtI l yX11_fault cX11_fault 2 .int d s0 D ca tpM a A [.ref (a 0), .int v1] S z := CtI_mk g (by decide +kernel) (Nat.le_of_ble_eq_true rfl) hz (fun p e s m args below meth c h hr hlk => m_fault_ok h hr hlk hD v1 S)
end GEN
