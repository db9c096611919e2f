section GEN
variable {p : Program} {l : Launch} {e : Env} {s : State} {m : MethodId} {args : Array Value} {below : List Frame} {meth : Method} {c : Code}
variable {D : va_G} {ca : Nat → ClassId} {tp : List ODt} {a : Nat → Nat} {A : Nat → Prop} {s0 : State} {args0 : Array Value} {t : Nat}
def m_goThrough_2_b66 (S : St) : Option St := (if (S 0 11) = (-1 : Int32) then (bI (m_look S) (fun x2 S1 => (if x2 = (-1 : Int32) then (some S1) else (bI (m_fails S1) (fun x4 S3 => (some S3)))))) else (some S))
set_option maxHeartbeats 4000000 in
set_option maxRecDepth 100000 in
theorem m_goThrough_2_b66_ok {d : Nat} (h : Cx p s m c cX11_goThrough 4 RX11 s0 args0 D ca a A) (hr : meth.sig.returnType = none) (hlk : meth.locks = false) (hD : 48 ≤ d) (S : St) : VV p l e (rmd d) s m args below meth c D ca tpM a A 4 (QmV D ca tpM a A below args s) S [(0, .ref (a 0))] 66 [] (m_goThrough_2_b66 S) := by
  unfold m_goThrough_2_b66
  refine V_aload_n (pc := 66) h 0 dX11_goThrough_66 rfl rfl ?_
  refine V_get (pc := 67) h 0 11 (.int (S 0 11)) fl_X11_151_X11 oM_0 rfl rfl dX11_goThrough_67 ?_
  refine V_iconst (pc := 70) (v := -1) h dX11_goThrough_70 (by decide) ?_
  refine V_icmp_ne (pc := 71) h 87 dX11_goThrough_71 (by decide) ?_ ?_
  · exact V_vret (pc := 87) h hr hlk dX11_goThrough_87
  · refine V_aload_n (pc := 74) h 0 dX11_goThrough_74 rfl rfl ?_
    refine V_callVI (pc := 75) (dy := 1) (q := (RX11, TX11, 59)) h [] [] 0 mv_X11_161 oM_0 rfl dX11_goThrough_75 rfl rfl (Nat.le_of_ble_eq_true rfl) (Nat.le_trans (by decide) hD) (m_look S) (fun z9 hz9 => m_look_ct h.gg (Nat.le_refl 1) S z9 hz9) (fun x2 S1 => ?_)
    refine V_iconst (pc := 78) (v := -1) h dX11_goThrough_78 (by decide) ?_
    refine V_icmp_eq (pc := 79) h 87 dX11_goThrough_79 (by decide) ?_ ?_
    · exact V_vret (pc := 87) h hr hlk dX11_goThrough_87
    · refine V_aload_n (pc := 82) h 0 dX11_goThrough_82 rfl rfl ?_
      refine V_callVI (pc := 83) (dy := 1) (q := (RX11, TX11, 59)) h [] [] 0 mv_X11_157 oM_0 rfl dX11_goThrough_83 rfl rfl (Nat.le_of_ble_eq_true rfl) (Nat.le_trans (by decide) hD) (m_fails S1) (fun z9 hz9 => m_fails_ct h.gg (Nat.le_refl 1) S1 z9 hz9) (fun x4 S3 => ?_)
      refine V_pop (pc := 86) h dX11_goThrough_86 rfl ?_
      exact V_vret (pc := 87) h hr hlk dX11_goThrough_87
def m_goThrough_2_h32 : Nat → St → Option St
  | 0, _ => none
  | n + 1, S => (if (S 0 11) = (-1 : Int32) then (bI (m_look S) (fun x2 S1 => (if x2 = (59 : Int32) then (bnd (up2 S1 0 10 ((S1 0 10) + (1 : Int32))) (fun S3 => (bV (m_clause S3) (fun S4 => ((m_goThrough_2_h32 n) S4))))) else (m_goThrough_2_b66 S1)))) else (m_goThrough_2_b66 S))
set_option maxHeartbeats 4000000 in
set_option maxRecDepth 100000 in
theorem m_goThrough_2_h32_ok {d : Nat} (h : Cx p s m c cX11_goThrough 4 RX11 s0 args0 D ca a A) (hr : meth.sig.returnType = none) (hlk : meth.locks = false) (hD : 48 ≤ d) : ∀ (n : Nat) (S : St), VV p l e (rmd d) s m args below meth c D ca tpM a A 4 (QmV D ca tpM a A below args s) S [(0, .ref (a 0))] 32 [] (m_goThrough_2_h32 n S) := by
  intro n
  induction n with
  | zero => intro S; exact V_none
  | succ n ih =>
    intro S
    unfold m_goThrough_2_h32
    refine V_aload_n (pc := 32) h 0 dX11_goThrough_32 rfl rfl ?_
    refine V_get (pc := 33) h 0 11 (.int (S 0 11)) fl_X11_151_X11 oM_0 rfl rfl dX11_goThrough_33 ?_
    refine V_iconst (pc := 36) (v := -1) h dX11_goThrough_36 (by decide) ?_
    refine V_icmp_ne (pc := 37) h 66 dX11_goThrough_37 (by decide) ?_ ?_
    · exact V_ls [0] rfl (m_goThrough_2_b66_ok h hr hlk hD S)
    · refine V_aload_n (pc := 40) h 0 dX11_goThrough_40 rfl rfl ?_
      refine V_callVI (pc := 41) (dy := 1) (q := (RX11, TX11, 59)) h [] [] 0 mv_X11_161 oM_0 rfl dX11_goThrough_41 rfl rfl (Nat.le_of_ble_eq_true rfl) (Nat.le_trans (by decide) hD) (m_look S) (fun z9 hz9 => m_look_ct h.gg (Nat.le_refl 1) S z9 hz9) (fun x2 S1 => ?_)
      refine V_bipush (pc := 44) (v := 59) h dX11_goThrough_44 (by decide) ?_
      refine V_icmp_ne (pc := 46) h 66 dX11_goThrough_46 (by decide) ?_ ?_
      · exact V_ls [0] rfl (m_goThrough_2_b66_ok h hr hlk hD S1)
      · refine V_aload_n (pc := 49) h 0 dX11_goThrough_49 rfl rfl ?_
        refine V_dup (pc := 50) h dX11_goThrough_50 rfl ?_
        refine V_get (pc := 51) h 0 10 (.int (S1 0 10)) fl_X11_142_X11 oM_0 rfl rfl dX11_goThrough_51 ?_
        refine V_iconst (pc := 54) (v := 1) h dX11_goThrough_54 (by decide) ?_
        refine V_iadd (pc := 55) h dX11_goThrough_55 ?_
        refine V_put (pc := 56) h 0 10 ((S1 0 10) + (1 : Int32)) fp_X11_142_X11 oM_0 rfl rfl rfl rfl dX11_goThrough_56 (fun S3 => ?_)
        refine V_aload_n (pc := 59) h 0 dX11_goThrough_59 rfl rfl ?_
        refine V_callVV (pc := 60) (dy := 47) (q := (RX11, TX11, 59)) h [] [] 0 mv_X11_234 oM_0 rfl dX11_goThrough_60 rfl rfl (Nat.le_of_ble_eq_true rfl) (Nat.le_trans (by decide) hD) (m_clause S3) (fun z9 hz9 => m_clause_ct h.gg (Nat.le_refl 47) S3 z9 hz9) (fun S4 => ?_)
        refine V_goto (pc := 63) h 32 dX11_goThrough_63 (by decide) ?_
        exact V_ls [0] rfl (ih  S4)
def m_goThrough_2 (v2 : Int32) (v3 : Int32) (S : St) : Option St := (bV (m_opens_2 v2 v3 S) (fun S1 => (bnd (up2 S1 0 13 (121 : Int32)) (fun S2 => (bnd (up2 S2 0 12 (0 : Int32)) (fun S3 => (bnd (up2 S3 0 17 (0 : Int32)) (fun S4 => (bnd (up2 S4 0 14 (0 : Int32)) (fun S5 => (bV (m_clause S5) (fun S6 => (m_goThrough_2_h32 FU S6)))))))))))))
set_option maxHeartbeats 4000000 in
set_option maxRecDepth 100000 in
theorem m_goThrough_2_ok {d : Nat} (h : Cx p s m c cX11_goThrough 4 RX11 s0 args0 D ca a A) (hr : meth.sig.returnType = none) (hlk : meth.locks = false) (hD : 48 ≤ d) (v2 : Int32) (v3 : Int32) (S : St) : VV p l e (rmd d) s m args below meth c D ca tpM a A 4 (QmV D ca tpM a A below args s) S [(0, .ref (a 0)), (1, .ref (a 2)), (2, .int v2), (3, .int v3)] 0 [] (m_goThrough_2 v2 v3 S) := by
  unfold m_goThrough_2
  refine V_aload_n (pc := 0) h 0 dX11_goThrough_0 rfl rfl ?_
  refine V_aload_n (pc := 1) h 1 dX11_goThrough_1 rfl rfl ?_
  refine V_iload_n (pc := 2) h 2 dX11_goThrough_2 rfl rfl ?_
  refine V_iload_n (pc := 3) h 3 dX11_goThrough_3 rfl rfl ?_
  refine V_callVV (pc := 4) (dy := 1) (q := (RX11, TX11, 59)) h [.ref (a 2), .int v2, .int v3] [] 0 mv_X11_230 oM_0 rfl dX11_goThrough_4 rfl rfl (Nat.le_of_ble_eq_true rfl) (Nat.le_trans (by decide) hD) (m_opens_2 v2 v3 S) (fun z9 hz9 => m_opens_2_ct h.gg (Nat.le_refl 1) v2 v3 S z9 hz9) (fun S1 => ?_)
  refine V_aload_n (pc := 7) h 0 dX11_goThrough_7 rfl rfl ?_
  refine V_bipush (pc := 8) (v := 121) h dX11_goThrough_8 (by decide) ?_
  refine V_put (pc := 10) h 0 13 (121 : Int32) fp_X11_224_X11 oM_0 rfl rfl rfl rfl dX11_goThrough_10 (fun S2 => ?_)
  refine V_aload_n (pc := 13) h 0 dX11_goThrough_13 rfl rfl ?_
  refine V_iconst (pc := 14) (v := 0) h dX11_goThrough_14 (by decide) ?_
  refine V_put (pc := 15) h 0 12 (0 : Int32) fp_X11_154_X11 oM_0 rfl rfl rfl rfl dX11_goThrough_15 (fun S3 => ?_)
  refine V_aload_n (pc := 18) h 0 dX11_goThrough_18 rfl rfl ?_
  refine V_iconst (pc := 19) (v := 0) h dX11_goThrough_19 (by decide) ?_
  refine V_put (pc := 20) h 0 17 (0 : Int32) fp_X11_220_X11 oM_0 rfl rfl rfl rfl dX11_goThrough_20 (fun S4 => ?_)
  refine V_aload_n (pc := 23) h 0 dX11_goThrough_23 rfl rfl ?_
  refine V_iconst (pc := 24) (v := 0) h dX11_goThrough_24 (by decide) ?_
  refine V_put (pc := 25) h 0 14 (0 : Int32) fp_X11_227_X11 oM_0 rfl rfl rfl rfl dX11_goThrough_25 (fun S5 => ?_)
  refine V_aload_n (pc := 28) h 0 dX11_goThrough_28 rfl rfl ?_
  refine V_callVV (pc := 29) (dy := 47) (q := (RX11, TX11, 59)) h [] [] 0 mv_X11_234 oM_0 rfl dX11_goThrough_29 rfl rfl (Nat.le_of_ble_eq_true rfl) (Nat.le_trans (by decide) hD) (m_clause S5) (fun z9 hz9 => m_clause_ct h.gg (Nat.le_refl 47) S5 z9 hz9) (fun S6 => ?_)
  exact V_ls [0] rfl (m_goThrough_2_h32_ok h hr hlk hD FU S6)
theorem m_goThrough_2_ct {d : Nat} (g : GG s0 args0 D ca a A) (hD : 48 ≤ d) (v2 : Int32) (v3 : Int32) (S : St) (z : St) (hz : m_goThrough_2 v2 v3 S = some z) : CtV l yX11_goThrough cX11_goThrough 4 d s0 D ca tpM a A [.ref (a 0), .ref (a 2), .int v2, .int v3] S z := CtV_mk g (by decide +kernel) (Nat.le_of_ble_eq_true rfl) hz (fun p e s m args below meth c h hr hlk => m_goThrough_2_ok h hr hlk hD v2 v3 S)
def m_mealOf_b97 (v1 : Int32) (v2 : Int32) (v4 : Int32) (v5 : Int32) (k0 : Int32) (S : St) : Option (Int32 × St) := (if (S 0 31) = (-1 : Int32) then (some (((v4 + v5) - ((3 : Int32) * k0)), S)) else (ckM (108 : Int32) 128 (bnd (up2 S 4 (108 : Int32).toNatClampNeg v5) (fun S1 => (ckM (110 : Int32) 128 (bnd (up2 S1 4 (110 : Int32).toNatClampNeg k0) (fun S2 => (ckM (115 : Int32) 128 (bnd (up2 S2 4 (115 : Int32).toNatClampNeg v4) (fun S3 => (ckM v1 6 (ckM (104 : Int32) 128 (bnd (up2 S3 4 (104 : Int32).toNatClampNeg (S3 17 v1.toNatClampNeg)) (fun S4 => (bI (m_placeIn v1 S4) (fun x6 S5 => (ckM (105 : Int32) 128 (bnd (up2 S5 4 (105 : Int32).toNatClampNeg x6) (fun S7 => (ckM (116 : Int32) 128 (bnd (up2 S7 4 (116 : Int32).toNatClampNeg v2) (fun S8 => (ckM (S8 0 31) 4 (bV (m_goThrough_2 ((160 : Int32) * (S8 0 31)) (S8 3 (S8 0 31).toNatClampNeg) S8) (fun S9 => (some ((S9 0 14), S9)))))))))))))))))))))))))))
set_option maxHeartbeats 4000000 in
set_option maxRecDepth 100000 in
theorem m_mealOf_b97_ok {d : Nat} (h : Cx p s m c cX11_mealOf 7 RX11 s0 args0 D ca a A) (hr : meth.sig.returnType = some .int) (hlk : meth.locks = false) (hD : 49 ≤ d) (v1 : Int32) (v2 : Int32) (v4 : Int32) (v5 : Int32) (k0 : Int32) (S : St) : VV p l e (rmd d) s m args below meth c D ca tpM a A 7 (QmI D ca tpM a A below args s) S [(0, .ref (a 0)), (1, .int v1), (2, .int v2), (4, .int v4), (5, .int v5)] 97 [.int k0] (m_mealOf_b97 v1 v2 v4 v5 k0 S) := by
  unfold m_mealOf_b97
  refine V_istore (pc := 97) h [(6, .int k0), (0, .ref (a 0)), (1, .int v1), (2, .int v2), (4, .int v4), (5, .int v5)] dX11_mealOf_97 (by decide) rfl ?_
  refine V_aload_n (pc := 99) h 1 dX11_mealOf_99 rfl rfl ?_
  refine V_get (pc := 100) h 0 31 (.int (S 0 31)) fl_X11_64_X11 oM_0 rfl rfl dX11_mealOf_100 ?_
  refine V_iconst (pc := 103) (v := -1) h dX11_mealOf_103 (by decide) ?_
  refine V_icmp_ne (pc := 104) h 118 dX11_mealOf_104 (by decide) ?_ ?_
  · refine V_aload_n (pc := 118) h 1 dX11_mealOf_118 rfl rfl ?_
    refine V_get (pc := 119) h 0 4 (.ref (a 4)) fl_X11_20_X11 oM_0 rfl rfl dX11_mealOf_119 ?_
    refine V_bipush (pc := 122) (v := 108) h dX11_mealOf_122 (by decide) ?_
    refine V_iload (pc := 124) h 5 dX11_mealOf_124 rfl ?_
    refine V_iast (pc := 126) h 4 oM_4 dX11_mealOf_126 (fun S1 => ?_)
    refine V_aload_n (pc := 127) h 1 dX11_mealOf_127 rfl rfl ?_
    refine V_get (pc := 128) h 0 4 (.ref (a 4)) fl_X11_20_X11 oM_0 rfl rfl dX11_mealOf_128 ?_
    refine V_bipush (pc := 131) (v := 110) h dX11_mealOf_131 (by decide) ?_
    refine V_iload (pc := 133) h 0 dX11_mealOf_133 rfl ?_
    refine V_iast (pc := 135) h 4 oM_4 dX11_mealOf_135 (fun S2 => ?_)
    refine V_aload_n (pc := 136) h 1 dX11_mealOf_136 rfl rfl ?_
    refine V_get (pc := 137) h 0 4 (.ref (a 4)) fl_X11_20_X11 oM_0 rfl rfl dX11_mealOf_137 ?_
    refine V_bipush (pc := 140) (v := 115) h dX11_mealOf_140 (by decide) ?_
    refine V_iload (pc := 142) h 4 dX11_mealOf_142 rfl ?_
    refine V_iast (pc := 144) h 4 oM_4 dX11_mealOf_144 (fun S3 => ?_)
    refine V_aload_n (pc := 145) h 1 dX11_mealOf_145 rfl rfl ?_
    refine V_get (pc := 146) h 0 4 (.ref (a 4)) fl_X11_20_X11 oM_0 rfl rfl dX11_mealOf_146 ?_
    refine V_bipush (pc := 149) (v := 104) h dX11_mealOf_149 (by decide) ?_
    refine V_aload_n (pc := 151) h 1 dX11_mealOf_151 rfl rfl ?_
    refine V_get (pc := 152) h 0 36 (.ref (a 17)) fl_X11_77_X11 oM_0 rfl rfl dX11_mealOf_152 ?_
    refine V_iload_n (pc := 155) h 2 dX11_mealOf_155 rfl rfl ?_
    refine V_iald (pc := 156) h 17 oM_17 dX11_mealOf_156 ?_
    refine V_iast (pc := 157) h 4 oM_4 dX11_mealOf_157 (fun S4 => ?_)
    refine V_aload_n (pc := 158) h 1 dX11_mealOf_158 rfl rfl ?_
    refine V_get (pc := 159) h 0 4 (.ref (a 4)) fl_X11_20_X11 oM_0 rfl rfl dX11_mealOf_159 ?_
    refine V_bipush (pc := 162) (v := 105) h dX11_mealOf_162 (by decide) ?_
    refine V_aload_n (pc := 164) h 1 dX11_mealOf_164 rfl rfl ?_
    refine V_iload_n (pc := 165) h 2 dX11_mealOf_165 rfl rfl ?_
    refine V_callVI (pc := 166) (dy := 1) (q := (RX11, TX11, 59)) h [.int v1] [.int (105 : Int32), .ref (a 4)] 0 mv_X11_306 oM_0 rfl dX11_mealOf_166 rfl rfl (Nat.le_of_ble_eq_true rfl) (Nat.le_trans (by decide) hD) (m_placeIn v1 S4) (fun z9 hz9 => m_placeIn_ct h.gg (Nat.le_refl 1) v1 S4 z9 hz9) (fun x6 S5 => ?_)
    refine V_iast (pc := 169) h 4 oM_4 dX11_mealOf_169 (fun S7 => ?_)
    refine V_aload_n (pc := 170) h 1 dX11_mealOf_170 rfl rfl ?_
    refine V_get (pc := 171) h 0 4 (.ref (a 4)) fl_X11_20_X11 oM_0 rfl rfl dX11_mealOf_171 ?_
    refine V_bipush (pc := 174) (v := 116) h dX11_mealOf_174 (by decide) ?_
    refine V_iload_n (pc := 176) h 3 dX11_mealOf_176 rfl rfl ?_
    refine V_iast (pc := 177) h 4 oM_4 dX11_mealOf_177 (fun S8 => ?_)
    refine V_aload_n (pc := 178) h 1 dX11_mealOf_178 rfl rfl ?_
    refine V_aload_n (pc := 179) h 1 dX11_mealOf_179 rfl rfl ?_
    refine V_get (pc := 180) h 0 2 (.ref (a 2)) fl_X11_13_X11 oM_0 rfl rfl dX11_mealOf_180 ?_
    refine V_sipush (pc := 183) (v := 160) h dX11_mealOf_183 (by decide) ?_
    refine V_aload_n (pc := 186) h 1 dX11_mealOf_186 rfl rfl ?_
    refine V_get (pc := 187) h 0 31 (.int (S8 0 31)) fl_X11_64_X11 oM_0 rfl rfl dX11_mealOf_187 ?_
    refine V_imul (pc := 190) h dX11_mealOf_190 ?_
    refine V_aload_n (pc := 191) h 1 dX11_mealOf_191 rfl rfl ?_
    refine V_get (pc := 192) h 0 3 (.ref (a 3)) fl_X11_16_X11 oM_0 rfl rfl dX11_mealOf_192 ?_
    refine V_aload_n (pc := 195) h 1 dX11_mealOf_195 rfl rfl ?_
    refine V_get (pc := 196) h 0 31 (.int (S8 0 31)) fl_X11_64_X11 oM_0 rfl rfl dX11_mealOf_196 ?_
    refine V_iald (pc := 199) h 3 oM_3 dX11_mealOf_199 ?_
    refine V_callVV (pc := 200) (dy := 48) (q := (RX11, TX11, 59)) h [.ref (a 2), .int ((160 : Int32) * (S8 0 31)), .int (S8 3 (S8 0 31).toNatClampNeg)] [] 0 mv_X11_281 oM_0 rfl dX11_mealOf_200 rfl rfl (Nat.le_of_ble_eq_true rfl) (Nat.le_trans (by decide) hD) (m_goThrough_2 ((160 : Int32) * (S8 0 31)) (S8 3 (S8 0 31).toNatClampNeg) S8) (fun z9 hz9 => m_goThrough_2_ct h.gg (Nat.le_refl 48) ((160 : Int32) * (S8 0 31)) (S8 3 (S8 0 31).toNatClampNeg) S8 z9 hz9) (fun S9 => ?_)
    refine V_aload_n (pc := 203) h 1 dX11_mealOf_203 rfl rfl ?_
    refine V_get (pc := 204) h 0 14 (.int (S9 0 14)) fl_X11_227_X11 oM_0 rfl rfl dX11_mealOf_204 ?_
    exact V_iret (pc := 207) h hr hlk dX11_mealOf_207
  · refine V_iload (pc := 107) h 4 dX11_mealOf_107 rfl ?_
    refine V_iload (pc := 109) h 5 dX11_mealOf_109 rfl ?_
    refine V_iadd (pc := 111) h dX11_mealOf_111 ?_
    refine V_iconst (pc := 112) (v := 3) h dX11_mealOf_112 (by decide) ?_
    refine V_iload (pc := 113) h 0 dX11_mealOf_113 rfl ?_
    refine V_imul (pc := 115) h dX11_mealOf_115 ?_
    refine V_isub (pc := 116) h dX11_mealOf_116 ?_
    exact V_iret (pc := 117) h hr hlk dX11_mealOf_117
def m_mealOf_h11 : Nat → Int32 → Int32 → Int32 → Int32 → Int32 → St → Option (Int32 × St)
  | 0, _, _, _, _, _, _ => none
  | n + 1, v1, v2, v3, v4, v5, S => (if (5 : Int32) ≤ v5 then (ckM (((8 : Int32) * v1) + (6 : Int32)) 48 (bnd (v3 + (S 7 (((8 : Int32) * v1) + (6 : Int32)).toNatClampNeg)) (fun x1 => (ckM x1 36 (bnd (S 16 x1.toNatClampNeg) (fun x2 => (ckM (((8 : Int32) * v1) + (7 : Int32)) 48 (if (S 7 (((8 : Int32) * v1) + (7 : Int32)).toNatClampNeg) = (5 : Int32) then (m_mealOf_b97 v1 v2 v4 x2 (0 : Int32) S) else (ckM (((8 : Int32) * v1) + (7 : Int32)) 48 (bnd (v3 + (S 7 (((8 : Int32) * v1) + (7 : Int32)).toNatClampNeg)) (fun x3 => (ckM x3 36 (m_mealOf_b97 v1 v2 v4 x2 (S 16 x3.toNatClampNeg) S))))))))))))) else (ckM (v3 + v5) 36 (bnd (v4 + (S 16 (v3 + v5).toNatClampNeg)) (fun x4 => (bnd (v5 + (1 : Int32)) (fun x5 => ((m_mealOf_h11 n) v1 v2 v3 x4 x5 S)))))))
set_option maxHeartbeats 4000000 in
set_option maxRecDepth 100000 in
theorem m_mealOf_h11_ok {d : Nat} (h : Cx p s m c cX11_mealOf 7 RX11 s0 args0 D ca a A) (hr : meth.sig.returnType = some .int) (hlk : meth.locks = false) (hD : 49 ≤ d) : ∀ (n : Nat) (v1 : Int32) (v2 : Int32) (v3 : Int32) (v4 : Int32) (v5 : Int32) (S : St), VV p l e (rmd d) s m args below meth c D ca tpM a A 7 (QmI D ca tpM a A below args s) S [(0, .ref (a 0)), (1, .int v1), (2, .int v2), (3, .int v3), (4, .int v4), (5, .int v5)] 11 [] (m_mealOf_h11 n v1 v2 v3 v4 v5 S) := by
  intro n
  induction n with
  | zero => intro v1 v2 v3 v4 v5 S; exact V_none
  | succ n ih =>
    intro v1 v2 v3 v4 v5 S
    unfold m_mealOf_h11
    refine V_iload (pc := 11) h 5 dX11_mealOf_11 rfl ?_
    refine V_iconst (pc := 13) (v := 5) h dX11_mealOf_13 (by decide) ?_
    refine V_icmp_ge (pc := 14) h 37 dX11_mealOf_14 (by decide) ?_ ?_
    · refine V_aload_n (pc := 37) h 0 dX11_mealOf_37 rfl rfl ?_
      refine V_get (pc := 38) h 0 35 (.ref (a 16)) fl_X11_74_X11 oM_0 rfl rfl dX11_mealOf_38 ?_
      refine V_iload_n (pc := 41) h 3 dX11_mealOf_41 rfl rfl ?_
      refine V_aload_n (pc := 42) h 0 dX11_mealOf_42 rfl rfl ?_
      refine V_get (pc := 43) h 0 20 (.ref (a 7)) fl_X11_43_X11 oM_0 rfl rfl dX11_mealOf_43 ?_
      refine V_bipush (pc := 46) (v := 8) h dX11_mealOf_46 (by decide) ?_
      refine V_iload_n (pc := 48) h 1 dX11_mealOf_48 rfl rfl ?_
      refine V_imul (pc := 49) h dX11_mealOf_49 ?_
      refine V_bipush (pc := 50) (v := 6) h dX11_mealOf_50 (by decide) ?_
      refine V_iadd (pc := 52) h dX11_mealOf_52 ?_
      refine V_iald (pc := 53) h 7 oM_7 dX11_mealOf_53 ?_
      refine V_iadd (pc := 54) h dX11_mealOf_54 ?_
      refine V_top (fun x1 => ?_)
      refine V_iald (pc := 55) h 16 oM_16 dX11_mealOf_55 ?_
      refine V_top (fun x2 => ?_)
      refine V_istore (pc := 56) h [(5, .int x2), (0, .ref (a 0)), (1, .int v1), (2, .int v2), (3, .int v3), (4, .int v4)] dX11_mealOf_56 (by decide) rfl ?_
      refine V_aload_n (pc := 58) h 1 dX11_mealOf_58 rfl rfl ?_
      refine V_get (pc := 59) h 0 20 (.ref (a 7)) fl_X11_43_X11 oM_0 rfl rfl dX11_mealOf_59 ?_
      refine V_bipush (pc := 62) (v := 8) h dX11_mealOf_62 (by decide) ?_
      refine V_iload_n (pc := 64) h 2 dX11_mealOf_64 rfl rfl ?_
      refine V_imul (pc := 65) h dX11_mealOf_65 ?_
      refine V_bipush (pc := 66) (v := 7) h dX11_mealOf_66 (by decide) ?_
      refine V_iadd (pc := 68) h dX11_mealOf_68 ?_
      refine V_iald (pc := 69) h 7 oM_7 dX11_mealOf_69 ?_
      refine V_iconst (pc := 70) (v := 5) h dX11_mealOf_70 (by decide) ?_
      refine V_icmp_ne (pc := 71) h 78 dX11_mealOf_71 (by decide) ?_ ?_
      · refine V_aload_n (pc := 78) h 1 dX11_mealOf_78 rfl rfl ?_
        refine V_get (pc := 79) h 0 35 (.ref (a 16)) fl_X11_74_X11 oM_0 rfl rfl dX11_mealOf_79 ?_
        refine V_iload_n (pc := 82) h 4 dX11_mealOf_82 rfl rfl ?_
        refine V_aload_n (pc := 83) h 1 dX11_mealOf_83 rfl rfl ?_
        refine V_get (pc := 84) h 0 20 (.ref (a 7)) fl_X11_43_X11 oM_0 rfl rfl dX11_mealOf_84 ?_
        refine V_bipush (pc := 87) (v := 8) h dX11_mealOf_87 (by decide) ?_
        refine V_iload_n (pc := 89) h 2 dX11_mealOf_89 rfl rfl ?_
        refine V_imul (pc := 90) h dX11_mealOf_90 ?_
        refine V_bipush (pc := 91) (v := 7) h dX11_mealOf_91 (by decide) ?_
        refine V_iadd (pc := 93) h dX11_mealOf_93 ?_
        refine V_iald (pc := 94) h 7 oM_7 dX11_mealOf_94 ?_
        refine V_iadd (pc := 95) h dX11_mealOf_95 ?_
        refine V_top (fun x3 => ?_)
        refine V_iald (pc := 96) h 16 oM_16 dX11_mealOf_96 ?_
        exact V_ls [1, 2, 3, 5, 0] rfl (m_mealOf_b97_ok h hr hlk hD v1 v2 v4 x2 (S 16 x3.toNatClampNeg) S)
      · refine V_iconst (pc := 74) (v := 0) h dX11_mealOf_74 (by decide) ?_
        refine V_goto (pc := 75) h 97 dX11_mealOf_75 (by decide) ?_
        exact V_ls [1, 2, 3, 5, 0] rfl (m_mealOf_b97_ok h hr hlk hD v1 v2 v4 x2 (0 : Int32) S)
    · refine V_iload (pc := 17) h 4 dX11_mealOf_17 rfl ?_
      refine V_aload_n (pc := 19) h 0 dX11_mealOf_19 rfl rfl ?_
      refine V_get (pc := 20) h 0 35 (.ref (a 16)) fl_X11_74_X11 oM_0 rfl rfl dX11_mealOf_20 ?_
      refine V_iload_n (pc := 23) h 3 dX11_mealOf_23 rfl rfl ?_
      refine V_iload (pc := 24) h 5 dX11_mealOf_24 rfl ?_
      refine V_iadd (pc := 26) h dX11_mealOf_26 ?_
      refine V_iald (pc := 27) h 16 oM_16 dX11_mealOf_27 ?_
      refine V_iadd (pc := 28) h dX11_mealOf_28 ?_
      refine V_top (fun x4 => ?_)
      refine V_istore (pc := 29) h [(4, .int x4), (0, .ref (a 0)), (1, .int v1), (2, .int v2), (3, .int v3), (5, .int v5)] dX11_mealOf_29 (by decide) rfl ?_
      refine V_iincB (pc := 31) h 5 (1 : Int32) (fun x5 => [(5, .int x5), (4, .int x4), (0, .ref (a 0)), (1, .int v1), (2, .int v2), (3, .int v3)]) dX11_mealOf_31 rfl (by decide) (by decide) (fun _ => rfl) (fun x5 => ?_)
      refine V_goto (pc := 34) h 11 dX11_mealOf_34 (by decide) ?_
      exact V_ls [2, 3, 4, 5, 1, 0] rfl (ih v1 v2 v3 x4 x5 S)
def m_mealOf (v1 : Int32) (v2 : Int32) (S : St) : Option (Int32 × St) := (bnd ((6 : Int32) * v1) (fun x1 => (m_mealOf_h11 FU v1 v2 x1 (0 : Int32) (0 : Int32) S)))
set_option maxHeartbeats 4000000 in
set_option maxRecDepth 100000 in
theorem m_mealOf_ok {d : Nat} (h : Cx p s m c cX11_mealOf 7 RX11 s0 args0 D ca a A) (hr : meth.sig.returnType = some .int) (hlk : meth.locks = false) (hD : 49 ≤ d) (v1 : Int32) (v2 : Int32) (S : St) : VV p l e (rmd d) s m args below meth c D ca tpM a A 7 (QmI D ca tpM a A below args s) S [(0, .ref (a 0)), (1, .int v1), (2, .int v2)] 0 [] (m_mealOf v1 v2 S) := by
  unfold m_mealOf
  refine V_bipush (pc := 0) (v := 6) h dX11_mealOf_0 (by decide) ?_
  refine V_iload_n (pc := 2) h 1 dX11_mealOf_2 rfl rfl ?_
  refine V_imul (pc := 3) h dX11_mealOf_3 ?_
  refine V_top (fun x1 => ?_)
  refine V_istore_n (pc := 4) h [(3, .int x1), (0, .ref (a 0)), (1, .int v1), (2, .int v2)] dX11_mealOf_4 rfl (by decide) rfl ?_
  refine V_iconst (pc := 5) (v := 0) h dX11_mealOf_5 (by decide) ?_
  refine V_istore (pc := 6) h [(4, .int (0 : Int32)), (3, .int x1), (0, .ref (a 0)), (1, .int v1), (2, .int v2)] dX11_mealOf_6 (by decide) rfl ?_
  refine V_iconst (pc := 8) (v := 0) h dX11_mealOf_8 (by decide) ?_
  refine V_istore (pc := 9) h [(5, .int (0 : Int32)), (4, .int (0 : Int32)), (3, .int x1), (0, .ref (a 0)), (1, .int v1), (2, .int v2)] dX11_mealOf_9 (by decide) rfl ?_
  exact V_ls [3, 4, 5, 2, 1, 0] rfl (m_mealOf_h11_ok h hr hlk hD FU v1 v2 x1 (0 : Int32) (0 : Int32) S)
theorem m_mealOf_ct {d : Nat} (g : GG s0 args0 D ca a A) (hD : 49 ≤ d) (v1 : Int32) (v2 : Int32) (S : St) (z : Int32 × St) (hz : m_mealOf v1 v2 S = some z) : CtI l yX11_mealOf cX11_mealOf 7 .int d s0 D ca tpM a A [.ref (a 0), .int v1, .int v2] S z := CtI_mk g (by decide +kernel) (Nat.le_of_ble_eq_true rfl) hz (fun p e s m args below meth c h hr hlk => m_mealOf_ok h hr hlk hD v1 v2 S)
def m_allMeals_b50 (L5 : Int32 → Int32 → Int32 → Int32 → St → Option (Int32 × St)) (v1 : Int32) (v2 : Int32) (v4 : Int32) (k0 : Int32) (S : St) : Option (Int32 × St) := (bnd (v4 + (1 : Int32)) (fun x1 => (L5 v1 v2 k0 x1 S)))
set_option maxHeartbeats 4000000 in
set_option maxRecDepth 100000 in
theorem m_allMeals_b50_ok {d : Nat} (h : Cx p s m c cX11_allMeals 6 RX11 s0 args0 D ca a A) (hr : meth.sig.returnType = some .int) (hlk : meth.locks = false) (hD : 50 ≤ d) (L5 : Int32 → Int32 → Int32 → Int32 → St → Option (Int32 × St)) (hL5 : ∀ (v1 : Int32) (v2 : Int32) (v3 : Int32) (v4 : Int32) (S : St), VV p l e (rmd d) s m args below meth c D ca tpM a A 6 (QmI D ca tpM a A below args s) S [(0, .ref (a 0)), (1, .int v1), (2, .int v2), (3, .int v3), (4, .int v4)] 5 [] (L5 v1 v2 v3 v4 S)) (v1 : Int32) (v2 : Int32) (v4 : Int32) (k0 : Int32) (S : St) : VV p l e (rmd d) s m args below meth c D ca tpM a A 6 (QmI D ca tpM a A below args s) S [(0, .ref (a 0)), (1, .int v1), (2, .int v2), (4, .int v4)] 50 [.int k0] (m_allMeals_b50 L5 v1 v2 v4 k0 S) := by
  unfold m_allMeals_b50
  refine V_istore_n (pc := 50) h [(3, .int k0), (0, .ref (a 0)), (1, .int v1), (2, .int v2), (4, .int v4)] dX11_allMeals_50 rfl (by decide) rfl ?_
  refine V_iincB (pc := 51) h 4 (1 : Int32) (fun x1 => [(4, .int x1), (3, .int k0), (0, .ref (a 0)), (1, .int v1), (2, .int v2)]) dX11_allMeals_51 rfl (by decide) (by decide) (fun _ => rfl) (fun x1 => ?_)
  refine V_goto (pc := 54) h 5 dX11_allMeals_54 (by decide) ?_
  exact V_ls [2, 3, 4, 1, 0] rfl (hL5 v1 v2 k0 x1 S)
def m_allMeals_h5 : Nat → Int32 → Int32 → Int32 → Int32 → St → Option (Int32 × St)
  | 0, _, _, _, _, _ => none
  | n + 1, v1, v2, v3, v4, S => (if (S 0 24) ≤ v4 then (some (v3, S)) else (bI (m_mealOf v4 v2 S) (fun x2 S1 => (if v1 = 0 then (m_allMeals_b50 (m_allMeals_h5 n) v1 v2 v4 (v3 + x2) S1) else (if v4 = 0 then (m_allMeals_b50 (m_allMeals_h5 n) v1 v2 v4 x2 S1) else (m_allMeals_b50 (m_allMeals_h5 n) v1 v2 v4 (imin v3 x2) S1))))))
set_option maxHeartbeats 4000000 in
set_option maxRecDepth 100000 in
theorem m_allMeals_h5_ok {d : Nat} (h : Cx p s m c cX11_allMeals 6 RX11 s0 args0 D ca a A) (hr : meth.sig.returnType = some .int) (hlk : meth.locks = false) (hD : 50 ≤ d) : ∀ (n : Nat) (v1 : Int32) (v2 : Int32) (v3 : Int32) (v4 : Int32) (S : St), VV p l e (rmd d) s m args below meth c D ca tpM a A 6 (QmI D ca tpM a A below args s) S [(0, .ref (a 0)), (1, .int v1), (2, .int v2), (3, .int v3), (4, .int v4)] 5 [] (m_allMeals_h5 n v1 v2 v3 v4 S) := by
  intro n
  induction n with
  | zero => intro v1 v2 v3 v4 S; exact V_none
  | succ n ih =>
    intro v1 v2 v3 v4 S
    unfold m_allMeals_h5
    refine V_iload (pc := 5) h 4 dX11_allMeals_5 rfl ?_
    refine V_aload_n (pc := 7) h 0 dX11_allMeals_7 rfl rfl ?_
    refine V_get (pc := 8) h 0 24 (.int (S 0 24)) fl_X11_289_X11 oM_0 rfl rfl dX11_allMeals_8 ?_
    refine V_icmp_ge (pc := 11) h 57 dX11_allMeals_11 (by decide) ?_ ?_
    · refine V_iload_n (pc := 57) h 3 dX11_allMeals_57 rfl rfl ?_
      exact V_iret (pc := 58) h hr hlk dX11_allMeals_58
    · refine V_aload_n (pc := 14) h 0 dX11_allMeals_14 rfl rfl ?_
      refine V_iload (pc := 15) h 4 dX11_allMeals_15 rfl ?_
      refine V_iload_n (pc := 17) h 2 dX11_allMeals_17 rfl rfl ?_
      refine V_callVI (pc := 18) (dy := 49) (q := (RX11, TX11, 59)) h [.int v4, .int v2] [] 0 mv_X11_332 oM_0 rfl dX11_allMeals_18 rfl rfl (Nat.le_of_ble_eq_true rfl) (Nat.le_trans (by decide) hD) (m_mealOf v4 v2 S) (fun z9 hz9 => m_mealOf_ct h.gg (Nat.le_refl 49) v4 v2 S z9 hz9) (fun x2 S1 => ?_)
      refine V_istore (pc := 21) h [(5, .int x2), (0, .ref (a 0)), (1, .int v1), (2, .int v2), (3, .int v3), (4, .int v4)] dX11_allMeals_21 (by decide) rfl ?_
      refine V_iload_n (pc := 23) h 2 dX11_allMeals_23 rfl rfl ?_
      refine V_if_ne (pc := 24) h 34 dX11_allMeals_24 (by decide) ?_ ?_
      · refine V_iload (pc := 34) h 5 dX11_allMeals_34 rfl ?_
        refine V_if_ne (pc := 36) h 44 dX11_allMeals_36 (by decide) ?_ ?_
        · refine V_iload_n (pc := 44) h 4 dX11_allMeals_44 rfl rfl ?_
          refine V_iload (pc := 45) h 0 dX11_allMeals_45 rfl ?_
          refine V_mmin (pc := 47) h dX11_allMeals_47 tw_7_90 tw_2_227 tw_1_16 tw_2_228 (Nat.le_trans (by decide) hD) (Nat.le_of_ble_eq_true rfl) ?_
          exact V_ls [1, 2, 3, 5] rfl (m_allMeals_b50_ok h hr hlk hD (m_allMeals_h5 n) ih v1 v2 v4 (imin v3 x2) S1)
        · refine V_iload (pc := 39) h 0 dX11_allMeals_39 rfl ?_
          refine V_goto (pc := 41) h 50 dX11_allMeals_41 (by decide) ?_
          exact V_ls [1, 2, 3, 5] rfl (m_allMeals_b50_ok h hr hlk hD (m_allMeals_h5 n) ih v1 v2 v4 x2 S1)
      · refine V_iload_n (pc := 27) h 4 dX11_allMeals_27 rfl rfl ?_
        refine V_iload (pc := 28) h 0 dX11_allMeals_28 rfl ?_
        refine V_iadd (pc := 30) h dX11_allMeals_30 ?_
        refine V_goto (pc := 31) h 50 dX11_allMeals_31 (by decide) ?_
        exact V_ls [1, 2, 3, 5] rfl (m_allMeals_b50_ok h hr hlk hD (m_allMeals_h5 n) ih v1 v2 v4 (v3 + x2) S1)
def m_allMeals (v1 : Int32) (v2 : Int32) (S : St) : Option (Int32 × St) := (m_allMeals_h5 FU v1 v2 (0 : Int32) (0 : Int32) S)
set_option maxHeartbeats 4000000 in
set_option maxRecDepth 100000 in
theorem m_allMeals_ok {d : Nat} (h : Cx p s m c cX11_allMeals 6 RX11 s0 args0 D ca a A) (hr : meth.sig.returnType = some .int) (hlk : meth.locks = false) (hD : 50 ≤ d) (v1 : Int32) (v2 : Int32) (S : St) : VV p l e (rmd d) s m args below meth c D ca tpM a A 6 (QmI D ca tpM a A below args s) S [(0, .ref (a 0)), (1, .int v1), (2, .int v2)] 0 [] (m_allMeals v1 v2 S) := by
  unfold m_allMeals
  refine V_iconst (pc := 0) (v := 0) h dX11_allMeals_0 (by decide) ?_
  refine V_istore_n (pc := 1) h [(3, .int (0 : Int32)), (0, .ref (a 0)), (1, .int v1), (2, .int v2)] dX11_allMeals_1 rfl (by decide) rfl ?_
  refine V_iconst (pc := 2) (v := 0) h dX11_allMeals_2 (by decide) ?_
  refine V_istore (pc := 3) h [(4, .int (0 : Int32)), (3, .int (0 : Int32)), (0, .ref (a 0)), (1, .int v1), (2, .int v2)] dX11_allMeals_3 (by decide) rfl ?_
  exact V_ls [2, 3, 4, 1, 0] rfl (m_allMeals_h5_ok h hr hlk hD FU v1 v2 (0 : Int32) (0 : Int32) S)
theorem m_allMeals_ct {d : Nat} (g : GG s0 args0 D ca a A) (hD : 50 ≤ d) (v1 : Int32) (v2 : Int32) (S : St) (z : Int32 × St) (hz : m_allMeals v1 v2 S = some z) : CtI l yX11_allMeals cX11_allMeals 6 .int d s0 D ca tpM a A [.ref (a 0), .int v1, .int v2] S z := CtI_mk g (by decide +kernel) (Nat.le_of_ble_eq_true rfl) hz (fun p e s m args below meth c h hr hlk => m_allMeals_ok h hr hlk hD v1 v2 S)
def m_offers_b16 (v1 : Int32) (v2 : Int32) (S : St) : Option St := (bnd (up2 S 0 51 (1 : Int32)) (fun S1 => (bnd (up2 S1 0 49 v1) (fun S2 => (bnd (up2 S2 0 50 v2) (fun S3 => (some S3)))))))
set_option maxHeartbeats 4000000 in
set_option maxRecDepth 100000 in
theorem m_offers_b16_ok {d : Nat} (h : Cx p s m c cX11_offers 3 RX11 s0 args0 D ca a A) (hr : meth.sig.returnType = none) (hlk : meth.locks = false) (hD : 1 ≤ d) (v1 : Int32) (v2 : Int32) (S : St) : VV p l e (rmd d) s m args below meth c D ca tpM a A 3 (QmV D ca tpM a A below args s) S [(0, .ref (a 0)), (1, .int v1), (2, .int v2)] 16 [] (m_offers_b16 v1 v2 S) := by
  unfold m_offers_b16
  refine V_aload_n (pc := 16) h 0 dX11_offers_16 rfl rfl ?_
  refine V_iconst (pc := 17) (v := 1) h dX11_offers_17 (by decide) ?_
  refine V_put (pc := 18) h 0 51 (1 : Int32) fp_X11_355_X11 oM_0 rfl rfl rfl rfl dX11_offers_18 (fun S1 => ?_)
  refine V_aload_n (pc := 21) h 0 dX11_offers_21 rfl rfl ?_
  refine V_iload_n (pc := 22) h 1 dX11_offers_22 rfl rfl ?_
  refine V_put (pc := 23) h 0 49 v1 fp_X11_361_X11 oM_0 rfl rfl rfl rfl dX11_offers_23 (fun S2 => ?_)
  refine V_aload_n (pc := 26) h 0 dX11_offers_26 rfl rfl ?_
  refine V_iload_n (pc := 27) h 2 dX11_offers_27 rfl rfl ?_
  refine V_put (pc := 28) h 0 50 v2 fp_X11_358_X11 oM_0 rfl rfl rfl rfl dX11_offers_28 (fun S3 => ?_)
  exact V_vret (pc := 31) h hr hlk dX11_offers_31
def m_offers (v1 : Int32) (v2 : Int32) (S : St) : Option St := (if (S 0 51) = 0 then (m_offers_b16 v1 v2 S) else (if (S 0 50) < v2 then (m_offers_b16 v1 v2 S) else (some S)))
set_option maxHeartbeats 4000000 in
set_option maxRecDepth 100000 in
theorem m_offers_ok {d : Nat} (h : Cx p s m c cX11_offers 3 RX11 s0 args0 D ca a A) (hr : meth.sig.returnType = none) (hlk : meth.locks = false) (hD : 1 ≤ d) (v1 : Int32) (v2 : Int32) (S : St) : VV p l e (rmd d) s m args below meth c D ca tpM a A 3 (QmV D ca tpM a A below args s) S [(0, .ref (a 0)), (1, .int v1), (2, .int v2)] 0 [] (m_offers v1 v2 S) := by
  unfold m_offers
  refine V_aload_n (pc := 0) h 0 dX11_offers_0 rfl rfl ?_
  refine V_get (pc := 1) h 0 51 (.int (S 0 51)) fl_X11_355_X11 oM_0 rfl rfl dX11_offers_1 ?_
  refine V_if_eq (pc := 4) h 16 dX11_offers_4 (by decide) ?_ ?_
  · exact V_ls [0, 1, 2] rfl (m_offers_b16_ok h hr hlk hD v1 v2 S)
  · refine V_iload_n (pc := 7) h 2 dX11_offers_7 rfl rfl ?_
    refine V_aload_n (pc := 8) h 0 dX11_offers_8 rfl rfl ?_
    refine V_get (pc := 9) h 0 50 (.int (S 0 50)) fl_X11_358_X11 oM_0 rfl rfl dX11_offers_9 ?_
    refine V_icmp_gt (pc := 12) h 16 dX11_offers_12 (by decide) ?_ ?_
    · exact V_ls [0, 1, 2] rfl (m_offers_b16_ok h hr hlk hD v1 v2 S)
    · exact V_vret (pc := 15) h hr hlk dX11_offers_15
theorem m_offers_ct {d : Nat} (g : GG s0 args0 D ca a A) (hD : 1 ≤ d) (v1 : Int32) (v2 : Int32) (S : St) (z : St) (hz : m_offers v1 v2 S = some z) : CtV l yX11_offers cX11_offers 3 d s0 D ca tpM a A [.ref (a 0), .int v1, .int v2] S z := CtV_mk g (by decide +kernel) (Nat.le_of_ble_eq_true rfl) hz (fun p e s m args below meth c h hr hlk => m_offers_ok h hr hlk hD v1 v2 S)
def m_goPuts_b95 (rec : Int32 → Int32 → Int32 → St → Option St) (L42 : Int32 → Int32 → Int32 → Int32 → St → Option St) (v1 : Int32) (v2 : Int32) (v3 : Int32) (v4 : Int32) (S : St) : Option St := (bnd (v4 + (1 : Int32)) (fun x1 => (L42 v1 v2 v3 x1 S)))
set_option maxHeartbeats 4000000 in
set_option maxRecDepth 100000 in
theorem m_goPuts_b95_ok {d : Nat} (h : Cx p s m c cX11_goPuts 5 RX11 s0 args0 D ca a A) (hr : meth.sig.returnType = none) (hlk : meth.locks = false) (hD : 51 ≤ d) {dr : Nat} (rec : Int32 → Int32 → Int32 → St → Option St) (hrec : (∀ (v1 v2 v3 : Int32) (S : St) (z : St), rec v1 v2 v3 S = some z → CtV l yX11_goPuts cX11_goPuts 5 dr s0 D ca tpM a A [.ref (a 0), .int v1, .int v2, .int v3] S z)) (hdr : dr + 1 ≤ d) (L42 : Int32 → Int32 → Int32 → Int32 → St → Option St) (hL42 : ∀ (v1 : Int32) (v2 : Int32) (v3 : Int32) (v4 : Int32) (S : St), VV p l e (rmd d) s m args below meth c D ca tpM a A 5 (QmV D ca tpM a A below args s) S [(0, .ref (a 0)), (1, .int v1), (2, .int v2), (3, .int v3), (4, .int v4)] 42 [] (L42 v1 v2 v3 v4 S)) (v1 : Int32) (v2 : Int32) (v3 : Int32) (v4 : Int32) (S : St) : VV p l e (rmd d) s m args below meth c D ca tpM a A 5 (QmV D ca tpM a A below args s) S [(0, .ref (a 0)), (1, .int v1), (2, .int v2), (3, .int v3), (4, .int v4)] 95 [] (m_goPuts_b95 rec L42 v1 v2 v3 v4 S) := by
  unfold m_goPuts_b95
  refine V_iincB (pc := 95) h 4 (1 : Int32) (fun x1 => [(4, .int x1), (0, .ref (a 0)), (1, .int v1), (2, .int v2), (3, .int v3)]) dX11_goPuts_95 rfl (by decide) (by decide) (fun _ => rfl) (fun x1 => ?_)
  refine V_goto (pc := 98) h 42 dX11_goPuts_98 (by decide) ?_
  exact V_ls [1, 2, 3, 4, 0] rfl (hL42 v1 v2 v3 x1 S)
def m_goPuts_h42 (rec : Int32 → Int32 → Int32 → St → Option St) : Nat → Int32 → Int32 → Int32 → Int32 → St → Option St
  | 0, _, _, _, _, _ => none
  | n + 1, v1, v2, v3, v4, S => (if (5 : Int32) ≤ v4 then (ckM v1 6 (bnd (up2 S 12 v1.toNatClampNeg (9 : Int32)) (fun S1 => (bV (rec (v1 + (1 : Int32)) (((10 : Int32) * v2) + (9 : Int32)) v3 S1) (fun S2 => (some S2)))))) else (ckM (((8 : Int32) * v1) + v4) 48 (ckM (0 : Int32) 3 (if (S 9 (0 : Int32).toNatClampNeg) ≤ (S 7 (((8 : Int32) * v1) + v4).toNatClampNeg) then (ckM v1 6 (bnd (up2 S 12 v1.toNatClampNeg v4) (fun S3 => (bV (rec (v1 + (1 : Int32)) (((10 : Int32) * v2) + v4) v3 S3) (fun S4 => (m_goPuts_b95 rec (m_goPuts_h42 rec n) v1 v2 v3 v4 S4)))))) else (m_goPuts_b95 rec (m_goPuts_h42 rec n) v1 v2 v3 v4 S)))))
set_option maxHeartbeats 4000000 in
set_option maxRecDepth 100000 in
theorem m_goPuts_h42_ok {d : Nat} (h : Cx p s m c cX11_goPuts 5 RX11 s0 args0 D ca a A) (hr : meth.sig.returnType = none) (hlk : meth.locks = false) (hD : 51 ≤ d) {dr : Nat} (rec : Int32 → Int32 → Int32 → St → Option St) (hrec : (∀ (v1 v2 v3 : Int32) (S : St) (z : St), rec v1 v2 v3 S = some z → CtV l yX11_goPuts cX11_goPuts 5 dr s0 D ca tpM a A [.ref (a 0), .int v1, .int v2, .int v3] S z)) (hdr : dr + 1 ≤ d) : ∀ (n : Nat) (v1 : Int32) (v2 : Int32) (v3 : Int32) (v4 : Int32) (S : St), VV p l e (rmd d) s m args below meth c D ca tpM a A 5 (QmV D ca tpM a A below args s) S [(0, .ref (a 0)), (1, .int v1), (2, .int v2), (3, .int v3), (4, .int v4)] 42 [] (m_goPuts_h42 rec n v1 v2 v3 v4 S) := by
  intro n
  induction n with
  | zero => intro v1 v2 v3 v4 S; exact V_none
  | succ n ih =>
    intro v1 v2 v3 v4 S
    unfold m_goPuts_h42
    refine V_iload (pc := 42) h 4 dX11_goPuts_42 rfl ?_
    refine V_iconst (pc := 44) (v := 5) h dX11_goPuts_44 (by decide) ?_
    refine V_icmp_ge (pc := 45) h 101 dX11_goPuts_45 (by decide) ?_ ?_
    · refine V_aload_n (pc := 101) h 0 dX11_goPuts_101 rfl rfl ?_
      refine V_get (pc := 102) h 0 29 (.ref (a 12)) fl_X11_58_X11 oM_0 rfl rfl dX11_goPuts_102 ?_
      refine V_iload_n (pc := 105) h 1 dX11_goPuts_105 rfl rfl ?_
      refine V_bipush (pc := 106) (v := 9) h dX11_goPuts_106 (by decide) ?_
      refine V_iast (pc := 108) h 12 oM_12 dX11_goPuts_108 (fun S1 => ?_)
      refine V_aload_n (pc := 109) h 0 dX11_goPuts_109 rfl rfl ?_
      refine V_iload_n (pc := 110) h 1 dX11_goPuts_110 rfl rfl ?_
      refine V_iconst (pc := 111) (v := 1) h dX11_goPuts_111 (by decide) ?_
      refine V_iadd (pc := 112) h dX11_goPuts_112 ?_
      refine V_bipush (pc := 113) (v := 10) h dX11_goPuts_113 (by decide) ?_
      refine V_iload_n (pc := 115) h 2 dX11_goPuts_115 rfl rfl ?_
      refine V_imul (pc := 116) h dX11_goPuts_116 ?_
      refine V_bipush (pc := 117) (v := 9) h dX11_goPuts_117 (by decide) ?_
      refine V_iadd (pc := 119) h dX11_goPuts_119 ?_
      refine V_iload_n (pc := 120) h 3 dX11_goPuts_120 rfl rfl ?_
      refine V_callVV (pc := 121) (dy := dr) (q := (RX11, TX11, 59)) h [.int (v1 + (1 : Int32)), .int (((10 : Int32) * v2) + (9 : Int32)), .int v3] [] 0 mv_X11_371 oM_0 rfl dX11_goPuts_121 rfl rfl (Nat.le_of_ble_eq_true rfl) hdr (rec (v1 + (1 : Int32)) (((10 : Int32) * v2) + (9 : Int32)) v3 S1) (fun z9 hz9 => hrec (v1 + (1 : Int32)) (((10 : Int32) * v2) + (9 : Int32)) v3 S1 z9 hz9) (fun S2 => ?_)
      exact V_vret (pc := 124) h hr hlk dX11_goPuts_124
    · refine V_aload_n (pc := 48) h 0 dX11_goPuts_48 rfl rfl ?_
      refine V_get (pc := 49) h 0 20 (.ref (a 7)) fl_X11_43_X11 oM_0 rfl rfl dX11_goPuts_49 ?_
      refine V_bipush (pc := 52) (v := 8) h dX11_goPuts_52 (by decide) ?_
      refine V_iload_n (pc := 54) h 1 dX11_goPuts_54 rfl rfl ?_
      refine V_imul (pc := 55) h dX11_goPuts_55 ?_
      refine V_iload (pc := 56) h 4 dX11_goPuts_56 rfl ?_
      refine V_iadd (pc := 58) h dX11_goPuts_58 ?_
      refine V_iald (pc := 59) h 7 oM_7 dX11_goPuts_59 ?_
      refine V_aload_n (pc := 60) h 0 dX11_goPuts_60 rfl rfl ?_
      refine V_get (pc := 61) h 0 22 (.ref (a 9)) fl_X11_49_X11 oM_0 rfl rfl dX11_goPuts_61 ?_
      refine V_iconst (pc := 64) (v := 0) h dX11_goPuts_64 (by decide) ?_
      refine V_iald (pc := 65) h 9 oM_9 dX11_goPuts_65 ?_
      refine V_icmp_ge (pc := 66) h 72 dX11_goPuts_66 (by decide) ?_ ?_
      · refine V_aload_n (pc := 72) h 0 dX11_goPuts_72 rfl rfl ?_
        refine V_get (pc := 73) h 0 29 (.ref (a 12)) fl_X11_58_X11 oM_0 rfl rfl dX11_goPuts_73 ?_
        refine V_iload_n (pc := 76) h 1 dX11_goPuts_76 rfl rfl ?_
        refine V_iload (pc := 77) h 4 dX11_goPuts_77 rfl ?_
        refine V_iast (pc := 79) h 12 oM_12 dX11_goPuts_79 (fun S3 => ?_)
        refine V_aload_n (pc := 80) h 0 dX11_goPuts_80 rfl rfl ?_
        refine V_iload_n (pc := 81) h 1 dX11_goPuts_81 rfl rfl ?_
        refine V_iconst (pc := 82) (v := 1) h dX11_goPuts_82 (by decide) ?_
        refine V_iadd (pc := 83) h dX11_goPuts_83 ?_
        refine V_bipush (pc := 84) (v := 10) h dX11_goPuts_84 (by decide) ?_
        refine V_iload_n (pc := 86) h 2 dX11_goPuts_86 rfl rfl ?_
        refine V_imul (pc := 87) h dX11_goPuts_87 ?_
        refine V_iload (pc := 88) h 4 dX11_goPuts_88 rfl ?_
        refine V_iadd (pc := 90) h dX11_goPuts_90 ?_
        refine V_iload_n (pc := 91) h 3 dX11_goPuts_91 rfl rfl ?_
        refine V_callVV (pc := 92) (dy := dr) (q := (RX11, TX11, 59)) h [.int (v1 + (1 : Int32)), .int (((10 : Int32) * v2) + v4), .int v3] [] 0 mv_X11_371 oM_0 rfl dX11_goPuts_92 rfl rfl (Nat.le_of_ble_eq_true rfl) hdr (rec (v1 + (1 : Int32)) (((10 : Int32) * v2) + v4) v3 S3) (fun z9 hz9 => hrec (v1 + (1 : Int32)) (((10 : Int32) * v2) + v4) v3 S3 z9 hz9) (fun S4 => ?_)
        exact V_ls [0, 1, 2, 3, 4] rfl (m_goPuts_b95_ok h hr hlk hD rec hrec hdr (m_goPuts_h42 rec n) ih v1 v2 v3 v4 S4)
      · refine V_goto (pc := 69) h 95 dX11_goPuts_69 (by decide) ?_
        exact V_ls [0, 1, 2, 3, 4] rfl (m_goPuts_b95_ok h hr hlk hD rec hrec hdr (m_goPuts_h42 rec n) ih v1 v2 v3 v4 S)
def m_goPuts (rec : Int32 → Int32 → Int32 → St → Option St) (v1 : Int32) (v2 : Int32) (v3 : Int32) (S : St) : Option St := (if v1 = (S 0 24) then (bV (m_noon (S 0 32) S) (fun S1 => (if (S1 0 39) = (-1 : Int32) then (bI (m_allMeals v3 (S1 0 32) S1) (fun x3 S2 => (bV (m_offers v2 x3 S2) (fun S4 => (some S4))))) else (some S1)))) else (m_goPuts_h42 rec FU v1 v2 v3 (0 : Int32) S))
set_option maxHeartbeats 4000000 in
set_option maxRecDepth 100000 in
theorem m_goPuts_ok {d : Nat} (h : Cx p s m c cX11_goPuts 5 RX11 s0 args0 D ca a A) (hr : meth.sig.returnType = none) (hlk : meth.locks = false) (hD : 51 ≤ d) {dr : Nat} (rec : Int32 → Int32 → Int32 → St → Option St) (hrec : (∀ (v1 v2 v3 : Int32) (S : St) (z : St), rec v1 v2 v3 S = some z → CtV l yX11_goPuts cX11_goPuts 5 dr s0 D ca tpM a A [.ref (a 0), .int v1, .int v2, .int v3] S z)) (hdr : dr + 1 ≤ d) (v1 : Int32) (v2 : Int32) (v3 : Int32) (S : St) : VV p l e (rmd d) s m args below meth c D ca tpM a A 5 (QmV D ca tpM a A below args s) S [(0, .ref (a 0)), (1, .int v1), (2, .int v2), (3, .int v3)] 0 [] (m_goPuts rec v1 v2 v3 S) := by
  unfold m_goPuts
  refine V_iload_n (pc := 0) h 1 dX11_goPuts_0 rfl rfl ?_
  refine V_aload_n (pc := 1) h 0 dX11_goPuts_1 rfl rfl ?_
  refine V_get (pc := 2) h 0 24 (.int (S 0 24)) fl_X11_289_X11 oM_0 rfl rfl dX11_goPuts_2 ?_
  refine V_icmp_ne (pc := 5) h 39 dX11_goPuts_5 (by decide) ?_ ?_
  · refine V_iconst (pc := 39) (v := 0) h dX11_goPuts_39 (by decide) ?_
    refine V_istore (pc := 40) h [(4, .int (0 : Int32)), (0, .ref (a 0)), (1, .int v1), (2, .int v2), (3, .int v3)] dX11_goPuts_40 (by decide) rfl ?_
    exact V_ls [1, 2, 3, 4, 0] rfl (m_goPuts_h42_ok h hr hlk hD rec hrec hdr FU v1 v2 v3 (0 : Int32) S)
  · refine V_aload_n (pc := 8) h 0 dX11_goPuts_8 rfl rfl ?_
    refine V_aload_n (pc := 9) h 0 dX11_goPuts_9 rfl rfl ?_
    refine V_get (pc := 10) h 0 32 (.int (S 0 32)) fl_X11_292_X11 oM_0 rfl rfl dX11_goPuts_10 ?_
    refine V_callVV (pc := 13) (dy := 3) (q := (RX11, TX11, 59)) h [.int (S 0 32)] [] 0 mv_X11_338 oM_0 rfl dX11_goPuts_13 rfl rfl (Nat.le_of_ble_eq_true rfl) (Nat.le_trans (by decide) hD) (m_noon (S 0 32) S) (fun z9 hz9 => m_noon_ct h.gg (Nat.le_refl 3) (S 0 32) S z9 hz9) (fun S1 => ?_)
    refine V_aload_n (pc := 16) h 0 dX11_goPuts_16 rfl rfl ?_
    refine V_get (pc := 17) h 0 39 (.int (S1 0 39)) fl_X11_317_X11 oM_0 rfl rfl dX11_goPuts_17 ?_
    refine V_iconst (pc := 20) (v := -1) h dX11_goPuts_20 (by decide) ?_
    refine V_icmp_ne (pc := 21) h 38 dX11_goPuts_21 (by decide) ?_ ?_
    · exact V_vret (pc := 38) h hr hlk dX11_goPuts_38
    · refine V_aload_n (pc := 24) h 0 dX11_goPuts_24 rfl rfl ?_
      refine V_iload_n (pc := 25) h 2 dX11_goPuts_25 rfl rfl ?_
      refine V_aload_n (pc := 26) h 0 dX11_goPuts_26 rfl rfl ?_
      refine V_iload_n (pc := 27) h 3 dX11_goPuts_27 rfl rfl ?_
      refine V_aload_n (pc := 28) h 0 dX11_goPuts_28 rfl rfl ?_
      refine V_get (pc := 29) h 0 32 (.int (S1 0 32)) fl_X11_292_X11 oM_0 rfl rfl dX11_goPuts_29 ?_
      refine V_callVI (pc := 32) (dy := 50) (q := (RX11, TX11, 59)) h [.int v3, .int (S1 0 32)] [.int v2, .ref (a 0)] 0 mv_X11_364 oM_0 rfl dX11_goPuts_32 rfl rfl (Nat.le_of_ble_eq_true rfl) (Nat.le_trans (by decide) hD) (m_allMeals v3 (S1 0 32) S1) (fun z9 hz9 => m_allMeals_ct h.gg (Nat.le_refl 50) v3 (S1 0 32) S1 z9 hz9) (fun x3 S2 => ?_)
      refine V_callVV (pc := 35) (dy := 1) (q := (RX11, TX11, 59)) h [.int v2, .int x3] [] 0 mv_X11_367 oM_0 rfl dX11_goPuts_35 rfl rfl (Nat.le_of_ble_eq_true rfl) (Nat.le_trans (by decide) hD) (m_offers v2 x3 S2) (fun z9 hz9 => m_offers_ct h.gg (Nat.le_refl 1) v2 x3 S2 z9 hz9) (fun S4 => ?_)
      exact V_vret (pc := 38) h hr hlk dX11_goPuts_38
def m_gp : Nat → Int32 → Int32 → Int32 → St → Option St
  | 0, _, _, _, _ => none
  | n + 1, v1, v2, v3, S => m_goPuts (m_gp n) v1 v2 v3 S
set_option maxHeartbeats 4000000 in
set_option maxRecDepth 100000 in
theorem m_gp_ct (g : GG s0 args0 D ca a A) : ∀ n : Nat, (∀ (v1 v2 v3 : Int32) (S : St) (z : St), m_gp n v1 v2 v3 S = some z → CtV l yX11_goPuts cX11_goPuts 5 (n + 51) s0 D ca tpM a A [.ref (a 0), .int v1, .int v2, .int v3] S z) := by
  intro n
  induction n with
  | zero => exact fun _ _ _ _ _ hz => (nomatch hz)
  | succ n ih =>
    exact fun v1 v2 v3 S z hz => CtV_mk g (by decide +kernel) (Nat.le_of_ble_eq_true rfl) (show m_goPuts (m_gp n) v1 v2 v3 S = some z from hz) (fun p e s m args below meth c h hr hlk => m_goPuts_ok h hr hlk (by omega) (m_gp n) ih (by omega) v1 v2 v3 S)
def m_goPuts_x (v1 : Int32) (v2 : Int32) (v3 : Int32) (S : St) : Option St := m_gp 8 v1 v2 v3 S
theorem m_goPuts_x_ct {d : Nat} (g : GG s0 args0 D ca a A) (hD : d ≤ 59) (hD2 : 59 ≤ d) (v1 : Int32) (v2 : Int32) (v3 : Int32) (S : St) (z : St) (hz : m_goPuts_x v1 v2 v3 S = some z) : CtV l yX11_goPuts cX11_goPuts 5 d s0 D ca tpM a A [.ref (a 0), .int v1, .int v2, .int v3] S z := by
 have e : d = 8 + 51 := by omega
 subst e
 exact (m_gp_ct g 8) v1 v2 v3 S z hz
def m_goOrders_b86 (rec : Int32 → Int32 → Int32 → Int32 → St → Option St) (L35 : Int32 → Int32 → Int32 → Int32 → Int32 → St → Option St) (v1 : Int32) (v2 : Int32) (v3 : Int32) (v4 : Int32) (v5 : Int32) (S : St) : Option St := (bnd (v5 + (1 : Int32)) (fun x1 => (L35 v1 v2 v3 v4 x1 S)))
set_option maxHeartbeats 4000000 in
set_option maxRecDepth 100000 in
theorem m_goOrders_b86_ok {d : Nat} (h : Cx p s m c cX11_goOrders 6 RX11 s0 args0 D ca a A) (hr : meth.sig.returnType = none) (hlk : meth.locks = false) (hD : 51 ≤ d) {dr : Nat} (rec : Int32 → Int32 → Int32 → Int32 → St → Option St) (hrec : (∀ (v1 v2 v3 v4 : Int32) (S : St) (z : St), rec v1 v2 v3 v4 S = some z → CtV l yX11_goOrders cX11_goOrders 6 dr s0 D ca tpM a A [.ref (a 0), .int v1, .int v2, .int v3, .int v4] S z)) (hdr : dr + 1 ≤ d) (L35 : Int32 → Int32 → Int32 → Int32 → Int32 → St → Option St) (hL35 : ∀ (v1 : Int32) (v2 : Int32) (v3 : Int32) (v4 : Int32) (v5 : Int32) (S : St), VV p l e (rmd d) s m args below meth c D ca tpM a A 6 (QmV D ca tpM a A below args s) S [(0, .ref (a 0)), (1, .int v1), (2, .int v2), (3, .int v3), (4, .int v4), (5, .int v5)] 35 [] (L35 v1 v2 v3 v4 v5 S)) (v1 : Int32) (v2 : Int32) (v3 : Int32) (v4 : Int32) (v5 : Int32) (S : St) : VV p l e (rmd d) s m args below meth c D ca tpM a A 6 (QmV D ca tpM a A below args s) S [(0, .ref (a 0)), (1, .int v1), (2, .int v2), (3, .int v3), (4, .int v4), (5, .int v5)] 86 [] (m_goOrders_b86 rec L35 v1 v2 v3 v4 v5 S) := by
  unfold m_goOrders_b86
  refine V_iincB (pc := 86) h 5 (1 : Int32) (fun x1 => [(5, .int x1), (0, .ref (a 0)), (1, .int v1), (2, .int v2), (3, .int v3), (4, .int v4)]) dX11_goOrders_86 rfl (by decide) (by decide) (fun _ => rfl) (fun x1 => ?_)
  refine V_goto (pc := 89) h 35 dX11_goOrders_89 (by decide) ?_
  exact V_ls [1, 2, 3, 4, 5, 0] rfl (hL35 v1 v2 v3 v4 x1 S)
def m_goOrders_h35 (rec : Int32 → Int32 → Int32 → Int32 → St → Option St) : Nat → Int32 → Int32 → Int32 → Int32 → Int32 → St → Option St
  | 0, _, _, _, _, _, _ => none
  | n + 1, v1, v2, v3, v4, v5, S => (if (S 0 24) ≤ v5 then (some S) else (bI (m_has v2 v5 S) (fun x2 S1 => (if x2 = 0 then (ckM v1 6 (bnd (up2 S1 11 v1.toNatClampNeg v5) (fun S3 => (bV (rec (v1 + (1 : Int32)) (v2 ||| ((1 : Int32) <<< (v5 &&& 31))) (((10 : Int32) * v3) + v5) v4 S3) (fun S4 => (m_goOrders_b86 rec (m_goOrders_h35 rec n) v1 v2 v3 v4 v5 S4)))))) else (m_goOrders_b86 rec (m_goOrders_h35 rec n) v1 v2 v3 v4 v5 S1)))))
set_option maxHeartbeats 4000000 in
set_option maxRecDepth 100000 in
theorem m_goOrders_h35_ok {d : Nat} (h : Cx p s m c cX11_goOrders 6 RX11 s0 args0 D ca a A) (hr : meth.sig.returnType = none) (hlk : meth.locks = false) (hD : 51 ≤ d) {dr : Nat} (rec : Int32 → Int32 → Int32 → Int32 → St → Option St) (hrec : (∀ (v1 v2 v3 v4 : Int32) (S : St) (z : St), rec v1 v2 v3 v4 S = some z → CtV l yX11_goOrders cX11_goOrders 6 dr s0 D ca tpM a A [.ref (a 0), .int v1, .int v2, .int v3, .int v4] S z)) (hdr : dr + 1 ≤ d) : ∀ (n : Nat) (v1 : Int32) (v2 : Int32) (v3 : Int32) (v4 : Int32) (v5 : Int32) (S : St), VV p l e (rmd d) s m args below meth c D ca tpM a A 6 (QmV D ca tpM a A below args s) S [(0, .ref (a 0)), (1, .int v1), (2, .int v2), (3, .int v3), (4, .int v4), (5, .int v5)] 35 [] (m_goOrders_h35 rec n v1 v2 v3 v4 v5 S) := by
  intro n
  induction n with
  | zero => intro v1 v2 v3 v4 v5 S; exact V_none
  | succ n ih =>
    intro v1 v2 v3 v4 v5 S
    unfold m_goOrders_h35
    refine V_iload (pc := 35) h 5 dX11_goOrders_35 rfl ?_
    refine V_aload_n (pc := 37) h 0 dX11_goOrders_37 rfl rfl ?_
    refine V_get (pc := 38) h 0 24 (.int (S 0 24)) fl_X11_289_X11 oM_0 rfl rfl dX11_goOrders_38 ?_
    refine V_icmp_ge (pc := 41) h 92 dX11_goOrders_41 (by decide) ?_ ?_
    · exact V_vret (pc := 92) h hr hlk dX11_goOrders_92
    · refine V_iload_n (pc := 44) h 2 dX11_goOrders_44 rfl rfl ?_
      refine V_iload (pc := 45) h 5 dX11_goOrders_45 rfl ?_
      refine V_callSI (pc := 47) (dy := 1) h [.int v2, .int v5] [] ms_X11_263 dX11_goOrders_47 rfl rfl (Nat.le_of_ble_eq_true rfl) (Nat.le_trans (by decide) hD) (m_has v2 v5 S) (fun z9 hz9 => m_has_ct h.gg (Nat.le_refl 1) v2 v5 S z9 hz9) (fun x2 S1 => ?_)
      refine V_if_eq (pc := 50) h 56 dX11_goOrders_50 (by decide) ?_ ?_
      · refine V_aload_n (pc := 56) h 0 dX11_goOrders_56 rfl rfl ?_
        refine V_get (pc := 57) h 0 28 (.ref (a 11)) fl_X11_55_X11 oM_0 rfl rfl dX11_goOrders_57 ?_
        refine V_iload_n (pc := 60) h 1 dX11_goOrders_60 rfl rfl ?_
        refine V_iload (pc := 61) h 5 dX11_goOrders_61 rfl ?_
        refine V_iast (pc := 63) h 11 oM_11 dX11_goOrders_63 (fun S3 => ?_)
        refine V_aload_n (pc := 64) h 0 dX11_goOrders_64 rfl rfl ?_
        refine V_iload_n (pc := 65) h 1 dX11_goOrders_65 rfl rfl ?_
        refine V_iconst (pc := 66) (v := 1) h dX11_goOrders_66 (by decide) ?_
        refine V_iadd (pc := 67) h dX11_goOrders_67 ?_
        refine V_iload_n (pc := 68) h 2 dX11_goOrders_68 rfl rfl ?_
        refine V_iconst (pc := 69) (v := 1) h dX11_goOrders_69 (by decide) ?_
        refine V_iload (pc := 70) h 5 dX11_goOrders_70 rfl ?_
        refine V_ishl (pc := 72) h dX11_goOrders_72 ?_
        refine V_ior (pc := 73) h dX11_goOrders_73 ?_
        refine V_bipush (pc := 74) (v := 10) h dX11_goOrders_74 (by decide) ?_
        refine V_iload_n (pc := 76) h 3 dX11_goOrders_76 rfl rfl ?_
        refine V_imul (pc := 77) h dX11_goOrders_77 ?_
        refine V_iload (pc := 78) h 5 dX11_goOrders_78 rfl ?_
        refine V_iadd (pc := 80) h dX11_goOrders_80 ?_
        refine V_iload (pc := 81) h 4 dX11_goOrders_81 rfl ?_
        refine V_callVV (pc := 83) (dy := dr) (q := (RX11, TX11, 59)) h [.int (v1 + (1 : Int32)), .int (v2 ||| ((1 : Int32) <<< (v5 &&& 31))), .int (((10 : Int32) * v3) + v5), .int v4] [] 0 mv_X11_381 oM_0 rfl dX11_goOrders_83 rfl rfl (Nat.le_of_ble_eq_true rfl) hdr (rec (v1 + (1 : Int32)) (v2 ||| ((1 : Int32) <<< (v5 &&& 31))) (((10 : Int32) * v3) + v5) v4 S3) (fun z9 hz9 => hrec (v1 + (1 : Int32)) (v2 ||| ((1 : Int32) <<< (v5 &&& 31))) (((10 : Int32) * v3) + v5) v4 S3 z9 hz9) (fun S4 => ?_)
        exact V_ls [0, 1, 2, 3, 4, 5] rfl (m_goOrders_b86_ok h hr hlk hD rec hrec hdr (m_goOrders_h35 rec n) ih v1 v2 v3 v4 v5 S4)
      · refine V_goto (pc := 53) h 86 dX11_goOrders_53 (by decide) ?_
        exact V_ls [0, 1, 2, 3, 4, 5] rfl (m_goOrders_b86_ok h hr hlk hD rec hrec hdr (m_goOrders_h35 rec n) ih v1 v2 v3 v4 v5 S1)
def m_goOrders (rec : Int32 → Int32 → Int32 → Int32 → St → Option St) (v1 : Int32) (v2 : Int32) (v3 : Int32) (v4 : Int32) (S : St) : Option St := (if v1 = (S 0 24) then (bV (m_noon (S 0 32) S) (fun S1 => (bI (m_allMeals v4 (S1 0 32) S1) (fun x3 S2 => (bV (m_offers v3 x3 S2) (fun S4 => (some S4))))))) else (m_goOrders_h35 rec FU v1 v2 v3 v4 (0 : Int32) S))
set_option maxHeartbeats 4000000 in
set_option maxRecDepth 100000 in
theorem m_goOrders_ok {d : Nat} (h : Cx p s m c cX11_goOrders 6 RX11 s0 args0 D ca a A) (hr : meth.sig.returnType = none) (hlk : meth.locks = false) (hD : 51 ≤ d) {dr : Nat} (rec : Int32 → Int32 → Int32 → Int32 → St → Option St) (hrec : (∀ (v1 v2 v3 v4 : Int32) (S : St) (z : St), rec v1 v2 v3 v4 S = some z → CtV l yX11_goOrders cX11_goOrders 6 dr s0 D ca tpM a A [.ref (a 0), .int v1, .int v2, .int v3, .int v4] S z)) (hdr : dr + 1 ≤ d) (v1 : Int32) (v2 : Int32) (v3 : Int32) (v4 : Int32) (S : St) : VV p l e (rmd d) s m args below meth c D ca tpM a A 6 (QmV D ca tpM a A below args s) S [(0, .ref (a 0)), (1, .int v1), (2, .int v2), (3, .int v3), (4, .int v4)] 0 [] (m_goOrders rec v1 v2 v3 v4 S) := by
  unfold m_goOrders
  refine V_iload_n (pc := 0) h 1 dX11_goOrders_0 rfl rfl ?_
  refine V_aload_n (pc := 1) h 0 dX11_goOrders_1 rfl rfl ?_
  refine V_get (pc := 2) h 0 24 (.int (S 0 24)) fl_X11_289_X11 oM_0 rfl rfl dX11_goOrders_2 ?_
  refine V_icmp_ne (pc := 5) h 32 dX11_goOrders_5 (by decide) ?_ ?_
  · refine V_iconst (pc := 32) (v := 0) h dX11_goOrders_32 (by decide) ?_
    refine V_istore (pc := 33) h [(5, .int (0 : Int32)), (0, .ref (a 0)), (1, .int v1), (2, .int v2), (3, .int v3), (4, .int v4)] dX11_goOrders_33 (by decide) rfl ?_
    exact V_ls [1, 2, 3, 4, 5, 0] rfl (m_goOrders_h35_ok h hr hlk hD rec hrec hdr FU v1 v2 v3 v4 (0 : Int32) S)
  · refine V_aload_n (pc := 8) h 0 dX11_goOrders_8 rfl rfl ?_
    refine V_aload_n (pc := 9) h 0 dX11_goOrders_9 rfl rfl ?_
    refine V_get (pc := 10) h 0 32 (.int (S 0 32)) fl_X11_292_X11 oM_0 rfl rfl dX11_goOrders_10 ?_
    refine V_callVV (pc := 13) (dy := 3) (q := (RX11, TX11, 59)) h [.int (S 0 32)] [] 0 mv_X11_338 oM_0 rfl dX11_goOrders_13 rfl rfl (Nat.le_of_ble_eq_true rfl) (Nat.le_trans (by decide) hD) (m_noon (S 0 32) S) (fun z9 hz9 => m_noon_ct h.gg (Nat.le_refl 3) (S 0 32) S z9 hz9) (fun S1 => ?_)
    refine V_aload_n (pc := 16) h 0 dX11_goOrders_16 rfl rfl ?_
    refine V_iload_n (pc := 17) h 3 dX11_goOrders_17 rfl rfl ?_
    refine V_aload_n (pc := 18) h 0 dX11_goOrders_18 rfl rfl ?_
    refine V_iload (pc := 19) h 4 dX11_goOrders_19 rfl ?_
    refine V_aload_n (pc := 21) h 0 dX11_goOrders_21 rfl rfl ?_
    refine V_get (pc := 22) h 0 32 (.int (S1 0 32)) fl_X11_292_X11 oM_0 rfl rfl dX11_goOrders_22 ?_
    refine V_callVI (pc := 25) (dy := 50) (q := (RX11, TX11, 59)) h [.int v4, .int (S1 0 32)] [.int v3, .ref (a 0)] 0 mv_X11_364 oM_0 rfl dX11_goOrders_25 rfl rfl (Nat.le_of_ble_eq_true rfl) (Nat.le_trans (by decide) hD) (m_allMeals v4 (S1 0 32) S1) (fun z9 hz9 => m_allMeals_ct h.gg (Nat.le_refl 50) v4 (S1 0 32) S1 z9 hz9) (fun x3 S2 => ?_)
    refine V_callVV (pc := 28) (dy := 1) (q := (RX11, TX11, 59)) h [.int v3, .int x3] [] 0 mv_X11_367 oM_0 rfl dX11_goOrders_28 rfl rfl (Nat.le_of_ble_eq_true rfl) (Nat.le_trans (by decide) hD) (m_offers v3 x3 S2) (fun z9 hz9 => m_offers_ct h.gg (Nat.le_refl 1) v3 x3 S2 z9 hz9) (fun S4 => ?_)
    exact V_vret (pc := 31) h hr hlk dX11_goOrders_31
def m_go : Nat → Int32 → Int32 → Int32 → Int32 → St → Option St
  | 0, _, _, _, _, _ => none
  | n + 1, v1, v2, v3, v4, S => m_goOrders (m_go n) v1 v2 v3 v4 S
set_option maxHeartbeats 4000000 in
set_option maxRecDepth 100000 in
theorem m_go_ct (g : GG s0 args0 D ca a A) : ∀ n : Nat, (∀ (v1 v2 v3 v4 : Int32) (S : St) (z : St), m_go n v1 v2 v3 v4 S = some z → CtV l yX11_goOrders cX11_goOrders 6 (n + 51) s0 D ca tpM a A [.ref (a 0), .int v1, .int v2, .int v3, .int v4] S z) := by
  intro n
  induction n with
  | zero => exact fun _ _ _ _ _ _ hz => (nomatch hz)
  | succ n ih =>
    exact fun v1 v2 v3 v4 S z hz => CtV_mk g (by decide +kernel) (Nat.le_of_ble_eq_true rfl) (show m_goOrders (m_go n) v1 v2 v3 v4 S = some z from hz) (fun p e s m args below meth c h hr hlk => m_goOrders_ok h hr hlk (by omega) (m_go n) ih (by omega) v1 v2 v3 v4 S)
def m_goOrders_x (v1 : Int32) (v2 : Int32) (v3 : Int32) (v4 : Int32) (S : St) : Option St := m_go 8 v1 v2 v3 v4 S
theorem m_goOrders_x_ct {d : Nat} (g : GG s0 args0 D ca a A) (hD : d ≤ 59) (hD2 : 59 ≤ d) (v1 : Int32) (v2 : Int32) (v3 : Int32) (v4 : Int32) (S : St) (z : St) (hz : m_goOrders_x v1 v2 v3 v4 S = some z) : CtV l yX11_goOrders cX11_goOrders 6 d s0 D ca tpM a A [.ref (a 0), .int v1, .int v2, .int v3, .int v4] S z := by
 have e : d = 8 + 51 := by omega
 subst e
 exact (m_go_ct g 8) v1 v2 v3 v4 S z hz
def m_thrown (S : St) : Option (Int32 × St) := (some ((S 0 0), S))
set_option maxHeartbeats 4000000 in
set_option maxRecDepth 100000 in
theorem m_thrown_ok {d : Nat} (h : Cx p s m c cX11_thrown 1 RX11 s0 args0 D ca a A) (hr : meth.sig.returnType = some .int) (hlk : meth.locks = false) (hD : 1 ≤ d) (S : St) : VV p l e (rmd d) s m args below meth c D ca tpM a A 1 (QmI D ca tpM a A below args s) S [(0, .ref (a 0))] 0 [] (m_thrown S) := by
  unfold m_thrown
  refine V_aload_n (pc := 0) h 0 dX11_thrown_0 rfl rfl ?_
  refine V_get (pc := 1) h 0 0 (.int (S 0 0)) fl_X11_119_X11 oM_0 rfl rfl dX11_thrown_1 ?_
  exact V_iret (pc := 4) h hr hlk dX11_thrown_4
theorem m_thrown_ct {d : Nat} (g : GG s0 args0 D ca a A) (hD : 1 ≤ d) (S : St) (z : Int32 × St) (hz : m_thrown S = some z) : CtI l yX11_thrown cX11_thrown 1 .int d s0 D ca tpM a A [.ref (a 0)] S z := CtI_mk g (by decide +kernel) (Nat.le_of_ble_eq_true rfl) hz (fun p e s m args below meth c h hr hlk => m_thrown_ok h hr hlk hD S)
def m_isIn (v0 : Int64) (v2 : Int64) (v4 : Int64) (S : St) : Option (Int32 × St) := (if (lg_cmp v0 v2) < 0 then (nzM (0 : Int32) (some ((0 : Int32), S))) else (if 0 < (lg_cmp v0 v4) then (nzM (0 : Int32) (some ((0 : Int32), S))) else (nzM (1 : Int32) (some ((1 : Int32), S)))))
set_option maxHeartbeats 4000000 in
set_option maxRecDepth 100000 in
theorem m_isIn_ok {d : Nat} (h : Cx p s m c cX11_isIn 6 RX11 s0 args0 D ca a A) (hr : meth.sig.returnType = some .boolean) (hlk : meth.locks = false) (hD : 1 ≤ d) (v0 : Int64) (v2 : Int64) (v4 : Int64) (S : St) : VV p l e (rmd d) s m args below meth c D ca tpM a A 6 (QmI D ca tpM a A below args s) S [(0, .long v0), (2, .long v2), (4, .long v4)] 0 [] (m_isIn v0 v2 v4 S) := by
  unfold m_isIn
  refine V_lload_n (pc := 0) h 0 dX11_isIn_0 rfl rfl ?_
  refine V_lload_n (pc := 1) h 1 dX11_isIn_1 rfl rfl ?_
  refine V_lcmp (pc := 2) h dX11_isIn_2 ?_
  refine V_if_lt (pc := 3) h 17 dX11_isIn_3 (by decide) ?_ ?_
  · refine V_iconst (pc := 17) (v := 0) h dX11_isIn_17 (by decide) ?_
    exact V_zret (pc := 18) h hr hlk dX11_isIn_18
  · refine V_lload_n (pc := 6) h 0 dX11_isIn_6 rfl rfl ?_
    refine V_lload (pc := 7) h 2 dX11_isIn_7 rfl ?_
    refine V_lcmp (pc := 9) h dX11_isIn_9 ?_
    refine V_if_gt (pc := 10) h 17 dX11_isIn_10 (by decide) ?_ ?_
    · refine V_iconst (pc := 17) (v := 0) h dX11_isIn_17 (by decide) ?_
      exact V_zret (pc := 18) h hr hlk dX11_isIn_18
    · refine V_iconst (pc := 13) (v := 1) h dX11_isIn_13 (by decide) ?_
      refine V_goto (pc := 14) h 18 dX11_isIn_14 (by decide) ?_
      exact V_zret (pc := 18) h hr hlk dX11_isIn_18
theorem m_isIn_ct {d : Nat} (g : GG s0 args0 D ca a A) (hD : 1 ≤ d) (v0 : Int64) (v2 : Int64) (v4 : Int64) (S : St) (z : Int32 × St) (hz : m_isIn v0 v2 v4 S = some z) : CtI l yX11_isIn cX11_isIn 6 .boolean d s0 D ca tpM a A [.long v0, .long v2, .long v4] S z := CtI_mk g (by decide +kernel) (Nat.le_of_ble_eq_true rfl) hz (fun p e s m args below meth c h hr hlk => m_isIn_ok h hr hlk hD v0 v2 v4 S)
def m_bytesIn_b25 (L5 : Int32 → Int32 → Int32 → St → Option (Int32 × St)) (v0 : Int32) (v2 : Int32) (k0 : Int32) (k1 : Int32) (S : St) : Option (Int32 × St) := (bnd (k1 + k0) (fun x1 => (bnd (v2 + (-8 : Int32)) (fun x2 => (L5 v0 x1 x2 S)))))
set_option maxHeartbeats 4000000 in
set_option maxRecDepth 100000 in
theorem m_bytesIn_b25_ok {d : Nat} (h : Cx p s m c cX11_bytesIn 3 RX11 s0 args0 D ca a A) (hr : meth.sig.returnType = some .int) (hlk : meth.locks = false) (hD : 1 ≤ d) (L5 : Int32 → Int32 → Int32 → St → Option (Int32 × St)) (hL5 : ∀ (v0 : Int32) (v1 : Int32) (v2 : Int32) (S : St), VV p l e (rmd d) s m args below meth c D ca tpM a A 3 (QmI D ca tpM a A below args s) S [(0, .int v0), (1, .int v1), (2, .int v2)] 5 [] (L5 v0 v1 v2 S)) (v0 : Int32) (v2 : Int32) (k0 : Int32) (k1 : Int32) (S : St) : VV p l e (rmd d) s m args below meth c D ca tpM a A 3 (QmI D ca tpM a A below args s) S [(0, .int v0), (2, .int v2)] 25 [.int k0, .int k1] (m_bytesIn_b25 L5 v0 v2 k0 k1 S) := by
  unfold m_bytesIn_b25
  refine V_iadd (pc := 25) h dX11_bytesIn_25 ?_
  refine V_top (fun x1 => ?_)
  refine V_istore_n (pc := 26) h [(1, .int x1), (0, .int v0), (2, .int v2)] dX11_bytesIn_26 rfl (by decide) rfl ?_
  refine V_iincB (pc := 27) h 2 (-8 : Int32) (fun x2 => [(2, .int x2), (1, .int x1), (0, .int v0)]) dX11_bytesIn_27 rfl (by decide) (by decide) (fun _ => rfl) (fun x2 => ?_)
  refine V_goto (pc := 30) h 5 dX11_bytesIn_30 (by decide) ?_
  exact V_ls [2, 1, 0] rfl (hL5 v0 x1 x2 S)
def m_bytesIn_h5 : Nat → Int32 → Int32 → Int32 → St → Option (Int32 × St)
  | 0, _, _, _, _ => none
  | n + 1, v0, v1, v2, S => (if v2 < 0 then (some (v1, S)) else (if ((v0 >>> (v2 &&& 31)) &&& (255 : Int32)) = 0 then (m_bytesIn_b25 (m_bytesIn_h5 n) v0 v2 (0 : Int32) v1 S) else (m_bytesIn_b25 (m_bytesIn_h5 n) v0 v2 (1 : Int32) v1 S)))
set_option maxHeartbeats 4000000 in
set_option maxRecDepth 100000 in
theorem m_bytesIn_h5_ok {d : Nat} (h : Cx p s m c cX11_bytesIn 3 RX11 s0 args0 D ca a A) (hr : meth.sig.returnType = some .int) (hlk : meth.locks = false) (hD : 1 ≤ d) : ∀ (n : Nat) (v0 : Int32) (v1 : Int32) (v2 : Int32) (S : St), VV p l e (rmd d) s m args below meth c D ca tpM a A 3 (QmI D ca tpM a A below args s) S [(0, .int v0), (1, .int v1), (2, .int v2)] 5 [] (m_bytesIn_h5 n v0 v1 v2 S) := by
  intro n
  induction n with
  | zero => intro v0 v1 v2 S; exact V_none
  | succ n ih =>
    intro v0 v1 v2 S
    unfold m_bytesIn_h5
    refine V_iload_n (pc := 5) h 2 dX11_bytesIn_5 rfl rfl ?_
    refine V_if_lt (pc := 6) h 33 dX11_bytesIn_6 (by decide) ?_ ?_
    · refine V_iload_n (pc := 33) h 1 dX11_bytesIn_33 rfl rfl ?_
      exact V_iret (pc := 34) h hr hlk dX11_bytesIn_34
    · refine V_iload_n (pc := 9) h 1 dX11_bytesIn_9 rfl rfl ?_
      refine V_iload_n (pc := 10) h 0 dX11_bytesIn_10 rfl rfl ?_
      refine V_iload_n (pc := 11) h 2 dX11_bytesIn_11 rfl rfl ?_
      refine V_ishr (pc := 12) h dX11_bytesIn_12 ?_
      refine V_sipush (pc := 13) (v := 255) h dX11_bytesIn_13 (by decide) ?_
      refine V_iand (pc := 16) h dX11_bytesIn_16 ?_
      refine V_if_eq (pc := 17) h 24 dX11_bytesIn_17 (by decide) ?_ ?_
      · refine V_iconst (pc := 24) (v := 0) h dX11_bytesIn_24 (by decide) ?_
        exact V_ls [0, 2] rfl (m_bytesIn_b25_ok h hr hlk hD (m_bytesIn_h5 n) ih v0 v2 (0 : Int32) v1 S)
      · refine V_iconst (pc := 20) (v := 1) h dX11_bytesIn_20 (by decide) ?_
        refine V_goto (pc := 21) h 25 dX11_bytesIn_21 (by decide) ?_
        exact V_ls [0, 2] rfl (m_bytesIn_b25_ok h hr hlk hD (m_bytesIn_h5 n) ih v0 v2 (1 : Int32) v1 S)
def m_bytesIn (v0 : Int32) (S : St) : Option (Int32 × St) := (m_bytesIn_h5 FU v0 (0 : Int32) (24 : Int32) S)
set_option maxHeartbeats 4000000 in
set_option maxRecDepth 100000 in
theorem m_bytesIn_ok {d : Nat} (h : Cx p s m c cX11_bytesIn 3 RX11 s0 args0 D ca a A) (hr : meth.sig.returnType = some .int) (hlk : meth.locks = false) (hD : 1 ≤ d) (v0 : Int32) (S : St) : VV p l e (rmd d) s m args below meth c D ca tpM a A 3 (QmI D ca tpM a A below args s) S [(0, .int v0)] 0 [] (m_bytesIn v0 S) := by
  unfold m_bytesIn
  refine V_iconst (pc := 0) (v := 0) h dX11_bytesIn_0 (by decide) ?_
  refine V_istore_n (pc := 1) h [(1, .int (0 : Int32)), (0, .int v0)] dX11_bytesIn_1 rfl (by decide) rfl ?_
  refine V_bipush (pc := 2) (v := 24) h dX11_bytesIn_2 (by decide) ?_
  refine V_istore_n (pc := 4) h [(2, .int (24 : Int32)), (1, .int (0 : Int32)), (0, .int v0)] dX11_bytesIn_4 rfl (by decide) rfl ?_
  exact V_ls [2, 1, 0] rfl (m_bytesIn_h5_ok h hr hlk hD FU v0 (0 : Int32) (24 : Int32) S)
theorem m_bytesIn_ct {d : Nat} (g : GG s0 args0 D ca a A) (hD : 1 ≤ d) (v0 : Int32) (S : St) (z : Int32 × St) (hz : m_bytesIn v0 S = some z) : CtI l yX11_bytesIn cX11_bytesIn 3 .int d s0 D ca tpM a A [.int v0] S z := CtI_mk g (by decide +kernel) (Nat.le_of_ble_eq_true rfl) hz (fun p e s m args below meth c h hr hlk => m_bytesIn_ok h hr hlk hD v0 S)
def m_pack_b43 (L3 : Int32 → Int32 → St → Option St) (v1 : Int32) (v2 : Int32) (S : St) : Option St := (bnd (v2 + (-8 : Int32)) (fun x1 => (L3 v1 x1 S)))
set_option maxHeartbeats 4000000 in
set_option maxRecDepth 100000 in
theorem m_pack_b43_ok {d : Nat} (h : Cx p s m c cX11_pack 3 RX11 s0 args0 D ca a A) (hr : meth.sig.returnType = none) (hlk : meth.locks = false) (hD : 1 ≤ d) (L3 : Int32 → Int32 → St → Option St) (hL3 : ∀ (v1 : Int32) (v2 : Int32) (S : St), VV p l e (rmd d) s m args below meth c D ca tpM a A 3 (QmV D ca tpM a A below args s) S [(0, .ref (a 0)), (1, .int v1), (2, .int v2)] 3 [] (L3 v1 v2 S)) (v1 : Int32) (v2 : Int32) (S : St) : VV p l e (rmd d) s m args below meth c D ca tpM a A 3 (QmV D ca tpM a A below args s) S [(0, .ref (a 0)), (1, .int v1), (2, .int v2)] 43 [] (m_pack_b43 L3 v1 v2 S) := by
  unfold m_pack_b43
  refine V_iincB (pc := 43) h 2 (-8 : Int32) (fun x1 => [(2, .int x1), (0, .ref (a 0)), (1, .int v1)]) dX11_pack_43 rfl (by decide) (by decide) (fun _ => rfl) (fun x1 => ?_)
  refine V_goto (pc := 46) h 3 dX11_pack_46 (by decide) ?_
  exact V_ls [1, 2, 0] rfl (hL3 v1 x1 S)
def m_pack_h3 : Nat → Int32 → Int32 → St → Option St
  | 0, _, _, _ => none
  | n + 1, v1, v2, S => (if v2 < 0 then (some S) else (if ((v1 >>> (v2 &&& 31)) &&& (255 : Int32)) = 0 then (m_pack_b43 (m_pack_h3 n) v1 v2 S) else (ckM (S 0 6) 160 (bnd (up2 S 1 (S 0 6).toNatClampNeg (((v1 >>> (v2 &&& 31)).toInt8.toInt32).toInt8.toInt32)) (fun S1 => (bnd (up2 S1 0 6 ((S1 0 6) + (1 : Int32))) (fun S2 => (m_pack_b43 (m_pack_h3 n) v1 v2 S2))))))))
set_option maxHeartbeats 4000000 in
set_option maxRecDepth 100000 in
theorem m_pack_h3_ok {d : Nat} (h : Cx p s m c cX11_pack 3 RX11 s0 args0 D ca a A) (hr : meth.sig.returnType = none) (hlk : meth.locks = false) (hD : 1 ≤ d) : ∀ (n : Nat) (v1 : Int32) (v2 : Int32) (S : St), VV p l e (rmd d) s m args below meth c D ca tpM a A 3 (QmV D ca tpM a A below args s) S [(0, .ref (a 0)), (1, .int v1), (2, .int v2)] 3 [] (m_pack_h3 n v1 v2 S) := by
  intro n
  induction n with
  | zero => intro v1 v2 S; exact V_none
  | succ n ih =>
    intro v1 v2 S
    unfold m_pack_h3
    refine V_iload_n (pc := 3) h 2 dX11_pack_3 rfl rfl ?_
    refine V_if_lt (pc := 4) h 49 dX11_pack_4 (by decide) ?_ ?_
    · exact V_vret (pc := 49) h hr hlk dX11_pack_49
    · refine V_iload_n (pc := 7) h 1 dX11_pack_7 rfl rfl ?_
      refine V_iload_n (pc := 8) h 2 dX11_pack_8 rfl rfl ?_
      refine V_ishr (pc := 9) h dX11_pack_9 ?_
      refine V_sipush (pc := 10) (v := 255) h dX11_pack_10 (by decide) ?_
      refine V_iand (pc := 13) h dX11_pack_13 ?_
      refine V_if_ne (pc := 14) h 20 dX11_pack_14 (by decide) ?_ ?_
      · refine V_aload_n (pc := 20) h 0 dX11_pack_20 rfl rfl ?_
        refine V_get (pc := 21) h 0 1 (.ref (a 1)) fl_X11_9_X11 oM_0 rfl rfl dX11_pack_21 ?_
        refine V_aload_n (pc := 24) h 0 dX11_pack_24 rfl rfl ?_
        refine V_get (pc := 25) h 0 6 (.int (S 0 6)) fl_X11_132_X11 oM_0 rfl rfl dX11_pack_25 ?_
        refine V_iload_n (pc := 28) h 1 dX11_pack_28 rfl rfl ?_
        refine V_iload_n (pc := 29) h 2 dX11_pack_29 rfl rfl ?_
        refine V_ishr (pc := 30) h dX11_pack_30 ?_
        refine V_i2b (pc := 31) h dX11_pack_31 ?_
        refine V_bast (pc := 32) h 1 oM_1 dX11_pack_32 (fun S1 => ?_)
        refine V_aload_n (pc := 33) h 0 dX11_pack_33 rfl rfl ?_
        refine V_dup (pc := 34) h dX11_pack_34 rfl ?_
        refine V_get (pc := 35) h 0 6 (.int (S1 0 6)) fl_X11_132_X11 oM_0 rfl rfl dX11_pack_35 ?_
        refine V_iconst (pc := 38) (v := 1) h dX11_pack_38 (by decide) ?_
        refine V_iadd (pc := 39) h dX11_pack_39 ?_
        refine V_put (pc := 40) h 0 6 ((S1 0 6) + (1 : Int32)) fp_X11_132_X11 oM_0 rfl rfl rfl rfl dX11_pack_40 (fun S2 => ?_)
        exact V_ls [0, 1, 2] rfl (m_pack_b43_ok h hr hlk hD (m_pack_h3 n) ih v1 v2 S2)
      · refine V_goto (pc := 17) h 43 dX11_pack_17 (by decide) ?_
        exact V_ls [0, 1, 2] rfl (m_pack_b43_ok h hr hlk hD (m_pack_h3 n) ih v1 v2 S)
def m_pack (v1 : Int32) (S : St) : Option St := (m_pack_h3 FU v1 (24 : Int32) S)
set_option maxHeartbeats 4000000 in
set_option maxRecDepth 100000 in
theorem m_pack_ok {d : Nat} (h : Cx p s m c cX11_pack 3 RX11 s0 args0 D ca a A) (hr : meth.sig.returnType = none) (hlk : meth.locks = false) (hD : 1 ≤ d) (v1 : Int32) (S : St) : VV p l e (rmd d) s m args below meth c D ca tpM a A 3 (QmV D ca tpM a A below args s) S [(0, .ref (a 0)), (1, .int v1)] 0 [] (m_pack v1 S) := by
  unfold m_pack
  refine V_bipush (pc := 0) (v := 24) h dX11_pack_0 (by decide) ?_
  refine V_istore_n (pc := 2) h [(2, .int (24 : Int32)), (0, .ref (a 0)), (1, .int v1)] dX11_pack_2 rfl (by decide) rfl ?_
  exact V_ls [1, 2, 0] rfl (m_pack_h3_ok h hr hlk hD FU v1 (24 : Int32) S)
theorem m_pack_ct {d : Nat} (g : GG s0 args0 D ca a A) (hD : 1 ≤ d) (v1 : Int32) (S : St) (z : St) (hz : m_pack v1 S = some z) : CtV l yX11_pack cX11_pack 3 d s0 D ca tpM a A [.ref (a 0), .int v1] S z := CtV_mk g (by decide +kernel) (Nat.le_of_ble_eq_true rfl) hz (fun p e s m args below meth c h hr hlk => m_pack_ok h hr hlk hD v1 S)
def m_feed (v1 : Int32) (v2 : Int32) (v3 : Int32) (v4 : Int32) (v5 : Int32) (S : St) : Option (Int32 × St) := (bnd (up2 S 0 0 (0 : Int32)) (fun S1 => (bI (m_bytesIn v1 S1) (fun x3 S2 => (bI (m_bytesIn v2 S2) (fun x5 S4 => (bI (m_bytesIn v3 S4) (fun x7 S6 => (bI (m_bytesIn v4 S6) (fun x9 S8 => (bI (m_bytesIn v5 S8) (fun x11 S10 => (if ((((((S1 0 6) + x3) + x5) + x7) + x9) + x11) ≤ (160 : Int32) then (bV (m_pack v1 S10) (fun S12 => (bV (m_pack v2 S12) (fun S13 => (bV (m_pack v3 S13) (fun S14 => (bV (m_pack v4 S14) (fun S15 => (bV (m_pack v5 S15) (fun S16 => (some ((S16 0 6), S16)))))))))))) else (some ((-1 : Int32), S10)))))))))))))))
set_option maxHeartbeats 4000000 in
set_option maxRecDepth 100000 in
theorem m_feed_ok {d : Nat} (h : Cx p s m c cX11_feed 6 RX11 s0 args0 D ca a A) (hr : meth.sig.returnType = some .int) (hlk : meth.locks = false) (hD : 2 ≤ d) (v1 : Int32) (v2 : Int32) (v3 : Int32) (v4 : Int32) (v5 : Int32) (S : St) : VV p l e (rmd d) s m args below meth c D ca tpM a A 6 (QmI D ca tpM a A below args s) S [(0, .ref (a 0)), (1, .int v1), (2, .int v2), (3, .int v3), (4, .int v4), (5, .int v5)] 0 [] (m_feed v1 v2 v3 v4 v5 S) := by
  unfold m_feed
  refine V_aload_n (pc := 0) h 0 dX11_feed_0 rfl rfl ?_
  refine V_iconst (pc := 1) (v := 0) h dX11_feed_1 (by decide) ?_
  refine V_put (pc := 2) h 0 0 (0 : Int32) fp_X11_119_X11 oM_0 rfl rfl rfl rfl dX11_feed_2 (fun S1 => ?_)
  refine V_aload_n (pc := 5) h 0 dX11_feed_5 rfl rfl ?_
  refine V_get (pc := 6) h 0 6 (.int (S1 0 6)) fl_X11_132_X11 oM_0 rfl rfl dX11_feed_6 ?_
  refine V_iload_n (pc := 9) h 1 dX11_feed_9 rfl rfl ?_
  refine V_callSI (pc := 10) (dy := 1) h [.int v1] [.int (S1 0 6)] ms_X11_134 dX11_feed_10 rfl rfl (Nat.le_of_ble_eq_true rfl) (Nat.le_trans (by decide) hD) (m_bytesIn v1 S1) (fun z9 hz9 => m_bytesIn_ct h.gg (Nat.le_refl 1) v1 S1 z9 hz9) (fun x3 S2 => ?_)
  refine V_iadd (pc := 13) h dX11_feed_13 ?_
  refine V_iload_n (pc := 14) h 2 dX11_feed_14 rfl rfl ?_
  refine V_callSI (pc := 15) (dy := 1) h [.int v2] [.int ((S1 0 6) + x3)] ms_X11_134 dX11_feed_15 rfl rfl (Nat.le_of_ble_eq_true rfl) (Nat.le_trans (by decide) hD) (m_bytesIn v2 S2) (fun z9 hz9 => m_bytesIn_ct h.gg (Nat.le_refl 1) v2 S2 z9 hz9) (fun x5 S4 => ?_)
  refine V_iadd (pc := 18) h dX11_feed_18 ?_
  refine V_iload_n (pc := 19) h 3 dX11_feed_19 rfl rfl ?_
  refine V_callSI (pc := 20) (dy := 1) h [.int v3] [.int (((S1 0 6) + x3) + x5)] ms_X11_134 dX11_feed_20 rfl rfl (Nat.le_of_ble_eq_true rfl) (Nat.le_trans (by decide) hD) (m_bytesIn v3 S4) (fun z9 hz9 => m_bytesIn_ct h.gg (Nat.le_refl 1) v3 S4 z9 hz9) (fun x7 S6 => ?_)
  refine V_iadd (pc := 23) h dX11_feed_23 ?_
  refine V_iload (pc := 24) h 4 dX11_feed_24 rfl ?_
  refine V_callSI (pc := 26) (dy := 1) h [.int v4] [.int ((((S1 0 6) + x3) + x5) + x7)] ms_X11_134 dX11_feed_26 rfl rfl (Nat.le_of_ble_eq_true rfl) (Nat.le_trans (by decide) hD) (m_bytesIn v4 S6) (fun z9 hz9 => m_bytesIn_ct h.gg (Nat.le_refl 1) v4 S6 z9 hz9) (fun x9 S8 => ?_)
  refine V_iadd (pc := 29) h dX11_feed_29 ?_
  refine V_iload (pc := 30) h 5 dX11_feed_30 rfl ?_
  refine V_callSI (pc := 32) (dy := 1) h [.int v5] [.int (((((S1 0 6) + x3) + x5) + x7) + x9)] ms_X11_134 dX11_feed_32 rfl rfl (Nat.le_of_ble_eq_true rfl) (Nat.le_trans (by decide) hD) (m_bytesIn v5 S8) (fun z9 hz9 => m_bytesIn_ct h.gg (Nat.le_refl 1) v5 S8 z9 hz9) (fun x11 S10 => ?_)
  refine V_iadd (pc := 35) h dX11_feed_35 ?_
  refine V_sipush (pc := 36) (v := 160) h dX11_feed_36 (by decide) ?_
  refine V_icmp_le (pc := 39) h 44 dX11_feed_39 (by decide) ?_ ?_
  · refine V_aload_n (pc := 44) h 0 dX11_feed_44 rfl rfl ?_
    refine V_iload_n (pc := 45) h 1 dX11_feed_45 rfl rfl ?_
    refine V_callVV (pc := 46) (dy := 1) (q := (RX11, TX11, 59)) h [.int v1] [] 0 mv_X11_138 oM_0 rfl dX11_feed_46 rfl rfl (Nat.le_of_ble_eq_true rfl) (Nat.le_trans (by decide) hD) (m_pack v1 S10) (fun z9 hz9 => m_pack_ct h.gg (Nat.le_refl 1) v1 S10 z9 hz9) (fun S12 => ?_)
    refine V_aload_n (pc := 49) h 0 dX11_feed_49 rfl rfl ?_
    refine V_iload_n (pc := 50) h 2 dX11_feed_50 rfl rfl ?_
    refine V_callVV (pc := 51) (dy := 1) (q := (RX11, TX11, 59)) h [.int v2] [] 0 mv_X11_138 oM_0 rfl dX11_feed_51 rfl rfl (Nat.le_of_ble_eq_true rfl) (Nat.le_trans (by decide) hD) (m_pack v2 S12) (fun z9 hz9 => m_pack_ct h.gg (Nat.le_refl 1) v2 S12 z9 hz9) (fun S13 => ?_)
    refine V_aload_n (pc := 54) h 0 dX11_feed_54 rfl rfl ?_
    refine V_iload_n (pc := 55) h 3 dX11_feed_55 rfl rfl ?_
    refine V_callVV (pc := 56) (dy := 1) (q := (RX11, TX11, 59)) h [.int v3] [] 0 mv_X11_138 oM_0 rfl dX11_feed_56 rfl rfl (Nat.le_of_ble_eq_true rfl) (Nat.le_trans (by decide) hD) (m_pack v3 S13) (fun z9 hz9 => m_pack_ct h.gg (Nat.le_refl 1) v3 S13 z9 hz9) (fun S14 => ?_)
    refine V_aload_n (pc := 59) h 0 dX11_feed_59 rfl rfl ?_
    refine V_iload (pc := 60) h 4 dX11_feed_60 rfl ?_
    refine V_callVV (pc := 62) (dy := 1) (q := (RX11, TX11, 59)) h [.int v4] [] 0 mv_X11_138 oM_0 rfl dX11_feed_62 rfl rfl (Nat.le_of_ble_eq_true rfl) (Nat.le_trans (by decide) hD) (m_pack v4 S14) (fun z9 hz9 => m_pack_ct h.gg (Nat.le_refl 1) v4 S14 z9 hz9) (fun S15 => ?_)
    refine V_aload_n (pc := 65) h 0 dX11_feed_65 rfl rfl ?_
    refine V_iload (pc := 66) h 5 dX11_feed_66 rfl ?_
    refine V_callVV (pc := 68) (dy := 1) (q := (RX11, TX11, 59)) h [.int v5] [] 0 mv_X11_138 oM_0 rfl dX11_feed_68 rfl rfl (Nat.le_of_ble_eq_true rfl) (Nat.le_trans (by decide) hD) (m_pack v5 S15) (fun z9 hz9 => m_pack_ct h.gg (Nat.le_refl 1) v5 S15 z9 hz9) (fun S16 => ?_)
    refine V_aload_n (pc := 71) h 0 dX11_feed_71 rfl rfl ?_
    refine V_get (pc := 72) h 0 6 (.int (S16 0 6)) fl_X11_132_X11 oM_0 rfl rfl dX11_feed_72 ?_
    exact V_iret (pc := 75) h hr hlk dX11_feed_75
  · refine V_iconst (pc := 42) (v := -1) h dX11_feed_42 (by decide) ?_
    exact V_iret (pc := 43) h hr hlk dX11_feed_43
theorem m_feed_ct {d : Nat} (g : GG s0 args0 D ca a A) (hD : 2 ≤ d) (v1 : Int32) (v2 : Int32) (v3 : Int32) (v4 : Int32) (v5 : Int32) (S : St) (z : Int32 × St) (hz : m_feed v1 v2 v3 v4 v5 S = some z) : CtI l yX11_feed cX11_feed 6 .int d s0 D ca tpM a A [.ref (a 0), .int v1, .int v2, .int v3, .int v4, .int v5] S z := CtI_mk g (by decide +kernel) (Nat.le_of_ble_eq_true rfl) hz (fun p e s m args below meth c h hr hlk => m_feed_ok h hr hlk hD v1 v2 v3 v4 v5 S)
def m_end (v1 : Int32) (S : St) : Option (Int32 × St) := (bnd (up2 S 0 0 (0 : Int32)) (fun S1 => (if v1 < 0 then (nzM (0 : Int32) (some ((0 : Int32), S1))) else (if v1 ≤ (S1 0 6) then (bnd (up2 S1 0 6 v1) (fun S2 => (nzM (1 : Int32) (some ((1 : Int32), S2))))) else (nzM (0 : Int32) (some ((0 : Int32), S1)))))))
set_option maxHeartbeats 4000000 in
set_option maxRecDepth 100000 in
theorem m_end_ok {d : Nat} (h : Cx p s m c cX11_end 2 RX11 s0 args0 D ca a A) (hr : meth.sig.returnType = some .boolean) (hlk : meth.locks = false) (hD : 1 ≤ d) (v1 : Int32) (S : St) : VV p l e (rmd d) s m args below meth c D ca tpM a A 2 (QmI D ca tpM a A below args s) S [(0, .ref (a 0)), (1, .int v1)] 0 [] (m_end v1 S) := by
  unfold m_end
  refine V_aload_n (pc := 0) h 0 dX11_end_0 rfl rfl ?_
  refine V_iconst (pc := 1) (v := 0) h dX11_end_1 (by decide) ?_
  refine V_put (pc := 2) h 0 0 (0 : Int32) fp_X11_119_X11 oM_0 rfl rfl rfl rfl dX11_end_2 (fun S1 => ?_)
  refine V_iload_n (pc := 5) h 1 dX11_end_5 rfl rfl ?_
  refine V_if_lt (pc := 6) h 17 dX11_end_6 (by decide) ?_ ?_
  · refine V_iconst (pc := 17) (v := 0) h dX11_end_17 (by decide) ?_
    exact V_zret (pc := 18) h hr hlk dX11_end_18
  · refine V_iload_n (pc := 9) h 1 dX11_end_9 rfl rfl ?_
    refine V_aload_n (pc := 10) h 0 dX11_end_10 rfl rfl ?_
    refine V_get (pc := 11) h 0 6 (.int (S1 0 6)) fl_X11_132_X11 oM_0 rfl rfl dX11_end_11 ?_
    refine V_icmp_le (pc := 14) h 19 dX11_end_14 (by decide) ?_ ?_
    · refine V_aload_n (pc := 19) h 0 dX11_end_19 rfl rfl ?_
      refine V_iload_n (pc := 20) h 1 dX11_end_20 rfl rfl ?_
      refine V_put (pc := 21) h 0 6 v1 fp_X11_132_X11 oM_0 rfl rfl rfl rfl dX11_end_21 (fun S2 => ?_)
      refine V_iconst (pc := 24) (v := 1) h dX11_end_24 (by decide) ?_
      exact V_zret (pc := 25) h hr hlk dX11_end_25
    · refine V_iconst (pc := 17) (v := 0) h dX11_end_17 (by decide) ?_
      exact V_zret (pc := 18) h hr hlk dX11_end_18
theorem m_end_ct {d : Nat} (g : GG s0 args0 D ca a A) (hD : 1 ≤ d) (v1 : Int32) (S : St) (z : Int32 × St) (hz : m_end v1 S = some z) : CtI l yX11_end cX11_end 2 .boolean d s0 D ca tpM a A [.ref (a 0), .int v1] S z := CtI_mk g (by decide +kernel) (Nat.le_of_ble_eq_true rfl) hz (fun p e s m args below meth c h hr hlk => m_end_ok h hr hlk hD v1 S)
def m_here (S : St) : Option (Int32 × St) := (if (S 0 9) ≤ (S 0 10) then (some ((-1 : Int32), S)) else (ckM (S 0 5) 2 (ckM ((S 0 8) + (S 0 10)) (alen tpM (1 + (S 0 5).toNatClampNeg)) (some (((S (1 + (S 0 5).toNatClampNeg) ((S 0 8) + (S 0 10)).toNatClampNeg) &&& (255 : Int32)), S)))))
set_option maxHeartbeats 4000000 in
set_option maxRecDepth 100000 in
theorem m_here_ok {d : Nat} (h : Cx p s m c cX11_here 1 RX11 s0 args0 D ca a A) (hr : meth.sig.returnType = some .int) (hlk : meth.locks = false) (hD : 1 ≤ d) (S : St) : VV p l e (rmd d) s m args below meth c D ca tpM a A 1 (QmI D ca tpM a A below args s) S [(0, .ref (a 0))] 0 [] (m_here S) := by
  unfold m_here
  refine V_aload_n (pc := 0) h 0 dX11_here_0 rfl rfl ?_
  refine V_get (pc := 1) h 0 10 (.int (S 0 10)) fl_X11_142_X11 oM_0 rfl rfl dX11_here_1 ?_
  refine V_aload_n (pc := 4) h 0 dX11_here_4 rfl rfl ?_
  refine V_get (pc := 5) h 0 9 (.int (S 0 9)) fl_X11_145_X11 oM_0 rfl rfl dX11_here_5 ?_
  refine V_icmp_ge (pc := 8) h 32 dX11_here_8 (by decide) ?_ ?_
  · refine V_iconst (pc := 32) (v := -1) h dX11_here_32 (by decide) ?_
    exact V_iret (pc := 33) h hr hlk dX11_here_33
  · refine V_aload_n (pc := 11) h 0 dX11_here_11 rfl rfl ?_
    refine V_getD (pc := 12) h 0 5 2 fl_X11_23_X11 oM_0 rfl dX11_here_12 (fun h1 h2 => ?_)
    refine V_aload_n (pc := 15) h 0 dX11_here_15 rfl rfl ?_
    refine V_get (pc := 16) h 0 8 (.int (S 0 8)) fl_X11_148_X11 oM_0 rfl rfl dX11_here_16 ?_
    refine V_aload_n (pc := 19) h 0 dX11_here_19 rfl rfl ?_
    refine V_get (pc := 20) h 0 10 (.int (S 0 10)) fl_X11_142_X11 oM_0 rfl rfl dX11_here_20 ?_
    refine V_iadd (pc := 23) h dX11_here_23 ?_
    refine V_bald (pc := 24) h (1 + (S 0 5).toNatClampNeg) (isBt_all _ h2) dX11_here_24 ?_
    refine V_sipush (pc := 25) (v := 255) h dX11_here_25 (by decide) ?_
    refine V_iand (pc := 28) h dX11_here_28 ?_
    refine V_goto (pc := 29) h 33 dX11_here_29 (by decide) ?_
    exact V_iret (pc := 33) h hr hlk dX11_here_33
theorem m_here_ct {d : Nat} (g : GG s0 args0 D ca a A) (hD : 1 ≤ d) (S : St) (z : Int32 × St) (hz : m_here S = some z) : CtI l yX11_here cX11_here 1 .int d s0 D ca tpM a A [.ref (a 0)] S z := CtI_mk g (by decide +kernel) (Nat.le_of_ble_eq_true rfl) hz (fun p e s m args below meth c h hr hlk => m_here_ok h hr hlk hD S)
def m_mostOf (v0 : Int32) (v1 : Int32) (S : St) : Option (Int32 × St) := (if v0 = (108 : Int32) then (if v1 = 0 then (some ((30 : Int32), S)) else (if v1 = (1 : Int32) then (some ((1 : Int32), S)) else (some ((20 : Int32), S)))) else (if v0 = (112 : Int32) then (some ((99 : Int32), S)) else (if (6 : Int32) ≤ v1 then (if v1 = (6 : Int32) then (some ((4 : Int32), S)) else (some ((5 : Int32), S))) else (some ((99 : Int32), S)))))
set_option maxHeartbeats 4000000 in
set_option maxRecDepth 100000 in
theorem m_mostOf_ok {d : Nat} (h : Cx p s m c cX11_mostOf 2 RX11 s0 args0 D ca a A) (hr : meth.sig.returnType = some .int) (hlk : meth.locks = false) (hD : 1 ≤ d) (v0 : Int32) (v1 : Int32) (S : St) : VV p l e (rmd d) s m args below meth c D ca tpM a A 2 (QmI D ca tpM a A below args s) S [(0, .int v0), (1, .int v1)] 0 [] (m_mostOf v0 v1 S) := by
  unfold m_mostOf
  refine V_iload_n (pc := 0) h 0 dX11_mostOf_0 rfl rfl ?_
  refine V_bipush (pc := 1) (v := 108) h dX11_mostOf_1 (by decide) ?_
  refine V_icmp_ne (pc := 3) h 27 dX11_mostOf_3 (by decide) ?_ ?_
  · refine V_iload_n (pc := 27) h 0 dX11_mostOf_27 rfl rfl ?_
    refine V_bipush (pc := 28) (v := 112) h dX11_mostOf_28 (by decide) ?_
    refine V_icmp_eq (pc := 30) h 39 dX11_mostOf_30 (by decide) ?_ ?_
    · refine V_bipush (pc := 39) (v := 99) h dX11_mostOf_39 (by decide) ?_
      refine V_goto (pc := 41) h 55 dX11_mostOf_41 (by decide) ?_
      exact V_iret (pc := 55) h hr hlk dX11_mostOf_55
    · refine V_iload_n (pc := 33) h 1 dX11_mostOf_33 rfl rfl ?_
      refine V_bipush (pc := 34) (v := 6) h dX11_mostOf_34 (by decide) ?_
      refine V_icmp_ge (pc := 36) h 44 dX11_mostOf_36 (by decide) ?_ ?_
      · refine V_iload_n (pc := 44) h 1 dX11_mostOf_44 rfl rfl ?_
        refine V_bipush (pc := 45) (v := 6) h dX11_mostOf_45 (by decide) ?_
        refine V_icmp_ne (pc := 47) h 54 dX11_mostOf_47 (by decide) ?_ ?_
        · refine V_iconst (pc := 54) (v := 5) h dX11_mostOf_54 (by decide) ?_
          exact V_iret (pc := 55) h hr hlk dX11_mostOf_55
        · refine V_iconst (pc := 50) (v := 4) h dX11_mostOf_50 (by decide) ?_
          refine V_goto (pc := 51) h 55 dX11_mostOf_51 (by decide) ?_
          exact V_iret (pc := 55) h hr hlk dX11_mostOf_55
      · refine V_bipush (pc := 39) (v := 99) h dX11_mostOf_39 (by decide) ?_
        refine V_goto (pc := 41) h 55 dX11_mostOf_41 (by decide) ?_
        exact V_iret (pc := 55) h hr hlk dX11_mostOf_55
  · refine V_iload_n (pc := 6) h 1 dX11_mostOf_6 rfl rfl ?_
    refine V_if_ne (pc := 7) h 15 dX11_mostOf_7 (by decide) ?_ ?_
    · refine V_iload_n (pc := 15) h 1 dX11_mostOf_15 rfl rfl ?_
      refine V_iconst (pc := 16) (v := 1) h dX11_mostOf_16 (by decide) ?_
      refine V_icmp_ne (pc := 17) h 24 dX11_mostOf_17 (by decide) ?_ ?_
      · refine V_bipush (pc := 24) (v := 20) h dX11_mostOf_24 (by decide) ?_
        exact V_iret (pc := 26) h hr hlk dX11_mostOf_26
      · refine V_iconst (pc := 20) (v := 1) h dX11_mostOf_20 (by decide) ?_
        refine V_goto (pc := 21) h 26 dX11_mostOf_21 (by decide) ?_
        exact V_iret (pc := 26) h hr hlk dX11_mostOf_26
    · refine V_bipush (pc := 10) (v := 30) h dX11_mostOf_10 (by decide) ?_
      refine V_goto (pc := 12) h 26 dX11_mostOf_12 (by decide) ?_
      exact V_iret (pc := 26) h hr hlk dX11_mostOf_26
theorem m_mostOf_ct {d : Nat} (g : GG s0 args0 D ca a A) (hD : 1 ≤ d) (v0 : Int32) (v1 : Int32) (S : St) (z : Int32 × St) (hz : m_mostOf v0 v1 S = some z) : CtI l yX11_mostOf cX11_mostOf 2 .int d s0 D ca tpM a A [.int v0, .int v1] S z := CtI_mk g (by decide +kernel) (Nat.le_of_ble_eq_true rfl) hz (fun p e s m args below meth c h hr hlk => m_mostOf_ok h hr hlk hD v0 v1 S)
def m_placeOf_h2 (i0 : Nat) : Nat → Int32 → Int32 → St → Option (Int32 × St)
  | 0, _, _, _ => none
  | n + 1, v1, v2, S => (bI (j_String_length_8abf5 i0 S) (fun x2 S1 => (if x2 ≤ v2 then (some ((-1 : Int32), S1)) else (bI (j_String_charAt_5068e i0 v2 S1) (fun x4 S3 => (if x4 = v1 then (some (v2, S3)) else (bnd (v2 + (1 : Int32)) (fun x5 => ((m_placeOf_h2 i0 n) v1 x5 S3)))))))))
set_option maxHeartbeats 4000000 in
set_option maxRecDepth 100000 in
theorem m_placeOf_h2_ok {d : Nat} (h : Cx p s m c cX11_placeOf 3 RX11 s0 args0 D ca a A) (hr : meth.sig.returnType = some .int) (hlk : meth.locks = false) (hD : 5 ≤ d) (i0 : Nat) (hi0 : i0 < 7) : ∀ (n : Nat) (v1 : Int32) (v2 : Int32) (S : St), VV p l e (rmd d) s m args below meth c D ca tpM a A 3 (QmI D ca tpM a A below args s) S [(0, .ref (a (200 + i0))), (1, .int v1), (2, .int v2)] 2 [] (m_placeOf_h2 i0 n v1 v2 S) := by
  intro n
  induction n with
  | zero => intro v1 v2 S; exact V_none
  | succ n ih =>
    intro v1 v2 S
    unfold m_placeOf_h2
    refine V_iload_n (pc := 2) h 2 dX11_placeOf_2 rfl rfl ?_
    refine V_aload_n (pc := 3) h 0 dX11_placeOf_3 rfl rfl ?_
    refine V_callOI (pc := 4) (dy := 2) h [] [.int v2] i0 hi0 mv_X11_122 dX11_placeOf_4 rfl rfl (Nat.le_of_ble_eq_true rfl) (Nat.le_trans (by decide) hD) (j_String_length_8abf5 i0 S) (fun z9 hz9 => j_String_length_8abf5_ct h.gg (Nat.le_refl 2) hi0 S z9 hz9) (fun x2 S1 => ?_)
    refine V_icmp_ge (pc := 7) h 27 dX11_placeOf_7 (by decide) ?_ ?_
    · refine V_iconst (pc := 27) (v := -1) h dX11_placeOf_27 (by decide) ?_
      exact V_iret (pc := 28) h hr hlk dX11_placeOf_28
    · refine V_aload_n (pc := 10) h 0 dX11_placeOf_10 rfl rfl ?_
      refine V_iload_n (pc := 11) h 2 dX11_placeOf_11 rfl rfl ?_
      refine V_callOI (pc := 12) (dy := 4) h [.int v2] [] i0 hi0 mv_X11_128 dX11_placeOf_12 rfl rfl (Nat.le_of_ble_eq_true rfl) (Nat.le_trans (by decide) hD) (j_String_charAt_5068e i0 v2 S1) (fun z9 hz9 => j_String_charAt_5068e_ct h.gg (Nat.le_refl 4) hi0 v2 S1 z9 hz9) (fun x4 S3 => ?_)
      refine V_iload_n (pc := 15) h 1 dX11_placeOf_15 rfl rfl ?_
      refine V_icmp_ne (pc := 16) h 21 dX11_placeOf_16 (by decide) ?_ ?_
      · refine V_iincB (pc := 21) h 2 (1 : Int32) (fun x5 => [(2, .int x5), (0, .ref (a (200 + i0))), (1, .int v1)]) dX11_placeOf_21 rfl (by decide) (by decide) (fun _ => rfl) (fun x5 => ?_)
        refine V_goto (pc := 24) h 2 dX11_placeOf_24 (by decide) ?_
        exact V_ls [1, 2, 0] rfl (ih v1 x5 S3)
      · refine V_iload_n (pc := 19) h 2 dX11_placeOf_19 rfl rfl ?_
        exact V_iret (pc := 20) h hr hlk dX11_placeOf_20
def m_placeOf (i0 : Nat) (v1 : Int32) (S : St) : Option (Int32 × St) := (m_placeOf_h2 i0 FU v1 (0 : Int32) S)
set_option maxHeartbeats 4000000 in
set_option maxRecDepth 100000 in
theorem m_placeOf_ok {d : Nat} (h : Cx p s m c cX11_placeOf 3 RX11 s0 args0 D ca a A) (hr : meth.sig.returnType = some .int) (hlk : meth.locks = false) (hD : 5 ≤ d) (i0 : Nat) (hi0 : i0 < 7) (v1 : Int32) (S : St) : VV p l e (rmd d) s m args below meth c D ca tpM a A 3 (QmI D ca tpM a A below args s) S [(0, .ref (a (200 + i0))), (1, .int v1)] 0 [] (m_placeOf i0 v1 S) := by
  unfold m_placeOf
  refine V_iconst (pc := 0) (v := 0) h dX11_placeOf_0 (by decide) ?_
  refine V_istore_n (pc := 1) h [(2, .int (0 : Int32)), (0, .ref (a (200 + i0))), (1, .int v1)] dX11_placeOf_1 rfl (by decide) rfl ?_
  exact V_ls [1, 2, 0] rfl (m_placeOf_h2_ok h hr hlk hD i0 hi0 FU v1 (0 : Int32) S)
theorem m_placeOf_ct {d : Nat} (g : GG s0 args0 D ca a A) (hD : 5 ≤ d) {i0 : Nat} (hi0 : i0 < 7) (v1 : Int32) (S : St) (z : Int32 × St) (hz : m_placeOf i0 v1 S = some z) : CtI l yX11_placeOf cX11_placeOf 3 .int d s0 D ca tpM a A [.ref (a (200 + i0)), .int v1] S z := CtI_mk g (by decide +kernel) (Nat.le_of_ble_eq_true rfl) hz (fun p e s m args below meth c h hr hlk => m_placeOf_ok h hr hlk hD i0 hi0 v1 S)
end GEN
