section GEN
variable {p : Program} {l : Launch} {e : Env} {s : State} {m : MethodId} {args : Array Value} {below : List Frame} {meth : Method} {c : Code}
variable {D : va_G} {ca : Nat → ClassId} {tp : List ODt} {a : Nat → Nat} {A : Nat → Prop} {s0 : State} {args0 : Array Value} {t : Nat}
def m_text_h56 : Nat → Int32 → Int32 → St → Option (Int32 × St)
  | 0, _, _, _ => none
  | n + 1, v2, v3, S => (if v2 ≤ v3 then (ckM (S 0 7) 4 (bnd (up2 S 3 (S 0 7).toNatClampNeg v2) (fun S1 => (bnd (up2 S1 0 7 ((S1 0 7) + (1 : Int32))) (fun S2 => (some (((S2 0 7) - (1 : Int32)), S2))))))) else (ckM v3 160 (ckM (((160 : Int32) * (S 0 7)) + v3) 640 (bnd (up2 S 2 (((160 : Int32) * (S 0 7)) + v3).toNatClampNeg ((S 1 v3.toNatClampNeg).toInt8.toInt32)) (fun S3 => (bnd (v3 + (1 : Int32)) (fun x4 => ((m_text_h56 n) v2 x4 S3))))))))
set_option maxHeartbeats 4000000 in
set_option maxRecDepth 100000 in
theorem m_text_h56_ok {d : Nat} (h : Cx p s m c cX11_text 4 RX11 s0 args0 D ca a A) (hr : meth.sig.returnType = some .int) (hlk : meth.locks = false) (hD : 50 ≤ d) : ∀ (n : Nat) (v2 : Int32) (v3 : Int32) (S : St), VV p l e (rmd d) s m args below meth c D ca tpM a A 4 (QmI D ca tpM a A below args s) S [(0, .ref (a 0)), (2, .int v2), (3, .int v3)] 56 [] (m_text_h56 n v2 v3 S) := by
  intro n
  induction n with
  | zero => intro v2 v3 S; exact V_none
  | succ n ih =>
    intro v2 v3 S
    unfold m_text_h56
    refine V_iload_n (pc := 56) h 2 dX11_text_56 rfl rfl ?_
    refine V_iload_n (pc := 57) h 1 dX11_text_57 rfl rfl ?_
    refine V_icmp_ge (pc := 58) h 88 dX11_text_58 (by decide) ?_ ?_
    · refine V_aload_n (pc := 88) h 0 dX11_text_88 rfl rfl ?_
      refine V_get (pc := 89) h 0 3 (.ref (a 3)) fl_X11_16_X11 oM_0 rfl rfl dX11_text_89 ?_
      refine V_aload_n (pc := 92) h 0 dX11_text_92 rfl rfl ?_
      refine V_get (pc := 93) h 0 7 (.int (S 0 7)) fl_X11_284_X11 oM_0 rfl rfl dX11_text_93 ?_
      refine V_iload_n (pc := 96) h 1 dX11_text_96 rfl rfl ?_
      refine V_iast (pc := 97) h 3 oM_3 dX11_text_97 (fun S1 => ?_)
      refine V_aload_n (pc := 98) h 0 dX11_text_98 rfl rfl ?_
      refine V_dup (pc := 99) h dX11_text_99 rfl ?_
      refine V_get (pc := 100) h 0 7 (.int (S1 0 7)) fl_X11_284_X11 oM_0 rfl rfl dX11_text_100 ?_
      refine V_iconst (pc := 103) (v := 1) h dX11_text_103 (by decide) ?_
      refine V_iadd (pc := 104) h dX11_text_104 ?_
      refine V_put (pc := 105) h 0 7 ((S1 0 7) + (1 : Int32)) fp_X11_284_X11 oM_0 rfl rfl rfl rfl dX11_text_105 (fun S2 => ?_)
      refine V_aload_n (pc := 108) h 0 dX11_text_108 rfl rfl ?_
      refine V_get (pc := 109) h 0 7 (.int (S2 0 7)) fl_X11_284_X11 oM_0 rfl rfl dX11_text_109 ?_
      refine V_iconst (pc := 112) (v := 1) h dX11_text_112 (by decide) ?_
      refine V_isub (pc := 113) h dX11_text_113 ?_
      exact V_iret (pc := 114) h hr hlk dX11_text_114
    · refine V_aload_n (pc := 61) h 0 dX11_text_61 rfl rfl ?_
      refine V_get (pc := 62) h 0 2 (.ref (a 2)) fl_X11_13_X11 oM_0 rfl rfl dX11_text_62 ?_
      refine V_sipush (pc := 65) (v := 160) h dX11_text_65 (by decide) ?_
      refine V_aload_n (pc := 68) h 0 dX11_text_68 rfl rfl ?_
      refine V_get (pc := 69) h 0 7 (.int (S 0 7)) fl_X11_284_X11 oM_0 rfl rfl dX11_text_69 ?_
      refine V_imul (pc := 72) h dX11_text_72 ?_
      refine V_iload_n (pc := 73) h 2 dX11_text_73 rfl rfl ?_
      refine V_iadd (pc := 74) h dX11_text_74 ?_
      refine V_aload_n (pc := 75) h 0 dX11_text_75 rfl rfl ?_
      refine V_get (pc := 76) h 0 1 (.ref (a 1)) fl_X11_9_X11 oM_0 rfl rfl dX11_text_76 ?_
      refine V_iload_n (pc := 79) h 2 dX11_text_79 rfl rfl ?_
      refine V_bald (pc := 80) h 1 oM_1 dX11_text_80 ?_
      refine V_bast (pc := 81) h 2 oM_2 dX11_text_81 (fun S3 => ?_)
      refine V_iincB (pc := 82) h 2 (1 : Int32) (fun x4 => [(3, .int x4), (0, .ref (a 0)), (2, .int v2)]) dX11_text_82 rfl (by decide) (by decide) (fun _ => rfl) (fun x4 => ?_)
      refine V_goto (pc := 85) h 56 dX11_text_85 (by decide) ?_
      exact V_ls [1, 2, 0] rfl (ih v2 x4 S3)
def m_text_h201 : Nat → Int32 → St → Option (Int32 × St)
  | 0, _, _ => none
  | n + 1, v3, S => (if (6 : Int32) ≤ v3 then (bnd (up2 S 0 31 (-1 : Int32)) (fun S1 => (bnd (up2 S1 0 32 (0 : Int32)) (fun S2 => (bnd (up2 S2 0 46 (0 : Int32)) (fun S3 => (bnd (up2 S3 0 58 (0 : Int32)) (fun S4 => (some ((S4 0 24), S4)))))))))) else (ckM v3 6 (bnd (up2 S 11 v3.toNatClampNeg v3) (fun S5 => (ckM v3 6 (bnd (up2 S5 12 v3.toNatClampNeg (9 : Int32)) (fun S6 => (ckM v3 6 (bnd (up2 S6 13 v3.toNatClampNeg (0 : Int32)) (fun S7 => (bnd (v3 + (1 : Int32)) (fun x8 => ((m_text_h201 n) x8 S7)))))))))))))
set_option maxHeartbeats 4000000 in
set_option maxRecDepth 100000 in
theorem m_text_h201_ok {d : Nat} (h : Cx p s m c cX11_text 4 RX11 s0 args0 D ca a A) (hr : meth.sig.returnType = some .int) (hlk : meth.locks = false) (hD : 50 ≤ d) : ∀ (n : Nat) (v3 : Int32) (S : St), VV p l e (rmd d) s m args below meth c D ca tpM a A 4 (QmI D ca tpM a A below args s) S [(0, .ref (a 0)), (3, .int v3)] 201 [] (m_text_h201 n v3 S) := by
  intro n
  induction n with
  | zero => intro v3 S; exact V_none
  | succ n ih =>
    intro v3 S
    unfold m_text_h201
    refine V_iload_n (pc := 201) h 1 dX11_text_201 rfl rfl ?_
    refine V_bipush (pc := 202) (v := 6) h dX11_text_202 (by decide) ?_
    refine V_icmp_ge (pc := 204) h 235 dX11_text_204 (by decide) ?_ ?_
    · refine V_aload_n (pc := 235) h 0 dX11_text_235 rfl rfl ?_
      refine V_iconst (pc := 236) (v := -1) h dX11_text_236 (by decide) ?_
      refine V_put (pc := 237) h 0 31 (-1 : Int32) fp_X11_64_X11 oM_0 rfl rfl rfl rfl dX11_text_237 (fun S1 => ?_)
      refine V_aload_n (pc := 240) h 0 dX11_text_240 rfl rfl ?_
      refine V_iconst (pc := 241) (v := 0) h dX11_text_241 (by decide) ?_
      refine V_put (pc := 242) h 0 32 (0 : Int32) fp_X11_292_X11 oM_0 rfl rfl rfl rfl dX11_text_242 (fun S2 => ?_)
      refine V_aload_n (pc := 245) h 0 dX11_text_245 rfl rfl ?_
      refine V_iconst (pc := 246) (v := 0) h dX11_text_246 (by decide) ?_
      refine V_put (pc := 247) h 0 46 (0 : Int32) fp_X11_295_X11 oM_0 rfl rfl rfl rfl dX11_text_247 (fun S3 => ?_)
      refine V_aload_n (pc := 250) h 0 dX11_text_250 rfl rfl ?_
      refine V_iconst (pc := 251) (v := 0) h dX11_text_251 (by decide) ?_
      refine V_put (pc := 252) h 0 58 (0 : Int32) fp_X11_298_X11 oM_0 rfl rfl rfl rfl dX11_text_252 (fun S4 => ?_)
      refine V_aload_n (pc := 255) h 0 dX11_text_255 rfl rfl ?_
      refine V_get (pc := 256) h 0 24 (.int (S4 0 24)) fl_X11_289_X11 oM_0 rfl rfl dX11_text_256 ?_
      exact V_iret (pc := 259) h hr hlk dX11_text_259
    · refine V_aload_n (pc := 207) h 0 dX11_text_207 rfl rfl ?_
      refine V_get (pc := 208) h 0 28 (.ref (a 11)) fl_X11_55_X11 oM_0 rfl rfl dX11_text_208 ?_
      refine V_iload_n (pc := 211) h 1 dX11_text_211 rfl rfl ?_
      refine V_iload_n (pc := 212) h 1 dX11_text_212 rfl rfl ?_
      refine V_iast (pc := 213) h 11 oM_11 dX11_text_213 (fun S5 => ?_)
      refine V_aload_n (pc := 214) h 0 dX11_text_214 rfl rfl ?_
      refine V_get (pc := 215) h 0 29 (.ref (a 12)) fl_X11_58_X11 oM_0 rfl rfl dX11_text_215 ?_
      refine V_iload_n (pc := 218) h 1 dX11_text_218 rfl rfl ?_
      refine V_bipush (pc := 219) (v := 9) h dX11_text_219 (by decide) ?_
      refine V_iast (pc := 221) h 12 oM_12 dX11_text_221 (fun S6 => ?_)
      refine V_aload_n (pc := 222) h 0 dX11_text_222 rfl rfl ?_
      refine V_get (pc := 223) h 0 30 (.ref (a 13)) fl_X11_61_X11 oM_0 rfl rfl dX11_text_223 ?_
      refine V_iload_n (pc := 226) h 1 dX11_text_226 rfl rfl ?_
      refine V_iconst (pc := 227) (v := 0) h dX11_text_227 (by decide) ?_
      refine V_iast (pc := 228) h 13 oM_13 dX11_text_228 (fun S7 => ?_)
      refine V_iincB (pc := 229) h 1 (1 : Int32) (fun x8 => [(3, .int x8), (0, .ref (a 0))]) dX11_text_229 rfl (by decide) (by decide) (fun _ => rfl) (fun x8 => ?_)
      refine V_goto (pc := 232) h 201 dX11_text_232 (by decide) ?_
      exact V_ls [1, 0] rfl (ih x8 S7)
def m_text_h176 : Nat → Int32 → St → Option (Int32 × St)
  | 0, _, _ => none
  | n + 1, v3, S => (if (3 : Int32) ≤ v3 then (m_text_h201 FU (0 : Int32) S) else (ckM v3 3 (ckM v3 3 (bnd (up2 S 9 v3.toNatClampNeg (S 10 v3.toNatClampNeg)) (fun S1 => (bnd (v3 + (1 : Int32)) (fun x2 => ((m_text_h176 n) x2 S1))))))))
set_option maxHeartbeats 4000000 in
set_option maxRecDepth 100000 in
theorem m_text_h176_ok {d : Nat} (h : Cx p s m c cX11_text 4 RX11 s0 args0 D ca a A) (hr : meth.sig.returnType = some .int) (hlk : meth.locks = false) (hD : 50 ≤ d) : ∀ (n : Nat) (v3 : Int32) (S : St), VV p l e (rmd d) s m args below meth c D ca tpM a A 4 (QmI D ca tpM a A below args s) S [(0, .ref (a 0)), (3, .int v3)] 176 [] (m_text_h176 n v3 S) := by
  intro n
  induction n with
  | zero => intro v3 S; exact V_none
  | succ n ih =>
    intro v3 S
    unfold m_text_h176
    refine V_iload_n (pc := 176) h 1 dX11_text_176 rfl rfl ?_
    refine V_iconst (pc := 177) (v := 3) h dX11_text_177 (by decide) ?_
    refine V_icmp_ge (pc := 178) h 199 dX11_text_178 (by decide) ?_ ?_
    · refine V_iconst (pc := 199) (v := 0) h dX11_text_199 (by decide) ?_
      refine V_istore_n (pc := 200) h [(3, .int (0 : Int32)), (0, .ref (a 0))] dX11_text_200 rfl (by decide) rfl ?_
      exact V_ls [1, 0] rfl (m_text_h201_ok h hr hlk hD FU (0 : Int32) S)
    · refine V_aload_n (pc := 181) h 0 dX11_text_181 rfl rfl ?_
      refine V_get (pc := 182) h 0 22 (.ref (a 9)) fl_X11_49_X11 oM_0 rfl rfl dX11_text_182 ?_
      refine V_iload_n (pc := 185) h 1 dX11_text_185 rfl rfl ?_
      refine V_aload_n (pc := 186) h 0 dX11_text_186 rfl rfl ?_
      refine V_get (pc := 187) h 0 23 (.ref (a 10)) fl_X11_52_X11 oM_0 rfl rfl dX11_text_187 ?_
      refine V_iload_n (pc := 190) h 1 dX11_text_190 rfl rfl ?_
      refine V_iald (pc := 191) h 10 oM_10 dX11_text_191 ?_
      refine V_iast (pc := 192) h 9 oM_9 dX11_text_192 (fun S1 => ?_)
      refine V_iincB (pc := 193) h 1 (1 : Int32) (fun x2 => [(3, .int x2), (0, .ref (a 0))]) dX11_text_193 rfl (by decide) (by decide) (fun _ => rfl) (fun x2 => ?_)
      refine V_goto (pc := 196) h 176 dX11_text_196 (by decide) ?_
      exact V_ls [1, 0] rfl (ih x2 S1)
def m_text_h150 : Nat → Int32 → St → Option (Int32 × St)
  | 0, _, _ => none
  | n + 1, v3, S => (if (48 : Int32) ≤ v3 then (m_text_h176 FU (0 : Int32) S) else (ckM v3 48 (ckM v3 48 (bnd (up2 S 7 v3.toNatClampNeg (S 8 v3.toNatClampNeg)) (fun S1 => (bnd (v3 + (1 : Int32)) (fun x2 => ((m_text_h150 n) x2 S1))))))))
set_option maxHeartbeats 4000000 in
set_option maxRecDepth 100000 in
theorem m_text_h150_ok {d : Nat} (h : Cx p s m c cX11_text 4 RX11 s0 args0 D ca a A) (hr : meth.sig.returnType = some .int) (hlk : meth.locks = false) (hD : 50 ≤ d) : ∀ (n : Nat) (v3 : Int32) (S : St), VV p l e (rmd d) s m args below meth c D ca tpM a A 4 (QmI D ca tpM a A below args s) S [(0, .ref (a 0)), (3, .int v3)] 150 [] (m_text_h150 n v3 S) := by
  intro n
  induction n with
  | zero => intro v3 S; exact V_none
  | succ n ih =>
    intro v3 S
    unfold m_text_h150
    refine V_iload_n (pc := 150) h 1 dX11_text_150 rfl rfl ?_
    refine V_bipush (pc := 151) (v := 48) h dX11_text_151 (by decide) ?_
    refine V_icmp_ge (pc := 153) h 174 dX11_text_153 (by decide) ?_ ?_
    · refine V_iconst (pc := 174) (v := 0) h dX11_text_174 (by decide) ?_
      refine V_istore_n (pc := 175) h [(3, .int (0 : Int32)), (0, .ref (a 0))] dX11_text_175 rfl (by decide) rfl ?_
      exact V_ls [1, 0] rfl (m_text_h176_ok h hr hlk hD FU (0 : Int32) S)
    · refine V_aload_n (pc := 156) h 0 dX11_text_156 rfl rfl ?_
      refine V_get (pc := 157) h 0 20 (.ref (a 7)) fl_X11_43_X11 oM_0 rfl rfl dX11_text_157 ?_
      refine V_iload_n (pc := 160) h 1 dX11_text_160 rfl rfl ?_
      refine V_aload_n (pc := 161) h 0 dX11_text_161 rfl rfl ?_
      refine V_get (pc := 162) h 0 21 (.ref (a 8)) fl_X11_46_X11 oM_0 rfl rfl dX11_text_162 ?_
      refine V_iload_n (pc := 165) h 1 dX11_text_165 rfl rfl ?_
      refine V_iald (pc := 166) h 8 oM_8 dX11_text_166 ?_
      refine V_iast (pc := 167) h 7 oM_7 dX11_text_167 (fun S1 => ?_)
      refine V_iincB (pc := 168) h 1 (1 : Int32) (fun x2 => [(3, .int x2), (0, .ref (a 0))]) dX11_text_168 rfl (by decide) (by decide) (fun _ => rfl) (fun x2 => ?_)
      refine V_goto (pc := 171) h 150 dX11_text_171 (by decide) ?_
      exact V_ls [1, 0] rfl (ih x2 S1)
def m_text_h125 : Nat → Int32 → St → Option (Int32 × St)
  | 0, _, _ => none
  | n + 1, v3, S => (if (5 : Int32) ≤ v3 then (m_text_h150 FU (0 : Int32) S) else (ckM v3 5 (ckM v3 5 (bnd (up2 S 5 v3.toNatClampNeg (S 6 v3.toNatClampNeg)) (fun S1 => (bnd (v3 + (1 : Int32)) (fun x2 => ((m_text_h125 n) x2 S1))))))))
set_option maxHeartbeats 4000000 in
set_option maxRecDepth 100000 in
theorem m_text_h125_ok {d : Nat} (h : Cx p s m c cX11_text 4 RX11 s0 args0 D ca a A) (hr : meth.sig.returnType = some .int) (hlk : meth.locks = false) (hD : 50 ≤ d) : ∀ (n : Nat) (v3 : Int32) (S : St), VV p l e (rmd d) s m args below meth c D ca tpM a A 4 (QmI D ca tpM a A below args s) S [(0, .ref (a 0)), (3, .int v3)] 125 [] (m_text_h125 n v3 S) := by
  intro n
  induction n with
  | zero => intro v3 S; exact V_none
  | succ n ih =>
    intro v3 S
    unfold m_text_h125
    refine V_iload_n (pc := 125) h 1 dX11_text_125 rfl rfl ?_
    refine V_iconst (pc := 126) (v := 5) h dX11_text_126 (by decide) ?_
    refine V_icmp_ge (pc := 127) h 148 dX11_text_127 (by decide) ?_ ?_
    · refine V_iconst (pc := 148) (v := 0) h dX11_text_148 (by decide) ?_
      refine V_istore_n (pc := 149) h [(3, .int (0 : Int32)), (0, .ref (a 0))] dX11_text_149 rfl (by decide) rfl ?_
      exact V_ls [1, 0] rfl (m_text_h150_ok h hr hlk hD FU (0 : Int32) S)
    · refine V_aload_n (pc := 130) h 0 dX11_text_130 rfl rfl ?_
      refine V_get (pc := 131) h 0 18 (.ref (a 5)) fl_X11_37_X11 oM_0 rfl rfl dX11_text_131 ?_
      refine V_iload_n (pc := 134) h 1 dX11_text_134 rfl rfl ?_
      refine V_aload_n (pc := 135) h 0 dX11_text_135 rfl rfl ?_
      refine V_get (pc := 136) h 0 19 (.ref (a 6)) fl_X11_40_X11 oM_0 rfl rfl dX11_text_136 ?_
      refine V_iload_n (pc := 139) h 1 dX11_text_139 rfl rfl ?_
      refine V_iald (pc := 140) h 6 oM_6 dX11_text_140 ?_
      refine V_iast (pc := 141) h 5 oM_5 dX11_text_141 (fun S1 => ?_)
      refine V_iincB (pc := 142) h 1 (1 : Int32) (fun x2 => [(3, .int x2), (0, .ref (a 0))]) dX11_text_142 rfl (by decide) (by decide) (fun _ => rfl) (fun x2 => ?_)
      refine V_goto (pc := 145) h 125 dX11_text_145 (by decide) ?_
      exact V_ls [1, 0] rfl (ih x2 S1)
def m_text_b28 (v1 : Int32) (S : St) : Option (Int32 × St) := (bI (m_fault v1 S) (fun x2 S1 => (if x2 = (-1 : Int32) then (bnd (S1 0 6) (fun x3 => (bnd (up2 S1 0 6 (0 : Int32)) (fun S4 => (if v1 = (1 : Int32) then (m_text_h56 FU x3 (0 : Int32) S4) else (bnd (up2 S4 0 24 (S4 0 25)) (fun S5 => (m_text_h125 FU (0 : Int32) S5)))))))) else (some ((-1 : Int32), S1)))))
set_option maxHeartbeats 4000000 in
set_option maxRecDepth 100000 in
theorem m_text_b28_ok {d : Nat} (h : Cx p s m c cX11_text 4 RX11 s0 args0 D ca a A) (hr : meth.sig.returnType = some .int) (hlk : meth.locks = false) (hD : 50 ≤ d) (v1 : Int32) (S : St) : VV p l e (rmd d) s m args below meth c D ca tpM a A 4 (QmI D ca tpM a A below args s) S [(0, .ref (a 0)), (1, .int v1)] 28 [] (m_text_b28 v1 S) := by
  unfold m_text_b28
  refine V_aload_n (pc := 28) h 0 dX11_text_28 rfl rfl ?_
  refine V_iload_n (pc := 29) h 1 dX11_text_29 rfl rfl ?_
  refine V_callVI (pc := 30) (dy := 49) (q := (RX11, TX11, 59)) h [.int v1] [] 0 mv_X11_287 oM_0 rfl dX11_text_30 rfl rfl (Nat.le_of_ble_eq_true rfl) (Nat.le_trans (by decide) hD) (m_fault v1 S) (fun z9 hz9 => m_fault_ct h.gg (Nat.le_refl 49) v1 S z9 hz9) (fun x2 S1 => ?_)
  refine V_iconst (pc := 33) (v := -1) h dX11_text_33 (by decide) ?_
  refine V_icmp_eq (pc := 34) h 39 dX11_text_34 (by decide) ?_ ?_
  · refine V_aload_n (pc := 39) h 0 dX11_text_39 rfl rfl ?_
    refine V_get (pc := 40) h 0 6 (.int (S1 0 6)) fl_X11_132_X11 oM_0 rfl rfl dX11_text_40 ?_
    refine V_top (fun x3 => ?_)
    refine V_istore_n (pc := 43) h [(2, .int x3), (0, .ref (a 0)), (1, .int v1)] dX11_text_43 rfl (by decide) rfl ?_
    refine V_aload_n (pc := 44) h 1 dX11_text_44 rfl rfl ?_
    refine V_iconst (pc := 45) (v := 0) h dX11_text_45 (by decide) ?_
    refine V_put (pc := 46) h 0 6 (0 : Int32) fp_X11_132_X11 oM_0 rfl rfl rfl rfl dX11_text_46 (fun S4 => ?_)
    refine V_iload_n (pc := 49) h 2 dX11_text_49 rfl rfl ?_
    refine V_iconst (pc := 50) (v := 1) h dX11_text_50 (by decide) ?_
    refine V_icmp_ne (pc := 51) h 115 dX11_text_51 (by decide) ?_ ?_
    · refine V_aload_n (pc := 115) h 1 dX11_text_115 rfl rfl ?_
      refine V_aload_n (pc := 116) h 1 dX11_text_116 rfl rfl ?_
      refine V_get (pc := 117) h 0 25 (.int (S4 0 25)) fl_X11_244_X11 oM_0 rfl rfl dX11_text_117 ?_
      refine V_put (pc := 120) h 0 24 (S4 0 25) fp_X11_289_X11 oM_0 rfl rfl rfl rfl dX11_text_120 (fun S5 => ?_)
      refine V_iconst (pc := 123) (v := 0) h dX11_text_123 (by decide) ?_
      refine V_istore_n (pc := 124) h [(3, .int (0 : Int32)), (2, .int x3), (0, .ref (a 0)), (1, .int v1)] dX11_text_124 rfl (by decide) rfl ?_
      exact V_ls [2, 0] rfl (m_text_h125_ok h hr hlk hD FU (0 : Int32) S5)
    · refine V_iconst (pc := 54) (v := 0) h dX11_text_54 (by decide) ?_
      refine V_istore_n (pc := 55) h [(3, .int (0 : Int32)), (2, .int x3), (0, .ref (a 0)), (1, .int v1)] dX11_text_55 rfl (by decide) rfl ?_
      exact V_ls [2, 1, 0] rfl (m_text_h56_ok h hr hlk hD FU x3 (0 : Int32) S4)
  · refine V_iconst (pc := 37) (v := -1) h dX11_text_37 (by decide) ?_
    exact V_iret (pc := 38) h hr hlk dX11_text_38
def m_text (v1 : Int32) (S : St) : Option (Int32 × St) := (bnd (up2 S 0 0 (0 : Int32)) (fun S1 => (bI (m_isIn (v1.toInt64) (0 : Int64) (1 : Int64) S1) (fun x3 S2 => (if x3 = 0 then (some ((-1 : Int32), S2)) else (if v1 = (1 : Int32) then (if (S2 0 7) = (4 : Int32) then (some ((-1 : Int32), S2)) else (m_text_b28 v1 S2)) else (m_text_b28 v1 S2)))))))
set_option maxHeartbeats 4000000 in
set_option maxRecDepth 100000 in
theorem m_text_ok {d : Nat} (h : Cx p s m c cX11_text 4 RX11 s0 args0 D ca a A) (hr : meth.sig.returnType = some .int) (hlk : meth.locks = false) (hD : 50 ≤ d) (v1 : Int32) (S : St) : VV p l e (rmd d) s m args below meth c D ca tpM a A 4 (QmI D ca tpM a A below args s) S [(0, .ref (a 0)), (1, .int v1)] 0 [] (m_text v1 S) := by
  unfold m_text
  refine V_aload_n (pc := 0) h 0 dX11_text_0 rfl rfl ?_
  refine V_iconst (pc := 1) (v := 0) h dX11_text_1 (by decide) ?_
  refine V_put (pc := 2) h 0 0 (0 : Int32) fp_X11_119_X11 oM_0 rfl rfl rfl rfl dX11_text_2 (fun S1 => ?_)
  refine V_iload_n (pc := 5) h 1 dX11_text_5 rfl rfl ?_
  refine V_i2l (pc := 6) h dX11_text_6 ?_
  refine V_lconst (pc := 7) (v := 0) h dX11_text_7 (by decide) ?_
  refine V_lconst (pc := 8) (v := 1) h dX11_text_8 (by decide) ?_
  refine V_callSI (pc := 9) (dy := 1) h [.long (v1.toInt64), .long (0 : Int64), .long (1 : Int64)] [] ms_X11_240 dX11_text_9 rfl rfl (Nat.le_of_ble_eq_true rfl) (Nat.le_trans (by decide) hD) (m_isIn (v1.toInt64) (0 : Int64) (1 : Int64) S1) (fun z9 hz9 => m_isIn_ct h.gg (Nat.le_refl 1) (v1.toInt64) (0 : Int64) (1 : Int64) S1 z9 hz9) (fun x3 S2 => ?_)
  refine V_if_eq (pc := 12) h 37 dX11_text_12 (by decide) ?_ ?_
  · refine V_iconst (pc := 37) (v := -1) h dX11_text_37 (by decide) ?_
    exact V_iret (pc := 38) h hr hlk dX11_text_38
  · refine V_iload_n (pc := 15) h 1 dX11_text_15 rfl rfl ?_
    refine V_iconst (pc := 16) (v := 1) h dX11_text_16 (by decide) ?_
    refine V_icmp_ne (pc := 17) h 28 dX11_text_17 (by decide) ?_ ?_
    · exact V_ls [0, 1] rfl (m_text_b28_ok h hr hlk hD v1 S2)
    · refine V_aload_n (pc := 20) h 0 dX11_text_20 rfl rfl ?_
      refine V_get (pc := 21) h 0 7 (.int (S2 0 7)) fl_X11_284_X11 oM_0 rfl rfl dX11_text_21 ?_
      refine V_iconst (pc := 24) (v := 4) h dX11_text_24 (by decide) ?_
      refine V_icmp_eq (pc := 25) h 37 dX11_text_25 (by decide) ?_ ?_
      · refine V_iconst (pc := 37) (v := -1) h dX11_text_37 (by decide) ?_
        exact V_iret (pc := 38) h hr hlk dX11_text_38
      · exact V_ls [0, 1] rfl (m_text_b28_ok h hr hlk hD v1 S2)
theorem m_text_ct {d : Nat} (g : GG s0 args0 D ca a A) (hD : 50 ≤ d) (v1 : Int32) (S : St) (z : Int32 × St) (hz : m_text v1 S = some z) : CtI l yX11_text cX11_text 4 .int d s0 D ca tpM a A [.ref (a 0), .int v1] S z := CtI_mk g (by decide +kernel) (Nat.le_of_ble_eq_true rfl) hz (fun p e s m args below meth c h hr hlk => m_text_ok h hr hlk hD v1 S)
def m_isHouse (v1 : Int32) (S : St) : Option (Int32 × St) := (if v1 < 0 then (nzM (0 : Int32) (some ((0 : Int32), S))) else (if (S 0 24) ≤ v1 then (nzM (0 : Int32) (some ((0 : Int32), S))) else (nzM (1 : Int32) (some ((1 : Int32), S)))))
set_option maxHeartbeats 4000000 in
set_option maxRecDepth 100000 in
theorem m_isHouse_ok {d : Nat} (h : Cx p s m c cX11_isHouse 2 RX11 s0 args0 D ca a A) (hr : meth.sig.returnType = some .boolean) (hlk : meth.locks = false) (hD : 1 ≤ d) (v1 : Int32) (S : St) : VV p l e (rmd d) s m args below meth c D ca tpM a A 2 (QmI D ca tpM a A below args s) S [(0, .ref (a 0)), (1, .int v1)] 0 [] (m_isHouse v1 S) := by
  unfold m_isHouse
  refine V_iload_n (pc := 0) h 1 dX11_isHouse_0 rfl rfl ?_
  refine V_if_lt (pc := 1) h 16 dX11_isHouse_1 (by decide) ?_ ?_
  · refine V_iconst (pc := 16) (v := 0) h dX11_isHouse_16 (by decide) ?_
    exact V_zret (pc := 17) h hr hlk dX11_isHouse_17
  · refine V_iload_n (pc := 4) h 1 dX11_isHouse_4 rfl rfl ?_
    refine V_aload_n (pc := 5) h 0 dX11_isHouse_5 rfl rfl ?_
    refine V_get (pc := 6) h 0 24 (.int (S 0 24)) fl_X11_289_X11 oM_0 rfl rfl dX11_isHouse_6 ?_
    refine V_icmp_ge (pc := 9) h 16 dX11_isHouse_9 (by decide) ?_ ?_
    · refine V_iconst (pc := 16) (v := 0) h dX11_isHouse_16 (by decide) ?_
      exact V_zret (pc := 17) h hr hlk dX11_isHouse_17
    · refine V_iconst (pc := 12) (v := 1) h dX11_isHouse_12 (by decide) ?_
      refine V_goto (pc := 13) h 17 dX11_isHouse_13 (by decide) ?_
      exact V_zret (pc := 17) h hr hlk dX11_isHouse_17
theorem m_isHouse_ct {d : Nat} (g : GG s0 args0 D ca a A) (hD : 1 ≤ d) (v1 : Int32) (S : St) (z : Int32 × St) (hz : m_isHouse v1 S = some z) : CtI l yX11_isHouse cX11_isHouse 2 .boolean d s0 D ca tpM a A [.ref (a 0), .int v1] S z := CtI_mk g (by decide +kernel) (Nat.le_of_ble_eq_true rfl) hz (fun p e s m args below meth c h hr hlk => m_isHouse_ok h hr hlk hD v1 S)
def m_isStuff (v0 : Int32) (S : St) : Option (Int32 × St) := (if v0 < 0 then (nzM (0 : Int32) (some ((0 : Int32), S))) else (if (5 : Int32) ≤ v0 then (nzM (0 : Int32) (some ((0 : Int32), S))) else (nzM (1 : Int32) (some ((1 : Int32), S)))))
set_option maxHeartbeats 4000000 in
set_option maxRecDepth 100000 in
theorem m_isStuff_ok {d : Nat} (h : Cx p s m c cX11_isStuff 1 RX11 s0 args0 D ca a A) (hr : meth.sig.returnType = some .boolean) (hlk : meth.locks = false) (hD : 1 ≤ d) (v0 : Int32) (S : St) : VV p l e (rmd d) s m args below meth c D ca tpM a A 1 (QmI D ca tpM a A below args s) S [(0, .int v0)] 0 [] (m_isStuff v0 S) := by
  unfold m_isStuff
  refine V_iload_n (pc := 0) h 0 dX11_isStuff_0 rfl rfl ?_
  refine V_if_lt (pc := 1) h 13 dX11_isStuff_1 (by decide) ?_ ?_
  · refine V_iconst (pc := 13) (v := 0) h dX11_isStuff_13 (by decide) ?_
    exact V_zret (pc := 14) h hr hlk dX11_isStuff_14
  · refine V_iload_n (pc := 4) h 0 dX11_isStuff_4 rfl rfl ?_
    refine V_iconst (pc := 5) (v := 5) h dX11_isStuff_5 (by decide) ?_
    refine V_icmp_ge (pc := 6) h 13 dX11_isStuff_6 (by decide) ?_ ?_
    · refine V_iconst (pc := 13) (v := 0) h dX11_isStuff_13 (by decide) ?_
      exact V_zret (pc := 14) h hr hlk dX11_isStuff_14
    · refine V_iconst (pc := 9) (v := 1) h dX11_isStuff_9 (by decide) ?_
      refine V_goto (pc := 10) h 14 dX11_isStuff_10 (by decide) ?_
      exact V_zret (pc := 14) h hr hlk dX11_isStuff_14
theorem m_isStuff_ct {d : Nat} (g : GG s0 args0 D ca a A) (hD : 1 ≤ d) (v0 : Int32) (S : St) (z : Int32 × St) (hz : m_isStuff v0 S = some z) : CtI l yX11_isStuff cX11_isStuff 1 .boolean d s0 D ca tpM a A [.int v0] S z := CtI_mk g (by decide +kernel) (Nat.le_of_ble_eq_true rfl) hz (fun p e s m args below meth c h hr hlk => m_isStuff_ok h hr hlk hD v0 S)
def m_house_b26 (v1 : Int32) (v2 : Int32) (k0 : Int32) (S : St) : Option (Int32 × St) := (bnd (up2 S 0 0 k0) (fun S1 => (if (S1 0 0) ≤ 0 then (if (8 : Int32) ≤ v2 then (if v2 = (8 : Int32) then (ckM v1 6 (some ((S1 12 v1.toNatClampNeg), S1))) else (bI (m_placeIn v1 S1) (fun x3 S2 => (some (x3, S2))))) else (ckM (((8 : Int32) * v1) + v2) 48 (some ((S1 7 (((8 : Int32) * v1) + v2).toNatClampNeg), S1)))) else (some ((0 : Int32), S1)))))
set_option maxHeartbeats 4000000 in
set_option maxRecDepth 100000 in
theorem m_house_b26_ok {d : Nat} (h : Cx p s m c cX11_house 3 RX11 s0 args0 D ca a A) (hr : meth.sig.returnType = some .int) (hlk : meth.locks = false) (hD : 2 ≤ d) (v1 : Int32) (v2 : Int32) (k0 : Int32) (S : St) : VV p l e (rmd d) s m args below meth c D ca tpM a A 3 (QmI D ca tpM a A below args s) S [(0, .ref (a 0)), (1, .int v1), (2, .int v2)] 26 [.int k0, .ref (a 0)] (m_house_b26 v1 v2 k0 S) := by
  unfold m_house_b26
  refine V_put (pc := 26) h 0 0 k0 fp_X11_119_X11 oM_0 rfl rfl rfl rfl dX11_house_26 (fun S1 => ?_)
  refine V_aload_n (pc := 29) h 0 dX11_house_29 rfl rfl ?_
  refine V_get (pc := 30) h 0 0 (.int (S1 0 0)) fl_X11_119_X11 oM_0 rfl rfl dX11_house_30 ?_
  refine V_if_le (pc := 33) h 38 dX11_house_33 (by decide) ?_ ?_
  · refine V_iload_n (pc := 38) h 2 dX11_house_38 rfl rfl ?_
    refine V_bipush (pc := 39) (v := 8) h dX11_house_39 (by decide) ?_
    refine V_icmp_ge (pc := 41) h 58 dX11_house_41 (by decide) ?_ ?_
    · refine V_iload_n (pc := 58) h 2 dX11_house_58 rfl rfl ?_
      refine V_bipush (pc := 59) (v := 8) h dX11_house_59 (by decide) ?_
      refine V_icmp_ne (pc := 61) h 73 dX11_house_61 (by decide) ?_ ?_
      · refine V_aload_n (pc := 73) h 0 dX11_house_73 rfl rfl ?_
        refine V_iload_n (pc := 74) h 1 dX11_house_74 rfl rfl ?_
        refine V_callVI (pc := 75) (dy := 1) (q := (RX11, TX11, 59)) h [.int v1] [] 0 mv_X11_306 oM_0 rfl dX11_house_75 rfl rfl (Nat.le_of_ble_eq_true rfl) (Nat.le_trans (by decide) hD) (m_placeIn v1 S1) (fun z9 hz9 => m_placeIn_ct h.gg (Nat.le_refl 1) v1 S1 z9 hz9) (fun x3 S2 => ?_)
        exact V_iret (pc := 78) h hr hlk dX11_house_78
      · refine V_aload_n (pc := 64) h 0 dX11_house_64 rfl rfl ?_
        refine V_get (pc := 65) h 0 29 (.ref (a 12)) fl_X11_58_X11 oM_0 rfl rfl dX11_house_65 ?_
        refine V_iload_n (pc := 68) h 1 dX11_house_68 rfl rfl ?_
        refine V_iald (pc := 69) h 12 oM_12 dX11_house_69 ?_
        refine V_goto (pc := 70) h 78 dX11_house_70 (by decide) ?_
        exact V_iret (pc := 78) h hr hlk dX11_house_78
    · refine V_aload_n (pc := 44) h 0 dX11_house_44 rfl rfl ?_
      refine V_get (pc := 45) h 0 20 (.ref (a 7)) fl_X11_43_X11 oM_0 rfl rfl dX11_house_45 ?_
      refine V_bipush (pc := 48) (v := 8) h dX11_house_48 (by decide) ?_
      refine V_iload_n (pc := 50) h 1 dX11_house_50 rfl rfl ?_
      refine V_imul (pc := 51) h dX11_house_51 ?_
      refine V_iload_n (pc := 52) h 2 dX11_house_52 rfl rfl ?_
      refine V_iadd (pc := 53) h dX11_house_53 ?_
      refine V_iald (pc := 54) h 7 oM_7 dX11_house_54 ?_
      refine V_goto (pc := 55) h 78 dX11_house_55 (by decide) ?_
      exact V_iret (pc := 78) h hr hlk dX11_house_78
  · refine V_iconst (pc := 36) (v := 0) h dX11_house_36 (by decide) ?_
    exact V_iret (pc := 37) h hr hlk dX11_house_37
def m_house_b25 (v1 : Int32) (v2 : Int32) (S : St) : Option (Int32 × St) := (m_house_b26 v1 v2 (1 : Int32) S)
set_option maxHeartbeats 4000000 in
set_option maxRecDepth 100000 in
theorem m_house_b25_ok {d : Nat} (h : Cx p s m c cX11_house 3 RX11 s0 args0 D ca a A) (hr : meth.sig.returnType = some .int) (hlk : meth.locks = false) (hD : 2 ≤ d) (v1 : Int32) (v2 : Int32) (S : St) : VV p l e (rmd d) s m args below meth c D ca tpM a A 3 (QmI D ca tpM a A below args s) S [(0, .ref (a 0)), (1, .int v1), (2, .int v2)] 25 [.ref (a 0)] (m_house_b25 v1 v2 S) := by
  unfold m_house_b25
  refine V_iconst (pc := 25) (v := 1) h dX11_house_25 (by decide) ?_
  exact V_ls [0, 1, 2] rfl (m_house_b26_ok h hr hlk hD v1 v2 (1 : Int32) S)
def m_house (v1 : Int32) (v2 : Int32) (S : St) : Option (Int32 × St) := (bI (m_isHouse v1 S) (fun x2 S1 => (if x2 = 0 then (m_house_b25 v1 v2 S1) else (bI (m_isIn (v2.toInt64) (0 : Int64) (9 : Int64) S1) (fun x4 S3 => (if x4 = 0 then (m_house_b25 v1 v2 S3) else (m_house_b26 v1 v2 (0 : Int32) S3)))))))
set_option maxHeartbeats 4000000 in
set_option maxRecDepth 100000 in
theorem m_house_ok {d : Nat} (h : Cx p s m c cX11_house 3 RX11 s0 args0 D ca a A) (hr : meth.sig.returnType = some .int) (hlk : meth.locks = false) (hD : 2 ≤ d) (v1 : Int32) (v2 : Int32) (S : St) : VV p l e (rmd d) s m args below meth c D ca tpM a A 3 (QmI D ca tpM a A below args s) S [(0, .ref (a 0)), (1, .int v1), (2, .int v2)] 0 [] (m_house v1 v2 S) := by
  unfold m_house
  refine V_aload_n (pc := 0) h 0 dX11_house_0 rfl rfl ?_
  refine V_aload_n (pc := 1) h 0 dX11_house_1 rfl rfl ?_
  refine V_iload_n (pc := 2) h 1 dX11_house_2 rfl rfl ?_
  refine V_callVI (pc := 3) (dy := 1) (q := (RX11, TX11, 59)) h [.int v1] [.ref (a 0)] 0 mv_X11_301 oM_0 rfl dX11_house_3 rfl rfl (Nat.le_of_ble_eq_true rfl) (Nat.le_trans (by decide) hD) (m_isHouse v1 S) (fun z9 hz9 => m_isHouse_ct h.gg (Nat.le_refl 1) v1 S z9 hz9) (fun x2 S1 => ?_)
  refine V_if_eq (pc := 6) h 25 dX11_house_6 (by decide) ?_ ?_
  · exact V_ls [0, 1, 2] rfl (m_house_b25_ok h hr hlk hD v1 v2 S1)
  · refine V_iload_n (pc := 9) h 2 dX11_house_9 rfl rfl ?_
    refine V_i2l (pc := 10) h dX11_house_10 ?_
    refine V_lconst (pc := 11) (v := 0) h dX11_house_11 (by decide) ?_
    refine V_ldc2 (pc := 12) (v := 9) h dX11_house_12 tw_6_223 ?_
    refine V_callSI (pc := 15) (dy := 1) h [.long (v2.toInt64), .long (0 : Int64), .long (9 : Int64)] [.ref (a 0)] ms_X11_240 dX11_house_15 rfl rfl (Nat.le_of_ble_eq_true rfl) (Nat.le_trans (by decide) hD) (m_isIn (v2.toInt64) (0 : Int64) (9 : Int64) S1) (fun z9 hz9 => m_isIn_ct h.gg (Nat.le_refl 1) (v2.toInt64) (0 : Int64) (9 : Int64) S1 z9 hz9) (fun x4 S3 => ?_)
    refine V_if_eq (pc := 18) h 25 dX11_house_18 (by decide) ?_ ?_
    · exact V_ls [0, 1, 2] rfl (m_house_b25_ok h hr hlk hD v1 v2 S3)
    · refine V_iconst (pc := 21) (v := 0) h dX11_house_21 (by decide) ?_
      refine V_goto (pc := 22) h 26 dX11_house_22 (by decide) ?_
      exact V_ls [0, 1, 2] rfl (m_house_b26_ok h hr hlk hD v1 v2 (0 : Int32) S3)
theorem m_house_ct {d : Nat} (g : GG s0 args0 D ca a A) (hD : 2 ≤ d) (v1 : Int32) (v2 : Int32) (S : St) (z : Int32 × St) (hz : m_house v1 v2 S = some z) : CtI l yX11_house cX11_house 3 .int d s0 D ca tpM a A [.ref (a 0), .int v1, .int v2] S z := CtI_mk g (by decide +kernel) (Nat.le_of_ble_eq_true rfl) hz (fun p e s m args below meth c h hr hlk => m_house_ok h hr hlk hD v1 v2 S)
def m_liking (v1 : Int32) (S : St) : Option (Int32 × St) := (bnd (up2 S 0 0 (0 : Int32)) (fun S1 => (if (S1 0 24) = 0 then (nzM (0 : Int32) (some ((0 : Int32), S1))) else (if v1 = (-1 : Int32) then (bnd (up2 S1 0 31 v1) (fun S2 => (nzM (1 : Int32) (some ((1 : Int32), S2))))) else (bI (m_isIn (v1.toInt64) (0 : Int64) (((S1 0 7) - (1 : Int32)).toInt64) S1) (fun x4 S3 => (if x4 = 0 then (nzM (0 : Int32) (some ((0 : Int32), S3))) else (bnd (up2 S3 0 31 v1) (fun S5 => (nzM (1 : Int32) (some ((1 : Int32), S5))))))))))))
set_option maxHeartbeats 4000000 in
set_option maxRecDepth 100000 in
theorem m_liking_ok {d : Nat} (h : Cx p s m c cX11_liking 2 RX11 s0 args0 D ca a A) (hr : meth.sig.returnType = some .boolean) (hlk : meth.locks = false) (hD : 2 ≤ d) (v1 : Int32) (S : St) : VV p l e (rmd d) s m args below meth c D ca tpM a A 2 (QmI D ca tpM a A below args s) S [(0, .ref (a 0)), (1, .int v1)] 0 [] (m_liking v1 S) := by
  unfold m_liking
  refine V_aload_n (pc := 0) h 0 dX11_liking_0 rfl rfl ?_
  refine V_iconst (pc := 1) (v := 0) h dX11_liking_1 (by decide) ?_
  refine V_put (pc := 2) h 0 0 (0 : Int32) fp_X11_119_X11 oM_0 rfl rfl rfl rfl dX11_liking_2 (fun S1 => ?_)
  refine V_aload_n (pc := 5) h 0 dX11_liking_5 rfl rfl ?_
  refine V_get (pc := 6) h 0 24 (.int (S1 0 24)) fl_X11_289_X11 oM_0 rfl rfl dX11_liking_6 ?_
  refine V_if_eq (pc := 9) h 33 dX11_liking_9 (by decide) ?_ ?_
  · refine V_iconst (pc := 33) (v := 0) h dX11_liking_33 (by decide) ?_
    exact V_zret (pc := 34) h hr hlk dX11_liking_34
  · refine V_iload_n (pc := 12) h 1 dX11_liking_12 rfl rfl ?_
    refine V_iconst (pc := 13) (v := -1) h dX11_liking_13 (by decide) ?_
    refine V_icmp_eq (pc := 14) h 35 dX11_liking_14 (by decide) ?_ ?_
    · refine V_aload_n (pc := 35) h 0 dX11_liking_35 rfl rfl ?_
      refine V_iload_n (pc := 36) h 1 dX11_liking_36 rfl rfl ?_
      refine V_put (pc := 37) h 0 31 v1 fp_X11_64_X11 oM_0 rfl rfl rfl rfl dX11_liking_37 (fun S2 => ?_)
      refine V_iconst (pc := 40) (v := 1) h dX11_liking_40 (by decide) ?_
      exact V_zret (pc := 41) h hr hlk dX11_liking_41
    · refine V_iload_n (pc := 17) h 1 dX11_liking_17 rfl rfl ?_
      refine V_i2l (pc := 18) h dX11_liking_18 ?_
      refine V_lconst (pc := 19) (v := 0) h dX11_liking_19 (by decide) ?_
      refine V_aload_n (pc := 20) h 0 dX11_liking_20 rfl rfl ?_
      refine V_get (pc := 21) h 0 7 (.int (S1 0 7)) fl_X11_284_X11 oM_0 rfl rfl dX11_liking_21 ?_
      refine V_iconst (pc := 24) (v := 1) h dX11_liking_24 (by decide) ?_
      refine V_isub (pc := 25) h dX11_liking_25 ?_
      refine V_i2l (pc := 26) h dX11_liking_26 ?_
      refine V_callSI (pc := 27) (dy := 1) h [.long (v1.toInt64), .long (0 : Int64), .long (((S1 0 7) - (1 : Int32)).toInt64)] [] ms_X11_240 dX11_liking_27 rfl rfl (Nat.le_of_ble_eq_true rfl) (Nat.le_trans (by decide) hD) (m_isIn (v1.toInt64) (0 : Int64) (((S1 0 7) - (1 : Int32)).toInt64) S1) (fun z9 hz9 => m_isIn_ct h.gg (Nat.le_refl 1) (v1.toInt64) (0 : Int64) (((S1 0 7) - (1 : Int32)).toInt64) S1 z9 hz9) (fun x4 S3 => ?_)
      refine V_if_ne (pc := 30) h 35 dX11_liking_30 (by decide) ?_ ?_
      · refine V_aload_n (pc := 35) h 0 dX11_liking_35 rfl rfl ?_
        refine V_iload_n (pc := 36) h 1 dX11_liking_36 rfl rfl ?_
        refine V_put (pc := 37) h 0 31 v1 fp_X11_64_X11 oM_0 rfl rfl rfl rfl dX11_liking_37 (fun S5 => ?_)
        refine V_iconst (pc := 40) (v := 1) h dX11_liking_40 (by decide) ?_
        exact V_zret (pc := 41) h hr hlk dX11_liking_41
      · refine V_iconst (pc := 33) (v := 0) h dX11_liking_33 (by decide) ?_
        exact V_zret (pc := 34) h hr hlk dX11_liking_34
theorem m_liking_ct {d : Nat} (g : GG s0 args0 D ca a A) (hD : 2 ≤ d) (v1 : Int32) (S : St) (z : Int32 × St) (hz : m_liking v1 S = some z) : CtI l yX11_liking cX11_liking 2 .boolean d s0 D ca tpM a A [.ref (a 0), .int v1] S z := CtI_mk g (by decide +kernel) (Nat.le_of_ble_eq_true rfl) hz (fun p e s m args below meth c h hr hlk => m_liking_ok h hr hlk hD v1 S)
def m_order_h108 : Nat → Int32 → St → Option (Int32 × St)
  | 0, _, _ => none
  | n + 1, v4, S => (if (S 0 24) ≤ v4 then (nzM (1 : Int32) (some ((1 : Int32), S))) else (ckM v4 6 (ckM v4 6 (bnd (up2 S 11 v4.toNatClampNeg (S 14 v4.toNatClampNeg)) (fun S1 => (bnd (v4 + (1 : Int32)) (fun x2 => ((m_order_h108 n) x2 S1))))))))
set_option maxHeartbeats 4000000 in
set_option maxRecDepth 100000 in
theorem m_order_h108_ok {d : Nat} (h : Cx p s m c cX11_order 5 RX11 s0 args0 D ca a A) (hr : meth.sig.returnType = some .boolean) (hlk : meth.locks = false) (hD : 2 ≤ d) : ∀ (n : Nat) (v4 : Int32) (S : St), VV p l e (rmd d) s m args below meth c D ca tpM a A 5 (QmI D ca tpM a A below args s) S [(0, .ref (a 0)), (4, .int v4)] 108 [] (m_order_h108 n v4 S) := by
  intro n
  induction n with
  | zero => intro v4 S; exact V_none
  | succ n ih =>
    intro v4 S
    unfold m_order_h108
    refine V_iload (pc := 108) h 1 dX11_order_108 rfl ?_
    refine V_aload_n (pc := 110) h 0 dX11_order_110 rfl rfl ?_
    refine V_get (pc := 111) h 0 24 (.int (S 0 24)) fl_X11_289_X11 oM_0 rfl rfl dX11_order_111 ?_
    refine V_icmp_ge (pc := 114) h 137 dX11_order_114 (by decide) ?_ ?_
    · refine V_iconst (pc := 137) (v := 1) h dX11_order_137 (by decide) ?_
      exact V_zret (pc := 138) h hr hlk dX11_order_138
    · refine V_aload_n (pc := 117) h 0 dX11_order_117 rfl rfl ?_
      refine V_get (pc := 118) h 0 28 (.ref (a 11)) fl_X11_55_X11 oM_0 rfl rfl dX11_order_118 ?_
      refine V_iload (pc := 121) h 1 dX11_order_121 rfl ?_
      refine V_aload_n (pc := 123) h 0 dX11_order_123 rfl rfl ?_
      refine V_get (pc := 124) h 0 33 (.ref (a 14)) fl_X11_68_X11 oM_0 rfl rfl dX11_order_124 ?_
      refine V_iload (pc := 127) h 1 dX11_order_127 rfl ?_
      refine V_iald (pc := 129) h 14 oM_14 dX11_order_129 ?_
      refine V_iast (pc := 130) h 11 oM_11 dX11_order_130 (fun S1 => ?_)
      refine V_iincB (pc := 131) h 1 (1 : Int32) (fun x2 => [(4, .int x2), (0, .ref (a 0))]) dX11_order_131 rfl (by decide) (by decide) (fun _ => rfl) (fun x2 => ?_)
      refine V_goto (pc := 134) h 108 dX11_order_134 (by decide) ?_
      exact V_ls [1, 0] rfl (ih x2 S1)
def m_order_h30 : Nat → Int32 → Int32 → Int32 → St → Option (Int32 × St)
  | 0, _, _, _, _ => none
  | n + 1, v2, v3, v4, S => (if v4 < 0 then (if v2 = 0 then (m_order_h108 FU (0 : Int32) S) else (nzM (0 : Int32) (some ((0 : Int32), S)))) else (dvM (10 : Int32) (ckM v4 6 (bnd (up2 S 14 v4.toNatClampNeg (v2 - v2 / (10 : Int32) * (10 : Int32))) (fun S1 => (dvM (10 : Int32) (bnd (v2 / (10 : Int32)) (fun x2 => (ckM v4 6 (bI (m_isHouse (S1 14 v4.toNatClampNeg) S1) (fun x4 S3 => (if x4 = 0 then (nzM (0 : Int32) (some ((0 : Int32), S3))) else (ckM v4 6 (bI (m_has v3 (S3 14 v4.toNatClampNeg) S3) (fun x6 S5 => (if x6 = 0 then (ckM v4 6 (bnd (v3 ||| ((1 : Int32) <<< ((S5 14 v4.toNatClampNeg) &&& 31))) (fun x7 => (bnd (v4 + (-1 : Int32)) (fun x8 => ((m_order_h30 n) x2 x7 x8 S5)))))) else (nzM (0 : Int32) (some ((0 : Int32), S5)))))))))))))))))))
set_option maxHeartbeats 4000000 in
set_option maxRecDepth 100000 in
theorem m_order_h30_ok {d : Nat} (h : Cx p s m c cX11_order 5 RX11 s0 args0 D ca a A) (hr : meth.sig.returnType = some .boolean) (hlk : meth.locks = false) (hD : 2 ≤ d) : ∀ (n : Nat) (v2 : Int32) (v3 : Int32) (v4 : Int32) (S : St), VV p l e (rmd d) s m args below meth c D ca tpM a A 5 (QmI D ca tpM a A below args s) S [(0, .ref (a 0)), (2, .int v2), (3, .int v3), (4, .int v4)] 30 [] (m_order_h30 n v2 v3 v4 S) := by
  intro n
  induction n with
  | zero => intro v2 v3 v4 S; exact V_none
  | succ n ih =>
    intro v2 v3 v4 S
    unfold m_order_h30
    refine V_iload (pc := 30) h 3 dX11_order_30 rfl ?_
    refine V_if_lt (pc := 32) h 99 dX11_order_32 (by decide) ?_ ?_
    · refine V_iload_n (pc := 99) h 1 dX11_order_99 rfl rfl ?_
      refine V_if_eq (pc := 100) h 105 dX11_order_100 (by decide) ?_ ?_
      · refine V_iconst (pc := 105) (v := 0) h dX11_order_105 (by decide) ?_
        refine V_istore (pc := 106) h [(4, .int (0 : Int32)), (0, .ref (a 0)), (2, .int v2), (3, .int v3)] dX11_order_106 (by decide) rfl ?_
        exact V_ls [1, 0] rfl (m_order_h108_ok h hr hlk hD FU (0 : Int32) S)
      · refine V_iconst (pc := 103) (v := 0) h dX11_order_103 (by decide) ?_
        exact V_zret (pc := 104) h hr hlk dX11_order_104
    · refine V_aload_n (pc := 35) h 0 dX11_order_35 rfl rfl ?_
      refine V_get (pc := 36) h 0 33 (.ref (a 14)) fl_X11_68_X11 oM_0 rfl rfl dX11_order_36 ?_
      refine V_iload (pc := 39) h 3 dX11_order_39 rfl ?_
      refine V_iload_n (pc := 41) h 1 dX11_order_41 rfl rfl ?_
      refine V_bipush (pc := 42) (v := 10) h dX11_order_42 (by decide) ?_
      refine V_irem (pc := 44) h dX11_order_44 ?_
      refine V_iast (pc := 45) h 14 oM_14 dX11_order_45 (fun S1 => ?_)
      refine V_iload_n (pc := 46) h 1 dX11_order_46 rfl rfl ?_
      refine V_bipush (pc := 47) (v := 10) h dX11_order_47 (by decide) ?_
      refine V_idiv (pc := 49) h dX11_order_49 ?_
      refine V_top (fun x2 => ?_)
      refine V_istore_n (pc := 50) h [(2, .int x2), (0, .ref (a 0)), (3, .int v3), (4, .int v4)] dX11_order_50 rfl (by decide) rfl ?_
      refine V_aload_n (pc := 51) h 1 dX11_order_51 rfl rfl ?_
      refine V_aload_n (pc := 52) h 1 dX11_order_52 rfl rfl ?_
      refine V_get (pc := 53) h 0 33 (.ref (a 14)) fl_X11_68_X11 oM_0 rfl rfl dX11_order_53 ?_
      refine V_iload (pc := 56) h 3 dX11_order_56 rfl ?_
      refine V_iald (pc := 58) h 14 oM_14 dX11_order_58 ?_
      refine V_callVI (pc := 59) (dy := 1) (q := (RX11, TX11, 59)) h [.int (S1 14 v4.toNatClampNeg)] [] 0 mv_X11_301 oM_0 rfl dX11_order_59 rfl rfl (Nat.le_of_ble_eq_true rfl) (Nat.le_trans (by decide) hD) (m_isHouse (S1 14 v4.toNatClampNeg) S1) (fun z9 hz9 => m_isHouse_ct h.gg (Nat.le_refl 1) (S1 14 v4.toNatClampNeg) S1 z9 hz9) (fun x4 S3 => ?_)
      refine V_if_eq (pc := 62) h 79 dX11_order_62 (by decide) ?_ ?_
      · refine V_iconst (pc := 79) (v := 0) h dX11_order_79 (by decide) ?_
        exact V_zret (pc := 80) h hr hlk dX11_order_80
      · refine V_iload_n (pc := 65) h 2 dX11_order_65 rfl rfl ?_
        refine V_aload_n (pc := 66) h 1 dX11_order_66 rfl rfl ?_
        refine V_get (pc := 67) h 0 33 (.ref (a 14)) fl_X11_68_X11 oM_0 rfl rfl dX11_order_67 ?_
        refine V_iload (pc := 70) h 3 dX11_order_70 rfl ?_
        refine V_iald (pc := 72) h 14 oM_14 dX11_order_72 ?_
        refine V_callSI (pc := 73) (dy := 1) h [.int v3, .int (S3 14 v4.toNatClampNeg)] [] ms_X11_263 dX11_order_73 rfl rfl (Nat.le_of_ble_eq_true rfl) (Nat.le_trans (by decide) hD) (m_has v3 (S3 14 v4.toNatClampNeg) S3) (fun z9 hz9 => m_has_ct h.gg (Nat.le_refl 1) v3 (S3 14 v4.toNatClampNeg) S3 z9 hz9) (fun x6 S5 => ?_)
        refine V_if_eq (pc := 76) h 81 dX11_order_76 (by decide) ?_ ?_
        · refine V_iload_n (pc := 81) h 2 dX11_order_81 rfl rfl ?_
          refine V_iconst (pc := 82) (v := 1) h dX11_order_82 (by decide) ?_
          refine V_aload_n (pc := 83) h 1 dX11_order_83 rfl rfl ?_
          refine V_get (pc := 84) h 0 33 (.ref (a 14)) fl_X11_68_X11 oM_0 rfl rfl dX11_order_84 ?_
          refine V_iload (pc := 87) h 3 dX11_order_87 rfl ?_
          refine V_iald (pc := 89) h 14 oM_14 dX11_order_89 ?_
          refine V_ishl (pc := 90) h dX11_order_90 ?_
          refine V_ior (pc := 91) h dX11_order_91 ?_
          refine V_top (fun x7 => ?_)
          refine V_istore_n (pc := 92) h [(3, .int x7), (2, .int x2), (0, .ref (a 0)), (4, .int v4)] dX11_order_92 rfl (by decide) rfl ?_
          refine V_iincB (pc := 93) h 3 (-1 : Int32) (fun x8 => [(4, .int x8), (3, .int x7), (2, .int x2), (0, .ref (a 0))]) dX11_order_93 rfl (by decide) (by decide) (fun _ => rfl) (fun x8 => ?_)
          refine V_goto (pc := 96) h 30 dX11_order_96 (by decide) ?_
          exact V_ls [3, 2, 1, 0] rfl (ih x2 x7 x8 S5)
        · refine V_iconst (pc := 79) (v := 0) h dX11_order_79 (by decide) ?_
          exact V_zret (pc := 80) h hr hlk dX11_order_80
def m_order (v1 : Int32) (S : St) : Option (Int32 × St) := (bnd (up2 S 0 0 (0 : Int32)) (fun S1 => (if (S1 0 24) = 0 then (nzM (0 : Int32) (some ((0 : Int32), S1))) else (if 0 ≤ v1 then (bnd ((S1 0 24) - (1 : Int32)) (fun x2 => (m_order_h30 FU v1 (0 : Int32) x2 S1))) else (nzM (0 : Int32) (some ((0 : Int32), S1)))))))
set_option maxHeartbeats 4000000 in
set_option maxRecDepth 100000 in
theorem m_order_ok {d : Nat} (h : Cx p s m c cX11_order 5 RX11 s0 args0 D ca a A) (hr : meth.sig.returnType = some .boolean) (hlk : meth.locks = false) (hD : 2 ≤ d) (v1 : Int32) (S : St) : VV p l e (rmd d) s m args below meth c D ca tpM a A 5 (QmI D ca tpM a A below args s) S [(0, .ref (a 0)), (1, .int v1)] 0 [] (m_order v1 S) := by
  unfold m_order
  refine V_aload_n (pc := 0) h 0 dX11_order_0 rfl rfl ?_
  refine V_iconst (pc := 1) (v := 0) h dX11_order_1 (by decide) ?_
  refine V_put (pc := 2) h 0 0 (0 : Int32) fp_X11_119_X11 oM_0 rfl rfl rfl rfl dX11_order_2 (fun S1 => ?_)
  refine V_iload_n (pc := 5) h 1 dX11_order_5 rfl rfl ?_
  refine V_istore_n (pc := 6) h [(2, .int v1), (0, .ref (a 0)), (1, .int v1)] dX11_order_6 rfl (by decide) rfl ?_
  refine V_iconst (pc := 7) (v := 0) h dX11_order_7 (by decide) ?_
  refine V_istore_n (pc := 8) h [(3, .int (0 : Int32)), (2, .int v1), (0, .ref (a 0)), (1, .int v1)] dX11_order_8 rfl (by decide) rfl ?_
  refine V_aload_n (pc := 9) h 2 dX11_order_9 rfl rfl ?_
  refine V_get (pc := 10) h 0 24 (.int (S1 0 24)) fl_X11_289_X11 oM_0 rfl rfl dX11_order_10 ?_
  refine V_if_eq (pc := 13) h 20 dX11_order_13 (by decide) ?_ ?_
  · refine V_iconst (pc := 20) (v := 0) h dX11_order_20 (by decide) ?_
    exact V_zret (pc := 21) h hr hlk dX11_order_21
  · refine V_iload_n (pc := 16) h 3 dX11_order_16 rfl rfl ?_
    refine V_if_ge (pc := 17) h 22 dX11_order_17 (by decide) ?_ ?_
    · refine V_aload_n (pc := 22) h 2 dX11_order_22 rfl rfl ?_
      refine V_get (pc := 23) h 0 24 (.int (S1 0 24)) fl_X11_289_X11 oM_0 rfl rfl dX11_order_23 ?_
      refine V_iconst (pc := 26) (v := 1) h dX11_order_26 (by decide) ?_
      refine V_isub (pc := 27) h dX11_order_27 ?_
      refine V_top (fun x2 => ?_)
      refine V_istore (pc := 28) h [(4, .int x2), (3, .int (0 : Int32)), (2, .int v1), (0, .ref (a 0)), (1, .int v1)] dX11_order_28 (by decide) rfl ?_
      exact V_ls [3, 2, 1, 0] rfl (m_order_h30_ok h hr hlk hD FU v1 (0 : Int32) x2 S1)
    · refine V_iconst (pc := 20) (v := 0) h dX11_order_20 (by decide) ?_
      exact V_zret (pc := 21) h hr hlk dX11_order_21
theorem m_order_ct {d : Nat} (g : GG s0 args0 D ca a A) (hD : 2 ≤ d) (v1 : Int32) (S : St) (z : Int32 × St) (hz : m_order v1 S = some z) : CtI l yX11_order cX11_order 5 .boolean d s0 D ca tpM a A [.ref (a 0), .int v1] S z := CtI_mk g (by decide +kernel) (Nat.le_of_ble_eq_true rfl) hz (fun p e s m args below meth c h hr hlk => m_order_ok h hr hlk hD v1 S)
def m_put_b28 (v1 : Int32) (v2 : Int32) (S : St) : Option (Int32 × St) := (ckM v1 6 (bnd (up2 S 12 v1.toNatClampNeg v2) (fun S1 => (nzM (1 : Int32) (some ((1 : Int32), S1))))))
set_option maxHeartbeats 4000000 in
set_option maxRecDepth 100000 in
theorem m_put_b28_ok {d : Nat} (h : Cx p s m c cX11_put 3 RX11 s0 args0 D ca a A) (hr : meth.sig.returnType = some .boolean) (hlk : meth.locks = false) (hD : 2 ≤ d) (v1 : Int32) (v2 : Int32) (S : St) : VV p l e (rmd d) s m args below meth c D ca tpM a A 3 (QmI D ca tpM a A below args s) S [(0, .ref (a 0)), (1, .int v1), (2, .int v2)] 28 [] (m_put_b28 v1 v2 S) := by
  unfold m_put_b28
  refine V_aload_n (pc := 28) h 0 dX11_put_28 rfl rfl ?_
  refine V_get (pc := 29) h 0 29 (.ref (a 12)) fl_X11_58_X11 oM_0 rfl rfl dX11_put_29 ?_
  refine V_iload_n (pc := 32) h 1 dX11_put_32 rfl rfl ?_
  refine V_iload_n (pc := 33) h 2 dX11_put_33 rfl rfl ?_
  refine V_iast (pc := 34) h 12 oM_12 dX11_put_34 (fun S1 => ?_)
  refine V_iconst (pc := 35) (v := 1) h dX11_put_35 (by decide) ?_
  exact V_zret (pc := 36) h hr hlk dX11_put_36
def m_put (v1 : Int32) (v2 : Int32) (S : St) : Option (Int32 × St) := (bnd (up2 S 0 0 (0 : Int32)) (fun S1 => (bI (m_isHouse v1 S1) (fun x3 S2 => (if x3 = 0 then (nzM (0 : Int32) (some ((0 : Int32), S2))) else (bI (m_isStuff v2 S2) (fun x5 S4 => (if x5 = 0 then (if v2 = (9 : Int32) then (m_put_b28 v1 v2 S4) else (nzM (0 : Int32) (some ((0 : Int32), S4)))) else (m_put_b28 v1 v2 S4)))))))))
set_option maxHeartbeats 4000000 in
set_option maxRecDepth 100000 in
theorem m_put_ok {d : Nat} (h : Cx p s m c cX11_put 3 RX11 s0 args0 D ca a A) (hr : meth.sig.returnType = some .boolean) (hlk : meth.locks = false) (hD : 2 ≤ d) (v1 : Int32) (v2 : Int32) (S : St) : VV p l e (rmd d) s m args below meth c D ca tpM a A 3 (QmI D ca tpM a A below args s) S [(0, .ref (a 0)), (1, .int v1), (2, .int v2)] 0 [] (m_put v1 v2 S) := by
  unfold m_put
  refine V_aload_n (pc := 0) h 0 dX11_put_0 rfl rfl ?_
  refine V_iconst (pc := 1) (v := 0) h dX11_put_1 (by decide) ?_
  refine V_put (pc := 2) h 0 0 (0 : Int32) fp_X11_119_X11 oM_0 rfl rfl rfl rfl dX11_put_2 (fun S1 => ?_)
  refine V_aload_n (pc := 5) h 0 dX11_put_5 rfl rfl ?_
  refine V_iload_n (pc := 6) h 1 dX11_put_6 rfl rfl ?_
  refine V_callVI (pc := 7) (dy := 1) (q := (RX11, TX11, 59)) h [.int v1] [] 0 mv_X11_301 oM_0 rfl dX11_put_7 rfl rfl (Nat.le_of_ble_eq_true rfl) (Nat.le_trans (by decide) hD) (m_isHouse v1 S1) (fun z9 hz9 => m_isHouse_ct h.gg (Nat.le_refl 1) v1 S1 z9 hz9) (fun x3 S2 => ?_)
  refine V_if_eq (pc := 10) h 26 dX11_put_10 (by decide) ?_ ?_
  · refine V_iconst (pc := 26) (v := 0) h dX11_put_26 (by decide) ?_
    exact V_zret (pc := 27) h hr hlk dX11_put_27
  · refine V_iload_n (pc := 13) h 2 dX11_put_13 rfl rfl ?_
    refine V_callSI (pc := 14) (dy := 1) h [.int v2] [] ms_X11_309 dX11_put_14 rfl rfl (Nat.le_of_ble_eq_true rfl) (Nat.le_trans (by decide) hD) (m_isStuff v2 S2) (fun z9 hz9 => m_isStuff_ct h.gg (Nat.le_refl 1) v2 S2 z9 hz9) (fun x5 S4 => ?_)
    refine V_if_ne (pc := 17) h 28 dX11_put_17 (by decide) ?_ ?_
    · exact V_ls [0, 1, 2] rfl (m_put_b28_ok h hr hlk hD v1 v2 S4)
    · refine V_iload_n (pc := 20) h 2 dX11_put_20 rfl rfl ?_
      refine V_bipush (pc := 21) (v := 9) h dX11_put_21 (by decide) ?_
      refine V_icmp_eq (pc := 23) h 28 dX11_put_23 (by decide) ?_ ?_
      · exact V_ls [0, 1, 2] rfl (m_put_b28_ok h hr hlk hD v1 v2 S4)
      · refine V_iconst (pc := 26) (v := 0) h dX11_put_26 (by decide) ?_
        exact V_zret (pc := 27) h hr hlk dX11_put_27
theorem m_put_ct {d : Nat} (g : GG s0 args0 D ca a A) (hD : 2 ≤ d) (v1 : Int32) (v2 : Int32) (S : St) (z : Int32 × St) (hz : m_put v1 v2 S = some z) : CtI l yX11_put cX11_put 3 .boolean d s0 D ca tpM a A [.ref (a 0), .int v1, .int v2] S z := CtI_mk g (by decide +kernel) (Nat.le_of_ble_eq_true rfl) hz (fun p e s m args below meth c h hr hlk => m_put_ok h hr hlk hD v1 v2 S)
def m_fill (v1 : Int32) (v2 : Int32) (v3 : Int32) (S : St) : Option (Int32 × St) := (bnd (up2 S 0 0 (0 : Int32)) (fun S1 => (bI (m_isHouse v1 S1) (fun x3 S2 => (if x3 = 0 then (nzM (0 : Int32) (some ((0 : Int32), S2))) else (bI (m_isStuff v2 S2) (fun x5 S4 => (if x5 = 0 then (nzM (0 : Int32) (some ((0 : Int32), S4))) else (bI (m_isIn (v3.toInt64) (0 : Int64) (99 : Int64) S4) (fun x7 S6 => (if x7 = 0 then (nzM (0 : Int32) (some ((0 : Int32), S6))) else (ckM (((8 : Int32) * v1) + v2) 48 (bnd (up2 S6 7 (((8 : Int32) * v1) + v2).toNatClampNeg v3) (fun S8 => (nzM (1 : Int32) (some ((1 : Int32), S8)))))))))))))))))
set_option maxHeartbeats 4000000 in
set_option maxRecDepth 100000 in
theorem m_fill_ok {d : Nat} (h : Cx p s m c cX11_fill 4 RX11 s0 args0 D ca a A) (hr : meth.sig.returnType = some .boolean) (hlk : meth.locks = false) (hD : 2 ≤ d) (v1 : Int32) (v2 : Int32) (v3 : Int32) (S : St) : VV p l e (rmd d) s m args below meth c D ca tpM a A 4 (QmI D ca tpM a A below args s) S [(0, .ref (a 0)), (1, .int v1), (2, .int v2), (3, .int v3)] 0 [] (m_fill v1 v2 v3 S) := by
  unfold m_fill
  refine V_aload_n (pc := 0) h 0 dX11_fill_0 rfl rfl ?_
  refine V_iconst (pc := 1) (v := 0) h dX11_fill_1 (by decide) ?_
  refine V_put (pc := 2) h 0 0 (0 : Int32) fp_X11_119_X11 oM_0 rfl rfl rfl rfl dX11_fill_2 (fun S1 => ?_)
  refine V_aload_n (pc := 5) h 0 dX11_fill_5 rfl rfl ?_
  refine V_iload_n (pc := 6) h 1 dX11_fill_6 rfl rfl ?_
  refine V_callVI (pc := 7) (dy := 1) (q := (RX11, TX11, 59)) h [.int v1] [] 0 mv_X11_301 oM_0 rfl dX11_fill_7 rfl rfl (Nat.le_of_ble_eq_true rfl) (Nat.le_trans (by decide) hD) (m_isHouse v1 S1) (fun z9 hz9 => m_isHouse_ct h.gg (Nat.le_refl 1) v1 S1 z9 hz9) (fun x3 S2 => ?_)
  refine V_if_eq (pc := 10) h 32 dX11_fill_10 (by decide) ?_ ?_
  · refine V_iconst (pc := 32) (v := 0) h dX11_fill_32 (by decide) ?_
    exact V_zret (pc := 33) h hr hlk dX11_fill_33
  · refine V_iload_n (pc := 13) h 2 dX11_fill_13 rfl rfl ?_
    refine V_callSI (pc := 14) (dy := 1) h [.int v2] [] ms_X11_309 dX11_fill_14 rfl rfl (Nat.le_of_ble_eq_true rfl) (Nat.le_trans (by decide) hD) (m_isStuff v2 S2) (fun z9 hz9 => m_isStuff_ct h.gg (Nat.le_refl 1) v2 S2 z9 hz9) (fun x5 S4 => ?_)
    refine V_if_eq (pc := 17) h 32 dX11_fill_17 (by decide) ?_ ?_
    · refine V_iconst (pc := 32) (v := 0) h dX11_fill_32 (by decide) ?_
      exact V_zret (pc := 33) h hr hlk dX11_fill_33
    · refine V_iload_n (pc := 20) h 3 dX11_fill_20 rfl rfl ?_
      refine V_i2l (pc := 21) h dX11_fill_21 ?_
      refine V_lconst (pc := 22) (v := 0) h dX11_fill_22 (by decide) ?_
      refine V_ldc2 (pc := 23) (v := 99) h dX11_fill_23 tw_7_7 ?_
      refine V_callSI (pc := 26) (dy := 1) h [.long (v3.toInt64), .long (0 : Int64), .long (99 : Int64)] [] ms_X11_240 dX11_fill_26 rfl rfl (Nat.le_of_ble_eq_true rfl) (Nat.le_trans (by decide) hD) (m_isIn (v3.toInt64) (0 : Int64) (99 : Int64) S4) (fun z9 hz9 => m_isIn_ct h.gg (Nat.le_refl 1) (v3.toInt64) (0 : Int64) (99 : Int64) S4 z9 hz9) (fun x7 S6 => ?_)
      refine V_if_ne (pc := 29) h 34 dX11_fill_29 (by decide) ?_ ?_
      · refine V_aload_n (pc := 34) h 0 dX11_fill_34 rfl rfl ?_
        refine V_get (pc := 35) h 0 20 (.ref (a 7)) fl_X11_43_X11 oM_0 rfl rfl dX11_fill_35 ?_
        refine V_bipush (pc := 38) (v := 8) h dX11_fill_38 (by decide) ?_
        refine V_iload_n (pc := 40) h 1 dX11_fill_40 rfl rfl ?_
        refine V_imul (pc := 41) h dX11_fill_41 ?_
        refine V_iload_n (pc := 42) h 2 dX11_fill_42 rfl rfl ?_
        refine V_iadd (pc := 43) h dX11_fill_43 ?_
        refine V_iload_n (pc := 44) h 3 dX11_fill_44 rfl rfl ?_
        refine V_iast (pc := 45) h 7 oM_7 dX11_fill_45 (fun S8 => ?_)
        refine V_iconst (pc := 46) (v := 1) h dX11_fill_46 (by decide) ?_
        exact V_zret (pc := 47) h hr hlk dX11_fill_47
      · refine V_iconst (pc := 32) (v := 0) h dX11_fill_32 (by decide) ?_
        exact V_zret (pc := 33) h hr hlk dX11_fill_33
theorem m_fill_ct {d : Nat} (g : GG s0 args0 D ca a A) (hD : 2 ≤ d) (v1 : Int32) (v2 : Int32) (v3 : Int32) (S : St) (z : Int32 × St) (hz : m_fill v1 v2 v3 S = some z) : CtI l yX11_fill cX11_fill 4 .boolean d s0 D ca tpM a A [.ref (a 0), .int v1, .int v2, .int v3] S z := CtI_mk g (by decide +kernel) (Nat.le_of_ble_eq_true rfl) hz (fun p e s m args below meth c h hr hlk => m_fill_ok h hr hlk hD v1 v2 v3 S)
def m_meal (v1 : Int32) (S : St) : Option (Int32 × St) := (bnd (up2 S 0 0 (0 : Int32)) (fun S1 => (bI (m_isHouse v1 S1) (fun x3 S2 => (if x3 = 0 then (some ((-100000000 : Int32), S2)) else (bV (m_noon (S2 0 32) S2) (fun S4 => (bI (m_mealOf v1 (S4 0 32) S4) (fun x6 S5 => (some (x6, S5)))))))))))
set_option maxHeartbeats 4000000 in
set_option maxRecDepth 100000 in
theorem m_meal_ok {d : Nat} (h : Cx p s m c cX11_meal 2 RX11 s0 args0 D ca a A) (hr : meth.sig.returnType = some .int) (hlk : meth.locks = false) (hD : 50 ≤ d) (v1 : Int32) (S : St) : VV p l e (rmd d) s m args below meth c D ca tpM a A 2 (QmI D ca tpM a A below args s) S [(0, .ref (a 0)), (1, .int v1)] 0 [] (m_meal v1 S) := by
  unfold m_meal
  refine V_aload_n (pc := 0) h 0 dX11_meal_0 rfl rfl ?_
  refine V_iconst (pc := 1) (v := 0) h dX11_meal_1 (by decide) ?_
  refine V_put (pc := 2) h 0 0 (0 : Int32) fp_X11_119_X11 oM_0 rfl rfl rfl rfl dX11_meal_2 (fun S1 => ?_)
  refine V_aload_n (pc := 5) h 0 dX11_meal_5 rfl rfl ?_
  refine V_iload_n (pc := 6) h 1 dX11_meal_6 rfl rfl ?_
  refine V_callVI (pc := 7) (dy := 1) (q := (RX11, TX11, 59)) h [.int v1] [] 0 mv_X11_301 oM_0 rfl dX11_meal_7 rfl rfl (Nat.le_of_ble_eq_true rfl) (Nat.le_trans (by decide) hD) (m_isHouse v1 S1) (fun z9 hz9 => m_isHouse_ct h.gg (Nat.le_refl 1) v1 S1 z9 hz9) (fun x3 S2 => ?_)
  refine V_if_ne (pc := 10) h 17 dX11_meal_10 (by decide) ?_ ?_
  · refine V_aload_n (pc := 17) h 0 dX11_meal_17 rfl rfl ?_
    refine V_aload_n (pc := 18) h 0 dX11_meal_18 rfl rfl ?_
    refine V_get (pc := 19) h 0 32 (.int (S2 0 32)) fl_X11_292_X11 oM_0 rfl rfl dX11_meal_19 ?_
    refine V_callVV (pc := 22) (dy := 3) (q := (RX11, TX11, 59)) h [.int (S2 0 32)] [] 0 mv_X11_338 oM_0 rfl dX11_meal_22 rfl rfl (Nat.le_of_ble_eq_true rfl) (Nat.le_trans (by decide) hD) (m_noon (S2 0 32) S2) (fun z9 hz9 => m_noon_ct h.gg (Nat.le_refl 3) (S2 0 32) S2 z9 hz9) (fun S4 => ?_)
    refine V_aload_n (pc := 25) h 0 dX11_meal_25 rfl rfl ?_
    refine V_iload_n (pc := 26) h 1 dX11_meal_26 rfl rfl ?_
    refine V_aload_n (pc := 27) h 0 dX11_meal_27 rfl rfl ?_
    refine V_get (pc := 28) h 0 32 (.int (S4 0 32)) fl_X11_292_X11 oM_0 rfl rfl dX11_meal_28 ?_
    refine V_callVI (pc := 31) (dy := 49) (q := (RX11, TX11, 59)) h [.int v1, .int (S4 0 32)] [] 0 mv_X11_332 oM_0 rfl dX11_meal_31 rfl rfl (Nat.le_of_ble_eq_true rfl) (Nat.le_trans (by decide) hD) (m_mealOf v1 (S4 0 32) S4) (fun z9 hz9 => m_mealOf_ct h.gg (Nat.le_refl 49) v1 (S4 0 32) S4 z9 hz9) (fun x6 S5 => ?_)
    exact V_iret (pc := 34) h hr hlk dX11_meal_34
  · refine V_ldcw (pc := 13) (v := -100000000) h dX11_meal_13 tw_7_12 ?_
    exact V_iret (pc := 16) h hr hlk dX11_meal_16
theorem m_meal_ct {d : Nat} (g : GG s0 args0 D ca a A) (hD : 50 ≤ d) (v1 : Int32) (S : St) (z : Int32 × St) (hz : m_meal v1 S = some z) : CtI l yX11_meal cX11_meal 2 .int d s0 D ca tpM a A [.ref (a 0), .int v1] S z := CtI_mk g (by decide +kernel) (Nat.le_of_ble_eq_true rfl) hz (fun p e s m args below meth c h hr hlk => m_meal_ok h hr hlk hD v1 S)
def m_share (v1 : Int32) (v2 : Int32) (S : St) : Option (Int32 × St) := (bnd (up2 S 0 0 (0 : Int32)) (fun S1 => (bI (m_isHouse v1 S1) (fun x3 S2 => (if x3 = 0 then (some ((-1 : Int32), S2)) else (bI (m_isStuff v2 S2) (fun x5 S4 => (if x5 = 0 then (some ((-1 : Int32), S4)) else (bV (m_noon (S4 0 32) S4) (fun S6 => (ckM (((6 : Int32) * v1) + v2) 36 (some ((S6 16 (((6 : Int32) * v1) + v2).toNatClampNeg), S6)))))))))))))
set_option maxHeartbeats 4000000 in
set_option maxRecDepth 100000 in
theorem m_share_ok {d : Nat} (h : Cx p s m c cX11_share 3 RX11 s0 args0 D ca a A) (hr : meth.sig.returnType = some .int) (hlk : meth.locks = false) (hD : 4 ≤ d) (v1 : Int32) (v2 : Int32) (S : St) : VV p l e (rmd d) s m args below meth c D ca tpM a A 3 (QmI D ca tpM a A below args s) S [(0, .ref (a 0)), (1, .int v1), (2, .int v2)] 0 [] (m_share v1 v2 S) := by
  unfold m_share
  refine V_aload_n (pc := 0) h 0 dX11_share_0 rfl rfl ?_
  refine V_iconst (pc := 1) (v := 0) h dX11_share_1 (by decide) ?_
  refine V_put (pc := 2) h 0 0 (0 : Int32) fp_X11_119_X11 oM_0 rfl rfl rfl rfl dX11_share_2 (fun S1 => ?_)
  refine V_aload_n (pc := 5) h 0 dX11_share_5 rfl rfl ?_
  refine V_iload_n (pc := 6) h 1 dX11_share_6 rfl rfl ?_
  refine V_callVI (pc := 7) (dy := 1) (q := (RX11, TX11, 59)) h [.int v1] [] 0 mv_X11_301 oM_0 rfl dX11_share_7 rfl rfl (Nat.le_of_ble_eq_true rfl) (Nat.le_trans (by decide) hD) (m_isHouse v1 S1) (fun z9 hz9 => m_isHouse_ct h.gg (Nat.le_refl 1) v1 S1 z9 hz9) (fun x3 S2 => ?_)
  refine V_if_eq (pc := 10) h 20 dX11_share_10 (by decide) ?_ ?_
  · refine V_iconst (pc := 20) (v := -1) h dX11_share_20 (by decide) ?_
    exact V_iret (pc := 21) h hr hlk dX11_share_21
  · refine V_iload_n (pc := 13) h 2 dX11_share_13 rfl rfl ?_
    refine V_callSI (pc := 14) (dy := 1) h [.int v2] [] ms_X11_309 dX11_share_14 rfl rfl (Nat.le_of_ble_eq_true rfl) (Nat.le_trans (by decide) hD) (m_isStuff v2 S2) (fun z9 hz9 => m_isStuff_ct h.gg (Nat.le_refl 1) v2 S2 z9 hz9) (fun x5 S4 => ?_)
    refine V_if_ne (pc := 17) h 22 dX11_share_17 (by decide) ?_ ?_
    · refine V_aload_n (pc := 22) h 0 dX11_share_22 rfl rfl ?_
      refine V_aload_n (pc := 23) h 0 dX11_share_23 rfl rfl ?_
      refine V_get (pc := 24) h 0 32 (.int (S4 0 32)) fl_X11_292_X11 oM_0 rfl rfl dX11_share_24 ?_
      refine V_callVV (pc := 27) (dy := 3) (q := (RX11, TX11, 59)) h [.int (S4 0 32)] [] 0 mv_X11_338 oM_0 rfl dX11_share_27 rfl rfl (Nat.le_of_ble_eq_true rfl) (Nat.le_trans (by decide) hD) (m_noon (S4 0 32) S4) (fun z9 hz9 => m_noon_ct h.gg (Nat.le_refl 3) (S4 0 32) S4 z9 hz9) (fun S6 => ?_)
      refine V_aload_n (pc := 30) h 0 dX11_share_30 rfl rfl ?_
      refine V_get (pc := 31) h 0 35 (.ref (a 16)) fl_X11_74_X11 oM_0 rfl rfl dX11_share_31 ?_
      refine V_bipush (pc := 34) (v := 6) h dX11_share_34 (by decide) ?_
      refine V_iload_n (pc := 36) h 1 dX11_share_36 rfl rfl ?_
      refine V_imul (pc := 37) h dX11_share_37 ?_
      refine V_iload_n (pc := 38) h 2 dX11_share_38 rfl rfl ?_
      refine V_iadd (pc := 39) h dX11_share_39 ?_
      refine V_iald (pc := 40) h 16 oM_16 dX11_share_40 ?_
      exact V_iret (pc := 41) h hr hlk dX11_share_41
    · refine V_iconst (pc := 20) (v := -1) h dX11_share_20 (by decide) ?_
      exact V_iret (pc := 21) h hr hlk dX11_share_21
theorem m_share_ct {d : Nat} (g : GG s0 args0 D ca a A) (hD : 4 ≤ d) (v1 : Int32) (v2 : Int32) (S : St) (z : Int32 × St) (hz : m_share v1 v2 S = some z) : CtI l yX11_share cX11_share 3 .int d s0 D ca tpM a A [.ref (a 0), .int v1, .int v2] S z := CtI_mk g (by decide +kernel) (Nat.le_of_ble_eq_true rfl) hz (fun p e s m args below meth c h hr hlk => m_share_ok h hr hlk hD v1 v2 S)
def m_heat (v1 : Int32) (S : St) : Option (Int32 × St) := (bnd (up2 S 0 0 (0 : Int32)) (fun S1 => (bI (m_isHouse v1 S1) (fun x3 S2 => (if x3 = 0 then (some ((-1 : Int32), S2)) else (bV (m_noon (S2 0 32) S2) (fun S4 => (ckM v1 6 (some ((S4 17 v1.toNatClampNeg), S4))))))))))
set_option maxHeartbeats 4000000 in
set_option maxRecDepth 100000 in
theorem m_heat_ok {d : Nat} (h : Cx p s m c cX11_heat 2 RX11 s0 args0 D ca a A) (hr : meth.sig.returnType = some .int) (hlk : meth.locks = false) (hD : 4 ≤ d) (v1 : Int32) (S : St) : VV p l e (rmd d) s m args below meth c D ca tpM a A 2 (QmI D ca tpM a A below args s) S [(0, .ref (a 0)), (1, .int v1)] 0 [] (m_heat v1 S) := by
  unfold m_heat
  refine V_aload_n (pc := 0) h 0 dX11_heat_0 rfl rfl ?_
  refine V_iconst (pc := 1) (v := 0) h dX11_heat_1 (by decide) ?_
  refine V_put (pc := 2) h 0 0 (0 : Int32) fp_X11_119_X11 oM_0 rfl rfl rfl rfl dX11_heat_2 (fun S1 => ?_)
  refine V_aload_n (pc := 5) h 0 dX11_heat_5 rfl rfl ?_
  refine V_iload_n (pc := 6) h 1 dX11_heat_6 rfl rfl ?_
  refine V_callVI (pc := 7) (dy := 1) (q := (RX11, TX11, 59)) h [.int v1] [] 0 mv_X11_301 oM_0 rfl dX11_heat_7 rfl rfl (Nat.le_of_ble_eq_true rfl) (Nat.le_trans (by decide) hD) (m_isHouse v1 S1) (fun z9 hz9 => m_isHouse_ct h.gg (Nat.le_refl 1) v1 S1 z9 hz9) (fun x3 S2 => ?_)
  refine V_if_ne (pc := 10) h 15 dX11_heat_10 (by decide) ?_ ?_
  · refine V_aload_n (pc := 15) h 0 dX11_heat_15 rfl rfl ?_
    refine V_aload_n (pc := 16) h 0 dX11_heat_16 rfl rfl ?_
    refine V_get (pc := 17) h 0 32 (.int (S2 0 32)) fl_X11_292_X11 oM_0 rfl rfl dX11_heat_17 ?_
    refine V_callVV (pc := 20) (dy := 3) (q := (RX11, TX11, 59)) h [.int (S2 0 32)] [] 0 mv_X11_338 oM_0 rfl dX11_heat_20 rfl rfl (Nat.le_of_ble_eq_true rfl) (Nat.le_trans (by decide) hD) (m_noon (S2 0 32) S2) (fun z9 hz9 => m_noon_ct h.gg (Nat.le_refl 3) (S2 0 32) S2 z9 hz9) (fun S4 => ?_)
    refine V_aload_n (pc := 23) h 0 dX11_heat_23 rfl rfl ?_
    refine V_get (pc := 24) h 0 36 (.ref (a 17)) fl_X11_77_X11 oM_0 rfl rfl dX11_heat_24 ?_
    refine V_iload_n (pc := 27) h 1 dX11_heat_27 rfl rfl ?_
    refine V_iald (pc := 28) h 17 oM_17 dX11_heat_28 ?_
    exact V_iret (pc := 29) h hr hlk dX11_heat_29
  · refine V_iconst (pc := 13) (v := -1) h dX11_heat_13 (by decide) ?_
    exact V_iret (pc := 14) h hr hlk dX11_heat_14
theorem m_heat_ct {d : Nat} (g : GG s0 args0 D ca a A) (hD : 4 ≤ d) (v1 : Int32) (S : St) (z : Int32 × St) (hz : m_heat v1 S = some z) : CtI l yX11_heat cX11_heat 2 .int d s0 D ca tpM a A [.ref (a 0), .int v1] S z := CtI_mk g (by decide +kernel) (Nat.le_of_ble_eq_true rfl) hz (fun p e s m args below meth c h hr hlk => m_heat_ok h hr hlk hD v1 S)
def m_first (S : St) : Option (Int32 × St) := (bnd (up2 S 0 0 (0 : Int32)) (fun S1 => (if (S1 0 24) = 0 then (some ((-1 : Int32), S1)) else (bV (m_noon (S1 0 32) S1) (fun S2 => (some ((S2 0 39), S2)))))))
set_option maxHeartbeats 4000000 in
set_option maxRecDepth 100000 in
theorem m_first_ok {d : Nat} (h : Cx p s m c cX11_first 1 RX11 s0 args0 D ca a A) (hr : meth.sig.returnType = some .int) (hlk : meth.locks = false) (hD : 4 ≤ d) (S : St) : VV p l e (rmd d) s m args below meth c D ca tpM a A 1 (QmI D ca tpM a A below args s) S [(0, .ref (a 0))] 0 [] (m_first S) := by
  unfold m_first
  refine V_aload_n (pc := 0) h 0 dX11_first_0 rfl rfl ?_
  refine V_iconst (pc := 1) (v := 0) h dX11_first_1 (by decide) ?_
  refine V_put (pc := 2) h 0 0 (0 : Int32) fp_X11_119_X11 oM_0 rfl rfl rfl rfl dX11_first_2 (fun S1 => ?_)
  refine V_aload_n (pc := 5) h 0 dX11_first_5 rfl rfl ?_
  refine V_get (pc := 6) h 0 24 (.int (S1 0 24)) fl_X11_289_X11 oM_0 rfl rfl dX11_first_6 ?_
  refine V_if_ne (pc := 9) h 14 dX11_first_9 (by decide) ?_ ?_
  · refine V_aload_n (pc := 14) h 0 dX11_first_14 rfl rfl ?_
    refine V_aload_n (pc := 15) h 0 dX11_first_15 rfl rfl ?_
    refine V_get (pc := 16) h 0 32 (.int (S1 0 32)) fl_X11_292_X11 oM_0 rfl rfl dX11_first_16 ?_
    refine V_callVV (pc := 19) (dy := 3) (q := (RX11, TX11, 59)) h [.int (S1 0 32)] [] 0 mv_X11_338 oM_0 rfl dX11_first_19 rfl rfl (Nat.le_of_ble_eq_true rfl) (Nat.le_trans (by decide) hD) (m_noon (S1 0 32) S1) (fun z9 hz9 => m_noon_ct h.gg (Nat.le_refl 3) (S1 0 32) S1 z9 hz9) (fun S2 => ?_)
    refine V_aload_n (pc := 22) h 0 dX11_first_22 rfl rfl ?_
    refine V_get (pc := 23) h 0 39 (.int (S2 0 39)) fl_X11_317_X11 oM_0 rfl rfl dX11_first_23 ?_
    exact V_iret (pc := 26) h hr hlk dX11_first_26
  · refine V_iconst (pc := 12) (v := -1) h dX11_first_12 (by decide) ?_
    exact V_iret (pc := 13) h hr hlk dX11_first_13
theorem m_first_ct {d : Nat} (g : GG s0 args0 D ca a A) (hD : 4 ≤ d) (S : St) (z : Int32 × St) (hz : m_first S = some z) : CtI l yX11_first cX11_first 1 .int d s0 D ca tpM a A [.ref (a 0)] S z := CtI_mk g (by decide +kernel) (Nat.le_of_ble_eq_true rfl) hz (fun p e s m args below meth c h hr hlk => m_first_ok h hr hlk hD S)
def m_left_h26 : Nat → Int32 → Int32 → St → Option (Int32 × St)
  | 0, _, _, _ => none
  | n + 1, v1, v2, S => (if (5 : Int32) ≤ v2 then (some (v1, S)) else (ckM ((S 0 24) - (1 : Int32)) 6 (bnd (((6 : Int32) * (S 11 ((S 0 24) - (1 : Int32)).toNatClampNeg)) + v2) (fun x1 => (ckM x1 36 (bnd (v1 + (S 16 x1.toNatClampNeg)) (fun x2 => (bnd (v2 + (1 : Int32)) (fun x3 => ((m_left_h26 n) x2 x3 S))))))))))
set_option maxHeartbeats 4000000 in
set_option maxRecDepth 100000 in
theorem m_left_h26_ok {d : Nat} (h : Cx p s m c cX11_left 3 RX11 s0 args0 D ca a A) (hr : meth.sig.returnType = some .int) (hlk : meth.locks = false) (hD : 4 ≤ d) : ∀ (n : Nat) (v1 : Int32) (v2 : Int32) (S : St), VV p l e (rmd d) s m args below meth c D ca tpM a A 3 (QmI D ca tpM a A below args s) S [(0, .ref (a 0)), (1, .int v1), (2, .int v2)] 26 [] (m_left_h26 n v1 v2 S) := by
  intro n
  induction n with
  | zero => intro v1 v2 S; exact V_none
  | succ n ih =>
    intro v1 v2 S
    unfold m_left_h26
    refine V_iload_n (pc := 26) h 2 dX11_left_26 rfl rfl ?_
    refine V_iconst (pc := 27) (v := 5) h dX11_left_27 (by decide) ?_
    refine V_icmp_ge (pc := 28) h 61 dX11_left_28 (by decide) ?_ ?_
    · refine V_iload_n (pc := 61) h 1 dX11_left_61 rfl rfl ?_
      exact V_iret (pc := 62) h hr hlk dX11_left_62
    · refine V_iload_n (pc := 31) h 1 dX11_left_31 rfl rfl ?_
      refine V_aload_n (pc := 32) h 0 dX11_left_32 rfl rfl ?_
      refine V_get (pc := 33) h 0 35 (.ref (a 16)) fl_X11_74_X11 oM_0 rfl rfl dX11_left_33 ?_
      refine V_bipush (pc := 36) (v := 6) h dX11_left_36 (by decide) ?_
      refine V_aload_n (pc := 38) h 0 dX11_left_38 rfl rfl ?_
      refine V_get (pc := 39) h 0 28 (.ref (a 11)) fl_X11_55_X11 oM_0 rfl rfl dX11_left_39 ?_
      refine V_aload_n (pc := 42) h 0 dX11_left_42 rfl rfl ?_
      refine V_get (pc := 43) h 0 24 (.int (S 0 24)) fl_X11_289_X11 oM_0 rfl rfl dX11_left_43 ?_
      refine V_iconst (pc := 46) (v := 1) h dX11_left_46 (by decide) ?_
      refine V_isub (pc := 47) h dX11_left_47 ?_
      refine V_iald (pc := 48) h 11 oM_11 dX11_left_48 ?_
      refine V_imul (pc := 49) h dX11_left_49 ?_
      refine V_iload_n (pc := 50) h 2 dX11_left_50 rfl rfl ?_
      refine V_iadd (pc := 51) h dX11_left_51 ?_
      refine V_top (fun x1 => ?_)
      refine V_iald (pc := 52) h 16 oM_16 dX11_left_52 ?_
      refine V_iadd (pc := 53) h dX11_left_53 ?_
      refine V_top (fun x2 => ?_)
      refine V_istore_n (pc := 54) h [(1, .int x2), (0, .ref (a 0)), (2, .int v2)] dX11_left_54 rfl (by decide) rfl ?_
      refine V_iincB (pc := 55) h 2 (1 : Int32) (fun x3 => [(2, .int x3), (1, .int x2), (0, .ref (a 0))]) dX11_left_55 rfl (by decide) (by decide) (fun _ => rfl) (fun x3 => ?_)
      refine V_goto (pc := 58) h 26 dX11_left_58 (by decide) ?_
      exact V_ls [2, 1, 0] rfl (ih x2 x3 S)
def m_left (S : St) : Option (Int32 × St) := (bnd (up2 S 0 0 (0 : Int32)) (fun S1 => (if (S1 0 24) = 0 then (some ((-1 : Int32), S1)) else (bV (m_noon (S1 0 32) S1) (fun S2 => (m_left_h26 FU (0 : Int32) (0 : Int32) S2))))))
set_option maxHeartbeats 4000000 in
set_option maxRecDepth 100000 in
theorem m_left_ok {d : Nat} (h : Cx p s m c cX11_left 3 RX11 s0 args0 D ca a A) (hr : meth.sig.returnType = some .int) (hlk : meth.locks = false) (hD : 4 ≤ d) (S : St) : VV p l e (rmd d) s m args below meth c D ca tpM a A 3 (QmI D ca tpM a A below args s) S [(0, .ref (a 0))] 0 [] (m_left S) := by
  unfold m_left
  refine V_aload_n (pc := 0) h 0 dX11_left_0 rfl rfl ?_
  refine V_iconst (pc := 1) (v := 0) h dX11_left_1 (by decide) ?_
  refine V_put (pc := 2) h 0 0 (0 : Int32) fp_X11_119_X11 oM_0 rfl rfl rfl rfl dX11_left_2 (fun S1 => ?_)
  refine V_aload_n (pc := 5) h 0 dX11_left_5 rfl rfl ?_
  refine V_get (pc := 6) h 0 24 (.int (S1 0 24)) fl_X11_289_X11 oM_0 rfl rfl dX11_left_6 ?_
  refine V_if_ne (pc := 9) h 14 dX11_left_9 (by decide) ?_ ?_
  · refine V_aload_n (pc := 14) h 0 dX11_left_14 rfl rfl ?_
    refine V_aload_n (pc := 15) h 0 dX11_left_15 rfl rfl ?_
    refine V_get (pc := 16) h 0 32 (.int (S1 0 32)) fl_X11_292_X11 oM_0 rfl rfl dX11_left_16 ?_
    refine V_callVV (pc := 19) (dy := 3) (q := (RX11, TX11, 59)) h [.int (S1 0 32)] [] 0 mv_X11_338 oM_0 rfl dX11_left_19 rfl rfl (Nat.le_of_ble_eq_true rfl) (Nat.le_trans (by decide) hD) (m_noon (S1 0 32) S1) (fun z9 hz9 => m_noon_ct h.gg (Nat.le_refl 3) (S1 0 32) S1 z9 hz9) (fun S2 => ?_)
    refine V_iconst (pc := 22) (v := 0) h dX11_left_22 (by decide) ?_
    refine V_istore_n (pc := 23) h [(1, .int (0 : Int32)), (0, .ref (a 0))] dX11_left_23 rfl (by decide) rfl ?_
    refine V_iconst (pc := 24) (v := 0) h dX11_left_24 (by decide) ?_
    refine V_istore_n (pc := 25) h [(2, .int (0 : Int32)), (1, .int (0 : Int32)), (0, .ref (a 0))] dX11_left_25 rfl (by decide) rfl ?_
    exact V_ls [2, 1, 0] rfl (m_left_h26_ok h hr hlk hD FU (0 : Int32) (0 : Int32) S2)
  · refine V_iconst (pc := 12) (v := -1) h dX11_left_12 (by decide) ?_
    exact V_iret (pc := 13) h hr hlk dX11_left_13
theorem m_left_ct {d : Nat} (g : GG s0 args0 D ca a A) (hD : 4 ≤ d) (S : St) (z : Int32 × St) (hz : m_left S = some z) : CtI l yX11_left cX11_left 3 .int d s0 D ca tpM a A [.ref (a 0)] S z := CtI_mk g (by decide +kernel) (Nat.le_of_ble_eq_true rfl) hz (fun p e s m args below meth c h hr hlk => m_left_ok h hr hlk hD S)
end GEN
