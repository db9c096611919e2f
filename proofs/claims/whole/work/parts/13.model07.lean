section GEN
variable {p : Program} {l : Launch} {e : Env} {s : State} {m : MethodId} {args : Array Value} {below : List Frame} {meth : Method} {c : Code}
variable {D : va_G} {ca : Nat → ClassId} {tp : List ODt} {a : Nat → Nat} {A : Nat → Prop} {s0 : State} {args0 : Array Value} {t : Nat}
def m_about_h134 (L68 : Int32 → Int32 → Int32 → St → Option (Int32 × St)) : Nat → Int32 → Int32 → Int32 → Int32 → Int32 → St → Option (Int32 × St)
  | 0, _, _, _, _, _, _ => none
  | n + 1, v1, v2, v3, v4, v5, S => (if (S 0 24) ≤ v5 then (ckM ((S 0 24) - (1 : Int32)) 6 (bnd (up2 S 11 ((S 0 24) - (1 : Int32)).toNatClampNeg v4) (fun S1 => (bnd (v3 + (1 : Int32)) (fun x2 => (L68 v1 v2 x2 S1)))))) else (ckM v5 6 (ckM (v5 - (1 : Int32)) 6 (bnd (up2 S 11 (v5 - (1 : Int32)).toNatClampNeg (S 11 v5.toNatClampNeg)) (fun S3 => (bnd (v5 + (1 : Int32)) (fun x4 => ((m_about_h134 L68 n) v1 v2 v3 v4 x4 S3))))))))
set_option maxHeartbeats 4000000 in
set_option maxRecDepth 100000 in
theorem m_about_h134_ok {d : Nat} (h : Cx p s m c cX11_about 6 RX11 s0 args0 D ca a A) (hr : meth.sig.returnType = some .int) (hlk : meth.locks = false) (hD : 50 ≤ d) (L68 : Int32 → Int32 → Int32 → St → Option (Int32 × St)) (hL68 : ∀ (v1 : Int32) (v2 : Int32) (v3 : Int32) (S : St), VV p l e (rmd d) s m args below meth c D ca tpM a A 6 (QmI D ca tpM a A below args s) S [(0, .ref (a 0)), (1, .int v1), (2, .int v2), (3, .int v3)] 68 [] (L68 v1 v2 v3 S)) : ∀ (n : Nat) (v1 : Int32) (v2 : Int32) (v3 : Int32) (v4 : Int32) (v5 : Int32) (S : St), VV p l e (rmd d) s m args below meth c D ca tpM a A 6 (QmI D ca tpM a A below args s) S [(0, .ref (a 0)), (1, .int v1), (2, .int v2), (3, .int v3), (4, .int v4), (5, .int v5)] 134 [] (m_about_h134 L68 n v1 v2 v3 v4 v5 S) := by
  intro n
  induction n with
  | zero => intro v1 v2 v3 v4 v5 S; exact V_none
  | succ n ih =>
    intro v1 v2 v3 v4 v5 S
    unfold m_about_h134
    refine V_iload (pc := 134) h 5 dX11_about_134 rfl ?_
    refine V_aload_n (pc := 136) h 0 dX11_about_136 rfl rfl ?_
    refine V_get (pc := 137) h 0 24 (.int (S 0 24)) fl_X11_289_X11 oM_0 rfl rfl dX11_about_137 ?_
    refine V_icmp_ge (pc := 140) h 165 dX11_about_140 (by decide) ?_ ?_
    · refine V_aload_n (pc := 165) h 0 dX11_about_165 rfl rfl ?_
      refine V_get (pc := 166) h 0 28 (.ref (a 11)) fl_X11_55_X11 oM_0 rfl rfl dX11_about_166 ?_
      refine V_aload_n (pc := 169) h 0 dX11_about_169 rfl rfl ?_
      refine V_get (pc := 170) h 0 24 (.int (S 0 24)) fl_X11_289_X11 oM_0 rfl rfl dX11_about_170 ?_
      refine V_iconst (pc := 173) (v := 1) h dX11_about_173 (by decide) ?_
      refine V_isub (pc := 174) h dX11_about_174 ?_
      refine V_iload (pc := 175) h 4 dX11_about_175 rfl ?_
      refine V_iast (pc := 177) h 11 oM_11 dX11_about_177 (fun S1 => ?_)
      refine V_iincB (pc := 178) h 3 (1 : Int32) (fun x2 => [(3, .int x2), (0, .ref (a 0)), (1, .int v1), (2, .int v2), (4, .int v4), (5, .int v5)]) dX11_about_178 rfl (by decide) (by decide) (fun _ => rfl) (fun x2 => ?_)
      refine V_goto (pc := 181) h 68 dX11_about_181 (by decide) ?_
      exact V_ls [1, 2, 3, 0] rfl (hL68 v1 v2 x2 S1)
    · refine V_aload_n (pc := 143) h 0 dX11_about_143 rfl rfl ?_
      refine V_get (pc := 144) h 0 28 (.ref (a 11)) fl_X11_55_X11 oM_0 rfl rfl dX11_about_144 ?_
      refine V_iload (pc := 147) h 5 dX11_about_147 rfl ?_
      refine V_iconst (pc := 149) (v := 1) h dX11_about_149 (by decide) ?_
      refine V_isub (pc := 150) h dX11_about_150 ?_
      refine V_aload_n (pc := 151) h 0 dX11_about_151 rfl rfl ?_
      refine V_get (pc := 152) h 0 28 (.ref (a 11)) fl_X11_55_X11 oM_0 rfl rfl dX11_about_152 ?_
      refine V_iload (pc := 155) h 5 dX11_about_155 rfl ?_
      refine V_iald (pc := 157) h 11 oM_11 dX11_about_157 ?_
      refine V_iast (pc := 158) h 11 oM_11 dX11_about_158 (fun S3 => ?_)
      refine V_iincB (pc := 159) h 5 (1 : Int32) (fun x4 => [(5, .int x4), (0, .ref (a 0)), (1, .int v1), (2, .int v2), (3, .int v3), (4, .int v4)]) dX11_about_159 rfl (by decide) (by decide) (fun _ => rfl) (fun x4 => ?_)
      refine V_goto (pc := 162) h 134 dX11_about_162 (by decide) ?_
      exact V_ls [1, 2, 3, 4, 5, 0] rfl (ih v1 v2 v3 v4 x4 S3)
def m_about_h86 (L68 : Int32 → Int32 → Int32 → St → Option (Int32 × St)) : Nat → Int32 → Int32 → Int32 → Int32 → St → Option (Int32 × St)
  | 0, _, _, _, _, _ => none
  | n + 1, v1, v2, v3, v4, S => (if (S 0 24) ≤ v4 then (ckM (0 : Int32) 6 (bnd (S 11 (0 : Int32).toNatClampNeg) (fun x1 => (m_about_h134 L68 FU v1 v2 v3 x1 (1 : Int32) S)))) else (ckM v4 6 (bI (m_mealOf v4 ((S 0 32) + v3) S) (fun x3 S2 => (ckM v4 6 (bnd (up2 S2 24 v4.toNatClampNeg ((S 24 v4.toNatClampNeg) + x3)) (fun S4 => (bnd (v4 + (1 : Int32)) (fun x5 => ((m_about_h86 L68 n) v1 v2 v3 x5 S4))))))))))
set_option maxHeartbeats 4000000 in
set_option maxRecDepth 100000 in
theorem m_about_h86_ok {d : Nat} (h : Cx p s m c cX11_about 6 RX11 s0 args0 D ca a A) (hr : meth.sig.returnType = some .int) (hlk : meth.locks = false) (hD : 50 ≤ d) (L68 : Int32 → Int32 → Int32 → St → Option (Int32 × St)) (hL68 : ∀ (v1 : Int32) (v2 : Int32) (v3 : Int32) (S : St), VV p l e (rmd d) s m args below meth c D ca tpM a A 6 (QmI D ca tpM a A below args s) S [(0, .ref (a 0)), (1, .int v1), (2, .int v2), (3, .int v3)] 68 [] (L68 v1 v2 v3 S)) : ∀ (n : Nat) (v1 : Int32) (v2 : Int32) (v3 : Int32) (v4 : Int32) (S : St), VV p l e (rmd d) s m args below meth c D ca tpM a A 6 (QmI D ca tpM a A below args s) S [(0, .ref (a 0)), (1, .int v1), (2, .int v2), (3, .int v3), (4, .int v4)] 86 [] (m_about_h86 L68 n v1 v2 v3 v4 S) := by
  intro n
  induction n with
  | zero => intro v1 v2 v3 v4 S; exact V_none
  | succ n ih =>
    intro v1 v2 v3 v4 S
    unfold m_about_h86
    refine V_iload (pc := 86) h 4 dX11_about_86 rfl ?_
    refine V_aload_n (pc := 88) h 0 dX11_about_88 rfl rfl ?_
    refine V_get (pc := 89) h 0 24 (.int (S 0 24)) fl_X11_289_X11 oM_0 rfl rfl dX11_about_89 ?_
    refine V_icmp_ge (pc := 92) h 123 dX11_about_92 (by decide) ?_ ?_
    · refine V_aload_n (pc := 123) h 0 dX11_about_123 rfl rfl ?_
      refine V_get (pc := 124) h 0 28 (.ref (a 11)) fl_X11_55_X11 oM_0 rfl rfl dX11_about_124 ?_
      refine V_iconst (pc := 127) (v := 0) h dX11_about_127 (by decide) ?_
      refine V_iald (pc := 128) h 11 oM_11 dX11_about_128 ?_
      refine V_top (fun x1 => ?_)
      refine V_istore (pc := 129) h [(4, .int x1), (0, .ref (a 0)), (1, .int v1), (2, .int v2), (3, .int v3)] dX11_about_129 (by decide) rfl ?_
      refine V_iconst (pc := 131) (v := 1) h dX11_about_131 (by decide) ?_
      refine V_istore (pc := 132) h [(5, .int (1 : Int32)), (4, .int x1), (0, .ref (a 0)), (1, .int v1), (2, .int v2), (3, .int v3)] dX11_about_132 (by decide) rfl ?_
      exact V_ls [2, 3, 4, 5, 1, 0] rfl (m_about_h134_ok h hr hlk hD L68 hL68 FU v1 v2 v3 x1 (1 : Int32) S)
    · refine V_aload_n (pc := 95) h 0 dX11_about_95 rfl rfl ?_
      refine V_get (pc := 96) h 0 52 (.ref (a 24)) fl_X11_104_X11 oM_0 rfl rfl dX11_about_96 ?_
      refine V_iload (pc := 99) h 4 dX11_about_99 rfl ?_
      refine V_dup2_11 (pc := 101) h dX11_about_101 rfl rfl ?_
      refine V_iald (pc := 102) h 24 oM_24 dX11_about_102 ?_
      refine V_aload_n (pc := 103) h 0 dX11_about_103 rfl rfl ?_
      refine V_iload (pc := 104) h 4 dX11_about_104 rfl ?_
      refine V_aload_n (pc := 106) h 0 dX11_about_106 rfl rfl ?_
      refine V_get (pc := 107) h 0 32 (.int (S 0 32)) fl_X11_292_X11 oM_0 rfl rfl dX11_about_107 ?_
      refine V_iload_n (pc := 110) h 3 dX11_about_110 rfl rfl ?_
      refine V_iadd (pc := 111) h dX11_about_111 ?_
      refine V_callVI (pc := 112) (dy := 49) (q := (RX11, TX11, 59)) h [.int v4, .int ((S 0 32) + v3)] [.int (S 24 v4.toNatClampNeg), .int v4, .ref (a 24)] 0 mv_X11_332 oM_0 rfl dX11_about_112 rfl rfl (Nat.le_of_ble_eq_true rfl) (Nat.le_trans (by decide) hD) (m_mealOf v4 ((S 0 32) + v3) S) (fun z9 hz9 => m_mealOf_ct h.gg (Nat.le_refl 49) v4 ((S 0 32) + v3) S z9 hz9) (fun x3 S2 => ?_)
      refine V_iadd (pc := 115) h dX11_about_115 ?_
      refine V_iast (pc := 116) h 24 oM_24 dX11_about_116 (fun S4 => ?_)
      refine V_iincB (pc := 117) h 4 (1 : Int32) (fun x5 => [(4, .int x5), (0, .ref (a 0)), (1, .int v1), (2, .int v2), (3, .int v3)]) dX11_about_117 rfl (by decide) (by decide) (fun _ => rfl) (fun x5 => ?_)
      refine V_goto (pc := 120) h 86 dX11_about_120 (by decide) ?_
      exact V_ls [1, 2, 3, 4, 0] rfl (ih v1 v2 v3 x5 S4)
def m_about_b236 (L205 : Int32 → Int32 → St → Option (Int32 × St)) (v4 : Int32) (k0 : Int32) (S : St) : Option (Int32 × St) := (bnd (v4 + (1 : Int32)) (fun x1 => (L205 k0 x1 S)))
set_option maxHeartbeats 4000000 in
set_option maxRecDepth 100000 in
theorem m_about_b236_ok {d : Nat} (h : Cx p s m c cX11_about 6 RX11 s0 args0 D ca a A) (hr : meth.sig.returnType = some .int) (hlk : meth.locks = false) (hD : 50 ≤ d) (L205 : Int32 → Int32 → St → Option (Int32 × St)) (hL205 : ∀ (v3 : Int32) (v4 : Int32) (S : St), VV p l e (rmd d) s m args below meth c D ca tpM a A 6 (QmI D ca tpM a A below args s) S [(0, .ref (a 0)), (3, .int v3), (4, .int v4)] 205 [] (L205 v3 v4 S)) (v4 : Int32) (k0 : Int32) (S : St) : VV p l e (rmd d) s m args below meth c D ca tpM a A 6 (QmI D ca tpM a A below args s) S [(0, .ref (a 0)), (4, .int v4)] 236 [.int k0] (m_about_b236 L205 v4 k0 S) := by
  unfold m_about_b236
  refine V_istore_n (pc := 236) h [(3, .int k0), (0, .ref (a 0)), (4, .int v4)] dX11_about_236 rfl (by decide) rfl ?_
  refine V_iincB (pc := 237) h 2 (1 : Int32) (fun x1 => [(4, .int x1), (3, .int k0), (0, .ref (a 0))]) dX11_about_237 rfl (by decide) (by decide) (fun _ => rfl) (fun x1 => ?_)
  refine V_goto (pc := 240) h 205 dX11_about_240 (by decide) ?_
  exact V_ls [2, 1, 0] rfl (hL205 k0 x1 S)
def m_about_h205 : Nat → Int32 → Int32 → St → Option (Int32 × St)
  | 0, _, _, _ => none
  | n + 1, v3, v4, S => (if (S 0 24) ≤ v4 then (some (v3, S)) else (ckM v4 6 (ckM v3 6 (if (S 24 v3.toNatClampNeg) ≤ (S 24 v4.toNatClampNeg) then (m_about_b236 (m_about_h205 n) v4 v3 S) else (m_about_b236 (m_about_h205 n) v4 v4 S)))))
set_option maxHeartbeats 4000000 in
set_option maxRecDepth 100000 in
theorem m_about_h205_ok {d : Nat} (h : Cx p s m c cX11_about 6 RX11 s0 args0 D ca a A) (hr : meth.sig.returnType = some .int) (hlk : meth.locks = false) (hD : 50 ≤ d) : ∀ (n : Nat) (v3 : Int32) (v4 : Int32) (S : St), VV p l e (rmd d) s m args below meth c D ca tpM a A 6 (QmI D ca tpM a A below args s) S [(0, .ref (a 0)), (3, .int v3), (4, .int v4)] 205 [] (m_about_h205 n v3 v4 S) := by
  intro n
  induction n with
  | zero => intro v3 v4 S; exact V_none
  | succ n ih =>
    intro v3 v4 S
    unfold m_about_h205
    refine V_iload (pc := 205) h 2 dX11_about_205 rfl ?_
    refine V_aload_n (pc := 207) h 0 dX11_about_207 rfl rfl ?_
    refine V_get (pc := 208) h 0 24 (.int (S 0 24)) fl_X11_289_X11 oM_0 rfl rfl dX11_about_208 ?_
    refine V_icmp_ge (pc := 211) h 243 dX11_about_211 (by decide) ?_ ?_
    · refine V_iload_n (pc := 243) h 1 dX11_about_243 rfl rfl ?_
      exact V_iret (pc := 244) h hr hlk dX11_about_244
    · refine V_aload_n (pc := 214) h 0 dX11_about_214 rfl rfl ?_
      refine V_get (pc := 215) h 0 52 (.ref (a 24)) fl_X11_104_X11 oM_0 rfl rfl dX11_about_215 ?_
      refine V_iload (pc := 218) h 2 dX11_about_218 rfl ?_
      refine V_iald (pc := 220) h 24 oM_24 dX11_about_220 ?_
      refine V_aload_n (pc := 221) h 0 dX11_about_221 rfl rfl ?_
      refine V_get (pc := 222) h 0 52 (.ref (a 24)) fl_X11_104_X11 oM_0 rfl rfl dX11_about_222 ?_
      refine V_iload_n (pc := 225) h 1 dX11_about_225 rfl rfl ?_
      refine V_iald (pc := 226) h 24 oM_24 dX11_about_226 ?_
      refine V_icmp_ge (pc := 227) h 235 dX11_about_227 (by decide) ?_ ?_
      · refine V_iload_n (pc := 235) h 1 dX11_about_235 rfl rfl ?_
        exact V_ls [0, 2] rfl (m_about_b236_ok h hr hlk hD (m_about_h205 n) ih v4 v3 S)
      · refine V_iload (pc := 230) h 2 dX11_about_230 rfl ?_
        refine V_goto (pc := 232) h 236 dX11_about_232 (by decide) ?_
        exact V_ls [0, 2] rfl (m_about_b236_ok h hr hlk hD (m_about_h205 n) ih v4 v4 S)
def m_about_h68 : Nat → Int32 → Int32 → Int32 → St → Option (Int32 × St)
  | 0, _, _, _, _ => none
  | n + 1, v1, v2, v3, S => (if v2 ≤ v3 then (bV (m_putBack S) (fun S1 => (if v1 = (-1 : Int32) then (m_about_h205 FU (0 : Int32) (1 : Int32) S1) else (ckM v1 6 (some ((S1 24 v1.toNatClampNeg), S1)))))) else (bV (m_noon ((S 0 32) + v3) S) (fun S2 => (m_about_h86 (m_about_h68 n) FU v1 v2 v3 (0 : Int32) S2))))
set_option maxHeartbeats 4000000 in
set_option maxRecDepth 100000 in
theorem m_about_h68_ok {d : Nat} (h : Cx p s m c cX11_about 6 RX11 s0 args0 D ca a A) (hr : meth.sig.returnType = some .int) (hlk : meth.locks = false) (hD : 50 ≤ d) : ∀ (n : Nat) (v1 : Int32) (v2 : Int32) (v3 : Int32) (S : St), VV p l e (rmd d) s m args below meth c D ca tpM a A 6 (QmI D ca tpM a A below args s) S [(0, .ref (a 0)), (1, .int v1), (2, .int v2), (3, .int v3)] 68 [] (m_about_h68 n v1 v2 v3 S) := by
  intro n
  induction n with
  | zero => intro v1 v2 v3 S; exact V_none
  | succ n ih =>
    intro v1 v2 v3 S
    unfold m_about_h68
    refine V_iload_n (pc := 68) h 3 dX11_about_68 rfl rfl ?_
    refine V_iload_n (pc := 69) h 2 dX11_about_69 rfl rfl ?_
    refine V_icmp_ge (pc := 70) h 184 dX11_about_70 (by decide) ?_ ?_
    · refine V_aload_n (pc := 184) h 0 dX11_about_184 rfl rfl ?_
      refine V_callVV (pc := 185) (dy := 1) (q := (RX11, TX11, 59)) h [] [] 0 mv_X11_378 oM_0 rfl dX11_about_185 rfl rfl (Nat.le_of_ble_eq_true rfl) (Nat.le_trans (by decide) hD) (m_putBack S) (fun z9 hz9 => m_putBack_ct h.gg (Nat.le_refl 1) S z9 hz9) (fun S1 => ?_)
      refine V_iload_n (pc := 188) h 1 dX11_about_188 rfl rfl ?_
      refine V_iconst (pc := 189) (v := -1) h dX11_about_189 (by decide) ?_
      refine V_icmp_eq (pc := 190) h 200 dX11_about_190 (by decide) ?_ ?_
      · refine V_iconst (pc := 200) (v := 0) h dX11_about_200 (by decide) ?_
        refine V_istore_n (pc := 201) h [(3, .int (0 : Int32)), (0, .ref (a 0)), (1, .int v1), (2, .int v2)] dX11_about_201 rfl (by decide) rfl ?_
        refine V_iconst (pc := 202) (v := 1) h dX11_about_202 (by decide) ?_
        refine V_istore (pc := 203) h [(4, .int (1 : Int32)), (3, .int (0 : Int32)), (0, .ref (a 0)), (1, .int v1), (2, .int v2)] dX11_about_203 (by decide) rfl ?_
        exact V_ls [2, 1, 0] rfl (m_about_h205_ok h hr hlk hD FU (0 : Int32) (1 : Int32) S1)
      · refine V_aload_n (pc := 193) h 0 dX11_about_193 rfl rfl ?_
        refine V_get (pc := 194) h 0 52 (.ref (a 24)) fl_X11_104_X11 oM_0 rfl rfl dX11_about_194 ?_
        refine V_iload_n (pc := 197) h 1 dX11_about_197 rfl rfl ?_
        refine V_iald (pc := 198) h 24 oM_24 dX11_about_198 ?_
        exact V_iret (pc := 199) h hr hlk dX11_about_199
    · refine V_aload_n (pc := 73) h 0 dX11_about_73 rfl rfl ?_
      refine V_aload_n (pc := 74) h 0 dX11_about_74 rfl rfl ?_
      refine V_get (pc := 75) h 0 32 (.int (S 0 32)) fl_X11_292_X11 oM_0 rfl rfl dX11_about_75 ?_
      refine V_iload_n (pc := 78) h 3 dX11_about_78 rfl rfl ?_
      refine V_iadd (pc := 79) h dX11_about_79 ?_
      refine V_callVV (pc := 80) (dy := 3) (q := (RX11, TX11, 59)) h [.int ((S 0 32) + v3)] [] 0 mv_X11_338 oM_0 rfl dX11_about_80 rfl rfl (Nat.le_of_ble_eq_true rfl) (Nat.le_trans (by decide) hD) (m_noon ((S 0 32) + v3) S) (fun z9 hz9 => m_noon_ct h.gg (Nat.le_refl 3) ((S 0 32) + v3) S z9 hz9) (fun S2 => ?_)
      refine V_iconst (pc := 83) (v := 0) h dX11_about_83 (by decide) ?_
      refine V_istore (pc := 84) h [(4, .int (0 : Int32)), (0, .ref (a 0)), (1, .int v1), (2, .int v2), (3, .int v3)] dX11_about_84 (by decide) rfl ?_
      exact V_ls [1, 2, 3, 4, 0] rfl (m_about_h86_ok h hr hlk hD (m_about_h68 n) ih FU v1 v2 v3 (0 : Int32) S2)
def m_about_h47 : Nat → Int32 → Int32 → Int32 → St → Option (Int32 × St)
  | 0, _, _, _, _ => none
  | n + 1, v1, v2, v3, S => (if (6 : Int32) ≤ v3 then (m_about_h68 FU v1 v2 (0 : Int32) S) else (ckM v3 6 (bnd (up2 S 24 v3.toNatClampNeg (0 : Int32)) (fun S1 => (bnd (v3 + (1 : Int32)) (fun x2 => ((m_about_h47 n) v1 v2 x2 S1)))))))
set_option maxHeartbeats 4000000 in
set_option maxRecDepth 100000 in
theorem m_about_h47_ok {d : Nat} (h : Cx p s m c cX11_about 6 RX11 s0 args0 D ca a A) (hr : meth.sig.returnType = some .int) (hlk : meth.locks = false) (hD : 50 ≤ d) : ∀ (n : Nat) (v1 : Int32) (v2 : Int32) (v3 : Int32) (S : St), VV p l e (rmd d) s m args below meth c D ca tpM a A 6 (QmI D ca tpM a A below args s) S [(0, .ref (a 0)), (1, .int v1), (2, .int v2), (3, .int v3)] 47 [] (m_about_h47 n v1 v2 v3 S) := by
  intro n
  induction n with
  | zero => intro v1 v2 v3 S; exact V_none
  | succ n ih =>
    intro v1 v2 v3 S
    unfold m_about_h47
    refine V_iload_n (pc := 47) h 3 dX11_about_47 rfl rfl ?_
    refine V_bipush (pc := 48) (v := 6) h dX11_about_48 (by decide) ?_
    refine V_icmp_ge (pc := 50) h 66 dX11_about_50 (by decide) ?_ ?_
    · refine V_iconst (pc := 66) (v := 0) h dX11_about_66 (by decide) ?_
      refine V_istore_n (pc := 67) h [(3, .int (0 : Int32)), (0, .ref (a 0)), (1, .int v1), (2, .int v2)] dX11_about_67 rfl (by decide) rfl ?_
      exact V_ls [1, 2, 3, 0] rfl (m_about_h68_ok h hr hlk hD FU v1 v2 (0 : Int32) S)
    · refine V_aload_n (pc := 53) h 0 dX11_about_53 rfl rfl ?_
      refine V_get (pc := 54) h 0 52 (.ref (a 24)) fl_X11_104_X11 oM_0 rfl rfl dX11_about_54 ?_
      refine V_iload_n (pc := 57) h 3 dX11_about_57 rfl rfl ?_
      refine V_iconst (pc := 58) (v := 0) h dX11_about_58 (by decide) ?_
      refine V_iast (pc := 59) h 24 oM_24 dX11_about_59 (fun S1 => ?_)
      refine V_iincB (pc := 60) h 3 (1 : Int32) (fun x2 => [(3, .int x2), (0, .ref (a 0)), (1, .int v1), (2, .int v2)]) dX11_about_60 rfl (by decide) (by decide) (fun _ => rfl) (fun x2 => ?_)
      refine V_goto (pc := 63) h 47 dX11_about_63 (by decide) ?_
      exact V_ls [1, 2, 3, 0] rfl (ih v1 v2 x2 S1)
def m_about_b25 (v1 : Int32) (v2 : Int32) (S : St) : Option (Int32 × St) := (bI (m_isIn (v2.toInt64) (1 : Int64) (30 : Int64) S) (fun x2 S1 => (if x2 = 0 then (some ((-100000000 : Int32), S1)) else (bV (m_keep S1) (fun S3 => (m_about_h47 FU v1 v2 (0 : Int32) S3))))))
set_option maxHeartbeats 4000000 in
set_option maxRecDepth 100000 in
theorem m_about_b25_ok {d : Nat} (h : Cx p s m c cX11_about 6 RX11 s0 args0 D ca a A) (hr : meth.sig.returnType = some .int) (hlk : meth.locks = false) (hD : 50 ≤ d) (v1 : Int32) (v2 : Int32) (S : St) : VV p l e (rmd d) s m args below meth c D ca tpM a A 6 (QmI D ca tpM a A below args s) S [(0, .ref (a 0)), (1, .int v1), (2, .int v2)] 25 [] (m_about_b25 v1 v2 S) := by
  unfold m_about_b25
  refine V_iload_n (pc := 25) h 2 dX11_about_25 rfl rfl ?_
  refine V_i2l (pc := 26) h dX11_about_26 ?_
  refine V_lconst (pc := 27) (v := 1) h dX11_about_27 (by decide) ?_
  refine V_ldc2 (pc := 28) (v := 30) h dX11_about_28 tw_7_50 ?_
  refine V_callSI (pc := 31) (dy := 1) h [.long (v2.toInt64), .long (1 : Int64), .long (30 : Int64)] [] ms_X11_240 dX11_about_31 rfl rfl (Nat.le_of_ble_eq_true rfl) (Nat.le_trans (by decide) hD) (m_isIn (v2.toInt64) (1 : Int64) (30 : Int64) S) (fun z9 hz9 => m_isIn_ct h.gg (Nat.le_refl 1) (v2.toInt64) (1 : Int64) (30 : Int64) S z9 hz9) (fun x2 S1 => ?_)
  refine V_if_ne (pc := 34) h 41 dX11_about_34 (by decide) ?_ ?_
  · refine V_aload_n (pc := 41) h 0 dX11_about_41 rfl rfl ?_
    refine V_callVV (pc := 42) (dy := 1) (q := (RX11, TX11, 59)) h [] [] 0 mv_X11_375 oM_0 rfl dX11_about_42 rfl rfl (Nat.le_of_ble_eq_true rfl) (Nat.le_trans (by decide) hD) (m_keep S1) (fun z9 hz9 => m_keep_ct h.gg (Nat.le_refl 1) S1 z9 hz9) (fun S3 => ?_)
    refine V_iconst (pc := 45) (v := 0) h dX11_about_45 (by decide) ?_
    refine V_istore_n (pc := 46) h [(3, .int (0 : Int32)), (0, .ref (a 0)), (1, .int v1), (2, .int v2)] dX11_about_46 rfl (by decide) rfl ?_
    exact V_ls [1, 2, 3, 0] rfl (m_about_h47_ok h hr hlk hD FU v1 v2 (0 : Int32) S3)
  · refine V_ldcw (pc := 37) (v := -100000000) h dX11_about_37 tw_7_12 ?_
    exact V_iret (pc := 40) h hr hlk dX11_about_40
def m_about (v1 : Int32) (v2 : Int32) (S : St) : Option (Int32 × St) := (bnd (up2 S 0 0 (0 : Int32)) (fun S1 => (if (S1 0 24) = 0 then (some ((-100000000 : Int32), S1)) else (if v1 = (-1 : Int32) then (m_about_b25 v1 v2 S1) else (bI (m_isHouse v1 S1) (fun x3 S2 => (if x3 = 0 then (some ((-100000000 : Int32), S2)) else (m_about_b25 v1 v2 S2))))))))
set_option maxHeartbeats 4000000 in
set_option maxRecDepth 100000 in
theorem m_about_ok {d : Nat} (h : Cx p s m c cX11_about 6 RX11 s0 args0 D ca a A) (hr : meth.sig.returnType = some .int) (hlk : meth.locks = false) (hD : 50 ≤ d) (v1 : Int32) (v2 : Int32) (S : St) : VV p l e (rmd d) s m args below meth c D ca tpM a A 6 (QmI D ca tpM a A below args s) S [(0, .ref (a 0)), (1, .int v1), (2, .int v2)] 0 [] (m_about v1 v2 S) := by
  unfold m_about
  refine V_aload_n (pc := 0) h 0 dX11_about_0 rfl rfl ?_
  refine V_iconst (pc := 1) (v := 0) h dX11_about_1 (by decide) ?_
  refine V_put (pc := 2) h 0 0 (0 : Int32) fp_X11_119_X11 oM_0 rfl rfl rfl rfl dX11_about_2 (fun S1 => ?_)
  refine V_aload_n (pc := 5) h 0 dX11_about_5 rfl rfl ?_
  refine V_get (pc := 6) h 0 24 (.int (S1 0 24)) fl_X11_289_X11 oM_0 rfl rfl dX11_about_6 ?_
  refine V_if_eq (pc := 9) h 37 dX11_about_9 (by decide) ?_ ?_
  · refine V_ldcw (pc := 37) (v := -100000000) h dX11_about_37 tw_7_12 ?_
    exact V_iret (pc := 40) h hr hlk dX11_about_40
  · refine V_iload_n (pc := 12) h 1 dX11_about_12 rfl rfl ?_
    refine V_iconst (pc := 13) (v := -1) h dX11_about_13 (by decide) ?_
    refine V_icmp_eq (pc := 14) h 25 dX11_about_14 (by decide) ?_ ?_
    · exact V_ls [0, 1, 2] rfl (m_about_b25_ok h hr hlk hD v1 v2 S1)
    · refine V_aload_n (pc := 17) h 0 dX11_about_17 rfl rfl ?_
      refine V_iload_n (pc := 18) h 1 dX11_about_18 rfl rfl ?_
      refine V_callVI (pc := 19) (dy := 1) (q := (RX11, TX11, 59)) h [.int v1] [] 0 mv_X11_301 oM_0 rfl dX11_about_19 rfl rfl (Nat.le_of_ble_eq_true rfl) (Nat.le_trans (by decide) hD) (m_isHouse v1 S1) (fun z9 hz9 => m_isHouse_ct h.gg (Nat.le_refl 1) v1 S1 z9 hz9) (fun x3 S2 => ?_)
      refine V_if_eq (pc := 22) h 37 dX11_about_22 (by decide) ?_ ?_
      · refine V_ldcw (pc := 37) (v := -100000000) h dX11_about_37 tw_7_12 ?_
        exact V_iret (pc := 40) h hr hlk dX11_about_40
      · exact V_ls [0, 1, 2] rfl (m_about_b25_ok h hr hlk hD v1 v2 S2)
theorem m_about_ct {d : Nat} (g : GG s0 args0 D ca a A) (hD : 50 ≤ d) (v1 : Int32) (v2 : Int32) (S : St) (z : Int32 × St) (hz : m_about v1 v2 S = some z) : CtI l yX11_about cX11_about 6 .int d s0 D ca tpM a A [.ref (a 0), .int v1, .int v2] S z := CtI_mk g (by decide +kernel) (Nat.le_of_ble_eq_true rfl) hz (fun p e s m args below meth c h hr hlk => m_about_ok h hr hlk hD v1 v2 S)
def m_layPoison (v1 : Int32) (v2 : Int32) (S : St) : Option St := (bnd (up2 S 0 40 v1) (fun S1 => (bnd (up2 S1 0 41 v2) (fun S2 => (bV (m_noon (S2 0 32) S2) (fun S3 => (bnd (up2 S3 0 40 (-1 : Int32)) (fun S4 => (some S4)))))))))
set_option maxHeartbeats 4000000 in
set_option maxRecDepth 100000 in
theorem m_layPoison_ok {d : Nat} (h : Cx p s m c cX11_layPoison 3 RX11 s0 args0 D ca a A) (hr : meth.sig.returnType = none) (hlk : meth.locks = false) (hD : 4 ≤ d) (v1 : Int32) (v2 : Int32) (S : St) : VV p l e (rmd d) s m args below meth c D ca tpM a A 3 (QmV D ca tpM a A below args s) S [(0, .ref (a 0)), (1, .int v1), (2, .int v2)] 0 [] (m_layPoison v1 v2 S) := by
  unfold m_layPoison
  refine V_aload_n (pc := 0) h 0 dX11_layPoison_0 rfl rfl ?_
  refine V_iload_n (pc := 1) h 1 dX11_layPoison_1 rfl rfl ?_
  refine V_put (pc := 2) h 0 40 v1 fp_X11_86_X11 oM_0 rfl rfl rfl rfl dX11_layPoison_2 (fun S1 => ?_)
  refine V_aload_n (pc := 5) h 0 dX11_layPoison_5 rfl rfl ?_
  refine V_iload_n (pc := 6) h 2 dX11_layPoison_6 rfl rfl ?_
  refine V_put (pc := 7) h 0 41 v2 fp_X11_327_X11 oM_0 rfl rfl rfl rfl dX11_layPoison_7 (fun S2 => ?_)
  refine V_aload_n (pc := 10) h 0 dX11_layPoison_10 rfl rfl ?_
  refine V_aload_n (pc := 11) h 0 dX11_layPoison_11 rfl rfl ?_
  refine V_get (pc := 12) h 0 32 (.int (S2 0 32)) fl_X11_292_X11 oM_0 rfl rfl dX11_layPoison_12 ?_
  refine V_callVV (pc := 15) (dy := 3) (q := (RX11, TX11, 59)) h [.int (S2 0 32)] [] 0 mv_X11_338 oM_0 rfl dX11_layPoison_15 rfl rfl (Nat.le_of_ble_eq_true rfl) (Nat.le_trans (by decide) hD) (m_noon (S2 0 32) S2) (fun z9 hz9 => m_noon_ct h.gg (Nat.le_refl 3) (S2 0 32) S2 z9 hz9) (fun S3 => ?_)
  refine V_aload_n (pc := 18) h 0 dX11_layPoison_18 rfl rfl ?_
  refine V_iconst (pc := 19) (v := -1) h dX11_layPoison_19 (by decide) ?_
  refine V_put (pc := 20) h 0 40 (-1 : Int32) fp_X11_86_X11 oM_0 rfl rfl rfl rfl dX11_layPoison_20 (fun S4 => ?_)
  exact V_vret (pc := 23) h hr hlk dX11_layPoison_23
theorem m_layPoison_ct {d : Nat} (g : GG s0 args0 D ca a A) (hD : 4 ≤ d) (v1 : Int32) (v2 : Int32) (S : St) (z : St) (hz : m_layPoison v1 v2 S = some z) : CtV l yX11_layPoison cX11_layPoison 3 d s0 D ca tpM a A [.ref (a 0), .int v1, .int v2] S z := CtV_mk g (by decide +kernel) (Nat.le_of_ble_eq_true rfl) hz (fun p e s m args below meth c h hr hlk => m_layPoison_ok h hr hlk hD v1 v2 S)
def m_poisonOf (v1 : Int32) (S : St) : Option (Int32 × St) := (ckM (((6 : Int32) * v1) + (5 : Int32)) 36 (some ((S 16 (((6 : Int32) * v1) + (5 : Int32)).toNatClampNeg), S)))
set_option maxHeartbeats 4000000 in
set_option maxRecDepth 100000 in
theorem m_poisonOf_ok {d : Nat} (h : Cx p s m c cX11_poisonOf 2 RX11 s0 args0 D ca a A) (hr : meth.sig.returnType = some .int) (hlk : meth.locks = false) (hD : 1 ≤ d) (v1 : Int32) (S : St) : VV p l e (rmd d) s m args below meth c D ca tpM a A 2 (QmI D ca tpM a A below args s) S [(0, .ref (a 0)), (1, .int v1)] 0 [] (m_poisonOf v1 S) := by
  unfold m_poisonOf
  refine V_aload_n (pc := 0) h 0 dX11_poisonOf_0 rfl rfl ?_
  refine V_get (pc := 1) h 0 35 (.ref (a 16)) fl_X11_74_X11 oM_0 rfl rfl dX11_poisonOf_1 ?_
  refine V_bipush (pc := 4) (v := 6) h dX11_poisonOf_4 (by decide) ?_
  refine V_iload_n (pc := 6) h 1 dX11_poisonOf_6 rfl rfl ?_
  refine V_imul (pc := 7) h dX11_poisonOf_7 ?_
  refine V_iconst (pc := 8) (v := 5) h dX11_poisonOf_8 (by decide) ?_
  refine V_iadd (pc := 9) h dX11_poisonOf_9 ?_
  refine V_iald (pc := 10) h 16 oM_16 dX11_poisonOf_10 ?_
  exact V_iret (pc := 11) h hr hlk dX11_poisonOf_11
theorem m_poisonOf_ct {d : Nat} (g : GG s0 args0 D ca a A) (hD : 1 ≤ d) (v1 : Int32) (S : St) (z : Int32 × St) (hz : m_poisonOf v1 S = some z) : CtI l yX11_poisonOf cX11_poisonOf 2 .int d s0 D ca tpM a A [.ref (a 0), .int v1] S z := CtI_mk g (by decide +kernel) (Nat.le_of_ble_eq_true rfl) hz (fun p e s m args below meth c h hr hlk => m_poisonOf_ok h hr hlk hD v1 S)
def m_poison (v1 : Int32) (v2 : Int32) (v3 : Int32) (S : St) : Option (Int32 × St) := (bnd (up2 S 0 0 (0 : Int32)) (fun S1 => (bI (m_isHouse v1 S1) (fun x3 S2 => (if x3 = 0 then (some ((-1 : Int32), S2)) else (bI (m_isHouse v3 S2) (fun x5 S4 => (if x5 = 0 then (some ((-1 : Int32), S4)) else (bI (m_isIn (v2.toInt64) (1 : Int64) (99 : Int64) S4) (fun x7 S6 => (if x7 = 0 then (some ((-1 : Int32), S6)) else (bV (m_layPoison v1 v2 S6) (fun S8 => (bI (m_poisonOf v3 S8) (fun x10 S9 => (some (x10, S9)))))))))))))))))
set_option maxHeartbeats 4000000 in
set_option maxRecDepth 100000 in
theorem m_poison_ok {d : Nat} (h : Cx p s m c cX11_poison 4 RX11 s0 args0 D ca a A) (hr : meth.sig.returnType = some .int) (hlk : meth.locks = false) (hD : 5 ≤ d) (v1 : Int32) (v2 : Int32) (v3 : Int32) (S : St) : VV p l e (rmd d) s m args below meth c D ca tpM a A 4 (QmI D ca tpM a A below args s) S [(0, .ref (a 0)), (1, .int v1), (2, .int v2), (3, .int v3)] 0 [] (m_poison v1 v2 v3 S) := by
  unfold m_poison
  refine V_aload_n (pc := 0) h 0 dX11_poison_0 rfl rfl ?_
  refine V_iconst (pc := 1) (v := 0) h dX11_poison_1 (by decide) ?_
  refine V_put (pc := 2) h 0 0 (0 : Int32) fp_X11_119_X11 oM_0 rfl rfl rfl rfl dX11_poison_2 (fun S1 => ?_)
  refine V_aload_n (pc := 5) h 0 dX11_poison_5 rfl rfl ?_
  refine V_iload_n (pc := 6) h 1 dX11_poison_6 rfl rfl ?_
  refine V_callVI (pc := 7) (dy := 1) (q := (RX11, TX11, 59)) h [.int v1] [] 0 mv_X11_301 oM_0 rfl dX11_poison_7 rfl rfl (Nat.le_of_ble_eq_true rfl) (Nat.le_trans (by decide) hD) (m_isHouse v1 S1) (fun z9 hz9 => m_isHouse_ct h.gg (Nat.le_refl 1) v1 S1 z9 hz9) (fun x3 S2 => ?_)
  refine V_if_eq (pc := 10) h 33 dX11_poison_10 (by decide) ?_ ?_
  · refine V_iconst (pc := 33) (v := -1) h dX11_poison_33 (by decide) ?_
    exact V_iret (pc := 34) h hr hlk dX11_poison_34
  · refine V_aload_n (pc := 13) h 0 dX11_poison_13 rfl rfl ?_
    refine V_iload_n (pc := 14) h 3 dX11_poison_14 rfl rfl ?_
    refine V_callVI (pc := 15) (dy := 1) (q := (RX11, TX11, 59)) h [.int v3] [] 0 mv_X11_301 oM_0 rfl dX11_poison_15 rfl rfl (Nat.le_of_ble_eq_true rfl) (Nat.le_trans (by decide) hD) (m_isHouse v3 S2) (fun z9 hz9 => m_isHouse_ct h.gg (Nat.le_refl 1) v3 S2 z9 hz9) (fun x5 S4 => ?_)
    refine V_if_eq (pc := 18) h 33 dX11_poison_18 (by decide) ?_ ?_
    · refine V_iconst (pc := 33) (v := -1) h dX11_poison_33 (by decide) ?_
      exact V_iret (pc := 34) h hr hlk dX11_poison_34
    · refine V_iload_n (pc := 21) h 2 dX11_poison_21 rfl rfl ?_
      refine V_i2l (pc := 22) h dX11_poison_22 ?_
      refine V_lconst (pc := 23) (v := 1) h dX11_poison_23 (by decide) ?_
      refine V_ldc2 (pc := 24) (v := 99) h dX11_poison_24 tw_7_7 ?_
      refine V_callSI (pc := 27) (dy := 1) h [.long (v2.toInt64), .long (1 : Int64), .long (99 : Int64)] [] ms_X11_240 dX11_poison_27 rfl rfl (Nat.le_of_ble_eq_true rfl) (Nat.le_trans (by decide) hD) (m_isIn (v2.toInt64) (1 : Int64) (99 : Int64) S4) (fun z9 hz9 => m_isIn_ct h.gg (Nat.le_refl 1) (v2.toInt64) (1 : Int64) (99 : Int64) S4 z9 hz9) (fun x7 S6 => ?_)
      refine V_if_ne (pc := 30) h 35 dX11_poison_30 (by decide) ?_ ?_
      · refine V_aload_n (pc := 35) h 0 dX11_poison_35 rfl rfl ?_
        refine V_iload_n (pc := 36) h 1 dX11_poison_36 rfl rfl ?_
        refine V_iload_n (pc := 37) h 2 dX11_poison_37 rfl rfl ?_
        refine V_callVV (pc := 38) (dy := 4) (q := (RX11, TX11, 59)) h [.int v1, .int v2] [] 0 mv_X11_385 oM_0 rfl dX11_poison_38 rfl rfl (Nat.le_of_ble_eq_true rfl) (Nat.le_trans (by decide) hD) (m_layPoison v1 v2 S6) (fun z9 hz9 => m_layPoison_ct h.gg (Nat.le_refl 4) v1 v2 S6 z9 hz9) (fun S8 => ?_)
        refine V_aload_n (pc := 41) h 0 dX11_poison_41 rfl rfl ?_
        refine V_iload_n (pc := 42) h 3 dX11_poison_42 rfl rfl ?_
        refine V_callVI (pc := 43) (dy := 1) (q := (RX11, TX11, 59)) h [.int v3] [] 0 mv_X11_388 oM_0 rfl dX11_poison_43 rfl rfl (Nat.le_of_ble_eq_true rfl) (Nat.le_trans (by decide) hD) (m_poisonOf v3 S8) (fun z9 hz9 => m_poisonOf_ct h.gg (Nat.le_refl 1) v3 S8 z9 hz9) (fun x10 S9 => ?_)
        exact V_iret (pc := 46) h hr hlk dX11_poison_46
      · refine V_iconst (pc := 33) (v := -1) h dX11_poison_33 (by decide) ?_
        exact V_iret (pc := 34) h hr hlk dX11_poison_34
theorem m_poison_ct {d : Nat} (g : GG s0 args0 D ca a A) (hD : 5 ≤ d) (v1 : Int32) (v2 : Int32) (v3 : Int32) (S : St) (z : Int32 × St) (hz : m_poison v1 v2 v3 S = some z) : CtI l yX11_poison cX11_poison 4 .int d s0 D ca tpM a A [.ref (a 0), .int v1, .int v2, .int v3] S z := CtI_mk g (by decide +kernel) (Nat.le_of_ble_eq_true rfl) hz (fun p e s m args below meth c h hr hlk => m_poison_ok h hr hlk hD v1 v2 v3 S)
def m_guilty_b109 (L58 : Int32 → Int32 → Int32 → Int32 → Int32 → St → Option (Int32 × St)) (L80 : Int32 → Int32 → Int32 → Int32 → Int32 → Int32 → Int32 → St → Option (Int32 × St)) (v1 : Int32) (v2 : Int32) (v3 : Int32) (v4 : Int32) (v5 : Int32) (v7 : Int32) (k0 : Int32) (k1 : Int32) (S : St) : Option (Int32 × St) := (bnd (k1 ||| k0) (fun x1 => (bnd (v7 + (1 : Int32)) (fun x2 => (L80 v1 v2 v3 v4 v5 x1 x2 S)))))
set_option maxHeartbeats 4000000 in
set_option maxRecDepth 100000 in
theorem m_guilty_b109_ok {d : Nat} (h : Cx p s m c cX11_guilty 8 RX11 s0 args0 D ca a A) (hr : meth.sig.returnType = some .int) (hlk : meth.locks = false) (hD : 5 ≤ d) (L58 : Int32 → Int32 → Int32 → Int32 → Int32 → St → Option (Int32 × St)) (hL58 : ∀ (v1 : Int32) (v2 : Int32) (v3 : Int32) (v4 : Int32) (v5 : Int32) (S : St), VV p l e (rmd d) s m args below meth c D ca tpM a A 8 (QmI D ca tpM a A below args s) S [(0, .ref (a 0)), (1, .int v1), (2, .int v2), (3, .int v3), (4, .int v4), (5, .int v5)] 58 [] (L58 v1 v2 v3 v4 v5 S)) (L80 : Int32 → Int32 → Int32 → Int32 → Int32 → Int32 → Int32 → St → Option (Int32 × St)) (hL80 : ∀ (v1 : Int32) (v2 : Int32) (v3 : Int32) (v4 : Int32) (v5 : Int32) (v6 : Int32) (v7 : Int32) (S : St), VV p l e (rmd d) s m args below meth c D ca tpM a A 8 (QmI D ca tpM a A below args s) S [(0, .ref (a 0)), (1, .int v1), (2, .int v2), (3, .int v3), (4, .int v4), (5, .int v5), (6, .int v6), (7, .int v7)] 80 [] (L80 v1 v2 v3 v4 v5 v6 v7 S)) (v1 : Int32) (v2 : Int32) (v3 : Int32) (v4 : Int32) (v5 : Int32) (v7 : Int32) (k0 : Int32) (k1 : Int32) (S : St) : VV p l e (rmd d) s m args below meth c D ca tpM a A 8 (QmI D ca tpM a A below args s) S [(0, .ref (a 0)), (1, .int v1), (2, .int v2), (3, .int v3), (4, .int v4), (5, .int v5), (7, .int v7)] 109 [.int k0, .int k1] (m_guilty_b109 L58 L80 v1 v2 v3 v4 v5 v7 k0 k1 S) := by
  unfold m_guilty_b109
  refine V_ior (pc := 109) h dX11_guilty_109 ?_
  refine V_top (fun x1 => ?_)
  refine V_istore (pc := 110) h [(6, .int x1), (0, .ref (a 0)), (1, .int v1), (2, .int v2), (3, .int v3), (4, .int v4), (5, .int v5), (7, .int v7)] dX11_guilty_110 (by decide) rfl ?_
  refine V_iincB (pc := 112) h 7 (1 : Int32) (fun x2 => [(7, .int x2), (6, .int x1), (0, .ref (a 0)), (1, .int v1), (2, .int v2), (3, .int v3), (4, .int v4), (5, .int v5)]) dX11_guilty_112 rfl (by decide) (by decide) (fun _ => rfl) (fun x2 => ?_)
  refine V_goto (pc := 115) h 80 dX11_guilty_115 (by decide) ?_
  exact V_ls [2, 3, 4, 5, 6, 7, 1, 0] rfl (hL80 v1 v2 v3 v4 v5 x1 x2 S)
def m_guilty_b134 (L58 : Int32 → Int32 → Int32 → Int32 → Int32 → St → Option (Int32 × St)) (v1 : Int32) (v2 : Int32) (v3 : Int32) (v5 : Int32) (k0 : Int32) (k1 : Int32) (S : St) : Option (Int32 × St) := (bnd (k1 ||| k0) (fun x1 => (bnd (v5 + (1 : Int32)) (fun x2 => (L58 v1 v2 v3 x1 x2 S)))))
set_option maxHeartbeats 4000000 in
set_option maxRecDepth 100000 in
theorem m_guilty_b134_ok {d : Nat} (h : Cx p s m c cX11_guilty 8 RX11 s0 args0 D ca a A) (hr : meth.sig.returnType = some .int) (hlk : meth.locks = false) (hD : 5 ≤ d) (L58 : Int32 → Int32 → Int32 → Int32 → Int32 → St → Option (Int32 × St)) (hL58 : ∀ (v1 : Int32) (v2 : Int32) (v3 : Int32) (v4 : Int32) (v5 : Int32) (S : St), VV p l e (rmd d) s m args below meth c D ca tpM a A 8 (QmI D ca tpM a A below args s) S [(0, .ref (a 0)), (1, .int v1), (2, .int v2), (3, .int v3), (4, .int v4), (5, .int v5)] 58 [] (L58 v1 v2 v3 v4 v5 S)) (v1 : Int32) (v2 : Int32) (v3 : Int32) (v5 : Int32) (k0 : Int32) (k1 : Int32) (S : St) : VV p l e (rmd d) s m args below meth c D ca tpM a A 8 (QmI D ca tpM a A below args s) S [(0, .ref (a 0)), (1, .int v1), (2, .int v2), (3, .int v3), (5, .int v5)] 134 [.int k0, .int k1] (m_guilty_b134 L58 v1 v2 v3 v5 k0 k1 S) := by
  unfold m_guilty_b134
  refine V_ior (pc := 134) h dX11_guilty_134 ?_
  refine V_top (fun x1 => ?_)
  refine V_istore (pc := 135) h [(4, .int x1), (0, .ref (a 0)), (1, .int v1), (2, .int v2), (3, .int v3), (5, .int v5)] dX11_guilty_135 (by decide) rfl ?_
  refine V_iincB (pc := 137) h 5 (1 : Int32) (fun x2 => [(5, .int x2), (4, .int x1), (0, .ref (a 0)), (1, .int v1), (2, .int v2), (3, .int v3)]) dX11_guilty_137 rfl (by decide) (by decide) (fun _ => rfl) (fun x2 => ?_)
  refine V_goto (pc := 140) h 58 dX11_guilty_140 (by decide) ?_
  exact V_ls [2, 3, 4, 5, 1, 0] rfl (hL58 v1 v2 v3 x1 x2 S)
def m_guilty_h80 (L58 : Int32 → Int32 → Int32 → Int32 → Int32 → St → Option (Int32 × St)) : Nat → Int32 → Int32 → Int32 → Int32 → Int32 → Int32 → Int32 → St → Option (Int32 × St)
  | 0, _, _, _, _, _, _, _, _ => none
  | n + 1, v1, v2, v3, v4, v5, v6, v7, S => (if (S 0 24) ≤ v7 then (if v6 = v3 then (m_guilty_b134 L58 v1 v2 v3 v5 ((1 : Int32) <<< (v5 &&& 31)) v4 S) else (m_guilty_b134 L58 v1 v2 v3 v5 (0 : Int32) v4 S)) else (bI (m_poisonOf v7 S) (fun x2 S1 => (if x2 < v2 then (m_guilty_b109 L58 (m_guilty_h80 L58 n) v1 v2 v3 v4 v5 v7 (0 : Int32) v6 S1) else (m_guilty_b109 L58 (m_guilty_h80 L58 n) v1 v2 v3 v4 v5 v7 ((1 : Int32) <<< (v7 &&& 31)) v6 S1)))))
set_option maxHeartbeats 4000000 in
set_option maxRecDepth 100000 in
theorem m_guilty_h80_ok {d : Nat} (h : Cx p s m c cX11_guilty 8 RX11 s0 args0 D ca a A) (hr : meth.sig.returnType = some .int) (hlk : meth.locks = false) (hD : 5 ≤ d) (L58 : Int32 → Int32 → Int32 → Int32 → Int32 → St → Option (Int32 × St)) (hL58 : ∀ (v1 : Int32) (v2 : Int32) (v3 : Int32) (v4 : Int32) (v5 : Int32) (S : St), VV p l e (rmd d) s m args below meth c D ca tpM a A 8 (QmI D ca tpM a A below args s) S [(0, .ref (a 0)), (1, .int v1), (2, .int v2), (3, .int v3), (4, .int v4), (5, .int v5)] 58 [] (L58 v1 v2 v3 v4 v5 S)) : ∀ (n : Nat) (v1 : Int32) (v2 : Int32) (v3 : Int32) (v4 : Int32) (v5 : Int32) (v6 : Int32) (v7 : Int32) (S : St), VV p l e (rmd d) s m args below meth c D ca tpM a A 8 (QmI D ca tpM a A below args s) S [(0, .ref (a 0)), (1, .int v1), (2, .int v2), (3, .int v3), (4, .int v4), (5, .int v5), (6, .int v6), (7, .int v7)] 80 [] (m_guilty_h80 L58 n v1 v2 v3 v4 v5 v6 v7 S) := by
  intro n
  induction n with
  | zero => intro v1 v2 v3 v4 v5 v6 v7 S; exact V_none
  | succ n ih =>
    intro v1 v2 v3 v4 v5 v6 v7 S
    unfold m_guilty_h80
    refine V_iload (pc := 80) h 7 dX11_guilty_80 rfl ?_
    refine V_aload_n (pc := 82) h 0 dX11_guilty_82 rfl rfl ?_
    refine V_get (pc := 83) h 0 24 (.int (S 0 24)) fl_X11_289_X11 oM_0 rfl rfl dX11_guilty_83 ?_
    refine V_icmp_ge (pc := 86) h 118 dX11_guilty_86 (by decide) ?_ ?_
    · refine V_iload (pc := 118) h 4 dX11_guilty_118 rfl ?_
      refine V_iload (pc := 120) h 6 dX11_guilty_120 rfl ?_
      refine V_iload_n (pc := 122) h 3 dX11_guilty_122 rfl rfl ?_
      refine V_icmp_ne (pc := 123) h 133 dX11_guilty_123 (by decide) ?_ ?_
      · refine V_iconst (pc := 133) (v := 0) h dX11_guilty_133 (by decide) ?_
        exact V_ls [0, 1, 2, 3, 5] rfl (m_guilty_b134_ok h hr hlk hD L58 hL58 v1 v2 v3 v5 (0 : Int32) v4 S)
      · refine V_iconst (pc := 126) (v := 1) h dX11_guilty_126 (by decide) ?_
        refine V_iload (pc := 127) h 5 dX11_guilty_127 rfl ?_
        refine V_ishl (pc := 129) h dX11_guilty_129 ?_
        refine V_goto (pc := 130) h 134 dX11_guilty_130 (by decide) ?_
        exact V_ls [0, 1, 2, 3, 5] rfl (m_guilty_b134_ok h hr hlk hD L58 hL58 v1 v2 v3 v5 ((1 : Int32) <<< (v5 &&& 31)) v4 S)
    · refine V_iload (pc := 89) h 6 dX11_guilty_89 rfl ?_
      refine V_aload_n (pc := 91) h 0 dX11_guilty_91 rfl rfl ?_
      refine V_iload (pc := 92) h 7 dX11_guilty_92 rfl ?_
      refine V_callVI (pc := 94) (dy := 1) (q := (RX11, TX11, 59)) h [.int v7] [.int v6] 0 mv_X11_388 oM_0 rfl dX11_guilty_94 rfl rfl (Nat.le_of_ble_eq_true rfl) (Nat.le_trans (by decide) hD) (m_poisonOf v7 S) (fun z9 hz9 => m_poisonOf_ct h.gg (Nat.le_refl 1) v7 S z9 hz9) (fun x2 S1 => ?_)
      refine V_iload_n (pc := 97) h 2 dX11_guilty_97 rfl rfl ?_
      refine V_icmp_lt (pc := 98) h 108 dX11_guilty_98 (by decide) ?_ ?_
      · refine V_iconst (pc := 108) (v := 0) h dX11_guilty_108 (by decide) ?_
        exact V_ls [0, 1, 2, 3, 4, 5, 7] rfl (m_guilty_b109_ok h hr hlk hD L58 hL58 (m_guilty_h80 L58 n) ih v1 v2 v3 v4 v5 v7 (0 : Int32) v6 S1)
      · refine V_iconst (pc := 101) (v := 1) h dX11_guilty_101 (by decide) ?_
        refine V_iload (pc := 102) h 7 dX11_guilty_102 rfl ?_
        refine V_ishl (pc := 104) h dX11_guilty_104 ?_
        refine V_goto (pc := 105) h 109 dX11_guilty_105 (by decide) ?_
        exact V_ls [0, 1, 2, 3, 4, 5, 7] rfl (m_guilty_b109_ok h hr hlk hD L58 hL58 (m_guilty_h80 L58 n) ih v1 v2 v3 v4 v5 v7 ((1 : Int32) <<< (v7 &&& 31)) v6 S1)
def m_guilty_h58 : Nat → Int32 → Int32 → Int32 → Int32 → Int32 → St → Option (Int32 × St)
  | 0, _, _, _, _, _, _ => none
  | n + 1, v1, v2, v3, v4, v5, S => (if (S 0 24) ≤ v5 then (some (v4, S)) else (bV (m_layPoison v5 v1 S) (fun S1 => (m_guilty_h80 (m_guilty_h58 n) FU v1 v2 v3 v4 v5 (0 : Int32) (0 : Int32) S1))))
set_option maxHeartbeats 4000000 in
set_option maxRecDepth 100000 in
theorem m_guilty_h58_ok {d : Nat} (h : Cx p s m c cX11_guilty 8 RX11 s0 args0 D ca a A) (hr : meth.sig.returnType = some .int) (hlk : meth.locks = false) (hD : 5 ≤ d) : ∀ (n : Nat) (v1 : Int32) (v2 : Int32) (v3 : Int32) (v4 : Int32) (v5 : Int32) (S : St), VV p l e (rmd d) s m args below meth c D ca tpM a A 8 (QmI D ca tpM a A below args s) S [(0, .ref (a 0)), (1, .int v1), (2, .int v2), (3, .int v3), (4, .int v4), (5, .int v5)] 58 [] (m_guilty_h58 n v1 v2 v3 v4 v5 S) := by
  intro n
  induction n with
  | zero => intro v1 v2 v3 v4 v5 S; exact V_none
  | succ n ih =>
    intro v1 v2 v3 v4 v5 S
    unfold m_guilty_h58
    refine V_iload (pc := 58) h 5 dX11_guilty_58 rfl ?_
    refine V_aload_n (pc := 60) h 0 dX11_guilty_60 rfl rfl ?_
    refine V_get (pc := 61) h 0 24 (.int (S 0 24)) fl_X11_289_X11 oM_0 rfl rfl dX11_guilty_61 ?_
    refine V_icmp_ge (pc := 64) h 143 dX11_guilty_64 (by decide) ?_ ?_
    · refine V_iload (pc := 143) h 4 dX11_guilty_143 rfl ?_
      exact V_iret (pc := 145) h hr hlk dX11_guilty_145
    · refine V_aload_n (pc := 67) h 0 dX11_guilty_67 rfl rfl ?_
      refine V_iload (pc := 68) h 5 dX11_guilty_68 rfl ?_
      refine V_iload_n (pc := 70) h 1 dX11_guilty_70 rfl rfl ?_
      refine V_callVV (pc := 71) (dy := 4) (q := (RX11, TX11, 59)) h [.int v5, .int v1] [] 0 mv_X11_385 oM_0 rfl dX11_guilty_71 rfl rfl (Nat.le_of_ble_eq_true rfl) (Nat.le_trans (by decide) hD) (m_layPoison v5 v1 S) (fun z9 hz9 => m_layPoison_ct h.gg (Nat.le_refl 4) v5 v1 S z9 hz9) (fun S1 => ?_)
      refine V_iconst (pc := 74) (v := 0) h dX11_guilty_74 (by decide) ?_
      refine V_istore (pc := 75) h [(6, .int (0 : Int32)), (0, .ref (a 0)), (1, .int v1), (2, .int v2), (3, .int v3), (4, .int v4), (5, .int v5)] dX11_guilty_75 (by decide) rfl ?_
      refine V_iconst (pc := 77) (v := 0) h dX11_guilty_77 (by decide) ?_
      refine V_istore (pc := 78) h [(7, .int (0 : Int32)), (6, .int (0 : Int32)), (0, .ref (a 0)), (1, .int v1), (2, .int v2), (3, .int v3), (4, .int v4), (5, .int v5)] dX11_guilty_78 (by decide) rfl ?_
      exact V_ls [2, 3, 4, 5, 6, 7, 1, 0] rfl (m_guilty_h80_ok h hr hlk hD (m_guilty_h58 n) ih FU v1 v2 v3 v4 v5 (0 : Int32) (0 : Int32) S1)
def m_guilty (v1 : Int32) (v2 : Int32) (v3 : Int32) (S : St) : Option (Int32 × St) := (bnd (up2 S 0 0 (0 : Int32)) (fun S1 => (if (S1 0 24) = 0 then (some ((-1 : Int32), S1)) else (bI (m_isIn (v1.toInt64) (1 : Int64) (99 : Int64) S1) (fun x3 S2 => (if x3 = 0 then (some ((-1 : Int32), S2)) else (bI (m_isIn (v2.toInt64) (1 : Int64) (99 : Int64) S2) (fun x5 S4 => (if x5 = 0 then (some ((-1 : Int32), S4)) else (if v3 < 0 then (some ((-1 : Int32), S4)) else (if v3 < ((1 : Int32) <<< ((S4 0 24) &&& 31)) then (m_guilty_h58 FU v1 v2 v3 (0 : Int32) (0 : Int32) S4) else (some ((-1 : Int32), S4)))))))))))))
set_option maxHeartbeats 4000000 in
set_option maxRecDepth 100000 in
theorem m_guilty_ok {d : Nat} (h : Cx p s m c cX11_guilty 8 RX11 s0 args0 D ca a A) (hr : meth.sig.returnType = some .int) (hlk : meth.locks = false) (hD : 5 ≤ d) (v1 : Int32) (v2 : Int32) (v3 : Int32) (S : St) : VV p l e (rmd d) s m args below meth c D ca tpM a A 8 (QmI D ca tpM a A below args s) S [(0, .ref (a 0)), (1, .int v1), (2, .int v2), (3, .int v3)] 0 [] (m_guilty v1 v2 v3 S) := by
  unfold m_guilty
  refine V_aload_n (pc := 0) h 0 dX11_guilty_0 rfl rfl ?_
  refine V_iconst (pc := 1) (v := 0) h dX11_guilty_1 (by decide) ?_
  refine V_put (pc := 2) h 0 0 (0 : Int32) fp_X11_119_X11 oM_0 rfl rfl rfl rfl dX11_guilty_2 (fun S1 => ?_)
  refine V_aload_n (pc := 5) h 0 dX11_guilty_5 rfl rfl ?_
  refine V_get (pc := 6) h 0 24 (.int (S1 0 24)) fl_X11_289_X11 oM_0 rfl rfl dX11_guilty_6 ?_
  refine V_if_eq (pc := 9) h 50 dX11_guilty_9 (by decide) ?_ ?_
  · refine V_iconst (pc := 50) (v := -1) h dX11_guilty_50 (by decide) ?_
    exact V_iret (pc := 51) h hr hlk dX11_guilty_51
  · refine V_iload_n (pc := 12) h 1 dX11_guilty_12 rfl rfl ?_
    refine V_i2l (pc := 13) h dX11_guilty_13 ?_
    refine V_lconst (pc := 14) (v := 1) h dX11_guilty_14 (by decide) ?_
    refine V_ldc2 (pc := 15) (v := 99) h dX11_guilty_15 tw_7_7 ?_
    refine V_callSI (pc := 18) (dy := 1) h [.long (v1.toInt64), .long (1 : Int64), .long (99 : Int64)] [] ms_X11_240 dX11_guilty_18 rfl rfl (Nat.le_of_ble_eq_true rfl) (Nat.le_trans (by decide) hD) (m_isIn (v1.toInt64) (1 : Int64) (99 : Int64) S1) (fun z9 hz9 => m_isIn_ct h.gg (Nat.le_refl 1) (v1.toInt64) (1 : Int64) (99 : Int64) S1 z9 hz9) (fun x3 S2 => ?_)
    refine V_if_eq (pc := 21) h 50 dX11_guilty_21 (by decide) ?_ ?_
    · refine V_iconst (pc := 50) (v := -1) h dX11_guilty_50 (by decide) ?_
      exact V_iret (pc := 51) h hr hlk dX11_guilty_51
    · refine V_iload_n (pc := 24) h 2 dX11_guilty_24 rfl rfl ?_
      refine V_i2l (pc := 25) h dX11_guilty_25 ?_
      refine V_lconst (pc := 26) (v := 1) h dX11_guilty_26 (by decide) ?_
      refine V_ldc2 (pc := 27) (v := 99) h dX11_guilty_27 tw_7_7 ?_
      refine V_callSI (pc := 30) (dy := 1) h [.long (v2.toInt64), .long (1 : Int64), .long (99 : Int64)] [] ms_X11_240 dX11_guilty_30 rfl rfl (Nat.le_of_ble_eq_true rfl) (Nat.le_trans (by decide) hD) (m_isIn (v2.toInt64) (1 : Int64) (99 : Int64) S2) (fun z9 hz9 => m_isIn_ct h.gg (Nat.le_refl 1) (v2.toInt64) (1 : Int64) (99 : Int64) S2 z9 hz9) (fun x5 S4 => ?_)
      refine V_if_eq (pc := 33) h 50 dX11_guilty_33 (by decide) ?_ ?_
      · refine V_iconst (pc := 50) (v := -1) h dX11_guilty_50 (by decide) ?_
        exact V_iret (pc := 51) h hr hlk dX11_guilty_51
      · refine V_iload_n (pc := 36) h 3 dX11_guilty_36 rfl rfl ?_
        refine V_if_lt (pc := 37) h 50 dX11_guilty_37 (by decide) ?_ ?_
        · refine V_iconst (pc := 50) (v := -1) h dX11_guilty_50 (by decide) ?_
          exact V_iret (pc := 51) h hr hlk dX11_guilty_51
        · refine V_iload_n (pc := 40) h 3 dX11_guilty_40 rfl rfl ?_
          refine V_iconst (pc := 41) (v := 1) h dX11_guilty_41 (by decide) ?_
          refine V_aload_n (pc := 42) h 0 dX11_guilty_42 rfl rfl ?_
          refine V_get (pc := 43) h 0 24 (.int (S4 0 24)) fl_X11_289_X11 oM_0 rfl rfl dX11_guilty_43 ?_
          refine V_ishl (pc := 46) h dX11_guilty_46 ?_
          refine V_icmp_lt (pc := 47) h 52 dX11_guilty_47 (by decide) ?_ ?_
          · refine V_iconst (pc := 52) (v := 0) h dX11_guilty_52 (by decide) ?_
            refine V_istore (pc := 53) h [(4, .int (0 : Int32)), (0, .ref (a 0)), (1, .int v1), (2, .int v2), (3, .int v3)] dX11_guilty_53 (by decide) rfl ?_
            refine V_iconst (pc := 55) (v := 0) h dX11_guilty_55 (by decide) ?_
            refine V_istore (pc := 56) h [(5, .int (0 : Int32)), (4, .int (0 : Int32)), (0, .ref (a 0)), (1, .int v1), (2, .int v2), (3, .int v3)] dX11_guilty_56 (by decide) rfl ?_
            exact V_ls [2, 3, 4, 5, 1, 0] rfl (m_guilty_h58_ok h hr hlk hD FU v1 v2 v3 (0 : Int32) (0 : Int32) S4)
          · refine V_iconst (pc := 50) (v := -1) h dX11_guilty_50 (by decide) ?_
            exact V_iret (pc := 51) h hr hlk dX11_guilty_51
theorem m_guilty_ct {d : Nat} (g : GG s0 args0 D ca a A) (hD : 5 ≤ d) (v1 : Int32) (v2 : Int32) (v3 : Int32) (S : St) (z : Int32 × St) (hz : m_guilty v1 v2 v3 S = some z) : CtI l yX11_guilty cX11_guilty 8 .int d s0 D ca tpM a A [.ref (a 0), .int v1, .int v2, .int v3] S z := CtI_mk g (by decide +kernel) (Nat.le_of_ble_eq_true rfl) hz (fun p e s m args below meth c h hr hlk => m_guilty_ok h hr hlk hD v1 v2 v3 S)
def m_harm_b118 (L46 : Int32 → Int32 → Int32 → Int32 → Int32 → Int32 → St → Option (Int32 × St)) (L56 : Int32 → Int32 → Int32 → Int32 → Int32 → Int32 → Int32 → St → Option (Int32 × St)) (L91 : Int32 → Int32 → Int32 → Int32 → Int32 → Int32 → Int32 → Int32 → Int32 → St → Option (Int32 × St)) (v1 : Int32) (v2 : Int32) (v3 : Int32) (v4 : Int32) (v5 : Int32) (v6 : Int32) (v7 : Int32) (v9 : Int32) (k0 : Int32) (k1 : Int32) (S : St) : Option (Int32 × St) := (bnd (k1 + k0) (fun x1 => (bnd (v9 + (1 : Int32)) (fun x2 => (L91 v1 v2 v3 v4 v5 v6 v7 x1 x2 S)))))
set_option maxHeartbeats 4000000 in
set_option maxRecDepth 100000 in
theorem m_harm_b118_ok {d : Nat} (h : Cx p s m c cX11_harm 10 RX11 s0 args0 D ca a A) (hr : meth.sig.returnType = some .int) (hlk : meth.locks = false) (hD : 5 ≤ d) (L46 : Int32 → Int32 → Int32 → Int32 → Int32 → Int32 → St → Option (Int32 × St)) (hL46 : ∀ (v1 : Int32) (v2 : Int32) (v3 : Int32) (v4 : Int32) (v5 : Int32) (v6 : Int32) (S : St), VV p l e (rmd d) s m args below meth c D ca tpM a A 10 (QmI D ca tpM a A below args s) S [(0, .ref (a 0)), (1, .int v1), (2, .int v2), (3, .int v3), (4, .int v4), (5, .int v5), (6, .int v6)] 46 [] (L46 v1 v2 v3 v4 v5 v6 S)) (L56 : Int32 → Int32 → Int32 → Int32 → Int32 → Int32 → Int32 → St → Option (Int32 × St)) (hL56 : ∀ (v1 : Int32) (v2 : Int32) (v3 : Int32) (v4 : Int32) (v5 : Int32) (v6 : Int32) (v7 : Int32) (S : St), VV p l e (rmd d) s m args below meth c D ca tpM a A 10 (QmI D ca tpM a A below args s) S [(0, .ref (a 0)), (1, .int v1), (2, .int v2), (3, .int v3), (4, .int v4), (5, .int v5), (6, .int v6), (7, .int v7)] 56 [] (L56 v1 v2 v3 v4 v5 v6 v7 S)) (L91 : Int32 → Int32 → Int32 → Int32 → Int32 → Int32 → Int32 → Int32 → Int32 → St → Option (Int32 × St)) (hL91 : ∀ (v1 : Int32) (v2 : Int32) (v3 : Int32) (v4 : Int32) (v5 : Int32) (v6 : Int32) (v7 : Int32) (v8 : Int32) (v9 : Int32) (S : St), VV p l e (rmd d) s m args below meth c D ca tpM a A 10 (QmI D ca tpM a A below args s) S [(0, .ref (a 0)), (1, .int v1), (2, .int v2), (3, .int v3), (4, .int v4), (5, .int v5), (6, .int v6), (7, .int v7), (8, .int v8), (9, .int v9)] 91 [] (L91 v1 v2 v3 v4 v5 v6 v7 v8 v9 S)) (v1 : Int32) (v2 : Int32) (v3 : Int32) (v4 : Int32) (v5 : Int32) (v6 : Int32) (v7 : Int32) (v9 : Int32) (k0 : Int32) (k1 : Int32) (S : St) : VV p l e (rmd d) s m args below meth c D ca tpM a A 10 (QmI D ca tpM a A below args s) S [(0, .ref (a 0)), (1, .int v1), (2, .int v2), (3, .int v3), (4, .int v4), (5, .int v5), (6, .int v6), (7, .int v7), (9, .int v9)] 118 [.int k0, .int k1] (m_harm_b118 L46 L56 L91 v1 v2 v3 v4 v5 v6 v7 v9 k0 k1 S) := by
  unfold m_harm_b118
  refine V_iadd (pc := 118) h dX11_harm_118 ?_
  refine V_top (fun x1 => ?_)
  refine V_istore (pc := 119) h [(8, .int x1), (0, .ref (a 0)), (1, .int v1), (2, .int v2), (3, .int v3), (4, .int v4), (5, .int v5), (6, .int v6), (7, .int v7), (9, .int v9)] dX11_harm_119 (by decide) rfl ?_
  refine V_iincB (pc := 121) h 9 (1 : Int32) (fun x2 => [(9, .int x2), (8, .int x1), (0, .ref (a 0)), (1, .int v1), (2, .int v2), (3, .int v3), (4, .int v4), (5, .int v5), (6, .int v6), (7, .int v7)]) dX11_harm_121 rfl (by decide) (by decide) (fun _ => rfl) (fun x2 => ?_)
  refine V_goto (pc := 124) h 91 dX11_harm_124 (by decide) ?_
  exact V_ls [2, 3, 4, 5, 6, 7, 8, 9, 1, 0] rfl (hL91 v1 v2 v3 v4 v5 v6 v7 x1 x2 S)
def m_harm_b157 (L46 : Int32 → Int32 → Int32 → Int32 → Int32 → Int32 → St → Option (Int32 × St)) (L56 : Int32 → Int32 → Int32 → Int32 → Int32 → Int32 → Int32 → St → Option (Int32 × St)) (v1 : Int32) (v2 : Int32) (v3 : Int32) (v4 : Int32) (v5 : Int32) (v6 : Int32) (v7 : Int32) (S : St) : Option (Int32 × St) := (bnd (v7 + (1 : Int32)) (fun x1 => (L56 v1 v2 v3 v4 v5 v6 x1 S)))
set_option maxHeartbeats 4000000 in
set_option maxRecDepth 100000 in
theorem m_harm_b157_ok {d : Nat} (h : Cx p s m c cX11_harm 10 RX11 s0 args0 D ca a A) (hr : meth.sig.returnType = some .int) (hlk : meth.locks = false) (hD : 5 ≤ d) (L46 : Int32 → Int32 → Int32 → Int32 → Int32 → Int32 → St → Option (Int32 × St)) (hL46 : ∀ (v1 : Int32) (v2 : Int32) (v3 : Int32) (v4 : Int32) (v5 : Int32) (v6 : Int32) (S : St), VV p l e (rmd d) s m args below meth c D ca tpM a A 10 (QmI D ca tpM a A below args s) S [(0, .ref (a 0)), (1, .int v1), (2, .int v2), (3, .int v3), (4, .int v4), (5, .int v5), (6, .int v6)] 46 [] (L46 v1 v2 v3 v4 v5 v6 S)) (L56 : Int32 → Int32 → Int32 → Int32 → Int32 → Int32 → Int32 → St → Option (Int32 × St)) (hL56 : ∀ (v1 : Int32) (v2 : Int32) (v3 : Int32) (v4 : Int32) (v5 : Int32) (v6 : Int32) (v7 : Int32) (S : St), VV p l e (rmd d) s m args below meth c D ca tpM a A 10 (QmI D ca tpM a A below args s) S [(0, .ref (a 0)), (1, .int v1), (2, .int v2), (3, .int v3), (4, .int v4), (5, .int v5), (6, .int v6), (7, .int v7)] 56 [] (L56 v1 v2 v3 v4 v5 v6 v7 S)) (v1 : Int32) (v2 : Int32) (v3 : Int32) (v4 : Int32) (v5 : Int32) (v6 : Int32) (v7 : Int32) (S : St) : VV p l e (rmd d) s m args below meth c D ca tpM a A 10 (QmI D ca tpM a A below args s) S [(0, .ref (a 0)), (1, .int v1), (2, .int v2), (3, .int v3), (4, .int v4), (5, .int v5), (6, .int v6), (7, .int v7)] 157 [] (m_harm_b157 L46 L56 v1 v2 v3 v4 v5 v6 v7 S) := by
  unfold m_harm_b157
  refine V_iincB (pc := 157) h 7 (1 : Int32) (fun x1 => [(7, .int x1), (0, .ref (a 0)), (1, .int v1), (2, .int v2), (3, .int v3), (4, .int v4), (5, .int v5), (6, .int v6)]) dX11_harm_157 rfl (by decide) (by decide) (fun _ => rfl) (fun x1 => ?_)
  refine V_goto (pc := 160) h 56 dX11_harm_160 (by decide) ?_
  exact V_ls [1, 2, 3, 4, 5, 6, 7, 0] rfl (hL56 v1 v2 v3 v4 v5 v6 x1 S)
def m_harm_b143 (L46 : Int32 → Int32 → Int32 → Int32 → Int32 → Int32 → St → Option (Int32 × St)) (L56 : Int32 → Int32 → Int32 → Int32 → Int32 → Int32 → Int32 → St → Option (Int32 × St)) (v1 : Int32) (v2 : Int32) (v3 : Int32) (v6 : Int32) (v7 : Int32) (v8 : Int32) (S : St) : Option (Int32 × St) := (bnd (((100 : Int32) * v7) + v6) (fun x1 => (m_harm_b157 L46 L56 v1 v2 v3 x1 v8 v6 v7 S)))
set_option maxHeartbeats 4000000 in
set_option maxRecDepth 100000 in
theorem m_harm_b143_ok {d : Nat} (h : Cx p s m c cX11_harm 10 RX11 s0 args0 D ca a A) (hr : meth.sig.returnType = some .int) (hlk : meth.locks = false) (hD : 5 ≤ d) (L46 : Int32 → Int32 → Int32 → Int32 → Int32 → Int32 → St → Option (Int32 × St)) (hL46 : ∀ (v1 : Int32) (v2 : Int32) (v3 : Int32) (v4 : Int32) (v5 : Int32) (v6 : Int32) (S : St), VV p l e (rmd d) s m args below meth c D ca tpM a A 10 (QmI D ca tpM a A below args s) S [(0, .ref (a 0)), (1, .int v1), (2, .int v2), (3, .int v3), (4, .int v4), (5, .int v5), (6, .int v6)] 46 [] (L46 v1 v2 v3 v4 v5 v6 S)) (L56 : Int32 → Int32 → Int32 → Int32 → Int32 → Int32 → Int32 → St → Option (Int32 × St)) (hL56 : ∀ (v1 : Int32) (v2 : Int32) (v3 : Int32) (v4 : Int32) (v5 : Int32) (v6 : Int32) (v7 : Int32) (S : St), VV p l e (rmd d) s m args below meth c D ca tpM a A 10 (QmI D ca tpM a A below args s) S [(0, .ref (a 0)), (1, .int v1), (2, .int v2), (3, .int v3), (4, .int v4), (5, .int v5), (6, .int v6), (7, .int v7)] 56 [] (L56 v1 v2 v3 v4 v5 v6 v7 S)) (v1 : Int32) (v2 : Int32) (v3 : Int32) (v6 : Int32) (v7 : Int32) (v8 : Int32) (S : St) : VV p l e (rmd d) s m args below meth c D ca tpM a A 10 (QmI D ca tpM a A below args s) S [(0, .ref (a 0)), (1, .int v1), (2, .int v2), (3, .int v3), (6, .int v6), (7, .int v7), (8, .int v8)] 143 [] (m_harm_b143 L46 L56 v1 v2 v3 v6 v7 v8 S) := by
  unfold m_harm_b143
  refine V_bipush (pc := 143) (v := 100) h dX11_harm_143 (by decide) ?_
  refine V_iload (pc := 145) h 5 dX11_harm_145 rfl ?_
  refine V_imul (pc := 147) h dX11_harm_147 ?_
  refine V_iload (pc := 148) h 4 dX11_harm_148 rfl ?_
  refine V_iadd (pc := 150) h dX11_harm_150 ?_
  refine V_top (fun x1 => ?_)
  refine V_istore (pc := 151) h [(4, .int x1), (0, .ref (a 0)), (1, .int v1), (2, .int v2), (3, .int v3), (6, .int v6), (7, .int v7), (8, .int v8)] dX11_harm_151 (by decide) rfl ?_
  refine V_iload (pc := 153) h 7 dX11_harm_153 rfl ?_
  refine V_istore (pc := 155) h [(5, .int v8), (4, .int x1), (0, .ref (a 0)), (1, .int v1), (2, .int v2), (3, .int v3), (6, .int v6), (7, .int v7), (8, .int v8)] dX11_harm_155 (by decide) rfl ?_
  exact V_ls [2, 3, 4, 5, 1, 0, 6, 7] rfl (m_harm_b157_ok h hr hlk hD L46 hL46 L56 hL56 v1 v2 v3 x1 v8 v6 v7 S)
def m_harm_h91 (L46 : Int32 → Int32 → Int32 → Int32 → Int32 → Int32 → St → Option (Int32 × St)) (L56 : Int32 → Int32 → Int32 → Int32 → Int32 → Int32 → Int32 → St → Option (Int32 × St)) : Nat → Int32 → Int32 → Int32 → Int32 → Int32 → Int32 → Int32 → Int32 → Int32 → St → Option (Int32 × St)
  | 0, _, _, _, _, _, _, _, _, _, _ => none
  | n + 1, v1, v2, v3, v4, v5, v6, v7, v8, v9, S => (if (S 0 24) ≤ v9 then (if v4 = (-1 : Int32) then (m_harm_b143 L46 L56 v1 v2 v3 v6 v7 v8 S) else (if v8 < v5 then (m_harm_b143 L46 L56 v1 v2 v3 v6 v7 v8 S) else (m_harm_b157 L46 L56 v1 v2 v3 v4 v5 v6 v7 S))) else (if v9 = v1 then (m_harm_b118 L46 L56 (m_harm_h91 L46 L56 n) v1 v2 v3 v4 v5 v6 v7 v9 (0 : Int32) v8 S) else (bI (m_poisonOf v9 S) (fun x2 S1 => (m_harm_b118 L46 L56 (m_harm_h91 L46 L56 n) v1 v2 v3 v4 v5 v6 v7 v9 x2 v8 S1)))))
set_option maxHeartbeats 4000000 in
set_option maxRecDepth 100000 in
theorem m_harm_h91_ok {d : Nat} (h : Cx p s m c cX11_harm 10 RX11 s0 args0 D ca a A) (hr : meth.sig.returnType = some .int) (hlk : meth.locks = false) (hD : 5 ≤ d) (L46 : Int32 → Int32 → Int32 → Int32 → Int32 → Int32 → St → Option (Int32 × St)) (hL46 : ∀ (v1 : Int32) (v2 : Int32) (v3 : Int32) (v4 : Int32) (v5 : Int32) (v6 : Int32) (S : St), VV p l e (rmd d) s m args below meth c D ca tpM a A 10 (QmI D ca tpM a A below args s) S [(0, .ref (a 0)), (1, .int v1), (2, .int v2), (3, .int v3), (4, .int v4), (5, .int v5), (6, .int v6)] 46 [] (L46 v1 v2 v3 v4 v5 v6 S)) (L56 : Int32 → Int32 → Int32 → Int32 → Int32 → Int32 → Int32 → St → Option (Int32 × St)) (hL56 : ∀ (v1 : Int32) (v2 : Int32) (v3 : Int32) (v4 : Int32) (v5 : Int32) (v6 : Int32) (v7 : Int32) (S : St), VV p l e (rmd d) s m args below meth c D ca tpM a A 10 (QmI D ca tpM a A below args s) S [(0, .ref (a 0)), (1, .int v1), (2, .int v2), (3, .int v3), (4, .int v4), (5, .int v5), (6, .int v6), (7, .int v7)] 56 [] (L56 v1 v2 v3 v4 v5 v6 v7 S)) : ∀ (n : Nat) (v1 : Int32) (v2 : Int32) (v3 : Int32) (v4 : Int32) (v5 : Int32) (v6 : Int32) (v7 : Int32) (v8 : Int32) (v9 : Int32) (S : St), VV p l e (rmd d) s m args below meth c D ca tpM a A 10 (QmI D ca tpM a A below args s) S [(0, .ref (a 0)), (1, .int v1), (2, .int v2), (3, .int v3), (4, .int v4), (5, .int v5), (6, .int v6), (7, .int v7), (8, .int v8), (9, .int v9)] 91 [] (m_harm_h91 L46 L56 n v1 v2 v3 v4 v5 v6 v7 v8 v9 S) := by
  intro n
  induction n with
  | zero => intro v1 v2 v3 v4 v5 v6 v7 v8 v9 S; exact V_none
  | succ n ih =>
    intro v1 v2 v3 v4 v5 v6 v7 v8 v9 S
    unfold m_harm_h91
    refine V_iload (pc := 91) h 9 dX11_harm_91 rfl ?_
    refine V_aload_n (pc := 93) h 0 dX11_harm_93 rfl rfl ?_
    refine V_get (pc := 94) h 0 24 (.int (S 0 24)) fl_X11_289_X11 oM_0 rfl rfl dX11_harm_94 ?_
    refine V_icmp_ge (pc := 97) h 127 dX11_harm_97 (by decide) ?_ ?_
    · refine V_iload (pc := 127) h 4 dX11_harm_127 rfl ?_
      refine V_iconst (pc := 129) (v := -1) h dX11_harm_129 (by decide) ?_
      refine V_icmp_eq (pc := 130) h 143 dX11_harm_130 (by decide) ?_ ?_
      · exact V_ls [0, 1, 2, 3, 6, 7, 8] rfl (m_harm_b143_ok h hr hlk hD L46 hL46 L56 hL56 v1 v2 v3 v6 v7 v8 S)
      · refine V_iload (pc := 133) h 8 dX11_harm_133 rfl ?_
        refine V_iload (pc := 135) h 5 dX11_harm_135 rfl ?_
        refine V_icmp_lt (pc := 137) h 143 dX11_harm_137 (by decide) ?_ ?_
        · exact V_ls [0, 1, 2, 3, 6, 7, 8] rfl (m_harm_b143_ok h hr hlk hD L46 hL46 L56 hL56 v1 v2 v3 v6 v7 v8 S)
        · refine V_goto (pc := 140) h 157 dX11_harm_140 (by decide) ?_
          exact V_ls [0, 1, 2, 3, 4, 5, 6, 7] rfl (m_harm_b157_ok h hr hlk hD L46 hL46 L56 hL56 v1 v2 v3 v4 v5 v6 v7 S)
    · refine V_iload (pc := 100) h 8 dX11_harm_100 rfl ?_
      refine V_iload (pc := 102) h 9 dX11_harm_102 rfl ?_
      refine V_iload_n (pc := 104) h 1 dX11_harm_104 rfl rfl ?_
      refine V_icmp_ne (pc := 105) h 112 dX11_harm_105 (by decide) ?_ ?_
      · refine V_aload_n (pc := 112) h 0 dX11_harm_112 rfl rfl ?_
        refine V_iload (pc := 113) h 9 dX11_harm_113 rfl ?_
        refine V_callVI (pc := 115) (dy := 1) (q := (RX11, TX11, 59)) h [.int v9] [.int v8] 0 mv_X11_388 oM_0 rfl dX11_harm_115 rfl rfl (Nat.le_of_ble_eq_true rfl) (Nat.le_trans (by decide) hD) (m_poisonOf v9 S) (fun z9 hz9 => m_poisonOf_ct h.gg (Nat.le_refl 1) v9 S z9 hz9) (fun x2 S1 => ?_)
        exact V_ls [0, 1, 2, 3, 4, 5, 6, 7, 9] rfl (m_harm_b118_ok h hr hlk hD L46 hL46 L56 hL56 (m_harm_h91 L46 L56 n) ih v1 v2 v3 v4 v5 v6 v7 v9 x2 v8 S1)
      · refine V_iconst (pc := 108) (v := 0) h dX11_harm_108 (by decide) ?_
        refine V_goto (pc := 109) h 118 dX11_harm_109 (by decide) ?_
        exact V_ls [0, 1, 2, 3, 4, 5, 6, 7, 9] rfl (m_harm_b118_ok h hr hlk hD L46 hL46 L56 hL56 (m_harm_h91 L46 L56 n) ih v1 v2 v3 v4 v5 v6 v7 v9 (0 : Int32) v8 S)
def m_harm_h56 (L46 : Int32 → Int32 → Int32 → Int32 → Int32 → Int32 → St → Option (Int32 × St)) : Nat → Int32 → Int32 → Int32 → Int32 → Int32 → Int32 → Int32 → St → Option (Int32 × St)
  | 0, _, _, _, _, _, _, _, _ => none
  | n + 1, v1, v2, v3, v4, v5, v6, v7, S => (if (S 0 24) ≤ v7 then (bnd (v6 + (1 : Int32)) (fun x1 => (L46 v1 v2 v3 v4 v5 x1 S))) else (bV (m_layPoison v7 v6 S) (fun S2 => (bI (m_poisonOf v1 S2) (fun x4 S3 => (if v2 ≤ x4 then (m_harm_h91 L46 (m_harm_h56 L46 n) FU v1 v2 v3 v4 v5 v6 v7 (0 : Int32) (0 : Int32) S3) else (m_harm_b157 L46 (m_harm_h56 L46 n) v1 v2 v3 v4 v5 v6 v7 S3)))))))
set_option maxHeartbeats 4000000 in
set_option maxRecDepth 100000 in
theorem m_harm_h56_ok {d : Nat} (h : Cx p s m c cX11_harm 10 RX11 s0 args0 D ca a A) (hr : meth.sig.returnType = some .int) (hlk : meth.locks = false) (hD : 5 ≤ d) (L46 : Int32 → Int32 → Int32 → Int32 → Int32 → Int32 → St → Option (Int32 × St)) (hL46 : ∀ (v1 : Int32) (v2 : Int32) (v3 : Int32) (v4 : Int32) (v5 : Int32) (v6 : Int32) (S : St), VV p l e (rmd d) s m args below meth c D ca tpM a A 10 (QmI D ca tpM a A below args s) S [(0, .ref (a 0)), (1, .int v1), (2, .int v2), (3, .int v3), (4, .int v4), (5, .int v5), (6, .int v6)] 46 [] (L46 v1 v2 v3 v4 v5 v6 S)) : ∀ (n : Nat) (v1 : Int32) (v2 : Int32) (v3 : Int32) (v4 : Int32) (v5 : Int32) (v6 : Int32) (v7 : Int32) (S : St), VV p l e (rmd d) s m args below meth c D ca tpM a A 10 (QmI D ca tpM a A below args s) S [(0, .ref (a 0)), (1, .int v1), (2, .int v2), (3, .int v3), (4, .int v4), (5, .int v5), (6, .int v6), (7, .int v7)] 56 [] (m_harm_h56 L46 n v1 v2 v3 v4 v5 v6 v7 S) := by
  intro n
  induction n with
  | zero => intro v1 v2 v3 v4 v5 v6 v7 S; exact V_none
  | succ n ih =>
    intro v1 v2 v3 v4 v5 v6 v7 S
    unfold m_harm_h56
    refine V_iload (pc := 56) h 7 dX11_harm_56 rfl ?_
    refine V_aload_n (pc := 58) h 0 dX11_harm_58 rfl rfl ?_
    refine V_get (pc := 59) h 0 24 (.int (S 0 24)) fl_X11_289_X11 oM_0 rfl rfl dX11_harm_59 ?_
    refine V_icmp_ge (pc := 62) h 163 dX11_harm_62 (by decide) ?_ ?_
    · refine V_iincB (pc := 163) h 6 (1 : Int32) (fun x1 => [(6, .int x1), (0, .ref (a 0)), (1, .int v1), (2, .int v2), (3, .int v3), (4, .int v4), (5, .int v5), (7, .int v7)]) dX11_harm_163 rfl (by decide) (by decide) (fun _ => rfl) (fun x1 => ?_)
      refine V_goto (pc := 166) h 46 dX11_harm_166 (by decide) ?_
      exact V_ls [1, 2, 3, 4, 5, 6, 0] rfl (hL46 v1 v2 v3 v4 v5 x1 S)
    · refine V_aload_n (pc := 65) h 0 dX11_harm_65 rfl rfl ?_
      refine V_iload (pc := 66) h 7 dX11_harm_66 rfl ?_
      refine V_iload (pc := 68) h 6 dX11_harm_68 rfl ?_
      refine V_callVV (pc := 70) (dy := 4) (q := (RX11, TX11, 59)) h [.int v7, .int v6] [] 0 mv_X11_385 oM_0 rfl dX11_harm_70 rfl rfl (Nat.le_of_ble_eq_true rfl) (Nat.le_trans (by decide) hD) (m_layPoison v7 v6 S) (fun z9 hz9 => m_layPoison_ct h.gg (Nat.le_refl 4) v7 v6 S z9 hz9) (fun S2 => ?_)
      refine V_aload_n (pc := 73) h 0 dX11_harm_73 rfl rfl ?_
      refine V_iload_n (pc := 74) h 1 dX11_harm_74 rfl rfl ?_
      refine V_callVI (pc := 75) (dy := 1) (q := (RX11, TX11, 59)) h [.int v1] [] 0 mv_X11_388 oM_0 rfl dX11_harm_75 rfl rfl (Nat.le_of_ble_eq_true rfl) (Nat.le_trans (by decide) hD) (m_poisonOf v1 S2) (fun z9 hz9 => m_poisonOf_ct h.gg (Nat.le_refl 1) v1 S2 z9 hz9) (fun x4 S3 => ?_)
      refine V_iload_n (pc := 78) h 2 dX11_harm_78 rfl rfl ?_
      refine V_icmp_ge (pc := 79) h 85 dX11_harm_79 (by decide) ?_ ?_
      · refine V_iconst (pc := 85) (v := 0) h dX11_harm_85 (by decide) ?_
        refine V_istore (pc := 86) h [(8, .int (0 : Int32)), (0, .ref (a 0)), (1, .int v1), (2, .int v2), (3, .int v3), (4, .int v4), (5, .int v5), (6, .int v6), (7, .int v7)] dX11_harm_86 (by decide) rfl ?_
        refine V_iconst (pc := 88) (v := 0) h dX11_harm_88 (by decide) ?_
        refine V_istore (pc := 89) h [(9, .int (0 : Int32)), (8, .int (0 : Int32)), (0, .ref (a 0)), (1, .int v1), (2, .int v2), (3, .int v3), (4, .int v4), (5, .int v5), (6, .int v6), (7, .int v7)] dX11_harm_89 (by decide) rfl ?_
        exact V_ls [2, 3, 4, 5, 6, 7, 8, 9, 1, 0] rfl (m_harm_h91_ok h hr hlk hD L46 hL46 (m_harm_h56 L46 n) ih FU v1 v2 v3 v4 v5 v6 v7 (0 : Int32) (0 : Int32) S3)
      · refine V_goto (pc := 82) h 157 dX11_harm_82 (by decide) ?_
        exact V_ls [0, 1, 2, 3, 4, 5, 6, 7] rfl (m_harm_b157_ok h hr hlk hD L46 hL46 (m_harm_h56 L46 n) ih v1 v2 v3 v4 v5 v6 v7 S3)
def m_harm_h46 : Nat → Int32 → Int32 → Int32 → Int32 → Int32 → Int32 → St → Option (Int32 × St)
  | 0, _, _, _, _, _, _, _ => none
  | n + 1, v1, v2, v3, v4, v5, v6, S => (if (100 : Int32) ≤ v6 then (if v4 = (-1 : Int32) then (some ((-1 : Int32), S)) else (if v3 = 0 then (some (v4, S)) else (some (v5, S)))) else (m_harm_h56 (m_harm_h46 n) FU v1 v2 v3 v4 v5 v6 (0 : Int32) S))
set_option maxHeartbeats 4000000 in
set_option maxRecDepth 100000 in
theorem m_harm_h46_ok {d : Nat} (h : Cx p s m c cX11_harm 10 RX11 s0 args0 D ca a A) (hr : meth.sig.returnType = some .int) (hlk : meth.locks = false) (hD : 5 ≤ d) : ∀ (n : Nat) (v1 : Int32) (v2 : Int32) (v3 : Int32) (v4 : Int32) (v5 : Int32) (v6 : Int32) (S : St), VV p l e (rmd d) s m args below meth c D ca tpM a A 10 (QmI D ca tpM a A below args s) S [(0, .ref (a 0)), (1, .int v1), (2, .int v2), (3, .int v3), (4, .int v4), (5, .int v5), (6, .int v6)] 46 [] (m_harm_h46 n v1 v2 v3 v4 v5 v6 S) := by
  intro n
  induction n with
  | zero => intro v1 v2 v3 v4 v5 v6 S; exact V_none
  | succ n ih =>
    intro v1 v2 v3 v4 v5 v6 S
    unfold m_harm_h46
    refine V_iload (pc := 46) h 6 dX11_harm_46 rfl ?_
    refine V_bipush (pc := 48) (v := 100) h dX11_harm_48 (by decide) ?_
    refine V_icmp_ge (pc := 50) h 169 dX11_harm_50 (by decide) ?_ ?_
    · refine V_iload (pc := 169) h 4 dX11_harm_169 rfl ?_
      refine V_iconst (pc := 171) (v := -1) h dX11_harm_171 (by decide) ?_
      refine V_icmp_ne (pc := 172) h 179 dX11_harm_172 (by decide) ?_ ?_
      · refine V_iload_n (pc := 179) h 3 dX11_harm_179 rfl rfl ?_
        refine V_if_ne (pc := 180) h 188 dX11_harm_180 (by decide) ?_ ?_
        · refine V_iload (pc := 188) h 5 dX11_harm_188 rfl ?_
          exact V_iret (pc := 190) h hr hlk dX11_harm_190
        · refine V_iload (pc := 183) h 4 dX11_harm_183 rfl ?_
          refine V_goto (pc := 185) h 190 dX11_harm_185 (by decide) ?_
          exact V_iret (pc := 190) h hr hlk dX11_harm_190
      · refine V_iconst (pc := 175) (v := -1) h dX11_harm_175 (by decide) ?_
        refine V_goto (pc := 176) h 190 dX11_harm_176 (by decide) ?_
        exact V_iret (pc := 190) h hr hlk dX11_harm_190
    · refine V_iconst (pc := 53) (v := 0) h dX11_harm_53 (by decide) ?_
      refine V_istore (pc := 54) h [(7, .int (0 : Int32)), (0, .ref (a 0)), (1, .int v1), (2, .int v2), (3, .int v3), (4, .int v4), (5, .int v5), (6, .int v6)] dX11_harm_54 (by decide) rfl ?_
      exact V_ls [1, 2, 3, 4, 5, 6, 7, 0] rfl (m_harm_h56_ok h hr hlk hD (m_harm_h46 n) ih FU v1 v2 v3 v4 v5 v6 (0 : Int32) S)
def m_harm (v1 : Int32) (v2 : Int32) (v3 : Int32) (S : St) : Option (Int32 × St) := (bnd (up2 S 0 0 (0 : Int32)) (fun S1 => (bI (m_isHouse v1 S1) (fun x3 S2 => (if x3 = 0 then (some ((-1 : Int32), S2)) else (bI (m_isIn (v2.toInt64) (1 : Int64) (99 : Int64) S2) (fun x5 S4 => (if x5 = 0 then (some ((-1 : Int32), S4)) else (bI (m_isIn (v3.toInt64) (0 : Int64) (1 : Int64) S4) (fun x7 S6 => (if x7 = 0 then (some ((-1 : Int32), S6)) else (m_harm_h46 FU v1 v2 v3 (-1 : Int32) (0 : Int32) (1 : Int32) S6))))))))))))
set_option maxHeartbeats 4000000 in
set_option maxRecDepth 100000 in
theorem m_harm_ok {d : Nat} (h : Cx p s m c cX11_harm 10 RX11 s0 args0 D ca a A) (hr : meth.sig.returnType = some .int) (hlk : meth.locks = false) (hD : 5 ≤ d) (v1 : Int32) (v2 : Int32) (v3 : Int32) (S : St) : VV p l e (rmd d) s m args below meth c D ca tpM a A 10 (QmI D ca tpM a A below args s) S [(0, .ref (a 0)), (1, .int v1), (2, .int v2), (3, .int v3)] 0 [] (m_harm v1 v2 v3 S) := by
  unfold m_harm
  refine V_aload_n (pc := 0) h 0 dX11_harm_0 rfl rfl ?_
  refine V_iconst (pc := 1) (v := 0) h dX11_harm_1 (by decide) ?_
  refine V_put (pc := 2) h 0 0 (0 : Int32) fp_X11_119_X11 oM_0 rfl rfl rfl rfl dX11_harm_2 (fun S1 => ?_)
  refine V_aload_n (pc := 5) h 0 dX11_harm_5 rfl rfl ?_
  refine V_iload_n (pc := 6) h 1 dX11_harm_6 rfl rfl ?_
  refine V_callVI (pc := 7) (dy := 1) (q := (RX11, TX11, 59)) h [.int v1] [] 0 mv_X11_301 oM_0 rfl dX11_harm_7 rfl rfl (Nat.le_of_ble_eq_true rfl) (Nat.le_trans (by decide) hD) (m_isHouse v1 S1) (fun z9 hz9 => m_isHouse_ct h.gg (Nat.le_refl 1) v1 S1 z9 hz9) (fun x3 S2 => ?_)
  refine V_if_eq (pc := 10) h 35 dX11_harm_10 (by decide) ?_ ?_
  · refine V_iconst (pc := 35) (v := -1) h dX11_harm_35 (by decide) ?_
    exact V_iret (pc := 36) h hr hlk dX11_harm_36
  · refine V_iload_n (pc := 13) h 2 dX11_harm_13 rfl rfl ?_
    refine V_i2l (pc := 14) h dX11_harm_14 ?_
    refine V_lconst (pc := 15) (v := 1) h dX11_harm_15 (by decide) ?_
    refine V_ldc2 (pc := 16) (v := 99) h dX11_harm_16 tw_7_7 ?_
    refine V_callSI (pc := 19) (dy := 1) h [.long (v2.toInt64), .long (1 : Int64), .long (99 : Int64)] [] ms_X11_240 dX11_harm_19 rfl rfl (Nat.le_of_ble_eq_true rfl) (Nat.le_trans (by decide) hD) (m_isIn (v2.toInt64) (1 : Int64) (99 : Int64) S2) (fun z9 hz9 => m_isIn_ct h.gg (Nat.le_refl 1) (v2.toInt64) (1 : Int64) (99 : Int64) S2 z9 hz9) (fun x5 S4 => ?_)
    refine V_if_eq (pc := 22) h 35 dX11_harm_22 (by decide) ?_ ?_
    · refine V_iconst (pc := 35) (v := -1) h dX11_harm_35 (by decide) ?_
      exact V_iret (pc := 36) h hr hlk dX11_harm_36
    · refine V_iload_n (pc := 25) h 3 dX11_harm_25 rfl rfl ?_
      refine V_i2l (pc := 26) h dX11_harm_26 ?_
      refine V_lconst (pc := 27) (v := 0) h dX11_harm_27 (by decide) ?_
      refine V_lconst (pc := 28) (v := 1) h dX11_harm_28 (by decide) ?_
      refine V_callSI (pc := 29) (dy := 1) h [.long (v3.toInt64), .long (0 : Int64), .long (1 : Int64)] [] ms_X11_240 dX11_harm_29 rfl rfl (Nat.le_of_ble_eq_true rfl) (Nat.le_trans (by decide) hD) (m_isIn (v3.toInt64) (0 : Int64) (1 : Int64) S4) (fun z9 hz9 => m_isIn_ct h.gg (Nat.le_refl 1) (v3.toInt64) (0 : Int64) (1 : Int64) S4 z9 hz9) (fun x7 S6 => ?_)
      refine V_if_ne (pc := 32) h 37 dX11_harm_32 (by decide) ?_ ?_
      · refine V_iconst (pc := 37) (v := -1) h dX11_harm_37 (by decide) ?_
        refine V_istore (pc := 38) h [(4, .int (-1 : Int32)), (0, .ref (a 0)), (1, .int v1), (2, .int v2), (3, .int v3)] dX11_harm_38 (by decide) rfl ?_
        refine V_iconst (pc := 40) (v := 0) h dX11_harm_40 (by decide) ?_
        refine V_istore (pc := 41) h [(5, .int (0 : Int32)), (4, .int (-1 : Int32)), (0, .ref (a 0)), (1, .int v1), (2, .int v2), (3, .int v3)] dX11_harm_41 (by decide) rfl ?_
        refine V_iconst (pc := 43) (v := 1) h dX11_harm_43 (by decide) ?_
        refine V_istore (pc := 44) h [(6, .int (1 : Int32)), (5, .int (0 : Int32)), (4, .int (-1 : Int32)), (0, .ref (a 0)), (1, .int v1), (2, .int v2), (3, .int v3)] dX11_harm_44 (by decide) rfl ?_
        exact V_ls [3, 4, 5, 6, 2, 1, 0] rfl (m_harm_h46_ok h hr hlk hD FU v1 v2 v3 (-1 : Int32) (0 : Int32) (1 : Int32) S6)
      · refine V_iconst (pc := 35) (v := -1) h dX11_harm_35 (by decide) ?_
        exact V_iret (pc := 36) h hr hlk dX11_harm_36
theorem m_harm_ct {d : Nat} (g : GG s0 args0 D ca a A) (hD : 5 ≤ d) (v1 : Int32) (v2 : Int32) (v3 : Int32) (S : St) (z : Int32 × St) (hz : m_harm v1 v2 v3 S = some z) : CtI l yX11_harm cX11_harm 10 .int d s0 D ca tpM a A [.ref (a 0), .int v1, .int v2, .int v3] S z := CtI_mk g (by decide +kernel) (Nat.le_of_ble_eq_true rfl) hz (fun p e s m args below meth c h hr hlk => m_harm_ok h hr hlk hD v1 v2 v3 S)
def m_stranger_h102 : Nat → Int32 → Int32 → Int32 → Int32 → St → Option (Int32 × St)
  | 0, _, _, _, _, _ => none
  | n + 1, v3, v4, v5, v6, S => (if (5 : Int32) < v6 then (if v3 = 0 then (some (v5, S)) else (bI (m_allMeals (0 : Int32) (S 0 32) S) (fun x2 S1 => (some ((v4 - x2), S1))))) else (ckM v6 6 (bnd (v5 + (S 18 v6.toNatClampNeg)) (fun x3 => (bnd (v6 + (1 : Int32)) (fun x4 => ((m_stranger_h102 n) v3 v4 x3 x4 S)))))))
set_option maxHeartbeats 4000000 in
set_option maxRecDepth 100000 in
theorem m_stranger_h102_ok {d : Nat} (h : Cx p s m c cX11_stranger 7 RX11 s0 args0 D ca a A) (hr : meth.sig.returnType = some .int) (hlk : meth.locks = false) (hD : 51 ≤ d) : ∀ (n : Nat) (v3 : Int32) (v4 : Int32) (v5 : Int32) (v6 : Int32) (S : St), VV p l e (rmd d) s m args below meth c D ca tpM a A 7 (QmI D ca tpM a A below args s) S [(0, .ref (a 0)), (3, .int v3), (4, .int v4), (5, .int v5), (6, .int v6)] 102 [] (m_stranger_h102 n v3 v4 v5 v6 S) := by
  intro n
  induction n with
  | zero => intro v3 v4 v5 v6 S; exact V_none
  | succ n ih =>
    intro v3 v4 v5 v6 S
    unfold m_stranger_h102
    refine V_iload (pc := 102) h 4 dX11_stranger_102 rfl ?_
    refine V_iconst (pc := 104) (v := 5) h dX11_stranger_104 (by decide) ?_
    refine V_icmp_gt (pc := 105) h 126 dX11_stranger_105 (by decide) ?_ ?_
    · refine V_iload_n (pc := 126) h 1 dX11_stranger_126 rfl rfl ?_
      refine V_if_ne (pc := 127) h 135 dX11_stranger_127 (by decide) ?_ ?_
      · refine V_iload (pc := 135) h 2 dX11_stranger_135 rfl ?_
        refine V_aload_n (pc := 137) h 0 dX11_stranger_137 rfl rfl ?_
        refine V_iconst (pc := 138) (v := 0) h dX11_stranger_138 (by decide) ?_
        refine V_aload_n (pc := 139) h 0 dX11_stranger_139 rfl rfl ?_
        refine V_get (pc := 140) h 0 32 (.int (S 0 32)) fl_X11_292_X11 oM_0 rfl rfl dX11_stranger_140 ?_
        refine V_callVI (pc := 143) (dy := 50) (q := (RX11, TX11, 59)) h [.int (0 : Int32), .int (S 0 32)] [.int v4] 0 mv_X11_364 oM_0 rfl dX11_stranger_143 rfl rfl (Nat.le_of_ble_eq_true rfl) (Nat.le_trans (by decide) hD) (m_allMeals (0 : Int32) (S 0 32) S) (fun z9 hz9 => m_allMeals_ct h.gg (Nat.le_refl 50) (0 : Int32) (S 0 32) S z9 hz9) (fun x2 S1 => ?_)
        refine V_isub (pc := 146) h dX11_stranger_146 ?_
        exact V_iret (pc := 147) h hr hlk dX11_stranger_147
      · refine V_iload (pc := 130) h 3 dX11_stranger_130 rfl ?_
        refine V_goto (pc := 132) h 147 dX11_stranger_132 (by decide) ?_
        exact V_iret (pc := 147) h hr hlk dX11_stranger_147
    · refine V_iload (pc := 108) h 3 dX11_stranger_108 rfl ?_
      refine V_aload_n (pc := 110) h 0 dX11_stranger_110 rfl rfl ?_
      refine V_get (pc := 111) h 0 37 (.ref (a 18)) fl_X11_80_X11 oM_0 rfl rfl dX11_stranger_111 ?_
      refine V_iload (pc := 114) h 4 dX11_stranger_114 rfl ?_
      refine V_iald (pc := 116) h 18 oM_18 dX11_stranger_116 ?_
      refine V_iadd (pc := 117) h dX11_stranger_117 ?_
      refine V_top (fun x3 => ?_)
      refine V_istore (pc := 118) h [(5, .int x3), (0, .ref (a 0)), (3, .int v3), (4, .int v4), (6, .int v6)] dX11_stranger_118 (by decide) rfl ?_
      refine V_iincB (pc := 120) h 4 (1 : Int32) (fun x4 => [(6, .int x4), (5, .int x3), (0, .ref (a 0)), (3, .int v3), (4, .int v4)]) dX11_stranger_120 rfl (by decide) (by decide) (fun _ => rfl) (fun x4 => ?_)
      refine V_goto (pc := 123) h 102 dX11_stranger_123 (by decide) ?_
      exact V_ls [2, 3, 4, 1, 0] rfl (ih v3 v4 x3 x4 S)
def m_stranger (v1 : Int32) (v2 : Int32) (v3 : Int32) (S : St) : Option (Int32 × St) := (bnd (up2 S 0 0 (0 : Int32)) (fun S1 => (if (S1 0 24) = 0 then (some ((-100000000 : Int32), S1)) else (bI (m_isIn (v1.toInt64) (0 : Int64) (((S1 0 24) - (1 : Int32)).toInt64) S1) (fun x3 S2 => (if x3 = 0 then (some ((-100000000 : Int32), S2)) else (bI (m_isIn (v2.toInt64) (0 : Int64) (99 : Int64) S2) (fun x5 S4 => (if x5 = 0 then (some ((-100000000 : Int32), S4)) else (bI (m_isIn (v3.toInt64) (0 : Int64) (1 : Int64) S4) (fun x7 S6 => (if x7 = 0 then (some ((-100000000 : Int32), S6)) else (bV (m_noon (S6 0 32) S6) (fun S8 => (bI (m_allMeals (0 : Int32) (S8 0 32) S8) (fun x10 S9 => (bnd (up2 S9 0 42 v1) (fun S11 => (bnd (up2 S11 0 43 v2) (fun S12 => (bV (m_noon (S12 0 32) S12) (fun S13 => (bnd (up2 S13 0 42 (-1 : Int32)) (fun S14 => (m_stranger_h102 FU v3 x10 (0 : Int32) (0 : Int32) S14)))))))))))))))))))))))))
set_option maxHeartbeats 4000000 in
set_option maxRecDepth 100000 in
theorem m_stranger_ok {d : Nat} (h : Cx p s m c cX11_stranger 7 RX11 s0 args0 D ca a A) (hr : meth.sig.returnType = some .int) (hlk : meth.locks = false) (hD : 51 ≤ d) (v1 : Int32) (v2 : Int32) (v3 : Int32) (S : St) : VV p l e (rmd d) s m args below meth c D ca tpM a A 7 (QmI D ca tpM a A below args s) S [(0, .ref (a 0)), (1, .int v1), (2, .int v2), (3, .int v3)] 0 [] (m_stranger v1 v2 v3 S) := by
  unfold m_stranger
  refine V_aload_n (pc := 0) h 0 dX11_stranger_0 rfl rfl ?_
  refine V_iconst (pc := 1) (v := 0) h dX11_stranger_1 (by decide) ?_
  refine V_put (pc := 2) h 0 0 (0 : Int32) fp_X11_119_X11 oM_0 rfl rfl rfl rfl dX11_stranger_2 (fun S1 => ?_)
  refine V_aload_n (pc := 5) h 0 dX11_stranger_5 rfl rfl ?_
  refine V_get (pc := 6) h 0 24 (.int (S1 0 24)) fl_X11_289_X11 oM_0 rfl rfl dX11_stranger_6 ?_
  refine V_if_eq (pc := 9) h 50 dX11_stranger_9 (by decide) ?_ ?_
  · refine V_ldcw (pc := 50) (v := -100000000) h dX11_stranger_50 tw_7_12 ?_
    exact V_iret (pc := 53) h hr hlk dX11_stranger_53
  · refine V_iload_n (pc := 12) h 1 dX11_stranger_12 rfl rfl ?_
    refine V_i2l (pc := 13) h dX11_stranger_13 ?_
    refine V_lconst (pc := 14) (v := 0) h dX11_stranger_14 (by decide) ?_
    refine V_aload_n (pc := 15) h 0 dX11_stranger_15 rfl rfl ?_
    refine V_get (pc := 16) h 0 24 (.int (S1 0 24)) fl_X11_289_X11 oM_0 rfl rfl dX11_stranger_16 ?_
    refine V_iconst (pc := 19) (v := 1) h dX11_stranger_19 (by decide) ?_
    refine V_isub (pc := 20) h dX11_stranger_20 ?_
    refine V_i2l (pc := 21) h dX11_stranger_21 ?_
    refine V_callSI (pc := 22) (dy := 1) h [.long (v1.toInt64), .long (0 : Int64), .long (((S1 0 24) - (1 : Int32)).toInt64)] [] ms_X11_240 dX11_stranger_22 rfl rfl (Nat.le_of_ble_eq_true rfl) (Nat.le_trans (by decide) hD) (m_isIn (v1.toInt64) (0 : Int64) (((S1 0 24) - (1 : Int32)).toInt64) S1) (fun z9 hz9 => m_isIn_ct h.gg (Nat.le_refl 1) (v1.toInt64) (0 : Int64) (((S1 0 24) - (1 : Int32)).toInt64) S1 z9 hz9) (fun x3 S2 => ?_)
    refine V_if_eq (pc := 25) h 50 dX11_stranger_25 (by decide) ?_ ?_
    · refine V_ldcw (pc := 50) (v := -100000000) h dX11_stranger_50 tw_7_12 ?_
      exact V_iret (pc := 53) h hr hlk dX11_stranger_53
    · refine V_iload_n (pc := 28) h 2 dX11_stranger_28 rfl rfl ?_
      refine V_i2l (pc := 29) h dX11_stranger_29 ?_
      refine V_lconst (pc := 30) (v := 0) h dX11_stranger_30 (by decide) ?_
      refine V_ldc2 (pc := 31) (v := 99) h dX11_stranger_31 tw_7_7 ?_
      refine V_callSI (pc := 34) (dy := 1) h [.long (v2.toInt64), .long (0 : Int64), .long (99 : Int64)] [] ms_X11_240 dX11_stranger_34 rfl rfl (Nat.le_of_ble_eq_true rfl) (Nat.le_trans (by decide) hD) (m_isIn (v2.toInt64) (0 : Int64) (99 : Int64) S2) (fun z9 hz9 => m_isIn_ct h.gg (Nat.le_refl 1) (v2.toInt64) (0 : Int64) (99 : Int64) S2 z9 hz9) (fun x5 S4 => ?_)
      refine V_if_eq (pc := 37) h 50 dX11_stranger_37 (by decide) ?_ ?_
      · refine V_ldcw (pc := 50) (v := -100000000) h dX11_stranger_50 tw_7_12 ?_
        exact V_iret (pc := 53) h hr hlk dX11_stranger_53
      · refine V_iload_n (pc := 40) h 3 dX11_stranger_40 rfl rfl ?_
        refine V_i2l (pc := 41) h dX11_stranger_41 ?_
        refine V_lconst (pc := 42) (v := 0) h dX11_stranger_42 (by decide) ?_
        refine V_lconst (pc := 43) (v := 1) h dX11_stranger_43 (by decide) ?_
        refine V_callSI (pc := 44) (dy := 1) h [.long (v3.toInt64), .long (0 : Int64), .long (1 : Int64)] [] ms_X11_240 dX11_stranger_44 rfl rfl (Nat.le_of_ble_eq_true rfl) (Nat.le_trans (by decide) hD) (m_isIn (v3.toInt64) (0 : Int64) (1 : Int64) S4) (fun z9 hz9 => m_isIn_ct h.gg (Nat.le_refl 1) (v3.toInt64) (0 : Int64) (1 : Int64) S4 z9 hz9) (fun x7 S6 => ?_)
        refine V_if_ne (pc := 47) h 54 dX11_stranger_47 (by decide) ?_ ?_
        · refine V_aload_n (pc := 54) h 0 dX11_stranger_54 rfl rfl ?_
          refine V_aload_n (pc := 55) h 0 dX11_stranger_55 rfl rfl ?_
          refine V_get (pc := 56) h 0 32 (.int (S6 0 32)) fl_X11_292_X11 oM_0 rfl rfl dX11_stranger_56 ?_
          refine V_callVV (pc := 59) (dy := 3) (q := (RX11, TX11, 59)) h [.int (S6 0 32)] [] 0 mv_X11_338 oM_0 rfl dX11_stranger_59 rfl rfl (Nat.le_of_ble_eq_true rfl) (Nat.le_trans (by decide) hD) (m_noon (S6 0 32) S6) (fun z9 hz9 => m_noon_ct h.gg (Nat.le_refl 3) (S6 0 32) S6 z9 hz9) (fun S8 => ?_)
          refine V_aload_n (pc := 62) h 0 dX11_stranger_62 rfl rfl ?_
          refine V_iconst (pc := 63) (v := 0) h dX11_stranger_63 (by decide) ?_
          refine V_aload_n (pc := 64) h 0 dX11_stranger_64 rfl rfl ?_
          refine V_get (pc := 65) h 0 32 (.int (S8 0 32)) fl_X11_292_X11 oM_0 rfl rfl dX11_stranger_65 ?_
          refine V_callVI (pc := 68) (dy := 50) (q := (RX11, TX11, 59)) h [.int (0 : Int32), .int (S8 0 32)] [] 0 mv_X11_364 oM_0 rfl dX11_stranger_68 rfl rfl (Nat.le_of_ble_eq_true rfl) (Nat.le_trans (by decide) hD) (m_allMeals (0 : Int32) (S8 0 32) S8) (fun z9 hz9 => m_allMeals_ct h.gg (Nat.le_refl 50) (0 : Int32) (S8 0 32) S8 z9 hz9) (fun x10 S9 => ?_)
          refine V_istore (pc := 71) h [(4, .int x10), (0, .ref (a 0)), (1, .int v1), (2, .int v2), (3, .int v3)] dX11_stranger_71 (by decide) rfl ?_
          refine V_aload_n (pc := 73) h 1 dX11_stranger_73 rfl rfl ?_
          refine V_iload_n (pc := 74) h 2 dX11_stranger_74 rfl rfl ?_
          refine V_put (pc := 75) h 0 42 v1 fp_X11_89_X11 oM_0 rfl rfl rfl rfl dX11_stranger_75 (fun S11 => ?_)
          refine V_aload_n (pc := 78) h 1 dX11_stranger_78 rfl rfl ?_
          refine V_iload_n (pc := 79) h 3 dX11_stranger_79 rfl rfl ?_
          refine V_put (pc := 80) h 0 43 v2 fp_X11_320_X11 oM_0 rfl rfl rfl rfl dX11_stranger_80 (fun S12 => ?_)
          refine V_aload_n (pc := 83) h 1 dX11_stranger_83 rfl rfl ?_
          refine V_aload_n (pc := 84) h 1 dX11_stranger_84 rfl rfl ?_
          refine V_get (pc := 85) h 0 32 (.int (S12 0 32)) fl_X11_292_X11 oM_0 rfl rfl dX11_stranger_85 ?_
          refine V_callVV (pc := 88) (dy := 3) (q := (RX11, TX11, 59)) h [.int (S12 0 32)] [] 0 mv_X11_338 oM_0 rfl dX11_stranger_88 rfl rfl (Nat.le_of_ble_eq_true rfl) (Nat.le_trans (by decide) hD) (m_noon (S12 0 32) S12) (fun z9 hz9 => m_noon_ct h.gg (Nat.le_refl 3) (S12 0 32) S12 z9 hz9) (fun S13 => ?_)
          refine V_aload_n (pc := 91) h 1 dX11_stranger_91 rfl rfl ?_
          refine V_iconst (pc := 92) (v := -1) h dX11_stranger_92 (by decide) ?_
          refine V_put (pc := 93) h 0 42 (-1 : Int32) fp_X11_89_X11 oM_0 rfl rfl rfl rfl dX11_stranger_93 (fun S14 => ?_)
          refine V_iconst (pc := 96) (v := 0) h dX11_stranger_96 (by decide) ?_
          refine V_istore (pc := 97) h [(5, .int (0 : Int32)), (4, .int x10), (0, .ref (a 0)), (1, .int v1), (2, .int v2), (3, .int v3)] dX11_stranger_97 (by decide) rfl ?_
          refine V_iconst (pc := 99) (v := 0) h dX11_stranger_99 (by decide) ?_
          refine V_istore (pc := 100) h [(6, .int (0 : Int32)), (5, .int (0 : Int32)), (4, .int x10), (0, .ref (a 0)), (1, .int v1), (2, .int v2), (3, .int v3)] dX11_stranger_100 (by decide) rfl ?_
          exact V_ls [3, 6, 2, 1, 0] rfl (m_stranger_h102_ok h hr hlk hD FU v3 x10 (0 : Int32) (0 : Int32) S14)
        · refine V_ldcw (pc := 50) (v := -100000000) h dX11_stranger_50 tw_7_12 ?_
          exact V_iret (pc := 53) h hr hlk dX11_stranger_53
theorem m_stranger_ct {d : Nat} (g : GG s0 args0 D ca a A) (hD : 51 ≤ d) (v1 : Int32) (v2 : Int32) (v3 : Int32) (S : St) (z : Int32 × St) (hz : m_stranger v1 v2 v3 S = some z) : CtI l yX11_stranger cX11_stranger 7 .int d s0 D ca tpM a A [.ref (a 0), .int v1, .int v2, .int v3] S z := CtI_mk g (by decide +kernel) (Nat.le_of_ble_eq_true rfl) hz (fun p e s m args below meth c h hr hlk => m_stranger_ok h hr hlk hD v1 v2 v3 S)
def m_exchangeLadles (v1 : Int32) (v2 : Int32) (S : St) : Option St := (ckM (((8 : Int32) * v1) + (5 : Int32)) 48 (bnd (S 7 (((8 : Int32) * v1) + (5 : Int32)).toNatClampNeg) (fun x1 => (ckM (((8 : Int32) * v2) + (5 : Int32)) 48 (ckM (((8 : Int32) * v1) + (5 : Int32)) 48 (bnd (up2 S 7 (((8 : Int32) * v1) + (5 : Int32)).toNatClampNeg (S 7 (((8 : Int32) * v2) + (5 : Int32)).toNatClampNeg)) (fun S2 => (ckM (((8 : Int32) * v2) + (5 : Int32)) 48 (bnd (up2 S2 7 (((8 : Int32) * v2) + (5 : Int32)).toNatClampNeg x1) (fun S3 => (some S3)))))))))))
set_option maxHeartbeats 4000000 in
set_option maxRecDepth 100000 in
theorem m_exchangeLadles_ok {d : Nat} (h : Cx p s m c cX11_exchangeLadles 4 RX11 s0 args0 D ca a A) (hr : meth.sig.returnType = none) (hlk : meth.locks = false) (hD : 1 ≤ d) (v1 : Int32) (v2 : Int32) (S : St) : VV p l e (rmd d) s m args below meth c D ca tpM a A 4 (QmV D ca tpM a A below args s) S [(0, .ref (a 0)), (1, .int v1), (2, .int v2)] 0 [] (m_exchangeLadles v1 v2 S) := by
  unfold m_exchangeLadles
  refine V_aload_n (pc := 0) h 0 dX11_exchangeLadles_0 rfl rfl ?_
  refine V_get (pc := 1) h 0 20 (.ref (a 7)) fl_X11_43_X11 oM_0 rfl rfl dX11_exchangeLadles_1 ?_
  refine V_bipush (pc := 4) (v := 8) h dX11_exchangeLadles_4 (by decide) ?_
  refine V_iload_n (pc := 6) h 1 dX11_exchangeLadles_6 rfl rfl ?_
  refine V_imul (pc := 7) h dX11_exchangeLadles_7 ?_
  refine V_iconst (pc := 8) (v := 5) h dX11_exchangeLadles_8 (by decide) ?_
  refine V_iadd (pc := 9) h dX11_exchangeLadles_9 ?_
  refine V_iald (pc := 10) h 7 oM_7 dX11_exchangeLadles_10 ?_
  refine V_top (fun x1 => ?_)
  refine V_istore_n (pc := 11) h [(3, .int x1), (0, .ref (a 0)), (1, .int v1), (2, .int v2)] dX11_exchangeLadles_11 rfl (by decide) rfl ?_
  refine V_aload_n (pc := 12) h 1 dX11_exchangeLadles_12 rfl rfl ?_
  refine V_get (pc := 13) h 0 20 (.ref (a 7)) fl_X11_43_X11 oM_0 rfl rfl dX11_exchangeLadles_13 ?_
  refine V_bipush (pc := 16) (v := 8) h dX11_exchangeLadles_16 (by decide) ?_
  refine V_iload_n (pc := 18) h 2 dX11_exchangeLadles_18 rfl rfl ?_
  refine V_imul (pc := 19) h dX11_exchangeLadles_19 ?_
  refine V_iconst (pc := 20) (v := 5) h dX11_exchangeLadles_20 (by decide) ?_
  refine V_iadd (pc := 21) h dX11_exchangeLadles_21 ?_
  refine V_aload_n (pc := 22) h 1 dX11_exchangeLadles_22 rfl rfl ?_
  refine V_get (pc := 23) h 0 20 (.ref (a 7)) fl_X11_43_X11 oM_0 rfl rfl dX11_exchangeLadles_23 ?_
  refine V_bipush (pc := 26) (v := 8) h dX11_exchangeLadles_26 (by decide) ?_
  refine V_iload_n (pc := 28) h 3 dX11_exchangeLadles_28 rfl rfl ?_
  refine V_imul (pc := 29) h dX11_exchangeLadles_29 ?_
  refine V_iconst (pc := 30) (v := 5) h dX11_exchangeLadles_30 (by decide) ?_
  refine V_iadd (pc := 31) h dX11_exchangeLadles_31 ?_
  refine V_iald (pc := 32) h 7 oM_7 dX11_exchangeLadles_32 ?_
  refine V_iast (pc := 33) h 7 oM_7 dX11_exchangeLadles_33 (fun S2 => ?_)
  refine V_aload_n (pc := 34) h 1 dX11_exchangeLadles_34 rfl rfl ?_
  refine V_get (pc := 35) h 0 20 (.ref (a 7)) fl_X11_43_X11 oM_0 rfl rfl dX11_exchangeLadles_35 ?_
  refine V_bipush (pc := 38) (v := 8) h dX11_exchangeLadles_38 (by decide) ?_
  refine V_iload_n (pc := 40) h 3 dX11_exchangeLadles_40 rfl rfl ?_
  refine V_imul (pc := 41) h dX11_exchangeLadles_41 ?_
  refine V_iconst (pc := 42) (v := 5) h dX11_exchangeLadles_42 (by decide) ?_
  refine V_iadd (pc := 43) h dX11_exchangeLadles_43 ?_
  refine V_iload_n (pc := 44) h 0 dX11_exchangeLadles_44 rfl rfl ?_
  refine V_iast (pc := 45) h 7 oM_7 dX11_exchangeLadles_45 (fun S3 => ?_)
  exact V_vret (pc := 46) h hr hlk dX11_exchangeLadles_46
theorem m_exchangeLadles_ct {d : Nat} (g : GG s0 args0 D ca a A) (hD : 1 ≤ d) (v1 : Int32) (v2 : Int32) (S : St) (z : St) (hz : m_exchangeLadles v1 v2 S = some z) : CtV l yX11_exchangeLadles cX11_exchangeLadles 4 d s0 D ca tpM a A [.ref (a 0), .int v1, .int v2] S z := CtV_mk g (by decide +kernel) (Nat.le_of_ble_eq_true rfl) hz (fun p e s m args below meth c h hr hlk => m_exchangeLadles_ok h hr hlk hD v1 v2 S)
def m_exchange_b129 (L49 : Int32 → Int32 → Int32 → Int32 → St → Option (Int32 × St)) (L64 : Int32 → Int32 → Int32 → Int32 → Int32 → St → Option (Int32 × St)) (v1 : Int32) (v2 : Int32) (v3 : Int32) (v4 : Int32) (v5 : Int32) (S : St) : Option (Int32 × St) := (bnd (v5 + (1 : Int32)) (fun x1 => (L64 v1 v2 v3 v4 x1 S)))
set_option maxHeartbeats 4000000 in
set_option maxRecDepth 100000 in
theorem m_exchange_b129_ok {d : Nat} (h : Cx p s m c cX11_exchange 7 RX11 s0 args0 D ca a A) (hr : meth.sig.returnType = some .int) (hlk : meth.locks = false) (hD : 51 ≤ d) (L49 : Int32 → Int32 → Int32 → Int32 → St → Option (Int32 × St)) (hL49 : ∀ (v1 : Int32) (v2 : Int32) (v3 : Int32) (v4 : Int32) (S : St), VV p l e (rmd d) s m args below meth c D ca tpM a A 7 (QmI D ca tpM a A below args s) S [(0, .ref (a 0)), (1, .int v1), (2, .int v2), (3, .int v3), (4, .int v4)] 49 [] (L49 v1 v2 v3 v4 S)) (L64 : Int32 → Int32 → Int32 → Int32 → Int32 → St → Option (Int32 × St)) (hL64 : ∀ (v1 : Int32) (v2 : Int32) (v3 : Int32) (v4 : Int32) (v5 : Int32) (S : St), VV p l e (rmd d) s m args below meth c D ca tpM a A 7 (QmI D ca tpM a A below args s) S [(0, .ref (a 0)), (1, .int v1), (2, .int v2), (3, .int v3), (4, .int v4), (5, .int v5)] 64 [] (L64 v1 v2 v3 v4 v5 S)) (v1 : Int32) (v2 : Int32) (v3 : Int32) (v4 : Int32) (v5 : Int32) (S : St) : VV p l e (rmd d) s m args below meth c D ca tpM a A 7 (QmI D ca tpM a A below args s) S [(0, .ref (a 0)), (1, .int v1), (2, .int v2), (3, .int v3), (4, .int v4), (5, .int v5)] 129 [] (m_exchange_b129 L49 L64 v1 v2 v3 v4 v5 S) := by
  unfold m_exchange_b129
  refine V_iincB (pc := 129) h 5 (1 : Int32) (fun x1 => [(5, .int x1), (0, .ref (a 0)), (1, .int v1), (2, .int v2), (3, .int v3), (4, .int v4)]) dX11_exchange_129 rfl (by decide) (by decide) (fun _ => rfl) (fun x1 => ?_)
  refine V_goto (pc := 132) h 64 dX11_exchange_132 (by decide) ?_
  exact V_ls [1, 2, 3, 4, 5, 0] rfl (hL64 v1 v2 v3 v4 x1 S)
def m_exchange_h64 (L49 : Int32 → Int32 → Int32 → Int32 → St → Option (Int32 × St)) : Nat → Int32 → Int32 → Int32 → Int32 → Int32 → St → Option (Int32 × St)
  | 0, _, _, _, _, _, _ => none
  | n + 1, v1, v2, v3, v4, v5, S => (if (S 0 24) ≤ v5 then (bnd (v4 + (1 : Int32)) (fun x1 => (L49 v1 v2 v3 x1 S))) else (bV (m_exchangeLadles v4 v5 S) (fun S2 => (bV (m_noon (S2 0 32) S2) (fun S3 => (bI (m_allMeals (1 : Int32) (S3 0 32) S3) (fun x5 S4 => (bV (m_exchangeLadles v4 v5 S4) (fun S6 => (if v3 < x5 then (bnd (((10 : Int32) * v4) + v5) (fun x7 => (m_exchange_b129 L49 (m_exchange_h64 L49 n) v1 x7 x5 v4 v5 S6))) else (m_exchange_b129 L49 (m_exchange_h64 L49 n) v1 v2 v3 v4 v5 S6)))))))))))
set_option maxHeartbeats 4000000 in
set_option maxRecDepth 100000 in
theorem m_exchange_h64_ok {d : Nat} (h : Cx p s m c cX11_exchange 7 RX11 s0 args0 D ca a A) (hr : meth.sig.returnType = some .int) (hlk : meth.locks = false) (hD : 51 ≤ d) (L49 : Int32 → Int32 → Int32 → Int32 → St → Option (Int32 × St)) (hL49 : ∀ (v1 : Int32) (v2 : Int32) (v3 : Int32) (v4 : Int32) (S : St), VV p l e (rmd d) s m args below meth c D ca tpM a A 7 (QmI D ca tpM a A below args s) S [(0, .ref (a 0)), (1, .int v1), (2, .int v2), (3, .int v3), (4, .int v4)] 49 [] (L49 v1 v2 v3 v4 S)) : ∀ (n : Nat) (v1 : Int32) (v2 : Int32) (v3 : Int32) (v4 : Int32) (v5 : Int32) (S : St), VV p l e (rmd d) s m args below meth c D ca tpM a A 7 (QmI D ca tpM a A below args s) S [(0, .ref (a 0)), (1, .int v1), (2, .int v2), (3, .int v3), (4, .int v4), (5, .int v5)] 64 [] (m_exchange_h64 L49 n v1 v2 v3 v4 v5 S) := by
  intro n
  induction n with
  | zero => intro v1 v2 v3 v4 v5 S; exact V_none
  | succ n ih =>
    intro v1 v2 v3 v4 v5 S
    unfold m_exchange_h64
    refine V_iload (pc := 64) h 5 dX11_exchange_64 rfl ?_
    refine V_aload_n (pc := 66) h 0 dX11_exchange_66 rfl rfl ?_
    refine V_get (pc := 67) h 0 24 (.int (S 0 24)) fl_X11_289_X11 oM_0 rfl rfl dX11_exchange_67 ?_
    refine V_icmp_ge (pc := 70) h 135 dX11_exchange_70 (by decide) ?_ ?_
    · refine V_iincB (pc := 135) h 4 (1 : Int32) (fun x1 => [(4, .int x1), (0, .ref (a 0)), (1, .int v1), (2, .int v2), (3, .int v3), (5, .int v5)]) dX11_exchange_135 rfl (by decide) (by decide) (fun _ => rfl) (fun x1 => ?_)
      refine V_goto (pc := 138) h 49 dX11_exchange_138 (by decide) ?_
      exact V_ls [1, 2, 3, 4, 0] rfl (hL49 v1 v2 v3 x1 S)
    · refine V_aload_n (pc := 73) h 0 dX11_exchange_73 rfl rfl ?_
      refine V_iload (pc := 74) h 4 dX11_exchange_74 rfl ?_
      refine V_iload (pc := 76) h 5 dX11_exchange_76 rfl ?_
      refine V_callVV (pc := 78) (dy := 1) (q := (RX11, TX11, 59)) h [.int v4, .int v5] [] 0 mv_X11_391 oM_0 rfl dX11_exchange_78 rfl rfl (Nat.le_of_ble_eq_true rfl) (Nat.le_trans (by decide) hD) (m_exchangeLadles v4 v5 S) (fun z9 hz9 => m_exchangeLadles_ct h.gg (Nat.le_refl 1) v4 v5 S z9 hz9) (fun S2 => ?_)
      refine V_aload_n (pc := 81) h 0 dX11_exchange_81 rfl rfl ?_
      refine V_aload_n (pc := 82) h 0 dX11_exchange_82 rfl rfl ?_
      refine V_get (pc := 83) h 0 32 (.int (S2 0 32)) fl_X11_292_X11 oM_0 rfl rfl dX11_exchange_83 ?_
      refine V_callVV (pc := 86) (dy := 3) (q := (RX11, TX11, 59)) h [.int (S2 0 32)] [] 0 mv_X11_338 oM_0 rfl dX11_exchange_86 rfl rfl (Nat.le_of_ble_eq_true rfl) (Nat.le_trans (by decide) hD) (m_noon (S2 0 32) S2) (fun z9 hz9 => m_noon_ct h.gg (Nat.le_refl 3) (S2 0 32) S2 z9 hz9) (fun S3 => ?_)
      refine V_aload_n (pc := 89) h 0 dX11_exchange_89 rfl rfl ?_
      refine V_iconst (pc := 90) (v := 1) h dX11_exchange_90 (by decide) ?_
      refine V_aload_n (pc := 91) h 0 dX11_exchange_91 rfl rfl ?_
      refine V_get (pc := 92) h 0 32 (.int (S3 0 32)) fl_X11_292_X11 oM_0 rfl rfl dX11_exchange_92 ?_
      refine V_callVI (pc := 95) (dy := 50) (q := (RX11, TX11, 59)) h [.int (1 : Int32), .int (S3 0 32)] [] 0 mv_X11_364 oM_0 rfl dX11_exchange_95 rfl rfl (Nat.le_of_ble_eq_true rfl) (Nat.le_trans (by decide) hD) (m_allMeals (1 : Int32) (S3 0 32) S3) (fun z9 hz9 => m_allMeals_ct h.gg (Nat.le_refl 50) (1 : Int32) (S3 0 32) S3 z9 hz9) (fun x5 S4 => ?_)
      refine V_istore (pc := 98) h [(6, .int x5), (0, .ref (a 0)), (1, .int v1), (2, .int v2), (3, .int v3), (4, .int v4), (5, .int v5)] dX11_exchange_98 (by decide) rfl ?_
      refine V_aload_n (pc := 100) h 1 dX11_exchange_100 rfl rfl ?_
      refine V_iload (pc := 101) h 5 dX11_exchange_101 rfl ?_
      refine V_iload (pc := 103) h 6 dX11_exchange_103 rfl ?_
      refine V_callVV (pc := 105) (dy := 1) (q := (RX11, TX11, 59)) h [.int v4, .int v5] [] 0 mv_X11_391 oM_0 rfl dX11_exchange_105 rfl rfl (Nat.le_of_ble_eq_true rfl) (Nat.le_trans (by decide) hD) (m_exchangeLadles v4 v5 S4) (fun z9 hz9 => m_exchangeLadles_ct h.gg (Nat.le_refl 1) v4 v5 S4 z9 hz9) (fun S6 => ?_)
      refine V_iload (pc := 108) h 0 dX11_exchange_108 rfl ?_
      refine V_iload_n (pc := 110) h 4 dX11_exchange_110 rfl rfl ?_
      refine V_icmp_gt (pc := 111) h 117 dX11_exchange_111 (by decide) ?_ ?_
      · refine V_bipush (pc := 117) (v := 10) h dX11_exchange_117 (by decide) ?_
        refine V_iload (pc := 119) h 5 dX11_exchange_119 rfl ?_
        refine V_imul (pc := 121) h dX11_exchange_121 ?_
        refine V_iload (pc := 122) h 6 dX11_exchange_122 rfl ?_
        refine V_iadd (pc := 124) h dX11_exchange_124 ?_
        refine V_top (fun x7 => ?_)
        refine V_istore_n (pc := 125) h [(2, .int x7), (6, .int x5), (0, .ref (a 0)), (1, .int v1), (3, .int v3), (4, .int v4), (5, .int v5)] dX11_exchange_125 rfl (by decide) rfl ?_
        refine V_iload (pc := 126) h 1 dX11_exchange_126 rfl ?_
        refine V_istore_n (pc := 128) h [(3, .int x5), (2, .int x7), (6, .int x5), (0, .ref (a 0)), (1, .int v1), (4, .int v4), (5, .int v5)] dX11_exchange_128 rfl (by decide) rfl ?_
        exact V_ls [3, 4, 1, 0, 5, 6] rfl (m_exchange_b129_ok h hr hlk hD L49 hL49 (m_exchange_h64 L49 n) ih v1 x7 x5 v4 v5 S6)
      · refine V_goto (pc := 114) h 129 dX11_exchange_114 (by decide) ?_
        exact V_ls [1, 2, 3, 4, 5, 6] rfl (m_exchange_b129_ok h hr hlk hD L49 hL49 (m_exchange_h64 L49 n) ih v1 v2 v3 v4 v5 S6)
def m_exchange_h49 : Nat → Int32 → Int32 → Int32 → Int32 → St → Option (Int32 × St)
  | 0, _, _, _, _, _ => none
  | n + 1, v1, v2, v3, v4, S => (if (S 0 24) ≤ v4 then (if v1 = 0 then (some (v2, S)) else (some (v3, S))) else (bnd (v4 + (1 : Int32)) (fun x1 => (m_exchange_h64 (m_exchange_h49 n) FU v1 v2 v3 v4 x1 S))))
set_option maxHeartbeats 4000000 in
set_option maxRecDepth 100000 in
theorem m_exchange_h49_ok {d : Nat} (h : Cx p s m c cX11_exchange 7 RX11 s0 args0 D ca a A) (hr : meth.sig.returnType = some .int) (hlk : meth.locks = false) (hD : 51 ≤ d) : ∀ (n : Nat) (v1 : Int32) (v2 : Int32) (v3 : Int32) (v4 : Int32) (S : St), VV p l e (rmd d) s m args below meth c D ca tpM a A 7 (QmI D ca tpM a A below args s) S [(0, .ref (a 0)), (1, .int v1), (2, .int v2), (3, .int v3), (4, .int v4)] 49 [] (m_exchange_h49 n v1 v2 v3 v4 S) := by
  intro n
  induction n with
  | zero => intro v1 v2 v3 v4 S; exact V_none
  | succ n ih =>
    intro v1 v2 v3 v4 S
    unfold m_exchange_h49
    refine V_iload (pc := 49) h 4 dX11_exchange_49 rfl ?_
    refine V_aload_n (pc := 51) h 0 dX11_exchange_51 rfl rfl ?_
    refine V_get (pc := 52) h 0 24 (.int (S 0 24)) fl_X11_289_X11 oM_0 rfl rfl dX11_exchange_52 ?_
    refine V_icmp_ge (pc := 55) h 141 dX11_exchange_55 (by decide) ?_ ?_
    · refine V_iload_n (pc := 141) h 1 dX11_exchange_141 rfl rfl ?_
      refine V_if_ne (pc := 142) h 149 dX11_exchange_142 (by decide) ?_ ?_
      · refine V_iload_n (pc := 149) h 3 dX11_exchange_149 rfl rfl ?_
        exact V_iret (pc := 150) h hr hlk dX11_exchange_150
      · refine V_iload_n (pc := 145) h 2 dX11_exchange_145 rfl rfl ?_
        refine V_goto (pc := 146) h 150 dX11_exchange_146 (by decide) ?_
        exact V_iret (pc := 150) h hr hlk dX11_exchange_150
    · refine V_iload (pc := 58) h 4 dX11_exchange_58 rfl ?_
      refine V_iconst (pc := 60) (v := 1) h dX11_exchange_60 (by decide) ?_
      refine V_iadd (pc := 61) h dX11_exchange_61 ?_
      refine V_top (fun x1 => ?_)
      refine V_istore (pc := 62) h [(5, .int x1), (0, .ref (a 0)), (1, .int v1), (2, .int v2), (3, .int v3), (4, .int v4)] dX11_exchange_62 (by decide) rfl ?_
      exact V_ls [1, 2, 3, 4, 5, 0] rfl (m_exchange_h64_ok h hr hlk hD (m_exchange_h49 n) ih FU v1 v2 v3 v4 x1 S)
def m_exchange (v1 : Int32) (S : St) : Option (Int32 × St) := (bnd (up2 S 0 0 (0 : Int32)) (fun S1 => (if (S1 0 24) = 0 then (some ((-100000000 : Int32), S1)) else (bI (m_isIn (v1.toInt64) (0 : Int64) (1 : Int64) S1) (fun x3 S2 => (if x3 = 0 then (some ((-100000000 : Int32), S2)) else (bV (m_noon (S2 0 32) S2) (fun S4 => (bI (m_allMeals (1 : Int32) (S4 0 32) S4) (fun x6 S5 => (m_exchange_h49 FU v1 (-1 : Int32) x6 (0 : Int32) S5)))))))))))
set_option maxHeartbeats 4000000 in
set_option maxRecDepth 100000 in
theorem m_exchange_ok {d : Nat} (h : Cx p s m c cX11_exchange 7 RX11 s0 args0 D ca a A) (hr : meth.sig.returnType = some .int) (hlk : meth.locks = false) (hD : 51 ≤ d) (v1 : Int32) (S : St) : VV p l e (rmd d) s m args below meth c D ca tpM a A 7 (QmI D ca tpM a A below args s) S [(0, .ref (a 0)), (1, .int v1)] 0 [] (m_exchange v1 S) := by
  unfold m_exchange
  refine V_aload_n (pc := 0) h 0 dX11_exchange_0 rfl rfl ?_
  refine V_iconst (pc := 1) (v := 0) h dX11_exchange_1 (by decide) ?_
  refine V_put (pc := 2) h 0 0 (0 : Int32) fp_X11_119_X11 oM_0 rfl rfl rfl rfl dX11_exchange_2 (fun S1 => ?_)
  refine V_aload_n (pc := 5) h 0 dX11_exchange_5 rfl rfl ?_
  refine V_get (pc := 6) h 0 24 (.int (S1 0 24)) fl_X11_289_X11 oM_0 rfl rfl dX11_exchange_6 ?_
  refine V_if_eq (pc := 9) h 22 dX11_exchange_9 (by decide) ?_ ?_
  · refine V_ldcw (pc := 22) (v := -100000000) h dX11_exchange_22 tw_7_12 ?_
    exact V_iret (pc := 25) h hr hlk dX11_exchange_25
  · refine V_iload_n (pc := 12) h 1 dX11_exchange_12 rfl rfl ?_
    refine V_i2l (pc := 13) h dX11_exchange_13 ?_
    refine V_lconst (pc := 14) (v := 0) h dX11_exchange_14 (by decide) ?_
    refine V_lconst (pc := 15) (v := 1) h dX11_exchange_15 (by decide) ?_
    refine V_callSI (pc := 16) (dy := 1) h [.long (v1.toInt64), .long (0 : Int64), .long (1 : Int64)] [] ms_X11_240 dX11_exchange_16 rfl rfl (Nat.le_of_ble_eq_true rfl) (Nat.le_trans (by decide) hD) (m_isIn (v1.toInt64) (0 : Int64) (1 : Int64) S1) (fun z9 hz9 => m_isIn_ct h.gg (Nat.le_refl 1) (v1.toInt64) (0 : Int64) (1 : Int64) S1 z9 hz9) (fun x3 S2 => ?_)
    refine V_if_ne (pc := 19) h 26 dX11_exchange_19 (by decide) ?_ ?_
    · refine V_aload_n (pc := 26) h 0 dX11_exchange_26 rfl rfl ?_
      refine V_aload_n (pc := 27) h 0 dX11_exchange_27 rfl rfl ?_
      refine V_get (pc := 28) h 0 32 (.int (S2 0 32)) fl_X11_292_X11 oM_0 rfl rfl dX11_exchange_28 ?_
      refine V_callVV (pc := 31) (dy := 3) (q := (RX11, TX11, 59)) h [.int (S2 0 32)] [] 0 mv_X11_338 oM_0 rfl dX11_exchange_31 rfl rfl (Nat.le_of_ble_eq_true rfl) (Nat.le_trans (by decide) hD) (m_noon (S2 0 32) S2) (fun z9 hz9 => m_noon_ct h.gg (Nat.le_refl 3) (S2 0 32) S2 z9 hz9) (fun S4 => ?_)
      refine V_iconst (pc := 34) (v := -1) h dX11_exchange_34 (by decide) ?_
      refine V_istore_n (pc := 35) h [(2, .int (-1 : Int32)), (0, .ref (a 0)), (1, .int v1)] dX11_exchange_35 rfl (by decide) rfl ?_
      refine V_aload_n (pc := 36) h 1 dX11_exchange_36 rfl rfl ?_
      refine V_iconst (pc := 37) (v := 1) h dX11_exchange_37 (by decide) ?_
      refine V_aload_n (pc := 38) h 1 dX11_exchange_38 rfl rfl ?_
      refine V_get (pc := 39) h 0 32 (.int (S4 0 32)) fl_X11_292_X11 oM_0 rfl rfl dX11_exchange_39 ?_
      refine V_callVI (pc := 42) (dy := 50) (q := (RX11, TX11, 59)) h [.int (1 : Int32), .int (S4 0 32)] [] 0 mv_X11_364 oM_0 rfl dX11_exchange_42 rfl rfl (Nat.le_of_ble_eq_true rfl) (Nat.le_trans (by decide) hD) (m_allMeals (1 : Int32) (S4 0 32) S4) (fun z9 hz9 => m_allMeals_ct h.gg (Nat.le_refl 50) (1 : Int32) (S4 0 32) S4 z9 hz9) (fun x6 S5 => ?_)
      refine V_istore_n (pc := 45) h [(3, .int x6), (2, .int (-1 : Int32)), (0, .ref (a 0)), (1, .int v1)] dX11_exchange_45 rfl (by decide) rfl ?_
      refine V_iconst (pc := 46) (v := 0) h dX11_exchange_46 (by decide) ?_
      refine V_istore (pc := 47) h [(4, .int (0 : Int32)), (3, .int x6), (2, .int (-1 : Int32)), (0, .ref (a 0)), (1, .int v1)] dX11_exchange_47 (by decide) rfl ?_
      exact V_ls [3, 4, 2, 1, 0] rfl (m_exchange_h49_ok h hr hlk hD FU v1 (-1 : Int32) x6 (0 : Int32) S5)
    · refine V_ldcw (pc := 22) (v := -100000000) h dX11_exchange_22 tw_7_12 ?_
      exact V_iret (pc := 25) h hr hlk dX11_exchange_25
theorem m_exchange_ct {d : Nat} (g : GG s0 args0 D ca a A) (hD : 51 ≤ d) (v1 : Int32) (S : St) (z : Int32 × St) (hz : m_exchange v1 S = some z) : CtI l yX11_exchange cX11_exchange 7 .int d s0 D ca tpM a A [.ref (a 0), .int v1] S z := CtI_mk g (by decide +kernel) (Nat.le_of_ble_eq_true rfl) hz (fun p e s m args below meth c h hr hlk => m_exchange_ok h hr hlk hD v1 S)
end GEN
