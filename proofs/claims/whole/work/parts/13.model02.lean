section GEN
variable {p : Program} {l : Launch} {e : Env} {s : State} {m : MethodId} {args : Array Value} {below : List Frame} {meth : Method} {c : Code}
variable {D : va_G} {ca : Nat → ClassId} {tp : List ODt} {a : Nat → Nat} {A : Nat → Prop} {s0 : State} {args0 : Array Value} {t : Nat}
def m_condition_b56 (rec : Nat → Int32 → Int32 → St → Option (Int32 × St)) (L7 : Int32 → St → Option (Int32 × St)) (k0 : Int32) (S : St) : Option (Int32 × St) := (L7 k0 S)
set_option maxHeartbeats 4000000 in
set_option maxRecDepth 100000 in
theorem m_condition_b56_ok {d : Nat} (h : Cx p s m c cX11_condition 5 RX11 s0 args0 D ca a A) (hr : meth.sig.returnType = some .boolean) (hlk : meth.locks = false) (hD : 6 ≤ d) {dr : Nat} (rec : Nat → Int32 → Int32 → St → Option (Int32 × St)) (hrec : (∀ (S : St) (z : Int32 × St), rec 0 0 0 S = some z → CtI l yX11_atom cX11_atom 4 .int dr s0 D ca tpM a A [.ref (a 0)] S z) ∧ (∀ (S : St) (z : Int32 × St), rec 1 0 0 S = some z → CtI l yX11_term cX11_term 5 .int dr s0 D ca tpM a A [.ref (a 0)] S z) ∧ (∀ (S : St) (z : Int32 × St), rec 2 0 0 S = some z → CtI l yX11_sum cX11_sum 5 .int dr s0 D ca tpM a A [.ref (a 0)] S z) ∧ (∀ (v1 v2 : Int32) (S : St) (z : Int32 × St), rec 3 v1 v2 S = some z → CtI l yX11_compares cX11_compares 6 .boolean dr s0 D ca tpM a A [.ref (a 0), .int v1, .int v2] S z) ∧ (∀ (S : St) (z : Int32 × St), rec 4 0 0 S = some z → CtI l yX11_unit cX11_unit 3 .boolean dr s0 D ca tpM a A [.ref (a 0)] S z) ∧ (∀ (v1 v2 : Int32) (S : St) (z : Int32 × St), rec 5 v1 v2 S = some z → CtI l yX11_part cX11_part 5 .boolean dr s0 D ca tpM a A [.ref (a 0), .int v1, .int v2] S z) ∧ (∀ (v1 v2 : Int32) (S : St) (z : Int32 × St), rec 6 v1 v2 S = some z → CtI l yX11_condition cX11_condition 5 .boolean dr s0 D ca tpM a A [.ref (a 0), .int v1, .int v2] S z)) (hdr : dr + 1 ≤ d) (L7 : Int32 → St → Option (Int32 × St)) (hL7 : ∀ (v3 : Int32) (S : St), VV p l e (rmd d) s m args below meth c D ca tpM a A 5 (QmI D ca tpM a A below args s) S [(0, .ref (a 0)), (3, .int v3)] 7 [] (L7 v3 S)) (k0 : Int32) (S : St) : VV p l e (rmd d) s m args below meth c D ca tpM a A 5 (QmI D ca tpM a A below args s) S [(0, .ref (a 0))] 56 [.int k0] (m_condition_b56 rec L7 k0 S) := by
  unfold m_condition_b56
  refine V_istore_n (pc := 56) h [(3, .int k0), (0, .ref (a 0))] dX11_condition_56 rfl (by decide) rfl ?_
  refine V_goto (pc := 57) h 7 dX11_condition_57 (by decide) ?_
  exact V_ls [1, 0] rfl (hL7 k0 S)
def m_condition_b51 (rec : Nat → Int32 → Int32 → St → Option (Int32 × St)) (L7 : Int32 → St → Option (Int32 × St)) (S : St) : Option (Int32 × St) := (m_condition_b56 rec L7 (1 : Int32) S)
set_option maxHeartbeats 4000000 in
set_option maxRecDepth 100000 in
theorem m_condition_b51_ok {d : Nat} (h : Cx p s m c cX11_condition 5 RX11 s0 args0 D ca a A) (hr : meth.sig.returnType = some .boolean) (hlk : meth.locks = false) (hD : 6 ≤ d) {dr : Nat} (rec : Nat → Int32 → Int32 → St → Option (Int32 × St)) (hrec : (∀ (S : St) (z : Int32 × St), rec 0 0 0 S = some z → CtI l yX11_atom cX11_atom 4 .int dr s0 D ca tpM a A [.ref (a 0)] S z) ∧ (∀ (S : St) (z : Int32 × St), rec 1 0 0 S = some z → CtI l yX11_term cX11_term 5 .int dr s0 D ca tpM a A [.ref (a 0)] S z) ∧ (∀ (S : St) (z : Int32 × St), rec 2 0 0 S = some z → CtI l yX11_sum cX11_sum 5 .int dr s0 D ca tpM a A [.ref (a 0)] S z) ∧ (∀ (v1 v2 : Int32) (S : St) (z : Int32 × St), rec 3 v1 v2 S = some z → CtI l yX11_compares cX11_compares 6 .boolean dr s0 D ca tpM a A [.ref (a 0), .int v1, .int v2] S z) ∧ (∀ (S : St) (z : Int32 × St), rec 4 0 0 S = some z → CtI l yX11_unit cX11_unit 3 .boolean dr s0 D ca tpM a A [.ref (a 0)] S z) ∧ (∀ (v1 v2 : Int32) (S : St) (z : Int32 × St), rec 5 v1 v2 S = some z → CtI l yX11_part cX11_part 5 .boolean dr s0 D ca tpM a A [.ref (a 0), .int v1, .int v2] S z) ∧ (∀ (v1 v2 : Int32) (S : St) (z : Int32 × St), rec 6 v1 v2 S = some z → CtI l yX11_condition cX11_condition 5 .boolean dr s0 D ca tpM a A [.ref (a 0), .int v1, .int v2] S z)) (hdr : dr + 1 ≤ d) (L7 : Int32 → St → Option (Int32 × St)) (hL7 : ∀ (v3 : Int32) (S : St), VV p l e (rmd d) s m args below meth c D ca tpM a A 5 (QmI D ca tpM a A below args s) S [(0, .ref (a 0)), (3, .int v3)] 7 [] (L7 v3 S)) (S : St) : VV p l e (rmd d) s m args below meth c D ca tpM a A 5 (QmI D ca tpM a A below args s) S [(0, .ref (a 0))] 51 [] (m_condition_b51 rec L7 S) := by
  unfold m_condition_b51
  refine V_iconst (pc := 51) (v := 1) h dX11_condition_51 (by decide) ?_
  refine V_goto (pc := 52) h 56 dX11_condition_52 (by decide) ?_
  exact V_ls [0] rfl (m_condition_b56_ok h hr hlk hD rec hrec hdr L7 hL7 (1 : Int32) S)
def m_condition_h7 (rec : Nat → Int32 → Int32 → St → Option (Int32 × St)) : Nat → Int32 → St → Option (Int32 × St)
  | 0, _, _ => none
  | n + 1, v3, S => (if (S 0 11) = (-1 : Int32) then (bI (m_look S) (fun x2 S1 => (if x2 = (124 : Int32) then (bnd (up2 S1 0 10 ((S1 0 10) + (1 : Int32))) (fun S3 => (bI (rec 5 (0 : Int32) (0 : Int32) S3) (fun x5 S4 => (if v3 = 0 then (if x5 = 0 then (m_condition_b56 rec (m_condition_h7 rec n) (0 : Int32) S4) else (m_condition_b51 rec (m_condition_h7 rec n) S4)) else (m_condition_b51 rec (m_condition_h7 rec n) S4)))))) else (nzM v3 (some (v3, S1)))))) else (nzM v3 (some (v3, S))))
set_option maxHeartbeats 4000000 in
set_option maxRecDepth 100000 in
theorem m_condition_h7_ok {d : Nat} (h : Cx p s m c cX11_condition 5 RX11 s0 args0 D ca a A) (hr : meth.sig.returnType = some .boolean) (hlk : meth.locks = false) (hD : 6 ≤ d) {dr : Nat} (rec : Nat → Int32 → Int32 → St → Option (Int32 × St)) (hrec : (∀ (S : St) (z : Int32 × St), rec 0 0 0 S = some z → CtI l yX11_atom cX11_atom 4 .int dr s0 D ca tpM a A [.ref (a 0)] S z) ∧ (∀ (S : St) (z : Int32 × St), rec 1 0 0 S = some z → CtI l yX11_term cX11_term 5 .int dr s0 D ca tpM a A [.ref (a 0)] S z) ∧ (∀ (S : St) (z : Int32 × St), rec 2 0 0 S = some z → CtI l yX11_sum cX11_sum 5 .int dr s0 D ca tpM a A [.ref (a 0)] S z) ∧ (∀ (v1 v2 : Int32) (S : St) (z : Int32 × St), rec 3 v1 v2 S = some z → CtI l yX11_compares cX11_compares 6 .boolean dr s0 D ca tpM a A [.ref (a 0), .int v1, .int v2] S z) ∧ (∀ (S : St) (z : Int32 × St), rec 4 0 0 S = some z → CtI l yX11_unit cX11_unit 3 .boolean dr s0 D ca tpM a A [.ref (a 0)] S z) ∧ (∀ (v1 v2 : Int32) (S : St) (z : Int32 × St), rec 5 v1 v2 S = some z → CtI l yX11_part cX11_part 5 .boolean dr s0 D ca tpM a A [.ref (a 0), .int v1, .int v2] S z) ∧ (∀ (v1 v2 : Int32) (S : St) (z : Int32 × St), rec 6 v1 v2 S = some z → CtI l yX11_condition cX11_condition 5 .boolean dr s0 D ca tpM a A [.ref (a 0), .int v1, .int v2] S z)) (hdr : dr + 1 ≤ d) : ∀ (n : Nat) (v3 : Int32) (S : St), VV p l e (rmd d) s m args below meth c D ca tpM a A 5 (QmI D ca tpM a A below args s) S [(0, .ref (a 0)), (3, .int v3)] 7 [] (m_condition_h7 rec n v3 S) := by
  intro n
  induction n with
  | zero => intro v3 S; exact V_none
  | succ n ih =>
    intro v3 S
    unfold m_condition_h7
    refine V_aload_n (pc := 7) h 0 dX11_condition_7 rfl rfl ?_
    refine V_get (pc := 8) h 0 11 (.int (S 0 11)) fl_X11_151_X11 oM_0 rfl rfl dX11_condition_8 ?_
    refine V_iconst (pc := 11) (v := -1) h dX11_condition_11 (by decide) ?_
    refine V_icmp_ne (pc := 12) h 60 dX11_condition_12 (by decide) ?_ ?_
    · refine V_iload_n (pc := 60) h 1 dX11_condition_60 rfl rfl ?_
      exact V_zret (pc := 61) h hr hlk dX11_condition_61
    · refine V_aload_n (pc := 15) h 0 dX11_condition_15 rfl rfl ?_
      refine V_callVI (pc := 16) (dy := 1) (q := (RX11, TX11, 59)) h [] [] 0 mv_X11_161 oM_0 rfl dX11_condition_16 rfl rfl (Nat.le_of_ble_eq_true rfl) (Nat.le_trans (by decide) hD) (m_look S) (fun z9 hz9 => m_look_ct h.gg (Nat.le_refl 1) S z9 hz9) (fun x2 S1 => ?_)
      refine V_bipush (pc := 19) (v := 124) h dX11_condition_19 (by decide) ?_
      refine V_icmp_ne (pc := 21) h 60 dX11_condition_21 (by decide) ?_ ?_
      · refine V_iload_n (pc := 60) h 1 dX11_condition_60 rfl rfl ?_
        exact V_zret (pc := 61) h hr hlk dX11_condition_61
      · refine V_aload_n (pc := 24) h 0 dX11_condition_24 rfl rfl ?_
        refine V_dup (pc := 25) h dX11_condition_25 rfl ?_
        refine V_get (pc := 26) h 0 10 (.int (S1 0 10)) fl_X11_142_X11 oM_0 rfl rfl dX11_condition_26 ?_
        refine V_iconst (pc := 29) (v := 1) h dX11_condition_29 (by decide) ?_
        refine V_iadd (pc := 30) h dX11_condition_30 ?_
        refine V_put (pc := 31) h 0 10 ((S1 0 10) + (1 : Int32)) fp_X11_142_X11 oM_0 rfl rfl rfl rfl dX11_condition_31 (fun S3 => ?_)
        refine V_aload_n (pc := 34) h 0 dX11_condition_34 rfl rfl ?_
        refine V_iconst (pc := 35) (v := 0) h dX11_condition_35 (by decide) ?_
        refine V_iconst (pc := 36) (v := 0) h dX11_condition_36 (by decide) ?_
        refine V_callVI (pc := 37) (dy := dr) (q := (RX11, TX11, 59)) h [.int (0 : Int32), .int (0 : Int32)] [] 0 mv_X11_217 oM_0 rfl dX11_condition_37 rfl rfl (Nat.le_of_ble_eq_true rfl) hdr (rec 5 (0 : Int32) (0 : Int32) S3) (fun z9 hz9 => hrec.2.2.2.2.2.1 (0 : Int32) (0 : Int32) S3 z9 hz9) (fun x5 S4 => ?_)
        refine V_istore (pc := 40) h [(4, .int x5), (0, .ref (a 0)), (3, .int v3)] dX11_condition_40 (by decide) rfl ?_
        refine V_iload_n (pc := 42) h 2 dX11_condition_42 rfl rfl ?_
        refine V_if_ne (pc := 43) h 51 dX11_condition_43 (by decide) ?_ ?_
        · exact V_ls [1] rfl (m_condition_b51_ok h hr hlk hD rec hrec hdr (m_condition_h7 rec n) ih S4)
        · refine V_iload (pc := 46) h 0 dX11_condition_46 rfl ?_
          refine V_if_eq (pc := 48) h 55 dX11_condition_48 (by decide) ?_ ?_
          · refine V_iconst (pc := 55) (v := 0) h dX11_condition_55 (by decide) ?_
            exact V_ls [1] rfl (m_condition_b56_ok h hr hlk hD rec hrec hdr (m_condition_h7 rec n) ih (0 : Int32) S4)
          · exact V_ls [1] rfl (m_condition_b51_ok h hr hlk hD rec hrec hdr (m_condition_h7 rec n) ih S4)
def m_condition (rec : Nat → Int32 → Int32 → St → Option (Int32 × St)) (v1 : Int32) (v2 : Int32) (S : St) : Option (Int32 × St) := (bI (rec 5 v1 v2 S) (fun x2 S1 => (m_condition_h7 rec FU x2 S1)))
set_option maxHeartbeats 4000000 in
set_option maxRecDepth 100000 in
theorem m_condition_ok {d : Nat} (h : Cx p s m c cX11_condition 5 RX11 s0 args0 D ca a A) (hr : meth.sig.returnType = some .boolean) (hlk : meth.locks = false) (hD : 6 ≤ d) {dr : Nat} (rec : Nat → Int32 → Int32 → St → Option (Int32 × St)) (hrec : (∀ (S : St) (z : Int32 × St), rec 0 0 0 S = some z → CtI l yX11_atom cX11_atom 4 .int dr s0 D ca tpM a A [.ref (a 0)] S z) ∧ (∀ (S : St) (z : Int32 × St), rec 1 0 0 S = some z → CtI l yX11_term cX11_term 5 .int dr s0 D ca tpM a A [.ref (a 0)] S z) ∧ (∀ (S : St) (z : Int32 × St), rec 2 0 0 S = some z → CtI l yX11_sum cX11_sum 5 .int dr s0 D ca tpM a A [.ref (a 0)] S z) ∧ (∀ (v1 v2 : Int32) (S : St) (z : Int32 × St), rec 3 v1 v2 S = some z → CtI l yX11_compares cX11_compares 6 .boolean dr s0 D ca tpM a A [.ref (a 0), .int v1, .int v2] S z) ∧ (∀ (S : St) (z : Int32 × St), rec 4 0 0 S = some z → CtI l yX11_unit cX11_unit 3 .boolean dr s0 D ca tpM a A [.ref (a 0)] S z) ∧ (∀ (v1 v2 : Int32) (S : St) (z : Int32 × St), rec 5 v1 v2 S = some z → CtI l yX11_part cX11_part 5 .boolean dr s0 D ca tpM a A [.ref (a 0), .int v1, .int v2] S z) ∧ (∀ (v1 v2 : Int32) (S : St) (z : Int32 × St), rec 6 v1 v2 S = some z → CtI l yX11_condition cX11_condition 5 .boolean dr s0 D ca tpM a A [.ref (a 0), .int v1, .int v2] S z)) (hdr : dr + 1 ≤ d) (v1 : Int32) (v2 : Int32) (S : St) : VV p l e (rmd d) s m args below meth c D ca tpM a A 5 (QmI D ca tpM a A below args s) S [(0, .ref (a 0)), (1, .int v1), (2, .int v2)] 0 [] (m_condition rec v1 v2 S) := by
  unfold m_condition
  refine V_aload_n (pc := 0) h 0 dX11_condition_0 rfl rfl ?_
  refine V_iload_n (pc := 1) h 1 dX11_condition_1 rfl rfl ?_
  refine V_iload_n (pc := 2) h 2 dX11_condition_2 rfl rfl ?_
  refine V_callVI (pc := 3) (dy := dr) (q := (RX11, TX11, 59)) h [.int v1, .int v2] [] 0 mv_X11_217 oM_0 rfl dX11_condition_3 rfl rfl (Nat.le_of_ble_eq_true rfl) hdr (rec 5 v1 v2 S) (fun z9 hz9 => hrec.2.2.2.2.2.1 v1 v2 S z9 hz9) (fun x2 S1 => ?_)
  refine V_istore_n (pc := 6) h [(3, .int x2), (0, .ref (a 0)), (1, .int v1), (2, .int v2)] dX11_condition_6 rfl (by decide) rfl ?_
  exact V_ls [1, 0] rfl (m_condition_h7_ok h hr hlk hD rec hrec hdr FU x2 S1)
def m_ex : Nat → Nat → Int32 → Int32 → St → Option (Int32 × St)
  | 0, _, _, _, _ => none
  | n + 1, t, v1, v2, S => if t = 0 then m_atom (m_ex n) S else if t = 1 then m_term (m_ex n) S else if t = 2 then m_sum (m_ex n) S else if t = 3 then m_compares (m_ex n) v1 v2 S else if t = 4 then m_unit (m_ex n) S else if t = 5 then m_part (m_ex n) v1 v2 S else if t = 6 then m_condition (m_ex n) v1 v2 S else none
set_option maxHeartbeats 4000000 in
set_option maxRecDepth 100000 in
theorem m_ex_ct (g : GG s0 args0 D ca a A) : ∀ n : Nat, (∀ (S : St) (z : Int32 × St), m_ex n 0 0 0 S = some z → CtI l yX11_atom cX11_atom 4 .int (n + 6) s0 D ca tpM a A [.ref (a 0)] S z) ∧ (∀ (S : St) (z : Int32 × St), m_ex n 1 0 0 S = some z → CtI l yX11_term cX11_term 5 .int (n + 6) s0 D ca tpM a A [.ref (a 0)] S z) ∧ (∀ (S : St) (z : Int32 × St), m_ex n 2 0 0 S = some z → CtI l yX11_sum cX11_sum 5 .int (n + 6) s0 D ca tpM a A [.ref (a 0)] S z) ∧ (∀ (v1 v2 : Int32) (S : St) (z : Int32 × St), m_ex n 3 v1 v2 S = some z → CtI l yX11_compares cX11_compares 6 .boolean (n + 6) s0 D ca tpM a A [.ref (a 0), .int v1, .int v2] S z) ∧ (∀ (S : St) (z : Int32 × St), m_ex n 4 0 0 S = some z → CtI l yX11_unit cX11_unit 3 .boolean (n + 6) s0 D ca tpM a A [.ref (a 0)] S z) ∧ (∀ (v1 v2 : Int32) (S : St) (z : Int32 × St), m_ex n 5 v1 v2 S = some z → CtI l yX11_part cX11_part 5 .boolean (n + 6) s0 D ca tpM a A [.ref (a 0), .int v1, .int v2] S z) ∧ (∀ (v1 v2 : Int32) (S : St) (z : Int32 × St), m_ex n 6 v1 v2 S = some z → CtI l yX11_condition cX11_condition 5 .boolean (n + 6) s0 D ca tpM a A [.ref (a 0), .int v1, .int v2] S z) := by
  intro n
  induction n with
  | zero => exact ⟨fun _ _ hz => (nomatch hz), fun _ _ hz => (nomatch hz), fun _ _ hz => (nomatch hz), fun _ _ _ _ hz => (nomatch hz), fun _ _ hz => (nomatch hz), fun _ _ _ _ hz => (nomatch hz), fun _ _ _ _ hz => (nomatch hz)⟩
  | succ n ih =>
    refine ⟨?_, ?_, ?_, ?_, ?_, ?_, ?_⟩
    · exact fun S z hz => CtI_mk g (by decide +kernel) (Nat.le_of_ble_eq_true rfl) (show m_atom (m_ex n) S = some z from hz) (fun p e s m args below meth c h hr hlk => m_atom_ok h hr hlk (by omega) (m_ex n) ih (by omega) S)
    · exact fun S z hz => CtI_mk g (by decide +kernel) (Nat.le_of_ble_eq_true rfl) (show m_term (m_ex n) S = some z from hz) (fun p e s m args below meth c h hr hlk => m_term_ok h hr hlk (by omega) (m_ex n) ih (by omega) S)
    · exact fun S z hz => CtI_mk g (by decide +kernel) (Nat.le_of_ble_eq_true rfl) (show m_sum (m_ex n) S = some z from hz) (fun p e s m args below meth c h hr hlk => m_sum_ok h hr hlk (by omega) (m_ex n) ih (by omega) S)
    · exact fun v1 v2 S z hz => CtI_mk g (by decide +kernel) (Nat.le_of_ble_eq_true rfl) (show m_compares (m_ex n) v1 v2 S = some z from hz) (fun p e s m args below meth c h hr hlk => m_compares_ok h hr hlk (by omega) (m_ex n) ih (by omega) v1 v2 S)
    · exact fun S z hz => CtI_mk g (by decide +kernel) (Nat.le_of_ble_eq_true rfl) (show m_unit (m_ex n) S = some z from hz) (fun p e s m args below meth c h hr hlk => m_unit_ok h hr hlk (by omega) (m_ex n) ih (by omega) S)
    · exact fun v1 v2 S z hz => CtI_mk g (by decide +kernel) (Nat.le_of_ble_eq_true rfl) (show m_part (m_ex n) v1 v2 S = some z from hz) (fun p e s m args below meth c h hr hlk => m_part_ok h hr hlk (by omega) (m_ex n) ih (by omega) v1 v2 S)
    · exact fun v1 v2 S z hz => CtI_mk g (by decide +kernel) (Nat.le_of_ble_eq_true rfl) (show m_condition (m_ex n) v1 v2 S = some z from hz) (fun p e s m args below meth c h hr hlk => m_condition_ok h hr hlk (by omega) (m_ex n) ih (by omega) v1 v2 S)
def m_atom_x (S : St) : Option (Int32 × St) := m_ex 40 0 0 0 S
theorem m_atom_x_ct {d : Nat} (g : GG s0 args0 D ca a A) (hD : d ≤ 46) (hD2 : 46 ≤ d) (S : St) (z : (Int32 × St)) (hz : m_atom_x S = some z) : CtI l yX11_atom cX11_atom 4 .int d s0 D ca tpM a A [.ref (a 0)] S z := by
 have e : d = 40 + 6 := by omega
 subst e
 exact (m_ex_ct g 40).1 S z hz
def m_term_x (S : St) : Option (Int32 × St) := m_ex 40 1 0 0 S
theorem m_term_x_ct {d : Nat} (g : GG s0 args0 D ca a A) (hD : d ≤ 46) (hD2 : 46 ≤ d) (S : St) (z : (Int32 × St)) (hz : m_term_x S = some z) : CtI l yX11_term cX11_term 5 .int d s0 D ca tpM a A [.ref (a 0)] S z := by
 have e : d = 40 + 6 := by omega
 subst e
 exact (m_ex_ct g 40).2.1 S z hz
def m_sum_x (S : St) : Option (Int32 × St) := m_ex 40 2 0 0 S
theorem m_sum_x_ct {d : Nat} (g : GG s0 args0 D ca a A) (hD : d ≤ 46) (hD2 : 46 ≤ d) (S : St) (z : (Int32 × St)) (hz : m_sum_x S = some z) : CtI l yX11_sum cX11_sum 5 .int d s0 D ca tpM a A [.ref (a 0)] S z := by
 have e : d = 40 + 6 := by omega
 subst e
 exact (m_ex_ct g 40).2.2.1 S z hz
def m_compares_x (v1 : Int32) (v2 : Int32) (S : St) : Option (Int32 × St) := m_ex 40 3 v1 v2 S
theorem m_compares_x_ct {d : Nat} (g : GG s0 args0 D ca a A) (hD : d ≤ 46) (hD2 : 46 ≤ d) (v1 : Int32) (v2 : Int32) (S : St) (z : (Int32 × St)) (hz : m_compares_x v1 v2 S = some z) : CtI l yX11_compares cX11_compares 6 .boolean d s0 D ca tpM a A [.ref (a 0), .int v1, .int v2] S z := by
 have e : d = 40 + 6 := by omega
 subst e
 exact (m_ex_ct g 40).2.2.2.1 v1 v2 S z hz
def m_unit_x (S : St) : Option (Int32 × St) := m_ex 40 4 0 0 S
theorem m_unit_x_ct {d : Nat} (g : GG s0 args0 D ca a A) (hD : d ≤ 46) (hD2 : 46 ≤ d) (S : St) (z : (Int32 × St)) (hz : m_unit_x S = some z) : CtI l yX11_unit cX11_unit 3 .boolean d s0 D ca tpM a A [.ref (a 0)] S z := by
 have e : d = 40 + 6 := by omega
 subst e
 exact (m_ex_ct g 40).2.2.2.2.1 S z hz
def m_part_x (v1 : Int32) (v2 : Int32) (S : St) : Option (Int32 × St) := m_ex 40 5 v1 v2 S
theorem m_part_x_ct {d : Nat} (g : GG s0 args0 D ca a A) (hD : d ≤ 46) (hD2 : 46 ≤ d) (v1 : Int32) (v2 : Int32) (S : St) (z : (Int32 × St)) (hz : m_part_x v1 v2 S = some z) : CtI l yX11_part cX11_part 5 .boolean d s0 D ca tpM a A [.ref (a 0), .int v1, .int v2] S z := by
 have e : d = 40 + 6 := by omega
 subst e
 exact (m_ex_ct g 40).2.2.2.2.2.1 v1 v2 S z hz
def m_condition_x (v1 : Int32) (v2 : Int32) (S : St) : Option (Int32 × St) := m_ex 40 6 v1 v2 S
theorem m_condition_x_ct {d : Nat} (g : GG s0 args0 D ca a A) (hD : d ≤ 46) (hD2 : 46 ≤ d) (v1 : Int32) (v2 : Int32) (S : St) (z : (Int32 × St)) (hz : m_condition_x v1 v2 S = some z) : CtI l yX11_condition cX11_condition 5 .boolean d s0 D ca tpM a A [.ref (a 0), .int v1, .int v2] S z := by
 have e : d = 40 + 6 := by omega
 subst e
 exact (m_ex_ct g 40).2.2.2.2.2.2 v1 v2 S z hz
def m_allIn_h4 : Nat → Int32 → Int32 → St → Option (Int32 × St)
  | 0, _, _, _ => none
  | n + 1, v1, v2, S => (if (5 : Int32) < v2 then (some (v1, S)) else (ckM v2 6 (bnd (v1 + (S 15 v2.toNatClampNeg)) (fun x1 => (bnd (v2 + (1 : Int32)) (fun x2 => ((m_allIn_h4 n) x1 x2 S)))))))
set_option maxHeartbeats 4000000 in
set_option maxRecDepth 100000 in
theorem m_allIn_h4_ok {d : Nat} (h : Cx p s m c cX11_allIn 3 RX11 s0 args0 D ca a A) (hr : meth.sig.returnType = some .int) (hlk : meth.locks = false) (hD : 1 ≤ d) : ∀ (n : Nat) (v1 : Int32) (v2 : Int32) (S : St), VV p l e (rmd d) s m args below meth c D ca tpM a A 3 (QmI D ca tpM a A below args s) S [(0, .ref (a 0)), (1, .int v1), (2, .int v2)] 4 [] (m_allIn_h4 n v1 v2 S) := by
  intro n
  induction n with
  | zero => intro v1 v2 S; exact V_none
  | succ n ih =>
    intro v1 v2 S
    unfold m_allIn_h4
    refine V_iload_n (pc := 4) h 2 dX11_allIn_4 rfl rfl ?_
    refine V_iconst (pc := 5) (v := 5) h dX11_allIn_5 (by decide) ?_
    refine V_icmp_gt (pc := 6) h 24 dX11_allIn_6 (by decide) ?_ ?_
    · refine V_iload_n (pc := 24) h 1 dX11_allIn_24 rfl rfl ?_
      exact V_iret (pc := 25) h hr hlk dX11_allIn_25
    · refine V_iload_n (pc := 9) h 1 dX11_allIn_9 rfl rfl ?_
      refine V_aload_n (pc := 10) h 0 dX11_allIn_10 rfl rfl ?_
      refine V_get (pc := 11) h 0 34 (.ref (a 15)) fl_X11_71_X11 oM_0 rfl rfl dX11_allIn_11 ?_
      refine V_iload_n (pc := 14) h 2 dX11_allIn_14 rfl rfl ?_
      refine V_iald (pc := 15) h 15 oM_15 dX11_allIn_15 ?_
      refine V_iadd (pc := 16) h dX11_allIn_16 ?_
      refine V_top (fun x1 => ?_)
      refine V_istore_n (pc := 17) h [(1, .int x1), (0, .ref (a 0)), (2, .int v2)] dX11_allIn_17 rfl (by decide) rfl ?_
      refine V_iincB (pc := 18) h 2 (1 : Int32) (fun x2 => [(2, .int x2), (1, .int x1), (0, .ref (a 0))]) dX11_allIn_18 rfl (by decide) (by decide) (fun _ => rfl) (fun x2 => ?_)
      refine V_goto (pc := 21) h 4 dX11_allIn_21 (by decide) ?_
      exact V_ls [2, 1, 0] rfl (ih x1 x2 S)
def m_allIn (S : St) : Option (Int32 × St) := (m_allIn_h4 FU (0 : Int32) (0 : Int32) S)
set_option maxHeartbeats 4000000 in
set_option maxRecDepth 100000 in
theorem m_allIn_ok {d : Nat} (h : Cx p s m c cX11_allIn 3 RX11 s0 args0 D ca a A) (hr : meth.sig.returnType = some .int) (hlk : meth.locks = false) (hD : 1 ≤ d) (S : St) : VV p l e (rmd d) s m args below meth c D ca tpM a A 3 (QmI D ca tpM a A below args s) S [(0, .ref (a 0))] 0 [] (m_allIn S) := by
  unfold m_allIn
  refine V_iconst (pc := 0) (v := 0) h dX11_allIn_0 (by decide) ?_
  refine V_istore_n (pc := 1) h [(1, .int (0 : Int32)), (0, .ref (a 0))] dX11_allIn_1 rfl (by decide) rfl ?_
  refine V_iconst (pc := 2) (v := 0) h dX11_allIn_2 (by decide) ?_
  refine V_istore_n (pc := 3) h [(2, .int (0 : Int32)), (1, .int (0 : Int32)), (0, .ref (a 0))] dX11_allIn_3 rfl (by decide) rfl ?_
  exact V_ls [2, 1, 0] rfl (m_allIn_h4_ok h hr hlk hD FU (0 : Int32) (0 : Int32) S)
theorem m_allIn_ct {d : Nat} (g : GG s0 args0 D ca a A) (hD : 1 ≤ d) (S : St) (z : Int32 × St) (hz : m_allIn S = some z) : CtI l yX11_allIn cX11_allIn 3 .int d s0 D ca tpM a A [.ref (a 0)] S z := CtI_mk g (by decide +kernel) (Nat.le_of_ble_eq_true rfl) hz (fun p e s m args below meth c h hr hlk => m_allIn_ok h hr hlk hD S)
def m_ladle_18_b48 (L9 : Int32 → Int32 → Int32 → Int32 → Int32 → St → Option St) (v1 : Int32) (v3 : Int32) (v4 : Int32) (v5 : Int32) (v6 : Int32) (k0 : Int32) (S : St) : Option St := (ckM (v3 + v6) 6 (bnd (up2 S 18 (v3 + v6).toNatClampNeg k0) (fun S1 => (bnd (v6 + (1 : Int32)) (fun x2 => (L9 v1 v3 v4 v5 x2 S1))))))
set_option maxHeartbeats 4000000 in
set_option maxRecDepth 100000 in
theorem m_ladle_18_b48_ok {d : Nat} (h : Cx p s m c cX11_ladle 8 RX11 s0 args0 D ca a A) (hr : meth.sig.returnType = none) (hlk : meth.locks = false) (hD : 2 ≤ d) (L9 : Int32 → Int32 → Int32 → Int32 → Int32 → St → Option St) (hL9 : ∀ (v1 : Int32) (v3 : Int32) (v4 : Int32) (v5 : Int32) (v6 : Int32) (S : St), VV p l e (rmd d) s m args below meth c D ca tpM a A 8 (QmV D ca tpM a A below args s) S [(0, .ref (a 0)), (1, .int v1), (2, .ref (a 18)), (3, .int v3), (4, .int v4), (5, .int v5), (6, .int v6)] 9 [] (L9 v1 v3 v4 v5 v6 S)) (v1 : Int32) (v3 : Int32) (v4 : Int32) (v5 : Int32) (v6 : Int32) (k0 : Int32) (S : St) : VV p l e (rmd d) s m args below meth c D ca tpM a A 8 (QmV D ca tpM a A below args s) S [(0, .ref (a 0)), (1, .int v1), (2, .ref (a 18)), (3, .int v3), (4, .int v4), (5, .int v5), (6, .int v6)] 48 [.int k0] (m_ladle_18_b48 L9 v1 v3 v4 v5 v6 k0 S) := by
  unfold m_ladle_18_b48
  refine V_istore (pc := 48) h [(7, .int k0), (0, .ref (a 0)), (1, .int v1), (2, .ref (a 18)), (3, .int v3), (4, .int v4), (5, .int v5), (6, .int v6)] dX11_ladle_48 (by decide) rfl ?_
  refine V_aload_n (pc := 50) h 3 dX11_ladle_50 rfl rfl ?_
  refine V_iload_n (pc := 51) h 4 dX11_ladle_51 rfl rfl ?_
  refine V_iload (pc := 52) h 7 dX11_ladle_52 rfl ?_
  refine V_iadd (pc := 54) h dX11_ladle_54 ?_
  refine V_iload (pc := 55) h 0 dX11_ladle_55 rfl ?_
  refine V_iast (pc := 57) h 18 oM_18 dX11_ladle_57 (fun S1 => ?_)
  refine V_iincB (pc := 58) h 7 (1 : Int32) (fun x2 => [(6, .int x2), (7, .int k0), (0, .ref (a 0)), (1, .int v1), (2, .ref (a 18)), (3, .int v3), (4, .int v4), (5, .int v5)]) dX11_ladle_58 rfl (by decide) (by decide) (fun _ => rfl) (fun x2 => ?_)
  refine V_goto (pc := 61) h 9 dX11_ladle_61 (by decide) ?_
  exact V_ls [2, 3, 4, 5, 6, 7, 0] rfl (hL9 v1 v3 v4 v5 x2 S1)
def m_ladle_18_b26 (L9 : Int32 → Int32 → Int32 → Int32 → Int32 → St → Option St) (v1 : Int32) (v3 : Int32) (v4 : Int32) (v5 : Int32) (v6 : Int32) (S : St) : Option St := (ckM v6 6 (m_ladle_18_b48 L9 v1 v3 v4 v5 v6 (S 15 v6.toNatClampNeg) S))
set_option maxHeartbeats 4000000 in
set_option maxRecDepth 100000 in
theorem m_ladle_18_b26_ok {d : Nat} (h : Cx p s m c cX11_ladle 8 RX11 s0 args0 D ca a A) (hr : meth.sig.returnType = none) (hlk : meth.locks = false) (hD : 2 ≤ d) (L9 : Int32 → Int32 → Int32 → Int32 → Int32 → St → Option St) (hL9 : ∀ (v1 : Int32) (v3 : Int32) (v4 : Int32) (v5 : Int32) (v6 : Int32) (S : St), VV p l e (rmd d) s m args below meth c D ca tpM a A 8 (QmV D ca tpM a A below args s) S [(0, .ref (a 0)), (1, .int v1), (2, .ref (a 18)), (3, .int v3), (4, .int v4), (5, .int v5), (6, .int v6)] 9 [] (L9 v1 v3 v4 v5 v6 S)) (v1 : Int32) (v3 : Int32) (v4 : Int32) (v5 : Int32) (v6 : Int32) (S : St) : VV p l e (rmd d) s m args below meth c D ca tpM a A 8 (QmV D ca tpM a A below args s) S [(0, .ref (a 0)), (1, .int v1), (2, .ref (a 18)), (3, .int v3), (4, .int v4), (5, .int v5), (6, .int v6)] 26 [] (m_ladle_18_b26 L9 v1 v3 v4 v5 v6 S) := by
  unfold m_ladle_18_b26
  refine V_aload_n (pc := 26) h 0 dX11_ladle_26 rfl rfl ?_
  refine V_get (pc := 27) h 0 34 (.ref (a 15)) fl_X11_71_X11 oM_0 rfl rfl dX11_ladle_27 ?_
  refine V_iload (pc := 30) h 6 dX11_ladle_30 rfl ?_
  refine V_iald (pc := 32) h 15 oM_15 dX11_ladle_32 ?_
  refine V_goto (pc := 33) h 48 dX11_ladle_33 (by decide) ?_
  exact V_ls [0, 1, 2, 3, 4, 5, 6] rfl (m_ladle_18_b48_ok h hr hlk hD L9 hL9 v1 v3 v4 v5 v6 (S 15 v6.toNatClampNeg) S)
def m_ladle_18_h67 : Nat → Int32 → Int32 → St → Option St
  | 0, _, _, _ => none
  | n + 1, v3, v6, S => (if (5 : Int32) < v6 then (some S) else (ckM v6 6 (ckM (v3 + v6) 6 (ckM v6 6 (bnd (up2 S 15 v6.toNatClampNeg ((S 15 v6.toNatClampNeg) - (S 18 (v3 + v6).toNatClampNeg))) (fun S1 => (bnd (v6 + (1 : Int32)) (fun x2 => ((m_ladle_18_h67 n) v3 x2 S1)))))))))
set_option maxHeartbeats 4000000 in
set_option maxRecDepth 100000 in
theorem m_ladle_18_h67_ok {d : Nat} (h : Cx p s m c cX11_ladle 8 RX11 s0 args0 D ca a A) (hr : meth.sig.returnType = none) (hlk : meth.locks = false) (hD : 2 ≤ d) : ∀ (n : Nat) (v3 : Int32) (v6 : Int32) (S : St), VV p l e (rmd d) s m args below meth c D ca tpM a A 8 (QmV D ca tpM a A below args s) S [(0, .ref (a 0)), (2, .ref (a 18)), (3, .int v3), (6, .int v6)] 67 [] (m_ladle_18_h67 n v3 v6 S) := by
  intro n
  induction n with
  | zero => intro v3 v6 S; exact V_none
  | succ n ih =>
    intro v3 v6 S
    unfold m_ladle_18_h67
    refine V_iload (pc := 67) h 3 dX11_ladle_67 rfl ?_
    refine V_iconst (pc := 69) (v := 5) h dX11_ladle_69 (by decide) ?_
    refine V_icmp_gt (pc := 70) h 95 dX11_ladle_70 (by decide) ?_ ?_
    · exact V_vret (pc := 95) h hr hlk dX11_ladle_95
    · refine V_aload_n (pc := 73) h 0 dX11_ladle_73 rfl rfl ?_
      refine V_get (pc := 74) h 0 34 (.ref (a 15)) fl_X11_71_X11 oM_0 rfl rfl dX11_ladle_74 ?_
      refine V_iload (pc := 77) h 3 dX11_ladle_77 rfl ?_
      refine V_dup2_11 (pc := 79) h dX11_ladle_79 rfl rfl ?_
      refine V_iald (pc := 80) h 15 oM_15 dX11_ladle_80 ?_
      refine V_aload_n (pc := 81) h 1 dX11_ladle_81 rfl rfl ?_
      refine V_iload_n (pc := 82) h 2 dX11_ladle_82 rfl rfl ?_
      refine V_iload (pc := 83) h 3 dX11_ladle_83 rfl ?_
      refine V_iadd (pc := 85) h dX11_ladle_85 ?_
      refine V_iald (pc := 86) h 18 oM_18 dX11_ladle_86 ?_
      refine V_isub (pc := 87) h dX11_ladle_87 ?_
      refine V_iast (pc := 88) h 15 oM_15 dX11_ladle_88 (fun S1 => ?_)
      refine V_iincB (pc := 89) h 3 (1 : Int32) (fun x2 => [(6, .int x2), (0, .ref (a 0)), (2, .ref (a 18)), (3, .int v3)]) dX11_ladle_89 rfl (by decide) (by decide) (fun _ => rfl) (fun x2 => ?_)
      refine V_goto (pc := 92) h 67 dX11_ladle_92 (by decide) ?_
      exact V_ls [1, 2, 3, 0] rfl (ih v3 x2 S1)
def m_ladle_18_h9 : Nat → Int32 → Int32 → Int32 → Int32 → Int32 → St → Option St
  | 0, _, _, _, _, _, _ => none
  | n + 1, v1, v3, v4, v5, v6, S => (if (5 : Int32) < v6 then (m_ladle_18_h67 FU v3 (0 : Int32) S) else (if v4 = 0 then (if v1 < v5 then (ckM v6 6 (dvM v5 (m_ladle_18_b48 (m_ladle_18_h9 n) v1 v3 v4 v5 v6 (((S 15 v6.toNatClampNeg) * v1) / v5) S))) else (m_ladle_18_b26 (m_ladle_18_h9 n) v1 v3 v4 v5 v6 S)) else (m_ladle_18_b26 (m_ladle_18_h9 n) v1 v3 v4 v5 v6 S)))
set_option maxHeartbeats 4000000 in
set_option maxRecDepth 100000 in
theorem m_ladle_18_h9_ok {d : Nat} (h : Cx p s m c cX11_ladle 8 RX11 s0 args0 D ca a A) (hr : meth.sig.returnType = none) (hlk : meth.locks = false) (hD : 2 ≤ d) : ∀ (n : Nat) (v1 : Int32) (v3 : Int32) (v4 : Int32) (v5 : Int32) (v6 : Int32) (S : St), VV p l e (rmd d) s m args below meth c D ca tpM a A 8 (QmV D ca tpM a A below args s) S [(0, .ref (a 0)), (1, .int v1), (2, .ref (a 18)), (3, .int v3), (4, .int v4), (5, .int v5), (6, .int v6)] 9 [] (m_ladle_18_h9 n v1 v3 v4 v5 v6 S) := by
  intro n
  induction n with
  | zero => intro v1 v3 v4 v5 v6 S; exact V_none
  | succ n ih =>
    intro v1 v3 v4 v5 v6 S
    unfold m_ladle_18_h9
    refine V_iload (pc := 9) h 6 dX11_ladle_9 rfl ?_
    refine V_iconst (pc := 11) (v := 5) h dX11_ladle_11 (by decide) ?_
    refine V_icmp_gt (pc := 12) h 64 dX11_ladle_12 (by decide) ?_ ?_
    · refine V_iconst (pc := 64) (v := 0) h dX11_ladle_64 (by decide) ?_
      refine V_istore (pc := 65) h [(6, .int (0 : Int32)), (0, .ref (a 0)), (1, .int v1), (2, .ref (a 18)), (3, .int v3), (4, .int v4), (5, .int v5)] dX11_ladle_65 (by decide) rfl ?_
      exact V_ls [1, 3, 4, 0] rfl (m_ladle_18_h67_ok h hr hlk hD FU v3 (0 : Int32) S)
    · refine V_iload (pc := 15) h 4 dX11_ladle_15 rfl ?_
      refine V_if_ne (pc := 17) h 26 dX11_ladle_17 (by decide) ?_ ?_
      · exact V_ls [0, 1, 2, 3, 4, 5, 6] rfl (m_ladle_18_b26_ok h hr hlk hD (m_ladle_18_h9 n) ih v1 v3 v4 v5 v6 S)
      · refine V_iload (pc := 20) h 5 dX11_ladle_20 rfl ?_
        refine V_iload_n (pc := 22) h 1 dX11_ladle_22 rfl rfl ?_
        refine V_icmp_gt (pc := 23) h 36 dX11_ladle_23 (by decide) ?_ ?_
        · refine V_aload_n (pc := 36) h 0 dX11_ladle_36 rfl rfl ?_
          refine V_get (pc := 37) h 0 34 (.ref (a 15)) fl_X11_71_X11 oM_0 rfl rfl dX11_ladle_37 ?_
          refine V_iload (pc := 40) h 6 dX11_ladle_40 rfl ?_
          refine V_iald (pc := 42) h 15 oM_15 dX11_ladle_42 ?_
          refine V_iload_n (pc := 43) h 1 dX11_ladle_43 rfl rfl ?_
          refine V_imul (pc := 44) h dX11_ladle_44 ?_
          refine V_iload (pc := 45) h 5 dX11_ladle_45 rfl ?_
          refine V_idiv (pc := 47) h dX11_ladle_47 ?_
          exact V_ls [0, 1, 2, 3, 4, 5, 6] rfl (m_ladle_18_b48_ok h hr hlk hD (m_ladle_18_h9 n) ih v1 v3 v4 v5 v6 (((S 15 v6.toNatClampNeg) * v1) / v5) S)
        · exact V_ls [0, 1, 2, 3, 4, 5, 6] rfl (m_ladle_18_b26_ok h hr hlk hD (m_ladle_18_h9 n) ih v1 v3 v4 v5 v6 S)
def m_ladle_18 (v1 : Int32) (v3 : Int32) (v4 : Int32) (S : St) : Option St := (bI (m_allIn S) (fun x2 S1 => (m_ladle_18_h9 FU v1 v3 v4 x2 (0 : Int32) S1)))
set_option maxHeartbeats 4000000 in
set_option maxRecDepth 100000 in
theorem m_ladle_18_ok {d : Nat} (h : Cx p s m c cX11_ladle 8 RX11 s0 args0 D ca a A) (hr : meth.sig.returnType = none) (hlk : meth.locks = false) (hD : 2 ≤ d) (v1 : Int32) (v3 : Int32) (v4 : Int32) (S : St) : VV p l e (rmd d) s m args below meth c D ca tpM a A 8 (QmV D ca tpM a A below args s) S [(0, .ref (a 0)), (1, .int v1), (2, .ref (a 18)), (3, .int v3), (4, .int v4)] 0 [] (m_ladle_18 v1 v3 v4 S) := by
  unfold m_ladle_18
  refine V_aload_n (pc := 0) h 0 dX11_ladle_0 rfl rfl ?_
  refine V_callVI (pc := 1) (dy := 1) (q := (RX11, TX11, 59)) h [] [] 0 mv_X11_314 oM_0 rfl dX11_ladle_1 rfl rfl (Nat.le_of_ble_eq_true rfl) (Nat.le_trans (by decide) hD) (m_allIn S) (fun z9 hz9 => m_allIn_ct h.gg (Nat.le_refl 1) S z9 hz9) (fun x2 S1 => ?_)
  refine V_istore (pc := 4) h [(5, .int x2), (0, .ref (a 0)), (1, .int v1), (2, .ref (a 18)), (3, .int v3), (4, .int v4)] dX11_ladle_4 (by decide) rfl ?_
  refine V_iconst (pc := 6) (v := 0) h dX11_ladle_6 (by decide) ?_
  refine V_istore (pc := 7) h [(6, .int (0 : Int32)), (5, .int x2), (0, .ref (a 0)), (1, .int v1), (2, .ref (a 18)), (3, .int v3), (4, .int v4)] dX11_ladle_7 (by decide) rfl ?_
  exact V_ls [2, 3, 4, 5, 6, 1, 0] rfl (m_ladle_18_h9_ok h hr hlk hD FU v1 v3 v4 x2 (0 : Int32) S1)
theorem m_ladle_18_ct {d : Nat} (g : GG s0 args0 D ca a A) (hD : 2 ≤ d) (v1 : Int32) (v3 : Int32) (v4 : Int32) (S : St) (z : St) (hz : m_ladle_18 v1 v3 v4 S = some z) : CtV l yX11_ladle cX11_ladle 8 d s0 D ca tpM a A [.ref (a 0), .int v1, .ref (a 18), .int v3, .int v4] S z := CtV_mk g (by decide +kernel) (Nat.le_of_ble_eq_true rfl) hz (fun p e s m args below meth c h hr hlk => m_ladle_18_ok h hr hlk hD v1 v3 v4 S)
def m_ladle_16_b48 (L9 : Int32 → Int32 → Int32 → Int32 → Int32 → St → Option St) (v1 : Int32) (v3 : Int32) (v4 : Int32) (v5 : Int32) (v6 : Int32) (k0 : Int32) (S : St) : Option St := (ckM (v3 + v6) 36 (bnd (up2 S 16 (v3 + v6).toNatClampNeg k0) (fun S1 => (bnd (v6 + (1 : Int32)) (fun x2 => (L9 v1 v3 v4 v5 x2 S1))))))
set_option maxHeartbeats 4000000 in
set_option maxRecDepth 100000 in
theorem m_ladle_16_b48_ok {d : Nat} (h : Cx p s m c cX11_ladle 8 RX11 s0 args0 D ca a A) (hr : meth.sig.returnType = none) (hlk : meth.locks = false) (hD : 2 ≤ d) (L9 : Int32 → Int32 → Int32 → Int32 → Int32 → St → Option St) (hL9 : ∀ (v1 : Int32) (v3 : Int32) (v4 : Int32) (v5 : Int32) (v6 : Int32) (S : St), VV p l e (rmd d) s m args below meth c D ca tpM a A 8 (QmV D ca tpM a A below args s) S [(0, .ref (a 0)), (1, .int v1), (2, .ref (a 16)), (3, .int v3), (4, .int v4), (5, .int v5), (6, .int v6)] 9 [] (L9 v1 v3 v4 v5 v6 S)) (v1 : Int32) (v3 : Int32) (v4 : Int32) (v5 : Int32) (v6 : Int32) (k0 : Int32) (S : St) : VV p l e (rmd d) s m args below meth c D ca tpM a A 8 (QmV D ca tpM a A below args s) S [(0, .ref (a 0)), (1, .int v1), (2, .ref (a 16)), (3, .int v3), (4, .int v4), (5, .int v5), (6, .int v6)] 48 [.int k0] (m_ladle_16_b48 L9 v1 v3 v4 v5 v6 k0 S) := by
  unfold m_ladle_16_b48
  refine V_istore (pc := 48) h [(7, .int k0), (0, .ref (a 0)), (1, .int v1), (2, .ref (a 16)), (3, .int v3), (4, .int v4), (5, .int v5), (6, .int v6)] dX11_ladle_48 (by decide) rfl ?_
  refine V_aload_n (pc := 50) h 3 dX11_ladle_50 rfl rfl ?_
  refine V_iload_n (pc := 51) h 4 dX11_ladle_51 rfl rfl ?_
  refine V_iload (pc := 52) h 7 dX11_ladle_52 rfl ?_
  refine V_iadd (pc := 54) h dX11_ladle_54 ?_
  refine V_iload (pc := 55) h 0 dX11_ladle_55 rfl ?_
  refine V_iast (pc := 57) h 16 oM_16 dX11_ladle_57 (fun S1 => ?_)
  refine V_iincB (pc := 58) h 7 (1 : Int32) (fun x2 => [(6, .int x2), (7, .int k0), (0, .ref (a 0)), (1, .int v1), (2, .ref (a 16)), (3, .int v3), (4, .int v4), (5, .int v5)]) dX11_ladle_58 rfl (by decide) (by decide) (fun _ => rfl) (fun x2 => ?_)
  refine V_goto (pc := 61) h 9 dX11_ladle_61 (by decide) ?_
  exact V_ls [2, 3, 4, 5, 6, 7, 0] rfl (hL9 v1 v3 v4 v5 x2 S1)
def m_ladle_16_b26 (L9 : Int32 → Int32 → Int32 → Int32 → Int32 → St → Option St) (v1 : Int32) (v3 : Int32) (v4 : Int32) (v5 : Int32) (v6 : Int32) (S : St) : Option St := (ckM v6 6 (m_ladle_16_b48 L9 v1 v3 v4 v5 v6 (S 15 v6.toNatClampNeg) S))
set_option maxHeartbeats 4000000 in
set_option maxRecDepth 100000 in
theorem m_ladle_16_b26_ok {d : Nat} (h : Cx p s m c cX11_ladle 8 RX11 s0 args0 D ca a A) (hr : meth.sig.returnType = none) (hlk : meth.locks = false) (hD : 2 ≤ d) (L9 : Int32 → Int32 → Int32 → Int32 → Int32 → St → Option St) (hL9 : ∀ (v1 : Int32) (v3 : Int32) (v4 : Int32) (v5 : Int32) (v6 : Int32) (S : St), VV p l e (rmd d) s m args below meth c D ca tpM a A 8 (QmV D ca tpM a A below args s) S [(0, .ref (a 0)), (1, .int v1), (2, .ref (a 16)), (3, .int v3), (4, .int v4), (5, .int v5), (6, .int v6)] 9 [] (L9 v1 v3 v4 v5 v6 S)) (v1 : Int32) (v3 : Int32) (v4 : Int32) (v5 : Int32) (v6 : Int32) (S : St) : VV p l e (rmd d) s m args below meth c D ca tpM a A 8 (QmV D ca tpM a A below args s) S [(0, .ref (a 0)), (1, .int v1), (2, .ref (a 16)), (3, .int v3), (4, .int v4), (5, .int v5), (6, .int v6)] 26 [] (m_ladle_16_b26 L9 v1 v3 v4 v5 v6 S) := by
  unfold m_ladle_16_b26
  refine V_aload_n (pc := 26) h 0 dX11_ladle_26 rfl rfl ?_
  refine V_get (pc := 27) h 0 34 (.ref (a 15)) fl_X11_71_X11 oM_0 rfl rfl dX11_ladle_27 ?_
  refine V_iload (pc := 30) h 6 dX11_ladle_30 rfl ?_
  refine V_iald (pc := 32) h 15 oM_15 dX11_ladle_32 ?_
  refine V_goto (pc := 33) h 48 dX11_ladle_33 (by decide) ?_
  exact V_ls [0, 1, 2, 3, 4, 5, 6] rfl (m_ladle_16_b48_ok h hr hlk hD L9 hL9 v1 v3 v4 v5 v6 (S 15 v6.toNatClampNeg) S)
def m_ladle_16_h67 : Nat → Int32 → Int32 → St → Option St
  | 0, _, _, _ => none
  | n + 1, v3, v6, S => (if (5 : Int32) < v6 then (some S) else (ckM v6 6 (ckM (v3 + v6) 36 (ckM v6 6 (bnd (up2 S 15 v6.toNatClampNeg ((S 15 v6.toNatClampNeg) - (S 16 (v3 + v6).toNatClampNeg))) (fun S1 => (bnd (v6 + (1 : Int32)) (fun x2 => ((m_ladle_16_h67 n) v3 x2 S1)))))))))
set_option maxHeartbeats 4000000 in
set_option maxRecDepth 100000 in
theorem m_ladle_16_h67_ok {d : Nat} (h : Cx p s m c cX11_ladle 8 RX11 s0 args0 D ca a A) (hr : meth.sig.returnType = none) (hlk : meth.locks = false) (hD : 2 ≤ d) : ∀ (n : Nat) (v3 : Int32) (v6 : Int32) (S : St), VV p l e (rmd d) s m args below meth c D ca tpM a A 8 (QmV D ca tpM a A below args s) S [(0, .ref (a 0)), (2, .ref (a 16)), (3, .int v3), (6, .int v6)] 67 [] (m_ladle_16_h67 n v3 v6 S) := by
  intro n
  induction n with
  | zero => intro v3 v6 S; exact V_none
  | succ n ih =>
    intro v3 v6 S
    unfold m_ladle_16_h67
    refine V_iload (pc := 67) h 3 dX11_ladle_67 rfl ?_
    refine V_iconst (pc := 69) (v := 5) h dX11_ladle_69 (by decide) ?_
    refine V_icmp_gt (pc := 70) h 95 dX11_ladle_70 (by decide) ?_ ?_
    · exact V_vret (pc := 95) h hr hlk dX11_ladle_95
    · refine V_aload_n (pc := 73) h 0 dX11_ladle_73 rfl rfl ?_
      refine V_get (pc := 74) h 0 34 (.ref (a 15)) fl_X11_71_X11 oM_0 rfl rfl dX11_ladle_74 ?_
      refine V_iload (pc := 77) h 3 dX11_ladle_77 rfl ?_
      refine V_dup2_11 (pc := 79) h dX11_ladle_79 rfl rfl ?_
      refine V_iald (pc := 80) h 15 oM_15 dX11_ladle_80 ?_
      refine V_aload_n (pc := 81) h 1 dX11_ladle_81 rfl rfl ?_
      refine V_iload_n (pc := 82) h 2 dX11_ladle_82 rfl rfl ?_
      refine V_iload (pc := 83) h 3 dX11_ladle_83 rfl ?_
      refine V_iadd (pc := 85) h dX11_ladle_85 ?_
      refine V_iald (pc := 86) h 16 oM_16 dX11_ladle_86 ?_
      refine V_isub (pc := 87) h dX11_ladle_87 ?_
      refine V_iast (pc := 88) h 15 oM_15 dX11_ladle_88 (fun S1 => ?_)
      refine V_iincB (pc := 89) h 3 (1 : Int32) (fun x2 => [(6, .int x2), (0, .ref (a 0)), (2, .ref (a 16)), (3, .int v3)]) dX11_ladle_89 rfl (by decide) (by decide) (fun _ => rfl) (fun x2 => ?_)
      refine V_goto (pc := 92) h 67 dX11_ladle_92 (by decide) ?_
      exact V_ls [1, 2, 3, 0] rfl (ih v3 x2 S1)
def m_ladle_16_h9 : Nat → Int32 → Int32 → Int32 → Int32 → Int32 → St → Option St
  | 0, _, _, _, _, _, _ => none
  | n + 1, v1, v3, v4, v5, v6, S => (if (5 : Int32) < v6 then (m_ladle_16_h67 FU v3 (0 : Int32) S) else (if v4 = 0 then (if v1 < v5 then (ckM v6 6 (dvM v5 (m_ladle_16_b48 (m_ladle_16_h9 n) v1 v3 v4 v5 v6 (((S 15 v6.toNatClampNeg) * v1) / v5) S))) else (m_ladle_16_b26 (m_ladle_16_h9 n) v1 v3 v4 v5 v6 S)) else (m_ladle_16_b26 (m_ladle_16_h9 n) v1 v3 v4 v5 v6 S)))
set_option maxHeartbeats 4000000 in
set_option maxRecDepth 100000 in
theorem m_ladle_16_h9_ok {d : Nat} (h : Cx p s m c cX11_ladle 8 RX11 s0 args0 D ca a A) (hr : meth.sig.returnType = none) (hlk : meth.locks = false) (hD : 2 ≤ d) : ∀ (n : Nat) (v1 : Int32) (v3 : Int32) (v4 : Int32) (v5 : Int32) (v6 : Int32) (S : St), VV p l e (rmd d) s m args below meth c D ca tpM a A 8 (QmV D ca tpM a A below args s) S [(0, .ref (a 0)), (1, .int v1), (2, .ref (a 16)), (3, .int v3), (4, .int v4), (5, .int v5), (6, .int v6)] 9 [] (m_ladle_16_h9 n v1 v3 v4 v5 v6 S) := by
  intro n
  induction n with
  | zero => intro v1 v3 v4 v5 v6 S; exact V_none
  | succ n ih =>
    intro v1 v3 v4 v5 v6 S
    unfold m_ladle_16_h9
    refine V_iload (pc := 9) h 6 dX11_ladle_9 rfl ?_
    refine V_iconst (pc := 11) (v := 5) h dX11_ladle_11 (by decide) ?_
    refine V_icmp_gt (pc := 12) h 64 dX11_ladle_12 (by decide) ?_ ?_
    · refine V_iconst (pc := 64) (v := 0) h dX11_ladle_64 (by decide) ?_
      refine V_istore (pc := 65) h [(6, .int (0 : Int32)), (0, .ref (a 0)), (1, .int v1), (2, .ref (a 16)), (3, .int v3), (4, .int v4), (5, .int v5)] dX11_ladle_65 (by decide) rfl ?_
      exact V_ls [1, 3, 4, 0] rfl (m_ladle_16_h67_ok h hr hlk hD FU v3 (0 : Int32) S)
    · refine V_iload (pc := 15) h 4 dX11_ladle_15 rfl ?_
      refine V_if_ne (pc := 17) h 26 dX11_ladle_17 (by decide) ?_ ?_
      · exact V_ls [0, 1, 2, 3, 4, 5, 6] rfl (m_ladle_16_b26_ok h hr hlk hD (m_ladle_16_h9 n) ih v1 v3 v4 v5 v6 S)
      · refine V_iload (pc := 20) h 5 dX11_ladle_20 rfl ?_
        refine V_iload_n (pc := 22) h 1 dX11_ladle_22 rfl rfl ?_
        refine V_icmp_gt (pc := 23) h 36 dX11_ladle_23 (by decide) ?_ ?_
        · refine V_aload_n (pc := 36) h 0 dX11_ladle_36 rfl rfl ?_
          refine V_get (pc := 37) h 0 34 (.ref (a 15)) fl_X11_71_X11 oM_0 rfl rfl dX11_ladle_37 ?_
          refine V_iload (pc := 40) h 6 dX11_ladle_40 rfl ?_
          refine V_iald (pc := 42) h 15 oM_15 dX11_ladle_42 ?_
          refine V_iload_n (pc := 43) h 1 dX11_ladle_43 rfl rfl ?_
          refine V_imul (pc := 44) h dX11_ladle_44 ?_
          refine V_iload (pc := 45) h 5 dX11_ladle_45 rfl ?_
          refine V_idiv (pc := 47) h dX11_ladle_47 ?_
          exact V_ls [0, 1, 2, 3, 4, 5, 6] rfl (m_ladle_16_b48_ok h hr hlk hD (m_ladle_16_h9 n) ih v1 v3 v4 v5 v6 (((S 15 v6.toNatClampNeg) * v1) / v5) S)
        · exact V_ls [0, 1, 2, 3, 4, 5, 6] rfl (m_ladle_16_b26_ok h hr hlk hD (m_ladle_16_h9 n) ih v1 v3 v4 v5 v6 S)
def m_ladle_16 (v1 : Int32) (v3 : Int32) (v4 : Int32) (S : St) : Option St := (bI (m_allIn S) (fun x2 S1 => (m_ladle_16_h9 FU v1 v3 v4 x2 (0 : Int32) S1)))
set_option maxHeartbeats 4000000 in
set_option maxRecDepth 100000 in
theorem m_ladle_16_ok {d : Nat} (h : Cx p s m c cX11_ladle 8 RX11 s0 args0 D ca a A) (hr : meth.sig.returnType = none) (hlk : meth.locks = false) (hD : 2 ≤ d) (v1 : Int32) (v3 : Int32) (v4 : Int32) (S : St) : VV p l e (rmd d) s m args below meth c D ca tpM a A 8 (QmV D ca tpM a A below args s) S [(0, .ref (a 0)), (1, .int v1), (2, .ref (a 16)), (3, .int v3), (4, .int v4)] 0 [] (m_ladle_16 v1 v3 v4 S) := by
  unfold m_ladle_16
  refine V_aload_n (pc := 0) h 0 dX11_ladle_0 rfl rfl ?_
  refine V_callVI (pc := 1) (dy := 1) (q := (RX11, TX11, 59)) h [] [] 0 mv_X11_314 oM_0 rfl dX11_ladle_1 rfl rfl (Nat.le_of_ble_eq_true rfl) (Nat.le_trans (by decide) hD) (m_allIn S) (fun z9 hz9 => m_allIn_ct h.gg (Nat.le_refl 1) S z9 hz9) (fun x2 S1 => ?_)
  refine V_istore (pc := 4) h [(5, .int x2), (0, .ref (a 0)), (1, .int v1), (2, .ref (a 16)), (3, .int v3), (4, .int v4)] dX11_ladle_4 (by decide) rfl ?_
  refine V_iconst (pc := 6) (v := 0) h dX11_ladle_6 (by decide) ?_
  refine V_istore (pc := 7) h [(6, .int (0 : Int32)), (5, .int x2), (0, .ref (a 0)), (1, .int v1), (2, .ref (a 16)), (3, .int v3), (4, .int v4)] dX11_ladle_7 (by decide) rfl ?_
  exact V_ls [2, 3, 4, 5, 6, 1, 0] rfl (m_ladle_16_h9_ok h hr hlk hD FU v1 v3 v4 x2 (0 : Int32) S1)
theorem m_ladle_16_ct {d : Nat} (g : GG s0 args0 D ca a A) (hD : 2 ≤ d) (v1 : Int32) (v3 : Int32) (v4 : Int32) (S : St) (z : St) (hz : m_ladle_16 v1 v3 v4 S = some z) : CtV l yX11_ladle cX11_ladle 8 d s0 D ca tpM a A [.ref (a 0), .int v1, .ref (a 16), .int v3, .int v4] S z := CtV_mk g (by decide +kernel) (Nat.le_of_ble_eq_true rfl) hz (fun p e s m args below meth c h hr hlk => m_ladle_16_ok h hr hlk hD v1 v3 v4 S)
def m_has (v0 : Int32) (v1 : Int32) (S : St) : Option (Int32 × St) := (if ((v0 >>> (v1 &&& 31)) &&& (1 : Int32)) = (1 : Int32) then (nzM (1 : Int32) (some ((1 : Int32), S))) else (nzM (0 : Int32) (some ((0 : Int32), S))))
set_option maxHeartbeats 4000000 in
set_option maxRecDepth 100000 in
theorem m_has_ok {d : Nat} (h : Cx p s m c cX11_has 2 RX11 s0 args0 D ca a A) (hr : meth.sig.returnType = some .boolean) (hlk : meth.locks = false) (hD : 1 ≤ d) (v0 : Int32) (v1 : Int32) (S : St) : VV p l e (rmd d) s m args below meth c D ca tpM a A 2 (QmI D ca tpM a A below args s) S [(0, .int v0), (1, .int v1)] 0 [] (m_has v0 v1 S) := by
  unfold m_has
  refine V_iload_n (pc := 0) h 0 dX11_has_0 rfl rfl ?_
  refine V_iload_n (pc := 1) h 1 dX11_has_1 rfl rfl ?_
  refine V_ishr (pc := 2) h dX11_has_2 ?_
  refine V_iconst (pc := 3) (v := 1) h dX11_has_3 (by decide) ?_
  refine V_iand (pc := 4) h dX11_has_4 ?_
  refine V_iconst (pc := 5) (v := 1) h dX11_has_5 (by decide) ?_
  refine V_icmp_ne (pc := 6) h 13 dX11_has_6 (by decide) ?_ ?_
  · refine V_iconst (pc := 13) (v := 0) h dX11_has_13 (by decide) ?_
    exact V_zret (pc := 14) h hr hlk dX11_has_14
  · refine V_iconst (pc := 9) (v := 1) h dX11_has_9 (by decide) ?_
    refine V_goto (pc := 10) h 14 dX11_has_10 (by decide) ?_
    exact V_zret (pc := 14) h hr hlk dX11_has_14
theorem m_has_ct {d : Nat} (g : GG s0 args0 D ca a A) (hD : 1 ≤ d) (v0 : Int32) (v1 : Int32) (S : St) (z : Int32 × St) (hz : m_has v0 v1 S = some z) : CtI l yX11_has cX11_has 2 .boolean d s0 D ca tpM a A [.int v0, .int v1] S z := CtI_mk g (by decide +kernel) (Nat.le_of_ble_eq_true rfl) hz (fun p e s m args below meth c h hr hlk => m_has_ok h hr hlk hD v0 v1 S)
def m_noon_b32 (L2 : Int32 → Int32 → St → Option St) (v1 : Int32) (v2 : Int32) (k0 : Int32) (k1 : Int32) (k2 : Int32) (S : St) : Option St := (ckM k2 6 (bnd (up2 S 15 k2.toNatClampNeg (k1 * k0)) (fun S1 => (bnd (v2 + (1 : Int32)) (fun x2 => (L2 v1 x2 S1))))))
set_option maxHeartbeats 4000000 in
set_option maxRecDepth 100000 in
theorem m_noon_b32_ok {d : Nat} (h : Cx p s m c cX11_noon 7 RX11 s0 args0 D ca a A) (hr : meth.sig.returnType = none) (hlk : meth.locks = false) (hD : 3 ≤ d) (L2 : Int32 → Int32 → St → Option St) (hL2 : ∀ (v1 : Int32) (v2 : Int32) (S : St), VV p l e (rmd d) s m args below meth c D ca tpM a A 7 (QmV D ca tpM a A below args s) S [(0, .ref (a 0)), (1, .int v1), (2, .int v2)] 2 [] (L2 v1 v2 S)) (v1 : Int32) (v2 : Int32) (k0 : Int32) (k1 : Int32) (k2 : Int32) (S : St) : VV p l e (rmd d) s m args below meth c D ca tpM a A 7 (QmV D ca tpM a A below args s) S [(0, .ref (a 0)), (1, .int v1), (2, .int v2)] 32 [.int k0, .int k1, .int k2, .ref (a 15)] (m_noon_b32 L2 v1 v2 k0 k1 k2 S) := by
  unfold m_noon_b32
  refine V_imul (pc := 32) h dX11_noon_32 ?_
  refine V_iast (pc := 33) h 15 oM_15 dX11_noon_33 (fun S1 => ?_)
  refine V_iincB (pc := 34) h 2 (1 : Int32) (fun x2 => [(2, .int x2), (0, .ref (a 0)), (1, .int v1)]) dX11_noon_34 rfl (by decide) (by decide) (fun _ => rfl) (fun x2 => ?_)
  refine V_goto (pc := 37) h 2 dX11_noon_37 (by decide) ?_
  exact V_ls [1, 2, 0] rfl (hL2 v1 x2 S1)
def m_noon_b330 (L60 : Int32 → Int32 → Int32 → St → Option St) (v2 : Int32) (v3 : Int32) (v4 : Int32) (S : St) : Option St := (bnd (v4 + (1 : Int32)) (fun x1 => (L60 v2 v3 x1 S)))
set_option maxHeartbeats 4000000 in
set_option maxRecDepth 100000 in
theorem m_noon_b330_ok {d : Nat} (h : Cx p s m c cX11_noon 7 RX11 s0 args0 D ca a A) (hr : meth.sig.returnType = none) (hlk : meth.locks = false) (hD : 3 ≤ d) (L60 : Int32 → Int32 → Int32 → St → Option St) (hL60 : ∀ (v2 : Int32) (v3 : Int32) (v4 : Int32) (S : St), VV p l e (rmd d) s m args below meth c D ca tpM a A 7 (QmV D ca tpM a A below args s) S [(0, .ref (a 0)), (2, .int v2), (3, .int v3), (4, .int v4)] 60 [] (L60 v2 v3 v4 S)) (v2 : Int32) (v3 : Int32) (v4 : Int32) (S : St) : VV p l e (rmd d) s m args below meth c D ca tpM a A 7 (QmV D ca tpM a A below args s) S [(0, .ref (a 0)), (2, .int v2), (3, .int v3), (4, .int v4)] 330 [] (m_noon_b330 L60 v2 v3 v4 S) := by
  unfold m_noon_b330
  refine V_iincB (pc := 330) h 3 (1 : Int32) (fun x1 => [(4, .int x1), (0, .ref (a 0)), (2, .int v2), (3, .int v3)]) dX11_noon_330 rfl (by decide) (by decide) (fun _ => rfl) (fun x1 => ?_)
  refine V_goto (pc := 333) h 60 dX11_noon_333 (by decide) ?_
  exact V_ls [1, 2, 3, 0] rfl (hL60 v2 v3 x1 S)
def m_noon_b317 (L60 : Int32 → Int32 → Int32 → St → Option St) (v2 : Int32) (v3 : Int32) (v4 : Int32) (S : St) : Option St := (ckM (2 : Int32) 3 (bnd (imax (0 : Int32) (v2 - (S 9 (2 : Int32).toNatClampNeg))) (fun x1 => (m_noon_b330 L60 x1 v3 v4 S))))
set_option maxHeartbeats 4000000 in
set_option maxRecDepth 100000 in
theorem m_noon_b317_ok {d : Nat} (h : Cx p s m c cX11_noon 7 RX11 s0 args0 D ca a A) (hr : meth.sig.returnType = none) (hlk : meth.locks = false) (hD : 3 ≤ d) (L60 : Int32 → Int32 → Int32 → St → Option St) (hL60 : ∀ (v2 : Int32) (v3 : Int32) (v4 : Int32) (S : St), VV p l e (rmd d) s m args below meth c D ca tpM a A 7 (QmV D ca tpM a A below args s) S [(0, .ref (a 0)), (2, .int v2), (3, .int v3), (4, .int v4)] 60 [] (L60 v2 v3 v4 S)) (v2 : Int32) (v3 : Int32) (v4 : Int32) (S : St) : VV p l e (rmd d) s m args below meth c D ca tpM a A 7 (QmV D ca tpM a A below args s) S [(0, .ref (a 0)), (2, .int v2), (3, .int v3), (4, .int v4)] 317 [] (m_noon_b317 L60 v2 v3 v4 S) := by
  unfold m_noon_b317
  refine V_iconst (pc := 317) (v := 0) h dX11_noon_317 (by decide) ?_
  refine V_iload_n (pc := 318) h 1 dX11_noon_318 rfl rfl ?_
  refine V_aload_n (pc := 319) h 0 dX11_noon_319 rfl rfl ?_
  refine V_get (pc := 320) h 0 22 (.ref (a 9)) fl_X11_49_X11 oM_0 rfl rfl dX11_noon_320 ?_
  refine V_iconst (pc := 323) (v := 2) h dX11_noon_323 (by decide) ?_
  refine V_iald (pc := 324) h 9 oM_9 dX11_noon_324 ?_
  refine V_isub (pc := 325) h dX11_noon_325 ?_
  refine V_mmax (pc := 326) h dX11_noon_326 tw_7_25 tw_2_224 tw_1_16 tw_2_225 (Nat.le_trans (by decide) hD) (Nat.le_of_ble_eq_true rfl) ?_
  refine V_top (fun x1 => ?_)
  refine V_istore_n (pc := 329) h [(2, .int x1), (0, .ref (a 0)), (3, .int v3), (4, .int v4)] dX11_noon_329 rfl (by decide) rfl ?_
  exact V_ls [1, 0, 2, 3] rfl (m_noon_b330_ok h hr hlk hD L60 hL60 x1 v3 v4 S)
def m_noon_b295 (L60 : Int32 → Int32 → Int32 → St → Option St) (v2 : Int32) (v3 : Int32) (v4 : Int32) (v5 : Int32) (S : St) : Option St := (if v5 = (S 0 40) then (ckM (5 : Int32) 6 (ckM (5 : Int32) 6 (bnd (up2 S 15 (5 : Int32).toNatClampNeg ((S 15 (5 : Int32).toNatClampNeg) + (S 0 41))) (fun S1 => (m_noon_b317 L60 v2 v3 v4 S1))))) else (m_noon_b317 L60 v2 v3 v4 S))
set_option maxHeartbeats 4000000 in
set_option maxRecDepth 100000 in
theorem m_noon_b295_ok {d : Nat} (h : Cx p s m c cX11_noon 7 RX11 s0 args0 D ca a A) (hr : meth.sig.returnType = none) (hlk : meth.locks = false) (hD : 3 ≤ d) (L60 : Int32 → Int32 → Int32 → St → Option St) (hL60 : ∀ (v2 : Int32) (v3 : Int32) (v4 : Int32) (S : St), VV p l e (rmd d) s m args below meth c D ca tpM a A 7 (QmV D ca tpM a A below args s) S [(0, .ref (a 0)), (2, .int v2), (3, .int v3), (4, .int v4)] 60 [] (L60 v2 v3 v4 S)) (v2 : Int32) (v3 : Int32) (v4 : Int32) (v5 : Int32) (S : St) : VV p l e (rmd d) s m args below meth c D ca tpM a A 7 (QmV D ca tpM a A below args s) S [(0, .ref (a 0)), (2, .int v2), (3, .int v3), (4, .int v4), (5, .int v5)] 295 [] (m_noon_b295 L60 v2 v3 v4 v5 S) := by
  unfold m_noon_b295
  refine V_iload (pc := 295) h 4 dX11_noon_295 rfl ?_
  refine V_aload_n (pc := 297) h 0 dX11_noon_297 rfl rfl ?_
  refine V_get (pc := 298) h 0 40 (.int (S 0 40)) fl_X11_86_X11 oM_0 rfl rfl dX11_noon_298 ?_
  refine V_icmp_ne (pc := 301) h 317 dX11_noon_301 (by decide) ?_ ?_
  · exact V_ls [0, 1, 2, 3] rfl (m_noon_b317_ok h hr hlk hD L60 hL60 v2 v3 v4 S)
  · refine V_aload_n (pc := 304) h 0 dX11_noon_304 rfl rfl ?_
    refine V_get (pc := 305) h 0 34 (.ref (a 15)) fl_X11_71_X11 oM_0 rfl rfl dX11_noon_305 ?_
    refine V_iconst (pc := 308) (v := 5) h dX11_noon_308 (by decide) ?_
    refine V_dup2_11 (pc := 309) h dX11_noon_309 rfl rfl ?_
    refine V_iald (pc := 310) h 15 oM_15 dX11_noon_310 ?_
    refine V_aload_n (pc := 311) h 0 dX11_noon_311 rfl rfl ?_
    refine V_get (pc := 312) h 0 41 (.int (S 0 41)) fl_X11_327_X11 oM_0 rfl rfl dX11_noon_312 ?_
    refine V_iadd (pc := 315) h dX11_noon_315 ?_
    refine V_iast (pc := 316) h 15 oM_15 dX11_noon_316 (fun S1 => ?_)
    exact V_ls [0, 1, 2, 3] rfl (m_noon_b317_ok h hr hlk hD L60 hL60 v2 v3 v4 S1)
def m_noon_b283 (L60 : Int32 → Int32 → Int32 → St → Option St) (v2 : Int32) (v3 : Int32) (v4 : Int32) (v5 : Int32) (S : St) : Option St := (ckM v5 6 (bnd (v3 ||| ((1 : Int32) <<< ((S 12 v5.toNatClampNeg) &&& 31))) (fun x1 => (m_noon_b295 L60 v2 x1 v4 v5 S))))
set_option maxHeartbeats 4000000 in
set_option maxRecDepth 100000 in
theorem m_noon_b283_ok {d : Nat} (h : Cx p s m c cX11_noon 7 RX11 s0 args0 D ca a A) (hr : meth.sig.returnType = none) (hlk : meth.locks = false) (hD : 3 ≤ d) (L60 : Int32 → Int32 → Int32 → St → Option St) (hL60 : ∀ (v2 : Int32) (v3 : Int32) (v4 : Int32) (S : St), VV p l e (rmd d) s m args below meth c D ca tpM a A 7 (QmV D ca tpM a A below args s) S [(0, .ref (a 0)), (2, .int v2), (3, .int v3), (4, .int v4)] 60 [] (L60 v2 v3 v4 S)) (v2 : Int32) (v3 : Int32) (v4 : Int32) (v5 : Int32) (S : St) : VV p l e (rmd d) s m args below meth c D ca tpM a A 7 (QmV D ca tpM a A below args s) S [(0, .ref (a 0)), (2, .int v2), (3, .int v3), (4, .int v4), (5, .int v5)] 283 [] (m_noon_b283 L60 v2 v3 v4 v5 S) := by
  unfold m_noon_b283
  refine V_iload_n (pc := 283) h 2 dX11_noon_283 rfl rfl ?_
  refine V_iconst (pc := 284) (v := 1) h dX11_noon_284 (by decide) ?_
  refine V_aload_n (pc := 285) h 0 dX11_noon_285 rfl rfl ?_
  refine V_get (pc := 286) h 0 29 (.ref (a 12)) fl_X11_58_X11 oM_0 rfl rfl dX11_noon_286 ?_
  refine V_iload (pc := 289) h 4 dX11_noon_289 rfl ?_
  refine V_iald (pc := 291) h 12 oM_12 dX11_noon_291 ?_
  refine V_ishl (pc := 292) h dX11_noon_292 ?_
  refine V_ior (pc := 293) h dX11_noon_293 ?_
  refine V_top (fun x1 => ?_)
  refine V_istore_n (pc := 294) h [(3, .int x1), (0, .ref (a 0)), (2, .int v2), (4, .int v4), (5, .int v5)] dX11_noon_294 rfl (by decide) rfl ?_
  exact V_ls [1, 2, 0, 3, 4] rfl (m_noon_b295_ok h hr hlk hD L60 hL60 v2 x1 v4 v5 S)
def m_noon_b119 (L60 : Int32 → Int32 → Int32 → St → Option St) (v2 : Int32) (v3 : Int32) (v4 : Int32) (v5 : Int32) (v6 : Int32) (S : St) : Option St := (ckM v5 6 (bnd (up2 S 17 v5.toNatClampNeg v2) (fun S1 => (ckM (((8 : Int32) * v5) + (5 : Int32)) 48 (bV (m_ladle_16 (S1 7 (((8 : Int32) * v5) + (5 : Int32)).toNatClampNeg) ((6 : Int32) * v5) v6 S1) (fun S2 => (ckM v5 6 (bnd (up2 S2 19 v5.toNatClampNeg (9 : Int32)) (fun S3 => (if v6 = 0 then (ckM v5 6 (if (S3 12 v5.toNatClampNeg) = (9 : Int32) then (m_noon_b295 L60 v2 v3 v4 v5 S3) else (ckM v5 6 (bnd (((8 : Int32) * v5) + (S3 12 v5.toNatClampNeg)) (fun x4 => (ckM x4 48 (ckM (0 : Int32) 3 (if (S3 7 x4.toNatClampNeg) < (S3 9 (0 : Int32).toNatClampNeg) then (m_noon_b295 L60 v2 v3 v4 v5 S3) else (ckM v5 6 (ckM v5 6 (bnd (up2 S3 19 v5.toNatClampNeg (S3 12 v5.toNatClampNeg)) (fun S5 => (ckM v5 6 (bnd (S5 12 v5.toNatClampNeg) (fun x6 => (ckM x6 6 (ckM (0 : Int32) 3 (bnd ((S5 15 x6.toNatClampNeg) + (S5 9 (0 : Int32).toNatClampNeg)) (fun x8 => (ckM x6 6 (bnd (up2 S5 15 x6.toNatClampNeg x8) (fun S9 => (if (S9 0 39) = (-1 : Int32) then (ckM (1 : Int32) 3 (if (S9 9 (1 : Int32).toNatClampNeg) = (1 : Int32) then (ckM v5 6 (bI (m_has v3 (S9 12 v5.toNatClampNeg) S9) (fun x11 S10 => (if x11 = 0 then (m_noon_b283 L60 v2 v3 v4 v5 S10) else (bnd (up2 S10 0 39 v5) (fun S12 => (m_noon_b283 L60 v2 v3 v4 v5 S12))))))) else (m_noon_b283 L60 v2 v3 v4 v5 S9))) else (m_noon_b283 L60 v2 v3 v4 v5 S9)))))))))))))))))))))))) else (m_noon_b330 L60 v2 v3 v4 S3)))))))))))
set_option maxHeartbeats 4000000 in
set_option maxRecDepth 100000 in
theorem m_noon_b119_ok {d : Nat} (h : Cx p s m c cX11_noon 7 RX11 s0 args0 D ca a A) (hr : meth.sig.returnType = none) (hlk : meth.locks = false) (hD : 3 ≤ d) (L60 : Int32 → Int32 → Int32 → St → Option St) (hL60 : ∀ (v2 : Int32) (v3 : Int32) (v4 : Int32) (S : St), VV p l e (rmd d) s m args below meth c D ca tpM a A 7 (QmV D ca tpM a A below args s) S [(0, .ref (a 0)), (2, .int v2), (3, .int v3), (4, .int v4)] 60 [] (L60 v2 v3 v4 S)) (v2 : Int32) (v3 : Int32) (v4 : Int32) (v5 : Int32) (v6 : Int32) (S : St) : VV p l e (rmd d) s m args below meth c D ca tpM a A 7 (QmV D ca tpM a A below args s) S [(0, .ref (a 0)), (2, .int v2), (3, .int v3), (4, .int v4), (5, .int v5), (6, .int v6)] 119 [] (m_noon_b119 L60 v2 v3 v4 v5 v6 S) := by
  unfold m_noon_b119
  refine V_aload_n (pc := 119) h 0 dX11_noon_119 rfl rfl ?_
  refine V_get (pc := 120) h 0 36 (.ref (a 17)) fl_X11_77_X11 oM_0 rfl rfl dX11_noon_120 ?_
  refine V_iload (pc := 123) h 4 dX11_noon_123 rfl ?_
  refine V_iload_n (pc := 125) h 1 dX11_noon_125 rfl rfl ?_
  refine V_iast (pc := 126) h 17 oM_17 dX11_noon_126 (fun S1 => ?_)
  refine V_aload_n (pc := 127) h 0 dX11_noon_127 rfl rfl ?_
  refine V_aload_n (pc := 128) h 0 dX11_noon_128 rfl rfl ?_
  refine V_get (pc := 129) h 0 20 (.ref (a 7)) fl_X11_43_X11 oM_0 rfl rfl dX11_noon_129 ?_
  refine V_bipush (pc := 132) (v := 8) h dX11_noon_132 (by decide) ?_
  refine V_iload (pc := 134) h 4 dX11_noon_134 rfl ?_
  refine V_imul (pc := 136) h dX11_noon_136 ?_
  refine V_iconst (pc := 137) (v := 5) h dX11_noon_137 (by decide) ?_
  refine V_iadd (pc := 138) h dX11_noon_138 ?_
  refine V_iald (pc := 139) h 7 oM_7 dX11_noon_139 ?_
  refine V_aload_n (pc := 140) h 0 dX11_noon_140 rfl rfl ?_
  refine V_get (pc := 141) h 0 35 (.ref (a 16)) fl_X11_74_X11 oM_0 rfl rfl dX11_noon_141 ?_
  refine V_bipush (pc := 144) (v := 6) h dX11_noon_144 (by decide) ?_
  refine V_iload (pc := 146) h 4 dX11_noon_146 rfl ?_
  refine V_imul (pc := 148) h dX11_noon_148 ?_
  refine V_iload (pc := 149) h 5 dX11_noon_149 rfl ?_
  refine V_callVV (pc := 151) (dy := 2) (q := (RX11, TX11, 59)) h [.int (S1 7 (((8 : Int32) * v5) + (5 : Int32)).toNatClampNeg), .ref (a 16), .int ((6 : Int32) * v5), .int v6] [] 0 mv_X11_323 oM_0 rfl dX11_noon_151 rfl rfl (Nat.le_of_ble_eq_true rfl) (Nat.le_trans (by decide) hD) (m_ladle_16 (S1 7 (((8 : Int32) * v5) + (5 : Int32)).toNatClampNeg) ((6 : Int32) * v5) v6 S1) (fun z9 hz9 => m_ladle_16_ct h.gg (Nat.le_refl 2) (S1 7 (((8 : Int32) * v5) + (5 : Int32)).toNatClampNeg) ((6 : Int32) * v5) v6 S1 z9 hz9) (fun S2 => ?_)
  refine V_aload_n (pc := 154) h 0 dX11_noon_154 rfl rfl ?_
  refine V_get (pc := 155) h 0 38 (.ref (a 19)) fl_X11_83_X11 oM_0 rfl rfl dX11_noon_155 ?_
  refine V_iload (pc := 158) h 4 dX11_noon_158 rfl ?_
  refine V_bipush (pc := 160) (v := 9) h dX11_noon_160 (by decide) ?_
  refine V_iast (pc := 162) h 19 oM_19 dX11_noon_162 (fun S3 => ?_)
  refine V_iload (pc := 163) h 5 dX11_noon_163 rfl ?_
  refine V_if_eq (pc := 165) h 171 dX11_noon_165 (by decide) ?_ ?_
  · refine V_aload_n (pc := 171) h 0 dX11_noon_171 rfl rfl ?_
    refine V_get (pc := 172) h 0 29 (.ref (a 12)) fl_X11_58_X11 oM_0 rfl rfl dX11_noon_172 ?_
    refine V_iload (pc := 175) h 4 dX11_noon_175 rfl ?_
    refine V_iald (pc := 177) h 12 oM_12 dX11_noon_177 ?_
    refine V_bipush (pc := 178) (v := 9) h dX11_noon_178 (by decide) ?_
    refine V_icmp_eq (pc := 180) h 295 dX11_noon_180 (by decide) ?_ ?_
    · exact V_ls [0, 1, 2, 3, 4] rfl (m_noon_b295_ok h hr hlk hD L60 hL60 v2 v3 v4 v5 S3)
    · refine V_aload_n (pc := 183) h 0 dX11_noon_183 rfl rfl ?_
      refine V_get (pc := 184) h 0 20 (.ref (a 7)) fl_X11_43_X11 oM_0 rfl rfl dX11_noon_184 ?_
      refine V_bipush (pc := 187) (v := 8) h dX11_noon_187 (by decide) ?_
      refine V_iload (pc := 189) h 4 dX11_noon_189 rfl ?_
      refine V_imul (pc := 191) h dX11_noon_191 ?_
      refine V_aload_n (pc := 192) h 0 dX11_noon_192 rfl rfl ?_
      refine V_get (pc := 193) h 0 29 (.ref (a 12)) fl_X11_58_X11 oM_0 rfl rfl dX11_noon_193 ?_
      refine V_iload (pc := 196) h 4 dX11_noon_196 rfl ?_
      refine V_iald (pc := 198) h 12 oM_12 dX11_noon_198 ?_
      refine V_iadd (pc := 199) h dX11_noon_199 ?_
      refine V_top (fun x4 => ?_)
      refine V_iald (pc := 200) h 7 oM_7 dX11_noon_200 ?_
      refine V_aload_n (pc := 201) h 0 dX11_noon_201 rfl rfl ?_
      refine V_get (pc := 202) h 0 22 (.ref (a 9)) fl_X11_49_X11 oM_0 rfl rfl dX11_noon_202 ?_
      refine V_iconst (pc := 205) (v := 0) h dX11_noon_205 (by decide) ?_
      refine V_iald (pc := 206) h 9 oM_9 dX11_noon_206 ?_
      refine V_icmp_lt (pc := 207) h 295 dX11_noon_207 (by decide) ?_ ?_
      · exact V_ls [0, 1, 2, 3, 4] rfl (m_noon_b295_ok h hr hlk hD L60 hL60 v2 v3 v4 v5 S3)
      · refine V_aload_n (pc := 210) h 0 dX11_noon_210 rfl rfl ?_
        refine V_get (pc := 211) h 0 38 (.ref (a 19)) fl_X11_83_X11 oM_0 rfl rfl dX11_noon_211 ?_
        refine V_iload (pc := 214) h 4 dX11_noon_214 rfl ?_
        refine V_aload_n (pc := 216) h 0 dX11_noon_216 rfl rfl ?_
        refine V_get (pc := 217) h 0 29 (.ref (a 12)) fl_X11_58_X11 oM_0 rfl rfl dX11_noon_217 ?_
        refine V_iload (pc := 220) h 4 dX11_noon_220 rfl ?_
        refine V_iald (pc := 222) h 12 oM_12 dX11_noon_222 ?_
        refine V_iast (pc := 223) h 19 oM_19 dX11_noon_223 (fun S5 => ?_)
        refine V_aload_n (pc := 224) h 0 dX11_noon_224 rfl rfl ?_
        refine V_get (pc := 225) h 0 34 (.ref (a 15)) fl_X11_71_X11 oM_0 rfl rfl dX11_noon_225 ?_
        refine V_aload_n (pc := 228) h 0 dX11_noon_228 rfl rfl ?_
        refine V_get (pc := 229) h 0 29 (.ref (a 12)) fl_X11_58_X11 oM_0 rfl rfl dX11_noon_229 ?_
        refine V_iload (pc := 232) h 4 dX11_noon_232 rfl ?_
        refine V_iald (pc := 234) h 12 oM_12 dX11_noon_234 ?_
        refine V_top (fun x6 => ?_)
        refine V_dup2_11 (pc := 235) h dX11_noon_235 rfl rfl ?_
        refine V_iald (pc := 236) h 15 oM_15 dX11_noon_236 ?_
        refine V_aload_n (pc := 237) h 0 dX11_noon_237 rfl rfl ?_
        refine V_get (pc := 238) h 0 22 (.ref (a 9)) fl_X11_49_X11 oM_0 rfl rfl dX11_noon_238 ?_
        refine V_iconst (pc := 241) (v := 0) h dX11_noon_241 (by decide) ?_
        refine V_iald (pc := 242) h 9 oM_9 dX11_noon_242 ?_
        refine V_iadd (pc := 243) h dX11_noon_243 ?_
        refine V_top (fun x8 => ?_)
        refine V_iast (pc := 244) h 15 oM_15 dX11_noon_244 (fun S9 => ?_)
        refine V_aload_n (pc := 245) h 0 dX11_noon_245 rfl rfl ?_
        refine V_get (pc := 246) h 0 39 (.int (S9 0 39)) fl_X11_317_X11 oM_0 rfl rfl dX11_noon_246 ?_
        refine V_iconst (pc := 249) (v := -1) h dX11_noon_249 (by decide) ?_
        refine V_icmp_ne (pc := 250) h 283 dX11_noon_250 (by decide) ?_ ?_
        · exact V_ls [0, 1, 2, 3, 4] rfl (m_noon_b283_ok h hr hlk hD L60 hL60 v2 v3 v4 v5 S9)
        · refine V_aload_n (pc := 253) h 0 dX11_noon_253 rfl rfl ?_
          refine V_get (pc := 254) h 0 22 (.ref (a 9)) fl_X11_49_X11 oM_0 rfl rfl dX11_noon_254 ?_
          refine V_iconst (pc := 257) (v := 1) h dX11_noon_257 (by decide) ?_
          refine V_iald (pc := 258) h 9 oM_9 dX11_noon_258 ?_
          refine V_iconst (pc := 259) (v := 1) h dX11_noon_259 (by decide) ?_
          refine V_icmp_ne (pc := 260) h 283 dX11_noon_260 (by decide) ?_ ?_
          · exact V_ls [0, 1, 2, 3, 4] rfl (m_noon_b283_ok h hr hlk hD L60 hL60 v2 v3 v4 v5 S9)
          · refine V_iload_n (pc := 263) h 2 dX11_noon_263 rfl rfl ?_
            refine V_aload_n (pc := 264) h 0 dX11_noon_264 rfl rfl ?_
            refine V_get (pc := 265) h 0 29 (.ref (a 12)) fl_X11_58_X11 oM_0 rfl rfl dX11_noon_265 ?_
            refine V_iload (pc := 268) h 4 dX11_noon_268 rfl ?_
            refine V_iald (pc := 270) h 12 oM_12 dX11_noon_270 ?_
            refine V_callSI (pc := 271) (dy := 1) h [.int v3, .int (S9 12 v5.toNatClampNeg)] [] ms_X11_263 dX11_noon_271 rfl rfl (Nat.le_of_ble_eq_true rfl) (Nat.le_trans (by decide) hD) (m_has v3 (S9 12 v5.toNatClampNeg) S9) (fun z9 hz9 => m_has_ct h.gg (Nat.le_refl 1) v3 (S9 12 v5.toNatClampNeg) S9 z9 hz9) (fun x11 S10 => ?_)
            refine V_if_eq (pc := 274) h 283 dX11_noon_274 (by decide) ?_ ?_
            · exact V_ls [0, 1, 2, 3, 4] rfl (m_noon_b283_ok h hr hlk hD L60 hL60 v2 v3 v4 v5 S10)
            · refine V_aload_n (pc := 277) h 0 dX11_noon_277 rfl rfl ?_
              refine V_iload (pc := 278) h 4 dX11_noon_278 rfl ?_
              refine V_put (pc := 280) h 0 39 v5 fp_X11_317_X11 oM_0 rfl rfl rfl rfl dX11_noon_280 (fun S12 => ?_)
              exact V_ls [0, 1, 2, 3, 4] rfl (m_noon_b283_ok h hr hlk hD L60 hL60 v2 v3 v4 v5 S12)
  · refine V_goto (pc := 168) h 330 dX11_noon_168 (by decide) ?_
    exact V_ls [0, 1, 2, 3] rfl (m_noon_b330_ok h hr hlk hD L60 hL60 v2 v3 v4 S3)
def m_noon_b94 (L60 : Int32 → Int32 → Int32 → St → Option St) (v2 : Int32) (v3 : Int32) (v4 : Int32) (v5 : Int32) (k0 : Int32) (S : St) : Option St := (if v4 = (S 0 42) then (bV (m_ladle_18 (S 0 43) (0 : Int32) (0 : Int32) S) (fun S1 => (m_noon_b119 L60 v2 v3 v4 v5 k0 S1))) else (m_noon_b119 L60 v2 v3 v4 v5 k0 S))
set_option maxHeartbeats 4000000 in
set_option maxRecDepth 100000 in
theorem m_noon_b94_ok {d : Nat} (h : Cx p s m c cX11_noon 7 RX11 s0 args0 D ca a A) (hr : meth.sig.returnType = none) (hlk : meth.locks = false) (hD : 3 ≤ d) (L60 : Int32 → Int32 → Int32 → St → Option St) (hL60 : ∀ (v2 : Int32) (v3 : Int32) (v4 : Int32) (S : St), VV p l e (rmd d) s m args below meth c D ca tpM a A 7 (QmV D ca tpM a A below args s) S [(0, .ref (a 0)), (2, .int v2), (3, .int v3), (4, .int v4)] 60 [] (L60 v2 v3 v4 S)) (v2 : Int32) (v3 : Int32) (v4 : Int32) (v5 : Int32) (k0 : Int32) (S : St) : VV p l e (rmd d) s m args below meth c D ca tpM a A 7 (QmV D ca tpM a A below args s) S [(0, .ref (a 0)), (2, .int v2), (3, .int v3), (4, .int v4), (5, .int v5)] 94 [.int k0] (m_noon_b94 L60 v2 v3 v4 v5 k0 S) := by
  unfold m_noon_b94
  refine V_istore (pc := 94) h [(6, .int k0), (0, .ref (a 0)), (2, .int v2), (3, .int v3), (4, .int v4), (5, .int v5)] dX11_noon_94 (by decide) rfl ?_
  refine V_iload (pc := 96) h 4 dX11_noon_96 rfl ?_
  refine V_aload_n (pc := 98) h 1 dX11_noon_98 rfl rfl ?_
  refine V_get (pc := 99) h 0 42 (.int (S 0 42)) fl_X11_89_X11 oM_0 rfl rfl dX11_noon_99 ?_
  refine V_icmp_ne (pc := 102) h 119 dX11_noon_102 (by decide) ?_ ?_
  · exact V_ls [1, 2, 3, 4, 5, 0] rfl (m_noon_b119_ok h hr hlk hD L60 hL60 v2 v3 v4 v5 k0 S)
  · refine V_aload_n (pc := 105) h 1 dX11_noon_105 rfl rfl ?_
    refine V_aload_n (pc := 106) h 1 dX11_noon_106 rfl rfl ?_
    refine V_get (pc := 107) h 0 43 (.int (S 0 43)) fl_X11_320_X11 oM_0 rfl rfl dX11_noon_107 ?_
    refine V_aload_n (pc := 110) h 1 dX11_noon_110 rfl rfl ?_
    refine V_get (pc := 111) h 0 37 (.ref (a 18)) fl_X11_80_X11 oM_0 rfl rfl dX11_noon_111 ?_
    refine V_iconst (pc := 114) (v := 0) h dX11_noon_114 (by decide) ?_
    refine V_iconst (pc := 115) (v := 0) h dX11_noon_115 (by decide) ?_
    refine V_callVV (pc := 116) (dy := 2) (q := (RX11, TX11, 59)) h [.int (S 0 43), .ref (a 18), .int (0 : Int32), .int (0 : Int32)] [] 0 mv_X11_323 oM_0 rfl dX11_noon_116 rfl rfl (Nat.le_of_ble_eq_true rfl) (Nat.le_trans (by decide) hD) (m_ladle_18 (S 0 43) (0 : Int32) (0 : Int32) S) (fun z9 hz9 => m_ladle_18_ct h.gg (Nat.le_refl 2) (S 0 43) (0 : Int32) (0 : Int32) S z9 hz9) (fun S1 => ?_)
    exact V_ls [1, 2, 3, 4, 5, 0] rfl (m_noon_b119_ok h hr hlk hD L60 hL60 v2 v3 v4 v5 k0 S1)
def m_noon_h60 : Nat → Int32 → Int32 → Int32 → St → Option St
  | 0, _, _, _, _ => none
  | n + 1, v2, v3, v4, S => (if (S 0 24) ≤ v4 then (some S) else (ckM v4 6 (bnd (S 11 v4.toNatClampNeg) (fun x1 => (if v4 = ((S 0 24) - (1 : Int32)) then (m_noon_b94 (m_noon_h60 n) v2 v3 v4 x1 (1 : Int32) S) else (m_noon_b94 (m_noon_h60 n) v2 v3 v4 x1 (0 : Int32) S))))))
set_option maxHeartbeats 4000000 in
set_option maxRecDepth 100000 in
theorem m_noon_h60_ok {d : Nat} (h : Cx p s m c cX11_noon 7 RX11 s0 args0 D ca a A) (hr : meth.sig.returnType = none) (hlk : meth.locks = false) (hD : 3 ≤ d) : ∀ (n : Nat) (v2 : Int32) (v3 : Int32) (v4 : Int32) (S : St), VV p l e (rmd d) s m args below meth c D ca tpM a A 7 (QmV D ca tpM a A below args s) S [(0, .ref (a 0)), (2, .int v2), (3, .int v3), (4, .int v4)] 60 [] (m_noon_h60 n v2 v3 v4 S) := by
  intro n
  induction n with
  | zero => intro v2 v3 v4 S; exact V_none
  | succ n ih =>
    intro v2 v3 v4 S
    unfold m_noon_h60
    refine V_iload (pc := 60) h 3 dX11_noon_60 rfl ?_
    refine V_aload_n (pc := 62) h 0 dX11_noon_62 rfl rfl ?_
    refine V_get (pc := 63) h 0 24 (.int (S 0 24)) fl_X11_289_X11 oM_0 rfl rfl dX11_noon_63 ?_
    refine V_icmp_ge (pc := 66) h 336 dX11_noon_66 (by decide) ?_ ?_
    · exact V_vret (pc := 336) h hr hlk dX11_noon_336
    · refine V_aload_n (pc := 69) h 0 dX11_noon_69 rfl rfl ?_
      refine V_get (pc := 70) h 0 28 (.ref (a 11)) fl_X11_55_X11 oM_0 rfl rfl dX11_noon_70 ?_
      refine V_iload (pc := 73) h 3 dX11_noon_73 rfl ?_
      refine V_iald (pc := 75) h 11 oM_11 dX11_noon_75 ?_
      refine V_top (fun x1 => ?_)
      refine V_istore (pc := 76) h [(5, .int x1), (0, .ref (a 0)), (2, .int v2), (3, .int v3), (4, .int v4)] dX11_noon_76 (by decide) rfl ?_
      refine V_iload (pc := 78) h 4 dX11_noon_78 rfl ?_
      refine V_aload_n (pc := 80) h 1 dX11_noon_80 rfl rfl ?_
      refine V_get (pc := 81) h 0 24 (.int (S 0 24)) fl_X11_289_X11 oM_0 rfl rfl dX11_noon_81 ?_
      refine V_iconst (pc := 84) (v := 1) h dX11_noon_84 (by decide) ?_
      refine V_isub (pc := 85) h dX11_noon_85 ?_
      refine V_icmp_ne (pc := 86) h 93 dX11_noon_86 (by decide) ?_ ?_
      · refine V_iconst (pc := 93) (v := 0) h dX11_noon_93 (by decide) ?_
        exact V_ls [1, 2, 3, 4, 0] rfl (m_noon_b94_ok h hr hlk hD (m_noon_h60 n) ih v2 v3 v4 x1 (0 : Int32) S)
      · refine V_iconst (pc := 89) (v := 1) h dX11_noon_89 (by decide) ?_
        refine V_goto (pc := 90) h 94 dX11_noon_90 (by decide) ?_
        exact V_ls [1, 2, 3, 4, 0] rfl (m_noon_b94_ok h hr hlk hD (m_noon_h60 n) ih v2 v3 v4 x1 (1 : Int32) S)
def m_noon_h2 : Nat → Int32 → Int32 → St → Option St
  | 0, _, _, _ => none
  | n + 1, v1, v2, S => (if (5 : Int32) ≤ v2 then (ckM (5 : Int32) 6 (bnd (up2 S 15 (5 : Int32).toNatClampNeg (0 : Int32)) (fun S1 => (bnd (up2 S1 0 39 (-1 : Int32)) (fun S2 => (m_noon_h60 FU (100 : Int32) (0 : Int32) (0 : Int32) S2)))))) else (ckM v2 5 (dvM (7 : Int32) (if ((v1 + (1 : Int32)) - (v1 + (1 : Int32)) / (7 : Int32) * (7 : Int32)) = 0 then (m_noon_b32 (m_noon_h2 n) v1 v2 (2 : Int32) (S 5 v2.toNatClampNeg) v2 S) else (m_noon_b32 (m_noon_h2 n) v1 v2 (1 : Int32) (S 5 v2.toNatClampNeg) v2 S)))))
set_option maxHeartbeats 4000000 in
set_option maxRecDepth 100000 in
theorem m_noon_h2_ok {d : Nat} (h : Cx p s m c cX11_noon 7 RX11 s0 args0 D ca a A) (hr : meth.sig.returnType = none) (hlk : meth.locks = false) (hD : 3 ≤ d) : ∀ (n : Nat) (v1 : Int32) (v2 : Int32) (S : St), VV p l e (rmd d) s m args below meth c D ca tpM a A 7 (QmV D ca tpM a A below args s) S [(0, .ref (a 0)), (1, .int v1), (2, .int v2)] 2 [] (m_noon_h2 n v1 v2 S) := by
  intro n
  induction n with
  | zero => intro v1 v2 S; exact V_none
  | succ n ih =>
    intro v1 v2 S
    unfold m_noon_h2
    refine V_iload_n (pc := 2) h 2 dX11_noon_2 rfl rfl ?_
    refine V_iconst (pc := 3) (v := 5) h dX11_noon_3 (by decide) ?_
    refine V_icmp_ge (pc := 4) h 40 dX11_noon_4 (by decide) ?_ ?_
    · refine V_aload_n (pc := 40) h 0 dX11_noon_40 rfl rfl ?_
      refine V_get (pc := 41) h 0 34 (.ref (a 15)) fl_X11_71_X11 oM_0 rfl rfl dX11_noon_41 ?_
      refine V_iconst (pc := 44) (v := 5) h dX11_noon_44 (by decide) ?_
      refine V_iconst (pc := 45) (v := 0) h dX11_noon_45 (by decide) ?_
      refine V_iast (pc := 46) h 15 oM_15 dX11_noon_46 (fun S1 => ?_)
      refine V_aload_n (pc := 47) h 0 dX11_noon_47 rfl rfl ?_
      refine V_iconst (pc := 48) (v := -1) h dX11_noon_48 (by decide) ?_
      refine V_put (pc := 49) h 0 39 (-1 : Int32) fp_X11_317_X11 oM_0 rfl rfl rfl rfl dX11_noon_49 (fun S2 => ?_)
      refine V_bipush (pc := 52) (v := 100) h dX11_noon_52 (by decide) ?_
      refine V_istore_n (pc := 54) h [(2, .int (100 : Int32)), (0, .ref (a 0)), (1, .int v1)] dX11_noon_54 rfl (by decide) rfl ?_
      refine V_iconst (pc := 55) (v := 0) h dX11_noon_55 (by decide) ?_
      refine V_istore_n (pc := 56) h [(3, .int (0 : Int32)), (2, .int (100 : Int32)), (0, .ref (a 0)), (1, .int v1)] dX11_noon_56 rfl (by decide) rfl ?_
      refine V_iconst (pc := 57) (v := 0) h dX11_noon_57 (by decide) ?_
      refine V_istore (pc := 58) h [(4, .int (0 : Int32)), (3, .int (0 : Int32)), (2, .int (100 : Int32)), (0, .ref (a 0)), (1, .int v1)] dX11_noon_58 (by decide) rfl ?_
      exact V_ls [3, 2, 1, 0] rfl (m_noon_h60_ok h hr hlk hD FU (100 : Int32) (0 : Int32) (0 : Int32) S2)
    · refine V_aload_n (pc := 7) h 0 dX11_noon_7 rfl rfl ?_
      refine V_get (pc := 8) h 0 34 (.ref (a 15)) fl_X11_71_X11 oM_0 rfl rfl dX11_noon_8 ?_
      refine V_iload_n (pc := 11) h 2 dX11_noon_11 rfl rfl ?_
      refine V_aload_n (pc := 12) h 0 dX11_noon_12 rfl rfl ?_
      refine V_get (pc := 13) h 0 18 (.ref (a 5)) fl_X11_37_X11 oM_0 rfl rfl dX11_noon_13 ?_
      refine V_iload_n (pc := 16) h 2 dX11_noon_16 rfl rfl ?_
      refine V_iald (pc := 17) h 5 oM_5 dX11_noon_17 ?_
      refine V_iload_n (pc := 18) h 1 dX11_noon_18 rfl rfl ?_
      refine V_iconst (pc := 19) (v := 1) h dX11_noon_19 (by decide) ?_
      refine V_iadd (pc := 20) h dX11_noon_20 ?_
      refine V_bipush (pc := 21) (v := 7) h dX11_noon_21 (by decide) ?_
      refine V_irem (pc := 23) h dX11_noon_23 ?_
      refine V_if_ne (pc := 24) h 31 dX11_noon_24 (by decide) ?_ ?_
      · refine V_iconst (pc := 31) (v := 1) h dX11_noon_31 (by decide) ?_
        exact V_ls [0, 1, 2] rfl (m_noon_b32_ok h hr hlk hD (m_noon_h2 n) ih v1 v2 (1 : Int32) (S 5 v2.toNatClampNeg) v2 S)
      · refine V_iconst (pc := 27) (v := 2) h dX11_noon_27 (by decide) ?_
        refine V_goto (pc := 28) h 32 dX11_noon_28 (by decide) ?_
        exact V_ls [0, 1, 2] rfl (m_noon_b32_ok h hr hlk hD (m_noon_h2 n) ih v1 v2 (2 : Int32) (S 5 v2.toNatClampNeg) v2 S)
def m_noon (v1 : Int32) (S : St) : Option St := (m_noon_h2 FU v1 (0 : Int32) S)
set_option maxHeartbeats 4000000 in
set_option maxRecDepth 100000 in
theorem m_noon_ok {d : Nat} (h : Cx p s m c cX11_noon 7 RX11 s0 args0 D ca a A) (hr : meth.sig.returnType = none) (hlk : meth.locks = false) (hD : 3 ≤ d) (v1 : Int32) (S : St) : VV p l e (rmd d) s m args below meth c D ca tpM a A 7 (QmV D ca tpM a A below args s) S [(0, .ref (a 0)), (1, .int v1)] 0 [] (m_noon v1 S) := by
  unfold m_noon
  refine V_iconst (pc := 0) (v := 0) h dX11_noon_0 (by decide) ?_
  refine V_istore_n (pc := 1) h [(2, .int (0 : Int32)), (0, .ref (a 0)), (1, .int v1)] dX11_noon_1 rfl (by decide) rfl ?_
  exact V_ls [1, 2, 0] rfl (m_noon_h2_ok h hr hlk hD FU v1 (0 : Int32) S)
theorem m_noon_ct {d : Nat} (g : GG s0 args0 D ca a A) (hD : 3 ≤ d) (v1 : Int32) (S : St) (z : St) (hz : m_noon v1 S = some z) : CtV l yX11_noon cX11_noon 7 d s0 D ca tpM a A [.ref (a 0), .int v1] S z := CtV_mk g (by decide +kernel) (Nat.le_of_ble_eq_true rfl) hz (fun p e s m args below meth c h hr hlk => m_noon_ok h hr hlk hD v1 S)
def m_placeIn_h2 : Nat → Int32 → Int32 → St → Option (Int32 × St)
  | 0, _, _, _ => none
  | n + 1, v1, v2, S => (ckM v2 6 (if (S 11 v2.toNatClampNeg) = v1 then (some (v2, S)) else (bnd (v2 + (1 : Int32)) (fun x1 => ((m_placeIn_h2 n) v1 x1 S)))))
set_option maxHeartbeats 4000000 in
set_option maxRecDepth 100000 in
theorem m_placeIn_h2_ok {d : Nat} (h : Cx p s m c cX11_placeIn 3 RX11 s0 args0 D ca a A) (hr : meth.sig.returnType = some .int) (hlk : meth.locks = false) (hD : 1 ≤ d) : ∀ (n : Nat) (v1 : Int32) (v2 : Int32) (S : St), VV p l e (rmd d) s m args below meth c D ca tpM a A 3 (QmI D ca tpM a A below args s) S [(0, .ref (a 0)), (1, .int v1), (2, .int v2)] 2 [] (m_placeIn_h2 n v1 v2 S) := by
  intro n
  induction n with
  | zero => intro v1 v2 S; exact V_none
  | succ n ih =>
    intro v1 v2 S
    unfold m_placeIn_h2
    refine V_aload_n (pc := 2) h 0 dX11_placeIn_2 rfl rfl ?_
    refine V_get (pc := 3) h 0 28 (.ref (a 11)) fl_X11_55_X11 oM_0 rfl rfl dX11_placeIn_3 ?_
    refine V_iload_n (pc := 6) h 2 dX11_placeIn_6 rfl rfl ?_
    refine V_iald (pc := 7) h 11 oM_11 dX11_placeIn_7 ?_
    refine V_iload_n (pc := 8) h 1 dX11_placeIn_8 rfl rfl ?_
    refine V_icmp_eq (pc := 9) h 18 dX11_placeIn_9 (by decide) ?_ ?_
    · refine V_iload_n (pc := 18) h 2 dX11_placeIn_18 rfl rfl ?_
      exact V_iret (pc := 19) h hr hlk dX11_placeIn_19
    · refine V_iincB (pc := 12) h 2 (1 : Int32) (fun x1 => [(2, .int x1), (0, .ref (a 0)), (1, .int v1)]) dX11_placeIn_12 rfl (by decide) (by decide) (fun _ => rfl) (fun x1 => ?_)
      refine V_goto (pc := 15) h 2 dX11_placeIn_15 (by decide) ?_
      exact V_ls [1, 2, 0] rfl (ih v1 x1 S)
def m_placeIn (v1 : Int32) (S : St) : Option (Int32 × St) := (m_placeIn_h2 FU v1 (0 : Int32) S)
set_option maxHeartbeats 4000000 in
set_option maxRecDepth 100000 in
theorem m_placeIn_ok {d : Nat} (h : Cx p s m c cX11_placeIn 3 RX11 s0 args0 D ca a A) (hr : meth.sig.returnType = some .int) (hlk : meth.locks = false) (hD : 1 ≤ d) (v1 : Int32) (S : St) : VV p l e (rmd d) s m args below meth c D ca tpM a A 3 (QmI D ca tpM a A below args s) S [(0, .ref (a 0)), (1, .int v1)] 0 [] (m_placeIn v1 S) := by
  unfold m_placeIn
  refine V_iconst (pc := 0) (v := 0) h dX11_placeIn_0 (by decide) ?_
  refine V_istore_n (pc := 1) h [(2, .int (0 : Int32)), (0, .ref (a 0)), (1, .int v1)] dX11_placeIn_1 rfl (by decide) rfl ?_
  exact V_ls [1, 2, 0] rfl (m_placeIn_h2_ok h hr hlk hD FU v1 (0 : Int32) S)
theorem m_placeIn_ct {d : Nat} (g : GG s0 args0 D ca a A) (hD : 1 ≤ d) (v1 : Int32) (S : St) (z : Int32 × St) (hz : m_placeIn v1 S = some z) : CtI l yX11_placeIn cX11_placeIn 3 .int d s0 D ca tpM a A [.ref (a 0), .int v1] S z := CtI_mk g (by decide +kernel) (Nat.le_of_ble_eq_true rfl) hz (fun p e s m args below meth c h hr hlk => m_placeIn_ok h hr hlk hD v1 S)
def m_opens_2 (v2 : Int32) (v3 : Int32) (S : St) : Option St := (bnd (up2 S 0 5 (1 : Int32)) (fun S1 => (bnd (up2 S1 0 8 v2) (fun S2 => (bnd (up2 S2 0 9 v3) (fun S3 => (bnd (up2 S3 0 10 (0 : Int32)) (fun S4 => (bnd (up2 S4 0 11 (-1 : Int32)) (fun S5 => (some S5)))))))))))
set_option maxHeartbeats 4000000 in
set_option maxRecDepth 100000 in
theorem m_opens_2_ok {d : Nat} (h : Cx p s m c cX11_opens 4 RX11 s0 args0 D ca a A) (hr : meth.sig.returnType = none) (hlk : meth.locks = false) (hD : 1 ≤ d) (v2 : Int32) (v3 : Int32) (S : St) : VV p l e (rmd d) s m args below meth c D ca tpM a A 4 (QmV D ca tpM a A below args s) S [(0, .ref (a 0)), (1, .ref (a 2)), (2, .int v2), (3, .int v3)] 0 [] (m_opens_2 v2 v3 S) := by
  unfold m_opens_2
  refine V_aload_n (pc := 0) h 0 dX11_opens_0 rfl rfl ?_
  refine V_aload_n (pc := 1) h 1 dX11_opens_1 rfl rfl ?_
  refine V_put (pc := 2) h 0 5 (1 : Int32) fp_X11_23_X11 oM_0 rfl (fvv_dynP (by decide)) rfl rfl dX11_opens_2 (fun S1 => ?_)
  refine V_aload_n (pc := 5) h 0 dX11_opens_5 rfl rfl ?_
  refine V_iload_n (pc := 6) h 2 dX11_opens_6 rfl rfl ?_
  refine V_put (pc := 7) h 0 8 v2 fp_X11_148_X11 oM_0 rfl rfl rfl rfl dX11_opens_7 (fun S2 => ?_)
  refine V_aload_n (pc := 10) h 0 dX11_opens_10 rfl rfl ?_
  refine V_iload_n (pc := 11) h 3 dX11_opens_11 rfl rfl ?_
  refine V_put (pc := 12) h 0 9 v3 fp_X11_145_X11 oM_0 rfl rfl rfl rfl dX11_opens_12 (fun S3 => ?_)
  refine V_aload_n (pc := 15) h 0 dX11_opens_15 rfl rfl ?_
  refine V_iconst (pc := 16) (v := 0) h dX11_opens_16 (by decide) ?_
  refine V_put (pc := 17) h 0 10 (0 : Int32) fp_X11_142_X11 oM_0 rfl rfl rfl rfl dX11_opens_17 (fun S4 => ?_)
  refine V_aload_n (pc := 20) h 0 dX11_opens_20 rfl rfl ?_
  refine V_iconst (pc := 21) (v := -1) h dX11_opens_21 (by decide) ?_
  refine V_put (pc := 22) h 0 11 (-1 : Int32) fp_X11_151_X11 oM_0 rfl rfl rfl rfl dX11_opens_22 (fun S5 => ?_)
  exact V_vret (pc := 25) h hr hlk dX11_opens_25
theorem m_opens_2_ct {d : Nat} (g : GG s0 args0 D ca a A) (hD : 1 ≤ d) (v2 : Int32) (v3 : Int32) (S : St) (z : St) (hz : m_opens_2 v2 v3 S = some z) : CtV l yX11_opens cX11_opens 4 d s0 D ca tpM a A [.ref (a 0), .ref (a 2), .int v2, .int v3] S z := CtV_mk g (by decide +kernel) (Nat.le_of_ble_eq_true rfl) hz (fun p e s m args below meth c h hr hlk => m_opens_2_ok h hr hlk hD v2 v3 S)
def m_clause_b134 (v1 : Int32) (v2 : Int32) (v3 : Int32) (S : St) : Option St := (if (S 0 11) = (-1 : Int32) then (if (S 0 17) = 0 then (if v1 = (S 0 13) then (if v2 = 0 then (some S) else (bnd (up2 S 0 17 (1 : Int32)) (fun S1 => (bnd (up2 S1 0 14 v3) (fun S2 => (some S2)))))) else (some S)) else (some S)) else (some S))
set_option maxHeartbeats 4000000 in
set_option maxRecDepth 100000 in
theorem m_clause_b134_ok {d : Nat} (h : Cx p s m c cX11_clause 5 RX11 s0 args0 D ca a A) (hr : meth.sig.returnType = none) (hlk : meth.locks = false) (hD : 47 ≤ d) (v1 : Int32) (v2 : Int32) (v3 : Int32) (S : St) : VV p l e (rmd d) s m args below meth c D ca tpM a A 5 (QmV D ca tpM a A below args s) S [(0, .ref (a 0)), (1, .int v1), (2, .int v2), (3, .int v3)] 134 [] (m_clause_b134 v1 v2 v3 S) := by
  unfold m_clause_b134
  refine V_aload_n (pc := 134) h 0 dX11_clause_134 rfl rfl ?_
  refine V_get (pc := 135) h 0 11 (.int (S 0 11)) fl_X11_151_X11 oM_0 rfl rfl dX11_clause_135 ?_
  refine V_iconst (pc := 138) (v := -1) h dX11_clause_138 (by decide) ?_
  refine V_icmp_ne (pc := 139) h 161 dX11_clause_139 (by decide) ?_ ?_
  · exact V_vret (pc := 161) h hr hlk dX11_clause_161
  · refine V_aload_n (pc := 142) h 0 dX11_clause_142 rfl rfl ?_
    refine V_get (pc := 143) h 0 17 (.int (S 0 17)) fl_X11_220_X11 oM_0 rfl rfl dX11_clause_143 ?_
    refine V_if_ne (pc := 146) h 161 dX11_clause_146 (by decide) ?_ ?_
    · exact V_vret (pc := 161) h hr hlk dX11_clause_161
    · refine V_iload_n (pc := 149) h 1 dX11_clause_149 rfl rfl ?_
      refine V_aload_n (pc := 150) h 0 dX11_clause_150 rfl rfl ?_
      refine V_get (pc := 151) h 0 13 (.int (S 0 13)) fl_X11_224_X11 oM_0 rfl rfl dX11_clause_151 ?_
      refine V_icmp_ne (pc := 154) h 161 dX11_clause_154 (by decide) ?_ ?_
      · exact V_vret (pc := 161) h hr hlk dX11_clause_161
      · refine V_iload_n (pc := 157) h 2 dX11_clause_157 rfl rfl ?_
        refine V_if_ne (pc := 158) h 162 dX11_clause_158 (by decide) ?_ ?_
        · refine V_aload_n (pc := 162) h 0 dX11_clause_162 rfl rfl ?_
          refine V_iconst (pc := 163) (v := 1) h dX11_clause_163 (by decide) ?_
          refine V_put (pc := 164) h 0 17 (1 : Int32) fp_X11_220_X11 oM_0 rfl rfl rfl rfl dX11_clause_164 (fun S1 => ?_)
          refine V_aload_n (pc := 167) h 0 dX11_clause_167 rfl rfl ?_
          refine V_iload_n (pc := 168) h 3 dX11_clause_168 rfl rfl ?_
          refine V_put (pc := 169) h 0 14 v3 fp_X11_227_X11 oM_0 rfl rfl rfl rfl dX11_clause_169 (fun S2 => ?_)
          exact V_vret (pc := 172) h hr hlk dX11_clause_172
        · exact V_vret (pc := 161) h hr hlk dX11_clause_161
def m_clause_b64 (v1 : Int32) (S : St) : Option St := (bI (m_condition_x (0 : Int32) (0 : Int32) S) (fun x2 S1 => (bI (m_takes (63 : Int32) S1) (fun x4 S3 => (if x4 = 0 then (some S3) else (bI (m_sum_x S3) (fun x6 S5 => (m_clause_b134 v1 x2 x6 S5))))))))
set_option maxHeartbeats 4000000 in
set_option maxRecDepth 100000 in
theorem m_clause_b64_ok {d : Nat} (h : Cx p s m c cX11_clause 5 RX11 s0 args0 D ca a A) (hr : meth.sig.returnType = none) (hlk : meth.locks = false) (hD : 47 ≤ d) (v1 : Int32) (S : St) : VV p l e (rmd d) s m args below meth c D ca tpM a A 5 (QmV D ca tpM a A below args s) S [(0, .ref (a 0)), (1, .int v1)] 64 [] (m_clause_b64 v1 S) := by
  unfold m_clause_b64
  refine V_aload_n (pc := 64) h 0 dX11_clause_64 rfl rfl ?_
  refine V_iconst (pc := 65) (v := 0) h dX11_clause_65 (by decide) ?_
  refine V_iconst (pc := 66) (v := 0) h dX11_clause_66 (by decide) ?_
  refine V_callVI (pc := 67) (dy := 46) (q := (RX11, TX11, 59)) h [.int (0 : Int32), .int (0 : Int32)] [] 0 mv_X11_210 oM_0 rfl dX11_clause_67 rfl rfl (Nat.le_of_ble_eq_true rfl) (Nat.le_trans (by decide) hD) (m_condition_x (0 : Int32) (0 : Int32) S) (fun z9 hz9 => m_condition_x_ct h.gg (Nat.le_refl 46) (Nat.le_refl 46) (0 : Int32) (0 : Int32) S z9 hz9) (fun x2 S1 => ?_)
  refine V_istore_n (pc := 70) h [(2, .int x2), (0, .ref (a 0)), (1, .int v1)] dX11_clause_70 rfl (by decide) rfl ?_
  refine V_aload_n (pc := 71) h 1 dX11_clause_71 rfl rfl ?_
  refine V_bipush (pc := 72) (v := 63) h dX11_clause_72 (by decide) ?_
  refine V_callVI (pc := 74) (dy := 2) (q := (RX11, TX11, 59)) h [.int (63 : Int32)] [] 0 mv_X11_187 oM_0 rfl dX11_clause_74 rfl rfl (Nat.le_of_ble_eq_true rfl) (Nat.le_trans (by decide) hD) (m_takes (63 : Int32) S1) (fun z9 hz9 => m_takes_ct h.gg (Nat.le_refl 2) (63 : Int32) S1 z9 hz9) (fun x4 S3 => ?_)
  refine V_if_ne (pc := 77) h 81 dX11_clause_77 (by decide) ?_ ?_
  · refine V_aload_n (pc := 81) h 1 dX11_clause_81 rfl rfl ?_
    refine V_callVI (pc := 82) (dy := 46) (q := (RX11, TX11, 59)) h [] [] 0 mv_X11_184 oM_0 rfl dX11_clause_82 rfl rfl (Nat.le_of_ble_eq_true rfl) (Nat.le_trans (by decide) hD) (m_sum_x S3) (fun z9 hz9 => m_sum_x_ct h.gg (Nat.le_refl 46) (Nat.le_refl 46) S3 z9 hz9) (fun x6 S5 => ?_)
    refine V_istore_n (pc := 85) h [(3, .int x6), (2, .int x2), (0, .ref (a 0)), (1, .int v1)] dX11_clause_85 rfl (by decide) rfl ?_
    refine V_goto (pc := 86) h 134 dX11_clause_86 (by decide) ?_
    exact V_ls [2, 3, 1, 0] rfl (m_clause_b134_ok h hr hlk hD v1 x2 x6 S5)
  · exact V_vret (pc := 80) h hr hlk dX11_clause_80
def m_clause (S : St) : Option St := (bI (m_look S) (fun x2 S1 => (bI (m_isAmong 4 x2 S1) (fun x4 S3 => (if x4 = 0 then (bI (m_fails S3) (fun x23 S22 => (some S22))) else (bnd (up2 S3 0 10 ((S3 0 10) + (1 : Int32))) (fun S5 => (bI (m_takes (58 : Int32) S5) (fun x7 S6 => (if x7 = 0 then (some S6) else (bI (m_look S6) (fun x9 S8 => (if x9 = (33 : Int32) then (m_clause_b64 x2 S8) else (if x9 = (40 : Int32) then (m_clause_b64 x2 S8) else (bI (m_sum_x S8) (fun x11 S10 => (if (S10 0 11) = (-1 : Int32) then (bI (m_look S10) (fun x13 S12 => (bI (m_isSign x13 S12) (fun x15 S14 => (if x15 = 0 then (m_clause_b134 x2 (1 : Int32) x11 S14) else (bI (m_condition_x (1 : Int32) x11 S14) (fun x17 S16 => (bI (m_takes (63 : Int32) S16) (fun x19 S18 => (if x19 = 0 then (some S18) else (bI (m_sum_x S18) (fun x21 S20 => (m_clause_b134 x2 x17 x21 S20))))))))))))) else (m_clause_b134 x2 (1 : Int32) x11 S10))))))))))))))))))
set_option maxHeartbeats 4000000 in
set_option maxRecDepth 100000 in
theorem m_clause_ok {d : Nat} (h : Cx p s m c cX11_clause 5 RX11 s0 args0 D ca a A) (hr : meth.sig.returnType = none) (hlk : meth.locks = false) (hD : 47 ≤ d) (S : St) : VV p l e (rmd d) s m args below meth c D ca tpM a A 5 (QmV D ca tpM a A below args s) S [(0, .ref (a 0))] 0 [] (m_clause S) := by
  unfold m_clause
  refine V_aload_n (pc := 0) h 0 dX11_clause_0 rfl rfl ?_
  refine V_callVI (pc := 1) (dy := 1) (q := (RX11, TX11, 59)) h [] [] 0 mv_X11_161 oM_0 rfl dX11_clause_1 rfl rfl (Nat.le_of_ble_eq_true rfl) (Nat.le_trans (by decide) hD) (m_look S) (fun z9 hz9 => m_look_ct h.gg (Nat.le_refl 1) S z9 hz9) (fun x2 S1 => ?_)
  refine V_istore_n (pc := 4) h [(1, .int x2), (0, .ref (a 0))] dX11_clause_4 rfl (by decide) rfl ?_
  refine V_ldcS (pc := 5) (tx := "y") h 4 (by decide) dX11_clause_5 ?_
  refine V_iload_n (pc := 7) h 0 dX11_clause_7 rfl rfl ?_
  refine V_callSI (pc := 8) (dy := 5) h [.ref (a (200 + 4)), .int x2] [] ms_X11_177 dX11_clause_8 rfl rfl (Nat.le_of_ble_eq_true rfl) (Nat.le_trans (by decide) hD) (m_isAmong 4 x2 S1) (fun z9 hz9 => m_isAmong_ct h.gg (Nat.le_refl 5) (by decide) x2 S1 z9 hz9) (fun x4 S3 => ?_)
  refine V_if_ne (pc := 11) h 20 dX11_clause_11 (by decide) ?_ ?_
  · refine V_aload_n (pc := 20) h 1 dX11_clause_20 rfl rfl ?_
    refine V_dup (pc := 21) h dX11_clause_21 rfl ?_
    refine V_get (pc := 22) h 0 10 (.int (S3 0 10)) fl_X11_142_X11 oM_0 rfl rfl dX11_clause_22 ?_
    refine V_iconst (pc := 25) (v := 1) h dX11_clause_25 (by decide) ?_
    refine V_iadd (pc := 26) h dX11_clause_26 ?_
    refine V_put (pc := 27) h 0 10 ((S3 0 10) + (1 : Int32)) fp_X11_142_X11 oM_0 rfl rfl rfl rfl dX11_clause_27 (fun S5 => ?_)
    refine V_aload_n (pc := 30) h 1 dX11_clause_30 rfl rfl ?_
    refine V_bipush (pc := 31) (v := 58) h dX11_clause_31 (by decide) ?_
    refine V_callVI (pc := 33) (dy := 2) (q := (RX11, TX11, 59)) h [.int (58 : Int32)] [] 0 mv_X11_187 oM_0 rfl dX11_clause_33 rfl rfl (Nat.le_of_ble_eq_true rfl) (Nat.le_trans (by decide) hD) (m_takes (58 : Int32) S5) (fun z9 hz9 => m_takes_ct h.gg (Nat.le_refl 2) (58 : Int32) S5 z9 hz9) (fun x7 S6 => ?_)
    refine V_if_ne (pc := 36) h 40 dX11_clause_36 (by decide) ?_ ?_
    · refine V_iconst (pc := 40) (v := 1) h dX11_clause_40 (by decide) ?_
      refine V_istore_n (pc := 41) h [(2, .int (1 : Int32)), (1, .int x2), (0, .ref (a 0))] dX11_clause_41 rfl (by decide) rfl ?_
      refine V_iconst (pc := 42) (v := 0) h dX11_clause_42 (by decide) ?_
      refine V_istore_n (pc := 43) h [(3, .int (0 : Int32)), (2, .int (1 : Int32)), (1, .int x2), (0, .ref (a 0))] dX11_clause_43 rfl (by decide) rfl ?_
      refine V_aload_n (pc := 44) h 3 dX11_clause_44 rfl rfl ?_
      refine V_callVI (pc := 45) (dy := 1) (q := (RX11, TX11, 59)) h [] [] 0 mv_X11_161 oM_0 rfl dX11_clause_45 rfl rfl (Nat.le_of_ble_eq_true rfl) (Nat.le_trans (by decide) hD) (m_look S6) (fun z9 hz9 => m_look_ct h.gg (Nat.le_refl 1) S6 z9 hz9) (fun x9 S8 => ?_)
      refine V_istore (pc := 48) h [(4, .int x9), (3, .int (0 : Int32)), (2, .int (1 : Int32)), (1, .int x2), (0, .ref (a 0))] dX11_clause_48 (by decide) rfl ?_
      refine V_iload (pc := 50) h 0 dX11_clause_50 rfl ?_
      refine V_bipush (pc := 52) (v := 33) h dX11_clause_52 (by decide) ?_
      refine V_icmp_eq (pc := 54) h 64 dX11_clause_54 (by decide) ?_ ?_
      · exact V_ls [4, 3] rfl (m_clause_b64_ok h hr hlk hD x2 S8)
      · refine V_iload (pc := 57) h 0 dX11_clause_57 rfl ?_
        refine V_bipush (pc := 59) (v := 40) h dX11_clause_59 (by decide) ?_
        refine V_icmp_ne (pc := 61) h 89 dX11_clause_61 (by decide) ?_ ?_
        · refine V_aload_n (pc := 89) h 4 dX11_clause_89 rfl rfl ?_
          refine V_callVI (pc := 90) (dy := 46) (q := (RX11, TX11, 59)) h [] [] 0 mv_X11_184 oM_0 rfl dX11_clause_90 rfl rfl (Nat.le_of_ble_eq_true rfl) (Nat.le_trans (by decide) hD) (m_sum_x S8) (fun z9 hz9 => m_sum_x_ct h.gg (Nat.le_refl 46) (Nat.le_refl 46) S8 z9 hz9) (fun x11 S10 => ?_)
          refine V_istore_n (pc := 93) h [(3, .int x11), (4, .int x9), (2, .int (1 : Int32)), (1, .int x2), (0, .ref (a 0))] dX11_clause_93 rfl (by decide) rfl ?_
          refine V_aload_n (pc := 94) h 4 dX11_clause_94 rfl rfl ?_
          refine V_get (pc := 95) h 0 11 (.int (S10 0 11)) fl_X11_151_X11 oM_0 rfl rfl dX11_clause_95 ?_
          refine V_iconst (pc := 98) (v := -1) h dX11_clause_98 (by decide) ?_
          refine V_icmp_ne (pc := 99) h 134 dX11_clause_99 (by decide) ?_ ?_
          · exact V_ls [4, 3, 2, 0] rfl (m_clause_b134_ok h hr hlk hD x2 (1 : Int32) x11 S10)
          · refine V_aload_n (pc := 102) h 4 dX11_clause_102 rfl rfl ?_
            refine V_callVI (pc := 103) (dy := 1) (q := (RX11, TX11, 59)) h [] [] 0 mv_X11_161 oM_0 rfl dX11_clause_103 rfl rfl (Nat.le_of_ble_eq_true rfl) (Nat.le_trans (by decide) hD) (m_look S10) (fun z9 hz9 => m_look_ct h.gg (Nat.le_refl 1) S10 z9 hz9) (fun x13 S12 => ?_)
            refine V_callSI (pc := 106) (dy := 1) h [.int x13] [] ms_X11_204 dX11_clause_106 rfl rfl (Nat.le_of_ble_eq_true rfl) (Nat.le_trans (by decide) hD) (m_isSign x13 S12) (fun z9 hz9 => m_isSign_ct h.gg (Nat.le_refl 1) x13 S12 z9 hz9) (fun x15 S14 => ?_)
            refine V_if_eq (pc := 109) h 134 dX11_clause_109 (by decide) ?_ ?_
            · exact V_ls [4, 3, 2, 0] rfl (m_clause_b134_ok h hr hlk hD x2 (1 : Int32) x11 S14)
            · refine V_aload_n (pc := 112) h 4 dX11_clause_112 rfl rfl ?_
              refine V_iconst (pc := 113) (v := 1) h dX11_clause_113 (by decide) ?_
              refine V_iload_n (pc := 114) h 0 dX11_clause_114 rfl rfl ?_
              refine V_callVI (pc := 115) (dy := 46) (q := (RX11, TX11, 59)) h [.int (1 : Int32), .int x11] [] 0 mv_X11_210 oM_0 rfl dX11_clause_115 rfl rfl (Nat.le_of_ble_eq_true rfl) (Nat.le_trans (by decide) hD) (m_condition_x (1 : Int32) x11 S14) (fun z9 hz9 => m_condition_x_ct h.gg (Nat.le_refl 46) (Nat.le_refl 46) (1 : Int32) x11 S14 z9 hz9) (fun x17 S16 => ?_)
              refine V_istore_n (pc := 118) h [(2, .int x17), (3, .int x11), (4, .int x9), (1, .int x2), (0, .ref (a 0))] dX11_clause_118 rfl (by decide) rfl ?_
              refine V_aload_n (pc := 119) h 4 dX11_clause_119 rfl rfl ?_
              refine V_bipush (pc := 120) (v := 63) h dX11_clause_120 (by decide) ?_
              refine V_callVI (pc := 122) (dy := 2) (q := (RX11, TX11, 59)) h [.int (63 : Int32)] [] 0 mv_X11_187 oM_0 rfl dX11_clause_122 rfl rfl (Nat.le_of_ble_eq_true rfl) (Nat.le_trans (by decide) hD) (m_takes (63 : Int32) S16) (fun z9 hz9 => m_takes_ct h.gg (Nat.le_refl 2) (63 : Int32) S16 z9 hz9) (fun x19 S18 => ?_)
              refine V_if_ne (pc := 125) h 129 dX11_clause_125 (by decide) ?_ ?_
              · refine V_aload_n (pc := 129) h 4 dX11_clause_129 rfl rfl ?_
                refine V_callVI (pc := 130) (dy := 46) (q := (RX11, TX11, 59)) h [] [] 0 mv_X11_184 oM_0 rfl dX11_clause_130 rfl rfl (Nat.le_of_ble_eq_true rfl) (Nat.le_trans (by decide) hD) (m_sum_x S18) (fun z9 hz9 => m_sum_x_ct h.gg (Nat.le_refl 46) (Nat.le_refl 46) S18 z9 hz9) (fun x21 S20 => ?_)
                refine V_istore_n (pc := 133) h [(3, .int x21), (2, .int x17), (4, .int x9), (1, .int x2), (0, .ref (a 0))] dX11_clause_133 rfl (by decide) rfl ?_
                exact V_ls [4, 3, 1, 0] rfl (m_clause_b134_ok h hr hlk hD x2 x17 x21 S20)
              · exact V_vret (pc := 128) h hr hlk dX11_clause_128
        · exact V_ls [4, 3] rfl (m_clause_b64_ok h hr hlk hD x2 S8)
    · exact V_vret (pc := 39) h hr hlk dX11_clause_39
  · refine V_aload_n (pc := 14) h 1 dX11_clause_14 rfl rfl ?_
    refine V_callVI (pc := 15) (dy := 1) (q := (RX11, TX11, 59)) h [] [] 0 mv_X11_157 oM_0 rfl dX11_clause_15 rfl rfl (Nat.le_of_ble_eq_true rfl) (Nat.le_trans (by decide) hD) (m_fails S3) (fun z9 hz9 => m_fails_ct h.gg (Nat.le_refl 1) S3 z9 hz9) (fun x23 S22 => ?_)
    refine V_pop (pc := 18) h dX11_clause_18 rfl ?_
    exact V_vret (pc := 19) h hr hlk dX11_clause_19
theorem m_clause_ct {d : Nat} (g : GG s0 args0 D ca a A) (hD : 47 ≤ d) (S : St) (z : St) (hz : m_clause S = some z) : CtV l yX11_clause cX11_clause 5 d s0 D ca tpM a A [.ref (a 0)] S z := CtV_mk g (by decide +kernel) (Nat.le_of_ble_eq_true rfl) hz (fun p e s m args below meth c h hr hlk => m_clause_ok h hr hlk hD S)
end GEN
