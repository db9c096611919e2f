section MAKE
variable {l : Launch} {D : va_G} {ca : Nat → ClassId} {a : Nat → Nat} {n0 : Nat} {s0 : State} {args0 : Array Value}
def k_Tape_1_e1 (n0 : Nat) (ca : Nat → ClassId) (a : Nat → Nat) (E : Nat → va_E) : Nat → va_E := va_up E 2 (.inl (ca 0, 160, .inl (fun _ => 0)))
def k_Tape_1_e2 (n0 : Nat) (ca : Nat → ClassId) (a : Nat → Nat) (E : Nat → va_E) : Nat → va_E := va_up (k_Tape_1_e1 n0 ca a E) 1 (.inr (8, [.ref (n0 + 2), .int 0]))
set_option maxHeartbeats 4000000 in
set_option maxRecDepth 100000 in
theorem k_Tape_1_ct (g : GG s0 args0 D ca a (AE n0)) (E : Nat → va_E) (hE : E 1 = .inr (8, [.null, .int 0])) : CtE l yX9_init cX9_init 1 1 1 160 s0 D n0 [.ref (n0 + 1)] 2 E 3 (k_Tape_1_e2 n0 ca a E) := by
  refine CtE_mk g (by decide +kernel) rfl (Nat.le_of_ble_eq_true rfl) (fun p e s m args below meth c h hr hlk hin => ?_)
  show VE p l e (rmE 1 1 160) s m args below meth c D n0 1 (MQ below (QE D n0 3 (k_Tape_1_e2 n0 ca a E)) args s 1 160 (AE n0)) 0 0 2 E [(0, .ref (n0 + 1))] 0 []
  refine E_aload_n (pc := 0) h 0 dX9_init_0 rfl rfl ?_
  refine E_obj (pc := 1) h tw_1_38 tw_1_31 tw_1_32 dX9_init_1 (Nat.le_of_ble_eq_true rfl) (by decide) (by decide) ?_
  refine E_aload_n (pc := 4) h 0 dX9_init_4 rfl rfl ?_
  refine E_sipush (pc := 5) (v := 160) h dX9_init_5 (by decide) ?_
  refine E_newa (pc := 8) (atype := .int) h 0 160 (k_Tape_1_e1 n0 ca a E) rfl (by decide) tw_1_49 (by decide) (by decide) (by decide) rfl (by decide) (by decide) dX9_init_8 ?_
  refine E_putF (pc := 10) h 1 (k_Tape_1_e2 n0 ca a E) hin ff_X9_9_X9 (by decide) hE (Nat.le_of_ble_eq_true rfl) rfl rfl rfl dX9_init_10 ?_
  exact E_vret (pc := 13) h hr hlk rfl rfl dX9_init_13
def k_Reader_3_e1 (n0 : Nat) (ca : Nat → ClassId) (a : Nat → Nat) (E : Nat → va_E) : Nat → va_E := va_up E 3 (.inr (7, [.ref (n0 + 1), .int 0, .null, .null, .null, .int 0, .int 0, .int 0]))
def k_Reader_3_e2 (n0 : Nat) (ca : Nat → ClassId) (a : Nat → Nat) (E : Nat → va_E) : Nat → va_E := va_up (k_Reader_3_e1 n0 ca a E) 3 (.inr (7, [.ref (n0 + 1), .int (0 : Int32), .null, .null, .null, .int 0, .int 0, .int 0]))
set_option maxHeartbeats 4000000 in
set_option maxRecDepth 100000 in
theorem k_Reader_3_ct (g : GG s0 args0 D ca a (AE n0)) (E : Nat → va_E) (hE : E 3 = .inr (7, [.null, .int 0, .null, .null, .null, .int 0, .int 0, .int 0])) : CtE l yX5_init cX5_init 2 1 0 0 s0 D n0 [.ref (n0 + 3), .ref (n0 + 1)] 4 E 4 (k_Reader_3_e2 n0 ca a E) := by
  refine CtE_mk g (by decide +kernel) rfl (Nat.le_of_ble_eq_true rfl) (fun p e s m args below meth c h hr hlk hin => ?_)
  show VE p l e (rmE 1 0 0) s m args below meth c D n0 2 (MQ below (QE D n0 4 (k_Reader_3_e2 n0 ca a E)) args s 0 0 (AE n0)) 0 0 4 E [(0, .ref (n0 + 3)), (1, .ref (n0 + 1))] 0 []
  refine E_aload_n (pc := 0) h 0 dX5_init_0 rfl rfl ?_
  refine E_obj (pc := 1) h tw_1_58 tw_1_31 tw_1_32 dX5_init_1 (Nat.le_of_ble_eq_true rfl) (by decide) (by decide) ?_
  refine E_aload_n (pc := 4) h 0 dX5_init_4 rfl rfl ?_
  refine E_aload_n (pc := 5) h 1 dX5_init_5 rfl rfl ?_
  refine E_putF (pc := 6) h 3 (k_Reader_3_e1 n0 ca a E) hin ff_X5_9_X8 (by decide) hE (Nat.le_of_ble_eq_true rfl) rfl rfl rfl dX5_init_6 ?_
  refine E_aload_n (pc := 9) h 0 dX5_init_9 rfl rfl ?_
  refine E_iconst (pc := 10) (v := 0) h dX5_init_10 (by decide) ?_
  refine E_put (pc := 11) h 3 (k_Reader_3_e2 n0 ca a E) fp_X5_15_X8 (by decide) rfl (Nat.le_of_ble_eq_true rfl) rfl rfl rfl dX5_init_11 ?_
  exact E_vret (pc := 14) h hr hlk rfl rfl dX5_init_14
def k_StreetReader_3_e1 (n0 : Nat) (ca : Nat → ClassId) (a : Nat → Nat) (E : Nat → va_E) : Nat → va_E := k_Reader_3_e2 n0 ca a E
def k_StreetReader_3_e2 (n0 : Nat) (ca : Nat → ClassId) (a : Nat → Nat) (E : Nat → va_E) : Nat → va_E := va_up (k_StreetReader_3_e1 n0 ca a E) 4 (.inl (ca 0, 5, .inl (fun _ => 0)))
def k_StreetReader_3_e3 (n0 : Nat) (ca : Nat → ClassId) (a : Nat → Nat) (E : Nat → va_E) : Nat → va_E := va_up (k_StreetReader_3_e2 n0 ca a E) 3 (.inr (7, [.ref (n0 + 1), .int (0 : Int32), .ref (n0 + 4), .null, .null, .int 0, .int 0, .int 0]))
def k_StreetReader_3_e4 (n0 : Nat) (ca : Nat → ClassId) (a : Nat → Nat) (E : Nat → va_E) : Nat → va_E := mnaE n0 ca 5 6 8 (k_StreetReader_3_e3 n0 ca a E)
def k_StreetReader_3_e5 (n0 : Nat) (ca : Nat → ClassId) (a : Nat → Nat) (E : Nat → va_E) : Nat → va_E := va_up (k_StreetReader_3_e4 n0 ca a E) 3 (.inr (7, [.ref (n0 + 1), .int (0 : Int32), .ref (n0 + 4), .ref (n0 + 5), .null, .int 0, .int 0, .int 0]))
def k_StreetReader_3_e6 (n0 : Nat) (ca : Nat → ClassId) (a : Nat → Nat) (E : Nat → va_E) : Nat → va_E := va_up (k_StreetReader_3_e5 n0 ca a E) 12 (.inl (ca 0, 3, .inl (fun _ => 0)))
def k_StreetReader_3_e7 (n0 : Nat) (ca : Nat → ClassId) (a : Nat → Nat) (E : Nat → va_E) : Nat → va_E := va_up (k_StreetReader_3_e6 n0 ca a E) 3 (.inr (7, [.ref (n0 + 1), .int (0 : Int32), .ref (n0 + 4), .ref (n0 + 5), .ref (n0 + 12), .int 0, .int 0, .int 0]))
set_option maxHeartbeats 4000000 in
set_option maxRecDepth 100000 in
theorem k_StreetReader_3_ct (g : GG s0 args0 D ca a (AE n0)) (E : Nat → va_E) (hE : E 3 = .inr (7, [.null, .int 0, .null, .null, .null, .int 0, .int 0, .int 0])) : CtE l yX8_init cX8_init 2 2 9 62 s0 D n0 [.ref (n0 + 3), .ref (n0 + 1)] 4 E 13 (k_StreetReader_3_e7 n0 ca a E) := by
  refine CtE_mk g (by decide +kernel) rfl (Nat.le_of_ble_eq_true rfl) (fun p e s m args below meth c h hr hlk hin => ?_)
  show VE p l e (rmE 2 9 62) s m args below meth c D n0 2 (MQ below (QE D n0 13 (k_StreetReader_3_e7 n0 ca a E)) args s 9 62 (AE n0)) 0 0 4 E [(0, .ref (n0 + 3)), (1, .ref (n0 + 1))] 0 []
  refine E_aload_n (pc := 0) h 0 dX8_init_0 rfl rfl ?_
  refine E_aload_n (pc := 1) h 1 dX8_init_1 rfl rfl ?_
  refine E_call (pc := 2) (x := 1) h [.ref (n0 + 1)] [] 3 (Or.inl tw_1_55) tw_1_56 tw_1_3 tw_1_57 (by decide +kernel) (by decide) rfl dX8_init_2 rfl rfl (Nat.le_of_ble_eq_true rfl) (by decide) (by decide) (by decide) (by decide) (k_Reader_3_ct h.gg E hE) ?_
  refine VE_as (E2 := (k_StreetReader_3_e1 n0 ca a E)) rfl ?_
  refine E_aload_n (pc := 5) h 0 dX8_init_5 rfl rfl ?_
  refine E_iconst (pc := 6) (v := 5) h dX8_init_6 (by decide) ?_
  refine E_newa (pc := 7) (atype := .int) h 0 5 (k_StreetReader_3_e2 n0 ca a E) rfl (by decide) tw_1_49 (by decide) (by decide) (by decide) rfl (by decide) (by decide) dX8_init_7 ?_
  refine E_putF (pc := 9) h 3 (k_StreetReader_3_e3 n0 ca a E) hin ff_X8_9_X8 (by decide) rfl (Nat.le_of_ble_eq_true rfl) rfl rfl rfl dX8_init_9 ?_
  refine E_aload_n (pc := 12) h 0 dX8_init_12 rfl rfl ?_
  refine E_bipush (pc := 13) (v := 6) h dX8_init_13 (by decide) ?_
  refine E_bipush (pc := 15) (v := 8) h dX8_init_15 (by decide) ?_
  refine E_mna (pc := 17) h 6 8 (k_StreetReader_3_e4 n0 ca a E) tw_1_59 tw_1_60 tw_1_49 (by decide) (by decide) (by decide) (by decide) (by decide) (by decide) rfl (by decide) (by decide) dX8_init_17 ?_
  refine E_putF (pc := 21) h 3 (k_StreetReader_3_e5 n0 ca a E) hin ff_X8_17_X8 (by decide) rfl (Nat.le_of_ble_eq_true rfl) rfl rfl rfl dX8_init_21 ?_
  refine E_aload_n (pc := 24) h 0 dX8_init_24 rfl rfl ?_
  refine E_iconst (pc := 25) (v := 3) h dX8_init_25 (by decide) ?_
  refine E_newa (pc := 26) (atype := .int) h 0 3 (k_StreetReader_3_e6 n0 ca a E) rfl (by decide) tw_1_49 (by decide) (by decide) (by decide) rfl (by decide) (by decide) dX8_init_26 ?_
  refine E_putF (pc := 28) h 3 (k_StreetReader_3_e7 n0 ca a E) hin ff_X8_20_X8 (by decide) rfl (Nat.le_of_ble_eq_true rfl) rfl rfl rfl dX8_init_28 ?_
  exact E_vret (pc := 31) h hr hlk rfl rfl dX8_init_31
def k_Reader_13_e1 (n0 : Nat) (ca : Nat → ClassId) (a : Nat → Nat) (E : Nat → va_E) : Nat → va_E := va_up E 13 (.inr (2, [.ref (n0 + 1), .int 0, .null, .int 0]))
def k_Reader_13_e2 (n0 : Nat) (ca : Nat → ClassId) (a : Nat → Nat) (E : Nat → va_E) : Nat → va_E := va_up (k_Reader_13_e1 n0 ca a E) 13 (.inr (2, [.ref (n0 + 1), .int (0 : Int32), .null, .int 0]))
set_option maxHeartbeats 4000000 in
set_option maxRecDepth 100000 in
theorem k_Reader_13_ct (g : GG s0 args0 D ca a (AE n0)) (E : Nat → va_E) (hE : E 13 = .inr (2, [.null, .int 0, .null, .int 0])) : CtE l yX5_init cX5_init 2 1 0 0 s0 D n0 [.ref (n0 + 13), .ref (n0 + 1)] 14 E 14 (k_Reader_13_e2 n0 ca a E) := by
  refine CtE_mk g (by decide +kernel) rfl (Nat.le_of_ble_eq_true rfl) (fun p e s m args below meth c h hr hlk hin => ?_)
  show VE p l e (rmE 1 0 0) s m args below meth c D n0 2 (MQ below (QE D n0 14 (k_Reader_13_e2 n0 ca a E)) args s 0 0 (AE n0)) 0 0 14 E [(0, .ref (n0 + 13)), (1, .ref (n0 + 1))] 0 []
  refine E_aload_n (pc := 0) h 0 dX5_init_0 rfl rfl ?_
  refine E_obj (pc := 1) h tw_1_58 tw_1_31 tw_1_32 dX5_init_1 (Nat.le_of_ble_eq_true rfl) (by decide) (by decide) ?_
  refine E_aload_n (pc := 4) h 0 dX5_init_4 rfl rfl ?_
  refine E_aload_n (pc := 5) h 1 dX5_init_5 rfl rfl ?_
  refine E_putF (pc := 6) h 13 (k_Reader_13_e1 n0 ca a E) hin ff_X5_9_X2 (by decide) hE (Nat.le_of_ble_eq_true rfl) rfl rfl rfl dX5_init_6 ?_
  refine E_aload_n (pc := 9) h 0 dX5_init_9 rfl rfl ?_
  refine E_iconst (pc := 10) (v := 0) h dX5_init_10 (by decide) ?_
  refine E_put (pc := 11) h 13 (k_Reader_13_e2 n0 ca a E) fp_X5_15_X2 (by decide) rfl (Nat.le_of_ble_eq_true rfl) rfl rfl rfl dX5_init_11 ?_
  exact E_vret (pc := 14) h hr hlk rfl rfl dX5_init_14
def k_LikingReader_13_e1 (n0 : Nat) (ca : Nat → ClassId) (a : Nat → Nat) (E : Nat → va_E) : Nat → va_E := k_Reader_13_e2 n0 ca a E
def k_LikingReader_13_e2 (n0 : Nat) (ca : Nat → ClassId) (a : Nat → Nat) (E : Nat → va_E) : Nat → va_E := va_up (k_LikingReader_13_e1 n0 ca a E) 14 (.inl (ca 0, 160, .inl (fun _ => 0)))
def k_LikingReader_13_e3 (n0 : Nat) (ca : Nat → ClassId) (a : Nat → Nat) (E : Nat → va_E) : Nat → va_E := va_up (k_LikingReader_13_e2 n0 ca a E) 13 (.inr (2, [.ref (n0 + 1), .int (0 : Int32), .ref (n0 + 14), .int 0]))
set_option maxHeartbeats 4000000 in
set_option maxRecDepth 100000 in
theorem k_LikingReader_13_ct (g : GG s0 args0 D ca a (AE n0)) (E : Nat → va_E) (hE : E 13 = .inr (2, [.null, .int 0, .null, .int 0])) : CtE l yX2_init cX2_init 2 2 1 160 s0 D n0 [.ref (n0 + 13), .ref (n0 + 1)] 14 E 15 (k_LikingReader_13_e3 n0 ca a E) := by
  refine CtE_mk g (by decide +kernel) rfl (Nat.le_of_ble_eq_true rfl) (fun p e s m args below meth c h hr hlk hin => ?_)
  show VE p l e (rmE 2 1 160) s m args below meth c D n0 2 (MQ below (QE D n0 15 (k_LikingReader_13_e3 n0 ca a E)) args s 1 160 (AE n0)) 0 0 14 E [(0, .ref (n0 + 13)), (1, .ref (n0 + 1))] 0 []
  refine E_aload_n (pc := 0) h 0 dX2_init_0 rfl rfl ?_
  refine E_aload_n (pc := 1) h 1 dX2_init_1 rfl rfl ?_
  refine E_call (pc := 2) (x := 1) h [.ref (n0 + 1)] [] 13 (Or.inl tw_1_100) tw_1_56 tw_1_3 tw_1_57 (by decide +kernel) (by decide) rfl dX2_init_2 rfl rfl (Nat.le_of_ble_eq_true rfl) (by decide) (by decide) (by decide) (by decide) (k_Reader_13_ct h.gg E hE) ?_
  refine VE_as (E2 := (k_LikingReader_13_e1 n0 ca a E)) rfl ?_
  refine E_aload_n (pc := 5) h 0 dX2_init_5 rfl rfl ?_
  refine E_sipush (pc := 6) (v := 160) h dX2_init_6 (by decide) ?_
  refine E_newa (pc := 9) (atype := .int) h 0 160 (k_LikingReader_13_e2 n0 ca a E) rfl (by decide) tw_1_49 (by decide) (by decide) (by decide) rfl (by decide) (by decide) dX2_init_9 ?_
  refine E_putF (pc := 11) h 13 (k_LikingReader_13_e3 n0 ca a E) hin ff_X2_9_X2 (by decide) rfl (Nat.le_of_ble_eq_true rfl) rfl rfl rfl dX2_init_11 ?_
  exact E_vret (pc := 14) h hr hlk rfl rfl dX2_init_14
def k_Liking_16_e1 (n0 : Nat) (ca : Nat → ClassId) (a : Nat → Nat) (E : Nat → va_E) : Nat → va_E := va_up E 17 (.inl (ca 0, 160, .inl (fun _ => 0)))
def k_Liking_16_e2 (n0 : Nat) (ca : Nat → ClassId) (a : Nat → Nat) (E : Nat → va_E) : Nat → va_E := va_up (k_Liking_16_e1 n0 ca a E) 16 (.inr (1, [.ref (n0 + 17), .null, .int 0]))
def k_Liking_16_e3 (n0 : Nat) (ca : Nat → ClassId) (a : Nat → Nat) (E : Nat → va_E) : Nat → va_E := va_up (k_Liking_16_e2 n0 ca a E) 18 (.inl (ca 0, 160, .inl (fun _ => 0)))
def k_Liking_16_e4 (n0 : Nat) (ca : Nat → ClassId) (a : Nat → Nat) (E : Nat → va_E) : Nat → va_E := va_up (k_Liking_16_e3 n0 ca a E) 16 (.inr (1, [.ref (n0 + 17), .ref (n0 + 18), .int 0]))
set_option maxHeartbeats 4000000 in
set_option maxRecDepth 100000 in
theorem k_Liking_16_ct (g : GG s0 args0 D ca a (AE n0)) (E : Nat → va_E) (hE : E 16 = .inr (1, [.null, .null, .int 0])) : CtE l yX1_init cX1_init 1 1 2 320 s0 D n0 [.ref (n0 + 16)] 17 E 19 (k_Liking_16_e4 n0 ca a E) := by
  refine CtE_mk g (by decide +kernel) rfl (Nat.le_of_ble_eq_true rfl) (fun p e s m args below meth c h hr hlk hin => ?_)
  show VE p l e (rmE 1 2 320) s m args below meth c D n0 1 (MQ below (QE D n0 19 (k_Liking_16_e4 n0 ca a E)) args s 2 320 (AE n0)) 0 0 17 E [(0, .ref (n0 + 16))] 0 []
  refine E_aload_n (pc := 0) h 0 dX1_init_0 rfl rfl ?_
  refine E_obj (pc := 1) h tw_1_118 tw_1_31 tw_1_32 dX1_init_1 (Nat.le_of_ble_eq_true rfl) (by decide) (by decide) ?_
  refine E_aload_n (pc := 4) h 0 dX1_init_4 rfl rfl ?_
  refine E_sipush (pc := 5) (v := 160) h dX1_init_5 (by decide) ?_
  refine E_newa (pc := 8) (atype := .int) h 0 160 (k_Liking_16_e1 n0 ca a E) rfl (by decide) tw_1_49 (by decide) (by decide) (by decide) rfl (by decide) (by decide) dX1_init_8 ?_
  refine E_putF (pc := 10) h 16 (k_Liking_16_e2 n0 ca a E) hin ff_X1_9_X1 (by decide) hE (Nat.le_of_ble_eq_true rfl) rfl rfl rfl dX1_init_10 ?_
  refine E_aload_n (pc := 13) h 0 dX1_init_13 rfl rfl ?_
  refine E_sipush (pc := 14) (v := 160) h dX1_init_14 (by decide) ?_
  refine E_newa (pc := 17) (atype := .int) h 0 160 (k_Liking_16_e3 n0 ca a E) rfl (by decide) tw_1_49 (by decide) (by decide) (by decide) rfl (by decide) (by decide) dX1_init_17 ?_
  refine E_putF (pc := 19) h 16 (k_Liking_16_e4 n0 ca a E) hin ff_X1_15_X1 (by decide) rfl (Nat.le_of_ble_eq_true rfl) rfl rfl rfl dX1_init_19 ?_
  exact E_vret (pc := 22) h hr hlk rfl rfl dX1_init_22
def k_Liking_19_e1 (n0 : Nat) (ca : Nat → ClassId) (a : Nat → Nat) (E : Nat → va_E) : Nat → va_E := va_up E 20 (.inl (ca 0, 160, .inl (fun _ => 0)))
def k_Liking_19_e2 (n0 : Nat) (ca : Nat → ClassId) (a : Nat → Nat) (E : Nat → va_E) : Nat → va_E := va_up (k_Liking_19_e1 n0 ca a E) 19 (.inr (1, [.ref (n0 + 20), .null, .int 0]))
def k_Liking_19_e3 (n0 : Nat) (ca : Nat → ClassId) (a : Nat → Nat) (E : Nat → va_E) : Nat → va_E := va_up (k_Liking_19_e2 n0 ca a E) 21 (.inl (ca 0, 160, .inl (fun _ => 0)))
def k_Liking_19_e4 (n0 : Nat) (ca : Nat → ClassId) (a : Nat → Nat) (E : Nat → va_E) : Nat → va_E := va_up (k_Liking_19_e3 n0 ca a E) 19 (.inr (1, [.ref (n0 + 20), .ref (n0 + 21), .int 0]))
set_option maxHeartbeats 4000000 in
set_option maxRecDepth 100000 in
theorem k_Liking_19_ct (g : GG s0 args0 D ca a (AE n0)) (E : Nat → va_E) (hE : E 19 = .inr (1, [.null, .null, .int 0])) : CtE l yX1_init cX1_init 1 1 2 320 s0 D n0 [.ref (n0 + 19)] 20 E 22 (k_Liking_19_e4 n0 ca a E) := by
  refine CtE_mk g (by decide +kernel) rfl (Nat.le_of_ble_eq_true rfl) (fun p e s m args below meth c h hr hlk hin => ?_)
  show VE p l e (rmE 1 2 320) s m args below meth c D n0 1 (MQ below (QE D n0 22 (k_Liking_19_e4 n0 ca a E)) args s 2 320 (AE n0)) 0 0 20 E [(0, .ref (n0 + 19))] 0 []
  refine E_aload_n (pc := 0) h 0 dX1_init_0 rfl rfl ?_
  refine E_obj (pc := 1) h tw_1_118 tw_1_31 tw_1_32 dX1_init_1 (Nat.le_of_ble_eq_true rfl) (by decide) (by decide) ?_
  refine E_aload_n (pc := 4) h 0 dX1_init_4 rfl rfl ?_
  refine E_sipush (pc := 5) (v := 160) h dX1_init_5 (by decide) ?_
  refine E_newa (pc := 8) (atype := .int) h 0 160 (k_Liking_19_e1 n0 ca a E) rfl (by decide) tw_1_49 (by decide) (by decide) (by decide) rfl (by decide) (by decide) dX1_init_8 ?_
  refine E_putF (pc := 10) h 19 (k_Liking_19_e2 n0 ca a E) hin ff_X1_9_X1 (by decide) hE (Nat.le_of_ble_eq_true rfl) rfl rfl rfl dX1_init_10 ?_
  refine E_aload_n (pc := 13) h 0 dX1_init_13 rfl rfl ?_
  refine E_sipush (pc := 14) (v := 160) h dX1_init_14 (by decide) ?_
  refine E_newa (pc := 17) (atype := .int) h 0 160 (k_Liking_19_e3 n0 ca a E) rfl (by decide) tw_1_49 (by decide) (by decide) (by decide) rfl (by decide) (by decide) dX1_init_17 ?_
  refine E_putF (pc := 19) h 19 (k_Liking_19_e4 n0 ca a E) hin ff_X1_15_X1 (by decide) rfl (Nat.le_of_ble_eq_true rfl) rfl rfl rfl dX1_init_19 ?_
  exact E_vret (pc := 22) h hr hlk rfl rfl dX1_init_22
def k_Liking_22_e1 (n0 : Nat) (ca : Nat → ClassId) (a : Nat → Nat) (E : Nat → va_E) : Nat → va_E := va_up E 23 (.inl (ca 0, 160, .inl (fun _ => 0)))
def k_Liking_22_e2 (n0 : Nat) (ca : Nat → ClassId) (a : Nat → Nat) (E : Nat → va_E) : Nat → va_E := va_up (k_Liking_22_e1 n0 ca a E) 22 (.inr (1, [.ref (n0 + 23), .null, .int 0]))
def k_Liking_22_e3 (n0 : Nat) (ca : Nat → ClassId) (a : Nat → Nat) (E : Nat → va_E) : Nat → va_E := va_up (k_Liking_22_e2 n0 ca a E) 24 (.inl (ca 0, 160, .inl (fun _ => 0)))
def k_Liking_22_e4 (n0 : Nat) (ca : Nat → ClassId) (a : Nat → Nat) (E : Nat → va_E) : Nat → va_E := va_up (k_Liking_22_e3 n0 ca a E) 22 (.inr (1, [.ref (n0 + 23), .ref (n0 + 24), .int 0]))
set_option maxHeartbeats 4000000 in
set_option maxRecDepth 100000 in
theorem k_Liking_22_ct (g : GG s0 args0 D ca a (AE n0)) (E : Nat → va_E) (hE : E 22 = .inr (1, [.null, .null, .int 0])) : CtE l yX1_init cX1_init 1 1 2 320 s0 D n0 [.ref (n0 + 22)] 23 E 25 (k_Liking_22_e4 n0 ca a E) := by
  refine CtE_mk g (by decide +kernel) rfl (Nat.le_of_ble_eq_true rfl) (fun p e s m args below meth c h hr hlk hin => ?_)
  show VE p l e (rmE 1 2 320) s m args below meth c D n0 1 (MQ below (QE D n0 25 (k_Liking_22_e4 n0 ca a E)) args s 2 320 (AE n0)) 0 0 23 E [(0, .ref (n0 + 22))] 0 []
  refine E_aload_n (pc := 0) h 0 dX1_init_0 rfl rfl ?_
  refine E_obj (pc := 1) h tw_1_118 tw_1_31 tw_1_32 dX1_init_1 (Nat.le_of_ble_eq_true rfl) (by decide) (by decide) ?_
  refine E_aload_n (pc := 4) h 0 dX1_init_4 rfl rfl ?_
  refine E_sipush (pc := 5) (v := 160) h dX1_init_5 (by decide) ?_
  refine E_newa (pc := 8) (atype := .int) h 0 160 (k_Liking_22_e1 n0 ca a E) rfl (by decide) tw_1_49 (by decide) (by decide) (by decide) rfl (by decide) (by decide) dX1_init_8 ?_
  refine E_putF (pc := 10) h 22 (k_Liking_22_e2 n0 ca a E) hin ff_X1_9_X1 (by decide) hE (Nat.le_of_ble_eq_true rfl) rfl rfl rfl dX1_init_10 ?_
  refine E_aload_n (pc := 13) h 0 dX1_init_13 rfl rfl ?_
  refine E_sipush (pc := 14) (v := 160) h dX1_init_14 (by decide) ?_
  refine E_newa (pc := 17) (atype := .int) h 0 160 (k_Liking_22_e3 n0 ca a E) rfl (by decide) tw_1_49 (by decide) (by decide) (by decide) rfl (by decide) (by decide) dX1_init_17 ?_
  refine E_putF (pc := 19) h 22 (k_Liking_22_e4 n0 ca a E) hin ff_X1_15_X1 (by decide) rfl (Nat.le_of_ble_eq_true rfl) rfl rfl rfl dX1_init_19 ?_
  exact E_vret (pc := 22) h hr hlk rfl rfl dX1_init_22
def k_Liking_25_e1 (n0 : Nat) (ca : Nat → ClassId) (a : Nat → Nat) (E : Nat → va_E) : Nat → va_E := va_up E 26 (.inl (ca 0, 160, .inl (fun _ => 0)))
def k_Liking_25_e2 (n0 : Nat) (ca : Nat → ClassId) (a : Nat → Nat) (E : Nat → va_E) : Nat → va_E := va_up (k_Liking_25_e1 n0 ca a E) 25 (.inr (1, [.ref (n0 + 26), .null, .int 0]))
def k_Liking_25_e3 (n0 : Nat) (ca : Nat → ClassId) (a : Nat → Nat) (E : Nat → va_E) : Nat → va_E := va_up (k_Liking_25_e2 n0 ca a E) 27 (.inl (ca 0, 160, .inl (fun _ => 0)))
def k_Liking_25_e4 (n0 : Nat) (ca : Nat → ClassId) (a : Nat → Nat) (E : Nat → va_E) : Nat → va_E := va_up (k_Liking_25_e3 n0 ca a E) 25 (.inr (1, [.ref (n0 + 26), .ref (n0 + 27), .int 0]))
set_option maxHeartbeats 4000000 in
set_option maxRecDepth 100000 in
theorem k_Liking_25_ct (g : GG s0 args0 D ca a (AE n0)) (E : Nat → va_E) (hE : E 25 = .inr (1, [.null, .null, .int 0])) : CtE l yX1_init cX1_init 1 1 2 320 s0 D n0 [.ref (n0 + 25)] 26 E 28 (k_Liking_25_e4 n0 ca a E) := by
  refine CtE_mk g (by decide +kernel) rfl (Nat.le_of_ble_eq_true rfl) (fun p e s m args below meth c h hr hlk hin => ?_)
  show VE p l e (rmE 1 2 320) s m args below meth c D n0 1 (MQ below (QE D n0 28 (k_Liking_25_e4 n0 ca a E)) args s 2 320 (AE n0)) 0 0 26 E [(0, .ref (n0 + 25))] 0 []
  refine E_aload_n (pc := 0) h 0 dX1_init_0 rfl rfl ?_
  refine E_obj (pc := 1) h tw_1_118 tw_1_31 tw_1_32 dX1_init_1 (Nat.le_of_ble_eq_true rfl) (by decide) (by decide) ?_
  refine E_aload_n (pc := 4) h 0 dX1_init_4 rfl rfl ?_
  refine E_sipush (pc := 5) (v := 160) h dX1_init_5 (by decide) ?_
  refine E_newa (pc := 8) (atype := .int) h 0 160 (k_Liking_25_e1 n0 ca a E) rfl (by decide) tw_1_49 (by decide) (by decide) (by decide) rfl (by decide) (by decide) dX1_init_8 ?_
  refine E_putF (pc := 10) h 25 (k_Liking_25_e2 n0 ca a E) hin ff_X1_9_X1 (by decide) hE (Nat.le_of_ble_eq_true rfl) rfl rfl rfl dX1_init_10 ?_
  refine E_aload_n (pc := 13) h 0 dX1_init_13 rfl rfl ?_
  refine E_sipush (pc := 14) (v := 160) h dX1_init_14 (by decide) ?_
  refine E_newa (pc := 17) (atype := .int) h 0 160 (k_Liking_25_e3 n0 ca a E) rfl (by decide) tw_1_49 (by decide) (by decide) (by decide) rfl (by decide) (by decide) dX1_init_17 ?_
  refine E_putF (pc := 19) h 25 (k_Liking_25_e4 n0 ca a E) hin ff_X1_15_X1 (by decide) rfl (Nat.le_of_ble_eq_true rfl) rfl rfl rfl dX1_init_19 ?_
  exact E_vret (pc := 22) h hr hlk rfl rfl dX1_init_22
def k_Street_28_e1 (n0 : Nat) (ca : Nat → ClassId) (a : Nat → Nat) (E : Nat → va_E) : Nat → va_E := va_up E 29 (.inl (ca 0, 5, .inl (fun _ => 0)))
def k_Street_28_e2 (n0 : Nat) (ca : Nat → ClassId) (a : Nat → Nat) (E : Nat → va_E) : Nat → va_E := va_up (k_Street_28_e1 n0 ca a E) 28 (.inr (6, [.int 0, .int 0, .int 0, .int 0, .ref (n0 + 29), .null, .null, .null]))
def k_Street_28_e3 (n0 : Nat) (ca : Nat → ClassId) (a : Nat → Nat) (E : Nat → va_E) : Nat → va_E := va_up (k_Street_28_e2 n0 ca a E) 30 (.inl (ca 0, 6, .inl (fun _ => 0)))
def k_Street_28_e4 (n0 : Nat) (ca : Nat → ClassId) (a : Nat → Nat) (E : Nat → va_E) : Nat → va_E := va_up (k_Street_28_e3 n0 ca a E) 28 (.inr (6, [.int 0, .int 0, .int 0, .int 0, .ref (n0 + 29), .ref (n0 + 30), .null, .null]))
def k_Street_28_e5 (n0 : Nat) (ca : Nat → ClassId) (a : Nat → Nat) (E : Nat → va_E) : Nat → va_E := va_up (k_Street_28_e4 n0 ca a E) 31 (.inl (ca 0, 6, .inl (fun _ => 0)))
def k_Street_28_e6 (n0 : Nat) (ca : Nat → ClassId) (a : Nat → Nat) (E : Nat → va_E) : Nat → va_E := va_up (k_Street_28_e5 n0 ca a E) 28 (.inr (6, [.int 0, .int 0, .int 0, .int 0, .ref (n0 + 29), .ref (n0 + 30), .ref (n0 + 31), .null]))
def k_Street_28_e7 (n0 : Nat) (ca : Nat → ClassId) (a : Nat → Nat) (E : Nat → va_E) : Nat → va_E := va_up (k_Street_28_e6 n0 ca a E) 32 (.inl (ca 0, 6, .inl (fun _ => 0)))
def k_Street_28_e8 (n0 : Nat) (ca : Nat → ClassId) (a : Nat → Nat) (E : Nat → va_E) : Nat → va_E := va_up (k_Street_28_e7 n0 ca a E) 28 (.inr (6, [.int 0, .int 0, .int 0, .int 0, .ref (n0 + 29), .ref (n0 + 30), .ref (n0 + 31), .ref (n0 + 32)]))
set_option maxHeartbeats 4000000 in
set_option maxRecDepth 100000 in
theorem k_Street_28_ct (g : GG s0 args0 D ca a (AE n0)) (E : Nat → va_E) (hE : E 28 = .inr (6, [.int 0, .int 0, .int 0, .int 0, .null, .null, .null, .null])) : CtE l yX7_init cX7_init 1 1 4 23 s0 D n0 [.ref (n0 + 28)] 29 E 33 (k_Street_28_e8 n0 ca a E) := by
  refine CtE_mk g (by decide +kernel) rfl (Nat.le_of_ble_eq_true rfl) (fun p e s m args below meth c h hr hlk hin => ?_)
  show VE p l e (rmE 1 4 23) s m args below meth c D n0 1 (MQ below (QE D n0 33 (k_Street_28_e8 n0 ca a E)) args s 4 23 (AE n0)) 0 0 29 E [(0, .ref (n0 + 28))] 0 []
  refine E_aload_n (pc := 0) h 0 dX7_init_0 rfl rfl ?_
  refine E_obj (pc := 1) h tw_1_134 tw_1_31 tw_1_32 dX7_init_1 (Nat.le_of_ble_eq_true rfl) (by decide) (by decide) ?_
  refine E_aload_n (pc := 4) h 0 dX7_init_4 rfl rfl ?_
  refine E_iconst (pc := 5) (v := 5) h dX7_init_5 (by decide) ?_
  refine E_newa (pc := 6) (atype := .int) h 0 5 (k_Street_28_e1 n0 ca a E) rfl (by decide) tw_1_49 (by decide) (by decide) (by decide) rfl (by decide) (by decide) dX7_init_6 ?_
  refine E_putF (pc := 8) h 28 (k_Street_28_e2 n0 ca a E) hin ff_X7_9_X7 (by decide) hE (Nat.le_of_ble_eq_true rfl) rfl rfl rfl dX7_init_8 ?_
  refine E_aload_n (pc := 11) h 0 dX7_init_11 rfl rfl ?_
  refine E_bipush (pc := 12) (v := 6) h dX7_init_12 (by decide) ?_
  refine E_newa (pc := 14) (atype := .int) h 0 6 (k_Street_28_e3 n0 ca a E) rfl (by decide) tw_1_49 (by decide) (by decide) (by decide) rfl (by decide) (by decide) dX7_init_14 ?_
  refine E_putF (pc := 16) h 28 (k_Street_28_e4 n0 ca a E) hin ff_X7_15_X7 (by decide) rfl (Nat.le_of_ble_eq_true rfl) rfl rfl rfl dX7_init_16 ?_
  refine E_aload_n (pc := 19) h 0 dX7_init_19 rfl rfl ?_
  refine E_bipush (pc := 20) (v := 6) h dX7_init_20 (by decide) ?_
  refine E_newa (pc := 22) (atype := .int) h 0 6 (k_Street_28_e5 n0 ca a E) rfl (by decide) tw_1_49 (by decide) (by decide) (by decide) rfl (by decide) (by decide) dX7_init_22 ?_
  refine E_putF (pc := 24) h 28 (k_Street_28_e6 n0 ca a E) hin ff_X7_18_X7 (by decide) rfl (Nat.le_of_ble_eq_true rfl) rfl rfl rfl dX7_init_24 ?_
  refine E_aload_n (pc := 27) h 0 dX7_init_27 rfl rfl ?_
  refine E_bipush (pc := 28) (v := 6) h dX7_init_28 (by decide) ?_
  refine E_newa (pc := 30) (atype := .int) h 0 6 (k_Street_28_e7 n0 ca a E) rfl (by decide) tw_1_49 (by decide) (by decide) (by decide) rfl (by decide) (by decide) dX7_init_30 ?_
  refine E_putF (pc := 32) h 28 (k_Street_28_e8 n0 ca a E) hin ff_X7_21_X7 (by decide) rfl (Nat.le_of_ble_eq_true rfl) rfl rfl rfl dX7_init_32 ?_
  exact E_vret (pc := 35) h hr hlk rfl rfl dX7_init_35
def k_State_33_e1 (n0 : Nat) (ca : Nat → ClassId) (a : Nat → Nat) (E : Nat → va_E) : Nat → va_E := va_up E 34 (.inl (ca 0, 30, .inl (fun _ => 0)))
def k_State_33_e2 (n0 : Nat) (ca : Nat → ClassId) (a : Nat → Nat) (E : Nat → va_E) : Nat → va_E := va_up (k_State_33_e1 n0 ca a E) 33 (.inr (5, [.int 0, .ref (n0 + 34), .null, .null, .null]))
def k_State_33_e3 (n0 : Nat) (ca : Nat → ClassId) (a : Nat → Nat) (E : Nat → va_E) : Nat → va_E := va_up (k_State_33_e2 n0 ca a E) 35 (.inl (ca 0, 6, .inl (fun _ => 0)))
def k_State_33_e4 (n0 : Nat) (ca : Nat → ClassId) (a : Nat → Nat) (E : Nat → va_E) : Nat → va_E := va_up (k_State_33_e3 n0 ca a E) 33 (.inr (5, [.int 0, .ref (n0 + 34), .ref (n0 + 35), .null, .null]))
def k_State_33_e5 (n0 : Nat) (ca : Nat → ClassId) (a : Nat → Nat) (E : Nat → va_E) : Nat → va_E := va_up (k_State_33_e4 n0 ca a E) 36 (.inl (ca 0, 6, .inl (fun _ => 0)))
def k_State_33_e6 (n0 : Nat) (ca : Nat → ClassId) (a : Nat → Nat) (E : Nat → va_E) : Nat → va_E := va_up (k_State_33_e5 n0 ca a E) 33 (.inr (5, [.int 0, .ref (n0 + 34), .ref (n0 + 35), .ref (n0 + 36), .null]))
def k_State_33_e7 (n0 : Nat) (ca : Nat → ClassId) (a : Nat → Nat) (E : Nat → va_E) : Nat → va_E := va_up (k_State_33_e6 n0 ca a E) 37 (.inl (ca 0, 6, .inl (fun _ => 0)))
def k_State_33_e8 (n0 : Nat) (ca : Nat → ClassId) (a : Nat → Nat) (E : Nat → va_E) : Nat → va_E := va_up (k_State_33_e7 n0 ca a E) 33 (.inr (5, [.int 0, .ref (n0 + 34), .ref (n0 + 35), .ref (n0 + 36), .ref (n0 + 37)]))
set_option maxHeartbeats 4000000 in
set_option maxRecDepth 100000 in
theorem k_State_33_ct (g : GG s0 args0 D ca a (AE n0)) (E : Nat → va_E) (hE : E 33 = .inr (5, [.int 0, .null, .null, .null, .null])) : CtE l yX6_init cX6_init 1 1 4 48 s0 D n0 [.ref (n0 + 33)] 34 E 38 (k_State_33_e8 n0 ca a E) := by
  refine CtE_mk g (by decide +kernel) rfl (Nat.le_of_ble_eq_true rfl) (fun p e s m args below meth c h hr hlk hin => ?_)
  show VE p l e (rmE 1 4 48) s m args below meth c D n0 1 (MQ below (QE D n0 38 (k_State_33_e8 n0 ca a E)) args s 4 48 (AE n0)) 0 0 34 E [(0, .ref (n0 + 33))] 0 []
  refine E_aload_n (pc := 0) h 0 dX6_init_0 rfl rfl ?_
  refine E_obj (pc := 1) h tw_1_182 tw_1_31 tw_1_32 dX6_init_1 (Nat.le_of_ble_eq_true rfl) (by decide) (by decide) ?_
  refine E_aload_n (pc := 4) h 0 dX6_init_4 rfl rfl ?_
  refine E_bipush (pc := 5) (v := 30) h dX6_init_5 (by decide) ?_
  refine E_newa (pc := 7) (atype := .int) h 0 30 (k_State_33_e1 n0 ca a E) rfl (by decide) tw_1_49 (by decide) (by decide) (by decide) rfl (by decide) (by decide) dX6_init_7 ?_
  refine E_putF (pc := 9) h 33 (k_State_33_e2 n0 ca a E) hin ff_X6_9_X6 (by decide) hE (Nat.le_of_ble_eq_true rfl) rfl rfl rfl dX6_init_9 ?_
  refine E_aload_n (pc := 12) h 0 dX6_init_12 rfl rfl ?_
  refine E_bipush (pc := 13) (v := 6) h dX6_init_13 (by decide) ?_
  refine E_newa (pc := 15) (atype := .int) h 0 6 (k_State_33_e3 n0 ca a E) rfl (by decide) tw_1_49 (by decide) (by decide) (by decide) rfl (by decide) (by decide) dX6_init_15 ?_
  refine E_putF (pc := 17) h 33 (k_State_33_e4 n0 ca a E) hin ff_X6_15_X6 (by decide) rfl (Nat.le_of_ble_eq_true rfl) rfl rfl rfl dX6_init_17 ?_
  refine E_aload_n (pc := 20) h 0 dX6_init_20 rfl rfl ?_
  refine E_bipush (pc := 21) (v := 6) h dX6_init_21 (by decide) ?_
  refine E_newa (pc := 23) (atype := .int) h 0 6 (k_State_33_e5 n0 ca a E) rfl (by decide) tw_1_49 (by decide) (by decide) (by decide) rfl (by decide) (by decide) dX6_init_23 ?_
  refine E_putF (pc := 25) h 33 (k_State_33_e6 n0 ca a E) hin ff_X6_18_X6 (by decide) rfl (Nat.le_of_ble_eq_true rfl) rfl rfl rfl dX6_init_25 ?_
  refine E_aload_n (pc := 28) h 0 dX6_init_28 rfl rfl ?_
  refine E_bipush (pc := 29) (v := 6) h dX6_init_29 (by decide) ?_
  refine E_newa (pc := 31) (atype := .int) h 0 6 (k_State_33_e7 n0 ca a E) rfl (by decide) tw_1_49 (by decide) (by decide) (by decide) rfl (by decide) (by decide) dX6_init_31 ?_
  refine E_putF (pc := 33) h 33 (k_State_33_e8 n0 ca a E) hin ff_X6_21_X6 (by decide) rfl (Nat.le_of_ble_eq_true rfl) rfl rfl rfl dX6_init_33 ?_
  exact E_vret (pc := 36) h hr hlk rfl rfl dX6_init_36
def k_State_38_e1 (n0 : Nat) (ca : Nat → ClassId) (a : Nat → Nat) (E : Nat → va_E) : Nat → va_E := va_up E 39 (.inl (ca 0, 30, .inl (fun _ => 0)))
def k_State_38_e2 (n0 : Nat) (ca : Nat → ClassId) (a : Nat → Nat) (E : Nat → va_E) : Nat → va_E := va_up (k_State_38_e1 n0 ca a E) 38 (.inr (5, [.int 0, .ref (n0 + 39), .null, .null, .null]))
def k_State_38_e3 (n0 : Nat) (ca : Nat → ClassId) (a : Nat → Nat) (E : Nat → va_E) : Nat → va_E := va_up (k_State_38_e2 n0 ca a E) 40 (.inl (ca 0, 6, .inl (fun _ => 0)))
def k_State_38_e4 (n0 : Nat) (ca : Nat → ClassId) (a : Nat → Nat) (E : Nat → va_E) : Nat → va_E := va_up (k_State_38_e3 n0 ca a E) 38 (.inr (5, [.int 0, .ref (n0 + 39), .ref (n0 + 40), .null, .null]))
def k_State_38_e5 (n0 : Nat) (ca : Nat → ClassId) (a : Nat → Nat) (E : Nat → va_E) : Nat → va_E := va_up (k_State_38_e4 n0 ca a E) 41 (.inl (ca 0, 6, .inl (fun _ => 0)))
def k_State_38_e6 (n0 : Nat) (ca : Nat → ClassId) (a : Nat → Nat) (E : Nat → va_E) : Nat → va_E := va_up (k_State_38_e5 n0 ca a E) 38 (.inr (5, [.int 0, .ref (n0 + 39), .ref (n0 + 40), .ref (n0 + 41), .null]))
def k_State_38_e7 (n0 : Nat) (ca : Nat → ClassId) (a : Nat → Nat) (E : Nat → va_E) : Nat → va_E := va_up (k_State_38_e6 n0 ca a E) 42 (.inl (ca 0, 6, .inl (fun _ => 0)))
def k_State_38_e8 (n0 : Nat) (ca : Nat → ClassId) (a : Nat → Nat) (E : Nat → va_E) : Nat → va_E := va_up (k_State_38_e7 n0 ca a E) 38 (.inr (5, [.int 0, .ref (n0 + 39), .ref (n0 + 40), .ref (n0 + 41), .ref (n0 + 42)]))
set_option maxHeartbeats 4000000 in
set_option maxRecDepth 100000 in
theorem k_State_38_ct (g : GG s0 args0 D ca a (AE n0)) (E : Nat → va_E) (hE : E 38 = .inr (5, [.int 0, .null, .null, .null, .null])) : CtE l yX6_init cX6_init 1 1 4 48 s0 D n0 [.ref (n0 + 38)] 39 E 43 (k_State_38_e8 n0 ca a E) := by
  refine CtE_mk g (by decide +kernel) rfl (Nat.le_of_ble_eq_true rfl) (fun p e s m args below meth c h hr hlk hin => ?_)
  show VE p l e (rmE 1 4 48) s m args below meth c D n0 1 (MQ below (QE D n0 43 (k_State_38_e8 n0 ca a E)) args s 4 48 (AE n0)) 0 0 39 E [(0, .ref (n0 + 38))] 0 []
  refine E_aload_n (pc := 0) h 0 dX6_init_0 rfl rfl ?_
  refine E_obj (pc := 1) h tw_1_182 tw_1_31 tw_1_32 dX6_init_1 (Nat.le_of_ble_eq_true rfl) (by decide) (by decide) ?_
  refine E_aload_n (pc := 4) h 0 dX6_init_4 rfl rfl ?_
  refine E_bipush (pc := 5) (v := 30) h dX6_init_5 (by decide) ?_
  refine E_newa (pc := 7) (atype := .int) h 0 30 (k_State_38_e1 n0 ca a E) rfl (by decide) tw_1_49 (by decide) (by decide) (by decide) rfl (by decide) (by decide) dX6_init_7 ?_
  refine E_putF (pc := 9) h 38 (k_State_38_e2 n0 ca a E) hin ff_X6_9_X6 (by decide) hE (Nat.le_of_ble_eq_true rfl) rfl rfl rfl dX6_init_9 ?_
  refine E_aload_n (pc := 12) h 0 dX6_init_12 rfl rfl ?_
  refine E_bipush (pc := 13) (v := 6) h dX6_init_13 (by decide) ?_
  refine E_newa (pc := 15) (atype := .int) h 0 6 (k_State_38_e3 n0 ca a E) rfl (by decide) tw_1_49 (by decide) (by decide) (by decide) rfl (by decide) (by decide) dX6_init_15 ?_
  refine E_putF (pc := 17) h 38 (k_State_38_e4 n0 ca a E) hin ff_X6_15_X6 (by decide) rfl (Nat.le_of_ble_eq_true rfl) rfl rfl rfl dX6_init_17 ?_
  refine E_aload_n (pc := 20) h 0 dX6_init_20 rfl rfl ?_
  refine E_bipush (pc := 21) (v := 6) h dX6_init_21 (by decide) ?_
  refine E_newa (pc := 23) (atype := .int) h 0 6 (k_State_38_e5 n0 ca a E) rfl (by decide) tw_1_49 (by decide) (by decide) (by decide) rfl (by decide) (by decide) dX6_init_23 ?_
  refine E_putF (pc := 25) h 38 (k_State_38_e6 n0 ca a E) hin ff_X6_18_X6 (by decide) rfl (Nat.le_of_ble_eq_true rfl) rfl rfl rfl dX6_init_25 ?_
  refine E_aload_n (pc := 28) h 0 dX6_init_28 rfl rfl ?_
  refine E_bipush (pc := 29) (v := 6) h dX6_init_29 (by decide) ?_
  refine E_newa (pc := 31) (atype := .int) h 0 6 (k_State_38_e7 n0 ca a E) rfl (by decide) tw_1_49 (by decide) (by decide) (by decide) rfl (by decide) (by decide) dX6_init_31 ?_
  refine E_putF (pc := 33) h 38 (k_State_38_e8 n0 ca a E) hin ff_X6_21_X6 (by decide) rfl (Nat.le_of_ble_eq_true rfl) rfl rfl rfl dX6_init_33 ?_
  exact E_vret (pc := 36) h hr hlk rfl rfl dX6_init_36
def k_State_43_e1 (n0 : Nat) (ca : Nat → ClassId) (a : Nat → Nat) (E : Nat → va_E) : Nat → va_E := va_up E 44 (.inl (ca 0, 30, .inl (fun _ => 0)))
def k_State_43_e2 (n0 : Nat) (ca : Nat → ClassId) (a : Nat → Nat) (E : Nat → va_E) : Nat → va_E := va_up (k_State_43_e1 n0 ca a E) 43 (.inr (5, [.int 0, .ref (n0 + 44), .null, .null, .null]))
def k_State_43_e3 (n0 : Nat) (ca : Nat → ClassId) (a : Nat → Nat) (E : Nat → va_E) : Nat → va_E := va_up (k_State_43_e2 n0 ca a E) 45 (.inl (ca 0, 6, .inl (fun _ => 0)))
def k_State_43_e4 (n0 : Nat) (ca : Nat → ClassId) (a : Nat → Nat) (E : Nat → va_E) : Nat → va_E := va_up (k_State_43_e3 n0 ca a E) 43 (.inr (5, [.int 0, .ref (n0 + 44), .ref (n0 + 45), .null, .null]))
def k_State_43_e5 (n0 : Nat) (ca : Nat → ClassId) (a : Nat → Nat) (E : Nat → va_E) : Nat → va_E := va_up (k_State_43_e4 n0 ca a E) 46 (.inl (ca 0, 6, .inl (fun _ => 0)))
def k_State_43_e6 (n0 : Nat) (ca : Nat → ClassId) (a : Nat → Nat) (E : Nat → va_E) : Nat → va_E := va_up (k_State_43_e5 n0 ca a E) 43 (.inr (5, [.int 0, .ref (n0 + 44), .ref (n0 + 45), .ref (n0 + 46), .null]))
def k_State_43_e7 (n0 : Nat) (ca : Nat → ClassId) (a : Nat → Nat) (E : Nat → va_E) : Nat → va_E := va_up (k_State_43_e6 n0 ca a E) 47 (.inl (ca 0, 6, .inl (fun _ => 0)))
def k_State_43_e8 (n0 : Nat) (ca : Nat → ClassId) (a : Nat → Nat) (E : Nat → va_E) : Nat → va_E := va_up (k_State_43_e7 n0 ca a E) 43 (.inr (5, [.int 0, .ref (n0 + 44), .ref (n0 + 45), .ref (n0 + 46), .ref (n0 + 47)]))
set_option maxHeartbeats 4000000 in
set_option maxRecDepth 100000 in
theorem k_State_43_ct (g : GG s0 args0 D ca a (AE n0)) (E : Nat → va_E) (hE : E 43 = .inr (5, [.int 0, .null, .null, .null, .null])) : CtE l yX6_init cX6_init 1 1 4 48 s0 D n0 [.ref (n0 + 43)] 44 E 48 (k_State_43_e8 n0 ca a E) := by
  refine CtE_mk g (by decide +kernel) rfl (Nat.le_of_ble_eq_true rfl) (fun p e s m args below meth c h hr hlk hin => ?_)
  show VE p l e (rmE 1 4 48) s m args below meth c D n0 1 (MQ below (QE D n0 48 (k_State_43_e8 n0 ca a E)) args s 4 48 (AE n0)) 0 0 44 E [(0, .ref (n0 + 43))] 0 []
  refine E_aload_n (pc := 0) h 0 dX6_init_0 rfl rfl ?_
  refine E_obj (pc := 1) h tw_1_182 tw_1_31 tw_1_32 dX6_init_1 (Nat.le_of_ble_eq_true rfl) (by decide) (by decide) ?_
  refine E_aload_n (pc := 4) h 0 dX6_init_4 rfl rfl ?_
  refine E_bipush (pc := 5) (v := 30) h dX6_init_5 (by decide) ?_
  refine E_newa (pc := 7) (atype := .int) h 0 30 (k_State_43_e1 n0 ca a E) rfl (by decide) tw_1_49 (by decide) (by decide) (by decide) rfl (by decide) (by decide) dX6_init_7 ?_
  refine E_putF (pc := 9) h 43 (k_State_43_e2 n0 ca a E) hin ff_X6_9_X6 (by decide) hE (Nat.le_of_ble_eq_true rfl) rfl rfl rfl dX6_init_9 ?_
  refine E_aload_n (pc := 12) h 0 dX6_init_12 rfl rfl ?_
  refine E_bipush (pc := 13) (v := 6) h dX6_init_13 (by decide) ?_
  refine E_newa (pc := 15) (atype := .int) h 0 6 (k_State_43_e3 n0 ca a E) rfl (by decide) tw_1_49 (by decide) (by decide) (by decide) rfl (by decide) (by decide) dX6_init_15 ?_
  refine E_putF (pc := 17) h 43 (k_State_43_e4 n0 ca a E) hin ff_X6_15_X6 (by decide) rfl (Nat.le_of_ble_eq_true rfl) rfl rfl rfl dX6_init_17 ?_
  refine E_aload_n (pc := 20) h 0 dX6_init_20 rfl rfl ?_
  refine E_bipush (pc := 21) (v := 6) h dX6_init_21 (by decide) ?_
  refine E_newa (pc := 23) (atype := .int) h 0 6 (k_State_43_e5 n0 ca a E) rfl (by decide) tw_1_49 (by decide) (by decide) (by decide) rfl (by decide) (by decide) dX6_init_23 ?_
  refine E_putF (pc := 25) h 43 (k_State_43_e6 n0 ca a E) hin ff_X6_18_X6 (by decide) rfl (Nat.le_of_ble_eq_true rfl) rfl rfl rfl dX6_init_25 ?_
  refine E_aload_n (pc := 28) h 0 dX6_init_28 rfl rfl ?_
  refine E_bipush (pc := 29) (v := 6) h dX6_init_29 (by decide) ?_
  refine E_newa (pc := 31) (atype := .int) h 0 6 (k_State_43_e7 n0 ca a E) rfl (by decide) tw_1_49 (by decide) (by decide) (by decide) rfl (by decide) (by decide) dX6_init_31 ?_
  refine E_putF (pc := 33) h 43 (k_State_43_e8 n0 ca a E) hin ff_X6_21_X6 (by decide) rfl (Nat.le_of_ble_eq_true rfl) rfl rfl rfl dX6_init_33 ?_
  exact E_vret (pc := 36) h hr hlk rfl rfl dX6_init_36
def k_Past_48_e1 (n0 : Nat) (ca : Nat → ClassId) (a : Nat → Nat) (E : Nat → va_E) : Nat → va_E := mnaE n0 ca 49 30 30 E
def k_Past_48_e2 (n0 : Nat) (ca : Nat → ClassId) (a : Nat → Nat) (E : Nat → va_E) : Nat → va_E := va_up (k_Past_48_e1 n0 ca a E) 48 (.inr (4, [.ref (n0 + 49), .null, .int 0, .int 0]))
def k_Past_48_e3 (n0 : Nat) (ca : Nat → ClassId) (a : Nat → Nat) (E : Nat → va_E) : Nat → va_E := mnaE n0 ca 80 30 6 (k_Past_48_e2 n0 ca a E)
def k_Past_48_e4 (n0 : Nat) (ca : Nat → ClassId) (a : Nat → Nat) (E : Nat → va_E) : Nat → va_E := va_up (k_Past_48_e3 n0 ca a E) 48 (.inr (4, [.ref (n0 + 49), .ref (n0 + 80), .int 0, .int 0]))
set_option maxHeartbeats 4000000 in
set_option maxRecDepth 100000 in
theorem k_Past_48_ct (g : GG s0 args0 D ca a (AE n0)) (E : Nat → va_E) (hE : E 48 = .inr (4, [.null, .null, .int 0, .int 0])) : CtE l yX4_init cX4_init 1 1 62 1140 s0 D n0 [.ref (n0 + 48)] 49 E 111 (k_Past_48_e4 n0 ca a E) := by
  refine CtE_mk g (by decide +kernel) rfl (Nat.le_of_ble_eq_true rfl) (fun p e s m args below meth c h hr hlk hin => ?_)
  show VE p l e (rmE 1 62 1140) s m args below meth c D n0 1 (MQ below (QE D n0 111 (k_Past_48_e4 n0 ca a E)) args s 62 1140 (AE n0)) 0 0 49 E [(0, .ref (n0 + 48))] 0 []
  refine E_aload_n (pc := 0) h 0 dX4_init_0 rfl rfl ?_
  refine E_obj (pc := 1) h tw_1_215 tw_1_31 tw_1_32 dX4_init_1 (Nat.le_of_ble_eq_true rfl) (by decide) (by decide) ?_
  refine E_aload_n (pc := 4) h 0 dX4_init_4 rfl rfl ?_
  refine E_bipush (pc := 5) (v := 30) h dX4_init_5 (by decide) ?_
  refine E_bipush (pc := 7) (v := 30) h dX4_init_7 (by decide) ?_
  refine E_mna (pc := 9) h 30 30 (k_Past_48_e1 n0 ca a E) tw_1_216 tw_1_60 tw_1_49 (by decide) (by decide) (by decide) (by decide) (by decide) (by decide) rfl (by decide) (by decide) dX4_init_9 ?_
  refine E_putF (pc := 13) h 48 (k_Past_48_e2 n0 ca a E) hin ff_X4_11_X4 (by decide) hE (Nat.le_of_ble_eq_true rfl) rfl rfl rfl dX4_init_13 ?_
  refine E_aload_n (pc := 16) h 0 dX4_init_16 rfl rfl ?_
  refine E_bipush (pc := 17) (v := 30) h dX4_init_17 (by decide) ?_
  refine E_bipush (pc := 19) (v := 6) h dX4_init_19 (by decide) ?_
  refine E_mna (pc := 21) h 30 6 (k_Past_48_e3 n0 ca a E) tw_1_216 tw_1_60 tw_1_49 (by decide) (by decide) (by decide) (by decide) (by decide) (by decide) rfl (by decide) (by decide) dX4_init_21 ?_
  refine E_putF (pc := 25) h 48 (k_Past_48_e4 n0 ca a E) hin ff_X4_16_X4 (by decide) rfl (Nat.le_of_ble_eq_true rfl) rfl rfl rfl dX4_init_25 ?_
  exact E_vret (pc := 28) h hr hlk rfl rfl dX4_init_28
def k_Noon_111_e1 (n0 : Nat) (ca : Nat → ClassId) (a : Nat → Nat) (E : Nat → va_E) : Nat → va_E := mnaE n0 ca 112 7 6 E
def k_Noon_111_e2 (n0 : Nat) (ca : Nat → ClassId) (a : Nat → Nat) (E : Nat → va_E) : Nat → va_E := va_up (k_Noon_111_e1 n0 ca a E) 111 (.inr (3, [.null, .ref (n0 + 112), .null, .null, .null, .null, .null, .int 0, .int 0, .int 0, .int 0, .int 0, .int 0]))
def k_Noon_111_e3 (n0 : Nat) (ca : Nat → ClassId) (a : Nat → Nat) (E : Nat → va_E) : Nat → va_E := mnaE n0 ca 120 6 6 (k_Noon_111_e2 n0 ca a E)
def k_Noon_111_e4 (n0 : Nat) (ca : Nat → ClassId) (a : Nat → Nat) (E : Nat → va_E) : Nat → va_E := va_up (k_Noon_111_e3 n0 ca a E) 111 (.inr (3, [.null, .ref (n0 + 112), .ref (n0 + 120), .null, .null, .null, .null, .int 0, .int 0, .int 0, .int 0, .int 0, .int 0]))
def k_Noon_111_e5 (n0 : Nat) (ca : Nat → ClassId) (a : Nat → Nat) (E : Nat → va_E) : Nat → va_E := va_up (k_Noon_111_e4 n0 ca a E) 127 (.inl (ca 0, 6, .inl (fun _ => 0)))
def k_Noon_111_e6 (n0 : Nat) (ca : Nat → ClassId) (a : Nat → Nat) (E : Nat → va_E) : Nat → va_E := va_up (k_Noon_111_e5 n0 ca a E) 111 (.inr (3, [.null, .ref (n0 + 112), .ref (n0 + 120), .ref (n0 + 127), .null, .null, .null, .int 0, .int 0, .int 0, .int 0, .int 0, .int 0]))
def k_Noon_111_e7 (n0 : Nat) (ca : Nat → ClassId) (a : Nat → Nat) (E : Nat → va_E) : Nat → va_E := va_up (k_Noon_111_e6 n0 ca a E) 128 (.inl (ca 0, 6, .inl (fun _ => 0)))
def k_Noon_111_e8 (n0 : Nat) (ca : Nat → ClassId) (a : Nat → Nat) (E : Nat → va_E) : Nat → va_E := va_up (k_Noon_111_e7 n0 ca a E) 111 (.inr (3, [.null, .ref (n0 + 112), .ref (n0 + 120), .ref (n0 + 127), .ref (n0 + 128), .null, .null, .int 0, .int 0, .int 0, .int 0, .int 0, .int 0]))
def k_Noon_111_e9 (n0 : Nat) (ca : Nat → ClassId) (a : Nat → Nat) (E : Nat → va_E) : Nat → va_E := va_up (k_Noon_111_e8 n0 ca a E) 129 (.inl (ca 0, 6, .inl (fun _ => 0)))
def k_Noon_111_e10 (n0 : Nat) (ca : Nat → ClassId) (a : Nat → Nat) (E : Nat → va_E) : Nat → va_E := va_up (k_Noon_111_e9 n0 ca a E) 111 (.inr (3, [.null, .ref (n0 + 112), .ref (n0 + 120), .ref (n0 + 127), .ref (n0 + 128), .ref (n0 + 129), .null, .int 0, .int 0, .int 0, .int 0, .int 0, .int 0]))
def k_Noon_111_e11 (n0 : Nat) (ca : Nat → ClassId) (a : Nat → Nat) (E : Nat → va_E) : Nat → va_E := va_up (k_Noon_111_e10 n0 ca a E) 111 (.inr (3, [.ref (n0 + 28), .ref (n0 + 112), .ref (n0 + 120), .ref (n0 + 127), .ref (n0 + 128), .ref (n0 + 129), .null, .int 0, .int 0, .int 0, .int 0, .int 0, .int 0]))
def k_Noon_111_e12 (n0 : Nat) (ca : Nat → ClassId) (a : Nat → Nat) (E : Nat → va_E) : Nat → va_E := va_up (k_Noon_111_e11 n0 ca a E) 111 (.inr (3, [.ref (n0 + 28), .ref (n0 + 112), .ref (n0 + 120), .ref (n0 + 127), .ref (n0 + 128), .ref (n0 + 129), .null, .int 0, .int 0, .int 0, .int 0, .int 0, .int 0]))
def k_Noon_111_e13 (n0 : Nat) (ca : Nat → ClassId) (a : Nat → Nat) (E : Nat → va_E) : Nat → va_E := va_up (k_Noon_111_e12 n0 ca a E) 111 (.inr (3, [.ref (n0 + 28), .ref (n0 + 112), .ref (n0 + 120), .ref (n0 + 127), .ref (n0 + 128), .ref (n0 + 129), .null, .int 0, .int (-1 : Int32), .int 0, .int 0, .int 0, .int 0]))
def k_Noon_111_e14 (n0 : Nat) (ca : Nat → ClassId) (a : Nat → Nat) (E : Nat → va_E) : Nat → va_E := va_up (k_Noon_111_e13 n0 ca a E) 111 (.inr (3, [.ref (n0 + 28), .ref (n0 + 112), .ref (n0 + 120), .ref (n0 + 127), .ref (n0 + 128), .ref (n0 + 129), .null, .int 0, .int (-1 : Int32), .int (-1 : Int32), .int 0, .int 0, .int 0]))
def k_Noon_111_e15 (n0 : Nat) (ca : Nat → ClassId) (a : Nat → Nat) (E : Nat → va_E) : Nat → va_E := va_up (k_Noon_111_e14 n0 ca a E) 111 (.inr (3, [.ref (n0 + 28), .ref (n0 + 112), .ref (n0 + 120), .ref (n0 + 127), .ref (n0 + 128), .ref (n0 + 129), .null, .int 0, .int (-1 : Int32), .int (-1 : Int32), .int 0, .int (-1 : Int32), .int 0]))
set_option maxHeartbeats 4000000 in
set_option maxRecDepth 100000 in
theorem k_Noon_111_ct (g : GG s0 args0 D ca a (AE n0)) (E : Nat → va_E) (hE : E 111 = .inr (3, [.null, .null, .null, .null, .null, .null, .null, .int 0, .int 0, .int 0, .int 0, .int 0, .int 0])) : CtE l yX3_init cX3_init 2 1 18 109 s0 D n0 [.ref (n0 + 111), .ref (n0 + 28)] 112 E 130 (k_Noon_111_e15 n0 ca a E) := by
  refine CtE_mk g (by decide +kernel) rfl (Nat.le_of_ble_eq_true rfl) (fun p e s m args below meth c h hr hlk hin => ?_)
  show VE p l e (rmE 1 18 109) s m args below meth c D n0 2 (MQ below (QE D n0 130 (k_Noon_111_e15 n0 ca a E)) args s 18 109 (AE n0)) 0 0 112 E [(0, .ref (n0 + 111)), (1, .ref (n0 + 28))] 0 []
  refine E_aload_n (pc := 0) h 0 dX3_init_0 rfl rfl ?_
  refine E_obj (pc := 1) h tw_1_236 tw_1_31 tw_1_32 dX3_init_1 (Nat.le_of_ble_eq_true rfl) (by decide) (by decide) ?_
  refine E_aload_n (pc := 4) h 0 dX3_init_4 rfl rfl ?_
  refine E_bipush (pc := 5) (v := 7) h dX3_init_5 (by decide) ?_
  refine E_bipush (pc := 7) (v := 6) h dX3_init_7 (by decide) ?_
  refine E_mna (pc := 9) h 7 6 (k_Noon_111_e1 n0 ca a E) tw_1_237 tw_1_60 tw_1_49 (by decide) (by decide) (by decide) (by decide) (by decide) (by decide) rfl (by decide) (by decide) dX3_init_9 ?_
  refine E_putF (pc := 13) h 111 (k_Noon_111_e2 n0 ca a E) hin ff_X3_11_X3 (by decide) hE (Nat.le_of_ble_eq_true rfl) rfl rfl rfl dX3_init_13 ?_
  refine E_aload_n (pc := 16) h 0 dX3_init_16 rfl rfl ?_
  refine E_bipush (pc := 17) (v := 6) h dX3_init_17 (by decide) ?_
  refine E_bipush (pc := 19) (v := 6) h dX3_init_19 (by decide) ?_
  refine E_mna (pc := 21) h 6 6 (k_Noon_111_e3 n0 ca a E) tw_1_237 tw_1_60 tw_1_49 (by decide) (by decide) (by decide) (by decide) (by decide) (by decide) rfl (by decide) (by decide) dX3_init_21 ?_
  refine E_putF (pc := 25) h 111 (k_Noon_111_e4 n0 ca a E) hin ff_X3_16_X3 (by decide) rfl (Nat.le_of_ble_eq_true rfl) rfl rfl rfl dX3_init_25 ?_
  refine E_aload_n (pc := 28) h 0 dX3_init_28 rfl rfl ?_
  refine E_bipush (pc := 29) (v := 6) h dX3_init_29 (by decide) ?_
  refine E_newa (pc := 31) (atype := .int) h 0 6 (k_Noon_111_e5 n0 ca a E) rfl (by decide) tw_1_49 (by decide) (by decide) (by decide) rfl (by decide) (by decide) dX3_init_31 ?_
  refine E_putF (pc := 33) h 111 (k_Noon_111_e6 n0 ca a E) hin ff_X3_19_X3 (by decide) rfl (Nat.le_of_ble_eq_true rfl) rfl rfl rfl dX3_init_33 ?_
  refine E_aload_n (pc := 36) h 0 dX3_init_36 rfl rfl ?_
  refine E_bipush (pc := 37) (v := 6) h dX3_init_37 (by decide) ?_
  refine E_newa (pc := 39) (atype := .int) h 0 6 (k_Noon_111_e7 n0 ca a E) rfl (by decide) tw_1_49 (by decide) (by decide) (by decide) rfl (by decide) (by decide) dX3_init_39 ?_
  refine E_putF (pc := 41) h 111 (k_Noon_111_e8 n0 ca a E) hin ff_X3_23_X3 (by decide) rfl (Nat.le_of_ble_eq_true rfl) rfl rfl rfl dX3_init_41 ?_
  refine E_aload_n (pc := 44) h 0 dX3_init_44 rfl rfl ?_
  refine E_bipush (pc := 45) (v := 6) h dX3_init_45 (by decide) ?_
  refine E_newa (pc := 47) (atype := .int) h 0 6 (k_Noon_111_e9 n0 ca a E) rfl (by decide) tw_1_49 (by decide) (by decide) (by decide) rfl (by decide) (by decide) dX3_init_47 ?_
  refine E_putF (pc := 49) h 111 (k_Noon_111_e10 n0 ca a E) hin ff_X3_26_X3 (by decide) rfl (Nat.le_of_ble_eq_true rfl) rfl rfl rfl dX3_init_49 ?_
  refine E_aload_n (pc := 52) h 0 dX3_init_52 rfl rfl ?_
  refine E_aload_n (pc := 53) h 1 dX3_init_53 rfl rfl ?_
  refine E_putF (pc := 54) h 111 (k_Noon_111_e11 n0 ca a E) hin ff_X3_29_X3 (by decide) rfl (Nat.le_of_ble_eq_true rfl) rfl rfl rfl dX3_init_54 ?_
  refine E_aload_n (pc := 57) h 0 dX3_init_57 rfl rfl ?_
  refine E_null (pc := 58) h dX3_init_58 ?_
  refine E_put (pc := 59) h 111 (k_Noon_111_e12 n0 ca a E) fp_X3_33_X3 (by decide) rfl (Nat.le_of_ble_eq_true rfl) rfl rfl rfl dX3_init_59 ?_
  refine E_aload_n (pc := 62) h 0 dX3_init_62 rfl rfl ?_
  refine E_iconst (pc := 63) (v := -1) h dX3_init_63 (by decide) ?_
  refine E_put (pc := 64) h 111 (k_Noon_111_e13 n0 ca a E) fp_X3_37_X3 (by decide) rfl (Nat.le_of_ble_eq_true rfl) rfl rfl rfl dX3_init_64 ?_
  refine E_aload_n (pc := 67) h 0 dX3_init_67 rfl rfl ?_
  refine E_iconst (pc := 68) (v := -1) h dX3_init_68 (by decide) ?_
  refine E_put (pc := 69) h 111 (k_Noon_111_e14 n0 ca a E) fp_X3_41_X3 (by decide) rfl (Nat.le_of_ble_eq_true rfl) rfl rfl rfl dX3_init_69 ?_
  refine E_aload_n (pc := 72) h 0 dX3_init_72 rfl rfl ?_
  refine E_iconst (pc := 73) (v := -1) h dX3_init_73 (by decide) ?_
  refine E_put (pc := 74) h 111 (k_Noon_111_e15 n0 ca a E) fp_X3_44_X3 (by decide) rfl (Nat.le_of_ble_eq_true rfl) rfl rfl rfl dX3_init_74 ?_
  exact E_vret (pc := 77) h hr hlk rfl rfl dX3_init_77
def k_Best_130_e1 (n0 : Nat) (ca : Nat → ClassId) (a : Nat → Nat) (E : Nat → va_E) : Nat → va_E := va_up E 130 (.inr (0, [.ref (n0 + 28), .null, .null, .int 0, .int 0, .int 0]))
def k_Best_130_e2 (n0 : Nat) (ca : Nat → ClassId) (a : Nat → Nat) (E : Nat → va_E) : Nat → va_E := va_up (k_Best_130_e1 n0 ca a E) 130 (.inr (0, [.ref (n0 + 28), .ref (n0 + 33), .null, .int 0, .int 0, .int 0]))
def k_Best_130_e3 (n0 : Nat) (ca : Nat → ClassId) (a : Nat → Nat) (E : Nat → va_E) : Nat → va_E := va_up (k_Best_130_e2 n0 ca a E) 130 (.inr (0, [.ref (n0 + 28), .ref (n0 + 33), .ref (n0 + 111), .int 0, .int 0, .int 0]))
def k_Best_130_e4 (n0 : Nat) (ca : Nat → ClassId) (a : Nat → Nat) (E : Nat → va_E) : Nat → va_E := va_up (k_Best_130_e3 n0 ca a E) 130 (.inr (0, [.ref (n0 + 28), .ref (n0 + 33), .ref (n0 + 111), .int 0, .int (-1 : Int32), .int 0]))
set_option maxHeartbeats 4000000 in
set_option maxRecDepth 100000 in
theorem k_Best_130_ct (g : GG s0 args0 D ca a (AE n0)) (E : Nat → va_E) (hE : E 130 = .inr (0, [.null, .null, .null, .int 0, .int 0, .int 0])) : CtE l yX0_init cX0_init 4 1 0 0 s0 D n0 [.ref (n0 + 130), .ref (n0 + 28), .ref (n0 + 33), .ref (n0 + 111)] 131 E 131 (k_Best_130_e4 n0 ca a E) := by
  refine CtE_mk g (by decide +kernel) rfl (Nat.le_of_ble_eq_true rfl) (fun p e s m args below meth c h hr hlk hin => ?_)
  show VE p l e (rmE 1 0 0) s m args below meth c D n0 4 (MQ below (QE D n0 131 (k_Best_130_e4 n0 ca a E)) args s 0 0 (AE n0)) 0 0 131 E [(0, .ref (n0 + 130)), (1, .ref (n0 + 28)), (2, .ref (n0 + 33)), (3, .ref (n0 + 111))] 0 []
  refine E_aload_n (pc := 0) h 0 dX0_init_0 rfl rfl ?_
  refine E_obj (pc := 1) h tw_2_45 tw_1_31 tw_1_32 dX0_init_1 (Nat.le_of_ble_eq_true rfl) (by decide) (by decide) ?_
  refine E_aload_n (pc := 4) h 0 dX0_init_4 rfl rfl ?_
  refine E_aload_n (pc := 5) h 1 dX0_init_5 rfl rfl ?_
  refine E_putF (pc := 6) h 130 (k_Best_130_e1 n0 ca a E) hin ff_X0_9_X0 (by decide) hE (Nat.le_of_ble_eq_true rfl) rfl rfl rfl dX0_init_6 ?_
  refine E_aload_n (pc := 9) h 0 dX0_init_9 rfl rfl ?_
  refine E_aload_n (pc := 10) h 2 dX0_init_10 rfl rfl ?_
  refine E_putF (pc := 11) h 130 (k_Best_130_e2 n0 ca a E) hin ff_X0_15_X0 (by decide) rfl (Nat.le_of_ble_eq_true rfl) rfl rfl rfl dX0_init_11 ?_
  refine E_aload_n (pc := 14) h 0 dX0_init_14 rfl rfl ?_
  refine E_aload_n (pc := 15) h 3 dX0_init_15 rfl rfl ?_
  refine E_putF (pc := 16) h 130 (k_Best_130_e3 n0 ca a E) hin ff_X0_19_X0 (by decide) rfl (Nat.le_of_ble_eq_true rfl) rfl rfl rfl dX0_init_16 ?_
  refine E_aload_n (pc := 19) h 0 dX0_init_19 rfl rfl ?_
  refine E_iconst (pc := 20) (v := -1) h dX0_init_20 (by decide) ?_
  refine E_put (pc := 21) h 130 (k_Best_130_e4 n0 ca a E) fp_X0_23_X0 (by decide) rfl (Nat.le_of_ble_eq_true rfl) rfl rfl rfl dX0_init_21 ?_
  exact E_vret (pc := 24) h hr hlk rfl rfl dX0_init_24
def k_N_0_e1 (n0 : Nat) (ca : Nat → ClassId) (a : Nat → Nat) (E : Nat → va_E) : Nat → va_E := va_up E 1 (.inr (8, [.null, .int 0]))
def k_N_0_e2 (n0 : Nat) (ca : Nat → ClassId) (a : Nat → Nat) (E : Nat → va_E) : Nat → va_E := k_Tape_1_e2 n0 ca a (k_N_0_e1 n0 ca a E)
def k_N_0_e3 (n0 : Nat) (ca : Nat → ClassId) (a : Nat → Nat) (E : Nat → va_E) : Nat → va_E := va_up (k_N_0_e2 n0 ca a E) 0 (.inr (9, [.ref (n0 + 1), .null, .null, .null, .int 0, .int 0, .null, .null, .null, .null, .int 0, .null, .null, .null, .null]))
def k_N_0_e4 (n0 : Nat) (ca : Nat → ClassId) (a : Nat → Nat) (E : Nat → va_E) : Nat → va_E := va_up (k_N_0_e3 n0 ca a E) 3 (.inr (7, [.null, .int 0, .null, .null, .null, .int 0, .int 0, .int 0]))
def k_N_0_e5 (n0 : Nat) (ca : Nat → ClassId) (a : Nat → Nat) (E : Nat → va_E) : Nat → va_E := k_StreetReader_3_e7 n0 ca a (k_N_0_e4 n0 ca a E)
def k_N_0_e6 (n0 : Nat) (ca : Nat → ClassId) (a : Nat → Nat) (E : Nat → va_E) : Nat → va_E := va_up (k_N_0_e5 n0 ca a E) 0 (.inr (9, [.ref (n0 + 1), .ref (n0 + 3), .null, .null, .int 0, .int 0, .null, .null, .null, .null, .int 0, .null, .null, .null, .null]))
def k_N_0_e7 (n0 : Nat) (ca : Nat → ClassId) (a : Nat → Nat) (E : Nat → va_E) : Nat → va_E := va_up (k_N_0_e6 n0 ca a E) 13 (.inr (2, [.null, .int 0, .null, .int 0]))
def k_N_0_e8 (n0 : Nat) (ca : Nat → ClassId) (a : Nat → Nat) (E : Nat → va_E) : Nat → va_E := k_LikingReader_13_e3 n0 ca a (k_N_0_e7 n0 ca a E)
def k_N_0_e9 (n0 : Nat) (ca : Nat → ClassId) (a : Nat → Nat) (E : Nat → va_E) : Nat → va_E := va_up (k_N_0_e8 n0 ca a E) 0 (.inr (9, [.ref (n0 + 1), .ref (n0 + 3), .ref (n0 + 13), .null, .int 0, .int 0, .null, .null, .null, .null, .int 0, .null, .null, .null, .null]))
def k_N_0_e10 (n0 : Nat) (ca : Nat → ClassId) (a : Nat → Nat) (E : Nat → va_E) : Nat → va_E := va_up (k_N_0_e9 n0 ca a E) 15 (.inl (ca 3, 4, .inr (.inr (.inr (.inr (fun _ => none))))))
def k_N_0_e11 (n0 : Nat) (ca : Nat → ClassId) (a : Nat → Nat) (E : Nat → va_E) : Nat → va_E := va_up (k_N_0_e10 n0 ca a E) 0 (.inr (9, [.ref (n0 + 1), .ref (n0 + 3), .ref (n0 + 13), .ref (n0 + 15), .int 0, .int 0, .null, .null, .null, .null, .int 0, .null, .null, .null, .null]))
def k_N_0_e12 (n0 : Nat) (ca : Nat → ClassId) (a : Nat → Nat) (E : Nat → va_E) : Nat → va_E := va_up (k_N_0_e11 n0 ca a E) 16 (.inr (1, [.null, .null, .int 0]))
def k_N_0_e13 (n0 : Nat) (ca : Nat → ClassId) (a : Nat → Nat) (E : Nat → va_E) : Nat → va_E := k_Liking_16_e4 n0 ca a (k_N_0_e12 n0 ca a E)
def k_N_0_e14 (n0 : Nat) (ca : Nat → ClassId) (a : Nat → Nat) (E : Nat → va_E) : Nat → va_E := va_up (k_N_0_e13 n0 ca a E) 15 (.inl (ca 3, 4, .inr (.inr (.inr (.inr (va_up (fun _ => none) 0 (some (n0 + 16))))))))
def k_N_0_e15 (n0 : Nat) (ca : Nat → ClassId) (a : Nat → Nat) (E : Nat → va_E) : Nat → va_E := va_up (k_N_0_e14 n0 ca a E) 19 (.inr (1, [.null, .null, .int 0]))
def k_N_0_e16 (n0 : Nat) (ca : Nat → ClassId) (a : Nat → Nat) (E : Nat → va_E) : Nat → va_E := k_Liking_19_e4 n0 ca a (k_N_0_e15 n0 ca a E)
def k_N_0_e17 (n0 : Nat) (ca : Nat → ClassId) (a : Nat → Nat) (E : Nat → va_E) : Nat → va_E := va_up (k_N_0_e16 n0 ca a E) 15 (.inl (ca 3, 4, .inr (.inr (.inr (.inr (va_up (va_up (fun _ => none) 0 (some (n0 + 16))) 1 (some (n0 + 19))))))))
def k_N_0_e18 (n0 : Nat) (ca : Nat → ClassId) (a : Nat → Nat) (E : Nat → va_E) : Nat → va_E := va_up (k_N_0_e17 n0 ca a E) 22 (.inr (1, [.null, .null, .int 0]))
def k_N_0_e19 (n0 : Nat) (ca : Nat → ClassId) (a : Nat → Nat) (E : Nat → va_E) : Nat → va_E := k_Liking_22_e4 n0 ca a (k_N_0_e18 n0 ca a E)
def k_N_0_e20 (n0 : Nat) (ca : Nat → ClassId) (a : Nat → Nat) (E : Nat → va_E) : Nat → va_E := va_up (k_N_0_e19 n0 ca a E) 15 (.inl (ca 3, 4, .inr (.inr (.inr (.inr (va_up (va_up (va_up (fun _ => none) 0 (some (n0 + 16))) 1 (some (n0 + 19))) 2 (some (n0 + 22))))))))
def k_N_0_e21 (n0 : Nat) (ca : Nat → ClassId) (a : Nat → Nat) (E : Nat → va_E) : Nat → va_E := va_up (k_N_0_e20 n0 ca a E) 25 (.inr (1, [.null, .null, .int 0]))
def k_N_0_e22 (n0 : Nat) (ca : Nat → ClassId) (a : Nat → Nat) (E : Nat → va_E) : Nat → va_E := k_Liking_25_e4 n0 ca a (k_N_0_e21 n0 ca a E)
def k_N_0_e23 (n0 : Nat) (ca : Nat → ClassId) (a : Nat → Nat) (E : Nat → va_E) : Nat → va_E := va_up (k_N_0_e22 n0 ca a E) 15 (.inl (ca 3, 4, .inr (.inr (.inr (.inr (va_up (va_up (va_up (va_up (fun _ => none) 0 (some (n0 + 16))) 1 (some (n0 + 19))) 2 (some (n0 + 22))) 3 (some (n0 + 25))))))))
def k_N_0_e24 (n0 : Nat) (ca : Nat → ClassId) (a : Nat → Nat) (E : Nat → va_E) : Nat → va_E := va_up (k_N_0_e23 n0 ca a E) 0 (.inr (9, [.ref (n0 + 1), .ref (n0 + 3), .ref (n0 + 13), .ref (n0 + 15), .int (0 : Int32), .int 0, .null, .null, .null, .null, .int 0, .null, .null, .null, .null]))
def k_N_0_e25 (n0 : Nat) (ca : Nat → ClassId) (a : Nat → Nat) (E : Nat → va_E) : Nat → va_E := va_up (k_N_0_e24 n0 ca a E) 0 (.inr (9, [.ref (n0 + 1), .ref (n0 + 3), .ref (n0 + 13), .ref (n0 + 15), .int (0 : Int32), .int (-1 : Int32), .null, .null, .null, .null, .int 0, .null, .null, .null, .null]))
def k_N_0_e26 (n0 : Nat) (ca : Nat → ClassId) (a : Nat → Nat) (E : Nat → va_E) : Nat → va_E := va_up (k_N_0_e25 n0 ca a E) 28 (.inr (6, [.int 0, .int 0, .int 0, .int 0, .null, .null, .null, .null]))
def k_N_0_e27 (n0 : Nat) (ca : Nat → ClassId) (a : Nat → Nat) (E : Nat → va_E) : Nat → va_E := k_Street_28_e8 n0 ca a (k_N_0_e26 n0 ca a E)
def k_N_0_e28 (n0 : Nat) (ca : Nat → ClassId) (a : Nat → Nat) (E : Nat → va_E) : Nat → va_E := va_up (k_N_0_e27 n0 ca a E) 0 (.inr (9, [.ref (n0 + 1), .ref (n0 + 3), .ref (n0 + 13), .ref (n0 + 15), .int (0 : Int32), .int (-1 : Int32), .ref (n0 + 28), .null, .null, .null, .int 0, .null, .null, .null, .null]))
def k_N_0_e29 (n0 : Nat) (ca : Nat → ClassId) (a : Nat → Nat) (E : Nat → va_E) : Nat → va_E := va_up (k_N_0_e28 n0 ca a E) 33 (.inr (5, [.int 0, .null, .null, .null, .null]))
def k_N_0_e30 (n0 : Nat) (ca : Nat → ClassId) (a : Nat → Nat) (E : Nat → va_E) : Nat → va_E := k_State_33_e8 n0 ca a (k_N_0_e29 n0 ca a E)
def k_N_0_e31 (n0 : Nat) (ca : Nat → ClassId) (a : Nat → Nat) (E : Nat → va_E) : Nat → va_E := va_up (k_N_0_e30 n0 ca a E) 0 (.inr (9, [.ref (n0 + 1), .ref (n0 + 3), .ref (n0 + 13), .ref (n0 + 15), .int (0 : Int32), .int (-1 : Int32), .ref (n0 + 28), .ref (n0 + 33), .null, .null, .int 0, .null, .null, .null, .null]))
def k_N_0_e32 (n0 : Nat) (ca : Nat → ClassId) (a : Nat → Nat) (E : Nat → va_E) : Nat → va_E := va_up (k_N_0_e31 n0 ca a E) 38 (.inr (5, [.int 0, .null, .null, .null, .null]))
def k_N_0_e33 (n0 : Nat) (ca : Nat → ClassId) (a : Nat → Nat) (E : Nat → va_E) : Nat → va_E := k_State_38_e8 n0 ca a (k_N_0_e32 n0 ca a E)
def k_N_0_e34 (n0 : Nat) (ca : Nat → ClassId) (a : Nat → Nat) (E : Nat → va_E) : Nat → va_E := va_up (k_N_0_e33 n0 ca a E) 0 (.inr (9, [.ref (n0 + 1), .ref (n0 + 3), .ref (n0 + 13), .ref (n0 + 15), .int (0 : Int32), .int (-1 : Int32), .ref (n0 + 28), .ref (n0 + 33), .ref (n0 + 38), .null, .int 0, .null, .null, .null, .null]))
def k_N_0_e35 (n0 : Nat) (ca : Nat → ClassId) (a : Nat → Nat) (E : Nat → va_E) : Nat → va_E := va_up (k_N_0_e34 n0 ca a E) 43 (.inr (5, [.int 0, .null, .null, .null, .null]))
def k_N_0_e36 (n0 : Nat) (ca : Nat → ClassId) (a : Nat → Nat) (E : Nat → va_E) : Nat → va_E := k_State_43_e8 n0 ca a (k_N_0_e35 n0 ca a E)
def k_N_0_e37 (n0 : Nat) (ca : Nat → ClassId) (a : Nat → Nat) (E : Nat → va_E) : Nat → va_E := va_up (k_N_0_e36 n0 ca a E) 0 (.inr (9, [.ref (n0 + 1), .ref (n0 + 3), .ref (n0 + 13), .ref (n0 + 15), .int (0 : Int32), .int (-1 : Int32), .ref (n0 + 28), .ref (n0 + 33), .ref (n0 + 38), .ref (n0 + 43), .int 0, .null, .null, .null, .null]))
def k_N_0_e38 (n0 : Nat) (ca : Nat → ClassId) (a : Nat → Nat) (E : Nat → va_E) : Nat → va_E := va_up (k_N_0_e37 n0 ca a E) 0 (.inr (9, [.ref (n0 + 1), .ref (n0 + 3), .ref (n0 + 13), .ref (n0 + 15), .int (0 : Int32), .int (-1 : Int32), .ref (n0 + 28), .ref (n0 + 33), .ref (n0 + 38), .ref (n0 + 43), .int (0 : Int32), .null, .null, .null, .null]))
def k_N_0_e39 (n0 : Nat) (ca : Nat → ClassId) (a : Nat → Nat) (E : Nat → va_E) : Nat → va_E := va_up (k_N_0_e38 n0 ca a E) 48 (.inr (4, [.null, .null, .int 0, .int 0]))
def k_N_0_e40 (n0 : Nat) (ca : Nat → ClassId) (a : Nat → Nat) (E : Nat → va_E) : Nat → va_E := k_Past_48_e4 n0 ca a (k_N_0_e39 n0 ca a E)
def k_N_0_e41 (n0 : Nat) (ca : Nat → ClassId) (a : Nat → Nat) (E : Nat → va_E) : Nat → va_E := va_up (k_N_0_e40 n0 ca a E) 0 (.inr (9, [.ref (n0 + 1), .ref (n0 + 3), .ref (n0 + 13), .ref (n0 + 15), .int (0 : Int32), .int (-1 : Int32), .ref (n0 + 28), .ref (n0 + 33), .ref (n0 + 38), .ref (n0 + 43), .int (0 : Int32), .ref (n0 + 48), .null, .null, .null]))
def k_N_0_e42 (n0 : Nat) (ca : Nat → ClassId) (a : Nat → Nat) (E : Nat → va_E) : Nat → va_E := va_up (k_N_0_e41 n0 ca a E) 111 (.inr (3, [.null, .null, .null, .null, .null, .null, .null, .int 0, .int 0, .int 0, .int 0, .int 0, .int 0]))
def k_N_0_e43 (n0 : Nat) (ca : Nat → ClassId) (a : Nat → Nat) (E : Nat → va_E) : Nat → va_E := k_Noon_111_e15 n0 ca a (k_N_0_e42 n0 ca a E)
def k_N_0_e44 (n0 : Nat) (ca : Nat → ClassId) (a : Nat → Nat) (E : Nat → va_E) : Nat → va_E := va_up (k_N_0_e43 n0 ca a E) 0 (.inr (9, [.ref (n0 + 1), .ref (n0 + 3), .ref (n0 + 13), .ref (n0 + 15), .int (0 : Int32), .int (-1 : Int32), .ref (n0 + 28), .ref (n0 + 33), .ref (n0 + 38), .ref (n0 + 43), .int (0 : Int32), .ref (n0 + 48), .ref (n0 + 111), .null, .null]))
def k_N_0_e45 (n0 : Nat) (ca : Nat → ClassId) (a : Nat → Nat) (E : Nat → va_E) : Nat → va_E := va_up (k_N_0_e44 n0 ca a E) 130 (.inr (0, [.null, .null, .null, .int 0, .int 0, .int 0]))
def k_N_0_e46 (n0 : Nat) (ca : Nat → ClassId) (a : Nat → Nat) (E : Nat → va_E) : Nat → va_E := k_Best_130_e4 n0 ca a (k_N_0_e45 n0 ca a E)
def k_N_0_e47 (n0 : Nat) (ca : Nat → ClassId) (a : Nat → Nat) (E : Nat → va_E) : Nat → va_E := va_up (k_N_0_e46 n0 ca a E) 0 (.inr (9, [.ref (n0 + 1), .ref (n0 + 3), .ref (n0 + 13), .ref (n0 + 15), .int (0 : Int32), .int (-1 : Int32), .ref (n0 + 28), .ref (n0 + 33), .ref (n0 + 38), .ref (n0 + 43), .int (0 : Int32), .ref (n0 + 48), .ref (n0 + 111), .ref (n0 + 130), .null]))
def k_N_0_e48 (n0 : Nat) (ca : Nat → ClassId) (a : Nat → Nat) (E : Nat → va_E) : Nat → va_E := va_up (k_N_0_e47 n0 ca a E) 131 (.inl (ca 0, 6, .inl (fun _ => 0)))
def k_N_0_e49 (n0 : Nat) (ca : Nat → ClassId) (a : Nat → Nat) (E : Nat → va_E) : Nat → va_E := va_up (k_N_0_e48 n0 ca a E) 0 (.inr (9, [.ref (n0 + 1), .ref (n0 + 3), .ref (n0 + 13), .ref (n0 + 15), .int (0 : Int32), .int (-1 : Int32), .ref (n0 + 28), .ref (n0 + 33), .ref (n0 + 38), .ref (n0 + 43), .int (0 : Int32), .ref (n0 + 48), .ref (n0 + 111), .ref (n0 + 130), .ref (n0 + 131)]))
set_option maxHeartbeats 4000000 in
set_option maxRecDepth 100000 in
theorem k_N_0_ct (g : GG s0 args0 D ca a (AE n0)) (E : Nat → va_E) (hE : E 0 = .inr (9, [.null, .null, .null, .null, .int 0, .int 0, .null, .null, .null, .null, .int 0, .null, .null, .null, .null])) : CtE l yX10_init cX10_init 2 3 131 3160 s0 D n0 [.ref (n0 + 0)] 1 E 132 (k_N_0_e49 n0 ca a E) := by
  refine CtE_mk g (by decide +kernel) rfl (Nat.le_of_ble_eq_true rfl) (fun p e s m args below meth c h hr hlk hin => ?_)
  show VE p l e (rmE 3 131 3160) s m args below meth c D n0 2 (MQ below (QE D n0 132 (k_N_0_e49 n0 ca a E)) args s 131 3160 (AE n0)) 0 0 1 E [(0, .ref (n0 + 0))] 0 []
  refine E_aload_n (pc := 0) h 0 dX10_init_0 rfl rfl ?_
  refine E_obj (pc := 1) h tw_1_30 tw_1_31 tw_1_32 dX10_init_1 (Nat.le_of_ble_eq_true rfl) (by decide) (by decide) ?_
  refine E_aload_n (pc := 4) h 0 dX10_init_4 rfl rfl ?_
  refine E_new (pc := 5) (fs := [.null, .int 0]) h tyX9 (k_N_0_e1 n0 ca a E) rfl u_in_X9 tyX9_ok tw_1_33 tw_1_34 tw_1_2 (fun j hj => by rcases (show j = 0 ∨ j = 1 by omega) with rfl | rfl <;> rfl) rfl (by decide) (by decide) dX10_init_5 ?_
  refine E_dup (pc := 8) h dX10_init_8 rfl ?_
  refine E_call (pc := 9) (x := 0) h [] [.ref (n0 + 1), .ref (n0 + 0)] 1 (Or.inr ⟨_, tw_1_35⟩) tw_1_36 tw_1_2 tw_1_37 (by decide +kernel) (by decide) rfl dX10_init_9 rfl rfl (Nat.le_of_ble_eq_true rfl) (by decide) (by decide) (by decide) (by decide) (k_Tape_1_ct h.gg (k_N_0_e1 n0 ca a E) rfl) ?_
  refine VE_as (E2 := (k_N_0_e2 n0 ca a E)) rfl ?_
  refine E_putF (pc := 12) h 0 (k_N_0_e3 n0 ca a E) hin ff_X10_10_X10 (by decide) hE (Nat.le_of_ble_eq_true rfl) rfl rfl rfl dX10_init_12 ?_
  refine E_aload_n (pc := 15) h 0 dX10_init_15 rfl rfl ?_
  refine E_new (pc := 16) (fs := [.null, .int 0, .null, .null, .null, .int 0, .int 0, .int 0]) h tyX8 (k_N_0_e4 n0 ca a E) rfl u_in_X8 tyX8_ok tw_1_50 tw_1_51 tw_1_4 (fun j hj => by rcases (show j = 0 ∨ j = 1 ∨ j = 2 ∨ j = 3 ∨ j = 4 ∨ j = 5 ∨ j = 6 ∨ j = 7 by omega) with rfl | rfl | rfl | rfl | rfl | rfl | rfl | rfl <;> rfl) rfl (by decide) (by decide) dX10_init_16 ?_
  refine E_dup (pc := 19) h dX10_init_19 rfl ?_
  refine E_aload_n (pc := 20) h 0 dX10_init_20 rfl rfl ?_
  refine E_get (pc := 21) h 0 (.ref (n0 + 1)) fl_X10_10_X10 (by decide) rfl rfl dX10_init_21 ?_
  refine E_call (pc := 24) (x := 1) h [.ref (n0 + 1)] [.ref (n0 + 3), .ref (n0 + 0)] 3 (Or.inl tw_1_52) tw_1_53 tw_1_4 tw_1_54 (by decide +kernel) (by decide) rfl dX10_init_24 rfl rfl (Nat.le_of_ble_eq_true rfl) (by decide) (by decide) (by decide) (by decide) (k_StreetReader_3_ct h.gg (k_N_0_e4 n0 ca a E) rfl) ?_
  refine VE_as (E2 := (k_N_0_e5 n0 ca a E)) rfl ?_
  refine E_putF (pc := 27) h 0 (k_N_0_e6 n0 ca a E) hin ff_X10_21_X10 (by decide) rfl (Nat.le_of_ble_eq_true rfl) rfl rfl rfl dX10_init_27 ?_
  refine E_aload_n (pc := 30) h 0 dX10_init_30 rfl rfl ?_
  refine E_new (pc := 31) (fs := [.null, .int 0, .null, .int 0]) h tyX2 (k_N_0_e7 n0 ca a E) rfl u_in_X2 tyX2_ok tw_1_95 tw_1_96 tw_1_5 (fun j hj => by rcases (show j = 0 ∨ j = 1 ∨ j = 2 ∨ j = 3 by omega) with rfl | rfl | rfl | rfl <;> rfl) rfl (by decide) (by decide) dX10_init_31 ?_
  refine E_dup (pc := 34) h dX10_init_34 rfl ?_
  refine E_aload_n (pc := 35) h 0 dX10_init_35 rfl rfl ?_
  refine E_get (pc := 36) h 0 (.ref (n0 + 1)) fl_X10_10_X10 (by decide) rfl rfl dX10_init_36 ?_
  refine E_call (pc := 39) (x := 1) h [.ref (n0 + 1)] [.ref (n0 + 13), .ref (n0 + 0)] 13 (Or.inl tw_1_97) tw_1_98 tw_1_5 tw_1_99 (by decide +kernel) (by decide) rfl dX10_init_39 rfl rfl (Nat.le_of_ble_eq_true rfl) (by decide) (by decide) (by decide) (by decide) (k_LikingReader_13_ct h.gg (k_N_0_e7 n0 ca a E) rfl) ?_
  refine VE_as (E2 := (k_N_0_e8 n0 ca a E)) rfl ?_
  refine E_putF (pc := 42) h 0 (k_N_0_e9 n0 ca a E) hin ff_X10_28_X10 (by decide) rfl (Nat.le_of_ble_eq_true rfl) rfl rfl rfl dX10_init_42 ?_
  refine E_aload_n (pc := 45) h 0 dX10_init_45 rfl rfl ?_
  refine E_iconst (pc := 46) (v := 4) h dX10_init_46 (by decide) ?_
  refine E_anew (pc := 47) h 4 (k_N_0_e10 n0 ca a E) tw_1_112 tw_1_113 (by decide) (by decide) (by decide) rfl (by decide) (by decide) dX10_init_47 ?_
  refine E_putF (pc := 50) h 0 (k_N_0_e11 n0 ca a E) hin ff_X10_34_X10 (by decide) rfl (Nat.le_of_ble_eq_true rfl) rfl rfl rfl dX10_init_50 ?_
  refine E_iconst (pc := 53) (v := 0) h dX10_init_53 (by decide) ?_
  refine E_istore_n (pc := 54) h [(1, .int (0 : Int32)), (0, .ref (n0 + 0))] dX10_init_54 rfl (by decide) rfl ?_
  refine E_iload_n (pc := 55) h 0 dX10_init_55 rfl rfl ?_
  refine E_iconst (pc := 56) (v := 4) h dX10_init_56 (by decide) ?_
  refine E_icmp_ge0 (pc := 57) h 79 dX10_init_57 (by decide) (by decide) ?_
  refine E_aload_n (pc := 60) h 1 dX10_init_60 rfl rfl ?_
  refine E_get (pc := 61) h 0 (.ref (n0 + 15)) fl_X10_34_X10 (by decide) rfl rfl dX10_init_61 ?_
  refine E_iload_n (pc := 64) h 0 dX10_init_64 rfl rfl ?_
  refine E_new (pc := 65) (fs := [.null, .null, .int 0]) h tyX1 (k_N_0_e12 n0 ca a E) rfl u_in_X1 tyX1_ok tw_1_112 tw_1_114 tw_1_6 (fun j hj => by rcases (show j = 0 ∨ j = 1 ∨ j = 2 by omega) with rfl | rfl | rfl <;> rfl) rfl (by decide) (by decide) dX10_init_65 ?_
  refine E_dup (pc := 68) h dX10_init_68 rfl ?_
  refine E_call (pc := 69) (x := 0) h [] [.ref (n0 + 16), .int (0 : Int32), .ref (n0 + 15)] 16 (Or.inr ⟨_, tw_1_115⟩) tw_1_116 tw_1_6 tw_1_117 (by decide +kernel) (by decide) rfl dX10_init_69 rfl rfl (Nat.le_of_ble_eq_true rfl) (by decide) (by decide) (by decide) (by decide) (k_Liking_16_ct h.gg (k_N_0_e12 n0 ca a E) rfl) ?_
  refine VE_as (E2 := (k_N_0_e13 n0 ca a E)) rfl ?_
  refine E_aast (pc := 72) h 15 16 4 (k_N_0_e14 n0 ca a E) (by decide) rfl (by decide) rfl (by decide) rfl dX10_init_72 ?_
  refine E_iinc (pc := 73) (v := 1) h 0 [(1, .int (1 : Int32)), (0, .ref (n0 + 0))] dX10_init_73 rfl (by decide) (by decide) rfl ?_
  refine E_goto (pc := 76) h 55 dX10_init_76 (by decide) ?_
  refine E_iload_n (pc := 55) h 0 dX10_init_55 rfl rfl ?_
  refine E_iconst (pc := 56) (v := 4) h dX10_init_56 (by decide) ?_
  refine E_icmp_ge0 (pc := 57) h 79 dX10_init_57 (by decide) (by decide) ?_
  refine E_aload_n (pc := 60) h 1 dX10_init_60 rfl rfl ?_
  refine E_get (pc := 61) h 0 (.ref (n0 + 15)) fl_X10_34_X10 (by decide) rfl rfl dX10_init_61 ?_
  refine E_iload_n (pc := 64) h 0 dX10_init_64 rfl rfl ?_
  refine E_new (pc := 65) (fs := [.null, .null, .int 0]) h tyX1 (k_N_0_e15 n0 ca a E) rfl u_in_X1 tyX1_ok tw_1_112 tw_1_114 tw_1_6 (fun j hj => by rcases (show j = 0 ∨ j = 1 ∨ j = 2 by omega) with rfl | rfl | rfl <;> rfl) rfl (by decide) (by decide) dX10_init_65 ?_
  refine E_dup (pc := 68) h dX10_init_68 rfl ?_
  refine E_call (pc := 69) (x := 0) h [] [.ref (n0 + 19), .int (1 : Int32), .ref (n0 + 15)] 19 (Or.inr ⟨_, tw_1_115⟩) tw_1_116 tw_1_6 tw_1_117 (by decide +kernel) (by decide) rfl dX10_init_69 rfl rfl (Nat.le_of_ble_eq_true rfl) (by decide) (by decide) (by decide) (by decide) (k_Liking_19_ct h.gg (k_N_0_e15 n0 ca a E) rfl) ?_
  refine VE_as (E2 := (k_N_0_e16 n0 ca a E)) rfl ?_
  refine E_aast (pc := 72) h 15 19 4 (k_N_0_e17 n0 ca a E) (by decide) rfl (by decide) rfl (by decide) rfl dX10_init_72 ?_
  refine E_iinc (pc := 73) (v := 2) h 0 [(1, .int (2 : Int32)), (0, .ref (n0 + 0))] dX10_init_73 rfl (by decide) (by decide) rfl ?_
  refine E_goto (pc := 76) h 55 dX10_init_76 (by decide) ?_
  refine E_iload_n (pc := 55) h 0 dX10_init_55 rfl rfl ?_
  refine E_iconst (pc := 56) (v := 4) h dX10_init_56 (by decide) ?_
  refine E_icmp_ge0 (pc := 57) h 79 dX10_init_57 (by decide) (by decide) ?_
  refine E_aload_n (pc := 60) h 1 dX10_init_60 rfl rfl ?_
  refine E_get (pc := 61) h 0 (.ref (n0 + 15)) fl_X10_34_X10 (by decide) rfl rfl dX10_init_61 ?_
  refine E_iload_n (pc := 64) h 0 dX10_init_64 rfl rfl ?_
  refine E_new (pc := 65) (fs := [.null, .null, .int 0]) h tyX1 (k_N_0_e18 n0 ca a E) rfl u_in_X1 tyX1_ok tw_1_112 tw_1_114 tw_1_6 (fun j hj => by rcases (show j = 0 ∨ j = 1 ∨ j = 2 by omega) with rfl | rfl | rfl <;> rfl) rfl (by decide) (by decide) dX10_init_65 ?_
  refine E_dup (pc := 68) h dX10_init_68 rfl ?_
  refine E_call (pc := 69) (x := 0) h [] [.ref (n0 + 22), .int (2 : Int32), .ref (n0 + 15)] 22 (Or.inr ⟨_, tw_1_115⟩) tw_1_116 tw_1_6 tw_1_117 (by decide +kernel) (by decide) rfl dX10_init_69 rfl rfl (Nat.le_of_ble_eq_true rfl) (by decide) (by decide) (by decide) (by decide) (k_Liking_22_ct h.gg (k_N_0_e18 n0 ca a E) rfl) ?_
  refine VE_as (E2 := (k_N_0_e19 n0 ca a E)) rfl ?_
  refine E_aast (pc := 72) h 15 22 4 (k_N_0_e20 n0 ca a E) (by decide) rfl (by decide) rfl (by decide) rfl dX10_init_72 ?_
  refine E_iinc (pc := 73) (v := 3) h 0 [(1, .int (3 : Int32)), (0, .ref (n0 + 0))] dX10_init_73 rfl (by decide) (by decide) rfl ?_
  refine E_goto (pc := 76) h 55 dX10_init_76 (by decide) ?_
  refine E_iload_n (pc := 55) h 0 dX10_init_55 rfl rfl ?_
  refine E_iconst (pc := 56) (v := 4) h dX10_init_56 (by decide) ?_
  refine E_icmp_ge0 (pc := 57) h 79 dX10_init_57 (by decide) (by decide) ?_
  refine E_aload_n (pc := 60) h 1 dX10_init_60 rfl rfl ?_
  refine E_get (pc := 61) h 0 (.ref (n0 + 15)) fl_X10_34_X10 (by decide) rfl rfl dX10_init_61 ?_
  refine E_iload_n (pc := 64) h 0 dX10_init_64 rfl rfl ?_
  refine E_new (pc := 65) (fs := [.null, .null, .int 0]) h tyX1 (k_N_0_e21 n0 ca a E) rfl u_in_X1 tyX1_ok tw_1_112 tw_1_114 tw_1_6 (fun j hj => by rcases (show j = 0 ∨ j = 1 ∨ j = 2 by omega) with rfl | rfl | rfl <;> rfl) rfl (by decide) (by decide) dX10_init_65 ?_
  refine E_dup (pc := 68) h dX10_init_68 rfl ?_
  refine E_call (pc := 69) (x := 0) h [] [.ref (n0 + 25), .int (3 : Int32), .ref (n0 + 15)] 25 (Or.inr ⟨_, tw_1_115⟩) tw_1_116 tw_1_6 tw_1_117 (by decide +kernel) (by decide) rfl dX10_init_69 rfl rfl (Nat.le_of_ble_eq_true rfl) (by decide) (by decide) (by decide) (by decide) (k_Liking_25_ct h.gg (k_N_0_e21 n0 ca a E) rfl) ?_
  refine VE_as (E2 := (k_N_0_e22 n0 ca a E)) rfl ?_
  refine E_aast (pc := 72) h 15 25 4 (k_N_0_e23 n0 ca a E) (by decide) rfl (by decide) rfl (by decide) rfl dX10_init_72 ?_
  refine E_iinc (pc := 73) (v := 4) h 0 [(1, .int (4 : Int32)), (0, .ref (n0 + 0))] dX10_init_73 rfl (by decide) (by decide) rfl ?_
  refine E_goto (pc := 76) h 55 dX10_init_76 (by decide) ?_
  refine E_iload_n (pc := 55) h 0 dX10_init_55 rfl rfl ?_
  refine E_iconst (pc := 56) (v := 4) h dX10_init_56 (by decide) ?_
  refine E_icmp_ge1 (pc := 57) h 79 dX10_init_57 (by decide) (by decide) ?_
  refine E_aload_n (pc := 79) h 1 dX10_init_79 rfl rfl ?_
  refine E_iconst (pc := 80) (v := 0) h dX10_init_80 (by decide) ?_
  refine E_put (pc := 81) h 0 (k_N_0_e24 n0 ca a E) fp_X10_39_X10 (by decide) rfl (Nat.le_of_ble_eq_true rfl) rfl rfl rfl dX10_init_81 ?_
  refine E_aload_n (pc := 84) h 1 dX10_init_84 rfl rfl ?_
  refine E_iconst (pc := 85) (v := -1) h dX10_init_85 (by decide) ?_
  refine E_put (pc := 86) h 0 (k_N_0_e25 n0 ca a E) fp_X10_43_X10 (by decide) rfl (Nat.le_of_ble_eq_true rfl) rfl rfl rfl dX10_init_86 ?_
  refine E_aload_n (pc := 89) h 1 dX10_init_89 rfl rfl ?_
  refine E_new (pc := 90) (fs := [.int 0, .int 0, .int 0, .int 0, .null, .null, .null, .null]) h tyX7 (k_N_0_e26 n0 ca a E) rfl u_in_X7 tyX7_ok tw_1_129 tw_1_130 tw_1_7 (fun j hj => by rcases (show j = 0 ∨ j = 1 ∨ j = 2 ∨ j = 3 ∨ j = 4 ∨ j = 5 ∨ j = 6 ∨ j = 7 by omega) with rfl | rfl | rfl | rfl | rfl | rfl | rfl | rfl <;> rfl) rfl (by decide) (by decide) dX10_init_90 ?_
  refine E_dup (pc := 93) h dX10_init_93 rfl ?_
  refine E_call (pc := 94) (x := 0) h [] [.ref (n0 + 28), .ref (n0 + 0)] 28 (Or.inr ⟨_, tw_1_131⟩) tw_1_132 tw_1_7 tw_1_133 (by decide +kernel) (by decide) rfl dX10_init_94 rfl rfl (Nat.le_of_ble_eq_true rfl) (by decide) (by decide) (by decide) (by decide) (k_Street_28_ct h.gg (k_N_0_e26 n0 ca a E) rfl) ?_
  refine VE_as (E2 := (k_N_0_e27 n0 ca a E)) rfl ?_
  refine E_putF (pc := 97) h 0 (k_N_0_e28 n0 ca a E) hin ff_X10_49_X10 (by decide) rfl (Nat.le_of_ble_eq_true rfl) rfl rfl rfl dX10_init_97 ?_
  refine E_aload_n (pc := 100) h 1 dX10_init_100 rfl rfl ?_
  refine E_new (pc := 101) (fs := [.int 0, .null, .null, .null, .null]) h tyX6 (k_N_0_e29 n0 ca a E) rfl u_in_X6 tyX6_ok tw_1_177 tw_1_178 tw_1_8 (fun j hj => by rcases (show j = 0 ∨ j = 1 ∨ j = 2 ∨ j = 3 ∨ j = 4 by omega) with rfl | rfl | rfl | rfl | rfl <;> rfl) rfl (by decide) (by decide) dX10_init_101 ?_
  refine E_dup (pc := 104) h dX10_init_104 rfl ?_
  refine E_call (pc := 105) (x := 0) h [] [.ref (n0 + 33), .ref (n0 + 0)] 33 (Or.inr ⟨_, tw_1_179⟩) tw_1_180 tw_1_8 tw_1_181 (by decide +kernel) (by decide) rfl dX10_init_105 rfl rfl (Nat.le_of_ble_eq_true rfl) (by decide) (by decide) (by decide) (by decide) (k_State_33_ct h.gg (k_N_0_e29 n0 ca a E) rfl) ?_
  refine VE_as (E2 := (k_N_0_e30 n0 ca a E)) rfl ?_
  refine E_putF (pc := 108) h 0 (k_N_0_e31 n0 ca a E) hin ff_X10_56_X10 (by decide) rfl (Nat.le_of_ble_eq_true rfl) rfl rfl rfl dX10_init_108 ?_
  refine E_aload_n (pc := 111) h 1 dX10_init_111 rfl rfl ?_
  refine E_new (pc := 112) (fs := [.int 0, .null, .null, .null, .null]) h tyX6 (k_N_0_e32 n0 ca a E) rfl u_in_X6 tyX6_ok tw_1_177 tw_1_178 tw_1_8 (fun j hj => by rcases (show j = 0 ∨ j = 1 ∨ j = 2 ∨ j = 3 ∨ j = 4 by omega) with rfl | rfl | rfl | rfl | rfl <;> rfl) rfl (by decide) (by decide) dX10_init_112 ?_
  refine E_dup (pc := 115) h dX10_init_115 rfl ?_
  refine E_call (pc := 116) (x := 0) h [] [.ref (n0 + 38), .ref (n0 + 0)] 38 (Or.inr ⟨_, tw_1_179⟩) tw_1_180 tw_1_8 tw_1_181 (by decide +kernel) (by decide) rfl dX10_init_116 rfl rfl (Nat.le_of_ble_eq_true rfl) (by decide) (by decide) (by decide) (by decide) (k_State_38_ct h.gg (k_N_0_e32 n0 ca a E) rfl) ?_
  refine VE_as (E2 := (k_N_0_e33 n0 ca a E)) rfl ?_
  refine E_putF (pc := 119) h 0 (k_N_0_e34 n0 ca a E) hin ff_X10_60_X10 (by decide) rfl (Nat.le_of_ble_eq_true rfl) rfl rfl rfl dX10_init_119 ?_
  refine E_aload_n (pc := 122) h 1 dX10_init_122 rfl rfl ?_
  refine E_new (pc := 123) (fs := [.int 0, .null, .null, .null, .null]) h tyX6 (k_N_0_e35 n0 ca a E) rfl u_in_X6 tyX6_ok tw_1_177 tw_1_178 tw_1_8 (fun j hj => by rcases (show j = 0 ∨ j = 1 ∨ j = 2 ∨ j = 3 ∨ j = 4 by omega) with rfl | rfl | rfl | rfl | rfl <;> rfl) rfl (by decide) (by decide) dX10_init_123 ?_
  refine E_dup (pc := 126) h dX10_init_126 rfl ?_
  refine E_call (pc := 127) (x := 0) h [] [.ref (n0 + 43), .ref (n0 + 0)] 43 (Or.inr ⟨_, tw_1_179⟩) tw_1_180 tw_1_8 tw_1_181 (by decide +kernel) (by decide) rfl dX10_init_127 rfl rfl (Nat.le_of_ble_eq_true rfl) (by decide) (by decide) (by decide) (by decide) (k_State_43_ct h.gg (k_N_0_e35 n0 ca a E) rfl) ?_
  refine VE_as (E2 := (k_N_0_e36 n0 ca a E)) rfl ?_
  refine E_putF (pc := 130) h 0 (k_N_0_e37 n0 ca a E) hin ff_X10_63_X10 (by decide) rfl (Nat.le_of_ble_eq_true rfl) rfl rfl rfl dX10_init_130 ?_
  refine E_aload_n (pc := 133) h 1 dX10_init_133 rfl rfl ?_
  refine E_iconst (pc := 134) (v := 0) h dX10_init_134 (by decide) ?_
  refine E_put (pc := 135) h 0 (k_N_0_e38 n0 ca a E) fp_X10_66_X10 (by decide) rfl (Nat.le_of_ble_eq_true rfl) rfl rfl rfl dX10_init_135 ?_
  refine E_aload_n (pc := 138) h 1 dX10_init_138 rfl rfl ?_
  refine E_new (pc := 139) (fs := [.null, .null, .int 0, .int 0]) h tyX4 (k_N_0_e39 n0 ca a E) rfl u_in_X4 tyX4_ok tw_1_210 tw_1_211 tw_1_9 (fun j hj => by rcases (show j = 0 ∨ j = 1 ∨ j = 2 ∨ j = 3 by omega) with rfl | rfl | rfl | rfl <;> rfl) rfl (by decide) (by decide) dX10_init_139 ?_
  refine E_dup (pc := 142) h dX10_init_142 rfl ?_
  refine E_call (pc := 143) (x := 0) h [] [.ref (n0 + 48), .ref (n0 + 0)] 48 (Or.inr ⟨_, tw_1_212⟩) tw_1_213 tw_1_9 tw_1_214 (by decide +kernel) (by decide) rfl dX10_init_143 rfl rfl (Nat.le_of_ble_eq_true rfl) (by decide) (by decide) (by decide) (by decide) (k_Past_48_ct h.gg (k_N_0_e39 n0 ca a E) rfl) ?_
  refine VE_as (E2 := (k_N_0_e40 n0 ca a E)) rfl ?_
  refine E_putF (pc := 146) h 0 (k_N_0_e41 n0 ca a E) hin ff_X10_73_X10 (by decide) rfl (Nat.le_of_ble_eq_true rfl) rfl rfl rfl dX10_init_146 ?_
  refine E_aload_n (pc := 149) h 1 dX10_init_149 rfl rfl ?_
  refine E_new (pc := 150) (fs := [.null, .null, .null, .null, .null, .null, .null, .int 0, .int 0, .int 0, .int 0, .int 0, .int 0]) h tyX3 (k_N_0_e42 n0 ca a E) rfl u_in_X3 tyX3_ok tw_1_231 tw_1_232 tw_1_10 (fun j hj => by rcases (show j = 0 ∨ j = 1 ∨ j = 2 ∨ j = 3 ∨ j = 4 ∨ j = 5 ∨ j = 6 ∨ j = 7 ∨ j = 8 ∨ j = 9 ∨ j = 10 ∨ j = 11 ∨ j = 12 by omega) with rfl | rfl | rfl | rfl | rfl | rfl | rfl | rfl | rfl | rfl | rfl | rfl | rfl <;> rfl) rfl (by decide) (by decide) dX10_init_150 ?_
  refine E_dup (pc := 153) h dX10_init_153 rfl ?_
  refine E_aload_n (pc := 154) h 1 dX10_init_154 rfl rfl ?_
  refine E_get (pc := 155) h 0 (.ref (n0 + 28)) fl_X10_49_X10 (by decide) rfl rfl dX10_init_155 ?_
  refine E_call (pc := 158) (x := 1) h [.ref (n0 + 28)] [.ref (n0 + 111), .ref (n0 + 0)] 111 (Or.inl tw_1_233) tw_1_234 tw_1_10 tw_1_235 (by decide +kernel) (by decide) rfl dX10_init_158 rfl rfl (Nat.le_of_ble_eq_true rfl) (by decide) (by decide) (by decide) (by decide) (k_Noon_111_ct h.gg (k_N_0_e42 n0 ca a E) rfl) ?_
  refine VE_as (E2 := (k_N_0_e43 n0 ca a E)) rfl ?_
  refine E_putF (pc := 161) h 0 (k_N_0_e44 n0 ca a E) hin ff_X10_82_X10 (by decide) rfl (Nat.le_of_ble_eq_true rfl) rfl rfl rfl dX10_init_161 ?_
  refine E_aload_n (pc := 164) h 1 dX10_init_164 rfl rfl ?_
  refine E_new (pc := 165) (fs := [.null, .null, .null, .int 0, .int 0, .int 0]) h tyX0 (k_N_0_e45 n0 ca a E) rfl u_in_X0 tyX0_ok tw_2_40 tw_2_41 tw_1_11 (fun j hj => by rcases (show j = 0 ∨ j = 1 ∨ j = 2 ∨ j = 3 ∨ j = 4 ∨ j = 5 by omega) with rfl | rfl | rfl | rfl | rfl | rfl <;> rfl) rfl (by decide) (by decide) dX10_init_165 ?_
  refine E_dup (pc := 168) h dX10_init_168 rfl ?_
  refine E_aload_n (pc := 169) h 1 dX10_init_169 rfl rfl ?_
  refine E_get (pc := 170) h 0 (.ref (n0 + 28)) fl_X10_49_X10 (by decide) rfl rfl dX10_init_170 ?_
  refine E_aload_n (pc := 173) h 1 dX10_init_173 rfl rfl ?_
  refine E_get (pc := 174) h 0 (.ref (n0 + 33)) fl_X10_56_X10 (by decide) rfl rfl dX10_init_174 ?_
  refine E_aload_n (pc := 177) h 1 dX10_init_177 rfl rfl ?_
  refine E_get (pc := 178) h 0 (.ref (n0 + 111)) fl_X10_82_X10 (by decide) rfl rfl dX10_init_178 ?_
  refine E_call (pc := 181) (x := 3) h [.ref (n0 + 28), .ref (n0 + 33), .ref (n0 + 111)] [.ref (n0 + 130), .ref (n0 + 0)] 130 (Or.inl tw_2_42) tw_2_43 tw_1_11 tw_2_44 (by decide +kernel) (by decide) rfl dX10_init_181 rfl rfl (Nat.le_of_ble_eq_true rfl) (by decide) (by decide) (by decide) (by decide) (k_Best_130_ct h.gg (k_N_0_e45 n0 ca a E) rfl) ?_
  refine VE_as (E2 := (k_N_0_e46 n0 ca a E)) rfl ?_
  refine E_putF (pc := 184) h 0 (k_N_0_e47 n0 ca a E) hin ff_X10_91_X10 (by decide) rfl (Nat.le_of_ble_eq_true rfl) rfl rfl rfl dX10_init_184 ?_
  refine E_aload_n (pc := 187) h 1 dX10_init_187 rfl rfl ?_
  refine E_bipush (pc := 188) (v := 6) h dX10_init_188 (by decide) ?_
  refine E_newa (pc := 190) (atype := .int) h 0 6 (k_N_0_e48 n0 ca a E) rfl (by decide) tw_1_49 (by decide) (by decide) (by decide) rfl (by decide) (by decide) dX10_init_190 ?_
  refine E_putF (pc := 192) h 0 (k_N_0_e49 n0 ca a E) hin ff_X10_95_X10 (by decide) rfl (Nat.le_of_ble_eq_true rfl) rfl rfl rfl dX10_init_192 ?_
  exact E_vret (pc := 195) h hr hlk rfl rfl dX10_init_195
def k_M_132_e1 (n0 : Nat) (ca : Nat → ClassId) (a : Nat → Nat) (E : Nat → va_E) : Nat → va_E := va_up E 133 (.inl (ca 1, 160, .inl (fun _ => 0)))
def k_M_132_e2 (n0 : Nat) (ca : Nat → ClassId) (a : Nat → Nat) (E : Nat → va_E) : Nat → va_E := va_up (k_M_132_e1 n0 ca a E) 132 (.inr (10, [.int 0, .ref (n0 + 133), .null, .null, .null, .null, .int 0, .int 0, .int 0, .int 0, .int 0, .int 0, .int 0, .int 0, .int 0, .null, .null, .int 0, .null, .null, .null, .null, .null, .null, .int 0, .int 0, .int 0, .int 0, .null, .null, .null, .int 0, .int 0, .null, .null, .null, .null, .null, .null, .int 0, .int 0, .int 0, .int 0, .int 0, .null, .null, .int 0, .null, .null, .int 0, .int 0, .int 0, .null, .null, .null, .null, .null, .int 0, .int 0]))
def k_M_132_e3 (n0 : Nat) (ca : Nat → ClassId) (a : Nat → Nat) (E : Nat → va_E) : Nat → va_E := va_up (k_M_132_e2 n0 ca a E) 134 (.inl (ca 1, 640, .inl (fun _ => 0)))
def k_M_132_e4 (n0 : Nat) (ca : Nat → ClassId) (a : Nat → Nat) (E : Nat → va_E) : Nat → va_E := va_up (k_M_132_e3 n0 ca a E) 132 (.inr (10, [.int 0, .ref (n0 + 133), .ref (n0 + 134), .null, .null, .null, .int 0, .int 0, .int 0, .int 0, .int 0, .int 0, .int 0, .int 0, .int 0, .null, .null, .int 0, .null, .null, .null, .null, .null, .null, .int 0, .int 0, .int 0, .int 0, .null, .null, .null, .int 0, .int 0, .null, .null, .null, .null, .null, .null, .int 0, .int 0, .int 0, .int 0, .int 0, .null, .null, .int 0, .null, .null, .int 0, .int 0, .int 0, .null, .null, .null, .null, .null, .int 0, .int 0]))
def k_M_132_e5 (n0 : Nat) (ca : Nat → ClassId) (a : Nat → Nat) (E : Nat → va_E) : Nat → va_E := va_up (k_M_132_e4 n0 ca a E) 135 (.inl (ca 0, 4, .inl (fun _ => 0)))
def k_M_132_e6 (n0 : Nat) (ca : Nat → ClassId) (a : Nat → Nat) (E : Nat → va_E) : Nat → va_E := va_up (k_M_132_e5 n0 ca a E) 132 (.inr (10, [.int 0, .ref (n0 + 133), .ref (n0 + 134), .ref (n0 + 135), .null, .null, .int 0, .int 0, .int 0, .int 0, .int 0, .int 0, .int 0, .int 0, .int 0, .null, .null, .int 0, .null, .null, .null, .null, .null, .null, .int 0, .int 0, .int 0, .int 0, .null, .null, .null, .int 0, .int 0, .null, .null, .null, .null, .null, .null, .int 0, .int 0, .int 0, .int 0, .int 0, .null, .null, .int 0, .null, .null, .int 0, .int 0, .int 0, .null, .null, .null, .null, .null, .int 0, .int 0]))
def k_M_132_e7 (n0 : Nat) (ca : Nat → ClassId) (a : Nat → Nat) (E : Nat → va_E) : Nat → va_E := va_up (k_M_132_e6 n0 ca a E) 136 (.inl (ca 0, 128, .inl (fun _ => 0)))
def k_M_132_e8 (n0 : Nat) (ca : Nat → ClassId) (a : Nat → Nat) (E : Nat → va_E) : Nat → va_E := va_up (k_M_132_e7 n0 ca a E) 132 (.inr (10, [.int 0, .ref (n0 + 133), .ref (n0 + 134), .ref (n0 + 135), .ref (n0 + 136), .null, .int 0, .int 0, .int 0, .int 0, .int 0, .int 0, .int 0, .int 0, .int 0, .null, .null, .int 0, .null, .null, .null, .null, .null, .null, .int 0, .int 0, .int 0, .int 0, .null, .null, .null, .int 0, .int 0, .null, .null, .null, .null, .null, .null, .int 0, .int 0, .int 0, .int 0, .int 0, .null, .null, .int 0, .null, .null, .int 0, .int 0, .int 0, .null, .null, .null, .null, .null, .int 0, .int 0]))
def k_M_132_e9 (n0 : Nat) (ca : Nat → ClassId) (a : Nat → Nat) (E : Nat → va_E) : Nat → va_E := va_up (k_M_132_e8 n0 ca a E) 132 (.inr (10, [.int 0, .ref (n0 + 133), .ref (n0 + 134), .ref (n0 + 135), .ref (n0 + 136), .ref (n0 + 133), .int 0, .int 0, .int 0, .int 0, .int 0, .int 0, .int 0, .int 0, .int 0, .null, .null, .int 0, .null, .null, .null, .null, .null, .null, .int 0, .int 0, .int 0, .int 0, .null, .null, .null, .int 0, .int 0, .null, .null, .null, .null, .null, .null, .int 0, .int 0, .int 0, .int 0, .int 0, .null, .null, .int 0, .null, .null, .int 0, .int 0, .int 0, .null, .null, .null, .null, .null, .int 0, .int 0]))
def k_M_132_e10 (n0 : Nat) (ca : Nat → ClassId) (a : Nat → Nat) (E : Nat → va_E) : Nat → va_E := va_up (k_M_132_e9 n0 ca a E) 132 (.inr (10, [.int 0, .ref (n0 + 133), .ref (n0 + 134), .ref (n0 + 135), .ref (n0 + 136), .ref (n0 + 133), .int 0, .int 0, .int 0, .int 0, .int 0, .int 0, .int 0, .int 0, .int 0, .ref (a (200 + 4)), .null, .int 0, .null, .null, .null, .null, .null, .null, .int 0, .int 0, .int 0, .int 0, .null, .null, .null, .int 0, .int 0, .null, .null, .null, .null, .null, .null, .int 0, .int 0, .int 0, .int 0, .int 0, .null, .null, .int 0, .null, .null, .int 0, .int 0, .int 0, .null, .null, .null, .null, .null, .int 0, .int 0]))
def k_M_132_e11 (n0 : Nat) (ca : Nat → ClassId) (a : Nat → Nat) (E : Nat → va_E) : Nat → va_E := va_up (k_M_132_e10 n0 ca a E) 132 (.inr (10, [.int 0, .ref (n0 + 133), .ref (n0 + 134), .ref (n0 + 135), .ref (n0 + 136), .ref (n0 + 133), .int 0, .int 0, .int 0, .int 0, .int 0, .int 0, .int 0, .int 0, .int 0, .ref (a (200 + 4)), .ref (a (200 + 0)), .int 0, .null, .null, .null, .null, .null, .null, .int 0, .int 0, .int 0, .int 0, .null, .null, .null, .int 0, .int 0, .null, .null, .null, .null, .null, .null, .int 0, .int 0, .int 0, .int 0, .int 0, .null, .null, .int 0, .null, .null, .int 0, .int 0, .int 0, .null, .null, .null, .null, .null, .int 0, .int 0]))
def k_M_132_e12 (n0 : Nat) (ca : Nat → ClassId) (a : Nat → Nat) (E : Nat → va_E) : Nat → va_E := va_up (k_M_132_e11 n0 ca a E) 137 (.inl (ca 0, 5, .inl (fun _ => 0)))
def k_M_132_e13 (n0 : Nat) (ca : Nat → ClassId) (a : Nat → Nat) (E : Nat → va_E) : Nat → va_E := va_up (k_M_132_e12 n0 ca a E) 132 (.inr (10, [.int 0, .ref (n0 + 133), .ref (n0 + 134), .ref (n0 + 135), .ref (n0 + 136), .ref (n0 + 133), .int 0, .int 0, .int 0, .int 0, .int 0, .int 0, .int 0, .int 0, .int 0, .ref (a (200 + 4)), .ref (a (200 + 0)), .int 0, .ref (n0 + 137), .null, .null, .null, .null, .null, .int 0, .int 0, .int 0, .int 0, .null, .null, .null, .int 0, .int 0, .null, .null, .null, .null, .null, .null, .int 0, .int 0, .int 0, .int 0, .int 0, .null, .null, .int 0, .null, .null, .int 0, .int 0, .int 0, .null, .null, .null, .null, .null, .int 0, .int 0]))
def k_M_132_e14 (n0 : Nat) (ca : Nat → ClassId) (a : Nat → Nat) (E : Nat → va_E) : Nat → va_E := va_up (k_M_132_e13 n0 ca a E) 138 (.inl (ca 0, 5, .inl (fun _ => 0)))
def k_M_132_e15 (n0 : Nat) (ca : Nat → ClassId) (a : Nat → Nat) (E : Nat → va_E) : Nat → va_E := va_up (k_M_132_e14 n0 ca a E) 132 (.inr (10, [.int 0, .ref (n0 + 133), .ref (n0 + 134), .ref (n0 + 135), .ref (n0 + 136), .ref (n0 + 133), .int 0, .int 0, .int 0, .int 0, .int 0, .int 0, .int 0, .int 0, .int 0, .ref (a (200 + 4)), .ref (a (200 + 0)), .int 0, .ref (n0 + 137), .ref (n0 + 138), .null, .null, .null, .null, .int 0, .int 0, .int 0, .int 0, .null, .null, .null, .int 0, .int 0, .null, .null, .null, .null, .null, .null, .int 0, .int 0, .int 0, .int 0, .int 0, .null, .null, .int 0, .null, .null, .int 0, .int 0, .int 0, .null, .null, .null, .null, .null, .int 0, .int 0]))
def k_M_132_e16 (n0 : Nat) (ca : Nat → ClassId) (a : Nat → Nat) (E : Nat → va_E) : Nat → va_E := va_up (k_M_132_e15 n0 ca a E) 139 (.inl (ca 0, 48, .inl (fun _ => 0)))
def k_M_132_e17 (n0 : Nat) (ca : Nat → ClassId) (a : Nat → Nat) (E : Nat → va_E) : Nat → va_E := va_up (k_M_132_e16 n0 ca a E) 132 (.inr (10, [.int 0, .ref (n0 + 133), .ref (n0 + 134), .ref (n0 + 135), .ref (n0 + 136), .ref (n0 + 133), .int 0, .int 0, .int 0, .int 0, .int 0, .int 0, .int 0, .int 0, .int 0, .ref (a (200 + 4)), .ref (a (200 + 0)), .int 0, .ref (n0 + 137), .ref (n0 + 138), .ref (n0 + 139), .null, .null, .null, .int 0, .int 0, .int 0, .int 0, .null, .null, .null, .int 0, .int 0, .null, .null, .null, .null, .null, .null, .int 0, .int 0, .int 0, .int 0, .int 0, .null, .null, .int 0, .null, .null, .int 0, .int 0, .int 0, .null, .null, .null, .null, .null, .int 0, .int 0]))
def k_M_132_e18 (n0 : Nat) (ca : Nat → ClassId) (a : Nat → Nat) (E : Nat → va_E) : Nat → va_E := va_up (k_M_132_e17 n0 ca a E) 140 (.inl (ca 0, 48, .inl (fun _ => 0)))
def k_M_132_e19 (n0 : Nat) (ca : Nat → ClassId) (a : Nat → Nat) (E : Nat → va_E) : Nat → va_E := va_up (k_M_132_e18 n0 ca a E) 132 (.inr (10, [.int 0, .ref (n0 + 133), .ref (n0 + 134), .ref (n0 + 135), .ref (n0 + 136), .ref (n0 + 133), .int 0, .int 0, .int 0, .int 0, .int 0, .int 0, .int 0, .int 0, .int 0, .ref (a (200 + 4)), .ref (a (200 + 0)), .int 0, .ref (n0 + 137), .ref (n0 + 138), .ref (n0 + 139), .ref (n0 + 140), .null, .null, .int 0, .int 0, .int 0, .int 0, .null, .null, .null, .int 0, .int 0, .null, .null, .null, .null, .null, .null, .int 0, .int 0, .int 0, .int 0, .int 0, .null, .null, .int 0, .null, .null, .int 0, .int 0, .int 0, .null, .null, .null, .null, .null, .int 0, .int 0]))
def k_M_132_e20 (n0 : Nat) (ca : Nat → ClassId) (a : Nat → Nat) (E : Nat → va_E) : Nat → va_E := va_up (k_M_132_e19 n0 ca a E) 141 (.inl (ca 0, 3, .inl (fun _ => 0)))
def k_M_132_e21 (n0 : Nat) (ca : Nat → ClassId) (a : Nat → Nat) (E : Nat → va_E) : Nat → va_E := va_up (k_M_132_e20 n0 ca a E) 132 (.inr (10, [.int 0, .ref (n0 + 133), .ref (n0 + 134), .ref (n0 + 135), .ref (n0 + 136), .ref (n0 + 133), .int 0, .int 0, .int 0, .int 0, .int 0, .int 0, .int 0, .int 0, .int 0, .ref (a (200 + 4)), .ref (a (200 + 0)), .int 0, .ref (n0 + 137), .ref (n0 + 138), .ref (n0 + 139), .ref (n0 + 140), .ref (n0 + 141), .null, .int 0, .int 0, .int 0, .int 0, .null, .null, .null, .int 0, .int 0, .null, .null, .null, .null, .null, .null, .int 0, .int 0, .int 0, .int 0, .int 0, .null, .null, .int 0, .null, .null, .int 0, .int 0, .int 0, .null, .null, .null, .null, .null, .int 0, .int 0]))
def k_M_132_e22 (n0 : Nat) (ca : Nat → ClassId) (a : Nat → Nat) (E : Nat → va_E) : Nat → va_E := va_up (k_M_132_e21 n0 ca a E) 142 (.inl (ca 0, 3, .inl (fun _ => 0)))
def k_M_132_e23 (n0 : Nat) (ca : Nat → ClassId) (a : Nat → Nat) (E : Nat → va_E) : Nat → va_E := va_up (k_M_132_e22 n0 ca a E) 132 (.inr (10, [.int 0, .ref (n0 + 133), .ref (n0 + 134), .ref (n0 + 135), .ref (n0 + 136), .ref (n0 + 133), .int 0, .int 0, .int 0, .int 0, .int 0, .int 0, .int 0, .int 0, .int 0, .ref (a (200 + 4)), .ref (a (200 + 0)), .int 0, .ref (n0 + 137), .ref (n0 + 138), .ref (n0 + 139), .ref (n0 + 140), .ref (n0 + 141), .ref (n0 + 142), .int 0, .int 0, .int 0, .int 0, .null, .null, .null, .int 0, .int 0, .null, .null, .null, .null, .null, .null, .int 0, .int 0, .int 0, .int 0, .int 0, .null, .null, .int 0, .null, .null, .int 0, .int 0, .int 0, .null, .null, .null, .null, .null, .int 0, .int 0]))
def k_M_132_e24 (n0 : Nat) (ca : Nat → ClassId) (a : Nat → Nat) (E : Nat → va_E) : Nat → va_E := va_up (k_M_132_e23 n0 ca a E) 143 (.inl (ca 0, 6, .inl (fun _ => 0)))
def k_M_132_e25 (n0 : Nat) (ca : Nat → ClassId) (a : Nat → Nat) (E : Nat → va_E) : Nat → va_E := va_up (k_M_132_e24 n0 ca a E) 132 (.inr (10, [.int 0, .ref (n0 + 133), .ref (n0 + 134), .ref (n0 + 135), .ref (n0 + 136), .ref (n0 + 133), .int 0, .int 0, .int 0, .int 0, .int 0, .int 0, .int 0, .int 0, .int 0, .ref (a (200 + 4)), .ref (a (200 + 0)), .int 0, .ref (n0 + 137), .ref (n0 + 138), .ref (n0 + 139), .ref (n0 + 140), .ref (n0 + 141), .ref (n0 + 142), .int 0, .int 0, .int 0, .int 0, .ref (n0 + 143), .null, .null, .int 0, .int 0, .null, .null, .null, .null, .null, .null, .int 0, .int 0, .int 0, .int 0, .int 0, .null, .null, .int 0, .null, .null, .int 0, .int 0, .int 0, .null, .null, .null, .null, .null, .int 0, .int 0]))
def k_M_132_e26 (n0 : Nat) (ca : Nat → ClassId) (a : Nat → Nat) (E : Nat → va_E) : Nat → va_E := va_up (k_M_132_e25 n0 ca a E) 144 (.inl (ca 0, 6, .inl (fun _ => 0)))
def k_M_132_e27 (n0 : Nat) (ca : Nat → ClassId) (a : Nat → Nat) (E : Nat → va_E) : Nat → va_E := va_up (k_M_132_e26 n0 ca a E) 132 (.inr (10, [.int 0, .ref (n0 + 133), .ref (n0 + 134), .ref (n0 + 135), .ref (n0 + 136), .ref (n0 + 133), .int 0, .int 0, .int 0, .int 0, .int 0, .int 0, .int 0, .int 0, .int 0, .ref (a (200 + 4)), .ref (a (200 + 0)), .int 0, .ref (n0 + 137), .ref (n0 + 138), .ref (n0 + 139), .ref (n0 + 140), .ref (n0 + 141), .ref (n0 + 142), .int 0, .int 0, .int 0, .int 0, .ref (n0 + 143), .ref (n0 + 144), .null, .int 0, .int 0, .null, .null, .null, .null, .null, .null, .int 0, .int 0, .int 0, .int 0, .int 0, .null, .null, .int 0, .null, .null, .int 0, .int 0, .int 0, .null, .null, .null, .null, .null, .int 0, .int 0]))
def k_M_132_e28 (n0 : Nat) (ca : Nat → ClassId) (a : Nat → Nat) (E : Nat → va_E) : Nat → va_E := va_up (k_M_132_e27 n0 ca a E) 145 (.inl (ca 0, 6, .inl (fun _ => 0)))
def k_M_132_e29 (n0 : Nat) (ca : Nat → ClassId) (a : Nat → Nat) (E : Nat → va_E) : Nat → va_E := va_up (k_M_132_e28 n0 ca a E) 132 (.inr (10, [.int 0, .ref (n0 + 133), .ref (n0 + 134), .ref (n0 + 135), .ref (n0 + 136), .ref (n0 + 133), .int 0, .int 0, .int 0, .int 0, .int 0, .int 0, .int 0, .int 0, .int 0, .ref (a (200 + 4)), .ref (a (200 + 0)), .int 0, .ref (n0 + 137), .ref (n0 + 138), .ref (n0 + 139), .ref (n0 + 140), .ref (n0 + 141), .ref (n0 + 142), .int 0, .int 0, .int 0, .int 0, .ref (n0 + 143), .ref (n0 + 144), .ref (n0 + 145), .int 0, .int 0, .null, .null, .null, .null, .null, .null, .int 0, .int 0, .int 0, .int 0, .int 0, .null, .null, .int 0, .null, .null, .int 0, .int 0, .int 0, .null, .null, .null, .null, .null, .int 0, .int 0]))
def k_M_132_e30 (n0 : Nat) (ca : Nat → ClassId) (a : Nat → Nat) (E : Nat → va_E) : Nat → va_E := va_up (k_M_132_e29 n0 ca a E) 132 (.inr (10, [.int 0, .ref (n0 + 133), .ref (n0 + 134), .ref (n0 + 135), .ref (n0 + 136), .ref (n0 + 133), .int 0, .int 0, .int 0, .int 0, .int 0, .int 0, .int 0, .int 0, .int 0, .ref (a (200 + 4)), .ref (a (200 + 0)), .int 0, .ref (n0 + 137), .ref (n0 + 138), .ref (n0 + 139), .ref (n0 + 140), .ref (n0 + 141), .ref (n0 + 142), .int 0, .int 0, .int 0, .int 0, .ref (n0 + 143), .ref (n0 + 144), .ref (n0 + 145), .int (-1 : Int32), .int 0, .null, .null, .null, .null, .null, .null, .int 0, .int 0, .int 0, .int 0, .int 0, .null, .null, .int 0, .null, .null, .int 0, .int 0, .int 0, .null, .null, .null, .null, .null, .int 0, .int 0]))
def k_M_132_e31 (n0 : Nat) (ca : Nat → ClassId) (a : Nat → Nat) (E : Nat → va_E) : Nat → va_E := va_up (k_M_132_e30 n0 ca a E) 146 (.inl (ca 0, 6, .inl (fun _ => 0)))
def k_M_132_e32 (n0 : Nat) (ca : Nat → ClassId) (a : Nat → Nat) (E : Nat → va_E) : Nat → va_E := va_up (k_M_132_e31 n0 ca a E) 132 (.inr (10, [.int 0, .ref (n0 + 133), .ref (n0 + 134), .ref (n0 + 135), .ref (n0 + 136), .ref (n0 + 133), .int 0, .int 0, .int 0, .int 0, .int 0, .int 0, .int 0, .int 0, .int 0, .ref (a (200 + 4)), .ref (a (200 + 0)), .int 0, .ref (n0 + 137), .ref (n0 + 138), .ref (n0 + 139), .ref (n0 + 140), .ref (n0 + 141), .ref (n0 + 142), .int 0, .int 0, .int 0, .int 0, .ref (n0 + 143), .ref (n0 + 144), .ref (n0 + 145), .int (-1 : Int32), .int 0, .ref (n0 + 146), .null, .null, .null, .null, .null, .int 0, .int 0, .int 0, .int 0, .int 0, .null, .null, .int 0, .null, .null, .int 0, .int 0, .int 0, .null, .null, .null, .null, .null, .int 0, .int 0]))
def k_M_132_e33 (n0 : Nat) (ca : Nat → ClassId) (a : Nat → Nat) (E : Nat → va_E) : Nat → va_E := va_up (k_M_132_e32 n0 ca a E) 147 (.inl (ca 0, 6, .inl (fun _ => 0)))
def k_M_132_e34 (n0 : Nat) (ca : Nat → ClassId) (a : Nat → Nat) (E : Nat → va_E) : Nat → va_E := va_up (k_M_132_e33 n0 ca a E) 132 (.inr (10, [.int 0, .ref (n0 + 133), .ref (n0 + 134), .ref (n0 + 135), .ref (n0 + 136), .ref (n0 + 133), .int 0, .int 0, .int 0, .int 0, .int 0, .int 0, .int 0, .int 0, .int 0, .ref (a (200 + 4)), .ref (a (200 + 0)), .int 0, .ref (n0 + 137), .ref (n0 + 138), .ref (n0 + 139), .ref (n0 + 140), .ref (n0 + 141), .ref (n0 + 142), .int 0, .int 0, .int 0, .int 0, .ref (n0 + 143), .ref (n0 + 144), .ref (n0 + 145), .int (-1 : Int32), .int 0, .ref (n0 + 146), .ref (n0 + 147), .null, .null, .null, .null, .int 0, .int 0, .int 0, .int 0, .int 0, .null, .null, .int 0, .null, .null, .int 0, .int 0, .int 0, .null, .null, .null, .null, .null, .int 0, .int 0]))
def k_M_132_e35 (n0 : Nat) (ca : Nat → ClassId) (a : Nat → Nat) (E : Nat → va_E) : Nat → va_E := va_up (k_M_132_e34 n0 ca a E) 148 (.inl (ca 0, 36, .inl (fun _ => 0)))
def k_M_132_e36 (n0 : Nat) (ca : Nat → ClassId) (a : Nat → Nat) (E : Nat → va_E) : Nat → va_E := va_up (k_M_132_e35 n0 ca a E) 132 (.inr (10, [.int 0, .ref (n0 + 133), .ref (n0 + 134), .ref (n0 + 135), .ref (n0 + 136), .ref (n0 + 133), .int 0, .int 0, .int 0, .int 0, .int 0, .int 0, .int 0, .int 0, .int 0, .ref (a (200 + 4)), .ref (a (200 + 0)), .int 0, .ref (n0 + 137), .ref (n0 + 138), .ref (n0 + 139), .ref (n0 + 140), .ref (n0 + 141), .ref (n0 + 142), .int 0, .int 0, .int 0, .int 0, .ref (n0 + 143), .ref (n0 + 144), .ref (n0 + 145), .int (-1 : Int32), .int 0, .ref (n0 + 146), .ref (n0 + 147), .ref (n0 + 148), .null, .null, .null, .int 0, .int 0, .int 0, .int 0, .int 0, .null, .null, .int 0, .null, .null, .int 0, .int 0, .int 0, .null, .null, .null, .null, .null, .int 0, .int 0]))
def k_M_132_e37 (n0 : Nat) (ca : Nat → ClassId) (a : Nat → Nat) (E : Nat → va_E) : Nat → va_E := va_up (k_M_132_e36 n0 ca a E) 149 (.inl (ca 0, 6, .inl (fun _ => 0)))
def k_M_132_e38 (n0 : Nat) (ca : Nat → ClassId) (a : Nat → Nat) (E : Nat → va_E) : Nat → va_E := va_up (k_M_132_e37 n0 ca a E) 132 (.inr (10, [.int 0, .ref (n0 + 133), .ref (n0 + 134), .ref (n0 + 135), .ref (n0 + 136), .ref (n0 + 133), .int 0, .int 0, .int 0, .int 0, .int 0, .int 0, .int 0, .int 0, .int 0, .ref (a (200 + 4)), .ref (a (200 + 0)), .int 0, .ref (n0 + 137), .ref (n0 + 138), .ref (n0 + 139), .ref (n0 + 140), .ref (n0 + 141), .ref (n0 + 142), .int 0, .int 0, .int 0, .int 0, .ref (n0 + 143), .ref (n0 + 144), .ref (n0 + 145), .int (-1 : Int32), .int 0, .ref (n0 + 146), .ref (n0 + 147), .ref (n0 + 148), .ref (n0 + 149), .null, .null, .int 0, .int 0, .int 0, .int 0, .int 0, .null, .null, .int 0, .null, .null, .int 0, .int 0, .int 0, .null, .null, .null, .null, .null, .int 0, .int 0]))
def k_M_132_e39 (n0 : Nat) (ca : Nat → ClassId) (a : Nat → Nat) (E : Nat → va_E) : Nat → va_E := va_up (k_M_132_e38 n0 ca a E) 150 (.inl (ca 0, 6, .inl (fun _ => 0)))
def k_M_132_e40 (n0 : Nat) (ca : Nat → ClassId) (a : Nat → Nat) (E : Nat → va_E) : Nat → va_E := va_up (k_M_132_e39 n0 ca a E) 132 (.inr (10, [.int 0, .ref (n0 + 133), .ref (n0 + 134), .ref (n0 + 135), .ref (n0 + 136), .ref (n0 + 133), .int 0, .int 0, .int 0, .int 0, .int 0, .int 0, .int 0, .int 0, .int 0, .ref (a (200 + 4)), .ref (a (200 + 0)), .int 0, .ref (n0 + 137), .ref (n0 + 138), .ref (n0 + 139), .ref (n0 + 140), .ref (n0 + 141), .ref (n0 + 142), .int 0, .int 0, .int 0, .int 0, .ref (n0 + 143), .ref (n0 + 144), .ref (n0 + 145), .int (-1 : Int32), .int 0, .ref (n0 + 146), .ref (n0 + 147), .ref (n0 + 148), .ref (n0 + 149), .ref (n0 + 150), .null, .int 0, .int 0, .int 0, .int 0, .int 0, .null, .null, .int 0, .null, .null, .int 0, .int 0, .int 0, .null, .null, .null, .null, .null, .int 0, .int 0]))
def k_M_132_e41 (n0 : Nat) (ca : Nat → ClassId) (a : Nat → Nat) (E : Nat → va_E) : Nat → va_E := va_up (k_M_132_e40 n0 ca a E) 151 (.inl (ca 0, 6, .inl (fun _ => 0)))
def k_M_132_e42 (n0 : Nat) (ca : Nat → ClassId) (a : Nat → Nat) (E : Nat → va_E) : Nat → va_E := va_up (k_M_132_e41 n0 ca a E) 132 (.inr (10, [.int 0, .ref (n0 + 133), .ref (n0 + 134), .ref (n0 + 135), .ref (n0 + 136), .ref (n0 + 133), .int 0, .int 0, .int 0, .int 0, .int 0, .int 0, .int 0, .int 0, .int 0, .ref (a (200 + 4)), .ref (a (200 + 0)), .int 0, .ref (n0 + 137), .ref (n0 + 138), .ref (n0 + 139), .ref (n0 + 140), .ref (n0 + 141), .ref (n0 + 142), .int 0, .int 0, .int 0, .int 0, .ref (n0 + 143), .ref (n0 + 144), .ref (n0 + 145), .int (-1 : Int32), .int 0, .ref (n0 + 146), .ref (n0 + 147), .ref (n0 + 148), .ref (n0 + 149), .ref (n0 + 150), .ref (n0 + 151), .int 0, .int 0, .int 0, .int 0, .int 0, .null, .null, .int 0, .null, .null, .int 0, .int 0, .int 0, .null, .null, .null, .null, .null, .int 0, .int 0]))
def k_M_132_e43 (n0 : Nat) (ca : Nat → ClassId) (a : Nat → Nat) (E : Nat → va_E) : Nat → va_E := va_up (k_M_132_e42 n0 ca a E) 132 (.inr (10, [.int 0, .ref (n0 + 133), .ref (n0 + 134), .ref (n0 + 135), .ref (n0 + 136), .ref (n0 + 133), .int 0, .int 0, .int 0, .int 0, .int 0, .int 0, .int 0, .int 0, .int 0, .ref (a (200 + 4)), .ref (a (200 + 0)), .int 0, .ref (n0 + 137), .ref (n0 + 138), .ref (n0 + 139), .ref (n0 + 140), .ref (n0 + 141), .ref (n0 + 142), .int 0, .int 0, .int 0, .int 0, .ref (n0 + 143), .ref (n0 + 144), .ref (n0 + 145), .int (-1 : Int32), .int 0, .ref (n0 + 146), .ref (n0 + 147), .ref (n0 + 148), .ref (n0 + 149), .ref (n0 + 150), .ref (n0 + 151), .int 0, .int (-1 : Int32), .int 0, .int 0, .int 0, .null, .null, .int 0, .null, .null, .int 0, .int 0, .int 0, .null, .null, .null, .null, .null, .int 0, .int 0]))
def k_M_132_e44 (n0 : Nat) (ca : Nat → ClassId) (a : Nat → Nat) (E : Nat → va_E) : Nat → va_E := va_up (k_M_132_e43 n0 ca a E) 132 (.inr (10, [.int 0, .ref (n0 + 133), .ref (n0 + 134), .ref (n0 + 135), .ref (n0 + 136), .ref (n0 + 133), .int 0, .int 0, .int 0, .int 0, .int 0, .int 0, .int 0, .int 0, .int 0, .ref (a (200 + 4)), .ref (a (200 + 0)), .int 0, .ref (n0 + 137), .ref (n0 + 138), .ref (n0 + 139), .ref (n0 + 140), .ref (n0 + 141), .ref (n0 + 142), .int 0, .int 0, .int 0, .int 0, .ref (n0 + 143), .ref (n0 + 144), .ref (n0 + 145), .int (-1 : Int32), .int 0, .ref (n0 + 146), .ref (n0 + 147), .ref (n0 + 148), .ref (n0 + 149), .ref (n0 + 150), .ref (n0 + 151), .int 0, .int (-1 : Int32), .int 0, .int (-1 : Int32), .int 0, .null, .null, .int 0, .null, .null, .int 0, .int 0, .int 0, .null, .null, .null, .null, .null, .int 0, .int 0]))
def k_M_132_e45 (n0 : Nat) (ca : Nat → ClassId) (a : Nat → Nat) (E : Nat → va_E) : Nat → va_E := va_up (k_M_132_e44 n0 ca a E) 152 (.inl (ca 0, 900, .inl (fun _ => 0)))
def k_M_132_e46 (n0 : Nat) (ca : Nat → ClassId) (a : Nat → Nat) (E : Nat → va_E) : Nat → va_E := va_up (k_M_132_e45 n0 ca a E) 132 (.inr (10, [.int 0, .ref (n0 + 133), .ref (n0 + 134), .ref (n0 + 135), .ref (n0 + 136), .ref (n0 + 133), .int 0, .int 0, .int 0, .int 0, .int 0, .int 0, .int 0, .int 0, .int 0, .ref (a (200 + 4)), .ref (a (200 + 0)), .int 0, .ref (n0 + 137), .ref (n0 + 138), .ref (n0 + 139), .ref (n0 + 140), .ref (n0 + 141), .ref (n0 + 142), .int 0, .int 0, .int 0, .int 0, .ref (n0 + 143), .ref (n0 + 144), .ref (n0 + 145), .int (-1 : Int32), .int 0, .ref (n0 + 146), .ref (n0 + 147), .ref (n0 + 148), .ref (n0 + 149), .ref (n0 + 150), .ref (n0 + 151), .int 0, .int (-1 : Int32), .int 0, .int (-1 : Int32), .int 0, .ref (n0 + 152), .null, .int 0, .null, .null, .int 0, .int 0, .int 0, .null, .null, .null, .null, .null, .int 0, .int 0]))
def k_M_132_e47 (n0 : Nat) (ca : Nat → ClassId) (a : Nat → Nat) (E : Nat → va_E) : Nat → va_E := va_up (k_M_132_e46 n0 ca a E) 153 (.inl (ca 0, 180, .inl (fun _ => 0)))
def k_M_132_e48 (n0 : Nat) (ca : Nat → ClassId) (a : Nat → Nat) (E : Nat → va_E) : Nat → va_E := va_up (k_M_132_e47 n0 ca a E) 132 (.inr (10, [.int 0, .ref (n0 + 133), .ref (n0 + 134), .ref (n0 + 135), .ref (n0 + 136), .ref (n0 + 133), .int 0, .int 0, .int 0, .int 0, .int 0, .int 0, .int 0, .int 0, .int 0, .ref (a (200 + 4)), .ref (a (200 + 0)), .int 0, .ref (n0 + 137), .ref (n0 + 138), .ref (n0 + 139), .ref (n0 + 140), .ref (n0 + 141), .ref (n0 + 142), .int 0, .int 0, .int 0, .int 0, .ref (n0 + 143), .ref (n0 + 144), .ref (n0 + 145), .int (-1 : Int32), .int 0, .ref (n0 + 146), .ref (n0 + 147), .ref (n0 + 148), .ref (n0 + 149), .ref (n0 + 150), .ref (n0 + 151), .int 0, .int (-1 : Int32), .int 0, .int (-1 : Int32), .int 0, .ref (n0 + 152), .ref (n0 + 153), .int 0, .null, .null, .int 0, .int 0, .int 0, .null, .null, .null, .null, .null, .int 0, .int 0]))
def k_M_132_e49 (n0 : Nat) (ca : Nat → ClassId) (a : Nat → Nat) (E : Nat → va_E) : Nat → va_E := va_up (k_M_132_e48 n0 ca a E) 154 (.inl (ca 0, 6, .inl (fun _ => 0)))
def k_M_132_e50 (n0 : Nat) (ca : Nat → ClassId) (a : Nat → Nat) (E : Nat → va_E) : Nat → va_E := va_up (k_M_132_e49 n0 ca a E) 132 (.inr (10, [.int 0, .ref (n0 + 133), .ref (n0 + 134), .ref (n0 + 135), .ref (n0 + 136), .ref (n0 + 133), .int 0, .int 0, .int 0, .int 0, .int 0, .int 0, .int 0, .int 0, .int 0, .ref (a (200 + 4)), .ref (a (200 + 0)), .int 0, .ref (n0 + 137), .ref (n0 + 138), .ref (n0 + 139), .ref (n0 + 140), .ref (n0 + 141), .ref (n0 + 142), .int 0, .int 0, .int 0, .int 0, .ref (n0 + 143), .ref (n0 + 144), .ref (n0 + 145), .int (-1 : Int32), .int 0, .ref (n0 + 146), .ref (n0 + 147), .ref (n0 + 148), .ref (n0 + 149), .ref (n0 + 150), .ref (n0 + 151), .int 0, .int (-1 : Int32), .int 0, .int (-1 : Int32), .int 0, .ref (n0 + 152), .ref (n0 + 153), .int 0, .ref (n0 + 154), .null, .int 0, .int 0, .int 0, .null, .null, .null, .null, .null, .int 0, .int 0]))
def k_M_132_e51 (n0 : Nat) (ca : Nat → ClassId) (a : Nat → Nat) (E : Nat → va_E) : Nat → va_E := va_up (k_M_132_e50 n0 ca a E) 155 (.inl (ca 0, 6, .inl (fun _ => 0)))
def k_M_132_e52 (n0 : Nat) (ca : Nat → ClassId) (a : Nat → Nat) (E : Nat → va_E) : Nat → va_E := va_up (k_M_132_e51 n0 ca a E) 132 (.inr (10, [.int 0, .ref (n0 + 133), .ref (n0 + 134), .ref (n0 + 135), .ref (n0 + 136), .ref (n0 + 133), .int 0, .int 0, .int 0, .int 0, .int 0, .int 0, .int 0, .int 0, .int 0, .ref (a (200 + 4)), .ref (a (200 + 0)), .int 0, .ref (n0 + 137), .ref (n0 + 138), .ref (n0 + 139), .ref (n0 + 140), .ref (n0 + 141), .ref (n0 + 142), .int 0, .int 0, .int 0, .int 0, .ref (n0 + 143), .ref (n0 + 144), .ref (n0 + 145), .int (-1 : Int32), .int 0, .ref (n0 + 146), .ref (n0 + 147), .ref (n0 + 148), .ref (n0 + 149), .ref (n0 + 150), .ref (n0 + 151), .int 0, .int (-1 : Int32), .int 0, .int (-1 : Int32), .int 0, .ref (n0 + 152), .ref (n0 + 153), .int 0, .ref (n0 + 154), .ref (n0 + 155), .int 0, .int 0, .int 0, .null, .null, .null, .null, .null, .int 0, .int 0]))
def k_M_132_e53 (n0 : Nat) (ca : Nat → ClassId) (a : Nat → Nat) (E : Nat → va_E) : Nat → va_E := va_up (k_M_132_e52 n0 ca a E) 156 (.inl (ca 0, 6, .inl (fun _ => 0)))
def k_M_132_e54 (n0 : Nat) (ca : Nat → ClassId) (a : Nat → Nat) (E : Nat → va_E) : Nat → va_E := va_up (k_M_132_e53 n0 ca a E) 132 (.inr (10, [.int 0, .ref (n0 + 133), .ref (n0 + 134), .ref (n0 + 135), .ref (n0 + 136), .ref (n0 + 133), .int 0, .int 0, .int 0, .int 0, .int 0, .int 0, .int 0, .int 0, .int 0, .ref (a (200 + 4)), .ref (a (200 + 0)), .int 0, .ref (n0 + 137), .ref (n0 + 138), .ref (n0 + 139), .ref (n0 + 140), .ref (n0 + 141), .ref (n0 + 142), .int 0, .int 0, .int 0, .int 0, .ref (n0 + 143), .ref (n0 + 144), .ref (n0 + 145), .int (-1 : Int32), .int 0, .ref (n0 + 146), .ref (n0 + 147), .ref (n0 + 148), .ref (n0 + 149), .ref (n0 + 150), .ref (n0 + 151), .int 0, .int (-1 : Int32), .int 0, .int (-1 : Int32), .int 0, .ref (n0 + 152), .ref (n0 + 153), .int 0, .ref (n0 + 154), .ref (n0 + 155), .int 0, .int 0, .int 0, .ref (n0 + 156), .null, .null, .null, .null, .int 0, .int 0]))
def k_M_132_e55 (n0 : Nat) (ca : Nat → ClassId) (a : Nat → Nat) (E : Nat → va_E) : Nat → va_E := va_up (k_M_132_e54 n0 ca a E) 157 (.inl (ca 0, 48, .inl (fun _ => 0)))
def k_M_132_e56 (n0 : Nat) (ca : Nat → ClassId) (a : Nat → Nat) (E : Nat → va_E) : Nat → va_E := va_up (k_M_132_e55 n0 ca a E) 132 (.inr (10, [.int 0, .ref (n0 + 133), .ref (n0 + 134), .ref (n0 + 135), .ref (n0 + 136), .ref (n0 + 133), .int 0, .int 0, .int 0, .int 0, .int 0, .int 0, .int 0, .int 0, .int 0, .ref (a (200 + 4)), .ref (a (200 + 0)), .int 0, .ref (n0 + 137), .ref (n0 + 138), .ref (n0 + 139), .ref (n0 + 140), .ref (n0 + 141), .ref (n0 + 142), .int 0, .int 0, .int 0, .int 0, .ref (n0 + 143), .ref (n0 + 144), .ref (n0 + 145), .int (-1 : Int32), .int 0, .ref (n0 + 146), .ref (n0 + 147), .ref (n0 + 148), .ref (n0 + 149), .ref (n0 + 150), .ref (n0 + 151), .int 0, .int (-1 : Int32), .int 0, .int (-1 : Int32), .int 0, .ref (n0 + 152), .ref (n0 + 153), .int 0, .ref (n0 + 154), .ref (n0 + 155), .int 0, .int 0, .int 0, .ref (n0 + 156), .ref (n0 + 157), .null, .null, .null, .int 0, .int 0]))
def k_M_132_e57 (n0 : Nat) (ca : Nat → ClassId) (a : Nat → Nat) (E : Nat → va_E) : Nat → va_E := va_up (k_M_132_e56 n0 ca a E) 158 (.inl (ca 0, 6, .inl (fun _ => 0)))
def k_M_132_e58 (n0 : Nat) (ca : Nat → ClassId) (a : Nat → Nat) (E : Nat → va_E) : Nat → va_E := va_up (k_M_132_e57 n0 ca a E) 132 (.inr (10, [.int 0, .ref (n0 + 133), .ref (n0 + 134), .ref (n0 + 135), .ref (n0 + 136), .ref (n0 + 133), .int 0, .int 0, .int 0, .int 0, .int 0, .int 0, .int 0, .int 0, .int 0, .ref (a (200 + 4)), .ref (a (200 + 0)), .int 0, .ref (n0 + 137), .ref (n0 + 138), .ref (n0 + 139), .ref (n0 + 140), .ref (n0 + 141), .ref (n0 + 142), .int 0, .int 0, .int 0, .int 0, .ref (n0 + 143), .ref (n0 + 144), .ref (n0 + 145), .int (-1 : Int32), .int 0, .ref (n0 + 146), .ref (n0 + 147), .ref (n0 + 148), .ref (n0 + 149), .ref (n0 + 150), .ref (n0 + 151), .int 0, .int (-1 : Int32), .int 0, .int (-1 : Int32), .int 0, .ref (n0 + 152), .ref (n0 + 153), .int 0, .ref (n0 + 154), .ref (n0 + 155), .int 0, .int 0, .int 0, .ref (n0 + 156), .ref (n0 + 157), .ref (n0 + 158), .null, .null, .int 0, .int 0]))
def k_M_132_e59 (n0 : Nat) (ca : Nat → ClassId) (a : Nat → Nat) (E : Nat → va_E) : Nat → va_E := va_up (k_M_132_e58 n0 ca a E) 159 (.inl (ca 0, 6, .inl (fun _ => 0)))
def k_M_132_e60 (n0 : Nat) (ca : Nat → ClassId) (a : Nat → Nat) (E : Nat → va_E) : Nat → va_E := va_up (k_M_132_e59 n0 ca a E) 132 (.inr (10, [.int 0, .ref (n0 + 133), .ref (n0 + 134), .ref (n0 + 135), .ref (n0 + 136), .ref (n0 + 133), .int 0, .int 0, .int 0, .int 0, .int 0, .int 0, .int 0, .int 0, .int 0, .ref (a (200 + 4)), .ref (a (200 + 0)), .int 0, .ref (n0 + 137), .ref (n0 + 138), .ref (n0 + 139), .ref (n0 + 140), .ref (n0 + 141), .ref (n0 + 142), .int 0, .int 0, .int 0, .int 0, .ref (n0 + 143), .ref (n0 + 144), .ref (n0 + 145), .int (-1 : Int32), .int 0, .ref (n0 + 146), .ref (n0 + 147), .ref (n0 + 148), .ref (n0 + 149), .ref (n0 + 150), .ref (n0 + 151), .int 0, .int (-1 : Int32), .int 0, .int (-1 : Int32), .int 0, .ref (n0 + 152), .ref (n0 + 153), .int 0, .ref (n0 + 154), .ref (n0 + 155), .int 0, .int 0, .int 0, .ref (n0 + 156), .ref (n0 + 157), .ref (n0 + 158), .ref (n0 + 159), .null, .int 0, .int 0]))
def k_M_132_e61 (n0 : Nat) (ca : Nat → ClassId) (a : Nat → Nat) (E : Nat → va_E) : Nat → va_E := va_up (k_M_132_e60 n0 ca a E) 160 (.inl (ca 0, 6, .inl (fun _ => 0)))
def k_M_132_e62 (n0 : Nat) (ca : Nat → ClassId) (a : Nat → Nat) (E : Nat → va_E) : Nat → va_E := va_up (k_M_132_e61 n0 ca a E) 132 (.inr (10, [.int 0, .ref (n0 + 133), .ref (n0 + 134), .ref (n0 + 135), .ref (n0 + 136), .ref (n0 + 133), .int 0, .int 0, .int 0, .int 0, .int 0, .int 0, .int 0, .int 0, .int 0, .ref (a (200 + 4)), .ref (a (200 + 0)), .int 0, .ref (n0 + 137), .ref (n0 + 138), .ref (n0 + 139), .ref (n0 + 140), .ref (n0 + 141), .ref (n0 + 142), .int 0, .int 0, .int 0, .int 0, .ref (n0 + 143), .ref (n0 + 144), .ref (n0 + 145), .int (-1 : Int32), .int 0, .ref (n0 + 146), .ref (n0 + 147), .ref (n0 + 148), .ref (n0 + 149), .ref (n0 + 150), .ref (n0 + 151), .int 0, .int (-1 : Int32), .int 0, .int (-1 : Int32), .int 0, .ref (n0 + 152), .ref (n0 + 153), .int 0, .ref (n0 + 154), .ref (n0 + 155), .int 0, .int 0, .int 0, .ref (n0 + 156), .ref (n0 + 157), .ref (n0 + 158), .ref (n0 + 159), .ref (n0 + 160), .int 0, .int 0]))
set_option maxHeartbeats 4000000 in
set_option maxRecDepth 100000 in
theorem k_M_132_ct (g : GG s0 args0 D ca a (AE n0)) (E : Nat → va_E) (hE : E 132 = .inr (10, [.int 0, .null, .null, .null, .null, .null, .int 0, .int 0, .int 0, .int 0, .int 0, .int 0, .int 0, .int 0, .int 0, .null, .null, .int 0, .null, .null, .null, .null, .null, .null, .int 0, .int 0, .int 0, .int 0, .null, .null, .null, .int 0, .int 0, .null, .null, .null, .null, .null, .null, .int 0, .int 0, .int 0, .int 0, .int 0, .null, .null, .int 0, .null, .null, .int 0, .int 0, .int 0, .null, .null, .null, .null, .null, .int 0, .int 0])) : CtE l yX11_init cX11_init 1 1 28 2292 s0 D n0 [.ref (n0 + 132)] 133 E 161 (k_M_132_e62 n0 ca a E) := by
  refine CtE_mk g (by decide +kernel) rfl (Nat.le_of_ble_eq_true rfl) (fun p e s m args below meth c h hr hlk hin => ?_)
  show VE p l e (rmE 1 28 2292) s m args below meth c D n0 1 (MQ below (QE D n0 161 (k_M_132_e62 n0 ca a E)) args s 28 2292 (AE n0)) 0 0 133 E [(0, .ref (n0 + 132))] 0 []
  refine E_aload_n (pc := 0) h 0 dX11_init_0 rfl rfl ?_
  refine E_obj (pc := 1) h tw_5_121 tw_1_31 tw_1_32 dX11_init_1 (Nat.le_of_ble_eq_true rfl) (by decide) (by decide) ?_
  refine E_aload_n (pc := 4) h 0 dX11_init_4 rfl rfl ?_
  refine E_sipush (pc := 5) (v := 160) h dX11_init_5 (by decide) ?_
  refine E_newa (pc := 8) (atype := .byte) h 1 160 (k_M_132_e1 n0 ca a E) rfl (by decide) tw_3_122 (by decide) (by decide) (by decide) rfl (by decide) (by decide) dX11_init_8 ?_
  refine E_putF (pc := 10) h 132 (k_M_132_e2 n0 ca a E) hin ff_X11_9_X11 (by decide) hE (Nat.le_of_ble_eq_true rfl) rfl rfl rfl dX11_init_10 ?_
  refine E_aload_n (pc := 13) h 0 dX11_init_13 rfl rfl ?_
  refine E_sipush (pc := 14) (v := 640) h dX11_init_14 (by decide) ?_
  refine E_newa (pc := 17) (atype := .byte) h 1 640 (k_M_132_e3 n0 ca a E) rfl (by decide) tw_3_122 (by decide) (by decide) (by decide) rfl (by decide) (by decide) dX11_init_17 ?_
  refine E_putF (pc := 19) h 132 (k_M_132_e4 n0 ca a E) hin ff_X11_13_X11 (by decide) rfl (Nat.le_of_ble_eq_true rfl) rfl rfl rfl dX11_init_19 ?_
  refine E_aload_n (pc := 22) h 0 dX11_init_22 rfl rfl ?_
  refine E_iconst (pc := 23) (v := 4) h dX11_init_23 (by decide) ?_
  refine E_newa (pc := 24) (atype := .int) h 0 4 (k_M_132_e5 n0 ca a E) rfl (by decide) tw_1_49 (by decide) (by decide) (by decide) rfl (by decide) (by decide) dX11_init_24 ?_
  refine E_putF (pc := 26) h 132 (k_M_132_e6 n0 ca a E) hin ff_X11_16_X11 (by decide) rfl (Nat.le_of_ble_eq_true rfl) rfl rfl rfl dX11_init_26 ?_
  refine E_aload_n (pc := 29) h 0 dX11_init_29 rfl rfl ?_
  refine E_sipush (pc := 30) (v := 128) h dX11_init_30 (by decide) ?_
  refine E_newa (pc := 33) (atype := .int) h 0 128 (k_M_132_e7 n0 ca a E) rfl (by decide) tw_1_49 (by decide) (by decide) (by decide) rfl (by decide) (by decide) dX11_init_33 ?_
  refine E_putF (pc := 35) h 132 (k_M_132_e8 n0 ca a E) hin ff_X11_20_X11 (by decide) rfl (Nat.le_of_ble_eq_true rfl) rfl rfl rfl dX11_init_35 ?_
  refine E_aload_n (pc := 38) h 0 dX11_init_38 rfl rfl ?_
  refine E_aload_n (pc := 39) h 0 dX11_init_39 rfl rfl ?_
  refine E_get (pc := 40) h 132 (.ref (n0 + 133)) fl_X11_9_X11 (by decide) rfl rfl dX11_init_40 ?_
  refine E_put (pc := 43) h 132 (k_M_132_e9 n0 ca a E) fp_X11_23_X11 (by decide) rfl (Nat.le_of_ble_eq_true rfl) rfl rfl rfl dX11_init_43 ?_
  refine E_aload_n (pc := 46) h 0 dX11_init_46 rfl rfl ?_
  refine E_ldcS (pc := 47) (tx := "y") h 4 (by decide) dX11_init_47 ?_
  refine E_putF (pc := 49) h 132 (k_M_132_e10 n0 ca a E) hin ff_X11_28_X11 (by decide) rfl (Nat.le_of_ble_eq_true rfl) rfl rfl rfl dX11_init_49 ?_
  refine E_aload_n (pc := 52) h 0 dX11_init_52 rfl rfl ?_
  refine E_ldcS (pc := 53) (tx := "lnshit") h 0 (by decide) dX11_init_53 ?_
  refine E_putF (pc := 55) h 132 (k_M_132_e11 n0 ca a E) hin ff_X11_34_X11 (by decide) rfl (Nat.le_of_ble_eq_true rfl) rfl rfl rfl dX11_init_55 ?_
  refine E_aload_n (pc := 58) h 0 dX11_init_58 rfl rfl ?_
  refine E_iconst (pc := 59) (v := 5) h dX11_init_59 (by decide) ?_
  refine E_newa (pc := 60) (atype := .int) h 0 5 (k_M_132_e12 n0 ca a E) rfl (by decide) tw_1_49 (by decide) (by decide) (by decide) rfl (by decide) (by decide) dX11_init_60 ?_
  refine E_putF (pc := 62) h 132 (k_M_132_e13 n0 ca a E) hin ff_X11_37_X11 (by decide) rfl (Nat.le_of_ble_eq_true rfl) rfl rfl rfl dX11_init_62 ?_
  refine E_aload_n (pc := 65) h 0 dX11_init_65 rfl rfl ?_
  refine E_iconst (pc := 66) (v := 5) h dX11_init_66 (by decide) ?_
  refine E_newa (pc := 67) (atype := .int) h 0 5 (k_M_132_e14 n0 ca a E) rfl (by decide) tw_1_49 (by decide) (by decide) (by decide) rfl (by decide) (by decide) dX11_init_67 ?_
  refine E_putF (pc := 69) h 132 (k_M_132_e15 n0 ca a E) hin ff_X11_40_X11 (by decide) rfl (Nat.le_of_ble_eq_true rfl) rfl rfl rfl dX11_init_69 ?_
  refine E_aload_n (pc := 72) h 0 dX11_init_72 rfl rfl ?_
  refine E_bipush (pc := 73) (v := 48) h dX11_init_73 (by decide) ?_
  refine E_newa (pc := 75) (atype := .int) h 0 48 (k_M_132_e16 n0 ca a E) rfl (by decide) tw_1_49 (by decide) (by decide) (by decide) rfl (by decide) (by decide) dX11_init_75 ?_
  refine E_putF (pc := 77) h 132 (k_M_132_e17 n0 ca a E) hin ff_X11_43_X11 (by decide) rfl (Nat.le_of_ble_eq_true rfl) rfl rfl rfl dX11_init_77 ?_
  refine E_aload_n (pc := 80) h 0 dX11_init_80 rfl rfl ?_
  refine E_bipush (pc := 81) (v := 48) h dX11_init_81 (by decide) ?_
  refine E_newa (pc := 83) (atype := .int) h 0 48 (k_M_132_e18 n0 ca a E) rfl (by decide) tw_1_49 (by decide) (by decide) (by decide) rfl (by decide) (by decide) dX11_init_83 ?_
  refine E_putF (pc := 85) h 132 (k_M_132_e19 n0 ca a E) hin ff_X11_46_X11 (by decide) rfl (Nat.le_of_ble_eq_true rfl) rfl rfl rfl dX11_init_85 ?_
  refine E_aload_n (pc := 88) h 0 dX11_init_88 rfl rfl ?_
  refine E_iconst (pc := 89) (v := 3) h dX11_init_89 (by decide) ?_
  refine E_newa (pc := 90) (atype := .int) h 0 3 (k_M_132_e20 n0 ca a E) rfl (by decide) tw_1_49 (by decide) (by decide) (by decide) rfl (by decide) (by decide) dX11_init_90 ?_
  refine E_putF (pc := 92) h 132 (k_M_132_e21 n0 ca a E) hin ff_X11_49_X11 (by decide) rfl (Nat.le_of_ble_eq_true rfl) rfl rfl rfl dX11_init_92 ?_
  refine E_aload_n (pc := 95) h 0 dX11_init_95 rfl rfl ?_
  refine E_iconst (pc := 96) (v := 3) h dX11_init_96 (by decide) ?_
  refine E_newa (pc := 97) (atype := .int) h 0 3 (k_M_132_e22 n0 ca a E) rfl (by decide) tw_1_49 (by decide) (by decide) (by decide) rfl (by decide) (by decide) dX11_init_97 ?_
  refine E_putF (pc := 99) h 132 (k_M_132_e23 n0 ca a E) hin ff_X11_52_X11 (by decide) rfl (Nat.le_of_ble_eq_true rfl) rfl rfl rfl dX11_init_99 ?_
  refine E_aload_n (pc := 102) h 0 dX11_init_102 rfl rfl ?_
  refine E_bipush (pc := 103) (v := 6) h dX11_init_103 (by decide) ?_
  refine E_newa (pc := 105) (atype := .int) h 0 6 (k_M_132_e24 n0 ca a E) rfl (by decide) tw_1_49 (by decide) (by decide) (by decide) rfl (by decide) (by decide) dX11_init_105 ?_
  refine E_putF (pc := 107) h 132 (k_M_132_e25 n0 ca a E) hin ff_X11_55_X11 (by decide) rfl (Nat.le_of_ble_eq_true rfl) rfl rfl rfl dX11_init_107 ?_
  refine E_aload_n (pc := 110) h 0 dX11_init_110 rfl rfl ?_
  refine E_bipush (pc := 111) (v := 6) h dX11_init_111 (by decide) ?_
  refine E_newa (pc := 113) (atype := .int) h 0 6 (k_M_132_e26 n0 ca a E) rfl (by decide) tw_1_49 (by decide) (by decide) (by decide) rfl (by decide) (by decide) dX11_init_113 ?_
  refine E_putF (pc := 115) h 132 (k_M_132_e27 n0 ca a E) hin ff_X11_58_X11 (by decide) rfl (Nat.le_of_ble_eq_true rfl) rfl rfl rfl dX11_init_115 ?_
  refine E_aload_n (pc := 118) h 0 dX11_init_118 rfl rfl ?_
  refine E_bipush (pc := 119) (v := 6) h dX11_init_119 (by decide) ?_
  refine E_newa (pc := 121) (atype := .int) h 0 6 (k_M_132_e28 n0 ca a E) rfl (by decide) tw_1_49 (by decide) (by decide) (by decide) rfl (by decide) (by decide) dX11_init_121 ?_
  refine E_putF (pc := 123) h 132 (k_M_132_e29 n0 ca a E) hin ff_X11_61_X11 (by decide) rfl (Nat.le_of_ble_eq_true rfl) rfl rfl rfl dX11_init_123 ?_
  refine E_aload_n (pc := 126) h 0 dX11_init_126 rfl rfl ?_
  refine E_iconst (pc := 127) (v := -1) h dX11_init_127 (by decide) ?_
  refine E_put (pc := 128) h 132 (k_M_132_e30 n0 ca a E) fp_X11_64_X11 (by decide) rfl (Nat.le_of_ble_eq_true rfl) rfl rfl rfl dX11_init_128 ?_
  refine E_aload_n (pc := 131) h 0 dX11_init_131 rfl rfl ?_
  refine E_bipush (pc := 132) (v := 6) h dX11_init_132 (by decide) ?_
  refine E_newa (pc := 134) (atype := .int) h 0 6 (k_M_132_e31 n0 ca a E) rfl (by decide) tw_1_49 (by decide) (by decide) (by decide) rfl (by decide) (by decide) dX11_init_134 ?_
  refine E_putF (pc := 136) h 132 (k_M_132_e32 n0 ca a E) hin ff_X11_68_X11 (by decide) rfl (Nat.le_of_ble_eq_true rfl) rfl rfl rfl dX11_init_136 ?_
  refine E_aload_n (pc := 139) h 0 dX11_init_139 rfl rfl ?_
  refine E_bipush (pc := 140) (v := 6) h dX11_init_140 (by decide) ?_
  refine E_newa (pc := 142) (atype := .int) h 0 6 (k_M_132_e33 n0 ca a E) rfl (by decide) tw_1_49 (by decide) (by decide) (by decide) rfl (by decide) (by decide) dX11_init_142 ?_
  refine E_putF (pc := 144) h 132 (k_M_132_e34 n0 ca a E) hin ff_X11_71_X11 (by decide) rfl (Nat.le_of_ble_eq_true rfl) rfl rfl rfl dX11_init_144 ?_
  refine E_aload_n (pc := 147) h 0 dX11_init_147 rfl rfl ?_
  refine E_bipush (pc := 148) (v := 36) h dX11_init_148 (by decide) ?_
  refine E_newa (pc := 150) (atype := .int) h 0 36 (k_M_132_e35 n0 ca a E) rfl (by decide) tw_1_49 (by decide) (by decide) (by decide) rfl (by decide) (by decide) dX11_init_150 ?_
  refine E_putF (pc := 152) h 132 (k_M_132_e36 n0 ca a E) hin ff_X11_74_X11 (by decide) rfl (Nat.le_of_ble_eq_true rfl) rfl rfl rfl dX11_init_152 ?_
  refine E_aload_n (pc := 155) h 0 dX11_init_155 rfl rfl ?_
  refine E_bipush (pc := 156) (v := 6) h dX11_init_156 (by decide) ?_
  refine E_newa (pc := 158) (atype := .int) h 0 6 (k_M_132_e37 n0 ca a E) rfl (by decide) tw_1_49 (by decide) (by decide) (by decide) rfl (by decide) (by decide) dX11_init_158 ?_
  refine E_putF (pc := 160) h 132 (k_M_132_e38 n0 ca a E) hin ff_X11_77_X11 (by decide) rfl (Nat.le_of_ble_eq_true rfl) rfl rfl rfl dX11_init_160 ?_
  refine E_aload_n (pc := 163) h 0 dX11_init_163 rfl rfl ?_
  refine E_bipush (pc := 164) (v := 6) h dX11_init_164 (by decide) ?_
  refine E_newa (pc := 166) (atype := .int) h 0 6 (k_M_132_e39 n0 ca a E) rfl (by decide) tw_1_49 (by decide) (by decide) (by decide) rfl (by decide) (by decide) dX11_init_166 ?_
  refine E_putF (pc := 168) h 132 (k_M_132_e40 n0 ca a E) hin ff_X11_80_X11 (by decide) rfl (Nat.le_of_ble_eq_true rfl) rfl rfl rfl dX11_init_168 ?_
  refine E_aload_n (pc := 171) h 0 dX11_init_171 rfl rfl ?_
  refine E_bipush (pc := 172) (v := 6) h dX11_init_172 (by decide) ?_
  refine E_newa (pc := 174) (atype := .int) h 0 6 (k_M_132_e41 n0 ca a E) rfl (by decide) tw_1_49 (by decide) (by decide) (by decide) rfl (by decide) (by decide) dX11_init_174 ?_
  refine E_putF (pc := 176) h 132 (k_M_132_e42 n0 ca a E) hin ff_X11_83_X11 (by decide) rfl (Nat.le_of_ble_eq_true rfl) rfl rfl rfl dX11_init_176 ?_
  refine E_aload_n (pc := 179) h 0 dX11_init_179 rfl rfl ?_
  refine E_iconst (pc := 180) (v := -1) h dX11_init_180 (by decide) ?_
  refine E_put (pc := 181) h 132 (k_M_132_e43 n0 ca a E) fp_X11_86_X11 (by decide) rfl (Nat.le_of_ble_eq_true rfl) rfl rfl rfl dX11_init_181 ?_
  refine E_aload_n (pc := 184) h 0 dX11_init_184 rfl rfl ?_
  refine E_iconst (pc := 185) (v := -1) h dX11_init_185 (by decide) ?_
  refine E_put (pc := 186) h 132 (k_M_132_e44 n0 ca a E) fp_X11_89_X11 (by decide) rfl (Nat.le_of_ble_eq_true rfl) rfl rfl rfl dX11_init_186 ?_
  refine E_aload_n (pc := 189) h 0 dX11_init_189 rfl rfl ?_
  refine E_sipush (pc := 190) (v := 900) h dX11_init_190 (by decide) ?_
  refine E_newa (pc := 193) (atype := .int) h 0 900 (k_M_132_e45 n0 ca a E) rfl (by decide) tw_1_49 (by decide) (by decide) (by decide) rfl (by decide) (by decide) dX11_init_193 ?_
  refine E_putF (pc := 195) h 132 (k_M_132_e46 n0 ca a E) hin ff_X11_92_X11 (by decide) rfl (Nat.le_of_ble_eq_true rfl) rfl rfl rfl dX11_init_195 ?_
  refine E_aload_n (pc := 198) h 0 dX11_init_198 rfl rfl ?_
  refine E_sipush (pc := 199) (v := 180) h dX11_init_199 (by decide) ?_
  refine E_newa (pc := 202) (atype := .int) h 0 180 (k_M_132_e47 n0 ca a E) rfl (by decide) tw_1_49 (by decide) (by decide) (by decide) rfl (by decide) (by decide) dX11_init_202 ?_
  refine E_putF (pc := 204) h 132 (k_M_132_e48 n0 ca a E) hin ff_X11_95_X11 (by decide) rfl (Nat.le_of_ble_eq_true rfl) rfl rfl rfl dX11_init_204 ?_
  refine E_aload_n (pc := 207) h 0 dX11_init_207 rfl rfl ?_
  refine E_bipush (pc := 208) (v := 6) h dX11_init_208 (by decide) ?_
  refine E_newa (pc := 210) (atype := .int) h 0 6 (k_M_132_e49 n0 ca a E) rfl (by decide) tw_1_49 (by decide) (by decide) (by decide) rfl (by decide) (by decide) dX11_init_210 ?_
  refine E_putF (pc := 212) h 132 (k_M_132_e50 n0 ca a E) hin ff_X11_98_X11 (by decide) rfl (Nat.le_of_ble_eq_true rfl) rfl rfl rfl dX11_init_212 ?_
  refine E_aload_n (pc := 215) h 0 dX11_init_215 rfl rfl ?_
  refine E_bipush (pc := 216) (v := 6) h dX11_init_216 (by decide) ?_
  refine E_newa (pc := 218) (atype := .int) h 0 6 (k_M_132_e51 n0 ca a E) rfl (by decide) tw_1_49 (by decide) (by decide) (by decide) rfl (by decide) (by decide) dX11_init_218 ?_
  refine E_putF (pc := 220) h 132 (k_M_132_e52 n0 ca a E) hin ff_X11_101_X11 (by decide) rfl (Nat.le_of_ble_eq_true rfl) rfl rfl rfl dX11_init_220 ?_
  refine E_aload_n (pc := 223) h 0 dX11_init_223 rfl rfl ?_
  refine E_bipush (pc := 224) (v := 6) h dX11_init_224 (by decide) ?_
  refine E_newa (pc := 226) (atype := .int) h 0 6 (k_M_132_e53 n0 ca a E) rfl (by decide) tw_1_49 (by decide) (by decide) (by decide) rfl (by decide) (by decide) dX11_init_226 ?_
  refine E_putF (pc := 228) h 132 (k_M_132_e54 n0 ca a E) hin ff_X11_104_X11 (by decide) rfl (Nat.le_of_ble_eq_true rfl) rfl rfl rfl dX11_init_228 ?_
  refine E_aload_n (pc := 231) h 0 dX11_init_231 rfl rfl ?_
  refine E_bipush (pc := 232) (v := 48) h dX11_init_232 (by decide) ?_
  refine E_newa (pc := 234) (atype := .int) h 0 48 (k_M_132_e55 n0 ca a E) rfl (by decide) tw_1_49 (by decide) (by decide) (by decide) rfl (by decide) (by decide) dX11_init_234 ?_
  refine E_putF (pc := 236) h 132 (k_M_132_e56 n0 ca a E) hin ff_X11_107_X11 (by decide) rfl (Nat.le_of_ble_eq_true rfl) rfl rfl rfl dX11_init_236 ?_
  refine E_aload_n (pc := 239) h 0 dX11_init_239 rfl rfl ?_
  refine E_bipush (pc := 240) (v := 6) h dX11_init_240 (by decide) ?_
  refine E_newa (pc := 242) (atype := .int) h 0 6 (k_M_132_e57 n0 ca a E) rfl (by decide) tw_1_49 (by decide) (by decide) (by decide) rfl (by decide) (by decide) dX11_init_242 ?_
  refine E_putF (pc := 244) h 132 (k_M_132_e58 n0 ca a E) hin ff_X11_110_X11 (by decide) rfl (Nat.le_of_ble_eq_true rfl) rfl rfl rfl dX11_init_244 ?_
  refine E_aload_n (pc := 247) h 0 dX11_init_247 rfl rfl ?_
  refine E_bipush (pc := 248) (v := 6) h dX11_init_248 (by decide) ?_
  refine E_newa (pc := 250) (atype := .int) h 0 6 (k_M_132_e59 n0 ca a E) rfl (by decide) tw_1_49 (by decide) (by decide) (by decide) rfl (by decide) (by decide) dX11_init_250 ?_
  refine E_putF (pc := 252) h 132 (k_M_132_e60 n0 ca a E) hin ff_X11_113_X11 (by decide) rfl (Nat.le_of_ble_eq_true rfl) rfl rfl rfl dX11_init_252 ?_
  refine E_aload_n (pc := 255) h 0 dX11_init_255 rfl rfl ?_
  refine E_bipush (pc := 256) (v := 6) h dX11_init_256 (by decide) ?_
  refine E_newa (pc := 258) (atype := .int) h 0 6 (k_M_132_e61 n0 ca a E) rfl (by decide) tw_1_49 (by decide) (by decide) (by decide) rfl (by decide) (by decide) dX11_init_258 ?_
  refine E_putF (pc := 260) h 132 (k_M_132_e62 n0 ca a E) hin ff_X11_116_X11 (by decide) rfl (Nat.le_of_ble_eq_true rfl) rfl rfl rfl dX11_init_260 ?_
  exact E_vret (pc := 263) h hr hlk rfl rfl dX11_init_263
end MAKE
