section START
variable {p : Program} {l : Launch} {e : Env} {R : Room} {s : State} {m : MethodId} {args : Array Value} {below : List Frame} {meth : Method} {c : Code}
variable {D : va_G} {ca : Nat → ClassId} {a : Nat → Nat} {n0 nL k n N : Nat} {Q : State → Prop} {E : Nat → va_E} {ls : List (Nat × Value)} {pc : Nat} {st : List Value} {s0 : State} {args0 : Array Value} {cc : ByteArray} {own : String}
theorem E_astore_n (h : Cx p s m c cc nL own s0 args0 D ca a (AE n0)) {j : Fin 4} {i x : Nat} (ls' : List (Nat × Value)) (hd : decode cc pc = .ok (.astore_n j, 1)) (hj : (j : Nat) = i) (hn : i < nL) (hl' : (i, Value.ref x) :: ls.filter (fun q => !(q.1 == i) && !(q.1 + 1 == i && q.2.category == 2)) = ls') (kk : VE p l e R s m args below meth c D n0 nL Q k n N E ls' (pc + 1) st) : VE p l e R s m args below meth c D n0 nL Q k n N E ls pc (.ref x :: st) := fun H locs lsA hw hs hl => lv_astore_n h.1 h.2.1 hd hj hl hn hl' (fun ls2 hl2 => kk H locs ls2 hw hs hl2)
end START
set_option maxHeartbeats 4000000 in
set_option maxRecDepth 100000 in
/-- the row 'out', and the loop -/
theorem start_out {p : Program} {l : Launch} {e : Env} {s : State} {m : MethodId} {below : List Frame} {meth : Method} {c : Code} {b L : Nat} {xs : Nat → Int32} {D : va_G} {ca : Nat → ClassId} {cJ : ClassId} {r : Nat → Nat} (hL : L ≤ 3072) (h : LX p l s m meth c b L xs D ca cJ (aCf s.heap.size r) (aMf s.heap.size r)) : VE p l e room_1 s m #[Value.ref b] below meth c D s.heap.size 7 (lw_Z below #[Value.ref b] s) 161 5526 161 (E4N s.heap.size ca r) [(2, .ref (s.heap.size + 132)), (1, .ref (s.heap.size + 0)), (0, .ref b)] 16 [] := by
  intro H locs lsA hw hs hl
  refine lv_iconst (pc := 16) (v := 1) h.1.1 h.1.2.1 dL_law_16 (by decide) ?_
  refine va_newaK (cc := cL_law) (atype := .long) (N := 1) (rest := []) h.1.1 h.1.2.1 (h.word tw_7_168) rfl dL_law_17 rfl (by decide) (by decide) (by decide) (show 161 + 1 ≤ 601024 by decide) (show 5526 + 1 ≤ 7293034 by decide) hw.2 fun H1 cA e1 z1 o1 hAr hNm => ?_
  have hca : cA = cJ := Option.some.inj (hNm.symm.trans (h.2.2.2.2.2.2 0 _ rfl).2)
  subst hca
  have hw1 : va_P D vwCl (celE s.heap.size 161 (E4N s.heap.size ca r)) H1 := hw.1.kept (fun k q hq => o1 q.1 (by rw [← hw.2]; exact (hw.1 k q hq).lt))
  have hs1 : va_S (AE s.heap.size) s.heap H1 locs := ⟨Nat.le_trans (Nat.le_add_right _ 161) (by rw [z1]; omega), fun q h1 h2 => (o1 q (by omega)).trans (hs.2.1 q h1 h2), hs.2.2⟩
  have hout : OutAt cA s.heap.size (fun _ => 0) H1 := e1
  refine lv_astore_n (pc := 19) (lv' := [(3, .ref (s.heap.size + 161)), (2, .ref (s.heap.size + 132)), (1, .ref (s.heap.size + 0)), (0, .ref b)]) h.1.1 h.1.2.1 dL_law_19 rfl hl (by decide) rfl (fun ls2 hl2 => ?_)
  refine lv_iconst (pc := 20) (v := nI 0) h.1.1 h.1.2.1 dL_law_20 (by decide) ?_
  refine lv_istore (pc := 21) (lv' := [(4, .int (nI 0)), (3, .ref (s.heap.size + 161)), (2, .ref (s.heap.size + 132)), (1, .ref (s.heap.size + 0)), (0, .ref b)]) h.1.1 h.1.2.1 dL_law_21 hl2 (by decide) rfl (fun ls3 hl3 => ?_)
  refine W.widen (k := 162 + 0) (n := 5527 + 6 * 0) (by decide) (by decide) ?_
  exact law_loop h hL 600 0 (by omega) (by omega) S0s T0s rel_0 (fun _ => 0) H1 locs ls3 trivial ⟨made_C (by decide) hw1, made_M (Nat.le_refl 161) hw1, hout⟩ hs1 (lv_sub hl3 [4, 3, 2, 1, 0] rfl)
set_option maxHeartbeats 4000000 in
set_option maxRecDepth 100000 in
/-- THE LAW, from its entry -/
theorem whole_start {p : Program} {e : Env} {s : State} {m : MethodId} {below : List Frame} {meth : Method} {c : Code} (l : Launch) (hl0 : l.stackTraces = false) {b L : Nat} {xs : Nat → Int32} (hL : L ≤ 3072) (C0 : lw_At p s m meth c b L xs) : W p l e room_1 s m #[Value.ref b] below meth c s.heap [] 0 0 (lw_Z below #[Value.ref b] s) (entryFrame m ([Value.ref b] : List Value).toArray 7) := by
  obtain ⟨hx, hb, hr, hml, hown, hts, hX, hbl, hlocks, hgv⟩ := id C0
  have hown : s.vm.findClass RL = some m.cls := hown
  have hfl := flat_of_before _ hgv
  obtain ⟨D, ca, cJ, hK, hJ⟩ := st_K hts
  obtain ⟨r, hRS⟩ := st_R hts hgv (AE s.heap.size) (fun a h => Nat.not_le.mpr h)
  have r1 : RSx s (aCf s.heap.size r) (AE s.heap.size) := hRS.to (fun i hi => if_pos hi)
  have r2 : RSx s (aMf s.heap.size r) (AE s.heap.size) := hRS.to (fun i hi => if_pos hi)
  have i1 : ∀ q, AC s.heap.size q → AE s.heap.size q := fun q h => h.1
  have i2 : ∀ q, AM s.heap.size q → AE s.heap.size q := fun q h => Nat.le_trans (Nat.le_add_right _ 132) h.1
  have g1 : GG s #[Value.ref b] D ca (aCf s.heap.size r) (AE s.heap.size) := ⟨hts, hK, fun q h => h, r1⟩
  have g2 : GG s #[Value.ref b] D ca (aMf s.heap.size r) (AE s.heap.size) := ⟨hts, hK, fun q h => h, r2⟩
  have g3 : GG s #[Value.ref b] D ca (aCf s.heap.size r) (AC s.heap.size) := ⟨hts, hK, i1, r1.narrow i1⟩
  have g4 : GG s #[Value.ref b] D ca (aMf s.heap.size r) (AM s.heap.size) := ⟨hts, hK, i2, r2.narrow i2⟩
  have hA : ∀ a, a < s.heap.size → ¬ AC s.heap.size a := fun a h q => Nat.lt_irrefl _ (Nat.lt_of_lt_of_le h q.1)
  have hZ1 : vx_Zq Bundle.tN "UNASSIGNED_STACK" Bundle.steD (AC s.heap.size) s s.heap := vx_Zqof (hts _ tw_5_77) (hts _ tw_1_20) (hfl _ ss_u) hA
  have hZ2 : vx_Zq Bundle.tN "SUPPRESSED_SENTINEL" Bundle.listD (AC s.heap.size) s s.heap := vx_Zqof (hts _ tw_5_79) (hts _ tw_1_20) (hfl _ ss_s) hA
  have lx : LX p l s m meth c b L xs D ca cJ (aCf s.heap.size r) (aMf s.heap.size r) := ⟨⟨hx, hb, hml, hown⟩, ⟨g3, g4⟩, ⟨hX, hbl⟩, ⟨hlocks, hr, hl0⟩, ⟨hZ1, hZ2⟩, hJ⟩
  have c1 : Cx p s m c cL_law 7 RL s #[Value.ref b] D ca (aCf s.heap.size r) (AE s.heap.size) := ⟨hx, hb, hml, hown, State.WarmedH.refl s, g1, fun _ _ => rfl, Nat.le_refl _⟩
  have c2 : Cx p s m c cL_law 7 RL s #[Value.ref b] D ca (aMf s.heap.size r) (AE s.heap.size) := ⟨hx, hb, hml, hown, State.WarmedH.refl s, g2, fun _ _ => rfl, Nat.le_refl _⟩
  have main : VE p l e room_1 s m #[Value.ref b] below meth c D s.heap.size 7 (lw_Z below #[Value.ref b] s) 0 0 0 E0N [(0, .ref b)] 0 [] := by
    refine E_new (pc := 0) (fs := [.null, .null, .null, .null, .int 0, .int 0, .null, .null, .null, .null, .int 0, .null, .null, .null, .null]) c1 tyX10 E1N rfl u_in_X10 tyX10_ok tw_1_25 tw_1_26 tw_1_1 (fun j hj => by rcases (show j = 0 ∨ j = 1 ∨ j = 2 ∨ j = 3 ∨ j = 4 ∨ j = 5 ∨ j = 6 ∨ j = 7 ∨ j = 8 ∨ j = 9 ∨ j = 10 ∨ j = 11 ∨ j = 12 ∨ j = 13 ∨ j = 14 by omega) with rfl | rfl | rfl | rfl | rfl | rfl | rfl | rfl | rfl | rfl | rfl | rfl | rfl | rfl | rfl <;> rfl) rfl (show 0 + 1 ≤ 601024 by decide) (show 0 + 15 ≤ 7293034 by decide) dL_law_0 ?_
    refine E_dup (pc := 3) c1 dL_law_3 rfl ?_
    refine E_call (pc := 4) (x := 0) c1 [] [.ref (s.heap.size + 0)] 0 (Or.inl tw_1_27) tw_1_28 tw_1_1 tw_1_29 (by decide +kernel) (by decide) rfl dL_law_4 rfl rfl (Nat.le_of_ble_eq_true rfl) (show 3 + 1 ≤ 2048 by decide) (show 64 * (3 + 1) ≤ 84000 by decide) (show 0 + 1 + 131 ≤ 601024 by decide) (show 0 + 15 + 3160 ≤ 7293034 by decide) (k_N_0_ct g1 E1N rfl) ?_
    refine E_astore_n (pc := 7) c1 [(1, .ref (s.heap.size + 0)), (0, .ref b)] dL_law_7 rfl (by decide) rfl ?_
    refine VE_as (E2 := E2N s.heap.size ca r) rfl ?_
    refine E_new (pc := 8) (fs := [.int 0, .null, .null, .null, .null, .null, .int 0, .int 0, .int 0, .int 0, .int 0, .int 0, .int 0, .int 0, .int 0, .null, .null, .int 0, .null, .null, .null, .null, .null, .null, .int 0, .int 0, .int 0, .int 0, .null, .null, .null, .int 0, .int 0, .null, .null, .null, .null, .null, .null, .int 0, .int 0, .int 0, .int 0, .int 0, .null, .null, .int 0, .null, .null, .int 0, .int 0, .int 0, .null, .null, .null, .null, .null, .int 0, .int 0]) c2 tyX11 (E3N s.heap.size ca r) rfl u_in_X11 tyX11_ok tw_5_116 tw_5_117 tw_1_12 (fun j hj => by rcases (show j = 0 ∨ j = 1 ∨ j = 2 ∨ j = 3 ∨ j = 4 ∨ j = 5 ∨ j = 6 ∨ j = 7 ∨ j = 8 ∨ j = 9 ∨ j = 10 ∨ j = 11 ∨ j = 12 ∨ j = 13 ∨ j = 14 ∨ j = 15 ∨ j = 16 ∨ j = 17 ∨ j = 18 ∨ j = 19 ∨ j = 20 ∨ j = 21 ∨ j = 22 ∨ j = 23 ∨ j = 24 ∨ j = 25 ∨ j = 26 ∨ j = 27 ∨ j = 28 ∨ j = 29 ∨ j = 30 ∨ j = 31 ∨ j = 32 ∨ j = 33 ∨ j = 34 ∨ j = 35 ∨ j = 36 ∨ j = 37 ∨ j = 38 ∨ j = 39 ∨ j = 40 ∨ j = 41 ∨ j = 42 ∨ j = 43 ∨ j = 44 ∨ j = 45 ∨ j = 46 ∨ j = 47 ∨ j = 48 ∨ j = 49 ∨ j = 50 ∨ j = 51 ∨ j = 52 ∨ j = 53 ∨ j = 54 ∨ j = 55 ∨ j = 56 ∨ j = 57 ∨ j = 58 by omega) with rfl | rfl | rfl | rfl | rfl | rfl | rfl | rfl | rfl | rfl | rfl | rfl | rfl | rfl | rfl | rfl | rfl | rfl | rfl | rfl | rfl | rfl | rfl | rfl | rfl | rfl | rfl | rfl | rfl | rfl | rfl | rfl | rfl | rfl | rfl | rfl | rfl | rfl | rfl | rfl | rfl | rfl | rfl | rfl | rfl | rfl | rfl | rfl | rfl | rfl | rfl | rfl | rfl | rfl | rfl | rfl | rfl | rfl | rfl <;> rfl) rfl (show 0 + 1 + 131 + 1 ≤ 601024 by decide) (show 0 + 15 + 3160 + 59 ≤ 7293034 by decide) dL_law_8 ?_
    refine E_dup (pc := 11) c2 dL_law_11 rfl ?_
    refine E_call (pc := 12) (x := 0) c2 [] [.ref (s.heap.size + 132)] 132 (Or.inl tw_5_118) tw_5_119 tw_1_12 tw_5_120 (by decide +kernel) (by decide) rfl dL_law_12 rfl rfl (Nat.le_of_ble_eq_true rfl) (show 1 + 1 ≤ 2048 by decide) (show 64 * (1 + 1) ≤ 84000 by decide) (show 0 + 1 + 131 + 1 + 28 ≤ 601024 by decide) (show 0 + 15 + 3160 + 59 + 2292 ≤ 7293034 by decide) (k_M_132_ct g2 (E3N s.heap.size ca r) rfl) ?_
    refine E_astore_n (pc := 15) c2 [(2, .ref (s.heap.size + 132)), (1, .ref (s.heap.size + 0)), (0, .ref b)] dL_law_15 rfl (by decide) rfl ?_
    refine VE_as (E2 := E4N s.heap.size ca r) rfl ?_
    exact start_out hL lx
  have hl := lv_entry ([.ref b]) (n := 7) (Nat.le_of_ble_eq_true rfl)
  rw [lg_entry_eq]
  exact main s.heap [] _ ⟨fun k q hq => by simp [celE] at hq, rfl⟩ va_S.rf hl
set_option maxHeartbeats 4000000 in
theorem lw_walk (l : Launch) (hl0 : l.stackTraces = false) (b : Addr) (xs : List Int32) : MetFree l x (headSpec (Jvm.Cond.code x code maxLocals ret :: tables_1) room_1) (lw_P b xs) (fun _ _ _ _ _ => True) lw_Q := by
  refine MetFree.of_bodyS (code := code) (maxLocals := maxLocals) (ret := ret) (by decide) ?_ ?_
  · intro args s m h hn
    obtain ⟨meth, c, h1, h2, h3, h4, h5, h6, -, -⟩ := Cond.code_spec hn (atoms_spec (ws := Jvm.Cond.code x code maxLocals ret :: tables_1) h _ List.mem_cons_self)
    exact ⟨meth, c, h1, h2, h3, h4, h5, h6⟩
  · intro p e s m args below meth c s₁ B hml0 hP _
    obtain ⟨rfl, hx, hbd, hgv⟩ := hP
    obtain ⟨scr, harrAt, hlist, hof, hsmall⟩ := hx
    obtain ⟨hcb, hkn, -, -⟩ := State.arrayAt?_spec harrAt
    have hown : s.vm.findClass R_law = some m.cls := findClass_of_methodNamed B.named
    have hts0 : ∀ c ∈ (Jvm.Cond.code x code maxLocals ret :: tables_1), c.before #[Value.ref b] s = true := atoms_spec (ws := Jvm.Cond.code x code maxLocals ret :: tables_1) B.pre
    have hts : ∀ w ∈ lw_tbl, w.before #[Value.ref b] s = true := k2_hts_sels lw_privs (fun w hw => hts0 w (List.mem_cons_of_mem _ hw)) lw_privs_ok
    have hml : c.maxLocals = 7 := B.maxLocals_eq (hts0 _ List.mem_cons_self)
    have X₀ : Stand p l e room_1 s m #[Value.ref b] below meth c s₁ [] 0 0 := Stand.of_body B
    have hh0 : s₁.heap = s.heap := by rw [B.state]; rfl
    have hsz : scr.slots.size = xs.length := by rw [← Array.length_toList, hlist, List.length_map]
    have hval : ∀ j : Nat, j < xs.length → scr.slots[j]? = some (.int (xs.getD j 0)) := fun j hj => by
      rw [← Array.getElem?_toList, hlist]
      simp [hj]
    have hbl : b < s.heap.size := (Array.getElem?_eq_some_iff.mp hcb).1
    have hX : va_X b xs.length (fun j => xs.getD j 0) s s.heap := ⟨scr, hcb, hof, hkn, hsz, hval⟩
    have K : W p l e room_1 s m #[Value.ref b] below meth c s₁.heap [] 0 0 (lw_Z below #[Value.ref b] s) (entryFrame m ([Value.ref b] : List Value).toArray 7) := by
      rw [hh0]
      exact whole_start l hl0 hbd ⟨B.exec, B.bytes, B.returns, hml, hown, hts, hX, hbl, B.notSynchronized, hgv⟩
    obtain ⟨t, a1, o, b1, b2, b3⟩ := K s₁ rfl X₀
    exact ⟨t, o, a1, b1, b2, b3⟩
theorem lw_pre_spec {args : Array Value} {s : State} (h : (Jvm.Cond.and given_1 narrow_1).before args s = true) (hr : rest_1_c.before args s = true) : ∃ (b : Addr) (xs : List Int32), lw_P b xs args s := by
  have hs := flat_of_before _ h
  have hq := flat_of_before _ hr
  have hc : (Cond.count 1).before args s = true := hs _ (by decide +kernel)
  have harr : (Cond.arrayOf (.arg 0) .int).before args s = true := hs _ (by decide +kernel)
  have hle : (Cond.le (.length (.arg 0)) (.int 3072)).before args s = true := hs _ (by decide +kernel)
  have hlen : (Cond.isInt (.length (.arg 0))).before args s = true := hq _ (by decide +kernel)
  have hall : (Cond.all (.arg 0) (.isInt (.elem (.arg 0) (.index 0)))).before args s = true := hq _ (by decide +kernel)
  obtain ⟨b, xs, hb, hx⟩ := State.ints_of_pre rfl harr hlen hall
  have hsm : xs.length < 2 ^ 31 := hx.choose_spec.2.2.2
  have hev : (Term.length (.arg 0)).eval args s none [] s = some (.int xs.length.toInt32) := hx.length_eval hb
  have hv := Cond.le_ints hev (show (Term.int 3072).eval args s none [] s = some (.int 3072) from rfl)
  have hd : xs.length.toInt32 ≤ 3072 := by
    simpa [Cond.before, Cond.holds, hv] using hle
  have hN : xs.length ≤ 3072 := (Int32.ofNat_le_ofNat hsm (by decide)).mp (show Int32.ofNat xs.length ≤ Int32.ofNat 3072 from hd)
  exact ⟨b, xs, Cond.one_arg hc (show args[0]? = some (.ref b) from hb), hx, hN, h⟩
theorem lw_comes (l : Launch) (hl0 : l.stackTraces = false) : Comes l x (Jvm.Cond.code x code maxLocals ret :: tables_1) room_1 (fun tb e args s => Calls_1 tb e args s ∧ rest_1 tb e args s ∧ Pre_1 tb e args s)
    (fun _ _ args s o t => lw_Q args s o t) := by
  intro p e ha hc hk s m args below hf hfit hheap happ hpre
  obtain ⟨b, xs, hP⟩ := lw_pre_spec hpre.2.2 hpre.2.1
  obtain ⟨k, o, h1, h2, h3, hQ⟩ := lw_walk l hl0 b xs p e ha hc hk s m args below hf ((Spec.applies_iff_loose hf).mp happ).1 hP trivial
  exact ⟨k, o, h1, h2, h3, hQ⟩
theorem lw_frame {s t : State} {o : Outcome} {args : Array Value} (h : Framed s o t [] 601024 7293034) :
    Framed s o t (fieldLocs frame_1_writes args s ++ arrayLocs frame_1_arrays args s ++ staticLocs frame_1_statics s) 601024 7293034 := h
theorem lw_limb (L : Cond) (hL : ∀ (args : Array Value) (s t : State), L.after args s (.returned (some (.int 1))) t = true) :
    ArmFor flags0 classFile x code maxLocals ret World_1 tables_1 room_1 Calls_1 rest_1 Pre_1
      (fun tb e a s o t => postC L tb e a s o t ∧ Framed s o t (fieldLocs frame_1_writes a s ++ arrayLocs frame_1_arrays a s ++ staticLocs frame_1_statics s) 601024 7293034) := by
  intro l hfl _ _ p e ha hc hk s m args below hf hfit hheap happ hpre
  have hl0 : l.stackTraces = false := by
    unfold Launch.stackTraces
    rw [hfl]
    unfold flags0
    decide
  obtain ⟨k, o, h1, h2, h3, rfl, hF⟩ := lw_comes l hl0 p e ha hc hk s m args below hf hfit hheap happ hpre
  exact ⟨k, _, h1, h2, h3, hL args s _, lw_frame hF⟩
theorem i_vc : Claimed_1_1 ∧ Claimed_1_2 := ⟨lw_limb limb_1_1 (fun args s t => by simp [limb_1_1, Cond.after, Cond.holds, Cond.value]), lw_limb limb_1_2 (fun args s t => Cond.after_iff.mpr (by
  first | (rw [show limb_1_2 = Cond.eq .result (.int 1) from rfl, Cond.eq_ints (x := 1) (y := 1) rfl rfl]; simp; done) | (simp [limb_1_2, Cond.value, Term.eval]; done)))⟩
