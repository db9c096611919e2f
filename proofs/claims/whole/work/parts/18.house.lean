section NSEW
variable {p : Program} {l : Launch} {e : Env} {R : Room} {s : State} {m : MethodId} {args : Array Value} {below : List Frame} {meth : Method} {c : Code} {H : Heap} {locs : List Loc} {cells slots : Nat} {Q : State → Prop}
variable {mc ms : Nat} {free : Addr → Prop} {A0 A1 : Nat → Prop} {H0 : Heap} {a : Array Value} {ls : Array Slot} {st0 rest : List Value}
variable {Qc : Array Value → State → Outcome → State → Prop} {XC : String → State → State → Prop}
theorem nse_throwW {cc : ByteArray} {pc : Nat} (hexec : p.tables.exec = Jvm.exec) (hb : c.code = cc) (hl : l.stackTraces = false) {own text : String} {ik is ic mc ms sa : Nat} {A : Nat → Prop}
    (hown : s.vm.findClass own = some m.cls) 
    (hk : (Cond.classLink own ik nseN).before args s = true) (hini : (Cond.initialized nseN).before args s = true) (hstr : vk_R own is text sa s) (hat : ∀ w ∈ (nseAtoms own ic).filter vx_no, w.before args s = true)
    (hgood : ∀ w ∈ Cond.classLink own ik nseN :: Cond.initialized nseN :: (nseAtoms own ic).filter vx_no, vx_ot w = true)
    (hU : vx_Zq Bundle.tN "UNASSIGNED_STACK" Bundle.steD A s s.heap) (hN : vx_Zq Bundle.tN "SUPPRESSED_SENTINEL" Bundle.listD A s s.heap) (hS : va_S A s.heap H locs) (hsize : ls.size = c.maxLocals)
    (d0 : decode cc pc = .ok (.new ik, 3)) (d3 : decode cc (pc + 3) = .ok (.dup, 1)) (d4 : decode cc (pc + 4) = .ok (.ldc is, 2)) (d6 : decode cc (pc + 6) = .ok (.invokespecial ic, 3)) (d9 : decode cc (pc + 9) = .ok (.athrow, 1))
    (hout : ∀ x ∈ c.exceptionTable.toList, covers x (pc + 9) = false)
    (hRframes : 6 ≤ R.frames) (hRlocals : (rest.map fun v => v.category).sum + 95 ≤ R.locals) (hRcells : cells + 1 ≤ R.cells) (hRslots : slots + 6 ≤ R.slots) (hlocks : meth.locks = false)
    (hx : ∀ t : State, s.vm.Alike t.vm → H.size ≤ t.heap.size → (∀ q : Nat, q < H.size → t.heap[q]? = H[q]?) → XC nseN s t)
    (hf : ∀ z ∈ locs, free z.base) (hc : cells + 1 ≤ mc) (hs : slots + 6 ≤ ms) :
    W p l e R s m args below meth c H locs cells slots (vx_MQ below Qc XC args s mc ms free) (F0 m pc ls rest) := by
  intro T hT X
  have htr : e.platform.stackTraces = false := (show e.platform.stackTraces = l.stackTraces by rw [X.admits.platform]).trans hl
  have Y := vx_rebase X (R' := { frames := R.frames, locals := R.locals, cells := 1, slots := 6 }) (Nat.le_refl _) (Nat.le_refl _) hRcells hRslots
  obtain ⟨s', hA⟩ : ∃ z, z = (T.setVm s.vm).setFrames (.invoking m args :: below) := ⟨_, rfl⟩
  rw [← hA] at Y
  have hvm : s'.vm = s.vm := by rw [hA]; rfl
  have hhp : s'.heap = H := by rw [hA]; exact hT
  have hW0 : s.WarmedH s'.vm := by rw [hvm]; exact State.WarmedH.refl s
  have hat' : ∀ w ∈ (nseAtoms own ic).filter vx_no, w.before args s' = true := fun w hw => vx_ot_at hW0 hvm.symm (hgood w (List.mem_cons_of_mem _ (List.mem_cons_of_mem _ hw))) (hat w hw)
  have hk' : (Cond.classLink own ik nseN).before args s' = true := vx_ot_at hW0 hvm.symm (hgood _ List.mem_cons_self) hk
  have hini' : (Cond.initialized nseN).before args s' = true := vx_ot_at hW0 hvm.symm (hgood _ (List.mem_cons_of_mem _ List.mem_cons_self)) hini
  have hU' : vx_Zq Bundle.tN "UNASSIGNED_STACK" Bundle.steD A s' s'.heap := by rw [hhp]; exact vx_Zq.moved hW0.alike (hU.kept hS.2.1)
  have hN' : vx_Zq Bundle.tN "SUPPRESSED_SENTINEL" Bundle.listD A s' s'.heap := by rw [hhp]; exact vx_Zq.moved hW0.alike (hN.kept hS.2.1)
  have h : ∀ w ∈ nseAtoms own ic, w.before args s' = true := vx_own hat' (vx_isRefq hU'.1) (vx_isRefq hN'.1) hU'.2.word hN'.2.word
  have hown' : s'.vm.findClass own = some m.cls := by rw [hvm]; exact hown
  have hins : (Cond.instantiable nseN 6).before args s' = true := h _ (by simp [nseAtoms])
  obtain ⟨vm₁, cX, kX, hfX, hkX, -, -, X₁, st1⟩ := Y.newCold hexec (own := own) (C := nseN) (index := ik) (n := 6) hown' hk' hins hini'
    (g := F0 m pc ls rest) rfl (by rw [hb]; exact d0) (Nat.le_refl _) (Nat.le_refl _)
  generalize hT1 : (T.setVm vm₁).pushCell { cls := cX, slots := kX.instanceTypes.map defaultValue, vm := .none } = T1 at X₁ st1
  have hcat : (Value.ref T.heap.size).category = 1 := rfl
  have hcellA : T1.heap[T.heap.size]? = some (freshCell cX kX) := by rw [← hT1]; exact State.heap_pushCell_size _ _
  have d3' : decode c.code (pc + 3) = .ok (.dup, 1) := by rw [hb]; exact d3
  have d4' : decode c.code (pc + 4) = .ok (.ldc is, 2) := by rw [hb]; exact d4
  have hstr' : vk_R own is text sa s' := vk_R.warm hW0 hstr
  obtain ⟨U, hsteps, hrun, hend, hW, hsame, ce, hce, hO1, hO2⟩ := nse_ctorThrow X₁ hexec htr (own := own) (ic := ic) hown' h (fun x hx => nomatch hx) hfX hkX hcellA (by rw [hhp, hT]; exact Nat.le_refl _) (msg := .ref sa) rfl
    (g := { method := m, pc := pc + 6, locals := ls, stack := .ref sa :: .ref T.heap.size :: .ref T.heap.size :: rest, locked := none }) rfl hsize rfl rfl (rest := rest) rfl
    (by rw [hb]; exact d6) (by rw [hb]; exact d9) hout hRframes (by simp only [List.map_cons, List.sum_cons, hcat]; omega) hlocks
  obtain ⟨f1, f2⟩ := vx_frame hsame
  rw [hhp] at f1 f2
  have hWs : s.WarmedH U.vm := State.WarmedH.trans hW0 hW
  have hcl : s.vm.findClass nseN = some ce.cls := by
    have h9 := hO1
    rw [hvm] at h9
    exact h9
  have hall : s.sameButNew ({ U with vm := s.vm } : State) locs mc ms := by
    subst hA
    obtain ⟨e1, e2⟩ := hsame
    rw [State.setFrames_setFrames] at e1
    have h2 : (T.setVm s.vm).sameButNew ({ U with vm := s.vm } : State) [] (0 + 1) (0 + 6) := ⟨e1, e2⟩
    have h3 := X.same.trans h2
    rw [List.append_nil] at h3
    exact h3.mono hc hs
  refine ⟨U, ?_, .threw T.heap.size, hrun, hend, Or.inr ⟨T.heap.size, rfl, nseN, ce, locs, hx U hWs.alike f1 (fun q hq => f2 q hq (fun z hz => nomatch hz)), hce, hO2, hcl, hWs, hall, hf⟩⟩
  refine st1 _ ?_
  show Steps p.tables e below (T1.setTop { method := m, pc := pc + 3, locals := ls, stack := .ref T.heap.size :: rest, locked := none }) _
  jvm_step X₁.here [X₁.here.top, hexec, d3', Value.category]
  exact X₁.ldcString hexec (own := own) (text := text) (index := is) (a := sa) hown' hstr'.1 hstr'.2
    (g := { method := m, pc := pc + 4, locals := ls, stack := .ref T.heap.size :: .ref T.heap.size :: rest, locked := none }) rfl d4' _ hsteps
end NSEW
def QH (D : va_G) (ca : Nat → ClassId) (tp : List ODt) (a : Nat → Nat) (A : Nat → Prop) (z : Option Int32 × St) : Array Value → State → Outcome → State → Prop := match z.1 with
  | some r => QI D ca tp a A (r, z.2)
  | none => fun _ _ _ _ => False
def XH (D : va_G) (ca : Nat → ClassId) (tp : List ODt) (a : Nat → Nat) (A : Nat → Prop) (z : Option Int32 × St) : String → State → State → Prop := match z.1 with
  | some _ => fun _ _ _ => False
  | none => fun E st t => E = nseN ∧ Wd D ca tp a A z.2 t.heap ∧ va_F A st t
abbrev QmH (D : va_G) (ca : Nat → ClassId) (tp : List ODt) (a : Nat → Nat) (A : Nat → Prop) (below : List Frame) (args : Array Value) (s : State) : Option Int32 × St → State → Prop := fun z => vx_MQ below (QH D ca tp a A z) (XH D ca tp a A z) args s 1 6 A
def nseB : List Cond := [.declares (Bundle.initS nseUp), .declares (Bundle.initS "java/lang/Exception"), .declares (Bundle.initS Bundle.tN), .castable nseN nseN]
theorem nse_good : ∀ w ∈ ((nseAtoms RX10 145).filter vx_no).filter goodWord, w ∈ lw_tbl := by decide +kernel
theorem nse_bad : ∀ w ∈ ((nseAtoms RX10 145).filter vx_no).filter (fun w => !goodWord w), w ∈ nseB := by decide +kernel
theorem nse_ot : ∀ w ∈ Cond.classLink RX10 141 nseN :: Cond.initialized nseN :: (nseAtoms RX10 145).filter vx_no, vx_ot w = true := by decide +kernel
section HOUSE
variable {p : Program} {l : Launch} {e : Env} {R : Room} {s : State} {m : MethodId} {args : Array Value} {below : List Frame} {meth : Method} {c : Code}
variable {D : va_G} {ca : Nat → ClassId} {tp : List ODt} {a : Nat → Nat} {A : Nat → Prop} {nL : Nat} {ρ : Type} {Q : ρ → State → Prop} {S : St} {ls : List (Nat × Value)} {pc : Nat} {st : List Value} {M : Option ρ} {s0 : State} {args0 : Array Value} {cc : ByteArray} {own : String}
theorem Cx.nse (h : Cx p s m c cc nL own s0 args0 D ca a A) (args : Array Value) : ∀ w ∈ (nseAtoms RX10 145).filter vx_no, w.before args s = true := by
  refine vx_hat (B := nseB) (fun w hw => h.word (nse_good w hw) (List.mem_filter.mp hw).2 args) nse_bad ?_
  refine vx_c (va_Nw.use rfl (va_Nw.warmD h.2.2.2.2.1 (va_Nw.of rfl (h.gg.1 _ tw_5_54)))) (vx_c (va_Nw.use rfl (va_Nw.warmD h.2.2.2.2.1 (va_Nw.of rfl (h.gg.1 _ tw_5_56)))) (vx_c (va_Nw.use rfl (va_Nw.warmD h.2.2.2.2.1 (va_Nw.of rfl (h.gg.1 _ tw_5_58)))) (vx_c (va_Nw.use rfl (va_Nw.warmC h.2.2.2.2.1 (va_Nw.of rfl (h.gg.1 _ tw_5_52)))) vx_n)))
theorem V_throwN (h : Cx p s m c cc nL RX10 s0 args0 D ca a A) {i : Nat} {tx : String} (k : Nat) (hl0 : l.stackTraces = false) (hU : vx_Zq Bundle.tN "UNASSIGNED_STACK" Bundle.steD A s0 s0.heap) (hN : vx_Zq Bundle.tN "SUPPRESSED_SENTINEL" Bundle.listD A s0 s0.heap) (hlk : meth.locks = false) (htab : ∀ x ∈ c.exceptionTable.toList, False) (hq : (RX10, i, tx, k) ∈ rsK) (hf : 6 ≤ R.frames) (hlo : 103 ≤ R.locals) (hc : 1 ≤ R.cells) (hs6 : 6 ≤ R.slots) (hroom : (st.map fun v => v.category).sum ≤ 8)
    (d0 : decode cc pc = .ok (.new 141, 3)) (d3 : decode cc (pc + 3) = .ok (.dup, 1)) (d4 : decode cc (pc + 4) = .ok (.ldc i, 2)) (d6 : decode cc (pc + 6) = .ok (.invokespecial 145, 3)) (d9 : decode cc (pc + 9) = .ok (.athrow, 1)) :
    VV p l e R s m args below meth c D ca tp a A nL (QmH D ca tp a A below args s) S ls pc st (some (none, S)) := by
  intro z hz H locs lsA hw hs hl
  cases hz
  refine nse_throwW (mc := 1) (ms := 6) h.1 h.2.1 hl0 h.2.2.2.1 (h.word tw_5_50 rfl args) (h.word tw_1_23 rfl args) (vk_R.warm h.2.2.2.2.1 (h.gg.2.2.2.2.2.1 _ hq)) (h.nse args) nse_ot (vx_Zq.moved h.al (hU.kept h.hk)) (vx_Zq.moved h.al (hN.kept h.hk)) hs (hl.1.trans h.2.2.1.symm) d0 d3 d4 d6 d9 (fun x hx => (htab x hx).elim) hf (by omega) hc hs6 hlk ?_ hs.2.2 (Nat.le_refl 1) (Nat.le_refl 6)
  intro t hal hsz hkeep
  refine ⟨rfl, ?_, ?_⟩
  · exact ⟨hw.1.kept (fun k q hq => hkeep q.1 ((hw.1 k q hq).lt)), hw.2⟩
  · exact ⟨Nat.le_trans hs.1 hsz, fun q h1 h2 => (hkeep q (Nat.lt_of_lt_of_le h1 hs.1)).trans (hs.2.1 q h1 h2)⟩
theorem V_iretH (h : Cx p s m c cc nL own s0 args0 D ca a A) {x : Int32} (hr : meth.sig.returnType = some .int) (hlk : meth.locks = false) (hd : decode cc pc = .ok (.ireturn, 1)) : VV p l e R s m args below meth c D ca tp a A nL (QmH D ca tp a A below args s) S ls pc [.int x] (some (some x, S)) := by
  intro z hz H locs lsA hw hs hl
  cases hz
  refine vx_ret (W.widen (k := 1) (n := 6) (by omega) (by omega) ?_)
  exact W.iret (v := x) h.1 h.2.1 hr (fun t ht hW => ⟨⟨x, (), rfl, rfl, by show Wd D ca tp a A S t.heap; rw [ht]; exact hw⟩, hs.F ht⟩) hs.2.2 hd hlk
theorem rmd_fitG {R : Room} {dy nLy : Nat} (h1 : 64 * (dy + 1) ≤ R.locals) (h2 : nLy ≤ 45) : 8 + (nLy + 11) + (rmd dy).locals ≤ R.locals := by
  show 8 + (nLy + 11) + 64 * dy ≤ R.locals
  omega
theorem V_doneIG {As0 : Array Value} {rest : List Value} (G : Option (Int32 × St)) {K : Int32 → St → Option ρ} (hrun : ∀ w, G = some w → ∀ (H : Heap) (locs : List Loc) (lsA : Array Slot), Wd D ca tp a A S H → va_S A s.heap H locs → lv_has lsA nL ls → va_Run p l e R s m args below meth c H locs 0 0 0 0 (F0 m pc lsA st) rest (QI D ca tp a A w As0) A) (kk : ∀ (r : Int32) (S1 : St), VV p l e R s m args below meth c D ca tp a A nL Q S1 ls (pc + 3) (.int r :: rest) (K r S1)) : VV p l e R s m args below meth c D ca tp a A nL Q S ls pc st (bI G K) := by
  intro z hz H locs lsA hw hs hl
  cases hG : G with
  | none => rw [hG] at hz; cases hz
  | some w =>
    rw [hG] at hz
    have hz' : K w.1 w.2 = some z := hz
    refine va_calli (hrun w hG H locs lsA hw hs hl) hs (fun q _ hq => hq) (fun q hq => hq) (fun r u t H1 locs1 ht hvm hw1 hB hz1 hk1 hS1 => ?_)
    subst hw1
    rw [ht] at hB
    exact kk w.1 w.2 z hz' H1 locs1 lsA hB hS1 hl
theorem V_callVIG (h : Cx p s m c cc nL own s0 args0 D ca a A) {y : MethodName} {cy : ByteArray} {nLy n i : Nat} {rt : FieldType} {dy : Nat} (As rest : List Value) (o : Nat) {ci : Nat} {fds : List FDt} {q : vw_C} (hm : MVk own i q.1 y cy nLy (some rt) n) (ht : tp[o]? = some (.inl (ci, fds))) (hc : vwCl[ci]? = some q) (hd : decode cc pc = .ok (.invokevirtual i, 3)) (hn : As.length = n) (hst : st = As.reverse ++ .ref (a o) :: rest) (hroom : (rest.map fun v => v.category).sum ≤ 8) (hf : dy + 1 ≤ R.frames) (hlo : 64 * (dy + 1) ≤ R.locals) (G : Option (Int32 × St)) {K : Int32 → St → Option ρ} (hM : ∀ z, G = some z → CtI l y cy nLy rt dy s0 D ca tp a A (.ref (a o) :: As) S z) (kk : ∀ (r : Int32) (S1 : St), VV p l e R s m args below meth c D ca tp a A nL Q S1 ls (pc + 3) (.int r :: rest) (K r S1)) : VV p l e R s m args below meth c D ca tp a A nL Q S ls pc st (bI G K) := by
  refine V_doneIG (As0 := (Value.ref (a o) :: As).toArray) G (fun w hG H locs lsA hw hs hl => ?_) kk
  exact va_runV (Ts := []) (C := q.1) (bytes := cy) (maxL := nLy) (ret := (some rt)) ⟨h.1, h.2.1, h.2.2.1, h.2.2.2.1, fun w (hw : w ∈ ([] : List Cond)) => nomatch hw⟩ (hM w hG) ⟨⟨rfl, rfl, hf, (rmd_fitG hlo hm.2.2.2.2.2.2), h.ridesCode hm.2.2.2.2.1, List.mem_singleton.mpr rfl, h.word hm.2.2.2.2.1 rfl args, h.word hm.2.2.2.1 rfl args, ⟨hm.2.2.2.2.2.1.1, hm.2.2.2.2.2.1.2.1⟩, arity_of hm.2.2.2.2.2.1.2.2, h.word hm.1 rfl args⟩, h.word hm.2.1 rfl args, h.word hm.2.2.1 rfl args⟩ ⟨Pre.blind, h.recv hw ht hc, h.pre hs hw _⟩ rfl hn hl.1 hst (lv_room hroom) hd ⟨Nat.zero_le _, Nat.zero_le _⟩
theorem V_callSIG (h : Cx p s m c cc nL own s0 args0 D ca a A) {y : MethodName} {cy : ByteArray} {nLy n i : Nat} {rt : FieldType} {dy : Nat} (As rest : List Value) (hm : MSk own i y cy nLy (some rt) n) (hd : decode cc pc = .ok (.invokestatic i, 3)) (hn : As.length = n) (hst : st = As.reverse ++ rest) (hroom : (rest.map fun v => v.category).sum ≤ 8) (hf : dy + 1 ≤ R.frames) (hlo : 64 * (dy + 1) ≤ R.locals) (G : Option (Int32 × St)) {K : Int32 → St → Option ρ} (hM : ∀ z, G = some z → CtI l y cy nLy rt dy s0 D ca tp a A As S z) (kk : ∀ (r : Int32) (S1 : St), VV p l e R s m args below meth c D ca tp a A nL Q S1 ls (pc + 3) (.int r :: rest) (K r S1)) : VV p l e R s m args below meth c D ca tp a A nL Q S ls pc st (bI G K) := by
  refine V_doneIG (As0 := As.toArray) G (fun w hG H locs lsA hw hs hl => ?_) kk
  rcases hm.1 with hl1 | ⟨host, hl1⟩
  · exact va_runS (Ts := []) (bytes := cy) (maxL := nLy) (ret := (some rt)) ⟨h.1, h.2.1, h.2.2.1, h.2.2.2.1, fun w (hw : w ∈ ([] : List Cond)) => nomatch hw⟩ (hM w hG) ⟨⟨rfl, rfl, hf, (rmd_fitG hlo hm.2.2.2.2.2), h.ridesCode hm.2.2.2.1, List.mem_singleton.mpr rfl, h.word hm.2.2.2.1 rfl args, h.word hm.2.2.1 rfl args, ⟨hm.2.2.2.2.1.1, hm.2.2.2.2.1.2.1⟩, arity_of hm.2.2.2.2.1.2.2, h.word hl1 rfl args⟩, h.word hm.2.1 rfl args⟩ ⟨Pre.blind, h.pre hs hw _⟩ rfl hn hl.1 hst (lv_room hroom) hd ⟨Nat.zero_le _, Nat.zero_le _⟩
  · exact va_runSN (Ts := []) (bytes := cy) (maxL := nLy) (ret := (some rt)) ⟨h.1, h.2.1, h.2.2.1, h.2.2.2.1, fun w (hw : w ∈ ([] : List Cond)) => nomatch hw⟩ (hM w hG) ⟨⟨⟨rfl, rfl, hf, (rmd_fitG hlo hm.2.2.2.2.2), h.ridesCode hm.2.2.2.1, List.mem_singleton.mpr rfl⟩, h.word hm.2.2.2.1 rfl args, h.word hm.2.2.1 rfl args, ⟨hm.2.2.2.2.1.1, hm.2.2.2.2.1.2.1⟩, arity_of hm.2.2.2.2.1.2.2, h.nestM hl1⟩, h.word hm.2.1 rfl args, trivial⟩ ⟨Pre.blind, h.pre hs hw _⟩ rfl hn hl.1 hst (lv_room hroom) hd ⟨Nat.zero_le _, Nat.zero_le _⟩
end HOUSE
theorem fl_X10_155_X7 : FLk RX10 155 6 5 := ⟨RX7, TX7, 8, "NeighbourSoup$Street", rfl, by decide, u_in_X7, Or.inl rfl, Or.inr ⟨"NeighbourSoup", tw_1_152⟩⟩
theorem fl_X10_158_X7 : FLk RX10 158 6 6 := ⟨RX7, TX7, 8, "NeighbourSoup$Street", rfl, by decide, u_in_X7, Or.inl rfl, Or.inr ⟨"NeighbourSoup", tw_1_155⟩⟩
theorem fl_X10_161_X7 : FLk RX10 161 6 7 := ⟨RX7, TX7, 8, "NeighbourSoup$Street", rfl, by decide, u_in_X7, Or.inl rfl, Or.inr ⟨"NeighbourSoup", tw_1_158⟩⟩
section GEN
variable {p : Program} {l : Launch} {e : Env} {s : State} {m : MethodId} {args : Array Value} {below : List Frame} {meth : Method} {c : Code}
variable {D : va_G} {ca : Nat → ClassId} {tp : List ODt} {a : Nat → Nat} {A : Nat → Prop} {s0 : State} {args0 : Array Value} {t : Nat}
def c_N_house (v1 : Int32) (v2 : Int32) (S : St) : Option (Option Int32 × St) := (bI (c_N_isHouse v1 S) (fun x2 S1 => (if x2 = 0 then (some (none, S1)) else (bI (c_N_isStuff v2 S1) (fun x4 S3 => (if x4 = 0 then (if v2 = (5 : Int32) then (ckM v1 6 (some (some (S3 30 v1.toNatClampNeg), S3))) else (if v2 = (6 : Int32) then (ckM v1 6 (some (some (S3 31 v1.toNatClampNeg), S3))) else (if v2 = (7 : Int32) then (ckM v1 6 (some (some (S3 32 v1.toNatClampNeg), S3))) else (if v2 = (8 : Int32) then (ckM v1 6 (some (some (S3 37 v1.toNatClampNeg), S3))) else (if v2 = (9 : Int32) then (bI (c_State_placeOf 33 v1 S3) (fun x16 S15 => (some (some x16, S15)))) else (some (none, S3))))))) else (bI (c_State_store 33 v1 v2 S3) (fun x18 S17 => (some (some x18, S17))))))))))
set_option maxHeartbeats 4000000 in
set_option maxRecDepth 100000 in
theorem c_N_house_ok (h : Cx p s m c cX10_house 3 RX10 s0 args0 D ca a A) (hr : meth.sig.returnType = some .int) (hlk : meth.locks = false) (hl0 : l.stackTraces = false) (hU : vx_Zq Bundle.tN "UNASSIGNED_STACK" Bundle.steD A s0 s0.heap) (hN : vx_Zq Bundle.tN "SUPPRESSED_SENTINEL" Bundle.listD A s0 s0.heap) (htab : ∀ x ∈ c.exceptionTable.toList, False) (v1 v2 : Int32) (S : St) : VV p l e (rmE 6 1 6) s m args below meth c D ca tpC a A 3 (QmH D ca tpC a A below args s) S [(0, .ref (a 0)), (1, .int v1), (2, .int v2)] 0 [] (c_N_house v1 v2 S) := by
  unfold c_N_house
  refine V_aload_n (pc := 0) h 0 dX10_house_0 rfl rfl ?_
  refine V_iload_n (pc := 1) h 1 dX10_house_1 rfl rfl ?_
  refine V_callVIG (pc := 2) (dy := 1) (q := (RX10, TX10, 15)) h [.int v1] [] 0 mv_X10_137 oC_0 rfl dX10_house_2 rfl rfl (Nat.le_of_ble_eq_true rfl) (by decide) (by decide) (c_N_isHouse v1 S) (fun z9 hz9 => c_N_isHouse_ct h.gg (Nat.le_refl 1) v1 S z9 hz9) (fun x2 S1 => ?_)
  refine V_if_ne (pc := 5) h 18 dX10_house_5 (by decide) ?_ ?_
  · refine V_iload_n (pc := 18) h 2 dX10_house_18 rfl rfl ?_
    refine V_callSIG (pc := 19) (dy := 1) h [.int v2] [] ms_X10_148 dX10_house_19 rfl rfl (Nat.le_of_ble_eq_true rfl) (by decide) (by decide) (c_N_isStuff v2 S1) (fun z9 hz9 => c_N_isStuff_ct h.gg (Nat.le_refl 1) v2 S1 z9 hz9) (fun x4 S3 => ?_)
    refine V_if_eq (pc := 22) h 35 dX10_house_22 (by decide) ?_ ?_
    · refine V_iload_n (pc := 35) h 2 dX10_house_35 rfl rfl ?_
      refine V_split _ (fun c6 => ?_) (fun n5 => ?_)
      · refine V_tswIn (pc := 36) h (5 : Int32) 72 dX10_house_36 c6 (by decide) (by decide) rfl (by decide) ?_
        refine V_aload_n (pc := 72) h 0 dX10_house_72 rfl rfl ?_
        refine V_get (pc := 73) h 0 6 (.ref (a 28)) fl_X10_49_X10 oC_0 rfl rfl dX10_house_73 ?_
        refine V_get (pc := 76) h 28 5 (.ref (a 30)) fl_X10_155_X7 oC_28 rfl rfl dX10_house_76 ?_
        refine V_iload_n (pc := 79) h 1 dX10_house_79 rfl rfl ?_
        refine V_iald (pc := 80) h 30 oC_30 dX10_house_80 ?_
        exact V_iretH (pc := 81) h hr hlk dX10_house_81
      · refine V_split _ (fun c8 => ?_) (fun n7 => ?_)
        · refine V_tswIn (pc := 36) h (6 : Int32) 82 dX10_house_36 c8 (by decide) (by decide) rfl (by decide) ?_
          refine V_aload_n (pc := 82) h 0 dX10_house_82 rfl rfl ?_
          refine V_get (pc := 83) h 0 6 (.ref (a 28)) fl_X10_49_X10 oC_0 rfl rfl dX10_house_83 ?_
          refine V_get (pc := 86) h 28 6 (.ref (a 31)) fl_X10_158_X7 oC_28 rfl rfl dX10_house_86 ?_
          refine V_iload_n (pc := 89) h 1 dX10_house_89 rfl rfl ?_
          refine V_iald (pc := 90) h 31 oC_31 dX10_house_90 ?_
          exact V_iretH (pc := 91) h hr hlk dX10_house_91
        · refine V_split _ (fun c10 => ?_) (fun n9 => ?_)
          · refine V_tswIn (pc := 36) h (7 : Int32) 92 dX10_house_36 c10 (by decide) (by decide) rfl (by decide) ?_
            refine V_aload_n (pc := 92) h 0 dX10_house_92 rfl rfl ?_
            refine V_get (pc := 93) h 0 6 (.ref (a 28)) fl_X10_49_X10 oC_0 rfl rfl dX10_house_93 ?_
            refine V_get (pc := 96) h 28 7 (.ref (a 32)) fl_X10_161_X7 oC_28 rfl rfl dX10_house_96 ?_
            refine V_iload_n (pc := 99) h 1 dX10_house_99 rfl rfl ?_
            refine V_iald (pc := 100) h 32 oC_32 dX10_house_100 ?_
            exact V_iretH (pc := 101) h hr hlk dX10_house_101
          · refine V_split _ (fun c12 => ?_) (fun n11 => ?_)
            · refine V_tswIn (pc := 36) h (8 : Int32) 102 dX10_house_36 c12 (by decide) (by decide) rfl (by decide) ?_
              refine V_aload_n (pc := 102) h 0 dX10_house_102 rfl rfl ?_
              refine V_get (pc := 103) h 0 7 (.ref (a 33)) fl_X10_56_X10 oC_0 rfl rfl dX10_house_103 ?_
              refine V_get (pc := 106) h 33 4 (.ref (a 37)) fl_X10_164_X6 oC_33 rfl rfl dX10_house_106 ?_
              refine V_iload_n (pc := 109) h 1 dX10_house_109 rfl rfl ?_
              refine V_iald (pc := 110) h 37 oC_37 dX10_house_110 ?_
              exact V_iretH (pc := 111) h hr hlk dX10_house_111
            · refine V_split _ (fun c14 => ?_) (fun n13 => ?_)
              · refine V_tswIn (pc := 36) h (9 : Int32) 112 dX10_house_36 c14 (by decide) (by decide) rfl (by decide) ?_
                refine V_aload_n (pc := 112) h 0 dX10_house_112 rfl rfl ?_
                refine V_get (pc := 113) h 0 7 (.ref (a 33)) fl_X10_56_X10 oC_0 rfl rfl dX10_house_113 ?_
                refine V_iload_n (pc := 116) h 1 dX10_house_116 rfl rfl ?_
                refine V_callVIG (pc := 117) (dy := 1) (q := (RX6, TX6, 5)) h [.int v1] [] 33 mv_X10_167 oC_33 rfl dX10_house_117 rfl rfl (Nat.le_of_ble_eq_true rfl) (by decide) (by decide) (c_State_placeOf 33 v1 S3) (fun z9 hz9 => c_State_placeOf_ct h.gg (Nat.le_refl 1) isSt_33 v1 S3 z9 hz9) (fun x16 S15 => ?_)
                exact V_iretH (pc := 120) h hr hlk dX10_house_120
              · refine V_tswDef (pc := 36) h [5, 6, 7, 8, 9] 121 dX10_house_36 (List.forall_mem_cons.mpr ⟨n5, List.forall_mem_cons.mpr ⟨n7, List.forall_mem_cons.mpr ⟨n9, List.forall_mem_cons.mpr ⟨n11, List.forall_mem_cons.mpr ⟨n13, fun _ q => nomatch q⟩⟩⟩⟩⟩) (by decide) (by decide) (by decide) ?_
                exact V_throwN (pc := 121) (tx := "no such thing of a house") h 6 hl0 hU hN hlk htab (by decide) (by decide) (by decide) (by decide) (by decide) (Nat.le_of_ble_eq_true rfl) dX10_house_121 dX10_house_124 dX10_house_125 dX10_house_127 dX10_house_130
    · refine V_aload_n (pc := 25) h 0 dX10_house_25 rfl rfl ?_
      refine V_get (pc := 26) h 0 7 (.ref (a 33)) fl_X10_56_X10 oC_0 rfl rfl dX10_house_26 ?_
      refine V_iload_n (pc := 29) h 1 dX10_house_29 rfl rfl ?_
      refine V_iload_n (pc := 30) h 2 dX10_house_30 rfl rfl ?_
      refine V_callVIG (pc := 31) (dy := 3) (q := (RX6, TX6, 5)) h [.int v1, .int v2] [] 33 mv_X10_151 oC_33 rfl dX10_house_31 rfl rfl (Nat.le_of_ble_eq_true rfl) (by decide) (by decide) (c_State_store 33 v1 v2 S3) (fun z9 hz9 => c_State_store_ct h.gg (Nat.le_refl 3) isSt_33 v1 v2 S3 z9 hz9) (fun x18 S17 => ?_)
      exact V_iretH (pc := 34) h hr hlk dX10_house_34
  · exact V_throwN (pc := 8) (tx := "no such house") h 5 hl0 hU hN hlk htab (by decide) (by decide) (by decide) (by decide) (by decide) (Nat.le_of_ble_eq_true rfl) dX10_house_8 dX10_house_11 dX10_house_12 dX10_house_14 dX10_house_17
theorem c_N_house_ct (g : GG s0 args0 D ca a A) (hl0 : l.stackTraces = false) (hU : vx_Zq Bundle.tN "UNASSIGNED_STACK" Bundle.steD A s0 s0.heap) (hN : vx_Zq Bundle.tN "SUPPRESSED_SENTINEL" Bundle.listD A s0 s0.heap) (v1 v2 : Int32) (S : St) (z : Option Int32 × St) (hz : c_N_house v1 v2 S = some z) : vx_Met l yX10_house [Cond.code yX10_house cX10_house 3 (some .int)] (rmE 6 1 6) (va_Pc [.ref (a 0), .int v1, .int v2] (Pre s0 D ca tpC a A S)) (QH D ca tpC a A z) (XH D ca tpC a A z) 1 6 A := by
  refine vx_ofW (cc := cX10_house) (maxL := 3) (ret := some .int) (by decide +kernel) rfl ?_
  intro p e s m args below meth c s₁ B hml htab hv
  obtain ⟨rfl, hW0, hh, hsz, hw⟩ := hv
  have hx : Cx p s m c cX10_house 3 RX10 s0 args0 D ca a A := ⟨B.exec, B.bytes, hml, findClass_of_methodNamed B.named, hW0, g, hh, hsz⟩
  have hl := lv_entry [.ref (a 0), .int v1, .int v2] (n := 3) (Nat.le_of_ble_eq_true rfl)
  rw [lg_entry_eq]
  exact c_N_house_ok hx B.returns B.notSynchronized hl0 hU hN htab v1 v2 S z hz s.heap [] _ hw va_S.rf hl
end GEN
