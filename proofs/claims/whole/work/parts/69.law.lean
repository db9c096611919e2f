/-! THE CLAIM OUT OF ONE WALK OF THE LAW'S BODY. Your part is whole_start (and what it stands on); all else here is the same for every law, but numbers. -/
def R_law : String := "NeighbourSoupLaw"
def lw_P (b : Addr) (xs : List Int32) (args : Array Value) (s : State) : Prop := args = #[.ref b] ∧ s.IntsAt b xs ∧ xs.length ≤ 3072 ∧ (Jvm.Cond.and given_1 narrow_1).before args s = true
def lw_Q (_ : Array Value) (s : State) (o : Outcome) (t : State) : Prop := o = .returned (some (.int 1)) ∧ Framed s o t [] 601024 7293034
def lw_Z (below : List Frame) (a : Array Value) (s : State) : State → Prop := fun t => ∃ o, t.status = .running ∧ Ended t below o ∧ lw_Q a s o t
/-- the law's own end, with 1 on the stack, nothing written that was there before, its room as the claim has it -/
theorem lw_ret {p : Program} {l : Launch} {e : Env} {s : State} {m : MethodId} {below : List Frame} {meth : Method} {c : Code} {b : Nat} (hx : p.tables.exec = Jvm.exec) (hb : c.code = code) (hr : meth.sig.returnType = ret) (hlocks : meth.locks = false) {pc : Nat} {H : Heap} {ls : Array Slot} (hdg : decode code pc = .ok (.ireturn, 1)) : W p l e room_1 s m #[Value.ref b] below meth c H [] 601024 7293034 (lw_Z below #[Value.ref b] s) (F0 m pc ls [.int 1]) := by
  intro T hT X
  obtain ⟨fs, hret, hrun, hended, hW, hframe⟩ := X.leave (v := some (.int 1)) (hlocks := hlocks) (fun h => by rw [hr] at h; cases h)
  have hmeth' : T.vm.method? m = some meth := X.method'
  refine ⟨T.setFrames fs, ?_, .returned (some (.int 1)), hrun, hended, rfl, ⟨_, rfl⟩, hW, hframe⟩
  jvm_step X.here [X.here.top, hx, hb, hdg, hmeth', hr, ret, narrow_b1]
  (try refine ⟨rfl, ?_⟩); (try refine ⟨rfl, ?_⟩)
  first | (intro acts; rw [hret _ acts rfl rfl rfl]) | rw [hret _ _ rfl rfl rfl]
  exact Steps.refl _
/-- what holds at the law's entry: the machine, the code, the tables' words (any of lw_tbl by 'hts w (by decide +kernel)'), the script of L ints xs at the cell b, what the Statement gives of the start (any of its parts by flat_of_before) -/
def lw_At (p : Program) (s : State) (m : MethodId) (meth : Method) (c : Code) (b L : Nat) (xs : Nat → Int32) : Prop :=
  p.tables.exec = Jvm.exec ∧ c.code = code ∧ meth.sig.returnType = ret ∧ c.maxLocals = 7 ∧ s.vm.findClass R_law = some m.cls ∧ (∀ w ∈ lw_tbl, w.before #[Value.ref b] s = true) ∧ va_X b L xs s s.heap ∧ b < s.heap.size ∧ meth.locks = false ∧ (Jvm.Cond.and given_1 narrow_1).before #[Value.ref b] s = true
/-! THE LAW'S WORLD: the class's cells n0 .. n0 + 131, the reference's n0 + 132 .. n0 + 160, the row 'out' at n0 + 161 -/
def AC (n0 : Nat) : Nat → Prop := fun q => n0 ≤ q ∧ q < n0 + 132
def AM (n0 : Nat) : Nat → Prop := fun q => n0 + 132 ≤ q ∧ q < n0 + 161
def AH (n0 : Nat) : Nat → Prop := fun q => AC n0 q ∨ q = n0 + 161
def OutAt (cJ : ClassId) (n0 : Nat) (f : Nat → Int64) (H : Heap) : Prop := H[n0 + 161]? = some (vp_cell cJ (1, .inr (.inl f)))
def LW (D : va_G) (ca : Nat → ClassId) (cJ : ClassId) (aC aM : Nat → Nat) (n0 : Nat) (S T : St) (f : Nat → Int64) (H : Heap) : Prop := Wd D ca tpC aC (AC n0) S H ∧ Wd D ca tpM aM (AM n0) T H ∧ OutAt cJ n0 f H
/-- what holds all along the law's walk -/
def LX (p : Program) (l : Launch) (s : State) (m : MethodId) (meth : Method) (c : Code) (b L : Nat) (xs : Nat → Int32) (D : va_G) (ca : Nat → ClassId) (cJ : ClassId) (aC aM : Nat → Nat) : Prop :=
  (p.tables.exec = Jvm.exec ∧ c.code = cL_law ∧ c.maxLocals = 7 ∧ s.vm.findClass RL = some m.cls) ∧ (GG s #[Value.ref b] D ca aC (AC s.heap.size) ∧ GG s #[Value.ref b] D ca aM (AM s.heap.size)) ∧
  (va_X b L xs s s.heap ∧ b < s.heap.size) ∧ (meth.locks = false ∧ meth.sig.returnType = ret ∧ l.stackTraces = false) ∧
  (vx_Zq Bundle.tN "UNASSIGNED_STACK" Bundle.steD (AC s.heap.size) s s.heap ∧ vx_Zq Bundle.tN "SUPPRESSED_SENTINEL" Bundle.listD (AC s.heap.size) s s.heap) ∧ va_K D vwCl [(cJ, .long)] s
def LV (p : Program) (l : Launch) (e : Env) (s : State) (m : MethodId) (below : List Frame) (meth : Method) (c : Code) (b : Nat) (D : va_G) (ca : Nat → ClassId) (cJ : ClassId) (aC aM : Nat → Nat) (k n : Nat) (S T : St) (F : (Nat → Int64) → Prop) (ls : List (Nat × Value)) (pc : Nat) (st : List Value) : Prop :=
  ∀ (f : Nat → Int64) (H : Heap) (locs : List Loc) (lsA : Array Slot), F f → LW D ca cJ aC aM s.heap.size S T f H → va_S (AE s.heap.size) s.heap H locs → lv_has lsA 7 ls → W p l e room_1 s m #[Value.ref b] below meth c H locs k n (lw_Z below #[Value.ref b] s) (F0 m pc lsA st)
section LAW
variable {p : Program} {l : Launch} {e : Env} {s : State} {m : MethodId} {below : List Frame} {meth : Method} {c : Code} {b L : Nat} {xs : Nat → Int32} {D : va_G} {ca : Nat → ClassId} {cJ : ClassId} {aC aM : Nat → Nat} {k n : Nat} {S T : St} {F : (Nat → Int64) → Prop} {ls : List (Nat × Value)} {pc : Nat} {st : List Value}
theorem LX.cxC (h : LX p l s m meth c b L xs D ca cJ aC aM) : Cx p s m c cL_law 7 RL s #[Value.ref b] D ca aC (AC s.heap.size) := ⟨h.1.1, h.1.2.1, h.1.2.2.1, h.1.2.2.2, State.WarmedH.refl s, h.2.1.1, fun _ _ => rfl, Nat.le_refl _⟩
theorem LX.cxM (h : LX p l s m meth c b L xs D ca cJ aC aM) : Cx p s m c cL_law 7 RL s #[Value.ref b] D ca aM (AM s.heap.size) := ⟨h.1.1, h.1.2.1, h.1.2.2.1, h.1.2.2.2, State.WarmedH.refl s, h.2.1.2, fun _ _ => rfl, Nat.le_refl _⟩
theorem LX.bA (h : LX p l s m meth c b L xs D ca cJ aC aM) : ¬ AE s.heap.size b := Nat.not_le.mpr h.2.2.1.2
theorem LX.word (h : LX p l s m meth c b L xs D ca cJ aC aM) {w : Cond} (hw : w ∈ lw_tbl) : w.before #[Value.ref b] s = true := h.2.1.1.1 w hw
theorem L_aload_n (h : LX p l s m meth c b L xs D ca cJ aC aM) {i : Fin 4} (k0 : Nat) {j x : Nat} (hd : decode cL_law pc = .ok (.aload_n i, 1)) (hj : (i : Nat) = j) (hk : ls[k0]? = some (j, .ref x)) (kk : LV p l e s m below meth c b D ca cJ aC aM k n S T F ls (pc + 1) (.ref x :: st)) : LV p l e s m below meth c b D ca cJ aC aM k n S T F ls pc st := fun f H locs lsA hf hw hs hl => lv_aload_n h.1.1 h.1.2.1 hd hj (lv_at hl k0 hk) (kk f H locs lsA hf hw hs hl)
theorem L_iload (h : LX p l s m meth c b L xs D ca cJ aC aM) (k0 : Nat) {j : Nat} {x : Int32} (hd : decode cL_law pc = .ok (.iload j, 2)) (hk : ls[k0]? = some (j, .int x)) (kk : LV p l e s m below meth c b D ca cJ aC aM k n S T F ls (pc + 2) (.int x :: st)) : LV p l e s m below meth c b D ca cJ aC aM k n S T F ls pc st := fun f H locs lsA hf hw hs hl => lv_iload h.1.1 h.1.2.1 hd (lv_at hl k0 hk) (kk f H locs lsA hf hw hs hl)
theorem L_istore (h : LX p l s m meth c b L xs D ca cJ aC aM) {i : Nat} {x : Int32} (ls' : List (Nat × Value)) (hd : decode cL_law pc = .ok (.istore i, 2)) (hn : i < 7) (hl' : (i, Value.int x) :: ls.filter (fun q => !(q.1 == i) && !(q.1 + 1 == i && q.2.category == 2)) = ls') (kk : LV p l e s m below meth c b D ca cJ aC aM k n S T F ls' (pc + 2) st) : LV p l e s m below meth c b D ca cJ aC aM k n S T F ls pc (.int x :: st) := fun f H locs lsA hf hw hs hl => lv_istore h.1.1 h.1.2.1 hd hl hn hl' (fun ls2 hl2 => kk f H locs ls2 hf hw hs hl2)
theorem L_iconst (h : LX p l s m meth c b L xs D ca cJ aC aM) {x : Int} {v : Int32} (hd : decode cL_law pc = .ok (.iconst x, 1)) (hv : Int32.ofInt x = v) (kk : LV p l e s m below meth c b D ca cJ aC aM k n S T F ls (pc + 1) (.int v :: st)) : LV p l e s m below meth c b D ca cJ aC aM k n S T F ls pc st := fun f H locs lsA hf hw hs hl => lv_iconst h.1.1 h.1.2.1 hd hv (kk f H locs lsA hf hw hs hl)
theorem L_bipush (h : LX p l s m meth c b L xs D ca cJ aC aM) {x : Int} {v : Int32} (hd : decode cL_law pc = .ok (.bipush x, 2)) (hv : (Int8.ofInt x).toInt32 = v) (kk : LV p l e s m below meth c b D ca cJ aC aM k n S T F ls (pc + 2) (.int v :: st)) : LV p l e s m below meth c b D ca cJ aC aM k n S T F ls pc st := fun f H locs lsA hf hw hs hl => lv_bipush h.1.1 h.1.2.1 hd hv (kk f H locs lsA hf hw hs hl)
theorem L_i2l (h : LX p l s m meth c b L xs D ca cJ aC aM) {x : Int32} (hd : decode cL_law pc = .ok (.i2l, 1)) (kk : LV p l e s m below meth c b D ca cJ aC aM k n S T F ls (pc + 1) (.long x.toInt64 :: st)) : LV p l e s m below meth c b D ca cJ aC aM k n S T F ls pc (.int x :: st) := fun f H locs lsA hf hw hs hl => lv_i2l h.1.1 h.1.2.1 hd rfl (kk f H locs lsA hf hw hs hl)
theorem L_lshl (h : LX p l s m meth c b L xs D ca cJ aC aM) {x : Int64} {y : Int32} (hd : decode cL_law pc = .ok (.lshl, 1)) (kk : LV p l e s m below meth c b D ca cJ aC aM k n S T F ls (pc + 1) (.long (x <<< (y.toInt64 &&& 63)) :: st)) : LV p l e s m below meth c b D ca cJ aC aM k n S T F ls pc (.int y :: .long x :: st) := fun f H locs lsA hf hw hs hl => lv_lshl h.1.1 h.1.2.1 hd rfl (kk f H locs lsA hf hw hs hl)
theorem L_land (h : LX p l s m meth c b L xs D ca cJ aC aM) {x y : Int64} (hd : decode cL_law pc = .ok (.land, 1)) (kk : LV p l e s m below meth c b D ca cJ aC aM k n S T F ls (pc + 1) (.long (x &&& y) :: st)) : LV p l e s m below meth c b D ca cJ aC aM k n S T F ls pc (.long y :: .long x :: st) := fun f H locs lsA hf hw hs hl => lv_land h.1.1 h.1.2.1 hd (kk f H locs lsA hf hw hs hl)
theorem L_lor (h : LX p l s m meth c b L xs D ca cJ aC aM) {x y : Int64} (hd : decode cL_law pc = .ok (.lor, 1)) (kk : LV p l e s m below meth c b D ca cJ aC aM k n S T F ls (pc + 1) (.long (x ||| y) :: st)) : LV p l e s m below meth c b D ca cJ aC aM k n S T F ls pc (.long y :: .long x :: st) := fun f H locs lsA hf hw hs hl => lv_lor h.1.1 h.1.2.1 hd (kk f H locs lsA hf hw hs hl)
theorem L_ldc2 (h : LX p l s m meth c b L xs D ca cJ aC aM) {i : Nat} {v : Int64} (hd : decode cL_law pc = .ok (.ldc2_w i, 3)) (hw0 : Cond.constantLong RL i v ∈ lw_tbl) (kk : LV p l e s m below meth c b D ca cJ aC aM k n S T F ls (pc + 3) (.long v :: st)) : LV p l e s m below meth c b D ca cJ aC aM k n S T F ls pc st := fun f H locs lsA hf hw hs hl => lv_ldc2 h.1.1 h.1.2.1 h.1.2.2.2 (h.word hw0) hd (kk f H locs lsA hf hw hs hl)
/-- the script's int at i + j -/
theorem L_arg (h : LX p l s m meth c b L xs D ca cJ aC aM) (k0 k4 : Nat) {i : Nat} (j : Nat) {x : Int} (hi : i + 6 ≤ L) (hL : L ≤ 3072) (hj : j ≤ 5) (h0 : ls[k0]? = some (0, .ref b)) (h4 : ls[k4]? = some (4, .int (nI i))) (d0 : decode cL_law pc = .ok (.aload_n 0, 1)) (d1 : decode cL_law (pc + 1) = .ok (.iload 4, 2)) (d2 : decode cL_law (pc + 3) = .ok (.iconst x, 1)) (hx : Int32.ofInt x = nI j) (d3 : decode cL_law (pc + 4) = .ok (.iadd, 1)) (d4 : decode cL_law (pc + 5) = .ok (.iaload, 1)) (kk : LV p l e s m below meth c b D ca cJ aC aM k n S T F ls (pc + 6) (.int (xs (i + j)) :: st)) : LV p l e s m below meth c b D ca cJ aC aM k n S T F ls pc st := by
  intro f H locs lsA hf hw hs hl
  refine lv_aload_n h.1.1 h.1.2.1 d0 rfl (lv_at hl k0 h0) ?_
  refine lv_iload (pc := pc + 1) h.1.1 h.1.2.1 d1 (lv_at hl k4 h4) ?_
  refine lv_iconst (pc := pc + 3) h.1.1 h.1.2.1 d2 hx ?_
  refine lv_iadd (pc := pc + 4) h.1.1 h.1.2.1 d3 ?_
  rw [nI_add]
  refine va_sld (pc := pc + 5) h.1.1 h.1.2.1 h.2.2.1.1 h.2.2.1.2 h.bA hs (vp_in_nI (show i + j < L by omega) (by omega)) d4 ?_
  rw [nI_clamp (show i + j < 2 ^ 31 by omega)]
  exact kk f H locs lsA hf hw hs hl
theorem LW_keepC {n0 : Nat} {S' : St} {f : Nat → Int64} {H H1 : Heap} (hw : LW D ca cJ aC aM n0 S T f H) (hz : H.size ≤ H1.size) (hk : ∀ q : Nat, q < H.size → ¬ AC n0 q → H1[q]? = H[q]?) (hB : Wd D ca tpC aC (AC n0) S' H1) : LW D ca cJ aC aM n0 S' T f H1 := by
  refine ⟨hB, ⟨hw.2.1.1.kept (fun k q hq => hk q.1 ((hw.2.1.1 k q hq).lt) (fun hA => ?_)), hw.2.1.2⟩, ?_⟩
  · have h2 : AM n0 q.1 := hw.2.1.2.2 k q hq
    unfold AM at h2
    unfold AC at hA
    omega
  · have h3 : OutAt cJ n0 f H := hw.2.2
    unfold OutAt at h3 ⊢
    rw [hk _ (Array.getElem?_eq_some_iff.mp h3).1 (by unfold AC; omega)]
    exact h3
theorem LW_keepM {n0 : Nat} {T' : St} {f : Nat → Int64} {H H1 : Heap} (hw : LW D ca cJ aC aM n0 S T f H) (hz : H.size ≤ H1.size) (hk : ∀ q : Nat, q < H.size → ¬ AM n0 q → H1[q]? = H[q]?) (hB : Wd D ca tpM aM (AM n0) T' H1) : LW D ca cJ aC aM n0 S T' f H1 := by
  refine ⟨⟨hw.1.1.kept (fun k q hq => hk q.1 ((hw.1.1 k q hq).lt) (fun hA => ?_)), hw.1.2⟩, hB, ?_⟩
  · have h2 : AC n0 q.1 := hw.1.2.2 k q hq
    unfold AC at h2
    unfold AM at hA
    omega
  · have h3 : OutAt cJ n0 f H := hw.2.2
    unfold OutAt at h3 ⊢
    rw [hk _ (Array.getElem?_eq_some_iff.mp h3).1 (by unfold AM; omega)]
    exact h3
theorem L_pre {tp : List ODt} {a : Nat → Nat} {A : Nat → Prop} {X : St} {H : Heap} {locs : List Loc} (hs : va_S (AE s.heap.size) s.heap H locs) (hw : Wd D ca tp a A X H) (av : List Value) : ∀ U : State, U.heap = H → s.WarmedH U.vm → va_Pc av (Pre s D ca tp a A X) av.toArray U := by
  intro U hU hW
  refine ⟨rfl, hW, fun q hq => ?_, ?_, ?_⟩
  · rw [hU]; exact hs.2.1 q hq (Nat.not_le.mpr hq)
  · rw [hU]; exact hs.1
  · rw [hU]; exact hw
theorem L_callC (h : LX p l s m meth c b L xs D ca cJ aC aM) {y : MethodName} {cy : ByteArray} {nLy nn i : Nat} {rt : FieldType} (As rest : List Value) (hm : MVk RL i RX10 y cy nLy (some rt) nn) (hd : decode cL_law pc = .ok (.invokevirtual i, 3)) (hn : As.length = nn) (hst : st = As.reverse ++ .ref (aC 0) :: rest) (hroom : (rest.map fun v => v.category).sum ≤ 8) (hk : k ≤ 600000) (hk2 : n ≤ 7000000) (z : Int32 × St) (hM : CtI l y cy nLy rt 100 s D ca tpC aC (AC s.heap.size) (.ref (aC 0) :: As) S z) (kk : LV p l e s m below meth c b D ca cJ aC aM k n z.2 T F ls (pc + 3) (.int z.1 :: rest)) : LV p l e s m below meth c b D ca cJ aC aM k n S T F ls pc st := by
  intro f H locs lsA hf hw hs hl
  have cx := h.cxC
  refine va_calli (va_runV (Ts := []) (C := RX10) (bytes := cy) (maxL := nLy) (ret := (some rt)) ⟨h.1.1, h.1.2.1, h.1.2.2.1, h.1.2.2.2, fun w (hw : w ∈ ([] : List Cond)) => nomatch hw⟩ hM ⟨⟨rfl, rfl, (show 100 + 1 ≤ 2048 by decide), rmd_fitG (show 64 * (100 + 1) ≤ 84000 by decide) hm.2.2.2.2.2.2, cx.ridesCode hm.2.2.2.2.1, List.mem_singleton.mpr rfl, cx.word hm.2.2.2.2.1 rfl _, cx.word hm.2.2.2.1 rfl _, ⟨hm.2.2.2.2.2.1.1, hm.2.2.2.2.2.1.2.1⟩, arity_of hm.2.2.2.2.2.1.2.2, cx.word hm.1 rfl _⟩, cx.word hm.2.1 rfl _, cx.word hm.2.2.1 rfl _⟩ ⟨Pre.blind, cx.recv hw.1 oC_0 (q := (RX10, TX10, 15)) rfl, L_pre hs hw.1 _⟩ rfl hn hl.1 hst (lv_room hroom) hd ⟨(show k + 0 ≤ 601024 by omega), (show n + 0 ≤ 7293034 by omega)⟩) hs (fun q _ hq => hq.1) (fun q hq => hq.1) (fun r u t H1 locs1 ht hvm hw1 hB hz1 hk1 hS1 => ?_)
  subst hw1
  rw [ht] at hB
  exact kk f H1 locs1 lsA hf (LW_keepC hw hz1 hk1 hB) hS1 hl
theorem L_callM (h : LX p l s m meth c b L xs D ca cJ aC aM) {y : MethodName} {cy : ByteArray} {nLy nn i : Nat} {rt : FieldType} (As rest : List Value) (hm : MVk RL i RX11 y cy nLy (some rt) nn) (hd : decode cL_law pc = .ok (.invokevirtual i, 3)) (hn : As.length = nn) (hst : st = As.reverse ++ .ref (aM 0) :: rest) (hroom : (rest.map fun v => v.category).sum ≤ 8) (hk : k ≤ 600000) (hk2 : n ≤ 7000000) (z : Int32 × St) (hM : CtI l y cy nLy rt 100 s D ca tpM aM (AM s.heap.size) (.ref (aM 0) :: As) T z) (kk : LV p l e s m below meth c b D ca cJ aC aM k n S z.2 F ls (pc + 3) (.int z.1 :: rest)) : LV p l e s m below meth c b D ca cJ aC aM k n S T F ls pc st := by
  intro f H locs lsA hf hw hs hl
  have cx := h.cxM
  refine va_calli (va_runV (Ts := []) (C := RX11) (bytes := cy) (maxL := nLy) (ret := (some rt)) ⟨h.1.1, h.1.2.1, h.1.2.2.1, h.1.2.2.2, fun w (hw : w ∈ ([] : List Cond)) => nomatch hw⟩ hM ⟨⟨rfl, rfl, (show 100 + 1 ≤ 2048 by decide), rmd_fitG (show 64 * (100 + 1) ≤ 84000 by decide) hm.2.2.2.2.2.2, cx.ridesCode hm.2.2.2.2.1, List.mem_singleton.mpr rfl, cx.word hm.2.2.2.2.1 rfl _, cx.word hm.2.2.2.1 rfl _, ⟨hm.2.2.2.2.2.1.1, hm.2.2.2.2.2.1.2.1⟩, arity_of hm.2.2.2.2.2.1.2.2, cx.word hm.1 rfl _⟩, cx.word hm.2.1 rfl _, cx.word hm.2.2.1 rfl _⟩ ⟨Pre.blind, cx.recv hw.2.1 oM_0 (q := (RX11, TX11, 59)) rfl, L_pre hs hw.2.1 _⟩ rfl hn hl.1 hst (lv_room hroom) hd ⟨(show k + 0 ≤ 601024 by omega), (show n + 0 ≤ 7293034 by omega)⟩) hs (fun q _ hq => Nat.le_trans (Nat.le_add_right _ _) hq.1) (fun q hq => Nat.le_trans (Nat.le_add_right _ _) hq.1) (fun r u t H1 locs1 ht hvm hw1 hB hz1 hk1 hS1 => ?_)
  subst hw1
  rw [ht] at hB
  exact kk f H1 locs1 lsA hf (LW_keepM hw hz1 hk1 hB) hS1 hl
theorem LV_widen {k' n' : Nat} (h1 : k ≤ k') (h2 : n ≤ n') (kk : LV p l e s m below meth c b D ca cJ aC aM k' n' S T F ls pc st) : LV p l e s m below meth c b D ca cJ aC aM k n S T F ls pc st := fun f H locs lsA hf hw hs hl => W.widen h1 h2 (kk f H locs lsA hf hw hs hl)
theorem LV_free {F' : (Nat → Int64) → Prop} (h1 : ∀ f, F f → F' f) (kk : LV p l e s m below meth c b D ca cJ aC aM k n S T F' ls pc st) : LV p l e s m below meth c b D ca cJ aC aM k n S T F ls pc st := fun f H locs lsA hf hw hs hl => kk f H locs lsA (h1 f hf) hw hs hl
theorem LV_sub {ls' : List (Nat × Value)} (ks : List Nat) (hl' : lv_pick ls ks = ls') (kk : LV p l e s m below meth c b D ca cJ aC aM k n S T F ls' pc st) : LV p l e s m below meth c b D ca cJ aC aM k n S T F ls pc st := fun f H locs lsA hf hw hs hl => kk f H locs lsA hf hw hs (lv_sub hl ks hl')
theorem L_eq (h : LX p l s m meth c b L xs D ca cJ aC aM) {x y : Int32} {off : Int} (tgt : Nat) (hd : decode cL_law pc = .ok (.if_icmp .eq off, 3)) (ht : (pc : Int) + off = (tgt : Int)) (hxy : x = y) (kk : LV p l e s m below meth c b D ca cJ aC aM k n S T F ls tgt st) : LV p l e s m below meth c b D ca cJ aC aM k n S T F ls pc (.int y :: .int x :: st) := fun f H locs lsA hf hw hs hl => lv_icmp_eq h.1.1 h.1.2.1 hd ht (fun _ => kk f H locs lsA hf hw hs hl) (fun q => absurd hxy q)
theorem L_if_ne1 (h : LX p l s m meth c b L xs D ca cJ aC aM) {x : Int32} {off : Int} (tgt : Nat) (hd : decode cL_law pc = .ok (.ifCond .ne off, 3)) (ht : (pc : Int) + off = (tgt : Int)) (hx : ¬ x = 0) (kk : LV p l e s m below meth c b D ca cJ aC aM k n S T F ls tgt st) : LV p l e s m below meth c b D ca cJ aC aM k n S T F ls pc (.int x :: st) := fun f H locs lsA hf hw hs hl => lv_if_ne h.1.1 h.1.2.1 hd ht (fun _ => kk f H locs lsA hf hw hs hl) (fun q => absurd q hx)
theorem L_if_ne0 (h : LX p l s m meth c b L xs D ca cJ aC aM) {x : Int32} {off : Int} (tgt : Nat) (hd : decode cL_law pc = .ok (.ifCond .ne off, 3)) (ht : (pc : Int) + off = (tgt : Int)) (hx : x = 0) (kk : LV p l e s m below meth c b D ca cJ aC aM k n S T F ls (pc + 3) st) : LV p l e s m below meth c b D ca cJ aC aM k n S T F ls pc (.int x :: st) := fun f H locs lsA hf hw hs hl => lv_if_ne h.1.1 h.1.2.1 hd ht (fun q => absurd hx q) (fun _ => kk f H locs lsA hf hw hs hl)
theorem L_if_eq1 (h : LX p l s m meth c b L xs D ca cJ aC aM) {x : Int32} {off : Int} (tgt : Nat) (hd : decode cL_law pc = .ok (.ifCond .eq off, 3)) (ht : (pc : Int) + off = (tgt : Int)) (hx : x = 0) (kk : LV p l e s m below meth c b D ca cJ aC aM k n S T F ls tgt st) : LV p l e s m below meth c b D ca cJ aC aM k n S T F ls pc (.int x :: st) := fun f H locs lsA hf hw hs hl => lv_if_eq h.1.1 h.1.2.1 hd ht (fun _ => kk f H locs lsA hf hw hs hl) (fun q => absurd hx q)
theorem L_goto (h : LX p l s m meth c b L xs D ca cJ aC aM) {off : Int} (tgt : Nat) (hd : decode cL_law pc = .ok (.goto off, 3)) (ht : (pc : Int) + off = (tgt : Int)) (kk : LV p l e s m below meth c b D ca cJ aC aM k n S T F ls tgt st) : LV p l e s m below meth c b D ca cJ aC aM k n S T F ls pc st := fun f H locs lsA hf hw hs hl => lv_goto h.1.1 h.1.2.1 hd ht (kk f H locs lsA hf hw hs hl)
/-- the row 'out' read, and compared with a long that it is -/
theorem L_outcmp (h : LX p l s m meth c b L xs D ca cJ aC aM) (k3 : Nat) {x : Int32} (h3 : ls[k3]? = some (3, .ref (s.heap.size + 161))) (k6 : Nat) (h6 : ls[k6]? = some (6, .int x)) (d0 : decode cL_law pc = .ok (.aload_n 3, 1)) (d1 : decode cL_law (pc + 1) = .ok (.iconst 0, 1)) (d2 : decode cL_law (pc + 2) = .ok (.laload, 1)) (d3 : decode cL_law (pc + 3) = .ok (.iload 6, 2)) (d5 : decode cL_law (pc + 5) = .ok (.i2l, 1)) (d6 : decode cL_law (pc + 6) = .ok (.lcmp, 1)) (hF : ∀ f, F f → f 0 = x.toInt64) (kk : LV p l e s m below meth c b D ca cJ aC aM k n S T F ls (pc + 7) (.int 0 :: st)) : LV p l e s m below meth c b D ca cJ aC aM k n S T F ls pc st := by
  intro f H locs lsA hf hw hs hl
  refine lv_aload_n h.1.1 h.1.2.1 d0 rfl (lv_at hl k3 h3) ?_
  refine lv_iconst (pc := pc + 1) (v := 0) h.1.1 h.1.2.1 d1 (by decide) ?_
  have hP : va_P D vwCl [(s.heap.size + 161, .inl (cJ, 1, .inr (.inl f)))] H := fun k q hq => by
    have hz : k < 1 := (List.getElem?_eq_some_iff.mp hq).1
    rw [show k = 0 by omega] at hq
    cases hq
    exact hw.2.2
  refine va_lald (pc := pc + 2) h.1.1 h.1.2.1 h.2.2.2.2.2 hP 0 0 rfl rfl (by unfold vp_in; decide) d2 ?_
  refine lv_iload (pc := pc + 3) h.1.1 h.1.2.1 d3 (lv_at hl k6 h6) ?_
  refine lv_i2l (pc := pc + 5) h.1.1 h.1.2.1 d5 rfl ?_
  refine W.lcmp (pc := pc + 6) h.1.1 h.1.2.1 d6 ?_
  have e0 : f (0 : Int32).toNatClampNeg = x.toInt64 := hF f hf
  rw [e0]
  have e1 : lg_cmp x.toInt64 x.toInt64 = 0 := by unfold lg_cmp; simp
  rw [e1]
  exact kk f H locs lsA hf hw hs hl
end LAW
