/-! the law's own method house: it catches what the class throws -/
def hhs : List (Nat × Nat × Nat × Nat) := [(0, 10, 13, 13)]
def hpost (z : Option Int32 × St) : Int32 → (Nat → Int64) → Prop := match z.1 with
  | some x => fun r u => r = 0 ∧ u 0 = x.toInt64
  | none => fun r _ => r = 1
def PreL (s0 : State) (D : va_G) (ca : Nat → ClassId) (cJ : ClassId) (aC : Nat → Nat) (n0 : Nat) (S : St) (U : State) : Prop := Pre s0 D ca tpC aC (AC n0) S U ∧ ∃ f, OutAt cJ n0 f U.heap
def QL (D : va_G) (ca : Nat → ClassId) (cJ : ClassId) (aC : Nat → Nat) (n0 : Nat) (z : Option Int32 × St) : Array Value → State → Outcome → State → Prop := va_Qi (hpost z) (fun u t => Wd D ca tpC aC (AC n0) z.2 t.heap ∧ OutAt cJ n0 u t.heap) (AH n0)
theorem vx_Run.mono {p : Program} {l : Launch} {e : Env} {R : Room} {s : State} {m : MethodId} {args : Array Value} {below : List Frame} {meth : Method} {c : Code} {H : Heap} {locs : List Loc} {cells slots mc ms : Nat} {g : JFrame} {rest : List Value} {Qa Qa' : State → Outcome → State → Prop} {XC XC' : String → State → State → Prop} {free : Addr → Prop} (h : vx_Run p l e R s m args below meth c H locs cells slots mc ms g rest Qa XC free) (h1 : ∀ st o t, Qa st o t → Qa' st o t) (h2 : ∀ E st t, XC E st t → XC' E st t) : vx_Run p l e R s m args below meth c H locs cells slots mc ms g rest Qa' XC' free := by
  intro T hT X
  rcases h T hT X with ⟨v, st₀, t, T', L, a1, a2, a3, a4, a5, a6, a7⟩ | ⟨q, st₀, t, T', L, E, ce, a1, a2, a3, a4, a5, a6, a7, a8, a9, b1⟩
  · exact Or.inl ⟨v, st₀, t, T', L, a1, a2, a3, a4, a5, h1 _ _ _ a6, a7⟩
  · exact Or.inr ⟨q, st₀, t, T', L, E, ce, a1, a2, a3, a4, a5, h2 _ _ _ a6, a7, a8, a9, b1⟩
theorem out_keep {cJ : ClassId} {n0 : Nat} {f : Nat → Int64} {H H1 : Heap} (h : OutAt cJ n0 f H) (hk : ∀ q : Nat, q < H.size → ¬ AC n0 q → H1[q]? = H[q]?) : OutAt cJ n0 f H1 := by
  unfold OutAt at h ⊢
  rw [hk _ (Array.getElem?_eq_some_iff.mp h).1 (by unfold AC; omega)]
  exact h
theorem out_P {D : va_G} {cJ : ClassId} {n0 : Nat} {f : Nat → Int64} {H : Heap} (h : OutAt cJ n0 f H) : va_P D vwCl [(n0 + 161, .inl (cJ, 1, .inr (.inl f)))] H := fun k q hq => by
  have hz : k < 1 := (List.getElem?_eq_some_iff.mp hq).1
  rw [show k = 0 by omega] at hq
  cases hq
  exact h
theorem out_D {cJ : ClassId} {n0 : Nat} {f : Nat → Int64} : va_D (AH n0) [(n0 + 161, .inl (cJ, 1, .inr (.inl f)))] := by
  refine ⟨fun i j x y hi hj _ => ?_, fun k q hq => ?_⟩
  · have h1 : i < 1 := (List.getElem?_eq_some_iff.mp hi).1
    have h2 : j < 1 := (List.getElem?_eq_some_iff.mp hj).1
    omega
  · have hz : k < 1 := (List.getElem?_eq_some_iff.mp hq).1
    rw [show k = 0 by omega] at hq
    cases hq
    exact Or.inr rfl
theorem mv_L_7 : MVk RL 7 RX10 yX10_house cX10_house 3 (some .int) 2 := ⟨tw_5_46, tw_5_47, tw_5_48, tw_1_1, tw_5_49, by decide +kernel, by decide⟩
section LHOUSE
variable {p : Program} {l : Launch} {e : Env} {s : State} {m : MethodId} {args : Array Value} {below : List Frame} {meth : Method} {c : Code}
variable {D : va_G} {ca : Nat → ClassId} {cJ : ClassId} {aC : Nat → Nat} {n0 : Nat} {s0 : State} {args0 : Array Value}
set_option maxHeartbeats 4000000 in
theorem L_house_ct (g : GG s0 args0 D ca aC (AC n0)) (hl0 : l.stackTraces = false) (hU : vx_Zq Bundle.tN "UNASSIGNED_STACK" Bundle.steD (AC n0) s0 s0.heap) (hN : vx_Zq Bundle.tN "SUPPRESSED_SENTINEL" Bundle.listD (AC n0) s0 s0.heap) (hJ : va_K D vwCl [(cJ, .long)] s0) (v w : Int32) (S : St) (z : Option Int32 × St) (hz : c_N_house v w S = some z) : Met l yL_house [Cond.codeWith yL_house cL_house 5 (some .int) hhs] (rmE 7 1 6) (va_Pc [.ref (aC 0), .int v, .int w, .ref (n0 + 161)] (PreL s0 D ca cJ aC n0 S)) (QL D ca cJ aC n0 z) 1 6 (AH n0) := by
  refine va_MetW (cc := cL_house) (maxL := 5) (ret := some .int) (hh := hhs) (by decide +kernel) rfl ?_
  intro p e s m args below meth c s₁ B hml hv
  obtain ⟨rfl, ⟨hW0, hh, hsz, hw⟩, f, hf⟩ := hv
  have cx : Cx p s m c cL_house 5 RL s0 args0 D ca aC (AC n0) := ⟨B.exec, B.bytes, hml, findClass_of_methodNamed B.named, hW0, g, hh, hsz⟩
  have htab : c.exceptionTable.toList = tableOf hhs := vx_table (x := yL_house) B (atoms_spec (ws := [Cond.codeWith yL_house cL_house 5 (some .int) hhs]) B.pre _ List.mem_cons_self)
  have hr := B.returns
  have hlk := B.notSynchronized
  have hl := lv_entry ([.ref (aC 0), .int v, .int w, .ref (n0 + 161)]) (n := 5) (Nat.le_of_ble_eq_true rfl)
  rw [lg_entry_eq]
  generalize (lg_sl ([.ref (aC 0), .int v, .int w, .ref (n0 + 161)]) ++ List.replicate (5 - (lg_sl ([.ref (aC 0), .int v, .int w, .ref (n0 + 161)])).length) Slot.unset).toArray = ls at hl ⊢
  have hl : lv_has ls 5 [(0, .ref (aC 0)), (1, .int v), (2, .int w), (3, .ref (n0 + 161))] := hl
  refine lv_aload_n cx.1 cx.2.1 dL_house_0 rfl (lv_at hl 3 rfl) ?_
  refine lv_iconst (v := 0) cx.1 cx.2.1 dL_house_1 (by decide) ?_
  refine lv_aload_n cx.1 cx.2.1 dL_house_2 rfl (lv_at hl 0 rfl) ?_
  refine lv_iload_n cx.1 cx.2.1 dL_house_3 rfl (lv_at hl 1 rfl) ?_
  refine lv_iload_n cx.1 cx.2.1 dL_house_4 rfl (lv_at hl 2 rfl) ?_
  have hm := mv_L_7
  have hK : va_K D vwCl [(cJ, .long)] s := va_K.moved hW0.alike hJ
  have hS0 : va_S (AC n0) s.heap s.heap [] := va_S.rf
  have run := vx_runV (p := p) (l := l) (e := e) (R := rmE 7 1 6) (s := s) (m := m) (below := below) (meth := meth) (c := c) (H := s.heap) (locs := []) (cells := 0) (slots := 0) (Ts := []) (C := RX10) (bytes := cX10_house) (maxL := 3) (ret := some .int) (As := [.int v, .int w]) (rest := [.int 0, .ref (n0 + 161)]) (args := ([.ref (aC 0), .int v, .int w, .ref (n0 + 161)] : List Value).toArray) (g := F0 m 5 ls [.int w, .int v, .ref (aC 0), .int 0, .ref (n0 + 161)]) ⟨cx.1, cx.2.1, cx.2.2.1, cx.2.2.2.1, fun w (hw : w ∈ ([] : List Cond)) => nomatch hw⟩ (c_N_house_ct g hl0 hU hN v w S z hz) ⟨⟨rfl, rfl, (show 6 + 1 ≤ 7 by decide), (show 8 + (3 + 11) + 384 ≤ 448 by decide), cx.ridesCode hm.2.2.2.2.1, List.mem_singleton.mpr rfl, cx.word hm.2.2.2.2.1 rfl _, cx.word hm.2.2.2.1 rfl _, ⟨hm.2.2.2.2.2.1.1, hm.2.2.2.2.2.1.2.1⟩, arity_of hm.2.2.2.2.2.1.2.2, cx.word hm.1 rfl _⟩, cx.word hm.2.1 rfl _, cx.word hm.2.2.1 rfl _⟩ ⟨Pre.blind, cx.recv hw oC_0 (q := (RX10, TX10, 15)) rfl, cx.pre hS0 hw _⟩ rfl rfl hl.1 rfl (lv_room (Nat.le_of_ble_eq_true rfl)) dL_house_5 ⟨(show 0 + 1 ≤ 1 by decide), (show 0 + 6 ≤ 6 by decide)⟩
  obtain ⟨zo, S'⟩ := z
  cases zo with
  | some x =>
    refine vx_calli (a := #[]) (S := Unit) (SX := Unit) (post := fun r _ => r = x) (B := fun _ t => Wd D ca tpC aC (AC n0) S' t.heap) (A1 := AC n0) (px := fun _ => False) (BX := fun _ _ _ => True) (AX := AC n0) (A0 := AH n0) (H0 := s.heap) (run.mono (fun _ _ _ h => h) (fun _ _ _ h => h.elim)) va_S.rf (fun q _ h => Or.inl h) (fun q h => Or.inl h) (fun q _ h => Or.inl h) ?_ ?_
    · intro E ce q9 u t H1 locs1 ht hvm hw1
      exact hw1.elim
    · intro r u t H1 locs1 ht hvm hw1 hB hz1 hk1 hS1
      subst hw1
      rw [ht] at hB
      have hfo := out_keep hf hk1
      refine lv_i2l (pc := 8) cx.1 cx.2.1 dL_house_8 rfl ?_
      have hB1 : va_P D vwCl (cellsOf ca aC tpC S') H1 := hB.1
      have hB2 : va_D (AC n0) (cellsOf ca aC tpC S') := hB.2
      generalize hcw : cellsOf ca aC tpC S' = CW at hB1 hB2
      have hP : va_P D vwCl ([(n0 + 161, .inl (cJ, 1, .inr (.inl f)))] ++ CW) H1 := (out_P hfo).app hB1
      have hD : va_D (AH n0) ([(n0 + 161, .inl (cJ, 1, .inr (.inl f)))] ++ CW) := out_D.app (hB2.weaken (fun k q _ h => Or.inl h)) (fun i j x y hi hj hxy => by
        have hz : i < 1 := (List.getElem?_eq_some_iff.mp hi).1
        rw [show i = 0 by omega] at hi
        cases hi
        have := hB2.2 j y hj
        unfold AC at this
        simp only at hxy
        omega)
      refine va_last (pc := 9) cx.1 cx.2.1 hK hP hD hS1 0 0 rfl rfl (by unfold vp_in; decide) dL_house_9 (fun H2 locs2 p2 d2 s2 => ?_)
      refine lv_goto (pc := 10) (tgt := 17) cx.1 cx.2.1 dL_house_10 (by decide) ?_
      refine lv_iconst (pc := 17) (v := 0) cx.1 cx.2.1 dL_house_17 (by decide) ?_
      refine W.iret (v := 0) cx.1 cx.2.1 hr (fun t2 ht2 hW2 => ⟨⟨0, vp_updL f (0 : Int32).toNatClampNeg r.toInt64, rfl, ⟨rfl, if_pos (by decide)⟩, ?_, ?_⟩, s2.F ht2⟩) s2.2.2 dL_house_18 hlk
      · show va_P D vwCl (cellsOf ca aC tpC S') t2.heap ∧ va_D (AC n0) (cellsOf ca aC tpC S')
        rw [hcw, ht2]
        exact ⟨fun k q hq => p2 (k + 1) q hq, hB2⟩
      · show OutAt cJ n0 _ t2.heap
        rw [ht2]
        exact p2 0 _ rfl
  | none =>
    refine vx_calli (a := #[]) (S := Unit) (SX := Unit) (post := fun _ _ => False) (B := fun _ _ => True) (A1 := AC n0) (px := fun _ => True) (BX := fun E _ t => E = nseN ∧ Wd D ca tpC aC (AC n0) S' t.heap) (AX := AC n0) (A0 := AH n0) (H0 := s.heap) (run.mono (fun _ _ _ h => False.elim h) (fun _ _ _ h => ⟨(), trivial, ⟨h.1, h.2.1⟩, h.2.2⟩)) va_S.rf (fun q _ h => Or.inl h) (fun q h => Or.inl h) (fun q _ h => Or.inl h) ?_ ?_
    · intro E ce q9 u t H1 locs1 ht hvm _ hE hz1 hk1 hS1 hcell hcv hcl
      obtain ⟨rfl, hB⟩ := hE
      rw [ht] at hB
      have hfo := out_keep hf hk1
      refine vx_catch (own := RL) (name := nseN) (E := nseN) cx.2.2.2.1 [] ⟨0, 10, 13, 13⟩ [] htab (fun z hz => nomatch hz) rfl (by decide) (cx.word tw_5_45 rfl _) (va_Nw.use rfl (va_Nw.warmC hW0 (va_Nw.of rfl (g.1 _ tw_5_52)))) hcell hcv hcl ?_
      refine lv_astore (pc := 13) (lv' := [(4, .ref q9), (0, .ref (aC 0)), (1, .int v), (2, .int w), (3, .ref (n0 + 161))]) cx.1 cx.2.1 dL_house_13 hl (by decide) rfl (fun ls hl => ?_)
      refine lv_iconst (pc := 15) (v := 1) cx.1 cx.2.1 dL_house_15 (by decide) ?_
      refine W.iret (v := 1) cx.1 cx.2.1 hr (fun t2 ht2 hW2 => ⟨⟨1, f, rfl, rfl, ?_, ?_⟩, hS1.F ht2⟩) hS1.2.2 dL_house_16 hlk
      · show Wd D ca tpC aC (AC n0) S' t2.heap
        rw [ht2]
        exact hB
      · show OutAt cJ n0 f t2.heap
        rw [ht2]
        exact hfo
    · intro r u t H1 locs1 ht hvm hw1
      exact hw1.elim
end LHOUSE
section LAW2
variable {p : Program} {l : Launch} {e : Env} {s : State} {m : MethodId} {below : List Frame} {meth : Method} {c : Code} {b L : Nat} {xs : Nat → Int32} {D : va_G} {ca : Nat → ClassId} {cJ : ClassId} {aC aM : Nat → Nat} {k n : Nat} {S T : St} {F : (Nat → Int64) → Prop} {ls : List (Nat × Value)} {pc : Nat} {st : List Value}
theorem LW_keepH {n0 : Nat} {S' : St} {f f' : Nat → Int64} {H H1 : Heap} (hw : LW D ca cJ aC aM n0 S T f H) (hk : ∀ q : Nat, q < H.size → ¬ AH n0 q → H1[q]? = H[q]?) (hB : Wd D ca tpC aC (AC n0) S' H1) (ho : OutAt cJ n0 f' H1) : LW D ca cJ aC aM n0 S' T f' H1 := by
  refine ⟨hB, ⟨hw.2.1.1.kept (fun k q hq => hk q.1 ((hw.2.1.1 k q hq).lt) (fun hA => ?_)), hw.2.1.2⟩, ho⟩
  have h2 : AM n0 q.1 := hw.2.1.2.2 k q hq
  unfold AM at h2
  unfold AH AC at hA
  omega
theorem L_callH (h : LX p l s m meth c b L xs D ca cJ aC aM) (v w : Int32) (z : Option Int32 × St) (hz : c_N_house v w S = some z) (hst : st = [.ref (s.heap.size + 161), .int w, .int v, .ref (aC 0)]) (hd : decode cL_law pc = .ok (.invokestatic 38, 3)) (hk : k ≤ 600000) (hk2 : n ≤ 7000000) (kk : ∀ r : Int32, (∃ u, hpost z r u) → LV p l e s m below meth c b D ca cJ aC aM (k + 1) (n + 6) z.2 T (hpost z r) ls (pc + 3) [.int r]) : LV p l e s m below meth c b D ca cJ aC aM k n S T F ls pc st := by
  intro f H locs lsA hf hw hs hl
  have cx := h.cxC
  have hM := L_house_ct (l := l) (cJ := cJ) (n0 := s.heap.size) h.2.1.1 h.2.2.2.1.2.2 h.2.2.2.2.1.1 h.2.2.2.2.1.2 h.2.2.2.2.2 v w S z hz
  have cw : vx_CSW room_1 s #[Value.ref b] RL 38 yL_house cL_house 5 (some .int) hhs [Cond.codeWith yL_house cL_house 5 (some .int) hhs] (rmE 7 1 6) 1 6 4 := ⟨⟨rfl, rfl, (show 7 + 1 ≤ 2048 by decide), (show 8 + (5 + 11) + 448 ≤ 84000 by decide), fun w hw a' U hW => by
      rw [List.mem_singleton.mp hw]
      exact word_at hW (Or.inl rfl) (h.word tw_5_44), List.mem_singleton.mpr rfl⟩, h.word tw_5_44, h.word tw_1_0, ⟨by decide, by decide⟩, arity_of (y := yL_house) (by decide +kernel), h.word tw_5_42, h.word tw_5_43⟩
  refine va_calli (vx_runSW (p := p) (l := l) (e := e) (R := room_1) (locs := locs) (cells := k) (slots := n) (Ts := []) (As := [.ref (aC 0), .int v, .int w, .ref (s.heap.size + 161)]) (rest := []) (g := F0 m pc lsA st) ⟨h.1.1, h.1.2.1, h.1.2.2.1, h.1.2.2.2, fun w (hw : w ∈ ([] : List Cond)) => nomatch hw⟩ hM cw ⟨fun _ _ _ _ q => q, fun U hU hW => ⟨rfl, (L_pre hs hw.1 [] U hU hW).2, f, by rw [hU]; exact hw.2.2⟩⟩ rfl rfl hl.1 hst (lv_room (Nat.le_of_ble_eq_true rfl)) hd ⟨(show k + 1 ≤ 601024 by omega), (show n + 6 ≤ 7293034 by omega)⟩) hs (fun q _ hq => ?_) (fun q hq => ?_) (fun r u t H1 locs1 ht hvm hw1 hB hz1 hk1 hS1 => ?_)
  · show s.heap.size ≤ q
    unfold AH AC at hq
    omega
  · show s.heap.size ≤ q
    unfold AH AC at hq
    omega
  · rw [ht] at hB
    exact kk r ⟨u, hw1⟩ u H1 locs1 lsA hw1 (LW_keepH hw hk1 hB.1 hB.2) hS1 hl
end LAW2
