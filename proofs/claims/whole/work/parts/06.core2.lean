/-! LINKS: what an instruction's pool entry names, by the words of the start -/
def FLk (own : String) (i ci k : Nat) : Prop := ∃ (C : String) (T : u_T) (N : Nat) (ref : String), vwCl[ci]? = some (C, T, N) ∧ k < N ∧ (∀ w ∈ u_ws C T N, w ∈ lw_tbl) ∧ (ref = (T k).1 ∨ Cond.sameField ref (T k).1 (T k).2.1 (T k).2.2.1 ∈ lw_tbl) ∧ (Cond.fieldLink own i ref (T k).2.1 (T k).2.2.1 ∈ lw_tbl ∨ ∃ host : String, Cond.fieldLinkNest own i ref (T k).2.1 (T k).2.2.1 host ∈ lw_tbl)
def FPk (own : String) (i ci k : Nat) (ty : FieldType) : Prop := ∃ (C : String) (T : u_T) (N : Nat) (ref : String) (ty0 : Nat → FieldType), vwCl[ci]? = some (C, T, N) ∧ k < N ∧ (∀ w ∈ u_ws C T N, w ∈ lw_tbl) ∧ (ref = (T k).1 ∨ Cond.sameField ref (T k).1 (T k).2.1 (T k).2.2.1 ∈ lw_tbl) ∧ (Cond.fieldLink own i ref (T k).2.1 (T k).2.2.1 ∈ lw_tbl ∨ ∃ host : String, Cond.fieldLinkNest own i ref (T k).2.1 (T k).2.2.1 host ∈ lw_tbl) ∧ (∀ k, k < N → parseFieldDescriptor (T k).2.2.1 = some (ty0 k)) ∧ (∀ a, a < N → ∀ b, b < N → a ≠ b → (T a).2.1 ≠ (T b).2.1) ∧ (T k).2.2.2 = false ∧ parseFieldDescriptor (T k).2.2.1 = some ty
def MVk (own : String) (i : Nat) (C : String) (y : MethodName) (cy : ByteArray) (nLy : Nat) (rt : Option FieldType) (n : Nat) : Prop := Cond.methodLink own i y ∈ lw_tbl ∧ Cond.instanceMethod y ∈ lw_tbl ∧ Cond.selects C y y ∈ lw_tbl ∧ Cond.initialized y.cls ∈ lw_tbl ∧ Cond.code y cy nLy rt ∈ lw_tbl ∧ (y.cls ≠ "java/lang/invoke/MethodHandle" ∧ y.cls ≠ "java/lang/invoke/VarHandle" ∧ (parseMethodDescriptor y.desc).map (fun d => d.parameters.length) = some n) ∧ nLy ≤ 45
def MSk (own : String) (i : Nat) (y : MethodName) (cy : ByteArray) (nLy : Nat) (rt : Option FieldType) (n : Nat) : Prop := (Cond.methodLink own i y ∈ lw_tbl ∨ ∃ host : String, Cond.methodLinkNest own i y host ∈ lw_tbl) ∧ Cond.static y ∈ lw_tbl ∧ Cond.initialized y.cls ∈ lw_tbl ∧ Cond.code y cy nLy rt ∈ lw_tbl ∧ (y.cls ≠ "java/lang/invoke/MethodHandle" ∧ y.cls ≠ "java/lang/invoke/VarHandle" ∧ (parseMethodDescriptor y.desc).map (fun d => d.parameters.length) = some n) ∧ nLy ≤ 45
def MUk (own : String) (i : Nat) (C : String) (owner : String) (x y : MethodName) (cy : ByteArray) (nLy : Nat) (rt : Option FieldType) (n : Nat) : Prop := Cond.methodLink own i x ∈ lw_tbl ∧ Cond.sameMethod x.cls owner x.name x.desc ∈ lw_tbl ∧ Cond.selects C x y ∈ lw_tbl ∧ Cond.instanceMethod y ∈ lw_tbl ∧ Cond.initialized y.cls ∈ lw_tbl ∧ Cond.code y cy nLy rt ∈ lw_tbl ∧ (Cond.declares ⟨owner, x.name, x.desc⟩ ∈ lw_tbl ∨ y = ⟨owner, x.name, x.desc⟩) ∧ (owner ≠ "java/lang/invoke/MethodHandle" ∧ owner ≠ "java/lang/invoke/VarHandle" ∧ (parseMethodDescriptor x.desc).map (fun d => d.parameters.length) = some n) ∧ nLy ≤ 45
/-! CONTRACTS -/
def QI (D : va_G) (ca : Nat → ClassId) (tp : List ODt) (a : Nat → Nat) (A : Nat → Prop) (z : Int32 × St) : Array Value → State → Outcome → State → Prop := va_Qi (fun r (_ : Unit) => r = z.1) (fun _ t => Wd D ca tp a A z.2 t.heap) A
def QV (D : va_G) (ca : Nat → ClassId) (tp : List ODt) (a : Nat → Nat) (A : Nat → Prop) (z : St) : Array Value → State → Outcome → State → Prop := va_Qv (fun (_ : Unit) => True) (fun _ t => Wd D ca tp a A z t.heap) A
def CtI (l : Launch) (y : MethodName) (cy : ByteArray) (nLy : Nat) (rt : FieldType) (d : Nat) (s0 : State) (D : va_G) (ca : Nat → ClassId) (tp : List ODt) (a : Nat → Nat) (A : Nat → Prop) (av : List Value) (S : St) (z : Int32 × St) : Prop :=
  Met l y [Cond.code y cy nLy (some rt)] (rmd d) (va_Pc av (Pre s0 D ca tp a A S)) (QI D ca tp a A z) 0 0 A
def CtV (l : Launch) (y : MethodName) (cy : ByteArray) (nLy : Nat) (d : Nat) (s0 : State) (D : va_G) (ca : Nat → ClassId) (tp : List ODt) (a : Nat → Nat) (A : Nat → Prop) (av : List Value) (S : St) (z : St) : Prop :=
  Met l y [Cond.code y cy nLy none] (rmd d) (va_Pc av (Pre s0 D ca tp a A S)) (QV D ca tp a A z) 0 0 A
theorem Pre.blind {s0 : State} {D : va_G} {ca : Nat → ClassId} {tp : List ODt} {a : Nat → Nat} {A : Nat → Prop} {S : St} {av : List Value} : FrameBlind (va_Pc av (Pre s0 D ca tp a A S)) := fun _ _ _ _ q => q
theorem rmd_fit {dy d nLy : Nat} (h1 : dy + 1 ≤ d) (h2 : nLy ≤ 45) : (rmd dy).frames + 1 ≤ (rmd d).frames ∧ 8 + (nLy + 11) + (rmd dy).locals ≤ (rmd d).locals := by
  refine ⟨h1, ?_⟩
  show 8 + (nLy + 11) + 64 * dy ≤ 64 * d
  omega
theorem arity_of {y : MethodName} {n : Nat} (h : (parseMethodDescriptor y.desc).map (fun d => d.parameters.length) = some n) : ∀ sig, parseMethodDescriptor y.desc = some sig → n = sig.parameters.length := fun sig hs => by
  rw [hs] at h
  exact (Option.some.inj h).symm
section CORE2
variable {p : Program} {l : Launch} {e : Env} {R : Room} {s : State} {m : MethodId} {args : Array Value} {below : List Frame} {meth : Method} {c : Code}
variable {D : va_G} {ca : Nat → ClassId} {tp : List ODt} {a : Nat → Nat} {A : Nat → Prop} {nL : Nat} {ρ : Type} {Q : ρ → State → Prop} {S : St} {ls : List (Nat × Value)} {pc : Nat} {st : List Value} {M : Option ρ} {s0 : State} {args0 : Array Value} {cc : ByteArray} {own : String}
theorem Cx.same (h : Cx p s m c cc nL own s0 args0 D ca a A) {ref o n d : String} (hr : ref = o ∨ Cond.sameField ref o n d ∈ lw_tbl) : ∀ x, s.fieldFound? o n d = some x → s.fieldFound? ref n d = some x := by
  intro x hx
  rcases hr with rfl | hr
  · exact hx
  · exact u_same (h.word hr rfl args0) x hx
theorem Cx.nestF (h : Cx p s m c cc nL own s0 args0 D ca a A) {x : String} {i : Nat} {r n d host : String} (hw : Cond.fieldLinkNest x i r n d host ∈ lw_tbl) : (Cond.fieldLinkNest x i r n d host).before args s = true := va_Nw.use rfl (va_Nw.warmF h.2.2.2.2.1 (va_Nw.of rfl (h.2.2.2.2.2.1.1 _ hw)))
theorem Cx.nestM (h : Cx p s m c cc nL own s0 args0 D ca a A) {x : String} {i : Nat} {y : MethodName} {host : String} (hw : Cond.methodLinkNest x i y host ∈ lw_tbl) : (Cond.methodLinkNest x i y host).before args s = true := va_Nw.use rfl (va_Nw.warmM h.2.2.2.2.1 (va_Nw.of rfl (h.2.2.2.2.2.1.1 _ hw)))
theorem Cx.words (h : Cx p s m c cc nL own s0 args0 D ca a A) : ∀ w ∈ lw_tbl.filter goodWord, w.before args s = true := fun w hw => h.word (List.mem_filter.mp hw).1 (List.mem_filter.mp hw).2 args
theorem lay_good (C : String) (T : u_T) (k : Nat) : goodWord (u_lay C T k) = true := by
  unfold u_lay
  split <;> rfl
theorem lays_in {C : String} {T : u_T} {N : Nat} (hin : ∀ w ∈ u_ws C T N, w ∈ lw_tbl) : ∀ w ∈ u_ws C T N, w ∈ lw_tbl.filter goodWord := by
  intro w hw
  refine List.mem_filter.mpr ⟨hin w hw, ?_⟩
  obtain ⟨k, -, rfl⟩ := List.mem_map.mp hw
  exact lay_good C T k

theorem V_get (h : Cx p s m c cc nL own s0 args0 D ca a A) {i ci : Nat} {fds : List FDt} (o k : Nat) {d : FDt} (v : Value) (hf : FLk own i ci k) (ht : tp[o]? = some (.inl (ci, fds))) (hd0 : fds[k]? = some d) (hv : fvv a (S o) k d = v) (hd : decode cc pc = .ok (.getfield i, 3)) (kk : VV p l e R s m args below meth c D ca tp a A nL Q S ls (pc + 3) (v :: st) M) : VV p l e R s m args below meth c D ca tp a A nL Q S ls pc (.ref (a o) :: st) M := by
  intro z hz H locs lsA hw hs hl
  obtain ⟨C, T, N, ref, h1, h2, h3, h4, h5⟩ := hf
  have hat := cells_at (ca := ca) (a := a) (S := S) ht
  have hv2 : (fvs a (S o) 0 fds)[k]? = some v := by rw [fvs_at a (S o) fds 0 k d hd0, Nat.zero_add, hv]
  rcases h5 with h5 | ⟨host, h5⟩
  · exact va_get h.1 h.2.1 h.words (lays_in h3) h.2.2.2.1 h.K hw.1 o hat h1 k h2 (h.word h5 rfl args) (h.same h4) hv2 hd (kk z hz H locs lsA hw hs hl)
  · exact va_getN h.1 h.2.1 h.words (lays_in h3) h.2.2.2.1 h.K hw.1 o hat h1 k h2 (h.nestF h5) (h.same h4) hv2 hd (kk z hz H locs lsA hw hs hl)
theorem V_put (h : Cx p s m c cc nL own s0 args0 D ca a A) {i ci : Nat} {fds : List FDt} {ty : FieldType} (o k : Nat) {d : FDt} {v : Value} (x : Int32) {f : St → Option ρ} (hf : FPk own i ci k ty) (ht : tp[o]? = some (.inl (ci, fds))) (hd0 : fds[k]? = some d) (hv : fvv a (upd (S o) k x) k d = v) (hn : narrow ty v = v) (hfit : fits ty v = true) (hd : decode cc pc = .ok (.putfield i, 3)) (kk : ∀ S1 : St, VV p l e R s m args below meth c D ca tp a A nL Q S1 ls (pc + 3) st (f S1)) : VV p l e R s m args below meth c D ca tp a A nL Q S ls pc (v :: .ref (a o) :: st) (bnd (up2 S o k x) f) := by
  intro z hz H locs lsA hw hs hl
  obtain ⟨C, T, N, ref, ty0, h1, h2, h3, h4, h5, h6, h7, h8, h9⟩ := hf
  have hat := cells_at (ca := ca) (a := a) (S := S) ht
  have hlen : k < (fvs a (S o) 0 fds).length := by rw [fvs_len]; exact (List.getElem?_eq_some_iff.mp hd0).1
  have key : (cellsOf ca a tp S).set o (a o, .inr (ci, (fvs a (S o) 0 fds).set k v)) = cellsOf ca a tp (up2 S o k x) := by
    rw [← hv, fvs_set x hd0]
    exact cells_set ht (upd (S o) k x)
  have fin : ∀ (H1 : Heap) (locs1 : List Loc), va_P D vwCl ((cellsOf ca a tp S).set o (a o, .inr (ci, (fvs a (S o) 0 fds).set k v))) H1 → va_D A ((cellsOf ca a tp S).set o (a o, .inr (ci, (fvs a (S o) 0 fds).set k v))) → va_S A s.heap H1 locs1 → W p l e R s m args below meth c H1 locs1 0 0 (Q z) (F0 m (pc + 3) lsA st) := by
    intro H1 locs1 q1 q2 q3
    rw [key] at q1 q2
    exact kk (up2 S o k x) z hz H1 locs1 lsA ⟨q1, q2⟩ q3 hl
  rcases h5 with h5 | ⟨host, h5⟩
  · exact va_put h.1 h.2.1 h.words (lays_in h3) ty0 h6 h7 h.2.2.2.1 h.K hw.1 hw.2 hs o hat h1 k h2 (h.word h5 rfl args) (h.same h4) h8 h9 hn hfit hlen hd fin
  · exact va_putN h.1 h.2.1 h.words (lays_in h3) ty0 h6 h7 h.2.2.2.1 h.K hw.1 hw.2 hs o hat h1 k h2 (h.nestF h5) (h.same h4) h8 h9 hn hfit hlen hd fin

theorem V_iald (h : Cx p s m c cc nL own s0 args0 D ca a A) (o : Nat) {n b : Nat} {i : Int32} (ht : tp[o]? = some (.inr (0, n, b))) (hd : decode cc pc = .ok (.iaload, 1)) (kk : VV p l e R s m args below meth c D ca tp a A nL Q S ls (pc + 1) (.int (S o i.toNatClampNeg) :: st) M) : VV p l e R s m args below meth c D ca tp a A nL Q S ls pc (.int i :: .ref (a o) :: st) (ckM i n M) := by
  intro z hz H locs lsA hw hs hl
  unfold ckM at hz
  by_cases hi : i < 0 ∨ n ≤ i.toNatClampNeg
  · rw [if_pos hi] at hz; cases hz
  · rw [if_neg hi] at hz
    exact va_iald h.1 h.2.1 h.K hw.1 o 0 (cells_at (ca := ca) (a := a) (S := S) ht) rfl hi hd (kk z hz H locs lsA hw hs hl)
theorem V_bald (h : Cx p s m c cc nL own s0 args0 D ca a A) (o : Nat) {n b : Nat} {i : Int32} (ht : tp[o]? = some (.inr (1, n, b))) (hd : decode cc pc = .ok (.baload, 1)) (kk : VV p l e R s m args below meth c D ca tp a A nL Q S ls (pc + 1) (.int (S o i.toNatClampNeg) :: st) M) : VV p l e R s m args below meth c D ca tp a A nL Q S ls pc (.int i :: .ref (a o) :: st) (ckM i n M) := by
  intro z hz H locs lsA hw hs hl
  unfold ckM at hz
  by_cases hi : i < 0 ∨ n ≤ i.toNatClampNeg
  · rw [if_pos hi] at hz; cases hz
  · rw [if_neg hi] at hz
    exact va_bald h.1 h.2.1 h.K hw.1 o 1 (cells_at (ca := ca) (a := a) (S := S) ht) rfl hi hd (kk z hz H locs lsA hw hs hl)
theorem V_iast (h : Cx p s m c cc nL own s0 args0 D ca a A) (o : Nat) {n b : Nat} {i x : Int32} {f : St → Option ρ} (ht : tp[o]? = some (.inr (0, n, b))) (hd : decode cc pc = .ok (.iastore, 1)) (kk : ∀ S1 : St, VV p l e R s m args below meth c D ca tp a A nL Q S1 ls (pc + 1) st (f S1)) : VV p l e R s m args below meth c D ca tp a A nL Q S ls pc (.int x :: .int i :: .ref (a o) :: st) (ckM i n (bnd (up2 S o i.toNatClampNeg (x)) f)) := by
  intro z hz H locs lsA hw hs hl
  unfold ckM at hz
  by_cases hi : i < 0 ∨ n ≤ i.toNatClampNeg
  · rw [if_pos hi] at hz; cases hz
  · rw [if_neg hi] at hz
    refine va_iast h.1 h.2.1 h.K hw.1 hw.2 hs o 0 (cells_at (ca := ca) (a := a) (S := S) ht) rfl hi hd (fun H1 locs1 q1 q2 q3 => ?_)
    have key := cells_set (ca := ca) (a := a) (S := S) ht (upd (S o) i.toNatClampNeg (x))
    exact kk (up2 S o i.toNatClampNeg (x)) z hz H1 locs1 lsA ⟨by unfold up2; rw [← key]; exact q1, by unfold up2; rw [← key]; exact q2⟩ q3 hl
theorem V_bast (h : Cx p s m c cc nL own s0 args0 D ca a A) (o : Nat) {n b : Nat} {i x : Int32} {f : St → Option ρ} (ht : tp[o]? = some (.inr (1, n, b))) (hd : decode cc pc = .ok (.bastore, 1)) (kk : ∀ S1 : St, VV p l e R s m args below meth c D ca tp a A nL Q S1 ls (pc + 1) st (f S1)) : VV p l e R s m args below meth c D ca tp a A nL Q S ls pc (.int x :: .int i :: .ref (a o) :: st) (ckM i n (bnd (up2 S o i.toNatClampNeg (x.toInt8.toInt32)) f)) := by
  intro z hz H locs lsA hw hs hl
  unfold ckM at hz
  by_cases hi : i < 0 ∨ n ≤ i.toNatClampNeg
  · rw [if_pos hi] at hz; cases hz
  · rw [if_neg hi] at hz
    refine va_bast h.1 h.2.1 h.K hw.1 hw.2 hs o 1 (cells_at (ca := ca) (a := a) (S := S) ht) rfl hi hd (fun H1 locs1 q1 q2 q3 => ?_)
    have key := cells_set (ca := ca) (a := a) (S := S) ht (upd (S o) i.toNatClampNeg (x.toInt8.toInt32))
    exact kk (up2 S o i.toNatClampNeg (x.toInt8.toInt32)) z hz H1 locs1 lsA ⟨by unfold up2; rw [← key]; exact q1, by unfold up2; rw [← key]; exact q2⟩ q3 hl
theorem V_alen (h : Cx p s m c cc nL own s0 args0 D ca a A) (o : Nat) {kd n b : Nat} (v : Int32) (ht : tp[o]? = some (.inr (kd, n, b))) (hk : kd < 4) (hv : Int32.ofNat n = v) (hd : decode cc pc = .ok (.arraylength, 1)) (kk : VV p l e R s m args below meth c D ca tp a A nL Q S ls (pc + 1) (.int v :: st) M) : VV p l e R s m args below meth c D ca tp a A nL Q S ls pc (.ref (a o) :: st) M := by
  intro z hz H locs lsA hw hs hl
  have hat := cells_at (ca := ca) (a := a) (S := S) ht
  unfold enx at hat
  dsimp only at hat
  by_cases h2 : kd < 2
  · rw [if_pos h2] at hat
    exact va_alen h.1 h.2.1 h.K hw.1 o kd hat (tys_at ca kd hk) hv hd (kk z hz H locs lsA hw hs hl)
  · rw [if_neg h2] at hat
    exact va_alen h.1 h.2.1 h.K hw.1 o kd hat (tys_at ca kd hk) hv hd (kk z hz H locs lsA hw hs hl)
theorem V_aald (h : Cx p s m c cc nL own s0 args0 D ca a A) (o : Nat) {kd n b : Nat} {i : Int32} (ht : tp[o]? = some (.inr (kd, n, b))) (hk : kd = 2 ∨ kd = 3) (hd : decode cc pc = .ok (.aaload, 1)) (kk : VV p l e R s m args below meth c D ca tp a A nL Q S ls (pc + 1) (.ref (a (b + i.toNatClampNeg)) :: st) M) : VV p l e R s m args below meth c D ca tp a A nL Q S ls pc (.int i :: .ref (a o) :: st) (ckM i n M) := by
  intro z hz H locs lsA hw hs hl
  unfold ckM at hz
  by_cases hi : i < 0 ∨ n ≤ i.toNatClampNeg
  · rw [if_pos hi] at hz; cases hz
  · rw [if_neg hi] at hz
    have hlt : i.toNatClampNeg < n := Nat.not_le.mp fun q => hi (Or.inr q)
    have hat := cells_at (ca := ca) (a := a) (S := S) ht
    have hK := h.K
    rcases hk with rfl | rfl
    · exact W.aald (v := .ref (a (b + i.toNatClampNeg))) (ty := .array .int) h.1 h.2.1 (hw.1 o _ hat) ((hK.2 2 _ rfl).1 n (fun j => va_rf (some (a (b + j))))) rfl (fun q => by cases q) (by show ¬ (i < 0 ∨ (arrV _ _ _).slots.size ≤ _); rw [arrV_size]; exact hi) (by show (arrV _ _ _).slots[_]? = _; rw [arrV_read _ _ hlt]; rfl) rfl rfl hd (kk z hz H locs lsA hw hs hl)
    · exact W.aald (v := .ref (a (b + i.toNatClampNeg))) (ty := .object "NeighbourSoup$Liking") h.1 h.2.1 (hw.1 o _ hat) ((hK.2 3 _ rfl).1 n (fun j => va_rf (some (a (b + j))))) rfl (fun q => by cases q) (by show ¬ (i < 0 ∨ (arrV _ _ _).slots.size ≤ _); rw [arrV_size]; exact hi) (by show (arrV _ _ _).slots[_]? = _; rw [arrV_read _ _ hlt]; rfl) rfl rfl hd (kk z hz H locs lsA hw hs hl)
theorem V_ifnonnull (h : Cx p s m c cc nL own s0 args0 D ca a A) {x : Nat} {off : Int} (tgt : Nat) (hd : decode cc pc = .ok (.ifnonnull off, 3)) (ht : (pc : Int) + off = (tgt : Int)) (k : VV p l e R s m args below meth c D ca tp a A nL Q S ls tgt st M) : VV p l e R s m args below meth c D ca tp a A nL Q S ls pc (.ref x :: st) M := fun z hz H locs lsA hw hs hl => lv_ifnonnull h.1 h.2.1 hd ht (k z hz H locs lsA hw hs hl)
theorem V_ifnonnullN (h : Cx p s m c cc nL own s0 args0 D ca a A) {off : Int} (hd : decode cc pc = .ok (.ifnonnull off, 3)) (k : VV p l e R s m args below meth c D ca tp a A nL Q S ls (pc + 3) st M) : VV p l e R s m args below meth c D ca tp a A nL Q S ls pc (.null :: st) M := fun z hz H locs lsA hw hs hl => lv_ifnonnullN h.1 h.2.1 hd (k z hz H locs lsA hw hs hl)

theorem Cx.pre (h : Cx p s m c cc nL own s0 args0 D ca a A) {H : Heap} {locs : List Loc} (hs : va_S A s.heap H locs) (hw : Wd D ca tp a A S H) (av : List Value) : ∀ U : State, U.heap = H → s.WarmedH U.vm → va_Pc av (Pre s0 D ca tp a A S) av.toArray U := by
  intro U hU hW
  refine ⟨rfl, State.WarmedH.trans h.2.2.2.2.1 hW, fun q hq => ?_, ?_, ?_⟩
  · rw [hU, hs.2.1 q (Nat.lt_of_lt_of_le hq h.2.2.2.2.2.2.2) (h.off q hq)]
    exact h.2.2.2.2.2.2.1 q hq
  · rw [hU]; exact Nat.le_trans h.2.2.2.2.2.2.2 hs.1
  · rw [hU]; exact hw
theorem Cx.ridesCode (h : Cx p s m c cc nL own s0 args0 D ca a A) {y : MethodName} {cy : ByteArray} {nLy : Nat} {rt : Option FieldType} (hc : Cond.code y cy nLy rt ∈ lw_tbl) : ∀ w ∈ [Cond.code y cy nLy rt], ∀ (a' : Array Value) (U : State), s.WarmedH U.vm → w.before a' U = true := by
  intro w hw a' U hW
  rw [List.mem_singleton.mp hw]
  exact word_at hW (Or.inl rfl) (h.word hc rfl args0)
theorem Cx.recv (h : Cx p s m c cc nL own s0 args0 D ca a A) {H : Heap} (hw : Wd D ca tp a A S H) {o ci : Nat} {fds : List FDt} {q : vw_C} (ht : tp[o]? = some (.inl (ci, fds))) (hc : vwCl[ci]? = some q) : ∃ cell : Cell, H[a o]? = some cell ∧ cell.vm.isStatics = false ∧ s.vm.findClass q.1 = some cell.cls := va_recv h.K hw.1 hc (cells_at (ca := ca) (a := a) (S := S) ht)
theorem Cx.decl (h : Cx p s m c cc nL own s0 args0 D ca a A) {y z : MethodName} {cy : ByteArray} {nLy : Nat} {rt : Option FieldType} (hi : Cond.instanceMethod y ∈ lw_tbl) (hc : Cond.code y cy nLy rt ∈ lw_tbl) (hz : Cond.declares z ∈ lw_tbl ∨ y = z) : va_Decl s z := by
  rcases hz with hz | rfl
  · exact va_Decl.abs (va_Nw.warmD h.2.2.2.2.1 (va_Nw.of rfl (h.2.2.2.2.2.1.1 _ hz)))
  · exact va_Decl.of (h.word hi rfl args0) (h.word hc rfl args0)
theorem V_doneI {d : Nat} {As0 : Array Value} {rest : List Value} (G : Option (Int32 × St)) {K : Int32 → St → Option ρ} (hrun : ∀ w, G = some w → ∀ (H : Heap) (locs : List Loc) (lsA : Array Slot), Wd D ca tp a A S H → va_S A s.heap H locs → lv_has lsA nL ls → va_Run p l e (rmd d) s m args below meth c H locs 0 0 0 0 (F0 m pc lsA st) rest (QI D ca tp a A w As0) A) (kk : ∀ (r : Int32) (S1 : St), VV p l e (rmd d) s m args below meth c D ca tp a A nL Q S1 ls (pc + 3) (.int r :: rest) (K r S1)) : VV p l e (rmd d) s m args below meth c D ca tp a A nL Q S ls pc st (bI G K) := by
  intro z hz H locs lsA hw hs hl
  cases hG : G with
  | none => rw [hG] at hz; cases hz
  | some w =>
    rw [hG] at hz
    have hz' : K w.1 w.2 = some z := hz
    refine va_calli (hrun w hG H locs lsA hw hs hl) hs (fun q _ hq => hq) (fun q hq => hq) (fun r u t H1 locs1 ht hvm hw1 hB hz1 hk1 hS1 => ?_)
    subst hw1
    rw [ht] at hB
    exact kk w.1 w.2 z hz' H1 locs1 lsA hB hS1 hl
theorem V_doneV {d : Nat} {As0 : Array Value} {rest : List Value} (G : Option St) {K : St → Option ρ} (hrun : ∀ w, G = some w → ∀ (H : Heap) (locs : List Loc) (lsA : Array Slot), Wd D ca tp a A S H → va_S A s.heap H locs → lv_has lsA nL ls → va_Run p l e (rmd d) s m args below meth c H locs 0 0 0 0 (F0 m pc lsA st) rest (QV D ca tp a A w As0) A) (kk : ∀ (S1 : St), VV p l e (rmd d) s m args below meth c D ca tp a A nL Q S1 ls (pc + 3) rest (K S1)) : VV p l e (rmd d) s m args below meth c D ca tp a A nL Q S ls pc st (bV G K) := by
  intro z hz H locs lsA hw hs hl
  cases hG : G with
  | none => rw [hG] at hz; cases hz
  | some w =>
    rw [hG] at hz
    have hz' : K w = some z := hz
    refine va_callv (hrun w hG H locs lsA hw hs hl) hs (fun q _ hq => hq) (fun q hq => hq) (fun u t H1 locs1 ht hvm hw1 hB hz1 hk1 hS1 => ?_)
    rw [ht] at hB
    exact kk w z hz' H1 locs1 lsA hB hS1 hl

theorem V_callVI (h : Cx p s m c cc nL own s0 args0 D ca a A) {y : MethodName} {cy : ByteArray} {nLy n i : Nat} {rt : FieldType} {d dy : Nat} (As rest : List Value) (o : Nat) {ci : Nat} {fds : List FDt} {q : vw_C} (hm : MVk own i q.1 y cy nLy (some rt) n) (ht : tp[o]? = some (.inl (ci, fds))) (hc : vwCl[ci]? = some q) (hd : decode cc pc = .ok (.invokevirtual i, 3)) (hn : As.length = n) (hst : st = As.reverse ++ .ref (a o) :: rest) (hroom : (rest.map fun v => v.category).sum ≤ 8) (hdep : dy + 1 ≤ d) (G : Option (Int32 × St)) {K : Int32 → St → Option ρ} (hM : ∀ z, G = some z → CtI l y cy nLy rt dy s0 D ca tp a A (.ref (a o) :: As) S z) (kk : ∀ (r : Int32) (S1 : St), VV p l e (rmd d) s m args below meth c D ca tp a A nL Q S1 ls (pc + 3) (.int r :: rest) (K r S1)) : VV p l e (rmd d) s m args below meth c D ca tp a A nL Q S ls pc st (bI G K) := by
  refine V_doneI (As0 := (Value.ref (a o) :: As).toArray) G (fun w hG H locs lsA hw hs hl => ?_) kk
  exact va_runV (Ts := []) (C := q.1) (bytes := cy) (maxL := nLy) (ret := (some rt)) ⟨h.1, h.2.1, h.2.2.1, h.2.2.2.1, fun w (hw : w ∈ ([] : List Cond)) => nomatch hw⟩ (hM w hG) ⟨⟨rfl, rfl, (rmd_fit hdep hm.2.2.2.2.2.2).1, (rmd_fit hdep hm.2.2.2.2.2.2).2, h.ridesCode hm.2.2.2.2.1, List.mem_singleton.mpr rfl, h.word hm.2.2.2.2.1 rfl args, h.word hm.2.2.2.1 rfl args, ⟨hm.2.2.2.2.2.1.1, hm.2.2.2.2.2.1.2.1⟩, arity_of hm.2.2.2.2.2.1.2.2, h.word hm.1 rfl args⟩, h.word hm.2.1 rfl args, h.word hm.2.2.1 rfl args⟩ ⟨Pre.blind, h.recv hw ht hc, h.pre hs hw _⟩ rfl hn hl.1 hst (lv_room hroom) hd ⟨Nat.le_refl 0, Nat.le_refl 0⟩
theorem V_callSI (h : Cx p s m c cc nL own s0 args0 D ca a A) {y : MethodName} {cy : ByteArray} {nLy n i : Nat} {rt : FieldType} {d dy : Nat} (As rest : List Value) (hm : MSk own i y cy nLy (some rt) n) (hd : decode cc pc = .ok (.invokestatic i, 3)) (hn : As.length = n) (hst : st = As.reverse ++ rest) (hroom : (rest.map fun v => v.category).sum ≤ 8) (hdep : dy + 1 ≤ d) (G : Option (Int32 × St)) {K : Int32 → St → Option ρ} (hM : ∀ z, G = some z → CtI l y cy nLy rt dy s0 D ca tp a A As S z) (kk : ∀ (r : Int32) (S1 : St), VV p l e (rmd d) s m args below meth c D ca tp a A nL Q S1 ls (pc + 3) (.int r :: rest) (K r S1)) : VV p l e (rmd d) s m args below meth c D ca tp a A nL Q S ls pc st (bI G K) := by
  refine V_doneI (As0 := As.toArray) G (fun w hG H locs lsA hw hs hl => ?_) kk
  rcases hm.1 with hl1 | ⟨host, hl1⟩
  · exact va_runS (Ts := []) (bytes := cy) (maxL := nLy) (ret := (some rt)) ⟨h.1, h.2.1, h.2.2.1, h.2.2.2.1, fun w (hw : w ∈ ([] : List Cond)) => nomatch hw⟩ (hM w hG) ⟨⟨rfl, rfl, (rmd_fit hdep hm.2.2.2.2.2).1, (rmd_fit hdep hm.2.2.2.2.2).2, h.ridesCode hm.2.2.2.1, List.mem_singleton.mpr rfl, h.word hm.2.2.2.1 rfl args, h.word hm.2.2.1 rfl args, ⟨hm.2.2.2.2.1.1, hm.2.2.2.2.1.2.1⟩, arity_of hm.2.2.2.2.1.2.2, h.word hl1 rfl args⟩, h.word hm.2.1 rfl args⟩ ⟨Pre.blind, h.pre hs hw _⟩ rfl hn hl.1 hst (lv_room hroom) hd ⟨Nat.le_refl 0, Nat.le_refl 0⟩
  · exact va_runSN (Ts := []) (bytes := cy) (maxL := nLy) (ret := (some rt)) ⟨h.1, h.2.1, h.2.2.1, h.2.2.2.1, fun w (hw : w ∈ ([] : List Cond)) => nomatch hw⟩ (hM w hG) ⟨⟨⟨rfl, rfl, (rmd_fit hdep hm.2.2.2.2.2).1, (rmd_fit hdep hm.2.2.2.2.2).2, h.ridesCode hm.2.2.2.1, List.mem_singleton.mpr rfl⟩, h.word hm.2.2.2.1 rfl args, h.word hm.2.2.1 rfl args, ⟨hm.2.2.2.2.1.1, hm.2.2.2.2.1.2.1⟩, arity_of hm.2.2.2.2.1.2.2, h.nestM hl1⟩, h.word hm.2.1 rfl args, trivial⟩ ⟨Pre.blind, h.pre hs hw _⟩ rfl hn hl.1 hst (lv_room hroom) hd ⟨Nat.le_refl 0, Nat.le_refl 0⟩
theorem V_callUI (h : Cx p s m c cc nL own s0 args0 D ca a A) {x y : MethodName} {owner : String} {cy : ByteArray} {nLy n i : Nat} {rt : FieldType} {d dy : Nat} (As rest : List Value) (o : Nat) {ci : Nat} {fds : List FDt} {q : vw_C} (hm : MUk own i q.1 owner x y cy nLy (some rt) n) (ht : tp[o]? = some (.inl (ci, fds))) (hc : vwCl[ci]? = some q) (hd : decode cc pc = .ok (.invokevirtual i, 3)) (hn : As.length = n) (hst : st = As.reverse ++ .ref (a o) :: rest) (hroom : (rest.map fun v => v.category).sum ≤ 8) (hdep : dy + 1 ≤ d) (G : Option (Int32 × St)) {K : Int32 → St → Option ρ} (hM : ∀ z, G = some z → CtI l y cy nLy rt dy s0 D ca tp a A (.ref (a o) :: As) S z) (kk : ∀ (r : Int32) (S1 : St), VV p l e (rmd d) s m args below meth c D ca tp a A nL Q S1 ls (pc + 3) (.int r :: rest) (K r S1)) : VV p l e (rmd d) s m args below meth c D ca tp a A nL Q S ls pc st (bI G K) := by
  refine V_doneI (As0 := (Value.ref (a o) :: As).toArray) G (fun w hG H locs lsA hw hs hl => ?_) kk
  exact va_runU (Ts := []) (C := q.1) (owner := owner) (bytes := cy) (maxL := nLy) (ret := (some rt)) ⟨h.1, h.2.1, h.2.2.1, h.2.2.2.1, fun w (hw : w ∈ ([] : List Cond)) => nomatch hw⟩ (hM w hG) ⟨⟨rfl, rfl, (rmd_fit hdep hm.2.2.2.2.2.2.2.2).1, (rmd_fit hdep hm.2.2.2.2.2.2.2.2).2, h.ridesCode hm.2.2.2.2.2.1, List.mem_singleton.mpr rfl⟩, h.word hm.2.2.2.2.2.1 rfl args, h.word hm.2.2.2.2.1 rfl args, ⟨hm.2.2.2.2.2.2.2.1.1, hm.2.2.2.2.2.2.2.1.2.1⟩, arity_of hm.2.2.2.2.2.2.2.1.2.2, h.word hm.1 rfl args, h.word hm.2.1 rfl args, h.decl hm.2.2.2.1 hm.2.2.2.2.2.1 hm.2.2.2.2.2.2.1, h.word hm.2.2.1 rfl args, h.word hm.2.2.2.1 rfl args⟩ ⟨Pre.blind, h.recv hw ht hc, h.pre hs hw _⟩ rfl hn hl.1 hst (lv_room hroom) hd ⟨Nat.le_refl 0, Nat.le_refl 0⟩
theorem V_callVV (h : Cx p s m c cc nL own s0 args0 D ca a A) {y : MethodName} {cy : ByteArray} {nLy n i : Nat} {d dy : Nat} (As rest : List Value) (o : Nat) {ci : Nat} {fds : List FDt} {q : vw_C} (hm : MVk own i q.1 y cy nLy none n) (ht : tp[o]? = some (.inl (ci, fds))) (hc : vwCl[ci]? = some q) (hd : decode cc pc = .ok (.invokevirtual i, 3)) (hn : As.length = n) (hst : st = As.reverse ++ .ref (a o) :: rest) (hroom : (rest.map fun v => v.category).sum ≤ 8) (hdep : dy + 1 ≤ d) (G : Option St) {K : St → Option ρ} (hM : ∀ z, G = some z → CtV l y cy nLy dy s0 D ca tp a A (.ref (a o) :: As) S z) (kk : ∀ (S1 : St), VV p l e (rmd d) s m args below meth c D ca tp a A nL Q S1 ls (pc + 3) rest (K S1)) : VV p l e (rmd d) s m args below meth c D ca tp a A nL Q S ls pc st (bV G K) := by
  refine V_doneV (As0 := (Value.ref (a o) :: As).toArray) G (fun w hG H locs lsA hw hs hl => ?_) kk
  exact va_runV (Ts := []) (C := q.1) (bytes := cy) (maxL := nLy) (ret := none) ⟨h.1, h.2.1, h.2.2.1, h.2.2.2.1, fun w (hw : w ∈ ([] : List Cond)) => nomatch hw⟩ (hM w hG) ⟨⟨rfl, rfl, (rmd_fit hdep hm.2.2.2.2.2.2).1, (rmd_fit hdep hm.2.2.2.2.2.2).2, h.ridesCode hm.2.2.2.2.1, List.mem_singleton.mpr rfl, h.word hm.2.2.2.2.1 rfl args, h.word hm.2.2.2.1 rfl args, ⟨hm.2.2.2.2.2.1.1, hm.2.2.2.2.2.1.2.1⟩, arity_of hm.2.2.2.2.2.1.2.2, h.word hm.1 rfl args⟩, h.word hm.2.1 rfl args, h.word hm.2.2.1 rfl args⟩ ⟨Pre.blind, h.recv hw ht hc, h.pre hs hw _⟩ rfl hn hl.1 hst (lv_room hroom) hd ⟨Nat.le_refl 0, Nat.le_refl 0⟩
theorem V_callSV (h : Cx p s m c cc nL own s0 args0 D ca a A) {y : MethodName} {cy : ByteArray} {nLy n i : Nat} {d dy : Nat} (As rest : List Value) (hm : MSk own i y cy nLy none n) (hd : decode cc pc = .ok (.invokestatic i, 3)) (hn : As.length = n) (hst : st = As.reverse ++ rest) (hroom : (rest.map fun v => v.category).sum ≤ 8) (hdep : dy + 1 ≤ d) (G : Option St) {K : St → Option ρ} (hM : ∀ z, G = some z → CtV l y cy nLy dy s0 D ca tp a A As S z) (kk : ∀ (S1 : St), VV p l e (rmd d) s m args below meth c D ca tp a A nL Q S1 ls (pc + 3) rest (K S1)) : VV p l e (rmd d) s m args below meth c D ca tp a A nL Q S ls pc st (bV G K) := by
  refine V_doneV (As0 := As.toArray) G (fun w hG H locs lsA hw hs hl => ?_) kk
  rcases hm.1 with hl1 | ⟨host, hl1⟩
  · exact va_runS (Ts := []) (bytes := cy) (maxL := nLy) (ret := none) ⟨h.1, h.2.1, h.2.2.1, h.2.2.2.1, fun w (hw : w ∈ ([] : List Cond)) => nomatch hw⟩ (hM w hG) ⟨⟨rfl, rfl, (rmd_fit hdep hm.2.2.2.2.2).1, (rmd_fit hdep hm.2.2.2.2.2).2, h.ridesCode hm.2.2.2.1, List.mem_singleton.mpr rfl, h.word hm.2.2.2.1 rfl args, h.word hm.2.2.1 rfl args, ⟨hm.2.2.2.2.1.1, hm.2.2.2.2.1.2.1⟩, arity_of hm.2.2.2.2.1.2.2, h.word hl1 rfl args⟩, h.word hm.2.1 rfl args⟩ ⟨Pre.blind, h.pre hs hw _⟩ rfl hn hl.1 hst (lv_room hroom) hd ⟨Nat.le_refl 0, Nat.le_refl 0⟩
  · exact va_runSN (Ts := []) (bytes := cy) (maxL := nLy) (ret := none) ⟨h.1, h.2.1, h.2.2.1, h.2.2.2.1, fun w (hw : w ∈ ([] : List Cond)) => nomatch hw⟩ (hM w hG) ⟨⟨⟨rfl, rfl, (rmd_fit hdep hm.2.2.2.2.2).1, (rmd_fit hdep hm.2.2.2.2.2).2, h.ridesCode hm.2.2.2.1, List.mem_singleton.mpr rfl⟩, h.word hm.2.2.2.1 rfl args, h.word hm.2.2.1 rfl args, ⟨hm.2.2.2.2.1.1, hm.2.2.2.2.1.2.1⟩, arity_of hm.2.2.2.2.1.2.2, h.nestM hl1⟩, h.word hm.2.1 rfl args, trivial⟩ ⟨Pre.blind, h.pre hs hw _⟩ rfl hn hl.1 hst (lv_room hroom) hd ⟨Nat.le_refl 0, Nat.le_refl 0⟩
theorem V_callUV (h : Cx p s m c cc nL own s0 args0 D ca a A) {x y : MethodName} {owner : String} {cy : ByteArray} {nLy n i : Nat} {d dy : Nat} (As rest : List Value) (o : Nat) {ci : Nat} {fds : List FDt} {q : vw_C} (hm : MUk own i q.1 owner x y cy nLy none n) (ht : tp[o]? = some (.inl (ci, fds))) (hc : vwCl[ci]? = some q) (hd : decode cc pc = .ok (.invokevirtual i, 3)) (hn : As.length = n) (hst : st = As.reverse ++ .ref (a o) :: rest) (hroom : (rest.map fun v => v.category).sum ≤ 8) (hdep : dy + 1 ≤ d) (G : Option St) {K : St → Option ρ} (hM : ∀ z, G = some z → CtV l y cy nLy dy s0 D ca tp a A (.ref (a o) :: As) S z) (kk : ∀ (S1 : St), VV p l e (rmd d) s m args below meth c D ca tp a A nL Q S1 ls (pc + 3) rest (K S1)) : VV p l e (rmd d) s m args below meth c D ca tp a A nL Q S ls pc st (bV G K) := by
  refine V_doneV (As0 := (Value.ref (a o) :: As).toArray) G (fun w hG H locs lsA hw hs hl => ?_) kk
  exact va_runU (Ts := []) (C := q.1) (owner := owner) (bytes := cy) (maxL := nLy) (ret := none) ⟨h.1, h.2.1, h.2.2.1, h.2.2.2.1, fun w (hw : w ∈ ([] : List Cond)) => nomatch hw⟩ (hM w hG) ⟨⟨rfl, rfl, (rmd_fit hdep hm.2.2.2.2.2.2.2.2).1, (rmd_fit hdep hm.2.2.2.2.2.2.2.2).2, h.ridesCode hm.2.2.2.2.2.1, List.mem_singleton.mpr rfl⟩, h.word hm.2.2.2.2.2.1 rfl args, h.word hm.2.2.2.2.1 rfl args, ⟨hm.2.2.2.2.2.2.2.1.1, hm.2.2.2.2.2.2.2.1.2.1⟩, arity_of hm.2.2.2.2.2.2.2.1.2.2, h.word hm.1 rfl args, h.word hm.2.1 rfl args, h.decl hm.2.2.2.1 hm.2.2.2.2.2.1 hm.2.2.2.2.2.2.1, h.word hm.2.2.1 rfl args, h.word hm.2.2.2.1 rfl args⟩ ⟨Pre.blind, h.recv hw ht hc, h.pre hs hw _⟩ rfl hn hl.1 hst (lv_room hroom) hd ⟨Nat.le_refl 0, Nat.le_refl 0⟩
theorem V_iret (h : Cx p s m c cc nL own s0 args0 D ca a A) {x : Int32} (hr : meth.sig.returnType = some .int) (hlk : meth.locks = false) (hd : decode cc pc = .ok (.ireturn, 1)) : VV p l e R s m args below meth c D ca tp a A nL (fun z => MQ below (QI D ca tp a A z) args s 0 0 A) S ls pc [.int x] (some (x, S)) := by
  intro z hz H locs lsA hw hs hl
  cases hz
  exact W.iret (v := x) h.1 h.2.1 hr (fun t ht hW => ⟨⟨x, (), rfl, rfl, by show Wd D ca tp a A S t.heap; rw [ht]; exact hw⟩, hs.F ht⟩) hs.2.2 hd hlk
def nzM {ρ : Type} (x : Int32) (M : Option ρ) : Option ρ := if x = 0 ∨ x = 1 then M else none
theorem V_zret (h : Cx p s m c cc nL own s0 args0 D ca a A) {x : Int32} (hr : meth.sig.returnType = some .boolean) (hlk : meth.locks = false) (hd : decode cc pc = .ok (.ireturn, 1)) : VV p l e R s m args below meth c D ca tp a A nL (fun z => MQ below (QI D ca tp a A z) args s 0 0 A) S ls pc [.int x] (nzM x (some (x, S))) := by
  intro z hz H locs lsA hw hs hl
  unfold nzM at hz
  by_cases hx : x = 0 ∨ x = 1
  · rw [if_pos hx] at hz
    cases hz
    have hn : narrow .boolean (.int x) = .int x := by rcases hx with rfl | rfl <;> rfl
    exact W.zret (v := x) h.1 h.2.1 hr hn (fun t ht hW => ⟨⟨x, (), rfl, rfl, by show Wd D ca tp a A S t.heap; rw [ht]; exact hw⟩, hs.F ht⟩) hs.2.2 hd hlk
  · rw [if_neg hx] at hz; cases hz
theorem V_vret (h : Cx p s m c cc nL own s0 args0 D ca a A) (hr : meth.sig.returnType = none) (hlk : meth.locks = false) (hd : decode cc pc = .ok (.return_, 1)) : VV p l e R s m args below meth c D ca tp a A nL (fun z => MQ below (QV D ca tp a A z) args s 0 0 A) S ls pc [] (some S) := by
  intro z hz H locs lsA hw hs hl
  cases hz
  exact W.vret h.1 h.2.1 hr (fun t ht hW => ⟨⟨(), rfl, trivial, by show Wd D ca tp a A S t.heap; rw [ht]; exact hw⟩, hs.F ht⟩) hs.2.2 hd hlk
theorem CtI_mk {y : MethodName} {cy : ByteArray} {nLy : Nat} {rt : FieldType} {d : Nat} (g : GG s0 args0 D ca a A) (hy : plainName y.cls = true) {av : List Value} (hav : (lg_sl av).length ≤ nLy) {z : Int32 × St} {M0 : Option (Int32 × St)} (hM : M0 = some z) (body : ∀ (p : Program) (e : Env) (s : State) (m : MethodId) (args : Array Value) (below : List Frame) (meth : Method) (c : Code), Cx p s m c cy nLy y.cls s0 args0 D ca a A → meth.sig.returnType = some rt → meth.locks = false → VV p l e (rmd d) s m args below meth c D ca tp a A nLy (fun z => MQ below (QI D ca tp a A z) args s 0 0 A) S (lv_args 0 av) 0 [] M0) : CtI l y cy nLy rt d s0 D ca tp a A av S z := by
  refine Met.ofW (cc := cy) (maxL := nLy) (ret := some rt) hy rfl ?_
  intro p e s m args below meth c s₁ B hml hv
  obtain ⟨rfl, hW0, hh, hsz, hw⟩ := hv
  have hx : Cx p s m c cy nLy y.cls s0 args0 D ca a A := ⟨B.exec, B.bytes, hml, findClass_of_methodNamed B.named, hW0, g, hh, hsz⟩
  have hl := lv_entry av (n := nLy) hav
  rw [lg_entry_eq]
  exact body p e s m _ below meth c hx B.returns B.notSynchronized z hM s.heap [] _ hw va_S.rf hl
theorem CtV_mk {y : MethodName} {cy : ByteArray} {nLy : Nat} {d : Nat} (g : GG s0 args0 D ca a A) (hy : plainName y.cls = true) {av : List Value} (hav : (lg_sl av).length ≤ nLy) {z : St} {M0 : Option St} (hM : M0 = some z) (body : ∀ (p : Program) (e : Env) (s : State) (m : MethodId) (args : Array Value) (below : List Frame) (meth : Method) (c : Code), Cx p s m c cy nLy y.cls s0 args0 D ca a A → meth.sig.returnType = none → meth.locks = false → VV p l e (rmd d) s m args below meth c D ca tp a A nLy (fun z => MQ below (QV D ca tp a A z) args s 0 0 A) S (lv_args 0 av) 0 [] M0) : CtV l y cy nLy d s0 D ca tp a A av S z := by
  refine Met.ofW (cc := cy) (maxL := nLy) (ret := none) hy rfl ?_
  intro p e s m args below meth c s₁ B hml hv
  obtain ⟨rfl, hW0, hh, hsz, hw⟩ := hv
  have hx : Cx p s m c cy nLy y.cls s0 args0 D ca a A := ⟨B.exec, B.bytes, hml, findClass_of_methodNamed B.named, hW0, g, hh, hsz⟩
  have hl := lv_entry av (n := nLy) hav
  rw [lg_entry_eq]
  exact body p e s m _ below meth c hx B.returns B.notSynchronized z hM s.heap [] _ hw va_S.rf hl

end CORE2
