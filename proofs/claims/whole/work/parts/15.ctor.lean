/-! THE MAKING of the two objects: cells come one behind the other from n0 on; N of them, E what each holds -/
def celE (n0 N : Nat) (E : Nat → va_E) : va_W := (List.range N).map (fun i => (n0 + i, E i))
theorem celE_get (n0 N : Nat) (E : Nat → va_E) (i : Nat) : (celE n0 N E)[i]? = if i < N then some (n0 + i, E i) else none := by
  unfold celE
  rw [List.getElem?_map]
  by_cases hl : i < N
  · rw [List.getElem?_range hl, if_pos hl]; rfl
  · have h2 : (List.range N)[i]? = none := by simp; omega
    rw [h2, if_neg hl]; rfl
theorem celE_at {n0 N : Nat} {E : Nat → va_E} {i : Nat} {x : va_E} (hi : i < N) (hx : E i = x) : (celE n0 N E)[i]? = some (n0 + i, x) := by rw [celE_get, if_pos hi, hx]
theorem celE_set {n0 N : Nat} {E : Nat → va_E} {i : Nat} (hi : i < N) (x : va_E) : (celE n0 N E).set i (n0 + i, x) = celE n0 N (va_up E i x) := by
  apply List.ext_getElem?
  intro k
  have hl : i < (celE n0 N E).length := by simp [celE, hi]
  by_cases hk : k = i
  · subst hk
    rw [List.getElem?_set_self hl, celE_get, if_pos hi]
    simp [va_up]
  · rw [List.getElem?_set_ne (Ne.symm hk), celE_get, celE_get]
    simp [va_up, hk]
theorem celE_push (n0 N : Nat) (E : Nat → va_E) (x : va_E) : celE n0 N E ++ [(n0 + N, x)] = celE n0 (N + 1) (va_up E N x) := by
  apply List.ext_getElem?
  intro k
  have hl : (celE n0 N E).length = N := by simp [celE]
  rw [celE_get]
  by_cases hk : k < N
  · rw [List.getElem?_append_left (by omega), celE_get, if_pos hk, if_pos (by omega)]
    simp [va_up, show k ≠ N by omega]
  · rw [List.getElem?_append_right (by omega), hl]
    by_cases he : k = N
    · subst he
      simp [va_up]
    · rw [if_neg (by omega)]
      simp
      omega
def AE (n0 : Nat) : Nat → Prop := fun q => n0 ≤ q
theorem celE_D (n0 N : Nat) (E : Nat → va_E) : va_D (AE n0) (celE n0 N E) := by
  refine ⟨fun i j x y hi hj hxy => ?_, fun k q hk => ?_⟩
  · rw [celE_get] at hi hj
    split at hi
    · cases hi
      split at hj
      · cases hj
        simp at hxy
        exact hxy
      · cases hj
    · cases hi
  · rw [celE_get] at hk
    split at hk
    · cases hk
      exact Nat.le_add_right _ _
    · cases hk
def WE (D : va_G) (n0 N : Nat) (E : Nat → va_E) (H : Heap) : Prop := va_P D vwCl (celE n0 N E) H ∧ H.size = n0 + N
def PreE (s0 : State) (D : va_G) (n0 N : Nat) (E : Nat → va_E) (U : State) : Prop := s0.WarmedH U.vm ∧ (∀ q, q < s0.heap.size → U.heap[q]? = s0.heap[q]?) ∧ s0.heap.size ≤ U.heap.size ∧ WE D n0 N E U.heap
def rmE (d mc ms : Nat) : Room := { frames := d, cells := mc, slots := ms, locals := 64 * d }
def VE (p : Program) (l : Launch) (e : Env) (R : Room) (s : State) (m : MethodId) (args : Array Value) (below : List Frame) (meth : Method) (c : Code) (D : va_G) (n0 nL : Nat) (Q : State → Prop) (k n N : Nat) (E : Nat → va_E) (ls : List (Nat × Value)) (pc : Nat) (st : List Value) : Prop :=
  ∀ (H : Heap) (locs : List Loc) (lsA : Array Slot), WE D n0 N E H → va_S (AE n0) s.heap H locs → lv_has lsA nL ls → W p l e R s m args below meth c H locs k n Q (F0 m pc lsA st)
def QE (D : va_G) (n0 N : Nat) (E : Nat → va_E) : Array Value → State → Outcome → State → Prop := va_Qv (fun (_ : Unit) => True) (fun _ t => WE D n0 N E t.heap) (AE n0)
def CtE (l : Launch) (y : MethodName) (cy : ByteArray) (nLy d mc ms : Nat) (s0 : State) (D : va_G) (n0 : Nat) (av : List Value) (N : Nat) (E : Nat → va_E) (N2 : Nat) (E2 : Nat → va_E) : Prop :=
  Met l y [Cond.code y cy nLy none] (rmE d mc ms) (va_Pc av (PreE s0 D n0 N E)) (QE D n0 N2 E2) mc ms (AE n0)
theorem PreE.blind {s0 : State} {D : va_G} {n0 N : Nat} {E : Nat → va_E} {av : List Value} : FrameBlind (va_Pc av (PreE s0 D n0 N E)) := fun _ _ _ _ q => q
/-- fields that a constructor sets (final ones, too) -/
def FFk (own : String) (i ci k : Nat) (ty : FieldType) : Prop := ∃ (C : String) (T : u_T) (N : Nat) (ty0 : Nat → FieldType), vwCl[ci]? = some (C, T, N) ∧ k < N ∧ (∀ w ∈ u_ws C T N, w ∈ lw_tbl) ∧ Cond.fieldLink own i (T k).1 (T k).2.1 (T k).2.2.1 ∈ lw_tbl ∧ (∀ k, k < N → parseFieldDescriptor (T k).2.2.1 = some (ty0 k)) ∧ (∀ a, a < N → ∀ b, b < N → a ≠ b → (T a).2.1 ≠ (T b).2.1) ∧ (T k).2.2.2 = true ∧ (T k).1 = own ∧ parseFieldDescriptor (T k).2.2.1 = some ty
theorem AOA_moved {u U : State} (hvm : u.vm.Alike U.vm) {A A' : Array Value} (h : (Cond.arrayOver (.array .int)).before A u = true) : (Cond.arrayOver (.array .int)).before A' U = true := by
  have e := Cond.arrayOver_setVmC (args := A) (s := u) hvm (.array .int)
  rw [h] at e
  exact e
section CTOR
variable {p : Program} {l : Launch} {e : Env} {R : Room} {s : State} {m : MethodId} {args : Array Value} {below : List Frame} {meth : Method} {c : Code}
variable {D : va_G} {ca : Nat → ClassId} {a : Nat → Nat} {n0 nL k n N : Nat} {Q : State → Prop} {E : Nat → va_E} {ls : List (Nat × Value)} {pc : Nat} {st : List Value} {s0 : State} {args0 : Array Value} {cc : ByteArray} {own : String}
theorem E_iconst (h : Cx p s m c cc nL own s0 args0 D ca a (AE n0)) {x : Int} {v : Int32} (hd : decode cc pc = .ok (.iconst x, 1)) (hv : Int32.ofInt x = v) (kk : VE p l e R s m args below meth c D n0 nL Q k n N E ls (pc + 1) (.int v :: st)) : VE p l e R s m args below meth c D n0 nL Q k n N E ls pc st := fun H locs lsA hw hs hl => lv_iconst h.1 h.2.1 hd hv (kk H locs lsA hw hs hl)
theorem E_bipush (h : Cx p s m c cc nL own s0 args0 D ca a (AE n0)) {x : Int} {v : Int32} (hd : decode cc pc = .ok (.bipush x, 2)) (hv : (Int8.ofInt x).toInt32 = v) (kk : VE p l e R s m args below meth c D n0 nL Q k n N E ls (pc + 2) (.int v :: st)) : VE p l e R s m args below meth c D n0 nL Q k n N E ls pc st := fun H locs lsA hw hs hl => lv_bipush h.1 h.2.1 hd hv (kk H locs lsA hw hs hl)
theorem E_sipush (h : Cx p s m c cc nL own s0 args0 D ca a (AE n0)) {x : Int} {v : Int32} (hd : decode cc pc = .ok (.sipush x, 3)) (hv : (Int16.ofInt x).toInt32 = v) (kk : VE p l e R s m args below meth c D n0 nL Q k n N E ls (pc + 3) (.int v :: st)) : VE p l e R s m args below meth c D n0 nL Q k n N E ls pc st := fun H locs lsA hw hs hl => lv_sipush h.1 h.2.1 hd hv (kk H locs lsA hw hs hl)
theorem E_dup (h : Cx p s m c cc nL own s0 args0 D ca a (AE n0)) {va : Value} (hd : decode cc pc = .ok (.dup, 1)) (h1 : va.category = 1) (kk : VE p l e R s m args below meth c D n0 nL Q k n N E ls (pc + 1) (va :: va :: st)) : VE p l e R s m args below meth c D n0 nL Q k n N E ls pc (va :: st) := fun H locs lsA hw hs hl => lv_dup h.1 h.2.1 hd h1 (kk H locs lsA hw hs hl)
theorem E_null (h : Cx p s m c cc nL own s0 args0 D ca a (AE n0))  (hd : decode cc pc = .ok (.aconst_null, 1))  (kk : VE p l e R s m args below meth c D n0 nL Q k n N E ls (pc + 1) (.null :: st)) : VE p l e R s m args below meth c D n0 nL Q k n N E ls pc st := fun H locs lsA hw hs hl => lv_null h.1 h.2.1 hd  (kk H locs lsA hw hs hl)
theorem E_iload_n (h : Cx p s m c cc nL own s0 args0 D ca a (AE n0)) {i : Fin 4} (k0 : Nat) {j : Nat} {x : Int32} (hd : decode cc pc = .ok (.iload_n i, 1)) (hj : (i : Nat) = j) (hk : ls[k0]? = some (j, .int x)) (kk : VE p l e R s m args below meth c D n0 nL Q k n N E ls (pc + 1) (.int x :: st)) : VE p l e R s m args below meth c D n0 nL Q k n N E ls pc st := fun H locs lsA hw hs hl => lv_iload_n h.1 h.2.1 hd hj (lv_at hl k0 hk) (kk H locs lsA hw hs hl)
theorem E_aload_n (h : Cx p s m c cc nL own s0 args0 D ca a (AE n0)) {i : Fin 4} (k0 : Nat) {j : Nat} {x : Nat} (hd : decode cc pc = .ok (.aload_n i, 1)) (hj : (i : Nat) = j) (hk : ls[k0]? = some (j, .ref x)) (kk : VE p l e R s m args below meth c D n0 nL Q k n N E ls (pc + 1) (.ref x :: st)) : VE p l e R s m args below meth c D n0 nL Q k n N E ls pc st := fun H locs lsA hw hs hl => lv_aload_n h.1 h.2.1 hd hj (lv_at hl k0 hk) (kk H locs lsA hw hs hl)
theorem E_istore_n (h : Cx p s m c cc nL own s0 args0 D ca a (AE n0)) {j : Fin 4} {i : Nat} {x : Int32} (ls' : List (Nat × Value)) (hd : decode cc pc = .ok (.istore_n j, 1)) (hj : (j : Nat) = i) (hn : i < nL) (hl' : (i, Value.int x) :: ls.filter (fun q => !(q.1 == i) && !(q.1 + 1 == i && q.2.category == 2)) = ls') (kk : VE p l e R s m args below meth c D n0 nL Q k n N E ls' (pc + 1) st) : VE p l e R s m args below meth c D n0 nL Q k n N E ls pc (.int x :: st) := fun H locs lsA hw hs hl => lv_istore_n h.1 h.2.1 hd hj hl hn hl' (fun ls2 hl2 => kk H locs ls2 hw hs hl2)
theorem E_iinc (h : Cx p s m c cc nL own s0 args0 D ca a (AE n0)) {i : Nat} {x : Int} {y v : Int32} (k0 : Nat) (ls' : List (Nat × Value)) (hd : decode cc pc = .ok (.iinc i x, 3)) (hk : ls[k0]? = some (i, .int y)) (hv : y + Int32.ofInt x = v) (hn : i < nL) (hl' : (i, Value.int v) :: ls.filter (fun q => !(q.1 == i) && !(q.1 + 1 == i && q.2.category == 2)) = ls') (kk : VE p l e R s m args below meth c D n0 nL Q k n N E ls' (pc + 3) st) : VE p l e R s m args below meth c D n0 nL Q k n N E ls pc st := fun H locs lsA hw hs hl => lv_iinc h.1 h.2.1 hd hl hk hv hn hl' (fun ls2 hl2 => kk H locs ls2 hw hs hl2)
theorem E_icmp_ge1 (h : Cx p s m c cc nL own s0 args0 D ca a (AE n0)) {x y : Int32} {off : Int} (tgt : Nat) (hd : decode cc pc = .ok (.if_icmp .ge off, 3)) (ht : (pc : Int) + off = (tgt : Int)) (hc : y ≤ x) (kk : VE p l e R s m args below meth c D n0 nL Q k n N E ls tgt st) : VE p l e R s m args below meth c D n0 nL Q k n N E ls pc (.int y :: .int x :: st) := fun H locs lsA hw hs hl => lv_icmp_ge h.1 h.2.1 hd ht (fun _ => kk H locs lsA hw hs hl) (fun q => absurd hc q)
theorem E_icmp_ge0 (h : Cx p s m c cc nL own s0 args0 D ca a (AE n0)) {x y : Int32} {off : Int} (tgt : Nat) (hd : decode cc pc = .ok (.if_icmp .ge off, 3)) (ht : (pc : Int) + off = (tgt : Int)) (hc : ¬ y ≤ x) (kk : VE p l e R s m args below meth c D n0 nL Q k n N E ls (pc + 3) st) : VE p l e R s m args below meth c D n0 nL Q k n N E ls pc (.int y :: .int x :: st) := fun H locs lsA hw hs hl => lv_icmp_ge h.1 h.2.1 hd ht (fun q => absurd q hc) (fun _ => kk H locs lsA hw hs hl)
theorem E_goto (h : Cx p s m c cc nL own s0 args0 D ca a (AE n0)) {off : Int} (tgt : Nat) (hd : decode cc pc = .ok (.goto off, 3)) (ht : (pc : Int) + off = (tgt : Int)) (kk : VE p l e R s m args below meth c D n0 nL Q k n N E ls tgt st) : VE p l e R s m args below meth c D n0 nL Q k n N E ls pc st := fun H locs lsA hw hs hl => lv_goto h.1 h.2.1 hd ht (kk H locs lsA hw hs hl)
theorem E_ldcS (h : Cx p s m c cc nL own s0 args0 D ca a (AE n0)) {i : Nat} {tx : String} (x : Nat) (hq : (own, i, tx, x) ∈ rsK) (hd : decode cc pc = .ok (.ldc i, 2)) (kk : VE p l e R s m args below meth c D n0 nL Q k n N E ls (pc + 2) (.ref (a (200 + x)) :: st)) : VE p l e R s m args below meth c D n0 nL Q k n N E ls pc st := fun H locs lsA hw hs hl => va_ldcS h.1 h.2.1 h.2.2.2.1 (vk_R.warm h.2.2.2.2.1 (h.gg.2.2.2.2.2.1 _ hq)) hd (kk H locs lsA hw hs hl)
theorem E_obj (h : Cx p s m c cc nL own s0 args0 D ca a (AE n0)) {i j : Nat} (h1 : Cond.methodLink own i Lib.objectInit ∈ lw_tbl) (h2 : Cond.instanceMethod Lib.objectInit ∈ lw_tbl) (h3 : Cond.code Lib.objectInit ⟨#[0xb1]⟩ 1 none ∈ lw_tbl) (hd : decode cc pc = .ok (.invokespecial i, 3)) (hroom : (st.map fun v => v.category).sum ≤ 8) (hf : 1 ≤ R.frames) (hlo : 20 ≤ R.locals) (kk : VE p l e R s m args below meth c D n0 nL Q k n N E ls (pc + 3) st) : VE p l e R s m args below meth c D n0 nL Q k n N E ls pc (.ref j :: st) := fun H locs lsA hw hs hl =>
  W.objInit h.1 h.2.1 h.2.2.2.1 (h.word h1 rfl args) (h.word h2 rfl args) (h.word h3 rfl args) rfl (by rw [h.2.2.1]; exact hl.1) rfl hd hf (by show 2 * 0 + _ + 12 ≤ _; omega) (kk H locs lsA hw hs hl)
theorem E_get (h : Cx p s m c cc nL own s0 args0 D ca a (AE n0)) {i ci x : Nat} (j : Nat) {fs : List Value} (v : Value) (hf : FLk own i ci x) (hj : j < N) (he : E j = .inr (ci, fs)) (hv : fs[x]? = some v) (hd : decode cc pc = .ok (.getfield i, 3)) (kk : VE p l e R s m args below meth c D n0 nL Q k n N E ls (pc + 3) (v :: st)) : VE p l e R s m args below meth c D n0 nL Q k n N E ls pc (.ref (n0 + j) :: st) := by
  intro H locs lsA hw hs hl
  obtain ⟨C, T, N', ref, h1, h2, h3, h4, h5⟩ := hf
  have hat := celE_at (n0 := n0) hj he
  rcases h5 with h5 | ⟨host, h5⟩
  · exact va_get h.1 h.2.1 h.words (lays_in h3) h.2.2.2.1 h.K hw.1 j hat h1 x h2 (h.word h5 rfl args) (h.same h4) hv hd (kk H locs lsA hw hs hl)
  · exact va_getN h.1 h.2.1 h.words (lays_in h3) h.2.2.2.1 h.K hw.1 j hat h1 x h2 (h.nestF h5) (h.same h4) hv hd (kk H locs lsA hw hs hl)
theorem E_put (h : Cx p s m c cc nL own s0 args0 D ca a (AE n0)) {i ci x : Nat} {ty : FieldType} (j : Nat) {fs : List Value} {v : Value} (E2 : Nat → va_E) (hf : FPk own i ci x ty) (hj : j < N) (he : E j = .inr (ci, fs)) (hx : x < fs.length) (hE2 : va_up E j (.inr (ci, fs.set x v)) = E2) (hn : narrow ty v = v) (hfit : fits ty v = true) (hd : decode cc pc = .ok (.putfield i, 3)) (kk : VE p l e R s m args below meth c D n0 nL Q k n N E2 ls (pc + 3) st) : VE p l e R s m args below meth c D n0 nL Q k n N E ls pc (v :: .ref (n0 + j) :: st) := by
  intro H locs lsA hw hs hl
  obtain ⟨C, T, N', ref, ty0, h1, h2, h3, h4, h5, h6, h7, h8, h9⟩ := hf
  have hat := celE_at (n0 := n0) hj he
  have fin : ∀ (H1 : Heap) (locs1 : List Loc), va_P D vwCl ((celE n0 N E).set j (n0 + j, .inr (ci, fs.set x v))) H1 → va_D (AE n0) ((celE n0 N E).set j (n0 + j, .inr (ci, fs.set x v))) → va_S (AE n0) s.heap H1 locs1 → H1.size = H.size → W p l e R s m args below meth c H1 locs1 k n Q (F0 m (pc + 3) lsA st) := by
    intro H1 locs1 q1 q2 q3 q4
    rw [celE_set hj, hE2] at q1
    exact kk H1 locs1 lsA ⟨q1, by rw [q4]; exact hw.2⟩ q3 hl
  have hP := hw.1
  have hD := celE_D n0 N E
  have hap := va_apart (args := args) (own := own) h.words (lays_in h3) ty0 h6 h7 h.K h1
  obtain ⟨r, g1, cell, q1, q2, q3, q4⟩ := hP j _ hat
  have hr : r = (C, T, N') := Option.some.inj (g1.symm.trans h1)
  subst hr
  obtain ⟨hS, hfc, kC, hkC, hkind⟩ := h.K.1 ci _ h1
  obtain ⟨cf, kf, fi, f, hi, hsl⟩ := hS x h2
  have hlay := h.words (args := args) _ (lays_in h3 _ (u_in_lay h2))
  unfold u_lay at hlay
  rw [if_neg (by rw [h8]; decide)] at hlay
  have hst := (u_facts hfc hkC (u_lays (h.words (args := args)) (lays_in h3) h2) hi).1
  have g6 := u_store hfc hkC hkind hlay hi h9 hn hfit
  rcases h5 with h5 | ⟨host, h5⟩
  · refine W.putK h.1 h.2.1 (f := f) ⟨h.2.2.2.1, h.word h5 rfl args, ⟨_, _, _, h.same h4 _ hi⟩, hst⟩ (by rw [q2]; exact g6) q1 q3 (by rw [hsl]; exact k2_hasslot (q4 x h2)) rfl rfl hd fun H' e1 e2 e3 => ?_
    rw [hsl] at e1 ⊢
    exact fin H' _ (hP.set hD hat ⟨_, h1, t_OB.to (V := updV (vp_V fs) x v) ⟨_, e1, q2, q3, t_set q4 hap h2 v⟩ (fun j _ => vp_updV_set hx v j)⟩ e3) (hD.set hat) (hs.put e2 e3 (hD.2 j _ hat)) e2
  · refine va_WputK h.1 h.2.1 (f := f) h.2.2.2.1 (h.nestF h5) (h.same h4 _ hi) hst (by rw [q2]; exact g6) q1 q3 (by rw [hsl]; exact k2_hasslot (q4 x h2)) rfl rfl hd fun H' e1 e2 e3 => ?_
    rw [hsl] at e1 ⊢
    exact fin H' _ (hP.set hD hat ⟨_, h1, t_OB.to (V := updV (vp_V fs) x v) ⟨_, e1, q2, q3, t_set q4 hap h2 v⟩ (fun j _ => vp_updV_set hx v j)⟩ e3) (hD.set hat) (hs.put e2 e3 (hD.2 j _ hat)) e2
theorem E_putF (h : Cx p s m c cc nL own s0 args0 D ca a (AE n0)) {i ci x : Nat} {ty : FieldType} (j : Nat) {fs : List Value} {v : Value} (E2 : Nat → va_E) (hin : meth.name = "<init>") (hf : FFk own i ci x ty) (hj : j < N) (he : E j = .inr (ci, fs)) (hx : x < fs.length) (hE2 : va_up E j (.inr (ci, fs.set x v)) = E2) (hn : narrow ty v = v) (hfit : fits ty v = true) (hd : decode cc pc = .ok (.putfield i, 3)) (kk : VE p l e R s m args below meth c D n0 nL Q k n N E2 ls (pc + 3) st) : VE p l e R s m args below meth c D n0 nL Q k n N E ls pc (v :: .ref (n0 + j) :: st) := by
  intro H locs lsA hw hs hl
  obtain ⟨C, T, N', ty0, h1, h2, h3, h5, h6, h7, h8, hdecl, h9⟩ := hf
  have hat := celE_at (n0 := n0) hj he
  have hP := hw.1
  have hD := celE_D n0 N E
  have hap := va_apart (args := args) (own := own) h.words (lays_in h3) ty0 h6 h7 h.K h1
  obtain ⟨r, g1, cell, q1, q2, q3, q4⟩ := hP j _ hat
  have hr : r = (C, T, N') := Option.some.inj (g1.symm.trans h1)
  subst hr
  obtain ⟨hS, hfc, kC, hkC, hkind⟩ := h.K.1 ci _ h1
  obtain ⟨cf, kf, fi, f, hi, hsl⟩ := hS x h2
  have hlay := h.words (args := args) _ (lays_in h3 _ (u_in_lay h2))
  unfold u_lay at hlay
  rw [if_pos h8] at hlay
  have hst := (u_facts hfc hkC (u_lays (h.words (args := args)) (lays_in h3) h2) hi).1
  have hcf : m.cls = cf := by
    obtain ⟨_, _, c', _, _, _, -, -, hf', -, -, -, hown2, -⟩ := Cond.laysFinal_spec hlay
    have e1 : c' = cf := by have := hi.symm.trans hf'; simp at this; exact this.1.symm
    rw [hdecl] at hown2
    rw [← e1]; exact Option.some.inj (h.2.2.2.1.symm.trans hown2)
  have g6 := u_fits hfc hkC hkind (Or.inr hlay) hi h9 hn hfit
  refine W.putFinK h.1 h.2.1 h.2.2.2.1 (h.word h5 rfl args) hi hst hcf hin (by rw [q2]; exact g6) q1 q3 (by rw [hsl]; exact k2_hasslot (q4 x h2)) rfl rfl hd fun H' e1 e2 e3 => ?_
  rw [hsl] at e1 ⊢
  have q9 := hP.set (e := .inr (ci, fs.set x v)) hD hat ⟨_, h1, t_OB.to (V := updV (vp_V fs) x v) ⟨_, e1, q2, q3, t_set q4 hap h2 v⟩ (fun j _ => vp_updV_set hx v j)⟩ e3
  rw [celE_set hj, hE2] at q9
  exact kk H' _ lsA ⟨q9, by rw [e2]; exact hw.2⟩ (hs.put e2 e3 (hD.2 j _ hat)) hl
theorem E_new (h : Cx p s m c cc nL own s0 args0 D ca a (AE n0)) {i ci x : Nat} {C : String} {T : u_T} {fs : List Value} (ty0 : Nat → FieldType) (E2 : Nat → va_E) (hc : vwCl[ci]? = some (C, T, x)) (hin : ∀ w ∈ u_ws C T x, w ∈ lw_tbl) (hty : ∀ k, k < x → parseFieldDescriptor (T k).2.2.1 = some (ty0 k)) (h1 : Cond.classLink own i C ∈ lw_tbl) (h2 : Cond.instantiable C x ∈ lw_tbl) (h3 : Cond.initialized C ∈ lw_tbl) (hfs : ∀ j, j < x → defaultValue (ty0 j) = vp_V fs j) (hE2 : va_up E N (.inr (ci, fs)) = E2) (hk : k + 1 ≤ R.cells) (hn : n + x ≤ R.slots) (hd : decode cc pc = .ok (.new i, 3)) (kk : VE p l e R s m args below meth c D n0 nL Q (k + 1) (n + x) (N + 1) E2 ls (pc + 3) (.ref (n0 + N) :: st)) : VE p l e R s m args below meth c D n0 nL Q k n N E ls pc st := by
  intro H locs lsA hw hs hl
  have hKn := h.K.1 ci _ hc
  refine W.newcK h.1 h.2.1 h.2.2.2.1 (h.word h1 rfl args) (h.word h2 rfl args) (h.word h3 rfl args) rfl hd hk hn hKn.2.1 hw.2 fun H1 kC hkC e1 z1 o1 => ?_
  have hold : ∀ q, q < H.size → H1[q]? = H[q]? := fun q hq => o1 q (by rw [← hw.2]; exact hq)
  have q1 : va_P D vwCl (celE n0 N E ++ [(n0 + N, .inr (ci, fs))]) H1 := (hw.1.kept (fun k x hx => hold x.1 ((hw.1 k x hx).lt))).app (fun k x hx => by
    have hz : k < 1 := (List.getElem?_eq_some_iff.mp hx).1
    rw [show k = 0 by omega] at hx
    cases hx
    exact ⟨_, hc, (u_born ty0 (h.words (args := args)) (lays_in hin) hKn hkC e1 hty).to hfs⟩)
  rw [celE_push, hE2] at q1
  exact kk H1 locs lsA ⟨q1, by rw [z1, Nat.add_assoc]⟩ ⟨Nat.le_trans hs.1 (by rw [z1, hw.2]; omega), fun x h1 h2 => (hold x (Nat.lt_of_lt_of_le h1 hs.1)).trans (hs.2.1 x h1 h2), hs.2.2⟩ hl
theorem E_newa (h : Cx p s m c cc nL own s0 args0 D ca a (AE n0)) {atype : ArrayType} (kd x : Nat) {v : Int32} (E2 : Nat → va_E) (hty : newarray.typeOf atype = tyk kd) (hkd : kd < 2) (h1 : Cond.arrayClass (newarray.typeOf atype) ∈ lw_tbl) (hv : ¬ v < 0) (hx : v.toNatClampNeg = x) (hb : x ≤ 100000) (hE2 : va_up E N (.inl (ca kd, x, .inl (fun _ => 0))) = E2) (hk : k + 1 ≤ R.cells) (hn : n + x ≤ R.slots) (hd : decode cc pc = .ok (.newarray atype, 2)) (kk : VE p l e R s m args below meth c D n0 nL Q (k + 1) (n + x) (N + 1) E2 ls (pc + 2) (.ref (n0 + N) :: st)) : VE p l e R s m args below meth c D n0 nL Q k n N E ls pc (.int v :: st) := by
  intro H locs lsA hw hs hl
  have hbytes : x * componentBytes (newarray.typeOf atype) ≤ 536870912 := by
    have : componentBytes (newarray.typeOf atype) ≤ 8 := by cases atype <;> decide
    calc x * componentBytes (newarray.typeOf atype) ≤ 100000 * 8 := Nat.mul_le_mul hb this
      _ ≤ 536870912 := by decide
  refine va_newaK h.1 h.2.1 (h.word h1 rfl args) rfl hd rfl hv hx hbytes hk hn hw.2 fun H1 cA e1 z1 o1 hAr hNm => ?_
  have hca : cA = ca kd := by
    have q := (h.K.2 kd _ (tys_at ca kd (by omega))).2
    rw [hty] at hNm
    rcases (show kd = 0 ∨ kd = 1 by omega) with rfl | rfl
    · exact Option.some.inj (hNm.symm.trans q)
    · exact Option.some.inj (hNm.symm.trans q)
  subst hca
  have hold : ∀ q, q < H.size → H1[q]? = H[q]? := fun q hq => o1 q (by rw [← hw.2]; exact hq)
  have q1 : va_P D vwCl (celE n0 N E ++ [(n0 + N, .inl (ca kd, x, .inl (fun _ => 0)))]) H1 := (hw.1.kept (fun k x hx => hold x.1 ((hw.1 k x hx).lt))).app (fun k y hy => by
    have hz : k < 1 := (List.getElem?_eq_some_iff.mp hy).1
    rw [show k = 0 by omega] at hy
    cases hy
    show H1[n0 + N]? = some (vp_cell _ _)
    rw [e1, hty]
    rcases (show kd = 0 ∨ kd = 1 by omega) with rfl | rfl <;> rfl)
  rw [celE_push, hE2] at q1
  exact kk H1 locs lsA ⟨q1, by rw [z1, Nat.add_assoc]⟩ ⟨Nat.le_trans hs.1 (by rw [z1, hw.2]; omega), fun x h1 h2 => (hold x (Nat.lt_of_lt_of_le h1 hs.1)).trans (hs.2.1 x h1 h2), hs.2.2⟩ hl
theorem E_anew (h : Cx p s m c cc nL own s0 args0 D ca a (AE n0)) {i : Nat} (x : Nat) {v : Int32} (E2 : Nat → va_E) (h1 : Cond.classLink own i "NeighbourSoup$Liking" ∈ lw_tbl) (h2 : Cond.arrayOver (.object "NeighbourSoup$Liking") ∈ lw_tbl) (hv : ¬ v < 0) (hx : v.toNatClampNeg = x) (hb : x ≤ 100000) (hE2 : va_up E N (.inl (ca 3, x, .inr (.inr (.inr (.inr (fun _ => none)))))) = E2) (hk : k + 1 ≤ R.cells) (hn : n + x ≤ R.slots) (hd : decode cc pc = .ok (.anewarray i, 3)) (kk : VE p l e R s m args below meth c D n0 nL Q (k + 1) (n + x) (N + 1) E2 ls (pc + 3) (.ref (n0 + N) :: st)) : VE p l e R s m args below meth c D n0 nL Q k n N E ls pc (.int v :: st) := by
  intro H locs lsA hw hs hl
  have hover := va_AO.use (A := args) (va_AO.moved h.al (va_AO.of (h.gg.1 _ h2)))
  subst hx
  refine W.anew h.1 h.2.1 h.2.2.2.1 (h.word h1 rfl args) hover rfl hd rfl hv (by omega) hk hn fun cA kA comp f1 f2 f3 f4 => ?_
  have hca : cA = ca 3 := by
    obtain ⟨kA', comp', -, -, -, q⟩ := (h.K.2 3 _ (tys_at ca 3 (by omega))).2
    exact Option.some.inj (f1.symm.trans q)
  subst hca
  generalize hH1 : H.push ({ cls := ca 3, slots := Array.replicate v.toNatClampNeg .null, vm := .none } : Cell) = H1
  have z1 : H1.size = H.size + 1 := by rw [← hH1, Array.size_push]
  have e1 : H1[H.size]? = some (arrV (ca 3) v.toNatClampNeg (fun _ => .null)) := by rw [← hH1, Array.getElem?_push_size, ← arrV_new]
  have hold : ∀ q : Nat, q < H.size → H1[q]? = H[q]? := fun q hq => by rw [← hH1, Array.getElem?_push, if_neg (Nat.ne_of_lt hq)]
  have q1 : va_P D vwCl (celE n0 N E ++ [(n0 + N, .inl (ca 3, v.toNatClampNeg, .inr (.inr (.inr (.inr (fun _ => none))))))]) H1 := (hw.1.kept (fun k x hx => hold x.1 ((hw.1 k x hx).lt))).app (fun k y hy => by
    have hz : k < 1 := (List.getElem?_eq_some_iff.mp hy).1
    rw [show k = 0 by omega] at hy
    cases hy
    show H1[n0 + N]? = some (vp_cell _ _)
    rw [← hw.2, e1]
    rfl)
  rw [celE_push, hE2] at q1
  rw [hw.2]
  exact kk H1 locs lsA ⟨q1, by rw [z1, hw.2, Nat.add_assoc]⟩ ⟨Nat.le_trans hs.1 (by rw [z1]; omega), fun x h1 h2 => (hold x (Nat.lt_of_lt_of_le h1 hs.1)).trans (hs.2.1 x h1 h2), hs.2.2⟩ hl
theorem E_aast (h : Cx p s m c cc nL own s0 args0 D ca a (AE n0)) (j jv x : Nat) {i : Int32} {g : Nat → Option Nat} {vs : List Value} (E2 : Nat → va_E) (hj : j < N) (he : E j = .inl (ca 3, x, .inr (.inr (.inr (.inr g))))) (hjv : jv < N) (hev : E jv = .inr (1, vs)) (hi : ¬ (i < 0 ∨ x ≤ i.toNatClampNeg)) (hE2 : va_up E j (.inl (ca 3, x, .inr (.inr (.inr (.inr (va_up g i.toNatClampNeg (some (n0 + jv)))))))) = E2) (hd : decode cc pc = .ok (.aastore, 1)) (kk : VE p l e R s m args below meth c D n0 nL Q k n N E2 ls (pc + 1) st) : VE p l e R s m args below meth c D n0 nL Q k n N E ls pc (.ref (n0 + jv) :: .int i :: .ref (n0 + j) :: st) := by
  intro H locs lsA hw hs hl
  have hat := celE_at (n0 := n0) hj he
  have hav := celE_at (n0 := n0) hjv hev
  have hP := hw.1
  have hD := celE_D n0 N E
  have hlt : i.toNatClampNeg < x := Nat.not_le.mp fun q => hi (Or.inr q)
  have h0 : ¬ i < 0 := fun q => hi (Or.inl q)
  obtain ⟨r', hr', cellV, g1, g2, g3, -⟩ := hP jv _ hav
  have hcls := (h.K.1 1 (RX1, TX1, 3) rfl).2
  obtain ⟨kA, comp, k1, k2, k3, -⟩ := (h.K.2 3 _ (tys_at ca 3 (by omega))).2
  have hcomp : comp = D.1 1 := Option.some.inj (k3.symm.trans hcls.1)
  subst hcomp
  have hasg := va_assign hcls
  obtain ⟨kC, hkC, -⟩ := hcls.2
  refine W.aast h.1 h.2.1 (hP j _ hat) (fun q h => by cases h) (fun h => by cases h) k1 k2 rfl hkC ⟨h0, by show _ < (arrV _ _ _).slots.size; rw [arrV_size]; exact hlt⟩ g1 (fun q h => by rw [g3] at h; cases h) (by rw [g2]; exact hkC) (by rw [g2]; exact hasg) rfl rfl hd fun H1 e z oq => ?_
  have q1 := hP.set (e := .inl (ca 3, x, .inr (.inr (.inr (.inr (va_up g i.toNatClampNeg (some (n0 + jv)))))))) hD hat (by
    show H1[n0 + j]? = some (vp_cell _ _)
    rw [e]
    rw [vp_cell_q, vp_cell_q, arrV_store]
    congr 2
    funext q
    by_cases hq : q = i.toNatClampNeg
    · subst hq
      simp [updV, va_up, va_rf]
    · simp [updV, va_up, hq]) oq
  rw [celE_set hj, hE2] at q1
  exact kk H1 _ lsA ⟨q1, by rw [z]; exact hw.2⟩ (hs.put z oq (hD.2 j _ hat)) hl
def mnaE (n0 : Nat) (ca : Nat → ClassId) (N x y : Nat) (E : Nat → va_E) : Nat → va_E := fun i => if i = N then .inl (ca 2, x, .inr (.inr (.inr (.inr (fun j => if j < x then some (n0 + N + 1 + j) else none))))) else if N < i ∧ i < N + 1 + x then .inl (ca 0, y, .inl (fun _ => 0)) else E i
theorem E_mna (h : Cx p s m c cc nL own s0 args0 D ca a (AE n0)) {i : Nat} (x y : Nat) {v1 v2 : Int32} (E2 : Nat → va_E) (h1 : Cond.classLink own i "[[I" ∈ lw_tbl) (h2 : Cond.arrayOver (.array .int) ∈ lw_tbl) (h3 : Cond.arrayClass .int ∈ lw_tbl) (hv1 : ¬ v1 < 0) (hv2 : ¬ v2 < 0) (hx : v1.toNatClampNeg = x) (hy : v2.toNatClampNeg = y) (hbx : x ≤ 100000) (hby : y ≤ 100000) (hE2 : mnaE n0 ca N x y E = E2) (hk : k + (1 + x) ≤ R.cells) (hn : n + (x + x * y) ≤ R.slots) (hd : decode cc pc = .ok (.multianewarray i 2, 4)) (kk : VE p l e R s m args below meth c D n0 nL Q (k + 1 + x) (n + x + x * y) (N + 1 + x) E2 ls (pc + 4) (.ref (n0 + N) :: st)) : VE p l e R s m args below meth c D n0 nL Q k n N E ls pc (.int v2 :: .int v1 :: st) := by
  intro H locs lsA hw hs hl
  subst hx
  subst hy
  intro T hT Xs
  obtain ⟨vm₁, cA, comp, -, fA, fC, hO, -, X', step⟩ := Xs.multianewarray2F h.1 h.2.2.2.1 (ty := .int) (h.word h1 rfl args) (AOA_moved h.al (h.gg.1 _ h2)) (h.word h3 rfl args) (g := F0 m pc lsA (.int v2 :: .int v1 :: st)) rfl (by rw [h.2.1]; exact hd) rfl hv1 hv2 (by omega) (by show _ * 4 ≤ _; omega) (by omega) rfl rfl hk hn
  have ecA : cA = ca 2 := by
    have q := (h.K.2 2 _ (tys_at ca 2 (by omega))).2
    exact Option.some.inj (fA.symm.trans q)
  have ecm : comp = ca 0 := by
    have q := (h.K.2 0 _ (tys_at ca 0 (by omega))).2
    exact Option.some.inj (fC.symm.trans q)
  subst ecA
  subst ecm
  generalize hF : Jvm.Free.Multi.fill (T.setVm vm₁) (ca 2) (ca 0) v1.toNatClampNeg v2.toNatClampNeg (defaultValue .int) v1.toNatClampNeg = F at X' step
  have hTh : (T.setVm vm₁).heap = H := hT
  obtain ⟨f1, f2, -, -⟩ := Jvm.Free.Multi.fill_facts (T.setVm vm₁) (ca 2) (ca 0) v1.toNatClampNeg v2.toNatClampNeg (defaultValue .int) v1.toNatClampNeg
  rw [hF, hTh] at f1 f2
  have hold : ∀ x : Nat, x < H.size → F.heap[x]? = H[x]? := fun x hx => by
    have := Jvm.Free.Multi.fill_old (T.setVm vm₁) (ca 2) (ca 0) v1.toNatClampNeg v2.toNatClampNeg (defaultValue .int) (a := x) (by rw [hTh]; exact hx) v1.toNatClampNeg
    rw [hF, hTh] at this
    exact this
  have hinner : ∀ c : ClassId, Jvm.Free.Multi.innerC c v2.toNatClampNeg (defaultValue .int) = vp_cell c (v2.toNatClampNeg, .inl (fun _ => 0)) := fun c => by
    rw [vp_cell_i, ← arrV_new]
    rfl
  have hrow : ∀ j : Nat, j < v1.toNatClampNeg → F.heap[H.size + 1 + j]? = some (vp_cell (ca 0) (v2.toNatClampNeg, .inl (fun _ => 0))) := fun j hj => by
    have := Jvm.Free.Multi.fill_inner (T.setVm vm₁) (ca 2) (ca 0) v1.toNatClampNeg v2.toNatClampNeg (defaultValue .int) v1.toNatClampNeg j hj
    rw [hF, hTh, hinner] at this
    exact this
  have hout : Jvm.Free.Multi.outerC (ca 2) v1.toNatClampNeg H.size v1.toNatClampNeg = vp_cell (ca 2) (v1.toNatClampNeg, .inr (.inr (.inr (.inr (fun i => if i < v1.toNatClampNeg then some (H.size + 1 + i) else none))))) := by
    rw [vp_cell_q]
    exact vr_outer (ca 2) v1.toNatClampNeg H.size v1.toNatClampNeg
  rw [hout] at f2
  have q1 : WE D n0 (N + 1 + v1.toNatClampNeg) E2 F.heap := by
    refine ⟨fun k9 q hq => ?_, by rw [f1, hw.2]; omega⟩
    rw [celE_get] at hq
    split at hq
    · rename_i hk9
      cases hq
      rw [← hE2]
      unfold mnaE
      by_cases e1 : k9 = N
      · subst e1
        rw [if_pos rfl]
        show F.heap[n0 + k9]? = _
        rw [← hw.2]
        exact f2
      · rw [if_neg e1]
        by_cases e2 : N < k9 ∧ k9 < N + 1 + v1.toNatClampNeg
        · rw [if_pos e2]
          show F.heap[n0 + k9]? = _
          have := hrow (k9 - N - 1) (by omega)
          rw [hw.2, show n0 + N + 1 + (k9 - N - 1) = n0 + k9 by omega] at this
          exact this
        · rw [if_neg e2]
          have hlt9 : k9 < N := by omega
          exact (hw.1 k9 _ (celE_at (n0 := n0) hlt9 rfl)).kept (hold _ (by rw [hw.2]; show n0 + k9 < n0 + N; omega))
    · cases hq
  obtain ⟨t, a1, b1⟩ := kk F.heap locs lsA q1 ⟨by rw [f1]; exact Nat.le_trans hs.1 (by omega), fun x h1 h2 => (hold x (Nat.lt_of_lt_of_le h1 hs.1)).trans (hs.2.1 x h1 h2), hs.2.2⟩ hl F rfl X'
  refine ⟨t, step t ?_, b1⟩
  have e9 : T.heap.size = n0 + N := by rw [hT]; exact hw.2
  rw [e9]
  exact a1
theorem E_call (h : Cx p s m c cc nL own s0 args0 D ca a (AE n0)) {y : MethodName} {cy : ByteArray} {nLy x i dy mc ms N2 : Nat} {E2 : Nat → va_E} (As rest : List Value) (j : Nat) (h1 : Cond.methodLink own i y ∈ lw_tbl ∨ ∃ host : String, Cond.methodLinkNest own i y host ∈ lw_tbl) (h2 : Cond.instanceMethod y ∈ lw_tbl) (h3 : Cond.initialized y.cls ∈ lw_tbl) (h4 : Cond.code y cy nLy none ∈ lw_tbl) (h5 : y.cls ≠ "java/lang/invoke/MethodHandle" ∧ y.cls ≠ "java/lang/invoke/VarHandle" ∧ (parseMethodDescriptor y.desc).map (fun d => d.parameters.length) = some x) (h6 : nLy ≤ 45) (h7 : y.name = "<init>") (hd : decode cc pc = .ok (.invokespecial i, 3)) (hn0 : As.length = x) (hst : st = As.reverse ++ .ref (n0 + j) :: rest) (hroom : (rest.map fun v => v.category).sum ≤ 8) (hf : dy + 1 ≤ R.frames) (hlo : 64 * (dy + 1) ≤ R.locals) (hk : k + mc ≤ R.cells) (hn : n + ms ≤ R.slots) (hM : CtE l y cy nLy dy mc ms s0 D n0 (.ref (n0 + j) :: As) N E N2 E2) (kk : VE p l e R s m args below meth c D n0 nL Q (k + mc) (n + ms) N2 E2 ls (pc + 3) rest) : VE p l e R s m args below meth c D n0 nL Q k n N E ls pc st := by
  intro H locs lsA hw hs hl
  have hlo2 : 8 + (nLy + 11) + (rmE dy mc ms).locals ≤ R.locals := by show 8 + (nLy + 11) + 64 * dy ≤ R.locals; omega
  have hpre : ∀ U : State, U.heap = H → s.WarmedH U.vm → va_Pc (.ref (n0 + j) :: As) (PreE s0 D n0 N E) (Value.ref (n0 + j) :: As).toArray U := by
    intro U hU hW
    refine ⟨rfl, State.WarmedH.trans h.2.2.2.2.1 hW, fun q hq => ?_, ?_, ?_⟩
    · rw [hU, hs.2.1 q (Nat.lt_of_lt_of_le hq h.2.2.2.2.2.2.2) (h.off q hq)]
      exact h.2.2.2.2.2.2.1 q hq
    · rw [hU]; exact Nat.le_trans h.2.2.2.2.2.2.2 hs.1
    · rw [hU]; exact hw
  have run : va_Run p l e R s m args below meth c H locs k n mc ms (F0 m pc lsA st) rest (QE D n0 N2 E2 (Value.ref (n0 + j) :: As).toArray) (AE n0) := by
    rcases h1 with h1 | ⟨host, h1⟩
    · exact va_runI (Ts := []) (bytes := cy) (maxL := nLy) ⟨h.1, h.2.1, h.2.2.1, h.2.2.2.1, fun w (hw : w ∈ ([] : List Cond)) => nomatch hw⟩ hM ⟨⟨rfl, rfl, hf, hlo2, h.ridesCode h4, List.mem_singleton.mpr rfl, h.word h4 rfl args, h.word h3 rfl args, ⟨h5.1, h5.2.1⟩, arity_of h5.2.2, h.word h1 rfl args⟩, h7, h.word h2 rfl args⟩ ⟨PreE.blind, hpre⟩ rfl hn0 hl.1 hst (lv_room hroom) hd ⟨hk, hn⟩
    · exact va_runIN (Ts := []) (bytes := cy) (maxL := nLy) ⟨h.1, h.2.1, h.2.2.1, h.2.2.2.1, fun w (hw : w ∈ ([] : List Cond)) => nomatch hw⟩ hM ⟨⟨⟨rfl, rfl, hf, hlo2, h.ridesCode h4, List.mem_singleton.mpr rfl⟩, h.word h4 rfl args, h.word h3 rfl args, ⟨h5.1, h5.2.1⟩, arity_of h5.2.2, h.nestM h1⟩, h7, h.word h2 rfl args⟩ ⟨PreE.blind, hpre⟩ rfl hn0 hl.1 hst (lv_room hroom) hd ⟨hk, hn⟩
  refine va_callv run hs (fun q _ hq => hq) (fun q hq => hq) (fun u t H1 locs1 ht hvm hw1 hB hz1 hk1 hS1 => ?_)
  rw [ht] at hB
  exact kk H1 locs1 lsA hB hS1 hl
theorem VE_as {E2 : Nat → va_E} (hE : E = E2) (kk : VE p l e R s m args below meth c D n0 nL Q k n N E2 ls pc st) : VE p l e R s m args below meth c D n0 nL Q k n N E ls pc st := hE ▸ kk
theorem E_vret (h : Cx p s m c cc nL own s0 args0 D ca a (AE n0)) {mc ms : Nat} (hr : meth.sig.returnType = none) (hlk : meth.locks = false) (hk : k = mc) (hn : n = ms) (hd : decode cc pc = .ok (.return_, 1)) : VE p l e R s m args below meth c D n0 nL (MQ below (QE D n0 N E) args s mc ms (AE n0)) k n N E ls pc [] := by
  intro H locs lsA hw hs hl
  subst hk
  subst hn
  exact W.vret h.1 h.2.1 hr (fun t ht hW => ⟨⟨(), rfl, trivial, by show WE D n0 N E t.heap; rw [ht]; exact hw⟩, hs.F ht⟩) hs.2.2 hd hlk
theorem CtE_mk {y : MethodName} {cy : ByteArray} {nLy d mc ms N2 : Nat} {E2 : Nat → va_E} (g : GG s0 args0 D ca a (AE n0)) (hy : plainName y.cls = true) (hy2 : y.name = "<init>") {av : List Value} (hav : (lg_sl av).length ≤ nLy) (body : ∀ (p : Program) (e : Env) (s : State) (m : MethodId) (args : Array Value) (below : List Frame) (meth : Method) (c : Code), Cx p s m c cy nLy y.cls s0 args0 D ca a (AE n0) → meth.sig.returnType = none → meth.locks = false → meth.name = "<init>" → VE p l e (rmE d mc ms) s m args below meth c D n0 nLy (MQ below (QE D n0 N2 E2) args s mc ms (AE n0)) 0 0 N E (lv_args 0 av) 0 []) : CtE l y cy nLy d mc ms s0 D n0 av N E N2 E2 := by
  refine Met.ofW (cc := cy) (maxL := nLy) (ret := none) hy rfl ?_
  intro p e s m args below meth c s₁ B hml hv
  obtain ⟨rfl, hW0, hh, hsz, hw⟩ := hv
  have hx : Cx p s m c cy nLy y.cls s0 args0 D ca a (AE n0) := ⟨B.exec, B.bytes, hml, findClass_of_methodNamed B.named, hW0, g, hh, hsz⟩
  have hl := lv_entry av (n := nLy) hav
  have hnm : meth.name = "<init>" := (name_of_methodNamed B.named B.method).1.trans hy2
  rw [lg_entry_eq]
  exact body p e s m _ below meth c hx B.returns B.notSynchronized hnm s.heap [] _ hw va_S.rf hl

end CTOR
