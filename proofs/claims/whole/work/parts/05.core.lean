/-! THE STATE of a side (the class, the reference): object number, then slot or place, gives a number -/
abbrev St : Type := Nat → Nat → Int32
def upR (S : St) (o : Nat) (f : Nat → Int32) : St := fun q => if q = o then f else S q
def up2 (S : St) (o k : Nat) (v : Int32) : St := upR S o (upd (S o) k v)
def bnd {α β : Type} (x : α) (f : α → β) : β := f x
def ckM {ρ : Type} (i : Int32) (n : Nat) (M : Option ρ) : Option ρ := if i < 0 ∨ n ≤ i.toNatClampNeg then none else M
def dvM {ρ : Type} (y : Int32) (M : Option ρ) : Option ρ := if y = 0 then none else M
def dvL {ρ : Type} (y : Int64) (M : Option ρ) : Option ρ := if y = 0 then none else M
def bI {ρ : Type} (g : Option (Int32 × St)) (K : Int32 → St → Option ρ) : Option ρ := match g with
  | none => none
  | some z => K z.1 z.2
def bV {ρ : Type} (g : Option St) (K : St → Option ρ) : Option ρ := match g with
  | none => none
  | some z => K z
def FU : Nat := 1000
/-! THE WORLD of a side, by a table: an object (class number, its fields: 0 a number, 1 a fixed object, 2 one of a row of objects or null), or an array (kind, length, first object) -/
abbrev FDt : Type := Nat × Nat
abbrev ODt : Type := (Nat × List FDt) ⊕ (Nat × Nat × Nat)
def fvv (a : Nat → Nat) (f : Nat → Int32) (k : Nat) (d : FDt) : Value := match d.1 with
  | 0 => .int (f k)
  | 1 => .ref (a d.2)
  | _ => if f k = -1 then .null else .ref (a (d.2 + (f k).toNatClampNeg))
def fvs (a : Nat → Nat) (f : Nat → Int32) : Nat → List FDt → List Value
  | _, [] => []
  | k, d :: ds => fvv a f k d :: fvs a f (k + 1) ds
def enx (ca : Nat → ClassId) (a : Nat → Nat) (d : ODt) (f : Nat → Int32) : va_E := match d with
  | .inl q => .inr (q.1, fvs a f 0 q.2)
  | .inr q => if q.1 < 2 then .inl (ca q.1, q.2.1, .inl f) else .inl (ca q.1, q.2.1, .inr (.inr (.inr (.inr (fun j => some (a (q.2.2 + j)))))))
def cellsOf (ca : Nat → ClassId) (a : Nat → Nat) (tp : List ODt) (S : St) : va_W := (List.range tp.length).map (fun o => (a o, enx ca a (tp.getD o (.inr (0, 0, 0))) (S o)))
theorem cells_get (ca : Nat → ClassId) (a : Nat → Nat) (tp : List ODt) (S : St) (o : Nat) : (cellsOf ca a tp S)[o]? = (tp[o]?).map (fun d => (a o, enx ca a d (S o))) := by
  unfold cellsOf
  rw [List.getElem?_map]
  by_cases hl : o < tp.length
  · rw [List.getElem?_range hl]
    simp [List.getD, hl]
  · have h1 : tp[o]? = none := by simp; omega
    have h2 : (List.range tp.length)[o]? = none := by simp; omega
    rw [h1, h2]
    rfl
theorem cells_at {ca : Nat → ClassId} {a : Nat → Nat} {tp : List ODt} {S : St} {o : Nat} {d : ODt} (h : tp[o]? = some d) : (cellsOf ca a tp S)[o]? = some (a o, enx ca a d (S o)) := by
  rw [cells_get, h]
  rfl
theorem upR_self (S : St) (o : Nat) (f : Nat → Int32) : upR S o f o = f := if_pos rfl
theorem upR_ne (S : St) {o q : Nat} (f : Nat → Int32) (h : q ≠ o) : upR S o f q = S q := if_neg h
theorem cells_set {ca : Nat → ClassId} {a : Nat → Nat} {tp : List ODt} {S : St} {o : Nat} {d : ODt} (h : tp[o]? = some d) (f : Nat → Int32) : (cellsOf ca a tp S).set o (a o, enx ca a d f) = cellsOf ca a tp (upR S o f) := by
  apply List.ext_getElem?
  intro k
  by_cases hk : k = o
  · subst hk
    have hlen := (List.getElem?_eq_some_iff.mp (cells_at (ca := ca) (a := a) (S := S) h)).1
    rw [List.getElem?_set_self hlen, cells_get, h, upR_self]
    rfl
  · rw [List.getElem?_set_ne (Ne.symm hk), cells_get, cells_get, upR_ne S f hk]
theorem fvs_at (a : Nat → Nat) (f : Nat → Int32) : ∀ (fds : List FDt) (k0 k : Nat) (d : FDt), fds[k]? = some d → (fvs a f k0 fds)[k]? = some (fvv a f (k0 + k) d)
  | [], _, k, d, h => by simp at h
  | x :: ds, k0, 0, d, h => by
    simp at h
    subst h
    rfl
  | x :: ds, k0, k + 1, d, h => by
    have h2 : ds[k]? = some d := by simpa using h
    have h3 := fvs_at a f ds (k0 + 1) k d h2
    rw [show k0 + (k + 1) = k0 + 1 + k by omega]
    exact h3
theorem fvs_len (a : Nat → Nat) (f : Nat → Int32) : ∀ (fds : List FDt) (k0 : Nat), (fvs a f k0 fds).length = fds.length
  | [], _ => rfl
  | x :: ds, k0 => by show (fvs a f (k0 + 1) ds).length + 1 = ds.length + 1; rw [fvs_len a f ds (k0 + 1)]
theorem fvv_eq (a : Nat → Nat) {f g : Nat → Int32} {k : Nat} (h : f k = g k) (d : FDt) : fvv a f k d = fvv a g k d := by
  unfold fvv
  rw [h]
theorem fvs_set {a : Nat → Nat} {f : Nat → Int32} {fds : List FDt} {k : Nat} {d : FDt} (x : Int32) (h : fds[k]? = some d) : (fvs a f 0 fds).set k (fvv a (upd f k x) k d) = fvs a (upd f k x) 0 fds := by
  apply List.ext_getElem?
  intro j
  by_cases hj : j = k
  · subst hj
    have hl : j < (fvs a f 0 fds).length := by rw [fvs_len]; exact (List.getElem?_eq_some_iff.mp h).1
    rw [List.getElem?_set_self hl, fvs_at a (upd f j x) fds 0 j d h, Nat.zero_add]
  · rw [List.getElem?_set_ne (Ne.symm hj)]
    cases hd : fds[j]? with
    | none =>
      have h1 : fds.length ≤ j := by simpa using hd
      have e1 : (fvs a f 0 fds)[j]? = none := by simp [fvs_len, h1]
      have e2 : (fvs a (upd f k x) 0 fds)[j]? = none := by simp [fvs_len, h1]
      rw [e1, e2]
    | some q =>
      rw [fvs_at a f fds 0 j q hd, fvs_at a (upd f k x) fds 0 j q hd]
      rw [fvv_eq a (show f (0 + j) = upd f k x (0 + j) by rw [Nat.zero_add]; unfold upd; rw [if_neg hj])]
/-! WHAT THE START GIVES: static arrays 300.., Strings 200.. (their bytes 220..) -/
abbrev vwCl : List vw_C := [(RX0, TX0, 6), (RX1, TX1, 3), (RX2, TX2, 4), (RX3, TX3, 13), (RX4, TX4, 4), (RX6, TX6, 5), (RX7, TX7, 8), (RX8, TX8, 8), (RX9, TX9, 2), (RX10, TX10, 15), (RX11, TX11, 59)]
def rsN : List (String × List Int32) := [("POT_USUAL", [50, 0, 0, 0, 0]), ("LAW_USUAL", [10, 1, 5]), ("HOUSE_USUAL", [0, 0, 0, 0, 0, 20, 0, 5]), ("POT_LEAST", [0, 0, 0, 0, 0]), ("POT_MOST", [99, 99, 99, 99, 99]), ("HOUSE_LEAST", [0, 0, 0, 0, 0, 0, 0, 0]), ("HOUSE_MOST", [99, 99, 99, 99, 99, 99, 4, 5]), ("LAW_LEAST", [1, 0, 0]), ("LAW_MOST", [30, 1, 20]), ("TENS", [1, 10, 100, 1000, 10000, 100000])]
def rsS : List (List Int32) := [[108, 110, 115, 104, 105, 116], [97, 98, 99, 100, 101], [97, 98, 99, 100, 101, 108, 107, 110], [103, 116, 99], [121], [110, 111, 32, 115, 117, 99, 104, 32, 104, 111, 117, 115, 101], [110, 111, 32, 115, 117, 99, 104, 32, 116, 104, 105, 110, 103, 32, 111, 102, 32, 97, 32, 104, 111, 117, 115, 101]]
def rsK : List (String × Nat × String × Nat) := [("NeighbourSoup$LikingReader", 62, "lnshit", 0), ("NeighbourSoup$StreetReader", 56, "abcde", 1), ("NeighbourSoup$StreetReader", 68, "abcdelkn", 2), ("NeighbourSoup$StreetReader", 76, "gtc", 3), ("NeighbourSoup", 143, "no such house", 5), ("NeighbourSoup", 170, "no such thing of a house", 6), ("NeighbourSoupModel", 26, "y", 4), ("NeighbourSoupModel", 32, "lnshit", 0), ("NeighbourSoupModel", 253, "abcdelkn", 2), ("NeighbourSoupModel", 255, "abcde", 1), ("NeighbourSoupModel", 257, "gtc", 3)]
def RSx (s0 : State) (a : Nat → Nat) (A : Nat → Prop) : Prop :=
  (∀ (i : Nat) (q : String × List Int32), rsN[i]? = some q → va_Z "NeighbourSoup" q.1 "[I" (.ref (a (300 + i))) A s0 s0.heap ∧ va_T .int (a (300 + i)) q.2.length (fun j => .int (q.2.getD j 0)) A s0 s0.heap) ∧
  (∀ (i : Nat) (q : List Int32), rsS[i]? = some q → va_O "java/lang/String" (a (200 + i)) A s0 s0.heap ∧ va_OF "java/lang/String" "coder" "B" (.int 0) (a (200 + i)) A s0 s0.heap ∧ va_OF "java/lang/String" "value" "[B" (.ref (a (220 + i))) (a (200 + i)) A s0 s0.heap ∧ va_T .byte (a (220 + i)) q.length (fun j => .int (q.getD j 0)) A s0 s0.heap) ∧
  (∀ q ∈ rsK, vk_R q.1 q.2.1 q.2.2.1 (a (200 + q.2.2.2)) s0) ∧ va_Z "java/lang/String" "COMPACT_STRINGS" "Z" (.int 1) A s0 s0.heap ∧ va_Zq "jdk/internal/util/Preconditions" "SIOOBE_FORMATTER" "Ljava/util/function/BiFunction;" A s0 s0.heap
def tysOf (ca : Nat → ClassId) : List (ClassId × FieldType) := [(ca 0, .int), (ca 1, .byte), (ca 2, .array .int), (ca 3, .object "NeighbourSoup$Liking")]
def tyk : Nat → FieldType := fun k => match k with
  | 0 => .int
  | 1 => .byte
  | 2 => .array .int
  | _ => .object "NeighbourSoup$Liking"
theorem tys_at (ca : Nat → ClassId) : ∀ k, k < 4 → (tysOf ca)[k]? = some (ca k, tyk k)
  | 0, _ => rfl
  | 1, _ => rfl
  | 2, _ => rfl
  | 3, _ => rfl
  | k + 4, h => absurd h (by omega)
def GG (s0 : State) (args0 : Array Value) (D : va_G) (ca : Nat → ClassId) (a : Nat → Nat) (A : Nat → Prop) : Prop :=
  (∀ w ∈ lw_tbl, w.before args0 s0 = true) ∧ va_K D vwCl (tysOf ca) s0 ∧ (∀ q, A q → s0.heap.size ≤ q) ∧ RSx s0 a A
def Wd (D : va_G) (ca : Nat → ClassId) (tp : List ODt) (a : Nat → Nat) (A : Nat → Prop) (S : St) (H : Heap) : Prop := va_P D vwCl (cellsOf ca a tp S) H ∧ va_D A (cellsOf ca a tp S)
def Pre (s0 : State) (D : va_G) (ca : Nat → ClassId) (tp : List ODt) (a : Nat → Nat) (A : Nat → Prop) (S : St) (U : State) : Prop := s0.WarmedH U.vm ∧ (∀ q, q < s0.heap.size → U.heap[q]? = s0.heap[q]?) ∧ s0.heap.size ≤ U.heap.size ∧ Wd D ca tp a A S U.heap
def rmd (d : Nat) : Room := { frames := d, cells := 0, slots := 0, locals := 64 * d }
/-- a method's context: the machine, its code, its class, and the start s0 that all words are of -/
def Cx (p : Program) (s : State) (m : MethodId) (c : Code) (cc : ByteArray) (nL : Nat) (own : String) (s0 : State) (args0 : Array Value) (D : va_G) (ca : Nat → ClassId) (a : Nat → Nat) (A : Nat → Prop) : Prop :=
  p.tables.exec = Jvm.exec ∧ c.code = cc ∧ c.maxLocals = nL ∧ s.vm.findClass own = some m.cls ∧ s0.WarmedH s.vm ∧ GG s0 args0 D ca a A ∧ (∀ q, q < s0.heap.size → s.heap[q]? = s0.heap[q]?) ∧ s0.heap.size ≤ s.heap.size
/-- from here (pc, locals, stack, state) the machine comes to what Q says of the mirror's answer -/
def VV {ρ : Type} (p : Program) (l : Launch) (e : Env) (R : Room) (s : State) (m : MethodId) (args : Array Value) (below : List Frame) (meth : Method) (c : Code) (D : va_G) (ca : Nat → ClassId) (tp : List ODt) (a : Nat → Nat) (A : Nat → Prop) (nL : Nat) (Q : ρ → State → Prop) (S : St) (ls : List (Nat × Value)) (pc : Nat) (st : List Value) (M : Option ρ) : Prop :=
  ∀ z, M = some z → ∀ (H : Heap) (locs : List Loc) (lsA : Array Slot), Wd D ca tp a A S H → va_S A s.heap H locs → lv_has lsA nL ls → W p l e R s m args below meth c H locs 0 0 (Q z) (F0 m pc lsA st)
/-- a word of the start, at any state of the run -/
theorem Cx.word {p : Program} {s : State} {m : MethodId} {c : Code} {cc : ByteArray} {nL : Nat} {own : String} {s0 : State} {args0 : Array Value} {D : va_G} {ca : Nat → ClassId} {a : Nat → Nat} {A : Nat → Prop} (h : Cx p s m c cc nL own s0 args0 D ca a A) {w : Cond} (hw : w ∈ lw_tbl) (hg : goodWord w = true) (args : Array Value) : w.before args s = true :=
  word_at h.2.2.2.2.1 (good_of_word hg) (h.2.2.2.2.2.1.1 w hw)
theorem Cx.K {p : Program} {s : State} {m : MethodId} {c : Code} {cc : ByteArray} {nL : Nat} {own : String} {s0 : State} {args0 : Array Value} {D : va_G} {ca : Nat → ClassId} {a : Nat → Nat} {A : Nat → Prop} (h : Cx p s m c cc nL own s0 args0 D ca a A) : va_K D vwCl (tysOf ca) s := va_K.moved h.2.2.2.2.1.alike h.2.2.2.2.2.1.2.1
theorem Cx.off {p : Program} {s : State} {m : MethodId} {c : Code} {cc : ByteArray} {nL : Nat} {own : String} {s0 : State} {args0 : Array Value} {D : va_G} {ca : Nat → ClassId} {a : Nat → Nat} {A : Nat → Prop} (h : Cx p s m c cc nL own s0 args0 D ca a A) : ∀ q, q < s0.heap.size → ¬ A q := fun q hq hA => Nat.lt_irrefl _ (Nat.lt_of_lt_of_le hq (h.2.2.2.2.2.1.2.2.1 q hA))

section CORE
variable {p : Program} {l : Launch} {e : Env} {R : Room} {s : State} {m : MethodId} {args : Array Value} {below : List Frame} {meth : Method} {c : Code}
variable {D : va_G} {ca : Nat → ClassId} {tp : List ODt} {a : Nat → Nat} {A : Nat → Prop} {nL : Nat} {ρ : Type} {Q : ρ → State → Prop} {S : St} {ls : List (Nat × Value)} {pc : Nat} {st : List Value} {M : Option ρ} {s0 : State} {args0 : Array Value} {cc : ByteArray} {own : String}
theorem V_iconst (h : Cx p s m c cc nL own s0 args0 D ca a A) {n : Int} {v : Int32} (hd : decode cc pc = .ok (.iconst n, 1)) (hv : Int32.ofInt n = v) (k : VV p l e R s m args below meth c D ca tp a A nL Q S ls (pc + 1) (.int v :: st) M) : VV p l e R s m args below meth c D ca tp a A nL Q S ls pc st M := fun z hz H locs lsA hw hs hl => lv_iconst h.1 h.2.1 hd hv (k z hz H locs lsA hw hs hl)
theorem V_bipush (h : Cx p s m c cc nL own s0 args0 D ca a A) {n : Int} {v : Int32} (hd : decode cc pc = .ok (.bipush n, 2)) (hv : (Int8.ofInt n).toInt32 = v) (k : VV p l e R s m args below meth c D ca tp a A nL Q S ls (pc + 2) (.int v :: st) M) : VV p l e R s m args below meth c D ca tp a A nL Q S ls pc st M := fun z hz H locs lsA hw hs hl => lv_bipush h.1 h.2.1 hd hv (k z hz H locs lsA hw hs hl)
theorem V_sipush (h : Cx p s m c cc nL own s0 args0 D ca a A) {n : Int} {v : Int32} (hd : decode cc pc = .ok (.sipush n, 3)) (hv : (Int16.ofInt n).toInt32 = v) (k : VV p l e R s m args below meth c D ca tp a A nL Q S ls (pc + 3) (.int v :: st) M) : VV p l e R s m args below meth c D ca tp a A nL Q S ls pc st M := fun z hz H locs lsA hw hs hl => lv_sipush h.1 h.2.1 hd hv (k z hz H locs lsA hw hs hl)
theorem V_lconst (h : Cx p s m c cc nL own s0 args0 D ca a A) {n : Fin 2} {v : Int64} (hd : decode cc pc = .ok (.lconst n, 1)) (hv : Int64.ofNat (n : Nat) = v) (k : VV p l e R s m args below meth c D ca tp a A nL Q S ls (pc + 1) (.long v :: st) M) : VV p l e R s m args below meth c D ca tp a A nL Q S ls pc st M := fun z hz H locs lsA hw hs hl => lv_lconst h.1 h.2.1 hd hv (k z hz H locs lsA hw hs hl)
theorem V_ldc (h : Cx p s m c cc nL own s0 args0 D ca a A) {i : Nat} {v : Int32} (hd : decode cc pc = .ok (.ldc i, 2)) (hw0 : Cond.constant own i v ∈ lw_tbl) (k : VV p l e R s m args below meth c D ca tp a A nL Q S ls (pc + 2) (.int v :: st) M) : VV p l e R s m args below meth c D ca tp a A nL Q S ls pc st M := fun z hz H locs lsA hw hs hl => lv_ldc h.1 h.2.1 h.2.2.2.1 (h.word hw0 rfl args) hd (k z hz H locs lsA hw hs hl)
theorem V_ldcw (h : Cx p s m c cc nL own s0 args0 D ca a A) {i : Nat} {v : Int32} (hd : decode cc pc = .ok (.ldc_w i, 3)) (hw0 : Cond.constant own i v ∈ lw_tbl) (k : VV p l e R s m args below meth c D ca tp a A nL Q S ls (pc + 3) (.int v :: st) M) : VV p l e R s m args below meth c D ca tp a A nL Q S ls pc st M := fun z hz H locs lsA hw hs hl => lv_ldcw h.1 h.2.1 h.2.2.2.1 (h.word hw0 rfl args) hd (k z hz H locs lsA hw hs hl)
theorem V_ldc2 (h : Cx p s m c cc nL own s0 args0 D ca a A) {i : Nat} {v : Int64} (hd : decode cc pc = .ok (.ldc2_w i, 3)) (hw0 : Cond.constantLong own i v ∈ lw_tbl) (k : VV p l e R s m args below meth c D ca tp a A nL Q S ls (pc + 3) (.long v :: st) M) : VV p l e R s m args below meth c D ca tp a A nL Q S ls pc st M := fun z hz H locs lsA hw hs hl => lv_ldc2 h.1 h.2.1 h.2.2.2.1 (h.word hw0 rfl args) hd (k z hz H locs lsA hw hs hl)
theorem V_iload_n (h : Cx p s m c cc nL own s0 args0 D ca a A) {i : Fin 4} (k0 : Nat) {j : Nat} {x : Int32} (hd : decode cc pc = .ok (.iload_n i, 1)) (hj : (i : Nat) = j) (hk : ls[k0]? = some (j, .int x)) (k : VV p l e R s m args below meth c D ca tp a A nL Q S ls (pc + 1) (.int x :: st) M) : VV p l e R s m args below meth c D ca tp a A nL Q S ls pc st M := fun z hz H locs lsA hw hs hl => lv_iload_n h.1 h.2.1 hd hj (lv_at hl k0 hk) (k z hz H locs lsA hw hs hl)
theorem V_iload (h : Cx p s m c cc nL own s0 args0 D ca a A) (k0 : Nat) {j : Nat} {x : Int32} (hd : decode cc pc = .ok (.iload j, 2)) (hk : ls[k0]? = some (j, .int x)) (k : VV p l e R s m args below meth c D ca tp a A nL Q S ls (pc + 2) (.int x :: st) M) : VV p l e R s m args below meth c D ca tp a A nL Q S ls pc st M := fun z hz H locs lsA hw hs hl => lv_iload h.1 h.2.1 hd (lv_at hl k0 hk) (k z hz H locs lsA hw hs hl)
theorem V_lload_n (h : Cx p s m c cc nL own s0 args0 D ca a A) {i : Fin 4} (k0 : Nat) {j : Nat} {x : Int64} (hd : decode cc pc = .ok (.lload_n i, 1)) (hj : (i : Nat) = j) (hk : ls[k0]? = some (j, .long x)) (k : VV p l e R s m args below meth c D ca tp a A nL Q S ls (pc + 1) (.long x :: st) M) : VV p l e R s m args below meth c D ca tp a A nL Q S ls pc st M := fun z hz H locs lsA hw hs hl => lv_lload_n h.1 h.2.1 hd hj (lv_at hl k0 hk) (k z hz H locs lsA hw hs hl)
theorem V_lload (h : Cx p s m c cc nL own s0 args0 D ca a A) (k0 : Nat) {j : Nat} {x : Int64} (hd : decode cc pc = .ok (.lload j, 2)) (hk : ls[k0]? = some (j, .long x)) (k : VV p l e R s m args below meth c D ca tp a A nL Q S ls (pc + 2) (.long x :: st) M) : VV p l e R s m args below meth c D ca tp a A nL Q S ls pc st M := fun z hz H locs lsA hw hs hl => lv_lload h.1 h.2.1 hd (lv_at hl k0 hk) (k z hz H locs lsA hw hs hl)
theorem V_aload_n (h : Cx p s m c cc nL own s0 args0 D ca a A) {i : Fin 4} (k0 : Nat) {j : Nat} {x : Nat} (hd : decode cc pc = .ok (.aload_n i, 1)) (hj : (i : Nat) = j) (hk : ls[k0]? = some (j, .ref x)) (k : VV p l e R s m args below meth c D ca tp a A nL Q S ls (pc + 1) (.ref x :: st) M) : VV p l e R s m args below meth c D ca tp a A nL Q S ls pc st M := fun z hz H locs lsA hw hs hl => lv_aload_n h.1 h.2.1 hd hj (lv_at hl k0 hk) (k z hz H locs lsA hw hs hl)
theorem V_aload (h : Cx p s m c cc nL own s0 args0 D ca a A) (k0 : Nat) {j : Nat} {x : Nat} (hd : decode cc pc = .ok (.aload j, 2)) (hk : ls[k0]? = some (j, .ref x)) (k : VV p l e R s m args below meth c D ca tp a A nL Q S ls (pc + 2) (.ref x :: st) M) : VV p l e R s m args below meth c D ca tp a A nL Q S ls pc st M := fun z hz H locs lsA hw hs hl => lv_aload h.1 h.2.1 hd (lv_at hl k0 hk) (k z hz H locs lsA hw hs hl)
theorem V_istore_n (h : Cx p s m c cc nL own s0 args0 D ca a A) {j : Fin 4} {i : Nat} {x : Int32} (ls' : List (Nat × Value)) (hd : decode cc pc = .ok (.istore_n j, 1)) (hj : (j : Nat) = i) (hn : i < nL) (hl' : (i, Value.int x) :: ls.filter (fun q => !(q.1 == i) && !(q.1 + 1 == i && q.2.category == 2)) = ls') (k : VV p l e R s m args below meth c D ca tp a A nL Q S ls' (pc + 1) st M) : VV p l e R s m args below meth c D ca tp a A nL Q S ls pc (.int x :: st) M := fun z hz H locs lsA hw hs hl => lv_istore_n h.1 h.2.1 hd hj hl hn hl' (fun ls2 hl2 => k z hz H locs ls2 hw hs hl2)
theorem V_istore (h : Cx p s m c cc nL own s0 args0 D ca a A) {i : Nat} {x : Int32} (ls' : List (Nat × Value)) (hd : decode cc pc = .ok (.istore i, 2)) (hn : i < nL) (hl' : (i, Value.int x) :: ls.filter (fun q => !(q.1 == i) && !(q.1 + 1 == i && q.2.category == 2)) = ls') (k : VV p l e R s m args below meth c D ca tp a A nL Q S ls' (pc + 2) st M) : VV p l e R s m args below meth c D ca tp a A nL Q S ls pc (.int x :: st) M := fun z hz H locs lsA hw hs hl => lv_istore h.1 h.2.1 hd hl hn hl' (fun ls2 hl2 => k z hz H locs ls2 hw hs hl2)
theorem V_lstore_n (h : Cx p s m c cc nL own s0 args0 D ca a A) {j : Fin 4} {i : Nat} {x : Int64} (ls' : List (Nat × Value)) (hd : decode cc pc = .ok (.lstore_n j, 1)) (hj : (j : Nat) = i) (hn : i + 1 < nL) (hl' : (i, Value.long x) :: ls.filter (fun q => !(q.1 == i) && (!(q.1 == i + 1) && !(q.1 + 1 == i && q.2.category == 2))) = ls') (k : VV p l e R s m args below meth c D ca tp a A nL Q S ls' (pc + 1) st M) : VV p l e R s m args below meth c D ca tp a A nL Q S ls pc (.long x :: st) M := fun z hz H locs lsA hw hs hl => lv_lstore_n h.1 h.2.1 hd hj hl hn hl' (fun ls2 hl2 => k z hz H locs ls2 hw hs hl2)
theorem V_lstore (h : Cx p s m c cc nL own s0 args0 D ca a A) {i : Nat} {x : Int64} (ls' : List (Nat × Value)) (hd : decode cc pc = .ok (.lstore i, 2)) (hn : i + 1 < nL) (hl' : (i, Value.long x) :: ls.filter (fun q => !(q.1 == i) && (!(q.1 == i + 1) && !(q.1 + 1 == i && q.2.category == 2))) = ls') (k : VV p l e R s m args below meth c D ca tp a A nL Q S ls' (pc + 2) st M) : VV p l e R s m args below meth c D ca tp a A nL Q S ls pc (.long x :: st) M := fun z hz H locs lsA hw hs hl => lv_lstore h.1 h.2.1 hd hl hn hl' (fun ls2 hl2 => k z hz H locs ls2 hw hs hl2)
theorem V_astore_n (h : Cx p s m c cc nL own s0 args0 D ca a A) {j : Fin 4} {i : Nat} {x : Nat} (ls' : List (Nat × Value)) (hd : decode cc pc = .ok (.astore_n j, 1)) (hj : (j : Nat) = i) (hn : i < nL) (hl' : (i, Value.ref x) :: ls.filter (fun q => !(q.1 == i) && !(q.1 + 1 == i && q.2.category == 2)) = ls') (k : VV p l e R s m args below meth c D ca tp a A nL Q S ls' (pc + 1) st M) : VV p l e R s m args below meth c D ca tp a A nL Q S ls pc (.ref x :: st) M := fun z hz H locs lsA hw hs hl => lv_astore_n h.1 h.2.1 hd hj hl hn hl' (fun ls2 hl2 => k z hz H locs ls2 hw hs hl2)
theorem V_astore (h : Cx p s m c cc nL own s0 args0 D ca a A) {i : Nat} {x : Nat} (ls' : List (Nat × Value)) (hd : decode cc pc = .ok (.astore i, 2)) (hn : i < nL) (hl' : (i, Value.ref x) :: ls.filter (fun q => !(q.1 == i) && !(q.1 + 1 == i && q.2.category == 2)) = ls') (k : VV p l e R s m args below meth c D ca tp a A nL Q S ls' (pc + 2) st M) : VV p l e R s m args below meth c D ca tp a A nL Q S ls pc (.ref x :: st) M := fun z hz H locs lsA hw hs hl => lv_astore h.1 h.2.1 hd hl hn hl' (fun ls2 hl2 => k z hz H locs ls2 hw hs hl2)
theorem V_iinc (h : Cx p s m c cc nL own s0 args0 D ca a A) {i : Nat} {n : Int} {x v : Int32} (k0 : Nat) (ls' : List (Nat × Value)) (hd : decode cc pc = .ok (.iinc i n, 3)) (hk : ls[k0]? = some (i, .int x)) (hv : x + Int32.ofInt n = v) (hn : i < nL) (hl' : (i, Value.int v) :: ls.filter (fun q => !(q.1 == i) && !(q.1 + 1 == i && q.2.category == 2)) = ls') (k : VV p l e R s m args below meth c D ca tp a A nL Q S ls' (pc + 3) st M) : VV p l e R s m args below meth c D ca tp a A nL Q S ls pc st M := fun z hz H locs lsA hw hs hl => lv_iinc h.1 h.2.1 hd hl hk hv hn hl' (fun ls2 hl2 => k z hz H locs ls2 hw hs hl2)
theorem V_nm {α : Type} (x : α) {f : α → Option ρ} (ls2 : α → List (Nat × Value)) (st2 : α → List Value) (k : ∀ y : α, VV p l e R s m args below meth c D ca tp a A nL Q S (ls2 y) pc (st2 y) (f y)) : VV p l e R s m args below meth c D ca tp a A nL Q S (ls2 x) pc (st2 x) (bnd x f) := k x
theorem V_top {x : Int32} {f : Int32 → Option ρ} (k : ∀ y : Int32, VV p l e R s m args below meth c D ca tp a A nL Q S ls pc (.int y :: st) (f y)) : VV p l e R s m args below meth c D ca tp a A nL Q S ls pc (.int x :: st) (bnd x f) := k x
theorem V_topl {x : Int64} {f : Int64 → Option ρ} (k : ∀ y : Int64, VV p l e R s m args below meth c D ca tp a A nL Q S ls pc (.long y :: st) (f y)) : VV p l e R s m args below meth c D ca tp a A nL Q S ls pc (.long x :: st) (bnd x f) := k x
theorem V_ls (ks : List Nat) {ls' : List (Nat × Value)} (hl' : lv_pick ls ks = ls') (k : VV p l e R s m args below meth c D ca tp a A nL Q S ls' pc st M) : VV p l e R s m args below meth c D ca tp a A nL Q S ls pc st M := fun z hz H locs lsA hw hs hl => k z hz H locs lsA hw hs (lv_sub hl ks hl')
theorem V_iadd (h : Cx p s m c cc nL own s0 args0 D ca a A) {x y : Int32} (hd : decode cc pc = .ok (.iadd, 1))  (k : VV p l e R s m args below meth c D ca tp a A nL Q S ls (pc + 1) (.int (x + y) :: st) M) : VV p l e R s m args below meth c D ca tp a A nL Q S ls pc (.int y :: .int x :: st) M := fun z hz H locs lsA hw hs hl => lv_iadd h.1 h.2.1 hd  (k z hz H locs lsA hw hs hl)
theorem V_isub (h : Cx p s m c cc nL own s0 args0 D ca a A) {x y : Int32} (hd : decode cc pc = .ok (.isub, 1))  (k : VV p l e R s m args below meth c D ca tp a A nL Q S ls (pc + 1) (.int (x - y) :: st) M) : VV p l e R s m args below meth c D ca tp a A nL Q S ls pc (.int y :: .int x :: st) M := fun z hz H locs lsA hw hs hl => lv_isub h.1 h.2.1 hd  (k z hz H locs lsA hw hs hl)
theorem V_imul (h : Cx p s m c cc nL own s0 args0 D ca a A) {x y : Int32} (hd : decode cc pc = .ok (.imul, 1))  (k : VV p l e R s m args below meth c D ca tp a A nL Q S ls (pc + 1) (.int (x * y) :: st) M) : VV p l e R s m args below meth c D ca tp a A nL Q S ls pc (.int y :: .int x :: st) M := fun z hz H locs lsA hw hs hl => lv_imul h.1 h.2.1 hd  (k z hz H locs lsA hw hs hl)
theorem V_iand (h : Cx p s m c cc nL own s0 args0 D ca a A) {x y : Int32} (hd : decode cc pc = .ok (.iand, 1))  (k : VV p l e R s m args below meth c D ca tp a A nL Q S ls (pc + 1) (.int (x &&& y) :: st) M) : VV p l e R s m args below meth c D ca tp a A nL Q S ls pc (.int y :: .int x :: st) M := fun z hz H locs lsA hw hs hl => lv_iand h.1 h.2.1 hd  (k z hz H locs lsA hw hs hl)
theorem V_ior (h : Cx p s m c cc nL own s0 args0 D ca a A) {x y : Int32} (hd : decode cc pc = .ok (.ior, 1))  (k : VV p l e R s m args below meth c D ca tp a A nL Q S ls (pc + 1) (.int (x ||| y) :: st) M) : VV p l e R s m args below meth c D ca tp a A nL Q S ls pc (.int y :: .int x :: st) M := fun z hz H locs lsA hw hs hl => lv_ior h.1 h.2.1 hd  (k z hz H locs lsA hw hs hl)
theorem V_ixor (h : Cx p s m c cc nL own s0 args0 D ca a A) {x y : Int32} (hd : decode cc pc = .ok (.ixor, 1))  (k : VV p l e R s m args below meth c D ca tp a A nL Q S ls (pc + 1) (.int (x ^^^ y) :: st) M) : VV p l e R s m args below meth c D ca tp a A nL Q S ls pc (.int y :: .int x :: st) M := fun z hz H locs lsA hw hs hl => lv_ixor h.1 h.2.1 hd  (k z hz H locs lsA hw hs hl)
theorem V_ishl (h : Cx p s m c cc nL own s0 args0 D ca a A) {x y : Int32} (hd : decode cc pc = .ok (.ishl, 1))  (k : VV p l e R s m args below meth c D ca tp a A nL Q S ls (pc + 1) (.int (x <<< (y &&& 31)) :: st) M) : VV p l e R s m args below meth c D ca tp a A nL Q S ls pc (.int y :: .int x :: st) M := fun z hz H locs lsA hw hs hl => lv_ishl h.1 h.2.1 hd  (k z hz H locs lsA hw hs hl)
theorem V_ishr (h : Cx p s m c cc nL own s0 args0 D ca a A) {x y : Int32} (hd : decode cc pc = .ok (.ishr, 1))  (k : VV p l e R s m args below meth c D ca tp a A nL Q S ls (pc + 1) (.int (x >>> (y &&& 31)) :: st) M) : VV p l e R s m args below meth c D ca tp a A nL Q S ls pc (.int y :: .int x :: st) M := fun z hz H locs lsA hw hs hl => lv_ishr h.1 h.2.1 hd  (k z hz H locs lsA hw hs hl)
theorem V_ladd (h : Cx p s m c cc nL own s0 args0 D ca a A) {x y : Int64} (hd : decode cc pc = .ok (.ladd, 1))  (k : VV p l e R s m args below meth c D ca tp a A nL Q S ls (pc + 1) (.long (x + y) :: st) M) : VV p l e R s m args below meth c D ca tp a A nL Q S ls pc (.long y :: .long x :: st) M := fun z hz H locs lsA hw hs hl => lv_ladd h.1 h.2.1 hd  (k z hz H locs lsA hw hs hl)
theorem V_lsub (h : Cx p s m c cc nL own s0 args0 D ca a A) {x y : Int64} (hd : decode cc pc = .ok (.lsub, 1))  (k : VV p l e R s m args below meth c D ca tp a A nL Q S ls (pc + 1) (.long (x - y) :: st) M) : VV p l e R s m args below meth c D ca tp a A nL Q S ls pc (.long y :: .long x :: st) M := fun z hz H locs lsA hw hs hl => lv_lsub h.1 h.2.1 hd  (k z hz H locs lsA hw hs hl)
theorem V_lmul (h : Cx p s m c cc nL own s0 args0 D ca a A) {x y : Int64} (hd : decode cc pc = .ok (.lmul, 1))  (k : VV p l e R s m args below meth c D ca tp a A nL Q S ls (pc + 1) (.long (x * y) :: st) M) : VV p l e R s m args below meth c D ca tp a A nL Q S ls pc (.long y :: .long x :: st) M := fun z hz H locs lsA hw hs hl => lv_lmul h.1 h.2.1 hd  (k z hz H locs lsA hw hs hl)
theorem V_land (h : Cx p s m c cc nL own s0 args0 D ca a A) {x y : Int64} (hd : decode cc pc = .ok (.land, 1))  (k : VV p l e R s m args below meth c D ca tp a A nL Q S ls (pc + 1) (.long (x &&& y) :: st) M) : VV p l e R s m args below meth c D ca tp a A nL Q S ls pc (.long y :: .long x :: st) M := fun z hz H locs lsA hw hs hl => lv_land h.1 h.2.1 hd  (k z hz H locs lsA hw hs hl)
theorem V_lor (h : Cx p s m c cc nL own s0 args0 D ca a A) {x y : Int64} (hd : decode cc pc = .ok (.lor, 1))  (k : VV p l e R s m args below meth c D ca tp a A nL Q S ls (pc + 1) (.long (x ||| y) :: st) M) : VV p l e R s m args below meth c D ca tp a A nL Q S ls pc (.long y :: .long x :: st) M := fun z hz H locs lsA hw hs hl => lv_lor h.1 h.2.1 hd  (k z hz H locs lsA hw hs hl)
theorem V_ineg (h : Cx p s m c cc nL own s0 args0 D ca a A) {x : Int32} (hd : decode cc pc = .ok (.ineg, 1))  (k : VV p l e R s m args below meth c D ca tp a A nL Q S ls (pc + 1) (.int (-x) :: st) M) : VV p l e R s m args below meth c D ca tp a A nL Q S ls pc (.int x :: st) M := fun z hz H locs lsA hw hs hl => lv_ineg h.1 h.2.1 hd  (k z hz H locs lsA hw hs hl)
theorem V_iushr (h : Cx p s m c cc nL own s0 args0 D ca a A) {x y : Int32} (hd : decode cc pc = .ok (.iushr, 1))  (k : VV p l e R s m args below meth c D ca tp a A nL Q S ls (pc + 1) (.int ((x.toUInt32 >>> (y.toUInt32 &&& Int32.toUInt32 31)).toInt32) :: st) M) : VV p l e R s m args below meth c D ca tp a A nL Q S ls pc (.int y :: .int x :: st) M := fun z hz H locs lsA hw hs hl => lv_iushr h.1 h.2.1 hd rfl (k z hz H locs lsA hw hs hl)
theorem V_lushr (h : Cx p s m c cc nL own s0 args0 D ca a A) {x : Int64} {y : Int32} (hd : decode cc pc = .ok (.lushr, 1))  (k : VV p l e R s m args below meth c D ca tp a A nL Q S ls (pc + 1) (.long ((x.toUInt64 >>> (y.toInt64.toUInt64 &&& Int64.toUInt64 63)).toInt64) :: st) M) : VV p l e R s m args below meth c D ca tp a A nL Q S ls pc (.int y :: .long x :: st) M := fun z hz H locs lsA hw hs hl => lv_lushr h.1 h.2.1 hd rfl (k z hz H locs lsA hw hs hl)
theorem V_i2l (h : Cx p s m c cc nL own s0 args0 D ca a A) {x : Int32} (hd : decode cc pc = .ok (.i2l, 1))  (k : VV p l e R s m args below meth c D ca tp a A nL Q S ls (pc + 1) (.long x.toInt64 :: st) M) : VV p l e R s m args below meth c D ca tp a A nL Q S ls pc (.int x :: st) M := fun z hz H locs lsA hw hs hl => lv_i2l h.1 h.2.1 hd rfl (k z hz H locs lsA hw hs hl)
theorem V_l2i (h : Cx p s m c cc nL own s0 args0 D ca a A) {x : Int64} (hd : decode cc pc = .ok (.l2i, 1))  (k : VV p l e R s m args below meth c D ca tp a A nL Q S ls (pc + 1) (.int x.toInt32 :: st) M) : VV p l e R s m args below meth c D ca tp a A nL Q S ls pc (.long x :: st) M := fun z hz H locs lsA hw hs hl => lv_l2i h.1 h.2.1 hd rfl (k z hz H locs lsA hw hs hl)
theorem V_i2b (h : Cx p s m c cc nL own s0 args0 D ca a A) {x : Int32} (hd : decode cc pc = .ok (.i2b, 1))  (k : VV p l e R s m args below meth c D ca tp a A nL Q S ls (pc + 1) (.int x.toInt8.toInt32 :: st) M) : VV p l e R s m args below meth c D ca tp a A nL Q S ls pc (.int x :: st) M := fun z hz H locs lsA hw hs hl => lv_i2b h.1 h.2.1 hd rfl (k z hz H locs lsA hw hs hl)
theorem V_i2c (h : Cx p s m c cc nL own s0 args0 D ca a A) {x : Int32} (hd : decode cc pc = .ok (.i2c, 1))  (k : VV p l e R s m args below meth c D ca tp a A nL Q S ls (pc + 1) (.int (x.toUInt32 % 65536).toInt32 :: st) M) : VV p l e R s m args below meth c D ca tp a A nL Q S ls pc (.int x :: st) M := fun z hz H locs lsA hw hs hl => lv_i2c h.1 h.2.1 hd rfl (k z hz H locs lsA hw hs hl)
theorem V_idiv (h : Cx p s m c cc nL own s0 args0 D ca a A) {x y : Int32} (hd : decode cc pc = .ok (.idiv, 1)) (k : VV p l e R s m args below meth c D ca tp a A nL Q S ls (pc + 1) (.int (x / y) :: st) M) : VV p l e R s m args below meth c D ca tp a A nL Q S ls pc (.int y :: .int x :: st) (dvM y M) := fun z hz H locs lsA hw hs hl => by
  unfold dvM at hz
  by_cases hy : y = 0
  · rw [if_pos hy] at hz; cases hz
  · rw [if_neg hy] at hz; exact lv_idiv h.1 h.2.1 hd hy (k z hz H locs lsA hw hs hl)
theorem V_irem (h : Cx p s m c cc nL own s0 args0 D ca a A) {x y : Int32} (hd : decode cc pc = .ok (.irem, 1)) (k : VV p l e R s m args below meth c D ca tp a A nL Q S ls (pc + 1) (.int (x - x / y * y) :: st) M) : VV p l e R s m args below meth c D ca tp a A nL Q S ls pc (.int y :: .int x :: st) (dvM y M) := fun z hz H locs lsA hw hs hl => by
  unfold dvM at hz
  by_cases hy : y = 0
  · rw [if_pos hy] at hz; cases hz
  · rw [if_neg hy] at hz; exact lv_irem h.1 h.2.1 hd hy (k z hz H locs lsA hw hs hl)
theorem V_ldiv (h : Cx p s m c cc nL own s0 args0 D ca a A) {x y : Int64} (hd : decode cc pc = .ok (.ldiv, 1)) (k : VV p l e R s m args below meth c D ca tp a A nL Q S ls (pc + 1) (.long (x / y) :: st) M) : VV p l e R s m args below meth c D ca tp a A nL Q S ls pc (.long y :: .long x :: st) (dvL y M) := fun z hz H locs lsA hw hs hl => by
  unfold dvL at hz
  by_cases hy : y = 0
  · rw [if_pos hy] at hz; cases hz
  · rw [if_neg hy] at hz; exact lv_ldiv h.1 h.2.1 hd hy (k z hz H locs lsA hw hs hl)
theorem V_lrem (h : Cx p s m c cc nL own s0 args0 D ca a A) {x y : Int64} (hd : decode cc pc = .ok (.lrem, 1)) (k : VV p l e R s m args below meth c D ca tp a A nL Q S ls (pc + 1) (.long (x - x / y * y) :: st) M) : VV p l e R s m args below meth c D ca tp a A nL Q S ls pc (.long y :: .long x :: st) (dvL y M) := fun z hz H locs lsA hw hs hl => by
  unfold dvL at hz
  by_cases hy : y = 0
  · rw [if_pos hy] at hz; cases hz
  · rw [if_neg hy] at hz; exact lv_lrem h.1 h.2.1 hd hy (k z hz H locs lsA hw hs hl)
theorem V_dup (h : Cx p s m c cc nL own s0 args0 D ca a A) {va : Value} (hd : decode cc pc = .ok (.dup, 1)) (h1 : va.category = 1) (k : VV p l e R s m args below meth c D ca tp a A nL Q S ls (pc + 1) (va :: va :: st) M) : VV p l e R s m args below meth c D ca tp a A nL Q S ls pc (va :: st) M := fun z hz H locs lsA hw hs hl => lv_dup h.1 h.2.1 hd h1 (k z hz H locs lsA hw hs hl)
theorem V_pop (h : Cx p s m c cc nL own s0 args0 D ca a A) {va : Value} (hd : decode cc pc = .ok (.pop, 1)) (h1 : va.category = 1) (k : VV p l e R s m args below meth c D ca tp a A nL Q S ls (pc + 1) st M) : VV p l e R s m args below meth c D ca tp a A nL Q S ls pc (va :: st) M := fun z hz H locs lsA hw hs hl => lv_pop h.1 h.2.1 hd h1 (k z hz H locs lsA hw hs hl)
theorem V_dup_x1 (h : Cx p s m c cc nL own s0 args0 D ca a A) {va vb : Value} (hd : decode cc pc = .ok (.dup_x1, 1)) (h1 : va.category = 1) (h2 : vb.category = 1) (k : VV p l e R s m args below meth c D ca tp a A nL Q S ls (pc + 1) (va :: vb :: va :: st) M) : VV p l e R s m args below meth c D ca tp a A nL Q S ls pc (va :: vb :: st) M := fun z hz H locs lsA hw hs hl => lv_dup_x1 h.1 h.2.1 hd h1 h2 (k z hz H locs lsA hw hs hl)
theorem V_dup2_11 (h : Cx p s m c cc nL own s0 args0 D ca a A) {va vb : Value} (hd : decode cc pc = .ok (.dup2, 1)) (h1 : va.category = 1) (h2 : vb.category = 1) (k : VV p l e R s m args below meth c D ca tp a A nL Q S ls (pc + 1) (va :: vb :: va :: vb :: st) M) : VV p l e R s m args below meth c D ca tp a A nL Q S ls pc (va :: vb :: st) M := fun z hz H locs lsA hw hs hl => lv_dup2_11 h.1 h.2.1 hd h1 h2 (k z hz H locs lsA hw hs hl)
theorem V_null (h : Cx p s m c cc nL own s0 args0 D ca a A)  (hd : decode cc pc = .ok (.aconst_null, 1))  (k : VV p l e R s m args below meth c D ca tp a A nL Q S ls (pc + 1) (.null :: st) M) : VV p l e R s m args below meth c D ca tp a A nL Q S ls pc st M := fun z hz H locs lsA hw hs hl => lv_null h.1 h.2.1 hd  (k z hz H locs lsA hw hs hl)
theorem V_if_eq (h : Cx p s m c cc nL own s0 args0 D ca a A) {x : Int32} {off : Int} (tgt : Nat) {M1 M2 : Option ρ} (hd : decode cc pc = .ok (.ifCond .eq off, 3)) (ht : (pc : Int) + off = (tgt : Int)) (kt : VV p l e R s m args below meth c D ca tp a A nL Q S ls tgt st M1) (kf : VV p l e R s m args below meth c D ca tp a A nL Q S ls (pc + 3) st M2) : VV p l e R s m args below meth c D ca tp a A nL Q S ls pc (.int x :: st) (if x = 0 then M1 else M2) := fun z hz H locs lsA hw hs hl => lv_if_eq h.1 h.2.1 hd ht (fun c9 => kt z (by rw [if_pos c9] at hz; exact hz) H locs lsA hw hs hl) (fun c9 => kf z (by rw [if_neg c9] at hz; exact hz) H locs lsA hw hs hl)
theorem V_if_lt (h : Cx p s m c cc nL own s0 args0 D ca a A) {x : Int32} {off : Int} (tgt : Nat) {M1 M2 : Option ρ} (hd : decode cc pc = .ok (.ifCond .lt off, 3)) (ht : (pc : Int) + off = (tgt : Int)) (kt : VV p l e R s m args below meth c D ca tp a A nL Q S ls tgt st M1) (kf : VV p l e R s m args below meth c D ca tp a A nL Q S ls (pc + 3) st M2) : VV p l e R s m args below meth c D ca tp a A nL Q S ls pc (.int x :: st) (if x < 0 then M1 else M2) := fun z hz H locs lsA hw hs hl => lv_if_lt h.1 h.2.1 hd ht (fun c9 => kt z (by rw [if_pos c9] at hz; exact hz) H locs lsA hw hs hl) (fun c9 => kf z (by rw [if_neg c9] at hz; exact hz) H locs lsA hw hs hl)
theorem V_if_ge (h : Cx p s m c cc nL own s0 args0 D ca a A) {x : Int32} {off : Int} (tgt : Nat) {M1 M2 : Option ρ} (hd : decode cc pc = .ok (.ifCond .ge off, 3)) (ht : (pc : Int) + off = (tgt : Int)) (kt : VV p l e R s m args below meth c D ca tp a A nL Q S ls tgt st M1) (kf : VV p l e R s m args below meth c D ca tp a A nL Q S ls (pc + 3) st M2) : VV p l e R s m args below meth c D ca tp a A nL Q S ls pc (.int x :: st) (if 0 ≤ x then M1 else M2) := fun z hz H locs lsA hw hs hl => lv_if_ge h.1 h.2.1 hd ht (fun c9 => kt z (by rw [if_pos c9] at hz; exact hz) H locs lsA hw hs hl) (fun c9 => kf z (by rw [if_neg c9] at hz; exact hz) H locs lsA hw hs hl)
theorem V_if_gt (h : Cx p s m c cc nL own s0 args0 D ca a A) {x : Int32} {off : Int} (tgt : Nat) {M1 M2 : Option ρ} (hd : decode cc pc = .ok (.ifCond .gt off, 3)) (ht : (pc : Int) + off = (tgt : Int)) (kt : VV p l e R s m args below meth c D ca tp a A nL Q S ls tgt st M1) (kf : VV p l e R s m args below meth c D ca tp a A nL Q S ls (pc + 3) st M2) : VV p l e R s m args below meth c D ca tp a A nL Q S ls pc (.int x :: st) (if 0 < x then M1 else M2) := fun z hz H locs lsA hw hs hl => lv_if_gt h.1 h.2.1 hd ht (fun c9 => kt z (by rw [if_pos c9] at hz; exact hz) H locs lsA hw hs hl) (fun c9 => kf z (by rw [if_neg c9] at hz; exact hz) H locs lsA hw hs hl)
theorem V_if_le (h : Cx p s m c cc nL own s0 args0 D ca a A) {x : Int32} {off : Int} (tgt : Nat) {M1 M2 : Option ρ} (hd : decode cc pc = .ok (.ifCond .le off, 3)) (ht : (pc : Int) + off = (tgt : Int)) (kt : VV p l e R s m args below meth c D ca tp a A nL Q S ls tgt st M1) (kf : VV p l e R s m args below meth c D ca tp a A nL Q S ls (pc + 3) st M2) : VV p l e R s m args below meth c D ca tp a A nL Q S ls pc (.int x :: st) (if x ≤ 0 then M1 else M2) := fun z hz H locs lsA hw hs hl => lv_if_le h.1 h.2.1 hd ht (fun c9 => kt z (by rw [if_pos c9] at hz; exact hz) H locs lsA hw hs hl) (fun c9 => kf z (by rw [if_neg c9] at hz; exact hz) H locs lsA hw hs hl)
theorem V_icmp_eq (h : Cx p s m c cc nL own s0 args0 D ca a A) {x y : Int32} {off : Int} (tgt : Nat) {M1 M2 : Option ρ} (hd : decode cc pc = .ok (.if_icmp .eq off, 3)) (ht : (pc : Int) + off = (tgt : Int)) (kt : VV p l e R s m args below meth c D ca tp a A nL Q S ls tgt st M1) (kf : VV p l e R s m args below meth c D ca tp a A nL Q S ls (pc + 3) st M2) : VV p l e R s m args below meth c D ca tp a A nL Q S ls pc (.int y :: .int x :: st) (if x = y then M1 else M2) := fun z hz H locs lsA hw hs hl => lv_icmp_eq h.1 h.2.1 hd ht (fun c9 => kt z (by rw [if_pos c9] at hz; exact hz) H locs lsA hw hs hl) (fun c9 => kf z (by rw [if_neg c9] at hz; exact hz) H locs lsA hw hs hl)
theorem V_icmp_lt (h : Cx p s m c cc nL own s0 args0 D ca a A) {x y : Int32} {off : Int} (tgt : Nat) {M1 M2 : Option ρ} (hd : decode cc pc = .ok (.if_icmp .lt off, 3)) (ht : (pc : Int) + off = (tgt : Int)) (kt : VV p l e R s m args below meth c D ca tp a A nL Q S ls tgt st M1) (kf : VV p l e R s m args below meth c D ca tp a A nL Q S ls (pc + 3) st M2) : VV p l e R s m args below meth c D ca tp a A nL Q S ls pc (.int y :: .int x :: st) (if x < y then M1 else M2) := fun z hz H locs lsA hw hs hl => lv_icmp_lt h.1 h.2.1 hd ht (fun c9 => kt z (by rw [if_pos c9] at hz; exact hz) H locs lsA hw hs hl) (fun c9 => kf z (by rw [if_neg c9] at hz; exact hz) H locs lsA hw hs hl)
theorem V_icmp_ge (h : Cx p s m c cc nL own s0 args0 D ca a A) {x y : Int32} {off : Int} (tgt : Nat) {M1 M2 : Option ρ} (hd : decode cc pc = .ok (.if_icmp .ge off, 3)) (ht : (pc : Int) + off = (tgt : Int)) (kt : VV p l e R s m args below meth c D ca tp a A nL Q S ls tgt st M1) (kf : VV p l e R s m args below meth c D ca tp a A nL Q S ls (pc + 3) st M2) : VV p l e R s m args below meth c D ca tp a A nL Q S ls pc (.int y :: .int x :: st) (if y ≤ x then M1 else M2) := fun z hz H locs lsA hw hs hl => lv_icmp_ge h.1 h.2.1 hd ht (fun c9 => kt z (by rw [if_pos c9] at hz; exact hz) H locs lsA hw hs hl) (fun c9 => kf z (by rw [if_neg c9] at hz; exact hz) H locs lsA hw hs hl)
theorem V_icmp_gt (h : Cx p s m c cc nL own s0 args0 D ca a A) {x y : Int32} {off : Int} (tgt : Nat) {M1 M2 : Option ρ} (hd : decode cc pc = .ok (.if_icmp .gt off, 3)) (ht : (pc : Int) + off = (tgt : Int)) (kt : VV p l e R s m args below meth c D ca tp a A nL Q S ls tgt st M1) (kf : VV p l e R s m args below meth c D ca tp a A nL Q S ls (pc + 3) st M2) : VV p l e R s m args below meth c D ca tp a A nL Q S ls pc (.int y :: .int x :: st) (if y < x then M1 else M2) := fun z hz H locs lsA hw hs hl => lv_icmp_gt h.1 h.2.1 hd ht (fun c9 => kt z (by rw [if_pos c9] at hz; exact hz) H locs lsA hw hs hl) (fun c9 => kf z (by rw [if_neg c9] at hz; exact hz) H locs lsA hw hs hl)
theorem V_icmp_le (h : Cx p s m c cc nL own s0 args0 D ca a A) {x y : Int32} {off : Int} (tgt : Nat) {M1 M2 : Option ρ} (hd : decode cc pc = .ok (.if_icmp .le off, 3)) (ht : (pc : Int) + off = (tgt : Int)) (kt : VV p l e R s m args below meth c D ca tp a A nL Q S ls tgt st M1) (kf : VV p l e R s m args below meth c D ca tp a A nL Q S ls (pc + 3) st M2) : VV p l e R s m args below meth c D ca tp a A nL Q S ls pc (.int y :: .int x :: st) (if x ≤ y then M1 else M2) := fun z hz H locs lsA hw hs hl => lv_icmp_le h.1 h.2.1 hd ht (fun c9 => kt z (by rw [if_pos c9] at hz; exact hz) H locs lsA hw hs hl) (fun c9 => kf z (by rw [if_neg c9] at hz; exact hz) H locs lsA hw hs hl)
theorem V_if_ne (h : Cx p s m c cc nL own s0 args0 D ca a A) {x : Int32} {off : Int} (tgt : Nat) {M1 M2 : Option ρ} (hd : decode cc pc = .ok (.ifCond .ne off, 3)) (ht : (pc : Int) + off = (tgt : Int)) (kt : VV p l e R s m args below meth c D ca tp a A nL Q S ls tgt st M1) (kf : VV p l e R s m args below meth c D ca tp a A nL Q S ls (pc + 3) st M2) : VV p l e R s m args below meth c D ca tp a A nL Q S ls pc (.int x :: st) (if x = 0 then M2 else M1) := fun z hz H locs lsA hw hs hl => lv_if_ne h.1 h.2.1 hd ht (fun c9 => kt z (by rw [if_neg c9] at hz; exact hz) H locs lsA hw hs hl) (fun c9 => kf z (by rw [if_pos c9] at hz; exact hz) H locs lsA hw hs hl)
theorem V_icmp_ne (h : Cx p s m c cc nL own s0 args0 D ca a A) {x y : Int32} {off : Int} (tgt : Nat) {M1 M2 : Option ρ} (hd : decode cc pc = .ok (.if_icmp .ne off, 3)) (ht : (pc : Int) + off = (tgt : Int)) (kt : VV p l e R s m args below meth c D ca tp a A nL Q S ls tgt st M1) (kf : VV p l e R s m args below meth c D ca tp a A nL Q S ls (pc + 3) st M2) : VV p l e R s m args below meth c D ca tp a A nL Q S ls pc (.int y :: .int x :: st) (if x = y then M2 else M1) := fun z hz H locs lsA hw hs hl => lv_icmp_ne h.1 h.2.1 hd ht (fun c9 => kt z (by rw [if_neg c9] at hz; exact hz) H locs lsA hw hs hl) (fun c9 => kf z (by rw [if_pos c9] at hz; exact hz) H locs lsA hw hs hl)
theorem V_goto (h : Cx p s m c cc nL own s0 args0 D ca a A) {off : Int} (tgt : Nat) (hd : decode cc pc = .ok (.goto off, 3)) (ht : (pc : Int) + off = (tgt : Int)) (k : VV p l e R s m args below meth c D ca tp a A nL Q S ls tgt st M) : VV p l e R s m args below meth c D ca tp a A nL Q S ls pc st M := fun z hz H locs lsA hw hs hl => lv_goto h.1 h.2.1 hd ht (k z hz H locs lsA hw hs hl)
theorem V_split {c0 : Prop} (d0 : Decidable c0) {M1 M2 : Option ρ} (kt : c0 → VV p l e R s m args below meth c D ca tp a A nL Q S ls pc st M1) (kf : ¬ c0 → VV p l e R s m args below meth c D ca tp a A nL Q S ls pc st M2) : VV p l e R s m args below meth c D ca tp a A nL Q S ls pc st (@ite _ c0 d0 M1 M2) := fun z hz H locs lsA hw hs hl => by
  by_cases c9 : c0
  · rw [if_pos c9] at hz; exact kt c9 z hz H locs lsA hw hs hl
  · rw [if_neg c9] at hz; exact kf c9 z hz H locs lsA hw hs hl
theorem V_none : VV p l e R s m args below meth c D ca tp a A nL Q S ls pc st none := fun z hz => nomatch hz
end CORE
