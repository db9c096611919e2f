abbrev QmI (D : va_G) (ca : Nat → ClassId) (tp : List ODt) (a : Nat → Nat) (A : Nat → Prop) (below : List Frame) (args : Array Value) (s : State) : Int32 × St → State → Prop := fun z => MQ below (QI D ca tp a A z) args s 0 0 A
abbrev QmV (D : va_G) (ca : Nat → ClassId) (tp : List ODt) (a : Nat → Nat) (A : Nat → Prop) (below : List Frame) (args : Array Value) (s : State) : St → State → Prop := fun z => MQ below (QV D ca tp a A z) args s 0 0 A
def imax (x y : Int32) : Int32 := if x < y then y else x
def imin (x y : Int32) : Int32 := if y < x then y else x
def lmax (x y : Int64) : Int64 := if y < x then x else y
def lmin (x y : Int64) : Int64 := if y < x then y else x
def cpM {ρ : Type} (sp dp n : Int32) (n0 n1 : Nat) (M : Option ρ) : Option ρ := if sp < 0 ∨ dp < 0 ∨ n < 0 ∨ n0 < sp.toNatClampNeg + n.toNatClampNeg ∨ n1 < dp.toNatClampNeg + n.toNatClampNeg then none else M
def cpy (f g : Nat → Int32) (sp dp n : Nat) : Nat → Int32 := va_cpy f g sp dp n
def alen (tp : List ODt) (o : Nat) : Nat := match tp[o]? with
  | some (.inr q) => q.2.1
  | _ => 0
section CORE3
variable {p : Program} {l : Launch} {e : Env} {R : Room} {s : State} {m : MethodId} {args : Array Value} {below : List Frame} {meth : Method} {c : Code}
variable {D : va_G} {ca : Nat → ClassId} {tp : List ODt} {a : Nat → Nat} {A : Nat → Prop} {nL : Nat} {ρ : Type} {Q : ρ → State → Prop} {S : St} {ls : List (Nat × Value)} {pc : Nat} {st : List Value} {M : Option ρ} {s0 : State} {args0 : Array Value} {cc : ByteArray} {own : String}
theorem V_iincB (h : Cx p s m c cc nL own s0 args0 D ca a A) {i : Nat} {n : Int} {x : Int32} (k0 : Nat) (n2 : Int32) (ls' : Int32 → List (Nat × Value)) {f : Int32 → Option ρ} (hd : decode cc pc = .ok (.iinc i n, 3)) (hk : ls[k0]? = some (i, .int x)) (hn2 : Int32.ofInt n = n2) (hn : i < nL) (hl' : ∀ y : Int32, (i, Value.int y) :: ls.filter (fun q => !(q.1 == i) && !(q.1 + 1 == i && q.2.category == 2)) = ls' y) (k : ∀ y : Int32, VV p l e R s m args below meth c D ca tp a A nL Q S (ls' y) (pc + 3) st (f y)) : VV p l e R s m args below meth c D ca tp a A nL Q S ls pc st (bnd (x + n2) f) := fun z hz H locs lsA hw hs hl => lv_iinc (v := x + n2) h.1 h.2.1 hd hl hk (by rw [hn2]) hn (hl' (x + n2)) (fun ls2 hl2 => k (x + n2) z hz H locs ls2 hw hs hl2)
theorem V_lcmp (h : Cx p s m c cc nL own s0 args0 D ca a A) {x y : Int64} (hd : decode cc pc = .ok (.lcmp, 1)) (k : VV p l e R s m args below meth c D ca tp a A nL Q S ls (pc + 1) (.int (lg_cmp x y) :: st) M) : VV p l e R s m args below meth c D ca tp a A nL Q S ls pc (.long y :: .long x :: st) M := fun z hz H locs lsA hw hs hl => W.lcmp h.1 h.2.1 hd (k z hz H locs lsA hw hs hl)
theorem V_lshl (h : Cx p s m c cc nL own s0 args0 D ca a A) {x : Int64} {y : Int32} (hd : decode cc pc = .ok (.lshl, 1)) (k : VV p l e R s m args below meth c D ca tp a A nL Q S ls (pc + 1) (.long (x <<< (y.toInt64 &&& 63)) :: st) M) : VV p l e R s m args below meth c D ca tp a A nL Q S ls pc (.int y :: .long x :: st) M := fun z hz H locs lsA hw hs hl => lv_lshl h.1 h.2.1 hd rfl (k z hz H locs lsA hw hs hl)
theorem V_mmax (h : Cx p s m c cc nL own s0 args0 D ca a A) {i d : Nat} {x y : Int32} (hd : decode cc pc = .ok (.invokestatic i, 3)) (h1 : Cond.methodLink own i Lib.Math.max.name ∈ lw_tbl) (h2 : Cond.static Lib.Math.max.name ∈ lw_tbl) (h3 : Cond.initialized "java/lang/Math" ∈ lw_tbl) (h4 : Cond.code Lib.Math.max.name Lib.Math.max.code 2 (some .int) ∈ lw_tbl) (hD : 1 ≤ d) (hroom : (st.map fun v => v.category).sum ≤ 8) (k : VV p l e (rmd d) s m args below meth c D ca tp a A nL Q S ls (pc + 3) (.int (imax x y) :: st) M) : VV p l e (rmd d) s m args below meth c D ca tp a A nL Q S ls pc (.int y :: .int x :: st) M := fun z hz H locs lsA hw hs hl => va_mmax h.1 h.2.1 (h.2.2.1.trans hl.1.symm) h.2.2.2.1 (h.word h1 rfl args) (h.word h2 rfl args) (h.word h3 rfl args) (h.word h4 rfl args) hD (by show _ + 13 ≤ 64 * d; omega) (Nat.le_refl 0) (Nat.le_refl 0) hd (k z hz H locs lsA hw hs hl)
theorem V_mmin (h : Cx p s m c cc nL own s0 args0 D ca a A) {i d : Nat} {x y : Int32} (hd : decode cc pc = .ok (.invokestatic i, 3)) (h1 : Cond.methodLink own i Lib.Math.min.name ∈ lw_tbl) (h2 : Cond.static Lib.Math.min.name ∈ lw_tbl) (h3 : Cond.initialized "java/lang/Math" ∈ lw_tbl) (h4 : Cond.code Lib.Math.min.name Lib.Math.min.code 2 (some .int) ∈ lw_tbl) (hD : 1 ≤ d) (hroom : (st.map fun v => v.category).sum ≤ 8) (k : VV p l e (rmd d) s m args below meth c D ca tp a A nL Q S ls (pc + 3) (.int (imin x y) :: st) M) : VV p l e (rmd d) s m args below meth c D ca tp a A nL Q S ls pc (.int y :: .int x :: st) M := fun z hz H locs lsA hw hs hl => va_mmin h.1 h.2.1 (h.2.2.1.trans hl.1.symm) h.2.2.2.1 (h.word h1 rfl args) (h.word h2 rfl args) (h.word h3 rfl args) (h.word h4 rfl args) hD (by show _ + 13 ≤ 64 * d; omega) (Nat.le_refl 0) (Nat.le_refl 0) hd (k z hz H locs lsA hw hs hl)
theorem V_mmaxL (h : Cx p s m c cc nL own s0 args0 D ca a A) {i d : Nat} {x y : Int64} (hd : decode cc pc = .ok (.invokestatic i, 3)) (h1 : Cond.methodLink own i Lib.MathLoose.max_long.x ∈ lw_tbl) (h2 : Cond.static Lib.MathLoose.max_long.x ∈ lw_tbl) (h3 : Cond.initialized "java/lang/Math" ∈ lw_tbl) (h4 : Cond.code Lib.MathLoose.max_long.x Lib.MathLoose.max_long.code 4 (some .long) ∈ lw_tbl) (hD : 1 ≤ d) (hroom : (st.map fun v => v.category).sum ≤ 8) (k : VV p l e (rmd d) s m args below meth c D ca tp a A nL Q S ls (pc + 3) (.long (lmax x y) :: st) M) : VV p l e (rmd d) s m args below meth c D ca tp a A nL Q S ls pc (.long y :: .long x :: st) M := fun z hz H locs lsA hw hs hl => va_mmax_long h.1 h.2.1 (h.2.2.1.trans hl.1.symm) h.2.2.2.1 (h.word h1 rfl args) (h.word h2 rfl args) (h.word h3 rfl args) (h.word h4 rfl args) hD (by show _ + 15 ≤ 64 * d; omega) (Nat.le_refl 0) (Nat.le_refl 0) hd (k z hz H locs lsA hw hs hl)
theorem V_mminL (h : Cx p s m c cc nL own s0 args0 D ca a A) {i d : Nat} {x y : Int64} (hd : decode cc pc = .ok (.invokestatic i, 3)) (h1 : Cond.methodLink own i Lib.MathLoose.min_long.x ∈ lw_tbl) (h2 : Cond.static Lib.MathLoose.min_long.x ∈ lw_tbl) (h3 : Cond.initialized "java/lang/Math" ∈ lw_tbl) (h4 : Cond.code Lib.MathLoose.min_long.x Lib.MathLoose.min_long.code 4 (some .long) ∈ lw_tbl) (hD : 1 ≤ d) (hroom : (st.map fun v => v.category).sum ≤ 8) (k : VV p l e (rmd d) s m args below meth c D ca tp a A nL Q S ls (pc + 3) (.long (lmin x y) :: st) M) : VV p l e (rmd d) s m args below meth c D ca tp a A nL Q S ls pc (.long y :: .long x :: st) M := fun z hz H locs lsA hw hs hl => va_mmin_long h.1 h.2.1 (h.2.2.1.trans hl.1.symm) h.2.2.2.1 (h.word h1 rfl args) (h.word h2 rfl args) (h.word h3 rfl args) (h.word h4 rfl args) hD (by show _ + 15 ≤ 64 * d; omega) (Nat.le_refl 0) (Nat.le_refl 0) hd (k z hz H locs lsA hw hs hl)
theorem V_copy (h : Cx p s m c cc nL own s0 args0 D ca a A) {i d : Nat} (o0 o1 : Nat) {n0 n1 b0 b1 : Nat} {sp dp n : Int32} {f : St → Option ρ} (ht0 : tp[o0]? = some (.inr (0, n0, b0))) (ht1 : tp[o1]? = some (.inr (0, n1, b1))) (hd : decode cc pc = .ok (.invokestatic i, 3)) (h1 : Cond.methodLink own i arraycopyName ∈ lw_tbl) (h2 : Cond.native arraycopyName ∈ lw_tbl) (h3 : Cond.static arraycopyName ∈ lw_tbl) (h4 : Cond.initialized "java/lang/System" ∈ lw_tbl) (hD : 1 ≤ d) (hroom : (st.map fun v => v.category).sum ≤ 8) (kk : ∀ S1 : St, VV p l e (rmd d) s m args below meth c D ca tp a A nL Q S1 ls (pc + 3) st (f S1)) : VV p l e (rmd d) s m args below meth c D ca tp a A nL Q S ls pc (.int n :: .int dp :: .ref (a o1) :: .int sp :: .ref (a o0) :: st) (cpM sp dp n n0 n1 (bnd (upR S o1 (cpy (S o0) (S o1) sp.toNatClampNeg dp.toNatClampNeg n.toNatClampNeg)) f)) := by
  intro z hz H locs lsA hw hs hl
  unfold cpM at hz
  by_cases hi : sp < 0 ∨ dp < 0 ∨ n < 0 ∨ n0 < sp.toNatClampNeg + n.toNatClampNeg ∨ n1 < dp.toNatClampNeg + n.toNatClampNeg
  · rw [if_pos hi] at hz; cases hz
  · rw [if_neg hi] at hz
    have hroomw : (st.map fun v => v.category).sum + (nativeFrameWords "java/lang/System" "arraycopy" 5 + 11) ≤ (rmd d).locals := by
      have q1 : nativeFrameWords "java/lang/System" "arraycopy" 5 ≤ 40 := by decide +kernel
      show _ ≤ 64 * d
      omega
    refine va_copyi (R := rmd d) (ty := .int) h.1 h.2.1 (h.2.2.1.trans hl.1.symm) h.2.2.2.1 (h.word h1 rfl args) (h.word h2 rfl args) (h.word h3 rfl args) (h.word h4 rfl args) h.K hw.1 hw.2 hs o0 o1 0 0 (cells_at (ca := ca) (a := a) (S := S) ht0) (cells_at (ca := ca) (a := a) (S := S) ht1) rfl rfl rfl (fun q => hi (Or.inl q)) (fun q => hi (Or.inr (Or.inl q))) (fun q => hi (Or.inr (Or.inr (Or.inl q)))) (Nat.not_lt.mp fun q => hi (Or.inr (Or.inr (Or.inr (Or.inl q))))) (Nat.not_lt.mp fun q => hi (Or.inr (Or.inr (Or.inr (Or.inr q))))) (fun _ _ => rfl) hD hroomw hd (fun H1 locs1 q1 q2 q3 => ?_)
    have key := cells_set (ca := ca) (a := a) (S := S) ht1 (va_cpy (S o0) (S o1) sp.toNatClampNeg dp.toNatClampNeg n.toNatClampNeg)
    exact kk _ z hz H1 locs1 lsA ⟨by show va_P D vwCl (cellsOf ca a tp (upR S o1 (va_cpy (S o0) (S o1) sp.toNatClampNeg dp.toNatClampNeg n.toNatClampNeg))) H1; rw [← key]; exact q1, by show va_D A (cellsOf ca a tp (upR S o1 (va_cpy (S o0) (S o1) sp.toNatClampNeg dp.toNatClampNeg n.toNatClampNeg))); rw [← key]; exact q2⟩ q3 hl
theorem V_ck {i : Int32} {n : Nat} (k : ¬ i < 0 → i.toNatClampNeg < n → VV p l e R s m args below meth c D ca tp a A nL Q S ls pc st M) : VV p l e R s m args below meth c D ca tp a A nL Q S ls pc st (ckM i n M) := by
  intro z hz H locs lsA hw hs hl
  unfold ckM at hz
  by_cases hi : i < 0 ∨ n ≤ i.toNatClampNeg
  · rw [if_pos hi] at hz; cases hz
  · rw [if_neg hi] at hz
    exact k (fun q => hi (Or.inl q)) (Nat.not_le.mp fun q => hi (Or.inr q)) z hz H locs lsA hw hs hl
theorem ck_in {ρ : Type} {i : Int32} {n : Nat} (h1 : ¬ i < 0) (h2 : i.toNatClampNeg < n) (M : Option ρ) : ckM i n M = M := if_neg (fun q => q.elim h1 (Nat.not_le.mpr h2))
/-- aaload, the place known to be in range ahead (V_ck) -/
theorem V_aald0 (h : Cx p s m c cc nL own s0 args0 D ca a A) (o : Nat) {kd n b : Nat} {i : Int32} (ht : tp[o]? = some (.inr (kd, n, b))) (hk : kd = 2 ∨ kd = 3) (hd : decode cc pc = .ok (.aaload, 1)) (kk : ¬ i < 0 → i.toNatClampNeg < n → VV p l e R s m args below meth c D ca tp a A nL Q S ls (pc + 1) (.ref (a (b + i.toNatClampNeg)) :: st) M) : VV p l e R s m args below meth c D ca tp a A nL Q S ls pc (.int i :: .ref (a o) :: st) (ckM i n M) := by
  refine V_ck (fun h1 h2 => ?_)
  have := V_aald h o ht hk hd (kk h1 h2)
  rw [ck_in h1 h2] at this
  exact this
/-- a field that holds one of a row of objects -/
theorem fvv_dyn {a : Nat → Nat} {f : Nat → Int32} {k b : Nat} (h1 : ¬ f k < 0) : fvv a f k (2, b) = .ref (a (b + (f k).toNatClampNeg)) := by
  show (if f k = -1 then Value.null else Value.ref (a (b + (f k).toNatClampNeg))) = _
  refine if_neg (fun q => ?_)
  rw [q] at h1
  exact h1 (by decide)
theorem V_getD (h : Cx p s m c cc nL own s0 args0 D ca a A) {i ci : Nat} {fds : List FDt} (o k n : Nat) {b : Nat} (hf : FLk own i ci k) (ht : tp[o]? = some (.inl (ci, fds))) (hd0 : fds[k]? = some (2, b)) (hd : decode cc pc = .ok (.getfield i, 3)) (kk : ¬ S o k < 0 → (S o k).toNatClampNeg < n → VV p l e R s m args below meth c D ca tp a A nL Q S ls (pc + 3) (.ref (a (b + (S o k).toNatClampNeg)) :: st) M) : VV p l e R s m args below meth c D ca tp a A nL Q S ls pc (.ref (a o) :: st) (ckM (S o k) n M) :=
  V_ck (fun h1 h2 => V_get h o k _ hf ht hd0 (fvv_dyn h1) hd (kk h1 h2))
theorem V_getD0 (h : Cx p s m c cc nL own s0 args0 D ca a A) {i ci : Nat} {fds : List FDt} (o k n : Nat) {b : Nat} {M1 M2 : Option ρ} (hf : FLk own i ci k) (ht : tp[o]? = some (.inl (ci, fds))) (hd0 : fds[k]? = some (2, b)) (hd : decode cc pc = .ok (.getfield i, 3)) (k1 : VV p l e R s m args below meth c D ca tp a A nL Q S ls (pc + 3) (.null :: st) M1) (kk : ¬ S o k < 0 → (S o k).toNatClampNeg < n → VV p l e R s m args below meth c D ca tp a A nL Q S ls (pc + 3) (.ref (a (b + (S o k).toNatClampNeg)) :: st) M2) : VV p l e R s m args below meth c D ca tp a A nL Q S ls pc (.ref (a o) :: st) (if S o k = -1 then M1 else ckM (S o k) n M2) := by
  refine V_split _ (fun c9 => V_get h o k .null hf ht hd0 ?_ hd k1) (fun _ => V_getD h o k n hf ht hd0 hd kk)
  show (if S o k = -1 then Value.null else Value.ref (a (b + (S o k).toNatClampNeg))) = _
  exact if_pos c9
theorem V_tswIn (h : Cx p s m c cc nL own s0 args0 D ca a A) {x : Int32} (k : Int32) {dflt lo hi : Int} {offs : Array Int} {len : Nat} {off : Int} (tgt : Nat) (hd : decode cc pc = .ok (.tableswitch dflt lo hi offs, len)) (hx : x = k) (h1 : ¬ k.toInt < lo) (h2 : ¬ hi < k.toInt) (ho : offs[(k.toInt - lo).toNat]? = some off) (ht : (pc : Int) + off = (tgt : Int)) (kk : VV p l e R s m args below meth c D ca tp a A nL Q S ls tgt st M) : VV p l e R s m args below meth c D ca tp a A nL Q S ls pc (.int x :: st) M := fun z hz H locs lsA hw hs hl => by
  subst hx
  exact lv_tableIn h.1 h.2.1 hd h1 h2 ho ht (kk z hz H locs lsA hw hs hl)
theorem V_tswDef (h : Cx p s m c cc nL own s0 args0 D ca a A) {x : Int32} (ks : List Int32) {dflt lo hi : Int} {offs : Array Int} {len : Nat} (tgt : Nat) (hd : decode cc pc = .ok (.tableswitch dflt lo hi offs, len)) (hx : ∀ k ∈ ks, ¬ x = k) (hlen : (offs.size : Int) = hi - lo + 1) (chk : (List.range offs.size).all (fun j => decide (offs[j]? = some dflt) || (ks.contains (Int32.ofInt (lo + j)) && decide ((Int32.ofInt (lo + j)).toInt = lo + j))) = true) (ht : (pc : Int) + dflt = (tgt : Int)) (kk : VV p l e R s m args below meth c D ca tp a A nL Q S ls tgt st M) : VV p l e R s m args below meth c D ca tp a A nL Q S ls pc (.int x :: st) M := fun z hz H locs lsA hw hs hl => by
  by_cases hr : x.toInt < lo ∨ hi < x.toInt
  · exact lv_tableOut h.1 h.2.1 hd hr ht (kk z hz H locs lsA hw hs hl)
  · have h1 : ¬ x.toInt < lo := fun q => hr (Or.inl q)
    have h2 : ¬ hi < x.toInt := fun q => hr (Or.inr q)
    have hj : (x.toInt - lo).toNat < offs.size := by omega
    have hc := List.all_eq_true.mp chk _ (List.mem_range.mpr hj)
    have ej : lo + ((x.toInt - lo).toNat : Int) = x.toInt := by omega
    rw [ej, Bool.or_eq_true, Bool.and_eq_true, decide_eq_true_eq, decide_eq_true_eq] at hc
    rcases hc with hc | ⟨hc, -⟩
    · exact lv_tableIn h.1 h.2.1 hd h1 h2 hc ht (kk z hz H locs lsA hw hs hl)
    · rw [Int32.ofInt_toInt] at hc
      exact absurd rfl (hx x (List.contains_iff_mem.mp hc))

end CORE3
