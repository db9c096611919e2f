/-! READ-ONLY THINGS: static arrays (300 + k), Strings (200 + i) and their bytes (220 + i) -/
def roL (k : Nat) : List Int32 := (rsN.getD k ("", [])).2
def roV (k j : Nat) : Int32 := (roL k).getD j 0
def sbs (i : Nat) : List Int32 := rsS.getD i []
theorem sbs_at {i : Nat} (hi : i < 7) : rsS[i]? = some (sbs i) := by
  have : i < rsS.length := hi
  simp [sbs, List.getD, this]
theorem roL_at {k : Nat} (hk : k < 10) : rsN[k]? = some ((rsN.getD k ("", [])).1, roL k) := by
  have : k < rsN.length := hk
  simp [roL, List.getD, this]
def ncM {ρ : Type} (x : Int32) (M : Option ρ) : Option ρ := if (x.toUInt32 % 65536).toInt32 = x then M else none
def nbM {ρ : Type} (x : Int32) (M : Option ρ) : Option ρ := if x.toInt8.toInt32 = x then M else none
theorem fvv_dynN {a : Nat → Nat} {f : Nat → Int32} {k b : Nat} : fvv a (upd f k (-1 : Int32)) k (2, b) = .null := by
  show (if upd f k (-1 : Int32) k = -1 then Value.null else _) = _
  exact if_pos (if_pos rfl)
theorem fvv_dynP {a : Nat → Nat} {f : Nat → Int32} {k b : Nat} {x : Int32} (h1 : ¬ x < 0) : fvv a (upd f k x) k (2, b) = .ref (a (b + x.toNatClampNeg)) := by
  have e : upd f k x k = x := if_pos rfl
  have := fvv_dyn (a := a) (f := upd f k x) (k := k) (b := b) (by rw [e]; exact h1)
  rw [e] at this
  exact this
section CORE5
variable {p : Program} {l : Launch} {e : Env} {R : Room} {s : State} {m : MethodId} {args : Array Value} {below : List Frame} {meth : Method} {c : Code}
variable {D : va_G} {ca : Nat → ClassId} {tp : List ODt} {a : Nat → Nat} {A : Nat → Prop} {nL : Nat} {ρ : Type} {Q : ρ → State → Prop} {S : St} {ls : List (Nat × Value)} {pc : Nat} {st : List Value} {M : Option ρ} {s0 : State} {args0 : Array Value} {cc : ByteArray} {own : String}
theorem Cx.hk (h : Cx p s m c cc nL own s0 args0 D ca a A) : ∀ q : Nat, q < s0.heap.size → ¬ A q → s.heap[q]? = s0.heap[q]? := fun q hq _ => h.2.2.2.2.2.2.1 q hq
theorem Cx.al (h : Cx p s m c cc nL own s0 args0 D ca a A) : s0.vm.Alike s.vm := h.2.2.2.2.1.alike
theorem Cx.Z (h : Cx p s m c cc nL own s0 args0 D ca a A) {C n d : String} {v : Value} (hz : va_Z C n d v A s0 s0.heap) : va_Z C n d v A s s.heap := va_Z.moved h.al (hz.kept h.hk)
theorem Cx.T (h : Cx p s m c cc nL own s0 args0 D ca a A) {ty : FieldType} {t N : Nat} {f : Nat → Value} (hz : va_T ty t N f A s0 s0.heap) : va_T ty t N f A s s.heap := va_T.moved h.al (hz.kept h.hk)
theorem Cx.OF (h : Cx p s m c cc nL own s0 args0 D ca a A) {x n d : String} {v : Value} {t : Nat} (hz : va_OF x n d v t A s0 s0.heap) : va_OF x n d v t A s s.heap := va_OF.moved h.al (hz.kept h.hk)
theorem Cx.OO (h : Cx p s m c cc nL own s0 args0 D ca a A) {x : String} {t : Nat} (hz : va_O x t A s0 s0.heap) : va_O x t A s s.heap := va_O.moved h.al (hz.kept h.hk)
theorem V_gets (h : Cx p s m c cc nL own s0 args0 D ca a A) {i : Nat} (k : Nat) (hk : k < 10) (hl0 : Cond.fieldLink own i "NeighbourSoup" (rsN.getD k ("", [])).1 "[I" ∈ lw_tbl ∨ ∃ host : String, Cond.fieldLinkNest own i "NeighbourSoup" (rsN.getD k ("", [])).1 "[I" host ∈ lw_tbl) (hd : decode cc pc = .ok (.getstatic i, 3)) (kk : VV p l e R s m args below meth c D ca tp a A nL Q S ls (pc + 3) (.ref (a (300 + k)) :: st) M) : VV p l e R s m args below meth c D ca tp a A nL Q S ls pc st M := by
  intro z hz H locs lsA hw hs hl
  have hZ := h.Z (h.gg.2.2.2.1 k _ (roL_at hk)).1
  rcases hl0 with hl0 | ⟨host, hl0⟩
  · exact va_gets h.1 h.2.1 hZ hs h.2.2.2.1 (h.word hl0 rfl args) (fun _ q => q) hd (kk z hz H locs lsA hw hs hl)
  · exact va_getsN h.1 h.2.1 hZ hs h.2.2.2.1 (h.nestF hl0) (fun _ q => q) hd (kk z hz H locs lsA hw hs hl)
theorem V_getsC (h : Cx p s m c cc nL own s0 args0 D ca a A) {i : Nat} (hl0 : Cond.fieldLink own i "java/lang/String" "COMPACT_STRINGS" "Z" ∈ lw_tbl) (hd : decode cc pc = .ok (.getstatic i, 3)) (kk : VV p l e R s m args below meth c D ca tp a A nL Q S ls (pc + 3) (.int 1 :: st) M) : VV p l e R s m args below meth c D ca tp a A nL Q S ls pc st M := by
  intro z hz H locs lsA hw hs hl
  exact va_gets h.1 h.2.1 (h.Z h.gg.2.2.2.2.2.2.1) hs h.2.2.2.1 (h.word hl0 rfl args) (fun _ q => q) hd (kk z hz H locs lsA hw hs hl)
theorem V_getsQ (h : Cx p s m c cc nL own s0 args0 D ca a A) {i : Nat} (hl0 : Cond.fieldLink own i "jdk/internal/util/Preconditions" "SIOOBE_FORMATTER" "Ljava/util/function/BiFunction;" ∈ lw_tbl) (hd : decode cc pc = .ok (.getstatic i, 3)) (k1 : VV p l e R s m args below meth c D ca tp a A nL Q S ls (pc + 3) (.null :: st) M) (k2 : ∀ t : Nat, VV p l e R s m args below meth c D ca tp a A nL Q S ls (pc + 3) (.ref t :: st) M) : VV p l e R s m args below meth c D ca tp a A nL Q S ls pc st M := by
  intro z hz H locs lsA hw hs hl
  rcases h.gg.2.2.2.2.2.2.2 with hq | ⟨t, hq⟩
  · exact va_gets h.1 h.2.1 (h.Z hq) hs h.2.2.2.1 (h.word hl0 rfl args) (fun _ q => q) hd (k1 z hz H locs lsA hw hs hl)
  · exact va_gets h.1 h.2.1 (h.Z hq) hs h.2.2.2.1 (h.word hl0 rfl args) (fun _ q => q) hd (k2 t z hz H locs lsA hw hs hl)
theorem V_roald (h : Cx p s m c cc nL own s0 args0 D ca a A) (k : Nat) (hk : k < 10) {i : Int32} (hd : decode cc pc = .ok (.iaload, 1)) (kk : VV p l e R s m args below meth c D ca tp a A nL Q S ls (pc + 1) (.int (roV k i.toNatClampNeg) :: st) M) : VV p l e R s m args below meth c D ca tp a A nL Q S ls pc (.int i :: .ref (a (300 + k)) :: st) (ckM i (roL k).length M) := by
  intro z hz H locs lsA hw hs hl
  unfold ckM at hz
  by_cases hi : i < 0 ∨ (roL k).length ≤ i.toNatClampNeg
  · rw [if_pos hi] at hz; cases hz
  · rw [if_neg hi] at hz
    exact va_ti h.1 h.2.1 (h.T (h.gg.2.2.2.1 k _ (roL_at hk)).2) hs hi rfl hd (kk z hz H locs lsA hw hs hl)
theorem V_rolen (h : Cx p s m c cc nL own s0 args0 D ca a A) (k : Nat) (hk : k < 10) (v : Int32) (hv : Int32.ofNat (roL k).length = v) (hd : decode cc pc = .ok (.arraylength, 1)) (kk : VV p l e R s m args below meth c D ca tp a A nL Q S ls (pc + 1) (.int v :: st) M) : VV p l e R s m args below meth c D ca tp a A nL Q S ls pc (.ref (a (300 + k)) :: st) M := fun z hz H locs lsA hw hs hl =>
  va_tlen h.1 h.2.1 (h.T (h.gg.2.2.2.1 k _ (roL_at hk)).2) hs hv hd (kk z hz H locs lsA hw hs hl)
theorem V_ldcS (h : Cx p s m c cc nL own s0 args0 D ca a A) {i : Nat} {tx : String} (k : Nat) (hq : (own, i, tx, k) ∈ rsK) (hd : decode cc pc = .ok (.ldc i, 2)) (kk : VV p l e R s m args below meth c D ca tp a A nL Q S ls (pc + 2) (.ref (a (200 + k)) :: st) M) : VV p l e R s m args below meth c D ca tp a A nL Q S ls pc st M := fun z hz H locs lsA hw hs hl =>
  va_ldcS h.1 h.2.1 h.2.2.2.1 (vk_R.warm h.2.2.2.2.1 (h.gg.2.2.2.2.2.1 _ hq)) hd (kk z hz H locs lsA hw hs hl)
theorem V_ldcwS (h : Cx p s m c cc nL own s0 args0 D ca a A) {i : Nat} {tx : String} (k : Nat) (hq : (own, i, tx, k) ∈ rsK) (hd : decode cc pc = .ok (.ldc_w i, 3)) (kk : VV p l e R s m args below meth c D ca tp a A nL Q S ls (pc + 3) (.ref (a (200 + k)) :: st) M) : VV p l e R s m args below meth c D ca tp a A nL Q S ls pc st M := fun z hz H locs lsA hw hs hl => by
  intro T hT X
  have hZ := vk_R.warm h.2.2.2.2.1 (h.gg.2.2.2.2.2.1 _ hq)
  obtain ⟨t, a1, b1⟩ := kk z hz H locs lsA hw hs hl T hT X
  exact ⟨t, X.ldcStringW h.1 h.2.2.2.1 (text := tx) (a := a (200 + k)) hZ.1 hZ.2 (g := F0 m pc lsA st) rfl (by rw [h.2.1]; exact hd) t a1, b1⟩
theorem V_strval (h : Cx p s m c cc nL own s0 args0 D ca a A) {i : Nat} (k : Nat) (hk : k < 7) (hl0 : Cond.fieldLink own i "java/lang/String" "value" "[B" ∈ lw_tbl) (hd : decode cc pc = .ok (.getfield i, 3)) (kk : VV p l e R s m args below meth c D ca tp a A nL Q S ls (pc + 3) (.ref (a (220 + k)) :: st) M) : VV p l e R s m args below meth c D ca tp a A nL Q S ls pc (.ref (a (200 + k)) :: st) M := fun z hz H locs lsA hw hs hl =>
  vk_getf h.1 h.2.1 (h.OF (h.gg.2.2.2.2.1 k _ (sbs_at hk)).2.2.1) hs h.2.2.2.1 (h.word hl0 rfl args) (fun _ q => q) hd (kk z hz H locs lsA hw hs hl)
theorem V_strcod (h : Cx p s m c cc nL own s0 args0 D ca a A) {i : Nat} (k : Nat) (hk : k < 7) (hl0 : Cond.fieldLink own i "java/lang/String" "coder" "B" ∈ lw_tbl) (hd : decode cc pc = .ok (.getfield i, 3)) (kk : VV p l e R s m args below meth c D ca tp a A nL Q S ls (pc + 3) (.int 0 :: st) M) : VV p l e R s m args below meth c D ca tp a A nL Q S ls pc (.ref (a (200 + k)) :: st) M := fun z hz H locs lsA hw hs hl =>
  vk_getf h.1 h.2.1 (h.OF (h.gg.2.2.2.2.1 k _ (sbs_at hk)).2.1) hs h.2.2.2.1 (h.word hl0 rfl args) (fun _ q => q) hd (kk z hz H locs lsA hw hs hl)
theorem V_svald (h : Cx p s m c cc nL own s0 args0 D ca a A) (k : Nat) (hk : k < 7) {i : Int32} (hd : decode cc pc = .ok (.baload, 1)) (kk : VV p l e R s m args below meth c D ca tp a A nL Q S ls (pc + 1) (.int ((sbs k).getD i.toNatClampNeg 0) :: st) M) : VV p l e R s m args below meth c D ca tp a A nL Q S ls pc (.int i :: .ref (a (220 + k)) :: st) (ckM i (sbs k).length M) := by
  intro z hz H locs lsA hw hs hl
  unfold ckM at hz
  by_cases hi : i < 0 ∨ (sbs k).length ≤ i.toNatClampNeg
  · rw [if_pos hi] at hz; cases hz
  · rw [if_neg hi] at hz
    exact va_tb h.1 h.2.1 (h.T (h.gg.2.2.2.2.1 k _ (sbs_at hk)).2.2.2) hs hi rfl hd (kk z hz H locs lsA hw hs hl)
theorem V_svlen (h : Cx p s m c cc nL own s0 args0 D ca a A) (k : Nat) (hk : k < 7) (hd : decode cc pc = .ok (.arraylength, 1)) (kk : VV p l e R s m args below meth c D ca tp a A nL Q S ls (pc + 1) (.int (Int32.ofNat (sbs k).length) :: st) M) : VV p l e R s m args below meth c D ca tp a A nL Q S ls pc (.ref (a (220 + k)) :: st) M := fun z hz H locs lsA hw hs hl =>
  va_tlen h.1 h.2.1 (h.T (h.gg.2.2.2.2.1 k _ (sbs_at hk)).2.2.2) hs rfl hd (kk z hz H locs lsA hw hs hl)

theorem V_callOI (h : Cx p s m c cc nL own s0 args0 D ca a A) {y : MethodName} {cy : ByteArray} {nLy n i : Nat} {rt : FieldType} {d dy : Nat} (As rest : List Value) (k : Nat) (hk : k < 7) (hm : MVk own i "java/lang/String" y cy nLy (some rt) n) (hd : decode cc pc = .ok (.invokevirtual i, 3)) (hn : As.length = n) (hst : st = As.reverse ++ .ref (a (200 + k)) :: rest) (hroom : (rest.map fun v => v.category).sum ≤ 8) (hdep : dy + 1 ≤ d) (G : Option (Int32 × St)) {K : Int32 → St → Option ρ} (hM : ∀ z, G = some z → CtI l y cy nLy rt dy s0 D ca tp a A (.ref (a (200 + k)) :: As) S z) (kk : ∀ (r : Int32) (S1 : St), VV p l e (rmd d) s m args below meth c D ca tp a A nL Q S1 ls (pc + 3) (.int r :: rest) (K r S1)) : VV p l e (rmd d) s m args below meth c D ca tp a A nL Q S ls pc st (bI G K) := by
  refine V_doneI (As0 := (Value.ref (a (200 + k)) :: As).toArray) G (fun w hG H locs lsA hw hs hl => ?_) kk
  exact va_runV (Ts := []) (C := "java/lang/String") (bytes := cy) (maxL := nLy) (ret := (some rt)) ⟨h.1, h.2.1, h.2.2.1, h.2.2.2.1, fun w (hw : w ∈ ([] : List Cond)) => nomatch hw⟩ (hM w hG) ⟨⟨rfl, rfl, (rmd_fit hdep hm.2.2.2.2.2.2).1, (rmd_fit hdep hm.2.2.2.2.2.2).2, h.ridesCode hm.2.2.2.2.1, List.mem_singleton.mpr rfl, h.word hm.2.2.2.2.1 rfl args, h.word hm.2.2.2.1 rfl args, ⟨hm.2.2.2.2.2.1.1, hm.2.2.2.2.2.1.2.1⟩, arity_of hm.2.2.2.2.2.1.2.2, h.word hm.1 rfl args⟩, h.word hm.2.1 rfl args, h.word hm.2.2.1 rfl args⟩ ⟨Pre.blind, va_Orecv (h.OO (h.gg.2.2.2.2.1 k _ (sbs_at hk)).1) hs, h.pre hs hw _⟩ rfl hn hl.1 hst (lv_room hroom) hd ⟨Nat.le_refl 0, Nat.le_refl 0⟩
theorem V_cret (h : Cx p s m c cc nL own s0 args0 D ca a A) {x : Int32} (hr : meth.sig.returnType = some .char) (hlk : meth.locks = false) (hd : decode cc pc = .ok (.ireturn, 1)) : VV p l e R s m args below meth c D ca tp a A nL (fun z => MQ below (QI D ca tp a A z) args s 0 0 A) S ls pc [.int x] (ncM x (some (x, S))) := by
  intro z hz H locs lsA hw hs hl
  unfold ncM at hz
  by_cases hx : (x.toUInt32 % 65536).toInt32 = x
  · rw [if_pos hx] at hz
    cases hz
    have hn : narrow .char (.int x) = .int x := by
      have := pk_nc x
      rw [hx] at this
      exact this
    exact W.zret (v := x) h.1 h.2.1 hr hn (fun t ht hW => ⟨⟨x, (), rfl, rfl, by show Wd D ca tp a A S t.heap; rw [ht]; exact hw⟩, hs.F ht⟩) hs.2.2 hd hlk
  · rw [if_neg hx] at hz; cases hz
theorem V_bret (h : Cx p s m c cc nL own s0 args0 D ca a A) {x : Int32} (hr : meth.sig.returnType = some .byte) (hlk : meth.locks = false) (hd : decode cc pc = .ok (.ireturn, 1)) : VV p l e R s m args below meth c D ca tp a A nL (fun z => MQ below (QI D ca tp a A z) args s 0 0 A) S ls pc [.int x] (nbM x (some (x, S))) := by
  intro z hz H locs lsA hw hs hl
  unfold nbM at hz
  by_cases hx : x.toInt8.toInt32 = x
  · rw [if_pos hx] at hz
    cases hz
    have hn : narrow .byte (.int x) = .int x := by
      have := pk_nb x
      rw [hx] at this
      exact this
    exact W.zret (v := x) h.1 h.2.1 hr hn (fun t ht hW => ⟨⟨x, (), rfl, rfl, by show Wd D ca tp a A S t.heap; rw [ht]; exact hw⟩, hs.F ht⟩) hs.2.2 hd hlk
  · rw [if_neg hx] at hz; cases hz
/-- an array of the start copied into one of the world -/
theorem V_rocopy (h : Cx p s m c cc nL own s0 args0 D ca a A) {i d : Nat} (k : Nat) (hk : k < 10) (o1 : Nat) {n1 b1 : Nat} {sp dp n : Int32} {f : St → Option ρ} (ht1 : tp[o1]? = some (.inr (0, n1, b1))) (hd : decode cc pc = .ok (.invokestatic i, 3)) (w1 : Cond.methodLink own i arraycopyName ∈ lw_tbl) (w2 : Cond.native arraycopyName ∈ lw_tbl) (w3 : Cond.static arraycopyName ∈ lw_tbl) (w4 : Cond.initialized "java/lang/System" ∈ lw_tbl) (hD : 1 ≤ d) (hroom : (st.map fun v => v.category).sum ≤ 8) (kk : ∀ S1 : St, VV p l e (rmd d) s m args below meth c D ca tp a A nL Q S1 ls (pc + 3) st (f S1)) : VV p l e (rmd d) s m args below meth c D ca tp a A nL Q S ls pc (.int n :: .int dp :: .ref (a o1) :: .int sp :: .ref (a (300 + k)) :: st) (cpM sp dp n (roL k).length n1 (bnd (upR S o1 (cpy (roV k) (S o1) sp.toNatClampNeg dp.toNatClampNeg n.toNatClampNeg)) f)) := by
  intro z hz H locs lsA hw hs hl
  unfold cpM at hz
  by_cases hi : sp < 0 ∨ dp < 0 ∨ n < 0 ∨ (roL k).length < sp.toNatClampNeg + n.toNatClampNeg ∨ n1 < dp.toNatClampNeg + n.toNatClampNeg
  · rw [if_pos hi] at hz; cases hz
  · rw [if_neg hi] at hz
    have h1 : ¬ sp < 0 := fun q => hi (Or.inl q)
    have h2 : ¬ dp < 0 := fun q => hi (Or.inr (Or.inl q))
    have h3 : ¬ n < 0 := fun q => hi (Or.inr (Or.inr (Or.inl q)))
    have h4 : sp.toNatClampNeg + n.toNatClampNeg ≤ (roL k).length := Nat.not_lt.mp fun q => hi (Or.inr (Or.inr (Or.inr (Or.inl q))))
    have h5 : dp.toNatClampNeg + n.toNatClampNeg ≤ n1 := Nat.not_lt.mp fun q => hi (Or.inr (Or.inr (Or.inr (Or.inr q))))
    have nn : ∀ z : Int32, ¬ z < 0 → z.toInt = (z.toNatClampNeg : Int) := by
      intro z hz
      have hz0 : (0 : Int) ≤ z.toInt := by simpa using Int32.le_iff_toInt_le.mp (Int32.not_lt.mp hz)
      show z.toInt = ((z.toInt.toNat : Nat) : Int)
      omega
    have hroomw : (st.map fun v => v.category).sum + (nativeFrameWords "java/lang/System" "arraycopy" 5 + 11) ≤ (rmd d).locals := by
      have q1 : nativeFrameWords "java/lang/System" "arraycopy" 5 ≤ 40 := by decide +kernel
      show _ ≤ 64 * d
      omega
    have hX := h.T (h.gg.2.2.2.1 k _ (roL_at hk)).2
    have hat := cells_at (ca := ca) (a := a) (S := S) ht1
    intro T hT X
    obtain ⟨scr, hs1, hs2, hs3, hs4, -, hs5, hs7⟩ := hX
    have hs4 : (roL k).length ≤ scr.slots.size := hs4
    have hs5 : ∀ j : Nat, j < (roL k).length → scr.slots[j]? = some (.int (roV k j)) := hs5
    have hc0 : H[a (300 + k)]? = some scr := by rw [hs.2.1 _ (Array.getElem?_eq_some_iff.mp hs1).1 hs7]; exact hs1
    have hc1 : H[a o1]? = some (vp_cell (ca 0) (n1, .inl (S o1))) := hw.1 o1 _ hat
    obtain ⟨hs6, k0, hk0, cm0, hkk0⟩ := hs2
    obtain ⟨-, k1, hk1, cm1, hkk1⟩ := (h.K.2 0 _ rfl).1 n1 (fun j => .int (S o1 j))
    obtain ⟨vm', X', step⟩ := X.arraycopy h.1 h.2.2.2.1 (h.word w1 rfl args) (h.word w2 rfl args) (h.word w3 rfl args) (h.word w4 rfl args) (src := a (300 + k)) (dst := a o1) (cs := scr) (cd := vp_cell (ca 0) (n1, .inl (S o1))) (srcPos := sp) (destPos := dp) (n := n) (by rw [hT]; exact hc0) (by rw [hT]; exact hc1)
      hs6 (fun _ h => by cases h) hs3 (fun h => by cases h) hk0 hk1 hkk0 hkk1 (by simp [refKind]) h1 h2 h3
      (by rw [nn sp h1, nn n h3]; omega)
      (by rw [nn dp h2, nn n h3]; show ¬ _ > ((arrV (ca 0) n1 (fun j => .int (S o1 j))).slots.size : Int); rw [arrV_size]; omega)
      (fun vm₁ _ i hi => by
        have e : scr.slots.getD (sp.toNatClampNeg + i) .null = .int (roV k (sp.toNatClampNeg + i)) := by
          rw [Array.getD_eq_getD_getElem?, hs5 _ (by show _ < (roL k).length; omega)]
          rfl
        refine ⟨?_, ?_⟩
        · rw [e]; rfl
        · rw [e]; exact trivial)
      (g := F0 m pc lsA (.int n :: .int dp :: .ref (a o1) :: .int sp :: .ref (a (300 + k)) :: st)) rfl (h.2.2.1.trans hl.1.symm).symm (rest := st) rfl (by rw [h.2.1]; exact hd) hD (by show 2 * 0 + _ + _ ≤ _; omega)
    have e1 : copied scr (vp_cell (ca 0) (n1, .inl (S o1))) sp dp n = vp_cell (ca 0) (n1, .inl (va_cpy (roV k) (S o1) sp.toNatClampNeg dp.toNatClampNeg n.toNatClampNeg)) := va_copiedX (fun z => .int z) scr (ca 0) (roV k) (S o1) hs5 h4
    rw [e1] at X' step
    have hl2 : a o1 < H.size := (Array.getElem?_eq_some_iff.mp hc1).1
    have hheap : ((T.setVm vm').setCell (a o1) (vp_cell (ca 0) (n1, .inl (va_cpy (roV k) (S o1) sp.toNatClampNeg dp.toNatClampNeg n.toNatClampNeg)))).heap = H.setIfInBounds (a o1) (vp_cell (ca 0) (n1, .inl (va_cpy (roV k) (S o1) sp.toNatClampNeg dp.toNatClampNeg n.toNatClampNeg))) := by rw [← hT]; rfl
    have oq : ∀ q : Nat, q ≠ a o1 → (H.setIfInBounds (a o1) (vp_cell (ca 0) (n1, .inl (va_cpy (roV k) (S o1) sp.toNatClampNeg dp.toNatClampNeg n.toNatClampNeg))))[q]? = H[q]? := fun q hq => by simp [Array.getElem?_setIfInBounds, Ne.symm hq]
    have key := cells_set (ca := ca) (a := a) (S := S) ht1 (va_cpy (roV k) (S o1) sp.toNatClampNeg dp.toNatClampNeg n.toNatClampNeg)
    have q1 := hw.1.set hw.2 hat (show va_at D vwCl (a o1, .inl (ca 0, n1, .inl (va_cpy (roV k) (S o1) sp.toNatClampNeg dp.toNatClampNeg n.toNatClampNeg))) (H.setIfInBounds (a o1) _) by show (H.setIfInBounds (a o1) _)[a o1]? = some _; simp [Array.getElem?_setIfInBounds, hl2]) oq
    have q2 := hw.2.set (e := .inl (ca 0, n1, .inl (va_cpy (roV k) (S o1) sp.toNatClampNeg dp.toNatClampNeg n.toNatClampNeg))) hat
    obtain ⟨t, a1, b1⟩ := kk _ z hz _ (locs ++ _) lsA ⟨by show va_P D vwCl (cellsOf ca a tp (upR S o1 (va_cpy (roV k) (S o1) sp.toNatClampNeg dp.toNatClampNeg n.toNatClampNeg))) _; rw [← key]; exact q1, by show va_D A (cellsOf ca a tp (upR S o1 (va_cpy (roV k) (S o1) sp.toNatClampNeg dp.toNatClampNeg n.toNatClampNeg))); rw [← key]; exact q2⟩ ⟨by simp; exact hs.1, fun q g1 g2 => by
        rw [oq q (fun e => g2 (by rw [e]; exact hw.2.2 o1 _ hat))]
        exact hs.2.1 q g1 g2, fun q hq => by
        rcases List.mem_append.mp hq with h | h
        · exact hs.2.2 q h
        · obtain ⟨z, -, hz⟩ := List.mem_map.mp h
          rw [← hz]
          exact hw.2.2 o1 _ hat⟩ hl _ hheap X'
    exact ⟨t, step t a1, b1⟩

end CORE5
