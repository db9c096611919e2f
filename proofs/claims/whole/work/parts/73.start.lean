/-! WHAT THE START GIVES: the classes, the static rows, the strings -/
def gvn : Cond := Jvm.Cond.and given_1 narrow_1
def stT : Nat → Term := fun i => match i with
  | 0 => .string "NeighbourSoup$LikingReader" 62
  | 1 => .string "NeighbourSoup$StreetReader" 56
  | 2 => .string "NeighbourSoup$StreetReader" 68
  | 3 => .string "NeighbourSoup$StreetReader" 76
  | 4 => .string "NeighbourSoupModel" 26
  | 5 => .string "NeighbourSoup" 143
  | _ => .string "NeighbourSoup" 170
def stLen : List Nat := [6, 5, 8, 3, 1, 13, 24]
def sbt (i : Nat) : List Int32 := rsS.getD i []
def snm (i : Nat) : String := (rsN.getD i ("", [])).1
def srw (i : Nat) : List Int32 := (rsN.getD i ("", [])).2
theorem st_n : ∀ i, i < 7 → stLen.getD i 0 < 2 ^ 31 := by decide +kernel
theorem st_l : ∀ i, i < 7 → stLen.getD i 0 = (sbt i).length := by decide +kernel
theorem st_ex : ∀ i, i < 7 → Cond.exactly (stT i) "java/lang/String" ∈ flatC gvn := by decide +kernel
theorem st_co : ∀ i, i < 7 → Cond.eq (.field (stT i) "java/lang/String" "coder" "B") (.int 0) ∈ flatC gvn := by decide +kernel
theorem st_ar : ∀ i, i < 7 → Cond.arrayOf (.field (stT i) "java/lang/String" "value" "[B") .byte ∈ flatC gvn := by decide +kernel
theorem st_le : ∀ i, i < 7 → Cond.eq (.length (.field (stT i) "java/lang/String" "value" "[B")) (.int (Int32.ofNat (stLen.getD i 0))) ∈ flatC gvn := by decide +kernel
theorem st_el : ∀ i, i < 7 → ∀ j, j < stLen.getD i 0 → Cond.eq (.elem (.field (stT i) "java/lang/String" "value" "[B") (.int (Int32.ofNat j))) (.int ((rsS.getD i []).getD j 0)) ∈ flatC gvn := by decide +kernel
theorem st_ne : ∀ i, i < 7 → ∀ j, j < 7 → i ≠ j → Cond.not (.eq (stT i) (stT j)) ∈ flatC gvn ∨ Cond.not (.eq (stT j) (stT i)) ∈ flatC gvn := by decide +kernel
theorem sa_n : ∀ i, i < 10 → (srw i).length < 2 ^ 31 := by decide +kernel
theorem sa_ar : ∀ i, i < 10 → Cond.arrayOf (.static "NeighbourSoup" (snm i) "[I") .int ∈ flatC gvn := by decide +kernel
theorem sa_le : ∀ i, i < 10 → Cond.eq (.length (.static "NeighbourSoup" (snm i) "[I")) (.int (Int32.ofNat (srw i).length)) ∈ flatC gvn := by decide +kernel
theorem sa_el : ∀ i, i < 10 → ∀ j, j < (srw i).length → Cond.eq (.elem (.static "NeighbourSoup" (snm i) "[I") (.int (Int32.ofNat j))) (.int ((srw i).getD j 0)) ∈ flatC gvn := by decide +kernel
theorem sa_la : ∀ i, i < 10 → Cond.laysStatic "NeighbourSoup" (snm i) "[I" ∈ lw_tbl := by decide +kernel
theorem sk_all : ∀ q ∈ rsK, Cond.stringRef q.1 q.2.1 q.2.2.1 ∈ lw_tbl ∧ (stT q.2.2.2 = .string q.1 q.2.1 ∨ Cond.eq (stT q.2.2.2) (.string q.1 q.2.1) ∈ flatC gvn) ∧ q.2.2.2 < 7 := by decide +kernel
theorem ss_c : Cond.eq (.static "java/lang/String" "COMPACT_STRINGS" "Z") (.int 1) ∈ flatC gvn := by decide +kernel
theorem ss_f : Cond.isRef (.static "jdk/internal/util/Preconditions" "SIOOBE_FORMATTER" "Ljava/util/function/BiFunction;") ∈ flatC gvn := by decide +kernel
theorem ss_u : Cond.isRef (.static Bundle.tN "UNASSIGNED_STACK" Bundle.steD) ∈ flatC gvn := by decide +kernel
theorem ss_s : Cond.isRef (.static Bundle.tN "SUPPRESSED_SENTINEL" Bundle.listD) ∈ flatC gvn := by decide +kernel
theorem st_K {args : Array Value} {s : State} (hts : ∀ w ∈ lw_tbl, w.before args s = true) : ∃ (D : va_G) (ca : Nat → ClassId) (cJ : ClassId), va_K D vwCl (tysOf ca) s ∧ va_K D vwCl [(cJ, .long)] s := by
  obtain ⟨c0, i0, h0⟩ := u_known (C := RX0) (T := TX0) (N := 6) (n := 6) hts u_in_X0 (hts _ tw_2_41)
  obtain ⟨c1, i1, h1⟩ := u_known (C := RX1) (T := TX1) (N := 3) (n := 3) hts u_in_X1 (hts _ tw_1_114)
  obtain ⟨c2, i2, h2⟩ := u_known (C := RX2) (T := TX2) (N := 4) (n := 4) hts u_in_X2 (hts _ tw_1_96)
  obtain ⟨c3, i3, h3⟩ := u_known (C := RX3) (T := TX3) (N := 13) (n := 13) hts u_in_X3 (hts _ tw_1_232)
  obtain ⟨c4, i4, h4⟩ := u_known (C := RX4) (T := TX4) (N := 4) (n := 4) hts u_in_X4 (hts _ tw_1_211)
  obtain ⟨c5, i5, h5⟩ := u_known (C := RX6) (T := TX6) (N := 5) (n := 5) hts u_in_X6 (hts _ tw_1_178)
  obtain ⟨c6, i6, h6⟩ := u_known (C := RX7) (T := TX7) (N := 8) (n := 8) hts u_in_X7 (hts _ tw_1_130)
  obtain ⟨c7, i7, h7⟩ := u_known (C := RX8) (T := TX8) (N := 8) (n := 8) hts u_in_X8 (hts _ tw_1_51)
  obtain ⟨c8, i8, h8⟩ := u_known (C := RX9) (T := TX9) (N := 2) (n := 2) hts u_in_X9 (hts _ tw_1_34)
  obtain ⟨c9, i9, h9⟩ := u_known (C := RX10) (T := TX10) (N := 15) (n := 15) hts u_in_X10 (hts _ tw_1_26)
  obtain ⟨c10, i10, h10⟩ := u_known (C := RX11) (T := TX11) (N := 59) (n := 59) hts u_in_X11 (hts _ tw_5_117)
  have hcl : ∀ (k : Nat) (q : vw_C), vwCl[k]? = some q → u_Kn s q.1 q.2.1 q.2.2 ([c0, c1, c2, c3, c4, c5, c6, c7, c8, c9, c10].getD k c0) ([i0, i1, i2, i3, i4, i5, i6, i7, i8, i9, i10].getD k i0) := by
    intro k q hq
    match k, hq with
    | 0, hq => cases hq; exact h0
    | 1, hq => cases hq; exact h1
    | 2, hq => cases hq; exact h2
    | 3, hq => cases hq; exact h3
    | 4, hq => cases hq; exact h4
    | 5, hq => cases hq; exact h5
    | 6, hq => cases hq; exact h6
    | 7, hq => cases hq; exact h7
    | 8, hq => cases hq; exact h8
    | 9, hq => cases hq; exact h9
    | 10, hq => cases hq; exact h10
    | k + 11, hq => simp [vwCl] at hq
  obtain ⟨a0, k0, m0, p0, q0, r0⟩ := Cond.arrayClass_spec (hts _ tw_1_49)
  obtain ⟨a1, k1, m1, p1, q1, r1⟩ := Cond.arrayClass_spec (hts _ tw_3_122)
  obtain ⟨m2, a2, k2, o2, -, q2, r2, p2⟩ := arrayOverA_spec (hts _ tw_1_60)
  obtain ⟨m3, a3, k3, o3, -, q3, r3, p3⟩ := Cond.arrayOver_spec (hts _ tw_1_113)
  obtain ⟨a4, k4, m4, p4, q4, r4⟩ := Cond.arrayClass_spec (hts _ tw_7_168)
  refine ⟨(fun k => [c0, c1, c2, c3, c4, c5, c6, c7, c8, c9, c10].getD k c0, fun k => [i0, i1, i2, i3, i4, i5, i6, i7, i8, i9, i10].getD k i0), fun k => [a0, a1, a2, a3].getD k a0, a4, ⟨hcl, ?_⟩, ⟨hcl, ?_⟩⟩
  · intro k q hq
    match k, hq with
    | 0, hq => cases hq; exact ⟨fun n z => ⟨fun k h => (by cases h), k0, q0, m0, r0⟩, p0⟩
    | 1, hq => cases hq; exact ⟨fun n z => ⟨fun k h => (by cases h), k1, q1, m1, r1⟩, p1⟩
    | 2, hq => cases hq; exact ⟨fun n z => ⟨fun k h => (by cases h), k2, q2, m2, r2⟩, p2⟩
    | 3, hq => cases hq; exact ⟨fun n z => ⟨fun k h => (by cases h), k3, q3, m3, r3⟩, ⟨k3, m3, q3, r3, o3, p3⟩⟩
    | k + 4, hq => simp [tysOf] at hq
  · intro k q hq
    match k, hq with
    | 0, hq => cases hq; exact ⟨fun n z => ⟨fun k h => (by cases h), k4, q4, m4, r4⟩, p4⟩
    | k + 1, hq => simp at hq
theorem st_R {args : Array Value} {s : State} (hts : ∀ w ∈ lw_tbl, w.before args s = true) (hg : gvn.before args s = true) (A : Nat → Prop) (hA : ∀ a, a < s.heap.size → ¬ A a) : ∃ r : Nat → Nat, RSx s r A := by
  have hs := flat_of_before _ hg
  obtain ⟨adK, adV, hS, hev⟩ := vk_Sof (args := args) (s := s) (N := 7) (tm := stT) (len := stLen) (byt := rsS) (A := A) st_n (fun i hi => hs _ (st_ex i hi)) (fun i hi => hs _ (st_co i hi)) (fun i hi => hs _ (st_ar i hi)) (fun i hi => hs _ (st_le i hi)) (fun i hi j hj => hs _ (st_el i hi j hj)) (fun i j hi hj hij => (st_ne i hi j hj hij).imp (fun h => hs _ h) (fun h => hs _ h)) hA
  have h0 : ∀ i : Nat, ∃ t : Nat, i < 10 → va_Z "NeighbourSoup" (snm i) "[I" (.ref t) A s s.heap ∧ va_T .int t (srw i).length (fun j => .int ((srw i).getD j 0)) A s s.heap := by
    intro i
    by_cases hi : i < 10
    · obtain ⟨t, ht, hT⟩ := va_Tof (f := fun j => .int ((srw i).getD j 0)) (A := A) (sa_n i hi) (hs _ (sa_ar i hi)) (va_eqt (hs _ (sa_le i hi))) (fun j hj => va_eqt (hs _ (sa_el i hi j hj))) hA
      exact ⟨t, fun _ => ⟨va_Zref (hts _ (sa_la i hi)) (hts _ tw_1_1) ht hA, hT⟩⟩
    · exact ⟨0, fun h => absurd h hi⟩
  obtain ⟨ad, had⟩ := Classical.axiomOfChoice h0
  have eN : ∀ i, (fun i : Nat => if 300 ≤ i then ad (i - 300) else if 220 ≤ i then adV (i - 220) else adK (i - 200)) (300 + i) = ad i := fun i => by
    show (if 300 ≤ 300 + i then ad (300 + i - 300) else _) = _
    rw [if_pos (by omega), show 300 + i - 300 = i by omega]
  have eV : ∀ i, i < 7 → (fun i : Nat => if 300 ≤ i then ad (i - 300) else if 220 ≤ i then adV (i - 220) else adK (i - 200)) (220 + i) = adV i := fun i hi => by
    show (if 300 ≤ 220 + i then ad (220 + i - 300) else if 220 ≤ 220 + i then adV (220 + i - 220) else _) = _
    rw [if_neg (by omega), if_pos (by omega), show 220 + i - 220 = i by omega]
  have eK : ∀ i, i < 7 → (fun i : Nat => if 300 ≤ i then ad (i - 300) else if 220 ≤ i then adV (i - 220) else adK (i - 200)) (200 + i) = adK i := fun i hi => by
    show (if 300 ≤ 200 + i then ad (200 + i - 300) else if 220 ≤ 200 + i then adV (200 + i - 220) else adK (200 + i - 200)) = _
    rw [if_neg (by omega), if_neg (by omega), show 200 + i - 200 = i by omega]
  generalize (fun i : Nat => if 300 ≤ i then ad (i - 300) else if 220 ≤ i then adV (i - 220) else adK (i - 200)) = r at eN eV eK
  refine ⟨r, ?_, ?_, ?_, ?_, ?_⟩
  · intro i q hq
    have hi : i < 10 := (List.getElem?_eq_some_iff.mp hq).1
    have e : rsN.getD i ("", []) = q := by simp [List.getD, hq]
    have h9 := had i hi
    unfold snm srw at h9
    rw [e] at h9
    rw [eN]
    exact h9
  · intro i q hq
    have hi : i < 7 := (List.getElem?_eq_some_iff.mp hq).1
    have e : rsS.getD i [] = q := by simp [List.getD, hq]
    have h9 := hS.1 i hi
    rw [st_l i hi] at h9
    unfold sbt at h9
    rw [e] at h9
    rw [eK i hi, eV i hi]
    exact h9
  · intro q hq
    obtain ⟨q1, q2, q3⟩ := sk_all q hq
    rw [eK _ q3]
    refine vk_R.of (hts _ q1) ?_
    rcases q2 with q2 | q2
    · rw [← q2]; exact hev _ q3
    · exact va_eqR (hs _ q2) (hev _ q3)
  · exact va_Zof (hts _ tw_2_208) (hts _ tw_1_14) (va_eqi (hs _ ss_c)) hA
  · exact va_Zqof (hts _ tw_3_11) (hts _ tw_1_18) (hs _ ss_f) hA
theorem RSx.to {s : State} {r a : Nat → Nat} {A : Nat → Prop} (h : RSx s r A) (ha : ∀ i, 200 ≤ i → a i = r i) : RSx s a A := by
  obtain ⟨h1, h2, h3, h4, h5⟩ := h
  refine ⟨fun i q hq => ?_, fun i q hq => ?_, fun q hq => ?_, h4, h5⟩
  · rw [ha _ (by omega)]; exact h1 i q hq
  · rw [ha _ (by omega), ha _ (by omega)]; exact h2 i q hq
  · rw [ha _ (by omega)]; exact h3 q hq
theorem RSx.narrow {s : State} {r : Nat → Nat} {A B : Nat → Prop} (h : RSx s r A) (hAB : ∀ q, B q → A q) : RSx s r B := by
  obtain ⟨h1, h2, h3, h4, h5⟩ := h
  exact ⟨fun i q hq => ⟨(h1 i q hq).1.narrow hAB, (h1 i q hq).2.narrow hAB⟩, fun i q hq => ⟨(h2 i q hq).1.narrow hAB, (h2 i q hq).2.1.narrow hAB, (h2 i q hq).2.2.1.narrow hAB, (h2 i q hq).2.2.2.narrow hAB⟩, h3, h4.narrow hAB, h5.narrow hAB⟩
