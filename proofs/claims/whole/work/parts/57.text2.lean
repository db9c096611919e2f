/-! fault and text -/
def ltA (lt : Nat → Nat) : Nat → Int32 := fun c => if c = 108 then nI (lt 0) else if c = 110 then nI (lt 1) else if c = 115 then nI (lt 2) else if c = 104 then nI (lt 3) else if c = 105 then nI (lt 4) else nI (lt 5)
theorem ltA_ok (lt : Nat → Nat) (T : St) : LtM lt (upR T 4 (ltA lt)) := by
  unfold LtM
  rw [upR_self]
  exact ⟨rfl, rfl, rfl, rfl, rfl, rfl⟩
theorem cF_jC : ∀ q j, cF q j → jC q j := by
  intro q j h
  unfold cF at h
  unfold jC kC
  omega
/-- a liking's text is read on both sides -/
theorem lk_read {X : Cf} {E : Ev} {S T : St} {b : Nat → Nat} {L : Nat} (t : Txt b L) (pt : PT b L S) (h1 : T 0 6 = nI L) (h2 : ∀ k, k < L → T 1 k = sb (b k)) : ∃ r S' T', c_Reader_read_13 S = some (r, S') ∧ m_goThrough_1 (nI 0) (T 0 6) T = some T' ∧ T' 0 11 = r ∧ Fr cF S S' ∧ Fr (fun q j => goP q j ∨ q = 4) T T' := by
  have hL := t.1
  obtain ⟨r, S', U', r1, r2, f1, f2, e, _⟩ := read1_ls t (lt := fun _ => 0) (fun k _ => by omega) (S := S) (T := upR T 4 (ltA (fun _ => 0))) (bs := 0) pt (fun k hk => by rw [upR_ne _ _ (by omega), show 0 + k = k by omega]; exact h2 k hk) (by omega) (ltA_ok _ _)
  have hni := ni_go (S := T) (U := upR T 4 (ltA (fun _ => 0))) (fun q j hq => by rw [upR_ne _ _ hq]) (nI 0) (nI L)
  rw [r2] at hni
  rcases hni with ⟨_, h⟩ | ⟨T', U'', k1, k2, k3⟩
  · exact absurd h (by simp)
  · have hU : U' = U'' := Option.some.inj k2
    subst hU
    refine ⟨r, S', T', r1, by rw [h1]; exact k1, (k3.1 0 11 (by omega)).trans e, f1, fun q j hq => ?_⟩
    have hq1 : ¬ goP q j := fun hn => hq (Or.inl hn)
    have hq2 : q ≠ 4 := fun hn => hq (Or.inr hn)
    rw [k3.1 q j (fun hn => by unfold goP at hq1; omega), f2 q j hq1, upR_ne _ _ hq2]
theorem op_fault {S T : St} (h : Rel S T) (v : Int32) : Opp (c_N_fault v S) (m_fault v T) := by
  obtain ⟨X, E, h⟩ := h
  have h := h.z (nI 0)
  unfold c_N_fault m_fault
  rw [bnd_eq, show up2 T 0 0 (0 : Int32) = up2 T 0 0 (nI 0) from rfl]
  generalize up2 T 0 0 (nI 0) = T at h ⊢
  obtain ⟨b, L, t, pt, g1, g2⟩ := h.1
  have l64 : m_isIn v.toInt64 (0 : Int64) (1 : Int64) T = m_isIn v.toInt64 (lN 0) (lN 1) T := rfl
  rw [l64]
  rcases within2 v (l := 0) (h := 1) (by omega) (by omega) S T with ⟨k, _, hk, rfl, _, e⟩ | ⟨_, e, hno⟩
  · rw [e, bI_some, if_neg (show ¬ nI 1 = (0 : Int32) by decide)]
    by_cases hk0 : k = 0
    · subst hk0
      obtain ⟨r, S', T', r1, r2, f1, f2, e1, _⟩ := street_ls t pt g1 g2
      rw [if_pos (show nI 0 = (0 : Int32) from rfl), if_pos (show nI 0 = (0 : Int32) from rfl), r1, r2, bI_some, bV_some, e1]
      exact opp_go h _ (f1.mono (fun q j hq => by unfold cSt at hq; unfold jC kC; omega)) (f2.mono (fun q j hq => by unfold mSt at hq; unfold jM kM; omega))
    · have hk1 : k = 1 := by omega
      subst hk1
      obtain ⟨r, S', T', r1, r2, e1, f1, f2⟩ := lk_read (X := X) (E := E) t pt g1 g2
      have r2' : m_goThrough_1 (0 : Int32) (T 0 6) T = some T' := r2
      rw [if_neg (show ¬ nI 1 = (0 : Int32) by decide), if_neg (show ¬ nI 1 = (0 : Int32) by decide), if_pos (show nI 1 = (1 : Int32) from rfl), r1]
      simp only []
      rw [r2', bI_some, bV_some, e1]
      exact opp_go h _ (f1.mono cF_jC) (f2.mono (fun q j hq => by unfold goP at hq; unfold jM kM; omega))
  · rw [e, bI_some, if_pos (show nI 0 = (0 : Int32) from rfl), if_neg (show ¬ v = (0 : Int32) from hno 0 (by omega) (by omega)), if_neg (show ¬ v = (1 : Int32) from hno 1 (by omega) (by omega))]
    exact opp_now h _
/-- what a code is worth, by letters -/
def zSt (cd : Nat → Int32) (cl : Nat) (lt : Nat → Nat) : St := fun q j => if q = 16 then nI cl else if q = 20 then cd j else if q = 129 then nI (lt j) else 0
def eOf (cd : Nat → Int32) (cl : Nat) : Ev := fun lt => match c_Liking_worth_129 (16 + 0) (zSt cd cl lt) with
  | some z => z.1
  | none => 0
theorem eOf_eq {cd : Nat → Int32} {cl : Nat} {lt : Nat → Nat} {res : Option Int32} (h : Cls cd lt 0 cl res) (hcl : cl ≤ 160) : eOf cd cl lt = clsV res := by
  obtain ⟨z, e, z1, _⟩ := worth_of h hcl (j := 0) (S := zSt cd cl lt) (by omega) rfl (fun k hk => rfl) (fun k hk => rfl)
  unfold eOf
  rw [e]
  exact z1
theorem code_of {b : Nat → Nat} {L : Nat} (t : Txt b L) {S S' : St} (pt : PT b L S) (hr : c_Reader_read_13 S = some (-nI 1, S')) : ∃ cl, cl ≤ 160 ∧ S' 13 3 = nI cl ∧ ∀ lt : Nat → Nat, (∀ k, k < 6 → lt k ≤ 10000) → ∃ res, Cls (S' 14) lt 0 cl res ∧ Bd (clsV res) := by
  have hL := t.1
  have base : ∀ lt : Nat → Nat, (∀ k, k < 6 → lt k ≤ 10000) → ∃ cl res, S' 13 3 = nI cl ∧ cl ≤ 160 ∧ Cls (S' 14) lt 0 cl res ∧ Bd (clsV res) := by
    intro lt hlt
    obtain ⟨r, S2, U, r1, r2, _, _, _, g⟩ := read1_ls t hlt (S := S) (T := upR (fun _ k => sb (b k)) 4 (ltA lt)) (bs := 0) pt (fun k hk => by rw [upR_ne _ _ (by omega), show 0 + k = k by omega]) (by omega) (ltA_ok _ _)
    rw [hr] at r1
    have e := Option.some.inj r1
    have e1 : -nI 1 = r := congrArg Prod.fst e
    have e2 : S' = S2 := congrArg Prod.snd e
    subst e2
    rcases g with ⟨_, cl, res, g1, g2, g3, _, g5⟩ | ⟨f, hf, g⟩
    · exact ⟨cl, res, g1, g2, g3, g5⟩
    · rw [g] at e1
      have := nI_nneg (a := f) (by omega)
      rw [← e1] at this
      exact (this.mp rfl).elim
  obtain ⟨cl, _, c1, c2, _⟩ := base (fun _ => 0) (fun k _ => by omega)
  refine ⟨cl, c2, c1, fun lt hlt => ?_⟩
  obtain ⟨cl', res, d1, d2, d3, d4⟩ := base lt hlt
  have : cl' = cl := by
    rw [c1] at d1
    rw [nI_eqE (by omega) (by omega)] at d1
    exact d1.symm
  subst this
  exact ⟨res, d3, d4⟩
theorem lkC_of {b : Nat → Nat} {L : Nat} (t : Txt b L) {S S' S2 : St} (pt : PT b L S) (hr : c_Reader_read_13 S = some (-nI 1, S')) {cl j : Nat} (hcl : cl ≤ 160) (h13 : S' 13 3 = nI cl) (hc : ∀ lt : Nat → Nat, (∀ k, k < 6 → lt k ≤ 10000) → ∃ res, Cls (S' 14) lt 0 cl res ∧ Bd (clsV res)) (hj : j < 4) (h2 : S2 (16 + j) 2 = nI cl) (h3 : ∀ k, k < 160 → S2 (20 + j) k = S' 14 k) : LkC S2 j (eOf (S' 14) cl) := by
  intro S3 lt a1 a2 a3
  obtain ⟨res, c1, c2⟩ := hc lt (fun k hk => (a3 k hk).2)
  obtain ⟨z, e, z1, z2⟩ := worth_of c1 hcl hj (S := S3) (a1.trans h2) (fun k hk => (a2 k (by omega)).trans (h3 k (by omega))) (fun k hk => (a3 k hk).1)
  exact ⟨z, e, z1.trans (eOf_eq c1 hcl).symm, z2.mono (fun q j hq => by omega)⟩
theorem lkM_of {b : Nat → Nat} {L : Nat} (t : Txt b L) {S S' T2 : St} (pt : PT b L S) (hr : c_Reader_read_13 S = some (-nI 1, S')) {cl j : Nat} (hcl : cl ≤ 160) (h13 : S' 13 3 = nI cl) (hj : j < 4) (h2 : T2 3 j = nI L) (h3 : ∀ k, k < L → T2 2 (160 * j + k) = sb (b k)) : LkM T2 j (eOf (S' 14) cl) := by
  have hL := t.1
  intro T3 lt a1 l0 l1 l2 l3 l4 l5 hb
  obtain ⟨r, S2, U, r1, r2, _, f2, _, g⟩ := read2_ls t hb (S := S) (T := T3) (bs := 160 * j) pt (fun k hk => (a1 k (by omega)).trans (h3 k hk)) (by omega) ⟨l0, l1, l2, l3, l4, l5⟩
  rw [hr] at r1
  have e := Option.some.inj r1
  have e1 : -nI 1 = r := congrArg Prod.fst e
  have e2 : S' = S2 := congrArg Prod.snd e
  subst e2
  rw [h2]
  rcases g with ⟨_, cl', res, g1, g2, g3, g4, _⟩ | ⟨f, hf, g⟩
  · have : cl' = cl := by
      rw [h13] at g1
      rw [nI_eqE (by omega) (by omega)] at g1
      exact g1.symm
    subst this
    exact ⟨U, r2, g4.trans (eOf_eq g3 g2).symm, f2⟩
  · rw [g] at e1
    have := nI_nneg (a := f) (by omega)
    rw [← e1] at this
    exact (this.mp rfl).elim
theorem eOf_bd {cd : Nat → Int32} {cl : Nat} (hcl : cl ≤ 160) (hc : ∀ lt : Nat → Nat, (∀ k, k < 6 → lt k ≤ 10000) → ∃ res, Cls cd lt 0 cl res ∧ Bd (clsV res)) : BdE (eOf cd cl) := by
  intro lt hlt
  obtain ⟨res, c1, c2⟩ := hc lt hlt
  rw [eOf_eq c1 hcl]
  unfold Bd at c2
  omega
theorem sb_i8 (b : Nat) : ((sb b).toInt8.toInt32) = sb b := by
  unfold sb
  simp
theorem text_h56 {n L : Nat} (hn : n < 4) (hL : L ≤ 160) : ∀ (m k : Nat) (T : St), T 0 7 = nI n → (∀ j, j < L → ∃ v, T 1 j = sb v) → k ≤ L → L < m + k → ∃ T', m_text_h56 m (nI L) (nI k) T = some (nI n, T') ∧ (∀ j, k ≤ j → j < L → T' 2 (160 * n + j) = T 1 j) ∧ T' 3 n = nI L ∧ T' 0 7 = nI (n + 1) ∧ Fr (fun q j => (q = 2 ∧ 160 * n + k ≤ j ∧ j < 160 * n + L) ∨ (q = 3 ∧ j = n) ∨ (q = 0 ∧ j = 7)) T T' := by
  intro m
  induction m with
  | zero => intro k T h7 hs hk hm; omega
  | succ m ih =>
    intro k T h7 hs hk hm
    rw [m_text_h56]
    by_cases e : k < L
    · obtain ⟨v, hv⟩ := hs k e
      rw [if_neg (show ¬ nI L ≤ nI k from nI_ge e (by omega)), h7, ckI (by omega) (by omega), show (160 : Int32) * nI n + nI k = nI (160 * n + k) by rw [show (160 : Int32) = nI 160 from rfl, pk_mul, nI_add], ckI (by omega) (by omega), nI_clamp (by omega), nI_clamp (by omega), hv, sb_i8, bnd_eq, bnd_eq, show nI k + (1 : Int32) = nI (k + 1) from nI_add k 1]
      obtain ⟨T', r, g1, g2, g3, g4⟩ := ih (k + 1) (up2 T 2 (160 * n + k) (sb v)) ((up2_o (by omega)).trans h7) (fun j hj => by rw [up2_o (by omega)]; exact hs j hj) (by omega) (by omega)
      refine ⟨T', r, fun j hj1 hj2 => ?_, g2, g3, fun q j hp => ?_⟩
      · by_cases ej : j = k
        · rw [ej, g4 _ _ (by omega), up2_hit rfl rfl, hv]
        · rw [g1 j (by omega) hj2, up2_o (by omega)]
      · rw [g4 _ _ (by omega), up2_n (by omega)]
    · rw [if_pos (show nI L ≤ nI k from nI_le (by omega) (by omega)), h7, ckI (by omega) (by omega), nI_clamp (by omega), bnd_eq, bnd_eq, up2_o (show 0 ≠ 3 by omega), h7, show nI n + (1 : Int32) = nI (n + 1) from nI_add n 1, up2_hit rfl rfl, show nI (n + 1) - (1 : Int32) = nI n from s1_eq n]
      exact ⟨_, rfl, fun j _ _ => by omega, by rw [up2_o (by omega), up2_hit rfl rfl], up2_hit rfl rfl, fun q j hp => by rw [up2_n (by omega), up2_n (by omega)]⟩
