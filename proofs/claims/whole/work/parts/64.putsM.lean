/-! puts, the reference's way -/
section PUTSM
variable {X : Cf} {E : Ev} {S0 T0 : St} {b : Nat}
def TP (T0 T : St) : Prop := Kp T0 T ∧ ∀ j, j < 6 → T 11 j = T0 11 j
theorem TP.fr {T T' : St} (h : TP T0 T) (hf : Fr (fun q j => jM q j ∨ (q = 12 ∧ j < 6)) T T') (h22 : ∀ j, T' 22 j = T 22 j ∧ T' 23 j = T 23 j) : TP T0 T' := by
  refine ⟨h.1.fr (hf.mono (fun q j hq => ?_)) h22, fun j hj => ?_⟩
  · rcases hq with hq | hq
    · exact Or.inl hq
    · exact Or.inr ⟨Or.inr hq.1, hq.2⟩
  · rw [hf 11 j (by unfold jM kM; omega)]; exact h.2 j hj
theorem leaf_P (h : Re X E S0 T0) (h0 : 0 < X 0 0) (hb : b ≤ 1) {g : Nat → Nat} {T : St} {row : Int32} {rec : Int32 → Int32 → Int32 → St → Option St} (tk0 : TP T0 T) (hg : ∀ j, j < X 0 0 → okP X j (g j)) (h12 : ∀ j, j < X 0 0 → T 12 j = nI (g j)) :
    ∃ T2, (bk (pX X g) (X 0 0 - 1) = -nI 1 → m_goPuts rec (nI (X 0 0)) row (nI b) T = bV (m_offers row (allE E (pX X g) b) T2) (fun S4 => some S4)) ∧ (bk (pX X g) (X 0 0 - 1) ≠ -nI 1 → m_goPuts rec (nI (X 0 0)) row (nI b) T = some T2) ∧ Fr (fun q j => nnM q j ∨ mealPM q j) T T2 := by
  obtain ⟨q1, ⟨cq0, mq0, ⟨iv, pl, lw⟩, hd, h40, h42⟩, q3, q4⟩ := h
  have h6 := iv.1
  obtain ⟨ce0, me0⟩ := q3.ce
  have z := pX_o X g
  have ivY := pX_iv iv hg
  have y : ∀ q j, kM q j → q ≠ 11 → q ≠ 12 → T q j = T0 q j := fun q j hk h1 h2 => tk0.1.2 q j (fun hn => by
    rcases hn with hn | hn
    · exact hn hk
    · omega)
  have mqY : Mq T (pX X g) := by
    obtain ⟨m1, m2, m3, m4, m6, m7, m8⟩ := mq0
    refine ⟨by rw [z _ _ (by omega), y _ _ (by unfold kM; omega) (by omega) (by omega)]; exact m1, by rw [z _ _ (by omega), y _ _ (by unfold kM; omega) (by omega) (by omega)]; exact m2, by rw [z _ _ (by omega), y _ _ (by unfold kM; omega) (by omega) (by omega)]; exact m3, by rw [z _ _ (by omega), y _ _ (by unfold kM; omega) (by omega) (by omega)]; exact m4, fun s hs => by rw [z _ _ (by omega), y _ _ (by unfold kM; omega) (by omega) (by omega)]; exact m6 s hs, fun a ha => ?_, fun p hp => ?_⟩
    · rw [z _ _ (by omega)] at ha
      obtain ⟨u1, u2, u3, u4, u5⟩ := m7 a ha
      exact ⟨by rw [z _ _ (by omega), y _ _ (by unfold kM; omega) (by omega) (by omega)]; exact u1, by rw [z _ _ (by omega), y _ _ (by unfold kM; omega) (by omega) (by omega)]; exact u2, by rw [z _ _ (by omega), y _ _ (by unfold kM; omega) (by omega) (by omega)]; exact u3, by rw [pX_7 X g ha]; exact h12 a ha, fun s hs => by rw [z _ _ (by omega), y _ _ (by unfold kM; omega) (by omega) (by omega)]; exact u5 s hs⟩
    · rw [z _ _ (by omega)] at hp
      rw [z _ _ (by omega), tk0.2 p (by omega)]; exact m8 p hp
  have plY : Pl (pX X g) := ⟨(z 0 5 (by omega)).trans pl.1, (z 0 7 (by omega)).trans pl.2⟩
  have mps : Mps T (pX X g) := ⟨Or.inr ⟨plY.1, by rw [y _ _ (by unfold kM; omega) (by omega) (by omega)]; exact h40⟩, fun hn => absurd plY.1 hn, Or.inr ⟨plY.2, by rw [y _ _ (by unfold kM; omega) (by omega) (by omega)]; exact h42⟩, fun hn => absurd plY.2 hn, by rw [plY.1]; omega, by rw [plY.2]; omega⟩
  have meT : ME T E := me0.fr (fun q j hq => y q j (by unfold kM; omega) (by omega) (by omega))
  have x0 := z 0 0 (by omega)
  have x4 := z 0 4 (by omega)
  have hT : T 0 32 = nI (pX X g 0 4) := by rw [x4, y _ _ (by unfold kM; omega) (by omega) (by omega)]; exact hd
  have hT24 : T 0 24 = nI (X 0 0) := by rw [y _ _ (by unfold kM; omega) (by omega) (by omega)]; exact mq0.1
  generalize pX X g = Y at *
  obtain ⟨T1, r1, n1⟩ := noonM_ok ivY (by omega) mqY mps
  have nm := NrM.of n1 mqY meT
  obtain ⟨⟨v, T2⟩, r2, p1, p2⟩ := allMeals_ok hb ivY (by omega) nm
  simp only at p1 p2
  subst p1
  have hT1 : T1 0 32 = nI (Y 0 4) := by rw [n1.2.2 0 32 (by unfold nnM; omega)]; exact hT
  have h39 : T1 0 39 = bk Y (X 0 0 - 1) := by rw [n1.2.1, x0]
  by_cases c : bk Y (X 0 0 - 1) = -nI 1
  · refine ⟨T2, fun _ => ?_, fun hn => absurd c hn, (n1.2.2.mono (fun q j hq => Or.inl hq)).tr (p2.mono (fun q j hq => Or.inr hq))⟩
    unfold m_goPuts
    rw [hT24, if_pos rfl, hT, r1, bV_some, h39, c, if_pos (show -nI 1 = (-1 : Int32) from rfl), hT1, r2, bI_some]
  · refine ⟨T1, fun hc => absurd hc c, fun _ => ?_, n1.2.2.mono (fun q j hq => Or.inl hq)⟩
    unfold m_goPuts
    rw [hT24, if_pos rfl, hT, r1, bV_some, h39, if_neg (show ¬ bk Y (X 0 0 - 1) = (-1 : Int32) from c)]
def SubM (X : Cf) (E : Ev) (b h : Nat) (g : Nat → Nat) (d : Nat) (v : Int32) : Prop := ∃ g' : Nat → Nat, (∀ j, j < h → g' j = g j) ∧ (∀ j, j < X 0 0 → okP X j (g' j)) ∧ bk (pX X g') (X 0 0 - 1) = -nI 1 ∧ d = dH g' (X 0 0) ∧ v = allE E (pX X g') b
theorem ok_9 {X : Cf} {h s : Nat} (hk : okP X h s) : s ≤ 9 := by
  rcases hk with hk | hk <;> omega
set_option maxHeartbeats 1000000 in
theorem put_M (h : Re X E S0 T0) (h0 : 0 < X 0 0) (hb : b ≤ 1) : ∀ (e p n : Nat) (g : Nat → Nat) (A : Nat → Int32 → Prop) (T : St), p + e = X 0 0 → e + 1 ≤ n → TP T0 T → (∀ j, j < p → T 12 j = nI (g j)) → (∀ j, j < p → okP X j (g j)) → MB A T → (∀ d v, A d v → d < dH g p * 10 ^ e) →
    ∃ T', m_gp n (nI p) (nI (dH g p)) (nI b) T = some T' ∧ MB (fun d v => A d v ∨ SubM X E b p g d v) T' ∧ TP T0 T' ∧ (∀ j, j < p → T' 12 j = T 12 j) := by
  have iv := h.2.1.2.2.1.1
  have hs6 := iv.1
  have hT24 : ∀ T, TP T0 T → T 0 24 = nI (X 0 0) := fun T tk0 => by
    rw [tk0.1.2 0 24 (by unfold jP jM kM; omega)]; exact h.2.1.2.1.1
  intro e
  induction e with
  | zero =>
    intro p n g A T hpe hn tp h12 hg mb hA
    obtain ⟨n, rfl⟩ : ∃ a, n = a + 1 := ⟨n - 1, by omega⟩
    have ep : p = X 0 0 := by omega
    subst ep
    obtain ⟨T2, l1, l2, f2⟩ := leaf_P (rec := m_gp n) (row := nI (dH g (X 0 0))) h h0 hb tp hg h12
    have hlt : dH g (X 0 0) < 2 ^ 31 := Nat.lt_of_lt_of_le (dH_lt _ (fun j hj => ok_9 (hg j hj))) (Nat.le_trans (Nat.pow_le_pow_right (by omega) hs6) (by decide))
    have f2' : Fr (fun q j => jM q j ∨ (q = 12 ∧ j < 6)) T T2 := f2.mono (fun q j hq => Or.inl (by
      rcases hq with hq | hq
      · exact noon_jM q j hq
      · exact meal_jM q j hq))
    have tp2 : TP T0 T2 := tp.fr f2' (fun j => ⟨f2 _ _ (by unfold nnM mealPM goP; omega), f2 _ _ (by unfold nnM mealPM goP; omega)⟩)
    have mb2 : MB A T2 := mb.fr (fun j h1 h2 => f2 _ _ (by unfold nnM mealPM goP; omega))
    have t12 : ∀ j, T2 12 j = T 12 j := fun j => f2 _ _ (by unfold nnM mealPM goP; omega)
    rw [m_gp]
    by_cases c : bk (pX X g) (X 0 0 - 1) = -nI 1
    · obtain ⟨T3, r3, mb3, f3⟩ := cons_M (x := allE E (pX X g) b) mb2 hlt (fun d v ha => by
        have := hA d v ha
        rw [Nat.pow_zero] at this
        omega)
      rw [l1 c, r3, bV_some]
      refine ⟨T3, rfl, mb3.cg (fun d v => ?_), tp2.fr (f3.mono (fun q j hq => Or.inl (by unfold b49 at hq; unfold jM kM; omega))) (fun j => ⟨f3 _ _ (by unfold b49; omega), f3 _ _ (by unfold b49; omega)⟩), fun j hj => (f3 _ _ (by unfold b49; omega)).trans (t12 j)⟩
      refine ⟨fun ha => ha.elim Or.inl (fun ha => Or.inr ⟨g, fun _ _ => rfl, hg, c, ha.1, ha.2⟩), fun ha => ha.elim Or.inl (fun ⟨g', w1, w2, w3, w4, w5⟩ => Or.inr ?_)⟩
      rw [w4, w5, pX_cg w1, dH_cg _ w1]
      exact ⟨rfl, rfl⟩
    · rw [l2 c]
      refine ⟨T2, rfl, mb2.cg (fun d v => ⟨Or.inl, fun ha => ha.elim id (fun ⟨g', w1, w2, w3, _⟩ => absurd (by rw [← pX_cg w1]; exact w3) c)⟩), tp2, fun j _ => t12 j⟩
  | succ e ihe =>
    intro p n g A T hpe hn tp h12 hg mb hA
    obtain ⟨n, rfl⟩ : ∃ a, n = a + 1 := ⟨n - 1, by omega⟩
    have hp : p < X 0 0 := by omega
    have hrow : dH g p < 1000000 := Nat.lt_of_lt_of_le (dH_lt _ (fun j hj => ok_9 (hg j hj))) (Nat.le_trans (Nat.pow_le_pow_right (by omega) (show p ≤ 6 by omega)) (by decide))
    -- one put of this house
    have one : ∀ (s : Nat) (A : Nat → Int32 → Prop) (T : St), okP X p s → TP T0 T → (∀ j, j < p → T 12 j = nI (g j)) → MB A T → (∀ d v, A d v → d < (dH g p * 10 + s) * 10 ^ e) →
        ∃ T', m_gp n (nI (p + 1)) (nI (dH g p * 10 + s)) (nI b) (up2 T 12 p (nI s)) = some T' ∧ MB (fun d v => A d v ∨ SubM X E b (p + 1) (fun j => if j = p then s else g j) d v) T' ∧ TP T0 T' ∧ (∀ j, j < p → T' 12 j = T 12 j) ∧ (∀ d v, (A d v ∨ SubM X E b (p + 1) (fun j => if j = p then s else g j) d v) → d < (dH g p * 10 + s + 1) * 10 ^ e) := by
      intro s A T hok tp h12 mb hA
      have gp : (fun j => if j = p then s else g j) p = s := if_pos rfl
      have go : ∀ j, j ≠ p → (fun j => if j = p then s else g j) j = g j := fun j hj => if_neg hj
      generalize (fun j => if j = p then s else g j) = g1 at gp go
      have ed : dH g1 (p + 1) = dH g p * 10 + s := by
        show dH g1 p * 10 + g1 p = _
        rw [gp, dH_cg p (fun j hj => go j (by omega))]
      have tp1 : TP T0 (up2 T 12 p (nI s)) := tp.fr (Fr.rfl.up (Or.inr ⟨rfl, by omega⟩)) (fun j => ⟨up2_o (by omega), up2_o (by omega)⟩)
      obtain ⟨T', r, m1, m2, m3⟩ := ihe (p + 1) n g1 A (up2 T 12 p (nI s)) (by omega) (by omega) tp1 (fun j hj => by
        by_cases c : j = p
        · rw [up2_hit rfl c, c, gp]
        · rw [up2_k c, go j c]; exact h12 j (by omega)) (fun j hj => by
        by_cases c : j = p
        · rw [c, gp]; exact hok
        · rw [go j c]; exact hg j (by omega)) (mb.fr (fun j _ _ => up2_o (by omega))) (fun d v ha => by rw [ed]; exact hA d v ha)
      rw [ed] at r
      refine ⟨T', r, m1, m2, fun j hj => (m3 j (by omega)).trans (up2_k (by omega)), fun d v ha => ?_⟩
      rcases ha with ha | ⟨g', w1, w2, w3, w4, w5⟩
      · exact Nat.lt_of_lt_of_le (hA d v ha) (Nat.mul_le_mul_right _ (by omega))
      · have := (dH_rng w1 e (fun j hj => ok_9 (w2 j (by omega)))).2
        rw [ed, show p + 1 + e = X 0 0 by omega] at this
        rw [w4]; exact this
    -- the puts of this house in turn
    have loop : ∀ (m s : Nat) (A : Nat → Int32 → Prop) (T : St), s ≤ 5 → 5 < m + s → TP T0 T → (∀ j, j < p → T 12 j = nI (g j)) → MB A T → (∀ d v, A d v → d < (dH g p * 10 + s) * 10 ^ e) →
        ∃ T', m_goPuts_h42 (m_gp n) m (nI p) (nI (dH g p)) (nI b) (nI s) T = some T' ∧ MB (fun d v => A d v ∨ ∃ s', ((s ≤ s' ∧ s' < 5 ∧ X 0 1 ≤ X (10 + p) s') ∨ s' = 9) ∧ SubM X E b (p + 1) (fun j => if j = p then s' else g j) d v) T' ∧ TP T0 T' ∧ (∀ j, j < p → T' 12 j = T 12 j) := by
      intro m
      induction m with
      | zero => intro s A T hs hm; omega
      | succ m ihm =>
        intro s A T hs hm tp h12 mb hA
        rw [m_goPuts_h42]
        unfold m_goPuts_b95
        have e10 : ∀ s, (10 : Int32) * nI (dH g p) + nI s = nI (dH g p * 10 + s) := fun s => by
          rw [show (10 : Int32) = nI 10 from rfl, pk_mul, nI_add, Nat.mul_comm]
        by_cases c5 : s < 5
        · have hst : T 7 (8 * p + s) = nI (X (10 + p) s) := by
            rw [tp.1.2 7 _ (by unfold jP jM kM; omega)]; exact (h.2.1.2.1.2.2.2.2.2.1 p hp).2.2.2.2 s c5
          have hgr : T 9 0 = nI (X 0 1) := by
            rw [tp.1.2 9 _ (by unfold jP jM kM; omega)]; exact h.2.1.2.1.2.1
          have hX := (iv.2.2.2.2.2.2.2.2.1 p hp).2.2.2.2 s c5
          have hX1 := iv.2.1
          rw [if_neg (show ¬ (5 : Int32) ≤ nI s from nI_ge (b := 5) c5 (by omega)), show (8 : Int32) * nI p + nI s = nI (8 * p + s) by rw [show (8 : Int32) = nI 8 from rfl, pk_mul, nI_add], ckI (by omega) (by omega), show ckM (0 : Int32) 3 = fun (M : Option St) => M from funext (fun M => ckI (k := 0) (by omega) (by omega)), nI_clamp (by omega), show (0 : Int32).toNatClampNeg = 0 from nI_clamp (n := 0) (by omega), hst, hgr]
          simp only [bnd_eq]
          rw [show nI s + (1 : Int32) = nI (s + 1) from nI_add s 1]
          by_cases ce : X 0 1 ≤ X (10 + p) s
          · rw [if_pos (show nI (X 0 1) ≤ nI (X (10 + p) s) from nI_le ce (by omega)), ckI (by omega) (by omega), nI_clamp (by omega), show nI p + (1 : Int32) = nI (p + 1) from nI_add p 1, e10 s]
            obtain ⟨T1, r1, m1, t1, p1, b1⟩ := one s A T (Or.inr ⟨c5, ce⟩) tp h12 mb hA
            rw [r1, bV_some]
            obtain ⟨T', r2, m2, t2, p2⟩ := ihm (s + 1) _ T1 (by omega) (by omega) t1 (fun j hj => (p1 j hj).trans (h12 j hj)) m1 (fun d v ha => by
              have := b1 d v ha
              rw [show dH g p * 10 + (s + 1) = dH g p * 10 + s + 1 by omega]; exact this)
            refine ⟨T', r2, m2.cg (fun d v => ?_), t2, fun j hj => (p2 j hj).trans (p1 j hj)⟩
            constructor
            · rintro ((ha | ha) | ⟨s', hs', ha⟩)
              · exact Or.inl ha
              · exact Or.inr ⟨s, Or.inl ⟨by omega, c5, ce⟩, ha⟩
              · refine Or.inr ⟨s', ?_, ha⟩
                rcases hs' with hs' | hs'
                · exact Or.inl ⟨by omega, hs'.2⟩
                · exact Or.inr hs'
            · rintro (ha | ⟨s', hs', ha⟩)
              · exact Or.inl (Or.inl ha)
              · rcases hs' with hs' | hs'
                · by_cases ess : s' = s
                  · subst ess; exact Or.inl (Or.inr ha)
                  · exact Or.inr ⟨s', Or.inl ⟨by omega, hs'.2⟩, ha⟩
                · exact Or.inr ⟨s', Or.inr hs', ha⟩
          · rw [if_neg (show ¬ nI (X 0 1) ≤ nI (X (10 + p) s) from nI_ge (by omega) (by omega))]
            obtain ⟨T', r2, m2, t2, p2⟩ := ihm (s + 1) A T (by omega) (by omega) tp h12 mb (fun d v ha => Nat.lt_of_lt_of_le (hA d v ha) (Nat.mul_le_mul_right _ (by omega)))
            refine ⟨T', r2, m2.cg (fun d v => ?_), t2, p2⟩
            constructor
            · rintro (ha | ⟨s', hs', ha⟩)
              · exact Or.inl ha
              · refine Or.inr ⟨s', ?_, ha⟩
                rcases hs' with hs' | hs'
                · exact Or.inl ⟨by omega, hs'.2⟩
                · exact Or.inr hs'
            · rintro (ha | ⟨s', hs', ha⟩)
              · exact Or.inl ha
              · refine Or.inr ⟨s', ?_, ha⟩
                rcases hs' with hs' | hs'
                · have : s' ≠ s := fun e2 => ce (by rw [← e2]; exact hs'.2.2)
                  exact Or.inl ⟨by omega, hs'.2⟩
                · exact Or.inr hs'
        · have es : s = 5 := by omega
          subst es
          obtain ⟨T1, r1, m1, t1, p1, b1⟩ := one 9 A T (Or.inl rfl) tp h12 mb (fun d v ha => Nat.lt_of_lt_of_le (hA d v ha) (Nat.mul_le_mul_right _ (by omega)))
          have r1' : m_gp n (nI p + (1 : Int32)) ((10 : Int32) * nI (dH g p) + (9 : Int32)) (nI b) (up2 T 12 p (9 : Int32)) = some T1 := by
            rw [show nI p + (1 : Int32) = nI (p + 1) from nI_add p 1, show (9 : Int32) = nI 9 from rfl, e10 9]
            exact r1
          rw [if_pos (show (5 : Int32) ≤ nI 5 by decide), ckI (by omega) (by omega), nI_clamp (by omega), bnd_eq, r1', bV_some]
          refine ⟨T1, rfl, m1.cg (fun d v => ?_), t1, p1⟩
          constructor
          · rintro (ha | ha)
            · exact Or.inl ha
            · exact Or.inr ⟨9, Or.inr rfl, ha⟩
          · rintro (ha | ⟨s', hs', ha⟩)
            · exact Or.inl ha
            · rcases hs' with hs' | hs'
              · omega
              · subst hs'; exact Or.inr ha
    have hA' : ∀ d v, A d v → d < (dH g p * 10 + 0) * 10 ^ e := fun d v ha => by
      have := hA d v ha
      rw [Nat.pow_succ, Nat.mul_comm (10 ^ e) 10, ← Nat.mul_assoc] at this
      exact this
    obtain ⟨T', r, m1, m2, m3⟩ := loop FU 0 A T (by omega) (by unfold FU; omega) tp h12 mb hA'
    have r' : m_goPuts_h42 (m_gp n) FU (nI p) (nI (dH g p)) (nI b) (0 : Int32) T = some T' := r
    refine ⟨T', ?_, m1.cg (fun d v => ?_), m2, m3⟩
    · rw [m_gp]
      unfold m_goPuts
      rw [hT24 T tp, if_neg (nI_nn (by omega) (by omega) (by omega)), r']
    · constructor
      · rintro (ha | ⟨s', hs', g', w1, w2, w3, w4, w5⟩)
        · exact Or.inl ha
        · refine Or.inr ⟨g', fun j hj => ?_, w2, w3, w4, w5⟩
          have := w1 j (by omega)
          have e2 : (if j = p then s' else g j) = g j := if_neg (by omega)
          exact this.trans e2
      · rintro (ha | ⟨g', w1, w2, w3, w4, w5⟩)
        · exact Or.inl ha
        · refine Or.inr ⟨g' p, ?_, g', fun j hj => ?_, w2, w3, w4, w5⟩
          · rcases w2 p hp with hk | hk
            · exact Or.inr hk
            · exact Or.inl ⟨by omega, hk.1, hk.2⟩
          · show g' j = (if j = p then g' p else g j)
            by_cases c : j = p
            · rw [if_pos c, c]
            · rw [if_neg c]; exact w1 j (by omega)
end PUTSM
