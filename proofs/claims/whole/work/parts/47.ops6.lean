/-! exchange -/
theorem xchC {S : St} {p q : Nat} (hp : p < 6) (hq : q < 6) : c_Street_exchangeLadles (nI p) (nI q) S = some (up2 (up2 S 30 p (S 30 q)) 30 q (S 30 p)) := by
  unfold c_Street_exchangeLadles
  simp only [lits, bnd_eq]
  rw [withinC (by omega) (by omega) (by omega), if_pos (by omega), bI_some, if_neg m10]
  simp only []
  rw [withinC (by omega) (by omega) (by omega), if_pos (by omega), bI_some, if_neg m10]
  simp only []
  rw [ckI hp (by omega), ckI hq (by omega), ckI hp (by omega), ckI hq (by omega), nI_clamp (by omega), nI_clamp (by omega)]
theorem xchM {T : St} {p q : Nat} (hp : p < 6) (hq : q < 6) : m_exchangeLadles (nI p) (nI q) T = some (up2 (up2 T 7 (8 * p + 5) (T 7 (8 * q + 5))) 7 (8 * q + 5) (T 7 (8 * p + 5))) := by
  unfold m_exchangeLadles
  simp only [lits, bnd_eq]
  rw [pk_mul, pk_mul, nI_add, nI_add, ckI (by omega) (by omega), ckI (by omega) (by omega), ckI (by omega) (by omega), ckI (by omega) (by omega), nI_clamp (by omega), nI_clamp (by omega)]
def swX (X : Cf) (p q : Nat) : Cf := fun a b => if a = 2 then (if b = q then X 2 p else if b = p then X 2 q else X 2 b) else X a b
theorem swX_n {X : Cf} {p q a b : Nat} (h : a ≠ 2) : swX X p q a b = X a b := if_neg h
theorem swX_2 {X : Cf} {p q b : Nat} : swX X p q 2 b = (if b = q then X 2 p else if b = p then X 2 q else X 2 b) := if_pos rfl
theorem swX_iv {X : Cf} (iv : Iv X) {p q : Nat} (hp : p < X 0 0) (hq : q < X 0 0) : Iv (swX X p q) := by
  obtain ⟨i1, i2, i3, i4, i5, i6, i7, i8, i9, i10, i11⟩ := iv
  have z : ∀ a b, a ≠ 2 → swX X p q a b = X a b := fun a b h => swX_n h
  refine ⟨by rw [z _ _ (by omega)]; exact i1, by rw [z _ _ (by omega)]; exact i2, by rw [z _ _ (by omega)]; exact i3, by rw [z _ _ (by omega)]; exact i4, by rw [z _ _ (by omega)]; exact i5, by rw [z _ _ (by omega)]; exact i6, by rw [z _ _ (by omega)]; exact i7, fun s hs => by rw [z _ _ (by omega)]; exact i8 s hs, fun a ha => ?_, ?_, ?_⟩
  · rw [z _ _ (by omega)] at ha
    obtain ⟨j1, j2, j3, j4, j5⟩ := i9 a ha
    refine ⟨?_, by rw [z _ _ (by omega)]; exact j2, by rw [z _ _ (by omega)]; exact j3, by rw [z _ _ (by omega)]; exact j4, fun s hs => by rw [z _ _ (by omega)]; exact j5 s hs⟩
    rw [swX_2]
    have := (i9 p hp).1
    have := (i9 q hq).1
    repeat' split
    all_goals omega
  · intro a ha
    rw [z 0 0 (by omega)] at ha ⊢
    rw [z _ _ (by omega)]; exact i10 a ha
  · intro a c ha hc e
    rw [z 0 0 (by omega)] at ha hc
    rw [z _ _ (by omega), z _ _ (by omega)] at e
    exact i11 a c ha hc e
theorem swX_cq {X : Cf} {S : St} {p q : Nat} (h : Cq S 33 X) (h6 : X 0 0 ≤ 6) (hp : p < X 0 0) (hq : q < X 0 0) : Cq (up2 (up2 S 30 p (S 30 q)) 30 q (S 30 p)) 33 (swX X p q) := by
  obtain ⟨h1, h2, h3, h4, h5, h6, h7, h8⟩ := h
  have z : ∀ a b, a ≠ 2 → swX X p q a b = X a b := fun a b h => swX_n h
  have y : ∀ a b, a ≠ 30 → (up2 (up2 S 30 p (S 30 q)) 30 q (S 30 p)) a b = S a b := fun a b h => by rw [up2_o h, up2_o h]
  refine ⟨by rw [z _ _ (by omega), y _ _ (by omega)]; exact h1, by rw [z _ _ (by omega), y _ _ (by omega)]; exact h2, by rw [z _ _ (by omega), y _ _ (by omega)]; exact h3, by rw [z _ _ (by omega), y _ _ (by omega)]; exact h4, by rw [z _ _ (by omega), y _ _ (by omega)]; exact h5, fun s hs => by rw [z _ _ (by omega), y _ _ (by omega)]; exact h6 s hs, fun a ha => ?_, fun a ha => by rw [z _ _ (by omega), y _ _ (by omega)]; exact h8 a (by rw [z _ _ (by omega)] at ha; exact ha)⟩
  rw [z _ _ (by omega)] at ha
  obtain ⟨g1, g2, g3, g4, g5⟩ := h7 a ha
  refine ⟨?_, by rw [z _ _ (by omega), y _ _ (by omega)]; exact g2, by rw [z _ _ (by omega), y _ _ (by omega)]; exact g3, by rw [z _ _ (by omega), y _ _ (by omega)]; exact g4, fun s hs => by rw [z _ _ (by omega), y _ _ (by omega)]; exact g5 s hs⟩
  rw [swX_2]
  by_cases e : a = q
  · rw [if_pos e, up2_hit rfl e]; exact (h7 p hp).1
  · rw [if_neg e, up2_k e]
    by_cases e2 : a = p
    · rw [if_pos e2, up2_hit rfl e2]; exact (h7 q hq).1
    · rw [if_neg e2, up2_k e2]; exact g1
theorem swX_mq {X : Cf} {T : St} {p q : Nat} (h : Mq T X) (h6 : X 0 0 ≤ 6) (hp : p < X 0 0) (hq : q < X 0 0) : Mq (up2 (up2 T 7 (8 * p + 5) (T 7 (8 * q + 5))) 7 (8 * q + 5) (T 7 (8 * p + 5))) (swX X p q) := by
  obtain ⟨h1, h2, h3, h4, h6, h7, h8⟩ := h
  have z : ∀ a b, a ≠ 2 → swX X p q a b = X a b := fun a b h => swX_n h
  have y : ∀ a b, ¬ (a = 7 ∧ b % 8 = 5) → (up2 (up2 T 7 (8 * p + 5) (T 7 (8 * q + 5))) 7 (8 * q + 5) (T 7 (8 * p + 5))) a b = T a b := fun a b h => by rw [up2_n (by omega), up2_n (by omega)]
  refine ⟨by rw [z _ _ (by omega), y _ _ (by omega)]; exact h1, by rw [z _ _ (by omega), y _ _ (by omega)]; exact h2, by rw [z _ _ (by omega), y _ _ (by omega)]; exact h3, by rw [z _ _ (by omega), y _ _ (by omega)]; exact h4, fun s hs => by rw [z _ _ (by omega), y _ _ (by omega)]; exact h6 s hs, fun a ha => ?_, fun a ha => by rw [z _ _ (by omega), y _ _ (by omega)]; exact h8 a (by rw [z _ _ (by omega)] at ha; exact ha)⟩
  rw [z _ _ (by omega)] at ha
  obtain ⟨g1, g2, g3, g4, g5⟩ := h7 a ha
  refine ⟨?_, by rw [z _ _ (by omega), y _ _ (by omega)]; exact g2, by rw [z _ _ (by omega), y _ _ (by omega)]; exact g3, by rw [z _ _ (by omega), y _ _ (by omega)]; exact g4, fun s hs => by rw [z _ _ (by omega), y _ _ (by omega)]; exact g5 s hs⟩
  rw [swX_2]
  by_cases e : a = q
  · rw [if_pos e, up2_hit rfl (by omega)]; exact (h7 p hp).1
  · rw [if_neg e, up2_k (by omega)]
    by_cases e2 : a = p
    · rw [if_pos e2, up2_hit rfl (by omega)]; exact (h7 q hq).1
    · rw [if_neg e2, up2_k (by omega)]; exact g1
theorem xch2 {X : Cf} {E : Ev} {S T : St} (h : Re X E S T) {p q : Nat} (hpq : p < q) (hq : q < X 0 0) : ∃ x S' T', c_N_leastMealExchanged (nI p) (nI q) S = some (x, S') ∧ (∀ (K : Int32 → St → Option (Int32 × St)), (bV (m_exchangeLadles (nI p) (nI q) T) (fun S2 => (bV (m_noon (S2 0 32) S2) (fun S3 => (bI (m_allMeals (nI 1) (S3 0 32) S3) (fun x5 S4 => (bV (m_exchangeLadles (nI p) (nI q) S4) (fun S6 => K x5 S6)))))))) = K x T') ∧ Re X E S' T' := by
  obtain ⟨q1, ⟨cq, mq, ⟨iv, pl, lw⟩, hd, h40, h42⟩, q3, q4⟩ := h
  have hre : Re X E S T := ⟨q1, ⟨cq, mq, ⟨iv, pl, lw⟩, hd, h40, h42⟩, q3, q4⟩
  have h6 := iv.1
  have hp : p < X 0 0 := by omega
  have ivY := swX_iv iv hp hq
  have cqY := swX_cq cq h6 hp hq
  have mqY := swX_mq mq h6 hp hq
  have z : ∀ a b, a ≠ 2 → swX X p q a b = X a b := fun a b h => swX_n h
  have plY : Pl (swX X p q) := ⟨(z 0 5 (by omega)).trans pl.1, (z 0 7 (by omega)).trans pl.2⟩
  have x0 := z 0 0 (by omega)
  have x4 := z 0 4 (by omega)
  generalize swX X p q = Y at *
  have h0 : 0 < Y 0 0 := by omega
  have ce := q3.ce
  have ceY : CE (up2 (up2 S 30 p (S 30 q)) 30 q (S 30 p)) E := ce.1.fr (fun a b hq => by rw [up2_n (by omega), up2_n (by omega)])
  have meY : ME (up2 (up2 T 7 (8 * p + 5) (T 7 (8 * q + 5))) 7 (8 * q + 5) (T 7 (8 * p + 5))) E := ce.2.fr (fun a b hq => by rw [up2_n (by omega), up2_n (by omega)])
  obtain ⟨S1, r1, n1⟩ := run_ok (Or.inl rfl) ivY plY h0 cqY
  have mps : Mps (up2 (up2 T 7 (8 * p + 5) (T 7 (8 * q + 5))) 7 (8 * q + 5) (T 7 (8 * p + 5))) Y := ⟨Or.inr ⟨plY.1, by rw [up2_n (by omega), up2_n (by omega)]; exact h40⟩, fun hn => absurd plY.1 hn, Or.inr ⟨plY.2, by rw [up2_n (by omega), up2_n (by omega)]; exact h42⟩, fun hn => absurd plY.2 hn, by rw [plY.1]; omega, by rw [plY.2]; omega⟩
  obtain ⟨T1, r2, n2⟩ := noonM_ok ivY h0 mqY mps
  have nc := NrC.of n1 cqY (Or.inl rfl) ceY
  have nm := NrM.of n2 mqY meY
  obtain ⟨⟨x, S2⟩, r3, p1, p2⟩ := leastMeal_ok (Or.inl rfl) ivY nc
  obtain ⟨⟨y, T2⟩, r4, p3, p4⟩ := allMeals_ok (b := 1) (by omega) ivY h0 nm
  simp only at p1 p2 p3 p4
  rw [show allE E Y 1 = mnM E Y (Y 0 0) from if_neg (by omega)] at p3
  subst p1
  subst p3
  have fS : ∀ a b, kC a b → S2 a b = (up2 (up2 S 30 p (S 30 q)) 30 q (S 30 p)) a b := fun a b hk => by
    rw [p2 a b (fun hn => meal_jC a b hn hk), n1.2.2.2 a b (fun hn => noon_jC a b hn hk)]
  have fT : ∀ a b, kM a b → T2 a b = (up2 (up2 T 7 (8 * p + 5) (T 7 (8 * q + 5))) 7 (8 * q + 5) (T 7 (8 * p + 5))) a b := fun a b hk => by
    rw [p4 a b (fun hn => meal_jM a b hn hk), n2.2.2 a b (fun hn => noon_jM a b hn hk)]
  have k30 : ∀ j, kC 30 j := fun j => by unfold kC; omega
  have k7 : ∀ j, kM 7 j := fun j => by unfold kM; omega
  have k32 : kM 0 32 := by unfold kM; omega
  refine ⟨mnM E Y (Y 0 0), up2 (up2 S2 30 p (S2 30 q)) 30 q (S2 30 p), up2 (up2 T2 7 (8 * p + 5) (T2 7 (8 * q + 5))) 7 (8 * q + 5) (T2 7 (8 * p + 5)), ?_, fun K => ?_, ?_⟩
  · unfold c_N_leastMealExchanged
    rw [xchC (by omega) (by omega), bV_some, r1, bV_some, r3, bI_some]
    simp only []
    rw [xchC (by omega) (by omega), bV_some]
  · have d1 : (up2 (up2 T 7 (8 * p + 5) (T 7 (8 * q + 5))) 7 (8 * q + 5) (T 7 (8 * p + 5))) 0 32 = nI (Y 0 4) := by rw [up2_n (by omega), up2_n (by omega), x4]; exact hd
    have d2 : T1 0 32 = nI (Y 0 4) := by rw [n2.2.2 0 32 (fun hn => noon_jM _ _ hn k32)]; exact d1
    rw [xchM (by omega) (by omega), bV_some, d1, r2, bV_some, d2, r4, bI_some]
    simp only []
    rw [xchM (by omega) (by omega), bV_some]
  · refine hre.fr (fun a b hk => ?_) (fun a b hk => ?_)
    · by_cases e : a = 30
      · subst e
        rw [fS _ _ (k30 q), fS _ _ (k30 p)]
        by_cases e1 : b = q
        · rw [up2_hit rfl e1, up2_k (by omega), up2_hit rfl rfl, e1]
        · rw [up2_k e1]
          by_cases e2 : b = p
          · rw [up2_hit rfl e2, up2_hit rfl rfl, e2]
          · rw [up2_k e2, fS _ _ (k30 b), up2_k e1, up2_k e2]
      · rw [up2_o e, up2_o e, fS a b hk, up2_o e, up2_o e]
    · by_cases e : a = 7
      · subst e
        rw [fT _ _ (k7 _), fT _ _ (k7 _)]
        by_cases e1 : b = 8 * q + 5
        · rw [up2_hit rfl e1, up2_k (by omega), up2_hit rfl rfl, e1]
        · rw [up2_k e1]
          by_cases e2 : b = 8 * p + 5
          · rw [up2_hit rfl e2, up2_hit rfl rfl, e2]
          · rw [up2_k e2, fT _ _ (k7 b), up2_k e1, up2_k e2]
      · rw [up2_o e, up2_o e, fT a b hk, up2_o e, up2_o e]
theorem exch_in {X : Cf} {E : Ev} {p : Nat} {v1 : Int32} {L L' : Int32 → Int32 → Int32 → Int32 → St → Option (Int32 × St)} : ∀ (n q : Nat) (v2 v3 : Int32) (S T : St), Re X E S T → p < q → q ≤ X 0 0 → X 0 0 < n + q → ∃ w2 w3 S' T', c_N_exchange_h59 L n v1 v2 v3 (nI p) (nI q) S = L v1 w2 w3 (nI (p + 1)) S' ∧ m_exchange_h64 L' n v1 v2 v3 (nI p) (nI q) T = L' v1 w2 w3 (nI (p + 1)) T' ∧ Re X E S' T' := by
  intro n
  induction n with
  | zero => intro q v2 v3 S T h hpq hq hn; omega
  | succ n ih =>
    intro q v2 v3 S T h hpq hq hn
    have cq := h.2.1.1
    have mq := h.2.1.2.1
    have h6 := h.2.1.2.2.1.1.1
    rw [c_N_exchange_h59, m_exchange_h64]
    unfold c_N_exchange_b99 m_exchange_b129
    simp only [lits, bnd_eq]
    rw [mq.1, cq.1]
    by_cases e : q < X 0 0
    · obtain ⟨x, S1, T1, r1, r2, h1⟩ := xch2 h hpq e
      rw [if_neg (show ¬ nI (X 0 0) ≤ nI q from nI_ge e (by omega)), if_neg (show ¬ nI (X 0 0) ≤ nI q from nI_ge e (by omega)), r1, bI_some, r2, nI_add]
      simp only []
      by_cases c : x ≤ v3
      · rw [if_pos c, if_neg (show ¬ v3 < x from Int32.not_lt.mpr c)]
        exact ih (q + 1) _ _ S1 T1 h1 (by omega) (by omega) (by omega)
      · rw [if_neg c, if_pos (show v3 < x from Int32.not_le.mp c)]
        exact ih (q + 1) _ _ S1 T1 h1 (by omega) (by omega) (by omega)
    · rw [if_pos (show nI (X 0 0) ≤ nI q from nI_le (by omega) (by omega)), if_pos (show nI (X 0 0) ≤ nI q from nI_le (by omega) (by omega)), nI_add]
      exact ⟨v2, v3, S, T, rfl, rfl, h⟩
theorem exch_out {X : Cf} {E : Ev} {v1 : Int32} : ∀ (n p : Nat) (v2 v3 : Int32) (S T : St), Re X E S T → p ≤ X 0 0 → X 0 0 < n + p → Opp (c_N_exchange_h41 n v1 v2 v3 (nI p) S) (m_exchange_h49 n v1 v2 v3 (nI p) T) := by
  intro n
  induction n with
  | zero => intro p v2 v3 S T h hp hn; omega
  | succ n ih =>
    intro p v2 v3 S T h hp hn
    have cq := h.2.1.1
    have mq := h.2.1.2.1
    have h6 := h.2.1.2.2.1.1.1
    rw [c_N_exchange_h41, m_exchange_h49]
    simp only [lits, bnd_eq]
    rw [mq.1, cq.1]
    by_cases e : p < X 0 0
    · rw [if_neg (show ¬ nI (X 0 0) ≤ nI p from nI_ge e (by omega)), if_neg (show ¬ nI (X 0 0) ≤ nI p from nI_ge e (by omega)), nI_add]
      obtain ⟨w2, w3, S', T', r1, r2, h'⟩ := exch_in (p := p) (v1 := v1) (L := c_N_exchange_h41 n) (L' := m_exchange_h49 n) FU (p + 1) v2 v3 S T h (by omega) (by omega) (by unfold FU; omega)
      rw [r1, r2]
      exact ih (p + 1) w2 w3 S' T' h' (by omega) (by omega)
    · rw [if_pos (show nI (X 0 0) ≤ nI p from nI_le (by omega) (by omega)), if_pos (show nI (X 0 0) ≤ nI p from nI_le (by omega) (by omega))]
      by_cases c : v1 = nI 0
      · rw [if_pos c, if_pos c]; exact opp_now h _
      · rw [if_neg c, if_neg c]; exact opp_now h _
theorem op_exchange {S T : St} (h : Rel S T) (v : Int32) : Opp (c_N_exchange v S) (m_exchange v T) := by
  obtain ⟨X, E, h⟩ := h
  unfold c_N_exchange m_exchange
  simp only [lits, lits64, bnd_eq, nzI0, nzI1]
  have h := h.z (nI 0)
  generalize up2 T 0 0 (nI 0) = T at h ⊢
  rcases street2 h with ⟨h0, e1, e2⟩ | ⟨h0, e1, e2⟩
  · rw [e1, bI_some, if_neg m10, if_neg e2]
    simp only []
    rcases choice2 v S T with ⟨c, hc, rfl, e5, e6⟩ | ⟨e5, e6⟩
    · rw [e5, e6, bI_some, bI_some, if_neg m10, if_neg m10]
      simp only []
      obtain ⟨S1, T1, r1, r2, n1, n2, nc, nm, hr⟩ := run2 h h0
      have iv := h.2.1.2.2.1.1
      have hd1 : T1 0 32 = nI (X 0 4) := hr.2.1.2.2.2.1
      obtain ⟨⟨x, S2⟩, r3, p1, p2⟩ := leastMeal_ok (Or.inl rfl) iv nc
      obtain ⟨⟨y, T2⟩, r4, p3, p4⟩ := allMeals_ok (b := 1) (by omega) iv h0 nm
      simp only at p1 p3
      rw [show allE E X 1 = mnM E X (X 0 0) from if_neg (by omega)] at p3
      subst p1
      subst p3
      rw [r1, r2, bV_some, bV_some, r3, bI_some, hd1, r4, bI_some]
      exact exch_out FU 0 _ _ _ _ (hr.go (p2.mono meal_jC) (p4.mono meal_jM)) (by omega) (by have := iv.1; unfold FU; omega)
    · rw [e5, e6, bI_some, bI_some, if_pos rfl, if_pos rfl]
      exact opp_now h _
  · rw [e1, bI_some, if_pos rfl, if_pos e2]
    exact opp_now h _
