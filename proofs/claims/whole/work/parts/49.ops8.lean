/-! about -/
def rtX (X : Cf) : Cf := fun q j => if q = 6 then (if j + 1 < X 0 0 then X 6 (j + 1) else X 6 0) else if q = 0 ∧ j = 4 then X 0 4 + 1 else X q j
theorem rtX_n {X : Cf} {q j : Nat} (h : q ≠ 6) (h2 : ¬ (q = 0 ∧ j = 4)) : rtX X q j = X q j := by
  unfold rtX
  rw [if_neg h, if_neg h2]
theorem rtX_4 {X : Cf} : rtX X 0 4 = X 0 4 + 1 := by
  unfold rtX
  rw [if_neg (by omega), if_pos ⟨rfl, rfl⟩]
theorem rtX_6 {X : Cf} {j : Nat} : rtX X 6 j = (if j + 1 < X 0 0 then X 6 (j + 1) else X 6 0) := if_pos rfl
theorem rtX_iv {X : Cf} (iv : Iv X) (h4 : X 0 4 + 1 ≤ 1100) : Iv (rtX X) := by
  obtain ⟨i1, i2, i3, i4, i5, i6, i7, i8, i9, i10, i11⟩ := iv
  have z : ∀ a b, a ≠ 6 → ¬ (a = 0 ∧ b = 4) → rtX X a b = X a b := fun a b h h2 => rtX_n h h2
  refine ⟨by rw [z _ _ (by omega) (by omega)]; exact i1, by rw [z _ _ (by omega) (by omega)]; exact i2, by rw [z _ _ (by omega) (by omega)]; exact i3, by rw [z _ _ (by omega) (by omega)]; exact i4, by rw [rtX_4]; exact h4, by rw [z _ _ (by omega) (by omega)]; exact i6, by rw [z _ _ (by omega) (by omega)]; exact i7, fun s hs => by rw [z _ _ (by omega) (by omega)]; exact i8 s hs, fun a ha => ?_, ?_, ?_⟩
  · rw [z _ _ (by omega) (by omega)] at ha
    obtain ⟨j1, j2, j3, j4, j5⟩ := i9 a ha
    exact ⟨by rw [z _ _ (by omega) (by omega)]; exact j1, by rw [z _ _ (by omega) (by omega)]; exact j2, by rw [z _ _ (by omega) (by omega)]; exact j3, by rw [z _ _ (by omega) (by omega)]; exact j4, fun s hs => by rw [z _ _ (by omega) (by omega)]; exact j5 s hs⟩
  · intro a ha
    rw [z 0 0 (by omega) (by omega)] at ha ⊢
    rw [rtX_6]
    by_cases c : a + 1 < X 0 0
    · rw [if_pos c]; exact i10 _ c
    · rw [if_neg c]; exact i10 _ (by omega)
  · intro a c ha hc e
    rw [z 0 0 (by omega) (by omega)] at ha hc
    rw [rtX_6, rtX_6] at e
    by_cases c1 : a + 1 < X 0 0
    · rw [if_pos c1] at e
      by_cases c2 : c + 1 < X 0 0
      · rw [if_pos c2] at e
        have := i11 _ _ c1 c2 e
        omega
      · rw [if_neg c2] at e
        have := i11 _ _ c1 (by omega) e
        omega
    · rw [if_neg c1] at e
      by_cases c2 : c + 1 < X 0 0
      · rw [if_pos c2] at e
        have := i11 _ _ (by omega) c2 e
        omega
      · omega
theorem turn_h9 {hs : Nat} (h6 : hs ≤ 6) (x : Int32) : ∀ (n k : Nat) (S : St), 1 ≤ k → k ≤ hs → hs < n + k → ∃ S', c_State_turnOrder_h9 38 n (nI hs) x (nI k) S = some S' ∧ (∀ j, k ≤ j + 1 → j + 1 < hs → S' 41 j = S 41 (j + 1)) ∧ S' 41 (hs - 1) = x ∧ Fr (fun q j => q = 41 ∧ k ≤ j + 1 ∧ j < hs) S S' := by
  intro n
  induction n with
  | zero => intro k S h1 h2; omega
  | succ n ih =>
    intro k S h1 h2 h3
    rw [c_State_turnOrder_h9]
    unfold c_State_turnOrder_b40
    simp only [lits, bnd_eq]
    by_cases e : k < hs
    · rw [if_neg (show ¬ nI hs ≤ nI k from nI_ge e (by omega)), if_neg (show ¬ nI 6 ≤ nI k from nI_ge (by omega) (by omega)), ckI (by omega) (by omega), pk_sub h1, ckI (by omega) (by omega), nI_clamp (by omega), nI_clamp (by omega), nI_add]
      obtain ⟨S', r, g1, g2, g3⟩ := ih (k + 1) (up2 S 41 (k - 1) (S 41 k)) (by omega) (by omega) (by omega)
      refine ⟨S', r, fun j hj1 hj2 => ?_, g2, fun q j hp => ?_⟩
      · by_cases ej : j + 1 = k
        · rw [g3 _ _ (by omega), up2_hit rfl (by omega), ej]
        · rw [g1 j (by omega) hj2]; exact up2_k (by omega)
      · rw [g3 _ _ (by omega)]; exact up2_n (by omega)
    · rw [if_pos (show nI hs ≤ nI k from nI_le (by omega) (by omega)), withinC (by omega) (by omega) (by omega), if_pos (by omega), bI_some, if_neg m10, pk_sub (by omega), ckI (by omega) (by omega), nI_clamp (by omega)]
      exact ⟨_, rfl, fun j _ _ => by omega, up2_hit rfl rfl, fun q j hp => up2_n (by omega)⟩
theorem turn_h134 {hs : Nat} (h0 : 1 ≤ hs) (h6 : hs ≤ 6) {L68 : Int32 → Int32 → Int32 → St → Option (Int32 × St)} {v1 v2 : Int32} {i : Nat} (x : Int32) : ∀ (n k : Nat) (T : St), T 0 24 = nI hs → 1 ≤ k → k ≤ hs → hs < n + k → ∃ T', m_about_h134 L68 n v1 v2 (nI i) x (nI k) T = L68 v1 v2 (nI (i + 1)) T' ∧ (∀ j, k ≤ j + 1 → j + 1 < hs → T' 11 j = T 11 (j + 1)) ∧ T' 11 (hs - 1) = x ∧ Fr (fun q j => q = 11 ∧ k ≤ j + 1 ∧ j < hs) T T' := by
  intro n
  induction n with
  | zero => intro k T h24 h1 h2; omega
  | succ n ih =>
    intro k T h24 h1 h2 h3
    rw [m_about_h134]
    simp only [lits, bnd_eq]
    rw [h24]
    by_cases e : k < hs
    · rw [if_neg (show ¬ nI hs ≤ nI k from nI_ge e (by omega)), ckI (by omega) (by omega), pk_sub h1, ckI (by omega) (by omega), nI_clamp (by omega), nI_clamp (by omega), nI_add]
      obtain ⟨T', r, g1, g2, g3⟩ := ih (k + 1) (up2 T 11 (k - 1) (T 11 k)) ((up2_o (by omega)).trans h24) (by omega) (by omega) (by omega)
      refine ⟨T', r, fun j hj1 hj2 => ?_, g2, fun q j hp => ?_⟩
      · by_cases ej : j + 1 = k
        · rw [g3 _ _ (by omega), up2_hit rfl (by omega), ej]
        · rw [g1 j (by omega) hj2]; exact up2_k (by omega)
      · rw [g3 _ _ (by omega)]; exact up2_n (by omega)
    · rw [if_pos (show nI hs ≤ nI k from nI_le (by omega) (by omega)), pk_sub (by omega), ckI (by omega) (by omega), nI_clamp (by omega), nI_add]
      exact ⟨_, rfl, fun j _ _ => by omega, up2_hit rfl rfl, fun q j hp => up2_n (by omega)⟩
def abC : Nat → Nat → Prop := fun q j => mealPC q j ∨ (q = 131 ∧ j < 6) ∨ (q = 41 ∧ j < 6) ∨ (q = 38 ∧ j = 0)
def abM : Nat → Nat → Prop := fun q j => mealPM q j ∨ (q = 24 ∧ j < 6) ∨ (q = 11 ∧ j < 6)
theorem about_in {Y : Cf} {E : Ev} {L L' : Int32 → Int32 → Int32 → St → Option (Int32 × St)} {v1 v2 : Int32} {i d : Nat} (iv : Iv Y) (h0 : 1 ≤ Y 0 0) (hd : Y 0 4 = d + i) : ∀ (n k : Nat) (S T : St), k ≤ Y 0 0 → Y 0 0 < n + k → NrC S 38 Y E → NrM T Y E → T 0 32 = nI d → (∀ h, h < Y 0 0 → S 131 h = T 24 h) →
    ∃ S' T', c_N_about_h73 L n v1 v2 (nI i) (nI k) S = L v1 v2 (nI (i + 1)) S' ∧ m_about_h86 L' n v1 v2 (nI i) (nI k) T = L' v1 v2 (nI (i + 1)) T' ∧ Cq S' 38 (rtX Y) ∧ Mq T' (rtX Y) ∧ Fr abC S S' ∧ Fr abM T T' ∧ (∀ h, h < Y 0 0 → S' 131 h = T' 24 h) := by
  have h6 := iv.1
  intro n
  induction n with
  | zero => intro k S T h1 h2; omega
  | succ n ih =>
    intro k S T hk hn nc nm ht htot
    rw [c_N_about_h73, m_about_h86]
    simp only [lits, bnd_eq]
    rw [nc.1.1, nm.1.1]
    by_cases e : k < Y 0 0
    · obtain ⟨⟨x, S1⟩, r1, p1, p2⟩ := mealCH nc iv e
      obtain ⟨⟨y, T1⟩, r2, p3, p4⟩ := mealMH nm iv e
      simp only at p1 p2 p3 p4
      rw [← p1] at p3
      subst p3
      rw [if_neg (show ¬ nI (Y 0 0) ≤ nI k from nI_ge e (by omega)), if_neg (show ¬ nI (Y 0 0) ≤ nI k from nI_ge e (by omega)), ckI (by omega) (by omega), ckI (by omega) (by omega), r1, bI_some, ht, nI_add d i, ← hd, r2, bI_some]
      simp only []
      rw [ckI (by omega) (by omega), ckI (by omega) (by omega), nI_clamp (by omega), nI_add, htot k e]
      have nc1 : NrC (up2 S1 131 k (T 24 k + y)) 38 Y E := (nc.meal (Or.inr rfl) iv p2).fr (Or.inr rfl) iv (fun q j hq => up2_o (by omega))
      have nm1 : NrM (up2 T1 24 k (T 24 k + y)) Y E := (nm.meal p4).fr2 iv (fun q j hq => up2_o (by omega))
      obtain ⟨S', T', r3, r4, g1, g2, g3, g4, g5⟩ := ih (k + 1) _ _ (by omega) (by omega) nc1 nm1 (by rw [up2_o (by omega), p4 0 32 (by unfold mealPM goP; omega)]; exact ht) (fun h hh => by
        by_cases eh : h = k
        · rw [up2_hit rfl eh, up2_hit rfl eh]
        · rw [up2_k eh, up2_k eh, p2 131 h (by unfold mealPC; omega), p4 24 h (by unfold mealPM goP; omega)]
          exact htot h hh)
      exact ⟨S', T', r3, r4, g1, g2, ((p2.mono (Q := abC) (fun q j hq => Or.inl hq)).up (o := 131) (k := k) (by unfold abC; omega)).tr g3, ((p4.mono (Q := abM) (fun q j hq => Or.inl hq)).up (o := 24) (k := k) (by unfold abM; omega)).tr g4, g5⟩
    · rw [if_pos (show nI (Y 0 0) ≤ nI k from nI_le (by omega) (by omega)), if_pos (show nI (Y 0 0) ≤ nI k from nI_le (by omega) (by omega))]
      unfold c_State_turnOrder
      simp only [lits, bnd_eq]
      rw [ckI (by omega) (by omega), ckI (by omega) (by omega), nI_clamp (by omega)]
      obtain ⟨S', r1, a1, a2, a3⟩ := turn_h9 h6 (S (38 + 3) 0) FU 1 S (by omega) h0 (by unfold FU; omega)
      obtain ⟨T', r2, b1, b2, b3⟩ := turn_h134 (L68 := L') (v1 := v1) (v2 := v2) (i := i) h0 h6 (T 11 0) FU 1 T nm.1.1 (by omega) h0 (by unfold FU; omega)
      rw [r1, bV_some, r2, nI_add]
      have hd' := nc.1.2.2.2.2.1
      have x0 : rtX Y 0 0 = Y 0 0 := rtX_n (by omega) (by omega)
      have hline : ∀ p, p < Y 0 0 → S' 41 p = nI (rtX Y 6 p) ∧ T' 11 p = nI (rtX Y 6 p) := fun p hp => by
        rw [rtX_6]
        by_cases c : p + 1 < Y 0 0
        · rw [if_pos c, a1 p (by omega) c, b1 p (by omega) c]
          exact ⟨nc.1.2.2.2.2.2.2.2 _ c, nm.1.2.2.2.2.2.2 _ c⟩
        · have ep : p = Y 0 0 - 1 := by omega
          rw [if_neg c, ep, a2, b2]
          exact ⟨nc.1.2.2.2.2.2.2.2 0 (by omega), nm.1.2.2.2.2.2.2 0 (by omega)⟩
      have ssY : SS Y (rtX Y) := ⟨fun j hj => rtX_n (by omega) (by omega), fun q j h1 h2 => rtX_n (by omega) (by omega)⟩
      refine ⟨_, T', rfl, rfl, ?_, ?_, ?_, b3.mono (fun q j hq => Or.inr (Or.inr ⟨hq.1, by omega⟩)), fun h hh => ?_⟩
      · refine nc.1.mk ssY (fun q j hq => by rw [up2_n (by omega), a3 q j (by omega)]) ⟨?_, fun a ha => ⟨?_, fun s hs => ?_⟩, fun p hp => ?_⟩
        · rw [up2_hit rfl rfl, a3 _ _ (by omega), hd', nI_add, rtX_4]
        · rw [up2_n (by omega), a3 _ _ (by omega), rtX_n (by omega) (by omega)]; exact (nc.1.2.2.2.2.2.2.1 a ha).2.2.2.1
        · rw [up2_n (by omega), a3 _ _ (by omega), rtX_n (by omega) (by omega)]; exact (nc.1.2.2.2.2.2.2.1 a ha).2.2.2.2 s hs
        · rw [up2_n (by omega)]; exact (hline p hp).1
      · obtain ⟨h1, h2, h3, h4, h5, h7, h8⟩ := nm.1
        have y : ∀ a b, a ≠ 11 → T' a b = T a b := fun a b h => b3 a b (by omega)
        have z : ∀ a b, a ≠ 6 → ¬ (a = 0 ∧ b = 4) → rtX Y a b = Y a b := fun a b h h2 => rtX_n h h2
        refine ⟨by rw [z _ _ (by omega) (by omega), y _ _ (by omega)]; exact h1, by rw [z _ _ (by omega) (by omega), y _ _ (by omega)]; exact h2, by rw [z _ _ (by omega) (by omega), y _ _ (by omega)]; exact h3, by rw [z _ _ (by omega) (by omega), y _ _ (by omega)]; exact h4, fun s hs => by rw [z _ _ (by omega) (by omega), y _ _ (by omega)]; exact h5 s hs, fun a ha => ?_, fun p hp => (hline p (by omega)).2⟩
        obtain ⟨g1, g2, g3, g4, g5⟩ := h7 a (by omega)
        exact ⟨by rw [z _ _ (by omega) (by omega), y _ _ (by omega)]; exact g1, by rw [z _ _ (by omega) (by omega), y _ _ (by omega)]; exact g2, by rw [z _ _ (by omega) (by omega), y _ _ (by omega)]; exact g3, by rw [z _ _ (by omega) (by omega), y _ _ (by omega)]; exact g4, fun s hs => by rw [z _ _ (by omega) (by omega), y _ _ (by omega)]; exact g5 s hs⟩
      · exact (a3.mono (fun q j hq => Or.inr (Or.inr (Or.inl ⟨hq.1, by omega⟩)))).up (Or.inr (Or.inr (Or.inr ⟨rfl, rfl⟩)))
      · rw [up2_n (by omega), a3 _ _ (by omega), b3 _ _ (by omega)]; exact htot h hh
theorem low2 {S T : St} {hs : Nat} (h1 : S 28 0 = nI hs) (h2 : T 0 24 = nI hs) (h6 : hs ≤ 6) (he : ∀ h, h < hs → S 131 h = T 24 h) : ∀ (n k l : Nat), k ≤ hs → l < hs → hs < n + k → ∃ r, c_N_lowestOfTotals_h4 n (nI l) (nI k) S = some (r, S) ∧ m_about_h205 n (nI l) (nI k) T = some (r, T) := by
  intro n
  induction n with
  | zero => intro k l hk hl hn; omega
  | succ n ih =>
    intro k l hk hl hn
    rw [c_N_lowestOfTotals_h4, m_about_h205]
    unfold c_N_lowestOfTotals_b32 m_about_b236
    simp only [lits, bnd_eq]
    rw [h1, h2]
    by_cases e : k < hs
    · rw [if_neg (show ¬ nI hs ≤ nI k from nI_ge e (by omega)), if_neg (show ¬ nI hs ≤ nI k from nI_ge e (by omega)), ckI (by omega) (by omega), ckI (by omega) (by omega), ckI (by omega) (by omega), ckI (by omega) (by omega), nI_clamp (by omega), nI_clamp (by omega), nI_add, he k e, he l hl]
      by_cases c : T 24 l ≤ T 24 k
      · rw [if_pos c, if_pos c]; exact ih (k + 1) l (by omega) hl (by omega)
      · rw [if_neg c, if_neg c]; exact ih (k + 1) k (by omega) (by omega) (by omega)
    · rw [if_pos (show nI hs ≤ nI k from nI_le (by omega) (by omega)), if_pos (show nI hs ≤ nI k from nI_le (by omega) (by omega))]
      exact ⟨_, rfl, rfl⟩
theorem about_out {X : Cf} {E : Ev} {S0 T0 : St} (h : Re X E S0 T0) (h0 : 0 < X 0 0) {N : Nat} (hN : N ≤ 30) {v1 : Int32} (hv : v1 = -nI 1 ∨ ∃ a, a < X 0 0 ∧ v1 = nI a) : ∀ (n i : Nat) (Y : Cf) (S T : St), i ≤ N → N < n + i → Fr jC S0 S → Kp T0 T → Cq S 38 Y → Mq T Y → Iv Y → Pl Y → Y 0 0 = X 0 0 → Y 0 4 = X 0 4 + i → (∀ h, h < X 0 0 → S 131 h = T 24 h) →
    ∃ r S' T', c_N_about_h54 n v1 (nI N) (nI i) S = some (r, S') ∧ m_about_h68 n v1 (nI N) (nI i) T = some (r, T') ∧ Fr jC S0 S' ∧ Fr jM T0 T' := by
  obtain ⟨q1, ⟨cq0, mq0, ⟨iv0, pl0, lw⟩, hd, h40, h42⟩, q3, q4⟩ := h
  have h6 := iv0.1
  have hday := lw.1
  obtain ⟨ce0, me0⟩ := q3.ce
  intro n
  induction n with
  | zero => intro i Y S T h1 h2; omega
  | succ n ih =>
    intro i Y S T hi hn fS kp cq mq iv pl y0 y4 htot
    rw [c_N_about_h54, m_about_h68]
    unfold c_N_lowestOfTotals
    simp only [lits, bnd_eq]
    have hT32 : T 0 32 = nI (X 0 4) := by rw [kp.2 _ _ (by unfold jP jM kM; omega)]; exact hd
    by_cases e : i < N
    · rw [if_neg (show ¬ nI N ≤ nI i from nI_ge e (by omega)), if_neg (show ¬ nI N ≤ nI i from nI_ge e (by omega))]
      have ceS : CE S E := ce0.fr (fun q j hq => fS q j (by unfold jC kC; omega))
      have meT : ME T E := me0.fr (fun q j hq => kp.2 q j (by unfold jP jM kM; omega))
      obtain ⟨S1, r1, n1⟩ := run_ok (Or.inr rfl) iv pl (by omega) cq
      have mps : Mps T Y := ⟨Or.inr ⟨pl.1, by rw [kp.2 _ _ (by unfold jP jM kM; omega)]; exact h40⟩, fun hn => absurd pl.1 hn, Or.inr ⟨pl.2, by rw [kp.2 _ _ (by unfold jP jM kM; omega)]; exact h42⟩, fun hn => absurd pl.2 hn, by rw [pl.1]; omega, by rw [pl.2]; omega⟩
      obtain ⟨T1, r2, n2⟩ := noonM_ok iv (by omega) mq mps
      have nc := NrC.of n1 cq (Or.inr rfl) ceS
      have nm := NrM.of n2 mq meT
      rw [r1, bV_some, hT32, nI_add, ← y4, r2, bV_some]
      have f1 : Fr noonP S S1 := n1.2.2.2
      have f2 : Fr nnM T T1 := n2.2.2
      obtain ⟨S', T', r3, r4, g1, g2, g3, g4, g5⟩ := about_in (L := c_N_about_h54 n) (L' := m_about_h68 n) (v1 := v1) (v2 := nI N) (d := X 0 4) iv (by omega) y4 FU 0 S1 T1 (by omega) (by unfold FU; omega) nc nm (by rw [f2 _ _ (by unfold nnM; omega)]; exact hT32) (fun a ha => by rw [f1 _ _ (by unfold noonP; omega), f2 _ _ (by unfold nnM; omega)]; exact htot a (by omega))
      rw [r3, r4]
      have fS' : Fr jC S0 S' := (fS.tr (f1.mono noon_jC)).tr (g3.mono (fun q j hq => by unfold abC mealPC at hq; unfold jC kC; omega))
      have fT' : Fr jP T T' := (f2.mono (fun q j hq => Or.inl (noon_jM q j hq))).tr (g4.mono (fun q j hq => by
        unfold abM at hq
        rcases hq with hq | hq | hq
        · exact Or.inl (meal_jM q j hq)
        · exact Or.inl (by unfold jM kM; omega)
        · exact Or.inr ⟨Or.inl hq.1, hq.2⟩))
      have t22 : ∀ q j, q = 22 ∨ q = 23 → T' q j = T q j := fun q j hq => by rw [g4 q j (by unfold abM mealPM goP; omega), f2 q j (by unfold nnM; omega)]
      exact ih (i + 1) (rtX Y) S' T' (by omega) (by omega) fS' (kp.fr fT' (fun j => ⟨t22 _ _ (by omega), t22 _ _ (by omega)⟩)) g1 g2 (rtX_iv iv (by omega)) ⟨(rtX_n (by omega) (by omega)).trans pl.1, (rtX_n (by omega) (by omega)).trans pl.2⟩ ((rtX_n (by omega) (by omega)).trans y0) (by rw [rtX_4]; omega) (fun a ha => g5 a (by omega))
    · obtain ⟨T', b1, b2, b3⟩ := kp.back
      rw [if_pos (show nI N ≤ nI i from nI_le (by omega) (by omega)), if_pos (show nI N ≤ nI i from nI_le (by omega) (by omega)), b1, bV_some]
      have htot' : ∀ h, h < X 0 0 → S 131 h = T' 24 h := fun a ha => by rw [b3 _ _ (by omega)]; exact htot a ha
      rcases hv with hv | ⟨a, ha, hv⟩
      · rw [if_pos hv, if_pos hv]
        obtain ⟨r, u1, u2⟩ := low2 (S := S) (T := T') (hs := X 0 0) (by rw [cq.1, y0]) (by rw [b3 _ _ (by omega), mq.1, y0]) h6 htot' FU 1 0 (by omega) h0 (by unfold FU; omega)
        rw [u1, u2, bI_some]
        exact ⟨_, _, _, rfl, rfl, fS, b2⟩
      · have hne : ¬ v1 = -nI 1 := fun e2 => by
          rw [hv, nI_nneg (by omega)] at e2; exact e2
        rw [if_neg hne, if_neg hne, hv, ckI (by omega) (by omega), ckI (by omega) (by omega), nI_clamp (by omega), htot' a ha]
        exact ⟨_, _, _, rfl, rfl, fS, b2⟩
theorem fill131 : ∀ (n k : Nat) (S : St), k ≤ 6 → 6 < n + k → ∃ S', c_Arrays_fill_131_h5 n (nI 0) (nI k) (nI 6) S = some S' ∧ (∀ j, k ≤ j → j < 6 → S' 131 j = nI 0) ∧ Fr (fun q j => q = 131 ∧ k ≤ j) S S' := by
  intro n
  induction n with
  | zero => intro k S h1 h2; omega
  | succ n ih =>
    intro k S h1 h2
    rw [c_Arrays_fill_131_h5]
    simp only [lits, bnd_eq]
    by_cases e : k < 6
    · rw [if_neg (show ¬ nI 6 ≤ nI k from nI_ge e (by omega)), ckI e (by omega), nI_clamp (by omega), nI_add]
      obtain ⟨S', r, g1, g2⟩ := ih (k + 1) (up2 S 131 k (nI 0)) (by omega) (by omega)
      refine ⟨S', r, fun j hj1 hj2 => ?_, fun q j hp => ?_⟩
      · by_cases ej : j = k
        · rw [ej, g2 _ _ (by omega), up2_hit rfl rfl]
        · exact g1 j (by omega) hj2
      · rw [g2 _ _ (by omega), up2_n (by omega)]
    · rw [if_pos (show nI 6 ≤ nI k from nI_le (by omega) (by omega))]
      exact ⟨S, rfl, fun j _ _ => by omega, Fr.rfl⟩
theorem zero24 {v1 v2 : Int32} : ∀ (n k : Nat) (T : St), k ≤ 6 → 6 < n + k → ∃ T', m_about_h47 n v1 v2 (nI k) T = m_about_h68 FU v1 v2 (nI 0) T' ∧ (∀ j, k ≤ j → j < 6 → T' 24 j = nI 0) ∧ Fr (fun q j => q = 24 ∧ k ≤ j) T T' := by
  intro n
  induction n with
  | zero => intro k S h1 h2; omega
  | succ n ih =>
    intro k T h1 h2
    rw [m_about_h47]
    simp only [lits, bnd_eq]
    by_cases e : k < 6
    · rw [if_neg (show ¬ nI 6 ≤ nI k from nI_ge e (by omega)), ckI e (by omega), nI_clamp (by omega), nI_add]
      obtain ⟨T', r, g1, g2⟩ := ih (k + 1) (up2 T 24 k (nI 0)) (by omega) (by omega)
      refine ⟨T', r, fun j hj1 hj2 => ?_, fun q j hp => ?_⟩
      · by_cases ej : j = k
        · rw [ej, g2 _ _ (by omega), up2_hit rfl rfl]
        · exact g1 j (by omega) hj2
      · rw [g2 _ _ (by omega), up2_n (by omega)]
    · rw [if_pos (show nI 6 ≤ nI k from nI_le (by omega) (by omega))]
      exact ⟨T, rfl, fun j _ _ => by omega, Fr.rfl⟩
theorem op_about {S T : St} (h : Rel S T) (v w : Int32) : Opp (c_N_about v w S) (m_about v w T) := by
  obtain ⟨X, E, h⟩ := h
  unfold c_N_about m_about c_N_about_b20 m_about_b25
  simp only [lits, lits64, bnd_eq, nzI0, nzI1]
  have h := h.z (nI 0)
  generalize up2 T 0 0 (nI 0) = T at h ⊢
  have iv := h.2.1.2.2.1.1
  have h6 := iv.1
  have main : 0 < X 0 0 → (v = -nI 1 ∨ ∃ a, a < X 0 0 ∧ v = nI a) → Opp (bI (c_N_isWithin w (nI 1) (nI 30) S) (fun x2 S1 => (if x2 = nI 0 then (some ((-100000000 : Int32), S1)) else (bV (c_Arrays_fill_131 (nI 0) S1) (fun S3 => (bV (c_State_copy 38 33 S3) (fun S4 => (c_N_about_h54 FU v w (nI 0) S4)))))))) (bI (m_isIn w.toInt64 (lN 1) (lN 30) T) (fun x2 S1 => (if x2 = nI 0 then (some ((-100000000 : Int32), S1)) else (bV (m_keep S1) (fun S3 => (m_about_h47 FU v w (nI 0) S3)))))) := by
    intro h0 hv
    rcases within2 w (l := 1) (h := 30) (by omega) (by omega) S T with ⟨N, N1, hN, rfl, e5, e6⟩ | ⟨e5, e6, _⟩
    · rw [e5, e6, bI_some, bI_some, if_neg m10, if_neg m10]
      simp only []
      unfold c_Arrays_fill_131
      simp only [lits]
      obtain ⟨S1, r1, a1, a2⟩ := fill131 FU 0 S (by omega) (by unfold FU; omega)
      rw [r1, bV_some]
      obtain ⟨S2, r2, g1, g2, g3, f1⟩ := copy_ok (o0 := 38) (o1 := 33) (by omega) S1
      obtain ⟨T1, r3, kp, k51, f2⟩ := keep_ok T
      obtain ⟨T2, r4, b1, b2⟩ := zero24 (v1 := v) (v2 := nI N) FU 0 T1 (by omega) (by unfold FU; omega)
      rw [r2, bV_some, r3, bV_some, r4]
      have cq1 : Cq S1 33 X := h.2.1.1.fr2 (fun q j hq => a2 q j (by omega))
      have cq2 : Cq S2 38 X := copy_cq cq1 iv (by omega) g1 g2 g3 f1
      have mq2 : Mq T2 X := h.2.1.2.1.fr (fun q j hq => by rw [b2 q j (by omega), f2 q j (by omega)])
      obtain ⟨r, S', T', r5, r6, fS, fT⟩ := about_out h h0 hN hv FU 0 X S2 T2 (by omega) (by unfold FU; omega) ((a2.mono (fun q j hq => by unfold jC kC; omega)).tr (f1.mono (fun q j hq => by unfold jC kC; omega))) (kp.fr (b2.mono (fun q j hq => Or.inl (by unfold jM kM; omega))) (fun j => ⟨b2 _ _ (by omega), b2 _ _ (by omega)⟩)) cq2 mq2 iv h.2.1.2.2.1.2.1 rfl rfl (fun a ha => by rw [f1 _ _ (by omega), a1 a (by omega) (by omega), b1 a (by omega) (by omega)])
      rw [r5, r6]
      exact opp_go h _ fS fT
    · rw [e5, e6, bI_some, bI_some, if_pos rfl, if_pos rfl]
      exact opp_now h _
  rcases street2 h with ⟨h0, e1, e2⟩ | ⟨h0, e1, e2⟩
  · rw [e1, bI_some, if_neg m10, if_neg e2]
    simp only []
    by_cases hv : v = -nI 1
    · rw [if_pos hv, if_pos hv]
      exact main h0 (Or.inl hv)
    · rw [if_neg hv, if_neg hv]
      rcases house2 h v with ⟨a, ha, ha6, hva, e3, e4⟩ | ⟨e3, e4⟩
      · rw [e3, e4, bI_some, bI_some, if_neg m10, if_neg m10]
        exact main h0 (Or.inr ⟨a, ha, hva⟩)
      · rw [e3, e4, bI_some, bI_some, if_pos rfl, if_pos rfl]
        exact opp_now h _
  · rw [e1, bI_some, if_pos rfl, if_pos e2]
    exact opp_now h _
