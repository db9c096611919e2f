/-! harm -/
def smP (po : Nat → Nat) : Nat → Nat
  | 0 => 0
  | k + 1 => smP po k + po k
def otP (po : Nat → Nat) (a : Nat) : Nat → Nat
  | 0 => 0
  | k + 1 => otP po a k + (if k = a then 0 else po k)
theorem smP_ot (po : Nat → Nat) (a : Nat) : ∀ n, smP po n = otP po a n + (if a < n then po a else 0)
  | 0 => by
    show 0 = 0 + _
    rw [if_neg (by omega)]
  | n + 1 => by
    have ih := smP_ot po a n
    show smP po n + po n = otP po a n + (if n = a then 0 else po n) + _
    by_cases e : n = a
    · subst e
      rw [if_pos rfl, if_pos (by omega)]
      rw [if_neg (by omega)] at ih
      omega
    · rw [if_neg e]
      by_cases e2 : a < n
      · rw [if_pos e2] at ih
        rw [if_pos (by omega)]
        omega
      · rw [if_neg e2] at ih
        rw [if_neg (by omega)]
        omega
theorem smP_le {po : Nat → Nat} {hs : Nat} (hp : ∀ k, k < hs → po k ≤ 99) : ∀ k, k ≤ hs → smP po k ≤ 99 * k
  | 0, _ => Nat.le_refl 0
  | k + 1, h => by
    have := smP_le hp k (by omega)
    have := hp k (by omega)
    show smP po k + po k ≤ _
    omega
theorem poisonOfAll_eq {S : St} {hs : Nat} {po : Nat → Nat} (h1 : S 28 0 = nI hs) (h6 : hs ≤ 6) (hp : ∀ k, k < hs → S (121 + k) 5 = nI (po k)) : c_Noon_poisonOfAll S = some (nI (smP po hs), S) := by
  have key : ∀ (n k : Nat), k ≤ hs → hs < n + k → c_Noon_poisonOfAll_h4 n (nI (smP po k)) (nI k) S = some (nI (smP po hs), S) := by
    intro n
    induction n with
    | zero => intro k hk hn; omega
    | succ n ih =>
      intro k hk hn
      rw [c_Noon_poisonOfAll_h4]
      simp only [lits, bnd_eq]
      rw [h1]
      by_cases e : k < hs
      · rw [if_neg (show ¬ nI hs ≤ nI k from nI_ge e (by omega)), got_eq (by omega) (by omega), bI_some]
        simp only []
        rw [hp k e, nI_add, nI_add]
        exact ih (k + 1) (by omega) (by omega)
      · have e2 : k = hs := by omega
        subst e2
        rw [if_pos (show nI k ≤ nI k from nI_le (by omega) (by omega))]
  exact key FU 0 (by omega) (by unfold FU; omega)
theorem harm_h91 {T : St} {hs a l g f : Nat} {po : Nat → Nat} {L46 : Int32 → Int32 → Int32 → Int32 → Int32 → Int32 → St → Option (Int32 × St)} {L56 : Int32 → Int32 → Int32 → Int32 → Int32 → Int32 → Int32 → St → Option (Int32 × St)} {v3 v4 v5 : Int32} (h1 : T 0 24 = nI hs) (h6 : hs ≤ 6) (ha : a < 6) (hp : ∀ k, k < hs → T 16 (6 * k + 5) = nI (po k)) : ∀ (n k : Nat), k ≤ hs → hs < n + k → m_harm_h91 L46 L56 n (nI a) (nI l) v3 v4 v5 (nI g) (nI f) (nI (otP po a k)) (nI k) T = (if v4 = -nI 1 then L56 (nI a) (nI l) v3 (nI (100 * f + g)) (nI (otP po a hs)) (nI g) (nI (f + 1)) T else if nI (otP po a hs) < v5 then L56 (nI a) (nI l) v3 (nI (100 * f + g)) (nI (otP po a hs)) (nI g) (nI (f + 1)) T else L56 (nI a) (nI l) v3 v4 v5 (nI g) (nI (f + 1)) T) := by
  intro n
  induction n with
  | zero => intro k hk hn; omega
  | succ n ih =>
    intro k hk hn
    rw [m_harm_h91]
    unfold m_harm_b118 m_harm_b143 m_harm_b157 m_poisonOf
    simp only [lits, bnd_eq]
    rw [h1]
    by_cases e : k < hs
    · rw [if_neg (show ¬ nI hs ≤ nI k from nI_ge e (by omega))]
      have hi := ih (k + 1) (by omega) (by omega)
      rw [show otP po a (k + 1) = otP po a k + (if k = a then 0 else po k) from rfl] at hi
      by_cases c : k = a
      · rw [if_pos c] at hi
        rw [if_pos (show nI k = nI a by rw [c]), nI_add, nI_add]
        exact hi
      · rw [if_neg c] at hi
        rw [if_neg (nI_nn c (by omega) (by omega)), pk_mul, nI_add, ckI (by omega) (by omega), nI_clamp (by omega), bI_some]
        simp only []
        rw [hp k e, nI_add, nI_add]
        exact hi
    · have e2 : k = hs := by omega
      subst e2
      rw [if_pos (show nI k ≤ nI k from nI_le (by omega) (by omega)), pk_mul, nI_add, nI_add]
/-- grains that cannot be enough: the reference goes over them -/
theorem harm_low {X : Cf} {E : Ev} {S : St} {a l g : Nat} {v3 v4 v5 : Int32} {L46 : Int32 → Int32 → Int32 → Int32 → Int32 → Int32 → St → Option (Int32 × St)} (ha : a < X 0 0) (hgl : g < l) (hl : l ≤ 99) : ∀ (n f : Nat) (T : St), Re X E S T → f ≤ X 0 0 → X 0 0 < n + f → ∃ T', m_harm_h56 L46 n (nI a) (nI l) v3 v4 v5 (nI g) (nI f) T = L46 (nI a) (nI l) v3 v4 v5 (nI (g + 1)) T' ∧ Re X E S T' := by
  intro n
  induction n with
  | zero => intro f T h hf hn; omega
  | succ n ih =>
    intro f T h hf hn
    have mq := h.2.1.2.1
    have h6 := h.2.1.2.2.1.1.1
    rw [m_harm_h56]
    unfold m_harm_b157 m_poisonOf
    simp only [lits, bnd_eq]
    rw [mq.1]
    by_cases e : f < X 0 0
    · obtain ⟨S1, T1, po, r1, r2, r3, f1, f2⟩ := runP2 h e (show g ≤ 99 by omega)
      obtain ⟨p1, p2, p3⟩ := r3 a ha
      rw [if_neg (show ¬ nI (X 0 0) ≤ nI f from nI_ge e (by omega)), r2, bV_some, pk_mul, nI_add, ckI (by omega) (by omega), nI_clamp (by omega), bI_some]
      simp only []
      rw [p2, if_neg (show ¬ nI l ≤ nI (po a) from nI_ge (by omega) (by omega)), nI_add]
      exact ih (f + 1) T1 (h.go Fr.rfl f2) (by omega) (by omega)
    · rw [if_pos (show nI (X 0 0) ≤ nI f from nI_le (by omega) (by omega)), nI_add]
      exact ⟨T, rfl, h⟩
def hrI (v4 v5 v5' : Int32) : Prop := (v4 = -nI 1 ∧ v5 = -nI 1) ∨ (v4 ≠ -nI 1 ∧ v5 = v5')
theorem harm_in {X : Cf} {E : Ev} {a l g : Nat} {v3 : Int32} {L36 L46 : Int32 → Int32 → Int32 → Int32 → Int32 → Int32 → St → Option (Int32 × St)} (ha : a < X 0 0) (hg : g ≤ 99) (hl : l ≤ 99) : ∀ (n f : Nat) (v4 v5 v5' : Int32) (S T : St), Re X E S T → f ≤ X 0 0 → X 0 0 < n + f → hrI v4 v5 v5' → ∃ w4 w5 w5' S' T', c_N_harm_h46 L36 n (nI a) (nI l) v3 v4 v5 (nI g) (nI f) S = L36 (nI a) (nI l) v3 w4 w5 (nI (g + 1)) S' ∧ m_harm_h56 L46 n (nI a) (nI l) v3 v4 v5' (nI g) (nI f) T = L46 (nI a) (nI l) v3 w4 w5' (nI (g + 1)) T' ∧ Re X E S' T' ∧ hrI w4 w5 w5' := by
  intro n
  induction n with
  | zero => intro f v4 v5 v5' S T h hf hn; omega
  | succ n ih =>
    intro f v4 v5 v5' S T h hf hn hv
    have cq := h.2.1.1
    have mq := h.2.1.2.1
    have h6 := h.2.1.2.2.1.1.1
    rw [m_harm_h56, c_N_harm_h46]
    unfold m_harm_b157 m_poisonOf c_N_harm_b115 c_N_harm_b129
    simp only [lits, bnd_eq]
    rw [mq.1, cq.1]
    by_cases e : f < X 0 0
    · obtain ⟨S1, T1, po, r1, r2, r3, f1, f2⟩ := runP2 h e hg
      obtain ⟨p1, p2, p3⟩ := r3 a ha
      have h' := h.go f1 f2
      have hall : ∀ k, k < X 0 0 → po k ≤ 99 := fun k hk => Nat.le_trans (r3 k hk).2.2 hg
      have hsm := smP_le hall _ (Nat.le_refl _)
      have hot := smP_ot po a (X 0 0)
      rw [if_pos ha] at hot
      have h91 := harm_h91 (a := a) (L46 := L46) (L56 := m_harm_h56 L46 n) (l := l) (g := g) (f := f) (v3 := v3) (v4 := v4) (v5 := v5') h'.2.1.2.1.1 h6 (by omega) (fun k hk => (r3 k hk).2.1) FU 0 (by omega) (by unfold FU; omega)
      rw [show nI (otP po a 0) = nI 0 from rfl] at h91
      rw [if_neg (show ¬ nI (X 0 0) ≤ nI f from nI_ge e (by omega)), if_neg (show ¬ nI (X 0 0) ≤ nI f from nI_ge e (by omega)), r1, r2, bV_some, bV_some, got_eq (by omega) (by omega), bI_some, pk_mul 6 a, nI_add (6 * a) 5, ckI (by omega) (by omega), nI_clamp (by omega), bI_some]
      simp only []
      rw [poisonOfAll_eq h'.2.1.1.1 h6 (fun k hk => (r3 k hk).1), bI_some, p1, p2, h91]
      simp only []
      rw [pk_sub (by omega), show smP po (X 0 0) - po a = otP po a (X 0 0) by omega, pk_mul, nI_add, nI_add]
      by_cases c : po a < l
      · rw [if_pos (show nI (po a) < nI l from nI_lt c (by omega)), if_neg (show ¬ nI l ≤ nI (po a) from nI_ge c (by omega))]
        exact ih (f + 1) v4 v5 v5' S1 T1 h' (by omega) (by omega) hv
      · rw [if_neg (show ¬ nI (po a) < nI l from nI_nlt (by omega) (by omega)), if_pos (show nI l ≤ nI (po a) from nI_le (by omega) (by omega))]
        have hnew : hrI (nI (100 * f + g)) (nI (otP po a (X 0 0))) (nI (otP po a (X 0 0))) := Or.inr ⟨fun e => by rw [nI_nneg (by omega)] at e; exact e, rfl⟩
        by_cases c4 : v4 = -nI 1
        · rw [if_pos c4, if_pos c4]
          exact ih (f + 1) _ _ _ S1 T1 h' (by omega) (by omega) hnew
        · rw [if_neg c4, if_neg c4]
          have hv5 : v5 = v5' := by
            rcases hv with hv | hv
            · exact absurd hv.1 c4
            · exact hv.2
          subst hv5
          by_cases c5 : v5 ≤ nI (otP po a (X 0 0))
          · rw [if_pos c5, if_neg (show ¬ nI (otP po a (X 0 0)) < v5 from Int32.not_lt.mpr c5)]
            exact ih (f + 1) _ _ _ S1 T1 h' (by omega) (by omega) (Or.inr ⟨c4, rfl⟩)
          · rw [if_neg c5, if_pos (show nI (otP po a (X 0 0)) < v5 from Int32.not_le.mp c5)]
            exact ih (f + 1) _ _ _ S1 T1 h' (by omega) (by omega) hnew
    · rw [if_pos (show nI (X 0 0) ≤ nI f from nI_le (by omega) (by omega)), if_pos (show nI (X 0 0) ≤ nI f from nI_le (by omega) (by omega)), nI_add]
      exact ⟨v4, v5, v5', S, T, rfl, rfl, h, hv⟩
theorem harm_out {X : Cf} {E : Ev} {a l : Nat} {v3 : Int32} (ha : a < X 0 0) (hl : l ≤ 99) : ∀ (n n' g : Nat) (v4 v5 v5' : Int32) (S T : St), Re X E S T → g ≤ 100 → 100 < n + g → 100 < n' + g → hrI v4 v5 v5' → Opp (c_N_harm_h36 n (nI a) (nI l) v3 v4 v5 (nI g) S) (m_harm_h46 n' (nI a) (nI l) v3 v4 v5' (nI g) T) := by
  intro n
  induction n with
  | zero => intro n' g v4 v5 v5' S T h hg hn; omega
  | succ n ih =>
    intro n' g v4 v5 v5' S T h hg hn hn' hv
    obtain ⟨n', rfl⟩ : ∃ m, n' = m + 1 := ⟨n' - 1, by omega⟩
    have h6 := h.2.1.2.2.1.1.1
    rw [c_N_harm_h36, m_harm_h46]
    simp only [lits]
    by_cases e : g ≤ 99
    · rw [if_neg (show ¬ nI 99 < nI g from nI_nlt e (by omega)), if_neg (show ¬ nI 100 ≤ nI g from nI_ge (by omega) (by omega))]
      obtain ⟨w4, w5, w5', S', T', r1, r2, h', hw⟩ := harm_in (v3 := v3) (L36 := c_N_harm_h36 n) (L46 := m_harm_h46 n') ha e hl FU 0 v4 v5 v5' S T h (by omega) (by unfold FU; omega) hv
      rw [r1, r2]
      exact ih n' (g + 1) w4 w5 w5' S' T' h' (by omega) (by omega) (by omega) hw
    · rw [if_pos (show nI 99 < nI g from nI_lt (by omega) (by omega)), if_pos (show nI 100 ≤ nI g from nI_le (by omega) (by omega))]
      rcases hv with ⟨x1, x2⟩ | ⟨x1, x2⟩
      · rw [if_pos x1, x1, x2]
        by_cases c : v3 = nI 0
        · rw [if_pos c]; exact opp_now h _
        · rw [if_neg c]; exact opp_now h _
      · rw [if_neg x1, x2]
        by_cases c : v3 = nI 0
        · rw [if_pos c, if_pos c]; exact opp_now h _
        · rw [if_neg c, if_neg c]; exact opp_now h _
theorem harm_to {X : Cf} {E : Ev} {S : St} {a l : Nat} {v3 v4 v5 : Int32} (ha : a < X 0 0) (hl : l ≤ 99) : ∀ (d n g : Nat) (T : St), Re X E S T → g + d = l → ∃ T', m_harm_h46 (n + d) (nI a) (nI l) v3 v4 v5 (nI g) T = m_harm_h46 n (nI a) (nI l) v3 v4 v5 (nI l) T' ∧ Re X E S T' := by
  intro d
  induction d with
  | zero =>
    intro n g T h hd
    have : g = l := by omega
    subst this
    exact ⟨T, rfl, h⟩
  | succ d ih =>
    intro n g T h hd
    have h6 := h.2.1.2.2.1.1.1
    rw [show n + (d + 1) = (n + d) + 1 from rfl, m_harm_h46]
    simp only [lits]
    rw [if_neg (show ¬ nI 100 ≤ nI g from nI_ge (by omega) (by omega))]
    obtain ⟨T1, e1, h1⟩ := harm_low (v3 := v3) (v4 := v4) (v5 := v5) (L46 := m_harm_h46 (n + d)) ha (show g < l by omega) hl FU 0 T h (by omega) (by unfold FU; omega)
    rw [e1]
    exact ih n (g + 1) T1 h1 (by omega)
theorem op_harm {S T : St} (h : Rel S T) (v w u : Int32) : Opp (c_N_harm v w u S) (m_harm v w u T) := by
  obtain ⟨X, E, h⟩ := h
  unfold c_N_harm m_harm
  simp only [lits, lits64, bnd_eq, nzI0, nzI1]
  have h := h.z (nI 0)
  generalize up2 T 0 0 (nI 0) = T at h ⊢
  rcases house2 h v with ⟨a, ha, ha6, rfl, e1, e2⟩ | ⟨e1, e2⟩
  · rw [e1, e2, bI_some, bI_some, if_neg m10, if_neg m10]
    simp only []
    rcases within2 w (l := 1) (h := 99) (by omega) (by omega) S T with ⟨l, l1, hl, rfl, e7, e8⟩ | ⟨e7, e8, _⟩
    · rw [e7, e8, bI_some, bI_some, if_neg m10, if_neg m10]
      simp only []
      rcases choice2 u S T with ⟨c, hc, rfl, e5, e6⟩ | ⟨e5, e6⟩
      · rw [e5, e6, bI_some, bI_some, if_neg m10, if_neg m10]
        simp only []
        obtain ⟨T1, r1, h1⟩ := harm_to (v3 := nI c) (v4 := -nI 1) (v5 := nI 0) ha hl (l - 1) (FU - (l - 1)) 1 T h (by omega)
        rw [show FU - (l - 1) + (l - 1) = FU by unfold FU; omega] at r1
        rw [r1]
        exact harm_out ha hl FU (FU - (l - 1)) l _ _ _ S T1 h1 (by omega) (by unfold FU; omega) (by unfold FU; omega) (Or.inl ⟨rfl, rfl⟩)
      · rw [e5, e6, bI_some, bI_some, if_pos rfl, if_pos rfl]
        exact opp_now h _
    · rw [e7, e8, bI_some, bI_some, if_pos rfl, if_pos rfl]
      exact opp_now h _
  · rw [e1, e2, bI_some, bI_some, if_pos rfl, if_pos rfl]
    exact opp_now h _
