/-! days and drawn -/
theorem u64_l (u : UInt64) : u.toInt64 = lN u.toNat := by
  apply Int64.toBitVec_inj.mp
  show u.toBitVec = BitVec.ofNat 64 u.toNat
  apply BitVec.eq_of_toNat_eq
  rw [BitVec.toNat_ofNat]
  show u.toNat = u.toNat % 2 ^ 64
  rw [Nat.mod_eq_of_lt u.toNat_lt]
theorem rnd (x : Int64) : ∃ k, k < 6 ∧ ((((x.toUInt64 >>> ((33 : Int32).toInt64.toUInt64 &&& Int64.toUInt64 63)).toInt64) - ((x.toUInt64 >>> ((33 : Int32).toInt64.toUInt64 &&& Int64.toUInt64 63)).toInt64) / (6 : Int64) * (6 : Int64)).toInt32) = nI k := by
  have hs : ((33 : Int32).toInt64.toUInt64 &&& Int64.toUInt64 63) = (33 : UInt64) := by decide
  rw [hs, u64_l]
  have hn : (x.toUInt64 >>> (33 : UInt64)).toNat < 2 ^ 63 := by
    rw [UInt64.toNat_shiftRight, show (33 : UInt64).toNat % 64 = 33 by decide, Nat.shiftRight_eq_div_pow]
    have := x.toUInt64.toNat_lt
    omega
  generalize (x.toUInt64 >>> (33 : UInt64)).toNat = n at *
  rw [show (6 : Int64) = lN 6 from rfl, pk_lRem hn (by omega) (by omega), lN_i]
  exact ⟨n % 6, Nat.mod_lt _ (by omega), rfl⟩
theorem days_ls {E : Ev} {N : Nat} (hN : N ≤ 30) : ∀ (n i : Nat) (X : Cf) (S T : St), Re X E S T → 0 < X 0 0 → i ≤ N → N < n + i → X 0 4 + (N - i) ≤ 999 → Opp (c_N_days_h12 n (nI N) (nI i) S) (m_days_h40 n (nI N) (nI i) T) := by
  intro n
  induction n with
  | zero => intro i X S T h h0 hi hn; omega
  | succ n ih =>
    intro i X S T h h0 hi hn hd
    rw [c_N_days_h12, m_days_h40]
    by_cases e : i < N
    · rw [if_neg (show ¬ nI N ≤ nI i from nI_ge e (by omega)), if_neg (show ¬ nI N ≤ nI i from nI_ge e (by omega))]
      obtain ⟨S', T', X', r1, r2, h', x0, x4⟩ := goOn2 h h0 (by omega)
      rw [r1, r2, bV_some, bV_some, bnd_eq, bnd_eq, show nI i + (1 : Int32) = nI (i + 1) from nI_add i 1]
      exact ih (i + 1) X' S' T' h' (by omega) (by omega) (by omega) (by omega)
    · rw [if_pos (show nI N ≤ nI i from nI_le (by omega) (by omega)), if_pos (show nI N ≤ nI i from nI_le (by omega) (by omega)), h.2.1.1.2.2.2.2.1, h.2.1.2.2.2.1]
      exact opp_now h _
theorem go_can {X : Cf} {E : Ev} {S T : St} (h : Re X E S T) (v : Int32) : (0 < X 0 0 ∧ ∃ N, 1 ≤ N ∧ N ≤ 30 ∧ X 0 4 + N ≤ 999 ∧ v = nI N ∧ c_N_canGoOn v S = some (nI 1, S) ∧ ¬ T 0 24 = nI 0 ∧ m_isIn v.toInt64 (lN 1) (lN 30) T = some (nI 1, T) ∧ T 0 32 + v ≤ nI 999) ∨ (c_N_canGoOn v S = some (nI 0, S) ∧ (T 0 24 = nI 0 ∨ (¬ T 0 24 = nI 0 ∧ m_isIn v.toInt64 (lN 1) (lN 30) T = some (nI 0, T)) ∨ (¬ T 0 24 = nI 0 ∧ m_isIn v.toInt64 (lN 1) (lN 30) T = some (nI 1, T) ∧ ¬ T 0 32 + v ≤ nI 999))) := by
  have hday := h.2.1.2.2.1.2.2.1
  have hd := h.2.1.2.2.2.1
  have hc := h.2.1.1.2.2.2.2.1
  unfold c_N_canGoOn
  simp only [lits, nzI0, nzI1]
  rcases street2 h with ⟨h0, e1, e2⟩ | ⟨h0, e1, e2⟩
  · rw [e1, bI_some, if_neg m10]
    simp only []
    rcases within2 v (l := 1) (h := 30) (by omega) (by omega) S T with ⟨N, N1, hN, rfl, e5, e6⟩ | ⟨e5, e6, _⟩
    · rw [e5, bI_some, if_neg m10]
      simp only []
      rw [hc, hd, nI_add]
      by_cases c : X 0 4 + N ≤ 999
      · left
        rw [if_neg (show ¬ nI 999 < nI (X 0 4 + N) from nI_nlt c (by omega))]
        exact ⟨h0, N, N1, hN, c, rfl, rfl, e2, e6, nI_le c (by omega)⟩
      · right
        rw [if_pos (show nI 999 < nI (X 0 4 + N) from nI_lt (by omega) (by omega))]
        exact ⟨rfl, Or.inr (Or.inr ⟨e2, e6, nI_ge (by omega) (by omega)⟩)⟩
    · right
      rw [e5, bI_some, if_pos rfl]
      exact ⟨rfl, Or.inr (Or.inl ⟨e2, e6⟩)⟩
  · right
    rw [e1, bI_some, if_pos rfl]
    exact ⟨rfl, Or.inl e2⟩
theorem op_days {S T : St} (h : Rel S T) (v : Int32) : Opp (c_N_days v S) (m_days v T) := by
  obtain ⟨X, E, h⟩ := h
  have h := h.z (nI 0)
  unfold c_N_days m_days
  rw [bnd_eq, show up2 T 0 0 (0 : Int32) = up2 T 0 0 (nI 0) from rfl]
  generalize up2 T 0 0 (nI 0) = T at h ⊢
  rcases go_can h v with ⟨h0, N, N1, hN, hd, rfl, e1, e2, e3, e4⟩ | ⟨e1, g⟩
  · have e3' : m_isIn (nI N).toInt64 (1 : Int64) (30 : Int64) T = some (nI 1, T) := e3
    rw [e1, bI_some, if_neg (show ¬ nI 1 = (0 : Int32) by decide), if_neg (show ¬ T 0 24 = (0 : Int32) from e2), e3', bI_some, if_neg (show ¬ nI 1 = (0 : Int32) by decide), if_pos (show T 0 32 + nI N ≤ (999 : Int32) from e4)]
    exact days_ls hN FU 0 X S T h h0 (by omega) (by unfold FU; omega) (by omega)
  · rw [e1, bI_some, if_pos (show nI 0 = (0 : Int32) from rfl)]
    rcases g with e2 | ⟨e2, e3⟩ | ⟨e2, e3, e4⟩
    · rw [if_pos (show T 0 24 = (0 : Int32) from e2)]
      exact opp_now h _
    · have e3' : m_isIn v.toInt64 (1 : Int64) (30 : Int64) T = some (nI 0, T) := e3
      rw [if_neg (show ¬ T 0 24 = (0 : Int32) from e2), e3', bI_some, if_pos (show nI 0 = (0 : Int32) from rfl)]
      exact opp_now h _
    · have e3' : m_isIn v.toInt64 (1 : Int64) (30 : Int64) T = some (nI 1, T) := e3
      rw [if_neg (show ¬ T 0 24 = (0 : Int32) from e2), e3', bI_some, if_neg (show ¬ nI 1 = (0 : Int32) by decide), if_neg (show ¬ T 0 32 + v ≤ (999 : Int32) from e4)]
      exact opp_now h _
theorem pb_eq {k : Nat} (hk : k < 6) (S : St) : c_N_putByNumber (nI k) S = some (nI (pbN k), S) := by
  unfold c_N_putByNumber pbN
  by_cases e : k < 5
  · rw [if_neg (show ¬ (5 : Int32) ≤ nI k from nI_ge (b := 5) e (by omega)), if_pos e]
  · rw [if_pos (show (5 : Int32) ≤ nI k from nI_le (a := 5) (by omega) (by omega)), if_neg e]
    rfl
theorem drawn_in {E : Ev} {N i : Nat} {L L' : Int32 → Int64 → Int32 → St → Option (Int32 × St)} : ∀ (n k : Nat) (x : Int64) (X : Cf) (S T : St), Re X E S T → k ≤ X 0 0 → X 0 0 < n + k → ∃ x' X' S' T', c_N_drawn_h25 L n (nI N) x (nI i) (nI k) S = bV (c_N_goOn S') (fun S1 => L (nI N) x' (nI (i + 1)) S1) ∧ m_drawn_h53 L' n (nI N) x (nI i) (nI k) T = bV (m_goesBy T') (fun S1 => L' (nI N) x' (nI (i + 1)) S1) ∧ Re X' E S' T' ∧ X' 0 0 = X 0 0 ∧ X' 0 4 = X 0 4 := by
  intro n
  induction n with
  | zero => intro k x X S T h hk hn; omega
  | succ n ih =>
    intro k x X S T h hk hn
    have cq := h.2.1.1
    have mq := h.2.1.2.1
    have h6 := h.2.1.2.2.1.1.1
    rw [c_N_drawn_h25, m_drawn_h53, cq.1, mq.1]
    by_cases e : k < X 0 0
    · rw [if_neg (show ¬ nI (X 0 0) ≤ nI k from nI_ge e (by omega)), if_neg (show ¬ nI (X 0 0) ≤ nI k from nI_ge e (by omega)), bnd_eq, bnd_eq]
      generalize x * (6364136223846793005 : Int64) + (1442695040888963407 : Int64) = y
      obtain ⟨j, hj, ej⟩ := rnd y
      rw [ej]
      have d6 : ∀ {ρ : Type} (M : Option ρ), dvL (6 : Int64) M = M := fun M => if_neg (by decide)
      rw [d6, d6, pb_eq hj, bI_some, bnd_eq, bnd_eq, bnd_eq]
      have hs : pbN j ≤ 4 ∨ pbN j = 9 := by unfold pbN; split <;> omega
      have key : (if nI j = (5 : Int32) then (m_drawn_b105 L' (m_drawn_h53 L' n) (nI N) y (nI i) (nI k) (9 : Int32) (nI k) T) else (m_drawn_b105 L' (m_drawn_h53 L' n) (nI N) y (nI i) (nI k) (nI j) (nI k) T)) = m_drawn_h53 L' n (nI N) y (nI i) (nI (k + 1)) (up2 T 12 k (nI (pbN j))) := by
        unfold m_drawn_b105 pbN
        rw [ckI (by omega) (by omega), ckI (by omega) (by omega), nI_clamp (by omega), bnd_eq, bnd_eq, bnd_eq, bnd_eq, show nI k + (1 : Int32) = nI (k + 1) from nI_add k 1]
        by_cases e5 : j < 5
        · rw [if_neg (show ¬ nI j = (5 : Int32) from nI_nn (b := 5) (by omega) (by omega) (by omega)), if_pos e5]
        · rw [if_pos (show nI j = (5 : Int32) by rw [show j = 5 by omega]; rfl), if_neg e5]
          rfl
      rw [key]
      simp only []
      rw [ckI (by omega) (by omega), nI_clamp (by omega), show nI k + (1 : Int32) = nI (k + 1) from nI_add k 1]
      obtain ⟨x', X', S', T', r1, r2, h', x0, x4⟩ := ih (k + 1) y _ _ _ (tell_put h e hs) (by rw [uX_n (by omega)]; omega) (by rw [uX_n (by omega)]; omega)
      exact ⟨x', X', S', T', r1, r2, h', x0.trans (uX_n (by omega)), x4.trans (uX_n (by omega))⟩
    · rw [if_pos (show nI (X 0 0) ≤ nI k from nI_le (by omega) (by omega)), if_pos (show nI (X 0 0) ≤ nI k from nI_le (by omega) (by omega))]
      refine ⟨x, X, S, T, ?_, ?_, h, rfl, rfl⟩
      · simp only [bnd_eq]
        rw [show nI i + (1 : Int32) = nI (i + 1) from nI_add i 1]
      · simp only [bnd_eq]
        rw [show nI i + (1 : Int32) = nI (i + 1) from nI_add i 1]
theorem drawn_ls {E : Ev} {N : Nat} (hN : N ≤ 30) : ∀ (n i : Nat) (x : Int64) (X : Cf) (S T : St), Re X E S T → 0 < X 0 0 → i ≤ N → N < n + i → X 0 4 + (N - i) ≤ 999 → Opp (c_N_drawn_h16 n (nI N) x (nI i) S) (m_drawn_h44 n (nI N) x (nI i) T) := by
  intro n
  induction n with
  | zero => intro i x X S T h h0 hi hn; omega
  | succ n ih =>
    intro i x X S T h h0 hi hn hd
    rw [c_N_drawn_h16, m_drawn_h44]
    by_cases e : i < N
    · rw [if_neg (show ¬ nI N ≤ nI i from nI_ge e (by omega)), if_neg (show ¬ nI N ≤ nI i from nI_ge e (by omega))]
      have h6 := h.2.1.2.2.1.1.1
      obtain ⟨x', X1, S1, T1, r1, r2, h1, x0, x4⟩ := drawn_in (N := N) (i := i) (L := c_N_drawn_h16 n) (L' := m_drawn_h44 n) FU 0 x X S T h (by omega) (by unfold FU; omega)
      have r1' : c_N_drawn_h25 (c_N_drawn_h16 n) FU (nI N) x (nI i) (0 : Int32) S = bV (c_N_goOn S1) (fun S1 => c_N_drawn_h16 n (nI N) x' (nI (i + 1)) S1) := r1
      have r2' : m_drawn_h53 (m_drawn_h44 n) FU (nI N) x (nI i) (0 : Int32) T = bV (m_goesBy T1) (fun S1 => m_drawn_h44 n (nI N) x' (nI (i + 1)) S1) := r2
      obtain ⟨S', T', X', r3, r4, h', y0, y4⟩ := goOn2 h1 (by omega) (by omega)
      rw [r1', r2', r3, r4, bV_some, bV_some]
      exact ih (i + 1) x' X' S' T' h' (by omega) (by omega) (by omega) (by omega)
    · rw [if_pos (show nI N ≤ nI i from nI_le (by omega) (by omega)), if_pos (show nI N ≤ nI i from nI_le (by omega) (by omega)), h.2.1.1.2.2.2.2.1, h.2.1.2.2.2.1]
      exact opp_now h _
theorem op_drawn {S T : St} (h : Rel S T) (v : Int32) (x : Int64) : Opp (c_N_drawn v x S) (m_drawn v x T) := by
  obtain ⟨X, E, h⟩ := h
  have h := h.z (nI 0)
  unfold c_N_drawn m_drawn
  rw [bnd_eq, show up2 T 0 0 (0 : Int32) = up2 T 0 0 (nI 0) from rfl]
  generalize up2 T 0 0 (nI 0) = T at h ⊢
  rcases go_can h v with ⟨h0, N, N1, hN, hd, rfl, e1, e2, e3, e4⟩ | ⟨e1, g⟩
  · have e3' : m_isIn (nI N).toInt64 (1 : Int64) (30 : Int64) T = some (nI 1, T) := e3
    rw [e1, bI_some, if_neg (show ¬ nI 1 = (0 : Int32) by decide), if_neg (show ¬ T 0 24 = (0 : Int32) from e2), e3', bI_some, if_neg (show ¬ nI 1 = (0 : Int32) by decide), if_pos (show T 0 32 + nI N ≤ (999 : Int32) from e4)]
    exact drawn_ls hN FU 0 x X S T h h0 (by omega) (by unfold FU; omega) (by omega)
  · rw [e1, bI_some, if_pos (show nI 0 = (0 : Int32) from rfl)]
    rcases g with e2 | ⟨e2, e3⟩ | ⟨e2, e3, e4⟩
    · rw [if_pos (show T 0 24 = (0 : Int32) from e2)]
      exact opp_now h _
    · have e3' : m_isIn v.toInt64 (1 : Int64) (30 : Int64) T = some (nI 0, T) := e3
      rw [if_neg (show ¬ T 0 24 = (0 : Int32) from e2), e3', bI_some, if_pos (show nI 0 = (0 : Int32) from rfl)]
      exact opp_now h _
    · have e3' : m_isIn v.toInt64 (1 : Int64) (30 : Int64) T = some (nI 1, T) := e3
      rw [if_neg (show ¬ T 0 24 = (0 : Int32) from e2), e3', bI_some, if_neg (show ¬ nI 1 = (0 : Int32) by decide), if_neg (show ¬ T 0 32 + v ≤ (999 : Int32) from e4)]
      exact opp_now h _
