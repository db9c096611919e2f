/-! a day goes by: what was is kept -/
theorem rem_h11 : ∀ (n k : Nat) (T : St), k ≤ 870 → 870 < n + k → ∃ T', m_remember_h11 n (nI k) T = m_remember_h41 FU (nI 0) T' ∧ (∀ j, k ≤ j → j < 870 → T' 20 j = T 20 (j + 30)) ∧ Fr (fun q j => q = 20 ∧ k ≤ j ∧ j < 870) T T' := by
  have l870 : (870 : Int32) = nI 870 := rfl
  intro n
  induction n with
  | zero => intro k T h1 h2; omega
  | succ n ih =>
    intro k T h1 h2
    rw [m_remember_h11]
    by_cases e : k < 870
    · rw [if_neg (show ¬ (870 : Int32) ≤ nI k from nI_ge (b := 870) e (by omega)), bnd_eq, bnd_eq, show nI k + (30 : Int32) = nI (k + 30) from nI_add k 30, show nI k + (1 : Int32) = nI (k + 1) from nI_add k 1, ckI (by omega) (by omega), ckI (by omega) (by omega), nI_clamp (by omega), nI_clamp (by omega)]
      obtain ⟨T', r, g1, g2⟩ := ih (k + 1) (up2 T 20 k (T 20 (k + 30))) (by omega) (by omega)
      refine ⟨T', r, fun j hj1 hj2 => ?_, fun q j hp => ?_⟩
      · by_cases ej : j = k
        · rw [ej, g2 _ _ (by omega), up2_hit rfl rfl]
        · rw [g1 j (by omega) hj2, up2_k (by omega)]
      · rw [g2 _ _ (by omega), up2_n (by omega)]
    · rw [if_pos (show (870 : Int32) ≤ nI k from nI_le (a := 870) (by omega) (by omega))]
      exact ⟨T, rfl, fun j _ _ => by omega, Fr.rfl⟩
theorem rem_h41 {w : Nat} (hw : 1 ≤ w) : ∀ (n k : Nat) (T : St), T 0 46 = nI w → k ≤ 174 → 174 < n + k → ∃ T', m_remember_h41 n (nI k) T = m_remember_b79 T' ∧ (∀ j, k ≤ j → j < 174 → T' 21 j = T 21 (j + 6)) ∧ T' 0 46 = nI (w - 1) ∧ Fr (fun q j => (q = 21 ∧ k ≤ j ∧ j < 174) ∨ (q = 0 ∧ j = 46)) T T' := by
  intro n
  induction n with
  | zero => intro k T h0 h1 h2; omega
  | succ n ih =>
    intro k T h0 h1 h2
    rw [m_remember_h41]
    by_cases e : k < 174
    · rw [if_neg (show ¬ (174 : Int32) ≤ nI k from nI_ge (b := 174) e (by omega)), bnd_eq, bnd_eq, show nI k + (6 : Int32) = nI (k + 6) from nI_add k 6, show nI k + (1 : Int32) = nI (k + 1) from nI_add k 1, ckI (by omega) (by omega), ckI (by omega) (by omega), nI_clamp (by omega), nI_clamp (by omega)]
      obtain ⟨T', r, g1, g3, g2⟩ := ih (k + 1) (up2 T 21 k (T 21 (k + 6))) ((up2_o (by omega)).trans h0) (by omega) (by omega)
      refine ⟨T', r, fun j hj1 hj2 => ?_, g3, fun q j hp => ?_⟩
      · by_cases ej : j = k
        · rw [ej, g2 _ _ (by omega), up2_hit rfl rfl]
        · rw [g1 j (by omega) hj2, up2_k (by omega)]
      · rw [g2 _ _ (by omega), up2_n (by omega)]
    · rw [if_pos (show (174 : Int32) ≤ nI k from nI_le (a := 174) (by omega) (by omega)), bnd_eq, h0, show nI w - (1 : Int32) = nI (w - 1) from pk_sub (b := 1) hw]
      exact ⟨_, rfl, fun j _ _ => by omega, up2_hit rfl rfl, fun q j hp => up2_n (by omega)⟩
theorem rem_h89 {u : Nat} (hu : u < 30) {L81 : Int32 → St → Option St} {a : Nat} (ha : a < 6) : ∀ (n k : Nat) (T : St), T 0 46 = nI u → k ≤ 5 → 5 < n + k → ∃ T', m_remember_h89 L81 n (nI a) (nI k) T = L81 (nI (a + 1)) T' ∧ (∀ s, k ≤ s → s < 5 → T' 20 (30 * u + 5 * a + s) = T 7 (8 * a + s)) ∧ T' 21 (6 * u + a) = T 13 a ∧ Fr (fun q j => (q = 20 ∧ 30 * u + 5 * a + k ≤ j ∧ j < 30 * u + 5 * a + 5) ∨ (q = 21 ∧ j = 6 * u + a)) T T' := by
  intro n
  induction n with
  | zero => intro k T h0 h1 h2; omega
  | succ n ih =>
    intro k T h46 h1 h2
    rw [m_remember_h89]
    simp only [lits, bnd_eq]
    rw [h46]
    by_cases e : k < 5
    · rw [if_neg (show ¬ nI 5 ≤ nI k from nI_ge e (by omega)), pk_mul 30 u, pk_mul 5 a, nI_add (30 * u) (5 * a), nI_add (30 * u + 5 * a) k, pk_mul 8 a, nI_add (8 * a) k, ckI (by omega) (by omega), ckI (by omega) (by omega), nI_clamp (by omega), nI_clamp (by omega), nI_add]
      obtain ⟨T', r, g1, g2, g3⟩ := ih (k + 1) (up2 T 20 (30 * u + 5 * a + k) (T 7 (8 * a + k))) ((up2_o (by omega)).trans h46) (by omega) (by omega)
      refine ⟨T', r, fun s hs1 hs2 => ?_, by rw [g2]; exact up2_o (by omega), fun q j hp => ?_⟩
      · by_cases es : s = k
        · rw [es, g3 _ _ (by omega), up2_hit rfl rfl]
        · rw [g1 s (by omega) hs2, up2_o (by omega)]
      · rw [g3 _ _ (by omega), up2_n (by omega)]
    · rw [if_pos (show nI 5 ≤ nI k from nI_le (by omega) (by omega)), pk_mul 6 u, nI_add (6 * u) a, ckI (by omega) (by omega), ckI (by omega) (by omega), nI_clamp (by omega), nI_clamp (by omega), nI_add]
      exact ⟨_, rfl, fun s _ _ => by omega, up2_hit rfl rfl, fun q j hp => up2_n (by omega)⟩
theorem rem_h81 {u : Nat} (hu : u < 30) : ∀ (n k : Nat) (T : St), T 0 46 = nI u → k ≤ 6 → 6 < n + k → ∃ T', m_remember_h81 n (nI k) T = some T' ∧ (∀ a, k ≤ a → a < 6 → (∀ s, s < 5 → T' 20 (30 * u + 5 * a + s) = T 7 (8 * a + s)) ∧ T' 21 (6 * u + a) = T 13 a) ∧ T' 0 46 = nI (u + 1) ∧ Fr (fun q j => (q = 20 ∧ 30 * u + 5 * k ≤ j ∧ j < 30 * u + 30) ∨ (q = 21 ∧ 6 * u + k ≤ j ∧ j < 6 * u + 6) ∨ (q = 0 ∧ j = 46)) T T' := by
  intro n
  induction n with
  | zero => intro k T h0 h1 h2; omega
  | succ n ih =>
    intro k T h46 h1 h2
    rw [m_remember_h81]
    by_cases e : k < 6
    · rw [if_neg (show ¬ (6 : Int32) ≤ nI k from nI_ge (b := 6) e (by omega))]
      obtain ⟨T1, r1, a1, a2, a3⟩ := rem_h89 hu (L81 := m_remember_h81 n) e FU 0 T h46 (by omega) (by unfold FU; omega)
      obtain ⟨T', r, g1, g2, g3⟩ := ih (k + 1) T1 ((a3 _ _ (by omega)).trans h46) (by omega) (by omega)
      have r1' : m_remember_h89 (m_remember_h81 n) FU (nI k) (0 : Int32) T = m_remember_h81 n (nI (k + 1)) T1 := r1
      rw [r1']
      refine ⟨T', r, fun a ha1 ha2 => ?_, g2, fun q j hp => ?_⟩
      · by_cases ea : a = k
        · subst ea
          refine ⟨fun s hs => ?_, ?_⟩
          · rw [g3 _ _ (by omega)]; exact a1 s (by omega) hs
          · rw [g3 _ _ (by omega)]; exact a2
        · obtain ⟨u1, u2⟩ := g1 a (by omega) ha2
          refine ⟨fun s hs => ?_, ?_⟩
          · rw [u1 s hs, a3 _ _ (by omega)]
          · rw [u2, a3 _ _ (by omega)]
      · rw [g3 _ _ (by omega), a3 _ _ (by omega)]
    · rw [if_pos (show (6 : Int32) ≤ nI k from nI_le (a := 6) (by omega) (by omega)), bnd_eq, h46, show nI u + (1 : Int32) = nI (u + 1) from nI_add u 1]
      exact ⟨_, rfl, fun a _ _ => by omega, up2_hit rfl rfl, fun q j hp => up2_n (by omega)⟩
def shN (u : Nat) : Nat := if u = 30 then 1 else 0
def upN (u : Nat) : Nat := if u = 30 then 30 else u + 1
theorem remember_ok {T : St} {u : Nat} (hu : u ≤ 30) (h : T 0 46 = nI u) : ∃ T', m_remember T = some T' ∧ T' 0 46 = nI (upN u) ∧ (∀ i, i + 1 < upN u → (∀ j, j < 30 → T' 20 (30 * i + j) = T 20 (30 * (i + shN u) + j)) ∧ (∀ j, j < 6 → T' 21 (6 * i + j) = T 21 (6 * (i + shN u) + j))) ∧ (∀ a, a < 6 → (∀ s, s < 5 → T' 20 (30 * (upN u - 1) + 5 * a + s) = T 7 (8 * a + s)) ∧ T' 21 (6 * (upN u - 1) + a) = T 13 a) ∧ Fr (fun q j => q = 20 ∨ q = 21 ∨ (q = 0 ∧ j = 46)) T T' := by
  unfold m_remember shN upN
  by_cases e : u = 30
  · rw [if_pos (show T 0 46 = (30 : Int32) by rw [h, e]; rfl)]
    simp only [if_pos e]
    obtain ⟨T1, r1, a1, a2⟩ := rem_h11 FU 0 T (by omega) (by unfold FU; omega)
    obtain ⟨T2, r2, b1, b2, b3⟩ := rem_h41 (w := 30) (by omega) FU 0 T1 ((a2 _ _ (by omega)).trans (by rw [h, e])) (by omega) (by unfold FU; omega)
    obtain ⟨T3, r3, c1, c2, c3⟩ := rem_h81 (u := 29) (by omega) FU 0 T2 b2 (by omega) (by unfold FU; omega)
    have r1' : m_remember_h11 FU (0 : Int32) T = m_remember_h41 FU (nI 0) T1 := r1
    have r3' : m_remember_b79 T2 = some T3 := r3
    rw [r1', r2, r3']
    refine ⟨T3, rfl, c2, fun i hi => ⟨fun j hj => ?_, fun j hj => ?_⟩, fun a ha => ⟨fun s hs => ((c1 a (by omega) ha).1 s hs).trans ((b3 _ _ (by omega)).trans (a2 _ _ (by omega))), (c1 a (by omega) ha).2.trans ((b3 _ _ (by omega)).trans (a2 _ _ (by omega)))⟩, fun q j hp => ?_⟩
    · rw [c3 _ _ (by omega), b3 _ _ (by omega), a1 _ (by omega) (by omega), show 30 * i + j + 30 = 30 * (i + 1) + j by omega]
    · rw [c3 _ _ (by omega), b1 _ (by omega) (by omega), a2 _ _ (by omega), show 6 * i + j + 6 = 6 * (i + 1) + j by omega]
    · rw [c3 _ _ (by omega), b3 _ _ (by omega), a2 _ _ (by omega)]
  · rw [if_neg (show ¬ T 0 46 = (30 : Int32) by rw [h]; exact nI_nn (b := 30) e (by omega) (by omega))]
    simp only [if_neg e]
    obtain ⟨T3, r3, c1, c2, c3⟩ := rem_h81 (u := u) (by omega) FU 0 T h (by omega) (by unfold FU; omega)
    have r3' : m_remember_b79 T = some T3 := r3
    rw [r3']
    refine ⟨T3, rfl, c2, fun i hi => ⟨fun j hj => ?_, fun j hj => ?_⟩, fun a ha => ?_, fun q j hp => ?_⟩
    · rw [c3 _ _ (by omega), show i + 0 = i by omega]
    · rw [c3 _ _ (by omega), show i + 0 = i by omega]
    · rw [show u + 1 - 1 = u by omega]; exact c1 a (by omega) ha
    · rw [c3 _ _ (by omega)]
theorem keepC_ok {S : St} {u nx : Nat} (hu : u ≤ 30) (hn : nx ≤ 30) (h2 : S 48 2 = nI u) (h3 : S 48 3 = nI nx) : ∃ S', c_Past_keep_33 S = some S' ∧ S' 48 3 = nI ((if nx = 30 then 0 else nx) + 1) ∧ S' 48 2 = nI (upN u) ∧ (∀ j, j < 30 → S' (51 + (if nx = 30 then 0 else nx)) j = S 34 j) ∧ (∀ j, j < 6 → S' (81 + (if nx = 30 then 0 else nx)) j = S 35 j) ∧ Fr (fun q j => (q = 48 ∧ (j = 2 ∨ j = 3)) ∨ q = 51 + (if nx = 30 then 0 else nx) ∨ q = 81 + (if nx = 30 then 0 else nx)) S S' := by
  have key : ∀ (S : St) (r : Nat), r < 30 → S 48 2 = nI u → S 48 3 = nI r → ∃ S', c_Past_keep_33_b21 S = some S' ∧ S' 48 3 = nI (r + 1) ∧ S' 48 2 = nI (upN u) ∧ (∀ j, j < 30 → S' (51 + r) j = S 34 j) ∧ (∀ j, j < 6 → S' (81 + r) j = S 35 j) ∧ Fr (fun q j => (q = 48 ∧ (j = 2 ∨ j = 3)) ∨ q = 51 + r ∨ q = 81 + r) S S' := by
    intro S r hr h2 h3
    unfold c_Past_keep_33_b21
    simp only [lits, bnd_eq]
    rw [h3, ckI hr (by omega), cpI (by omega) (by omega) (by omega) (by omega), nI_clamp (by omega), nI_clamp (by omega), nI_clamp (by omega), upR_ne _ _ (show 48 ≠ 51 + r by omega), h3, ckI hr (by omega), cpI (by omega) (by omega) (by omega) (by omega), nI_clamp (by omega), nI_clamp (by omega), upR_ne _ _ (show 48 ≠ 81 + r by omega), upR_ne _ _ (show 48 ≠ 51 + r by omega), h3, nI_add, up2_k (show 2 ≠ 3 by omega), upR_ne _ _ (show 48 ≠ 81 + r by omega), upR_ne _ _ (show 48 ≠ 51 + r by omega), h2, nI_add]
    have hmin : imin (nI (u + 1)) (nI 30) = nI (upN u) := by
      unfold imin upN
      by_cases e : u = 30
      · rw [if_pos e, if_pos (show nI 30 < nI (u + 1) from nI_lt (by omega) (by omega))]
      · rw [if_neg e, if_neg (show ¬ nI 30 < nI (u + 1) from nI_nlt (by omega) (by omega))]
    rw [hmin]
    refine ⟨_, rfl, ?_, up2_hit rfl rfl, fun j hj => ?_, fun j hj => ?_, fun q j hp => ?_⟩
    · rw [up2_k (by omega), up2_hit rfl rfl]
    · rw [up2_o (by omega), up2_o (by omega), upR_ne _ _ (by omega), upR_self, cpyE hj]
    · rw [up2_o (by omega), up2_o (by omega), upR_self, cpyE hj, upR_ne _ _ (by omega)]
    · rw [up2_n (by omega), up2_n (by omega), upR_ne _ _ (by omega), upR_ne _ _ (by omega)]
  unfold c_Past_keep_33 c_Past_keep_33_b16
  rw [h3, if_neg (show ¬ nI nx < (0 : Int32) from nI_pos (by omega)), bnd_eq]
  by_cases e : nx = 30
  · rw [if_neg (show ¬ nI nx < (30 : Int32) from nI_nlt (b := 30) (by omega) (by omega))]
    simp only [if_pos e]
    obtain ⟨S', r1, g1, g2, g3, g4, g5⟩ := key (up2 S 48 3 (nI 0)) 0 (by omega) ((up2_k (by omega)).trans h2) (up2_hit rfl rfl)
    have r1' : c_Past_keep_33_b21 (up2 S 48 3 (0 : Int32)) = some S' := r1
    rw [r1']
    refine ⟨S', rfl, g1, g2, fun j hj => ?_, fun j hj => ?_, fun q j hp => ?_⟩
    · rw [g3 j hj, up2_o (by omega)]
    · rw [g4 j hj, up2_o (by omega)]
    · rw [g5 q j hp, up2_n (by omega)]
  · rw [if_pos (show nI nx < (30 : Int32) from nI_lt (b := 30) (by omega) (by omega))]
    simp only [if_neg e]
    exact key S nx (by omega) h2 h3
/-- what was is kept on both sides -/
theorem keep2 {X : Cf} {E : Ev} {S T : St} (h : Re X E S T) : ∃ S' T', c_Past_keep_33 S = some S' ∧ m_remember T = some T' ∧ RT S' T' ∧ RX X S' T' ∧ RLk E S' T' ∧ RE X S' T' ∧ RI S' T' ∧ ∀ X', X' 0 0 = X 0 0 → X' 0 4 = X 0 4 + 1 → RU X' S' T' := by
  obtain ⟨q1, rx, q3, q4, ⟨u, nx, u1, u2, u3, u4, u5, u6, u7⟩, q6⟩ := h
  have iv := rx.2.2.1.1
  have h6 := iv.1
  obtain ⟨S', r1, g1, g2, g3, g4, g5⟩ := keepC_ok u1 u2 u4 u5
  obtain ⟨T', r2, b1, b2, b3, b4⟩ := remember_ok u1 u6
  have hr : (if nx = 30 then 0 else nx) < 30 := by split <;> omega
  have hr2 : ∃ c, nx = (if nx = 30 then 0 else nx) + 30 * c := by
    by_cases e : nx = 30
    · rw [if_pos e]; exact ⟨1, by omega⟩
    · rw [if_neg e]; exact ⟨0, by omega⟩
  generalize (if nx = 30 then 0 else nx) = r at *
  obtain ⟨c, hc⟩ := hr2
  have fS : ∀ q j, ¬ ((q = 48 ∧ (j = 2 ∨ j = 3)) ∨ (51 ≤ q ∧ q ≤ 110)) → S' q j = S q j := fun q j hq => g5 q j (by omega)
  have fT : ∀ q j, ¬ (q = 20 ∨ q = 21 ∨ (q = 0 ∧ j = 46)) → T' q j = T q j := fun q j hq => b4 q j hq
  refine ⟨S', T', r1, r2, q1.fr (fun q j hq => fS _ _ (by omega)) (fun q j hq => fT _ _ (by omega)), rx.fr (fun q j hq => fS _ _ (by omega)) (fun q j hq => fT _ _ (by omega)), q3.fr (fun q j hq => fS _ _ (by omega)) (fun q j hq => fT _ _ (by omega)), q4.fr (fun j => fS _ _ (by omega)) (fun j => fT _ _ (by omega)), q6.fr (fun q j hq => fS _ _ (by omega)) (fun q j hq => fT _ _ (by omega)), fun X' x0 x4 => ?_⟩
  have hup : upN u ≤ 30 ∧ upN u ≤ u + 1 ∧ 1 ≤ upN u := by
    unfold upN
    split <;> omega
  refine ⟨upN u, r + 1, hup.1, by omega, by omega, g2, g1, b1, fun i hi a ha => ?_⟩
  rw [x0] at ha
  obtain ⟨c1, c2, c3⟩ := rx.1.vr
  obtain ⟨v1, v2, v3, v4⟩ := rx.2.2.1.vr
  by_cases ei : i + 1 < upN u
  · have e1 : ri (r + 1) (upN u) i = ri nx u (i + shN u) := by
      unfold ri shN
      unfold upN at ei ⊢
      by_cases e : u = 30
      · rw [if_pos e] at ei ⊢
        rw [if_pos e]; omega
      · rw [if_neg e] at ei ⊢
        rw [if_neg e]; omega
    have e2 : ri nx u (i + shN u) ≠ r := by
      unfold ri shN
      unfold upN at ei
      by_cases e : u = 30
      · rw [if_pos e] at ei ⊢; omega
      · rw [if_neg e] at ei ⊢; omega
    have hiu : i + shN u < u := by
      unfold shN
      unfold upN at ei
      split at ei <;> (split <;> omega)
    have hlt := ri_lt nx u (i + shN u)
    obtain ⟨d1, d2⟩ := u7 (i + shN u) hiu a ha
    rw [e1]
    refine ⟨fun s hs => ?_, ?_⟩
    · obtain ⟨v, w1, w2, w3⟩ := d1 s hs
      refine ⟨v, w1, by rw [g5 _ _ (by omega)]; exact w2, ?_⟩
      have := (b2 i ei).1 (5 * a + s) (by omega)
      rw [show 30 * i + (5 * a + s) = 30 * i + 5 * a + s by omega, show 30 * (i + shN u) + (5 * a + s) = 30 * (i + shN u) + 5 * a + s by omega] at this
      rw [this]; exact w3
    · rw [g5 _ _ (by omega), (b2 i ei).2 a (by omega)]
      exact d2
  · have ei2 : i = upN u - 1 := by omega
    have e1 : ri (r + 1) (upN u) i = r := by
      unfold ri
      omega
    rw [e1]
    refine ⟨fun s hs => ⟨X (10 + a) s, (v2 a ha).2 s hs, by rw [g3 _ (by omega)]; exact (c2 a ha).2 s hs, ?_⟩, ?_⟩
    · rw [ei2, (b3 a (by omega)).1 s hs]
      exact (rx.2.1.2.2.2.2.2.1 a ha).2.2.2.2 s hs
    · rw [g4 _ (by omega), ei2, (b3 a (by omega)).2]
      exact q4 a ha
