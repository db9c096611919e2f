/-! CALLS that ask noons with poison -/
theorem Cq.cg {S : St} {o : Nat} {X X' : Cf} (h : Cq S o X) (he : ∀ q j, ¬ (q = 0 ∧ 5 ≤ j) → X' q j = X q j) : Cq S o X' := by
  obtain ⟨h1, h2, h3, h4, h5, h6, h7, h8⟩ := h
  refine ⟨by rw [he _ _ (by omega)]; exact h1, by rw [he _ _ (by omega)]; exact h2, by rw [he _ _ (by omega)]; exact h3, by rw [he _ _ (by omega)]; exact h4, by rw [he _ _ (by omega)]; exact h5, fun s hs => by rw [he _ _ (by omega)]; exact h6 s hs, fun a ha => ?_, fun p hp => by rw [he _ _ (by omega)]; exact h8 p (by rw [he _ _ (by omega)] at hp; exact hp)⟩
  rw [he _ _ (by omega)] at ha
  obtain ⟨g1, g2, g3, g4, g5⟩ := h7 a ha
  exact ⟨by rw [he _ _ (by omega)]; exact g1, by rw [he _ _ (by omega)]; exact g2, by rw [he _ _ (by omega)]; exact g3, by rw [he _ _ (by omega)]; exact g4, fun s hs => by rw [he _ _ (by omega)]; exact g5 s hs⟩
theorem Mq.cg {T : St} {X X' : Cf} (h : Mq T X) (he : ∀ q j, ¬ (q = 0 ∧ 4 ≤ j) → X' q j = X q j) : Mq T X' := by
  obtain ⟨h1, h2, h3, h4, h6, h7, h8⟩ := h
  refine ⟨by rw [he _ _ (by omega)]; exact h1, by rw [he _ _ (by omega)]; exact h2, by rw [he _ _ (by omega)]; exact h3, by rw [he _ _ (by omega)]; exact h4, fun s hs => by rw [he _ _ (by omega)]; exact h6 s hs, fun a ha => ?_, fun p hp => by rw [he _ _ (by omega)]; exact h8 p (by rw [he _ _ (by omega)] at hp; exact hp)⟩
  rw [he _ _ (by omega)] at ha
  obtain ⟨g1, g2, g3, g4, g5⟩ := h7 a ha
  exact ⟨by rw [he _ _ (by omega)]; exact g1, by rw [he _ _ (by omega)]; exact g2, by rw [he _ _ (by omega)]; exact g3, by rw [he _ _ (by omega)]; exact g4, fun s hs => by rw [he _ _ (by omega)]; exact g5 s hs⟩
theorem Iv.cg {X X' : Cf} (h : Iv X) (he : ∀ q j, ¬ (q = 0 ∧ 5 ≤ j) → X' q j = X q j) (h6 : X' 0 6 ≤ 99) (h8 : X' 0 8 ≤ 99) : Iv X' := by
  obtain ⟨i1, i2, i3, i4, i5, i6, i7, i8, i9, i10, i11⟩ := h
  refine ⟨by rw [he _ _ (by omega)]; exact i1, by rw [he _ _ (by omega)]; exact i2, by rw [he _ _ (by omega)]; exact i3, by rw [he _ _ (by omega)]; exact i4, by rw [he _ _ (by omega)]; exact i5, h6, h8, fun s hs => by rw [he _ _ (by omega)]; exact i8 s hs, fun a ha => ?_, ?_, ?_⟩
  · rw [he _ _ (by omega)] at ha
    obtain ⟨j1, j2, j3, j4, j5⟩ := i9 a ha
    exact ⟨by rw [he _ _ (by omega)]; exact j1, by rw [he _ _ (by omega)]; exact j2, by rw [he _ _ (by omega)]; exact j3, by rw [he _ _ (by omega)]; exact j4, fun s hs => by rw [he _ _ (by omega)]; exact j5 s hs⟩
  · intro p hp
    rw [he 0 0 (by omega)] at hp ⊢
    rw [he _ _ (by omega)]; exact i10 p hp
  · intro p q hp hq e
    rw [he 0 0 (by omega)] at hp hq
    rw [he _ _ (by omega), he _ _ (by omega)] at e
    exact i11 p q hp hq e
theorem ad1_5 {X : Cf} (iv : Iv X) {h : Nat} (hh : h < X 0 0) : ad1 X h 5 = 0 := by
  have := (iv.2.2.2.2.2.2.2.2.1 h hh).2.2.2.1
  unfold ad1
  rw [if_neg (by omega)]
theorem pois_0 {X : Cf} (iv : Iv X) : ∀ pl, pl ≤ X 0 0 → (∀ p, p < pl → X 6 p ≠ X 0 5) → ptS X pl 5 = 0
  | 0, _, _ => by
    show pt0 X 5 = 0
    unfold pt0
    rw [if_neg (by omega)]
  | pl + 1, h1, h2 => by
    have h3 := pois_0 iv pl (by omega) (fun p hp => h2 p (by omega))
    have h4 := stQ_le X pl (ptS X pl) 5
    show stQ X pl (ptS X pl) 5 - tk (stQ X pl (ptS X pl)) (ladOf X pl (X 6 pl)) 5 + ad1 X (X 6 pl) 5 + ad2 X (X 6 pl) 5 = 0
    rw [ad1_5 iv (iv.2.2.2.2.2.2.2.2.2.1 pl (by omega))]
    have h5 : ad2 X (X 6 pl) 5 = 0 := by
      unfold ad2
      rw [if_neg (fun e => h2 pl (by omega) e.1)]
    omega
theorem pois_le {X : Cf} (iv : Iv X) : ∀ pl, pl ≤ X 0 0 → ptS X pl 5 ≤ X 0 6
  | 0, _ => by
    show pt0 X 5 ≤ _
    unfold pt0
    rw [if_neg (by omega)]; omega
  | pl + 1, h1 => by
    have h3 := pois_le iv pl (by omega)
    have h4 := stQ_le X pl (ptS X pl) 5
    show stQ X pl (ptS X pl) 5 - tk (stQ X pl (ptS X pl)) (ladOf X pl (X 6 pl)) 5 + ad1 X (X 6 pl) 5 + ad2 X (X 6 pl) 5 ≤ X 0 6
    rw [ad1_5 iv (iv.2.2.2.2.2.2.2.2.2.1 pl (by omega))]
    by_cases e : X 6 pl = X 0 5
    · have h5 := pois_0 iv pl (by omega) (fun p hp e2 => by
        have := iv.2.2.2.2.2.2.2.2.2.2 p pl (by omega) (by omega) (e2.trans e.symm)
        omega)
      have h6 : ad2 X (X 6 pl) 5 ≤ X 0 6 := by
        unfold ad2
        split <;> omega
      omega
    · have h6 : ad2 X (X 6 pl) 5 = 0 := by
        unfold ad2
        rw [if_neg (fun e2 => e e2.1)]
      omega
/-- a noon with poison on both sides -/
theorem runP2 {X : Cf} {E : Ev} {S T : St} (h : Re X E S T) {f g : Nat} (hf : f < X 0 0) (hg : g ≤ 99) : ∃ (S1 T1 : St) (po : Nat → Nat), c_Noon_runPoisoned 33 (nI f) (nI g) S = some S1 ∧ m_layPoison (nI f) (nI g) T = some T1 ∧ (∀ k, k < X 0 0 → S1 (121 + k) 5 = nI (po k) ∧ T1 16 (6 * k + 5) = nI (po k) ∧ po k ≤ g) ∧ Fr jC S S1 ∧ Fr jM T T1 := by
  obtain ⟨q1, ⟨cq, mq, ⟨iv, pl, _⟩, hd, h40, h42⟩, q3, q4⟩ := h
  have h6 := iv.1
  have he : ∀ q j, ¬ (q = 0 ∧ 5 ≤ j) → uX (uX X 0 5 f) 0 6 g q j = X q j := fun q j hn => by rw [uX_n (by omega), uX_n (by omega)]
  have x5 : uX (uX X 0 5 f) 0 6 g 0 5 = f := by rw [uX_n (by omega), uX_hit ⟨rfl, rfl⟩]
  have x6 : uX (uX X 0 5 f) 0 6 g 0 6 = g := uX_hit ⟨rfl, rfl⟩
  have x7 : uX (uX X 0 5 f) 0 6 g 0 7 = 99 := by rw [uX_n (by omega), uX_n (by omega)]; exact pl.2
  have x8 : uX (uX X 0 5 f) 0 6 g 0 8 ≤ 99 := by rw [uX_n (by omega), uX_n (by omega)]; exact iv.2.2.2.2.2.2.1
  have x0 := he 0 0 (by omega)
  have x4 := he 0 4 (by omega)
  generalize uX (uX X 0 5 f) 0 6 g = Y at *
  have ivY : Iv Y := iv.cg he (by omega) x8
  have cqY : Cq S 33 Y := cq.cg he
  have h0 : 0 < Y 0 0 := by omega
  obtain ⟨S1, e1, n1⟩ := runPo_ok (Or.inl rfl) ivY (by omega) x7 h0 cqY
  rw [x5, x6] at e1
  have mqY : Mq (up2 (up2 T 0 40 (nI f)) 0 41 (nI g)) Y := (mq.fr (fun q j hq => by rw [up2_n (by omega), up2_n (by omega)])).cg (fun q j hn => he q j (by omega))
  have mps : Mps (up2 (up2 T 0 40 (nI f)) 0 41 (nI g)) Y := ⟨Or.inl (by rw [x5, up2_k (by omega)]; exact up2_hit rfl rfl), fun _ => by rw [x6]; exact up2_hit rfl rfl, Or.inr ⟨x7, by rw [up2_k (by omega), up2_k (by omega)]; exact h42⟩, fun hn => absurd x7 hn, by omega, by omega⟩
  obtain ⟨T1, e2, n2⟩ := noonM_ok ivY h0 mqY mps
  rw [x4] at e2
  refine ⟨S1, up2 T1 0 40 (-nI 1), fun k => gtP Y (plc Y k) 5, e1, ?_, fun k hk => ?_, n1.2.2.2.mono noon_jC, fun q j hj => ?_⟩
  · unfold m_layPoison
    simp only [lits, bnd_eq]
    rw [up2_n (q := 0) (j := 32) (by omega), up2_n (q := 0) (j := 32) (by omega), hd, e2, bV_some]
  · have hk' : k < Y 0 0 := by omega
    obtain ⟨s1, s2⟩ := plc_spec ivY hk'
    obtain ⟨a1, _⟩ := n1.1.1 _ s1
    obtain ⟨b1, _⟩ := n2.1.1 _ s1
    rw [s2] at a1 b1
    refine ⟨a1 5 (by omega), by rw [up2_o (by omega)]; exact b1 5 (by omega), ?_⟩
    have := pois_le ivY (plc Y k) (by omega)
    exact Nat.le_trans (tk_le _ _ _ (by omega)) (Nat.le_trans (stQ_le _ _ _ _) (by omega))
  · by_cases e : q = 0 ∧ j = 40
    · rw [e.1, e.2, up2_hit rfl rfl]; exact h40.symm
    · rw [up2_n e, n2.2.2 q j (fun hn => hj (noon_jM q j hn))]
      have : ¬ (q = 0 ∧ j = 41) := fun e2 => hj (by unfold jM kM; omega)
      rw [up2_n this, up2_n e]
theorem op_poison {S T : St} (h : Rel S T) (v w u : Int32) : Opp (c_N_poison v w u S) (m_poison v w u T) := by
  obtain ⟨X, E, h⟩ := h
  unfold c_N_poison m_poison m_poisonOf
  simp only [lits, lits64, bnd_eq, nzI0, nzI1]
  have h := h.z (nI 0)
  generalize up2 T 0 0 (nI 0) = T at h ⊢
  rcases house2 h v with ⟨k, hk, hk6, rfl, e1, e2⟩ | ⟨e1, e2⟩
  · rw [e1, e2, bI_some, bI_some, if_neg m10, if_neg m10]
    simp only []
    rcases within2 w (l := 1) (h := 99) (by omega) (by omega) S T with ⟨j, j1, hj, rfl, e5, e6⟩ | ⟨e5, e6, _⟩
    · rw [e5, bI_some, if_neg m10]
      simp only []
      rcases house2 h u with ⟨a, ha, ha6, rfl, e3, e4⟩ | ⟨e3, e4⟩
      · rw [e3, e4, bI_some, bI_some, if_neg m10, if_neg m10, e6, bI_some]
        simp only []
        rw [if_neg m10]
        obtain ⟨S1, T1, po, r1, r2, r3, f1, f2⟩ := runP2 h hk hj
        obtain ⟨p1, p2, p3⟩ := r3 a ha
        rw [r1, r2, bV_some, bV_some, got_eq ha6 (by omega), bI_some, pk_mul, nI_add, ckI (by omega) (by omega), nI_clamp (by omega), bI_some]
        simp only []
        rw [p1, p2]
        exact opp_go h _ f1 f2
      · rw [e3, e4, bI_some, bI_some, if_pos rfl, if_pos rfl]
        exact opp_now h _
    · rw [e5, bI_some, if_pos rfl]
      rcases house2 h u with ⟨a, ha, ha6, rfl, e3, e4⟩ | ⟨e3, e4⟩
      · rw [e4, bI_some, if_neg m10, e6, bI_some, if_pos rfl]
        exact opp_now h _
      · rw [e4, bI_some, if_pos rfl]
        exact opp_now h _
  · rw [e1, e2, bI_some, bI_some, if_pos rfl, if_pos rfl]
    exact opp_now h _
def pmk (po : Nat → Nat) (l : Nat) : Nat → Int32
  | 0 => nI 0
  | k + 1 => if po k < l then pmk po l k else pmk po l k ||| (nI 1 <<< (nI k &&& 31))
theorem or_0 (x : Int32) : x ||| nI 0 = x := by
  show x ||| 0 = x
  simp
theorem poisoned_eq {S : St} {hs l : Nat} {po : Nat → Nat} (h1 : S 28 0 = nI hs) (h6 : hs ≤ 6) (hl : l ≤ 99) (hp : ∀ k, k < hs → S (121 + k) 5 = nI (po k) ∧ po k ≤ 99) : c_Noon_poisoned (nI l) S = some (pmk po l hs, S) := by
  have key : ∀ (n k : Nat), k ≤ hs → hs < n + k → c_Noon_poisoned_h4 n (nI l) (pmk po l k) (nI k) S = some (pmk po l hs, S) := by
    intro n
    induction n with
    | zero => intro k hk hn; omega
    | succ n ih =>
      intro k hk hn
      rw [c_Noon_poisoned_h4]
      unfold c_Noon_poisoned_b31
      simp only [lits, bnd_eq]
      rw [h1]
      by_cases e : k < hs
      · obtain ⟨p1, p2⟩ := hp k e
        rw [if_neg (show ¬ nI hs ≤ nI k from nI_ge e (by omega)), got_eq (by omega) (by omega), bI_some]
        simp only []
        rw [p1, nI_add]
        have hi := ih (k + 1) (by omega) (by omega)
        rw [show pmk po l (k + 1) = (if po k < l then pmk po l k else pmk po l k ||| (nI 1 <<< (nI k &&& 31))) from rfl] at hi
        by_cases c : po k < l
        · rw [if_pos c] at hi
          rw [if_pos (show nI (po k) < nI l from nI_lt c (by omega))]
          exact hi
        · rw [if_neg c] at hi
          rw [if_neg (show ¬ nI (po k) < nI l from nI_nlt (by omega) (by omega))]
          exact hi
      · have e2 : k = hs := by omega
        subst e2
        rw [if_pos (show nI k ≤ nI k from nI_le (by omega) (by omega))]
  exact key FU 0 (by omega) (by unfold FU; omega)
theorem guilty_h80 {T : St} {hs l g f : Nat} {po : Nat → Nat} {L58 : Int32 → Int32 → Int32 → Int32 → Int32 → St → Option (Int32 × St)} {v3 v4 : Int32} (h1 : T 0 24 = nI hs) (h6 : hs ≤ 6) (hl : l ≤ 99) (hp : ∀ k, k < hs → T 16 (6 * k + 5) = nI (po k) ∧ po k ≤ 99) : ∀ (n k : Nat), k ≤ hs → hs < n + k → m_guilty_h80 L58 n (nI g) (nI l) v3 v4 (nI f) (pmk po l k) (nI k) T = (if pmk po l hs = v3 then L58 (nI g) (nI l) v3 (v4 ||| (nI 1 <<< (nI f &&& 31))) (nI (f + 1)) T else L58 (nI g) (nI l) v3 v4 (nI (f + 1)) T) := by
  intro n
  induction n with
  | zero => intro k hk hn; omega
  | succ n ih =>
    intro k hk hn
    rw [m_guilty_h80]
    unfold m_guilty_b109 m_guilty_b134 m_poisonOf
    simp only [lits, bnd_eq]
    rw [h1]
    by_cases e : k < hs
    · obtain ⟨p1, p2⟩ := hp k e
      rw [if_neg (show ¬ nI hs ≤ nI k from nI_ge e (by omega)), pk_mul, nI_add, ckI (by omega) (by omega), nI_clamp (by omega), bI_some]
      simp only []
      rw [p1, nI_add]
      have hi := ih (k + 1) (by omega) (by omega)
      rw [show pmk po l (k + 1) = (if po k < l then pmk po l k else pmk po l k ||| (nI 1 <<< (nI k &&& 31))) from rfl] at hi
      by_cases c : po k < l
      · rw [if_pos c] at hi
        rw [if_pos (show nI (po k) < nI l from nI_lt c (by omega)), or_0]
        exact hi
      · rw [if_neg c] at hi
        rw [if_neg (show ¬ nI (po k) < nI l from nI_nlt (by omega) (by omega))]
        exact hi
    · have e2 : k = hs := by omega
      subst e2
      rw [if_pos (show nI k ≤ nI k from nI_le (by omega) (by omega)), or_0, nI_add]
theorem guilty_ls {X : Cf} {E : Ev} {g l : Nat} {v3 : Int32} (hg : g ≤ 99) (hl : l ≤ 99) : ∀ (n f : Nat) (v4 : Int32) (S T : St), Re X E S T → f ≤ X 0 0 → X 0 0 < n + f → Opp (c_N_guilty_h52 n (nI g) (nI l) v3 v4 (nI f) S) (m_guilty_h58 n (nI g) (nI l) v3 v4 (nI f) T) := by
  intro n
  induction n with
  | zero => intro f v4 S T h hf hn; omega
  | succ n ih =>
    intro f v4 S T h hf hn
    have cq := h.2.1.1
    have mq := h.2.1.2.1
    have h6 := h.2.1.2.2.1.1.1
    rw [c_N_guilty_h52, m_guilty_h58]
    unfold c_N_guilty_b99
    simp only [lits, bnd_eq]
    rw [cq.1, mq.1]
    by_cases e : f < X 0 0
    · obtain ⟨S1, T1, po, r1, r2, r3, f1, f2⟩ := runP2 h e hg
      have h' := h.go f1 f2
      rw [if_neg (show ¬ nI (X 0 0) ≤ nI f from nI_ge e (by omega)), if_neg (show ¬ nI (X 0 0) ≤ nI f from nI_ge e (by omega)), r1, r2, bV_some, bV_some, poisoned_eq h'.2.1.1.1 h6 hl (fun k hk => ⟨(r3 k hk).1, Nat.le_trans (r3 k hk).2.2 hg⟩), bI_some]
      have e8 := guilty_h80 (L58 := m_guilty_h58 n) (g := g) (f := f) (v3 := v3) (v4 := v4) h'.2.1.2.1.1 h6 hl (fun k hk => ⟨(r3 k hk).2.1, Nat.le_trans (r3 k hk).2.2 hg⟩) FU 0 (by omega) (by unfold FU; omega)
      have e9 : pmk po l 0 = nI 0 := rfl
      rw [e9] at e8
      rw [e8]
      simp only []
      rw [nI_add]
      by_cases c : pmk po l (X 0 0) = v3
      · rw [if_pos c, if_pos c]
        exact ih (f + 1) _ _ _ h' (by omega) (by omega)
      · rw [if_neg c, if_neg c]
        exact ih (f + 1) _ _ _ h' (by omega) (by omega)
    · rw [if_pos (show nI (X 0 0) ≤ nI f from nI_le (by omega) (by omega)), if_pos (show nI (X 0 0) ≤ nI f from nI_le (by omega) (by omega))]
      exact opp_now h _
theorem op_guilty {S T : St} (h : Rel S T) (v w u : Int32) : Opp (c_N_guilty v w u S) (m_guilty v w u T) := by
  obtain ⟨X, E, h⟩ := h
  unfold c_N_guilty m_guilty
  simp only [lits, lits64, bnd_eq, nzI0, nzI1]
  have h := h.z (nI 0)
  generalize up2 T 0 0 (nI 0) = T at h ⊢
  rcases street2 h with ⟨h0, e1, e2⟩ | ⟨h0, e1, e2⟩
  · rw [e1, bI_some, if_neg m10, if_neg e2]
    simp only []
    rcases within2 v (l := 1) (h := 99) (by omega) (by omega) S T with ⟨g, g1, hg, rfl, e5, e6⟩ | ⟨e5, e6, _⟩
    · rw [e5, e6, bI_some, bI_some, if_neg m10, if_neg m10]
      simp only []
      rcases within2 w (l := 1) (h := 99) (by omega) (by omega) S T with ⟨l, l1, hl, rfl, e7, e8⟩ | ⟨e7, e8, _⟩
      · rw [e7, e8, bI_some, bI_some, if_neg m10, if_neg m10]
        simp only []
        rw [h.2.1.1.1, h.2.1.2.1.1]
        by_cases hu : u < nI 0
        · rw [if_pos hu, if_pos hu]
          exact opp_now h _
        · rw [if_neg hu, if_neg hu]
          by_cases hu2 : u < nI 1 <<< (nI (X 0 0) &&& 31)
          · rw [if_pos hu2, if_pos hu2]
            exact guilty_ls hg hl FU 0 _ _ _ h (by omega) (by have := h.2.1.2.2.1.1.1; unfold FU; omega)
          · rw [if_neg hu2, if_neg hu2]
            exact opp_now h _
      · rw [e7, e8, bI_some, bI_some, if_pos rfl, if_pos rfl]
        exact opp_now h _
    · rw [e5, e6, bI_some, bI_some, if_pos rfl, if_pos rfl]
      exact opp_now h _
  · rw [e1, bI_some, if_pos rfl, if_pos e2]
    exact opp_now h _
