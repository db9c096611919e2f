/-! bestFor and about -/
theorem keep_h2 : ∀ (n k : Nat) (T : St), k ≤ 6 → 6 < n + k → ∃ T', m_keep_h2 n (nI k) T = some T' ∧ (∀ j, k ≤ j → j < 6 → T' 22 j = T 12 j ∧ T' 23 j = T 11 j) ∧ T' 0 51 = nI 0 ∧ Fr (fun q j => ((q = 22 ∨ q = 23) ∧ k ≤ j) ∨ (q = 0 ∧ j = 51)) T T' := by
  intro n
  induction n with
  | zero => intro k T h1 h2; omega
  | succ n ih =>
    intro k T h1 h2
    rw [m_keep_h2]
    simp only [lits, bnd_eq]
    by_cases e : k < 6
    · rw [if_neg (show ¬ nI 6 ≤ nI k from nI_ge e (by omega)), ckI e (by omega), ckI e (by omega), ckI e (by omega), ckI e (by omega), nI_clamp (by omega), nI_add, up2_o (show 11 ≠ 22 by omega)]
      obtain ⟨T', r, g1, g2, g3⟩ := ih (k + 1) (up2 (up2 T 22 k (T 12 k)) 23 k (T 11 k)) (by omega) (by omega)
      refine ⟨T', r, fun j hj1 hj2 => ?_, g2, fun q j hp => ?_⟩
      · by_cases ej : j = k
        · subst ej
          rw [g3 _ _ (by omega), g3 _ _ (by omega), up2_o (by omega), up2_hit rfl rfl, up2_hit rfl rfl]
          exact ⟨rfl, rfl⟩
        · obtain ⟨u1, u2⟩ := g1 j (by omega) hj2
          rw [u1, u2, up2_o (by omega), up2_o (by omega), up2_o (by omega), up2_o (by omega)]
          exact ⟨rfl, rfl⟩
      · rw [g3 _ _ (by omega), up2_n (by omega), up2_n (by omega)]
    · rw [if_pos (show nI 6 ≤ nI k from nI_le (by omega) (by omega))]
      exact ⟨_, rfl, fun j _ _ => by omega, up2_hit rfl rfl, fun q j hp => up2_n (by omega)⟩
theorem putBack_h2 : ∀ (n k : Nat) (T : St), k ≤ 6 → 6 < n + k → ∃ T', m_putBack_h2 n (nI k) T = some T' ∧ (∀ j, k ≤ j → j < 6 → T' 12 j = T 22 j ∧ T' 11 j = T 23 j) ∧ Fr (fun q j => (q = 11 ∨ q = 12) ∧ k ≤ j ∧ j < 6) T T' := by
  intro n
  induction n with
  | zero => intro k T h1 h2; omega
  | succ n ih =>
    intro k T h1 h2
    rw [m_putBack_h2]
    simp only [lits, bnd_eq]
    by_cases e : k < 6
    · rw [if_neg (show ¬ nI 6 ≤ nI k from nI_ge e (by omega)), ckI e (by omega), ckI e (by omega), ckI e (by omega), ckI e (by omega), nI_clamp (by omega), nI_add, up2_o (show 23 ≠ 12 by omega)]
      obtain ⟨T', r, g1, g3⟩ := ih (k + 1) (up2 (up2 T 12 k (T 22 k)) 11 k (T 23 k)) (by omega) (by omega)
      refine ⟨T', r, fun j hj1 hj2 => ?_, fun q j hp => ?_⟩
      · by_cases ej : j = k
        · subst ej
          rw [g3 _ _ (by omega), g3 _ _ (by omega), up2_o (by omega), up2_hit rfl rfl, up2_hit rfl rfl]
          exact ⟨rfl, rfl⟩
        · obtain ⟨u1, u2⟩ := g1 j (by omega) hj2
          rw [u1, u2, up2_o (by omega), up2_o (by omega), up2_o (by omega), up2_o (by omega)]
          exact ⟨rfl, rfl⟩
      · rw [g3 _ _ (by omega), up2_n (by omega), up2_n (by omega)]
    · rw [if_pos (show nI 6 ≤ nI k from nI_le (by omega) (by omega))]
      exact ⟨_, rfl, fun j _ _ => by omega, Fr.rfl⟩
/-- puts and line are kept aside -/
def jP : Nat → Nat → Prop := fun q j => jM q j ∨ ((q = 11 ∨ q = 12) ∧ j < 6)
def Kp (T0 T : St) : Prop := (∀ j, j < 6 → T 22 j = T0 12 j ∧ T 23 j = T0 11 j) ∧ Fr jP T0 T
theorem keep_ok (T : St) : ∃ T', m_keep T = some T' ∧ Kp T T' ∧ T' 0 51 = nI 0 ∧ Fr (fun q j => (q = 22 ∨ q = 23) ∨ (q = 0 ∧ j = 51)) T T' := by
  obtain ⟨T', e, g1, g2, g3⟩ := keep_h2 FU 0 T (by omega) (by unfold FU; omega)
  exact ⟨T', e, ⟨fun j hj => g1 j (by omega) hj, g3.mono (fun q j h => Or.inl (by unfold jM kM; omega))⟩, g2, g3.mono (fun q j h => by omega)⟩
theorem Kp.fr {T0 T T' : St} (h : Kp T0 T) (hf : Fr jP T T') (h22 : ∀ j, T' 22 j = T 22 j ∧ T' 23 j = T 23 j) : Kp T0 T' := ⟨fun j hj => by rw [(h22 j).1, (h22 j).2]; exact h.1 j hj, h.2.tr hf⟩
theorem Kp.back {T0 T : St} (h : Kp T0 T) : ∃ T', m_putBack T = some T' ∧ Fr jM T0 T' ∧ Fr (fun q j => (q = 11 ∨ q = 12) ∧ j < 6) T T' := by
  obtain ⟨T', e, g1, g2⟩ := putBack_h2 FU 0 T (by omega) (by unfold FU; omega)
  refine ⟨T', e, fun q j hj => ?_, g2.mono (fun q j h => by omega)⟩
  by_cases c : (q = 11 ∨ q = 12) ∧ j < 6
  · obtain ⟨c1, c2⟩ := c
    obtain ⟨u1, u2⟩ := g1 j (by omega) c2
    obtain ⟨w1, w2⟩ := h.1 j c2
    rcases c1 with c1 | c1
    · rw [c1, u2, w2]
    · rw [c1, u1, w1]
  · rw [g2 q j (by omega)]
    exact h.2 q j (fun hn => hn.elim hj c)
theorem copy_ok {o0 o1 : Nat} (ho : o0 + 5 ≤ o1 ∨ o1 + 5 ≤ o0) (S : St) : ∃ S', c_State_copy o0 o1 S = some S' ∧ S' o0 0 = S o1 0 ∧ (∀ j, j < 30 → S' (o0 + 1) j = S (o1 + 1) j) ∧ (∀ j, j < 6 → S' (o0 + 2) j = S (o1 + 2) j ∧ S' (o0 + 3) j = S (o1 + 3) j ∧ S' (o0 + 4) j = S (o1 + 4) j) ∧ Fr (fun q j => (q = o0 ∧ j = 0) ∨ (o0 + 1 ≤ q ∧ q ≤ o0 + 4)) S S' := by
  unfold c_State_copy
  simp only [lits, bnd_eq]
  rw [cpI (by omega) (by omega) (by omega) (by omega), cpI (by omega) (by omega) (by omega) (by omega), cpI (by omega) (by omega) (by omega) (by omega), cpI (by omega) (by omega) (by omega) (by omega), nI_clamp (by omega), nI_clamp (by omega), nI_clamp (by omega)]
  refine ⟨_, rfl, ?_, fun j hj => ?_, fun j hj => ⟨?_, ?_, ?_⟩, fun q j hp => ?_⟩
  · rw [upR_ne _ _ (by omega), upR_ne _ _ (by omega), upR_ne _ _ (by omega), upR_ne _ _ (by omega), up2_hit rfl rfl]
  · rw [upR_ne _ _ (by omega), upR_ne _ _ (by omega), upR_ne _ _ (by omega), upR_self, cpyE hj, up2_o (by omega)]
  · rw [upR_ne _ _ (by omega), upR_ne _ _ (by omega), upR_self, cpyE hj, upR_ne _ _ (by omega), up2_o (by omega)]
  · rw [upR_ne _ _ (by omega), upR_self, cpyE hj, upR_ne _ _ (by omega), upR_ne _ _ (by omega), up2_o (by omega)]
  · rw [upR_self, cpyE hj, upR_ne _ _ (by omega), upR_ne _ _ (by omega), upR_ne _ _ (by omega), up2_o (by omega)]
  · rw [upR_ne _ _ (by omega), upR_ne _ _ (by omega), upR_ne _ _ (by omega), upR_ne _ _ (by omega), up2_n (by omega)]
theorem copy_cq {o0 o1 : Nat} {S S' : St} {X : Cf} (cq : Cq S o1 X) (iv : Iv X) (ho : 33 ≤ o0 ∧ 33 ≤ o1) (h1 : S' o0 0 = S o1 0) (h2 : ∀ j, j < 30 → S' (o0 + 1) j = S (o1 + 1) j) (h3 : ∀ j, j < 6 → S' (o0 + 2) j = S (o1 + 2) j ∧ S' (o0 + 3) j = S (o1 + 3) j ∧ S' (o0 + 4) j = S (o1 + 4) j) (hf : Fr (fun q j => (q = o0 ∧ j = 0) ∨ (o0 + 1 ≤ q ∧ q ≤ o0 + 4)) S S') : Cq S' o0 X := by
  have h6 := iv.1
  obtain ⟨v1, v2, v3⟩ := cq.vr
  exact cq.mk SS.rfl (fun q j hq => hf q j (by omega)) ⟨h1.trans v1, fun a ha => ⟨(h3 a (by omega)).2.2.trans (v2 a ha).1, fun s hs => (h2 _ (by omega)).trans ((v2 a ha).2 s hs)⟩, fun p hp => (h3 p (by omega)).2.1.trans (v3 p hp)⟩
theorem uX_uX (X : Cf) (a b v w : Nat) : uX (uX X a b v) a b w = uX X a b w := by
  funext q j
  unfold uX
  by_cases e : q = a ∧ j = b
  · rw [if_pos e, if_pos e]
  · rw [if_neg e, if_neg e, if_neg e]
theorem put_iv {X : Cf} (iv : Iv X) {k s : Nat} (hs : s ≤ 4 ∨ s = 9) : Iv (uX X 7 k s) := by
  obtain ⟨i1, i2, i3, i4, i5, i6, i7, i8, i9, i10, i11⟩ := iv
  have z : ∀ a b, a ≠ 7 → uX X 7 k s a b = X a b := fun a b h => uX_n (by omega)
  refine ⟨by rw [z _ _ (by omega)]; exact i1, by rw [z _ _ (by omega)]; exact i2, by rw [z _ _ (by omega)]; exact i3, by rw [z _ _ (by omega)]; exact i4, by rw [z _ _ (by omega)]; exact i5, by rw [z _ _ (by omega)]; exact i6, by rw [z _ _ (by omega)]; exact i7, fun s hs => by rw [z _ _ (by omega)]; exact i8 s hs, fun a ha => ?_, ?_, ?_⟩
  · rw [z _ _ (by omega)] at ha
    obtain ⟨j1, j2, j3, j4, j5⟩ := i9 a ha
    refine ⟨by rw [z _ _ (by omega)]; exact j1, by rw [z _ _ (by omega)]; exact j2, by rw [z _ _ (by omega)]; exact j3, ?_, fun s hs => by rw [z _ _ (by omega)]; exact j5 s hs⟩
    by_cases e : a = k
    · rw [uX_hit ⟨rfl, e⟩]; exact hs
    · rw [uX_n (by omega)]; exact j4
  · intro a ha
    rw [z 0 0 (by omega)] at ha ⊢
    rw [z _ _ (by omega)]; exact i10 a ha
  · intro a c ha hc e
    rw [z 0 0 (by omega)] at ha hc
    rw [z _ _ (by omega), z _ _ (by omega)] at e
    exact i11 a c ha hc e
theorem Cq.put {S : St} {o : Nat} {X : Cf} (h : Cq S o X) (ho : 33 ≤ o) (k s : Nat) : Cq (up2 S (o + 4) k (nI s)) o (uX X 7 k s) := by
  obtain ⟨v1, v2, v3⟩ := h.vr
  refine h.mk (SS.rfl.u (by omega)) (fun q j hq => up2_n (by omega)) ⟨by rw [uX_n (by omega), up2_n (by omega)]; exact v1, fun a ha => ⟨?_, fun t ht => by rw [uX_n (by omega), up2_n (by omega)]; exact (v2 a ha).2 t ht⟩, fun p hp => by rw [uX_n (by omega), up2_n (by omega)]; exact v3 p hp⟩
  by_cases e : a = k
  · rw [uX_hit ⟨rfl, e⟩, up2_hit rfl e]
  · rw [uX_n (by omega), up2_k e]; exact (v2 a ha).1
theorem Mq.put {T : St} {X : Cf} (h : Mq T X) (k s : Nat) : Mq (up2 T 12 k (nI s)) (uX X 7 k s) := by
  have z : ∀ a b, a ≠ 7 → uX X 7 k s a b = X a b := fun a b h => uX_n (by omega)
  have y : ∀ a b, a ≠ 12 → up2 T 12 k (nI s) a b = T a b := fun a b h => up2_o h
  obtain ⟨h1, h2, h3, h4, h6, h7, h8⟩ := h
  refine ⟨by rw [z _ _ (by omega), y _ _ (by omega)]; exact h1, by rw [z _ _ (by omega), y _ _ (by omega)]; exact h2, by rw [z _ _ (by omega), y _ _ (by omega)]; exact h3, by rw [z _ _ (by omega), y _ _ (by omega)]; exact h4, fun s hs => by rw [z _ _ (by omega), y _ _ (by omega)]; exact h6 s hs, fun a ha => ?_, fun a ha => by rw [z _ _ (by omega), y _ _ (by omega)]; exact h8 a (by rw [z _ _ (by omega)] at ha; exact ha)⟩
  rw [z _ _ (by omega)] at ha
  obtain ⟨g1, g2, g3, g4, g5⟩ := h7 a ha
  refine ⟨by rw [z _ _ (by omega), y _ _ (by omega)]; exact g1, by rw [z _ _ (by omega), y _ _ (by omega)]; exact g2, by rw [z _ _ (by omega), y _ _ (by omega)]; exact g3, ?_, fun s hs => by rw [z _ _ (by omega), y _ _ (by omega)]; exact g5 s hs⟩
  by_cases e : a = k
  · rw [uX_hit ⟨rfl, e⟩, up2_hit rfl e]
  · rw [uX_n (by omega), up2_k e]; exact g4
theorem offers_0 {T : St} (x y : Int32) (h : T 0 51 = nI 0) : m_offers x y T = some (up2 (up2 (up2 T 0 51 (nI 1)) 0 49 x) 0 50 y) := by
  unfold m_offers m_offers_b16
  rw [if_pos (show T 0 51 = (0 : Int32) from h)]
  rfl
theorem offers_1 {T : St} (x y : Int32) (h : T 0 51 = nI 1) : m_offers x y T = some (if T 0 50 < y then up2 (up2 (up2 T 0 51 (nI 1)) 0 49 x) 0 50 y else T) := by
  unfold m_offers m_offers_b16
  rw [if_neg (show ¬ T 0 51 = (0 : Int32) by rw [h]; decide)]
  by_cases c : T 0 50 < y
  · rw [if_pos c, if_pos c]
    rfl
  · rw [if_neg c, if_neg c]
def pbN (i : Nat) : Nat := if i < 5 then i else 9
def bfI (i : Nat) (v4 v5 : Int32) (T : St) : Prop := (i = 0 ∧ v5 = -100000000 ∧ T 0 51 = nI 0) ∨ (0 < i ∧ T 0 51 = nI 1 ∧ T 0 49 = v4 ∧ T 0 50 = v5)
theorem bf_ls {X : Cf} {E : Ev} {S0 T0 : St} (h : Re X E S0 T0) {a b : Nat} (ha : a < X 0 0) (hb : b < X 0 0) {v3 : Int32} : ∀ (n i c : Nat) (S T : St) (v4 v5 : Int32), i ≤ 6 → 6 < n + i → Fr jC S0 S → Kp T0 T → Cq S 38 (uX X 7 a c) → Mq T (uX X 7 a c) → bfI i v4 v5 T →
    ∃ r S' T', c_N_bestFor_h53 n (nI a) (nI b) v3 v4 v5 (nI i) S = some (r, S') ∧ m_bestFor_h47 n (nI a) (nI b) v3 (nI i) T = some (r, T') ∧ Fr jC S0 S' ∧ Fr jM T0 T' := by
  obtain ⟨q1, ⟨cq0, mq0, ⟨iv, pl, lw⟩, hd, h40, h42⟩, q3, q4⟩ := h
  have h6 := iv.1
  have bd := q3.bd
  obtain ⟨ce0, me0⟩ := q3.ce
  intro n
  induction n with
  | zero => intro i c S T v4 v5 h1 h2; omega
  | succ n ih =>
    intro i c S T v4 v5 hi hn fS kp cq mq hv
    rw [c_N_bestFor_h53, m_bestFor_h47]
    unfold c_N_bestFor_b113 m_bestFor_b71 c_N_putByNumber
    simp only [lits, bnd_eq]
    by_cases e : i ≤ 5
    · have hs : pbN i ≤ 4 ∨ pbN i = 9 := by unfold pbN; split <;> omega
      have key1 : (if nI 5 ≤ nI i then some (nI 9, S) else some (nI i, S)) = some (nI (pbN i), S) := by
        unfold pbN
        by_cases c5 : i < 5
        · rw [if_neg (show ¬ nI 5 ≤ nI i from nI_ge c5 (by omega)), if_pos c5]
        · rw [if_pos (show nI 5 ≤ nI i from nI_le (by omega) (by omega)), if_neg c5]
      have key2 : ∀ (A : Int32 → Option (Int32 × St)), (if nI i = nI 5 then A (nI 9) else A (nI i)) = A (nI (pbN i)) := by
        intro A
        unfold pbN
        by_cases c5 : i < 5
        · rw [if_neg (nI_nn (by omega) (by omega) (by omega)), if_pos c5]
        · rw [if_pos (show nI i = nI 5 by rw [show i = 5 by omega]), if_neg c5]
      rw [if_neg (show ¬ nI 5 < nI i from nI_nlt (by omega) (by omega)), if_neg (show ¬ nI 5 < nI i from nI_nlt (by omega) (by omega)), key1, bI_some]
      rw [key2 (fun z => ckM (nI a) 6 (bV (m_noon ((up2 T 12 (nI a).toNatClampNeg z) 0 32) (up2 T 12 (nI a).toNatClampNeg z)) (fun S2 => (ckM (nI a) 6 (bI (m_mealOf (nI b) (S2 0 32) S2) (fun x4 S3 => (bV (m_offers (S2 12 (nI a).toNatClampNeg) x4 S3) (fun S5 => (m_bestFor_h47 n (nI a) (nI b) v3 (nI i + nI 1) S5)))))))))]
      simp only []
      rw [ckI (by omega) (by omega), ckI (by omega) (by omega), nI_clamp (by omega), nI_add]
      -- the noon of this put
      have cq1 := cq.put (by omega) a (pbN i)
      have mq1 := mq.put a (pbN i)
      rw [uX_uX] at cq1 mq1
      have iv1 : Iv (uX X 7 a (pbN i)) := put_iv iv hs
      have pl1 : Pl (uX X 7 a (pbN i)) := ⟨(uX_n (by omega)).trans pl.1, (uX_n (by omega)).trans pl.2⟩
      have x0 : uX X 7 a (pbN i) 0 0 = X 0 0 := uX_n (by omega)
      have x4 : uX X 7 a (pbN i) 0 4 = X 0 4 := uX_n (by omega)
      generalize hY : uX X 7 a (pbN i) = Y at *
      have k32 : ¬ jP 0 32 := by unfold jP jM kM; omega
      have hd1 : (up2 T 12 a (nI (pbN i))) 0 32 = nI (Y 0 4) := by rw [up2_o (by omega), kp.2 _ _ k32, x4]; exact hd
      have ceS : CE (up2 S 42 a (nI (pbN i))) E := ce0.fr (fun q j hq => by rw [up2_o (by omega), fS q j (by unfold jC kC; omega)])
      have meT : ME (up2 T 12 a (nI (pbN i))) E := me0.fr (fun q j hq => by rw [up2_o (by omega), kp.2 q j (by unfold jP jM kM; omega)])
      obtain ⟨S1, r1, n1⟩ := run_ok (Or.inr rfl) iv1 pl1 (by omega) cq1
      have mps : Mps (up2 T 12 a (nI (pbN i))) Y := ⟨Or.inr ⟨pl1.1, by rw [up2_o (by omega), kp.2 _ _ (by unfold jP jM kM; omega)]; exact h40⟩, fun hn => absurd pl1.1 hn, Or.inr ⟨pl1.2, by rw [up2_o (by omega), kp.2 _ _ (by unfold jP jM kM; omega)]; exact h42⟩, fun hn => absurd pl1.2 hn, by rw [pl1.1]; omega, by rw [pl1.2]; omega⟩
      obtain ⟨T1, r2, n2⟩ := noonM_ok iv1 (by omega) mq1 mps
      have nc := NrC.of n1 cq1 (Or.inr rfl) ceS
      have nm := NrM.of n2 mq1 meT
      obtain ⟨⟨x, S2⟩, r3, p1, p2⟩ := mealCH nc iv1 (show b < Y 0 0 by omega)
      obtain ⟨⟨y, T2⟩, r4, p3, p4⟩ := mealMH nm iv1 (show b < Y 0 0 by omega)
      simp only at p1 p2 p3 p4
      have hmb := meal_bd iv1 bd (show b < Y 0 0 by omega)
      rw [← p1] at hmb p3
      subst p3
      have hd2 : T1 0 32 = nI (Y 0 4) := by rw [n2.2.2 0 32 (by unfold nnM; omega)]; exact hd1
      have h12 : T1 12 a = nI (pbN i) := by rw [n2.2.2 12 a (by unfold nnM; omega)]; exact up2_hit rfl rfl
      rw [r1, bV_some, r3, bI_some, hd1, r2, bV_some, ckI (by omega) (by omega), hd2, r4, bI_some, h12]
      simp only []
      have fS2 : Fr jC S0 S2 := ((fS.up (o := 42) (k := a) (by unfold jC kC; omega)).tr (n1.2.2.2.mono noon_jC)).tr (p2.mono meal_jC)
      have fT2 : Fr jP T T2 := ((Fr.rfl.up (o := 12) (k := a) (Or.inr ⟨Or.inr rfl, by omega⟩)).tr (n2.2.2.mono (fun q j hq => Or.inl (noon_jM q j hq)))).tr (p4.mono (fun q j hq => Or.inl (meal_jM q j hq)))
      have t22 : ∀ q j, q = 22 ∨ q = 23 ∨ (q = 0 ∧ 49 ≤ j) → T2 q j = T q j := fun q j hq => by rw [p4 q j (by unfold mealPM goP; omega), n2.2.2 q j (by unfold nnM; omega), up2_n (by omega)]
      have kp2 : Kp T0 T2 := kp.fr fT2 (fun j => ⟨t22 _ _ (by omega), t22 _ _ (by omega)⟩)
      have cq2 : Cq S2 38 Y := (nc.meal (Or.inr rfl) iv1 p2).1
      have mq2 : Mq T2 Y := (nm.meal p4).1
      have kpN : ∀ x y z : Int32, Kp T0 (up2 (up2 (up2 T2 0 51 x) 0 49 y) 0 50 z) := fun x y z => kp2.fr (((Fr.rfl.up (o := 0) (k := 51) (Or.inl (by unfold jM kM; omega))).up (o := 0) (k := 49) (Or.inl (by unfold jM kM; omega))).up (o := 0) (k := 50) (Or.inl (by unfold jM kM; omega))) (fun j => ⟨by rw [up2_o (by omega), up2_o (by omega), up2_o (by omega)], by rw [up2_o (by omega), up2_o (by omega), up2_o (by omega)]⟩)
      have mqN : ∀ x y z : Int32, Mq (up2 (up2 (up2 T2 0 51 x) 0 49 y) 0 50 z) Y := fun x y z => mq2.fr (fun q j hq => by rw [up2_n (by omega), up2_n (by omega), up2_n (by omega)])
      have new : bfI (i + 1) (nI (pbN i)) y (up2 (up2 (up2 T2 0 51 (nI 1)) 0 49 (nI (pbN i))) 0 50 y) := Or.inr ⟨by omega, by rw [up2_k (by omega), up2_k (by omega), up2_hit rfl rfl], by rw [up2_k (by omega), up2_hit rfl rfl], up2_hit rfl rfl⟩
      rcases hv with ⟨_, hv2, hv3⟩ | ⟨_, hv1, hv2, hv3⟩
      · have hgt : ¬ y ≤ v5 := by
          rw [Int32.le_iff_toInt_le, hv2, show (-100000000 : Int32).toInt = -100000000 by decide]
          omega
        rw [if_neg hgt, offers_0 _ _ ((t22 0 51 (by omega)).trans hv3), bV_some]
        exact ih (i + 1) (pbN i) S2 _ _ _ (by omega) (by omega) fS2 (kpN _ _ _) (by rw [hY]; exact cq2) (by rw [hY]; exact mqN _ _ _) new
      · have h50 : T2 0 50 = v5 := (t22 0 50 (by omega)).trans hv3
        rw [offers_1 _ _ ((t22 0 51 (by omega)).trans hv1), bV_some, h50]
        by_cases cc : y ≤ v5
        · rw [if_pos cc, if_neg (show ¬ v5 < y from Int32.not_lt.mpr cc)]
          exact ih (i + 1) (pbN i) S2 T2 _ _ (by omega) (by omega) fS2 kp2 (by rw [hY]; exact cq2) (by rw [hY]; exact mq2) (Or.inr ⟨by omega, (t22 0 51 (by omega)).trans hv1, (t22 0 49 (by omega)).trans hv2, h50⟩)
        · rw [if_neg cc, if_pos (show v5 < y from Int32.not_le.mp cc)]
          exact ih (i + 1) (pbN i) S2 _ _ _ (by omega) (by omega) fS2 (kpN _ _ _) (by rw [hY]; exact cq2) (by rw [hY]; exact mqN _ _ _) new
    · obtain ⟨T', b1, b2, b3⟩ := kp.back
      rw [if_pos (show nI 5 < nI i from nI_lt (by omega) (by omega)), if_pos (show nI 5 < nI i from nI_lt (by omega) (by omega)), b1, bV_some]
      rcases hv with ⟨hv1, _⟩ | ⟨_, hv1, hv2, hv3⟩
      · omega
      · rw [b3 _ _ (by omega), b3 _ _ (by omega), hv2, hv3]
        by_cases c3 : v3 = nI 0
        · rw [if_pos c3, if_pos c3]; exact ⟨_, _, _, rfl, rfl, fS, b2⟩
        · rw [if_neg c3, if_neg c3]; exact ⟨_, _, _, rfl, rfl, fS, b2⟩
theorem op_bestFor {S T : St} (h : Rel S T) (v w u : Int32) : Opp (c_N_bestFor v w u S) (m_bestFor v w u T) := by
  obtain ⟨X, E, h⟩ := h
  unfold c_N_bestFor m_bestFor
  simp only [lits, lits64, bnd_eq, nzI0, nzI1]
  have h := h.z (nI 0)
  generalize up2 T 0 0 (nI 0) = T at h ⊢
  rcases house2 h v with ⟨a, ha, ha6, rfl, e1, e2⟩ | ⟨e1, e2⟩
  · rw [e1, e2, bI_some, bI_some, if_neg m10, if_neg m10]
    simp only []
    rcases house2 h w with ⟨b, hb, hb6, rfl, e3, e4⟩ | ⟨e3, e4⟩
    · rw [e3, e4, bI_some, bI_some, if_neg m10, if_neg m10]
      simp only []
      by_cases eab : a = b
      · rw [if_pos (show nI a = nI b by rw [eab]), if_pos (show nI a = nI b by rw [eab])]
        exact opp_now h _
      · rw [if_neg (nI_nn eab (by omega) (by omega)), if_neg (nI_nn eab (by omega) (by omega))]
        rcases choice2 u S T with ⟨c, hc, rfl, e5, e6⟩ | ⟨e5, e6⟩
        · rw [e5, e6, bI_some, bI_some, if_neg m10, if_neg m10]
          simp only []
          obtain ⟨S1, r1, g1, g2, g3, f1⟩ := copy_ok (o0 := 38) (o1 := 33) (by omega) S
          obtain ⟨T1, r2, kp, k51, f2⟩ := keep_ok T
          rw [r1, r2, bV_some, bV_some]
          have iv := h.2.1.2.2.1.1
          have cq1 : Cq S1 38 X := copy_cq h.2.1.1 iv (by omega) g1 g2 g3 f1
          have hxx : uX X 7 a (X 7 a) = X := by
            funext q j
            unfold uX
            by_cases e : q = 7 ∧ j = a
            · rw [if_pos e, e.1, e.2]
            · rw [if_neg e]
          obtain ⟨r, S', T', r3, r4, fS, fT⟩ := bf_ls h ha hb (v3 := nI c) FU 0 (X 7 a) S1 T1 (nI 9) (-100000000) (by omega) (by unfold FU; omega) (f1.mono (fun q j hq => by unfold jC kC; omega)) kp (by rw [hxx]; exact cq1) (by rw [hxx]; exact h.2.1.2.1.fr (fun q j hq => f2 q j (by omega))) (Or.inl ⟨rfl, rfl, k51⟩)
          rw [r3, r4]
          exact opp_go h _ fS fT
        · rw [e5, e6, bI_some, bI_some, if_pos rfl, if_pos rfl]
          exact opp_now h _
    · rw [e3, e4, bI_some, bI_some, if_pos rfl, if_pos rfl]
      exact opp_now h _
  · rw [e1, e2, bI_some, bI_some, if_pos rfl, if_pos rfl]
    exact opp_now h _
