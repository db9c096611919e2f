/-! the place of a house; meals of all -/
theorem php : ∀ (n : Nat) (f : Nat → Nat), (∀ p, p ≤ n → f p < n) → ∃ p q, p < q ∧ q ≤ n ∧ f p = f q
  | 0, f, h => absurd (h 0 (Nat.le_refl 0)) (by omega)
  | n + 1, f, h => by
    by_cases hc : ∃ p, p ≤ n ∧ f p = f (n + 1)
    · obtain ⟨p, h1, h2⟩ := hc
      exact ⟨p, n + 1, by omega, by omega, h2⟩
    · have hc' : ∀ p, p ≤ n → f p ≠ f (n + 1) := fun p hp e => hc ⟨p, hp, e⟩
      have hg : ∀ p, p ≤ n → (if f p = n then f (n + 1) else f p) < n := by
        intro p hp
        have h1 := h p (by omega)
        have h2 := h (n + 1) (by omega)
        have h3 := hc' p hp
        by_cases e : f p = n
        · rw [if_pos e]; omega
        · rw [if_neg e]; omega
      obtain ⟨p, q, h1, h2, h3⟩ := php n (fun p => if f p = n then f (n + 1) else f p) hg
      have e1 := hc' p (by omega)
      have e2 := hc' q (by omega)
      refine ⟨p, q, h1, by omega, ?_⟩
      by_cases ep : f p = n
      · by_cases eq : f q = n
        · omega
        · rw [if_pos ep, if_neg eq] at h3; exact absurd h3.symm e2
      · by_cases eq : f q = n
        · rw [if_neg ep, if_pos eq] at h3; exact absurd h3 e1
        · rw [if_neg ep, if_neg eq] at h3; exact h3
theorem inj_sur {n : Nat} {f : Nat → Nat} (h1 : ∀ p, p < n → f p < n) (h2 : ∀ p q, p < n → q < n → f p = f q → p = q) {h : Nat} (hh : h < n) : ∃ p, p < n ∧ f p = h := by
  obtain ⟨p, q, a, b, c⟩ := php n (fun p => if p < n then f p else h) (fun p hp => by
    by_cases e : p < n
    · simp only [if_pos e]; exact h1 p e
    · simp only [if_neg e]; exact hh)
  rw [if_pos (by omega)] at c
  by_cases e : q < n
  · rw [if_pos e] at c
    have := h2 p q (by omega) e c
    omega
  · rw [if_neg e] at c
    exact ⟨p, by omega, c⟩
noncomputable def plc (X : Cf) (h : Nat) : Nat := if ex : ∃ p, p < X 0 0 ∧ X 6 p = h then Classical.choose ex else 0
theorem plc_spec {X : Cf} (iv : Iv X) {h : Nat} (hh : h < X 0 0) : plc X h < X 0 0 ∧ X 6 (plc X h) = h := by
  have ex : ∃ p, p < X 0 0 ∧ X 6 p = h := inj_sur iv.2.2.2.2.2.2.2.2.2.1 iv.2.2.2.2.2.2.2.2.2.2 hh
  unfold plc
  rw [dif_pos ex]
  exact Classical.choose_spec ex
theorem plc_line {X : Cf} (iv : Iv X) {p : Nat} (hp : p < X 0 0) : plc X (X 6 p) = p := by
  have h := plc_spec iv (iv.2.2.2.2.2.2.2.2.2.1 p hp)
  exact iv.2.2.2.2.2.2.2.2.2.2 _ _ h.1 hp h.2
noncomputable def mealH (E : Ev) (X : Cf) (h : Nat) : Int32 := E (ltr X (gtP X (plc X h)) (plc X h) h)
def NrC (S : St) (o : Nat) (X : Cf) (E : Ev) : Prop := Cq S o X ∧ Cres S X (X 0 0) ∧ S 111 7 = nI (X 0 4) ∧ CE S E
def NrM (T : St) (X : Cf) (E : Ev) : Prop := Mq T X ∧ Mres T X (X 0 0) ∧ ME T E
theorem NrC.fr {S S' : St} {o : Nat} {X : Cf} {E : Ev} (h : NrC S o X E) (ho : o = 33 ∨ o = 38) (iv : Iv X) (hf : ∀ q j, (16 ≤ q ∧ q ≤ 23) ∨ (28 ≤ q ∧ q ≤ 110) ∨ (q = 111 ∧ j ≤ 7) ∨ (121 ≤ q ∧ q ≤ 128) → S' q j = S q j) : NrC S' o X E := by
  obtain ⟨h1, h2, h3, h4⟩ := h
  have i1 := iv.1
  refine ⟨h1.fr (by omega) (fun q j a b => hf q j (by omega)), ⟨fun pl hpl => ⟨fun s hs => ?_, ?_⟩, fun h7 s hs => ?_⟩, ?_, h4.fr (fun q k hc => hf q k (by omega))⟩
  · have := iv.2.2.2.2.2.2.2.2.2.1 pl hpl
    rw [hf _ _ (by omega)]; exact (h2.1 pl hpl).1 s hs
  · rw [hf _ _ (by omega)]; exact (h2.1 pl hpl).2
  · rw [hf _ _ (by omega)]; exact h2.2 h7 s hs
  · rw [hf _ _ (by omega)]; exact h3
theorem NrM.fr {T T' : St} {X : Cf} {E : Ev} (h : NrM T X E) (hf : Fr (fun q j => mealPM q j ∨ (q = 0 ∧ j = 0)) T T') : NrM T' X E := by
  obtain ⟨h1, h2, h3⟩ := h
  refine ⟨h1.fr (fun q j hc => hf q j (by unfold mealPM goP; omega)), ⟨fun pl hpl => ⟨fun s hs => ?_, ?_, ?_⟩, fun h7 s hs => ?_⟩, h3.fr (fun q k hc => hf q k (by unfold mealPM goP; omega))⟩
  · rw [hf _ _ (by unfold mealPM goP; omega)]; exact (h2.1 pl hpl).1 s hs
  · rw [hf _ _ (by unfold mealPM goP; omega)]; exact (h2.1 pl hpl).2.1
  · rw [hf _ _ (by unfold mealPM goP; omega)]; exact (h2.1 pl hpl).2.2
  · rw [hf _ _ (by unfold mealPM goP; omega)]; exact h2.2 h7 s hs
theorem NrC.of {S S' : St} {o : Nat} {X : Cf} {E : Ev} (h : NoonOk X S S') (cq : Cq S o X) (ho : o = 33 ∨ o = 38) (ce : CE S E) : NrC S' o X E :=
  ⟨cq.fr (by omega) (fun q j a b => h.2.2.2 q j (by unfold noonP; omega)), h.1, h.2.2.1, ce.fr (fun q k hc => h.2.2.2 q k (by unfold noonP; omega))⟩
theorem NrM.of {T T' : St} {X : Cf} {E : Ev} (h : NoonMOk X T T') (mq : Mq T X) (me : ME T E) : NrM T' X E :=
  ⟨mq.fr (fun q j hc => h.2.2 q j (by unfold nnM; omega)), h.1, me.fr (fun q k hc => h.2.2 q k (by unfold nnM; omega))⟩
theorem mealCH {S : St} {o : Nat} {X : Cf} {E : Ev} {h : Nat} (nr : NrC S o X E) (iv : Iv X) (hh : h < X 0 0) : Ok (c_Noon_mealOf (nI h) S) (fun z => z.1 = mealH E X h ∧ Fr mealPC S z.2) := by
  obtain ⟨h1, h2⟩ := plc_spec iv hh
  have i1 := iv.1
  have hr := nr.2.1.1 _ h1
  rw [h2] at hr
  exact mealC_ok iv nr.1 hh (by omega) hr.1 (fun s hs => Nat.le_trans (gtP_le iv _ s hs) (by omega)) hr.2 nr.2.2.1 nr.2.2.2
theorem mealMH {T : St} {X : Cf} {E : Ev} {h : Nat} (nr : NrM T X E) (iv : Iv X) (hh : h < X 0 0) : Ok (m_mealOf (nI h) (nI (X 0 4)) T) (fun z => z.1 = mealH E X h ∧ Fr mealPM T z.2) := by
  obtain ⟨h1, h2⟩ := plc_spec iv hh
  have i1 := iv.1
  have hr := nr.2.1.1 _ h1
  rw [h2] at hr
  exact mealM_ok iv nr.1 h1 h2 hr.1 (fun s hs => Nat.le_trans (gtP_le iv _ s hs) (by omega)) hr.2.1 nr.2.2
theorem NrC.meal {S S' : St} {o : Nat} {X : Cf} {E : Ev} (h : NrC S o X E) (ho : o = 33 ∨ o = 38) (iv : Iv X) (hf : Fr mealPC S S') : NrC S' o X E := h.fr ho iv (fun q j hc => hf q j (by unfold mealPC; omega))
theorem NrM.meal {T T' : St} {X : Cf} {E : Ev} (h : NrM T X E) (hf : Fr mealPM T T') : NrM T' X E := h.fr (hf.mono (fun q j hp => Or.inl hp))
noncomputable def smM (E : Ev) (X : Cf) : Nat → Int32
  | 0 => nI 0
  | k + 1 => smM E X k + mealH E X k
noncomputable def mnM (E : Ev) (X : Cf) : Nat → Int32
  | 0 => nI 2147483647
  | k + 1 => imin (mnM E X k) (mealH E X k)
theorem imin_max (x : Int32) : imin (nI 2147483647) x = x := by
  unfold imin
  by_cases h : x < nI 2147483647
  · rw [if_pos h]
  · rw [if_neg h]
    rw [Int32.lt_iff_toInt_lt] at h
    have e : (nI 2147483647).toInt = 2147483647 := by decide
    have h2 := x.toInt_lt
    apply Int32.toInt_inj.mp
    omega
theorem together_ok {o : Nat} {X : Cf} {E : Ev} (ho : o = 33 ∨ o = 38) (iv : Iv X) : ∀ (n k : Nat) (S : St), k ≤ X 0 0 → X 0 0 < n + k → NrC S o X E → Ok (c_Noon_mealsTogether_h4 n (smM E X k) (nI k) S) (fun z => z.1 = smM E X (X 0 0) ∧ Fr mealPC S z.2) := by
  have i1 := iv.1
  intro n
  induction n with
  | zero => intro k S hk hn; omega
  | succ n ih =>
    intro k S hk hn nr
    rw [c_Noon_mealsTogether_h4, nr.1.1]
    simp only [nI_leE (show X 0 0 < 2 ^ 31 by omega) (show k < 2 ^ 31 by omega)]
    refine ok_if (fun h => ok_some ⟨by rw [show k = X 0 0 by omega], Fr.rfl⟩) (fun h => ok_bI (mealCH nr iv (by omega)) (fun x S1 hq => ?_))
    simp only [bnd_eq, lits, nI_add]
    obtain ⟨q1, q2⟩ := hq
    simp only [] at q1 q2
    rw [q1]
    exact (ih (k + 1) S1 (by omega) (by omega) (nr.meal ho iv q2)).mono (fun z hz => ⟨hz.1, q2.tr hz.2⟩)
theorem least_ok {o : Nat} {X : Cf} {E : Ev} (ho : o = 33 ∨ o = 38) (iv : Iv X) : ∀ (n k : Nat) (S : St), k ≤ X 0 0 → X 0 0 < n + k → NrC S o X E → Ok (c_Noon_leastMeal_h5 n (mnM E X k) (nI k) S) (fun z => z.1 = mnM E X (X 0 0) ∧ Fr mealPC S z.2) := by
  have i1 := iv.1
  intro n
  induction n with
  | zero => intro k S hk hn; omega
  | succ n ih =>
    intro k S hk hn nr
    rw [c_Noon_leastMeal_h5, nr.1.1]
    simp only [nI_leE (show X 0 0 < 2 ^ 31 by omega) (show k < 2 ^ 31 by omega)]
    refine ok_if (fun h => ok_some ⟨by rw [show k = X 0 0 by omega], Fr.rfl⟩) (fun h => ok_bI (mealCH nr iv (by omega)) (fun x S1 hq => ?_))
    simp only [bnd_eq, lits, nI_add]
    obtain ⟨q1, q2⟩ := hq
    simp only [] at q1 q2
    rw [q1]
    exact (ih (k + 1) S1 (by omega) (by omega) (nr.meal ho iv q2)).mono (fun z hz => ⟨hz.1, q2.tr hz.2⟩)
theorem mealsTogether_ok {S : St} {o : Nat} {X : Cf} {E : Ev} (ho : o = 33 ∨ o = 38) (iv : Iv X) (nr : NrC S o X E) : Ok (c_Noon_mealsTogether S) (fun z => z.1 = smM E X (X 0 0) ∧ Fr mealPC S z.2) :=
  together_ok ho iv FU 0 S (by omega) (by have := iv.1; unfold FU; omega) nr
theorem leastMeal_ok {S : St} {o : Nat} {X : Cf} {E : Ev} (ho : o = 33 ∨ o = 38) (iv : Iv X) (nr : NrC S o X E) : Ok (c_Noon_leastMeal S) (fun z => z.1 = mnM E X (X 0 0) ∧ Fr mealPC S z.2) :=
  least_ok ho iv FU 0 S (by omega) (by have := iv.1; unfold FU; omega) nr
noncomputable def allE (E : Ev) (X : Cf) (by0 : Nat) : Int32 := if by0 = 0 then smM E X (X 0 0) else mnM E X (X 0 0)
theorem allM_h5 {X : Cf} {E : Ev} {b : Nat} (hb : b ≤ 1) (iv : Iv X) : ∀ (n k : Nat) (T : St), k ≤ X 0 0 → X 0 0 < n + k → NrM T X E → ∀ v : Int32, (b = 0 → v = smM E X k) → (b = 1 → 0 < k → v = mnM E X k) → 0 < X 0 0 → Ok (m_allMeals_h5 n (nI b) (nI (X 0 4)) v (nI k) T) (fun z => z.1 = allE E X b ∧ Fr mealPM T z.2) := by
  have i1 := iv.1
  intro n
  induction n with
  | zero => intro k S hk hn; omega
  | succ n ih =>
    intro k S hk hn nr v hv0 hv1 h0
    rw [m_allMeals_h5, nr.1.1]
    simp only [nI_leE (show X 0 0 < 2 ^ 31 by omega) (show k < 2 ^ 31 by omega)]
    refine ok_if (fun h => ok_some ⟨?_, Fr.rfl⟩) (fun h => ok_bI (mealMH nr iv (by omega)) (fun x S1 hq => ?_))
    · have hk2 : k = X 0 0 := by omega
      unfold allE
      by_cases b0 : b = 0
      · rw [if_pos b0, ← hk2]; exact hv0 b0
      · rw [if_neg b0, ← hk2]; exact hv1 (by omega) (by omega)
    · obtain ⟨q1, q2⟩ := hq
      simp only [] at q1 q2
      rw [q1]
      unfold m_allMeals_b50
      simp (disch := omega) only [bnd_eq, lits, nI_add, nI_eqE]
      have nx : ∀ w : Int32, (b = 0 → w = smM E X (k + 1)) → (b = 1 → 0 < k + 1 → w = mnM E X (k + 1)) → Ok (m_allMeals_h5 n (nI b) (nI (X 0 4)) w (nI (k + 1)) S1) (fun z => z.1 = allE E X b ∧ Fr mealPM S z.2) := fun w h1 h2 => (ih (k + 1) S1 (by omega) (by omega) (nr.meal q2) w h1 h2 h0).mono (fun z hz => ⟨hz.1, q2.tr hz.2⟩)
      refine ok_if (fun b0 => nx _ (fun _ => ?_) (fun b1 => by omega)) (fun b0 => ok_if (fun k0 => nx _ (fun b1 => absurd b1 b0) (fun _ _ => ?_)) (fun k0 => nx _ (fun b1 => absurd b1 b0) (fun _ _ => ?_)))
      · rw [hv0 b0]; rfl
      · subst k0
        show _ = imin (nI 2147483647) (mealH E X 0)
        rw [imin_max]
      · rw [hv1 (by omega) (by omega)]; rfl
theorem allMeals_ok {T : St} {X : Cf} {E : Ev} {b : Nat} (hb : b ≤ 1) (iv : Iv X) (h0 : 0 < X 0 0) (nr : NrM T X E) : Ok (m_allMeals (nI b) (nI (X 0 4)) T) (fun z => z.1 = allE E X b ∧ Fr mealPM T z.2) :=
  allM_h5 hb iv FU 0 T (by omega) (by have := iv.1; unfold FU; omega) nr _ (fun _ => rfl) (fun _ h => by omega) h0
