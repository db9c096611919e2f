/-! order, image, back, undo -/
def dg : Nat → Nat → Nat
  | N, 0 => N % 10
  | N, k + 1 => dg (N / 10) k
theorem order_ls {hs : Nat} (h6 : hs ≤ 6) {S : St} (h1 : S 28 0 = nI hs) : ∀ (d n n' k N : Nat) (m : Int32) (T : St), T 0 24 = nI hs → d + k = hs → d < n → d < n' → N < 2 ^ 31 →
    ∃ T', Fr (fun q j => q = 14 ∧ j < d) T T' ∧ ((c_N_isOrder_h13 n (nI N) m (nI k) S = some (nI 0, S) ∧ m_order_h30 n' (nI N) m (nI d - nI 1) T = some (nI 0, T')) ∨ (c_N_isOrder_h13 n (nI N) m (nI k) S = some (nI 1, S) ∧ m_order_h30 n' (nI N) m (nI d - nI 1) T = m_order_h108 FU (nI 0) T' ∧ (∀ j, j < d → T' 14 (d - 1 - j) = nI (dg N j) ∧ dg N j < hs ∧ ¬ hasB m (dg N j)) ∧ (∀ i j, i < j → j < d → dg N i ≠ dg N j))) := by
  intro d
  induction d with
  | zero =>
    intro n n' k N m T h24 hk hn hn' hN
    obtain ⟨n, rfl⟩ : ∃ a, n = a + 1 := ⟨n - 1, by omega⟩
    obtain ⟨n', rfl⟩ : ∃ a, n' = a + 1 := ⟨n' - 1, by omega⟩
    rw [c_N_isOrder_h13, m_order_h30]
    simp only [lits, bnd_eq, nzI0, nzI1]
    rw [h1, if_pos (show nI hs ≤ nI k from nI_le (by omega) (by omega)), if_pos (show nI 0 - nI 1 < nI 0 by decide)]
    refine ⟨T, Fr.rfl, ?_⟩
    by_cases e : N = 0
    · subst e
      rw [if_pos rfl, if_pos rfl]
      exact Or.inr ⟨rfl, rfl, fun j hj => by omega, fun i j _ hj => by omega⟩
    · rw [if_neg (nI_nn e hN (by omega)), if_neg (nI_nn e hN (by omega))]
      exact Or.inl ⟨rfl, rfl⟩
  | succ d ih =>
    intro n n' k N m T h24 hk hn hn' hN
    obtain ⟨n, rfl⟩ : ∃ a, n = a + 1 := ⟨n - 1, by omega⟩
    obtain ⟨n', rfl⟩ : ∃ a, n' = a + 1 := ⟨n' - 1, by omega⟩
    have hx : N % 10 < 10 := Nat.mod_lt _ (by omega)
    have hq : N / 10 < 2 ^ 31 := Nat.lt_of_le_of_lt (Nat.div_le_self _ _) hN
    rw [c_N_isOrder_h13, m_order_h30]
    simp only [lits, bnd_eq, nzI0, nzI1]
    rw [h1, if_neg (show ¬ nI hs ≤ nI k from nI_ge (by omega) (by omega)), dv_in (show nI 10 ≠ 0 by decide), dv_in (show nI 10 ≠ 0 by decide), dv_in (show nI 10 ≠ 0 by decide), dv_in (show nI 10 ≠ 0 by decide), nI_rem hN (by omega) (by omega), pk_div hN (by omega) (by omega), pk_sub (show 1 ≤ d + 1 by omega), show d + 1 - 1 = d by omega, if_neg (show ¬ nI d < nI 0 from nI_pos (by omega)), ckI (by omega) (by omega), ckI (by omega) (by omega), nI_clamp (by omega), up2_hit rfl rfl]
    have h24' : (up2 T 14 d (nI (N % 10))) 0 24 = nI hs := (up2_o (by omega)).trans h24
    have f1 : Fr (fun q j => q = 14 ∧ j < d + 1) T (up2 T 14 d (nI (N % 10))) := Fr.rfl.up ⟨rfl, by omega⟩
    unfold m_isHouse
    simp only [lits, nzI0, nzI1]
    rw [h24', if_neg (show ¬ nI (N % 10) < nI 0 from nI_pos (by omega))]
    by_cases c : hs ≤ N % 10
    · rw [if_pos (show nI hs ≤ nI (N % 10) from nI_le c (by omega)), if_pos (show nI hs ≤ nI (N % 10) from nI_le c (by omega)), bI_some]
      exact ⟨_, f1, Or.inl ⟨rfl, if_pos rfl⟩⟩
    · rw [if_neg (show ¬ nI hs ≤ nI (N % 10) from nI_ge (by omega) (by omega)), if_neg (show ¬ nI hs ≤ nI (N % 10) from nI_ge (by omega) (by omega)), bI_some]
      simp only []
      rw [if_neg m10, ckI (by omega) (by omega), up2_hit rfl rfl, has_eq, bI_some]
      simp only []
      by_cases hb : hasB m (N % 10)
      · rw [if_pos (show (m >>> (nI (N % 10) &&& 31)) &&& nI 1 = nI 1 from hb), if_pos hb, if_neg m10]
        exact ⟨_, f1, Or.inl ⟨rfl, rfl⟩⟩
      · rw [if_neg (show ¬ (m >>> (nI (N % 10) &&& 31)) &&& nI 1 = nI 1 from hb), if_neg hb, if_pos rfl, ckI (by omega) (by omega), up2_hit rfl rfl, nI_add]
        have em1 : nI d + -nI 1 = nI d - nI 1 := by
          rw [Int32.sub_eq_add_neg]
        rw [em1]
        obtain ⟨T', g1, g⟩ := ih n n' (k + 1) (N / 10) (m ||| (nI 1 <<< (nI (N % 10) &&& 31))) _ h24' (by omega) (by omega) (by omega) hq
        refine ⟨T', f1.tr (g1.mono (fun q j hq => ⟨hq.1, by omega⟩)), ?_⟩
        rcases g with ⟨u1, u2⟩ | ⟨u1, u2, u3, u4⟩
        · exact Or.inl ⟨u1, u2⟩
        · refine Or.inr ⟨u1, u2, fun j hj => ?_, fun i j hij hj => ?_⟩
          · cases j with
            | zero =>
              refine ⟨?_, show N % 10 < hs by omega, hb⟩
              rw [g1 _ _ (by omega), show d - 0 = d by omega, up2_hit rfl rfl]
              rfl
            | succ j =>
              obtain ⟨w1, w2, w3⟩ := u3 j (by omega)
              rw [show d - (j + 1) = d - 1 - j by omega]
              refine ⟨w1, w2, fun hn => w3 ((hasB_or (by omega) (by omega)).mpr (Or.inl hn))⟩
          · cases j with
            | zero => omega
            | succ j =>
              cases i with
              | zero =>
                obtain ⟨w1, w2, w3⟩ := u3 j (by omega)
                intro e
                exact w3 ((hasB_or (by omega) (by omega)).mpr (Or.inr e.symm))
              | succ i => exact u4 i j (by omega) (by omega)
theorem order_w {hs : Nat} (h6 : hs ≤ 6) : ∀ (d n N : Nat) (S : St), d ≤ hs → d < n → N < 2 ^ 31 → ∃ S', c_N_order_h29 n (nI N) (nI d - nI 1) S = some (nI 1, S') ∧ (∀ j, j < d → S' 36 (d - 1 - j) = nI (dg N j)) ∧ Fr (fun q j => q = 36 ∧ j < d) S S' := by
  intro d
  induction d with
  | zero =>
    intro n N S hd hn hN
    obtain ⟨n, rfl⟩ : ∃ a, n = a + 1 := ⟨n - 1, by omega⟩
    rw [c_N_order_h29]
    simp only [lits, bnd_eq, nzI0, nzI1]
    rw [if_pos (show nI 0 - nI 1 < nI 0 by decide)]
    exact ⟨S, rfl, fun j hj => by omega, Fr.rfl⟩
  | succ d ih =>
    intro n N S hd hn hN
    obtain ⟨n, rfl⟩ : ∃ a, n = a + 1 := ⟨n - 1, by omega⟩
    have hq : N / 10 < 2 ^ 31 := Nat.lt_of_le_of_lt (Nat.div_le_self _ _) hN
    rw [c_N_order_h29]
    simp only [lits, bnd_eq, nzI0, nzI1]
    rw [pk_sub (show 1 ≤ d + 1 by omega), show d + 1 - 1 = d by omega, if_neg (show ¬ nI d < nI 0 from nI_pos (by omega)), dv_in (show nI 10 ≠ 0 by decide), dv_in (show nI 10 ≠ 0 by decide), nI_rem hN (by omega) (by omega), pk_div hN (by omega) (by omega), ckI (by omega) (by omega), nI_clamp (by omega)]
    have em1 : nI d + -nI 1 = nI d - nI 1 := by
      rw [Int32.sub_eq_add_neg]
    rw [em1]
    obtain ⟨S', r, g1, g2⟩ := ih n (N / 10) (up2 S 36 d (nI (N % 10))) (by omega) (by omega) hq
    refine ⟨S', r, fun j hj => ?_, (Fr.rfl.up ⟨rfl, by omega⟩).tr (g2.mono (fun q j hq => ⟨hq.1, by omega⟩))⟩
    cases j with
    | zero =>
      rw [g2 _ _ (by omega), show d - 0 = d by omega, up2_hit rfl rfl]
      rfl
    | succ j =>
      rw [show d - (j + 1) = d - 1 - j by omega]
      exact g1 j (by omega)
theorem order_cp {hs : Nat} (h6 : hs ≤ 6) : ∀ (n k : Nat) (T : St), T 0 24 = nI hs → k ≤ hs → hs < n + k → ∃ T', m_order_h108 n (nI k) T = some (nI 1, T') ∧ (∀ j, k ≤ j → j < hs → T' 11 j = T 14 j) ∧ Fr (fun q j => q = 11 ∧ k ≤ j ∧ j < hs) T T' := by
  intro n
  induction n with
  | zero => intro k T h1 h2; omega
  | succ n ih =>
    intro k T h24 hk hn
    rw [m_order_h108]
    simp only [lits, bnd_eq, nzI0, nzI1]
    rw [h24]
    by_cases e : k < hs
    · rw [if_neg (show ¬ nI hs ≤ nI k from nI_ge e (by omega)), ckI (by omega) (by omega), ckI (by omega) (by omega), nI_clamp (by omega), nI_add]
      obtain ⟨T', r, g1, g2⟩ := ih (k + 1) (up2 T 11 k (T 14 k)) ((up2_o (by omega)).trans h24) (by omega) (by omega)
      refine ⟨T', r, fun j hj1 hj2 => ?_, fun q j hp => ?_⟩
      · by_cases ej : j = k
        · rw [ej, g2 _ _ (by omega), up2_hit rfl rfl]
        · rw [g1 j (by omega) hj2, up2_o (by omega)]
      · rw [g2 _ _ (by omega), up2_n (by omega)]
    · rw [if_pos (show nI hs ≤ nI k from nI_le (by omega) (by omega))]
      exact ⟨T, rfl, fun j _ _ => by omega, Fr.rfl⟩
def lnX (X : Cf) (f : Nat → Nat) : Cf := fun q j => if q = 6 ∧ j < X 0 0 then f j else X q j
theorem op_order {S T : St} (h : Rel S T) (v : Int32) : Opp (c_N_order v S) (m_order v T) := by
  obtain ⟨X, E, h⟩ := h
  unfold c_N_order m_order c_N_isOrder
  simp only [lits, lits64, bnd_eq, nzI0, nzI1]
  have h := h.z (nI 0)
  generalize up2 T 0 0 (nI 0) = T at h ⊢
  rcases street2 h with ⟨h0, e1, e2⟩ | ⟨h0, e1, e2⟩
  · rw [e1, bI_some, if_neg m10, if_neg e2]
    simp only []
    by_cases hv : nI 0 ≤ v
    · have hv' : ¬ v < 0 := Int32.not_lt.mpr hv
      obtain ⟨N, hN, rfl⟩ := nI_of hv'
      obtain ⟨q1, ⟨cq, mq, lw, hd, h40, h42⟩, q3, q4, q5, q6⟩ := h
      have hre : Re X E S T := ⟨q1, ⟨cq, mq, lw, hd, h40, h42⟩, q3, q4, q5, q6⟩
      have h6 := lw.1.1
      rw [if_pos hv, if_pos hv, mq.1]
      obtain ⟨T1, f1, g⟩ := order_ls h6 cq.1 (X 0 0) FU FU 0 N (nI 0) T mq.1 (by omega) (by unfold FU; omega) (by unfold FU; omega) hN
      have h1 : Re X E S T1 := hre.go Fr.rfl (f1.mono (fun q j hq => by unfold jM kM; omega))
      rcases g with ⟨u1, u2⟩ | ⟨u1, u2, u3, u4⟩
      · rw [u1, u2, bI_some, if_pos rfl]
        exact opp_now h1 _
      · rw [u1, u2, bI_some, if_neg m10]
        simp only []
        rw [cq.1]
        obtain ⟨S', r1, g1, g2⟩ := order_w h6 (X 0 0) FU N S (by omega) (by unfold FU; omega) hN
        obtain ⟨T2, r2, g3, g4⟩ := order_cp h6 FU 0 T1 h1.2.1.2.1.1 (by omega) (by unfold FU; omega)
        rw [r1, r2]
        obtain ⟨v1, v2, v3, v4⟩ := lw.vr
        obtain ⟨c1, c2, c3⟩ := cq.vr
        have z : ∀ q j, q ≠ 6 → lnX X (fun p => dg N (X 0 0 - 1 - p)) q j = X q j := fun q j hq => if_neg (fun e => hq e.1)
        have z6 : ∀ j, j < X 0 0 → lnX X (fun p => dg N (X 0 0 - 1 - p)) 6 j = dg N (X 0 0 - 1 - j) := fun j hj => if_pos ⟨rfl, hj⟩
        have ss : SS X (lnX X (fun p => dg N (X 0 0 - 1 - p))) := ⟨fun j hj => z _ _ (by omega), fun q j _ _ => z _ _ (by omega)⟩
        have fS : ∀ q j, q ≠ 36 → S' q j = S q j := fun q j hq => g2 q j (by omega)
        have fT : ∀ q j, q ≠ 11 → q ≠ 14 → T2 q j = T q j := fun q j hq hq2 => by rw [g4 q j (by omega), f1 q j (by omega)]
        have vr : Vr (lnX X (fun p => dg N (X 0 0 - 1 - p))) (X 0 0) := by
          refine ⟨by rw [z _ _ (by omega)]; exact v1, fun a ha => ⟨by rw [z _ _ (by omega)]; exact (v2 a ha).1, fun s hs => by rw [z _ _ (by omega)]; exact (v2 a ha).2 s hs⟩, fun p hp => ?_, fun p q hp hq e => ?_⟩
          · rw [z6 p hp]; exact (u3 (X 0 0 - 1 - p) (by omega)).2.1
          · rw [z6 p hp, z6 q hq] at e
            rcases (show X 0 0 - 1 - p < X 0 0 - 1 - q ∨ X 0 0 - 1 - q < X 0 0 - 1 - p ∨ p = q by omega) with c | c | c
            · exact absurd e (u4 _ _ c (by omega))
            · exact absurd e.symm (u4 _ _ c (by omega))
            · exact c
        have z0 := z 0 0 (by omega)
        have z4 := z 0 4 (by omega)
        refine ⟨_, _, _, rfl, rfl, lnX X (fun p => dg N (X 0 0 - 1 - p)), E, q1.fr (fun q j hq => fS _ _ (by omega)) (fun q j hq => fT _ _ (by omega) (by omega)), RX.mk ⟨cq, mq, lw, hd, h40, h42⟩ ss vr (fun q j hq => fS _ _ (by omega)) ⟨by rw [z4, fS _ _ (by omega)]; exact c1, fun a ha => ⟨by rw [z _ _ (by omega), fS _ _ (by omega)]; exact (c2 a ha).1, fun s hs => by rw [z _ _ (by omega), fS _ _ (by omega)]; exact (c2 a ha).2 s hs⟩, fun p hp => ?_⟩ (fun q j hq => fT _ _ (by omega) (by omega)) ⟨by rw [z4, fT _ _ (by omega) (by omega)]; exact hd, fun a ha => ⟨by rw [z _ _ (by omega), fT _ _ (by omega) (by omega)]; exact (mq.2.2.2.2.2.1 a ha).2.2.2.1, fun s hs => by rw [z _ _ (by omega), fT _ _ (by omega) (by omega)]; exact (mq.2.2.2.2.2.1 a ha).2.2.2.2 s hs⟩, fun p hp => ?_⟩, q3.fr (fun q j hq => fS _ _ (by omega)) (fun q j hq => fT _ _ (by omega) (by omega)), (q4.fr (fun j => fS _ _ (by omega)) (fun j => fT _ _ (by omega) (by omega))).cg z0, (q5.fr (fun q j hq => fS _ _ (by omega)) (fun q j hq => fT _ _ (by omega) (by omega))).cg z0 (by omega), q6.fr (fun q j hq => fS _ _ (by omega)) (fun q j hq => fT _ _ (by omega) (by omega))⟩
        · rw [z6 p hp]
          have := g1 (X 0 0 - 1 - p) (by omega)
          rw [show X 0 0 - 1 - (X 0 0 - 1 - p) = p by omega] at this
          exact this
        · rw [z6 p hp, g3 p (by omega) hp]
          have := (u3 (X 0 0 - 1 - p) (by omega)).1
          rw [show X 0 0 - 1 - (X 0 0 - 1 - p) = p by omega] at this
          exact this
    · rw [if_neg hv, if_neg hv, bI_some, if_pos rfl]
      exact opp_now h _
  · rw [e1, bI_some, if_pos rfl, if_pos e2]
    exact opp_now h _
