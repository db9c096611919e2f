/-! puts, the call -/
theorem put_up {X : Cf} {E : Ev} {b : Nat} (iv : Iv X) (h0 : 0 < X 0 0) {g0 : Nat → Nat} {d : Nat} {v : Int32} (h : SubM X E b 0 g0 d v) : ∃ d', d' ≤ d ∧ SubC X E b 0 g0 d' v := by
  obtain ⟨g', _, w2, w3, w4, w5⟩ := h
  have hl := iv.2.2.2.2.2.2.2.2.2.1 (X 0 0 - 1) (by omega)
  have inj := iv.2.2.2.2.2.2.2.2.2.2
  have okl : okP X (X 6 (X 0 0 - 1)) (lp X (X 6 (X 0 0 - 1))) := (lpF_ok X _ 5 0 (by omega)).1
  have u1 : (fun j => if j = X 6 (X 0 0 - 1) then lp X (X 6 (X 0 0 - 1)) else g' j) (X 6 (X 0 0 - 1)) = lp X (X 6 (X 0 0 - 1)) := if_pos rfl
  have u2 : ∀ j, j ≠ X 6 (X 0 0 - 1) → (fun j => if j = X 6 (X 0 0 - 1) then lp X (X 6 (X 0 0 - 1)) else g' j) j = g' j := fun j hj => if_neg hj
  generalize (fun j => if j = X 6 (X 0 0 - 1) then lp X (X 6 (X 0 0 - 1)) else g' j) = g1 at u1 u2
  have u3 : ∀ q, q < X 0 0 - 1 → g1 (X 6 q) = g' (X 6 q) := fun q hq => u2 _ (fun e => by
    have := inj q (X 0 0 - 1) (by omega) (by omega) e
    omega)
  have hok : ∀ j, j < X 0 0 → okP X j (g1 j) := fun j hj => by
    by_cases c : j = X 6 (X 0 0 - 1)
    · rw [c, u1]; exact okl
    · rw [u2 j c]; exact w2 j hj
  have lo1 : ∀ q, q ≤ X 0 0 - 1 → Lo (pX X g') (pX X g1) q := fun q hq => pX_lo iv (by omega) (fun r hr => u3 r (by omega))
  refine ⟨dH g1 (X 0 0), ?_, g1, fun q hq => by omega, hok, ?_, u1, rfl, ?_⟩
  · rw [w4]
    refine dH_le _ (fun j hj => ?_)
    by_cases c : j = X 6 (X 0 0 - 1)
    · rw [c, u1]; exact lp_le (w2 _ hl)
    · rw [u2 j c]; exact Nat.le_refl _
  · rw [bk_lo _ (lo1 _ (Nat.le_refl _))]; exact w3
  · rw [w5, allE_pl (pX_iv iv w2), allE_pl (pX_iv iv hok), pX_o X g' 0 0 (by omega), pX_o X g1 0 0 (by omega)]
    exact foP_cg _ (fun q hq => (mlP_lo (lo1 q (by omega)) (by rw [pX_o X g1 6 q (by omega), pX_o X g' 6 q (by omega)])).symm)
theorem put_one {X : Cf} {E : Ev} {b : Nat} (iv : Iv X) (h0 : 0 < X 0 0) {g0 : Nat → Nat} : ∃ d v, SubM X E b 0 g0 d v := by
  refine ⟨_, _, fun _ => 9, fun j hj => by omega, fun j _ => Or.inl rfl, ?_, rfl, rfl⟩
  have key : ∀ p, p ≤ X 0 0 → bk (pX X (fun _ => 9)) p = -nI 1 := by
    intro p
    induction p with
    | zero => intro _; rfl
    | succ p ih =>
      intro hp
      have hl := iv.2.2.2.2.2.2.2.2.2.1 p (by omega)
      show (if dP (pX X (fun _ => 9)) (pX X (fun _ => 9) 6 p) ∧ bk (pX X (fun _ => 9)) p = -nI 1 ∧ pX X (fun _ => 9) 0 2 = 1 ∧ hasB (ah (pX X (fun _ => 9)) p) (pX X (fun _ => 9) 7 (pX X (fun _ => 9) 6 p)) then nI (pX X (fun _ => 9) 6 p) else bk (pX X (fun _ => 9)) p) = -nI 1
      rw [if_neg (fun c => by
        have := c.1
        rw [pX_o X _ 6 p (by omega)] at this
        exact (pX_dP hl (Or.inl rfl)).mp this rfl)]
      exact ih (by omega)
  exact key _ (by omega)
theorem op_puts {S T : St} (h : Rel S T) (v w : Int32) : Opp (c_N_puts v w S) (m_puts v w T) := by
  obtain ⟨X, E, h⟩ := h
  have h := h.z (nI 0)
  unfold c_N_puts m_puts
  rw [bnd_eq, show up2 T 0 0 (0 : Int32) = up2 T 0 0 (nI 0) from rfl]
  generalize up2 T 0 0 (nI 0) = T at h ⊢
  have l64 : ∀ (u : Int32) (T : St), m_isIn u.toInt64 (0 : Int64) (1 : Int64) T = m_isIn u.toInt64 (lN 0) (lN 1) T := fun _ _ => rfl
  have iv := h.2.1.2.2.1.1
  have pl := h.2.1.2.2.1.2.1
  have hs6 := iv.1
  rcases street2 h with ⟨h0, e1, e2⟩ | ⟨h0, e1, e2⟩
  · rw [e1, bI_some, if_neg (show ¬ nI 1 = (0 : Int32) by decide), if_neg (show ¬ T 0 24 = (0 : Int32) from e2), l64]
    simp only []
    rw [h.2.1.1.1, h.2.1.2.1.1]
    by_cases c6 : X 0 0 = 6
    · rw [c6, if_pos (show (5 : Int32) < nI 6 by decide), if_pos (show nI 6 = (6 : Int32) from rfl)]
      exact opp_now h _
    rw [if_neg (show ¬ (5 : Int32) < nI (X 0 0) from nI_nlt (a := 5) (by omega) (by omega)), if_neg (show ¬ nI (X 0 0) = (6 : Int32) from nI_nn (b := 6) c6 (by omega) (by omega))]
    rcases choice2 v S T with ⟨b, hb, rfl, e5, e6⟩ | ⟨e5, e6⟩
    · rw [e5, e6, bI_some, bI_some, if_neg (show ¬ nI 1 = (0 : Int32) by decide), if_neg (show ¬ nI 1 = (0 : Int32) by decide), l64]
      simp only []
      rcases choice2 w S T with ⟨c, hc, rfl, e7, e8⟩ | ⟨e7, e8⟩
      · rw [e7, e8, bI_some, bI_some, if_neg (show ¬ nI 1 = (0 : Int32) by decide), if_neg (show ¬ nI 1 = (0 : Int32) by decide)]
        simp only []
        obtain ⟨A, hA⟩ : ∃ A, A = up2 (up2 (up2 S 130 3 (nI b)) 130 4 (-1 : Int32)) 130 5 (-100000000 : Int32) := ⟨_, rfl⟩
        have yA : ∀ q j, q ≠ 130 → A q j = S q j := fun q j hq => by rw [hA, up2_o hq, up2_o hq, up2_o hq]
        obtain ⟨S1, r1, b1, b2, b3, b4⟩ := begin_ok (X := X) iv (S := A) (fun s hs => (yA _ _ (by omega)).trans (h.2.1.1.2.2.2.2.2.1 s hs))
        have hbeg : c_Best_begin (nI b) S = some S1 := by
          unfold c_Best_begin
          rw [bnd_eq, bnd_eq, bnd_eq, ← hA, yA 33 0 (by omega), h.2.1.1.2.2.2.2.1, r1, bV_some]
        have y1 : ∀ q j, ¬ (q = 130) → ¬ (q = 114 ∨ (q = 111 ∧ (j = 7 ∨ j = 8))) → S1 q j = S q j := fun q j h1 h2 => by rw [b4 q j (by omega), yA q j h1]
        have s1303 : S1 130 3 = nI b := by rw [b4 _ _ (by omega), hA, up2_k (by omega), up2_k (by omega), up2_hit rfl rfl]
        have s1304 : S1 130 4 = -nI 1 := by rw [b4 _ _ (by omega), hA, up2_k (by omega), up2_hit rfl rfl]; rfl
        have ns1 : NS X E b S1 := ⟨h.2.1.1.fr2 (fun q j hq => y1 q j (by omega) (by omega)), h.2.2.1.ce.1.fr (fun q j hq => y1 q j (by omega) (by omega)), b2, s1303⟩
        have hno : c_Best_noMeal S1 = some (we b, S1) := by
          unfold c_Best_noMeal we
          rw [s1303]
          by_cases cb : b = 0
          · rw [if_pos (show nI b = (0 : Int32) by rw [cb]; rfl), if_pos cb]; rfl
          · rw [if_neg (show ¬ nI b = (0 : Int32) from nI_nn (b := 0) cb (by omega) (by omega)), if_neg cb]; rfl
        obtain ⟨T1, r2, kp, k51, f2⟩ := keep_ok T
        have tp1 : TP T T1 := ⟨kp, fun j hj => f2 _ _ (by omega)⟩
        have lo0 : Lo X (pX X (fun _ => 9)) 0 := ⟨fun q j _ h7 => pX_o X _ q j h7, fun j hj => by omega⟩
        obtain ⟨S', z1, z2, z3⟩ := put_C (E := E) (b := b) iv pl hb (X 0 0) 0 8 (fun _ => 9) (fun _ _ => False) S1 (by omega) (by omega) (by omega) ns1 (fun s hs => by rw [ptS_lo 0 lo0]; exact b1 s hs) (fun q hq => by omega) rfl (Or.inl ⟨s1304, fun _ _ hf => hf⟩)
        obtain ⟨T', y1', y2, y3, y4⟩ := put_M (b := b) h h0 hb (X 0 0) 0 8 (fun _ => 9) (fun _ _ => False) T1 (by omega) (by omega) tp1 (fun j hj => by omega) (fun j hj => by omega) (Or.inl ⟨k51, fun _ _ hf => hf⟩) (fun d v hf => hf.elim)
        have z1' : c_Best_tryPuts_x (0 : Int32) (we b) (0 : Int32) (0 : Int32) S1 = some S' := z1
        have z2' : m_goPuts_x (0 : Int32) (0 : Int32) (nI b) T1 = some T' := y1'
        obtain ⟨T2, r3, fT, f3⟩ := y3.1.back
        have hfind : c_Best_findPuts (nI b) S = some S' := by
          unfold c_Best_findPuts
          rw [hbeg, bV_some, hno, bI_some]
          simp only []
          rw [z1', bV_some]
        rw [hfind, bV_some, r2, bV_some, z2', bV_some, r3, bV_some, f3 0 49 (by omega), f3 0 50 (by omega)]
        have fS : Fr jC S S' := fun q j hj => by
          have hk : kC q j := Classical.not_not.mp hj
          unfold kC at hk
          rw [z3 q j (by unfold dfF mealPC; omega), y1 q j (by omega) (by omega)]
        -- both found the same
        have same : S' 130 4 = T' 0 49 ∧ S' 130 5 = T' 0 50 := by
          obtain ⟨d0, v0, m0⟩ := put_one (E := E) (b := b) iv h0 (g0 := fun _ => 9)
          obtain ⟨d0', _, c0⟩ := put_up iv h0 m0
          rcases z2 with ⟨_, hn⟩ | ⟨d1, hd1, s4, dm1, dm1'⟩
          · exact absurd (Or.inr c0) (hn _ _)
          · rcases y2 with ⟨_, hn⟩ | ⟨d2, hd2, _, t49, dm2, dm2'⟩
            · exact absurd (Or.inr m0) (hn _ _)
            · have mem1 : SubM X E b 0 (fun _ => 9) d1 (S' 130 5) := by
                rcases dm1 with hf | ⟨g', _, w2, w3, _, w5, w6⟩
                · exact hf.elim
                · exact ⟨g', fun j hj => by omega, w2, w3, w5, w6⟩
              have mem2 : ∃ d', d' ≤ d2 ∧ SubC X E b 0 (fun _ => 9) d' (T' 0 50) := by
                rcases dm2 with hf | hm
                · exact hf.elim
                · exact put_up iv h0 hm
              obtain ⟨d', hd', mc⟩ := mem2
              have a1 := dm2' _ _ (Or.inr mem1)
              have a2 := dm1' _ _ (Or.inr mc)
              have hv : S' 130 5 = T' 0 50 := by
                rcases a1 with a1 | a1
                · rcases a2 with a2 | a2
                  · have := i_trans a1 a2
                    rw [Int32.lt_iff_toInt_lt] at this
                    omega
                  · exact a2.1.symm
                · exact a1.1
              have hd : d1 = d2 := by
                rw [hv] at a1 a2
                rcases a1 with a1 | a1
                · rw [Int32.lt_iff_toInt_lt] at a1; omega
                · rcases a2 with a2 | a2
                  · rw [Int32.lt_iff_toInt_lt] at a2; omega
                  · omega
              exact ⟨by rw [s4, t49, hd], hv⟩
        rw [same.1, same.2]
        by_cases c0 : c = 0
        · rw [if_pos (show nI c = (0 : Int32) by rw [c0]; rfl), if_pos (show nI c = (0 : Int32) by rw [c0]; rfl)]
          exact opp_go h _ fS fT
        · rw [if_neg (show ¬ nI c = (0 : Int32) from nI_nn (b := 0) c0 (by omega) (by omega)), if_neg (show ¬ nI c = (0 : Int32) from nI_nn (b := 0) c0 (by omega) (by omega))]
          exact opp_go h _ fS fT
      · rw [e7, e8, bI_some, bI_some, if_pos (show nI 0 = (0 : Int32) from rfl), if_pos (show nI 0 = (0 : Int32) from rfl)]
        exact opp_now h _
    · rw [e5, e6, bI_some, bI_some, if_pos (show nI 0 = (0 : Int32) from rfl), if_pos (show nI 0 = (0 : Int32) from rfl)]
      exact opp_now h _
  · rw [e1, bI_some, if_pos (show nI 0 = (0 : Int32) from rfl), if_pos (show T 0 24 = (0 : Int32) from e2)]
    exact opp_now h _
