/-! text, the call -/
def nwX (S : St) (hc : Nat) : Cf := fun q j => if q = 0 then (if j = 0 then hc else if j = 1 then (S 12 0).toNatClampNeg else if j = 2 then (S 12 1).toNatClampNeg else if j = 3 then (S 12 2).toNatClampNeg else if j = 5 ∨ j = 7 then 99 else 0) else if q = 1 then (S 4 j).toNatClampNeg else if q = 2 then (S (6 + j) 5).toNatClampNeg else if q = 3 then (S (6 + j) 6).toNatClampNeg else if q = 4 then (S (6 + j) 7).toNatClampNeg else if q = 6 then j else if q = 7 then 9 else if 10 ≤ q then (S (6 + (q - 10)) j).toNatClampNeg else 0
theorem nwX_st {S : St} {hc h s : Nat} : nwX S hc (10 + h) s = (S (6 + h) s).toNatClampNeg := by
  unfold nwX
  rw [if_neg (by omega), if_neg (by omega), if_neg (by omega), if_neg (by omega), if_neg (by omega), if_neg (by omega), if_neg (by omega), if_pos (by omega), show 10 + h - 10 = h by omega]
theorem rw_get {i o q row k : Nat} {S T : St} (h : Rw i o q row S T) (hk : k < lenN i) : S o k = nI (S o k).toNatClampNeg ∧ T q (row + k) = nI (S o k).toNatClampNeg ∧ lsN i k ≤ (S o k).toNatClampNeg ∧ (S o k).toNatClampNeg ≤ msN i k := by
  obtain ⟨v, h1, h2, h3, h4⟩ := h k hk
  have := msN_le i k
  rw [h1, nI_clamp (by omega)]
  exact ⟨rfl, h2, h3, h4⟩
theorem nwX_lw {S T : St} {hc : Nat} (sr : SRr hc S T) (h0 : 0 < hc) : Lw (nwX S hc) := by
  obtain ⟨s1, s2, s3, _, _, s4, s5, s6, s7⟩ := sr
  have l0 := rw_get s5 (k := 0) (by decide)
  have l1 := rw_get s5 (k := 1) (by decide)
  have l2 := rw_get s5 (k := 2) (by decide)
  have m0 : msN 3 0 = 30 ∧ msN 3 1 = 1 ∧ msN 3 2 = 20 ∧ lsN 3 0 = 1 := ⟨rfl, rfl, rfl, rfl⟩
  refine ⟨⟨?_, ?_, ?_, ?_, ?_, ?_, ?_, fun s hs => ?_, fun h hh => ?_, fun p hp => ?_, fun p q hp hq e => ?_⟩, ⟨rfl, rfl⟩, ?_, fun e => ?_, fun _ => ?_⟩
  · show hc ≤ 6; exact s1
  · show (S 12 0).toNatClampNeg ≤ 30; omega
  · show (S 12 1).toNatClampNeg ≤ 1; omega
  · show (S 12 2).toNatClampNeg ≤ 20; omega
  · show 0 ≤ 1100; omega
  · show 0 ≤ 99; omega
  · show 0 ≤ 99; omega
  · show (S 4 s).toNatClampNeg ≤ 99
    have := rw_get s4 (k := s) hs
    have := msN_le 1 s
    omega
  · have hh' : h < hc := hh
    have r := s6 h hh'
    have r5 := rw_get r (k := 5) (by decide)
    have r6 := rw_get r (k := 6) (by decide)
    have r7 := rw_get r (k := 7) (by decide)
    have m1 : msN 2 5 = 99 ∧ msN 2 6 = 4 ∧ msN 2 7 = 5 := ⟨rfl, rfl, rfl⟩
    refine ⟨?_, ?_, ?_, Or.inr rfl, fun s hs => ?_⟩
    · show (S (6 + h) 5).toNatClampNeg ≤ 99; omega
    · show (S (6 + h) 6).toNatClampNeg ≤ 4; omega
    · show (S (6 + h) 7).toNatClampNeg ≤ 5; omega
    · rw [nwX_st]
      have := rw_get r (k := s) (show s < 8 by omega)
      have := msN_le 2 s
      omega
  · exact hp
  · exact e
  · show 0 ≤ 999; omega
  · have e' : hc = 0 := e
    omega
  · show 0 < (S 12 0).toNatClampNeg; omega
theorem op_text {S T : St} (h : Rel S T) (v : Int32) : Opp (c_N_text v S) (m_text v T) := by
  obtain ⟨X, E, h⟩ := h
  have h := h.z (nI 0)
  unfold m_text
  rw [bnd_eq, show up2 T 0 0 (0 : Int32) = up2 T 0 0 (nI 0) from rfl]
  generalize up2 T 0 0 (nI 0) = T at h ⊢
  obtain ⟨⟨b, L, t, pt, g1, g2⟩, hx, hl, he, hu, hi⟩ := h
  have hre : Re X E S T := ⟨⟨b, L, t, pt, g1, g2⟩, hx, hl, he, hu, hi⟩
  have hL := t.1
  have l64 : ∀ T : St, m_isIn v.toInt64 (0 : Int64) (1 : Int64) T = m_isIn v.toInt64 (lN 0) (lN 1) T := fun _ => rfl
  rw [l64]
  rcases within2 v (l := 0) (h := 1) (by omega) (by omega) S T with ⟨k, _, hk, rfl, _, e⟩ | ⟨_, e, hno⟩
  · have hin : ∀ T : St, m_isIn (nI k).toInt64 (0 : Int64) (1 : Int64) T = some (nI 1, T) := fun T => by
      show m_isIn (nI k).toInt64 (lN 0) (lN 1) T = _
      rw [← nI_l (n := 0) (by omega), ← nI_l (n := 1) (by omega), isInM (by omega) (by omega) (by omega), if_pos (by omega)]
    rw [e, bI_some, if_neg (show ¬ nI 1 = (0 : Int32) by decide)]
    have g1' : (up2 T 0 0 (0 : Int32)) 0 6 = nI L := (up2_k (by omega)).trans g1
    have g2' : ∀ k, k < L → (up2 T 0 0 (0 : Int32)) 1 k = sb (b k) := fun k hk => (up2_o (by omega)).trans (g2 k hk)
    by_cases hk0 : k = 0
    · subst hk0
      obtain ⟨r, S1, T1, r1, r2, f1, f2, e1, g⟩ := street_ls t pt g1' g2'
      have hF : m_fault (nI 0) T = some (r, T1) := by
        unfold m_fault
        rw [bnd_eq, hin, bI_some, if_neg (show ¬ nI 1 = (0 : Int32) by decide), if_pos (show nI 0 = (0 : Int32) from rfl), r2, bV_some, e1]
      have fS : Fr jC S S1 := f1.mono (fun q j hq => by unfold cSt at hq; unfold jC kC; omega)
      have fT : Fr jM T T1 := (Fr.rfl.up (o := 0) (k := 0) (by unfold jM kM; omega)).tr (f2.mono (fun q j hq => by unfold mSt at hq; unfold jM kM; omega))
      simp only []
      rw [if_neg (show ¬ nI 0 = (1 : Int32) by decide)]
      unfold c_N_text m_text_b28
      rw [if_pos (show nI 0 = (0 : Int32) from rfl), r1, bI_some, hF, bI_some]
      simp only []
      rcases g with ⟨hr, hc, h0, sr⟩ | ⟨f, hf, hr⟩
      · subst hr
        rw [if_pos (show -nI 1 = (-1 : Int32) from rfl), if_pos (show -nI 1 = (-1 : Int32) from rfl), bnd_eq, bnd_eq, bnd_eq, if_neg (show ¬ nI 0 = (1 : Int32) by decide), bnd_eq]
        have h1 := hre.go fS fT
        obtain ⟨S2, m1, a1, a2, a3, a4, a5, a6, a7, a8, a9, a10, a11, a12, fm⟩ := move_ok (up2 S1 1 1 (nI 0))
        have m1' : c_N_moveToStreet (up2 S1 1 1 (0 : Int32)) = some S2 := m1
        obtain ⟨T2, n1, b1, b2, b3, b4, b5, b6, b7, b8, fn⟩ := moveM_ok (up2 (up2 T1 0 6 (nI 0)) 0 24 ((up2 T1 0 6 (nI 0)) 0 25))
        have n1' : m_text_h125 FU (0 : Int32) (up2 (up2 T1 0 6 (0 : Int32)) 0 24 ((up2 T1 0 6 (0 : Int32)) 0 25)) = some ((up2 (up2 T1 0 6 (nI 0)) 0 24 ((up2 T1 0 6 (nI 0)) 0 25)) 0 24, T2) := n1
        rw [m1', bV_some, n1', up2_hit rfl rfl, up2_k (show 25 ≠ 6 by omega), a1, up2_o (show 3 ≠ 1 by omega), sr.2.1, sr.2.2.1]
        have lw := nwX_lw sr h0
        obtain ⟨s1, s2, s3, _, _, s4, s5, s6, s7⟩ := sr
        have yS : ∀ q j, ¬ mvC q j → ¬ (q = 1 ∧ j = 1) → S2 q j = S1 q j := fun q j h1 h2 => by rw [fm q j h1, up2_n h2]
        have yT : ∀ q j, ¬ mvM q j → ¬ (q = 0 ∧ (j = 6 ∨ j = 24)) → T2 q j = T1 q j := fun q j h1 h2 => by rw [fn q j h1, up2_n (by omega), up2_n (by omega)]
        have z0 : nwX S1 hc 0 0 = hc := rfl
        refine ⟨_, _, _, rfl, rfl, nwX S1 hc, plainE, ⟨b, 0, ⟨by omega, fun k hk => by omega⟩, ⟨by rw [fm _ _ (by unfold mvC; omega)]; exact up2_hit rfl rfl, fun k hk => by omega⟩, by rw [fn _ _ (by unfold mvM; omega), up2_k (by omega)]; exact up2_hit rfl rfl, fun k hk => by omega⟩, ⟨?_, ?_, lw, b6, ?_, ?_⟩, ?_, fun a ha => ?_, ⟨0, 0, by omega, by omega, by omega, a8, a9, b7, fun i hi => by omega⟩, Or.inl ⟨a10, b8⟩⟩
        · refine ⟨a1.trans (by rw [up2_o (by omega)]; exact s2), a2.trans (by rw [up2_o (by omega)]; exact (rw_get s5 (k := 0) (by decide)).1), a3.trans (by rw [up2_o (by omega)]; exact (rw_get s5 (k := 1) (by decide)).1), a4.trans (by rw [up2_o (by omega)]; exact (rw_get s5 (k := 2) (by decide)).1), a7, fun s hs => (a5 s hs).trans (by rw [up2_o (by omega)]; exact (rw_get s4 (k := s) hs).1), fun a ha => ?_, fun p hp => ?_⟩
          · have ha' : a < hc := ha
            obtain ⟨u1, u2, u3, u4, u5, u6, u7⟩ := a6 a (by omega)
            have r := s6 a ha'
            refine ⟨u1.trans (by rw [up2_o (by omega)]; exact (rw_get r (k := 5) (by decide)).1), u2.trans (by rw [up2_o (by omega)]; exact (rw_get r (k := 6) (by decide)).1), u3.trans (by rw [up2_o (by omega)]; exact (rw_get r (k := 7) (by decide)).1), u7, fun s hs => ?_⟩
            rw [nwX_st]
            exact (u4 s hs).trans (by rw [up2_o (by omega)]; exact (rw_get r (k := s) (show s < 8 by omega)).1)
          · have hp' : p < hc := hp
            exact (a6 p (by omega)).2.2.2.2.2.1
        · have t9 : ∀ j, j < 3 → T2 9 j = T1 10 j := fun j hj => by rw [b3 j hj, up2_o (by omega), up2_o (by omega)]
          have t7 : ∀ j, j < 48 → T2 7 j = T1 8 j := fun j hj => by rw [b2 j hj, up2_o (by omega), up2_o (by omega)]
          refine ⟨by rw [fn _ _ (by unfold mvM; omega), up2_hit rfl rfl, up2_k (by omega)]; exact s3, (t9 0 (by omega)).trans (rw_get s5 (k := 0) (by decide)).2.1, (t9 1 (by omega)).trans (rw_get s5 (k := 1) (by decide)).2.1, (t9 2 (by omega)).trans (rw_get s5 (k := 2) (by decide)).2.1, fun s hs => ?_, fun a ha => ?_, fun p hp => ?_⟩
          · have := (rw_get s4 (k := s) hs).2.1
            rw [show 0 + s = s by omega] at this
            rw [b1 s hs, up2_o (by omega), up2_o (by omega)]
            exact this
          · have ha' : a < hc := ha
            have r := s6 a ha'
            refine ⟨(t7 _ (by omega)).trans (rw_get r (k := 5) (by decide)).2.1, (t7 _ (by omega)).trans (rw_get r (k := 6) (by decide)).2.1, (t7 _ (by omega)).trans (rw_get r (k := 7) (by decide)).2.1, (b4 a (by omega)).2.1, fun s hs => ?_⟩
            rw [nwX_st]
            exact (t7 _ (by omega)).trans (rw_get r (k := s) (show s < 8 by omega)).2.1
          · have hp' : p < hc := hp
            exact (b4 p (by omega)).1
        · exact (yT _ _ (by unfold mvM; omega) (by omega)).trans h1.2.1.2.2.2.2.1
        · exact (yT _ _ (by unfold mvM; omega) (by omega)).trans h1.2.1.2.2.2.2.2
        · obtain ⟨n, hn, c1, c2, c3, _⟩ := h1.2.2.1
          refine ⟨n, hn, (yS _ _ (by unfold mvC; omega) (by omega)).trans c1, (yT _ _ (by unfold mvM; omega) (by omega)).trans c2, fun j hj => ?_, Or.inl ⟨a11, a12, b5, rfl⟩⟩
          obtain ⟨E', d1, d2, d3⟩ := c3 j hj
          exact ⟨E', d1.fr (fun q k hq1 hq2 => yS _ _ (by unfold mvC; omega) (by omega)) (by omega), d2.fr (fun q k hq => yT _ _ (by unfold mvM; omega) (by omega)), d3⟩
        · have ha' : a < hc := ha
          exact (a6 a (by omega)).2.2.2.2.1.trans (b4 a (by omega)).2.2.symm
      · have hne : ¬ r = (-1 : Int32) := fun e2 => by
          rw [hr] at e2
          have := nI_nneg (a := f) (by omega)
          exact this.mp e2
        rw [if_neg hne, if_neg hne]
        unfold c_N_text_b35
        rw [if_neg (show ¬ nI 0 = (1 : Int32) by decide)]
        exact opp_go hre _ fS fT
    · have hk1 : k = 1 := by omega
      subst hk1
      obtain ⟨n, hn, c1, c2, c3, c4⟩ := hl
      unfold c_N_text c_N_text_b35
      simp only []
      rw [if_pos (show nI 1 = (1 : Int32) from rfl), if_neg (show ¬ nI 1 = (0 : Int32) by decide), if_pos (show nI 1 = (1 : Int32) from rfl), c1, c2]
      by_cases h4 : n = 4
      · rw [h4, if_pos (show (4 : Int32) ≤ nI 4 by decide), if_pos (show nI 4 = (4 : Int32) from rfl)]
        exact opp_now hre _
      · rw [if_neg (show ¬ (4 : Int32) ≤ nI n from nI_ge (b := 4) (by omega) (by omega)), if_neg (show ¬ nI n = (4 : Int32) from nI_nn (b := 4) h4 (by omega) (by omega))]
        obtain ⟨r, S1, T1, r1, r2, e1, f1, f2⟩ := lk_read (X := X) (E := E) (T := up2 T 0 0 (0 : Int32)) t pt g1' g2'
        have r2' : m_goThrough_1 (0 : Int32) ((up2 T 0 0 (0 : Int32)) 0 6) (up2 T 0 0 (0 : Int32)) = some T1 := r2
        have hF : m_fault (nI 1) T = some (r, T1) := by
          unfold m_fault
          rw [bnd_eq, hin, bI_some, if_neg (show ¬ nI 1 = (0 : Int32) by decide), if_neg (show ¬ nI 1 = (0 : Int32) by decide)]
          simp only []
          rw [r2', bV_some, e1]
        have fS : Fr jC S S1 := f1.mono cF_jC
        have fT : Fr jM T T1 := (Fr.rfl.up (o := 0) (k := 0) (by unfold jM kM; omega)).tr (f2.mono (fun q j hq => by unfold goP at hq; unfold jM kM; omega))
        have h1 := hre.go fS fT
        unfold m_text_b28
        rw [r1, bI_some, hF, bI_some]
        simp only []
        by_cases hr : r = -nI 1
        · subst hr
          rw [if_pos (show -nI 1 = (-1 : Int32) from rfl), if_pos (show -nI 1 = (-1 : Int32) from rfl), bnd_eq, bnd_eq, bnd_eq, if_pos (show nI 1 = (1 : Int32) from rfl)]
          simp only [bnd_eq]
          obtain ⟨cl, k1, k2, k3⟩ := code_of t pt r1
          have t1 : ∀ k, k < L → T1 1 k = sb (b k) := fun k hk => by rw [fT 1 k (by unfold jM kM; omega)]; exact g2 k hk
          have t6 : T1 0 6 = nI L := by rw [fT 0 6 (by unfold jM kM; omega)]; exact g1
          have t7 : T1 0 7 = nI n := by rw [fT 0 7 (by unfold jM kM; omega)]; exact c2
          have s4 : S1 0 4 = nI n := by rw [fS 0 4 (by unfold jC kC; omega)]; exact c1
          obtain ⟨T2, n1, d1, d2, d3, d4⟩ := text_h56 (n := n) (by omega) hL FU 0 (up2 T1 0 6 (0 : Int32)) ((up2_k (by omega)).trans t7) (fun j hj => ⟨b j, (up2_o (by omega)).trans (t1 j hj)⟩) (by omega) (by unfold FU; omega)
          have n1' : m_text_h56 FU (T1 0 6) (0 : Int32) (up2 T1 0 6 (0 : Int32)) = some (nI n, T2) := by
            rw [t6]; exact n1
          rw [n1', up2_o (show 0 ≠ 1 by omega), s4, ckI (by omega) (by omega), nI_clamp (by omega)]
          have hlearn : c_Liking_learn_13 (16 + n) (up2 S1 1 1 (0 : Int32)) = some (upR (up2 (up2 S1 1 1 (0 : Int32)) (16 + n) 2 (nI cl)) (16 + n + 4) (cpy (S1 14) (S1 (16 + n + 4)) 0 0 160)) := by
            unfold c_Liking_learn_13
            rw [bnd_eq, show cpM (0 : Int32) (0 : Int32) (160 : Int32) 160 160 = fun (M : Option St) => M from funext (fun M => cpI (a := 0) (b := 0) (n := 160) (by omega) (by omega) (by omega) (by omega)), up2_o (show 13 ≠ 1 by omega), k2]
            simp only [bnd_eq]
            rw [show (0 : Int32).toNatClampNeg = 0 from nI_clamp (n := 0) (by omega), show (160 : Int32).toNatClampNeg = 160 from nI_clamp (n := 160) (by omega), show (up2 (up2 S1 1 1 (0 : Int32)) (16 + n) 2 (nI cl)) 14 = S1 14 from funext (fun j => by rw [up2_o (by omega), up2_o (by omega)]), show (up2 (up2 S1 1 1 (0 : Int32)) (16 + n) 2 (nI cl)) (16 + n + 4) = S1 (16 + n + 4) from funext (fun j => by rw [up2_o (by omega), up2_o (by omega)])]
          rw [hlearn, bV_some]
          obtain ⟨A, hA⟩ : ∃ A, A = upR (up2 (up2 S1 1 1 (0 : Int32)) (16 + n) 2 (nI cl)) (16 + n + 4) (cpy (S1 14) (S1 (16 + n + 4)) 0 0 160) := ⟨_, rfl⟩
          rw [← hA]
          have yA : ∀ q j, ¬ (q = 1 ∧ j = 1) → ¬ (q = 16 + n ∧ j = 2) → q ≠ 16 + n + 4 → A q j = S1 q j := fun q j h1 h2 h3 => by rw [hA, upR_ne _ _ h3, up2_n h2, up2_n h1]
          have A04 : A 0 4 = nI n := (yA _ _ (by omega) (by omega) (by omega)).trans s4
          rw [A04, show nI n + (1 : Int32) = nI (n + 1) from nI_add n 1, up2_hit rfl rfl, show nI (n + 1) - (1 : Int32) = nI n from s1_eq n]
          have y2 : ∀ q j, ¬ (q = 0 ∧ j = 4) → ¬ (q = 1 ∧ j = 1) → ¬ (q = 16 + n ∧ j = 2) → q ≠ 16 + n + 4 → (up2 A 0 4 (nI (n + 1))) q j = S1 q j := fun q j h0 h1 h2 h3 => by rw [up2_n h0, yA q j h1 h2 h3]
          have yT : ∀ q j, ¬ (q = 2 ∧ 160 * n ≤ j ∧ j < 160 * n + L) → ¬ (q = 3 ∧ j = n) → ¬ (q = 0 ∧ (j = 6 ∨ j = 7)) → T2 q j = T1 q j := fun q j h1 h2 h3 => by rw [d4 q j (by omega), up2_n (by omega)]
          have hlc : LkC (up2 A 0 4 (nI (n + 1))) n (eOf (S1 14) cl) := lkC_of t pt r1 k1 k2 k3 (by omega) (by rw [up2_o (by omega), hA, upR_ne _ _ (by omega), up2_hit rfl rfl]) (fun k hk => by rw [up2_o (by omega), hA, show 20 + n = 16 + n + 4 by omega, upR_self, cpyE hk])
          have hlm : LkM T2 n (eOf (S1 14) cl) := lkM_of t pt r1 k1 k2 (by omega) d2 (fun k hk => by rw [d1 k (by omega) hk, up2_o (by omega)]; exact t1 k hk)
          have old : ∀ (j : Nat) (E' : Ev), j < n → LkC S j E' → LkM T j E' → LkC (up2 A 0 4 (nI (n + 1))) j E' ∧ LkM T2 j E' := fun j E' hj o1 o2 => by
            refine ⟨fun S3 lt p1 p2 p3 => ?_, fun T3 lt p1 p2 p3 p4 p5 p6 p7 p8 => ?_⟩
            · exact o1 S3 lt (p1.trans ((y2 _ _ (by omega) (by omega) (by omega) (by omega)).trans (fS _ _ (by unfold jC kC; omega)))) (fun k hk => (p2 k hk).trans ((y2 _ _ (by omega) (by omega) (by omega) (by omega)).trans (fS _ _ (by unfold jC kC; omega)))) p3
            · have e3 : T2 3 j = T 3 j := (yT _ _ (by omega) (by omega) (by omega)).trans (fT _ _ (by unfold jM kM; omega))
              rw [e3]
              exact o2 T3 lt (fun k hk => (p1 k hk).trans ((yT _ _ (by omega) (by omega) (by omega)).trans (fT _ _ (by unfold jM kM; omega)))) p2 p3 p4 p5 p6 p7 p8
          obtain ⟨_, h1x, _, h1e, h1u, h1i⟩ := h1
          refine ⟨_, _, _, rfl, rfl, X, E, ⟨b, 0, ⟨by omega, fun k hk => by omega⟩, ⟨by rw [up2_o (by omega), hA, upR_ne _ _ (by omega), up2_n (by omega), up2_hit rfl rfl]; rfl, fun k hk => by omega⟩, by rw [d4 _ _ (by omega), up2_hit rfl rfl]; rfl, fun k hk => by omega⟩, h1x.fr (fun q j hq => y2 _ _ (by omega) (by omega) (by omega) (by omega)) (fun q j hq => yT _ _ (by omega) (by omega) (by omega)), ⟨n + 1, by omega, up2_hit rfl rfl, d3, fun j hj => ?_, ?_⟩, h1e.fr (fun j => y2 _ _ (by omega) (by omega) (by omega) (by omega)) (fun j => yT _ _ (by omega) (by omega) (by omega)), h1u.fr (fun q j hq => y2 _ _ (by omega) (by omega) (by omega) (by omega)) (fun q j hq => yT _ _ (by omega) (by omega) (by omega)), h1i.fr (fun q j hq => y2 _ _ (by omega) (by omega) (by omega) (by omega)) (fun q j hq => yT _ _ (by omega) (by omega) (by omega))⟩
          · by_cases ej : j = n
            · subst ej
              exact ⟨_, hlc, hlm, eOf_bd k1 k3⟩
            · obtain ⟨E', o1, o2, o3⟩ := c3 j (by omega)
              obtain ⟨w1, w2⟩ := old j E' (by omega) o1 o2
              exact ⟨E', w1, w2, o3⟩
          · have x5 : (up2 A 0 4 (nI (n + 1))) 0 5 = S 0 5 := (y2 _ _ (by omega) (by omega) (by omega) (by omega)).trans (fS _ _ (by unfold jC kC; omega))
            have x6 : (up2 A 0 4 (nI (n + 1))) 111 6 = S 111 6 := (y2 _ _ (by omega) (by omega) (by omega) (by omega)).trans (fS _ _ (by unfold jC kC; omega))
            have x31 : T2 0 31 = T 0 31 := (yT _ _ (by omega) (by omega) (by omega)).trans (fT _ _ (by unfold jM kM; omega))
            rcases c4 with ⟨o1, o2, o3, o4⟩ | ⟨j, o0, o1, o2, o3, o4, o5, o6⟩
            · exact Or.inl ⟨x5.trans o1, x6.trans o2, x31.trans o3, o4⟩
            · obtain ⟨w1, w2⟩ := old j E o0 o4 o5
              exact Or.inr ⟨j, by omega, x5.trans o1, x6.trans o2, x31.trans o3, w1, w2, o6⟩
        · rw [if_neg (show ¬ r = (-1 : Int32) from hr), if_neg (show ¬ r = (-1 : Int32) from hr)]
          exact opp_now h1 _
  · rw [e, bI_some, if_pos (show nI 0 = (0 : Int32) from rfl)]
    unfold c_N_text c_N_text_b35
    rw [if_neg (show ¬ v = (0 : Int32) from hno 0 (by omega) (by omega)), if_neg (show ¬ v = (1 : Int32) from hno 1 (by omega) (by omega))]
    exact opp_now hre _
