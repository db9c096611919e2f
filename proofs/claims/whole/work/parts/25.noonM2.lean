theorem has_eq (m : Int32) (k : Nat) (S : St) : m_has m (nI k) S = some (if hasB m k then nI 1 else nI 0, S) := by
  unfold m_has
  simp only [lits]
  by_cases h2 : hasB m k
  · rw [if_pos h2, if_pos h2]; rfl
  · rw [if_neg h2, if_neg h2]; rfl
theorem heat_step {c k : Nat} (hc : c ≤ 20) : imax (nI 0) (nI (100 - c * k) - nI c) = nI (100 - c * (k + 1)) := by
  unfold imax
  rw [Nat.mul_succ]
  by_cases h : c ≤ 100 - c * k
  · rw [pk_sub h]
    by_cases h0 : 100 - c * k - c = 0
    · rw [h0, if_neg (by decide), show 100 - (c * k + c) = 0 by omega]
    · rw [if_pos (by rw [nI_ltE (by omega) (by omega)]; omega), show 100 - c * k - c = 100 - (c * k + c) by omega]
  · rw [if_neg, show 100 - (c * k + c) = 0 by omega]
    intro hlt
    have := pk_sneg (a := 100 - c * k) (b := c) (by omega) (by omega)
    rw [Int32.lt_iff_toInt_lt] at this hlt
    have e0 : (nI 0).toInt = 0 := by decide
    have e1 : (0 : Int32).toInt = 0 := by decide
    omega
set_option maxHeartbeats 4000000 in
theorem noonM_h60 {X : Cf} (iv : Iv X) : ∀ (n k : Nat) (S : St), k ≤ X 0 0 → X 0 0 < n + k → 0 < X 0 0 → Mq S X → Mps S X → Mres S X k → (k < X 0 0 → (∀ s, s < 6 → S 15 s = nI (ptS X k s)) ∧ S 0 39 = bk X k) → (k = X 0 0 → S 0 39 = bk X (X 0 0 - 1)) → ∀ (v2 v3 : Int32), (k < X 0 0 → v2 = nI (100 - X 0 3 * k) ∧ v3 = ah X k) →
    Ok (m_noon_h60 n v2 v3 (nI k) S) (fun S' => Mres S' X (X 0 0) ∧ S' 0 39 = bk X (X 0 0 - 1) ∧ Fr nnM S S') := by
  intro n
  induction n with
  | zero => intro k S hk hn; omega
  | succ n ih =>
    intro k S hk hn h00 mq mps mres hpot hend v2 v3 hv
    have iv0 := iv
    obtain ⟨i1, i2, i3, i4, i5, i6, i7, i8, i9, i10, i11⟩ := iv
    rw [m_noon_h60, mq.1]
    by_cases hkk : k = X 0 0
    · rw [if_pos (by rw [nI_leE (by omega) (by omega)]; omega)]
      exact ok_some ⟨hkk ▸ mres, hend hkk, Fr.rfl⟩
    have hk' : k < X 0 0 := by omega
    obtain ⟨hpot, hbk⟩ := hpot hk'
    obtain ⟨e2, e3⟩ := hv hk'
    subst e2; subst e3
    have hkl := i10 k hk'
    obtain ⟨j1, j2, j3, j4, j5⟩ := i9 _ hkl
    rw [if_neg (by rw [nI_leE (by omega) (by omega)]; omega), ckI (by omega) (by omega)]
    simp only [bnd_eq, lits]
    rw [nI_clamp (by omega), mq.2.2.2.2.2.2 k hk', pk_sub (by omega)]
    -- the house at the pot
    have key : ∀ (v6 : Int32), (v6 = nI 0 ∧ k + 1 < X 0 0) ∨ (v6 = nI 1 ∧ k + 1 = X 0 0) → ∀ S1 : St, Mq S1 X → Mps S1 X → Mres S1 X k → (X 0 7 = k → ∀ s, s < 6 → S1 18 s = nI (sgP X s)) → (∀ s, s < 6 → S1 15 s = nI (ptQ X k s)) → S1 0 39 = bk X k → Fr nnM S S1 →
        Ok (m_noon_b119 (m_noon_h60 n) (nI (100 - X 0 3 * k)) (ah X k) (nI k) (nI (X 6 k)) v6 S1) (fun S' => Mres S' X (X 0 0) ∧ S' 0 39 = bk X (X 0 0 - 1) ∧ Fr nnM S S') := by
      intro v6 h6 S1 mq1 mps1 mres1 hst hp1 hb1 hf1
      unfold m_noon_b119
      simp (disch := omega) only [lits, bnd_eq, ckI, pk_mul, nI_add, nI_clamp]
      rw [up2_o (S := S1) (by omega), (mq1.2.2.2.2.2.1 _ hkl).1]
      have hlad : (v6 = nI 0 ∧ ladOf X k (X 6 k) = X 2 (X 6 k)) ∨ (v6 = nI 1 ∧ ladOf X k (X 6 k) = 2147483647) := by
        unfold ladOf
        rcases h6 with ⟨a, b⟩ | ⟨a, b⟩
        · exact Or.inl ⟨a, if_neg (by omega)⟩
        · exact Or.inr ⟨a, if_pos b⟩
      refine ok_bV (ladle16_ok (S := up2 S1 17 (X 6 k) (nI (100 - X 0 3 * k))) (b := 6 * X 6 k) (L' := ladOf X k (X 6 k)) (by omega) (fun s hs => Nat.le_trans (ptQ_le iv0 k s hs) (by omega)) j1 hlad (fun s hs => by rw [up2_o (by omega)]; exact hp1 s hs)) (fun S2 hq => ?_)
      obtain ⟨q1, q2⟩ := hq
      have hf2 : Fr nnM S S2 := (hf1.up (o := 17) (by unfold nnM; omega)).tr (q2.mono (fun q j hp => by unfold nnM; omega))
      have g2 : ∀ q j, ¬ (q = 15 ∨ q = 16 ∨ q = 17) → S2 q j = S1 q j := fun q j hn => by rw [q2 q j (by omega), up2_o (by omega)]
      -- with did[h] told
      have cont : ∀ (d : Int32) (S3 : St), Fr (fun q _ => q = 15 ∨ q = 19 ∨ q = 0) S2 S3 → (∀ j, j ≠ X 6 k → S3 19 j = S2 19 j) → S3 19 (X 6 k) = d → d = (if k + 1 < X 0 0 ∧ dP X (X 6 k) then nI (X 7 (X 6 k)) else nI 9) → Mres S3 X (k + 1) := by
        intro d S3 hfr h19 hd hd2
        refine ⟨fun pl hpl => ?_, fun h7 s hs => ?_⟩
        · by_cases hpk : pl = k
          · subst hpk
            refine ⟨fun s hs => ?_, ?_, by rw [hd, hd2]⟩
            · rw [hfr _ _ (by omega)]; exact (q1 s hs).1
            · rw [hfr _ _ (by omega), q2 _ _ (by omega), up2_hit rfl rfl]
          · have hne : X 6 pl ≠ X 6 k := fun e => hpk (i11 pl k (by omega) hk' e)
            have hlt := i10 pl (by omega)
            obtain ⟨r1, r2, r3⟩ := mres1.1 pl (by omega)
            refine ⟨fun s hs => ?_, ?_, ?_⟩
            · rw [hfr _ _ (by omega), q2 _ _ (by omega), up2_o (by omega)]; exact r1 s hs
            · rw [hfr _ _ (by omega), q2 _ _ (by omega), up2_k (by omega)]; exact r2
            · rw [h19 _ hne, g2 _ _ (by omega)]; exact r3
        · rw [hfr _ _ (by omega), g2 _ _ (by omega)]
          by_cases h8 : X 0 7 = k
          · exact hst h8 s hs
          · exact mres1.2 (by omega) s hs
      have mq3 : ∀ S3 : St, Fr (fun q j => q = 15 ∨ q = 19 ∨ (q = 0 ∧ j = 39)) S2 S3 → Mq S3 X := fun S3 hfr => mq1.fr (fun q j hc => by rw [hfr _ _ (by omega), g2 _ _ (by omega)])
      have mps3 : ∀ S3 : St, Fr (fun q j => q = 15 ∨ q = 19 ∨ (q = 0 ∧ j = 39)) S2 S3 → Mps S3 X := fun S3 hfr => mps1.fr (fun j hj => by rw [hfr _ _ (by omega), g2 _ _ (by omega)])
      have hf3 : ∀ S3 : St, Fr (fun q j => q = 15 ∨ q = 19 ∨ (q = 0 ∧ j = 39)) S2 S3 → Fr nnM S S3 := fun S3 hfr => hf2.tr (hfr.mono (fun q j hp => by unfold nnM; omega))
      have hb2 : S2 0 39 = bk X k := by rw [g2 _ _ (by omega)]; exact hb1
      rcases h6 with ⟨e6, hl⟩ | ⟨e6, hl⟩
      · subst e6
        rw [if_pos rfl]
        -- behind the put
        have key2 : ∀ (S3 : St) (d : Int32), Fr (fun q j => q = 15 ∨ q = 19 ∨ (q = 0 ∧ j = 39)) S2 S3 → (∀ j, j ≠ X 6 k → S3 19 j = S2 19 j) → S3 19 (X 6 k) = d → d = (if k + 1 < X 0 0 ∧ dP X (X 6 k) then nI (X 7 (X 6 k)) else nI 9) → (∀ s, s < 6 → S3 15 s = nI (ptQ X k s - gtP X k s + ad1 X (X 6 k) s)) → S3 0 39 = bk X (k + 1) →
            Ok (m_noon_b295 (m_noon_h60 n) (nI (100 - X 0 3 * k)) (ah X (k + 1)) (nI k) (nI (X 6 k)) S3) (fun S' => Mres S' X (X 0 0) ∧ S' 0 39 = bk X (X 0 0 - 1) ∧ Fr nnM S S') := by
          intro S3 d hfr h19 hd hd2 hp3 hb3
          have nxt : ∀ s, ptS X (k + 1) s = ptQ X k s - gtP X k s + ad1 X (X 6 k) s + ad2 X (X 6 k) s := fun s => rfl
          have fin : ∀ S4 : St, Fr (fun q j => q = 15 ∧ j = 5) S3 S4 → (∀ s, s < 6 → S4 15 s = nI (ptS X (k + 1) s)) → Ok (m_noon_b317 (m_noon_h60 n) (nI (100 - X 0 3 * k)) (ah X (k + 1)) (nI k) S4) (fun S' => Mres S' X (X 0 0) ∧ S' 0 39 = bk X (X 0 0 - 1) ∧ Fr nnM S S') := by
            intro S4 hf4 hp4
            have hfr4 : Fr (fun q j => q = 15 ∨ q = 19 ∨ (q = 0 ∧ j = 39)) S2 S4 := hfr.tr (hf4.mono (fun q j hp => by omega))
            unfold m_noon_b317 m_noon_b330
            simp (disch := omega) only [lits, bnd_eq, ckI, nI_add, nI_clamp]
            rw [(mq3 S4 hfr4).2.2.2.1, heat_step i4]
            refine (ih (k + 1) S4 (by omega) (by omega) h00 (mq3 S4 hfr4) (mps3 S4 hfr4) ?_ (fun _ => ⟨hp4, ?_⟩) (fun h => by omega) _ _ (fun _ => ⟨rfl, rfl⟩)).mono ?_
            · exact cont d S4 (hfr4.mono (fun q j hp => by omega)) (fun j hj => by rw [hf4 _ _ (by omega)]; exact h19 j hj) (by rw [hf4 _ _ (by omega)]; exact hd) hd2
            · rw [hf4 _ _ (by omega)]; exact hb3
            · intro S' hq
              exact ⟨hq.1, hq.2.1, (hf3 S4 hfr4).tr hq.2.2⟩
          unfold m_noon_b295
          simp (disch := omega) only [lits, bnd_eq, ckI, nI_clamp]
          simp only [eq_or_neg (mps3 S3 hfr).1 (mps3 S3 hfr).2.2.2.2.1 (show X 6 k < 6 by omega)]
          refine ok_if (fun hpo => fin _ (Fr.rfl.up ⟨rfl, rfl⟩) (fun s hs => ?_)) (fun hpo => fin S3 Fr.rfl (fun s hs => ?_))
          · rw [nxt]
            by_cases h5 : s = 5
            · subst h5
              rw [up2_hit rfl rfl, hp3 5 (by omega), (mps3 S3 hfr).2.1 (by omega), nI_add]
              have e : ad2 X (X 6 k) 5 = X 0 6 := if_pos ⟨hpo, rfl⟩
              rw [e]
            · have e : ad2 X (X 6 k) s = 0 := if_neg (fun q => h5 q.2)
              rw [up2_k h5, hp3 s hs, e]; rfl
          · have e : ad2 X (X 6 k) s = 0 := if_neg (fun q => hpo q.1)
            rw [nxt, hp3 s hs, e]; rfl
        rw [up2_o (by omega), up2_o (by omega), up2_o (by omega), g2 12 _ (by omega), g2 9 _ (by omega), (mq1.2.2.2.2.2.1 _ hkl).2.2.2.1, mq1.2.1]
        simp (disch := omega) only [nI_eqE]
        have hah1 : ah X (k + 1) = if dP X (X 6 k) then ah X k ||| (nI 1 <<< (nI (X 7 (X 6 k)) &&& 31)) else ah X k := rfl
        have hbk1 : bk X (k + 1) = if dP X (X 6 k) ∧ bk X k = -nI 1 ∧ X 0 2 = 1 ∧ hasB (ah X k) (X 7 (X 6 k)) then nI (X 6 k) else bk X k := rfl
        -- no put
        have none : ¬ dP X (X 6 k) → Ok (m_noon_b295 (m_noon_h60 n) (nI (100 - X 0 3 * k)) (ah X k) (nI k) (nI (X 6 k)) (up2 S2 19 (X 6 k) (nI 9))) (fun S' => Mres S' X (X 0 0) ∧ S' 0 39 = bk X (X 0 0 - 1) ∧ Fr nnM S S') := by
          intro hd
          rw [if_neg hd] at hah1
          rw [← hah1]
          refine key2 _ (nI 9) (Fr.rfl.up (by omega)) (fun j hj => up2_k hj) (up2_hit rfl rfl) (by rw [if_neg (fun q => hd q.2)]) (fun s hs => ?_) ?_
          · have e : ad1 X (X 6 k) s = 0 := if_neg (fun q => hd q.1)
            rw [up2_o (by omega), (q1 s hs).2, e]; rfl
          · rw [up2_o (by omega), hb2, hbk1, if_neg (fun q => hd q.1)]
        refine ok_if (fun h9 => none (fun q => q.1 h9)) (fun h9 => ?_)
        have hs5 : X 7 (X 6 k) < 5 := by omega
        have hsv := j5 _ hs5
        simp (disch := omega) only [nI_add, ckI, nI_clamp]
        rw [g2 7 _ (by omega), (mq1.2.2.2.2.2.1 _ hkl).2.2.2.2 _ hs5]
        simp (disch := omega) only [nI_ltE]
        refine ok_if (fun hlt => none (fun q => by have := q.2; omega)) (fun hlt => ?_)
        have hd : dP X (X 6 k) := ⟨h9, by omega⟩
        rw [if_pos hd] at hah1
        simp (disch := omega) only [up2_o, up2_hit, g2]
        rw [(mq1.2.2.2.2.2.1 _ hkl).2.2.2.1, mq1.2.1]
        simp (disch := omega) only [ckI, nI_clamp, up2_o, up2_k, up2_hit, g2]
        rw [(q1 _ (by omega)).2, nI_add, hb1, mq1.2.2.1]
        simp (disch := omega) only [nI_eqE, has_eq, bI_some]
        have key3 : ∀ (S3 : St), Fr (fun q j => q = 0 ∧ j = 39) (up2 (up2 (up2 S2 19 (X 6 k) (nI 9)) 19 (X 6 k) (nI (X 7 (X 6 k)))) 15 (X 7 (X 6 k)) (nI (ptQ X k (X 7 (X 6 k)) - tk (ptQ X k) (ladOf X k (X 6 k)) (X 7 (X 6 k)) + X 0 1))) S3 → S3 0 39 = bk X (k + 1) →
            Ok (m_noon_b283 (m_noon_h60 n) (nI (100 - X 0 3 * k)) (ah X k) (nI k) (nI (X 6 k)) S3) (fun S' => Mres S' X (X 0 0) ∧ S' 0 39 = bk X (X 0 0 - 1) ∧ Fr nnM S S') := by
          intro S3 hf3' hb3
          have hfr : Fr (fun q j => q = 15 ∨ q = 19 ∨ (q = 0 ∧ j = 39)) S2 S3 := (((Fr.rfl.up (o := 19) (by omega)).up (o := 19) (by omega)).up (o := 15) (by omega)).tr (hf3'.mono (fun q j hp => by omega))
          unfold m_noon_b283
          simp (disch := omega) only [lits, bnd_eq, ckI, nI_clamp]
          rw [((mq3 S3 hfr).2.2.2.2.2.1 _ hkl).2.2.2.1, ← hah1]
          refine key2 S3 (nI (X 7 (X 6 k))) hfr (fun j hj => ?_) ?_ (by rw [if_pos ⟨hl, hd⟩]) (fun s hs => ?_) hb3
          · rw [hf3' _ _ (by omega), up2_o (by omega), up2_k hj, up2_k hj]
          · rw [hf3' _ _ (by omega), up2_o (by omega), up2_hit rfl rfl]
          · rw [hf3' _ _ (by omega)]
            by_cases h5 : s = X 7 (X 6 k)
            · have e : ad1 X (X 6 k) s = X 0 1 := if_pos ⟨hd, h5⟩
              rw [e, h5, up2_hit rfl rfl]; rfl
            · have e : ad1 X (X 6 k) s = 0 := if_neg (fun q => h5 q.2)
              rw [up2_k h5, up2_o (by omega), up2_o (by omega), (q1 s hs).2, e]; rfl
        have hb3 : (up2 (up2 (up2 S2 19 (X 6 k) (nI 9)) 19 (X 6 k) (nI (X 7 (X 6 k)))) 15 (X 7 (X 6 k)) (nI (ptQ X k (X 7 (X 6 k)) - tk (ptQ X k) (ladOf X k (X 6 k)) (X 7 (X 6 k)) + X 0 1))) 0 39 = bk X k := by
          rw [up2_o (by omega), up2_o (by omega), up2_o (by omega)]; exact hb2
        refine ok_if (fun hb => ok_if (fun htw => ?_) (fun htw => key3 _ Fr.rfl ?_)) (fun hb => key3 _ Fr.rfl ?_)
        · by_cases hbr : hasB (ah X k) (X 7 (X 6 k))
          · simp only [if_pos hbr]
            rw [if_neg (by decide)]
            refine key3 _ (Fr.rfl.up ⟨rfl, rfl⟩) ?_
            rw [up2_hit rfl rfl, hbk1, if_pos ⟨hd, hb, htw, hbr⟩]
          · simp only [if_neg hbr, if_true]
            refine key3 _ Fr.rfl ?_
            rw [hb3, hbk1, if_neg (fun q => hbr q.2.2.2)]
        · rw [hb3, hbk1, if_neg (fun q => htw q.2.2.1)]
        · rw [hb3, hbk1, if_neg (fun q => hb q.2.1)]
      · subst e6
        rw [if_neg (by decide)]
        unfold m_noon_b330
        simp only [lits, bnd_eq, nI_add]
        have hfr : Fr (fun q j => q = 15 ∨ q = 19 ∨ (q = 0 ∧ j = 39)) S2 (up2 S2 19 (X 6 k) (nI 9)) := Fr.rfl.up (by omega)
        refine (ih (k + 1) _ (by omega) (by omega) h00 (mq3 _ hfr) (mps3 _ hfr) ?_ (fun h => by omega) (fun h => ?_) _ _ (fun h => by omega)).mono ?_
        · exact cont (nI 9) _ (hfr.mono (fun q j hp => by omega)) (fun j hj => up2_k hj) (up2_hit rfl rfl) (by rw [if_neg (fun q => by omega)])
        · rw [up2_o (by omega), hb2, show X 0 0 - 1 = k by omega]
        · intro S' hq
          exact ⟨hq.1, hq.2.1, (hf3 _ hfr).tr hq.2.2⟩
    have key9 : ∀ (v6 : Int32), (v6 = nI 0 ∧ k + 1 < X 0 0) ∨ (v6 = nI 1 ∧ k + 1 = X 0 0) → Ok (m_noon_b94 (m_noon_h60 n) (nI (100 - X 0 3 * k)) (ah X k) (nI k) (nI (X 6 k)) v6 S) (fun S' => Mres S' X (X 0 0) ∧ S' 0 39 = bk X (X 0 0 - 1) ∧ Fr nnM S S') := by
      intro v6 h6
      unfold m_noon_b94
      simp only [lits]
      simp only [eq_or_neg mps.2.2.1 mps.2.2.2.2.2 (show k < 6 by omega)]
      refine ok_if (fun h7 => ?_) (fun h7 => ?_)
      · rw [mps.2.2.2.1 (by omega)]
        refine ok_bV (ladle18_ok (b := 0) (L' := X 0 8) (by omega) (fun s hs => Nat.le_trans (ptS_le iv0 k s hs) (by omega)) i7 (Or.inl ⟨rfl, rfl⟩) hpot) (fun S1 hq => ?_)
        have hf : Fr nnM S S1 := hq.2.mono (fun q j hp => by unfold nnM; omega)
        refine key v6 h6 S1 (mq.fr (fun q j hc => hf q j (by unfold nnM; omega))) (mps.fr (fun j hj => hf 0 j (by unfold nnM; omega))) ?_ ?_ ?_ ?_ hf
        · refine ⟨fun pl hpl => ⟨fun s hs => ?_, ?_, ?_⟩, fun h8 => by omega⟩
          · rw [hq.2 _ _ (by omega)]; exact (mres.1 pl hpl).1 s hs
          · rw [hq.2 _ _ (by omega)]; exact (mres.1 pl hpl).2.1
          · rw [hq.2 _ _ (by omega)]; exact (mres.1 pl hpl).2.2
        · intro _ s hs
          have := (hq.1 s hs).1
          rw [Nat.zero_add] at this
          rw [this]
          unfold sgP
          rw [← h7]
        · intro s hs
          rw [(hq.1 s hs).2]
          unfold ptQ stQ
          rw [if_pos h7]
        · rw [hq.2 _ _ (by omega)]; exact hbk
      · refine key v6 h6 S mq mps mres (fun e => absurd e.symm h7) ?_ hbk Fr.rfl
        intro s hs
        rw [hpot s hs]
        unfold ptQ stQ
        rw [if_neg h7]
    simp (disch := omega) only [nI_eqE]
    refine ok_if (fun hl => key9 _ (Or.inr ⟨rfl, by omega⟩)) (fun hl => key9 _ (Or.inl ⟨rfl, by omega⟩))
theorem noonM_h2s {S : St} {n k d : Nat} (hd : d ≤ 1100) (hk : k < 5) : m_noon_h2 (n + 1) (nI d) (nI k) S = m_noon_h2 n (nI d) (nI (k + 1)) (up2 S 15 k (S 5 k * nI (if (d + 1) % 7 = 0 then 2 else 1))) := by
  rw [m_noon_h2]
  simp only [lits]
  rw [if_neg (by rw [nI_leE (by omega) (by omega)]; omega), ckI hk (by omega), dv_in (by decide), nI_add, pk_rem (by omega) (by omega) (by omega)]
  unfold m_noon_b32
  simp (disch := omega) only [lits, ckI, nI_clamp, bnd_eq, nI_add, nI_eqE]
  by_cases h7 : (d + 1) % 7 = 0
  · rw [if_pos h7, if_pos h7]
  · rw [if_neg h7, if_neg h7]
def NoonMOk (X : Cf) (S S' : St) : Prop := Mres S' X (X 0 0) ∧ S' 0 39 = bk X (X 0 0 - 1) ∧ Fr nnM S S'
set_option maxHeartbeats 4000000 in
theorem noonM_ok {X : Cf} (iv : Iv X) {S : St} (h0 : 0 < X 0 0) (mq : Mq S X) (mps : Mps S X) : Ok (m_noon (nI (X 0 4)) S) (NoonMOk X S) := by
  have hd := iv.2.2.2.2.1
  have hp := mq.2.2.2.2.1
  unfold m_noon
  simp only [lits]
  rw [show FU = 994 + 1 + 1 + 1 + 1 + 1 + 1 from rfl, noonM_h2s hd (by omega), noonM_h2s hd (by omega), noonM_h2s hd (by omega), noonM_h2s hd (by omega), noonM_h2s hd (by omega), m_noon_h2]
  simp only [lits]
  rw [if_pos (by decide), ckI (by omega) (by omega)]
  simp (disch := omega) only [bnd_eq, up2_o, nI_clamp, Nat.zero_add, Nat.reduceAdd]
  rw [hp 0 (by omega), hp 1 (by omega), hp 2 (by omega), hp 3 (by omega), hp 4 (by omega)]
  simp only [pk_mul]
  have hf : Fr nnM S (up2 (up2 (up2 (up2 (up2 (up2 (up2 S 15 0 (nI (X 1 0 * if (X 0 4 + 1) % 7 = 0 then 2 else 1))) 15 1 (nI (X 1 1 * if (X 0 4 + 1) % 7 = 0 then 2 else 1))) 15 2 (nI (X 1 2 * if (X 0 4 + 1) % 7 = 0 then 2 else 1))) 15 3 (nI (X 1 3 * if (X 0 4 + 1) % 7 = 0 then 2 else 1))) 15 4 (nI (X 1 4 * if (X 0 4 + 1) % 7 = 0 then 2 else 1))) 15 5 (nI 0)) 0 39 (-nI 1)) := by
    refine ((((((Fr.rfl.up ?_).up ?_).up ?_).up ?_).up ?_).up ?_).up ?_ <;> (unfold nnM; omega)
  refine (noonM_h60 iv FU 0 _ (by omega) (by have := iv.1; unfold FU; omega) h0 (mq.fr (fun q j hc => hf q j (by unfold nnM; omega))) (mps.fr (fun j hj => hf 0 j (by unfold nnM; omega))) ⟨fun pl hpl => by omega, fun h => by omega⟩ (fun _ => ⟨?_, ?_⟩) (fun h => by omega) _ _ (fun _ => ⟨by simp, rfl⟩)).mono ?_
  · intro s hs
    show _ = nI (pt0 X s)
    unfold pt0
    match s, hs with
    | 0, _ => simp (disch := omega) only [up2_o, up2_k, up2_hit]; rw [Nat.mul_comm]; rfl
    | 1, _ => simp (disch := omega) only [up2_o, up2_k, up2_hit]; rw [Nat.mul_comm]; rfl
    | 2, _ => simp (disch := omega) only [up2_o, up2_k, up2_hit]; rw [Nat.mul_comm]; rfl
    | 3, _ => simp (disch := omega) only [up2_o, up2_k, up2_hit]; rw [Nat.mul_comm]; rfl
    | 4, _ => simp (disch := omega) only [up2_o, up2_k, up2_hit]; rw [Nat.mul_comm]; rfl
    | 5, _ => simp (disch := omega) only [up2_o, up2_k, up2_hit]; rfl
  · rw [up2_hit rfl rfl]; rfl
  · intro S' hq
    exact ⟨hq.1, hq.2.1, hf.tr hq.2.2⟩
