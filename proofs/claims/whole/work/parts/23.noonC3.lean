/-! the class's noon, down the street -/
theorem begin_h30s {S : St} {n k : Nat} {v : Int32} (hk : k < 5) : c_Noon_begin_h30 (n + 1) v (nI k) S = c_Noon_begin_h30 n v (nI (k + 1)) (up2 S 114 k (v * S 29 k)) := by
  rw [c_Noon_begin_h30]
  simp (disch := omega) only [lits, nI_leE, ckI, nI_clamp, bnd_eq, nI_add]
  rw [if_neg (by omega)]
theorem begin_ok {S : St} {X : Cf} (iv : Iv X) (hp : ∀ s, s < 5 → S 29 s = nI (X 1 s)) : Ok (c_Noon_begin (nI (X 0 4)) S) (fun S' => (∀ s, s < 6 → S' 114 s = nI (ptS X 0 s)) ∧ S' 111 7 = nI (X 0 4) ∧ S' 111 8 = -nI 1 ∧ Fr (fun q j => (q = 114 ∧ j < 6) ∨ (q = 111 ∧ (j = 7 ∨ j = 8))) S S') := by
  obtain ⟨i1, i2, i3, i4, i5, i6, i7, i8, i9, i10, i11⟩ := iv
  have key : ∀ t : Nat, t = (if (X 0 4 + 1) % 7 = 0 then 2 else 1) → Ok (c_Noon_begin_b27 (nI t) (up2 (up2 S 111 7 (nI (X 0 4))) 111 8 (-nI 1))) (fun S' => (∀ s, s < 6 → S' 114 s = nI (ptS X 0 s)) ∧ S' 111 7 = nI (X 0 4) ∧ S' 111 8 = -nI 1 ∧ Fr (fun q j => (q = 114 ∧ j < 6) ∨ (q = 111 ∧ (j = 7 ∨ j = 8))) S S') := by
    intro t ht
    unfold c_Noon_begin_b27
    simp only [lits]
    rw [show FU = 994 + 1 + 1 + 1 + 1 + 1 + 1 from rfl, begin_h30s (by omega), begin_h30s (by omega), begin_h30s (by omega), begin_h30s (by omega), begin_h30s (by omega), c_Noon_begin_h30]
    simp (disch := omega) only [lits, nI_leE, ckI, nI_clamp, bnd_eq, up2_o, Nat.zero_add, Nat.reduceAdd, Nat.le_refl, if_true, Nat.add_zero]
    refine ok_some ⟨?_, ?_, ?_, ?_⟩
    · intro s hs
      show _ = nI (pt0 X s)
      unfold pt0
      rw [← ht]
      match s, hs with
      | 0, _ => simp (disch := omega) only [up2_k, up2_hit]; rw [hp 0 (by omega), pk_mul]; rfl
      | 1, _ => simp (disch := omega) only [up2_k, up2_hit]; rw [hp 1 (by omega), pk_mul]; rfl
      | 2, _ => simp (disch := omega) only [up2_k, up2_hit]; rw [hp 2 (by omega), pk_mul]; rfl
      | 3, _ => simp (disch := omega) only [up2_k, up2_hit]; rw [hp 3 (by omega), pk_mul]; rfl
      | 4, _ => simp (disch := omega) only [up2_k, up2_hit]; rw [hp 4 (by omega), pk_mul]; rfl
      | 5, _ => rw [up2_hit rfl rfl]; rfl
    · simp (disch := omega) only [up2_o, up2_k, up2_hit]
    · simp (disch := omega) only [up2_o, up2_k, up2_hit]
    · intro q j hn
      rw [up2_n (by omega), up2_n (by omega), up2_n (by omega), up2_n (by omega), up2_n (by omega), up2_n (by omega), up2_n (by omega), up2_n (by omega)]
  unfold c_Noon_begin
  simp only [lits, bnd_eq]
  rw [dv_in (by decide), up2_k (by omega), up2_hit rfl rfl, nI_add, pk_rem (by omega) (by omega) (by omega)]
  by_cases h7 : (X 0 4 + 1) % 7 = 0
  · rw [h7, if_pos rfl]
    exact key 2 (by rw [if_pos h7])
  · rw [if_neg (by rw [nI_eqE (by omega) (by omega)]; exact h7)]
    exact key 1 (by rw [if_neg h7])
def noonPN : Nat → Nat → Prop := fun q j => (q = 111 ∧ (j = 7 ∨ j = 8)) ∨ (114 ≤ q ∧ q ≤ 128)
/-- the results, by place -/
def Cres (S : St) (X : Cf) (k : Nat) : Prop := (∀ pl, pl < k → (∀ s, s < 6 → S (121 + X 6 pl) s = nI (gtP X pl s)) ∧ S 127 (X 6 pl) = nI pl) ∧ (X 0 7 < k → ∀ s, s < 6 → S 128 s = nI (sgP X s))
/-- who poisons, where the stranger stands -/
def Cps (S : St) (X : Cf) : Prop := (S 111 9 = nI (X 0 5) ∨ (X 0 5 = 99 ∧ S 111 9 = -nI 1)) ∧ (X 0 5 ≠ 99 → S 111 10 = nI (X 0 6)) ∧ (S 111 11 = nI (X 0 7) ∨ (X 0 7 = 99 ∧ S 111 11 = -nI 1)) ∧ (X 0 7 ≠ 99 → S 111 12 = nI (X 0 8)) ∧ X 0 5 ≤ 99 ∧ X 0 7 ≤ 99
theorem Cps.fr {S S' : St} {X : Cf} (h : Cps S X) (hf : ∀ j, 9 ≤ j → S' 111 j = S 111 j) : Cps S' X := by
  unfold Cps
  rw [hf 9 (by omega), hf 10 (by omega), hf 11 (by omega), hf 12 (by omega)]
  exact h
theorem eq_or_neg {v : Int32} {a b : Nat} (h : v = nI a ∨ (a = 99 ∧ v = -nI 1)) (ha : a ≤ 99) (hb : b < 6) : (nI b = v) = (b = a) := by
  rcases h with h | ⟨h1, h2⟩
  · rw [h, nI_eqE (by omega) (by omega)]
  · rw [h2, nI_nneg (by omega)]
    exact (eq_false (by omega)).symm
set_option maxHeartbeats 4000000 in
theorem down_h12 {o : Nat} (ho : o = 33 ∨ o = 38) {X : Cf} (iv : Iv X) : ∀ (n k : Nat) (S : St), k < X 0 0 → X 0 0 < n + k → Cq S o X → Cps S X → Cres S X k → (∀ s, s < 6 → S (114 + k) s = nI (ptS X k s)) → S 111 8 = bk X k →
    Ok (c_Noon_goDownTheStreet_h12 o n (ah X k) (nI k) S) (fun S' => Cres S' X (X 0 0) ∧ S' 111 8 = bk X (X 0 0 - 1) ∧ Fr noonPN S S' ∧ S' 111 7 = S 111 7) := by
  intro n
  induction n with
  | zero => intro k S hk hn; omega
  | succ n ih =>
    intro k S hk hn cq cps cres hpot hbk
    have iv0 := iv
    obtain ⟨i1, i2, i3, i4, i5, i6, i7, i8, i9, i10, i11⟩ := iv
    have hkl := i10 k hk
    obtain ⟨j1, j2, j3, j4, j5⟩ := i9 _ hkl
    -- from the pot as the house finds it
    have key : ∀ S1 : St, Cq S1 o X → Cps S1 X → Cres S1 X k → (X 0 7 = k → ∀ s, s < 6 → S1 128 s = nI (sgP X s)) → (∀ s, s < 6 → S1 (114 + k) s = nI (ptQ X k s)) → S1 111 8 = bk X k → Fr noonPN S S1 → S1 111 7 = S 111 7 →
        Ok (c_Noon_goDownTheStreet_b62 o (c_Noon_goDownTheStreet_h12 o n) (ah X k) (nI k) (nI (X 6 k)) S1) (fun S' => Cres S' X (X 0 0) ∧ S' 111 8 = bk X (X 0 0 - 1) ∧ Fr noonPN S S' ∧ S' 111 7 = S 111 7) := by
      intro S1 cq1 cps1 cres1 hst hp1 hb1 hf1 hd1
      unfold c_Noon_goDownTheStreet_b62
      refine ok_bV (serve_ok (S := S1) (pl := k) (h := X 6 k) cq1.1 i1 hk (by omega) (cq1.2.2.2.2.2.2.1 _ hkl).1 j1 hp1 (fun s hs => Nat.le_trans (ptQ_le iv0 k s hs) (by omega))) (fun S2 hq => ?_)
      obtain ⟨q1, q2, q3⟩ := hq
      have q3' : Fr noonPN S1 S2 := q3.mono (fun q j hp => by unfold noonPN; omega)
      have hf2 : Fr noonPN S S2 := hf1.tr q3'
      have cq2 : Cq S2 o X := cq1.fr (by omega) (fun q j h1 h2 => q3' q j (by unfold noonPN; omega))
      have cps2 : Cps S2 X := cps1.fr (fun j hj => q3 111 j (by omega))
      have cres2 : Cres S2 X (k + 1) := by
        refine ⟨fun pl hpl => ?_, fun h7 s hs => ?_⟩
        · by_cases hpk : pl = k
          · subst hpk
            exact ⟨fun s hs => (q1 s hs).1, q2⟩
          · have hne : X 6 pl ≠ X 6 k := fun e => hpk (i11 pl k (by omega) hk e)
            have := i10 pl (by omega)
            refine ⟨fun s hs => ?_, ?_⟩
            · rw [q3 _ _ (by omega)]; exact (cres1.1 pl (by omega)).1 s hs
            · rw [q3 _ _ (by omega)]; exact (cres1.1 pl (by omega)).2
        · rw [q3 _ _ (by omega)]
          by_cases h8 : X 0 7 = k
          · exact hst h8 s hs
          · exact cres1.2 (by omega) s hs
      have hb2 : S2 111 8 = bk X k := by rw [q3 _ _ (by omega)]; exact hb1
      have hd2 : S2 111 7 = S 111 7 := by rw [q3 _ _ (by omega)]; exact hd1
      by_cases hlast : k + 1 = X 0 0
      · rw [isLast_1 cq2.1 i1 (by omega) (by omega) (by omega), bI_some]
        simp only [lits]
        rw [if_neg (by decide)]
        refine ok_some ⟨hlast ▸ cres2, ?_, hf2, hd2⟩
        rw [show X 0 0 - 1 = k by omega]
        exact hb2
      · rw [isLast_0 cq2.1 i1 (by omega), bI_some]
        simp only [lits, if_true]
        rw [putOf_eq (by omega), bI_some, (cq2.2.2.2.2.2.2.1 _ hkl).2.2.2.1]
        simp only []
        rw [cq2.2.1, enough_dP cq2 iv0 hkl, bI_some]
        simp only []
        -- behind the put: the poison, the next place
        have key2 : ∀ S3 : St, Cq S3 o X → Cps S3 X → Cres S3 X (k + 1) → (∀ s, s < 6 → S3 (114 + (k + 1)) s = nI (ptQ X k s - gtP X k s + ad1 X (X 6 k) s)) → S3 111 8 = bk X (k + 1) → Fr noonPN S S3 → S3 111 7 = S 111 7 →
            Ok (c_Noon_goDownTheStreet_b149 o (c_Noon_goDownTheStreet_h12 o n) (ah X (k + 1)) (nI k) (nI (X 6 k)) S3) (fun S' => Cres S' X (X 0 0) ∧ S' 111 8 = bk X (X 0 0 - 1) ∧ Fr noonPN S S' ∧ S' 111 7 = S 111 7) := by
          intro S3 cq3 cps3 cres3 hp3 hb3 hf3 hd3
          unfold c_Noon_goDownTheStreet_b149 c_Noon_goDownTheStreet_b168
          simp only [lits, bnd_eq, nI_add]
          simp only [eq_or_neg cps3.1 cps3.2.2.2.2.1 (show X 6 k < 6 by omega)]
          have nxt : ∀ s, ptS X (k + 1) s = ptQ X k s - gtP X k s + ad1 X (X 6 k) s + ad2 X (X 6 k) s := fun s => rfl
          refine ok_if (fun hpo => ?_) (fun hpo => ?_)
          · rw [pour_eq _ (by omega) (by omega), bV_some]
            refine (ih (k + 1) _ (by omega) (by omega) ?_ ?_ ?_ ?_ ?_).mono ?_
            · exact cq3.fr (by omega) (fun q j h1 h2 => by rw [up2_o (by omega)])
            · exact cps3.fr (fun j hj => by rw [up2_o (by omega)])
            · refine ⟨fun pl hpl => ⟨fun s hs => ?_, ?_⟩, fun h7 s hs => ?_⟩
              · have := i10 pl (by omega)
                rw [up2_o (by omega)]; exact (cres3.1 pl hpl).1 s hs
              · rw [up2_o (by omega)]; exact (cres3.1 pl hpl).2
              · rw [up2_o (by omega)]; exact cres3.2 h7 s hs
            · intro s hs
              rw [nxt]
              by_cases h5 : s = 5
              · subst h5
                rw [up2_hit rfl rfl, hp3 5 (by omega), cps3.2.1 (by omega), nI_add]
                congr 1
                unfold ad2
                rw [if_pos ⟨hpo, rfl⟩]
              · rw [up2_k h5, hp3 s hs]
                congr 1
                unfold ad2
                rw [if_neg (fun q => h5 q.2)]
                rfl
            · rw [up2_o (by omega)]; exact hb3
            · intro S' hq
              refine ⟨hq.1, hq.2.1, (hf3.up (o := 114 + (k + 1)) (k := 5) (by unfold noonPN; omega)).tr hq.2.2.1, ?_⟩
              rw [hq.2.2.2, up2_o (by omega)]; exact hd3
          · refine (ih (k + 1) _ (by omega) (by omega) cq3 cps3 cres3 ?_ hb3).mono ?_
            · intro s hs
              rw [nxt, hp3 s hs]
              congr 1
              unfold ad2
              rw [if_neg (fun q => hpo q.1)]
              rfl
            · intro S' hq
              exact ⟨hq.1, hq.2.1, hf3.tr hq.2.2.1, hq.2.2.2.trans hd3⟩
        by_cases hd : dP X (X 6 k)
        · have hs5 : X 7 (X 6 k) < 5 := by have := hd.1; omega
          have hah : ah X (k + 1) = ah X k ||| (nI 1 <<< (nI (X 7 (X 6 k)) &&& 31)) := by show (if dP X (X 6 k) then _ else _) = _; rw [if_pos hd]
          rw [if_pos hd, if_neg (by decide)]
          have key3 : ∀ S3 : St, Cq S3 o X → Cps S3 X → Cres S3 X (k + 1) → (∀ s, s < 6 → S3 (114 + (k + 1)) s = nI (ptQ X k s - gtP X k s)) → S3 111 8 = bk X (k + 1) → Fr noonPN S S3 → S3 111 7 = S 111 7 →
              Ok (c_Noon_goDownTheStreet_b128 o (c_Noon_goDownTheStreet_h12 o n) (ah X k) (nI k) (nI (X 6 k)) (nI (X 7 (X 6 k))) S3) (fun S' => Cres S' X (X 0 0) ∧ S' 111 8 = bk X (X 0 0 - 1) ∧ Fr noonPN S S' ∧ S' 111 7 = S 111 7) := by
            intro S3 cq3 cps3 cres3 hp3 hb3 hf3 hd3
            unfold c_Noon_goDownTheStreet_b128
            simp only [lits, bnd_eq]
            rw [pour_eq _ (by omega) (by omega), bV_some]
            have e31 : (31 : Int32) = nI 31 := rfl
            rw [← hah]
            refine key2 _ ?_ ?_ ?_ ?_ ?_ ?_ ?_
            · exact cq3.fr (by omega) (fun q j h1 h2 => by rw [up2_o (by omega)])
            · exact cps3.fr (fun j hj => by rw [up2_o (by omega)])
            · refine ⟨fun pl hpl => ⟨fun s hs => ?_, ?_⟩, fun h7 s hs => ?_⟩
              · have := i10 pl (by omega)
                rw [up2_o (by omega)]; exact (cres3.1 pl hpl).1 s hs
              · rw [up2_o (by omega)]; exact (cres3.1 pl hpl).2
              · rw [up2_o (by omega)]; exact cres3.2 h7 s hs
            · intro s hs
              by_cases h5 : s = X 7 (X 6 k)
              · subst h5
                rw [up2_hit rfl rfl, hp3 _ (by omega), cq3.2.1, nI_add]
                congr 1
                unfold ad1
                rw [if_pos ⟨hd, rfl⟩]
              · rw [up2_k h5, hp3 s hs]
                congr 1
                unfold ad1
                rw [if_neg (fun q => h5 q.2)]
                rfl
            · rw [up2_o (by omega)]; exact hb3
            · exact hf3.up (o := 114 + (k + 1)) (by unfold noonPN; omega)
            · rw [up2_o (by omega)]; exact hd3
          rw [hb2]
          have hbk1 : bk X (k + 1) = if dP X (X 6 k) ∧ bk X k = -nI 1 ∧ X 0 2 = 1 ∧ hasB (ah X k) (X 7 (X 6 k)) then nI (X 6 k) else bk X k := rfl
          refine ok_if (fun hb => ?_) (fun hb => ?_)
          · rw [breaks_eq cq2.2.2.1 i3, bI_some]
            simp only []
            by_cases hbr : X 0 2 = 1 ∧ hasB (ah X k) (X 7 (X 6 k))
            · rw [if_pos hbr, if_neg (by decide)]
              simp only [bnd_eq]
              refine key3 _ ?_ ?_ ?_ ?_ ?_ ?_ ?_
              · exact cq2.fr (by omega) (fun q j h1 h2 => by rw [up2_o (by omega)])
              · exact cps2.fr (fun j hj => by rw [up2_k (by omega)])
              · refine ⟨fun pl hpl => ⟨fun s hs => ?_, ?_⟩, fun h7 s hs => ?_⟩
                · rw [up2_o (by omega)]; exact (cres2.1 pl hpl).1 s hs
                · rw [up2_o (by omega)]; exact (cres2.1 pl hpl).2
                · rw [up2_o (by omega)]; exact cres2.2 h7 s hs
              · intro s hs
                rw [up2_o (by omega)]; exact (q1 s hs).2
              · rw [up2_hit rfl rfl, hbk1, if_pos ⟨hd, hb, hbr⟩]
              · exact hf2.up (o := 111) (by unfold noonPN; omega)
              · rw [up2_k (by omega)]; exact hd2
            · rw [if_neg hbr, if_pos rfl]
              exact key3 _ cq2 cps2 cres2 (fun s hs => (q1 s hs).2) (by rw [hb2, hbk1, if_neg (fun q => hbr q.2.2)]) hf2 hd2
          · exact key3 _ cq2 cps2 cres2 (fun s hs => (q1 s hs).2) (by rw [hb2, hbk1, if_neg (fun q => hb q.2.1)]) hf2 hd2
        · have hah : ah X (k + 1) = ah X k := by show (if dP X (X 6 k) then _ else _) = _; rw [if_neg hd]
          have hbk1 : bk X (k + 1) = bk X k := by show (if dP X (X 6 k) ∧ _ then _ else _) = _; rw [if_neg (fun q => hd q.1)]
          rw [if_neg hd, if_pos rfl, ← hah]
          refine key2 _ cq2 cps2 cres2 (fun s hs => ?_) (by rw [hb2, hbk1]) hf2 hd2
          have e : ad1 X (X 6 k) s = 0 := if_neg (fun q => hd q.1)
          rw [(q1 s hs).2, e]
          rfl
    rw [c_Noon_goDownTheStreet_h12, cq.1, if_neg (by rw [nI_leE (by omega) (by omega)]; omega), ckI (by omega) (by omega)]
    simp only [bnd_eq]
    rw [nI_clamp (by omega), cq.2.2.2.2.2.2.2 k hk]
    simp only [eq_or_neg cps.2.2.1 cps.2.2.2.2.2 (show k < 6 by omega)]
    refine ok_if (fun h7 => ?_) (fun h7 => ?_)
    · rw [ckI (by omega) (by omega), ckI (by omega) (by omega), cps.2.2.2.1 (by omega)]
      refine ok_bV (scoop_ok (o0 := 114 + k) (o1 := 128) (o2 := 114 + k) (by omega) (by omega) (by omega) hpot (fun s hs => Nat.le_trans (ptS_le iv0 k s hs) (by omega))) (fun S1 hq => ?_)
      have hf : Fr noonPN S S1 := hq.2.mono (fun q j hp => by unfold noonPN; omega)
      refine key S1 (cq.fr (by omega) (fun q j h1 h2 => hf q j (by unfold noonPN; omega))) (cps.fr (fun j hj => hq.2 111 j (by omega))) ?_ ?_ ?_ ?_ hf ?_
      · refine ⟨fun pl hpl => ⟨fun s hs => ?_, ?_⟩, fun h8 => by omega⟩
        · have := i10 pl (by omega)
          rw [hq.2 _ _ (by omega)]; exact (cres.1 pl hpl).1 s hs
        · rw [hq.2 _ _ (by omega)]; exact (cres.1 pl hpl).2
      · intro _ s hs
        rw [(hq.1 s hs).1]
        unfold sgP
        rw [← h7]
      · intro s hs
        rw [(hq.1 s hs).2]
        unfold ptQ stQ
        rw [if_pos h7]
      · rw [hq.2 _ _ (by omega)]; exact hbk
      · rw [hq.2 _ _ (by omega)]
    · refine key S cq cps cres (fun e => absurd e.symm h7) ?_ hbk Fr.rfl rfl
      intro s hs
      rw [hpot s hs]
      unfold ptQ stQ
      rw [if_neg h7]
theorem goDown_ok {o : Nat} (ho : o = 33 ∨ o = 38) {X : Cf} (iv : Iv X) {S : St} (h0 : 0 < X 0 0) (cq : Cq S o X) (cps : Cps S X) : Ok (c_Noon_goDownTheStreet o S) (fun S' => Cres S' X (X 0 0) ∧ S' 111 8 = bk X (X 0 0 - 1) ∧ S' 111 7 = nI (X 0 4) ∧ Fr noonPN S S') := by
  unfold c_Noon_goDownTheStreet
  rw [cq.2.2.2.2.1]
  refine ok_bV (begin_ok iv cq.2.2.2.2.2.1) (fun S1 hq => ?_)
  obtain ⟨q1, q2, q3, q4⟩ := hq
  have hf : Fr noonPN S S1 := q4.mono (fun q j hp => by unfold noonPN; omega)
  simp only [lits]
  refine (down_h12 ho iv FU 0 S1 h0 (by have := iv.1; unfold FU; omega) (cq.fr (by omega) (fun q j h1 h2 => hf q j (by unfold noonPN; omega))) (cps.fr (fun j hj => q4 111 j (by omega))) ⟨fun pl hpl => by omega, fun h => by omega⟩ q1 q3).mono ?_
  intro S' hr
  exact ⟨hr.1, hr.2.1, by rw [hr.2.2.2, q2], hf.tr hr.2.2.1⟩
/-- the noon's own objects -/
def noonP : Nat → Nat → Prop := fun q j => (q = 111 ∧ 7 ≤ j) ∨ (114 ≤ q ∧ q ≤ 128)
def NoonOk (X : Cf) (S S' : St) : Prop := Cres S' X (X 0 0) ∧ S' 111 8 = bk X (X 0 0 - 1) ∧ S' 111 7 = nI (X 0 4) ∧ Fr noonP S S'
/-- no poison, no stranger -/
def Pl (X : Cf) : Prop := X 0 5 = 99 ∧ X 0 7 = 99
theorem run_ok {o : Nat} (ho : o = 33 ∨ o = 38) {X : Cf} (iv : Iv X) (pl : Pl X) {S : St} (h0 : 0 < X 0 0) (cq : Cq S o X) : Ok (c_Noon_run o S) (NoonOk X S) := by
  unfold c_Noon_run
  simp only [bnd_eq, lits]
  have hf : Fr noonP S (up2 (up2 S 111 9 (-nI 1)) 111 11 (-nI 1)) := (Fr.rfl.up (by unfold noonP; omega)).up (by unfold noonP; omega)
  refine ok_bV (goDown_ok ho iv h0 (cq.fr (by omega) (fun q j h1 h2 => hf q j (by unfold noonP; omega))) ?_) (fun S' hq => ok_some ⟨hq.1, hq.2.1, hq.2.2.1, hf.tr (hq.2.2.2.mono (fun q j hp => by unfold noonPN at hp; unfold noonP; omega))⟩)
  refine ⟨Or.inr ⟨pl.1, ?_⟩, fun h => absurd pl.1 h, Or.inr ⟨pl.2, ?_⟩, fun h => absurd pl.2 h, by have := pl.1; omega, by have := pl.2; omega⟩
  · rw [up2_k (by omega), up2_hit rfl rfl]
  · rw [up2_hit rfl rfl]
theorem runPo_ok {o : Nat} (ho : o = 33 ∨ o = 38) {X : Cf} (iv : Iv X) (h5 : X 0 5 < 6) (h7 : X 0 7 = 99) {S : St} (h0 : 0 < X 0 0) (cq : Cq S o X) : Ok (c_Noon_runPoisoned o (nI (X 0 5)) (nI (X 0 6)) S) (NoonOk X S) := by
  unfold c_Noon_runPoisoned
  simp only [bnd_eq, lits]
  have hf : Fr noonP S (up2 (up2 (up2 S 111 9 (nI (X 0 5))) 111 10 (nI (X 0 6))) 111 11 (-nI 1)) := ((Fr.rfl.up (by unfold noonP; omega)).up (by unfold noonP; omega)).up (by unfold noonP; omega)
  refine ok_bV (goDown_ok ho iv h0 (cq.fr (by omega) (fun q j h1 h2 => hf q j (by unfold noonP; omega))) ?_) (fun S' hq => ok_some ⟨hq.1, hq.2.1, hq.2.2.1, hf.tr (hq.2.2.2.mono (fun q j hp => by unfold noonPN at hp; unfold noonP; omega))⟩)
  refine ⟨Or.inl ?_, fun h => ?_, Or.inr ⟨h7, ?_⟩, fun h => absurd h7 h, by omega, by omega⟩
  · rw [up2_k (by omega), up2_k (by omega), up2_hit rfl rfl]
  · rw [up2_k (by omega), up2_hit rfl rfl]
  · rw [up2_hit rfl rfl]
theorem runSt_ok {o : Nat} (ho : o = 33 ∨ o = 38) {X : Cf} (iv : Iv X) (h5 : X 0 5 = 99) (h7 : X 0 7 < 6) {S : St} (h0 : 0 < X 0 0) (cq : Cq S o X) : Ok (c_Noon_runWithStranger o (nI (X 0 7)) (nI (X 0 8)) S) (NoonOk X S) := by
  unfold c_Noon_runWithStranger
  simp only [bnd_eq, lits]
  have hf : Fr noonP S (up2 (up2 (up2 S 111 9 (-nI 1)) 111 11 (nI (X 0 7))) 111 12 (nI (X 0 8))) := ((Fr.rfl.up (by unfold noonP; omega)).up (by unfold noonP; omega)).up (by unfold noonP; omega)
  refine ok_bV (goDown_ok ho iv h0 (cq.fr (by omega) (fun q j h1 h2 => hf q j (by unfold noonP; omega))) ?_) (fun S' hq => ok_some ⟨hq.1, hq.2.1, hq.2.2.1, hf.tr (hq.2.2.2.mono (fun q j hp => by unfold noonPN at hp; unfold noonP; omega))⟩)
  refine ⟨Or.inr ⟨h5, ?_⟩, fun h => absurd h5 h, Or.inl ?_, fun h => ?_, by omega, by omega⟩
  · rw [up2_k (by omega), up2_k (by omega), up2_hit rfl rfl]
  · rw [up2_k (by omega), up2_hit rfl rfl]
  · rw [up2_hit rfl rfl]
