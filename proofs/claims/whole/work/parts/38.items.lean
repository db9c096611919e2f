/-! items of a clause of a street -/
theorem most_M : ∀ i, i = 1 ∨ i = 2 ∨ i = 3 → ∀ k, k < lenN i → ∀ S, m_mostOf (nI (kindN i)) (nI k) S = some (nI (msN i k), S) := by
  intro i hi k hk S
  rcases hi with h | h | h <;> subst h
  · match k, hk with
    | 0, _ => rfl
    | 1, _ => rfl
    | 2, _ => rfl
    | 3, _ => rfl
    | 4, _ => rfl
  · match k, hk with
    | 0, _ => rfl
    | 1, _ => rfl
    | 2, _ => rfl
    | 3, _ => rfl
    | 4, _ => rfl
    | 5, _ => rfl
    | 6, _ => rfl
    | 7, _ => rfl
  · match k, hk with
    | 0, _ => rfl
    | 1, _ => rfl
    | 2, _ => rfl
def mIt (q row n : Nat) : Nat → Nat → Prop := fun p j => (p = 0 ∧ (j = 10 ∨ j = 11)) ∨ (p = q ∧ row ≤ j ∧ j < row + n)
def cIt (o n : Nat) : Nat → Nat → Prop := fun p j => (p = 3 ∧ j = 1) ∨ (p = o ∧ j < n)
section ITEMS
variable {b : Nat → Nat} {L : Nat}
/-- what the two sides have come to behind a clause's items -/
def ItR (b : Nat → Nat) (L i o q row : Nat) (a : Nat) (S T S' T' : St) (r : Int32) : Prop := Fr (cIt o (lenN i)) S S' ∧ Fr (mIt q row (lenN i)) T T' ∧ ((r = nI 1 ∧ Rw i o q row S' T' ∧ T' 0 11 = -nI 1 ∧ ∃ a', a ≤ a' ∧ a' ≤ L ∧ S' 3 1 = nI a' ∧ T' 0 10 = nI a') ∨ (r = nI 0 ∧ ∃ f, f ≤ L ∧ S' 3 1 = nI f ∧ T' 0 11 = nI f))
theorem ro1 : ∀ k, k < 5 → roV 3 k = nI (lsN 1 k) ∧ roV 4 k = nI (msN 1 k) := by decide +kernel
theorem rl1 : (roL 3).length = 5 ∧ (roL 4).length = 5 ∧ (sbs 1).length = 5 := by decide
set_option maxHeartbeats 4000000 in
theorem items1_ls (t : Txt b L) {o row : Nat} (ho : 4 ≤ o ∧ o ≤ 12) (hrow : row + 5 ≤ 5) : ∀ (n n' : Nat) (S T : St) (a : Nat) (m : Int32), PT b L S → S 3 1 = nI a → a ≤ L → PMt b L 0 0 T → T 0 10 = nI (sk b L a) → T 0 11 = -nI 1 → Rw 1 o 6 row S T → L < n + a → L < n' + a →
    ∃ r S' T', c_StreetReader_readItems_200p1_n5_300p3_300p4_h6 o n m (nI (cntB m 5)) S = some (r, S') ∧ m_readClause_h249 n' (nI 112) (nI row) 6 1 m (liR (li 1 (cu b L (sk b L a)))) T = some T' ∧ ItR b L 1 o 6 row a S T S' T' r := by
  have hL := t.1
  have hln : lenN 1 = 5 := rfl
  have hal : alen tpM 6 = 5 := rfl
  intro n
  induction n with
  | zero => intro n' S T a m _ _ ha; omega
  | succ n ih =>
    intro n' S T a m pt hS ha pm hT hf rw0 hn hn'
    obtain ⟨n', rfl⟩ : ∃ k, n' = k + 1 := ⟨n' - 1, by omega⟩
    have hge := sk_ge b L a
    have hle := sk_le b ha
    have hcu := cu_lt t (sk b L a)
    have hcnt := cntB_le m 5
    rw [c_StreetReader_readItems_200p1_n5_300p3_300p4_h6, strlen_eq (by rw [rl1.2.2]; omega), bI_some, m_readClause_h249]
    simp only [lits]
    rw [rl1.2.2, if_neg (show ¬ nI 5 < nI (cntB m 5) from nI_nlt hcnt (by omega)), next3_eq t pt ha hS, bI_some]
    simp only []
    rw [indexOf_eq (by omega) hcu, bI_some]
    simp only []
    by_cases hli : li 1 (cu b L (sk b L a)) < 99
    · obtain ⟨hl1, hl2⟩ := li_lt 1 (by omega) _ hcu hli
      rw [hln] at hl1
      have hlt : sk b L a < L := cu_pos (c := cu b L (sk b L a)) (by omega) rfl
      generalize hit : li 1 (cu b L (sk b L a)) = it at *
      have hlr : liR it = nI it := if_pos (by omega)
      rw [hlr, if_neg (show ¬ nI it < nI 0 by rw [nI_ltE (by omega) (by omega)]; omega), if_neg (show ¬ nI 5 ≤ nI it from nI_ge (by omega) (by omega)), if_neg (show ¬ nI 5 ≤ nI it from nI_ge (by omega) (by omega)), if_pos (show nI it < nI 5 from nI_lt (by omega) (by omega))]
      rw [if_neg (show ¬ nI it = -nI 1 by rw [nI_nneg (by omega)]; exact id), if_pos hf, has_eq, bI_some]
      simp only []
      by_cases hb : hasB m it
      · rw [if_pos (show (m >>> (nI it &&& 31)) &&& nI 1 = nI 1 from hb), if_pos hb, if_neg m10, fails_1 hf hT, bI_some]
        simp only []
        exact ⟨_, _, _, rfl, rfl, Fr.rfl.up (Or.inl ⟨rfl, rfl⟩), Fr.rfl.up (Or.inl ⟨rfl, Or.inr rfl⟩), Or.inr ⟨rfl, _, hle, up2_hit rfl rfl, up2_hit rfl rfl⟩⟩
      · rw [if_neg (show ¬ (m >>> (nI it &&& 31)) &&& nI 1 = nI 1 from hb), if_neg hb, if_pos rfl]
        have hcnt2 : cntB (m ||| (nI 1 <<< (nI it &&& 31))) 5 = cntB m 5 + 1 := by rw [cntB_or (by omega) hb _ (by omega), if_pos (by omega)]
        simp only [bnd_eq]
        rw [up2_hit rfl rfl, nI_add, up2_up2]
        have pt1 : PT b L (up2 S 3 1 (nI (sk b L a + 1))) := pt.fr (fun q j hq => up2_o (by omega))
        rw [next3_eq t pt1 (by omega) (up2_hit rfl rfl), bI_some, up2_up2]
        simp only []
        have hge2 := sk_ge b L (sk b L a + 1)
        have hle2 := sk_le b (show sk b L a + 1 ≤ L by omega)
        generalize ha2 : sk b L (sk b L a + 1) = a2 at *
        have pt2 : PT b L (up2 S 3 1 (nI a2)) := pt.fr (fun q j hq => up2_o (by omega))
        -- the reference's side
        have hls := lsN_le 1 it
        have hms := msN_le 1 it
        have hM : ∀ T1, m_readItem 6 (nI (row + it)) (nI (lsN 1 it)) (nI (msN 1 it)) T = some T1 → (if nI 112 = (108 : Int32) then (if nI it = nI 0 then (m_readClause_b311 (m_readClause_h249 n') (nI 112) (nI row) 6 1 (m ||| (nI 1 <<< (nI it &&& 31))) (nI it) (nI 1) (nI row + nI it) 6 T) else (m_readClause_b310 (m_readClause_h249 n') (nI 112) (nI row) 6 1 (m ||| (nI 1 <<< (nI it &&& 31))) (nI it) (nI row + nI it) 6 T)) else (m_readClause_b310 (m_readClause_h249 n') (nI 112) (nI row) 6 1 (m ||| (nI 1 <<< (nI it &&& 31))) (nI it) (nI row + nI it) 6 T)) = (if T1 0 11 = -nI 1 then bI (m_look T1) (fun x5 S4 => (bI (m_placeOf 1 x5 S4) (fun x7 S6 => (m_readClause_h249 n' (nI 112) (nI row) 6 1 (m ||| (nI 1 <<< (nI it &&& 31))) x7 S6)))) else m_readClause_h249 n' (nI 112) (nI row) 6 1 (m ||| (nI 1 <<< (nI it &&& 31))) (nI it) T1) := by
          intro T1 e
          have hk : ∀ k0 : Int32, k0 = nI (lsN 1 it) → m_readClause_b311 (m_readClause_h249 n') (nI 112) (nI row) 6 1 (m ||| (nI 1 <<< (nI it &&& 31))) (nI it) k0 (nI row + nI it) 6 T = (if T1 0 11 = -nI 1 then bI (m_look T1) (fun x5 S4 => (bI (m_placeOf 1 x5 S4) (fun x7 S6 => (m_readClause_h249 n' (nI 112) (nI row) 6 1 (m ||| (nI 1 <<< (nI it &&& 31))) x7 S6)))) else m_readClause_h249 n' (nI 112) (nI row) 6 1 (m ||| (nI 1 <<< (nI it &&& 31))) (nI it) T1) := by
            intro k0 hk0
            subst hk0
            unfold m_readClause_b311
            simp only [lits]
            have hmo := most_M 1 (by omega) it (by rw [hln]; exact hl1) T
            rw [show kindN 1 = 112 from rfl] at hmo
            rw [hmo, bI_some, nI_add]
            simp only []
            rw [e, bV_some]
          rw [if_neg (by decide)]
          unfold m_readClause_b310
          simp only [lits]
          exact hk _ (by unfold lsN; rw [if_neg (fun q => by omega)])
        obtain ⟨c1, c2, c3, c4⟩ := item_M t (a := sk b L a) (a2 := a2) (q := 6) (ix := row + it) (l := lsN 1 it) (h := msN 1 it) pm hlt hT hf ha2 (by rw [hal]; omega) (by rw [hal]; omega) hls hms
        -- a wrong item
        have bad : ∀ (f : Nat) (S1 : St), f ≤ L → (∃ T1, m_readItem 6 (nI (row + it)) (nI (lsN 1 it)) (nI (msN 1 it)) T = some T1 ∧ Fr (mIt 6 row 5) T T1 ∧ T1 0 11 = nI f) → Fr (cIt o 5) S S1 → S1 3 1 = nI f → ∃ r S' T', some (nI 0, S1) = some (r, S') ∧ (if nI 112 = (108 : Int32) then (if nI it = nI 0 then (m_readClause_b311 (m_readClause_h249 n') (nI 112) (nI row) 6 1 (m ||| (nI 1 <<< (nI it &&& 31))) (nI it) (nI 1) (nI row + nI it) 6 T) else (m_readClause_b310 (m_readClause_h249 n') (nI 112) (nI row) 6 1 (m ||| (nI 1 <<< (nI it &&& 31))) (nI it) (nI row + nI it) 6 T)) else (m_readClause_b310 (m_readClause_h249 n') (nI 112) (nI row) 6 1 (m ||| (nI 1 <<< (nI it &&& 31))) (nI it) (nI row + nI it) 6 T)) = some T' ∧ ItR b L 1 o 6 row a S T S' T' r := by
          intro f S1 hfL ⟨T1, e, g1, g2⟩ g3 g4
          have hne : T1 0 11 ≠ -nI 1 := fl_ne g2 t hfL
          obtain ⟨n', rfl⟩ : ∃ k, n' = k + 1 := ⟨n' - 1, by omega⟩
          rw [hM T1 e, if_neg hne, m_readClause_h249]
          simp only [lits]
          rw [if_neg (show ¬ nI it = -nI 1 by rw [nI_nneg (by omega)]; exact id), if_neg hne]
          exact ⟨_, _, _, rfl, rfl, g3, g1, Or.inr ⟨rfl, f, hfL, g4, g2⟩⟩
        have mfr : ∀ (x y : Int32), Fr (mIt 6 row 5) T (up2 (up2 T 0 10 x) 0 11 y) := fun x y => (Fr.rfl.up (Or.inl ⟨rfl, Or.inl rfl⟩)).up (Or.inl ⟨rfl, Or.inr rfl⟩)
        -- a good item
        have good : ∀ (v a3 : Nat), a2 ≤ a3 → a3 ≤ L → lsN 1 it ≤ v → v ≤ msN 1 it → m_readItem 6 (nI (row + it)) (nI (lsN 1 it)) (nI (msN 1 it)) T = some (up2 (up2 T 0 10 (nI a3)) 6 (row + it) (nI v)) → ∃ r S' T', c_StreetReader_readItems_200p1_n5_300p3_300p4_h6 o n (m ||| (nI 1 <<< (nI it &&& 31))) (nI (cntB m 5 + 1)) (up2 (up2 S 3 1 (nI a3)) o it (nI v)) = some (r, S') ∧ (if nI 112 = (108 : Int32) then (if nI it = nI 0 then (m_readClause_b311 (m_readClause_h249 n') (nI 112) (nI row) 6 1 (m ||| (nI 1 <<< (nI it &&& 31))) (nI it) (nI 1) (nI row + nI it) 6 T) else (m_readClause_b310 (m_readClause_h249 n') (nI 112) (nI row) 6 1 (m ||| (nI 1 <<< (nI it &&& 31))) (nI it) (nI row + nI it) 6 T)) else (m_readClause_b310 (m_readClause_h249 n') (nI 112) (nI row) 6 1 (m ||| (nI 1 <<< (nI it &&& 31))) (nI it) (nI row + nI it) 6 T)) = some T' ∧ ItR b L 1 o 6 row a S T S' T' r := by
          intro v a3 h1 h2 h3 h4 e
          have pm1 : PMt b L 0 0 (up2 (up2 T 0 10 (nI a3)) 6 (row + it) (nI v)) := (pm.at (x := nI a3)).fr (fun q j hq => up2_n (by omega))
          have e10 : (up2 (up2 T 0 10 (nI a3)) 6 (row + it) (nI v)) 0 10 = nI a3 := (up2_o (by omega)).trans (up2_hit rfl rfl)
          have e11 : (up2 (up2 T 0 10 (nI a3)) 6 (row + it) (nI v)) 0 11 = -nI 1 := (up2_o (by omega)).trans ((up2_k (by omega)).trans hf)
          rw [hM _ e, if_pos e11, look_eq t pm1 h2 e10, bI_some]
          simp only []
          rw [placeOf_eq (by omega), bI_some, ← hcnt2]
          have pm2 := pm1.at (x := nI (sk b L a3))
          have pt3 : PT b L (up2 (up2 S 3 1 (nI a3)) o it (nI v)) := pt.fr (fun q j hq => by rw [up2_o (by omega), up2_o (by omega)])
          obtain ⟨r, S', T', e1, e2, f1, f2, g⟩ := ih n' _ _ a3 (m ||| (nI 1 <<< (nI it &&& 31))) pt3 ((up2_o (by omega)).trans (up2_hit rfl rfl)) h2 pm2 (up2_hit rfl rfl) ((up2_k (by omega)).trans e11) (fun k hk => by
            rw [hln] at hk
            by_cases hki : k = it
            · subst hki
              exact ⟨v, up2_hit rfl rfl, (up2_o (by omega)).trans (up2_hit rfl rfl), h3, h4⟩
            · obtain ⟨w, w1, w2, w3, w4⟩ := rw0 k (by rw [hln]; exact hk)
              exact ⟨w, by rw [up2_k hki, up2_o (by omega)]; exact w1, by rw [up2_o (by omega), up2_k (by omega), up2_o (by omega)]; exact w2, w3, w4⟩) (by omega) (by omega)
          refine ⟨r, S', T', e1, e2, ((Fr.rfl.up (Or.inl ⟨rfl, rfl⟩)).up (Or.inr ⟨rfl, by rw [hln]; exact hl1⟩)).tr f1, (((Fr.rfl.up (Or.inl ⟨rfl, Or.inl rfl⟩)).up (Or.inr ⟨rfl, by omega, by rw [hln]; omega⟩)).up (Or.inl ⟨rfl, Or.inl rfl⟩)).tr f2, ?_⟩
          rcases g with ⟨q1, q2, q3, a', q4, q5⟩ | g
          · exact Or.inl ⟨q1, q2, q3, a', by omega, q5⟩
          · exact Or.inr g
        obtain ⟨r1, r2⟩ := ro1 it hl1
        have ok1 : ∀ (v a3 : Nat), v ≤ 99 → (if lsN 1 it ≤ v ∧ v ≤ msN 1 it then True else True) → c_N_isWithin (nI v) (roV 3 it) (roV 4 it) (up2 S 3 1 (nI a3)) = some (if lsN 1 it ≤ v ∧ v ≤ msN 1 it then nI 1 else nI 0, up2 S 3 1 (nI a3)) := by
          intro v a3 hv _
          rw [r1, r2]
          exact withinC (by omega) (by omega) (by omega) _
        rcases num3 t pt2 (by omega) (up2_hit rfl rfl) with ⟨n0, e⟩ | ⟨n0, n1, e⟩ | ⟨n0, n1, n2, e⟩ | ⟨n0, n1, n2, e⟩
        · rw [e, bI_some]
          simp only []
          rw [if_pos trivial, show nI 0 = (0 : Int32) from rfl, nz_0]
          exact bad a2 _ (by omega) ⟨_, c1 n0, mfr _ _, up2_hit rfl rfl⟩ (Fr.rfl.up (Or.inl ⟨rfl, rfl⟩)) (up2_hit rfl rfl)
        · have g1 := n0.1
          have g2 := n0.2
          rw [e, bI_some, up2_up2]
          simp only []
          rw [if_neg (show ¬ nI (b a2 - 48) = -nI 1 by rw [nI_nneg (by omega)]; exact id), rl1.1, rl1.2.1, ckI (by omega) (by omega), ckI (by omega) (by omega), nI_clamp (by omega), ok1 _ _ (by omega) (by split <;> trivial), bI_some]
          simp only []
          by_cases hin : lsN 1 it ≤ b a2 - 48 ∧ b a2 - 48 ≤ msN 1 it
          · rw [if_pos hin, if_neg m10, ckI (by omega) (by omega), nI_add]
            exact good _ _ (by omega) (by omega) hin.1 hin.2 (by rw [c2 n0 n1, if_pos hin])
          · rw [if_neg hin, if_pos rfl, up2_hit rfl rfl, pk_sub (by omega), up2_up2, show a2 + 1 - 1 = a2 by omega, show nI 0 = (0 : Int32) from rfl, nz_0]
            exact bad a2 _ (by omega) ⟨_, by rw [c2 n0 n1, if_neg hin], mfr _ _, up2_hit rfl rfl⟩ (Fr.rfl.up (Or.inl ⟨rfl, rfl⟩)) (up2_hit rfl rfl)
        · have g2 := n0.2
          have g1 := n1.1
          have g3 := n1.2
          rw [e, bI_some, up2_up2]
          simp only []
          rw [if_neg (show ¬ nI ((b a2 - 48) * 10 + b (a2 + 1) - 48) = -nI 1 by rw [nI_nneg (by omega)]; exact id), rl1.1, rl1.2.1, ckI (by omega) (by omega), ckI (by omega) (by omega), nI_clamp (by omega), ok1 _ _ (by omega) (by split <;> trivial), bI_some]
          simp only []
          by_cases hin : lsN 1 it ≤ (b a2 - 48) * 10 + b (a2 + 1) - 48 ∧ (b a2 - 48) * 10 + b (a2 + 1) - 48 ≤ msN 1 it
          · rw [if_pos hin, if_neg m10, ckI (by omega) (by omega), nI_add]
            exact good _ _ (by omega) (by omega) hin.1 hin.2 (by rw [c3 n0 n1 n2, if_pos hin])
          · rw [if_neg hin, if_pos rfl, up2_hit rfl rfl, pk_sub (by omega), up2_up2, show a2 + 2 - 1 = a2 + 1 by omega, show nI 0 = (0 : Int32) from rfl, nz_0]
            exact bad (a2 + 1) _ (by omega) ⟨_, by rw [c3 n0 n1 n2, if_neg hin], mfr _ _, up2_hit rfl rfl⟩ (Fr.rfl.up (Or.inl ⟨rfl, rfl⟩)) (up2_hit rfl rfl)
        · have g1 := n2.1
          rw [e, bI_some, up2_up2]
          simp only []
          rw [if_pos trivial, show nI 0 = (0 : Int32) from rfl, nz_0]
          exact bad (a2 + 2) _ (by omega) ⟨_, c4 n0 n1 n2, mfr _ _, up2_hit rfl rfl⟩ (Fr.rfl.up (Or.inl ⟨rfl, rfl⟩)) (up2_hit rfl rfl)
    · have hlr : liR (li 1 (cu b L (sk b L a))) = -nI 1 := if_neg hli
      rw [hlr, if_pos (show -nI 1 < nI 0 by decide), if_pos rfl, show nI 1 = (1 : Int32) from rfl, nz_1]
      refine ⟨_, _, _, rfl, rfl, Fr.rfl.up (Or.inl ⟨rfl, rfl⟩), Fr.rfl, Or.inl ⟨rfl, fun k hk => ?_, hf, sk b L a, hge, hle, up2_hit rfl rfl, hT⟩⟩
      obtain ⟨w, w1, w2⟩ := rw0 k hk
      exact ⟨w, by rw [up2_o (by omega)]; exact w1, w2⟩
theorem ro2 : ∀ k, k < 8 → roV 5 k = nI (lsN 2 k) ∧ roV 6 k = nI (msN 2 k) := by decide +kernel
theorem rl2 : (roL 5).length = 8 ∧ (roL 6).length = 8 ∧ (sbs 2).length = 8 := by decide
set_option maxHeartbeats 4000000 in
theorem items2_ls (t : Txt b L) {o row : Nat} (ho : 4 ≤ o ∧ o ≤ 12) (hrow : row + 8 ≤ 48) : ∀ (n n' : Nat) (S T : St) (a : Nat) (m : Int32), PT b L S → S 3 1 = nI a → a ≤ L → PMt b L 0 0 T → T 0 10 = nI (sk b L a) → T 0 11 = -nI 1 → Rw 2 o 8 row S T → L < n + a → L < n' + a →
    ∃ r S' T', c_StreetReader_readItems_200p2_n8_300p5_300p6_h6 o n m (nI (cntB m 8)) S = some (r, S') ∧ m_readClause_h249 n' (nI 104) (nI row) 8 2 m (liR (li 2 (cu b L (sk b L a)))) T = some T' ∧ ItR b L 2 o 8 row a S T S' T' r := by
  have hL := t.1
  have hln : lenN 2 = 8 := rfl
  have hal : alen tpM 8 = 48 := rfl
  intro n
  induction n with
  | zero => intro n' S T a m _ _ ha; omega
  | succ n ih =>
    intro n' S T a m pt hS ha pm hT hf rw0 hn hn'
    obtain ⟨n', rfl⟩ : ∃ k, n' = k + 1 := ⟨n' - 1, by omega⟩
    have hge := sk_ge b L a
    have hle := sk_le b ha
    have hcu := cu_lt t (sk b L a)
    have hcnt := cntB_le m 8
    rw [c_StreetReader_readItems_200p2_n8_300p5_300p6_h6, strlen_eq (by rw [rl2.2.2]; omega), bI_some, m_readClause_h249]
    simp only [lits]
    rw [rl2.2.2, if_neg (show ¬ nI 8 < nI (cntB m 8) from nI_nlt hcnt (by omega)), next3_eq t pt ha hS, bI_some]
    simp only []
    rw [indexOf_eq (by omega) hcu, bI_some]
    simp only []
    by_cases hli : li 2 (cu b L (sk b L a)) < 99
    · obtain ⟨hl1, hl2⟩ := li_lt 2 (by omega) _ hcu hli
      rw [hln] at hl1
      have hlt : sk b L a < L := cu_pos (c := cu b L (sk b L a)) (by omega) rfl
      generalize hit : li 2 (cu b L (sk b L a)) = it at *
      have hlr : liR it = nI it := if_pos (by omega)
      rw [hlr, if_neg (show ¬ nI it < nI 0 by rw [nI_ltE (by omega) (by omega)]; omega), if_neg (show ¬ nI 8 ≤ nI it from nI_ge (by omega) (by omega)), if_neg (show ¬ nI 8 ≤ nI it from nI_ge (by omega) (by omega)), if_pos (show nI it < nI 8 from nI_lt (by omega) (by omega))]
      rw [if_neg (show ¬ nI it = -nI 1 by rw [nI_nneg (by omega)]; exact id), if_pos hf, has_eq, bI_some]
      simp only []
      by_cases hb : hasB m it
      · rw [if_pos (show (m >>> (nI it &&& 31)) &&& nI 1 = nI 1 from hb), if_pos hb, if_neg m10, fails_1 hf hT, bI_some]
        simp only []
        exact ⟨_, _, _, rfl, rfl, Fr.rfl.up (Or.inl ⟨rfl, rfl⟩), Fr.rfl.up (Or.inl ⟨rfl, Or.inr rfl⟩), Or.inr ⟨rfl, _, hle, up2_hit rfl rfl, up2_hit rfl rfl⟩⟩
      · rw [if_neg (show ¬ (m >>> (nI it &&& 31)) &&& nI 1 = nI 1 from hb), if_neg hb, if_pos rfl]
        have hcnt2 : cntB (m ||| (nI 1 <<< (nI it &&& 31))) 8 = cntB m 8 + 1 := by rw [cntB_or (by omega) hb _ (by omega), if_pos (by omega)]
        simp only [bnd_eq]
        rw [up2_hit rfl rfl, nI_add, up2_up2]
        have pt1 : PT b L (up2 S 3 1 (nI (sk b L a + 1))) := pt.fr (fun q j hq => up2_o (by omega))
        rw [next3_eq t pt1 (by omega) (up2_hit rfl rfl), bI_some, up2_up2]
        simp only []
        have hge2 := sk_ge b L (sk b L a + 1)
        have hle2 := sk_le b (show sk b L a + 1 ≤ L by omega)
        generalize ha2 : sk b L (sk b L a + 1) = a2 at *
        have pt2 : PT b L (up2 S 3 1 (nI a2)) := pt.fr (fun q j hq => up2_o (by omega))
        -- the reference's side
        have hls := lsN_le 2 it
        have hms := msN_le 2 it
        have hM : ∀ T1, m_readItem 8 (nI (row + it)) (nI (lsN 2 it)) (nI (msN 2 it)) T = some T1 → (if nI 104 = (108 : Int32) then (if nI it = nI 0 then (m_readClause_b311 (m_readClause_h249 n') (nI 104) (nI row) 8 2 (m ||| (nI 1 <<< (nI it &&& 31))) (nI it) (nI 1) (nI row + nI it) 8 T) else (m_readClause_b310 (m_readClause_h249 n') (nI 104) (nI row) 8 2 (m ||| (nI 1 <<< (nI it &&& 31))) (nI it) (nI row + nI it) 8 T)) else (m_readClause_b310 (m_readClause_h249 n') (nI 104) (nI row) 8 2 (m ||| (nI 1 <<< (nI it &&& 31))) (nI it) (nI row + nI it) 8 T)) = (if T1 0 11 = -nI 1 then bI (m_look T1) (fun x5 S4 => (bI (m_placeOf 2 x5 S4) (fun x7 S6 => (m_readClause_h249 n' (nI 104) (nI row) 8 2 (m ||| (nI 1 <<< (nI it &&& 31))) x7 S6)))) else m_readClause_h249 n' (nI 104) (nI row) 8 2 (m ||| (nI 1 <<< (nI it &&& 31))) (nI it) T1) := by
          intro T1 e
          have hk : ∀ k0 : Int32, k0 = nI (lsN 2 it) → m_readClause_b311 (m_readClause_h249 n') (nI 104) (nI row) 8 2 (m ||| (nI 1 <<< (nI it &&& 31))) (nI it) k0 (nI row + nI it) 8 T = (if T1 0 11 = -nI 1 then bI (m_look T1) (fun x5 S4 => (bI (m_placeOf 2 x5 S4) (fun x7 S6 => (m_readClause_h249 n' (nI 104) (nI row) 8 2 (m ||| (nI 1 <<< (nI it &&& 31))) x7 S6)))) else m_readClause_h249 n' (nI 104) (nI row) 8 2 (m ||| (nI 1 <<< (nI it &&& 31))) (nI it) T1) := by
            intro k0 hk0
            subst hk0
            unfold m_readClause_b311
            simp only [lits]
            have hmo := most_M 2 (by omega) it (by rw [hln]; exact hl1) T
            rw [show kindN 2 = 104 from rfl] at hmo
            rw [hmo, bI_some, nI_add]
            simp only []
            rw [e, bV_some]
          rw [if_neg (by decide)]
          unfold m_readClause_b310
          simp only [lits]
          exact hk _ (by unfold lsN; rw [if_neg (fun q => by omega)])
        obtain ⟨c1, c2, c3, c4⟩ := item_M t (a := sk b L a) (a2 := a2) (q := 8) (ix := row + it) (l := lsN 2 it) (h := msN 2 it) pm hlt hT hf ha2 (by rw [hal]; omega) (by rw [hal]; omega) hls hms
        -- a wrong item
        have bad : ∀ (f : Nat) (S1 : St), f ≤ L → (∃ T1, m_readItem 8 (nI (row + it)) (nI (lsN 2 it)) (nI (msN 2 it)) T = some T1 ∧ Fr (mIt 8 row 8) T T1 ∧ T1 0 11 = nI f) → Fr (cIt o 8) S S1 → S1 3 1 = nI f → ∃ r S' T', some (nI 0, S1) = some (r, S') ∧ (if nI 104 = (108 : Int32) then (if nI it = nI 0 then (m_readClause_b311 (m_readClause_h249 n') (nI 104) (nI row) 8 2 (m ||| (nI 1 <<< (nI it &&& 31))) (nI it) (nI 1) (nI row + nI it) 8 T) else (m_readClause_b310 (m_readClause_h249 n') (nI 104) (nI row) 8 2 (m ||| (nI 1 <<< (nI it &&& 31))) (nI it) (nI row + nI it) 8 T)) else (m_readClause_b310 (m_readClause_h249 n') (nI 104) (nI row) 8 2 (m ||| (nI 1 <<< (nI it &&& 31))) (nI it) (nI row + nI it) 8 T)) = some T' ∧ ItR b L 2 o 8 row a S T S' T' r := by
          intro f S1 hfL ⟨T1, e, g1, g2⟩ g3 g4
          have hne : T1 0 11 ≠ -nI 1 := fl_ne g2 t hfL
          obtain ⟨n', rfl⟩ : ∃ k, n' = k + 1 := ⟨n' - 1, by omega⟩
          rw [hM T1 e, if_neg hne, m_readClause_h249]
          simp only [lits]
          rw [if_neg (show ¬ nI it = -nI 1 by rw [nI_nneg (by omega)]; exact id), if_neg hne]
          exact ⟨_, _, _, rfl, rfl, g3, g1, Or.inr ⟨rfl, f, hfL, g4, g2⟩⟩
        have mfr : ∀ (x y : Int32), Fr (mIt 8 row 8) T (up2 (up2 T 0 10 x) 0 11 y) := fun x y => (Fr.rfl.up (Or.inl ⟨rfl, Or.inl rfl⟩)).up (Or.inl ⟨rfl, Or.inr rfl⟩)
        -- a good item
        have good : ∀ (v a3 : Nat), a2 ≤ a3 → a3 ≤ L → lsN 2 it ≤ v → v ≤ msN 2 it → m_readItem 8 (nI (row + it)) (nI (lsN 2 it)) (nI (msN 2 it)) T = some (up2 (up2 T 0 10 (nI a3)) 8 (row + it) (nI v)) → ∃ r S' T', c_StreetReader_readItems_200p2_n8_300p5_300p6_h6 o n (m ||| (nI 1 <<< (nI it &&& 31))) (nI (cntB m 8 + 1)) (up2 (up2 S 3 1 (nI a3)) o it (nI v)) = some (r, S') ∧ (if nI 104 = (108 : Int32) then (if nI it = nI 0 then (m_readClause_b311 (m_readClause_h249 n') (nI 104) (nI row) 8 2 (m ||| (nI 1 <<< (nI it &&& 31))) (nI it) (nI 1) (nI row + nI it) 8 T) else (m_readClause_b310 (m_readClause_h249 n') (nI 104) (nI row) 8 2 (m ||| (nI 1 <<< (nI it &&& 31))) (nI it) (nI row + nI it) 8 T)) else (m_readClause_b310 (m_readClause_h249 n') (nI 104) (nI row) 8 2 (m ||| (nI 1 <<< (nI it &&& 31))) (nI it) (nI row + nI it) 8 T)) = some T' ∧ ItR b L 2 o 8 row a S T S' T' r := by
          intro v a3 h1 h2 h3 h4 e
          have pm1 : PMt b L 0 0 (up2 (up2 T 0 10 (nI a3)) 8 (row + it) (nI v)) := (pm.at (x := nI a3)).fr (fun q j hq => up2_n (by omega))
          have e10 : (up2 (up2 T 0 10 (nI a3)) 8 (row + it) (nI v)) 0 10 = nI a3 := (up2_o (by omega)).trans (up2_hit rfl rfl)
          have e11 : (up2 (up2 T 0 10 (nI a3)) 8 (row + it) (nI v)) 0 11 = -nI 1 := (up2_o (by omega)).trans ((up2_k (by omega)).trans hf)
          rw [hM _ e, if_pos e11, look_eq t pm1 h2 e10, bI_some]
          simp only []
          rw [placeOf_eq (by omega), bI_some, ← hcnt2]
          have pm2 := pm1.at (x := nI (sk b L a3))
          have pt3 : PT b L (up2 (up2 S 3 1 (nI a3)) o it (nI v)) := pt.fr (fun q j hq => by rw [up2_o (by omega), up2_o (by omega)])
          obtain ⟨r, S', T', e1, e2, f1, f2, g⟩ := ih n' _ _ a3 (m ||| (nI 1 <<< (nI it &&& 31))) pt3 ((up2_o (by omega)).trans (up2_hit rfl rfl)) h2 pm2 (up2_hit rfl rfl) ((up2_k (by omega)).trans e11) (fun k hk => by
            rw [hln] at hk
            by_cases hki : k = it
            · subst hki
              exact ⟨v, up2_hit rfl rfl, (up2_o (by omega)).trans (up2_hit rfl rfl), h3, h4⟩
            · obtain ⟨w, w1, w2, w3, w4⟩ := rw0 k (by rw [hln]; exact hk)
              exact ⟨w, by rw [up2_k hki, up2_o (by omega)]; exact w1, by rw [up2_o (by omega), up2_k (by omega), up2_o (by omega)]; exact w2, w3, w4⟩) (by omega) (by omega)
          refine ⟨r, S', T', e1, e2, ((Fr.rfl.up (Or.inl ⟨rfl, rfl⟩)).up (Or.inr ⟨rfl, by rw [hln]; exact hl1⟩)).tr f1, (((Fr.rfl.up (Or.inl ⟨rfl, Or.inl rfl⟩)).up (Or.inr ⟨rfl, by omega, by rw [hln]; omega⟩)).up (Or.inl ⟨rfl, Or.inl rfl⟩)).tr f2, ?_⟩
          rcases g with ⟨q1, q2, q3, a', q4, q5⟩ | g
          · exact Or.inl ⟨q1, q2, q3, a', by omega, q5⟩
          · exact Or.inr g
        obtain ⟨r1, r2⟩ := ro2 it hl1
        have ok1 : ∀ (v a3 : Nat), v ≤ 99 → (if lsN 2 it ≤ v ∧ v ≤ msN 2 it then True else True) → c_N_isWithin (nI v) (roV 5 it) (roV 6 it) (up2 S 3 1 (nI a3)) = some (if lsN 2 it ≤ v ∧ v ≤ msN 2 it then nI 1 else nI 0, up2 S 3 1 (nI a3)) := by
          intro v a3 hv _
          rw [r1, r2]
          exact withinC (by omega) (by omega) (by omega) _
        rcases num3 t pt2 (by omega) (up2_hit rfl rfl) with ⟨n0, e⟩ | ⟨n0, n1, e⟩ | ⟨n0, n1, n2, e⟩ | ⟨n0, n1, n2, e⟩
        · rw [e, bI_some]
          simp only []
          rw [if_pos trivial, show nI 0 = (0 : Int32) from rfl, nz_0]
          exact bad a2 _ (by omega) ⟨_, c1 n0, mfr _ _, up2_hit rfl rfl⟩ (Fr.rfl.up (Or.inl ⟨rfl, rfl⟩)) (up2_hit rfl rfl)
        · have g1 := n0.1
          have g2 := n0.2
          rw [e, bI_some, up2_up2]
          simp only []
          rw [if_neg (show ¬ nI (b a2 - 48) = -nI 1 by rw [nI_nneg (by omega)]; exact id), rl2.1, rl2.2.1, ckI (by omega) (by omega), ckI (by omega) (by omega), nI_clamp (by omega), ok1 _ _ (by omega) (by split <;> trivial), bI_some]
          simp only []
          by_cases hin : lsN 2 it ≤ b a2 - 48 ∧ b a2 - 48 ≤ msN 2 it
          · rw [if_pos hin, if_neg m10, ckI (by omega) (by omega), nI_add]
            exact good _ _ (by omega) (by omega) hin.1 hin.2 (by rw [c2 n0 n1, if_pos hin])
          · rw [if_neg hin, if_pos rfl, up2_hit rfl rfl, pk_sub (by omega), up2_up2, show a2 + 1 - 1 = a2 by omega, show nI 0 = (0 : Int32) from rfl, nz_0]
            exact bad a2 _ (by omega) ⟨_, by rw [c2 n0 n1, if_neg hin], mfr _ _, up2_hit rfl rfl⟩ (Fr.rfl.up (Or.inl ⟨rfl, rfl⟩)) (up2_hit rfl rfl)
        · have g2 := n0.2
          have g1 := n1.1
          have g3 := n1.2
          rw [e, bI_some, up2_up2]
          simp only []
          rw [if_neg (show ¬ nI ((b a2 - 48) * 10 + b (a2 + 1) - 48) = -nI 1 by rw [nI_nneg (by omega)]; exact id), rl2.1, rl2.2.1, ckI (by omega) (by omega), ckI (by omega) (by omega), nI_clamp (by omega), ok1 _ _ (by omega) (by split <;> trivial), bI_some]
          simp only []
          by_cases hin : lsN 2 it ≤ (b a2 - 48) * 10 + b (a2 + 1) - 48 ∧ (b a2 - 48) * 10 + b (a2 + 1) - 48 ≤ msN 2 it
          · rw [if_pos hin, if_neg m10, ckI (by omega) (by omega), nI_add]
            exact good _ _ (by omega) (by omega) hin.1 hin.2 (by rw [c3 n0 n1 n2, if_pos hin])
          · rw [if_neg hin, if_pos rfl, up2_hit rfl rfl, pk_sub (by omega), up2_up2, show a2 + 2 - 1 = a2 + 1 by omega, show nI 0 = (0 : Int32) from rfl, nz_0]
            exact bad (a2 + 1) _ (by omega) ⟨_, by rw [c3 n0 n1 n2, if_neg hin], mfr _ _, up2_hit rfl rfl⟩ (Fr.rfl.up (Or.inl ⟨rfl, rfl⟩)) (up2_hit rfl rfl)
        · have g1 := n2.1
          rw [e, bI_some, up2_up2]
          simp only []
          rw [if_pos trivial, show nI 0 = (0 : Int32) from rfl, nz_0]
          exact bad (a2 + 2) _ (by omega) ⟨_, c4 n0 n1 n2, mfr _ _, up2_hit rfl rfl⟩ (Fr.rfl.up (Or.inl ⟨rfl, rfl⟩)) (up2_hit rfl rfl)
    · have hlr : liR (li 2 (cu b L (sk b L a))) = -nI 1 := if_neg hli
      rw [hlr, if_pos (show -nI 1 < nI 0 by decide), if_pos rfl, show nI 1 = (1 : Int32) from rfl, nz_1]
      refine ⟨_, _, _, rfl, rfl, Fr.rfl.up (Or.inl ⟨rfl, rfl⟩), Fr.rfl, Or.inl ⟨rfl, fun k hk => ?_, hf, sk b L a, hge, hle, up2_hit rfl rfl, hT⟩⟩
      obtain ⟨w, w1, w2⟩ := rw0 k hk
      exact ⟨w, by rw [up2_o (by omega)]; exact w1, w2⟩
theorem ro3 : ∀ k, k < 3 → roV 7 k = nI (lsN 3 k) ∧ roV 8 k = nI (msN 3 k) := by decide +kernel
theorem rl3 : (roL 7).length = 3 ∧ (roL 8).length = 3 ∧ (sbs 3).length = 3 := by decide
set_option maxHeartbeats 4000000 in
theorem items3_ls (t : Txt b L) {o row : Nat} (ho : 4 ≤ o ∧ o ≤ 12) (hrow : row + 3 ≤ 3) : ∀ (n n' : Nat) (S T : St) (a : Nat) (m : Int32), PT b L S → S 3 1 = nI a → a ≤ L → PMt b L 0 0 T → T 0 10 = nI (sk b L a) → T 0 11 = -nI 1 → Rw 3 o 10 row S T → L < n + a → L < n' + a →
    ∃ r S' T', c_StreetReader_readItems_200p3_n3_300p7_300p8_h6 o n m (nI (cntB m 3)) S = some (r, S') ∧ m_readClause_h249 n' (nI 108) (nI row) 10 3 m (liR (li 3 (cu b L (sk b L a)))) T = some T' ∧ ItR b L 3 o 10 row a S T S' T' r := by
  have hL := t.1
  have hln : lenN 3 = 3 := rfl
  have hal : alen tpM 10 = 3 := rfl
  intro n
  induction n with
  | zero => intro n' S T a m _ _ ha; omega
  | succ n ih =>
    intro n' S T a m pt hS ha pm hT hf rw0 hn hn'
    obtain ⟨n', rfl⟩ : ∃ k, n' = k + 1 := ⟨n' - 1, by omega⟩
    have hge := sk_ge b L a
    have hle := sk_le b ha
    have hcu := cu_lt t (sk b L a)
    have hcnt := cntB_le m 3
    rw [c_StreetReader_readItems_200p3_n3_300p7_300p8_h6, strlen_eq (by rw [rl3.2.2]; omega), bI_some, m_readClause_h249]
    simp only [lits]
    rw [rl3.2.2, if_neg (show ¬ nI 3 < nI (cntB m 3) from nI_nlt hcnt (by omega)), next3_eq t pt ha hS, bI_some]
    simp only []
    rw [indexOf_eq (by omega) hcu, bI_some]
    simp only []
    by_cases hli : li 3 (cu b L (sk b L a)) < 99
    · obtain ⟨hl1, hl2⟩ := li_lt 3 (by omega) _ hcu hli
      rw [hln] at hl1
      have hlt : sk b L a < L := cu_pos (c := cu b L (sk b L a)) (by omega) rfl
      generalize hit : li 3 (cu b L (sk b L a)) = it at *
      have hlr : liR it = nI it := if_pos (by omega)
      rw [hlr, if_neg (show ¬ nI it < nI 0 by rw [nI_ltE (by omega) (by omega)]; omega), if_neg (show ¬ nI 3 ≤ nI it from nI_ge (by omega) (by omega)), if_neg (show ¬ nI 3 ≤ nI it from nI_ge (by omega) (by omega)), if_pos (show nI it < nI 3 from nI_lt (by omega) (by omega))]
      rw [if_neg (show ¬ nI it = -nI 1 by rw [nI_nneg (by omega)]; exact id), if_pos hf, has_eq, bI_some]
      simp only []
      by_cases hb : hasB m it
      · rw [if_pos (show (m >>> (nI it &&& 31)) &&& nI 1 = nI 1 from hb), if_pos hb, if_neg m10, fails_1 hf hT, bI_some]
        simp only []
        exact ⟨_, _, _, rfl, rfl, Fr.rfl.up (Or.inl ⟨rfl, rfl⟩), Fr.rfl.up (Or.inl ⟨rfl, Or.inr rfl⟩), Or.inr ⟨rfl, _, hle, up2_hit rfl rfl, up2_hit rfl rfl⟩⟩
      · rw [if_neg (show ¬ (m >>> (nI it &&& 31)) &&& nI 1 = nI 1 from hb), if_neg hb, if_pos rfl]
        have hcnt2 : cntB (m ||| (nI 1 <<< (nI it &&& 31))) 3 = cntB m 3 + 1 := by rw [cntB_or (by omega) hb _ (by omega), if_pos (by omega)]
        simp only [bnd_eq]
        rw [up2_hit rfl rfl, nI_add, up2_up2]
        have pt1 : PT b L (up2 S 3 1 (nI (sk b L a + 1))) := pt.fr (fun q j hq => up2_o (by omega))
        rw [next3_eq t pt1 (by omega) (up2_hit rfl rfl), bI_some, up2_up2]
        simp only []
        have hge2 := sk_ge b L (sk b L a + 1)
        have hle2 := sk_le b (show sk b L a + 1 ≤ L by omega)
        generalize ha2 : sk b L (sk b L a + 1) = a2 at *
        have pt2 : PT b L (up2 S 3 1 (nI a2)) := pt.fr (fun q j hq => up2_o (by omega))
        -- the reference's side
        have hls := lsN_le 3 it
        have hms := msN_le 3 it
        have hM : ∀ T1, m_readItem 10 (nI (row + it)) (nI (lsN 3 it)) (nI (msN 3 it)) T = some T1 → (if nI 108 = (108 : Int32) then (if nI it = nI 0 then (m_readClause_b311 (m_readClause_h249 n') (nI 108) (nI row) 10 3 (m ||| (nI 1 <<< (nI it &&& 31))) (nI it) (nI 1) (nI row + nI it) 10 T) else (m_readClause_b310 (m_readClause_h249 n') (nI 108) (nI row) 10 3 (m ||| (nI 1 <<< (nI it &&& 31))) (nI it) (nI row + nI it) 10 T)) else (m_readClause_b310 (m_readClause_h249 n') (nI 108) (nI row) 10 3 (m ||| (nI 1 <<< (nI it &&& 31))) (nI it) (nI row + nI it) 10 T)) = (if T1 0 11 = -nI 1 then bI (m_look T1) (fun x5 S4 => (bI (m_placeOf 3 x5 S4) (fun x7 S6 => (m_readClause_h249 n' (nI 108) (nI row) 10 3 (m ||| (nI 1 <<< (nI it &&& 31))) x7 S6)))) else m_readClause_h249 n' (nI 108) (nI row) 10 3 (m ||| (nI 1 <<< (nI it &&& 31))) (nI it) T1) := by
          intro T1 e
          have hk : ∀ k0 : Int32, k0 = nI (lsN 3 it) → m_readClause_b311 (m_readClause_h249 n') (nI 108) (nI row) 10 3 (m ||| (nI 1 <<< (nI it &&& 31))) (nI it) k0 (nI row + nI it) 10 T = (if T1 0 11 = -nI 1 then bI (m_look T1) (fun x5 S4 => (bI (m_placeOf 3 x5 S4) (fun x7 S6 => (m_readClause_h249 n' (nI 108) (nI row) 10 3 (m ||| (nI 1 <<< (nI it &&& 31))) x7 S6)))) else m_readClause_h249 n' (nI 108) (nI row) 10 3 (m ||| (nI 1 <<< (nI it &&& 31))) (nI it) T1) := by
            intro k0 hk0
            subst hk0
            unfold m_readClause_b311
            simp only [lits]
            have hmo := most_M 3 (by omega) it (by rw [hln]; exact hl1) T
            rw [show kindN 3 = 108 from rfl] at hmo
            rw [hmo, bI_some, nI_add]
            simp only []
            rw [e, bV_some]
          rw [if_pos (show nI 108 = (108 : Int32) from rfl)]
          by_cases h0 : it = 0
          · rw [if_pos (by rw [h0])]
            exact hk _ (by rw [h0]; rfl)
          · rw [if_neg (nI_nn h0 (by omega) (by omega))]
            unfold m_readClause_b310
            simp only [lits]
            exact hk _ (by unfold lsN; rw [if_neg (fun q => h0 q.2)])
        obtain ⟨c1, c2, c3, c4⟩ := item_M t (a := sk b L a) (a2 := a2) (q := 10) (ix := row + it) (l := lsN 3 it) (h := msN 3 it) pm hlt hT hf ha2 (by rw [hal]; omega) (by rw [hal]; omega) hls hms
        -- a wrong item
        have bad : ∀ (f : Nat) (S1 : St), f ≤ L → (∃ T1, m_readItem 10 (nI (row + it)) (nI (lsN 3 it)) (nI (msN 3 it)) T = some T1 ∧ Fr (mIt 10 row 3) T T1 ∧ T1 0 11 = nI f) → Fr (cIt o 3) S S1 → S1 3 1 = nI f → ∃ r S' T', some (nI 0, S1) = some (r, S') ∧ (if nI 108 = (108 : Int32) then (if nI it = nI 0 then (m_readClause_b311 (m_readClause_h249 n') (nI 108) (nI row) 10 3 (m ||| (nI 1 <<< (nI it &&& 31))) (nI it) (nI 1) (nI row + nI it) 10 T) else (m_readClause_b310 (m_readClause_h249 n') (nI 108) (nI row) 10 3 (m ||| (nI 1 <<< (nI it &&& 31))) (nI it) (nI row + nI it) 10 T)) else (m_readClause_b310 (m_readClause_h249 n') (nI 108) (nI row) 10 3 (m ||| (nI 1 <<< (nI it &&& 31))) (nI it) (nI row + nI it) 10 T)) = some T' ∧ ItR b L 3 o 10 row a S T S' T' r := by
          intro f S1 hfL ⟨T1, e, g1, g2⟩ g3 g4
          have hne : T1 0 11 ≠ -nI 1 := fl_ne g2 t hfL
          obtain ⟨n', rfl⟩ : ∃ k, n' = k + 1 := ⟨n' - 1, by omega⟩
          rw [hM T1 e, if_neg hne, m_readClause_h249]
          simp only [lits]
          rw [if_neg (show ¬ nI it = -nI 1 by rw [nI_nneg (by omega)]; exact id), if_neg hne]
          exact ⟨_, _, _, rfl, rfl, g3, g1, Or.inr ⟨rfl, f, hfL, g4, g2⟩⟩
        have mfr : ∀ (x y : Int32), Fr (mIt 10 row 3) T (up2 (up2 T 0 10 x) 0 11 y) := fun x y => (Fr.rfl.up (Or.inl ⟨rfl, Or.inl rfl⟩)).up (Or.inl ⟨rfl, Or.inr rfl⟩)
        -- a good item
        have good : ∀ (v a3 : Nat), a2 ≤ a3 → a3 ≤ L → lsN 3 it ≤ v → v ≤ msN 3 it → m_readItem 10 (nI (row + it)) (nI (lsN 3 it)) (nI (msN 3 it)) T = some (up2 (up2 T 0 10 (nI a3)) 10 (row + it) (nI v)) → ∃ r S' T', c_StreetReader_readItems_200p3_n3_300p7_300p8_h6 o n (m ||| (nI 1 <<< (nI it &&& 31))) (nI (cntB m 3 + 1)) (up2 (up2 S 3 1 (nI a3)) o it (nI v)) = some (r, S') ∧ (if nI 108 = (108 : Int32) then (if nI it = nI 0 then (m_readClause_b311 (m_readClause_h249 n') (nI 108) (nI row) 10 3 (m ||| (nI 1 <<< (nI it &&& 31))) (nI it) (nI 1) (nI row + nI it) 10 T) else (m_readClause_b310 (m_readClause_h249 n') (nI 108) (nI row) 10 3 (m ||| (nI 1 <<< (nI it &&& 31))) (nI it) (nI row + nI it) 10 T)) else (m_readClause_b310 (m_readClause_h249 n') (nI 108) (nI row) 10 3 (m ||| (nI 1 <<< (nI it &&& 31))) (nI it) (nI row + nI it) 10 T)) = some T' ∧ ItR b L 3 o 10 row a S T S' T' r := by
          intro v a3 h1 h2 h3 h4 e
          have pm1 : PMt b L 0 0 (up2 (up2 T 0 10 (nI a3)) 10 (row + it) (nI v)) := (pm.at (x := nI a3)).fr (fun q j hq => up2_n (by omega))
          have e10 : (up2 (up2 T 0 10 (nI a3)) 10 (row + it) (nI v)) 0 10 = nI a3 := (up2_o (by omega)).trans (up2_hit rfl rfl)
          have e11 : (up2 (up2 T 0 10 (nI a3)) 10 (row + it) (nI v)) 0 11 = -nI 1 := (up2_o (by omega)).trans ((up2_k (by omega)).trans hf)
          rw [hM _ e, if_pos e11, look_eq t pm1 h2 e10, bI_some]
          simp only []
          rw [placeOf_eq (by omega), bI_some, ← hcnt2]
          have pm2 := pm1.at (x := nI (sk b L a3))
          have pt3 : PT b L (up2 (up2 S 3 1 (nI a3)) o it (nI v)) := pt.fr (fun q j hq => by rw [up2_o (by omega), up2_o (by omega)])
          obtain ⟨r, S', T', e1, e2, f1, f2, g⟩ := ih n' _ _ a3 (m ||| (nI 1 <<< (nI it &&& 31))) pt3 ((up2_o (by omega)).trans (up2_hit rfl rfl)) h2 pm2 (up2_hit rfl rfl) ((up2_k (by omega)).trans e11) (fun k hk => by
            rw [hln] at hk
            by_cases hki : k = it
            · subst hki
              exact ⟨v, up2_hit rfl rfl, (up2_o (by omega)).trans (up2_hit rfl rfl), h3, h4⟩
            · obtain ⟨w, w1, w2, w3, w4⟩ := rw0 k (by rw [hln]; exact hk)
              exact ⟨w, by rw [up2_k hki, up2_o (by omega)]; exact w1, by rw [up2_o (by omega), up2_k (by omega), up2_o (by omega)]; exact w2, w3, w4⟩) (by omega) (by omega)
          refine ⟨r, S', T', e1, e2, ((Fr.rfl.up (Or.inl ⟨rfl, rfl⟩)).up (Or.inr ⟨rfl, by rw [hln]; exact hl1⟩)).tr f1, (((Fr.rfl.up (Or.inl ⟨rfl, Or.inl rfl⟩)).up (Or.inr ⟨rfl, by omega, by rw [hln]; omega⟩)).up (Or.inl ⟨rfl, Or.inl rfl⟩)).tr f2, ?_⟩
          rcases g with ⟨q1, q2, q3, a', q4, q5⟩ | g
          · exact Or.inl ⟨q1, q2, q3, a', by omega, q5⟩
          · exact Or.inr g
        obtain ⟨r1, r2⟩ := ro3 it hl1
        have ok1 : ∀ (v a3 : Nat), v ≤ 99 → (if lsN 3 it ≤ v ∧ v ≤ msN 3 it then True else True) → c_N_isWithin (nI v) (roV 7 it) (roV 8 it) (up2 S 3 1 (nI a3)) = some (if lsN 3 it ≤ v ∧ v ≤ msN 3 it then nI 1 else nI 0, up2 S 3 1 (nI a3)) := by
          intro v a3 hv _
          rw [r1, r2]
          exact withinC (by omega) (by omega) (by omega) _
        rcases num3 t pt2 (by omega) (up2_hit rfl rfl) with ⟨n0, e⟩ | ⟨n0, n1, e⟩ | ⟨n0, n1, n2, e⟩ | ⟨n0, n1, n2, e⟩
        · rw [e, bI_some]
          simp only []
          rw [if_pos trivial, show nI 0 = (0 : Int32) from rfl, nz_0]
          exact bad a2 _ (by omega) ⟨_, c1 n0, mfr _ _, up2_hit rfl rfl⟩ (Fr.rfl.up (Or.inl ⟨rfl, rfl⟩)) (up2_hit rfl rfl)
        · have g1 := n0.1
          have g2 := n0.2
          rw [e, bI_some, up2_up2]
          simp only []
          rw [if_neg (show ¬ nI (b a2 - 48) = -nI 1 by rw [nI_nneg (by omega)]; exact id), rl3.1, rl3.2.1, ckI (by omega) (by omega), ckI (by omega) (by omega), nI_clamp (by omega), ok1 _ _ (by omega) (by split <;> trivial), bI_some]
          simp only []
          by_cases hin : lsN 3 it ≤ b a2 - 48 ∧ b a2 - 48 ≤ msN 3 it
          · rw [if_pos hin, if_neg m10, ckI (by omega) (by omega), nI_add]
            exact good _ _ (by omega) (by omega) hin.1 hin.2 (by rw [c2 n0 n1, if_pos hin])
          · rw [if_neg hin, if_pos rfl, up2_hit rfl rfl, pk_sub (by omega), up2_up2, show a2 + 1 - 1 = a2 by omega, show nI 0 = (0 : Int32) from rfl, nz_0]
            exact bad a2 _ (by omega) ⟨_, by rw [c2 n0 n1, if_neg hin], mfr _ _, up2_hit rfl rfl⟩ (Fr.rfl.up (Or.inl ⟨rfl, rfl⟩)) (up2_hit rfl rfl)
        · have g2 := n0.2
          have g1 := n1.1
          have g3 := n1.2
          rw [e, bI_some, up2_up2]
          simp only []
          rw [if_neg (show ¬ nI ((b a2 - 48) * 10 + b (a2 + 1) - 48) = -nI 1 by rw [nI_nneg (by omega)]; exact id), rl3.1, rl3.2.1, ckI (by omega) (by omega), ckI (by omega) (by omega), nI_clamp (by omega), ok1 _ _ (by omega) (by split <;> trivial), bI_some]
          simp only []
          by_cases hin : lsN 3 it ≤ (b a2 - 48) * 10 + b (a2 + 1) - 48 ∧ (b a2 - 48) * 10 + b (a2 + 1) - 48 ≤ msN 3 it
          · rw [if_pos hin, if_neg m10, ckI (by omega) (by omega), nI_add]
            exact good _ _ (by omega) (by omega) hin.1 hin.2 (by rw [c3 n0 n1 n2, if_pos hin])
          · rw [if_neg hin, if_pos rfl, up2_hit rfl rfl, pk_sub (by omega), up2_up2, show a2 + 2 - 1 = a2 + 1 by omega, show nI 0 = (0 : Int32) from rfl, nz_0]
            exact bad (a2 + 1) _ (by omega) ⟨_, by rw [c3 n0 n1 n2, if_neg hin], mfr _ _, up2_hit rfl rfl⟩ (Fr.rfl.up (Or.inl ⟨rfl, rfl⟩)) (up2_hit rfl rfl)
        · have g1 := n2.1
          rw [e, bI_some, up2_up2]
          simp only []
          rw [if_pos trivial, show nI 0 = (0 : Int32) from rfl, nz_0]
          exact bad (a2 + 2) _ (by omega) ⟨_, c4 n0 n1 n2, mfr _ _, up2_hit rfl rfl⟩ (Fr.rfl.up (Or.inl ⟨rfl, rfl⟩)) (up2_hit rfl rfl)
    · have hlr : liR (li 3 (cu b L (sk b L a))) = -nI 1 := if_neg hli
      rw [hlr, if_pos (show -nI 1 < nI 0 by decide), if_pos rfl, show nI 1 = (1 : Int32) from rfl, nz_1]
      refine ⟨_, _, _, rfl, rfl, Fr.rfl.up (Or.inl ⟨rfl, rfl⟩), Fr.rfl, Or.inl ⟨rfl, fun k hk => ?_, hf, sk b L a, hge, hle, up2_hit rfl rfl, hT⟩⟩
      obtain ⟨w, w1, w2⟩ := rw0 k hk
      exact ⟨w, by rw [up2_o (by omega)]; exact w1, w2⟩
end ITEMS
