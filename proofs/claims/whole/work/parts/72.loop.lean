theorem and31 (x : Int32) : ∃ c : Nat, c < 32 ∧ x &&& 31 = nI c := by
  refine ⟨(x &&& 31).toBitVec.toNat, ?_, ?_⟩
  · rw [Int32.toBitVec_and, BitVec.toNat_and]
    exact Nat.lt_of_le_of_lt Nat.and_le_right (by decide)
  · apply Int32.toBitVec_inj.mp
    show (x &&& 31).toBitVec = BitVec.ofNat 32 _
    rw [BitVec.ofNat_toNat]
    simp
theorem sub6 {L : Nat} (hL : L ≤ 3072) : (nI L - 6).toInt = (L : Int) - 6 := by
  rw [Int32.toInt_sub, nI_toInt (by omega), show (6 : Int32).toInt = 6 from rfl]
  exact Int.bmod_eq_of_le (by omega) (by omega)
section LOOP
variable {p : Program} {l : Launch} {e : Env} {s : State} {m : MethodId} {below : List Frame} {meth : Method} {c : Code} {b L : Nat} {xs : Nat → Int32} {D : va_G} {ca : Nat → ClassId} {cJ : ClassId} {aC aM : Nat → Nat} {k n : Nat} {S T : St} {F : (Nat → Int64) → Prop} {ls : List (Nat × Value)} {pc : Nat} {st : List Value}
theorem L_tsw (h : LX p l s m meth c b L xs D ca cJ aC aM) {x : Int32} (kc : Int32) {dflt lo hi : Int} {offs : Array Int} {len : Nat} {off : Int} (tgt : Nat) (hd : decode cL_law pc = .ok (.tableswitch dflt lo hi offs, len)) (hx : x = kc) (h1 : ¬ kc.toInt < lo) (h2 : ¬ hi < kc.toInt) (ho : offs[(kc.toInt - lo).toNat]? = some off) (ht : (pc : Int) + off = (tgt : Int)) (kk : LV p l e s m below meth c b D ca cJ aC aM k n S T F ls tgt st) : LV p l e s m below meth c b D ca cJ aC aM k n S T F ls pc (.int x :: st) := fun f H locs lsA hf hw hs hl => by
  subst hx
  exact lv_tableIn h.1.1 h.1.2.1 hd h1 h2 ho ht (kk f H locs lsA hf hw hs hl)
theorem L_tswD (h : LX p l s m meth c b L xs D ca cJ aC aM) {x : Int32} {dflt lo hi : Int} {offs : Array Int} {len : Nat} (tgt : Nat) (hd : decode cL_law pc = .ok (.tableswitch dflt lo hi offs, len)) (hx : x.toInt < lo ∨ hi < x.toInt) (ht : (pc : Int) + dflt = (tgt : Int)) (kk : LV p l e s m below meth c b D ca cJ aC aM k n S T F ls tgt st) : LV p l e s m below meth c b D ca cJ aC aM k n S T F ls pc (.int x :: st) := fun f H locs lsA hf hw hs hl => lv_tableOut h.1.1 h.1.2.1 hd hx ht (kk f H locs lsA hf hw hs hl)
set_option maxHeartbeats 4000000 in
/-- one turn of the loop, from the switch on -/
theorem law_turn (h : LX p l s m meth c b L xs D ca cJ aC aM) {i : Nat} (hi : i + 6 ≤ L) (hL : L ≤ 3072) (hk : k ≤ 590000) (hk2 : n ≤ 6900000) (hR : Rel S T) (J : LJ p l e s m below meth c b D ca cJ aC aM (k + 1) (n + 6) i) : LV p l e s m below meth c b D ca cJ aC aM k n S T (fun _ => True) (lls b aC aM s.heap.size i) 40 [.int (xs i &&& 31)] := by
  obtain ⟨c9, hc9, e9⟩ := and31 (xs i)
  rw [e9]
  rcases (show c9 = 0 ∨ c9 = 1 ∨ c9 = 2 ∨ c9 = 3 ∨ c9 = 4 ∨ c9 = 5 ∨ c9 = 6 ∨ c9 = 7 ∨ c9 = 8 ∨ c9 = 9 ∨ c9 = 10 ∨ c9 = 11 ∨ c9 = 12 ∨ c9 = 13 ∨ c9 = 14 ∨ c9 = 15 ∨ c9 = 16 ∨ c9 = 17 ∨ c9 = 18 ∨ c9 = 19 ∨ c9 = 20 ∨ c9 = 21 ∨ c9 = 22 ∨ c9 = 23 ∨ c9 = 24 ∨ c9 = 25 ∨ c9 = 26 ∨ c9 = 27 ∨ c9 = 28 ∨ c9 = 29 ∨ c9 = 30 ∨ c9 = 31 by omega) with rfl | rfl | rfl | rfl | rfl | rfl | rfl | rfl | rfl | rfl | rfl | rfl | rfl | rfl | rfl | rfl | rfl | rfl | rfl | rfl | rfl | rfl | rfl | rfl | rfl | rfl | rfl | rfl | rfl | rfl | rfl | rfl
  · exact L_tsw (pc := 40) h (nI 0) 180 dL_law_40 rfl (by decide) (by decide) rfl (by decide) (law_c0 h hi hL hk hk2 hR J)
  · exact L_tsw (pc := 40) h (nI 1) 253 dL_law_40 rfl (by decide) (by decide) rfl (by decide) (law_c1 h hi hL hk hk2 hR J)
  · exact L_tsw (pc := 40) h (nI 2) 278 dL_law_40 rfl (by decide) (by decide) rfl (by decide) (law_c2 h hi hL hk hk2 hR J)
  · exact L_tsw (pc := 40) h (nI 3) 303 dL_law_40 rfl (by decide) (by decide) rfl (by decide) (law_c3 h hi hL hk hk2 hR J)
  · exact L_tsw (pc := 40) h (nI 4) 328 dL_law_40 rfl (by decide) (by decide) rfl (by decide) (law_c4 h hi hL hk hk2 hR J)
  · exact L_tsw (pc := 40) h (nI 5) 396 dL_law_40 rfl (by decide) (by decide) rfl (by decide) (law_c5 h hi hL hk hk2 hR J)
  · exact L_tsw (pc := 40) h (nI 6) 421 dL_law_40 rfl (by decide) (by decide) rfl (by decide) (law_c6 h hi hL hk hk2 hR J)
  · exact L_tsw (pc := 40) h (nI 7) 446 dL_law_40 rfl (by decide) (by decide) rfl (by decide) (law_c7 h hi hL hk hk2 hR J)
  · exact L_tsw (pc := 40) h (nI 8) 483 dL_law_40 rfl (by decide) (by decide) rfl (by decide) (law_c8 h hi hL hk hk2 hR J)
  · exact L_tsw (pc := 40) h (nI 9) 532 dL_law_40 rfl (by decide) (by decide) rfl (by decide) (law_c9 h hi hL hk hk2 hR J)
  · exact L_tsw (pc := 40) h (nI 10) 557 dL_law_40 rfl (by decide) (by decide) rfl (by decide) (law_c10 h hi hL hk hk2 hR J)
  · exact L_tsw (pc := 40) h (nI 11) 594 dL_law_40 rfl (by decide) (by decide) rfl (by decide) (law_c11 h hi hL hk hk2 hR J)
  · exact L_tsw (pc := 40) h (nI 12) 619 dL_law_40 rfl (by decide) (by decide) rfl (by decide) (law_c12 h hi hL hk hk2 hR J)
  · exact L_tsw (pc := 40) h (nI 13) 632 dL_law_40 rfl (by decide) (by decide) rfl (by decide) (law_c13 h hi hL hk hk2 hR J)
  · exact L_tsw (pc := 40) h (nI 14) 657 dL_law_40 rfl (by decide) (by decide) rfl (by decide) (law_c14 h hi hL hk hk2 hR J)
  · exact L_tsw (pc := 40) h (nI 15) 670 dL_law_40 rfl (by decide) (by decide) rfl (by decide) (law_c15 h hi hL hk hk2 hR J)
  · exact L_tsw (pc := 40) h (nI 16) 695 dL_law_40 rfl (by decide) (by decide) rfl (by decide) (law_c16 h hi hL hk hk2 hR J)
  · exact L_tsw (pc := 40) h (nI 17) 732 dL_law_40 rfl (by decide) (by decide) rfl (by decide) (law_c17 h hi hL hk hk2 hR J)
  · exact L_tsw (pc := 40) h (nI 18) 769 dL_law_40 rfl (by decide) (by decide) rfl (by decide) (law_c18 h hi hL hk hk2 hR J)
  · exact L_tsw (pc := 40) h (nI 19) 818 dL_law_40 rfl (by decide) (by decide) rfl (by decide) (law_c19 h hi hL hk hk2 hR J)
  · exact L_tsw (pc := 40) h (nI 20) 855 dL_law_40 rfl (by decide) (by decide) rfl (by decide) (law_c20 h hi hL hk hk2 hR J)
  · exact L_tsw (pc := 40) h (nI 21) 904 dL_law_40 rfl (by decide) (by decide) rfl (by decide) (law_c21 h hi hL hk hk2 hR J)
  · exact L_tsw (pc := 40) h (nI 22) 953 dL_law_40 rfl (by decide) (by decide) rfl (by decide) (law_c22 h hi hL hk hk2 hR J)
  · exact L_tsw (pc := 40) h (nI 23) 1002 dL_law_40 rfl (by decide) (by decide) rfl (by decide) (law_c23 h hi hL hk hk2 hR J)
  · exact L_tsw (pc := 40) h (nI 24) 1051 dL_law_40 rfl (by decide) (by decide) rfl (by decide) (law_c24 h hi hL hk hk2 hR J)
  · exact L_tsw (pc := 40) h (nI 25) 1076 dL_law_40 rfl (by decide) (by decide) rfl (by decide) (law_c25 h hi hL hk hk2 hR J)
  · exact L_tsw (pc := 40) h (nI 26) 1101 dL_law_40 rfl (by decide) (by decide) rfl (by decide) (law_c26 h hi hL hk hk2 hR J)
  · exact L_tsw (pc := 40) h (nI 27) 1114 dL_law_40 rfl (by decide) (by decide) rfl (by decide) (law_c27 h hi hL hk hk2 hR J)
  · exact L_tsw (pc := 40) h (nI 28) 1183 dL_law_40 rfl (by decide) (by decide) rfl (by decide) (law_c28 h hi hL hk hk2 hR J)
  · exact L_tsw (pc := 40) h (nI 29) 1196 dL_law_40 rfl (by decide) (by decide) rfl (by decide) (law_c29 h hi hL hk hk2 hR J)
  · exact L_tsw (pc := 40) h (nI 30) 1209 dL_law_40 rfl (by decide) (by decide) rfl (by decide) (law_c30 h hi hL hk hk2 hR J)
  · exact L_tswD (pc := 40) h 1234 dL_law_40 (Or.inr (by decide)) (by decide) (LV_widen (Nat.le_succ k) (Nat.le_add_right n 6) (J S T hR))
set_option maxHeartbeats 4000000 in
theorem law_loop (h : LX p l s m meth c b L xs D ca cJ aC aM) (hL : L ≤ 3072) : ∀ (fu t : Nat), L + 6 ≤ 6 * t + 6 * fu → 6 * t ≤ L → ∀ S T : St, Rel S T → LV p l e s m below meth c b D ca cJ aC aM (162 + t) (5527 + 6 * t) S T (fun _ => True) (lls b aC aM s.heap.size (6 * t)) 23 [] := by
  intro fu
  induction fu with
  | zero => intro t h1 h2; omega
  | succ fu ih =>
    intro t h1 h2 S T hR f H locs lsA hf hw hs hl
    refine lv_iload (pc := 23) h.1.1 h.1.2.1 dL_law_23 (lv_at hl 4 rfl) ?_
    refine lv_aload_n (pc := 25) h.1.1 h.1.2.1 dL_law_25 rfl (lv_at hl 0 rfl) ?_
    refine va_slen (pc := 26) h.1.1 h.1.2.1 h.2.2.1.1 h.2.2.1.2 h.bA hs dL_law_26 ?_
    refine lv_bipush (pc := 27) (v := 6) h.1.1 h.1.2.1 dL_law_27 (by decide) ?_
    refine lv_isub (pc := 29) h.1.1 h.1.2.1 dL_law_29 ?_
    refine lv_icmp_gt (pc := 30) (tgt := 1240) h.1.1 h.1.2.1 dL_law_30 (by decide) (fun c9 => ?_) (fun c9 => ?_)
    · refine lv_iconst (pc := 1240) (v := 1) h.1.1 h.1.2.1 dL_law_1240 (by decide) ?_
      refine va_forget (fun q hq => hs.2.2 q hq) ?_
      refine W.widen (k := 601024) (n := 7293034) (by omega) (by omega) ?_
      exact lw_ret h.1.1 h.1.2.1 h.2.2.2.1.2.1 h.2.2.2.1.1 dL_law_1241
    · have hi : 6 * t + 6 ≤ L := by
        rcases Nat.lt_or_ge L (6 * t + 6) with q | q
        · exfalso
          apply c9
          show nI L - 6 < nI (6 * t)
          rw [Int32.lt_iff_toInt_lt, sub6 hL, nI_toInt (by omega)]
          omega
        · exact q
      refine lv_aload_n (pc := 33) h.1.1 h.1.2.1 dL_law_33 rfl (lv_at hl 0 rfl) ?_
      refine lv_iload (pc := 34) h.1.1 h.1.2.1 dL_law_34 (lv_at hl 4 rfl) ?_
      refine va_sld (pc := 36) h.1.1 h.1.2.1 h.2.2.1.1 h.2.2.1.2 h.bA hs (vp_in_nI (show 6 * t < L by omega) (by omega)) dL_law_36 ?_
      rw [nI_clamp (show 6 * t < 2 ^ 31 by omega)]
      refine lv_bipush (pc := 37) (v := 31) h.1.1 h.1.2.1 dL_law_37 (by decide) ?_
      refine lv_iand (pc := 39) h.1.1 h.1.2.1 dL_law_39 ?_
      refine law_turn h hi hL (by omega) (by omega) hR (fun S' T' hR' => ?_) f H locs lsA hf hw hs hl
      intro f2 H2 locs2 ls2 hf2 hw2 hs2 hl2
      refine lv_iinc (pc := 1234) (v := nI (6 * t + 6)) (lv' := [(4, .int (nI (6 * t + 6))), (0, .ref b), (1, .ref (aC 0)), (2, .ref (aM 0)), (3, .ref (s.heap.size + 161))]) h.1.1 h.1.2.1 dL_law_1234 hl2 (k := 4) rfl (by rw [← nI_add]; rfl) (by decide) rfl (fun ls3 hl3 => ?_)
      refine lv_goto (pc := 1237) (tgt := 23) h.1.1 h.1.2.1 dL_law_1237 (by decide) ?_
      refine W.widen (k := 162 + (t + 1)) (n := 5527 + 6 * (t + 1)) (by omega) (by omega) ?_
      exact ih (t + 1) (by omega) (by omega) S' T' hR' f2 H2 locs2 ls3 trivial hw2 hs2 (lv_sub hl3 [1, 2, 3, 4, 0] rfl)
end LOOP
