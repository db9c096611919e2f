/-! folds over places and houses; pots by what is ahead -/
def foP (op : Int32 → Int32 → Int32) (e : Int32) (g : Nat → Int32) : Nat → Int32
  | 0 => e
  | k + 1 => op (foP op e g k) (g k)
theorem foP_cg {op : Int32 → Int32 → Int32} {e : Int32} {g g' : Nat → Int32} : ∀ n, (∀ k, k < n → g k = g' k) → foP op e g n = foP op e g' n
  | 0, _ => rfl
  | n + 1, h => by
    show op (foP op e g n) (g n) = op (foP op e g' n) (g' n)
    rw [foP_cg n (fun k hk => h k (by omega)), h n (by omega)]
theorem foP_sw {op : Int32 → Int32 → Int32} {e : Int32} (rc : ∀ a b c, op (op a b) c = op (op a c) b) (g : Nat → Int32) (p0 : Nat) (x : Int32) : ∀ n, p0 < n → op (foP op e g n) x = op (foP op e (fun k => if k = p0 then x else g k) n) (g p0)
  | 0, h => by omega
  | n + 1, h => by
    by_cases c : p0 = n
    · subst c
      show op (op (foP op e g p0) (g p0)) x = op (op (foP op e (fun k => if k = p0 then x else g k) p0) (if p0 = p0 then x else g p0)) (g p0)
      rw [if_pos rfl, rc, foP_cg (g' := fun k => if k = p0 then x else g k) p0 (fun k hk => (if_neg (by omega)).symm)]
    · have ih := foP_sw (e := e) rc g p0 x n (by omega)
      show op (op (foP op e g n) (g n)) x = op (op (foP op e (fun k => if k = p0 then x else g k) n) (if n = p0 then x else g n)) (g p0)
      rw [if_neg (by omega), rc, ih, rc]
theorem foP_pm {op : Int32 → Int32 → Int32} {e : Int32} (rc : ∀ a b c, op (op a b) c = op (op a c) b) (g : Nat → Int32) : ∀ (n : Nat) (f : Nat → Nat), (∀ p, p < n → f p < n) → (∀ p q, p < n → q < n → f p = f q → p = q) → foP op e (fun p => g (f p)) n = foP op e g n
  | 0, _, _, _ => rfl
  | n + 1, f, h1, h2 => by
    obtain ⟨p0, hp, e0⟩ := inj_sur h1 h2 (show n < n + 1 by omega)
    have key : foP op e (fun p => g (f p)) (n + 1) = op (foP op e (fun p => g ((fun p => if p = p0 then f n else f p) p)) n) (g n) := by
      show op (foP op e (fun p => g (f p)) n) (g (f n)) = _
      by_cases c : p0 = n
      · subst c
        rw [foP_cg (g := fun p => g (f p)) (g' := fun p => g ((fun p => if p = p0 then f p0 else f p) p)) p0 (fun k hk => by
          show g (f k) = g (if k = p0 then f p0 else f k)
          rw [if_neg (by omega)]), e0]
      · rw [foP_sw rc (fun p => g (f p)) p0 (g (f n)) n (by omega)]
        show op _ (g (f p0)) = _
        rw [e0]
        congr 1
        exact foP_cg _ (fun k hk => by
          show (if k = p0 then g (f n) else g (f k)) = g (if k = p0 then f n else f k)
          by_cases ek : k = p0
          · rw [if_pos ek, if_pos ek]
          · rw [if_neg ek, if_neg ek])
    rw [key]
    show _ = op (foP op e g n) (g n)
    congr 1
    refine foP_pm rc g n (fun p => if p = p0 then f n else f p) (fun p hp' => ?_) (fun p q hp' hq' e' => ?_)
    · show (if p = p0 then f n else f p) < n
      by_cases c : p = p0
      · rw [if_pos c]
        have a1 := h1 n (by omega)
        have : f n ≠ n := fun e3 => by
          have := h2 n p0 (by omega) (by omega) (e3.trans e0.symm)
          omega
        omega
      · rw [if_neg c]
        have a1 := h1 p (by omega)
        have : f p ≠ n := fun e3 => c (h2 p p0 (by omega) (by omega) (e3.trans e0.symm))
        omega
    · have e2 : (if p = p0 then f n else f p) = (if q = p0 then f n else f q) := e'
      by_cases c : p = p0
      · rw [if_pos c] at e2
        by_cases d : q = p0
        · omega
        · rw [if_neg d] at e2
          have := h2 n q (by omega) (by omega) e2
          omega
      · rw [if_neg c] at e2
        by_cases d : q = p0
        · rw [if_pos d] at e2
          have := h2 p n (by omega) (by omega) e2
          omega
        · rw [if_neg d] at e2
          exact h2 p q (by omega) (by omega) e2
theorem add_rc (a b c : Int32) : a + b + c = a + c + b := by
  rw [Int32.add_assoc, Int32.add_comm b c, ← Int32.add_assoc]
theorem imin_toInt (x y : Int32) : (imin x y).toInt = min x.toInt y.toInt := by
  unfold imin
  by_cases c : y < x
  · rw [if_pos c]
    have := Int32.lt_iff_toInt_lt.mp c
    omega
  · rw [if_neg c]
    rw [Int32.lt_iff_toInt_lt] at c
    omega
theorem imin_rc (a b c : Int32) : imin (imin a b) c = imin (imin a c) b := by
  apply Int32.toInt_inj.mp
  rw [imin_toInt, imin_toInt, imin_toInt, imin_toInt]
  omega
def wop (b : Nat) : Int32 → Int32 → Int32 := fun x y => if b = 0 then x + y else imin x y
def we (b : Nat) : Int32 := if b = 0 then nI 0 else nI 2147483647
theorem wop_rc (b : Nat) (x y z : Int32) : wop b (wop b x y) z = wop b (wop b x z) y := by
  unfold wop
  by_cases c : b = 0
  · simp only [if_pos c]; exact add_rc x y z
  · simp only [if_neg c]; exact imin_rc x y z
theorem allE_fo {E : Ev} {X : Cf} {b : Nat} : allE E X b = foP (wop b) (we b) (mealH E X) (X 0 0) := by
  unfold allE
  by_cases c : b = 0
  · rw [if_pos c]
    have key : ∀ n, smM E X n = foP (wop b) (we b) (mealH E X) n := by
      intro n
      induction n with
      | zero =>
        show nI 0 = we b
        unfold we
        rw [if_pos c]
      | succ n ih =>
        show smM E X n + mealH E X n = wop b (foP (wop b) (we b) (mealH E X) n) (mealH E X n)
        rw [ih]
        unfold wop
        simp only [if_pos c]
    exact key _
  · rw [if_neg c]
    have key : ∀ n, mnM E X n = foP (wop b) (we b) (mealH E X) n := by
      intro n
      induction n with
      | zero =>
        show nI 2147483647 = we b
        unfold we
        rw [if_neg c]
      | succ n ih =>
        show imin (mnM E X n) (mealH E X n) = wop b (foP (wop b) (we b) (mealH E X) n) (mealH E X n)
        rw [ih]
        unfold wop
        simp only [if_neg c]
    exact key _
/-- the meal at a place -/
def mlP (E : Ev) (X : Cf) (p : Nat) : Int32 := E (ltr X (gtP X p) p (X 6 p))
theorem mlP_H {E : Ev} {X : Cf} (iv : Iv X) {p : Nat} (hp : p < X 0 0) : mealH E X (X 6 p) = mlP E X p := by
  unfold mealH mlP
  rw [plc_line iv hp]
theorem allE_pl {E : Ev} {X : Cf} (iv : Iv X) {b : Nat} : allE E X b = foP (wop b) (we b) (mlP E X) (X 0 0) := by
  rw [allE_fo, ← foP_pm (wop_rc b) (mealH E X) (X 0 0) (X 6) iv.2.2.2.2.2.2.2.2.2.1 iv.2.2.2.2.2.2.2.2.2.2]
  exact foP_cg _ (fun k hk => mlP_H iv hk)
/-- configurations alike for the places ahead of pl -/
def Lo (X Y : Cf) (pl : Nat) : Prop := (∀ q j, q ≠ 6 → q ≠ 7 → Y q j = X q j) ∧ ∀ j, j < pl → Y 6 j = X 6 j ∧ Y 7 (X 6 j) = X 7 (X 6 j)
theorem Lo.le {X Y : Cf} {pl pl' : Nat} (h : Lo X Y pl) (hl : pl' ≤ pl) : Lo X Y pl' := ⟨h.1, fun j hj => h.2 j (by omega)⟩
theorem dP_lo {X Y : Cf} {h : Nat} (he : ∀ q j, q ≠ 6 → q ≠ 7 → Y q j = X q j) (h7 : Y 7 h = X 7 h) : dP Y h ↔ dP X h := by
  unfold dP
  rw [h7, he 0 1 (by omega) (by omega), he (10 + h) (X 7 h) (by omega) (by omega)]
theorem stQ_lo {X Y : Cf} (he : ∀ q j, q ≠ 6 → q ≠ 7 → Y q j = X q j) (pl : Nat) (p : Nat → Nat) : stQ Y pl p = stQ X pl p := by
  funext s
  unfold stQ
  rw [he 0 7 (by omega) (by omega), he 0 8 (by omega) (by omega)]
theorem lad_lo {X Y : Cf} (he : ∀ q j, q ≠ 6 → q ≠ 7 → Y q j = X q j) (pl h : Nat) : ladOf Y pl h = ladOf X pl h := by
  unfold ladOf
  rw [he 0 0 (by omega) (by omega), he 2 h (by omega) (by omega)]
theorem ad1_lo {X Y : Cf} (he : ∀ q j, q ≠ 6 → q ≠ 7 → Y q j = X q j) {h : Nat} (h7 : Y 7 h = X 7 h) (s : Nat) : ad1 Y h s = ad1 X h s := by
  unfold ad1
  by_cases c : dP X h ∧ s = X 7 h
  · rw [if_pos c, if_pos ⟨(dP_lo he h7).mpr c.1, by rw [h7]; exact c.2⟩, he 0 1 (by omega) (by omega)]
  · rw [if_neg c, if_neg (fun d => c ⟨(dP_lo he h7).mp d.1, by rw [← h7]; exact d.2⟩)]
theorem ad2_lo {X Y : Cf} (he : ∀ q j, q ≠ 6 → q ≠ 7 → Y q j = X q j) (h s : Nat) : ad2 Y h s = ad2 X h s := by
  unfold ad2
  rw [he 0 5 (by omega) (by omega), he 0 6 (by omega) (by omega)]
theorem ptS_lo {X Y : Cf} : ∀ pl, Lo X Y pl → ptS Y pl = ptS X pl
  | 0, h => by
    funext s
    show pt0 Y s = pt0 X s
    unfold pt0
    rw [h.1 0 4 (by omega) (by omega), h.1 1 s (by omega) (by omega)]
  | pl + 1, h => by
    have ih := ptS_lo pl (h.le (by omega))
    obtain ⟨e6, e7⟩ := h.2 pl (by omega)
    funext s
    show stQ Y pl (ptS Y pl) s - tk (stQ Y pl (ptS Y pl)) (ladOf Y pl (Y 6 pl)) s + ad1 Y (Y 6 pl) s + ad2 Y (Y 6 pl) s = stQ X pl (ptS X pl) s - tk (stQ X pl (ptS X pl)) (ladOf X pl (X 6 pl)) s + ad1 X (X 6 pl) s + ad2 X (X 6 pl) s
    rw [ih, stQ_lo h.1, e6, lad_lo h.1, ad1_lo h.1 e7, ad2_lo h.1]
theorem gtP_lo {X Y : Cf} {pl : Nat} (h : Lo X Y pl) (h6 : Y 6 pl = X 6 pl) : gtP Y pl = gtP X pl := by
  funext s
  unfold gtP ptQ
  rw [ptS_lo pl h, stQ_lo h.1, h6, lad_lo h.1]
theorem ltr_lo {X Y : Cf} (he : ∀ q j, q ≠ 6 → q ≠ 7 → Y q j = X q j) (p : Nat → Nat) (pl h : Nat) : ltr Y p pl h = ltr X p pl h := by
  funext k
  match k with
  | 0 => show p (Y 3 h) = _; rw [he 3 h (by omega) (by omega)]; rfl
  | 1 => show (if Y 4 h < 5 then p (Y 4 h) else 0) = _; rw [he 4 h (by omega) (by omega)]; rfl
  | 2 => rfl
  | 3 => show 100 - Y 0 3 * pl = _; rw [he 0 3 (by omega) (by omega)]; rfl
  | 4 => rfl
  | _ + 5 => show Y 0 4 = _; rw [he 0 4 (by omega) (by omega)]; rfl
theorem mlP_lo {E : Ev} {X Y : Cf} {pl : Nat} (h : Lo X Y pl) (h6 : Y 6 pl = X 6 pl) : mlP E Y pl = mlP E X pl := by
  unfold mlP
  rw [gtP_lo h h6, ltr_lo h.1, h6]
theorem ah_lo {X Y : Cf} : ∀ pl, Lo X Y pl → ah Y pl = ah X pl
  | 0, _ => rfl
  | pl + 1, h => by
    have ih := ah_lo pl (h.le (by omega))
    obtain ⟨e6, e7⟩ := h.2 pl (by omega)
    show (if dP Y (Y 6 pl) then ah Y pl ||| (nI 1 <<< (nI (Y 7 (Y 6 pl)) &&& 31)) else ah Y pl) = (if dP X (X 6 pl) then ah X pl ||| (nI 1 <<< (nI (X 7 (X 6 pl)) &&& 31)) else ah X pl)
    rw [ih, e6]
    by_cases c : dP X (X 6 pl)
    · rw [if_pos c, if_pos ((dP_lo h.1 e7).mpr c), e7]
    · rw [if_neg c, if_neg (fun d => c ((dP_lo h.1 e7).mp d))]
/-- the pot behind a place, with neither poison nor stranger -/
theorem ptS_next {X : Cf} (pl : Pl X) {p : Nat} (hp : p ≠ 99) (h6 : X 6 p ≠ 99) (s : Nat) : ptS X (p + 1) s = ptS X p s - tk (ptS X p) (ladOf X p (X 6 p)) s + ad1 X (X 6 p) s := by
  have e1 : stQ X p (ptS X p) = ptS X p := by
    funext s
    unfold stQ
    rw [if_neg (by rw [pl.2]; exact hp)]
  have e2 : ad2 X (X 6 p) s = 0 := by
    unfold ad2
    rw [if_neg (fun e => h6 (e.1.trans pl.1))]
  show stQ X p (ptS X p) s - tk (stQ X p (ptS X p)) (ladOf X p (X 6 p)) s + ad1 X (X 6 p) s + ad2 X (X 6 p) s = _
  rw [e1, e2]
  omega
theorem gtP_pl {X : Cf} (pl : Pl X) {p : Nat} (hp : p ≠ 99) : gtP X p = tk (ptS X p) (ladOf X p (X 6 p)) := by
  funext s
  unfold gtP ptQ
  have e1 : stQ X p (ptS X p) = ptS X p := by
    funext s
    unfold stQ
    rw [if_neg (by rw [pl.2]; exact hp)]
  rw [e1]
