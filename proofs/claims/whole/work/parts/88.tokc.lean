/-! The class's TOKENS. -/
def tkP (b j : Nat) : Prop := b = 2 ∧ 4 ≤ j ∧ j ≤ 9
def TxC (m : zM) (f : Nat → Nat) (n : Nat) : Prop := TpS m ∧ zi m 2 3 = (n : Int) ∧ TxF f n ∧ (∀ i, i < n → zand (zi m 3 i) 255 = ((f i : Nat) : Int)) ∧ ∀ i, i < 24 → zl m 4 i = zKey.getD i 0
def TkC (m : zM) (T : zTok) : Prop := zi m 2 6 = (T.1 : Int) ∧ zi m 2 4 = (T.2.1 : Int) ∧ zi m 2 5 = (T.2.2.1 : Int) ∧ zl m 2 8 = (T.2.2.2.1 : Int) ∧ zi m 2 7 = kwI T.2.2.2.1 ∧ zi m 2 9 = (T.2.2.2.2 : Int)
theorem zi_wi_o (m : zM) {a b k j : Nat} (x : Int) (h : b ≠ a ∨ j ≠ k) : zi (zwi m a k x) b j = zi m b j := zi_wi_n m x h
section TOKC
variable {v : Nat} {m m' : zM} {f : Nat → Nat} {n : Nat}
theorem Fr.tpS {P : Nat → Nat → Prop} (h : Fr P m m') (hs : TpS m) : TpS m' := by
  unfold TpS at hs ⊢
  rw [h.T, h.r]
  exact ⟨hs.1, hs.2.1, h.Ar hs.2.2.1, h.Ar hs.2.2.2⟩
theorem TxC.fr {P : Nat → Nat → Prop} (hx : TxC m f n) (h : Fr P m m') (h1 : ¬ P 2 3) (h2 : ∀ j, ¬ P 3 j) (h3 : ∀ j, ¬ P 4 j) : TxC m' f n := by
  obtain ⟨a1, a2, a3, a4, a5⟩ := hx
  exact ⟨h.tpS a1, by rw [h.i h1]; exact a2, a3, fun i hi => by rw [h.i (h2 i)]; exact a4 i hi, fun i hi => by rw [h.l (h3 i)]; exact a5 i hi⟩
theorem TxC.tk (hx : TxC m f n) (h : Fr tkP m m') : TxC m' f n := hx.fr h (by unfold tkP; omega) (fun j => by unfold tkP; omega) (fun j => by unfold tkP; omega)
theorem TxC.t2 (hx : TxC m f n) : zT m 2 3 = true := hx.1.1
theorem c_byteAt (hx : TxC m f n) (i : Nat) (hi : i < 1000000) : zF zP 99 v [(.inr (.inr (some 2))), .inl (i : Int)] m = some (some (.inl ((f i : Nat) : Int)), m) := by
  obtain ⟨⟨h1, ⟨r0, r1⟩, k3, k4⟩, h2, h3, h4, h5⟩ := hx
  have n9 := h3.1
  rw [f_X6_byteAt, if_neg (by omega), if_pos h1, r0, obind, if_pos (k3.Y (by decide)), k3.L, if_pos h1, h2]
  by_cases q : i < n
  · rw [if_pos (by omega), if_pos (by omega), if_pos h1, obind, if_pos (k3.A (by omega) (by omega)), Int.toNat_natCast, h4 i q, j_X6_byteAt_35]
  · rw [h3.2.2 i (by omega)]
    by_cases q2 : i < 900
    · rw [if_pos (by omega), if_neg (by omega), j_X6_byteAt_34, j_X6_byteAt_35]; rfl
    · rw [if_neg (by omega), j_X6_byteAt_34, j_X6_byteAt_35]; rfl
theorem c_isBlank (x : Nat) : zF zP 100 v [.inl (x : Int)] m = some (some (.inl (b01 (blk x))), m) := by
  rw [f_X6_isBlank]
  unfold blk
  by_cases h : x = 10
  · rw [if_pos (by omega), j_X6_isBlank_12, j_X6_isBlank_17, if_pos zb1, decide_eq_true h]; rfl
  · rw [if_neg (by omega), decide_eq_false h, Bool.false_or]
    by_cases h2 : x = 32
    · rw [if_pos (by omega), j_X6_isBlank_12, j_X6_isBlank_17, if_pos zb1, decide_eq_true h2]; rfl
    · rw [if_neg (by omega), j_X6_isBlank_16, j_X6_isBlank_17, if_pos zb0, decide_eq_false h2]; rfl
theorem c_isLetter (x : Nat) : zF zP 101 v [.inl (x : Int)] m = some (some (.inl (b01 (ltr x))), m) := by
  rw [f_X6_isLetter]
  unfold ltr
  by_cases h : 97 ≤ x
  · rw [if_neg (by omega), decide_eq_true h, Bool.true_and]
    by_cases h2 : x ≤ 122
    · rw [if_neg (by omega), j_X6_isLetter_17, if_pos zb1, decide_eq_true h2]; rfl
    · rw [if_pos (by omega), j_X6_isLetter_16, j_X6_isLetter_17, if_pos zb0, decide_eq_false h2]; rfl
  · rw [if_pos (by omega), j_X6_isLetter_16, j_X6_isLetter_17, if_pos zb0, decide_eq_false h]; rfl
theorem c_isDigit (x : Nat) : zF zP 105 v [.inl (x : Int)] m = some (some (.inl (b01 (dgt x))), m) := by
  rw [f_X6_isDigit]
  unfold dgt
  by_cases h : 48 ≤ x
  · rw [if_neg (by omega), decide_eq_true h, Bool.true_and]
    by_cases h2 : x ≤ 57
    · rw [if_neg (by omega), j_X6_isDigit_17, if_pos zb1, decide_eq_true h2]; rfl
    · rw [if_pos (by omega), j_X6_isDigit_16, j_X6_isDigit_17, if_pos zb0, decide_eq_false h2]; rfl
  · rw [if_pos (by omega), j_X6_isDigit_16, j_X6_isDigit_17, if_pos zb0, decide_eq_false h]; rfl
theorem c_skip (hx0 : TxC m f n) : ∀ (k p : Nat) (m1 : zM), Fr tkP m m1 → p + k = n → zi m1 2 4 = (p : Int) → ∃ m', zX zP 107 v 8 [some (.inr (.inr (some 2))), none] [] m1 = zX zP 107 v 46 [some (.inr (.inr (some 2))), none] [] m' ∧ Fr tkP m m' ∧ zi m' 2 4 = ((runF blk f k p : Nat) : Int) := by
  intro k
  induction k with
  | zero =>
    intro p m1 hF hp h4
    have hx := hx0.tk hF
    exact ⟨m1, by rw [j_X6_advance_8, if_pos hx.t2, if_pos hx.t2, h4, hx.2.1, if_neg (by omega)], hF, h4⟩
  | succ k ih =>
    intro p m1 hF hp h4
    have hx := hx0.tk hF
    have n9 := hx.2.2.1.1
    unfold runF
    by_cases q : blk (f p) = true
    · have hw : Fr tkP m1 (zwi m1 2 4 ((p + 1 : Nat) : Int)) := Fr.wi m1 _ ⟨rfl, by omega, by omega⟩
      obtain ⟨m', f1, f2, f3⟩ := ih (p + 1) _ (hF.tr hw) (by omega) (zi_wi_s _ _ _ _)
      refine ⟨m', ?_, f2, by rw [if_pos q]; exact f3⟩
      rw [j_X6_advance_8, if_pos hx.t2, if_pos hx.t2, h4, hx.2.1, if_pos (by omega), if_pos hx.t2, if_pos hx.t2, c_byteAt hx p (by omega), zC1_s, c_isBlank, zC1_s, q, if_neg (by decide), if_pos hx.t2, if_pos hx.t2, h4, zadd1 (by omega)]
      exact f1
    · refine ⟨m1, ?_, hF, by rw [if_neg q]; exact h4⟩
      rw [j_X6_advance_8, if_pos hx.t2, if_pos hx.t2, h4, hx.2.1, if_pos (by omega), if_pos hx.t2, if_pos hx.t2, c_byteAt hx p (by omega), zC1_s, c_isBlank, zC1_s, bool_f q, if_pos (by decide)]
theorem c_longer {y c : Nat} (hy : y < 1099511627776) (hc : ltr c = true) : zF zP 102 v [.inr (.inl (y : Int)), .inl (c : Int)] m = some (some (.inr (.inl ((y * 32 + (c - 96) : Nat) : Int))), m) := by
  have h := ltr_r hc
  have e1 : zsub (c : Int) 97 = ((c - 97 : Nat) : Int) := zsub_nat (k := 97) h.1 (by omega)
  have e2 : zadd ((c - 97 : Nat) : Int) 1 = ((c - 96 : Nat) : Int) := by rw [zadd1 (by omega)]; congr 1; omega
  rw [f_X6_longer, e1, e2, zlshl5 hy (by omega)]
theorem c_longer_some (y x : Int) : ∃ y' : Int, zF zP 102 v [.inr (.inl y), .inl x] m = some (some (.inr (.inl y')), m) := ⟨_, f_X6_longer _ _ _⟩
theorem c_keywordSpelt (hx : TxC m f n) (y : Nat) : zF zP 103 v [(.inr (.inr (some 2))), .inr (.inl (y : Int))] m = some (some (.inl (kwI y)), m) := by
  obtain ⟨⟨h1, ⟨r0, r1⟩, k3, k4⟩, h2, h3, h4, h5⟩ := hx
  have loop : ∀ (n k : Nat), k + n = 24 → zX zP 103 v 2 [some (.inr (.inr (some 2))), some (.inr (.inl (y : Int))), none, some (.inl (k : Int))] [] m = some (some (.inl (firstK (fun i => decide (zKey.getD i 0 = (y : Int))) n k)), m) := by
    intro n
    induction n with
    | zero =>
      intro k hk
      rw [j_X6_keywordSpelt_2, if_pos h1, r1, obind, if_pos (k4.Y (by decide)), k4.L, if_neg (by omega), j_X6_keywordSpelt_30]; rfl
    | succ n ih =>
      intro k hk
      rw [j_X6_keywordSpelt_2, if_pos h1, r1, obind, if_pos (k4.Y (by decide)), k4.L, if_pos (by omega), if_pos h1, obind, if_pos (k4.A (by omega) (by omega)), Int.toNat_natCast, h5 k (by omega)]
      unfold firstK
      by_cases q : zKey.getD k 0 = (y : Int)
      · rw [if_pos (zlcmp_eq.mpr q), if_pos (decide_eq_true q)]
      · rw [if_neg (fun w => q (zlcmp_eq.mp w)), j_X6_keywordSpelt_24, zadd1 (by omega), ih (k + 1) (by omega), if_neg (fun w => q (of_decide_eq_true w))]
  rw [f_X6_keywordSpelt]
  exact loop 24 0 rfl
theorem c_letters_loop (hx0 : TxC m f n) {a : Nat} : ∀ (k p : Nat) (y : Int) (m1 : zM), Fr tkP m m1 → p + k = n → a ≤ p → zi m1 2 4 = (a : Int) → zi m1 2 5 = (p : Int) → (∀ i, a ≤ i → i < p → ltr (f i) = true) → (p - a ≤ 8 → y = ((spl f a (p - a) : Nat) : Int)) →
    ∃ (m' : zM) (y' : Int), zX zP 104 v 15 [some (.inr (.inr (some 2))), some (.inr (.inl y)), none] [] m1 = zX zP 104 v 66 [some (.inr (.inr (some 2))), some (.inr (.inl y')), none] [] m' ∧ Fr tkP m m' ∧ (∀ j, j ≠ 5 → zi m' 2 j = zi m1 2 j) ∧ (∀ j, zl m' 2 j = zl m1 2 j) ∧ zi m' 2 5 = ((runF ltr f k p : Nat) : Int) ∧ (runF ltr f k p - a ≤ 8 → y' = ((spl f a (runF ltr f k p - a) : Nat) : Int)) := by
  intro k
  induction k with
  | zero =>
    intro p y m1 hF hp ha h4 h5 hl hy
    have hx := hx0.tk hF
    exact ⟨m1, y, by rw [j_X6_takeLetters_15, if_pos hx.t2, if_pos hx.t2, h5, hx.2.1, if_neg (by omega)], hF, fun _ _ => rfl, fun _ => rfl, h5, hy⟩
  | succ k ih =>
    intro p y m1 hF hp ha h4 h5 hl hy
    have hx := hx0.tk hF
    have n9 := hx.2.2.1.1
    by_cases q : ltr (f p) = true
    · have er : runF ltr f (k + 1) p = runF ltr f k (p + 1) := by
        show (if ltr (f p) = true then runF ltr f k (p + 1) else p) = _
        rw [if_pos q]
      rw [er]
      have hw : Fr tkP m1 (zwi m1 2 5 ((p + 1 : Nat) : Int)) := Fr.wi m1 _ ⟨rfl, by omega, by omega⟩
      have hlong : ∃ y2 : Int, zF zP 102 0 [.inr (.inl y), .inl ((f p : Nat) : Int)] m1 = some (some (.inr (.inl y2)), m1) ∧ (p + 1 - a ≤ 8 → y2 = ((spl f a (p + 1 - a) : Nat) : Int)) := by
        by_cases q8 : p - a ≤ 8
        · have hs : spl f a (p - a) < 1099511627776 := spl8 q8 (fun i q1 q2 => hl i q1 (by omega))
          refine ⟨_, by rw [hy q8]; exact c_longer hs q, fun _ => ?_⟩
          have e : p + 1 - a = (p - a) + 1 := by omega
          rw [e]
          show ((spl f a (p - a) * 32 + (f p - 96) : Nat) : Int) = ((spl f a (p - a) * 32 + (f (a + (p - a)) - 96) : Nat) : Int)
          rw [show a + (p - a) = p by omega]
        · obtain ⟨y2, h⟩ := c_longer_some (v := 0) (m := m1) y ((f p : Nat) : Int)
          exact ⟨y2, h, fun w => absurd w (by omega)⟩
      obtain ⟨y2, g1, g2⟩ := hlong
      obtain ⟨m', y', f1, f2, f3, f4, f5, f6⟩ := ih (p + 1) y2 _ (hF.tr hw) (by omega) (by omega) (by rw [zi_wi_n _ _ (Or.inr (by decide))]; exact h4) (zi_wi_s _ _ _ _) (fun i q1 q2 => by
        by_cases e : i = p
        · rw [e]; exact q
        · exact hl i q1 (by omega)) g2
      refine ⟨m', y', ?_, f2, fun j hj => by rw [f3 j hj, zi_wi_n _ _ (Or.inr hj)], fun j => by rw [f4 j, zl_wi], f5, f6⟩
      rw [j_X6_takeLetters_15, if_pos hx.t2, if_pos hx.t2, h5, hx.2.1, if_pos (by omega), if_pos hx.t2, if_pos hx.t2, c_byteAt hx p (by omega), zC1_s, c_isLetter, zC1_s, q, if_neg (by decide), if_pos hx.t2, if_pos hx.t2, h5, c_byteAt hx p (by omega), zC1_s, g1, zC2_s, if_pos hx.t2, if_pos hx.t2, h5, zadd1 (by omega)]
      exact f1
    · have er : runF ltr f (k + 1) p = p := by
        show (if ltr (f p) = true then runF ltr f k (p + 1) else p) = _
        rw [if_neg q]
      rw [er]
      refine ⟨m1, y, ?_, hF, fun _ _ => rfl, fun _ => rfl, h5, hy⟩
      rw [j_X6_takeLetters_15, if_pos hx.t2, if_pos hx.t2, h5, hx.2.1, if_pos (by omega), if_pos hx.t2, if_pos hx.t2, c_byteAt hx p (by omega), zC1_s, c_isLetter, zC1_s, bool_f q, if_pos (by decide)]
theorem c_number_loop (hx0 : TxC m f n) {a : Nat} : ∀ (k p : Nat) (m1 : zM), Fr tkP m m1 → p + k = n → a ≤ p → zi m1 2 4 = (a : Int) → zi m1 2 5 = (p : Int) → (∀ i, a ≤ i → i < p → dgt (f i) = true) → zi m1 2 9 = (if p - a ≤ 4 then ((vlu f a (p - a) : Nat) : Int) else 0) →
    ∃ m' : zM, zX zP 106 v 8 [some (.inr (.inr (some 2)))] [] m1 = zX zP 106 v 86 [some (.inr (.inr (some 2)))] [] m' ∧ Fr tkP m m' ∧ (∀ j, j ≠ 5 → j ≠ 9 → zi m' 2 j = zi m1 2 j) ∧ (∀ j, zl m' 2 j = zl m1 2 j) ∧ zi m' 2 5 = ((runF dgt f k p : Nat) : Int) ∧ zi m' 2 9 = (if runF dgt f k p - a ≤ 4 then ((vlu f a (runF dgt f k p - a) : Nat) : Int) else 0) := by
  intro k
  induction k with
  | zero =>
    intro p m1 hF hp ha h4 h5 hl hy
    have hx := hx0.tk hF
    exact ⟨m1, by rw [j_X6_takeNumber_8, if_pos hx.t2, if_pos hx.t2, h5, hx.2.1, if_neg (by omega)], hF, fun _ _ _ => rfl, fun _ => rfl, h5, hy⟩
  | succ k ih =>
    intro p m1 hF hp ha h4 h5 hl hy
    have hx := hx0.tk hF
    have n9 := hx.2.2.1.1
    by_cases q : dgt (f p) = true
    · have er : runF dgt f (k + 1) p = runF dgt f k (p + 1) := by
        show (if dgt (f p) = true then runF dgt f k (p + 1) else p) = _
        rw [if_pos q]
      have hd := dgt_r q
      rw [er]
      have go : ∀ z : Int, z = (if p + 1 - a ≤ 4 then ((vlu f a (p + 1 - a) : Nat) : Int) else 0) → ∃ m' : zM, zX zP 106 v 8 [some (.inr (.inr (some 2)))] [] (zwi (zwi m1 2 9 z) 2 5 ((p + 1 : Nat) : Int)) = zX zP 106 v 86 [some (.inr (.inr (some 2)))] [] m' ∧ Fr tkP m m' ∧ (∀ j, j ≠ 5 → j ≠ 9 → zi m' 2 j = zi m1 2 j) ∧ (∀ j, zl m' 2 j = zl m1 2 j) ∧ zi m' 2 5 = ((runF dgt f k (p + 1) : Nat) : Int) ∧ zi m' 2 9 = (if runF dgt f k (p + 1) - a ≤ 4 then ((vlu f a (runF dgt f k (p + 1) - a) : Nat) : Int) else 0) := by
        intro z hz
        have hw : Fr tkP m1 (zwi (zwi m1 2 9 z) 2 5 ((p + 1 : Nat) : Int)) := (Fr.wi m1 _ ⟨rfl, by omega, by omega⟩).tr (Fr.wi _ _ ⟨rfl, by omega, by omega⟩)
        obtain ⟨m', f1, f2, f3, f4, f5, f6⟩ := ih (p + 1) _ (hF.tr hw) (by omega) (by omega) (by rw [zi_wi_n _ _ (Or.inr (by decide)), zi_wi_n _ _ (Or.inr (by decide))]; exact h4) (zi_wi_s _ _ _ _) (fun i q1 q2 => by
          by_cases e : i = p
          · rw [e]; exact q
          · exact hl i q1 (by omega)) (by rw [zi_wi_n _ _ (Or.inr (by decide)), zi_wi_s]; exact hz)
        exact ⟨m', f1, f2, fun j hj h9 => by rw [f3 j hj h9, zi_wi_n _ _ (Or.inr hj), zi_wi_n _ _ (Or.inr h9)], fun j => by rw [f4 j, zl_wi, zl_wi], f5, f6⟩
      have esub : zsub (p : Int) (a : Int) = ((p - a : Nat) : Int) := zsub_nat ha (by omega)
      by_cases q4 : p - a < 4
      · have hv : vlu f a (p - a) < 10000 := vlu4 (by omega) (fun i q1 q2 => hl i q1 (by omega))
        have e : p + 1 - a = (p - a) + 1 := by omega
        have ev : zsub (zadd (zmul ((vlu f a (p - a) : Nat) : Int) 10) ((f p : Nat) : Int)) 48 = ((vlu f a (p + 1 - a) : Nat) : Int) := by
          rw [show zmul ((vlu f a (p - a) : Nat) : Int) 10 = ((vlu f a (p - a) * 10 : Nat) : Int) from zmul_nat (k := 10) (by omega), zadd_nat (by omega), show zsub ((vlu f a (p - a) * 10 + f p : Nat) : Int) 48 = ((vlu f a (p - a) * 10 + f p - 48 : Nat) : Int) from zsub_nat (k := 48) (by omega) (by omega), e]
          show ((vlu f a (p - a) * 10 + f p - 48 : Nat) : Int) = ((vlu f a (p - a) * 10 + (f (a + (p - a)) - 48) : Nat) : Int)
          rw [show a + (p - a) = p by omega]
          congr 1
          omega
        obtain ⟨m', f1, f2⟩ := go (zsub (zadd (zmul ((vlu f a (p - a) : Nat) : Int) 10) ((f p : Nat) : Int)) 48) (by rw [ev, if_pos (by omega)])
        refine ⟨m', ?_, f2⟩
        rw [if_pos (by omega)] at hy
        rw [j_X6_takeNumber_8, if_pos hx.t2, if_pos hx.t2, h5, hx.2.1, if_pos (by omega), if_pos hx.t2, if_pos hx.t2, c_byteAt hx p (by omega), zC1_s, c_isDigit, zC1_s, q, if_neg (by decide), if_pos hx.t2, if_pos hx.t2, h5, h4, esub, if_pos (by omega), if_pos hx.t2, if_pos hx.t2, if_pos hx.t2, c_byteAt hx p (by omega), zC1_s, j_X6_takeNumber_70, if_pos hx.t2, zT_wi, if_pos hx.t2, if_pos hx.t2, hy, zi_wi_n _ _ (Or.inr (by decide)), h5, zadd1 (by omega)]
        exact f1
      · obtain ⟨m', f1, f2⟩ := go 0 (by rw [if_neg (by omega)])
        refine ⟨m', ?_, f2⟩
        rw [j_X6_takeNumber_8, if_pos hx.t2, if_pos hx.t2, h5, hx.2.1, if_pos (by omega), if_pos hx.t2, if_pos hx.t2, c_byteAt hx p (by omega), zC1_s, c_isDigit, zC1_s, q, if_neg (by decide), if_pos hx.t2, if_pos hx.t2, h5, h4, esub, if_neg (by omega), j_X6_takeNumber_69, j_X6_takeNumber_70, if_pos hx.t2, zT_wi, if_pos hx.t2, if_pos hx.t2, zi_wi_n _ _ (Or.inr (by decide)), h5, zadd1 (by omega)]
        exact f1
    · have er : runF dgt f (k + 1) p = p := by
        show (if dgt (f p) = true then runF dgt f k (p + 1) else p) = _
        rw [if_neg q]
      rw [er]
      refine ⟨m1, ?_, hF, fun _ _ _ => rfl, fun _ => rfl, h5, hy⟩
      rw [j_X6_takeNumber_8, if_pos hx.t2, if_pos hx.t2, h5, hx.2.1, if_pos (by omega), if_pos hx.t2, if_pos hx.t2, c_byteAt hx p (by omega), zC1_s, c_isDigit, zC1_s, bool_f q, if_pos (by decide)]
end TOKC
