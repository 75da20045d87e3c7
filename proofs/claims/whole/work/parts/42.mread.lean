/-! The reference: what is counted and looked up. -/
section MREAD
variable {v : Nat} {S : zSt} {m : zM}
theorem r32_setF (f : Nat → Bool) : ∀ (n k : Nat) (acc : Int), r32 acc → r32 (setF f n k acc)
  | 0, k, acc, h => h
  | n + 1, k, acc, h => by
    unfold setF
    split
    · exact r32_setF f n (k + 1) _ (r32_or _ _)
    · exact r32_setF f n (k + 1) _ h
theorem r32_0 : r32 0 := by unfold r32; omega
theorem setF_congr {f g : Nat → Bool} : ∀ (n k : Nat) (acc : Int), (∀ i, k ≤ i → i < k + n → f i = g i) → setF f n k acc = setF g n k acc
  | 0, k, acc, h => rfl
  | n + 1, k, acc, h => by
    unfold setF
    rw [h k (Nat.le_refl _) (by omega), setF_congr n (k + 1) _ (fun i h1 h2 => h i (by omega) (by omega))]
theorem sumF_congr {f g : Nat → Int} : ∀ (n k : Nat) (acc : Int), (∀ i, k ≤ i → i < k + n → f i = g i) → sumF f n k acc = sumF g n k acc
  | 0, k, acc, h => rfl
  | n + 1, k, acc, h => by
    unfold sumF
    rw [h k (Nat.le_refl _) (by omega), sumF_congr n (k + 1) _ (fun i h1 h2 => h i (by omega) (by omega))]
theorem b01_1 {b : Bool} : b01 b = 1 ↔ b = true := by cases b <;> decide
theorem m_isLost (hR : R2 S m) {i : Nat} (hi : i < (gL S).2.1.length) : zF zP 312 v [(.inr (.inr (some 0))), .inl (i : Int)] m = some (some (.inl (b01 ((gL S).2.1.getD i ln0).2.1)), m) := by
  have h8 := hR.l8
  have e : zadd 21 (i : Int) = ((21 + i : Nat) : Int) := zadd_nat (n := 21) (by omega)
  have hl := (hR.ln hi).2.2.2.1
  rw [Nat.zero_add] at hl
  rw [f_X11_isLost, if_pos hR.1.1, hR.1.2.1.2.1.1, obind, e, if_pos (A5 hR.1 (by omega) (by omega)), Int.toNat_natCast, hl]
  by_cases g : ((gL S).2.1.getD i ln0).2.1 = true
  · rw [if_pos (b01_1.mpr g), j_X11_isLost_18, if_pos zb1, g]; rfl
  · rw [if_neg (fun q => g (b01_1.mp q)), j_X11_isLost_17, j_X11_isLost_18, if_pos zb0, bool_f g]; rfl
theorem m_lostOnes_loop (hR : R2 S m) : ∀ (n k : Nat) (acc : Int), r32 acc → k + n = (gL S).2.1.length →
    zX zP 313 v 4 [some (.inr (.inr (some 0))), some (.inl acc), some (.inl (k : Int))] [] m = some (some (.inl (setF (fun i => ((gL S).2.1.getD i ln0).2.1) n k acc)), m) := by
  have h8 := hR.l8
  intro n
  induction n with
  | zero =>
    intro k acc ha hk
    rw [j_X11_lostOnes_4, if_pos hR.1.1, hR.1.2.1.2.1.1, obind, if_pos (A5 hR.1 (by omega) (by omega)), hR.c1, if_neg (by omega), j_X11_lostOnes_38]; rfl
  | succ n ih =>
    intro k acc ha hk
    rw [j_X11_lostOnes_4, if_pos hR.1.1, hR.1.2.1.2.1.1, obind, if_pos (A5 hR.1 (by omega) (by omega)), hR.c1, if_pos (by omega), if_pos hR.1.1, m_isLost hR (by omega), zC1_s, setF]
    by_cases g : ((gL S).2.1.getD k ln0).2.1 = true
    · rw [if_neg (by rw [g]; decide), j_X11_lostOnes_30, zadd1 (by omega), ih (k + 1) _ (r32_or _ _) (by omega), if_pos g]
    · rw [if_pos (b01_ne.mpr (bool_f g)), j_X11_lostOnes_29, j_X11_lostOnes_30, zor0 ha, zadd1 (by omega), ih (k + 1) _ ha (by omega), if_neg g]
theorem m_lostOnes (hR : R2 S m) : zF zP 313 v [(.inr (.inr (some 0)))] m = some (some (.inl (setF (fun i => ((gL S).2.1.getD i ln0).2.1) (gL S).2.1.length 0 0)), m) := by
  rw [f_X11_lostOnes]
  exact m_lostOnes_loop hR _ 0 _ r32_0 (by omega)
theorem m_sumOf_loop (hS : S2 m) {w N : Nat} {f : Nat → Int} (hw : w + N ≤ 2000) (hf : ∀ i, i < N → zi m 5 (w + i) = f i) : ∀ (n k : Nat) (acc : Int), k + n = N →
    zX zP 314 v 5 [some (.inr (.inr (some 0))), some (.inl (w : Int)), some (.inl (N : Int)), some (.inl acc), some (.inl (k : Int))] [] m = some (some (.inl (sumF f n k acc)), m) := by
  intro n
  induction n with
  | zero =>
    intro k acc hk
    rw [j_X11_sumOf_5, if_neg (by omega), j_X11_sumOf_29]; rfl
  | succ n ih =>
    intro k acc hk
    have e : zadd (w : Int) (k : Int) = ((w + k : Nat) : Int) := zadd_nat (by omega)
    rw [j_X11_sumOf_5, if_pos (by omega), if_pos hS.1, hS.2.1.2.1.1, obind, e, if_pos (A5 hS (by omega) (by omega)), Int.toNat_natCast, hf k (by omega), zadd1 (by omega), ih (k + 1) _ (by omega)]; rfl
theorem m_sumOf (hS : S2 m) {w N : Nat} {f : Nat → Int} (hw : w + N ≤ 2000) (hf : ∀ i, i < N → zi m 5 (w + i) = f i) : zF zP 314 v [(.inr (.inr (some 0))), .inl (w : Int), .inl (N : Int)] m = some (some (.inl (sumF f N 0 0)), m) := by
  rw [f_X11_sumOf]
  exact m_sumOf_loop hS hw hf N 0 0 (by omega)
theorem cN (h : S2 m) {c : Nat} (hc : 29 ≤ c ∧ c + 3 < 157) : (zA m 5 9 (c : Int) = true ∧ zA m 5 9 ((c + 1 : Nat) : Int) = true ∧ zA m 5 9 ((c + 2 : Nat) : Int) = true ∧ zA m 5 9 ((c + 3 : Nat) : Int) = true) ∧ (zadd (c : Int) 0 = (c : Int) ∧ zadd (c : Int) 1 = ((c + 1 : Nat) : Int) ∧ zadd (c : Int) 2 = ((c + 2 : Nat) : Int) ∧ zadd (c : Int) 3 = ((c + 3 : Nat) : Int)) :=
  ⟨⟨A5 h (by omega) (by omega), A5 h (by omega) (by omega), A5 h (by omega) (by omega), A5 h (by omega) (by omega)⟩, zadd_nat (k := 0) (by omega), zadd_nat (k := 1) (by omega), zadd_nat (k := 2) (by omega), zadd_nat (k := 3) (by omega)⟩
theorem m_cellI {i k : Nat} (hi : i < 8) (hk : k < 4) : zF zP 296 v [.inl (i : Int), .inl (k : Int)] m = some (some (.inl (cellN i k : Int)), m) := m_cell hi hk
theorem R2.ed {i k : Nat} (hR : R2 S m) (hi : i < (gL S).2.1.length) (hk : k < ((gL S).2.1.getD i ln0).2.2.length) :
    zi m 5 (cellN i k) = ((((gL S).2.1.getD i ln0).2.2.getD k e00).1 : Int) ∧ zi m 5 (cellN i k + 1) = ((((gL S).2.1.getD i ln0).2.2.getD k e00).2.1 : Int) ∧ zi m 5 (cellN i k + 2) = ((((gL S).2.1.getD i ln0).2.2.getD k e00).2.2.1 : Int) ∧ zi m 5 (cellN i k + 3) = b01 (((gL S).2.1.getD i ln0).2.2.getD k e00).2.2.2 :=
  (hR.ln hi).mlV.2.2.2 k hk
theorem R2.em {i : Nat} (hR : R2 S m) (hi : i < (gL S).2.1.length) : zi m 5 (13 + i) = (((gL S).2.1.getD i ln0).2.2.length : Int) ∧ ((gL S).2.1.getD i ln0).2.2.length ≤ 4 ∧ ∀ e ∈ ((gL S).2.1.getD i ln0).2.2, eOk e := ⟨(hR.ln hi).mlV.1, (hR.ln hi).mlV.2.1, (hR.ln hi).mlV.2.2.1⟩
theorem m_wordsOf_loop (hR : R2 S m) {i : Nat} (hi : i < (gL S).2.1.length) : ∀ (r : List zEd) (k : Nat) (acc : Int) (u : Option zV), r32 acc → ((gL S).2.1.getD i ln0).2.2.drop k = r →
    zX zP 316 v 4 [some (.inr (.inr (some 0))), some (.inl (i : Int)), some (.inl acc), some (.inl (k : Int)), u] [] m = some (some (.inl (wsetE r acc)), m) := by
  have h8 := hR.l8
  obtain ⟨q1, q2, q3⟩ := hR.em hi
  have e13 : zadd 13 (i : Int) = ((13 + i : Nat) : Int) := zadd_nat (n := 13) (by omega)
  intro r
  induction r with
  | nil =>
    intro k acc u ha hk
    have h1 : ((gL S).2.1.getD i ln0).2.2.length ≤ k := List.drop_eq_nil_iff.mp hk
    rw [j_X11_wordsOf_4, if_pos hR.1.1, hR.1.2.1.2.1.1, obind, e13, if_pos (A5 hR.1 (by omega) (by omega)), Int.toNat_natCast, q1, if_neg (by omega), j_X11_wordsOf_73]; rfl
  | cons e r ih =>
    intro k acc u ha hk
    obtain ⟨h1, h2, h3⟩ := edrop_cons hk
    obtain ⟨d1, d2, d3, d4⟩ := hR.ed hi h1
    rw [h2] at d1 d2 d3
    obtain ⟨⟨A0, A1, A2, A3⟩, c0, c1, c2, c3⟩ := cN hR.1 (cellN_lt (i := i) (k := k) (by omega) (by omega))
    rw [j_X11_wordsOf_4, if_pos hR.1.1, hR.1.2.1.2.1.1, obind, e13, if_pos (A5 hR.1 (by omega) (by omega)), Int.toNat_natCast, q1, if_pos (by omega), m_cellI (by omega) (by omega), zC1_s, if_pos hR.1.1, hR.1.2.1.2.1.1, obind, c1, if_pos A1, if_pos hR.1.1, obind, if_pos A0, Int.toNat_natCast, Int.toNat_natCast, d1, d2, wsetE]
    by_cases g : e.1 = 1
    · rw [if_pos (by omega), j_X11_wordsOf_65, zor0 (r32_or _ _), zadd1 (by omega), ih (k + 1) _ _ (r32_or _ _) h3, if_pos g]
    · rw [if_neg (by omega), j_X11_wordsOf_54, if_pos hR.1.1, hR.1.2.1.2.1.1, obind, c2, if_pos A2, Int.toNat_natCast, d3, j_X11_wordsOf_65, zadd1 (by omega), ih (k + 1) _ _ (r32_or _ _) h3, if_neg g]
theorem m_wordsOf (hR : R2 S m) {i : Nat} (hi : i < (gL S).2.1.length) : zF zP 316 v [(.inr (.inr (some 0))), .inl (i : Int)] m = some (some (.inl (wsetE ((gL S).2.1.getD i ln0).2.2 0)), m) := by
  rw [f_X11_wordsOf]
  exact m_wordsOf_loop hR hi _ 0 0 _ r32_0 rfl
theorem m_peopleAt_loop (hR : R2 S m) (x : Int) : ∀ (n k : Nat) (acc : Int), r32 acc → k + n = (gL S).2.2.1.length →
    zX zP 317 v 4 [some (.inr (.inr (some 0))), some (.inl x), some (.inl acc), some (.inl (k : Int))] [] m = some (some (.inl (setF (fun i => decide ((((gL S).2.2.1.getD i ps0).2.1 : Int) = x)) n k acc)), m) := by
  have h8 := hR.p6
  intro n
  induction n with
  | zero =>
    intro k acc ha hk
    rw [j_X11_peopleAt_4, if_pos hR.1.1, hR.1.2.1.2.1.1, obind, if_pos (A5 hR.1 (by omega) (by omega)), hR.c2, if_neg (by omega), j_X11_peopleAt_44]; rfl
  | succ n ih =>
    intro k acc ha hk
    have e : zadd 157 (k : Int) = ((157 + k : Nat) : Int) := zadd_nat (n := 157) (by omega)
    have hp := (hR.ps (i := k) (by omega)).1.2.1
    rw [Nat.zero_add] at hp
    rw [j_X11_peopleAt_4, if_pos hR.1.1, hR.1.2.1.2.1.1, obind, if_pos (A5 hR.1 (by omega) (by omega)), hR.c2, if_pos (by omega), if_pos hR.1.1, obind, e, if_pos (A5 hR.1 (by omega) (by omega)), Int.toNat_natCast, hp, setF]
    by_cases g : (((gL S).2.2.1.getD k ps0).2.1 : Int) = x
    · rw [if_pos g, j_X11_peopleAt_36, zadd1 (by omega), ih (k + 1) _ (r32_or _ _) (by omega), if_pos (decide_eq_true g)]
    · rw [if_neg g, j_X11_peopleAt_35, j_X11_peopleAt_36, zor0 ha, zadd1 (by omega), ih (k + 1) _ ha (by omega), if_neg (by rw [decide_eq_true_eq]; exact g)]
theorem m_peopleAt (hR : R2 S m) (x : Int) : zF zP 317 v [(.inr (.inr (some 0))), .inl x] m = some (some (.inl (lpeople (gL S) x)), m) := by
  rw [f_X11_peopleAt]
  exact m_peopleAt_loop hR x _ 0 0 r32_0 (by omega)
def hasI (x k : Int) : Bool := decide (zand (zshr x k) 1 = 1)
theorem m_has (x k : Int) : zF zP 254 v [.inl x, .inl k] m = some (some (.inl (b01 (hasI x k))), m) := by
  rw [f_X11_has]
  unfold hasI
  by_cases h : zand (zshr x k) 1 = 1
  · rw [if_pos h, j_X11_has_14, if_pos zb1, decide_eq_true h]; rfl
  · rw [if_neg h, j_X11_has_13, j_X11_has_14, if_pos zb0, decide_eq_false h]; rfl
def szF (x : Int) : Nat → Nat → Int → Int
  | 0, _, acc => acc
  | n + 1, k, acc => szF x n (k + 1) (if hasI x (k : Int) = true then zadd acc 1 else acc)
theorem zadd0 {x : Int} (h : r32 x) : zadd x 0 = x := by rw [zadd_of (by rw [Int.add_zero]; exact h), Int.add_zero]
theorem r32_zadd (x y : Int) : r32 (zadd x y) := by
  unfold zadd i32 r32
  have h1 := Int.bmod_lt (x := x + y) (m := 4294967296) (by decide)
  have h2 := Int.le_bmod (x := x + y) (m := 4294967296) (by decide)
  omega
theorem m_sizeOf_loop (x : Int) : ∀ (n k : Nat) (acc : Int), r32 acc → k + n = 8 →
    zX zP 318 v 4 [some (.inl x), some (.inl acc), some (.inl (k : Int))] [] m = some (some (.inl (szF x n k acc)), m) := by
  intro n
  induction n with
  | zero =>
    intro k acc ha hk
    rw [j_X11_sizeOf_4, if_neg (by omega), j_X11_sizeOf_32]; rfl
  | succ n ih =>
    intro k acc ha hk
    rw [j_X11_sizeOf_4, if_pos (by omega), m_has, zC1_s, szF]
    by_cases g : hasI x (k : Int) = true
    · rw [if_neg (by rw [g]; decide), j_X11_sizeOf_24, zadd1 (k := k) (by omega), ih (k + 1) _ (r32_zadd _ _) (by omega), if_pos g]
    · rw [if_pos (b01_ne.mpr (bool_f g)), j_X11_sizeOf_23, j_X11_sizeOf_24, zadd0 ha, zadd1 (k := k) (by omega), ih (k + 1) _ ha (by omega), if_neg g]
theorem m_sizeOf (x : Int) : zF zP 318 v [.inl x] m = some (some (.inl (szF x 8 0 0)), m) := by
  rw [f_X11_sizeOf]
  exact m_sizeOf_loop x 8 0 0 r32_0 rfl
theorem m_lineBy_loop (hR : R2 S m) (x : Int) : ∀ (n k : Nat), k + n = (gL S).2.1.length →
    zX zP 292 v 2 [some (.inr (.inr (some 0))), some (.inl 0), some (.inl x), some (.inl (k : Int))] [] m = some (some (.inl (firstK (fun i => decide (((gL S).2.1.getD i ln0).1 = x)) n k)), m) := by
  have h8 := hR.l8
  have e1 : zadd (zmul 489 0) 1 = 1 := by decide
  have e5 : zadd (zmul 489 0) 5 = 5 := by decide
  intro n
  induction n with
  | zero =>
    intro k hk
    rw [j_X11_lineBy_2, if_pos hR.1.1, hR.1.2.1.2.1.1, obind, e1, if_pos (A5 hR.1 (by omega) (by omega)), hR.c1, if_neg (by omega), j_X11_lineBy_44]; rfl
  | succ n ih =>
    intro k hk
    have e : zadd 5 (k : Int) = ((5 + k : Nat) : Int) := zadd_nat (n := 5) (by omega)
    have hn := (hR.ln (i := k) (by omega)).1
    rw [Nat.zero_add] at hn
    rw [j_X11_lineBy_2, if_pos hR.1.1, hR.1.2.1.2.1.1, obind, e1, if_pos (A5 hR.1 (by omega) (by omega)), hR.c1, if_pos (by omega), if_pos hR.1.1, obind, e5, e, if_pos (A5 hR.1 (by omega) (by omega)), Int.toNat_natCast, hn, firstK]
    by_cases g : ((gL S).2.1.getD k ln0).1 = x
    · rw [if_pos g, if_pos (decide_eq_true g)]
    · rw [if_neg g, j_X11_lineBy_38, zadd1 (by omega), ih (k + 1) (by omega), if_neg (by rw [decide_eq_true_eq]; exact g)]
theorem m_lineBy (hR : R2 S m) (x : Int) : zF zP 292 v [(.inr (.inr (some 0))), .inl 0, .inl x] m = some (some (.inl (lnum (gL S) x)), m) := by
  rw [f_X11_lineBy]
  exact m_lineBy_loop hR x _ 0 (by omega)
theorem m_isEditAt (hR : R2 S m) (x y : Int) : zF zP 310 v [(.inr (.inr (some 0))), .inl x, .inl y] m = some (some (.inl (b01 (inB x (gL S).2.1.length && inB y ((gL S).2.1.getD x.toNat ln0).2.2.length))), m) := by
  have h8 := hR.l8
  rw [f_X11_isEditAt, if_pos hR.1.1, m_isLineAt hR, zC1_s]
  by_cases g : inB x (gL S).2.1.length = true
  · obtain ⟨i, rfl, hi⟩ := inB_nat g
    obtain ⟨q1, q2, q3⟩ := hR.em hi
    have e13 : zadd 13 (i : Int) = ((13 + i : Nat) : Int) := zadd_nat (n := 13) (by omega)
    rw [if_neg (by rw [g]; decide), if_pos hR.1.1, hR.1.2.1.2.1.1, obind, e13, if_pos (A5 hR.1 (by omega) (by omega)), Int.toNat_natCast, q1, m_isIn, zC1_s, inR_inB (by omega), g, Bool.true_and, Int.toNat_natCast]
    by_cases g2 : inB y ((gL S).2.1.getD i ln0).2.2.length = true
    · rw [if_neg (by rw [g2]; decide), j_X11_isEditAt_34, if_pos zb1, g2]; rfl
    · rw [if_pos (b01_ne.mpr (bool_f g2)), j_X11_isEditAt_33, j_X11_isEditAt_34, if_pos zb0, bool_f g2]; rfl
  · rw [if_pos (b01_ne.mpr (bool_f g)), j_X11_isEditAt_33, j_X11_isEditAt_34, if_pos zb0, bool_f g]; rfl
end MREAD
