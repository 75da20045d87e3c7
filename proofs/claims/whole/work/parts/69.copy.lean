/-! A LAND becomes as another one is: the class. -/
def CpL (m m' : zM) (a b : Nat) : Prop := zi m' a 1 = zi m b 1 ∧ zi m' a 2 = zi m b 2 ∧ zi m' a 3 = zi m b 3 ∧ ∀ k, k < 4 → zi m' (a + 1) k = zi m (b + 1) k
section COPY
variable {v : Nat} {S : zSt} {m m' : zM} {a b A B : Nat}
theorem CpL.lnV {num : Int} {lost : Bool} {es : List zEd} (h : CpL m m' a b) (hv : LnV m b num lost es) : LnV m' a num lost es := by
  unfold LnV at hv ⊢
  rw [h.1, h.2.1, h.2.2.1]
  exact ⟨hv.1, hv.2.1, hv.2.2.1, hv.2.2.2.1, hv.2.2.2.2.1, fun i hi => by rw [h.2.2.2 i (by omega)]; exact hv.2.2.2.2.2 i hi⟩
theorem s_copyLine_loop (hA : LnS m a) (hB : LnS m b) (hd : b + 2 ≤ a ∨ a + 2 ≤ b) : ∀ (n k : Nat) (m1 : zM), k + n = 4 → Sam m m1 (a + 1) (a + 2) → (∀ q, q < k → zi m1 (a + 1) q = zi m (b + 1) q) →
    ∃ m', zX zP 7 v 26 [some ((.inr (.inr (some a)))), some ((.inr (.inr (some b)))), some (.inl (k : Int))] [] m1 = some (none, m') ∧ Sam m m' (a + 1) (a + 2) ∧ ∀ q, q < 4 → zi m' (a + 1) q = zi m (b + 1) q := by
  intro n
  induction n with
  | zero =>
    intro k m1 hk hs hv
    have h1 := hs.Ln hA
    refine ⟨m1, ?_, hs, fun q hq => hv q (by omega)⟩
    rw [j_X2_copyOf_26, if_pos h1.1, h1.2.1, obind, if_pos h1.Y, h1.2.2.2, if_neg (by omega), j_X2_copyOf_52]
  | succ n ih =>
    intro k m1 hk hs hv
    have h1 := hs.Ln hA
    have h2 := hs.Ln hB
    have e1 : zadd (k : Int) 1 = ((k + 1 : Nat) : Int) := zadd_nat (k := 1) (by omega)
    have er : zi m1 (b + 1) k = zi m (b + 1) k := hs.i (by omega) k
    obtain ⟨m', f1, f2, f3⟩ := ih (k + 1) (zwi m1 (a + 1) k (zi m (b + 1) k)) (by omega) (hs.tr (Sam.wi m1 _ _ (by omega) (by omega))) (fun q hq => by
      by_cases e : q = k
      · subst e; exact zi_wi_s _ _ _ _
      · rw [zi_wi_n _ _ (Or.inr e)]; exact hv q (by omega))
    refine ⟨m', ?_, f2, f3⟩
    rw [j_X2_copyOf_26, if_pos h1.1, h1.2.1, obind, if_pos h1.Y, h1.2.2.2, if_pos (by omega), if_pos h1.1, obind, if_pos h2.1, s_editAt h2 (by omega), zC1_s, if_pos (h1.A (by omega) (by omega)), Int.toNat_natCast, er, e1]
    exact f1
theorem s_copyLine (hA : LnS m a) (hB : LnS m b) (hd : b + 2 ≤ a ∨ a + 2 ≤ b) (hz : zb (zi m b 3) = true) :
    ∃ m', zF zP 7 v [(.inr (.inr (some a))), (.inr (.inr (some b)))] m = some (none, m') ∧ Sam m m' a (a + 2) ∧ CpL m m' a b := by
  have e : ∀ (m : zM) (k : Nat) (x : Int) (j : Nat), zi (zwi m a k x) b j = zi m b j := fun m k x j => zi_wi_n _ _ (Or.inl (by omega))
  have hs : Sam m (zwi (zwi (zwi m a 1 (zi m b 1)) a 2 (zi m b 2)) a 3 (zi m b 3)) a (a + 1) := ((Sam.wi m _ _ (by omega) (by omega)).tr (Sam.wi _ _ _ (by omega) (by omega))).tr (Sam.wi _ _ _ (by omega) (by omega))
  have c1 : zi (zwi (zwi (zwi m a 1 (zi m b 1)) a 2 (zi m b 2)) a 3 (zi m b 3)) a 1 = zi m b 1 := by rw [zi_wi_n _ _ (Or.inr (by decide)), zi_wi_n _ _ (Or.inr (by decide)), zi_wi_s]
  have c2 : zi (zwi (zwi (zwi m a 1 (zi m b 1)) a 2 (zi m b 2)) a 3 (zi m b 3)) a 2 = zi m b 2 := by rw [zi_wi_n _ _ (Or.inr (by decide)), zi_wi_s]
  have c3 : zi (zwi (zwi (zwi m a 1 (zi m b 1)) a 2 (zi m b 2)) a 3 (zi m b 3)) a 3 = zi m b 3 := by rw [zi_wi_s]
  rw [f_X2_copyOf]
  simp only [zT_wi, e]
  unfold zLet
  rw [if_pos hB.1, if_pos hA.1, if_pos hB.1, if_pos hA.1, if_pos hB.1, if_pos (by rw [hA.1, hz]; rfl)]
  generalize zwi (zwi (zwi m a 1 (zi m b 1)) a 2 (zi m b 2)) a 3 (zi m b 3) = m1 at hs c1 c2 c3 ⊢
  obtain ⟨m', f1, f2, f3⟩ := s_copyLine_loop (v := v) (hs.Ln hA) (hs.Ln hB) hd 4 0 m1 rfl (Sam.rf _ _ _) (fun q hq => absurd hq (Nat.not_lt_zero q))
  refine ⟨m', f1, (hs.mono (by omega) (by omega)).tr (f2.mono (by omega) (by omega)), ?_⟩
  unfold CpL
  rw [f2.i (by omega), f2.i (by omega), f2.i (by omega)]
  exact ⟨c1, c2, c3, fun k hk => by rw [f3 k hk, hs.i (by omega)]⟩
theorem s_copyYears_loop (hA : YrS m a) (hB : YrS m b) (hd : b + 4 ≤ a ∨ a + 4 ≤ b) : ∀ (n k : Nat) (m1 : zM), k + n = 60 → Sam m m1 (a + 1) (a + 3) → (∀ q, q < k → zi m1 (a + 1) q = zi m (b + 1) q ∧ zi m1 (a + 2) q = zi m (b + 2) q) →
    ∃ m', zX zP 14 v 34 [some ((.inr (.inr (some a)))), some ((.inr (.inr (some b)))), some (.inl (k : Int))] [] m1 = some (none, m') ∧ Sam m m' (a + 1) (a + 3) ∧ ∀ q, q < 60 → zi m' (a + 1) q = zi m (b + 1) q ∧ zi m' (a + 2) q = zi m (b + 2) q := by
  intro n
  induction n with
  | zero =>
    intro k m1 hk hs hv
    obtain ⟨t1, ⟨r0, r1, r2⟩, k1, k2, k3⟩ := hs.Yr hA
    refine ⟨m1, ?_, hs, fun q hq => hv q (by omega)⟩
    rw [j_X8_copyOf_34, if_pos t1, r0, obind, if_pos (k1.Y (by decide)), k1.L, if_neg (by omega), j_X8_copyOf_80]
  | succ n ih =>
    intro k m1 hk hs hv
    obtain ⟨t1, ⟨r0, r1, r2⟩, k1, k2, k3⟩ := hs.Yr hA
    obtain ⟨t1', ⟨r0', r1', r2'⟩, k1', k2', k3'⟩ := hs.Yr hB
    have e1 : zadd (k : Int) 1 = ((k + 1 : Nat) : Int) := zadd_nat (k := 1) (by omega)
    have er : zi m1 (b + 1) k = zi m (b + 1) k := hs.i (by omega) k
    have hw : Sam m1 (zwi m1 (a + 1) k (zi m (b + 1) k)) (a + 1) (a + 3) := Sam.wi m1 _ _ (by omega) (by omega)
    have hw2 : Sam (zwi m1 (a + 1) k (zi m (b + 1) k)) (zwi (zwi m1 (a + 1) k (zi m (b + 1) k)) (a + 2) k (zi m (b + 2) k)) (a + 1) (a + 3) := Sam.wi _ _ _ (by omega) (by omega)
    have er2 : zi (zwi m1 (a + 1) k (zi m (b + 1) k)) (b + 2) k = zi m (b + 2) k := by rw [(hs.tr hw).i (by omega)]
    obtain ⟨u1, ⟨s0, s1, s2⟩, g1, g2, g3⟩ := (hs.tr hw).Yr hA
    obtain ⟨u1', ⟨s0', s1', s2'⟩, g1', g2', g3'⟩ := (hs.tr hw).Yr hB
    have o1 : ∀ mm : zM, zT mm b 5 = true → zr mm b 0 = some (b + 1) → ArS mm (b + 1) 9 60 → zF zP 12 0 [(.inr (.inr (some b))), .inl (k : Int)] mm = some (some (.inl (zi mm (b + 1) k)), mm) := fun mm q1 q2 q3 => by
      rw [f_X8_operationAt, if_neg (by omega), if_pos q1, q2, obind, if_pos (q3.Y (by decide)), q3.L, if_pos (by omega), if_pos q1, obind, if_pos (q3.A (by omega) (by omega)), Int.toNat_natCast, j_X8_operationAt_23]
    have o2 : ∀ mm : zM, zT mm b 5 = true → zr mm b 1 = some (b + 2) → ArS mm (b + 2) 9 60 → zF zP 13 0 [(.inr (.inr (some b))), .inl (k : Int)] mm = some (some (.inl (zi mm (b + 2) k)), mm) := fun mm q1 q2 q3 => by
      rw [f_X8_partnerOf, if_neg (by omega), if_pos q1, q2, obind, if_pos (q3.Y (by decide)), q3.L, if_pos (by omega), if_pos q1, obind, if_pos (q3.A (by omega) (by omega)), Int.toNat_natCast, j_X8_partnerOf_23]
    obtain ⟨m', f1, f2, f3⟩ := ih (k + 1) (zwi (zwi m1 (a + 1) k (zi m (b + 1) k)) (a + 2) k (zi m (b + 2) k)) (by omega) ((hs.tr hw).tr hw2) (fun q hq => by
      by_cases e : q = k
      · subst e
        refine ⟨?_, zi_wi_s _ _ _ _⟩
        rw [zi_wi_n _ _ (Or.inl (by omega)), zi_wi_s]
      · rw [zi_wi_n _ _ (Or.inl (by omega)), zi_wi_n _ _ (Or.inr e), zi_wi_n _ _ (Or.inr e), zi_wi_n _ _ (Or.inl (by omega))]; exact hv q (by omega))
    refine ⟨m', ?_, f2, f3⟩
    rw [j_X8_copyOf_34, if_pos t1, r0, obind, if_pos (k1.Y (by decide)), k1.L, if_pos (by omega), if_pos t1, r1, obind, if_pos (k2.Y (by decide)), k2.L, if_pos (by omega), if_pos t1, obind, if_pos t1', o1 m1 t1' r0' k1', zC1_s, if_pos (k1.A (by omega) (by omega)), Int.toNat_natCast, er, if_pos u1, s1, obind, if_pos u1', o2 _ u1' s1' g2', zC1_s, if_pos (g2.A (by omega) (by omega)), er2, e1]
    exact f1
theorem s_copyYears {y : zYr} (hA : YrS m a) (hB : YrS m b) (hd : b + 4 ≤ a ∨ a + 4 ≤ b) (hy : YvC m b y) :
    ∃ m', zF zP 14 v [(.inr (.inr (some a))), (.inr (.inr (some b)))] m = some (none, m') ∧ Sam m m' a (a + 4) ∧ YvC m' a y := by
  have e : ∀ (m : zM) (k : Nat) (x : Int) (j : Nat), zi (zwi m a k x) b j = zi m b j := fun m k x j => zi_wi_n _ _ (Or.inl (by omega))
  have hs : Sam m (zwi (zwi (zwi (zwi m a 3 (zi m b 3)) a 4 (zi m b 4)) a 5 (zi m b 5)) a 6 (zi m b 6)) a (a + 1) := (((Sam.wi m _ _ (by omega) (by omega)).tr (Sam.wi _ _ _ (by omega) (by omega))).tr (Sam.wi _ _ _ (by omega) (by omega))).tr (Sam.wi _ _ _ (by omega) (by omega))
  have c3 : zi (zwi (zwi (zwi (zwi m a 3 (zi m b 3)) a 4 (zi m b 4)) a 5 (zi m b 5)) a 6 (zi m b 6)) a 3 = zi m b 3 := by rw [zi_wi_n _ _ (Or.inr (by decide)), zi_wi_n _ _ (Or.inr (by decide)), zi_wi_n _ _ (Or.inr (by decide)), zi_wi_s]
  have c4 : zi (zwi (zwi (zwi (zwi m a 3 (zi m b 3)) a 4 (zi m b 4)) a 5 (zi m b 5)) a 6 (zi m b 6)) a 4 = zi m b 4 := by rw [zi_wi_n _ _ (Or.inr (by decide)), zi_wi_n _ _ (Or.inr (by decide)), zi_wi_s]
  have c5 : zi (zwi (zwi (zwi (zwi m a 3 (zi m b 3)) a 4 (zi m b 4)) a 5 (zi m b 5)) a 6 (zi m b 6)) a 5 = zi m b 5 := by rw [zi_wi_n _ _ (Or.inr (by decide)), zi_wi_s]
  rw [f_X8_copyOf]
  simp only [zT_wi, e]
  unfold zLet
  simp only [zT_wi, e]
  rw [if_pos hB.1, if_pos (by rw [hA.1, hy.1, zb_b01]; rfl), if_pos hB.1, if_pos hA.1, if_pos hB.1, if_pos hA.1, if_pos hB.1, if_pos hA.1]
  generalize zwi (zwi (zwi (zwi m a 3 (zi m b 3)) a 4 (zi m b 4)) a 5 (zi m b 5)) a 6 (zi m b 6) = m1 at hs c3 c4 c5 ⊢
  obtain ⟨m', f1, f2, f3⟩ := s_copyYears_loop (v := v) (hs.Yr hA) (hs.Yr hB) hd 60 0 m1 rfl (Sam.rf _ _ _) (fun q hq => absurd hq (Nat.not_lt_zero q))
  refine ⟨m', f1, (hs.mono (by omega) (by omega)).tr (f2.mono (by omega) (by omega)), ?_⟩
  unfold YvC at hy ⊢
  rw [f2.i (by omega), f2.i (by omega), f2.i (by omega), c3, c4, c5]
  refine ⟨hy.1, fun t ht => ?_⟩
  obtain ⟨z1, z2, z3, z4, z5⟩ := hy.2 t ht
  refine ⟨z1, z2, z3, z4, fun i hi => ?_⟩
  obtain ⟨x1, x2⟩ := f3 i (by omega)
  rw [x1, x2, hs.i (by omega), hs.i (by omega)]
  exact z5 i hi
theorem CpL.sam {m1 m2 m3 : zM} {lo hi : Nat} (h : CpL m1 m2 a b) (hs : Sam m2 m3 lo hi) (hb : a + 2 ≤ lo ∨ hi ≤ a) : CpL m1 m3 a b := by
  unfold CpL at h ⊢
  rw [hs.i (by omega), hs.i (by omega), hs.i (by omega)]
  exact ⟨h.1, h.2.1, h.2.2.1, fun k hk => by rw [hs.i (by omega)]; exact h.2.2.2 k hk⟩
theorem s_copyLand_lines (hA : LdS m A) (hB : LdS m B) (hd : A + 28 ≤ B ∨ B + 28 ≤ A) (hz : ∀ i, i < 8 → zb (zi m (B + 12 + 2 * i) 3) = true) : ∀ (n k : Nat) (m1 : zM), k + n = 8 → Sam m m1 (A + 12) (A + 28) → (∀ q, q < k → CpL m m1 (A + 12 + 2 * q) (B + 12 + 2 * q)) →
    ∃ m', zX zP 15 v 42 [some ((.inr (.inr (some A)))), some ((.inr (.inr (some B)))), some (.inl (k : Int))] [] m1 = zX zP 15 v 72 [some ((.inr (.inr (some A)))), some ((.inr (.inr (some B)))), some (.inl 0)] [] m' ∧ Sam m m' (A + 12) (A + 28) ∧ ∀ q, q < 8 → CpL m m' (A + 12 + 2 * q) (B + 12 + 2 * q) := by
  intro n
  induction n with
  | zero =>
    intro k m1 hk hs hv
    have h1 := hs.Ld hA
    refine ⟨m1, ?_, hs, fun q hq => hv q (by omega)⟩
    rw [j_X0_copyOf_42, if_pos h1.1, h1.2.1.2.1, obind, if_pos (h1.2.2.1.2.1.Y (by decide)), h1.2.2.1.2.1.L, if_neg (by omega), j_X0_copyOf_70]
  | succ n ih =>
    intro k m1 hk hs hv
    have h1 := hs.Ld hA
    have h2 := hs.Ld hB
    have l1 := (h1.2.2.2.2.2 k (by omega)).2
    have l2 := (h2.2.2.2.2.2 k (by omega)).2
    have e1 : zadd (k : Int) 1 = ((k + 1 : Nat) : Int) := zadd_nat (k := 1) (by omega)
    obtain ⟨m2, f1, f2, f3⟩ := s_copyLine (v := 0) l1 l2 (by omega) (by rw [hs.i (by omega)]; exact hz k (by omega))
    have hs2 := hs.tr (f2.mono (lo' := A + 12) (hi' := A + 28) (by omega) (by omega))
    obtain ⟨m', g1, g2, g3⟩ := ih (k + 1) m2 (by omega) hs2 (fun q hq => by
      by_cases e : q = k
      · subst e
        unfold CpL at f3 ⊢
        rw [hs.i (show B + 12 + 2 * q < A + 12 ∨ A + 28 ≤ B + 12 + 2 * q by omega), hs.i (show B + 12 + 2 * q < A + 12 ∨ A + 28 ≤ B + 12 + 2 * q by omega), hs.i (show B + 12 + 2 * q < A + 12 ∨ A + 28 ≤ B + 12 + 2 * q by omega)] at f3
        exact ⟨f3.1, f3.2.1, f3.2.2.1, fun j hj => by rw [f3.2.2.2 j hj, hs.i (by omega)]⟩
      · exact (hv q (by omega)).sam f2 (by omega))
    refine ⟨m', ?_, g2, g3⟩
    rw [j_X0_copyOf_42, if_pos h1.1, h1.2.1.2.1, obind, if_pos (h1.2.2.1.2.1.Y (by decide)), h1.2.2.1.2.1.L, if_pos (by omega), if_pos h1.1, s_lineAt h1 (by omega), zC4_s, if_pos h2.1, s_lineAt h2 (by omega), zC4_s, if_pos l1.1, f1, zC0_s, e1]
    exact g1
theorem s_copyLand_words (hA : LdS m A) (hB : LdS m B) (hd : A + 28 ≤ B ∨ B + 28 ≤ A) : ∀ (n k : Nat) (m1 : zM), k + n = 8 → Sam m m1 (A + 1) (A + 2) → (∀ q, q < k → zl m1 (A + 1) q = zl m (B + 1) q) →
    ∃ m', zX zP 15 v 72 [some ((.inr (.inr (some A)))), some ((.inr (.inr (some B)))), some (.inl (k : Int))] [] m1 = zX zP 15 v 110 [some ((.inr (.inr (some A)))), some ((.inr (.inr (some B)))), some (.inl 0)] [] m' ∧ Sam m m' (A + 1) (A + 2) ∧ ∀ q, q < 8 → zl m' (A + 1) q = zl m (B + 1) q := by
  intro n
  induction n with
  | zero =>
    intro k m1 hk hs hv
    have h1 := hs.Ld hA
    refine ⟨m1, ?_, hs, fun q hq => hv q (by omega)⟩
    rw [j_X0_copyOf_72, if_pos h1.1, h1.2.1.1, obind, if_pos (h1.2.2.1.1.Y (by decide)), h1.2.2.1.1.L, if_neg (by omega), j_X0_copyOf_108]
  | succ n ih =>
    intro k m1 hk hs hv
    have h1 := hs.Ld hA
    have h2 := hs.Ld hB
    have e1 : zadd (k : Int) 1 = ((k + 1 : Nat) : Int) := zadd_nat (k := 1) (by omega)
    have er : zl m1 (B + 1) k = zl m (B + 1) k := hs.l (by omega) k
    obtain ⟨m', g1, g2, g3⟩ := ih (k + 1) (zwl m1 (A + 1) k (zl m (B + 1) k)) (by omega) (hs.tr (Sam.wl m1 _ _ (by omega) (by omega))) (fun q hq => by
      by_cases e : q = k
      · subst e; exact zl_wl_s _ _ _ _
      · rw [zl_wl_off _ _ (Or.inr e)]; exact hv q (by omega))
    refine ⟨m', ?_, g2, g3⟩
    rw [j_X0_copyOf_72, if_pos h1.1, h1.2.1.1, obind, if_pos (h1.2.2.1.1.Y (by decide)), h1.2.2.1.1.L, if_pos (by omega), if_pos h2.1, h2.2.1.1, obind, if_pos (h2.2.2.1.1.Y (by decide)), h2.2.2.1.1.L, if_pos (by omega), if_pos h1.1, obind, if_pos h2.1, obind, if_pos (h2.2.2.1.1.A (by omega) (by omega)), if_pos (h1.2.2.1.1.A (by omega) (by omega)), Int.toNat_natCast, er, e1]
    exact g1
theorem s_copyLand_people (hA : LdS m A) (hB : LdS m B) (hd : A + 28 ≤ B ∨ B + 28 ≤ A) : ∀ (n k : Nat) (m1 : zM), k + n = 6 → Sam m m1 (A + 5) (A + 8) → (∀ q, q < k → zl m1 (A + 5) q = zl m (B + 5) q ∧ zi m1 (A + 6) q = zi m (B + 6) q ∧ zl m1 (A + 7) q = zl m (B + 7) q) →
    ∃ m' x2, zX zP 15 v 110 [some ((.inr (.inr (some A)))), some ((.inr (.inr (some B)))), some (.inl (k : Int))] [] m1 = zX zP 15 v 166 [some ((.inr (.inr (some A)))), some ((.inr (.inr (some B)))), some (.inl x2)] [] m' ∧ Sam m m' (A + 5) (A + 8) ∧ ∀ q, q < 6 → zl m' (A + 5) q = zl m (B + 5) q ∧ zi m' (A + 6) q = zi m (B + 6) q ∧ zl m' (A + 7) q = zl m (B + 7) q := by
  intro n
  induction n with
  | zero =>
    intro k m1 hk hs hv
    have h1 := hs.Ld hA
    refine ⟨m1, (k : Int), ?_, hs, fun q hq => hv q (by omega)⟩
    rw [j_X0_copyOf_110, if_pos h1.1, h1.2.1.2.2.2.1, obind, if_pos (h1.2.2.1.2.2.1.Y (by decide)), h1.2.2.1.2.2.1.L, if_neg (by omega)]
  | succ n ih =>
    intro k m1 hk hs hv
    have h1 := hs.Ld hA
    have h2 := hs.Ld hB
    have e1 : zadd (k : Int) 1 = ((k + 1 : Nat) : Int) := zadd_nat (k := 1) (by omega)
    have er : zl m1 (B + 5) k = zl m (B + 5) k := hs.l (by omega) k
    have w1 : Sam m1 (zwl m1 (A + 5) k (zl m (B + 5) k)) (A + 5) (A + 8) := Sam.wl m1 _ _ (by omega) (by omega)
    have s1 := hs.tr w1
    have er2 : zi (zwl m1 (A + 5) k (zl m (B + 5) k)) (B + 6) k = zi m (B + 6) k := s1.i (by omega) k
    have w2 : Sam (zwl m1 (A + 5) k (zl m (B + 5) k)) (zwi (zwl m1 (A + 5) k (zl m (B + 5) k)) (A + 6) k (zi m (B + 6) k)) (A + 5) (A + 8) := Sam.wi _ _ _ (by omega) (by omega)
    have s2 := s1.tr w2
    have er3 : zl (zwi (zwl m1 (A + 5) k (zl m (B + 5) k)) (A + 6) k (zi m (B + 6) k)) (B + 7) k = zl m (B + 7) k := s2.l (by omega) k
    have w3 : Sam (zwi (zwl m1 (A + 5) k (zl m (B + 5) k)) (A + 6) k (zi m (B + 6) k)) (zwl (zwi (zwl m1 (A + 5) k (zl m (B + 5) k)) (A + 6) k (zi m (B + 6) k)) (A + 7) k (zl m (B + 7) k)) (A + 5) (A + 8) := Sam.wl _ _ _ (by omega) (by omega)
    obtain ⟨m', x2, g1, g2, g3⟩ := ih (k + 1) _ (by omega) (s2.tr w3) (fun q hq => by
      by_cases e : q = k
      · subst e
        refine ⟨?_, ?_, zl_wl_s _ _ _ _⟩
        · rw [zl_wl_off _ _ (Or.inl (by omega))]; exact zl_wl_s _ _ _ _
        · exact zi_wi_s _ _ _ _
      · refine ⟨?_, ?_, ?_⟩
        · rw [zl_wl_off _ _ (Or.inl (by omega))]
          show zl (zwl m1 (A + 5) k (zl m (B + 5) k)) (A + 5) q = _
          rw [zl_wl_off _ _ (Or.inr e)]; exact (hv q (by omega)).1
        · show zi (zwi (zwl m1 (A + 5) k (zl m (B + 5) k)) (A + 6) k (zi m (B + 6) k)) (A + 6) q = _
          rw [zi_wi_n _ _ (Or.inr e)]; exact (hv q (by omega)).2.1
        · rw [zl_wl_off _ _ (Or.inr e)]
          show zl (zwl m1 (A + 5) k (zl m (B + 5) k)) (A + 7) q = _
          rw [zl_wl_off _ _ (Or.inl (by omega))]; exact (hv q (by omega)).2.2)
    refine ⟨m', x2, ?_, g2, g3⟩
    rw [j_X0_copyOf_110, if_pos h1.1, h1.2.1.2.2.2.1, obind, if_pos (h1.2.2.1.2.2.1.Y (by decide)), h1.2.2.1.2.2.1.L, if_pos (by omega), if_pos h2.1, h2.2.1.2.2.2.1, obind, if_pos (h2.2.2.1.2.2.1.Y (by decide)), h2.2.2.1.2.2.1.L, if_pos (by omega), if_pos h1.1, obind, if_pos h2.1, obind, if_pos (h2.2.2.1.2.2.1.A (by omega) (by omega)), if_pos (h1.2.2.1.2.2.1.A (by omega) (by omega)), Int.toNat_natCast, er, if_pos (s1.Ld hB).1, s_placeAt (s1.Ld hB) (by omega), zC1_s, if_pos (s1.Ld hA).1, er2, s_stand (s1.Ld hA) (by omega), zC0_s, if_pos (s2.Ld hB).1, s_rowAt (s2.Ld hB) (by omega), zC2_s, if_pos (s2.Ld hA).1, er3, s_say (s2.Ld hA) (by omega), zC0_s, e1]
    exact g1
theorem s_copyLand {q : zBl} (hA : LdS m A) (hB : LdS m B) (hd : A + 28 ≤ B ∨ B + 28 ≤ A) (hv : BvC m B q) :
    ∃ m', zF zP 15 v [(.inr (.inr (some A))), (.inr (.inr (some B)))] m = some (none, m') ∧ Sam m m' A (A + 28) ∧ BvC m' A q := by
  obtain ⟨⟨⟨w1, w2, w3⟩, ⟨l1, l2, l3⟩, ⟨p1, p2, p3⟩, o1, o2, o3⟩, hy⟩ := hv
  have e : ∀ (m : zM) (k : Nat) (x : Int) (j : Nat), zi (zwi m A k x) B j = zi m B j := fun m k x j => zi_wi_n _ _ (Or.inl (by omega))
  have hs : Sam m (zwi (zwi (zwi (zwi (zwi m A 7 (zi m B 7)) A 8 (zi m B 8)) A 9 (zi m B 9)) A 10 (zi m B 10)) A 11 (zi m B 11)) A (A + 1) := ((((Sam.wi m _ _ (by omega) (by omega)).tr (Sam.wi _ _ _ (by omega) (by omega))).tr (Sam.wi _ _ _ (by omega) (by omega))).tr (Sam.wi _ _ _ (by omega) (by omega))).tr (Sam.wi _ _ _ (by omega) (by omega))
  have c7 : zi (zwi (zwi (zwi (zwi (zwi m A 7 (zi m B 7)) A 8 (zi m B 8)) A 9 (zi m B 9)) A 10 (zi m B 10)) A 11 (zi m B 11)) A 7 = zi m B 7 := by rw [zi_wi_n _ _ (Or.inr (by decide)), zi_wi_n _ _ (Or.inr (by decide)), zi_wi_n _ _ (Or.inr (by decide)), zi_wi_n _ _ (Or.inr (by decide)), zi_wi_s]
  have c8 : zi (zwi (zwi (zwi (zwi (zwi m A 7 (zi m B 7)) A 8 (zi m B 8)) A 9 (zi m B 9)) A 10 (zi m B 10)) A 11 (zi m B 11)) A 8 = zi m B 8 := by rw [zi_wi_n _ _ (Or.inr (by decide)), zi_wi_n _ _ (Or.inr (by decide)), zi_wi_n _ _ (Or.inr (by decide)), zi_wi_s]
  have c9 : zi (zwi (zwi (zwi (zwi (zwi m A 7 (zi m B 7)) A 8 (zi m B 8)) A 9 (zi m B 9)) A 10 (zi m B 10)) A 11 (zi m B 11)) A 9 = zi m B 9 := by rw [zi_wi_n _ _ (Or.inr (by decide)), zi_wi_n _ _ (Or.inr (by decide)), zi_wi_s]
  have c10 : zi (zwi (zwi (zwi (zwi (zwi m A 7 (zi m B 7)) A 8 (zi m B 8)) A 9 (zi m B 9)) A 10 (zi m B 10)) A 11 (zi m B 11)) A 10 = zi m B 10 := by rw [zi_wi_n _ _ (Or.inr (by decide)), zi_wi_s]
  have c11 : zi (zwi (zwi (zwi (zwi (zwi m A 7 (zi m B 7)) A 8 (zi m B 8)) A 9 (zi m B 9)) A 10 (zi m B 10)) A 11 (zi m B 11)) A 11 = zi m B 11 := by rw [zi_wi_s]
  rw [f_X0_copyOf]
  simp only [zT_wi, e]
  unfold zLet
  simp only [zT_wi, e]
  rw [if_pos hB.1, if_pos hA.1, if_pos hB.1, if_pos hA.1, if_pos hB.1, if_pos hA.1, if_pos hB.1, if_pos hA.1, if_pos hB.1, if_pos hA.1]
  generalize zwi (zwi (zwi (zwi (zwi m A 7 (zi m B 7)) A 8 (zi m B 8)) A 9 (zi m B 9)) A 10 (zi m B 10)) A 11 (zi m B 11) = m1 at hs c7 c8 c9 c10 c11 ⊢
  obtain ⟨m2, f1, f2, f3⟩ := s_copyLand_lines (v := v) (hs.Ld hA) (hs.Ld hB) hd (fun i hi => by rw [hs.i (by omega)]; exact o3 i hi) 8 0 m1 rfl (Sam.rf _ _ _) (fun q hq => absurd hq (Nat.not_lt_zero q))
  have t2 : Sam m m2 A (A + 28) := (hs.mono (by omega) (by omega)).tr (f2.mono (by omega) (by omega))
  obtain ⟨m3, g1, g2, g3⟩ := s_copyLand_words (v := v) (t2.Ld hA) (t2.Ld hB) hd 8 0 m2 rfl (Sam.rf _ _ _) (fun q hq => absurd hq (Nat.not_lt_zero q))
  have t3 := t2.tr (g2.mono (lo' := A) (hi' := A + 28) (by omega) (by omega))
  obtain ⟨m4, x2, h1, h2, h3⟩ := s_copyLand_people (v := v) (t3.Ld hA) (t3.Ld hB) hd 6 0 m3 rfl (Sam.rf _ _ _) (fun q hq => absurd hq (Nat.not_lt_zero q))
  have t4 := t3.tr (h2.mono (lo' := A) (hi' := A + 28) (by omega) (by omega))
  have yA := (t4.Ld hA).2.2.2.1
  have yB := (t4.Ld hB).2.2.2.1
  obtain ⟨m5, k1, k2, k3⟩ := s_copyYears (v := 0) yA yB (by omega) (t4.yvC (b := B + 8) (by omega) hy)
  have t5 := t4.tr (k2.mono (lo' := A) (hi' := A + 28) (by omega) (by omega))
  have eA : ∀ j, zi m5 A j = zi m1 A j := fun j => by rw [k2.i (by omega), h2.i (by omega), g2.i (by omega), f2.i (by omega)]
  refine ⟨m5, ?_, t5, ⟨⟨⟨?_, w2, fun i hi => ?_⟩, ⟨?_, l2, fun i hi => ?_⟩, ⟨?_, p2, fun i hi => ?_⟩, ?_, ?_, fun i hi => ?_⟩, k3⟩⟩
  · have e0 : ((0 : Nat) : Int) = 0 := rfl
    rw [e0] at f1 g1 h1
    refine f1.trans (g1.trans (h1.trans ?_))
    rw [j_X0_copyOf_166, if_pos (t4.Ld hA).1, (t4.Ld hA).2.1.2.2.2.2.2.2, obind, if_pos (t4.Ld hB).1, (t4.Ld hB).2.1.2.2.2.2.2.2, obind, if_pos yA.1, k1, zC0_s]
  · rw [eA, c8]; exact w1
  · rw [k2.l (by omega), h2.l (by omega), g3 i (by omega), t2.l (by omega)]; exact w3 i hi
  · rw [eA, c9]; exact l1
  · have cp := ((((f3 i (by omega)).sam g2 (by omega)).sam h2 (by omega)).sam k2 (by omega))
    exact cp.lnV (hs.lnV (by omega) (l3 i hi))
  · rw [eA, c10]; exact p1
  · obtain ⟨x1, x2, x3⟩ := h3 i (by omega)
    rw [k2.l (by omega), k2.i (by omega), k2.l (by omega), x1, x2, x3, t3.l (by omega), t3.i (by omega), t3.l (by omega)]; exact p3 i hi
  · rw [eA, c7]; exact o1
  · rw [eA, c11]; exact o2
  · have cp := ((((f3 i (by omega)).sam g2 (by omega)).sam h2 (by omega)).sam k2 (by omega))
    rw [cp.2.2.1, hs.i (by omega)]; exact o3 i hi
end COPY
