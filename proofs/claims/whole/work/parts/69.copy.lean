/-! A LAND becomes as another one is: the class. -/
def CpL (m m' : zM) (a b : Nat) : Prop := zi m' a 1 = zi m b 1 ∧ zi m' a 2 = zi m b 2 ∧ zi m' a 3 = zi m b 3 ∧ ∀ k, k < 4 → zi m' (a + 1) k = zi m (b + 1) k
section COPY
variable {v : Nat} {S : zSt} {m m' : zM} {a b A B : Nat}
theorem CpL.lnV {num : Int} {lost : Bool} {es : List zEd} (h : CpL m m' a b) (hv : LnV m b num lost es) : LnV m' a num lost es := by
  unfold LnV at hv ⊢
  rw [h.1, h.2.1, h.2.2.1]
  exact ⟨hv.1, hv.2.1, hv.2.2.1, hv.2.2.2.1, hv.2.2.2.2.1, fun i hi => by rw [h.2.2.2 i (by omega)]; exact hv.2.2.2.2.2 i hi⟩
theorem s_copyLine_loop (hA : LnS m a) (hB : LnS m b) (hd : b + 2 ≤ a ∨ a + 2 ≤ b) : ∀ (n k : Nat) (m1 : zM), k + n = 4 → Sam m m1 (a + 1) (a + 2) → (∀ q, q < k → zi m1 (a + 1) q = zi m (b + 1) q) →
    ∃ m', zX zP 7 v 26 [some (.inr (.inr (some a))), some (.inr (.inr (some b))), some (.inl (k : Int))] [] m1 = some (none, m') ∧ Sam m m' (a + 1) (a + 2) ∧ ∀ q, q < 4 → zi m' (a + 1) q = zi m (b + 1) q := by
  intro n
  induction n with
  | zero =>
    intro k m1 hk hs hv
    have h1 := hs.Ln hA
    refine ⟨m1, ?_, hs, fun q hq => hv q (by omega)⟩
    rw [j_X2_copyOf_26, if_pos h1.1, h1.2.1, obind, if_pos h1.Y, h1.2.2.2, if_neg (by omega), j_X2_copyOf_52]
  | succ n ih =>
    intro k m1 hk hs hv
    have h1 := hs.Ln hA
    have h2 := hs.Ln hB
    have e1 : zadd (k : Int) 1 = ((k + 1 : Nat) : Int) := zadd_nat (k := 1) (by omega)
    have er : zi m1 (b + 1) k = zi m (b + 1) k := hs.i (by omega) k
    obtain ⟨m', f1, f2, f3⟩ := ih (k + 1) (zwi m1 (a + 1) k (zi m (b + 1) k)) (by omega) (hs.tr (Sam.wi m1 _ _ (by omega) (by omega))) (fun q hq => by
      by_cases e : q = k
      · subst e; exact zi_wi_s _ _ _ _
      · rw [zi_wi_n _ _ (Or.inr e)]; exact hv q (by omega))
    refine ⟨m', ?_, f2, f3⟩
    rw [j_X2_copyOf_26, if_pos h1.1, h1.2.1, obind, if_pos h1.Y, h1.2.2.2, if_pos (by omega), if_pos h1.1, obind, if_pos h2.1, s_editAt h2 (by omega), zC1_s, if_pos (h1.A (by omega) (by omega)), Int.toNat_natCast, er, e1]
    exact f1
theorem s_copyLine (hA : LnS m a) (hB : LnS m b) (hd : b + 2 ≤ a ∨ a + 2 ≤ b) (hz : zb (zi m b 3) = true) :
    ∃ m', zF zP 7 v [.inr (.inr (some a)), .inr (.inr (some b))] m = some (none, m') ∧ Sam m m' a (a + 2) ∧ CpL m m' a b := by
  have e : ∀ (m : zM) (k : Nat) (x : Int) (j : Nat), zi (zwi m a k x) b j = zi m b j := fun m k x j => zi_wi_n _ _ (Or.inl (by omega))
  have hs : Sam m (zwi (zwi (zwi m a 1 (zi m b 1)) a 2 (zi m b 2)) a 3 (zi m b 3)) a (a + 1) := ((Sam.wi m _ _ (by omega) (by omega)).tr (Sam.wi _ _ _ (by omega) (by omega))).tr (Sam.wi _ _ _ (by omega) (by omega))
  have c1 : zi (zwi (zwi (zwi m a 1 (zi m b 1)) a 2 (zi m b 2)) a 3 (zi m b 3)) a 1 = zi m b 1 := by rw [zi_wi_n _ _ (Or.inr (by decide)), zi_wi_n _ _ (Or.inr (by decide)), zi_wi_s]
  have c2 : zi (zwi (zwi (zwi m a 1 (zi m b 1)) a 2 (zi m b 2)) a 3 (zi m b 3)) a 2 = zi m b 2 := by rw [zi_wi_n _ _ (Or.inr (by decide)), zi_wi_s]
  have c3 : zi (zwi (zwi (zwi m a 1 (zi m b 1)) a 2 (zi m b 2)) a 3 (zi m b 3)) a 3 = zi m b 3 := by rw [zi_wi_s]
  rw [f_X2_copyOf]
  simp only [zT_wi, e]
  unfold zLet
  rw [if_pos hB.1, if_pos hA.1, if_pos hB.1, if_pos hA.1, if_pos hB.1, if_pos (by rw [hA.1, hz]; rfl)]
  generalize zwi (zwi (zwi m a 1 (zi m b 1)) a 2 (zi m b 2)) a 3 (zi m b 3) = m1 at hs c1 c2 c3 ⊢
  obtain ⟨m', f1, f2, f3⟩ := s_copyLine_loop (v := v) (hs.Ln hA) (hs.Ln hB) hd 4 0 m1 rfl (Sam.rf _ _ _) (fun q hq => absurd hq (Nat.not_lt_zero q))
  refine ⟨m', f1, (hs.mono (by omega) (by omega)).tr (f2.mono (by omega) (by omega)), ?_⟩
  unfold CpL
  rw [f2.i (by omega), f2.i (by omega), f2.i (by omega)]
  exact ⟨c1, c2, c3, fun k hk => by rw [f3 k hk, hs.i (by omega)]⟩
theorem s_copyYears_loop (hA : YrS m a) (hB : YrS m b) (hd : b + 4 ≤ a ∨ a + 4 ≤ b) : ∀ (n k : Nat) (m1 : zM), k + n = 60 → Sam m m1 (a + 1) (a + 3) → (∀ q, q < k → zi m1 (a + 1) q = zi m (b + 1) q ∧ zi m1 (a + 2) q = zi m (b + 2) q) →
    ∃ m', zX zP 14 v 34 [some (.inr (.inr (some a))), some (.inr (.inr (some b))), some (.inl (k : Int))] [] m1 = some (none, m') ∧ Sam m m' (a + 1) (a + 3) ∧ ∀ q, q < 60 → zi m' (a + 1) q = zi m (b + 1) q ∧ zi m' (a + 2) q = zi m (b + 2) q := by
  intro n
  induction n with
  | zero =>
    intro k m1 hk hs hv
    obtain ⟨t1, ⟨r0, r1, r2⟩, k1, k2, k3⟩ := hs.Yr hA
    refine ⟨m1, ?_, hs, fun q hq => hv q (by omega)⟩
    rw [j_X8_copyOf_34, if_pos t1, r0, obind, if_pos (k1.Y (by decide)), k1.L, if_neg (by omega), j_X8_copyOf_80]
  | succ n ih =>
    intro k m1 hk hs hv
    obtain ⟨t1, ⟨r0, r1, r2⟩, k1, k2, k3⟩ := hs.Yr hA
    obtain ⟨t1', ⟨r0', r1', r2'⟩, k1', k2', k3'⟩ := hs.Yr hB
    have e1 : zadd (k : Int) 1 = ((k + 1 : Nat) : Int) := zadd_nat (k := 1) (by omega)
    have er : zi m1 (b + 1) k = zi m (b + 1) k := hs.i (by omega) k
    have hw : Sam m1 (zwi m1 (a + 1) k (zi m (b + 1) k)) (a + 1) (a + 3) := Sam.wi m1 _ _ (by omega) (by omega)
    have hw2 : Sam (zwi m1 (a + 1) k (zi m (b + 1) k)) (zwi (zwi m1 (a + 1) k (zi m (b + 1) k)) (a + 2) k (zi m (b + 2) k)) (a + 1) (a + 3) := Sam.wi _ _ _ (by omega) (by omega)
    have er2 : zi (zwi m1 (a + 1) k (zi m (b + 1) k)) (b + 2) k = zi m (b + 2) k := by rw [(hs.tr hw).i (by omega)]
    obtain ⟨u1, ⟨s0, s1, s2⟩, g1, g2, g3⟩ := (hs.tr hw).Yr hA
    obtain ⟨u1', ⟨s0', s1', s2'⟩, g1', g2', g3'⟩ := (hs.tr hw).Yr hB
    have o1 : ∀ mm : zM, zT mm b 5 = true → zr mm b 0 = some (b + 1) → ArS mm (b + 1) 9 60 → zF zP 12 0 [.inr (.inr (some b)), .inl (k : Int)] mm = some (some (.inl (zi mm (b + 1) k)), mm) := fun mm q1 q2 q3 => by
      rw [f_X8_operationAt, if_neg (by omega), if_pos q1, q2, obind, if_pos (q3.Y (by decide)), q3.L, if_pos (by omega), if_pos q1, obind, if_pos (q3.A (by omega) (by omega)), Int.toNat_natCast, j_X8_operationAt_23]
    have o2 : ∀ mm : zM, zT mm b 5 = true → zr mm b 1 = some (b + 2) → ArS mm (b + 2) 9 60 → zF zP 13 0 [.inr (.inr (some b)), .inl (k : Int)] mm = some (some (.inl (zi mm (b + 2) k)), mm) := fun mm q1 q2 q3 => by
      rw [f_X8_partnerOf, if_neg (by omega), if_pos q1, q2, obind, if_pos (q3.Y (by decide)), q3.L, if_pos (by omega), if_pos q1, obind, if_pos (q3.A (by omega) (by omega)), Int.toNat_natCast, j_X8_partnerOf_23]
    obtain ⟨m', f1, f2, f3⟩ := ih (k + 1) (zwi (zwi m1 (a + 1) k (zi m (b + 1) k)) (a + 2) k (zi m (b + 2) k)) (by omega) ((hs.tr hw).tr hw2) (fun q hq => by
      by_cases e : q = k
      · subst e
        refine ⟨?_, zi_wi_s _ _ _ _⟩
        rw [zi_wi_n _ _ (Or.inl (by omega)), zi_wi_s]
      · rw [zi_wi_n _ _ (Or.inl (by omega)), zi_wi_n _ _ (Or.inr e), zi_wi_n _ _ (Or.inr e), zi_wi_n _ _ (Or.inl (by omega))]; exact hv q (by omega))
    refine ⟨m', ?_, f2, f3⟩
    rw [j_X8_copyOf_34, if_pos t1, r0, obind, if_pos (k1.Y (by decide)), k1.L, if_pos (by omega), if_pos t1, r1, obind, if_pos (k2.Y (by decide)), k2.L, if_pos (by omega), if_pos t1, obind, if_pos t1', o1 m1 t1' r0' k1', zC1_s, if_pos (k1.A (by omega) (by omega)), Int.toNat_natCast, er, if_pos u1, s1, obind, if_pos u1', o2 _ u1' s1' g2', zC1_s, if_pos (g2.A (by omega) (by omega)), er2, e1]
    exact f1
theorem s_copyYears {y : zYr} (hA : YrS m a) (hB : YrS m b) (hd : b + 4 ≤ a ∨ a + 4 ≤ b) (hy : YvC m b y) :
    ∃ m', zF zP 14 v [.inr (.inr (some a)), .inr (.inr (some b))] m = some (none, m') ∧ Sam m m' a (a + 4) ∧ YvC m' a y := by
  have e : ∀ (m : zM) (k : Nat) (x : Int) (j : Nat), zi (zwi m a k x) b j = zi m b j := fun m k x j => zi_wi_n _ _ (Or.inl (by omega))
  have hs : Sam m (zwi (zwi (zwi (zwi m a 3 (zi m b 3)) a 4 (zi m b 4)) a 5 (zi m b 5)) a 6 (zi m b 6)) a (a + 1) := (((Sam.wi m _ _ (by omega) (by omega)).tr (Sam.wi _ _ _ (by omega) (by omega))).tr (Sam.wi _ _ _ (by omega) (by omega))).tr (Sam.wi _ _ _ (by omega) (by omega))
  have c3 : zi (zwi (zwi (zwi (zwi m a 3 (zi m b 3)) a 4 (zi m b 4)) a 5 (zi m b 5)) a 6 (zi m b 6)) a 3 = zi m b 3 := by rw [zi_wi_n _ _ (Or.inr (by decide)), zi_wi_n _ _ (Or.inr (by decide)), zi_wi_n _ _ (Or.inr (by decide)), zi_wi_s]
  have c4 : zi (zwi (zwi (zwi (zwi m a 3 (zi m b 3)) a 4 (zi m b 4)) a 5 (zi m b 5)) a 6 (zi m b 6)) a 4 = zi m b 4 := by rw [zi_wi_n _ _ (Or.inr (by decide)), zi_wi_n _ _ (Or.inr (by decide)), zi_wi_s]
  have c5 : zi (zwi (zwi (zwi (zwi m a 3 (zi m b 3)) a 4 (zi m b 4)) a 5 (zi m b 5)) a 6 (zi m b 6)) a 5 = zi m b 5 := by rw [zi_wi_n _ _ (Or.inr (by decide)), zi_wi_s]
  rw [f_X8_copyOf]
  simp only [zT_wi, e]
  unfold zLet
  simp only [zT_wi, e]
  rw [if_pos hB.1, if_pos (by rw [hA.1, hy.1, zb_b01]; rfl), if_pos hB.1, if_pos hA.1, if_pos hB.1, if_pos hA.1, if_pos hB.1, if_pos hA.1]
  generalize zwi (zwi (zwi (zwi m a 3 (zi m b 3)) a 4 (zi m b 4)) a 5 (zi m b 5)) a 6 (zi m b 6) = m1 at hs c3 c4 c5 ⊢
  obtain ⟨m', f1, f2, f3⟩ := s_copyYears_loop (v := v) (hs.Yr hA) (hs.Yr hB) hd 60 0 m1 rfl (Sam.rf _ _ _) (fun q hq => absurd hq (Nat.not_lt_zero q))
  refine ⟨m', f1, (hs.mono (by omega) (by omega)).tr (f2.mono (by omega) (by omega)), ?_⟩
  unfold YvC at hy ⊢
  rw [f2.i (by omega), f2.i (by omega), f2.i (by omega), c3, c4, c5]
  refine ⟨hy.1, fun t ht => ?_⟩
  obtain ⟨z1, z2, z3, z4, z5⟩ := hy.2 t ht
  refine ⟨z1, z2, z3, z4, fun i hi => ?_⟩
  obtain ⟨x1, x2⟩ := f3 i (by omega)
  rw [x1, x2, hs.i (by omega), hs.i (by omega)]
  exact z5 i hi
end COPY
