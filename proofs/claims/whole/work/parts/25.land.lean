/-! A LAND of the class: its shape, what it holds, its readers. -/
def ArS (m : zM) (b t n : Nat) : Prop := b < zn m ∧ zk m b = (t, n)
theorem ArS.Y {m : zM} {b t n : Nat} (h : ArS m b t n) (ht : 8 ≤ t ∧ t < 14) : zY m b = true := zY_i h.1 h.2 ht
theorem ArS.A {m : zM} {b t n : Nat} (h : ArS m b t n) {x : Int} (h0 : 0 ≤ x) (h1 : x < (n : Int)) : zA m b t x = true := zA_i h.1 h.2 h0 h1
theorem ArS.L {m : zM} {b t n : Nat} (h : ArS m b t n) : ((zk m b).2 : Int) = (n : Int) := by rw [h.2]
/-- YEARS' shape -/
def YrS (m : zM) (a : Nat) : Prop := zT m a 5 = true ∧ (zr m a 0 = some (a + 1) ∧ zr m a 1 = some (a + 2) ∧ zr m a 2 = some (a + 3)) ∧ ArS m (a + 1) 9 60 ∧ ArS m (a + 2) 9 60 ∧ ArS m (a + 3) 9 3
def LdS (m : zM) (a : Nat) : Prop := zT m a 0 = true ∧ (zr m a 0 = some (a + 1) ∧ zr m a 1 = some (a + 2) ∧ zr m a 2 = some (a + 3) ∧ zr m a 3 = some (a + 5) ∧ zr m a 4 = some (a + 6) ∧ zr m a 5 = some (a + 7) ∧ zr m a 6 = some (a + 8)) ∧
  (ArS m (a + 1) 10 8 ∧ ArS m (a + 2) 12 8 ∧ ArS m (a + 5) 10 6 ∧ ArS m (a + 6) 9 6 ∧ ArS m (a + 7) 10 6) ∧ YrS m (a + 8) ∧ LnS m (a + 3) ∧ ∀ i, i < 8 → zr m (a + 2) i = some (a + 12 + 2 * i) ∧ LnS m (a + 12 + 2 * i)
/-- what a LINE, a PERSON is; a LAND: names, LINES, PEOPLE, ODDS, today -/
abbrev zLn : Type := Int × Bool × List zEd
abbrev zPs0 : Type := Int × Nat × List Nat
abbrev zLd : Type := List Int × List zLn × List zPs0 × Int × Int
def ln0 : zLn := (0, false, [])
def ps0 : zPs0 := (0, 0, [])
def LdV (m : zM) (a : Nat) (L : zLd) : Prop :=
  (zi m a 8 = (L.1.length : Int) ∧ L.1.length ≤ 8 ∧ ∀ i, i < L.1.length → zl m (a + 1) i = L.1.getD i 0) ∧
  (zi m a 9 = (L.2.1.length : Int) ∧ L.2.1.length ≤ 8 ∧ ∀ i, i < L.2.1.length → LnV m (a + 12 + 2 * i) (L.2.1.getD i ln0).1 (L.2.1.getD i ln0).2.1 (L.2.1.getD i ln0).2.2) ∧
  (zi m a 10 = (L.2.2.1.length : Int) ∧ L.2.2.1.length ≤ 6 ∧ ∀ i, i < L.2.2.1.length → zl m (a + 5) i = (L.2.2.1.getD i ps0).1 ∧ zi m (a + 6) i = ((L.2.2.1.getD i ps0).2.1 : Int) ∧ zl m (a + 7) i = zrow (L.2.2.1.getD i ps0).2.2 ∧ rOk (L.2.2.1.getD i ps0).2.2 ∧ (L.2.2.1.getD i ps0).2.1 < L.2.1.length) ∧
  zi m a 7 = L.2.2.2.1 ∧ zi m a 11 = L.2.2.2.2 ∧ ∀ i, i < 8 → zb (zi m (a + 12 + 2 * i) 3) = true
theorem s_lineAt {v : Nat} {m : zM} {a i : Nat} (h : LdS m a) (hi : i < 8) : zF zP 5 v [.inr (.inr (some a)), .inl (i : Int)] m = some (some (.inr (.inr (some (a + 12 + 2 * i)))), m) := by
  obtain ⟨h1, ⟨r0, r1, r2, r3, r4, r5, r6⟩, ⟨k1, k2, k5, k6, k7⟩, hy, hn, hl⟩ := h
  rw [f_X0_lineAt, if_neg (by omega), if_pos h1, r1, obind, if_pos (k2.Y (by decide)), k2.L, if_pos (by omega), if_pos h1, obind, if_pos (k2.A (by omega) (by omega)), Int.toNat_natCast, (hl i hi).1, obind, j_X0_lineAt_23_rs0A, j_X0_lineAt_35, j_X0_lineAt_36]
theorem s_placeAt {v : Nat} {m : zM} {a i : Nat} (h : LdS m a) (hi : i < 6) : zF zP 8 v [.inr (.inr (some a)), .inl (i : Int)] m = some (some (.inl (zi m (a + 6) i)), m) := by
  obtain ⟨h1, ⟨r0, r1, r2, r3, r4, r5, r6⟩, ⟨k1, k2, k5, k6, k7⟩, hy, hn, hl⟩ := h
  rw [f_X0_placeAt, if_neg (by omega), if_pos h1, r4, obind, if_pos (k6.Y (by decide)), k6.L, if_pos (by omega), if_pos h1, obind, if_pos (k6.A (by omega) (by omega)), Int.toNat_natCast, j_X0_placeAt_23]
theorem s_rowAt {v : Nat} {m : zM} {a i : Nat} (h : LdS m a) (hi : i < 6) : zF zP 10 v [.inr (.inr (some a)), .inl (i : Int)] m = some (some (.inr (.inl (zl m (a + 7) i))), m) := by
  obtain ⟨h1, ⟨r0, r1, r2, r3, r4, r5, r6⟩, ⟨k1, k2, k5, k6, k7⟩, hy, hn, hl⟩ := h
  rw [f_X0_rowAt, if_neg (by omega), if_pos h1, r5, obind, if_pos (k7.Y (by decide)), k7.L, if_pos (by omega), if_pos h1, obind, if_pos (k7.A (by omega) (by omega)), Int.toNat_natCast, j_X0_rowAt_23]
/-- there is a WORD, a LINE, a PERSON -/
def inB (x : Int) (n : Nat) : Bool := decide (0 ≤ x) && decide (x < (n : Int))
theorem inB_t {x : Int} {n : Nat} : inB x n = true ↔ 0 ≤ x ∧ x < (n : Int) := by unfold inB; simp
theorem b01_f {b : Bool} (h : ¬ b = true) : b01 b = 0 := by cases b; rfl; exact absurd rfl h
theorem b01_t {b : Bool} (h : b = true) : b01 b = 1 := by rw [h]; rfl
theorem s_hasWord {v : Nat} {m : zM} {a n : Nat} {x : Int} (h : zT m a 0 = true) (hw : zi m a 8 = (n : Int)) : zF zP 16 v [.inr (.inr (some a)), .inl x] m = some (some (.inl (b01 (inB x n))), m) := by
  rw [f_X0_hasWord]
  by_cases h0 : x < 0
  · rw [if_pos h0, j_X0_hasWord_16, j_X0_hasWord_17, b01_f (by rw [inB_t]; omega)]; rfl
  · rw [if_neg h0, if_pos h, hw]
    by_cases h1 : x < (n : Int)
    · rw [if_pos h1, j_X0_hasWord_17, b01_t (by rw [inB_t]; omega)]; rfl
    · rw [if_neg h1, j_X0_hasWord_16, j_X0_hasWord_17, b01_f (by rw [inB_t]; omega)]; rfl
theorem s_hasLine {v : Nat} {m : zM} {a n : Nat} {x : Int} (h : zT m a 0 = true) (hw : zi m a 9 = (n : Int)) : zF zP 17 v [.inr (.inr (some a)), .inl x] m = some (some (.inl (b01 (inB x n))), m) := by
  rw [f_X0_hasLine]
  by_cases h0 : x < 0
  · rw [if_pos h0, j_X0_hasLine_16, j_X0_hasLine_17, b01_f (by rw [inB_t]; omega)]; rfl
  · rw [if_neg h0, if_pos h, hw]
    by_cases h1 : x < (n : Int)
    · rw [if_pos h1, j_X0_hasLine_17, b01_t (by rw [inB_t]; omega)]; rfl
    · rw [if_neg h1, j_X0_hasLine_16, j_X0_hasLine_17, b01_f (by rw [inB_t]; omega)]; rfl
theorem s_hasPerson {v : Nat} {m : zM} {a n : Nat} {x : Int} (h : zT m a 0 = true) (hw : zi m a 10 = (n : Int)) : zF zP 18 v [.inr (.inr (some a)), .inl x] m = some (some (.inl (b01 (inB x n))), m) := by
  rw [f_X0_hasPerson]
  by_cases h0 : x < 0
  · rw [if_pos h0, j_X0_hasPerson_16, j_X0_hasPerson_17, b01_f (by rw [inB_t]; omega)]; rfl
  · rw [if_neg h0, if_pos h, hw]
    by_cases h1 : x < (n : Int)
    · rw [if_pos h1, j_X0_hasPerson_17, b01_t (by rw [inB_t]; omega)]; rfl
    · rw [if_neg h1, j_X0_hasPerson_16, j_X0_hasPerson_17, b01_f (by rw [inB_t]; omega)]; rfl
/-- a DAY's row of a PERSON -/
def lday (L : zLd) (p : Nat) (l : List Nat) : List Nat := if (L.2.1.getD (L.2.2.1.getD p ps0).2.1 ln0).2.1 = true then l else lput (L.2.1.getD (L.2.2.1.getD p ps0).2.1 ln0).2.2 l
theorem s_rowNextDay {v : Nat} {m : zM} {a p : Nat} {L : zLd} {l : List Nat} (h : LdS m a) (hL : LdV m a L) (hp : p < L.2.2.1.length) (hl : rOk l) :
    zF zP 51 v [.inr (.inr (some a)), .inl (p : Int), .inr (.inl (zrow l))] m = some (some (.inr (.inl (zrow (lday L p l)))), m) := by
  obtain ⟨⟨w1, w2, w3⟩, ⟨l1, l2, l3⟩, ⟨p1, p2, p3⟩, -, -⟩ := hL
  obtain ⟨q1, q2, q3, q4, q5⟩ := p3 p hp
  have hs := (h.2.2.2.2.2 (L.2.2.1.getD p ps0).2.1 (by omega)).2
  have hv := l3 _ q5
  rw [f_X0_rowNextDay, if_pos h.1, s_placeAt h (by omega), zC1_s, if_pos h.1, q2, s_lineAt h (by omega), zC4_s, if_pos hs.1, hv.2.2.1]
  unfold lday
  by_cases hb : (L.2.1.getD (L.2.2.1.getD p ps0).2.1 ln0).2.1 = true
  · rw [b01_t hb, if_neg (by decide), if_pos hb, j_X0_rowNextDay_29]
  · rw [b01_f hb, if_pos rfl, if_neg hb, j_X0_rowNextDay_23, if_pos hs.1, s_putRight hs hv hl, zC2_s, j_X0_rowNextDay_29]
