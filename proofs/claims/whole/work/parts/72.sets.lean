/-! Sets of WORDS: the least one, the next one, how many. -/
def ntz4 (a b : Int) : Int := zadd b (zushr a 1)
def ntz3 (a b : Int) : Int := if 4 < a then ntz4 (zushr a 2) (zadd b 2) else ntz4 a b
def ntz2 (a b : Int) : Int := if 16 < a then ntz3 (zushr a 4) (zadd b 4) else ntz3 a b
def ntz1 (a b : Int) : Int := if 256 < a then ntz2 (zushr a 8) (zadd b 8) else ntz2 a b
def ntz0 (a : Int) : Int := if 65536 < a then ntz1 (zushr a 16) (zadd 1 16) else ntz1 a 1
def ntz (x : Int) : Int := if 0 < zand (zxor x (-1)) (zsub x 1) then ntz0 (zand (zxor x (-1)) (zsub x 1)) else zand (zand (zxor x (-1)) (zsub x 1)) 32
/-- the WORDS of a set, as they come -/
def wsOf (s : Nat) : List Nat := (List.range 8).filter (fun k => s.testBit k)
theorem ws_first {s : Nat} (hs : s < 256) (h0 : s ≠ 0) : ntz (s : Int) = (((wsOf s).getD 0 0 : Nat) : Int) := by
  have key : ∀ s : Fin 256, s.val ≠ 0 → ntz ((s.val : Nat) : Int) = (((wsOf s.val).getD 0 0 : Nat) : Int) := by decide +kernel
  exact key ⟨s, hs⟩ h0
theorem ws_next {s i : Nat} (hs : s < 256) (hi : i < (wsOf s).length) : (zand (s : Int) (zshl (-2) (((wsOf s).getD i 0 : Nat) : Int)) = 0 ↔ (wsOf s).length ≤ i + 1) ∧ (i + 1 < (wsOf s).length → ntz (zand (s : Int) (zshl (-2) (((wsOf s).getD i 0 : Nat) : Int))) = (((wsOf s).getD (i + 1) 0 : Nat) : Int)) := by
  have key : ∀ (s : Fin 256) (i : Fin 8), i.val < (wsOf s.val).length → (zand ((s.val : Nat) : Int) (zshl (-2) (((wsOf s.val).getD i.val 0 : Nat) : Int)) = 0 ↔ (wsOf s.val).length ≤ i.val + 1) ∧ (i.val + 1 < (wsOf s.val).length → ntz (zand ((s.val : Nat) : Int) (zshl (-2) (((wsOf s.val).getD i.val 0 : Nat) : Int))) = (((wsOf s.val).getD (i.val + 1) 0 : Nat) : Int)) := by decide +kernel
  have h8 : (wsOf s).length ≤ 8 := Nat.le_trans (List.length_filter_le _ _) (by rw [List.length_range]; exact Nat.le_refl _)
  exact key ⟨s, hs⟩ ⟨i, by omega⟩ hi
theorem ws_many {s : Nat} (hs : s < 256) : bcnt (s : Int) = ((wsOf s).length : Int) := by
  have key : ∀ s : Fin 256, bcnt ((s.val : Nat) : Int) = ((wsOf s.val).length : Int) := by decide +kernel
  exact key ⟨s, hs⟩
theorem ws_mem {s w : Nat} : w ∈ wsOf s ↔ w < 8 ∧ s.testBit w = true := by
  unfold wsOf
  rw [List.mem_filter, List.mem_range]
theorem ws_len (s : Nat) : (wsOf s).length ≤ 8 := Nat.le_trans (List.length_filter_le _ _) (by rw [List.length_range]; exact Nat.le_refl _)
section SETS
variable {v : Nat} {m : zM}
theorem s_ntz (x : Int) : zF zP 82 v [.inl x] m = some (some (.inl (ntz x)), m) := by
  have h74 : ∀ a b : Int, zX zP 82 v 74 [some (.inl a), some (.inl b)] [] m = some (some (.inl (ntz4 a b)), m) := fun a b => j_J6_numberOfTrailingZeros_0f7a4_74 a b m
  have h62 : ∀ a b : Int, zX zP 82 v 62 [some (.inl a), some (.inl b)] [] m = some (some (.inl (ntz3 a b)), m) := fun a b => by
    rw [j_J6_numberOfTrailingZeros_0f7a4_62]
    unfold ntz3
    by_cases h : 4 < a
    · rw [if_pos h, if_pos h, h74]
    · rw [if_neg h, if_neg h, h74]
  have h49 : ∀ a b : Int, zX zP 82 v 49 [some (.inl a), some (.inl b)] [] m = some (some (.inl (ntz2 a b)), m) := fun a b => by
    rw [j_J6_numberOfTrailingZeros_0f7a4_49]
    unfold ntz2
    by_cases h : 16 < a
    · rw [if_pos h, if_pos h, h62]
    · rw [if_neg h, if_neg h, h62]
  have h34 : ∀ a b : Int, zX zP 82 v 34 [some (.inl a), some (.inl b)] [] m = some (some (.inl (ntz1 a b)), m) := fun a b => by
    rw [j_J6_numberOfTrailingZeros_0f7a4_34]
    unfold ntz1
    by_cases h : 256 < a
    · rw [if_pos h, if_pos h, h49]
    · rw [if_neg h, if_neg h, h49]
  rw [f_J6_numberOfTrailingZeros_0f7a4]
  unfold ntz
  by_cases h : 0 < zand (zxor x (-1)) (zsub x 1)
  · rw [if_pos h, if_pos h, j_J6_numberOfTrailingZeros_0f7a4_17]
    unfold ntz0
    by_cases h2 : 65536 < zand (zxor x (-1)) (zsub x 1)
    · rw [if_pos h2, if_pos h2, h34]
    · rw [if_neg h2, if_neg h2, h34]
  · rw [if_neg h, if_neg h]
/-- how many ROWS -/
theorem s_howMany {s N : Nat} (hs : s < 256) (hN : N ≤ 5) : zF zP 85 v [.inl (N : Int), .inl (s : Int)] m = some (some (.inl (((wsOf s).length ^ N : Nat) : Int)), m) := by
  have h8 := ws_len s
  have loop : ∀ (n k : Nat), k + n = N → zX zP 85 v 4 [some (.inl (N : Int)), some (.inl (s : Int)), some (.inl (((wsOf s).length ^ k : Nat) : Int)), some (.inl (k : Int))] [] m = some (some (.inl (((wsOf s).length ^ N : Nat) : Int)), m) := by
    intro n
    induction n with
    | zero =>
      intro k hk
      have e : k = N := by omega
      subst e
      rw [j_X3_howMany_4, if_neg (by omega), j_X3_howMany_22]
    | succ n ih =>
      intro k hk
      have e1 : ∀ _ : Unit, zadd (k : Int) 1 = ((k + 1 : Nat) : Int) := fun _ => zadd_nat (k := 1) (by omega)
      have p : (wsOf s).length ^ k ≤ 8 ^ 4 := Nat.le_trans (Nat.pow_le_pow_left h8 k) (Nat.pow_le_pow_right (by decide) (by omega))
      have e2 : ∀ _ : Unit, zmul (((wsOf s).length ^ k : Nat) : Int) ((wsOf s).length : Int) = (((wsOf s).length ^ (k + 1) : Nat) : Int) := fun _ => by
        rw [Nat.pow_succ]
        exact zmul_nat (Nat.lt_of_le_of_lt (Nat.mul_le_mul p h8) (by decide))
      rw [j_X3_howMany_4, if_pos (by omega), s_bitCount, zC1_s, ws_many hs, e2 (), e1 ()]
      exact ih (k + 1) (by omega)
  have e0 : ((0 : Nat) : Int) = 0 := rfl
  have e1 : (((wsOf s).length ^ 0 : Nat) : Int) = 1 := rfl
  have hl := loop N 0 (Nat.zero_add _)
  rw [e0, e1] at hl
  rw [f_X3_howMany]
  exact hl
end SETS
