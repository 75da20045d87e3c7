/-! TOKENS of a TEXT: what both readers see. -/
def blk (x : Nat) : Bool := decide (x = 10) || decide (x = 32)
def ltr (x : Nat) : Bool := decide (97 ≤ x) && decide (x ≤ 122)
def dgt (x : Nat) : Bool := decide (48 ≤ x) && decide (x ≤ 57)
def sgn (x : Nat) : Bool := decide (x = 59) || (decide (x = 60) || (decide (x = 62) || decide (x = 61)))
def runF (g : Nat → Bool) (f : Nat → Nat) : Nat → Nat → Nat
  | 0, p => p
  | k + 1, p => if g (f p) = true then runF g f k (p + 1) else p
def spl (f : Nat → Nat) (a : Nat) : Nat → Nat
  | 0 => 0
  | k + 1 => spl f a k * 32 + (f (a + k) - 96)
def vlu (f : Nat → Nat) (a : Nat) : Nat → Nat
  | 0 => 0
  | k + 1 => vlu f a k * 10 + (f (a + k) - 48)
/-- kind (0 the end, 1 none, 2 letters, 3 a NUMBER, 4 a SIGN), from, to, name, value -/
abbrev zTok : Type := Nat × Nat × Nat × Nat × Nat
def tokB (f : Nat → Nat) (n a : Nat) : zTok :=
  if a < n then
    (if ltr (f a) = true then (2, a, runF ltr f (n - a) a, (if runF ltr f (n - a) a - a ≤ 8 then spl f a (runF ltr f (n - a) a - a) else 0), 0)
    else if dgt (f a) = true then ((if runF dgt f (n - a) a - a ≤ 4 then 3 else 1), a, runF dgt f (n - a) a, 0, (if runF dgt f (n - a) a - a ≤ 4 then vlu f a (runF dgt f (n - a) a - a) else 0))
    else ((if sgn (f a) = true then 4 else 1), a, a + 1, 0, f a))
  else (0, a, n, 0, 0)
def tokAt (f : Nat → Nat) (n p : Nat) : zTok := tokB f n (runF blk f (n - p) p)
/-- a text of n bytes -/
def TxF (f : Nat → Nat) (n : Nat) : Prop := n ≤ 900 ∧ (∀ i, f i < 256) ∧ ∀ i, n ≤ i → f i = 0
section TOK
variable {f : Nat → Nat} {g : Nat → Bool}
theorem runF_ge : ∀ (k p : Nat), p ≤ runF g f k p ∧ runF g f k p ≤ p + k
  | 0, p => ⟨Nat.le_refl _, Nat.le_refl _⟩
  | k + 1, p => by
    unfold runF
    split
    · have := runF_ge k (p + 1); omega
    · omega
theorem runF_in : ∀ (k p i : Nat), p ≤ i → i < runF g f k p → g (f i) = true
  | 0, p, i, h1, h2 => by unfold runF at h2; omega
  | k + 1, p, i, h1, h2 => by
    unfold runF at h2
    by_cases h : g (f p) = true
    · rw [if_pos h] at h2
      rcases Nat.eq_or_lt_of_le h1 with e | e
      · rw [← e]; exact h
      · exact runF_in k (p + 1) i e h2
    · rw [if_neg h] at h2; omega
theorem runF_end : ∀ (k p : Nat), runF g f k p < p + k → ¬ g (f (runF g f k p)) = true
  | 0, p, h => by unfold runF at h; omega
  | k + 1, p, h => by
    unfold runF at h ⊢
    by_cases q : g (f p) = true
    · rw [if_pos q] at h ⊢
      exact runF_end k (p + 1) (by omega)
    · rw [if_neg q]; exact q
theorem ltr_r {x : Nat} (h : ltr x = true) : 97 ≤ x ∧ x ≤ 122 := by
  unfold ltr at h
  rw [Bool.and_eq_true] at h
  exact ⟨of_decide_eq_true h.1, of_decide_eq_true h.2⟩
theorem dgt_r {x : Nat} (h : dgt x = true) : 48 ≤ x ∧ x ≤ 57 := by
  unfold dgt at h
  rw [Bool.and_eq_true] at h
  exact ⟨of_decide_eq_true h.1, of_decide_eq_true h.2⟩
theorem spl_lt {a : Nat} : ∀ k : Nat, (∀ i, a ≤ i → i < a + k → ltr (f i) = true) → spl f a k < 32 ^ k
  | 0, _ => by unfold spl; decide
  | k + 1, h => by
    have h1 := spl_lt k (fun i q1 q2 => h i q1 (by omega))
    have h2 := ltr_r (h (a + k) (by omega) (by omega))
    unfold spl
    rw [Nat.pow_succ]
    omega
theorem spl_pos {a : Nat} : ∀ k : Nat, 0 < k → (∀ i, a ≤ i → i < a + k → ltr (f i) = true) → 0 < spl f a k
  | 0, h, _ => absurd h (Nat.lt_irrefl 0)
  | k + 1, _, h => by
    have h2 := ltr_r (h (a + k) (by omega) (by omega))
    unfold spl
    omega
theorem vlu_lt {a : Nat} : ∀ k : Nat, (∀ i, a ≤ i → i < a + k → dgt (f i) = true) → vlu f a k < 10 ^ k
  | 0, _ => by unfold vlu; decide
  | k + 1, h => by
    have h1 := vlu_lt k (fun i q1 q2 => h i q1 (by omega))
    have h2 := dgt_r (h (a + k) (by omega) (by omega))
    unfold vlu
    rw [Nat.pow_succ]
    omega
theorem p32 : 32 ^ 8 = 1099511627776 := by decide
theorem spl8 {a k : Nat} (hk : k ≤ 8) (h : ∀ i, a ≤ i → i < a + k → ltr (f i) = true) : spl f a k < 1099511627776 := by
  have h1 := spl_lt k h
  have h2 : 32 ^ k ≤ 32 ^ 8 := Nat.pow_le_pow_right (by decide) hk
  rw [p32] at h2
  exact Nat.lt_of_lt_of_le h1 h2
theorem vlu4 {a k : Nat} (hk : k ≤ 4) (h : ∀ i, a ≤ i → i < a + k → dgt (f i) = true) : vlu f a k < 10000 := by
  have h1 := vlu_lt k h
  have h2 : 10 ^ k ≤ 10 ^ 4 := Nat.pow_le_pow_right (by decide) hk
  exact Nat.lt_of_lt_of_le h1 h2
/-- where a TOKEN begins and ends -/
theorem tokB_rng {n a : Nat} (ha : a ≤ n) : (tokB f n a).2.1 = a ∧ a ≤ (tokB f n a).2.2.1 ∧ (tokB f n a).2.2.1 ≤ n ∧ ((tokB f n a).1 ≠ 0 → a < (tokB f n a).2.2.1) ∧ ((tokB f n a).1 = 0 ↔ a = n) := by
  unfold tokB
  by_cases h : a < n
  · rw [if_pos h]
    by_cases h1 : ltr (f a) = true
    · rw [if_pos h1]
      have r := runF_ge (g := ltr) (f := f) (n - a) a
      have e : n - a = (n - a - 1) + 1 := by omega
      have r1 : a + 1 ≤ runF ltr f (n - a) a := by
        rw [e]
        unfold runF
        rw [if_pos h1]
        exact (runF_ge (n - a - 1) (a + 1)).1
      refine ⟨rfl, r.1, show runF ltr f (n - a) a ≤ n by omega, fun _ => r1, ?_⟩
      constructor
      · intro q; exact absurd (show (2 : Nat) = 0 from q) (by decide)
      · intro q; omega
    · rw [if_neg h1]
      by_cases h2 : dgt (f a) = true
      · rw [if_pos h2]
        have r := runF_ge (g := dgt) (f := f) (n - a) a
        have e : n - a = (n - a - 1) + 1 := by omega
        have r1 : a + 1 ≤ runF dgt f (n - a) a := by
          rw [e]
          unfold runF
          rw [if_pos h2]
          exact (runF_ge (n - a - 1) (a + 1)).1
        refine ⟨rfl, r.1, show runF dgt f (n - a) a ≤ n by omega, fun _ => r1, ?_⟩
        constructor
        · intro q
          have q' : (if runF dgt f (n - a) a - a ≤ 4 then 3 else 1) = 0 := q
          split at q' <;> omega
        · intro q; omega
      · rw [if_neg h2]
        refine ⟨rfl, Nat.le_succ a, h, fun _ => Nat.lt_succ_self a, ?_⟩
        constructor
        · intro q
          have q' : (if sgn (f a) = true then 4 else 1) = 0 := q
          split at q' <;> omega
        · intro q; omega
  · rw [if_neg h]
    have e : a = n := by omega
    exact ⟨rfl, ha, Nat.le_refl _, fun q => absurd rfl q, fun _ => e, fun _ => rfl⟩
theorem tokB_name (n a : Nat) : (tokB f n a).2.2.2.1 < 1099511627776 := by
  unfold tokB
  by_cases h : a < n
  · rw [if_pos h]
    by_cases h1 : ltr (f a) = true
    · rw [if_pos h1]
      show (if runF ltr f (n - a) a - a ≤ 8 then spl f a (runF ltr f (n - a) a - a) else 0) < 1099511627776
      split
      · rename_i q
        have r := runF_ge (g := ltr) (f := f) (n - a) a
        exact spl8 q (fun i q1 q2 => runF_in (n - a) a i q1 (by omega))
      · decide
    · rw [if_neg h1]
      by_cases h2 : dgt (f a) = true
      · rw [if_pos h2]; show (0 : Nat) < 1099511627776; decide
      · rw [if_neg h2]; show (0 : Nat) < 1099511627776; decide
  · rw [if_neg h]; show (0 : Nat) < 1099511627776; decide
/-- letters alone have a name -/
theorem tokB_k2 (n a : Nat) (h : (tokB f n a).1 ≠ 2) : (tokB f n a).2.2.2.1 = 0 := by
  unfold tokB at h ⊢
  by_cases h0 : a < n
  · rw [if_pos h0] at h ⊢
    by_cases h1 : ltr (f a) = true
    · rw [if_pos h1] at h; exact absurd rfl h
    · rw [if_neg h1]
      by_cases h2 : dgt (f a) = true
      · rw [if_pos h2]
      · rw [if_neg h2]
  · rw [if_neg h0]
theorem tokAt_rng {n p : Nat} (hp : p ≤ n) : p ≤ (tokAt f n p).2.1 ∧ (tokAt f n p).2.1 ≤ (tokAt f n p).2.2.1 ∧ (tokAt f n p).2.2.1 ≤ n ∧ ((tokAt f n p).1 ≠ 0 → (tokAt f n p).2.1 < (tokAt f n p).2.2.1) ∧ ((tokAt f n p).1 = 0 ↔ (tokAt f n p).2.1 = n) := by
  have r := runF_ge (g := blk) (f := f) (n - p) p
  obtain ⟨q1, q2, q3, q4, q5⟩ := tokB_rng (f := f) (n := n) (a := runF blk f (n - p) p) (by omega)
  unfold tokAt
  rw [q1]
  exact ⟨r.1, q2, q3, q4, q5⟩
end TOK
/-- the WORD OF THE TEXT that is no NAME -/
def kwI (x : Nat) : Int := firstK (fun i => decide (zKey.getD i 0 = (x : Int))) 24 0
theorem kw_iff {x k : Nat} (hk : k < 24) : kwI x = (k : Int) ↔ (x : Int) = zKey.getD k 0 := by
  unfold kwI
  constructor
  · intro h
    rcases firstK_of (fun i => decide (zKey.getD i 0 = (x : Int))) 24 0 with e | ⟨i, e, _, _, q⟩
    · rw [e] at h; omega
    · rw [e] at h
      have : i = k := by omega
      subst this
      exact (of_decide_eq_true q).symm
  · intro h
    rw [h]
    have key : ∀ k : Fin 24, firstK (fun i => decide (zKey.getD i 0 = zKey.getD k.val 0)) 24 0 = ((k.val : Nat) : Int) := by decide +kernel
    exact key ⟨k, hk⟩
theorem kw_none {x : Nat} : kwI x = -1 ↔ ∀ k, k < 24 → ¬ (x : Int) = zKey.getD k 0 := by
  constructor
  · intro h k hk q
    rw [(kw_iff hk).mpr q] at h
    omega
  · intro h
    unfold kwI
    rcases firstK_of (fun i => decide (zKey.getD i 0 = (x : Int))) 24 0 with e | ⟨i, e, _, hi, q⟩
    · exact e
    · exact absurd (of_decide_eq_true q).symm (h i (by omega))
theorem kw_0 : kwI 0 = -1 := by decide +kernel
theorem kw_rng (x : Nat) : kwI x = -1 ∨ ∃ k : Nat, kwI x = (k : Int) ∧ k < 24 := by
  unfold kwI
  rcases firstK_of (fun i => decide (zKey.getD i 0 = (x : Int))) 24 0 with e | ⟨i, e, _, hi, q⟩
  · exact Or.inl e
  · exact Or.inr ⟨i, e, by omega⟩
theorem zlshl5 {y c : Nat} (hy : y < 1099511627776) (hc : c < 32) : zlor (zlshl (y : Int) 5) (c : Int) = ((y * 32 + c : Nat) : Int) := by
  have e5 : (5 : Int) = ((5 : Nat) : Int) := rfl
  have lim : ∀ z : Nat, z < 1152921504606846976 → z < 2 ^ 64 := fun z hz => Nat.lt_of_lt_of_le hz (Nat.le_of_ble_eq_true rfl)
  have h1 : y < 2 ^ 64 := lim y (by omega)
  have h2 : c < 2 ^ 64 := lim c (by omega)
  have h3 : y * 32 + c < 2 ^ 64 := lim _ (by omega)
  have hr : r64 ((y * 32 + c : Nat) : Int) := by unfold r64; omega
  have hsh : y * 32 + c = (y <<< 5) ||| c := by
    rw [← Nat.shiftLeft_add_eq_or_of_lt (by exact hc), Nat.shiftLeft_eq]
  refine zbt_ext (r64_or _ _) hr (fun i hi => ?_)
  rw [zbt_or, e5, zbt_shl _ 5 (by decide), zbt_nat y _ h1, zbt_nat c _ h2, zbt_nat (y * 32 + c) _ h3, hsh, Nat.testBit_or, Nat.testBit_shiftLeft, decide_eq_true hi, Bool.true_and]
  congr 2
  by_cases q : i < 5
  · rw [decide_eq_true q, decide_eq_false (by omega)]; rfl
  · rw [decide_eq_false q, decide_eq_true (by omega)]; rfl
