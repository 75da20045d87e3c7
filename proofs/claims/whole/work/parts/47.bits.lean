/-! Sets in ints, bit by bit. -/
theorem zib_shr (x : Int) (k : Nat) (hk : k < 32) : zib (zshr x (k : Int)) 0 = zib x k := by
  unfold zshr
  rw [zib_toInt, Int32.toBitVec_shiftRight]
  have e3 : (((Int32.ofInt (k : Int) &&& 31).toBitVec).smod 32).toNat = k := by
    have key : ∀ n : Fin 32, (((Int32.ofInt ((n.val : Nat) : Int) &&& 31).toBitVec).smod 32).toNat = n.val := by decide +kernel
    exact key ⟨k, hk⟩
  rw [show (Int32.ofInt x).toBitVec.sshiftRight' (((Int32.ofInt (k : Int) &&& 31).toBitVec).smod 32) = (Int32.ofInt x).toBitVec.sshiftRight (((Int32.ofInt (k : Int) &&& 31).toBitVec).smod 32).toNat from rfl, e3, BitVec.getLsbD_sshiftRight]
  rw [if_pos (by omega), Nat.add_zero]
  simp [zib, zof32]
theorem zib_one (i : Nat) : zib 1 i = decide (i = 0) := by
  rw [show (1 : Int) = ((1 : Nat) : Int) from rfl, zib_nat 1 i (by decide)]
  rw [show (1 : Nat) = 2 ^ 1 - 1 from rfl, Nat.testBit_two_pow_sub_one]
  exact decide_eq_decide.mpr (by omega)
theorem zand1 (x : Int) : zand x 1 = b01 (zib x 0) := by
  refine zib_ext (r32_v _) (by cases zib x 0 <;> (unfold b01 r32; simp)) (fun i hi => ?_)
  rw [zib_and, zib_one]
  cases h : zib x 0 with
  | true =>
    show _ = zib 1 i
    rw [zib_one]
    by_cases e : i = 0
    · subst e; rw [h]; rfl
    · simp [e]
  | false =>
    show _ = zib ((0 : Nat) : Int) i
    rw [zib_nat 0 i (by decide), Nat.zero_testBit]
    by_cases e : i = 0
    · subst e; rw [h]; rfl
    · simp [e]
theorem bitI_eq (x : Int) {k : Nat} (hk : k < 32) : bitI x k = zib x k := by
  unfold bitI
  rw [zand1, zib_shr x k hk]
  cases zib x k <;> rfl
theorem hasI_eq (x : Int) {k : Nat} (hk : k < 32) : hasI x (k : Int) = zib x k := by
  unfold hasI
  rw [zand1, zib_shr x k hk]
  cases zib x k <;> rfl
theorem zib_shl1 {k i : Nat} (hk : k < 32) (hi : i < 32) : zib (zshl 1 (k : Int)) i = decide (i = k) := by
  have key : ∀ (k i : Fin 32), zib (zshl 1 ((k.val : Nat) : Int)) i.val = decide (i.val = k.val) := by decide +kernel
  exact key ⟨k, hk⟩ ⟨i, hi⟩
theorem zib_setF (f : Nat → Bool) : ∀ (n k : Nat) (acc : Int) (i : Nat), k + n ≤ 32 → i < 32 → zib (setF f n k acc) i = (zib acc i || (decide (k ≤ i) && (decide (i < k + n) && f i)))
  | 0, k, acc, i, _, _ => by
    show zib acc i = _
    by_cases h : k ≤ i
    · have : ¬ i < k := by omega
      simp [this]
    · simp [h]
  | n + 1, k, acc, i, hk, hi => by
    unfold setF
    rw [zib_setF f n (k + 1) _ i (by omega) hi]
    by_cases hf : f k = true
    · rw [if_pos hf, zib_or, zib_shl1 (by omega) hi]
      by_cases e : i = k
      · subst e; simp [hf]
      · by_cases h : k ≤ i
        · have h1 : k + 1 ≤ i := by omega
          have h2 : (i < k + 1 + n) = (i < k + (n + 1)) := by congr 1; omega
          simp [e, h, h1, h2]
        · have h1 : ¬ k + 1 ≤ i := by omega
          simp [e, h, h1]
    · rw [if_neg hf]
      by_cases e : i = k
      · subst e; simp [bool_f hf]
      · by_cases h : k ≤ i
        · have h1 : k + 1 ≤ i := by omega
          have h2 : (i < k + 1 + n) = (i < k + (n + 1)) := by congr 1; omega
          simp [h, h1, h2]
        · have h1 : ¬ k + 1 ≤ i := by omega
          simp [h, h1]
theorem zor_nat {a b : Nat} (ha : a < 2147483648) (hb : b < 2147483648) : zor (a : Int) (b : Int) = ((a ||| b : Nat) : Int) := by
  have hab : a ||| b < 2 ^ 31 := Nat.or_lt_two_pow (by simpa using ha) (by simpa using hb)
  refine zib_ext (r32_v _) (r32_nat (by simpa using hab)) (fun i hi => ?_)
  rw [zib_or, zib_nat _ _ (by omega), zib_nat _ _ (by omega), zib_nat _ _ (by have : (2 : Nat) ^ 31 < 2 ^ 32 := by decide
                                                                              omega), Nat.testBit_or]
theorem zshl1 {k : Nat} (hk : k < 31) : zshl 1 (k : Int) = ((2 ^ k : Nat) : Int) := by
  have key : ∀ k : Fin 31, zshl 1 ((k.val : Nat) : Int) = ((2 ^ k.val : Nat) : Int) := by decide +kernel
  exact key ⟨k, hk⟩
theorem setF_nat (f : Nat → Bool) : ∀ (n k a : Nat), k + n ≤ 31 → a < 2 ^ k → ∃ s : Nat, setF f n k (a : Int) = (s : Int) ∧ s < 2 ^ (k + n)
  | 0, k, a, _, ha => ⟨a, rfl, ha⟩
  | n + 1, k, a, hk, ha => by
    unfold setF
    have h31 : 2 ^ k < 2 ^ 31 := Nat.pow_lt_pow_right (by decide) (by omega)
    have h2 : 2 ^ k < 2 ^ (k + 1) := Nat.pow_lt_pow_right (by decide) (by omega)
    split
    · rw [zshl1 (by omega), zor_nat (Nat.lt_trans ha (by simpa using h31)) (by simpa using h31)]
      obtain ⟨s, h1, h3⟩ := setF_nat f n (k + 1) (a ||| 2 ^ k) (by omega) (Nat.or_lt_two_pow (Nat.lt_trans ha h2) h2)
      exact ⟨s, h1, by rw [show k + (n + 1) = k + 1 + n by omega]; exact h3⟩
    · obtain ⟨s, h1, h3⟩ := setF_nat f n (k + 1) a (by omega) (Nat.lt_trans ha h2)
      exact ⟨s, h1, by rw [show k + (n + 1) = k + 1 + n by omega]; exact h3⟩
def bcnt (x0 : Int) : Int := (zand (zadd (zadd (zand (zadd (zadd (zand (zsub x0 (zand (zushr x0 (1)) (1431655765))) (858993459)) (zand (zushr (zsub x0 (zand (zushr x0 (1)) (1431655765))) (2)) (858993459))) (zushr (zadd (zand (zsub x0 (zand (zushr x0 (1)) (1431655765))) (858993459)) (zand (zushr (zsub x0 (zand (zushr x0 (1)) (1431655765))) (2)) (858993459))) (4))) (252645135)) (zushr (zand (zadd (zadd (zand (zsub x0 (zand (zushr x0 (1)) (1431655765))) (858993459)) (zand (zushr (zsub x0 (zand (zushr x0 (1)) (1431655765))) (2)) (858993459))) (zushr (zadd (zand (zsub x0 (zand (zushr x0 (1)) (1431655765))) (858993459)) (zand (zushr (zsub x0 (zand (zushr x0 (1)) (1431655765))) (2)) (858993459))) (4))) (252645135)) (8))) (zushr (zadd (zand (zadd (zadd (zand (zsub x0 (zand (zushr x0 (1)) (1431655765))) (858993459)) (zand (zushr (zsub x0 (zand (zushr x0 (1)) (1431655765))) (2)) (858993459))) (zushr (zadd (zand (zsub x0 (zand (zushr x0 (1)) (1431655765))) (858993459)) (zand (zushr (zsub x0 (zand (zushr x0 (1)) (1431655765))) (2)) (858993459))) (4))) (252645135)) (zushr (zand (zadd (zadd (zand (zsub x0 (zand (zushr x0 (1)) (1431655765))) (858993459)) (zand (zushr (zsub x0 (zand (zushr x0 (1)) (1431655765))) (2)) (858993459))) (zushr (zadd (zand (zsub x0 (zand (zushr x0 (1)) (1431655765))) (858993459)) (zand (zushr (zsub x0 (zand (zushr x0 (1)) (1431655765))) (2)) (858993459))) (4))) (252645135)) (8))) (16))) (63))
theorem bcnt_sz {s : Nat} (hs : s < 64) : bcnt (s : Int) = szF (s : Int) 8 0 0 := by
  have key : ∀ s : Fin 64, bcnt ((s.val : Nat) : Int) = szF ((s.val : Nat) : Int) 8 0 0 := by decide +kernel
  exact key ⟨s, hs⟩
theorem s_bitCount {v : Nat} {m : zM} (x : Int) : zF zP 84 v [.inl x] m = some (some (.inl (bcnt x)), m) := f_J6_bitCount_0f7a4 x m
theorem lpeople_nat (L : zLd) (x : Int) (hp : L.2.2.1.length ≤ 6) : ∃ s : Nat, lpeople L x = (s : Int) ∧ s < 64 := by
  obtain ⟨s, h1, h2⟩ := setF_nat (fun i => decide (((L.2.2.1.getD i ps0).2.1 : Int) = x)) L.2.2.1.length 0 0 (by omega) (by decide)
  refine ⟨s, h1, Nat.lt_of_lt_of_le h2 ?_⟩
  have := Nat.pow_le_pow_right (n := 2) (by decide) (show 0 + L.2.2.1.length ≤ 6 by omega)
  simpa using this
