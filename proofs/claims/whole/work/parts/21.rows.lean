/-! ROWS as lists, bits of longs and ints, memories: plain facts about part 03 alone. -/
/-- a ROW's words as one number; the whole row -/
def pk : List Nat → Nat
  | [] => 0
  | w :: r => 16 * pk r + w
def pw (l : List Nat) : Nat := 4294967296 * l.length + pk l
def rOk (l : List Nat) : Prop := l.length ≤ 8 ∧ ∀ w ∈ l, w < 16
theorem rk_lt : ∀ (l : List Nat), (∀ w ∈ l, w < 16) → pk l < 16 ^ l.length
  | [], _ => by decide
  | w :: r, h => by
    have h1 := rk_lt r (fun x hx => h x (List.mem_cons_of_mem _ hx))
    have h2 := h w List.mem_cons_self
    show 16 * pk r + w < 16 ^ (r.length + 1)
    rw [Nat.pow_succ]; omega
theorem rk_lt32 {l : List Nat} (h : rOk l) : pk l < 4294967296 :=
  Nat.lt_of_lt_of_le (rk_lt l h.2) (Nat.pow_le_pow_right (n := 16) (by decide) h.1)
theorem rk_bit : ∀ (l : List Nat), (∀ w ∈ l, w < 16) → ∀ i, (pk l).testBit i = (l.getD (i / 4) 0).testBit (i % 4)
  | [], _, i => by simp [pk]
  | w :: r, h, i => by
    have hw := h w List.mem_cons_self
    have e : pk (w :: r) = 2 ^ 4 * pk r + w := rfl
    rw [e, Nat.testBit_two_pow_mul_add _ (by simpa using hw)]
    by_cases hi : i < 4
    · rw [if_pos hi]
      have e1 : i / 4 = 0 := by omega
      have e2 : i % 4 = i := by omega
      rw [e1, e2]; rfl
    · rw [if_neg hi, rk_bit r (fun x hx => h x (List.mem_cons_of_mem _ hx)) (i - 4)]
      have e1 : i / 4 = (i - 4) / 4 + 1 := by omega
      have e2 : i % 4 = (i - 4) % 4 := by omega
      rw [e1, e2]; rfl
theorem pw_bit {l : List Nat} (h : rOk l) (i : Nat) : (pw l).testBit i = if i < 32 then (l.getD (i / 4) 0).testBit (i % 4) else l.length.testBit (i - 32) := by
  have e : pw l = 2 ^ 32 * l.length + pk l := rfl
  rw [e, Nat.testBit_two_pow_mul_add _ (by simpa using rk_lt32 h), rk_bit l h.2]
theorem pw_lt {l : List Nat} (h : rOk l) : pw l < 2 ^ 36 := by
  have h1 := rk_lt32 h
  have h2 := h.1
  unfold pw; omega
theorem pw_size {l : List Nat} (h : rOk l) : pw l >>> 32 = l.length := by
  rw [Nat.shiftRight_eq_div_pow]
  have h1 := rk_lt32 h
  unfold pw; omega
theorem pw_low {l : List Nat} (h : rOk l) : pw l &&& 4294967295 = pk l := by
  have e : (4294967295 : Nat) = 2 ^ 32 - 1 := rfl
  rw [e, Nat.and_two_pow_sub_one_eq_mod]
  have h1 := rk_lt32 h
  unfold pw; omega
theorem rk_div : ∀ (l : List Nat), (∀ w ∈ l, w < 16) → ∀ k, pk l >>> (4 * k) = pk (l.drop k)
  | l, h, 0 => by simp
  | [], h, k + 1 => by simp [pk]
  | w :: r, h, k + 1 => by
    have hw := h w List.mem_cons_self
    rw [List.drop_succ_cons, ← rk_div r (fun x hx => h x (List.mem_cons_of_mem _ hx)) k]
    have e : 4 * (k + 1) = 4 + 4 * k := by omega
    rw [e, Nat.shiftRight_add]
    congr 1
    show (16 * pk r + w) >>> 4 = pk r
    rw [Nat.shiftRight_eq_div_pow]
    omega
theorem rk_inj : ∀ (l l' : List Nat), (∀ w ∈ l, w < 16) → (∀ w ∈ l', w < 16) → l.length = l'.length → pk l = pk l' → l = l'
  | [], [], _, _, _, _ => rfl
  | w :: r, w' :: r', h, h', e, hp => by
    have hw := h w List.mem_cons_self
    have hw' := h' w' List.mem_cons_self
    have hp' : 16 * pk r + w = 16 * pk r' + w' := hp
    have e1 : w = w' := by omega
    have e2 := rk_inj r r' (fun x hx => h x (List.mem_cons_of_mem _ hx)) (fun x hx => h' x (List.mem_cons_of_mem _ hx)) (by simpa using e) (by omega)
    rw [e1, e2]
theorem pw_inj {l l' : List Nat} (h : rOk l) (h' : rOk l') (e : pw l = pw l') : l = l' := by
  have h1 := rk_lt32 h
  have h2 := rk_lt32 h'
  unfold pw at e
  exact rk_inj l l' h.2 h'.2 (by omega) (by omega)
theorem getD_lt {l : List Nat} (h : ∀ w ∈ l, w < 16) (k : Nat) : l.getD k 0 < 16 := by
  rw [List.getD_eq_getElem?_getD]
  cases hq : l[k]? with
  | none => decide
  | some w => exact h w (List.mem_of_getElem? hq)
/-- the k-th word -/
theorem pw_word {l : List Nat} (h : rOk l) (k : Nat) (hk : k < 8) : (pw l >>> (4 * k)) % 16 = l.getD k 0 := by
  apply Nat.eq_of_testBit_eq
  intro i
  have e : (16 : Nat) = 2 ^ 4 := rfl
  rw [e, Nat.testBit_mod_two_pow, Nat.testBit_shiftRight, pw_bit h]
  by_cases hi : i < 4
  · have e1 : (4 * k + i) / 4 = k := by omega
    have e2 : (4 * k + i) % 4 = i := by omega
    rw [if_pos (by omega), e1, e2]; simp [hi]
  · have : (l.getD k 0).testBit i = false := Nat.testBit_lt_two_pow (Nat.lt_of_lt_of_le (getD_lt h.2 k) (by
      have : 2 ^ 4 ≤ 2 ^ i := Nat.pow_le_pow_right (by decide) (by omega)
      simpa using this))
    rw [this]; simp [hi]
/-- bits of a long, of an int -/
def zbt (x : Int) (i : Nat) : Bool := (BitVec.ofInt 64 x).getLsbD i
def zib (x : Int) (i : Nat) : Bool := (BitVec.ofInt 32 x).getLsbD i
theorem zof64 (x : Int) : (Int64.ofInt x).toBitVec = BitVec.ofInt 64 x := rfl
theorem zof32 (x : Int) : (Int32.ofInt x).toBitVec = BitVec.ofInt 32 x := rfl
theorem zbt_toInt (v : Int64) (i : Nat) : zbt v.toInt i = v.toBitVec.getLsbD i := by
  unfold zbt
  rw [show v.toInt = v.toBitVec.toInt from rfl, BitVec.ofInt_toInt]
theorem zbt_and (x y : Int) (i : Nat) : zbt (zland x y) i = (zbt x i && zbt y i) := by
  unfold zland
  rw [zbt_toInt, Int64.toBitVec_and, BitVec.getLsbD_and]; rfl
theorem zbt_or (x y : Int) (i : Nat) : zbt (zlor x y) i = (zbt x i || zbt y i) := by
  unfold zlor
  rw [zbt_toInt, Int64.toBitVec_or, BitVec.getLsbD_or]; rfl
theorem zbt_xor (x y : Int) (i : Nat) : zbt (zlxor x y) i = (zbt x i != zbt y i) := by
  unfold zlxor
  rw [zbt_toInt, Int64.toBitVec_xor, BitVec.getLsbD_xor]; rfl
theorem zbt_shl (x : Int) (k : Nat) (hk : k < 64) (i : Nat) : zbt (zlshl x (k : Int)) i = (decide (i < 64) && (!decide (i < k) && zbt x (i - k))) := by
  unfold zlshl
  rw [zbt_toInt]
  have e : ((Int32.ofInt (k : Int)).toInt64 &&& 63) = Int64.ofInt (k : Int) := by
    have key : ∀ n : Fin 64, ((Int32.ofInt ((n.val : Nat) : Int)).toInt64 &&& 63) = Int64.ofInt ((n.val : Nat) : Int) := by decide +kernel
    exact key ⟨k, hk⟩
  rw [e]
  have e2 : (Int64.ofInt x <<< Int64.ofInt (k : Int)).toBitVec = BitVec.ofInt 64 x <<< k := by
    rw [Int64.toBitVec_shiftLeft]
    have e3 : ((Int64.ofInt (k : Int)).toBitVec.smod 64).toNat = k := by
      have key : ∀ n : Fin 64, ((Int64.ofInt ((n.val : Nat) : Int)).toBitVec.smod 64).toNat = n.val := by decide +kernel
      exact key ⟨k, hk⟩
    rw [show (Int64.ofInt x).toBitVec <<< ((Int64.ofInt (k : Int)).toBitVec.smod 64) = (Int64.ofInt x).toBitVec <<< ((Int64.ofInt (k : Int)).toBitVec.smod 64).toNat from rfl, e3]
    rfl
  rw [e2, BitVec.getLsbD_shiftLeft]
  unfold zbt
  cases decide (i < 64) <;> simp
theorem zbt_ushr (x : Int) (k : Nat) (hk : k < 64) (i : Nat) : zbt (zlushr x (k : Int)) i = zbt x (k + i) := by
  unfold zlushr
  rw [zbt_toInt]
  have e : ((Int32.ofInt (k : Int)).toInt64.toUInt64 &&& Int64.toUInt64 63) = UInt64.ofNat k := by
    have key : ∀ n : Fin 64, ((Int32.ofInt ((n.val : Nat) : Int)).toInt64.toUInt64 &&& Int64.toUInt64 63) = UInt64.ofNat n.val := by decide +kernel
    exact key ⟨k, hk⟩
  rw [e]
  have e2 : ((Int64.ofInt x).toUInt64 >>> UInt64.ofNat k).toInt64.toBitVec = BitVec.ofInt 64 x >>> k := by
    show ((Int64.ofInt x).toUInt64 >>> UInt64.ofNat k).toBitVec = _
    rw [UInt64.toBitVec_shiftRight]
    have e3 : ((UInt64.ofNat k).toBitVec % 64).toNat = k := by
      have key : ∀ n : Fin 64, ((UInt64.ofNat n.val).toBitVec % 64).toNat = n.val := by decide +kernel
      exact key ⟨k, hk⟩
    rw [show (Int64.ofInt x).toUInt64.toBitVec >>> ((UInt64.ofNat k).toBitVec % 64) = (Int64.ofInt x).toUInt64.toBitVec >>> ((UInt64.ofNat k).toBitVec % 64).toNat from rfl, e3]
    rfl
  rw [e2, BitVec.getLsbD_ushiftRight]; rfl
theorem zbt_nat (n i : Nat) (h : n < 2 ^ 64) : zbt (n : Int) i = n.testBit i := by
  unfold zbt
  rw [BitVec.ofInt_natCast, BitVec.getLsbD_ofNat]
  by_cases hi : i < 64
  · simp [hi]
  · rw [Nat.testBit_lt_two_pow (Nat.lt_of_lt_of_le h (Nat.pow_le_pow_right (by decide) (by omega)))]; simp
theorem zbt_ones (i : Nat) : zbt (-1) i = decide (i < 64) := by
  unfold zbt
  rw [show BitVec.ofInt 64 (-1) = BitVec.allOnes 64 from by decide, BitVec.getLsbD_allOnes]
theorem zbt_ext {x y : Int} (hx : r64 x) (hy : r64 y) (h : ∀ i, i < 64 → zbt x i = zbt y i) : x = y := by
  have e : BitVec.ofInt 64 x = BitVec.ofInt 64 y := BitVec.eq_of_getLsbD_eq (fun i hi => h i hi)
  have e2 : (BitVec.ofInt 64 x).toInt = (BitVec.ofInt 64 y).toInt := congrArg _ e
  rw [BitVec.toInt_ofInt, BitVec.toInt_ofInt] at e2
  unfold r64 at hx hy
  rw [Int.bmod_eq_of_le (by omega) (by omega), Int.bmod_eq_of_le (by omega) (by omega)] at e2
  exact e2
theorem r64_v (v : Int64) : r64 v.toInt := by
  have h1 := Int64.toInt_lt v
  have h2 := Int64.le_toInt v
  unfold r64; omega
theorem r64_or (x y : Int) : r64 (zlor x y) := r64_v _
theorem r64_and (x y : Int) : r64 (zland x y) := r64_v _
theorem r64_xor (x y : Int) : r64 (zlxor x y) := r64_v _
theorem r64_shl (x y : Int) : r64 (zlshl x y) := r64_v _
theorem r64_ushr (x y : Int) : r64 (zlushr x y) := r64_v _
/-- a ROW as the class holds it -/
def zrow (l : List Nat) : Int := (pw l : Int)
theorem zrow_bit {l : List Nat} (h : rOk l) (i : Nat) : zbt (zrow l) i = (pw l).testBit i := zbt_nat _ _ (Nat.lt_of_lt_of_le (pw_lt h) (by decide))
theorem r64_nat {n : Nat} (h : n < 2 ^ 36) : r64 (n : Int) := by unfold r64; omega
theorem zrow_r {l : List Nat} (h : rOk l) : r64 (zrow l) := r64_nat (pw_lt h)
theorem pw_hi {l : List Nat} (h : rOk l) {i : Nat} (hi : 36 ≤ i) : (pw l).testBit i = false :=
  Nat.testBit_lt_two_pow (Nat.lt_of_lt_of_le (pw_lt h) (Nat.pow_le_pow_right (by decide) hi))
theorem zlushr_nat {n k : Nat} (hn : n < 2 ^ 36) (hk : k < 64) : zlushr (n : Int) (k : Int) = ((n >>> k : Nat) : Int) := by
  have h1 : n >>> k ≤ n := by rw [Nat.shiftRight_eq_div_pow]; exact Nat.div_le_self _ _
  refine zbt_ext (r64_ushr _ _) (r64_nat (by omega)) (fun i hi => ?_)
  rw [zbt_ushr _ _ hk, zbt_nat _ _ (by omega), zbt_nat _ _ (by omega), Nat.testBit_shiftRight]
theorem i32_nat {n : Nat} (h : n < 2147483648) : i32 (n : Int) = n := by
  unfold i32; rw [Int.bmod_eq_of_le (by omega) (by omega)]
theorem zrow_size {l : List Nat} (h : rOk l) : zlushr (zrow l) 32 = (l.length : Int) := by
  have := zlushr_nat (n := pw l) (k := 32) (pw_lt h) (by decide)
  rw [pw_size h] at this
  exact this
/-- Rows.with behind or at a word -/
theorem getLsb4 {w i : Nat} (hw : w < 16) (hi : 4 ≤ i) : w.testBit i = false :=
  Nat.testBit_lt_two_pow (Nat.lt_of_lt_of_le hw (by simpa using Nat.pow_le_pow_right (n := 2) (by decide) hi))
theorem zmul4 {k : Nat} (hk : k < 8) : zmul 4 (k : Int) = ((4 * k : Nat) : Int) := by
  unfold zmul i32
  rw [Int.bmod_eq_of_le (by omega) (by omega)]; omega
def rwith (l : List Nat) (k w : Nat) : List Nat := if k < l.length then l.set k w else l ++ [w]
theorem rwith_ok {l : List Nat} {k w : Nat} (h : rOk l) (hk : k ≤ l.length) (h8 : k < 8) (hw : w < 16) : rOk (rwith l k w) := by
  unfold rwith
  split
  · exact ⟨by rw [List.length_set]; exact h.1, fun x hx => by
      rcases List.mem_or_eq_of_mem_set hx with q | q
      · exact h.2 x q
      · omega⟩
  · have hl := h.1
    exact ⟨by rw [List.length_append, List.length_singleton]; omega, fun x hx => by
      rcases List.mem_append.mp hx with q | q
      · exact h.2 x q
      · rw [List.mem_singleton.mp q]; exact hw⟩
theorem rwith_get {l : List Nat} {k w : Nat} (hk : k ≤ l.length) (j : Nat) : (rwith l k w).getD j 0 = if j = k then w else l.getD j 0 := by
  unfold rwith
  split
  · rename_i h
    simp only [List.getD_eq_getElem?_getD, List.getElem?_set]
    by_cases hj : k = j
    · subst hj; simp [h]
    · rw [if_neg hj, if_neg (fun e => hj e.symm)]
  · have e : l.length = k := by omega
    by_cases hj : j = k
    · subst hj; rw [if_pos rfl]; subst e; simp
    · rw [if_neg hj]
      by_cases h2 : j < l.length
      · simp [List.getD_eq_getElem?_getD, List.getElem?_append_left h2]
      · have h3 : [w][j - l.length]? = none := List.getElem?_eq_none (by simp only [List.length_singleton]; omega)
        simp [List.getD_eq_getElem?_getD, List.getElem?_append_right (Nat.le_of_not_lt h2), List.getElem?_eq_none (Nat.le_of_not_lt h2), h3]
theorem rwith_len {l : List Nat} {k w : Nat} (hk : k ≤ l.length) : (rwith l k w).length = max l.length (k + 1) := by
  unfold rwith
  split
  · rw [List.length_set]; omega
  · rw [List.length_append, List.length_singleton]; omega
theorem zrow_with {l : List Nat} {k w : Nat} (h : rOk l) (hk : k ≤ l.length) (h8 : k < 8) (hw : w < 16) :
    zlor (zlshl (zlmax (zlushr (zrow l) 32) (zadd (k : Int) 1)) 32) (zlor (zland (zland (zrow l) (zlxor (zlshl 15 (zmul 4 (k : Int))) (-1))) 4294967295) (zlshl (w : Int) (zmul 4 (k : Int)))) = zrow (rwith l k w) := by
  have hok := rwith_ok h hk h8 hw
  refine zbt_ext (r64_or _ _) (zrow_r hok) (fun i hi => ?_)
  have hm : zlmax (zlushr (zrow l) 32) (zadd (k : Int) 1) = ((max l.length (k + 1) : Nat) : Int) := by
    rw [zrow_size h]
    unfold zlmax zadd i32
    rw [Int.bmod_eq_of_le (by omega) (by omega)]
    split <;> omega
  have hl := h.1
  rw [hm, zmul4 h8, zrow_bit hok, pw_bit hok, rwith_len hk, rwith_get hk]
  simp only [zbt_or, zbt_and, zbt_xor, zbt_ones]
  rw [show ((32 : Int)) = ((32 : Nat) : Int) from rfl, zbt_shl _ _ (by decide), zbt_shl _ _ (by omega), zbt_shl _ _ (by omega), zrow_bit h, pw_bit h]
  rw [zbt_nat _ _ (by omega), show ((15 : Int)) = ((15 : Nat) : Int) from rfl, zbt_nat _ _ (by omega), show ((4294967295 : Int)) = ((4294967295 : Nat) : Int) from rfl, zbt_nat _ _ (by omega), zbt_nat _ _ (by omega)]
  rw [show (4294967295 : Nat) = 2 ^ 32 - 1 from rfl, Nat.testBit_two_pow_sub_one, show (15 : Nat) = 2 ^ 4 - 1 from rfl, Nat.testBit_two_pow_sub_one]
  by_cases h32 : i < 32
  · simp only [h32, hi, if_true, decide_true, Bool.not_true, Bool.false_and, Bool.and_false, Bool.false_or, Bool.true_and, Bool.and_true]
    by_cases hik : i / 4 = k
    · have e1 : i = 4 * k + i % 4 := by omega
      have e2 : i - 4 * k = i % 4 := by omega
      have e3 : ¬ i < 4 * k := by omega
      have e4 : i % 4 < 4 := by omega
      simp [hik, e2, e3, e4]
    · by_cases hlt : i < 4 * k
      · simp [hlt, hik]
      · have e4 : ¬ i - 4 * k < 4 := by omega
        simp [hlt, hik, e4, getLsb4 hw (by omega : 4 ≤ i - 4 * k)]
  · have e4 : ¬ i - 4 * k < 4 := by omega
    simp [h32, hi, getLsb4 hw (by omega : 4 ≤ i - 4 * k)]
/-- Rows.without -/
theorem erase_ok {l : List Nat} {k : Nat} (h : rOk l) : rOk (l.eraseIdx k) := by
  refine ⟨Nat.le_trans (List.length_eraseIdx_le l k) h.1, fun x hx => h.2 x (List.mem_of_mem_eraseIdx hx)⟩
theorem erase_get (l : List Nat) (k j : Nat) : (l.eraseIdx k).getD j 0 = if j < k then l.getD j 0 else l.getD (j + 1) 0 := by
  simp only [List.getD_eq_getElem?_getD, List.getElem?_eraseIdx]
  split <;> rfl
theorem zlsub1 {n : Nat} (h1 : 1 ≤ n) (h : n < 2 ^ 36) : zlsub (n : Int) 1 = ((n - 1 : Nat) : Int) := by
  unfold zlsub i64
  rw [Int.bmod_eq_of_le (by omega) (by omega)]; omega
theorem zmask {k : Nat} (hk : k < 9) : zlsub (zlshl 1 ((4 * k : Nat) : Int)) 1 = ((2 ^ (4 * k) - 1 : Nat) : Int) := by
  have key : ∀ n : Fin 9, zlsub (zlshl 1 ((4 * n.val : Nat) : Int)) 1 = ((2 ^ (4 * n.val) - 1 : Nat) : Int) := by decide +kernel
  exact key ⟨k, hk⟩
theorem zrow_without {l : List Nat} {k : Nat} (h : rOk l) (hk : k < l.length) :
    zlor (zlor (zlshl (zlsub (zlushr (zrow l) 32) 1) 32) (zland (zland (zrow l) 4294967295) (zlsub (zlshl 1 (zmul 4 (k : Int))) 1))) (zland (zlushr (zland (zrow l) 4294967295) 4) (zlxor (zlsub (zlshl 1 (zmul 4 (k : Int))) 1) (-1))) = zrow (l.eraseIdx k) := by
  have hok := erase_ok (k := k) h
  have hl := h.1
  have hp : 2 ^ (4 * k) < 2 ^ 33 := Nat.pow_lt_pow_right (by decide) (by omega)
  refine zbt_ext (r64_or _ _) (zrow_r hok) (fun i hi => ?_)
  rw [zrow_size h, zlsub1 (by omega) (by omega), zmul4 (by omega), zmask (by omega), zrow_bit hok, pw_bit hok, erase_get, List.length_eraseIdx, if_pos hk]
  simp only [zbt_or, zbt_and, zbt_xor, zbt_ones]
  rw [show ((32 : Int)) = ((32 : Nat) : Int) from rfl, show ((4 : Int)) = ((4 : Nat) : Int) from rfl, zbt_shl _ _ (by decide), zbt_ushr _ _ (by decide), zbt_and, zrow_bit h, zrow_bit h, pw_bit h, pw_bit h]
  rw [zbt_nat _ _ (by omega), zbt_nat _ _ (by omega), show ((4294967295 : Int)) = ((4294967295 : Nat) : Int) from rfl, zbt_nat _ _ (by omega), zbt_nat _ _ (by omega)]
  rw [show (4294967295 : Nat) = 2 ^ 32 - 1 from rfl, Nat.testBit_two_pow_sub_one, Nat.testBit_two_pow_sub_one, Nat.testBit_two_pow_sub_one]
  by_cases h32 : i < 32
  · by_cases hlt : i < 4 * k
    · have e1 : i / 4 < k := by omega
      simp [h32, hi, hlt, e1]
    · have e1 : ¬ i / 4 < k := by omega
      have e2 : (4 + i) / 4 = i / 4 + 1 := by omega
      have e3 : (4 + i) % 4 = i % 4 := by omega
      by_cases h28 : 4 + i < 32
      · simp [h32, hi, hlt, e1, e2, e3, h28]
      · have e5 : l[i / 4 + 1]? = none := List.getElem?_eq_none (by omega)
        simp [h32, hi, hlt, e1, e5, h28]
  · have e4 : ¬ 4 + i < 32 := by omega
    have e5 : ¬ i < 4 * k := by omega
    simp [h32, hi, e4, e5]
/-- Rows.inserted -/
theorem insert_ok {l : List Nat} {k w : Nat} (h : rOk l) (h8 : l.length < 8) (hw : w < 16) : rOk (l.insertIdx k w) := by
  refine ⟨?_, fun x hx => ?_⟩
  · have := List.length_insertIdx_le_succ (l := l) (x := w) (i := k)
    omega
  · by_cases hk : k ≤ l.length
    · rcases (List.mem_insertIdx hk).mp hx with q | q
      · omega
      · exact h.2 x q
    · rw [List.insertIdx_of_length_lt (by omega)] at hx
      exact h.2 x hx
theorem insert_get {l : List Nat} {k w : Nat} (hk : k ≤ l.length) (j : Nat) : (l.insertIdx k w).getD j 0 = if j < k then l.getD j 0 else if j = k then w else l.getD (j - 1) 0 := by
  simp only [List.getD_eq_getElem?_getD, List.getElem?_insertIdx]
  split
  · rfl
  · split
    · rename_i e
      rw [if_pos (by omega)]; rfl
    · rfl
theorem zrow_inserted {l : List Nat} {k w : Nat} (h : rOk l) (hk : k ≤ l.length) (h8 : l.length < 8) (hw : w < 16) :
    zlor (zlor (zlor (zlshl (zladd (zlushr (zrow l) 32) 1) 32) (zland (zland (zrow l) 4294967295) (zlsub (zlshl 1 (zmul 4 (k : Int))) 1))) (zlshl (w : Int) (zmul 4 (k : Int)))) (zlshl (zland (zland (zrow l) 4294967295) (zlxor (zlsub (zlshl 1 (zmul 4 (k : Int))) 1) (-1))) 4) = zrow (l.insertIdx k w) := by
  have hok := insert_ok (k := k) h h8 hw
  have hp : 2 ^ (4 * k) < 2 ^ 33 := Nat.pow_lt_pow_right (by decide) (by omega)
  have ha : zladd ((l.length : Nat) : Int) 1 = ((l.length + 1 : Nat) : Int) := by
    unfold zladd i64
    rw [Int.bmod_eq_of_le (by omega) (by omega)]; omega
  refine zbt_ext (r64_or _ _) (zrow_r hok) (fun i hi => ?_)
  rw [zrow_size h, ha, zmul4 (by omega), zmask (by omega), zrow_bit hok, pw_bit hok, insert_get hk, List.length_insertIdx_of_le_length hk]
  simp only [zbt_or, zbt_and]
  rw [show ((32 : Int)) = ((32 : Nat) : Int) from rfl, show ((4 : Int)) = ((4 : Nat) : Int) from rfl, zbt_shl _ _ (by decide), zbt_shl _ _ (by omega), zbt_shl _ _ (by decide)]
  simp only [zbt_and, zbt_xor, zbt_ones]
  rw [zrow_bit h, zrow_bit h, pw_bit h, pw_bit h]
  rw [zbt_nat _ _ (by omega), zbt_nat _ _ (by omega), zbt_nat _ _ (by omega), zbt_nat _ _ (by omega), show ((4294967295 : Int)) = ((4294967295 : Nat) : Int) from rfl, zbt_nat _ _ (by omega), zbt_nat _ _ (by omega)]
  rw [show (4294967295 : Nat) = 2 ^ 32 - 1 from rfl, Nat.testBit_two_pow_sub_one, Nat.testBit_two_pow_sub_one, Nat.testBit_two_pow_sub_one, Nat.testBit_two_pow_sub_one]
  have e64 : i - 4 < 64 := by omega
  by_cases h32 : i < 32
  · by_cases hlt : i < 4 * k
    · have e1 : i / 4 < k := by omega
      have e2 : i - 4 < 4 * k := by omega
      simp [h32, hi, e64, hlt, e1, e2]
    · have e1 : ¬ i / 4 < k := by omega
      by_cases hik : i / 4 = k
      · have e2 : i - 4 * k = i % 4 := by omega
        by_cases h4 : i < 4
        · simp [h32, hi, e64, hlt, e1, e2, hik, h4]
        · have e3 : i - 4 < 4 * k := by omega
          simp [h32, hi, e64, hlt, e1, e2, hik, e3]
      · have e3 : ¬ i - 4 < 4 * k := by omega
        have e4 : (i - 4) / 4 = i / 4 - 1 := by omega
        have e5 : (i - 4) % 4 = i % 4 := by omega
        have e6 : ¬ i < 4 := by omega
        have e7 : i - 4 < 32 := by omega
        simp [h32, hi, e64, hlt, e1, hik, e3, e4, e5, e6, e7, getLsb4 hw (by omega : 4 ≤ i - 4 * k)]
  · have e4 : ¬ i - 4 * k < 4 := by omega
    have e5 : ¬ i < 4 * k := by omega
    have e6 : ¬ i < 4 := by omega
    by_cases h7 : i - 4 < 32
    · have e8 : l[(i - 4) / 4]? = none := List.getElem?_eq_none (by omega)
      simp [h32, hi, e64, e5, e6, h7, e8, getLsb4 hw (by omega : 4 ≤ i - 4 * k)]
    · simp [h32, hi, e64, e5, e6, h7, getLsb4 hw (by omega : 4 ≤ i - 4 * k)]
/-! memories: what is read over what is written -/
theorem zn_wi (m : zM) (a k : Nat) (x : Int) : zn (zwi m a k x) = zn m := rfl
theorem zn_wl (m : zM) (a k : Nat) (x : Int) : zn (zwl m a k x) = zn m := rfl
theorem zn_wr (m : zM) (a k : Nat) (x : Option Nat) : zn (zwr m a k x) = zn m := rfl
theorem zn_push (m : zM) (t l s : Nat) : zn (zpush m t l s) = zn m + 1 := rfl
theorem zs_wi (m : zM) (a k : Nat) (x : Int) : zs (zwi m a k x) = zs m := rfl
theorem zs_wl (m : zM) (a k : Nat) (x : Int) : zs (zwl m a k x) = zs m := rfl
theorem zs_wr (m : zM) (a k : Nat) (x : Option Nat) : zs (zwr m a k x) = zs m := rfl
theorem zs_push (m : zM) (t l s : Nat) : zs (zpush m t l s) = zs m + s := rfl
theorem zk_wi (m : zM) (a k : Nat) (x : Int) : zk (zwi m a k x) = zk m := rfl
theorem zk_wl (m : zM) (a k : Nat) (x : Int) : zk (zwl m a k x) = zk m := rfl
theorem zk_wr (m : zM) (a k : Nat) (x : Option Nat) : zk (zwr m a k x) = zk m := rfl
theorem zk_push (m : zM) (t l s b : Nat) : zk (zpush m t l s) b = if b = zn m then (t, l) else zk m b := rfl
theorem zr_wi (m : zM) (a k : Nat) (x : Int) : zr (zwi m a k x) = zr m := rfl
theorem zr_wl (m : zM) (a k : Nat) (x : Int) : zr (zwl m a k x) = zr m := rfl
theorem zr_wr (m : zM) (a k : Nat) (x : Option Nat) (b j : Nat) : zr (zwr m a k x) b j = if b = a ∧ j = k then x else zr m b j := rfl
theorem zr_push (m : zM) (t l s b j : Nat) : zr (zpush m t l s) b j = if b = zn m then none else zr m b j := rfl
theorem zl_wi (m : zM) (a k : Nat) (x : Int) : zl (zwi m a k x) = zl m := rfl
theorem zi_wl (m : zM) (a k : Nat) (x : Int) : zi (zwl m a k x) = zi m := rfl
theorem zi_wr (m : zM) (a k : Nat) (x : Option Nat) : zi (zwr m a k x) = zi m := rfl
theorem zl_wr (m : zM) (a k : Nat) (x : Option Nat) : zl (zwr m a k x) = zl m := rfl
theorem zi_wi (m : zM) (a k : Nat) (x : Int) (b j : Nat) : zi (zwi m a k x) b j = if b = a ∧ j = k then x else zi m b j := rfl
theorem zl_wl (m : zM) (a k : Nat) (x : Int) (b j : Nat) : zl (zwl m a k x) b j = if b = a ∧ j = k then x else zl m b j := rfl
theorem zi_push (m : zM) (t l s b j : Nat) : zi (zpush m t l s) b j = if b = zn m then 0 else zi m b j := rfl
theorem zl_push (m : zM) (t l s b j : Nat) : zl (zpush m t l s) b j = if b = zn m then 0 else zl m b j := rfl
theorem zT_wi (m : zM) (a k : Nat) (x : Int) : zT (zwi m a k x) = zT m := rfl
theorem zT_wl (m : zM) (a k : Nat) (x : Int) : zT (zwl m a k x) = zT m := rfl
theorem zT_wr (m : zM) (a k : Nat) (x : Option Nat) : zT (zwr m a k x) = zT m := rfl
theorem zA_wi (m : zM) (a k : Nat) (x : Int) : zA (zwi m a k x) = zA m := rfl
theorem zA_wl (m : zM) (a k : Nat) (x : Int) : zA (zwl m a k x) = zA m := rfl
theorem zA_wr (m : zM) (a k : Nat) (x : Option Nat) : zA (zwr m a k x) = zA m := rfl
theorem zY_wi (m : zM) (a k : Nat) (x : Int) : zY (zwi m a k x) = zY m := rfl
theorem zY_wl (m : zM) (a k : Nat) (x : Int) : zY (zwl m a k x) = zY m := rfl
theorem zY_wr (m : zM) (a k : Nat) (x : Option Nat) : zY (zwr m a k x) = zY m := rfl
theorem zT_i {m : zM} {a t l : Nat} (hn : a < zn m) (hk : zk m a = (t, l)) : zT m a t = true := by simp [zT, hn, hk]
theorem zY_i {m : zM} {a t l : Nat} (hn : a < zn m) (hk : zk m a = (t, l)) (h : 8 ≤ t ∧ t < 14) : zY m a = true := by simp [zY, hn, hk, h.1, h.2]
theorem zA_i {m : zM} {a t l : Nat} {x : Int} (hn : a < zn m) (hk : zk m a = (t, l)) (h0 : 0 ≤ x) (h1 : x < l) : zA m a t x = true := by simp [zA, zT, hn, hk, h0, h1]
/-! ints' bits -/
theorem zib_toInt (v : Int32) (i : Nat) : zib v.toInt i = v.toBitVec.getLsbD i := by
  unfold zib
  rw [show v.toInt = v.toBitVec.toInt from rfl, BitVec.ofInt_toInt]
theorem zib_and (x y : Int) (i : Nat) : zib (zand x y) i = (zib x i && zib y i) := by
  unfold zand
  rw [zib_toInt, Int32.toBitVec_and, BitVec.getLsbD_and]; rfl
theorem zib_or (x y : Int) (i : Nat) : zib (zor x y) i = (zib x i || zib y i) := by
  unfold zor
  rw [zib_toInt, Int32.toBitVec_or, BitVec.getLsbD_or]; rfl
theorem zib_nat (n i : Nat) (h : n < 2 ^ 32) : zib (n : Int) i = n.testBit i := by
  unfold zib
  rw [BitVec.ofInt_natCast, BitVec.getLsbD_ofNat]
  by_cases hi : i < 32
  · simp [hi]
  · rw [Nat.testBit_lt_two_pow (Nat.lt_of_lt_of_le h (Nat.pow_le_pow_right (by decide) (by omega)))]; simp
theorem zib_i32 (n : Nat) (i : Nat) : zib (i32 (n : Int)) i = (decide (i < 32) && n.testBit i) := by
  unfold zib i32
  have e : BitVec.ofInt 32 (Int.bmod (n : Int) 4294967296) = BitVec.ofNat 32 n := by
    apply BitVec.eq_of_toInt_eq
    rw [← BitVec.ofInt_natCast, BitVec.toInt_ofInt, BitVec.toInt_ofInt]
    show Int.bmod (Int.bmod (n : Int) 4294967296) 4294967296 = Int.bmod (n : Int) 4294967296
    exact Int.bmod_bmod
  rw [e, BitVec.getLsbD_ofNat]
theorem zib_ext {x y : Int} (hx : r32 x) (hy : r32 y) (h : ∀ i, i < 32 → zib x i = zib y i) : x = y := by
  have e : BitVec.ofInt 32 x = BitVec.ofInt 32 y := BitVec.eq_of_getLsbD_eq (fun i hi => h i hi)
  have e2 : (BitVec.ofInt 32 x).toInt = (BitVec.ofInt 32 y).toInt := congrArg _ e
  rw [BitVec.toInt_ofInt, BitVec.toInt_ofInt] at e2
  unfold r32 at hx hy
  rw [Int.bmod_eq_of_le (by omega) (by omega), Int.bmod_eq_of_le (by omega) (by omega)] at e2
  exact e2
theorem r32_v (v : Int32) : r32 v.toInt := by
  have h1 := Int32.toInt_lt v
  have h2 := Int32.le_toInt v
  unfold r32; omega
theorem r32_nat {n : Nat} (h : n < 2147483648) : r32 (n : Int) := by unfold r32; omega
theorem zrow_word {l : List Nat} (h : rOk l) (k : Nat) (hk : k < 8) : zand (i32 (zlushr (zrow l) (zmul 4 (k : Int)))) 15 = ((l.getD k 0 : Nat) : Int) := by
  have hw := getD_lt h.2 k
  refine zib_ext (r32_v _) (r32_nat (by omega)) (fun i hi => ?_)
  have e : zlushr (zrow l) (zmul 4 (k : Int)) = ((pw l >>> (4 * k) : Nat) : Int) := by
    rw [zmul4 hk]; exact zlushr_nat (pw_lt h) (by omega)
  rw [e, zib_and, zib_i32, show ((15 : Int)) = ((15 : Nat) : Int) from rfl, zib_nat _ _ (by decide), zib_nat _ _ (by omega), ← pw_word h k hk]
  rw [show (15 : Nat) = 2 ^ 4 - 1 from rfl, Nat.testBit_two_pow_sub_one, show (16 : Nat) = 2 ^ 4 from rfl, Nat.testBit_mod_two_pow]
  simp [hi, Bool.and_comm]
theorem zrow_len {l : List Nat} (h : rOk l) : i32 (zlushr (zrow l) 32) = (l.length : Int) := by
  have := h.1
  rw [zrow_size h, i32_nat (by omega)]
/-- the word as find reads it -/
theorem zrow_lword {l : List Nat} (h : rOk l) (k : Nat) (hk : k < 8) : zland (zlushr (zrow l) (zmul 4 (k : Int))) 15 = ((l.getD k 0 : Nat) : Int) := by
  have hw := getD_lt h.2 k
  refine zbt_ext (r64_and _ _) (r64_nat (by omega)) (fun i hi => ?_)
  have e : zlushr (zrow l) (zmul 4 (k : Int)) = ((pw l >>> (4 * k) : Nat) : Int) := by
    rw [zmul4 hk]; exact zlushr_nat (pw_lt h) (by omega)
  have hle : pw l >>> (4 * k) ≤ pw l := by rw [Nat.shiftRight_eq_div_pow]; exact Nat.div_le_self _ _
  have hlt := pw_lt h
  rw [e, zbt_and, zbt_nat _ _ (by omega), show ((15 : Int)) = ((15 : Nat) : Int) from rfl, zbt_nat _ _ (by decide), zbt_nat _ _ (by omega), ← pw_word h k hk]
  rw [show (15 : Nat) = 2 ^ 4 - 1 from rfl, Nat.testBit_two_pow_sub_one, show (16 : Nat) = 2 ^ 4 from rfl, Nat.testBit_mod_two_pow]
  simp [Bool.and_comm]
theorem zrow_inj {l l' : List Nat} (h : rOk l) (h' : rOk l') (e : zrow l = zrow l') : l = l' := pw_inj h h' (by unfold zrow at e; omega)
theorem zrow_ne {l : List Nat} : zrow l ≠ -1 := by unfold zrow; omega
