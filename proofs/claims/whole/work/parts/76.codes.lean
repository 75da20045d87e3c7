/-! ROWS by their numbers: the reference. -/
def dgs (W : Nat) : Nat → Nat → List Nat
  | 0, _ => []
  | n + 1, c => dgs W n (c / W) ++ [c % W]
theorem dgs_len (W : Nat) : ∀ (n c : Nat), (dgs W n c).length = n
  | 0, _ => rfl
  | n + 1, c => by
    show (dgs W n (c / W) ++ [c % W]).length = _
    rw [List.length_append, dgs_len W n]; rfl
section CODES
variable {v : Nat} {S : zSt} {m : zM}
theorem m_rowsOf (hR : R2 S m) {N : Nat} (hN : N ≤ 5) : zF zP 376 v [(.inr (.inr (some 0))), .inl (N : Int)] m = some (some (.inl (((gL S).1.length ^ N : Nat) : Int)), m) := by
  have h8 := hR.w8
  have hW : zi m 5 (Int.toNat 0) = ((gL S).1.length : Int) := hR.bl.1.1
  have loop : ∀ (n k : Nat), k + n = N → zX zP 376 v 4 [some ((.inr (.inr (some 0)))), some (.inl (N : Int)), some (.inl (((gL S).1.length ^ k : Nat) : Int)), some (.inl (k : Int))] [] m = some (some (.inl (((gL S).1.length ^ N : Nat) : Int)), m) := by
    intro n
    induction n with
    | zero =>
      intro k hk
      have e : k = N := by omega
      subst e
      rw [j_X11_rowsOf_4, if_neg (by omega), j_X11_rowsOf_24]
    | succ n ih =>
      intro k hk
      have e1 : ∀ _ : Unit, zadd (k : Int) 1 = ((k + 1 : Nat) : Int) := fun _ => zadd_nat (k := 1) (by omega)
      have p : (gL S).1.length ^ k ≤ 8 ^ 4 := Nat.le_trans (Nat.pow_le_pow_left h8 k) (Nat.pow_le_pow_right (by decide) (by omega))
      have e2 : ∀ _ : Unit, zmul (((gL S).1.length ^ k : Nat) : Int) ((gL S).1.length : Int) = (((gL S).1.length ^ (k + 1) : Nat) : Int) := fun _ => by
        rw [Nat.pow_succ]
        exact zmul_nat (Nat.lt_of_le_of_lt (Nat.mul_le_mul p h8) (by decide))
      rw [j_X11_rowsOf_4, if_pos (by omega), if_pos hR.1.1, hR.1.2.1.2.1.1, obind, if_pos (A5 hR.1 (by omega) (by omega)), hW, e2 (), e1 ()]
      exact ih (k + 1) (by omega)
  have e0 : ((0 : Nat) : Int) = 0 := rfl
  have e1 : (((gL S).1.length ^ 0 : Nat) : Int) = 1 := rfl
  have hl := loop N 0 (Nat.zero_add _)
  rw [e0, e1] at hl
  rw [f_X11_rowsOf]
  exact hl
theorem zdiv_nat {c W : Nat} (h : c < 1000000) : zdiv (c : Int) (W : Int) = ((c / W : Nat) : Int) := by
  have h1 : Int.tdiv (c : Int) (W : Int) = ((c / W : Nat) : Int) := rfl
  have h2 : c / W ≤ c := Nat.div_le_self c W
  unfold zdiv
  rw [h1]
  generalize c / W = q at h2
  unfold i32
  rw [Int.bmod_eq_of_le (by omega) (by omega)]
theorem m_takesCode_loop (hR0 : R2 S m) {N : Nat} (hN : N ≤ 5) {x1 : Int} : ∀ (k c : Nat) (suf : List Nat) (m1 : zM), (0 < k → 0 < (gL S).1.length) → c < 1000000 → k + suf.length = N → Fr (rowP 0) m m1 → zi m1 0 27 = (N : Int) → (∀ j, j < suf.length → zi m1 8 (k + j) = ((suf.getD j 0 : Nat) : Int)) →
    ∃ m', zX zP 377 v 12 [some ((.inr (.inr (some 0)))), some (.inl x1), some (.inl (N : Int)), some (.inl (c : Int)), some (.inl ((k : Int) - 1))] [] m1 = some (none, m') ∧ Fr (rowP 0) m m' ∧ ArV m' 27 8 (dgs (gL S).1.length k c ++ suf) := by
  intro k
  induction k with
  | zero =>
    intro c suf m1 hW hc hk hF h1 h2
    refine ⟨m1, ?_, hF, ?_, ?_, fun j hj => ?_⟩
    · rw [j_X11_takesCode_12, if_pos (by omega), j_X11_takesCode_47]
    · show _ = (suf.length : Int)
      rw [h1]; omega
    · show suf.length ≤ 8
      omega
    · have := h2 j hj
      rw [Nat.zero_add] at this
      exact this
  | succ k ih =>
    intro c suf m1 hW hc hk hF h1 h2
    have hR := hR0.fr (rowP_scr hF)
    have hS := hR.1
    have hpos := hW (by omega)
    have hlen : zi m1 5 (Int.toNat 0) = ((gL S).1.length : Int) := hR.bl.1.1
    have k8 : ArS m1 8 9 8 := hS.2.2.2.1.2.2.2
    have e5 : ((k + 1 : Nat) : Int) - 1 = (k : Int) := by omega
    have ez : ∀ _ : Unit, zadd (k : Int) (-1) = (k : Int) - 1 := fun _ => by rw [zadd_of (by unfold r32; omega)]; omega
    have er : zrem (c : Int) ((gL S).1.length : Int) = ((c % (gL S).1.length : Nat) : Int) := rfl
    have hw : Fr (rowP 0) m1 (zwi m1 8 k ((c % (gL S).1.length : Nat) : Int)) := Fr.wi m1 _ (Or.inr rfl)
    have hlen2 : zi (zwi m1 8 k ((c % (gL S).1.length : Nat) : Int)) 5 (Int.toNat 0) = ((gL S).1.length : Int) := (hR0.fr (rowP_scr (hF.tr hw))).bl.1.1
    have hdl : c / (gL S).1.length ≤ c := Nat.div_le_self c _
    have hnz : ¬ ((gL S).1.length : Int) = 0 := by omega
    obtain ⟨m', f1, f2, f3⟩ := ih (c / (gL S).1.length) (c % (gL S).1.length :: suf) _ (fun _ => hpos) (Nat.lt_of_le_of_lt hdl hc) (by rw [List.length_cons]; omega) (hF.tr hw) (by rw [zi_wi_n _ _ (Or.inl (by decide))]; exact h1) (fun j hj => by
      cases j with
      | zero => exact zi_wi_s _ _ _ _
      | succ j =>
        rw [zi_wi_n _ _ (Or.inr (by omega))]
        have := h2 j (by rw [List.length_cons] at hj; omega)
        rw [show k + 1 + j = k + (j + 1) by omega] at this
        exact this)
    refine ⟨m', ?_, f2, ?_⟩
    · rw [e5, j_X11_takesCode_12, if_neg (by omega), if_pos hS.1, hS.2.1.2.1.2.2.2, obind, if_pos hS.1, hS.2.1.2.1.1, obind, if_pos (A5 hS (by omega) (by omega)), hlen, if_neg hnz, if_pos (k8.A (by omega) (by omega)), Int.toNat_natCast, er, zT_wi, if_pos hS.1]
      show (zr m1 0 20).bind _ = _
      rw [hS.2.1.2.1.1, obind]
      show (if zA m1 5 9 0 = true then _ else _) = _
      rw [if_pos (A5 hS (by omega) (by omega)), hlen2, if_neg hnz, zdiv_nat hc, ez ()]
      exact f1
    · show ArV m' 27 8 ((dgs (gL S).1.length k (c / (gL S).1.length) ++ [c % (gL S).1.length]) ++ suf)
      rw [List.append_assoc]
      exact f3
theorem m_takesCode (hR : R2 S m) {N c : Nat} (hN : N ≤ 5) (hW : 0 < N → 0 < (gL S).1.length) (hc : c < 1000000) : ∃ m', zF zP 377 v [(.inr (.inr (some 0))), .inl (c : Int), .inl (N : Int)] m = some (none, m') ∧ Fr (rowP 0) m m' ∧ ArV m' 27 8 (dgs (gL S).1.length N c) := by
  have hw : Fr (rowP 0) m (zwi m 0 27 (N : Int)) := Fr.wi m _ (Or.inl ⟨rfl, rfl⟩)
  have e1 : zsub (N : Int) 1 = (N : Int) - 1 := zsub_of (by unfold r32; omega)
  obtain ⟨m', f1, f2, f3⟩ := m_takesCode_loop (v := v) hR hN (x1 := (c : Int)) N c [] _ hW hc rfl hw (zi_wi_s _ _ _ _) (fun j hj => absurd hj (Nat.not_lt_zero j))
  refine ⟨m', ?_, f2, by rw [List.append_nil] at f3; exact f3⟩
  rw [f_X11_takesCode, if_pos hR.1.1, e1]
  exact f1
end CODES
