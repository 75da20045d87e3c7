/-! What was LIVED. -/
def o_lived (S : zSt) (x : Int) : Int × zSt := if inR x 0 4 = true then (match gLv S with
  | none => oNo S 8
  | some p => oYes S (lv5 p x.toNat)) else oNo S 5
section LIVED
variable {v : Nat} {m m' : zM} {S : zSt}
theorem p_lived (hR : R1 S m) (x : Int) : Ex1 (zF zP 233 v [(.inr (.inr (some 0))), .inl x] m) (o_lived S x) := by
  have hS := hR.1
  have r6 : zr m 0 6 = some 64 := hS.2.1.2.2.2.2.2.2.1
  have k64 : ArS m 64 9 5 := hS.2.2.1.2.2.1
  have no : Ex1 (zX zP 233 v 13 [some (.inr (.inr (some 0))), some (.inl x)] [] m) (oNo S 5) := by
    rw [j_X10_lived_13, if_pos hS.1]; exact x1_noC hR
  unfold o_lived
  rw [f_X10_lived]
  by_cases c0 : x < 0
  · rw [if_pos c0, inR_f.mpr (by omega), if_neg (by decide)]; exact no
  · rw [if_neg c0, if_pos hS.1, r6, obind, if_pos (k64.Y (by decide)), k64.L]
    by_cases c1 : x < 5
    · rw [if_pos (show x < ((5 : Nat) : Int) from c1), inR_t.mpr (by omega), if_pos rfl, j_X10_lived_19, if_pos hS.1]
      have h8 : zi m 0 9 = b01 (gLv S).isSome := hR.2.1.2.2.2.2.2.2.1
      cases e : gLv S with
      | none =>
        rw [h8, e, if_pos (show b01 (none : Option (Int × Int × Int × Int × Int)).isSome = 0 from yb0), j_X10_lived_39, if_pos hS.1, c_no hS, zC1_s, j_X10_lived_45]
        exact x1_no hR
      | some p =>
        have hp := hR.2.2.2.2.2.2.1 p e x.toNat (by omega)
        rw [h8, e, if_neg (show ¬ b01 (some p).isSome = 0 from nb1), if_pos hS.1, r6, obind, if_pos (k64.A (by omega) (by omega)), if_pos hS.1, hp, c_yes hS, zC1_s, j_X10_lived_45]
        exact x1_yes hR
    · rw [if_neg (show ¬ x < ((5 : Nat) : Int) from c1), inR_f.mpr (by omega), if_neg (by decide)]; exact no
theorem w_lived (hR : R2 S m) (x : Int) : Ex2 (zF zP 409 v [(.inr (.inr (some 0))), .inl x] m) (o_lived S x) := by
  have h0 := hR.pre
  unfold o_lived
  rw [f_X11_lived, if_pos hR.1.1, zT_wi, if_pos hR.1.1, m_isIn, zC1_s]
  generalize zwi (zwi m 0 1 0) 0 0 0 = m0 at h0 ⊢
  by_cases c : inR x 0 4 = true
  · have h41 : zi m0 0 41 = b01 (gLv S).isSome := h0.2.1.2.2.2.2.2.2.2.1
    have r40 : zr m0 0 40 = some 16 := h0.1.2.1.2.2.2.2.2.2
    have k16 : ArS m0 16 9 5 := h0.1.2.2.2.2.2.2.2.2
    rw [if_neg (by rw [c]; decide), if_pos c, j_X11_lived_28, if_pos h0.1.1]
    rw [inR_t] at c
    cases e : gLv S with
    | none =>
      rw [h41, e, if_pos (show b01 (none : Option (Int × Int × Int × Int × Int)).isSome = 0 from yb0), j_X11_lived_44, if_pos h0.1.1, m_refuse h0.1, zC1_s, j_X11_lived_50]
      exact x2_no h0
    | some p =>
      have hp : zi m0 16 x.toNat = lv5 p x.toNat := h0.2.2.2.2.2.2 p e x.toNat (by omega)
      rw [h41, e, if_neg (show ¬ b01 (some p).isSome = 0 from nb1), if_pos h0.1.1, r40, obind, if_pos (k16.A (by omega) (by omega)), hp, j_X11_lived_50]
      exact x2_yes h0
  · rw [if_pos (by rw [bool_f c]; rfl), if_neg c, if_pos h0.1.1]; exact x2_noC h0
end LIVED
