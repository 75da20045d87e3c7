/-! The reference: a LINE puts the row right. -/
section MODEL5
variable {v : Nat} {m : zM} {a : Nat} {l : List Nat}
theorem zor0 {x : Int} (h : r32 x) : zor x 0 = x := by
  refine zib_ext (r32_v _) h (fun i _ => ?_)
  rw [zib_or, show (0 : Int) = ((0 : Nat) : Int) from rfl, zib_nat 0 i (by decide), Nat.zero_testBit, Bool.or_false]
theorem r32_or (x y : Int) : r32 (zor x y) := r32_v _
theorem m_puts_loop {i : Nat} {es : List zEd} (hi : i < 8) : ∀ (r : List zEd) (k : Nat) (acc : Int) (l : List Nat) (m : zM), MoS m a → MlV m a i es → RoV m a l → rOk l → r32 acc → es.drop k = r →
    ∃ m', zX zP 333 v 4 [some (.inr (.inr (some a))), some (.inl (i : Int)), some (.inl acc), some (.inl (k : Int))] [] m = some (some (.inl (vainE r k acc l)), m') ∧ Fr (rowP a) m m' ∧ RoV m' a (lput r l) ∧ rOk (lput r l) := by
  intro r
  induction r with
  | nil =>
    intro k acc l m h hM hv hl hacc hk
    have h1 : es.length ≤ k := List.drop_eq_nil_iff.mp hk
    have e13 : zadd 13 (i : Int) = ((13 + i : Nat) : Int) := zadd_nat (n := 13) (by omega)
    have hA : zA m (a + 5) 9 ((13 + i : Nat) : Int) = true := h.c.2.A (Int.natCast_nonneg _) (Int.ofNat_lt.mpr (Nat.lt_of_lt_of_le (Nat.add_lt_add_left hi 13) (by decide)))
    refine ⟨m, ?_, Fr.rf _ _, hv, hl⟩
    rw [j_X11_puts_4, if_pos h.1, h.c.1, obind, e13, if_pos hA, Int.toNat_natCast, hM.1, if_neg (by omega), j_X11_puts_42]; rfl
  | cons e r ih =>
    intro k acc l m h hM hv hl hacc hk
    obtain ⟨h1, h2, h3⟩ := edrop_cons hk
    have h4 := hM.2.1
    have he : eOk e := by rw [← h2]; exact es_ok hM.2.2.1 k
    have e13 : zadd 13 (i : Int) = ((13 + i : Nat) : Int) := zadd_nat (n := 13) (by omega)
    have hA : zA m (a + 5) 9 ((13 + i : Nat) : Int) = true := h.c.2.A (Int.natCast_nonneg _) (Int.ofNat_lt.mpr (Nat.lt_of_lt_of_le (Nat.add_lt_add_left hi 13) (by decide)))
    have hE : EdM m a i k e := by rw [← h2]; exact hM.2.2.2 k h1
    obtain ⟨m1, f1, f2, f3⟩ := m_edits (v := 0) h hv hl hE he hi (by omega)
    have hok := getD_edone_ok he hl
    rw [j_X11_puts_4, if_pos h.1, h.c.1, obind, e13, if_pos hA, Int.toNat_natCast, hM.1, if_pos (by omega), if_pos h.1, f1, zC1_s, vainE, lput]
    cases hq : edone e l with
    | none =>
      rw [hq] at f3 hok
      obtain ⟨m', g1, g2, g3⟩ := ih (k + 1) (zor acc (zshl 1 (k : Int))) l m1 (f2.Mo h) (f2.mlV (rowP5 a) hM) f3 hl (r32_or _ _) h3
      refine ⟨m', ?_, f2.tr g2, g3⟩
      rw [show b01 (none : Option (List Nat)).isSome = 0 from rfl, if_pos rfl, j_X11_puts_31, j_X11_puts_34, zadd1 (by omega), if_pos rfl]
      exact g1
    | some l2 =>
      rw [hq] at f3 hok
      obtain ⟨m', g1, g2, g3⟩ := ih (k + 1) acc l2 m1 (f2.Mo h) (f2.mlV (rowP5 a) hM) f3 hok hacc h3
      refine ⟨m', ?_, f2.tr g2, g3⟩
      rw [show b01 (some l2).isSome = 1 from rfl, if_neg (by decide), j_X11_puts_34, zor0 hacc, zadd1 (by omega), if_neg (fun q => by cases q)]
      exact g1
theorem m_puts {i : Nat} {es : List zEd} (h : MoS m a) (hM : MlV m a i es) (hv : RoV m a l) (hl : rOk l) (hi : i < 8) :
    ∃ m', zF zP 333 v [.inr (.inr (some a)), .inl (i : Int)] m = some (some (.inl (vainE es 0 0 l)), m') ∧ Fr (rowP a) m m' ∧ RoV m' a (lput es l) ∧ rOk (lput es l) := by
  rw [f_X11_puts]
  exact m_puts_loop hi es 0 0 l m h hM hv hl (by unfold r32; omega) rfl
end MODEL5
