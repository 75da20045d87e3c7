/-! The reference's EDITS on its row; a LINE put right. -/
section MODEL4
variable {v : Nat} {m : zM} {a : Nat} {l : List Nat}
theorem zmul_nat {n k : Nat} (h : n * k < 2147483648) : zmul (n : Int) (k : Int) = ((n * k : Nat) : Int) := by
  unfold zmul i32
  have e : (n : Int) * (k : Int) = ((n * k : Nat) : Int) := by simp
  rw [e, Int.bmod_eq_of_le (by omega) (by omega)]
/-- where an EDIT lies; a LINE's EDITS -/
def cellN (i k : Nat) : Nat := 29 + 16 * i + 4 * k
theorem m_cell {i k : Nat} (hi : i < 8) (hk : k < 4) : zF zP 296 v [.inl (i : Int), .inl (k : Int)] m = some (some (.inl (cellN i k : Int)), m) := by
  have e1 : zmul 16 (i : Int) = ((16 * i : Nat) : Int) := zmul_nat (n := 16) (by omega)
  have e2 : zmul 4 (k : Int) = ((4 * k : Nat) : Int) := zmul_nat (n := 4) (by omega)
  have e3 : zadd 29 ((16 * i : Nat) : Int) = ((29 + 16 * i : Nat) : Int) := zadd_nat (n := 29) (by omega)
  rw [f_X11_cell, e1, e2, e3, zadd_nat (by omega)]; rfl
def EdM (m : zM) (a i k : Nat) (e : zEd) : Prop := zi m (a + 5) (cellN i k) = (e.1 : Int) ∧ zi m (a + 5) (cellN i k + 1) = (e.2.1 : Int) ∧ zi m (a + 5) (cellN i k + 2) = (e.2.2.1 : Int) ∧ zi m (a + 5) (cellN i k + 3) = b01 e.2.2.2
def MlV (m : zM) (a i : Nat) (es : List zEd) : Prop := zi m (a + 5) (13 + i) = (es.length : Int) ∧ es.length ≤ 4 ∧ (∀ e ∈ es, eOk e) ∧ ∀ k, k < es.length → EdM m a i k (es.getD k e00)
theorem Fr.edM {P : Nat → Nat → Prop} {m m' : zM} {a i k : Nat} {e : zEd} (h : Fr P m m') (hP : ∀ j, ¬ P (a + 5) j) (hv : EdM m a i k e) : EdM m' a i k e := by
  unfold EdM at hv ⊢
  rw [h.i (hP _), h.i (hP _), h.i (hP _), h.i (hP _)]; exact hv
theorem Fr.mlV {P : Nat → Nat → Prop} {m m' : zM} {a i : Nat} {es : List zEd} (h : Fr P m m') (hP : ∀ j, ¬ P (a + 5) j) (hv : MlV m a i es) : MlV m' a i es :=
  ⟨by rw [h.i (hP _)]; exact hv.1, hv.2.1, hv.2.2.1, fun k hk => h.edM hP (hv.2.2.2 k hk)⟩
theorem rowP5 (a j : Nat) : ¬ rowP a (a + 5) j := by unfold rowP; omega
theorem m_edits {i k : Nat} {e : zEd} (h : MoS m a) (hv : RoV m a l) (hl : rOk l) (hE : EdM m a i k e) (he : eOk e) (hi : i < 8) (hk : k < 4) :
    ∃ m', zF zP 332 v [.inr (.inr (some a)), .inl (i : Int), .inl (k : Int)] m = some (some (.inl (b01 (edone e l).isSome)), m') ∧ Fr (rowP a) m m' ∧ RoV m' a ((edone e l).getD l) := by
  have h8 := hv.2.1
  obtain ⟨E0, E1, E2, E3⟩ := hE
  have hcN : cellN i k ≤ 2441 := by unfold cellN; omega
  have hcell : zF zP 296 0 [.inl (i : Int), .inl (k : Int)] m = some (some (.inl (cellN i k : Int)), m) := m_cell hi hk
  generalize cellN i k = W at E0 E1 E2 E3 hcN hcell
  have hcA : ∀ x : Nat, x < 2445 → zA m (a + 5) 9 (x : Int) = true := fun x hx => h.c.2.A (Int.natCast_nonneg x) (Int.ofNat_lt.mpr hx)
  have hc0 : zA m (a + 5) 9 (W : Int) = true := hcA W (Nat.lt_of_le_of_lt hcN (by decide))
  have hc1 : zA m (a + 5) 9 ((W + 1 : Nat) : Int) = true := hcA _ (Nat.lt_of_le_of_lt (Nat.add_le_add_right hcN 1) (by decide))
  have hc2 : zA m (a + 5) 9 ((W + 2 : Nat) : Int) = true := hcA _ (Nat.lt_of_le_of_lt (Nat.add_le_add_right hcN 2) (by decide))
  have hc3 : zA m (a + 5) 9 ((W + 3 : Nat) : Int) = true := hcA _ (Nat.lt_of_le_of_lt (Nat.add_le_add_right hcN 3) (by decide))
  have c1 : zadd (W : Int) 1 = ((W + 1 : Nat) : Int) := zadd1 (Nat.lt_of_le_of_lt hcN (by decide))
  have c2 : zadd (W : Int) 2 = ((W + 2 : Nat) : Int) := zadd_nat (k := 2) (Nat.lt_of_le_of_lt (Nat.add_le_add_right hcN 2) (by decide))
  have c3 : zadd (W : Int) 3 = ((W + 3 : Nat) : Int) := zadd_nat (k := 3) (Nat.lt_of_le_of_lt (Nat.add_le_add_right hcN 3) (by decide))
  clear hcN hcA
  rw [f_X11_edits, hcell, zC1_s, if_pos h.1, h.c.1, obind, c1, if_pos hc1, if_pos h.1, Int.toNat_natCast, E1, m_firstOf h hv, zC1_s]
  by_cases h1 : ixF l e.2.1 0 = -1
  · have hn : edone e l = none := by unfold edone; rw [if_pos h1]
    rw [h1, if_pos (by decide), j_X11_edits_44, hn]
    exact ⟨m, rfl, Fr.rf _ _, hv⟩
  · obtain ⟨p, p1, p2⟩ := ixF_nat h1
    have hsp := edone_spec (l := l) he
    rcases efst_at e l 0 with ⟨q1, -⟩ | ⟨p', q1, q2, q3, q4⟩
    · exact absurd q1 h1
    have hpp : p' = p := by rw [p1] at q1; omega
    subst hpp
    rw [p1, if_neg (by omega), if_pos h.1, h.c.1, obind, if_pos hc0, Int.toNat_natCast, E0]
    by_cases hk2 : e.1 = 2
    · rw [if_pos (by omega), if_pos h.1, hv.1]
      by_cases hf : l.length = 8
      · have hn : edone e l = none := by rw [hsp]; unfold espec; rw [if_pos ⟨hk2, by omega⟩]
        rw [if_pos (by omega), j_X11_edits_44, hn]
        exact ⟨m, rfl, Fr.rf _ _, hv⟩
      · have hr : edone e l = some (l.insertIdx (p' + 1) e.2.2.1) := by
          unfold edone
          rw [if_neg h1, if_pos hk2, if_pos (by omega), p1]; rfl
        obtain ⟨m', f1, f2, f3⟩ := m_inserts (v := 0) (i := p' + 1) (w := e.2.2.1) h hv (by omega) (by omega) he.2.2.1
        refine ⟨m', ?_, f2, by rw [hr]; exact f3⟩
        rw [if_neg (by omega), j_X11_edits_46, if_pos h.1, h.c.1, obind, if_pos hc0, Int.toNat_natCast, E0, if_pos (by omega), if_pos h.1, obind, c2, if_pos hc2, if_pos h.1, Int.toNat_natCast, E2, zadd1 (by omega), f1, zC0_s, j_X11_edits_158, hr]; rfl
    · have hr : edone e l = some (l.take p' ++ (eact e ++ eall e (l.drop (p' + 1)))) := by
        rw [hsp]; unfold espec; rw [if_neg (fun q => hk2 q.1), q4]
      rw [if_neg (by omega), j_X11_edits_46, if_pos h.1, h.c.1, obind, if_pos hc0, Int.toNat_natCast, E0, if_neg (by omega), j_X11_edits_75, if_pos h.1, h.c.1, obind, if_pos hc0, Int.toNat_natCast, E0]
      by_cases hk1 : e.1 = 1
      · obtain ⟨m', f1, f2, f3⟩ := m_deletes (v := 0) (p := p') (e := e) h hv p2 hk1
        refine ⟨m', ?_, f2, by rw [hr]; exact f3⟩
        rw [if_pos (by omega), if_pos h.1, obind, c1, if_pos hc1, if_pos h.1, obind, c3, if_pos hc3, Int.toNat_natCast, Int.toNat_natCast, E3, E1]
        by_cases hp : e.2.2.2 = true
        · rw [b01_t hp] at f1 ⊢
          rw [if_pos rfl, j_X11_edits_113, if_pos h.1, f1, zC0_s, j_X11_edits_158, hr]; rfl
        · rw [b01_f hp] at f1 ⊢
          rw [if_neg (by decide), j_X11_edits_112, j_X11_edits_113, if_pos h.1, f1, zC0_s, j_X11_edits_158, hr]; rfl
      · have hk0 : e.1 = 0 := by have := he.1; omega
        obtain ⟨m', f1, f2, f3⟩ := m_reads (v := 0) (p := p') (e := e) h hv p2 hk0
        refine ⟨m', ?_, f2, by rw [hr]; exact f3⟩
        rw [if_neg (by omega), j_X11_edits_119, if_pos h.1, h.c.1, obind, c1, if_pos hc1, if_pos h.1, obind, c2, if_pos hc2, if_pos h.1, obind, c3, if_pos hc3, Int.toNat_natCast, Int.toNat_natCast, Int.toNat_natCast, E3, E2, E1]
        by_cases hp : e.2.2.2 = true
        · rw [b01_t hp] at f1 ⊢
          rw [if_pos rfl, j_X11_edits_155, if_pos h.1, f1, zC0_s, j_X11_edits_158, hr]; rfl
        · rw [b01_f hp] at f1 ⊢
          rw [if_neg (by decide), j_X11_edits_154, j_X11_edits_155, if_pos h.1, f1, zC0_s, j_X11_edits_158, hr]; rfl
end MODEL4
