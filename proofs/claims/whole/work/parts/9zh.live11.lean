/-! LIVING in the reference: what is so; a STEP counted. -/
section LIVE11
variable {B : Nat → Int} {v : Nat} {m m' : zM} {L : zLd} {σ : zLi} {S : zSt} {P N W : Nat} {A : zAc}
theorem m_isSo {x : zSp} {c0 : Nat} {e : Int} (hg : gSp P N W x) (h5 : x.2.1 = 5) (hc : c0 + 9 ≤ 2445) (hce : CeM m c0 x.2 e) (h : LiM B m S σ) (hz : szs P N W σ) : ∃ m', zF zP 404 v [(.inr (.inr (some 0))), .inl (c0 : Int)] m = some (some (.inl (b01 (tX x.2 σ.1))), m') ∧ LiM B m' S σ := by
  obtain ⟨z1, z2, z3⟩ := hz
  have hR := h.1
  have t := hR.1.1
  have r5 : zr m 0 20 = some 5 := hR.1.2.1.2.1.1
  have ea1 : ∀ _ : Unit, zadd (c0 : Int) 1 = ((c0 + 1 : Nat) : Int) := fun _ => zadd_nat (k := 1) (by omega)
  have ea2 : ∀ _ : Unit, zadd (c0 : Int) 2 = ((c0 + 2 : Nat) : Int) := fun _ => zadd_nat (k := 2) (by omega)
  have ea6 : ∀ _ : Unit, zadd (c0 : Int) 6 = ((c0 + 6 : Nat) : Int) := fun _ => zadd_nat (k := 6) (by omega)
  have ea7 : ∀ _ : Unit, zadd (c0 : Int) 7 = ((c0 + 7 : Nat) : Int) := fun _ => zadd_nat (k := 7) (by omega)
  have cA : ∀ k : Nat, k < 9 → zA m 5 9 ((c0 + k : Nat) : Int) = true := fun k hk => A5 hR.1 (by omega) (by omega)
  have get : ∀ k : Nat, k < 9 → (c9 x.2 e).getD k 0 ≠ -7 → zi m 5 (c0 + k) = (c9 x.2 e).getD k 0 := fun k hk hne => (hce k hk).resolve_left hne
  -- a PERSON's ROW taken
  have row : ∀ p : Nat, p < σ.1.2.2.1.length → zi m 5 (c0 + 6) ≠ 0 → zi m 5 (c0 + 1) = (p : Int) → ∃ m1, zF zP 404 v [(.inr (.inr (some 0))), .inl (c0 : Int)] m = (if zi m 5 (c0 + 6) = 1 then (if zT m1 0 7 = true then (zr m1 0 20).bind (fun b2 => if zA m1 b2 9 (zadd (c0 : Int) 2) = true then (if zT m1 0 7 = true then zC1 (zF zP 327 0 [(.inr (.inr (some 0))), .inl (zi m1 b2 (Int.toNat (zadd (c0 : Int) 2)))] m1) (fun c4 m3 => if c4 < 0 then zX zP 404 v 58 [some (.inr (.inr (some 0))), some (.inl (c0 : Int)), some (.inl (zi m 5 (c0 + 6))), some (.inl (p : Int))] [] m3 else zX zP 404 v 59 [some (.inr (.inr (some 0))), some (.inl (c0 : Int)), some (.inl (zi m 5 (c0 + 6))), some (.inl (p : Int))] [.inl 1] m3) else none) else none) else none) else zX zP 404 v 60 [some (.inr (.inr (some 0))), some (.inl (c0 : Int)), some (.inl (zi m 5 (c0 + 6))), some (.inl (p : Int))] [] m1) ∧ LiM B m1 S σ ∧ ArV m1 27 8 (row0 σ.1 p) ∧ ∀ j, zi m1 5 j = zi m 5 j := fun p hp h6 h1 => by
    obtain ⟨m1, f1, f2, f3⟩ := m_takesSaid (v := 0) hR (p := p) hp
    have hR1 : R2 (wL S σ.1) m1 := hR.fr (f2.mono (fun b j q => by unfold rowP at q; unfold scr; omega))
    refine ⟨m1, ?_, h.fr f2 (fun j _ _ => by unfold rowP; omega) (fun j => by unfold rowP; omega) hR1 rfl, f3, fun j => f2.i (by unfold rowP; omega)⟩
    rw [f_X11_isSo, if_pos t, r5, obind, ea6 (), if_pos (cA 6 (by decide)), if_pos t, obind, ea1 (), if_pos (cA 1 (by decide)), Int.toNat_natCast, Int.toNat_natCast, if_neg h6, h1, j_X11_isSo_29, if_pos t, f1, zC0_s]
  rcases hg with ⟨d, rfl, q1, q2⟩ | ⟨p', l, rfl, q1, q2⟩ | ⟨l, rfl, q1⟩ | ⟨l, rfl, q1⟩ | rfl | ⟨l, rfl, q1⟩ | ⟨p', w, rfl, q1, q2⟩ | ⟨p', s, b, rfl, q1, q2, q3⟩ | ⟨d, rfl, q1, q2⟩ | rfl
  · have h' : (0 : Int) = 5 := h5
    omega
  · have h' : (1 : Int) = 5 := h5
    omega
  · have h' : (2 : Int) = 5 := h5
    omega
  · have h' : (3 : Int) = 5 := h5
    omega
  · exact absurd h5 (by decide)
  · have k6 : zi m 5 (c0 + 6) = 0 := get 6 (by decide) (show (0 : Int) ≠ -7 by decide)
    have k1 : zi m 5 (c0 + 1) = (l : Int) := get 1 (by decide) (show (l : Int) ≠ -7 by omega)
    have hl : l < σ.1.2.1.length := by omega
    have hi : zF zP 312 0 [(.inr (.inr (some 0))), .inl (l : Int)] m = some (some (.inl (b01 (σ.1.2.1.getD l ln0).2.1)), m) := m_isLost (v := 0) hR hl
    refine ⟨m, ?_, h⟩
    rw [f_X11_isSo, if_pos t, r5, obind, ea6 (), if_pos (cA 6 (by decide)), if_pos t, obind, ea1 (), if_pos (cA 1 (by decide)), Int.toNat_natCast, Int.toNat_natCast, k6, if_pos rfl, if_pos t, k1, hi, zC1_s, if_pos (zb_b01 _)]
    rfl
  · have k6 : zi m 5 (c0 + 6) = 1 := get 6 (by decide) (show (1 : Int) ≠ -7 by decide)
    have k1 : zi m 5 (c0 + 1) = (p' : Int) := get 1 (by decide) (show (p' : Int) ≠ -7 by omega)
    have k2 : zi m 5 (c0 + 2) = (w : Int) := get 2 (by decide) (show (w : Int) ≠ -7 by omega)
    obtain ⟨m1, r1, r2, r3, r4⟩ := row p' (by omega) (by rw [k6]; decide) k1
    have hf := m_firstOf (v := 0) (w := w) r2.1.1.mo r3.ro
    refine ⟨m1, ?_, r2⟩
    rw [r1, k6, if_pos rfl, if_pos r2.1.1.1, r2.1.1.2.1.2.1.1, obind, ea2 (), if_pos (A5 r2.1.1 (by omega) (by omega)), if_pos r2.1.1.1, Int.toNat_natCast, r4, k2, hf, zC1_s]
    have tx : tX (5, (p' : Int), (w : Int), 1, -7) σ.1 = !decide (ixF (row0 σ.1 p') w 0 = -1) := rfl
    show _ = (some (some (Sum.inl (b01 (tX (5, (p' : Int), (w : Int), 1, -7) σ.1)) : zV), m1) : Option zO)
    rw [tx]
    have hx := ixF_ge (row0 σ.1 p') w 0
    by_cases c : ixF (row0 σ.1 p') w 0 = -1
    · rw [if_pos (by omega), j_X11_isSo_58, j_X11_isSo_59, if_pos zb0, decide_eq_true c]; rfl
    · rw [if_neg (by omega), j_X11_isSo_59, if_pos zb1, decide_eq_false c]; rfl
  · have k6 : zi m 5 (c0 + 6) = 2 := get 6 (by decide) (show (2 : Int) ≠ -7 by decide)
    have k1 : zi m 5 (c0 + 1) = (p' : Int) := get 1 (by decide) (show (p' : Int) ≠ -7 by omega)
    have k2 : zi m 5 (c0 + 2) = (b : Int) := get 2 (by decide) (show (b : Int) ≠ -7 by omega)
    have k7 : zi m 5 (c0 + 7) = (s : Int) := get 7 (by decide) (show (s : Int) ≠ -7 by omega)
    obtain ⟨m1, r1, r2, r3, r4⟩ := row p' (by omega) (by rw [k6]; decide) k1
    have r51 : zr m1 0 20 = some 5 := r2.1.1.2.1.2.1.1
    have h27 : zi m1 0 27 = ((row0 σ.1 p').length : Int) := r3.1
    refine ⟨m1, ?_, r2⟩
    have a7 : zA m1 5 9 ((c0 + 7 : Nat) : Int) = true := A5 r2.1.1 (by omega) (by omega)
    have a2 : zA m1 5 9 ((c0 + 2 : Nat) : Int) = true := A5 r2.1.1 (by omega) (by omega)
    have t1 := r2.1.1.1
    rw [r1, k6, if_neg (by decide), j_X11_isSo_60, if_pos t1, r51, obind, ea7 (), if_pos a7, Int.toNat_natCast, r4, k7]
    show _ = (some (some (Sum.inl (b01 (tX (5, (p' : Int), (b : Int), 2, (s : Int)) σ.1)) : zV), m1) : Option zO)
    rcases q2 with s' | s' | s'
    · subst s'
      have tx : tX (5, (p' : Int), (b : Int), 2, ((60 : Nat) : Int)) σ.1 = decide ((row0 σ.1 p').length < b) := rfl
      rw [tx, if_pos (show ((60 : Nat) : Int) = 60 from rfl), if_pos t1, if_pos t1, obind, ea2 (), if_pos a2, Int.toNat_natCast, r4, k2, h27]
      by_cases c : (row0 σ.1 p').length < b
      · rw [if_pos (by omega), j_X11_isSo_154, if_pos zb1, decide_eq_true c]; rfl
      · rw [if_neg (by omega), j_X11_isSo_93, j_X11_isSo_154, if_pos zb0, decide_eq_false c]; rfl
    · subst s'
      have tx : tX (5, (p' : Int), (b : Int), 2, ((61 : Nat) : Int)) σ.1 = decide ((row0 σ.1 p').length = b) := rfl
      rw [tx, if_neg (show ¬ ((61 : Nat) : Int) = 60 by decide), j_X11_isSo_97, if_pos t1, r51, obind, ea7 (), if_pos a7, Int.toNat_natCast, r4, k7, if_neg (show ¬ ((61 : Nat) : Int) = 62 by decide), j_X11_isSo_134, if_pos t1, if_pos t1, r51, obind, ea2 (), if_pos a2, Int.toNat_natCast, r4, k2, h27]
      by_cases c : (row0 σ.1 p').length = b
      · rw [if_pos (by omega), j_X11_isSo_154, if_pos zb1, decide_eq_true c]; rfl
      · rw [if_neg (by omega), j_X11_isSo_153, j_X11_isSo_154, if_pos zb0, decide_eq_false c]; rfl
    · subst s'
      have tx : tX (5, (p' : Int), (b : Int), 2, ((62 : Nat) : Int)) σ.1 = decide (b < (row0 σ.1 p').length) := rfl
      rw [tx, if_neg (show ¬ ((62 : Nat) : Int) = 60 by decide), j_X11_isSo_97, if_pos t1, r51, obind, ea7 (), if_pos a7, Int.toNat_natCast, r4, k7, if_pos (show ((62 : Nat) : Int) = 62 from rfl), if_pos t1, if_pos t1, obind, ea2 (), if_pos a2, Int.toNat_natCast, r4, k2, h27]
      by_cases c : b < (row0 σ.1 p').length
      · rw [if_pos (by omega), j_X11_isSo_154, if_pos zb1, decide_eq_true c]; rfl
      · rw [if_neg (by omega), j_X11_isSo_130, j_X11_isSo_154, if_pos zb0, decide_eq_false c]; rfl
  · have h' : (6 : Int) = 5 := h5
    omega
  · exact absurd h5 (by decide)
end LIVE11
