/-! LIVING in the reference: any, what it does, what is so. -/
def CeM (m : zM) (c0 : Nat) (x : zCe) (e : Int) : Prop := ∀ j, j < 9 → (c9 x e).getD j 0 = -7 ∨ zi m 5 (c0 + j) = (c9 x e).getD j 0
section LIVE10
variable {B : Nat → Int} {v : Nat} {m m' : zM} {L : zLd} {σ : zLi} {S : zSt} {P N W : Nat}
theorem m_draw {k s d : Nat} (hk : 0 < k) (h : LiM B m S σ) (hs : σ.2.1.1 = s) (hs2 : s < 65536) (hd : dwN s = d) : zF zP 399 v [(.inr (.inr (some 0))), .inl (k : Int)] m = some (some (.inl ((d / 8 % k : Nat) : Int)), zwi m 0 43 (d : Int)) ∧ LiM B (zwi m 0 43 (d : Int)) S (seL σ d) := by
  obtain ⟨hR, ⟨g1, g2, g3⟩, ⟨g4, g5, g6⟩, g7, g8⟩ := h
  have e1 := dw_eq hs2
  have e2 := dv_eq s k
  rw [hd] at e1 e2
  rw [hs] at g1
  have hR2 : R2 (wL S σ.1) (zwi m 0 43 (d : Int)) := hR.s0 (by decide) (by decide)
  have v0 : ∀ j, j ≠ 43 → zi (zwi m 0 43 (d : Int)) 0 j = zi m 0 j := fun j hj => zi_wi_n _ _ (Or.inr hj)
  refine ⟨?_, hR2, ⟨zi_wi_s _ _ _ _, ?_, ?_⟩, ⟨?_, ?_, ?_⟩, ?_, ?_⟩
  · rw [f_X11_draw, if_pos hR.1.1, if_neg (by decide), if_pos hR.1.1, g1, e1, if_pos hR2.1.1, if_neg (by decide), if_neg (by omega), zi_wi_s, e2]
  · rw [v0 44 (by decide)]; exact g2
  · rw [v0 45 (by decide)]; exact g3
  · rw [v0 46 (by decide)]; exact g4
  · rw [v0 47 (by decide)]; exact g5
  · rw [v0 48 (by decide)]; exact g6
  · rw [v0 49 (by decide)]; exact g7
  · exact ⟨by rw [v0 42 (by decide)]; exact g8.1, fun j => (zi_wi_n _ _ (Or.inl (by decide))).trans (g8.2 j)⟩
theorem m_isAny {j : Nat} (hj : j ≤ 300) (h : LiM B m S σ) (hB : LiB j σ) : EfM B m S (zF zP 402 v [(.inr (.inr (some 0)))] m) (eAny σ) := by
  have h0 := h
  have hR := h.1
  have c2 : zi m 5 (Int.toNat 2) = (σ.1.2.2.1.length : Int) := hR.c2
  obtain ⟨d, hd⟩ : ∃ d, dwN σ.2.1.1 = d := ⟨_, rfl⟩
  obtain ⟨e, he⟩ : ∃ e, dwN d = e := ⟨_, rfl⟩
  have hd6 : d < 65536 := by rw [← hd]; exact dwN_lt _
  have he6 : e < 65536 := by rw [← he]; exact dwN_lt _
  unfold eAny
  rw [f_X11_isAny, if_pos hR.1.1, hR.1.2.1.2.1.1, obind, if_pos (A5 hR.1 (by omega) (by omega)), c2, hd, he]
  by_cases c : σ.1.2.2.1.length = 0
  · rw [if_pos (by omega), if_pos c, if_pos zb0]
    exact ⟨m, rfl, h0⟩
  · have hl : 0 < σ.1.2.1.length := by
      have hp := (hR.ps (i := 0) (Nat.pos_of_ne_zero c)).2
      exact Nat.lt_of_le_of_lt (Nat.zero_le _) hp
    obtain ⟨d1, d2⟩ := m_draw (v := 0) (Nat.pos_of_ne_zero c) h0 rfl hB.1 hd
    obtain ⟨e1, e2⟩ := m_draw (v := 0) (σ := seL σ d) hl d2 rfl hd6 he
    have c1' : zi (zwi m 0 43 (d : Int)) 5 (Int.toNat 1) = (σ.1.2.1.length : Int) := d2.1.c1
    have hB2 : LiB j (seL σ e) := ⟨he6, hB.2⟩
    obtain ⟨p, hp⟩ : ∃ p, d / 8 % σ.1.2.2.1.length = p := ⟨_, rfl⟩
    obtain ⟨x, hx⟩ : ∃ x, e / 8 % σ.1.2.1.length = x := ⟨_, rfl⟩
    have hp2 : p < σ.1.2.2.1.length := by rw [← hp]; exact Nat.mod_lt _ (Nat.pos_of_ne_zero c)
    have hx2 : x < σ.1.2.1.length := by rw [← hx]; exact Nat.mod_lt _ hl
    rw [hp] at d1 ⊢
    rw [hx] at e1 ⊢
    obtain ⟨m', r1, r2⟩ := m_isGone (v := 0) (σ := seL σ e) (p := p) (x := x) hp2 hx2 hj e2 hB2
    rw [if_neg (by omega), if_neg c, j_X11_isAny_11, if_pos hR.1.1, hR.1.2.1.2.1.1, obind, if_pos (A5 hR.1 (by omega) (by omega)), if_pos hR.1.1, c2, d1, zC1_s, if_pos d2.1.1.1, d2.1.1.2.1.2.1.1, obind, if_pos (A5 d2.1.1 (by omega) (by omega)), if_pos d2.1.1.1, c1', e1, zC1_s, if_pos e2.1.1.1, r1, zC1_s, if_pos (zb_b01 _)]
    exact ⟨m', rfl, r2⟩
theorem EfM.wrap {o : Option zO} {r : Bool × zLi} (h : EfM B m S o r) : EfM B m S (zC1 o (fun c m1 => if zb c = true then some (some (.inl c), m1) else none)) r := by
  obtain ⟨m', h1, h2⟩ := h
  exact ⟨m', by rw [h1, zC1_s, if_pos (zb_b01 _)], h2⟩
theorem m_does {x : zSp} {c0 j : Nat} {e : Int} (hg : gSp P N W x) (hb : blkS x = false) (h7 : x.2.1 ≠ 7) (hc : c0 + 9 ≤ 2445) (hce : CeM m c0 x.2 e) (hj : j ≤ 300) (h : LiM B m S σ) (hB : LiB j σ) (hz : szs P N W σ) : EfM B m S (zF zP 403 v [(.inr (.inr (some 0))), .inl (c0 : Int)] m) (eX x.2 σ) := by
  obtain ⟨z1, z2, z3⟩ := hz
  have hR := h.1
  have t := hR.1.1
  have r5 : zr m 0 20 = some 5 := hR.1.2.1.2.1.1
  have ea1 : zadd (c0 : Int) 1 = ((c0 + 1 : Nat) : Int) := zadd_nat (k := 1) (by omega)
  have ea2 : zadd (c0 : Int) 2 = ((c0 + 2 : Nat) : Int) := zadd_nat (k := 2) (by omega)
  have cA : ∀ k : Nat, k < 9 → zA m 5 9 ((c0 + k : Nat) : Int) = true := fun k hk => A5 hR.1 (by omega) (by omega)
  have get : ∀ k : Nat, k < 9 → (c9 x.2 e).getD k 0 ≠ -7 → zi m 5 (c0 + k) = (c9 x.2 e).getD k 0 := fun k hk hne => (hce k hk).resolve_left hne
  rw [f_X11_does, if_pos t, r5, obind, if_pos (A5 hR.1 (by omega) (by omega)), Int.toNat_natCast]
  rcases hg with ⟨d, rfl, q1, q2⟩ | ⟨p', l, rfl, q1, q2⟩ | ⟨l, rfl, q1⟩ | ⟨l, rfl, q1⟩ | rfl | ⟨l, rfl, q1⟩ | ⟨p', w, rfl, q1, q2⟩ | ⟨p', s, b, rfl, q1, q2, q3⟩ | ⟨d, rfl, q1, q2⟩ | rfl
  · have k0 : zi m 5 c0 = 0 := get 0 (by decide) (show (0 : Int) ≠ -7 by decide)
    have k1 : zi m 5 (c0 + 1) = (d : Int) := get 1 (by decide) (show (d : Int) ≠ -7 by omega)
    rw [k0, if_pos rfl, if_pos t, obind, ea1, if_pos (cA 1 (by decide)), if_pos t, Int.toNat_natCast, k1]
    exact EfM.wrap (m_anyDays (d := d) q2 hj h hB)
  · have k0 : zi m 5 c0 = 1 := get 0 (by decide) (show (1 : Int) ≠ -7 by decide)
    have k1 : zi m 5 (c0 + 1) = (p' : Int) := get 1 (by decide) (show (p' : Int) ≠ -7 by omega)
    have k2 : zi m 5 (c0 + 2) = (l : Int) := get 2 (by decide) (show (l : Int) ≠ -7 by omega)
    rw [k0, if_neg (by decide), j_X11_does_24, if_pos rfl, if_pos t, r5, obind, ea1, if_pos (cA 1 (by decide)), if_pos t, obind, ea2, if_pos (cA 2 (by decide)), if_pos t, Int.toNat_natCast, Int.toNat_natCast, k1, k2]
    exact EfM.wrap (m_isGone (p := p') (x := l) (by omega) (by omega) hj h hB)
  · have k0 : zi m 5 c0 = 2 := get 0 (by decide) (show (2 : Int) ≠ -7 by decide)
    have k2 : zi m 5 (c0 + 2) = (l : Int) := get 2 (by decide) (show (l : Int) ≠ -7 by omega)
    obtain ⟨m', r1, r2⟩ := m_lo (v := 0) (i := l) true (by omega) h
    have r1' : zF zP 350 0 [(.inr (.inr (some 0))), .inl (l : Int), .inl 1] m = some (some (.inl (b01 (eLo l true σ).1)), m') := r1
    rw [k0, if_neg (by decide), j_X11_does_24, if_neg (by decide), j_X11_does_50, if_neg (by decide), j_X11_does_62, if_pos t, r5, obind, ea2, if_pos (cA 2 (by decide)), if_pos rfl, Int.toNat_natCast, k2, j_X11_does_81, if_pos t, r1', zC1_s, j_X11_does_84, if_pos (zb_b01 _)]
    exact ⟨m', rfl, r2⟩
  · have k0 : zi m 5 c0 = 3 := get 0 (by decide) (show (3 : Int) ≠ -7 by decide)
    have k2 : zi m 5 (c0 + 2) = (l : Int) := get 2 (by decide) (show (l : Int) ≠ -7 by omega)
    obtain ⟨m', r1, r2⟩ := m_lo (v := 0) (i := l) false (by omega) h
    have r1' : zF zP 350 0 [(.inr (.inr (some 0))), .inl (l : Int), .inl 0] m = some (some (.inl (b01 (eLo l false σ).1)), m') := r1
    rw [k0, if_neg (by decide), j_X11_does_24, if_neg (by decide), j_X11_does_50, if_neg (by decide), j_X11_does_62, if_pos t, r5, obind, ea2, if_pos (cA 2 (by decide)), if_neg (by decide), Int.toNat_natCast, k2, j_X11_does_80, j_X11_does_81, if_pos t, r1', zC1_s, j_X11_does_84, if_pos (zb_b01 _)]
    exact ⟨m', rfl, r2⟩
  · have k0 : zi m 5 c0 = 4 := get 0 (by decide) (show (4 : Int) ≠ -7 by decide)
    obtain ⟨m', r1, r2⟩ := m_isAny (v := 0) hj h hB
    rw [k0, if_neg (by decide), j_X11_does_24, if_neg (by decide), j_X11_does_50, if_pos rfl, if_pos t, r1, zC1_s, j_X11_does_84, if_pos (zb_b01 _)]
    exact ⟨m', rfl, r2⟩
  · exact absurd (show true = false from hb) (by decide)
  · exact absurd (show true = false from hb) (by decide)
  · exact absurd (show true = false from hb) (by decide)
  · exact absurd (show true = false from hb) (by decide)
  · exact absurd rfl h7
end LIVE10
