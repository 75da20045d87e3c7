/-! LIVING in the reference: all of it. -/
def RnM (B : Nat → Int) (S : zSt) (P N W : Nat) (out : Option zO) (τ : zLi) : Prop := ∃ m', out = some (none, m') ∧ LiM B m' S τ ∧ (τ.2.2.2 = false → RnOk P N W τ) ∧ τ.2.1.2.1 ≤ 300 ∧ LiB 300 τ ∧ szs P N W τ
section LIVE12
variable {B : Nat → Int} {v : Nat} {m m' : zM} {L : zLd} {σ : zLi} {S : zSt} {P N W : Nat} {A : zAc}
theorem m_lcell (hA : (gBl S).2 = some A) (h : LiM B m S σ) {s : Nat} {x : zSp} {e : Int} (hs : s < nst A) (hc : ceAt A.2.2 s x e) : CeM m (219 + 9 * s) x.2 e ∧ 9 * nst A ≤ 270 := by
  have hY : YvM m 0 (gBl S).2 := h.1.2.2.2.2.1.2.2.2.2
  obtain ⟨y1, y2, y3⟩ := hY.2 A hA
  have hn : 9 * nst A ≤ A.2.2.length := by unfold nst; omega
  refine ⟨fun j hj => ?_, by omega⟩
  have e1 := hc j hj
  have h3 := y3 (9 * s + j) (by omega)
  rw [e1] at h3
  rcases h3 with z | z
  · exact Or.inl z
  · refine Or.inr ?_
    have e2 : 0 + 219 + (9 * s + j) = 219 + 9 * s + j := by omega
    rw [e2] at z; exact z
theorem m_stopX (h : LiM B m S σ) (hs : σ.2.2.2 = true) {x1 x2 x3 : Int} : zX zP 405 v 2 [some (.inr (.inr (some 0))), some (.inl x1), some (.inl x2), some (.inl x3)] [] m = some (none, m) := by
  have h42 : zi m 0 42 = b01 σ.2.2.2 := h.2.2.2.2.1
  rw [j_X11_doAll_2]
  by_cases c : x3 < x2
  · rw [if_pos c, if_pos h.1.1.1, h42, hs, if_neg nb1, j_X11_doAll_39]
  · rw [if_neg c, j_X11_doAll_39]
theorem m_at {s : Nat} (hs : s < 30) : zadd 219 (zmul 9 (s : Int)) = ((219 + 9 * s : Nat) : Int) := by
  have e1 : zmul 9 (s : Int) = ((9 * s : Nat) : Int) := zmul_nat (n := 9) (by omega)
  rw [e1]; exact zadd_nat (n := 219) (by omega)
theorem LiM.do1 (h : LiM B m S σ) : LiM B (zwi m 0 44 ((σ.2.1.2.1 + 1 : Nat) : Int)) S (do1 σ) := by
  obtain ⟨hR, ⟨g1, g2, g3⟩, ⟨g4, g5, g6⟩, g7, g8⟩ := h
  have v0 : ∀ j, j ≠ 44 → zi (zwi m 0 44 ((σ.2.1.2.1 + 1 : Nat) : Int)) 0 j = zi m 0 j := fun j hj => zi_wi_n _ _ (Or.inr hj)
  refine ⟨hR.s0 (by decide) (by decide), ⟨?_, zi_wi_s _ _ _ _, ?_⟩, ⟨?_, ?_, ?_⟩, ?_, ?_⟩
  · rw [v0 43 (by decide)]; exact g1
  · rw [v0 45 (by decide)]; exact g3
  · rw [v0 46 (by decide)]; exact g4
  · rw [v0 47 (by decide)]; exact g5
  · rw [v0 48 (by decide)]; exact g6
  · rw [v0 49 (by decide)]; exact g7
  · exact ⟨by rw [v0 42 (by decide)]; exact g8.1, fun j => (zi_wi_n _ _ (Or.inl (by decide))).trans (g8.2 j)⟩
theorem LiM.stop (h : LiM B m S σ) : LiM B (zwi m 0 42 1) S (spL σ σ.2.2.1) := by
  obtain ⟨hR, ⟨g1, g2, g3⟩, ⟨g4, g5, g6⟩, g7, g8⟩ := h
  have v0 : ∀ j, j ≠ 42 → zi (zwi m 0 42 1) 0 j = zi m 0 j := fun j hj => zi_wi_n _ _ (Or.inr hj)
  refine ⟨hR.s0 (by decide) (by decide), ⟨?_, ?_, ?_⟩, ⟨?_, ?_, ?_⟩, ?_, zi_wi_s _ _ _ _, fun j => (zi_wi_n _ _ (Or.inl (by decide))).trans (g8.2 j)⟩
  · rw [v0 43 (by decide)]; exact g1
  · rw [v0 44 (by decide)]; exact g2
  · rw [v0 45 (by decide)]; exact g3
  · rw [v0 46 (by decide)]; exact g4
  · rw [v0 47 (by decide)]; exact g5
  · rw [v0 48 (by decide)]; exact g6
  · rw [v0 49 (by decide)]; exact g7
theorem LiM.wo {r : Bool × zLi} (h : LiM B m S r.2) {x : Nat} (hx : x = r.2.2.1.2.2.1) : LiM B (zwi m 0 45 ((x + (if r.1 = true then 0 else 1) : Nat) : Int)) S (eW r) := by
  obtain ⟨hR, ⟨g1, g2, g3⟩, ⟨g4, g5, g6⟩, g7, g8⟩ := h
  have v0 : ∀ (y : Int) (j : Nat), j ≠ 45 → zi (zwi m 0 45 y) 0 j = zi m 0 j := fun y j hj => zi_wi_n _ _ (Or.inr hj)
  subst hx
  unfold eW
  by_cases c : r.1 = true
  · rw [if_pos c, if_pos c]
    refine ⟨hR.s0 (by decide) (by decide), ⟨?_, ?_, zi_wi_s _ _ _ _⟩, ⟨?_, ?_, ?_⟩, ?_, ?_⟩
    · rw [v0 _ 43 (by decide)]; exact g1
    · rw [v0 _ 44 (by decide)]; exact g2
    · rw [v0 _ 46 (by decide)]; exact g4
    · rw [v0 _ 47 (by decide)]; exact g5
    · rw [v0 _ 48 (by decide)]; exact g6
    · rw [v0 _ 49 (by decide)]; exact g7
    · exact ⟨by rw [v0 _ 42 (by decide)]; exact g8.1, fun j => (zi_wi_n _ _ (Or.inl (by decide))).trans (g8.2 j)⟩
  · rw [if_neg c, if_neg c]
    refine ⟨hR.s0 (by decide) (by decide), ⟨?_, ?_, zi_wi_s _ _ _ _⟩, ⟨?_, ?_, ?_⟩, ?_, ?_⟩
    · rw [v0 _ 43 (by decide)]; exact g1
    · rw [v0 _ 44 (by decide)]; exact g2
    · rw [v0 _ 46 (by decide)]; exact g4
    · rw [v0 _ 47 (by decide)]; exact g5
    · rw [v0 _ 48 (by decide)]; exact g6
    · rw [v0 _ 49 (by decide)]; exact g7
    · exact ⟨by rw [v0 _ 42 (by decide)]; exact g8.1, fun j => (zi_wi_n _ _ (Or.inl (by decide))).trans (g8.2 j)⟩
/-- one STEP that holds no others -/
theorem m_one {x : zSp} {s : Nat} {e : Int} (hg : gSp P N W x) (hb : blkS x = false) (h7 : x.2.1 ≠ 7) (hs : s < 30) (hce : CeM m (219 + 9 * s) x.2 e) (hd : σ.2.1.2.1 < 300) (h : LiM B m S σ) (hB : LiB σ.2.1.2.1 σ) (hz : szs P N W σ) :
    ∃ m', zF zP 406 v [(.inr (.inr (some 0))), .inl (s : Int)] m = some (none, m') ∧ LiM B m' S (eW (eX x.2 (do1 σ))) := by
  have h0 := h
  obtain ⟨hR, ⟨g1, g2, g3⟩, ⟨g4, g5, g6⟩, g7, g8⟩ := h
  have h1 := h0.do1
  have hlt := (gSp_k hg).2.2.1 hb h7
  have hce1 : CeM (zwi m 0 44 ((σ.2.1.2.1 + 1 : Nat) : Int)) (219 + 9 * s) x.2 e := fun j hj => by
    rw [zi_wi_n _ _ (Or.inl (by decide))]; exact hce j hj
  have k0 : zi (zwi m 0 44 ((σ.2.1.2.1 + 1 : Nat) : Int)) 5 (219 + 9 * s) = x.2.1 := by
    rcases hce1 0 (by decide) with z | z
    · have z' : x.2.1 = -7 := z
      exfalso
      rcases hg with ⟨d, rfl, _⟩ | ⟨p, l, rfl, _⟩ | ⟨l, rfl, _⟩ | ⟨l, rfl, _⟩ | rfl | ⟨l, rfl, _⟩ | ⟨p, w, rfl, _⟩ | ⟨p, s, b, rfl, _⟩ | ⟨d, rfl, _⟩ | rfl
      · have z'' : (0 : Int) = -7 := z'
        omega
      · have z'' : (1 : Int) = -7 := z'
        omega
      · have z'' : (2 : Int) = -7 := z'
        omega
      · have z'' : (3 : Int) = -7 := z'
        omega
      · exact absurd z' (by decide)
      · exact absurd (show true = false from hb) (by decide)
      · exact absurd (show true = false from hb) (by decide)
      · exact absurd (show true = false from hb) (by decide)
      · exact absurd (show true = false from hb) (by decide)
      · exact absurd rfl h7
    · exact z
  obtain ⟨m2, r1, r2⟩ := m_does (v := 0) (j := σ.2.1.2.1) hg hb h7 (by omega) hce1 (by omega) h1 hB hz
  have hwo : (eX x.2 (do1 σ)).2.2.1.2.2.1 = σ.2.1.2.2.1 := eX_wo x.2 (do1 σ)
  have b2 := hB.2.1.1
  have k45 : zi (zwi m 0 44 ((σ.2.1.2.1 + 1 : Nat) : Int)) 0 45 = (σ.2.1.2.2.1 : Int) := h1.2.1.2.2
  have t := hR.1.1
  have st : zF zP 406 v [(.inr (.inr (some 0))), .inl (s : Int)] m = some (none, zwi m2 0 45 ((σ.2.1.2.2.1 + (if (eX x.2 (do1 σ)).1 = true then 0 else 1) : Nat) : Int)) := by
    rw [f_X11_doOne, if_pos t, g2, if_neg (by omega), j_X11_doOne_21, if_pos t, if_pos t, g2, zadd1 (by omega), zT_wi, if_pos t]
    show (zr m 0 20).bind _ = _
    rw [hR.1.2.1.2.1.1, obind, m_at hs, if_pos (A5 h1.1.1 (by omega) (by omega)), Int.toNat_natCast, k0, if_pos hlt, if_pos t, if_pos t, r1, zC1_s, k45]
    by_cases c : (eX x.2 (do1 σ)).1 = true
    · have e0 : zadd (σ.2.1.2.2.1 : Int) 0 = ((σ.2.1.2.2.1 + 0 : Nat) : Int) := zadd_nat (k := 0) (by omega)
      rw [if_pos c, c, if_neg nb1, j_X11_doOne_70, if_pos r2.1.1.1, e0, j_X11_doOne_174]
    · have e1 : zadd (σ.2.1.2.2.1 : Int) 1 = ((σ.2.1.2.2.1 + 1 : Nat) : Int) := zadd1 (by omega)
      rw [if_neg c, bool_f c, if_pos yb0, j_X11_doOne_69, j_X11_doOne_70, if_pos r2.1.1.1, e1, j_X11_doOne_174]
  exact ⟨_, st, r2.wo hwo.symm⟩
end LIVE12
