/-! LIVING in the reference: what a STEP does. -/
def LiM (B : Nat → Int) (m : zM) (S : zSt) (σ : zLi) : Prop := R2 (wL S σ.1) m ∧ (zi m 0 43 = (σ.2.1.1 : Int) ∧ zi m 0 44 = (σ.2.1.2.1 : Int) ∧ zi m 0 45 = (σ.2.1.2.2.1 : Int)) ∧ (zi m 0 46 = (σ.2.1.2.2.2.1 : Int) ∧ zi m 0 47 = (σ.2.1.2.2.2.2.1 : Int) ∧ zi m 0 48 = (σ.2.1.2.2.2.2.2 : Int)) ∧ (zi m 0 49 = b01 σ.2.2.1 ∧ zi m 0 42 = b01 σ.2.2.2 ∧ ∀ j, zi m 6 j = B j)
def EfM (B : Nat → Int) (m : zM) (S : zSt) (out : Option zO) (r : Bool × zLi) : Prop := ∃ m', out = some (some (.inl (b01 r.1)), m') ∧ LiM B m' S r.2
section LIVE9
variable {B : Nat → Int} {v : Nat} {m m' : zM} {L : zLd} {σ : zLi} {S : zSt} {P : Nat → Nat → Prop}
theorem LiM.fr {σ' : zLi} (h : LiM B m S σ) (hf : Fr P m m') (hP : ∀ j, 42 ≤ j → j ≤ 49 → ¬ P 0 j) (h6 : ∀ j, ¬ P 6 j) (hR : R2 (wL S σ'.1) m') (e : σ'.2 = σ.2) : LiM B m' S σ' := by
  obtain ⟨h1, ⟨g1, g2, g3⟩, ⟨g4, g5, g6⟩, g7, g8⟩ := h
  unfold LiM
  rw [e, hf.i (hP 43 (by decide) (by decide)), hf.i (hP 44 (by decide) (by decide)), hf.i (hP 45 (by decide) (by decide)), hf.i (hP 46 (by decide) (by decide)), hf.i (hP 47 (by decide) (by decide)), hf.i (hP 48 (by decide) (by decide)), hf.i (hP 49 (by decide) (by decide)), hf.i (hP 42 (by decide) (by decide))]
  exact ⟨hR, ⟨g1, g2, g3⟩, ⟨g4, g5, g6⟩, g7, g8.1, fun j => (hf.i (h6 j)).trans (g8.2 j)⟩
theorem R2.s0 {x : Int} {j : Nat} (hR : R2 S m) (hj : 42 ≤ j) (hj2 : j ≤ 49) : R2 S (zwi m 0 j x) := hR.fr (Fr.wi m x (by unfold scr; omega))
theorem sz_day {L : zLd} (h6 : L.2.2.1.length ≤ 6) : szF (day1s L) 8 0 0 = (mvd L : Int) := sz_cn (mvB L) h6
theorem m_days_loop {d : Nat} (hd : d ≤ 20) (L : zLd) (h6 : L.2.2.1.length ≤ 6) : ∀ (n k s : Nat) (m : zM), k + n = d → s + 6 * n < 1000000 → R2 (wL S (dysL L k)) m → zi m 0 48 = (s : Int) →
    ∃ m', zX zP 400 v 18 [some (.inr (.inr (some 0))), some (.inl (d : Int)), some (.inl (k : Int))] [] m = zX zP 400 v 45 [some (.inr (.inr (some 0))), some (.inl (d : Int)), some (.inl (d : Int))] [] m' ∧ Fr (fun b j => dyP b j ∨ (b = 0 ∧ j = 48)) m m' ∧ R2 (wL S (dysL L d)) m' ∧ zi m' 0 48 = ((s + mvs L n k : Nat) : Int) := by
  intro n
  induction n with
  | zero =>
    intro k s m hk hs hR h48
    have e : k = d := by omega
    subst e
    exact ⟨m, by rw [j_X11_anyDays_18, if_neg (by omega)], Fr.rf _ _, hR, h48⟩
  | succ n ih =>
    intro k s m hk hs hR h48
    obtain ⟨m1, f1, f2, f3⟩ := m_goesDay (v := 0) hR
    have hmd : mvd (dysL L k) = mvd (mapP L (fun i => inDays L i k)) := rfl
    have hl : (dysL L k).2.2.1.length ≤ 6 := by rw [(sz_dys L k).2.2]; exact h6
    have hsz := sz_day hl
    have hle := mvd_le (mapP L (fun i => inDays L i k))
    rw [mapP_len] at hle
    have ea : ∀ _ : Unit, zadd (s : Int) (mvd (mapP L (fun i => inDays L i k)) : Int) = ((s + mvd (mapP L (fun i => inDays L i k)) : Nat) : Int) := fun _ => zadd_nat (by omega)
    have f3' : R2 (wL S (dysL L (k + 1))) m1 := by
      have e : day1 (gL (wL S (dysL L k))) = dysL L (k + 1) := day1_dys L k
      rw [e] at f3; exact f3
    obtain ⟨m', i1, i2, i3, i4⟩ := ih (k + 1) (s + mvd (mapP L (fun i => inDays L i k))) (zwi m1 0 48 ((s + mvd (mapP L (fun i => inDays L i k)) : Nat) : Int)) (by omega) (by omega) (f3'.s0 (by decide) (by decide)) (zi_wi_s _ _ _ _)
    refine ⟨m', ?_, ((f2.mono (fun b j q => Or.inl q)).tr (Fr.wi m1 _ (Or.inr ⟨rfl, rfl⟩))).tr i2, i3, ?_⟩
    · have f1' : zF zP 344 0 [(.inr (.inr (some 0)))] m = some (some (.inl (day1s (dysL L k))), m1) := f1
      rw [j_X11_anyDays_18, if_pos (by omega), if_pos hR.1.1, if_pos hR.1.1, f1', zC1_s, m_sizeOf, zC1_s, if_pos f3.1.1, h48, hsz, hmd, ea (), zadd1 (by omega)]
      exact i1
    · rw [i4]
      show _ = ((s + (mvd (mapP L (fun i => inDays L i k)) + mvs L n (k + 1)) : Nat) : Int)
      rw [Nat.add_assoc]
theorem m_anyDays {d j : Nat} (hd : d ≤ 20) (hj : j ≤ 300) (h : LiM B m S σ) (hB : LiB j σ) : EfM B m S (zF zP 400 v [(.inr (.inr (some 0))), .inl (d : Int)] m) (eDay d σ) := by
  have h0 := h
  obtain ⟨hR, ⟨g1, g2, g3⟩, ⟨g4, g5, g6⟩, g7, g8⟩ := h
  obtain ⟨b1, ⟨b2, b3, b4, b5⟩, t, bt, bt2⟩ := hB
  have h6 : σ.1.2.2.1.length ≤ 6 := hR.p6
  have ht : zi m 5 (Int.toNat 4) = (t : Int) := by rw [show zi m 5 (Int.toNat 4) = (gL (wL S σ.1)).2.2.2.2 from hR.bl.2.2.2.1.2]; exact bt
  have et : ∀ _ : Unit, zadd (t : Int) (d : Int) = ((t + d : Nat) : Int) := fun _ => zadd_nat (by omega)
  unfold eDay
  rw [f_X11_anyDays, if_pos hR.1.1, hR.1.2.1.2.1.1, obind, if_pos (A5 hR.1 (by omega) (by omega)), ht, et (), bt]
  by_cases c : 9999 < (t : Int) + (d : Int)
  · rw [if_pos (by omega), if_pos c, if_pos zb0]
    exact ⟨m, rfl, h0⟩
  · have ey : ∀ _ : Unit, zadd (σ.2.1.2.2.2.1 : Int) (d : Int) = ((σ.2.1.2.2.2.1 + d : Nat) : Int) := fun _ => zadd_nat (by omega)
    have e0 : dysL σ.1 0 = σ.1 := dys_0 (by rw [bt]; exact r32_nat (by omega))
    obtain ⟨m1, i1, i2, i3, i4⟩ := m_days_loop (v := v) (S := S) hd σ.1 h6 d 0 σ.2.1.2.2.2.2.2 m (by omega) (by omega) (by rw [e0]; exact hR) g6
    have nd : ∀ j, 42 ≤ j → j ≠ 48 → ¬ (dyP 0 j ∨ ((0 : Nat) = 0 ∧ j = 48)) := fun j h1 h2 => by unfold dyP; omega
    have k46 : zi m1 0 46 = (σ.2.1.2.2.2.1 : Int) := by rw [i2.i (nd 46 (by decide) (by decide))]; exact g4
    have v0 : ∀ j, j ≠ 46 → zi (zwi m1 0 46 ((σ.2.1.2.2.2.1 + d : Nat) : Int)) 0 j = zi m1 0 j := fun j hj => zi_wi_n _ _ (Or.inr hj)
    have z0 : ((0 : Nat) : Int) = 0 := rfl
    rw [z0] at i1
    rw [if_neg (by omega), if_neg c, j_X11_anyDays_16, i1, j_X11_anyDays_45, if_pos i3.1.1, if_pos i3.1.1, k46, ey (), if_pos zb1]
    refine ⟨_, rfl, i3.s0 (by decide) (by decide), ⟨?_, ?_, ?_⟩, ⟨zi_wi_s _ _ _ _, ?_, ?_⟩, ?_, ?_⟩
    · rw [v0 43 (by decide), i2.i (nd 43 (by decide) (by decide))]; exact g1
    · rw [v0 44 (by decide), i2.i (nd 44 (by decide) (by decide))]; exact g2
    · rw [v0 45 (by decide), i2.i (nd 45 (by decide) (by decide))]; exact g3
    · rw [v0 47 (by decide), i2.i (nd 47 (by decide) (by decide))]; exact g5
    · rw [v0 48 (by decide)]; exact i4
    · rw [v0 49 (by decide), i2.i (nd 49 (by decide) (by decide))]; exact g7
    · exact ⟨by rw [v0 42 (by decide), i2.i (nd 42 (by decide) (by decide))]; exact g8.1, fun j => (zi_wi_n _ _ (Or.inl (by decide))).trans ((i2.i (by unfold dyP; omega)).trans (g8.2 j))⟩
theorem m_isGone {p x j : Nat} (hp : p < σ.1.2.2.1.length) (hx : x < σ.1.2.1.length) (hj : j ≤ 300) (h : LiM B m S σ) (hB : LiB j σ) : EfM B m S (zF zP 401 v [(.inr (.inr (some 0))), .inl (p : Int), .inl (x : Int)] m) (eGo p x σ) := by
  have h0 := h
  obtain ⟨hR, ⟨g1, g2, g3⟩, ⟨g4, g5, g6⟩, g7, g8⟩ := h
  obtain ⟨m1, f1, f2, f3⟩ := m_goes (v := 0) hR (p := p) (x := x) hp hx
  have f1' : zF zP 348 0 [(.inr (.inr (some 0))), .inl (p : Int), .inl (x : Int)] m = some (some (.inl (b01 (ljoin σ.1 (σ.1.2.2.1.getD p ps0).2.1 x))), m1) := f1
  have nd : ∀ j, ¬ psP 0 p 0 j := fun j => by unfold psP; omega
  unfold eGo
  by_cases c : ljoin σ.1 (σ.1.2.2.1.getD p ps0).2.1 x = true
  · have c' : ljoin (gL (wL S σ.1)) ((gL (wL S σ.1)).2.2.1.getD p ps0).2.1 x = true := c
    rw [if_pos c'] at f3
    have f3' : R2 (wL S (psSet σ.1 p ((σ.1.2.2.1.getD p ps0).1, x, (σ.1.2.2.1.getD p ps0).2.2))) m1 := f3
    have b4 := hB.2.1.2.2.1
    have e5 : ∀ _ : Unit, zadd (σ.2.1.2.2.2.2.1 : Int) 1 = ((σ.2.1.2.2.2.2.1 + 1 : Nat) : Int) := fun _ => zadd1 (by omega)
    have k47 : zi m1 0 47 = (σ.2.1.2.2.2.2.1 : Int) := by rw [f2.i (nd 47)]; exact g5
    have v0 : ∀ j, j ≠ 47 → zi (zwi m1 0 47 ((σ.2.1.2.2.2.2.1 + 1 : Nat) : Int)) 0 j = zi m 0 j := fun j hj => by rw [zi_wi_n _ _ (Or.inr hj), f2.i (nd j)]
    rw [if_pos c, f_X11_isGone, if_pos hR.1.1, f1', zC1_s, c, if_neg nb1, j_X11_isGone_11, if_pos f3.1.1, if_pos f3.1.1, k47, e5 (), if_pos zb1]
    refine ⟨_, rfl, f3'.s0 (by decide) (by decide), ⟨?_, ?_, ?_⟩, ⟨?_, zi_wi_s _ _ _ _, ?_⟩, ?_, ?_⟩
    · rw [v0 43 (by decide)]; exact g1
    · rw [v0 44 (by decide)]; exact g2
    · rw [v0 45 (by decide)]; exact g3
    · rw [v0 46 (by decide)]; exact g4
    · rw [v0 48 (by decide)]; exact g6
    · rw [v0 49 (by decide)]; exact g7
    · exact ⟨by rw [v0 42 (by decide)]; exact g8.1, fun j => (zi_wi_n _ _ (Or.inl (by decide))).trans ((f2.i (by unfold psP; omega)).trans (g8.2 j))⟩
  · have c' : ¬ ljoin (gL (wL S σ.1)) ((gL (wL S σ.1)).2.2.1.getD p ps0).2.1 x = true := c
    rw [if_neg c'] at f3
    rw [if_neg c, f_X11_isGone, if_pos hR.1.1, f1', zC1_s, bool_f c, if_pos yb0, if_pos zb0]
    exact ⟨m1, rfl, h0.fr f2 (fun j _ _ => nd j) (fun j => by unfold psP; omega) f3 rfl⟩
theorem m_lo {i : Nat} (b : Bool) (hi : i < σ.1.2.1.length) (h : LiM B m S σ) : EfM B m S (zF zP 350 v [(.inr (.inr (some 0))), .inl (i : Int), .inl (b01 b)] m) (eLo i b σ) := by
  have h0 := h
  obtain ⟨hR, hg⟩ := h
  obtain ⟨m1, f1, f2, f3⟩ := m_loses (v := v) hR (i := i) hi b
  have nd : ∀ j, ¬ lnP 0 i 0 j := fun j => by unfold lnP; omega
  unfold eLo
  by_cases c : (σ.1.2.1.getD i ln0).2.1 = b
  · have c' : ((gL (wL S σ.1)).2.1.getD i ln0).2.1 = b := c
    rw [if_pos c'] at f3
    rw [decide_eq_true c'] at f1
    rw [if_pos c]
    exact ⟨m1, f1, h0.fr f2 (fun j _ _ => nd j) (fun j => by unfold lnP; omega) f3 rfl⟩
  · have c' : ¬ ((gL (wL S σ.1)).2.1.getD i ln0).2.1 = b := c
    rw [if_neg c'] at f3
    rw [decide_eq_false c'] at f1
    rw [if_neg c]
    exact ⟨m1, f1, h0.fr f2 (fun j _ _ => nd j) (fun j => by unfold lnP; omega) f3 rfl⟩
end LIVE9
