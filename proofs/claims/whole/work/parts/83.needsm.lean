/-! The reference's search through ROWS by their numbers. -/
theorem rdrop_cons {R R' : List (List Nat)} {k : Nat} {x : List Nat} (h : R.drop k = x :: R') : k < R.length ∧ R.getD k [] = x ∧ R.drop (k + 1) = R' := by
  have hk : k < R.length := by
    rcases Nat.lt_or_ge k R.length with q | q
    · exact q
    · rw [List.drop_eq_nil_of_le q] at h; cases h
  rw [List.drop_eq_getElem_cons hk] at h
  injection h with h1 h2
  refine ⟨hk, ?_, h2⟩
  rw [List.getD_eq_getElem?_getD, List.getElem?_eq_getElem hk, ← h1]; rfl
theorem dgs_ok {W N k : Nat} (hW : W ≤ 8) (hN : N ≤ 5) (hk : k < W ^ N) : rOk (dgs W N k) ∧ dgs W N k ∈ rws (List.range W) N := by
  have hl : k < (rws (List.range W) N).length := by rw [rws_len, List.length_range]; exact hk
  have hm : dgs W N k ∈ rws (List.range W) N := by
    have g := rws_get N k hk
    rw [List.getD_eq_getElem?_getD, List.getElem?_eq_getElem hl] at g
    have g' : (rws (List.range W) N)[k] = dgs W N k := g
    rw [← g']
    exact List.getElem_mem hl
  obtain ⟨h1, h2⟩ := rws_mem N _ hm
  exact ⟨⟨by omega, fun w hw => by have := List.mem_range.mp (h2 w hw); omega⟩, hm⟩
theorem pow_m {W N : Nat} (hW : W ≤ 8) (hN : N ≤ 5) : W ^ N < 1000000 := Nat.lt_of_le_of_lt (Nat.le_trans (Nat.pow_le_pow_left hW N) (Nat.pow_le_pow_right (by decide) hN)) (by decide)
theorem pow_pos {W N k : Nat} (hk : k < W ^ N) : 0 < N → 0 < W := fun h => by
  rcases Nat.eq_zero_or_pos W with e | e
  · rw [e, Nat.zero_pow h] at hk; exact absurd hk (Nat.not_lt_zero k)
  · exact e
section NEEDSM
variable {v : Nat} {S : zSt} {m : zM}
theorem m_needed_in {i N : Nat} (hi : i < (gL S).2.1.length) (hN : N ≤ 5) : ∀ (R : List (List Nat)) (k : Nat) (m1 : zM), (rws (List.range (gL S).1.length) N).drop k = R → R2 S m1 → zi m1 0 36 = (N : Int) →
    (∀ c, R.find? (fun c => (lall ((gL S).2.1.getD i ln0).2.2 c).isSome) = some c → ∃ (code : Nat) (m' : zM), zX zP 378 v 14 [some (.inr (.inr (some 0))), some (.inl (i : Int)), some (.inl (N : Int)), some (.inl (k : Int))] [] m1 = some (some (.inl (code : Int)), m') ∧ R2 S m' ∧ zi m' 0 36 = (N : Int) ∧ code < (gL S).1.length ^ N ∧ dgs (gL S).1.length N code = c) ∧
    (R.find? (fun c => (lall ((gL S).2.1.getD i ln0).2.2 c).isSome) = none → ∃ (u : Option zV) (m' : zM), zX zP 378 v 14 [some (.inr (.inr (some 0))), some (.inl (i : Int)), some (.inl (N : Int)), some (.inl (k : Int))] [] m1 = zX zP 378 v 2 [some (.inr (.inr (some 0))), some (.inl (i : Int)), some (.inl ((N + 1 : Nat) : Int)), u] [] m' ∧ R2 S m') := by
  intro R
  induction R with
  | nil =>
    intro k m1 hd hR h36
    refine ⟨fun c h => (nomatch h), fun _ => ⟨some (.inl (k : Int)), m1, ?_, hR⟩⟩
    have hk : (gL S).1.length ^ N ≤ k := by
      have := List.drop_eq_nil_iff.mp hd
      rw [rws_len, List.length_range] at this
      exact this
    have e1 : ∀ _ : Unit, zadd (N : Int) 1 = ((N + 1 : Nat) : Int) := fun _ => zadd_nat (k := 1) (by omega)
    rw [j_X11_needed_14, if_pos hR.1.1, m_rowsOf hR hN, zC1_s, if_neg (by omega), j_X11_needed_45, e1 ()]
  | cons c R ih =>
    intro k m1 hd hR h36
    have h8 := hR.w8
    obtain ⟨q1, q2, q3⟩ := rdrop_cons hd
    rw [rws_len, List.length_range] at q1
    rw [rws_get N k q1] at q2
    have hM := pow_m h8 hN
    have hc := (dgs_ok h8 hN q1).1
    obtain ⟨m2, f1, f2, f3⟩ := m_takesCode (v := 0) hR hN (pow_pos q1) (c := k) (by omega)
    have hR2 := hR.fr (rowP_scr f2)
    obtain ⟨m3, g1, g2, g3, g4⟩ := m_putsR (v := 0) hR2 hi f3 hc
    have hR3 := hR2.fr (rowP_scr g2)
    have h36' : zi m3 0 36 = (N : Int) := by rw [g2.i (by unfold rowP; omega), f2.i (by unfold rowP; omega)]; exact h36
    obtain ⟨a', v1, v2⟩ := vainE_all ((gL S).2.1.getD i ln0).2.2 0 0 (dgs (gL S).1.length N k) (by decide) (by have := (hR.em hi).2.1; omega)
    have e0 : ((0 : Nat) : Int) = 0 := rfl
    rw [e0] at v1
    have step : zX zP 378 v 14 [some (.inr (.inr (some 0))), some (.inl (i : Int)), some (.inl (N : Int)), some (.inl (k : Int))] [] m1 = if (a' : Int) = 0 then some (some (.inl (k : Int)), m3) else zX zP 378 v 39 [some (.inr (.inr (some 0))), some (.inl (i : Int)), some (.inl (N : Int)), some (.inl (k : Int))] [] m3 := by
      rw [j_X11_needed_14, if_pos hR.1.1, m_rowsOf hR hN, zC1_s, if_pos (by omega), if_pos hR.1.1, f1, zC0_s, if_pos hR2.1.1, g1, zC1_s, v1]
    rw [step]
    by_cases hP : (lall ((gL S).2.1.getD i ln0).2.2 (dgs (gL S).1.length N k)).isSome = true
    · have ha : a' = 0 := v2.mpr ⟨rfl, hP⟩
      rw [List.find?_cons, ← q2, hP, if_pos (by omega)]
      exact ⟨fun c' e => ⟨k, m3, rfl, hR3, h36', q1, Option.some.inj e⟩, fun e => absurd (show true = false from congrArg Option.isSome e) (by decide)⟩
    · have ha : ¬ a' = 0 := fun w => hP (v2.mp w).2
      have e1 : ∀ _ : Unit, zadd (k : Int) 1 = ((k + 1 : Nat) : Int) := fun _ => zadd_nat (k := 1) (by omega)
      rw [List.find?_cons, ← q2, bool_f hP, if_neg (by omega), j_X11_needed_39, e1 ()]
      exact ih (k + 1) m3 q3 hR3 h36'
def ndR (L : zLd) (i : Nat) : Option (List Nat) := fsz (fun c => (lall (L.2.1.getD i ln0).2.2 c).isSome) (List.range L.1.length) 6 0
theorem m_needed (hR : R2 S m) {i : Nat} (hi : i < (gL S).2.1.length) :
    (∀ c, ndR (gL S) i = some c → ∃ (code : Nat) (m' : zM), zF zP 378 v [(.inr (.inr (some 0))), .inl (i : Int)] m = some (some (.inl (code : Int)), m') ∧ R2 S m' ∧ zi m' 0 36 = (c.length : Int) ∧ c.length ≤ 5 ∧ code < (gL S).1.length ^ c.length ∧ dgs (gL S).1.length c.length code = c) ∧
    (ndR (gL S) i = none → ∃ m' : zM, zF zP 378 v [(.inr (.inr (some 0))), .inl (i : Int)] m = some (some (.inl (-1)), m') ∧ R2 S m') := by
  have loop : ∀ (n k : Nat) (u : Option zV) (m1 : zM), k + n = 6 → R2 S m1 →
      (∀ c, fsz (fun c => (lall ((gL S).2.1.getD i ln0).2.2 c).isSome) (List.range (gL S).1.length) n k = some c → ∃ (code : Nat) (m' : zM), zX zP 378 v 2 [some (.inr (.inr (some 0))), some (.inl (i : Int)), some (.inl (k : Int)), u] [] m1 = some (some (.inl (code : Int)), m') ∧ R2 S m' ∧ zi m' 0 36 = (c.length : Int) ∧ c.length ≤ 5 ∧ code < (gL S).1.length ^ c.length ∧ dgs (gL S).1.length c.length code = c) ∧
      (fsz (fun c => (lall ((gL S).2.1.getD i ln0).2.2 c).isSome) (List.range (gL S).1.length) n k = none → ∃ m' : zM, zX zP 378 v 2 [some (.inr (.inr (some 0))), some (.inl (i : Int)), some (.inl (k : Int)), u] [] m1 = some (some (.inl (-1)), m') ∧ R2 S m') := by
    intro n
    induction n with
    | zero =>
      intro k u m1 hk hR1
      refine ⟨fun c h => (nomatch h), fun _ => ⟨m1, ?_, hR1⟩⟩
      rw [j_X11_needed_2, if_pos (by omega), j_X11_needed_51]
    | succ n ih =>
      intro k u m1 hk hR1
      have hw : Fr scr m1 (zwi m1 0 36 (k : Int)) := Fr.wi m1 _ (by unfold scr; omega)
      obtain ⟨g1, g2⟩ := m_needed_in (v := v) hi (N := k) (by omega) (rws (List.range (gL S).1.length) k) 0 (zwi m1 0 36 (k : Int)) rfl (hR1.fr hw) (zi_wi_s _ _ _ _)
      have e0 : ((0 : Nat) : Int) = 0 := rfl
      rw [e0] at g1 g2
      have hfs : fsz (fun c => (lall ((gL S).2.1.getD i ln0).2.2 c).isSome) (List.range (gL S).1.length) (n + 1) k = match (rws (List.range (gL S).1.length) k).find? (fun c => (lall ((gL S).2.1.getD i ln0).2.2 c).isSome) with
        | some r => some r
        | none => fsz (fun c => (lall ((gL S).2.1.getD i ln0).2.2 c).isSome) (List.range (gL S).1.length) n (k + 1) := rfl
      rw [j_X11_needed_2, if_neg (by omega), if_pos hR1.1.1]
      cases hc : (rws (List.range (gL S).1.length) k).find? (fun c => (lall ((gL S).2.1.getD i ln0).2.2 c).isSome) with
      | some c =>
        rw [hc] at hfs
        rw [hfs]
        refine ⟨fun c' e => ?_, fun e => absurd (show true = false from congrArg Option.isSome e) (by decide)⟩
        have e' : c = c' := Option.some.inj e
        subst e'
        obtain ⟨code, m', x1, x2, x3, x4, x5⟩ := g1 c hc
        have hl : c.length = k := by rw [← x5]; exact dgs_len _ _ _
        rw [hl]
        exact ⟨code, m', x1, x2, x3, by omega, x4, x5⟩
      | none =>
        rw [hc] at hfs
        rw [hfs]
        obtain ⟨u', m', x1, x2⟩ := g2 hc
        obtain ⟨y1, y2⟩ := ih (k + 1) u' m' (by omega) x2
        refine ⟨fun c e => ?_, fun e => ?_⟩
        · obtain ⟨code, m'', z1, z2⟩ := y1 c e
          exact ⟨code, m'', x1.trans z1, z2⟩
        · obtain ⟨m'', z1, z2⟩ := y2 e
          exact ⟨m'', x1.trans z1, z2⟩
  have hl := loop 6 0 none m rfl hR
  have e0 : ((0 : Nat) : Int) = 0 := rfl
  rw [e0] at hl
  rw [f_X11_needed]
  exact hl
end NEEDSM
