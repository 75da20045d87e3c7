/-! YEARS, read: plain. -/
/-- an operation (kind, first, second, third), a STEP's cells (kind, first, second, test, sign) -/
abbrev zOp : Type := Nat × Nat × Nat × Nat
abbrev zCe : Type := Int × Int × Int × Int × Int
abbrev zSp : Type := zOp × zCe
def opv (o : zOp) : Int := ((o.1 + 256 * o.2.1 + 65536 * o.2.2.1 + 16777216 * o.2.2.2 : Nat) : Int)
def c9 (c : zCe) (e : Int) : List Int := [c.1, c.2.1, c.2.2.1, -7, -7, -7, c.2.2.2.1, c.2.2.2.2, e]
/-- what is read so far: operations, partners, cells -/
abbrev zAc : Type := List Int × List Int × List Int
def nst (A : zAc) : Nat := A.2.2.length / 9
def pushA (A : zAc) (x : zSp) (e : Int) : zAc := (A.1 ++ [opv x.1], A.2.1 ++ [-7], A.2.2 ++ c9 x.2 e)
/-- the block begun at operation b, STEP s ends -/
def closeA (A : zAc) (b s : Nat) : zAc := (A.1 ++ [22], (A.2.1.set b (A.1.length : Int)) ++ [(b : Int)], A.2.2.set (9 * s + 8) (nst A : Int))
def isBl (T : zTok) : Bool := isK T 17 || isK T 21
def isSt (T : zTok) : Bool := isK T 12 || (isK T 13 || (isK T 14 || (isK T 15 || (isK T 16 || (isK T 17 || (isK T 21 || isK T 23))))))
def isCm (T : zTok) : Bool := isS T 60 || (isS T 62 || isS T 61)
def rTst (L : zLd) (f : Nat → Nat) (n : Nat) (T : zTok) : zRd zSp :=
  if isK T 18 = true then (match rLin L f n (nxT f n T) with
    | .inl e => .inl e
    | .inr q => .inr (q.1, ((18, q.2, 0, 0), (5, (q.2 : Int), -7, 0, -7))))
  else if isK T 20 = true then (match rPrs L f n (nxT f n T) with
    | .inl e => .inl e
    | .inr q => match rWrd L f n q.1 with
      | .inl e => .inl e
      | .inr q2 => .inr (q2.1, ((20, q.2, q2.2, 0), (5, (q.2 : Int), (q2.2 : Int), 1, -7))))
  else if isK T 19 = true then (match rPrs L f n (nxT f n T) with
    | .inl e => .inl e
    | .inr q => if isCm q.1 = true then (match rNum f n (nxT f n q.1) 0 8 with
      | .inl e => .inl e
      | .inr q2 => .inr (q2.1, ((19, q.2, q.1.2.2.2.2, q2.2), (5, (q.2 : Int), (q2.2 : Int), 2, (q.1.2.2.2.2 : Int))))) else .inl (kMis q.1))
  else .inl (kMis T)
def rStp (L : zLd) (f : Nat → Nat) (n : Nat) (T : zTok) : zRd zSp :=
  if isK T 12 = true then (match rNum f n (nxT f n T) 1 20 with
    | .inl e => .inl e
    | .inr q => .inr (q.1, ((12, q.2, 0, 0), (0, (q.2 : Int), -7, -7, -7))))
  else if isK T 13 = true then (match rPrs L f n (nxT f n T) with
    | .inl e => .inl e
    | .inr q => match rLin L f n q.1 with
      | .inl e => .inl e
      | .inr q2 => .inr (q2.1, ((13, q.2, q2.2, 0), (1, (q.2 : Int), (q2.2 : Int), -7, -7))))
  else if isK T 14 = true then (match rLin L f n (nxT f n T) with
    | .inl e => .inl e
    | .inr q => .inr (q.1, ((14, q.2, 0, 0), (2, -7, (q.2 : Int), -7, -7))))
  else if isK T 15 = true then (match rLin L f n (nxT f n T) with
    | .inl e => .inl e
    | .inr q => .inr (q.1, ((15, q.2, 0, 0), (3, -7, (q.2 : Int), -7, -7))))
  else if isK T 16 = true then .inr (nxT f n T, ((16, 0, 0, 0), (4, -7, -7, -7, -7)))
  else if isK T 17 = true then rTst L f n (nxT f n T)
  else if isK T 21 = true then (match rNum f n (nxT f n T) 1 99 with
    | .inl e => .inl e
    | .inr q => .inr (q.1, ((21, q.2, 0, 0), (6, (q.2 : Int), -7, -7, -7))))
  else .inr (nxT f n T, ((23, 0, 0, 0), (7, -7, -7, -7, -7)))
/-- STEPS at a depth, up to what ends them -/
def rSq (L : zLd) (f : Nat → Nat) (n : Nat) : Nat → Nat → zTok → zAc → zRd zAc
  | 0, _, T, A => .inr (T, A)
  | k + 1, w, T, A => if (if w = 0 then decide (T.1 = 0) else isK T 22) = true then .inr (T, A)
    else if isSt T = false then .inl (kMis T)
    else if nst A = 30 then .inl (6, T.2.1)
    else if (isBl T && decide (w = 3)) = true then .inl (7, T.2.1)
    else match rStp L f n T with
      | .inl e => .inl e
      | .inr q => match rSem f n q.1 with
        | .inl e => .inl e
        | .inr q2 => if isBl T = true then (match rSq L f n k (w + 1) q2.1 (pushA A q.2 (-7)) with
            | .inl e => .inl e
            | .inr q3 => match rSem f n (nxT f n q3.1) with
              | .inl e => .inl e
              | .inr q4 => rSq L f n k w q4.1 (closeA q3.2 A.1.length (nst A)))
          else rSq L f n k w q2.1 (pushA A q.2 ((nst A + 1 : Nat) : Int))
/-- what an operation and its STEP's cells say -/
def gSp (P N W : Nat) (x : zSp) : Prop :=
  (∃ d : Nat, x = ((12, d, 0, 0), (0, (d : Int), -7, -7, -7)) ∧ 1 ≤ d ∧ d ≤ 20) ∨ (∃ p l : Nat, x = ((13, p, l, 0), (1, (p : Int), (l : Int), -7, -7)) ∧ p < P ∧ l < N) ∨
  (∃ l : Nat, x = ((14, l, 0, 0), (2, -7, (l : Int), -7, -7)) ∧ l < N) ∨ (∃ l : Nat, x = ((15, l, 0, 0), (3, -7, (l : Int), -7, -7)) ∧ l < N) ∨ (x = ((16, 0, 0, 0), (4, -7, -7, -7, -7))) ∨
  (∃ l : Nat, x = ((18, l, 0, 0), (5, (l : Int), -7, 0, -7)) ∧ l < N) ∨ (∃ p w : Nat, x = ((20, p, w, 0), (5, (p : Int), (w : Int), 1, -7)) ∧ p < P ∧ w < W) ∨
  (∃ p s b : Nat, x = ((19, p, s, b), (5, (p : Int), (b : Int), 2, (s : Int))) ∧ p < P ∧ (s = 60 ∨ s = 61 ∨ s = 62) ∧ b ≤ 8) ∨
  (∃ d : Nat, x = ((21, d, 0, 0), (6, (d : Int), -7, -7, -7)) ∧ 1 ≤ d ∧ d ≤ 99) ∨ (x = ((23, 0, 0, 0), (7, -7, -7, -7, -7)))
def blkS (x : zSp) : Bool := decide (x.2.1 = 5) || decide (x.2.1 = 6)
/-- the cells of STEP s -/
def ceAt (cs : List Int) (s : Nat) (x : zSp) (e : Int) : Prop := ∀ j, j < 9 → cs.getD (9 * s + j) 0 = (c9 x.2 e).getD j 0
/-- STEPS s .. s' are operations p .. p' -/
def Sg (g : zSp → Prop) (A : zAc) : Nat → Nat → Nat → Nat → Nat → Prop
  | 0, s, s', p, p' => s = s' ∧ p = p'
  | k + 1, s, s', p, p' => (s = s' ∧ p = p') ∨ ∃ x : zSp, g x ∧ A.1.getD p 0 = opv x.1 ∧ s < s' ∧ p < p' ∧
      ((blkS x = false ∧ ceAt A.2.2 s x ((s + 1 : Nat) : Int) ∧ Sg g A k (s + 1) s' (p + 1) p') ∨
       (blkS x = true ∧ ∃ e q : Nat, ceAt A.2.2 s x (e : Int) ∧ s < e ∧ e ≤ s' ∧ p < q ∧ q < p' ∧ Sg g A k (s + 1) e (p + 1) q ∧ A.1.getD q 0 = 22 ∧ A.2.1.getD p 0 = (q : Int) ∧ A.2.1.getD q 0 = (p : Int) ∧ Sg g A k e s' (q + 1) p'))
section YRS
variable {f : Nat → Nat} {n : Nat} {T : zTok} {L : zLd} {g : zSp → Prop}
theorem Sg.mono {A : zAc} : ∀ (k s s' p p' : Nat), Sg g A k s s' p p' → Sg g A (k + 1) s s' p p'
  | 0, s, s', p, p', h => Or.inl h
  | k + 1, s, s', p, p', h => by
    rcases h with h | ⟨x, h1, h2, h3, h4, h5⟩
    · exact Or.inl h
    · refine Or.inr ⟨x, h1, h2, h3, h4, ?_⟩
      rcases h5 with ⟨a1, a2, a3⟩ | ⟨a1, e, q, a2, a3, a4, a5, a6, a7, a8, a9, a10, a11⟩
      · exact Or.inl ⟨a1, a2, Sg.mono k _ _ _ _ a3⟩
      · exact Or.inr ⟨a1, e, q, a2, a3, a4, a5, a6, Sg.mono k _ _ _ _ a7, a8, a9, a10, Sg.mono k _ _ _ _ a11⟩
theorem Sg.mono_le {A : zAc} {s s' p p' : Nat} : ∀ (d k : Nat), Sg g A k s s' p p' → Sg g A (k + d) s s' p p'
  | 0, k, h => h
  | d + 1, k, h => Sg.mono (k + d) s s' p p' (Sg.mono_le d k h)
/-- what lies between alone matters -/
theorem Sg.ext {A B : zAc} : ∀ (k s s' p p' : Nat), (∀ i, p ≤ i → i < p' → B.1.getD i 0 = A.1.getD i 0 ∧ B.2.1.getD i 0 = A.2.1.getD i 0) → (∀ i, 9 * s ≤ i → i < 9 * s' → B.2.2.getD i 0 = A.2.2.getD i 0) → Sg g A k s s' p p' → Sg g B k s s' p p'
  | 0, s, s', p, p', _, _, h => h
  | k + 1, s, s', p, p', ho, hc, h => by
    rcases h with h | ⟨x, h1, h2, h3, h4, h5⟩
    · exact Or.inl h
    · refine Or.inr ⟨x, h1, by rw [(ho p (Nat.le_refl _) h4).1]; exact h2, h3, h4, ?_⟩
      rcases h5 with ⟨a1, a2, a3⟩ | ⟨a1, e, q, a2, a3, a4, a5, a6, a7, a8, a9, a10, a11⟩
      · exact Or.inl ⟨a1, fun j hj => by rw [hc _ (by omega) (by omega)]; exact a2 j hj, Sg.ext k _ _ _ _ (fun i z1 z2 => ho i (by omega) z2) (fun i z1 z2 => hc i (by omega) z2) a3⟩
      · exact Or.inr ⟨a1, e, q, fun j hj => by rw [hc _ (by omega) (by omega)]; exact a2 j hj, a3, a4, a5, a6, Sg.ext k _ _ _ _ (fun i z1 z2 => ho i (by omega) (by omega)) (fun i z1 z2 => hc i (by omega) (by omega)) a7, by rw [(ho q (by omega) a6).1]; exact a8, by rw [(ho p (Nat.le_refl _) h4).2]; exact a9, by rw [(ho q (by omega) a6).2]; exact a10, Sg.ext k _ _ _ _ (fun i z1 z2 => ho i (by omega) z2) (fun i z1 z2 => hc i (by omega) z2) a11⟩
theorem Sg.le {A : zAc} : ∀ (k s s' p p' : Nat), Sg g A k s s' p p' → s ≤ s' ∧ p ≤ p'
  | 0, s, s', p, p', h => ⟨Nat.le_of_eq h.1, Nat.le_of_eq h.2⟩
  | k + 1, s, s', p, p', h => by
    rcases h with h | ⟨x, h1, h2, h3, h4, h5⟩
    · exact ⟨Nat.le_of_eq h.1, Nat.le_of_eq h.2⟩
    · exact ⟨Nat.le_of_lt h3, Nat.le_of_lt h4⟩
theorem rTst_g {q : zTok × zSp} (h : rTst L f n T = .inr q) : gSp L.2.2.1.length L.2.1.length L.1.length q.2 ∧ blkS q.2 = true := by
  unfold rTst at h
  by_cases c1 : isK T 18 = true
  · rw [if_pos c1] at h
    cases e1 : rLin L f n (nxT f n T) with
    | inl e => rw [e1] at h; cases h
    | inr x =>
      rw [e1] at h
      have e := Sum.inr.inj h
      rw [← e]
      exact ⟨Or.inr (Or.inr (Or.inr (Or.inr (Or.inr (Or.inl ⟨x.2, rfl, rLin_lt e1⟩))))), rfl⟩
  · rw [if_neg c1] at h
    by_cases c2 : isK T 20 = true
    · rw [if_pos c2] at h
      cases e1 : rPrs L f n (nxT f n T) with
      | inl e => rw [e1] at h; cases h
      | inr x =>
        rw [e1] at h
        have h' : (match rWrd L f n x.1 with
          | .inl e => .inl e
          | .inr q2 => .inr (q2.1, ((20, x.2, q2.2, 0), (5, (x.2 : Int), (q2.2 : Int), 1, -7))) : zRd zSp) = .inr q := h
        cases e2 : rWrd L f n x.1 with
        | inl e => rw [e2] at h'; cases h'
        | inr y =>
          rw [e2] at h'
          have e := Sum.inr.inj h'
          rw [← e]
          exact ⟨Or.inr (Or.inr (Or.inr (Or.inr (Or.inr (Or.inr (Or.inl ⟨x.2, y.2, rfl, rPrs_lt e1, rWrd_lt e2⟩)))))), rfl⟩
    · rw [if_neg c2] at h
      by_cases c3 : isK T 19 = true
      · rw [if_pos c3] at h
        cases e1 : rPrs L f n (nxT f n T) with
        | inl e => rw [e1] at h; cases h
        | inr x =>
          rw [e1] at h
          have h' : (if isCm x.1 = true then (match rNum f n (nxT f n x.1) 0 8 with
            | .inl e => .inl e
            | .inr q2 => .inr (q2.1, ((19, x.2, x.1.2.2.2.2, q2.2), (5, (x.2 : Int), (q2.2 : Int), 2, (x.1.2.2.2.2 : Int))))) else .inl (kMis x.1) : zRd zSp) = .inr q := h
          by_cases cc : isCm x.1 = true
          · rw [if_pos cc] at h'
            cases e2 : rNum f n (nxT f n x.1) 0 8 with
            | inl e => rw [e2] at h'; cases h'
            | inr y =>
              rw [e2] at h'
              have e := Sum.inr.inj h'
              have r := rNum_rng e2
              have hs : x.1.2.2.2.2 = 60 ∨ x.1.2.2.2.2 = 61 ∨ x.1.2.2.2.2 = 62 := by
                unfold isCm isS at cc
                rw [Bool.or_eq_true, Bool.or_eq_true, Bool.and_eq_true, Bool.and_eq_true, Bool.and_eq_true] at cc
                rcases cc with z | z | z
                · exact Or.inl (of_decide_eq_true z.2)
                · exact Or.inr (Or.inr (of_decide_eq_true z.2))
                · exact Or.inr (Or.inl (of_decide_eq_true z.2))
              rw [← e]
              exact ⟨Or.inr (Or.inr (Or.inr (Or.inr (Or.inr (Or.inr (Or.inr (Or.inl ⟨x.2, x.1.2.2.2.2, y.2, rfl, rPrs_lt e1, hs, r.2.1⟩))))))), rfl⟩
          · rw [if_neg cc] at h'; cases h'
      · rw [if_neg c3] at h; cases h
theorem isK_ne {j k : Nat} (hj : j < 24) (hk : k < 24) (hne : j ≠ k) (h : isK T j = true) : isK T k = false := by
  refine bool_f (fun w => ?_)
  have h1 := (isK_kw hj).mpr h
  have h2 := (isK_kw hk).mpr w
  omega
theorem rStp_g {q : zTok × zSp} (hs : isSt T = true) (h : rStp L f n T = .inr q) : gSp L.2.2.1.length L.2.1.length L.1.length q.2 ∧ blkS q.2 = isBl T := by
  unfold rStp at h
  unfold isBl
  by_cases c12 : isK T 12 = true
  · rw [if_pos c12] at h
    rw [isK_ne (by decide) (by decide) (by decide) c12, isK_ne (by decide) (by decide) (by decide) c12]
    cases e1 : rNum f n (nxT f n T) 1 20 with
    | inl e => rw [e1] at h; cases h
    | inr x =>
      rw [e1] at h
      have e := Sum.inr.inj h
      have r := rNum_rng e1
      rw [← e]
      exact ⟨Or.inl ⟨x.2, rfl, r.1, r.2.1⟩, rfl⟩
  · rw [if_neg c12] at h
    by_cases c13 : isK T 13 = true
    · rw [if_pos c13] at h
      rw [isK_ne (by decide) (by decide) (by decide) c13, isK_ne (by decide) (by decide) (by decide) c13]
      cases e1 : rPrs L f n (nxT f n T) with
      | inl e => rw [e1] at h; cases h
      | inr x =>
        rw [e1] at h
        have h' : (match rLin L f n x.1 with
          | .inl e => .inl e
          | .inr q2 => .inr (q2.1, ((13, x.2, q2.2, 0), (1, (x.2 : Int), (q2.2 : Int), -7, -7))) : zRd zSp) = .inr q := h
        cases e2 : rLin L f n x.1 with
        | inl e => rw [e2] at h'; cases h'
        | inr y =>
          rw [e2] at h'
          have e := Sum.inr.inj h'
          rw [← e]
          exact ⟨Or.inr (Or.inl ⟨x.2, y.2, rfl, rPrs_lt e1, rLin_lt e2⟩), rfl⟩
    · rw [if_neg c13] at h
      by_cases c14 : isK T 14 = true
      · rw [if_pos c14] at h
        rw [isK_ne (by decide) (by decide) (by decide) c14, isK_ne (by decide) (by decide) (by decide) c14]
        cases e1 : rLin L f n (nxT f n T) with
        | inl e => rw [e1] at h; cases h
        | inr x =>
          rw [e1] at h
          have e := Sum.inr.inj h
          rw [← e]
          exact ⟨Or.inr (Or.inr (Or.inl ⟨x.2, rfl, rLin_lt e1⟩)), rfl⟩
      · rw [if_neg c14] at h
        by_cases c15 : isK T 15 = true
        · rw [if_pos c15] at h
          rw [isK_ne (by decide) (by decide) (by decide) c15, isK_ne (by decide) (by decide) (by decide) c15]
          cases e1 : rLin L f n (nxT f n T) with
          | inl e => rw [e1] at h; cases h
          | inr x =>
            rw [e1] at h
            have e := Sum.inr.inj h
            rw [← e]
            exact ⟨Or.inr (Or.inr (Or.inr (Or.inl ⟨x.2, rfl, rLin_lt e1⟩))), rfl⟩
        · rw [if_neg c15] at h
          by_cases c16 : isK T 16 = true
          · rw [if_pos c16] at h
            rw [isK_ne (by decide) (by decide) (by decide) c16, isK_ne (by decide) (by decide) (by decide) c16]
            have e := Sum.inr.inj h
            rw [← e]
            exact ⟨Or.inr (Or.inr (Or.inr (Or.inr (Or.inl rfl)))), rfl⟩
          · rw [if_neg c16] at h
            by_cases c17 : isK T 17 = true
            · rw [if_pos c17] at h
              rw [c17, Bool.true_or]
              exact rTst_g h
            · rw [if_neg c17] at h
              by_cases c21 : isK T 21 = true
              · rw [if_pos c21] at h
                rw [c21, Bool.or_true]
                cases e1 : rNum f n (nxT f n T) 1 99 with
                | inl e => rw [e1] at h; cases h
                | inr x =>
                  rw [e1] at h
                  have e := Sum.inr.inj h
                  have r := rNum_rng e1
                  rw [← e]
                  exact ⟨Or.inr (Or.inr (Or.inr (Or.inr (Or.inr (Or.inr (Or.inr (Or.inr (Or.inl ⟨x.2, rfl, r.1, r.2.1⟩)))))))), rfl⟩
              · rw [if_neg c21] at h
                rw [bool_f c17, bool_f c21]
                have e := Sum.inr.inj h
                rw [← e]
                exact ⟨Or.inr (Or.inr (Or.inr (Or.inr (Or.inr (Or.inr (Or.inr (Or.inr (Or.inr rfl)))))))), rfl⟩
end YRS
