/-! A SLIP, read PART by PART: plain. -/
def edK (T : zTok) : Nat := if isK T 3 = true then 0 else if isK T 6 = true then 1 else 2
def isEd (T : zTok) : Bool := isK T 3 || (isK T 6 || isK T 7)
def sameW (L : zLd) (T : zTok) (w : Nat) : Bool := match sWrd L T with
  | .inl _ => false
  | .inr x => decide (x.2 = w)
def pasE (f : Nat → Nat) (n : Nat) (T : zTok) (k w o : Nat) : zTok × zEd := if (!decide (k = 2) && isK T 5) = true then (nxT f n T, (k, w, o, true)) else (T, (k, w, o, false))
def rEdt (L : zLd) (f : Nat → Nat) (n : Nat) (T : zTok) : zRd zEd := match rWrd L f n (nxT f n T) with
  | .inl e => .inl e
  | .inr q => if edK T = 1 then .inr (pasE f n q.1 1 q.2 0) else match rKey f n q.1 (if edK T = 0 then 4 else 8) with
    | .inl e => .inl e
    | .inr q2 => if (decide (edK T = 0) && sameW L q2.1 q.2) = true then .inl (5, q2.1.2.1) else match rWrd L f n q2.1 with
      | .inl e => .inl e
      | .inr q3 => .inr (pasE f n q3.1 (edK T) q.2 q3.2)
def rEds (L : zLd) (f : Nat → Nat) (n : Nat) : Nat → zTok → List zEd → zRd (List zEd)
  | 0, T, es => .inr (T, es)
  | k + 1, T, es => if isEd T = true then (if es.length = 4 then .inl (6, T.2.1) else match rEdt L f n T with
    | .inl e => .inl e
    | .inr q => rEds L f n k q.1 (es ++ [q.2])) else .inr (T, es)
def addWd (L : zLd) (x : Int) : zLd := (L.1 ++ [x], L.2)
def addLn (L : zLd) (x : zLn) : zLd := (L.1, L.2.1 ++ [x], L.2.2)
def addPs (L : zLd) (x : zPs0) : zLd := (L.1, L.2.1, L.2.2.1 ++ [x], L.2.2.2)
def rLne (L : zLd) (f : Nat → Nat) (n : Nat) (T : zTok) : zRd zLd := if L.2.1.length = 8 then .inl (6, T.2.1) else
  if (decide ((nxT f n T).1 = 3) && !decide (lnum L ((nxT f n T).2.2.2.2 : Int) = -1)) = true then .inl (5, (nxT f n T).2.1) else match rNum f n (nxT f n T) 1 999 with
  | .inl e => .inl e
  | .inr q => match rEds L f n 5 q.1 [] with
    | .inl e => .inl e
    | .inr q2 => .inr (q2.1, addLn L ((q.2 : Int), false, q2.2))
def rSai (L : zLd) (f : Nat → Nat) (n : Nat) : Nat → zTok → List Nat → zRd (List Nat)
  | 0, T, l => .inr (T, l)
  | k + 1, T, l => if (decide (l.length = 0) || decide (T.1 = 2)) = true then (match sWrd L T with
    | .inl e => .inl e
    | .inr q => if l.length = 8 then .inl (6, T.2.1) else rSai L f n k (nxT f n T) (l ++ [q.2])) else .inr (T, l)
def rPsn (L : zLd) (f : Nat → Nat) (n : Nat) (T : zTok) : zRd zLd := if L.2.2.1.length = 6 then .inl (6, T.2.1) else match rNew L f n (nxT f n T) with
  | .inl e => .inl e
  | .inr q => match rKey f n q.1 10 with
    | .inl e => .inl e
    | .inr q2 => match rLin L f n q2.1 with
      | .inl e => .inl e
      | .inr q3 => if isK q3.1 11 = true then (match rSai L f n 9 (nxT f n q3.1) [] with
        | .inl e => .inl e
        | .inr q4 => .inr (q4.1, addPs L ((q.2 : Int), q3.2, q4.2))) else .inr (q3.1, addPs L ((q.2 : Int), q3.2, []))
def rWdP (L : zLd) (f : Nat → Nat) (n : Nat) (T : zTok) : zRd zLd := if L.1.length = 8 then .inl (6, T.2.1) else match rNew L f n (nxT f n T) with
  | .inl e => .inl e
  | .inr q => .inr (q.1, addWd L (q.2 : Int))
def rOdd (L : zLd) (od : Bool) (f : Nat → Nat) (n : Nat) (T : zTok) : zRd zLd := if od = true then .inl (5, T.2.1) else match rNum f n (nxT f n T) 0 16 with
  | .inl e => .inl e
  | .inr q => .inr (q.1, odSet L (q.2 : Int))
def rPrt (L : zLd) (od : Bool) (f : Nat → Nat) (n : Nat) (T : zTok) : zRd zLd :=
  if isK T 0 = true then rOdd L od f n T else if isK T 1 = true then rWdP L f n T else if isK T 2 = true then rLne L f n T else if isK T 9 = true then rPsn L f n T else .inl (kMis T)
def rSlp (f : Nat → Nat) (n : Nat) : Nat → zLd → Bool → zTok → zRd zLd
  | 0, L, _, T => .inr (T, L)
  | k + 1, L, od, T => if T.1 = 0 then .inr (T, L) else match rPrt L od f n T with
    | .inl e => .inl e
    | .inr q => match rSem f n q.1 with
      | .inl e => .inl e
      | .inr q2 => rSlp f n k q.2 (od || isK T 0) q2.1
/-- what is read on: the TOKEN stands where it may, not ahead of T -/
def Pg {α : Type} (n : Nat) (T : zTok) (r : zRd α) : Prop := ∀ q, r = .inr q → TkR n q.1 ∧ T.2.1 ≤ q.1.2.1
section SLIP
variable {f : Nat → Nat} {n : Nat} {T : zTok} {L : zLd}
theorem Pg.inl {α : Type} (e : Nat × Nat) : Pg (α := α) n T (.inl e) := fun _ h => nomatch h
theorem Pg.inr {α : Type} {T' : zTok} (x : α) (h : TkR n T') (h2 : T.2.1 ≤ T'.2.1) : Pg n T (.inr (T', x)) := fun q e => by
  have e' : (T', x) = q := Sum.inr.inj e
  rw [← e']; exact ⟨h, h2⟩
theorem Pg.next {T' : zTok} {α : Type} {r : zRd α} (h : T.2.1 ≤ T'.2.1) (hr : Pg n T' r) : Pg n T r := fun q e => ⟨(hr q e).1, Nat.le_trans h (hr q e).2⟩
theorem nx_le (h : TkR n T) : T.2.1 ≤ (nxT f n T).2.1 := Nat.le_trans h.1 (nxT_from h)
theorem pg_num (h : TkR n T) (lo hi : Nat) : Pg n T (rNum f n T lo hi) := by
  unfold rNum
  repeat' split
  all_goals first | exact Pg.inl _ | exact Pg.inr _ (nxT_R h) (nx_le h)
theorem pg_lin (h : TkR n T) : Pg n T (rLin L f n T) := by
  unfold rLin
  repeat' split
  all_goals first | exact Pg.inl _ | exact Pg.inr _ (nxT_R h) (nx_le h)
theorem pg_wrd (h : TkR n T) : Pg n T (rWrd L f n T) := by
  unfold rWrd
  split
  · exact Pg.inl _
  · exact Pg.inr _ (nxT_R h) (nx_le h)
theorem pg_prs (h : TkR n T) : Pg n T (rPrs L f n T) := by
  unfold rPrs
  repeat' split
  all_goals first | exact Pg.inl _ | exact Pg.inr _ (nxT_R h) (nx_le h)
theorem pg_new (h : TkR n T) : Pg n T (rNew L f n T) := by
  unfold rNew
  repeat' split
  all_goals first | exact Pg.inl _ | exact Pg.inr _ (nxT_R h) (nx_le h)
theorem pg_key (h : TkR n T) (k : Nat) : Pg n T (rKey f n T k) := by
  unfold rKey
  split
  · exact Pg.inr _ (nxT_R h) (nx_le h)
  · exact Pg.inl _
theorem pg_sem (h : TkR n T) : ∀ q, rSem f n T = .inr q → TkR n q.1 ∧ T.2.1 < q.1.2.1 := by
  intro q e
  unfold rSem at e
  by_cases c : isS T 59 = true
  · rw [if_pos c] at e
    have e' := Sum.inr.inj e
    rw [← e']
    unfold isS at c
    rw [Bool.and_eq_true] at c
    have h4 : T.1 = 4 := of_decide_eq_true c.1
    exact ⟨nxT_R h, Nat.lt_of_lt_of_le (h.2.2 (by omega)) (nxT_from h)⟩
  · rw [if_neg c] at e; cases e
theorem pg_pas (h : TkR n T) (k w o : Nat) : TkR n (pasE f n T k w o).1 ∧ T.2.1 ≤ (pasE f n T k w o).1.2.1 := by
  unfold pasE
  split
  · exact ⟨nxT_R h, nx_le h⟩
  · exact ⟨h, Nat.le_refl _⟩
theorem pg_edt (h : TkR n T) : Pg n T (rEdt L f n T) := by
  unfold rEdt
  cases e1 : rWrd L f n (nxT f n T) with
  | inl e => exact Pg.inl _
  | inr q =>
    obtain ⟨a1, a2⟩ := pg_wrd (L := L) (f := f) (nxT_R (f := f) h) q e1
    have b1 := Nat.le_trans (nx_le (f := f) h) a2
    show Pg n T (if edK T = 1 then .inr (pasE f n q.1 1 q.2 0) else match rKey f n q.1 (if edK T = 0 then 4 else 8) with
      | .inl e => .inl e
      | .inr q2 => if (decide (edK T = 0) && sameW L q2.1 q.2) = true then .inl (5, q2.1.2.1) else match rWrd L f n q2.1 with
        | .inl e => .inl e
        | .inr q3 => .inr (pasE f n q3.1 (edK T) q.2 q3.2))
    split
    · obtain ⟨c1, c2⟩ := pg_pas (f := f) a1 1 q.2 0
      exact Pg.inr _ c1 (Nat.le_trans b1 c2)
    · cases e2 : rKey f n q.1 (if edK T = 0 then 4 else 8) with
      | inl e => exact Pg.inl _
      | inr q2 =>
        obtain ⟨a3, a4⟩ := pg_key a1 _ q2 e2
        show Pg n T (if (decide (edK T = 0) && sameW L q2.1 q.2) = true then .inl (5, q2.1.2.1) else match rWrd L f n q2.1 with
          | .inl e => .inl e
          | .inr q3 => .inr (pasE f n q3.1 (edK T) q.2 q3.2))
        split
        · exact Pg.inl _
        · cases e3 : rWrd L f n q2.1 with
          | inl e => exact Pg.inl _
          | inr q3 =>
            obtain ⟨a5, a6⟩ := pg_wrd (L := L) (f := f) a3 q3 e3
            obtain ⟨c1, c2⟩ := pg_pas (f := f) a5 (edK T) q.2 q3.2
            exact Pg.inr _ c1 (Nat.le_trans (Nat.le_trans (Nat.le_trans b1 a4) a6) c2)
theorem pg_eds : ∀ (k : Nat) (T : zTok) (es : List zEd), TkR n T → Pg n T (rEds L f n k T es)
  | 0, T, es, h => Pg.inr _ h (Nat.le_refl _)
  | k + 1, T, es, h => by
    unfold rEds
    split
    · split
      · exact Pg.inl _
      · cases e1 : rEdt L f n T with
        | inl e => exact Pg.inl _
        | inr q =>
          obtain ⟨a1, a2⟩ := pg_edt (L := L) h q e1
          exact Pg.next a2 (pg_eds k q.1 _ a1)
    · exact Pg.inr _ h (Nat.le_refl _)
theorem pg_lne (h : TkR n T) : Pg n T (rLne L f n T) := by
  unfold rLne
  split
  · exact Pg.inl _
  · split
    · exact Pg.inl _
    · cases e1 : rNum f n (nxT f n T) 1 999 with
      | inl e => exact Pg.inl _
      | inr q =>
        obtain ⟨a1, a2⟩ := pg_num (f := f) (nxT_R (f := f) h) 1 999 q e1
        show Pg n T (match rEds L f n 5 q.1 [] with
          | .inl e => .inl e
          | .inr q2 => .inr (q2.1, addLn L ((q.2 : Int), false, q2.2)))
        cases e2 : rEds L f n 5 q.1 [] with
        | inl e => exact Pg.inl _
        | inr q2 =>
          obtain ⟨a3, a4⟩ := pg_eds 5 q.1 [] a1 q2 e2
          exact Pg.inr _ a3 (Nat.le_trans (Nat.le_trans (nx_le (f := f) h) a2) a4)
theorem pg_sai : ∀ (k : Nat) (T : zTok) (l : List Nat), TkR n T → Pg n T (rSai L f n k T l)
  | 0, T, l, h => Pg.inr _ h (Nat.le_refl _)
  | k + 1, T, l, h => by
    unfold rSai
    split
    · cases e1 : sWrd L T with
      | inl e => exact Pg.inl _
      | inr q =>
        show Pg n T (if l.length = 8 then .inl (6, T.2.1) else rSai L f n k (nxT f n T) (l ++ [q.2]))
        split
        · exact Pg.inl _
        · exact Pg.next (nx_le (f := f) h) (pg_sai k _ _ (nxT_R h))
    · exact Pg.inr _ h (Nat.le_refl _)
theorem pg_psn (h : TkR n T) : Pg n T (rPsn L f n T) := by
  unfold rPsn
  split
  · exact Pg.inl _
  · cases e1 : rNew L f n (nxT f n T) with
    | inl e => exact Pg.inl _
    | inr q =>
      obtain ⟨a1, a2⟩ := pg_new (L := L) (f := f) (nxT_R (f := f) h) q e1
      show Pg n T (match rKey f n q.1 10 with
        | .inl e => .inl e
        | .inr q2 => match rLin L f n q2.1 with
          | .inl e => .inl e
          | .inr q3 => if isK q3.1 11 = true then (match rSai L f n 9 (nxT f n q3.1) [] with
            | .inl e => .inl e
            | .inr q4 => .inr (q4.1, addPs L ((q.2 : Int), q3.2, q4.2))) else .inr (q3.1, addPs L ((q.2 : Int), q3.2, [])))
      cases e2 : rKey f n q.1 10 with
      | inl e => exact Pg.inl _
      | inr q2 =>
        obtain ⟨a3, a4⟩ := pg_key a1 10 q2 e2
        show Pg n T (match rLin L f n q2.1 with
          | .inl e => .inl e
          | .inr q3 => if isK q3.1 11 = true then (match rSai L f n 9 (nxT f n q3.1) [] with
            | .inl e => .inl e
            | .inr q4 => .inr (q4.1, addPs L ((q.2 : Int), q3.2, q4.2))) else .inr (q3.1, addPs L ((q.2 : Int), q3.2, [])))
        cases e3 : rLin L f n q2.1 with
        | inl e => exact Pg.inl _
        | inr q3 =>
          obtain ⟨a5, a6⟩ := pg_lin (L := L) (f := f) a3 q3 e3
          have b := Nat.le_trans (Nat.le_trans (Nat.le_trans (nx_le (f := f) h) a2) a4) a6
          show Pg n T (if isK q3.1 11 = true then (match rSai L f n 9 (nxT f n q3.1) [] with
            | .inl e => .inl e
            | .inr q4 => .inr (q4.1, addPs L ((q.2 : Int), q3.2, q4.2))) else .inr (q3.1, addPs L ((q.2 : Int), q3.2, [])))
          split
          · cases e4 : rSai L f n 9 (nxT f n q3.1) [] with
            | inl e => exact Pg.inl _
            | inr q4 =>
              obtain ⟨a7, a8⟩ := pg_sai 9 _ [] (nxT_R (f := f) a5) q4 e4
              exact Pg.inr _ a7 (Nat.le_trans (Nat.le_trans b (nx_le (f := f) a5)) a8)
          · exact Pg.inr _ a5 b
theorem pg_prt (h : TkR n T) (od : Bool) : Pg n T (rPrt L od f n T) := by
  unfold rPrt
  split
  · unfold rOdd
    split
    · exact Pg.inl _
    · cases e1 : rNum f n (nxT f n T) 0 16 with
      | inl e => exact Pg.inl _
      | inr q =>
        obtain ⟨a1, a2⟩ := pg_num (f := f) (nxT_R (f := f) h) 0 16 q e1
        exact Pg.inr _ a1 (Nat.le_trans (nx_le (f := f) h) a2)
  · split
    · unfold rWdP
      split
      · exact Pg.inl _
      · cases e1 : rNew L f n (nxT f n T) with
        | inl e => exact Pg.inl _
        | inr q =>
          obtain ⟨a1, a2⟩ := pg_new (L := L) (f := f) (nxT_R (f := f) h) q e1
          exact Pg.inr _ a1 (Nat.le_trans (nx_le (f := f) h) a2)
    · split
      · exact pg_lne h
      · split
        · exact pg_psn h
        · exact Pg.inl _
/-- WORDS and LINES told are there -/
theorem sWrd_lt {q : zTok × Nat} (h : sWrd L T = .inr q) : q.2 < L.1.length := by
  unfold sWrd at h
  split at h
  · split at h
    · cases h
    · rename_i h1 h2
      have e := Sum.inr.inj h
      rw [← e]
      rcases wnum_of L (T.2.2.2.1 : Int) with w | ⟨i, w, wi⟩
      · exact absurd w h2
      · show (wnum L (T.2.2.2.1 : Int)).toNat < _
        rw [w]; omega
  · cases h
theorem rWrd_lt {q : zTok × Nat} (h : rWrd L f n T = .inr q) : q.2 < L.1.length := by
  unfold rWrd at h
  cases e : sWrd L T with
  | inl x => rw [e] at h; cases h
  | inr x =>
    rw [e] at h
    have e2 := Sum.inr.inj h
    rw [← e2]
    exact sWrd_lt (q := x) e
theorem rLin_lt {q : zTok × Nat} (h : rLin L f n T = .inr q) : q.2 < L.2.1.length := by
  unfold rLin at h
  split at h
  · split at h
    · cases h
    · rename_i h1 h2
      have e := Sum.inr.inj h
      rw [← e]
      rcases lnum_of L (T.2.2.2.2 : Int) with w | ⟨i, w, wi, _⟩
      · exact absurd w h2
      · show (lnum L (T.2.2.2.2 : Int)).toNat < _
        rw [w]; omega
  · cases h
theorem rPrs_lt {q : zTok × Nat} (h : rPrs L f n T = .inr q) : q.2 < L.2.2.1.length := by
  unfold rPrs at h
  split at h
  · split at h
    · cases h
    · rename_i h1 h2
      have e := Sum.inr.inj h
      rw [← e]
      rcases pnum_of L (T.2.2.2.1 : Int) with w | ⟨i, w, wi⟩
      · exact absurd w h2
      · show (pnum L (T.2.2.2.1 : Int)).toNat < _
        rw [w]; omega
  · cases h
theorem rNum_rng {lo hi : Nat} {q : zTok × Nat} (h : rNum f n T lo hi = .inr q) : lo ≤ q.2 ∧ q.2 ≤ hi ∧ q.1 = nxT f n T ∧ T.1 = 3 ∧ q.2 = T.2.2.2.2 := by
  unfold rNum at h
  split at h
  · rename_i h3
    split at h
    · rename_i h1
      have e := Sum.inr.inj h
      rw [← e]; exact ⟨h1.1, h1.2, rfl, h3, rfl⟩
    · cases h
  · cases h
theorem rNew_pos {q : zTok × Nat} (h : rNew L f n T = .inr q) : 0 < q.2 := by
  unfold rNew at h
  split at h
  · rename_i hn
    split at h
    · have e := Sum.inr.inj h
      rw [← e]
      unfold isNm at hn
      rw [Bool.and_eq_true, Bool.and_eq_true] at hn
      have h0 : ¬ T.2.2.2.1 = 0 := fun w => by
        rw [decide_eq_true w] at hn; exact absurd hn.2.1 (by decide)
      exact Nat.pos_of_ne_zero h0
    · cases h
  · cases h
theorem edK_lt (T : zTok) : edK T < 3 := by
  unfold edK
  repeat' split
  all_goals omega
theorem rEdt_ok {q : zTok × zEd} (hW : L.1.length ≤ 16) (h : rEdt L f n T = .inr q) : eOk q.2 ∧ q.2.2.1 < L.1.length := by
  have pas : ∀ (T' : zTok) (k w o : Nat), k < 3 → w < L.1.length → o < 16 → eOk (pasE f n T' k w o).2 ∧ (pasE f n T' k w o).2.2.1 < L.1.length := by
    intro T' k w o hk hw ho
    unfold pasE
    split
    · rename_i c
      refine ⟨⟨hk, by show w < 16; omega, ho, fun h2 => ?_⟩, hw⟩
      have h2' : k = 2 := h2
      rw [decide_eq_true h2'] at c; cases c
    · exact ⟨⟨hk, by show w < 16; omega, ho, fun _ => rfl⟩, hw⟩
  unfold rEdt at h
  cases e1 : rWrd L f n (nxT f n T) with
  | inl e => rw [e1] at h; cases h
  | inr x =>
    rw [e1] at h
    have hx := rWrd_lt e1
    have h' : ((if edK T = 1 then .inr (pasE f n x.1 1 x.2 0) else match rKey f n x.1 (if edK T = 0 then 4 else 8) with
      | .inl e => .inl e
      | .inr q2 => if (decide (edK T = 0) && sameW L q2.1 x.2) = true then .inl (5, q2.1.2.1) else match rWrd L f n q2.1 with
        | .inl e => .inl e
        | .inr q3 => .inr (pasE f n q3.1 (edK T) x.2 q3.2)) : zRd zEd) = .inr q := h
    split at h'
    · have e := Sum.inr.inj h'
      rw [← e]; exact pas _ 1 _ 0 (by decide) hx (by decide)
    · cases e2 : rKey f n x.1 (if edK T = 0 then 4 else 8) with
      | inl e => rw [e2] at h'; cases h'
      | inr x2 =>
        rw [e2] at h'
        have h2 : ((if (decide (edK T = 0) && sameW L x2.1 x.2) = true then .inl (5, x2.1.2.1) else match rWrd L f n x2.1 with
          | .inl e => .inl e
          | .inr q3 => .inr (pasE f n q3.1 (edK T) x.2 q3.2)) : zRd zEd) = .inr q := h'
        split at h2
        · cases h2
        · cases e3 : rWrd L f n x2.1 with
          | inl e => rw [e3] at h2; cases h2
          | inr x3 =>
            rw [e3] at h2
            have e := Sum.inr.inj h2
            have hx3 := rWrd_lt e3
            rw [← e]; exact pas _ _ _ _ (edK_lt T) hx (by omega)
end SLIP
