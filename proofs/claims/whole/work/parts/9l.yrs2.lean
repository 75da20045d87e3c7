/-! YEARS, read: what stands there then. -/
def WfA (A : zAc) (w : Nat) : Prop := A.2.1.length = A.1.length ∧ A.2.2.length = 9 * nst A ∧ nst A ≤ 30 ∧ A.1.length + w ≤ 2 * nst A
def ExA (A B : zAc) : Prop := A.1.length ≤ B.1.length ∧ nst A ≤ nst B ∧ (∀ i, i < A.1.length → B.1.getD i 0 = A.1.getD i 0 ∧ B.2.1.getD i 0 = A.2.1.getD i 0) ∧ ∀ i, i < 9 * nst A → B.2.2.getD i 0 = A.2.2.getD i 0
section YRS2
variable {f : Nat → Nat} {n : Nat} {T : zTok} {L : zLd}
theorem getD_appl {α : Type} {l r : List α} {d : α} {i : Nat} (h : i < l.length) : (l ++ r).getD i d = l.getD i d := by
  rw [List.getD_eq_getElem?_getD, List.getElem?_append_left h, List.getD_eq_getElem?_getD]
theorem getD_appr {α : Type} {l r : List α} {d : α} {i : Nat} (h : l.length ≤ i) : (l ++ r).getD i d = r.getD (i - l.length) d := by
  rw [List.getD_eq_getElem?_getD, List.getElem?_append_right h, List.getD_eq_getElem?_getD]
theorem c9_len (c : zCe) (e : Int) : (c9 c e).length = 9 := rfl
theorem push_len (A : zAc) (x : zSp) (e : Int) : (pushA A x e).1.length = A.1.length + 1 ∧ (pushA A x e).2.1.length = A.2.1.length + 1 ∧ (pushA A x e).2.2.length = A.2.2.length + 9 := by
  refine ⟨?_, ?_, ?_⟩
  · show (A.1 ++ [opv x.1]).length = _
    rw [List.length_append]; rfl
  · show (A.2.1 ++ [(-7 : Int)]).length = _
    rw [List.length_append]; rfl
  · show (A.2.2 ++ c9 x.2 e).length = _
    rw [List.length_append, c9_len]
theorem close_len (A : zAc) (b s : Nat) : (closeA A b s).1.length = A.1.length + 1 ∧ (closeA A b s).2.1.length = A.2.1.length + 1 ∧ (closeA A b s).2.2.length = A.2.2.length := by
  refine ⟨?_, ?_, ?_⟩
  · show (A.1 ++ [(22 : Int)]).length = _
    rw [List.length_append]; rfl
  · show ((A.2.1.set b (A.1.length : Int)) ++ [(b : Int)]).length = _
    rw [List.length_append, List.length_set]; rfl
  · show (A.2.2.set (9 * s + 8) (nst A : Int)).length = _
    rw [List.length_set]
theorem push_nst (A : zAc) (x : zSp) (e : Int) : nst (pushA A x e) = nst A + 1 := by
  unfold nst
  rw [(push_len A x e).2.2, Nat.add_div_right _ (by decide)]
theorem close_nst (A : zAc) (b s : Nat) : nst (closeA A b s) = nst A := by
  unfold nst
  rw [(close_len A b s).2.2]
theorem WfA.push {A : zAc} {w : Nat} (h : WfA A w) (hn : nst A ≠ 30) (x : zSp) (e : Int) (d : Nat) (hd : d ≤ 1) : WfA (pushA A x e) (w + d) := by
  obtain ⟨h1, h2, h3, h4⟩ := h
  obtain ⟨p1, p2, p3⟩ := push_len A x e
  unfold WfA
  rw [p1, p2, p3, push_nst]
  omega
theorem WfA.close {A : zAc} {w : Nat} (h : WfA A (w + 1)) (b s : Nat) : WfA (closeA A b s) w := by
  obtain ⟨h1, h2, h3, h4⟩ := h
  obtain ⟨p1, p2, p3⟩ := close_len A b s
  unfold WfA
  rw [p1, p2, p3, close_nst]
  omega
theorem ExA.rf (A : zAc) : ExA A A := ⟨Nat.le_refl _, Nat.le_refl _, fun _ _ => ⟨rfl, rfl⟩, fun _ _ => rfl⟩
theorem ExA.tr {A B C : zAc} (h : ExA A B) (h' : ExA B C) : ExA A C :=
  ⟨Nat.le_trans h.1 h'.1, Nat.le_trans h.2.1 h'.2.1, fun i hi => ⟨((h'.2.2.1 i (Nat.lt_of_lt_of_le hi h.1)).1).trans (h.2.2.1 i hi).1, ((h'.2.2.1 i (Nat.lt_of_lt_of_le hi h.1)).2).trans (h.2.2.1 i hi).2⟩, fun i hi => (h'.2.2.2 i (Nat.lt_of_lt_of_le hi (Nat.mul_le_mul_left 9 h.2.1))).trans (h.2.2.2 i hi)⟩
theorem ExA.push {A : zAc} {w : Nat} (h : WfA A w) (x : zSp) (e : Int) : ExA A (pushA A x e) := by
  obtain ⟨h1, h2, h3, h4⟩ := h
  obtain ⟨p1, p2, p3⟩ := push_len A x e
  refine ⟨by omega, by rw [push_nst]; omega, fun i hi => ⟨getD_appl hi, getD_appl (by omega)⟩, fun i hi => getD_appl (by omega)⟩
theorem push_at {A : zAc} {w : Nat} (h : WfA A w) (x : zSp) (e : Int) : (pushA A x e).1.getD A.1.length 0 = opv x.1 ∧ ceAt (pushA A x e).2.2 (nst A) x e := by
  obtain ⟨h1, h2, h3, h4⟩ := h
  refine ⟨getD_app_r, fun j hj => ?_⟩
  show (A.2.2 ++ c9 x.2 e).getD (9 * nst A + j) 0 = _
  rw [getD_appr (by omega), show 9 * nst A + j - A.2.2.length = j by omega]
theorem rSq_ok : ∀ (k w : Nat) (T : zTok) (A : zAc) (q : zTok × zAc), WfA A w → rSq L f n k w T A = .inr q →
    WfA q.2 w ∧ ExA A q.2 ∧ ∃ d, Sg (gSp L.2.2.1.length L.2.1.length L.1.length) q.2 d (nst A) (nst q.2) A.1.length q.2.1.length
  | 0, w, T, A, q, hA, h => by
    have e : (T, A) = q := Sum.inr.inj h
    rw [← e]
    exact ⟨hA, ExA.rf A, 0, rfl, rfl⟩
  | k + 1, w, T, A, q, hA, h => by
    unfold rSq at h
    by_cases c1 : (if w = 0 then decide (T.1 = 0) else isK T 22) = true
    · rw [if_pos c1] at h
      have e : (T, A) = q := Sum.inr.inj h
      rw [← e]
      exact ⟨hA, ExA.rf A, 0, rfl, rfl⟩
    · rw [if_neg c1] at h
      by_cases c2 : isSt T = false
      · rw [if_pos c2] at h; cases h
      · rw [if_neg c2] at h
        by_cases c3 : nst A = 30
        · rw [if_pos c3] at h; cases h
        · rw [if_neg c3] at h
          by_cases c4 : (isBl T && decide (w = 3)) = true
          · rw [if_pos c4] at h; cases h
          · rw [if_neg c4] at h
            have hst : isSt T = true := by cases z : isSt T; exact absurd z c2; rfl
            cases e1 : rStp L f n T with
            | inl e => rw [e1] at h; cases h
            | inr x =>
              rw [e1] at h
              obtain ⟨g1, g2⟩ := rStp_g hst e1
              have h2 : (match rSem f n x.1 with
                | .inl e => .inl e
                | .inr q2 => if isBl T = true then (match rSq L f n k (w + 1) q2.1 (pushA A x.2 (-7)) with
                    | .inl e => .inl e
                    | .inr q3 => match rSem f n (nxT f n q3.1) with
                      | .inl e => .inl e
                      | .inr q4 => rSq L f n k w q4.1 (closeA q3.2 A.1.length (nst A)))
                  else rSq L f n k w q2.1 (pushA A x.2 ((nst A + 1 : Nat) : Int)) : zRd zAc) = .inr q := h
              cases e2 : rSem f n x.1 with
              | inl e => rw [e2] at h2; cases h2
              | inr x2 =>
                rw [e2] at h2
                have h3 : (if isBl T = true then (match rSq L f n k (w + 1) x2.1 (pushA A x.2 (-7)) with
                    | .inl e => .inl e
                    | .inr q3 => match rSem f n (nxT f n q3.1) with
                      | .inl e => .inl e
                      | .inr q4 => rSq L f n k w q4.1 (closeA q3.2 A.1.length (nst A)))
                  else rSq L f n k w x2.1 (pushA A x.2 ((nst A + 1 : Nat) : Int)) : zRd zAc) = .inr q := h2
                by_cases cb : isBl T = true
                · rw [if_pos cb] at h3
                  have hA1 : WfA (pushA A x.2 (-7)) (w + 1) := hA.push c3 x.2 (-7) 1 (by decide)
                  cases e3 : rSq L f n k (w + 1) x2.1 (pushA A x.2 (-7)) with
                  | inl e => rw [e3] at h3; cases h3
                  | inr x3 =>
                    rw [e3] at h3
                    have h4 : (match rSem f n (nxT f n x3.1) with
                      | .inl e => .inl e
                      | .inr q4 => rSq L f n k w q4.1 (closeA x3.2 A.1.length (nst A)) : zRd zAc) = .inr q := h3
                    cases e4 : rSem f n (nxT f n x3.1) with
                    | inl e => rw [e4] at h4; cases h4
                    | inr x4 =>
                      rw [e4] at h4
                      obtain ⟨i1, i2, d1, i3⟩ := rSq_ok k (w + 1) x2.1 (pushA A x.2 (-7)) x3 hA1 e3
                      have hA3 := i1.close A.1.length (nst A)
                      obtain ⟨j1, j2, d2, j3⟩ := rSq_ok k w x4.1 (closeA x3.2 A.1.length (nst A)) q hA3 h4
                      obtain ⟨l1, l2, l3⟩ := close_len x3.2 A.1.length (nst A)
                      obtain ⟨p1, p2, p3⟩ := push_len A x.2 (-7)
                      have pn := push_nst A x.2 (-7)
                      have cn := close_nst x3.2 A.1.length (nst A)
                      obtain ⟨pa1, pa2⟩ := push_at hA x.2 (-7)
                      have b1 : A.1.length + 1 ≤ x3.2.1.length := by have := i2.1; omega
                      have n1 : nst A + 1 ≤ nst x3.2 := by have := i2.2.1; omega
                      have w2 : x3.2.2.1.length = x3.2.1.length := i1.1
                      have w3 : x3.2.2.2.length = 9 * nst x3.2 := i1.2.1
                      -- A .. close
                      have cops : ∀ i, i < x3.2.1.length → (closeA x3.2 A.1.length (nst A)).1.getD i 0 = x3.2.1.getD i 0 := fun i hi => getD_appl hi
                      have cprt : ∀ i, i < x3.2.1.length → i ≠ A.1.length → (closeA x3.2 A.1.length (nst A)).2.1.getD i 0 = x3.2.2.1.getD i 0 := fun i hi hne => by
                        show ((x3.2.2.1.set A.1.length (x3.2.1.length : Int)) ++ [(A.1.length : Int)]).getD i 0 = _
                        rw [getD_appl (by rw [List.length_set]; omega), getD_set, if_neg (fun z => hne z.1.symm)]
                      have ccel : ∀ i, i ≠ 9 * nst A + 8 → (closeA x3.2 A.1.length (nst A)).2.2.getD i 0 = x3.2.2.2.getD i 0 := fun i hne => by
                        show (x3.2.2.2.set (9 * nst A + 8) (nst x3.2 : Int)).getD i 0 = _
                        rw [getD_set, if_neg (fun z => hne z.1.symm)]
                      have exAc : ExA A (closeA x3.2 A.1.length (nst A)) := by
                        have exP := (ExA.push hA x.2 (-7)).tr i2
                        refine ⟨by omega, by omega, fun i hi => ⟨?_, ?_⟩, fun i hi => ?_⟩
                        · rw [cops i (by omega)]; exact (exP.2.2.1 i hi).1
                        · rw [cprt i (by omega) (by omega)]; exact (exP.2.2.1 i hi).2
                        · rw [ccel i (by omega)]; exact exP.2.2.2 i hi
                      refine ⟨j1, exAc.tr j2, (d1 + d2) + 1, Or.inr ⟨x.2, g1, ?_, ?_, ?_, Or.inr ⟨by rw [g2]; exact cb, nst x3.2, x3.2.1.length, ?_, by omega, ?_, by omega, ?_, ?_, ?_, ?_, ?_, ?_⟩⟩⟩
                      · rw [(j2.2.2.1 A.1.length (by omega)).1, cops A.1.length (by omega), (i2.2.2.1 A.1.length (by omega)).1]
                        exact pa1
                      · have := j2.2.1; omega
                      · have := j2.1; omega
                      · intro j hj
                        rw [j2.2.2.2 _ (by omega)]
                        by_cases z : j = 8
                        · subst z
                          show (x3.2.2.2.set (9 * nst A + 8) (nst x3.2 : Int)).getD (9 * nst A + 8) 0 = _
                          rw [getD_set, if_pos ⟨rfl, by omega⟩]; rfl
                        · rw [ccel _ (by omega), i2.2.2.2 _ (by omega), pa2 j hj]
                          have hj8 : j < 8 := by omega
                          have key : ∀ (y : zCe) (e : Int) (j : Nat), j < 8 → (c9 y (-7)).getD j 0 = (c9 y e).getD j 0 := by
                            intro y e j hj
                            rcases j with _ | _ | _ | _ | _ | _ | _ | _ | j
                            all_goals first | rfl | omega
                          exact key _ _ j hj8
                      · have := j2.2.1; omega
                      · have := j2.1; omega
                      · have i3' : Sg (gSp L.2.2.1.length L.2.1.length L.1.length) x3.2 (d1 + d2) (nst A + 1) (nst x3.2) (A.1.length + 1) x3.2.1.length := by
                          rw [← pn, ← p1]; exact Sg.mono_le d2 d1 i3
                        refine Sg.ext (d1 + d2) _ _ _ _ (fun i z1 z2 => ⟨?_, ?_⟩) (fun i z1 z2 => ?_) i3'
                        · rw [(j2.2.2.1 i (by omega)).1, cops i z2]
                        · rw [(j2.2.2.1 i (by omega)).2, cprt i z2 (by omega)]
                        · rw [j2.2.2.2 i (by omega), ccel i (by omega)]
                      · rw [(j2.2.2.1 x3.2.1.length (by omega)).1]
                        exact getD_app_r
                      · rw [(j2.2.2.1 A.1.length (by omega)).2]
                        show ((x3.2.2.1.set A.1.length (x3.2.1.length : Int)) ++ [(A.1.length : Int)]).getD A.1.length 0 = _
                        rw [getD_appl (by rw [List.length_set]; omega), getD_set, if_pos ⟨rfl, by omega⟩]
                      · rw [(j2.2.2.1 x3.2.1.length (by omega)).2]
                        show ((x3.2.2.1.set A.1.length (x3.2.1.length : Int)) ++ [(A.1.length : Int)]).getD x3.2.1.length 0 = _
                        rw [getD_appr (by rw [List.length_set]; omega), List.length_set, show x3.2.1.length - x3.2.2.1.length = 0 by omega]; rfl
                      · rw [cn, l1] at j3
                        rw [Nat.add_comm d1 d2]
                        exact Sg.mono_le d1 d2 j3
                · rw [if_neg cb] at h3
                  have hA1 : WfA (pushA A x.2 ((nst A + 1 : Nat) : Int)) (w + 0) := hA.push c3 x.2 _ 0 (by decide)
                  obtain ⟨i1, i2, d1, i3⟩ := rSq_ok k w x2.1 (pushA A x.2 ((nst A + 1 : Nat) : Int)) q hA1 h3
                  obtain ⟨p1, p2, p3⟩ := push_len A x.2 ((nst A + 1 : Nat) : Int)
                  have pn := push_nst A x.2 ((nst A + 1 : Nat) : Int)
                  obtain ⟨pa1, pa2⟩ := push_at hA x.2 ((nst A + 1 : Nat) : Int)
                  refine ⟨i1, (ExA.push hA x.2 _).tr i2, d1 + 1, Or.inr ⟨x.2, g1, ?_, ?_, ?_, Or.inl ⟨by rw [g2]; exact bool_f cb, fun j hj => ?_, ?_⟩⟩⟩
                  · rw [(i2.2.2.1 A.1.length (by omega)).1]; exact pa1
                  · have := i2.2.1; omega
                  · have := i2.1; omega
                  · rw [i2.2.2.2 _ (by omega)]; exact pa2 j hj
                  · rw [← pn, ← p1]; exact i3
end YRS2
