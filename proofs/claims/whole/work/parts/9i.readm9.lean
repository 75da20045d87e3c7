/-! The reference's slip(). -/
def SlOk (L : zLd) : Prop := LnR L ∧ eIn L ∧ (0 ≤ L.2.2.2.1 ∧ L.2.2.2.1 ≤ 16) ∧ L.2.2.2.2 = 0
section READM9
variable {v : Nat} {m m' : zM} {f : Nat → Nat} {n : Nat} {T : zTok} {L : zLd} {e : Nat × Nat} {S : zSt}
theorem rEds_in (hW : L.1.length ≤ 16) : ∀ (k : Nat) (T : zTok) (es : List zEd) (q : zTok × List zEd), (∀ x ∈ es, x.2.1 < L.1.length) → rEds L f n k T es = .inr q → ∀ x ∈ q.2, x.2.1 < L.1.length
  | 0, T, es, q, h, hq => by
    have h' : (T, es) = q := Sum.inr.inj hq
    rw [← h']; exact h
  | k + 1, T, es, q, h, hq => by
    unfold rEds at hq
    by_cases c : isEd T = true
    · rw [if_pos c] at hq
      by_cases c4 : es.length = 4
      · rw [if_pos c4] at hq; cases hq
      · rw [if_neg c4] at hq
        cases e1 : rEdt L f n T with
        | inl e => rw [e1] at hq; cases hq
        | inr x =>
          rw [e1] at hq
          refine rEds_in hW k x.1 (es ++ [x.2]) q (fun y hy => ?_) hq
          rcases List.mem_append.mp hy with z | z
          · exact h y z
          · rw [List.mem_singleton.mp z]; exact (rEdt_ok hW e1).2
    · rw [if_neg c] at hq
      have h' : (T, es) = q := Sum.inr.inj hq
      rw [← h']; exact h
theorem getD_mem_or {α : Type} (l : List α) (d : α) (i : Nat) : i < l.length → l.getD i d ∈ l := fun hi => by
  rw [List.getD_eq_getElem?_getD, List.getElem?_eq_getElem hi]
  exact List.getElem_mem hi
theorem rPrt_ok {od : Bool} {q : zTok × zLd} (hW : L.1.length ≤ 8) (h : SlOk L) (hq : rPrt L od f n T = .inr q) : SlOk q.2 := by
  obtain ⟨h1, h2, h3, h4⟩ := h
  unfold rPrt at hq
  by_cases c0 : isK T 0 = true
  · rw [if_pos c0] at hq
    unfold rOdd at hq
    cases od with
    | true => rw [if_pos rfl] at hq; cases hq
    | false =>
      rw [if_neg (show ¬ false = true by decide)] at hq
      cases e1 : rNum f n (nxT f n T) 0 16 with
      | inl e => rw [e1] at hq; cases hq
      | inr x =>
        rw [e1] at hq
        have e := Sum.inr.inj hq
        have r := rNum_rng e1
        rw [← e]
        exact ⟨h1, h2, ⟨by show (0 : Int) ≤ (x.2 : Int); omega, by show (x.2 : Int) ≤ 16; omega⟩, h4⟩
  · rw [if_neg c0] at hq
    by_cases c1 : isK T 1 = true
    · rw [if_pos c1] at hq
      unfold rWdP at hq
      by_cases c8 : L.1.length = 8
      · rw [if_pos c8] at hq; cases hq
      · rw [if_neg c8] at hq
        cases e1 : rNew L f n (nxT f n T) with
        | inl e => rw [e1] at hq; cases hq
        | inr x =>
          rw [e1] at hq
          have e := Sum.inr.inj hq
          rw [← e]
          refine ⟨h1, fun i hi y hy => ?_, h3, h4⟩
          show y.2.1 < (L.1 ++ [(x.2 : Int)]).length
          rw [List.length_append]
          exact Nat.lt_succ_of_lt (h2 i hi y hy)
    · rw [if_neg c1] at hq
      by_cases c2 : isK T 2 = true
      · rw [if_pos c2] at hq
        unfold rLne at hq
        by_cases c8 : L.2.1.length = 8
        · rw [if_pos c8] at hq; cases hq
        · rw [if_neg c8] at hq
          by_cases cd : (decide ((nxT f n T).1 = 3) && !decide (lnum L ((nxT f n T).2.2.2.2 : Int) = -1)) = true
          · rw [if_pos cd] at hq; cases hq
          · rw [if_neg cd] at hq
            cases e1 : rNum f n (nxT f n T) 1 999 with
            | inl e => rw [e1] at hq; cases hq
            | inr x =>
              rw [e1] at hq
              have hq' : (match rEds L f n 5 x.1 [] with
                | .inl e => .inl e
                | .inr q2 => .inr (q2.1, addLn L ((x.2 : Int), false, q2.2)) : zRd zLd) = .inr q := hq
              cases e2 : rEds L f n 5 x.1 [] with
              | inl e => rw [e2] at hq'; cases hq'
              | inr y =>
                rw [e2] at hq'
                have e := Sum.inr.inj hq'
                have r := rNum_rng e1
                have hin := rEds_in (by omega) 5 x.1 [] y (fun z hz => nomatch hz) e2
                rw [← e]
                refine ⟨fun i hi => ?_, fun i hi z hz => ?_, h3, h4⟩
                · have hi' : i < L.2.1.length + 1 := by
                    have w : i < (addLn L ((x.2 : Int), false, y.2)).2.1.length := hi
                    rw [addLn_len] at w; exact w
                  show 1 ≤ ((L.2.1 ++ [((x.2 : Int), false, y.2)]).getD i ln0).1 ∧ ((L.2.1 ++ [((x.2 : Int), false, y.2)]).getD i ln0).1 ≤ 999
                  by_cases w : i = L.2.1.length
                  · subst w; rw [getD_app_r]
                    exact ⟨by show (1 : Int) ≤ (x.2 : Int); omega, by show (x.2 : Int) ≤ 999; omega⟩
                  · rw [getD_app_l (by omega)]; exact h1 i (by omega)
                · have hi' : i < L.2.1.length + 1 := by
                    have w : i < (addLn L ((x.2 : Int), false, y.2)).2.1.length := hi
                    rw [addLn_len] at w; exact w
                  have hz' : z ∈ ((L.2.1 ++ [((x.2 : Int), false, y.2)]).getD i ln0).2.2 := hz
                  by_cases w : i = L.2.1.length
                  · subst w; rw [getD_app_r] at hz'; exact hin z hz'
                  · rw [getD_app_l (by omega)] at hz'; exact h2 i (by omega) z hz'
      · rw [if_neg c2] at hq
        by_cases c9 : isK T 9 = true
        · rw [if_pos c9] at hq
          have key : ∀ p : zPs0, SlOk (addPs L p) := fun p => ⟨h1, h2, h3, h4⟩
          unfold rPsn at hq
          by_cases c6 : L.2.2.1.length = 6
          · rw [if_pos c6] at hq; cases hq
          · rw [if_neg c6] at hq
            cases e1 : rNew L f n (nxT f n T) with
            | inl e => rw [e1] at hq; cases hq
            | inr x1 =>
              rw [e1] at hq
              have hq1 : (match rKey f n x1.1 10 with
                | .inl e => .inl e
                | .inr q2 => match rLin L f n q2.1 with
                  | .inl e => .inl e
                  | .inr q3 => if isK q3.1 11 = true then (match rSai L f n 9 (nxT f n q3.1) [] with
                    | .inl e => .inl e
                    | .inr q4 => .inr (q4.1, addPs L ((x1.2 : Int), q3.2, q4.2))) else .inr (q3.1, addPs L ((x1.2 : Int), q3.2, [])) : zRd zLd) = .inr q := hq
              cases e2 : rKey f n x1.1 10 with
              | inl e => rw [e2] at hq1; cases hq1
              | inr x2 =>
                rw [e2] at hq1
                have hq2 : (match rLin L f n x2.1 with
                  | .inl e => .inl e
                  | .inr q3 => if isK q3.1 11 = true then (match rSai L f n 9 (nxT f n q3.1) [] with
                    | .inl e => .inl e
                    | .inr q4 => .inr (q4.1, addPs L ((x1.2 : Int), q3.2, q4.2))) else .inr (q3.1, addPs L ((x1.2 : Int), q3.2, [])) : zRd zLd) = .inr q := hq1
                cases e3 : rLin L f n x2.1 with
                | inl e => rw [e3] at hq2; cases hq2
                | inr x3 =>
                  rw [e3] at hq2
                  have hq3 : (if isK x3.1 11 = true then (match rSai L f n 9 (nxT f n x3.1) [] with
                    | .inl e => .inl e
                    | .inr q4 => .inr (q4.1, addPs L ((x1.2 : Int), x3.2, q4.2))) else .inr (x3.1, addPs L ((x1.2 : Int), x3.2, [])) : zRd zLd) = .inr q := hq2
                  by_cases c11 : isK x3.1 11 = true
                  · rw [if_pos c11] at hq3
                    cases e4 : rSai L f n 9 (nxT f n x3.1) [] with
                    | inl e => rw [e4] at hq3; cases hq3
                    | inr x4 =>
                      rw [e4] at hq3
                      have e := Sum.inr.inj hq3
                      rw [← e]; exact key _
                  · rw [if_neg c11] at hq3
                    have e := Sum.inr.inj hq3
                    rw [← e]; exact key _
        · rw [if_neg c9] at hq; cases hq
theorem m_isSign (g : GdM m f n T) (c : Nat) : zF zP 260 v [(.inr (.inr (some 0))), .inl (c : Int)] m = some (some (.inl (b01 (isS T c))), m) := by
  rw [f_X11_isSign, if_pos g.1.t, g.2.1.1]
  unfold isS
  by_cases h : T.1 = 4
  · rw [if_pos (kdM_4.mpr h), if_pos g.1.t, g.2.1.2.2.2.2 (Or.inr h), decide_eq_true h, Bool.true_and]
    by_cases k : T.2.2.2.2 = c
    · rw [if_pos (by omega), j_X11_isSign_21, if_pos zb1, decide_eq_true k]; rfl
    · rw [if_neg (by omega), j_X11_isSign_20, j_X11_isSign_21, if_pos zb0, decide_eq_false k]; rfl
  · rw [if_neg (fun w => h (kdM_4.mp w)), j_X11_isSign_20, j_X11_isSign_21, if_pos zb0, decide_eq_false h]; rfl
theorem m_isSign_any (hx : TxM m f n) (x : Int) : ∃ b : Bool, zF zP 260 v [(.inr (.inr (some 0))), .inl x] m = some (some (.inl (b01 b)), m) := by
  rw [f_X11_isSign, if_pos hx.t, if_pos hx.t]
  by_cases h : zi m 0 14 = 3
  · rw [if_pos h]
    by_cases k : zi m 0 17 = x
    · exact ⟨true, by rw [if_pos k, j_X11_isSign_21, if_pos zb1]; rfl⟩
    · exact ⟨false, by rw [if_neg k, j_X11_isSign_20, j_X11_isSign_21, if_pos zb0]; rfl⟩
  · exact ⟨false, by rw [if_neg h, j_X11_isSign_20, j_X11_isSign_21, if_pos zb0]; rfl⟩
theorem m_slp {x1 x2 : Int} : ∀ (k : Nat) (T : zTok) (L : zLd) (od : Bool) (m : zM), n < k + T.2.1 → TkR n T → GdM m f n T → BuM m L → SlOk L → zi m 0 24 = b01 od → T.2.1 ≤ n →
    (∀ e, rSlp f n k L od T = .inl e → ∃ m', zX zP 303 v 64 [some (.inr (.inr (some 0))), some (.inl x1), some (.inl x2)] [] m = zX zP 303 v 95 [some (.inr (.inr (some 0))), some (.inl x1), some (.inl x2)] [] m' ∧ Fr rpP m m' ∧ BdM m' f n e) ∧
    (∀ q, rSlp f n k L od T = .inr q → ∃ m', zX zP 303 v 64 [some (.inr (.inr (some 0))), some (.inl x1), some (.inl x2)] [] m = zX zP 303 v 95 [some (.inr (.inr (some 0))), some (.inl x1), some (.inl x2)] [] m' ∧ Fr rpP m m' ∧ GdM m' f n q.1 ∧ BuM m' q.2 ∧ SlOk q.2) := by
  have bad : ∀ {m1 : zM} {e : Nat × Nat}, BdM m1 f n e → zX zP 303 v 64 [some (.inr (.inr (some 0))), some (.inl x1), some (.inl x2)] [] m1 = zX zP 303 v 95 [some (.inr (.inr (some 0))), some (.inl x1), some (.inl x2)] [] m1 := fun {m1 e} b => by
    have := b.2.2.2
    rw [j_X11_slip_64, if_pos b.1.t, b.2.1, if_neg (by omega)]
  intro k
  induction k with
  | zero => intro T L od m hk hR g hB hL h24 hn; omega
  | succ k ih =>
    intro T L od m hk hR g hB hL h24 hn
    rw [j_X11_slip_64, if_pos g.1.t, g.2.2.2, if_pos rfl, if_pos g.1.t, g.2.1.1]
    unfold rSlp
    by_cases c : T.1 = 0
    · rw [if_pos (kdM_0.mpr c), if_pos c]
      refine ⟨fun e h => (nomatch h), fun q h => ?_⟩
      have h' : (T, L) = q := Sum.inr.inj h
      rw [← h']
      exact ⟨m, rfl, Fr.rf _ _, g, hB, hL⟩
    · obtain ⟨p1, p2⟩ := m_prt (v := 0) g hR hB hL.1 h24
      rw [if_neg (fun w => c (kdM_0.mp w)), if_neg c, if_pos g.1.t]
      cases e1 : rPrt L od f n T with
      | inl e =>
        obtain ⟨m1, z1, z2, z3⟩ := p1 e e1
        obtain ⟨y, hy⟩ := m_isSign_any (v := 0) z3.1 59
        rw [z1, zC0_s, if_pos z3.1.t, hy, zC1_s, if_pos z3.1.t, m_mustB z3, zC0_s, bad z3]
        refine ⟨fun e' h => ?_, fun q h => (nomatch h)⟩
        have h' : e = e' := Sum.inl.inj h
        rw [← h']
        exact ⟨m1, rfl, z2, z3⟩
      | inr q =>
        obtain ⟨m1, z1, z2, z3, z4, z5⟩ := p2 q e1
        obtain ⟨hR1, hle⟩ := pg_prt (L := L) hR od q e1
        have hsg : zF zP 260 0 [(.inr (.inr (some 0))), .inl 59] m1 = some (some (.inl (b01 (isS q.1 59))), m1) := m_isSign z3 59
        rw [z1, zC0_s, if_pos z3.1.t, hsg, zC1_s, if_pos z3.1.t]
        show (∀ e, (match rSem f n q.1 with
          | .inl e => .inl e
          | .inr q2 => rSlp f n k q.2 (od || isK T 0) q2.1 : zRd zLd) = .inl e → _) ∧ (∀ q', (match rSem f n q.1 with
          | .inl e => .inl e
          | .inr q2 => rSlp f n k q.2 (od || isK T 0) q2.1 : zRd zLd) = .inr q' → _)
        unfold rSem
        by_cases cs : isS q.1 59 = true
        · obtain ⟨m2, d1, d2, d3⟩ := m_mustT (v := 0) z3 hR1
          have d1' : zF zP 280 0 [(.inr (.inr (some 0))), .inl (b01 true)] m1 = some (none, m2) := d1
          have hsem : rSem f n q.1 = .inr (nxT f n q.1, ()) := by unfold rSem; rw [if_pos cs]
          have hlt := (pg_sem hR1 _ hsem).2
          have hlt' : q.1.2.1 < (nxT f n q.1).2.1 := hlt
          have hRn := nxT_R (f := f) hR1
          obtain ⟨i1, i2⟩ := ih (nxT f n q.1) q.2 (od || isK T 0) m2 (by omega) hRn d3 (z4.tm d2) (rPrt_ok hB.1.1.2.1 hL e1) (by rw [d2.i (by unfold tmP; omega)]; exact z5) (by have := hRn.1; have := hRn.2.1; omega)
          rw [if_pos cs, cs, d1', zC0_s]
          refine ⟨fun e h => ?_, fun q' h => ?_⟩
          · obtain ⟨m', y1, y2, y3⟩ := i1 e h
            exact ⟨m', y1, (z2.tr (rm_rp (tm_rm d2))).tr y2, y3⟩
          · obtain ⟨m', y1, y2, y3⟩ := i2 q' h
            exact ⟨m', y1, (z2.tr (rm_rp (tm_rm d2))).tr y2, y3⟩
        · have bp := kMis_pos q.1
          have b := z3.bd (e := kMis q.1) bp
          have mf : zF zP 280 0 [(.inr (.inr (some 0))), .inl (b01 false)] m1 = some (none, bdM m1 (kMis q.1)) := m_mustF z3
          rw [if_neg cs, bool_f cs, mf, zC0_s, bad b]
          refine ⟨fun e' h => ?_, fun q h => (nomatch h)⟩
          have h' : kMis q.1 = e' := Sum.inl.inj h
          rw [← h']
          exact ⟨_, rfl, z2.tr (rm_rp (fl_rm (bdM_fr m1 _))), b⟩
end READM9
