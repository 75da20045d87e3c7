/-! The class reads a SLIP: LINES, PEOPLE, PARTS. -/
theorem set_last {α : Type} (x y : α) : ∀ l : List α, (l ++ [x]).set l.length y = l ++ [y]
  | [] => rfl
  | a :: l => congrArg (a :: ·) (set_last x y l)
theorem lnSet_last (L : zLd) (x y : zLn) : lnSet (addLn L x) L.2.1.length y = addLn L y := by
  show (L.1, (L.2.1 ++ [x]).set L.2.1.length y, L.2.2) = (L.1, L.2.1 ++ [y], L.2.2)
  rw [set_last]
theorem addLn_len (L : zLd) (x : zLn) : (addLn L x).2.1.length = L.2.1.length + 1 := by
  show (L.2.1 ++ [x]).length = _
  rw [List.length_append]; rfl
theorem addLn_get (L : zLd) (x : zLn) : (addLn L x).2.1.getD L.2.1.length ln0 = x := getD_app_r
theorem psSet_last (L : zLd) (x y : zPs0) : psSet (addPs L x) L.2.2.1.length y = addPs L y := by
  show (L.1, L.2.1, (L.2.2.1 ++ [x]).set L.2.2.1.length y, L.2.2.2) = (L.1, L.2.1, L.2.2.1 ++ [y], L.2.2.2)
  rw [set_last]
theorem addPs_len (L : zLd) (x : zPs0) : (addPs L x).2.2.1.length = L.2.2.1.length + 1 := by
  show (L.2.2.1 ++ [x]).length = _
  rw [List.length_append]; rfl
theorem addPs_get (L : zLd) (x : zPs0) : (addPs L x).2.2.1.getD L.2.2.1.length ps0 = x := getD_app_r
section SLIPC4
variable {v : Nat} {m m' : zM} {f : Nat → Nat} {n : Nat} {T : zTok} {L : zLd}
theorem c_eds {nu : Int} {x2 : Int} : ∀ (k : Nat) (T : zTok) (es : List zEd) (m : zM), k + es.length = 5 → TkR n T → GdC m f n T (addLn L (nu, false, es)) →
    (∀ e, rEds L f n k T es = .inl e → ∃ m', zX zP 121 v 81 [some (.inr (.inr (some 2))), some (.inr (.inr (some 33))), some (.inl x2), some (.inr (.inr (some (33 + 12 + 2 * L.2.1.length)))), some (.inl (es.length : Int))] [] m = some (some (.inl 0), m') ∧ Fr rdC m m' ∧ zi m' 2 10 = (e.1 : Int) ∧ zi m' 2 11 = (e.2 : Int) ∧ DfB m') ∧
    (∀ q, rEds L f n k T es = .inr q → ∃ m', zX zP 121 v 81 [some (.inr (.inr (some 2))), some (.inr (.inr (some 33))), some (.inl x2), some (.inr (.inr (some (33 + 12 + 2 * L.2.1.length)))), some (.inl (es.length : Int))] [] m = some (some (.inl 1), m') ∧ Fr rdC m m' ∧ GdC m' f n q.1 (addLn L (nu, false, q.2)) ∧ FlC m m') := by
  intro k
  induction k with
  | zero =>
    intro T es m hk hR g
    have := (g.2.2.2.ln g.2.2.1 (i := L.2.1.length) (by rw [addLn_len]; omega)).2.2.2.2.2.1
    rw [addLn_get] at this
    have h4 : es.length ≤ 4 := this
    omega
  | succ k ih =>
    intro T es m hk hR g
    have hb := c_beginsEdit (v := 0) g
    have hle : es.length ≤ 4 := by omega
    rw [j_X5_readsLine_81, if_neg (by omega), hb, zC1_s]
    unfold rEds
    by_cases c : isEd T = true
    · rw [if_pos c, c, if_neg nb1]
      by_cases c4 : es.length = 4
      · have hf : zF zP 98 0 [(.inr (.inr (some 2))), .inl 6] m = some (some (.inl 0), bdC m (6, T.2.1)) := c_failed (v := 0) g.1 g.2.1 6
        rw [if_pos c4, if_pos (show (es.length : Int) = 4 by omega), if_pos g.1.t2, hf, zC1_s, if_pos zb0]
        refine ⟨fun e' h => ?_, fun q h => (nomatch h)⟩
        have h' : (6, T.2.1) = e' := Sum.inl.inj h
        rw [← h']
        exact bd_out g (Fr.rf _ _)
      · obtain ⟨d1, d2⟩ := c_edt (v := 0) g hR (i := L.2.1.length) (by rw [addLn_len]; omega) (addLn_get L _) (by omega)
        rw [show rEdt (addLn L (nu, false, es)) = rEdt L from rEdt_c rfl] at d1 d2
        rw [if_neg c4, if_neg (show ¬ (es.length : Int) = 4 by omega), j_X5_readsLine_107]
        cases e1 : rEdt L f n T with
        | inl e =>
          obtain ⟨m', f1, f2, f3⟩ := d1 e e1
          rw [f1, zC1_s, if_pos rfl, if_pos zb0]
          refine ⟨fun e' h => ?_, fun q h => (nomatch h)⟩
          have h' : e = e' := Sum.inl.inj h
          rw [← h']
          exact ⟨m', rfl, f2, f3⟩
        | inr q =>
          obtain ⟨m1, f1, f2, f3, f4⟩ := d2 q e1
          rw [lnSet_last] at f3
          have hR1 := (pg_edt (L := L) hR q e1).1
          have hlen : (es ++ [q.2]).length = es.length + 1 := by rw [List.length_append]; rfl
          obtain ⟨i1, i2⟩ := ih q.1 (es ++ [q.2]) m1 (by rw [hlen]; omega) hR1 f3
          rw [hlen] at i1 i2
          rw [f1, zC1_s, if_neg (by decide), j_X5_readsLine_118, zadd1 (by omega)]
          show (∀ e, rEds L f n k q.1 (es ++ [q.2]) = .inl e → _) ∧ (∀ q', rEds L f n k q.1 (es ++ [q.2]) = .inr q' → _)
          refine ⟨fun e h => ?_, fun q' h => ?_⟩
          · obtain ⟨m', z1, z2, z3⟩ := i1 e h
            exact ⟨m', z1, f2.tr z2, z3⟩
          · obtain ⟨m', z1, z2, z3, z4⟩ := i2 q' h
            exact ⟨m', z1, f2.tr z2, z3, f4.tr z4⟩
    · rw [if_neg c, bool_f c, if_pos yb0, j_X5_readsLine_124, if_pos zb1]
      refine ⟨fun e h => (nomatch h), fun q h => ?_⟩
      have h' : (T, es) = q := Sum.inr.inj h
      rw [← h']
      exact ⟨m, rfl, Fr.rf _ _, g, rfl, rfl⟩
theorem ln_fr {a : Nat} (ha : a = 33) : ∀ b j : Nat, (fun (b _ : Nat) => b = a ∨ (a + 12 ≤ b ∧ b < a + 28)) b j → 33 ≤ b ∧ b < 61 := fun b j z => by
  have z' : b = a ∨ (a + 12 ≤ b ∧ b < a + 28) := z
  omega
theorem c_lne (g : GdC m f n T L) (hR : TkR n T) : RcC m f n (zF zP 121 v [(.inr (.inr (some 2))), (.inr (.inr (some 33)))] m) (rLne L f n T) := by
  have h8 := g.2.2.2.2.1.2.1
  obtain ⟨m1, a1, a2, a3⟩ := c_advG (v := 0) g hR
  have hR1 := nxT_R (f := f) hR
  rw [f_X5_readsLine, if_pos g.2.2.1.1, g.2.2.2.2.1.1]
  unfold rLne
  by_cases c8 : L.2.1.length = 8
  · have hf : zF zP 98 0 [(.inr (.inr (some 2))), .inl 6] m = some (some (.inl 0), bdC m (6, T.2.1)) := c_failed (v := 0) g.1 g.2.1 6
    rw [if_pos c8, if_neg (by omega), if_pos g.1.t2, hf, zC1_s, if_pos zb0]
    exact bd_out g (Fr.rf _ _)
  · rw [if_neg c8, if_pos (by omega), j_X5_readsLine_16, if_pos g.1.t2, a1, zC0_s, if_pos a3.1.t2, a3.2.1.1]
    -- the NUMBER and what comes behind it
    have tail : RcC m f n (zX zP 121 v 46 [some (.inr (.inr (some 2))), some (.inr (.inr (some 33))), none, none, none] [] m1) (match rNum f n (nxT f n T) 1 999 with
        | .inl e => .inl e
        | .inr q => match rEds L f n 5 q.1 [] with
          | .inl e => .inl e
          | .inr q2 => .inr (q2.1, addLn L ((q.2 : Int), false, q2.2))) := by
      have w1 := c_num (v := 0) a3.1 a3.2.1 hR1 1 999
      rw [j_X5_readsLine_46, if_pos a3.1.t2]
      cases e1 : rNum f n (nxT f n T) 1 999 with
      | inl e =>
        rw [e1] at w1
        have w1' : zF zP 109 0 [(.inr (.inr (some 2))), .inl 1, .inl 999] m1 = some (some (.inl (-1)), bdC m1 e) := w1
        rw [w1', zC1_s, if_pos rfl, if_pos zb0]
        exact bd_out a3 (tk_rd a2)
      | inr q =>
        rw [e1] at w1
        obtain ⟨m2, b1, b2, b3⟩ := w1
        have b1' : zF zP 109 0 [(.inr (.inr (some 2))), .inl 1, .inl 999] m1 = some (some (.inl (q.2 : Int)), m2) := b1
        have g2 := a3.tk b2 b3
        have hR2 := (pg_num (f := f) hR1 1 999 q e1).1
        obtain ⟨m3, d1, d2, d3⟩ := s_addLine (v := 0) (x := (q.2 : Int)) g2.2.2.1 g2.2.2.2 (by omega)
        have g3 := g2.dr d2 (ln_fr rfl) d3
        have hF3 : Fr rdC m m3 := ((tk_rd a2).tr (tk_rd b2)).tr (d2.mono (fun b j z => by
          have z' : b = 33 ∨ (33 + 12 ≤ b ∧ b < 33 + 28) := z
          unfold rdC; omega))
        have hfl3 : FlC m m3 := ((tk_fl a2).tr (tk_fl b2)).tr (dr_fl d2 (ln_fr rfl))
        have hlen : zi m3 33 9 = ((L.2.1.length + 1 : Nat) : Int) := by rw [g3.2.2.2.2.1.1, addLn_len]
        have esub : zsub ((L.2.1.length + 1 : Nat) : Int) 1 = (L.2.1.length : Int) := by rw [zsub1 (by omega) (by omega)]; rfl
        obtain ⟨i1, i2⟩ := c_eds (v := v) (L := L) (nu := (q.2 : Int)) (x2 := (q.2 : Int)) 5 q.1 [] m3 rfl hR2 g3
        have z0 : (([] : List zEd).length : Int) = 0 := rfl
        rw [z0] at i1 i2
        rw [b1', zC1_s, if_neg (show ¬ (q.2 : Int) = -1 by omega), j_X5_readsLine_62, if_pos g2.2.2.1.1, d1, zC0_s, if_pos g3.2.2.1.1, if_pos g3.2.2.1.1, hlen, esub, s_lineAt g3.2.2.1 (by omega), zC4_s]
        show RcC m f n _ (match rEds L f n 5 q.1 [] with
          | .inl e => .inl e
          | .inr q2 => .inr (q2.1, addLn L ((q.2 : Int), false, q2.2)))
        cases e2 : rEds L f n 5 q.1 [] with
        | inl e =>
          obtain ⟨m', z1, z2, z3⟩ := i1 e e2
          exact ⟨m', z1, hF3.tr z2, z3⟩
        | inr q2 =>
          obtain ⟨m', z1, z2, z3, z4⟩ := i2 q2 e2
          exact ⟨m', z1, hF3.tr z2, z3, hfl3.tr z4⟩
    by_cases c3 : (nxT f n T).1 = 3
    · rw [if_pos (show ((nxT f n T).1 : Int) = 3 by omega), if_pos a3.1.t2, if_pos a3.2.2.1.1, a3.2.1.2.2.2.2.2, s_lineNumbered a3.2.2.1 a3.2.2.2, zC1_s, decide_eq_true c3, Bool.true_and]
      by_cases cl : lnum L ((nxT f n T).2.2.2.2 : Int) = -1
      · rw [if_pos cl, decide_eq_true cl, if_neg (show ¬ (!true) = true by decide)]
        exact tail
      · have hf : zF zP 98 0 [(.inr (.inr (some 2))), .inl 5] m1 = some (some (.inl 0), bdC m1 (5, (nxT f n T).2.1)) := c_failed (v := 0) a3.1 a3.2.1 5
        rw [if_neg cl, decide_eq_false cl, if_pos (show (!false) = true by decide), if_pos a3.1.t2, hf, zC1_s, if_pos zb0]
        exact bd_out a3 (tk_rd a2)
    · rw [if_neg (show ¬ ((nxT f n T).1 : Int) = 3 by omega), decide_eq_false c3, Bool.false_and, if_neg (show ¬ false = true by decide)]
      exact tail
theorem c_wdP (g : GdC m f n T L) (hR : TkR n T) : RcC m f n (zF zP 113 v [(.inr (.inr (some 2))), (.inr (.inr (some 33)))] m) (rWdP L f n T) := by
  have h8 := g.2.2.2.1.2.1
  obtain ⟨m1, a1, a2, a3⟩ := c_advG (v := 0) g hR
  have hR1 := nxT_R (f := f) hR
  rw [f_X5_readsWord, if_pos g.2.2.1.1, g.2.2.2.1.1]
  unfold rWdP
  by_cases c8 : L.1.length = 8
  · have hf : zF zP 98 0 [(.inr (.inr (some 2))), .inl 6] m = some (some (.inl 0), bdC m (6, T.2.1)) := c_failed (v := 0) g.1 g.2.1 6
    rw [if_pos c8, if_neg (by omega), if_pos g.1.t2, hf, zC1_s, if_pos zb0]
    exact bd_out g (Fr.rf _ _)
  · have w1 := c_new (v := 0) a3.1 a3.2.1 hR1 a3.2.2.1 a3.2.2.2
    rw [if_neg c8, if_pos (by omega), j_X5_readsWord_16, if_pos g.1.t2, a1, zC0_s, if_pos a3.1.t2]
    cases e1 : rNew L f n (nxT f n T) with
    | inl e =>
      rw [e1] at w1
      have w1' : zF zP 112 0 [(.inr (.inr (some 2))), (.inr (.inr (some 33)))] m1 = some (some (.inr (.inl 0)), bdC m1 e) := w1
      rw [w1', zC2_s, if_pos (zlcmp_eq.mpr rfl), if_pos zb0]
      exact bd_out a3 (tk_rd a2)
    | inr q =>
      rw [e1] at w1
      obtain ⟨m2, b1, b2, b3⟩ := w1
      have b1' : zF zP 112 0 [(.inr (.inr (some 2))), (.inr (.inr (some 33)))] m1 = some (some (.inr (.inl (q.2 : Int))), m2) := b1
      have g2 := a3.tk b2 b3
      have hq : 0 < q.2 := rNew_pos e1
      obtain ⟨m3, d1, d2, d3⟩ := s_addWord (v := 0) (y := (q.2 : Int)) g2.2.2.1 g2.2.2.2 (by omega)
      have hfr : Fr (fun b _ => 33 ≤ b ∧ b < 35) m2 m3 := d2.fr (fun b j z1 z2 => ⟨z1, z2⟩)
      have hP : ∀ b j : Nat, (fun (b _ : Nat) => 33 ≤ b ∧ b < 35) b j → 33 ≤ b ∧ b < 61 := fun b j z => by
        have z' : 33 ≤ b ∧ b < 35 := z
        omega
      rw [b1', zC2_s, if_neg (fun w => by have := zlcmp_eq.mp w; omega), j_X5_readsWord_34, if_pos g2.2.2.1.1, d1, zC0_s, if_pos zb1]
      exact ⟨m3, rfl, ((tk_rd a2).tr (tk_rd b2)).tr (hfr.mono (fun b j z => by
        have z' : 33 ≤ b ∧ b < 35 := z
        unfold rdC; omega)), g2.dr hfr hP d3, ((tk_fl a2).tr (tk_fl b2)).tr (dr_fl hfr hP)⟩
theorem c_odd (g : GdC m f n T L) (hR : TkR n T) : RcC m f n (zF zP 110 v [(.inr (.inr (some 2))), (.inr (.inr (some 33)))] m) (rOdd L false f n T) := by
  obtain ⟨m1, a1, a2, a3⟩ := c_advG (v := 0) g hR
  have hR1 := nxT_R (f := f) hR
  have w1 := c_num (v := 0) a3.1 a3.2.1 hR1 0 16
  rw [f_X5_readsOdds, if_pos g.1.t2, a1, zC0_s, if_pos a3.1.t2]
  unfold rOdd
  rw [if_neg (show ¬ false = true by decide)]
  cases e1 : rNum f n (nxT f n T) 0 16 with
  | inl e =>
    rw [e1] at w1
    have w1' : zF zP 109 0 [(.inr (.inr (some 2))), .inl 0, .inl 16] m1 = some (some (.inl (-1)), bdC m1 e) := w1
    rw [w1', zC1_s, if_pos rfl, if_pos zb0]
    exact bd_out a3 (tk_rd a2)
  | inr q =>
    rw [e1] at w1
    obtain ⟨m2, b1, b2, b3⟩ := w1
    have b1' : zF zP 109 0 [(.inr (.inr (some 2))), .inl 0, .inl 16] m1 = some (some (.inl (q.2 : Int)), m2) := b1
    have g2 := a3.tk b2 b3
    have hw : Fr (fun b _ => b = 33) m2 (zwi m2 33 7 (q.2 : Int)) := Fr.wi m2 _ rfl
    have hP : ∀ b j : Nat, (fun (b _ : Nat) => b = 33) b j → 33 ≤ b ∧ b < 61 := fun b j z => by
      have z' : b = 33 := z
      omega
    rw [b1', zC1_s, if_neg (show ¬ (q.2 : Int) = -1 by omega), j_X5_readsOdds_19, if_pos g2.2.2.1.1, if_pos zb1]
    exact ⟨_, rfl, ((tk_rd a2).tr (tk_rd b2)).tr (hw.mono (fun b j z => by
      have z' : b = 33 := z
      unfold rdC; omega)), g2.dr hw hP g2.2.2.2.odds, ((tk_fl a2).tr (tk_fl b2)).tr (dr_fl hw hP)⟩
end SLIPC4
