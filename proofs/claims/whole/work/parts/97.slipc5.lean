/-! The class reads a SLIP: PEOPLE, all PARTS. -/
theorem rwith_end (l : List Nat) (w : Nat) : rwith l l.length w = l ++ [w] := by
  unfold rwith
  rw [if_neg (Nat.lt_irrefl _)]
section SLIPC5
variable {v : Nat} {m m' : zM} {f : Nat → Nat} {n : Nat} {T : zTok} {L : zLd}
theorem c_isLetters (g : GdC m f n T L) : zF zP 123 v [(.inr (.inr (some 2)))] m = some (some (.inl (b01 (decide (T.1 = 2)))), m) := by
  rw [f_X6_isLetters, if_pos g.1.t2, g.2.1.1]
  by_cases c : T.1 = 2
  · rw [if_pos (by omega), j_X6_isLetters_13, if_pos zb1, decide_eq_true c]; rfl
  · rw [if_neg (by omega), j_X6_isLetters_12, j_X6_isLetters_13, if_pos zb0, decide_eq_false c]; rfl
theorem c_sai {x2 : Int} : ∀ (k : Nat) (T : zTok) (l : List Nat) (u6 : Option zV) (m : zM), k + l.length = 9 → rOk l → TkR n T → GdC m f n T L →
    (∀ e, rSai L f n k T l = .inl e → ∃ m', zX zP 124 v 5 [some (.inr (.inr (some 2))), some (.inr (.inr (some 33))), some (.inl x2), some (.inr (.inl (zrow l))), none, some (.inl (l.length : Int)), u6] [] m = some (some (.inl 0), m') ∧ Fr rdC m m' ∧ zi m' 2 10 = (e.1 : Int) ∧ zi m' 2 11 = (e.2 : Int) ∧ DfB m') ∧
    (∀ q, rSai L f n k T l = .inr q → ∃ (m' : zM) (u5 u6' : Option zV), zX zP 124 v 5 [some (.inr (.inr (some 2))), some (.inr (.inr (some 33))), some (.inl x2), some (.inr (.inl (zrow l))), none, some (.inl (l.length : Int)), u6] [] m = zX zP 124 v 72 [some (.inr (.inr (some 2))), some (.inr (.inr (some 33))), some (.inl x2), some (.inr (.inl (zrow q.2))), none, some (.inl (q.2.length : Int)), u6'] [] m' ∧ Fr tkP m m' ∧ GdC m' f n q.1 L ∧ rOk q.2) := by
  intro k
  induction k with
  | zero =>
    intro T l u6 m hk hl hR g
    have := hl.1
    omega
  | succ k ih =>
    intro T l u6 m hk hl hR g
    have h8 := hl.1
    have hw8 := g.2.2.2.1.2.1
    -- whether it goes on
    have start : zX zP 124 v 5 [some (.inr (.inr (some 2))), some (.inr (.inr (some 33))), some (.inl x2), some (.inr (.inl (zrow l))), none, some (.inl (l.length : Int)), u6] [] m = if (decide (l.length = 0) || decide (T.1 = 2)) = true then zX zP 124 v 24 [some (.inr (.inr (some 2))), some (.inr (.inr (some 33))), some (.inl x2), some (.inr (.inl (zrow l))), none, some (.inl (l.length : Int)), u6] [] m else zX zP 124 v 72 [some (.inr (.inr (some 2))), some (.inr (.inr (some 33))), some (.inl x2), some (.inr (.inl (zrow l))), none, some (.inl (l.length : Int)), u6] [] m := by
      rw [j_X5_readsSaid_5, if_neg (by omega)]
      by_cases c : l.length = 0
      · rw [if_pos (show (l.length : Int) = 0 by omega), decide_eq_true c, Bool.true_or, if_pos rfl]
      · rw [if_neg (show ¬ (l.length : Int) = 0 by omega), if_pos g.1.t2, c_isLetters g, zC1_s, decide_eq_false c, Bool.false_or]
        by_cases c2 : T.1 = 2
        · rw [decide_eq_true c2, if_neg nb1, if_pos rfl]
        · rw [decide_eq_false c2, if_pos yb0, if_neg (by decide)]
    rw [start]
    unfold rSai
    by_cases c : (decide (l.length = 0) || decide (T.1 = 2)) = true
    · obtain ⟨s1, s2⟩ := c_see (v := 0) g.1 g.2.1 g.2.2.1 g.2.2.2
      rw [if_pos c, if_pos c, j_X5_readsSaid_24, if_pos g.1.t2]
      cases e1 : sWrd L T with
      | inl e =>
        rw [s1 e e1, zC1_s, if_pos rfl, if_pos zb0]
        refine ⟨fun e' h => ?_, fun q h => (nomatch h)⟩
        have h' : e = e' := Sum.inl.inj h
        rw [← h']
        exact bd_out g (Fr.rf _ _)
      | inr q =>
        have s2' : zF zP 117 0 [(.inr (.inr (some 2))), (.inr (.inr (some 33)))] m = some (some (.inl (q.2 : Int)), m) := s2 q e1
        have hq := sWrd_lt (q := q) e1
        rw [s2', zC1_s, if_neg (show ¬ (q.2 : Int) = -1 by omega), j_X5_readsSaid_39]
        show (∀ e, (if l.length = 8 then .inl (6, T.2.1) else rSai L f n k (nxT f n T) (l ++ [q.2])) = Sum.inl e → _) ∧ (∀ q', (if l.length = 8 then .inl (6, T.2.1) else rSai L f n k (nxT f n T) (l ++ [q.2])) = Sum.inr q' → _)
        by_cases c8 : l.length = 8
        · have hf : zF zP 98 0 [(.inr (.inr (some 2))), .inl 6] m = some (some (.inl 0), bdC m (6, T.2.1)) := c_failed (v := 0) g.1 g.2.1 6
          rw [if_pos c8, if_neg (show ¬ (l.length : Int) < 8 by omega), if_pos g.1.t2, hf, zC1_s, if_pos zb0]
          refine ⟨fun e' h => ?_, fun q h => (nomatch h)⟩
          have h' : (6, T.2.1) = e' := Sum.inl.inj h
          rw [← h']
          exact bd_out g (Fr.rf _ _)
        · obtain ⟨m1, a1, a2, a3⟩ := c_advG (v := 0) g hR
          have hw := rwith_ok hl (Nat.le_refl _) (by omega) (show q.2 < 16 by omega)
          rw [rwith_end] at hw
          have hlen : (l ++ [q.2]).length = l.length + 1 := by rw [List.length_append]; rfl
          obtain ⟨i1, i2⟩ := ih (nxT f n T) (l ++ [q.2]) (some (.inl (q.2 : Int))) m1 (by rw [hlen]; omega) hw (nxT_R hR) a3
          rw [hlen] at i1 i2
          rw [if_neg c8, if_pos (show (l.length : Int) < 8 by omega), j_X5_readsSaid_53, s_with hl (Nat.le_refl _) (by omega) (show q.2 < 16 by omega), zC2_s, rwith_end, if_pos g.1.t2, a1, zC0_s, zadd1 (by omega)]
          refine ⟨fun e h => ?_, fun q' h => ?_⟩
          · obtain ⟨m', z1, z2, z3⟩ := i1 e h
            exact ⟨m', z1, (tk_rd a2).tr z2, z3⟩
          · obtain ⟨m', u5, u6', z1, z2, z3⟩ := i2 q' h
            exact ⟨m', u5, u6', z1, a2.tr z2, z3⟩
    · rw [if_neg c, if_neg c]
      refine ⟨fun e h => (nomatch h), fun q h => ?_⟩
      have h' : (T, l) = q := Sum.inr.inj h
      rw [← h']
      exact ⟨m, none, u6, rfl, Fr.rf _ _, g, hl⟩
theorem ps_fr : ∀ b j : Nat, (fun (b _ : Nat) => b = 33 ∨ (33 + 5 ≤ b ∧ b < 33 + 8)) b j → 33 ≤ b ∧ b < 61 := fun b j z => by
  have z' : b = 33 ∨ (33 + 5 ≤ b ∧ b < 33 + 8) := z
  omega
theorem c_psn (g : GdC m f n T L) (hR : TkR n T) : RcC m f n (zF zP 125 v [(.inr (.inr (some 2))), (.inr (.inr (some 33)))] m) (rPsn L f n T) := by
  have h6 := g.2.2.2.2.2.1.2.1
  obtain ⟨m1, a1, a2, a3⟩ := c_advG (v := 0) g hR
  have hR1 := nxT_R (f := f) hR
  rw [f_X5_readsPerson, if_pos g.2.2.1.1, g.2.2.2.2.2.1.1]
  unfold rPsn
  by_cases c6 : L.2.2.1.length = 6
  · have hf : zF zP 98 0 [(.inr (.inr (some 2))), .inl 6] m = some (some (.inl 0), bdC m (6, T.2.1)) := c_failed (v := 0) g.1 g.2.1 6
    rw [if_pos c6, if_neg (by omega), if_pos g.1.t2, hf, zC1_s, if_pos zb0]
    exact bd_out g (Fr.rf _ _)
  · have w1 := c_new (v := 0) a3.1 a3.2.1 hR1 a3.2.2.1 a3.2.2.2
    rw [if_neg c6, if_pos (by omega), j_X5_readsPerson_16, if_pos g.1.t2, a1, zC0_s, if_pos a3.1.t2]
    cases e1 : rNew L f n (nxT f n T) with
    | inl e =>
      rw [e1] at w1
      have w1' : zF zP 112 0 [(.inr (.inr (some 2))), (.inr (.inr (some 33)))] m1 = some (some (.inr (.inl 0)), bdC m1 e) := w1
      rw [w1', zC2_s, if_pos (zlcmp_eq.mpr rfl), j_X5_readsPerson_41, if_pos zb0]
      exact bd_out a3 (tk_rd a2)
    | inr q =>
      rw [e1] at w1
      obtain ⟨m2, b1, b2, b3⟩ := w1
      have b1' : zF zP 112 0 [(.inr (.inr (some 2))), (.inr (.inr (some 33)))] m1 = some (some (.inr (.inl (q.2 : Int))), m2) := b1
      have g2 := a3.tk b2 b3
      have hq : 0 < q.2 := rNew_pos e1
      have hR2 := (pg_new (L := L) (f := f) hR1 q e1).1
      have kk := c_key (v := 0) g2.1 g2.2.1 hR2 (k := 10) (by decide)
      have hF2 : Fr rdC m m2 := (tk_rd a2).tr (tk_rd b2)
      have hfl2 : FlC m m2 := (tk_fl a2).tr (tk_fl b2)
      rw [b1', zC2_s, if_neg (fun w => by have := zlcmp_eq.mp w; omega), if_pos g2.1.t2]
      show RcC m f n _ (match rKey f n q.1 10 with
        | .inl e => .inl e
        | .inr q2 => match rLin L f n q2.1 with
          | .inl e => .inl e
          | .inr q3 => if isK q3.1 11 = true then (match rSai L f n 9 (nxT f n q3.1) [] with
            | .inl e => .inl e
            | .inr q4 => .inr (q4.1, addPs L ((q.2 : Int), q3.2, q4.2))) else .inr (q3.1, addPs L ((q.2 : Int), q3.2, [])))
      cases e2 : rKey f n q.1 10 with
      | inl e =>
        rw [e2] at kk
        have kk' : zF zP 119 0 [(.inr (.inr (some 2))), .inl 10] m2 = some (some (.inl 0), bdC m2 e) := kk
        rw [kk', zC1_s, if_pos rfl, j_X5_readsPerson_41, if_pos zb0]
        exact bd_out g2 hF2
      | inr q2 =>
        rw [e2] at kk
        obtain ⟨m3, d1, d2, d3⟩ := kk
        have d1' : zF zP 119 0 [(.inr (.inr (some 2))), .inl 10] m2 = some (some (.inl 1), m3) := d1
        have g3 := g2.tk d2 d3
        have hR3 := (pg_key hR2 _ q2 e2).1
        have hF3 := hF2.tr (tk_rd d2)
        have hfl3 := hfl2.tr (tk_fl d2)
        have w3 := c_lin (v := 0) g3.1 g3.2.1 hR3 g3.2.2.1 g3.2.2.2
        rw [d1', zC1_s, if_neg (by decide), j_X5_readsPerson_43, if_pos g3.1.t2]
        show RcC m f n _ (match rLin L f n q2.1 with
          | .inl e => .inl e
          | .inr q3 => if isK q3.1 11 = true then (match rSai L f n 9 (nxT f n q3.1) [] with
            | .inl e => .inl e
            | .inr q4 => .inr (q4.1, addPs L ((q.2 : Int), q3.2, q4.2))) else .inr (q3.1, addPs L ((q.2 : Int), q3.2, [])))
        cases e3 : rLin L f n q2.1 with
        | inl e =>
          rw [e3] at w3
          have w3' : zF zP 122 0 [(.inr (.inr (some 2))), (.inr (.inr (some 33)))] m3 = some (some (.inl (-1)), bdC m3 e) := w3
          rw [w3', zC1_s, if_pos rfl, if_pos zb0]
          exact bd_out g3 hF3
        | inr q3 =>
          rw [e3] at w3
          obtain ⟨m4, x1, x2, x3⟩ := w3
          have x1' : zF zP 122 0 [(.inr (.inr (some 2))), (.inr (.inr (some 33)))] m3 = some (some (.inl (q3.2 : Int)), m4) := x1
          have g4 := g3.tk x2 x3
          have hR4 := (pg_lin (L := L) (f := f) hR3 q3 e3).1
          have hq3 := rLin_lt e3
          obtain ⟨m5, y1, y2, y3⟩ := s_addPerson (v := 0) (y := (q.2 : Int)) (x := q3.2) g4.2.2.1 g4.2.2.2 (by omega) hq3
          have g5 := g4.dr y2 ps_fr y3
          have hF5 : Fr rdC m m5 := (hF3.tr (tk_rd x2)).tr (y2.mono (fun b j z => by
            have z' : b = 33 ∨ (33 + 5 ≤ b ∧ b < 33 + 8) := z
            unfold rdC; omega))
          have hfl5 : FlC m m5 := (hfl3.tr (tk_fl x2)).tr (dr_fl y2 ps_fr)
          have k11 : zF zP 114 0 [(.inr (.inr (some 2))), .inl 11] m5 = some (some (.inl (b01 (isK q3.1 11))), m5) := c_isKeyword (v := 0) g5.1 g5.2.1 (k := 11) (by decide)
          rw [x1', zC1_s, if_neg (show ¬ (q3.2 : Int) = -1 by omega), j_X5_readsPerson_58, if_pos g4.2.2.1.1, y1, zC0_s, if_pos g5.1.t2, k11, zC1_s]
          show RcC m f n _ (if isK q3.1 11 = true then (match rSai L f n 9 (nxT f n q3.1) [] with
            | .inl e => .inl e
            | .inr q4 => .inr (q4.1, addPs L ((q.2 : Int), q3.2, q4.2))) else .inr (q3.1, addPs L ((q.2 : Int), q3.2, [])))
          by_cases c11 : isK q3.1 11 = true
          · obtain ⟨m6, t1, t2, t3⟩ := c_advG (v := 0) g5 hR4
            have hlen : zi m6 33 10 = ((L.2.2.1.length + 1 : Nat) : Int) := by rw [t3.2.2.2.2.2.1.1, addPs_len]
            have esub : zsub ((L.2.2.1.length + 1 : Nat) : Int) 1 = (L.2.2.1.length : Int) := by rw [zsub1 (by omega) (by omega)]; rfl
            obtain ⟨i1, i2⟩ := c_sai (v := 0) (x2 := (L.2.2.1.length : Int)) 9 (nxT f n q3.1) [] none m6 rfl (rep_ok (f := 0) (N := 0) (by decide) (by decide)) (nxT_R hR4) t3
            have z0 : (([] : List Nat).length : Int) = 0 := rfl
            have zr0 : zrow [] = 0 := rfl
            rw [z0, zr0] at i1 i2
            rw [show rSai (addPs L ((q.2 : Int), q3.2, [])) f n 9 (nxT f n q3.1) [] = rSai L f n 9 (nxT f n q3.1) [] from rSai_c rfl f n 9 _ _] at i1 i2
            rw [if_pos c11, c11, if_neg nb1, j_X5_readsPerson_76, if_pos g5.1.t2, t1, zC0_s, if_pos t3.2.2.1.1, hlen, esub, f_X5_readsSaid]
            cases e4 : rSai L f n 9 (nxT f n q3.1) [] with
            | inl e =>
              obtain ⟨m', z1, z2, z3⟩ := i1 e e4
              rw [z1, zC1_s, if_pos zb0]
              exact ⟨m', rfl, (hF5.tr (tk_rd t2)).tr z2, z3⟩
            | inr q4 =>
              obtain ⟨m7, u5, u6', z1, z2, z3, z4⟩ := i2 q4 e4
              have hlt : L.2.2.1.length < (addPs L ((q.2 : Int), q3.2, [])).2.2.1.length := by rw [addPs_len]; omega
              have hsay := z3.2.2.2.say hlt z4
              rw [addPs_get, psSet_last] at hsay
              have hw : Fr (fun b _ => b = 40) m7 (zwl m7 40 L.2.2.1.length (zrow q4.2)) := Fr.wl m7 _ rfl
              have hP : ∀ b j : Nat, (fun (b _ : Nat) => b = 40) b j → 33 ≤ b ∧ b < 61 := fun b j z => by
                have z' : b = 40 := z
                omega
              rw [z1, j_X5_readsSaid_72, if_pos z3.2.2.1.1, s_say z3.2.2.1 (by omega), zC0_s, if_pos zb1, zC1_s, if_pos zb1]
              exact ⟨_, rfl, ((hF5.tr (tk_rd t2)).tr (tk_rd z2)).tr (hw.mono (fun b j z => by
                have z' : b = 40 := z
                unfold rdC; omega)), z3.dr hw hP hsay, (hfl5.tr (tk_fl t2)).tr ((tk_fl z2).tr (dr_fl hw hP))⟩
          · rw [if_neg c11, bool_f c11, if_pos yb0, if_pos zb1]
            exact ⟨m5, rfl, hF5, g5, hfl5⟩
end SLIPC5
