/-! The class reads STEPS of YEARS. -/
section YRSC3
variable {v : Nat} {m m' m0 : zM} {f : Nat → Nat} {n : Nat} {T : zTok} {L : zLd} {A : zAc} {w : Nat}
theorem pg_tst (h : TkR n T) : Pg n T (rTst L f n T) := by
  unfold rTst
  split
  · cases e1 : rLin L f n (nxT f n T) with
    | inl e => exact Pg.inl _
    | inr q =>
      obtain ⟨a1, a2⟩ := pg_lin (L := L) (f := f) (nxT_R (f := f) h) q e1
      exact Pg.inr _ a1 (Nat.le_trans (nx_le (f := f) h) a2)
  · split
    · cases e1 : rPrs L f n (nxT f n T) with
      | inl e => exact Pg.inl _
      | inr q =>
        obtain ⟨a1, a2⟩ := pg_prs (L := L) (f := f) (nxT_R (f := f) h) q e1
        show Pg n T (match rWrd L f n q.1 with
          | .inl e => .inl e
          | .inr q2 => .inr (q2.1, ((20, q.2, q2.2, 0), (5, (q.2 : Int), (q2.2 : Int), 1, -7))) : zRd zSp)
        cases e2 : rWrd L f n q.1 with
        | inl e => exact Pg.inl _
        | inr q2 =>
          obtain ⟨a3, a4⟩ := pg_wrd (L := L) (f := f) a1 q2 e2
          exact Pg.inr _ a3 (Nat.le_trans (Nat.le_trans (nx_le (f := f) h) a2) a4)
    · split
      · cases e1 : rPrs L f n (nxT f n T) with
        | inl e => exact Pg.inl _
        | inr q =>
          obtain ⟨a1, a2⟩ := pg_prs (L := L) (f := f) (nxT_R (f := f) h) q e1
          show Pg n T (if isCm q.1 = true then (match rNum f n (nxT f n q.1) 0 8 with
            | .inl e => .inl e
            | .inr q2 => .inr (q2.1, ((19, q.2, q.1.2.2.2.2, q2.2), (5, (q.2 : Int), (q2.2 : Int), 2, (q.1.2.2.2.2 : Int))))) else .inl (kMis q.1) : zRd zSp)
          split
          · cases e2 : rNum f n (nxT f n q.1) 0 8 with
            | inl e => exact Pg.inl _
            | inr q2 =>
              obtain ⟨a3, a4⟩ := pg_num (f := f) (nxT_R (f := f) a1) 0 8 q2 e2
              exact Pg.inr _ a3 (Nat.le_trans (Nat.le_trans (nx_le (f := f) h) a2) (Nat.le_trans (nx_le (f := f) a1) a4))
          · exact Pg.inl _
      · exact Pg.inl _
theorem pg_stp (h : TkR n T) : Pg n T (rStp L f n T) := by
  have num : ∀ (lo hi : Nat) (g : Nat → zSp), Pg n T (match rNum f n (nxT f n T) lo hi with
      | .inl e => .inl e
      | .inr q => .inr (q.1, g q.2) : zRd zSp) := fun lo hi g => by
    cases e1 : rNum f n (nxT f n T) lo hi with
    | inl e => exact Pg.inl _
    | inr q =>
      obtain ⟨a1, a2⟩ := pg_num (f := f) (nxT_R (f := f) h) lo hi q e1
      exact Pg.inr _ a1 (Nat.le_trans (nx_le (f := f) h) a2)
  have lin : ∀ (g : Nat → zSp), Pg n T (match rLin L f n (nxT f n T) with
      | .inl e => .inl e
      | .inr q => .inr (q.1, g q.2) : zRd zSp) := fun g => by
    cases e1 : rLin L f n (nxT f n T) with
    | inl e => exact Pg.inl _
    | inr q =>
      obtain ⟨a1, a2⟩ := pg_lin (L := L) (f := f) (nxT_R (f := f) h) q e1
      exact Pg.inr _ a1 (Nat.le_trans (nx_le (f := f) h) a2)
  unfold rStp
  split
  · exact num 1 20 (fun d => ((12, d, 0, 0), (0, (d : Int), -7, -7, -7)))
  · split
    · cases e1 : rPrs L f n (nxT f n T) with
      | inl e => exact Pg.inl _
      | inr q =>
        obtain ⟨a1, a2⟩ := pg_prs (L := L) (f := f) (nxT_R (f := f) h) q e1
        show Pg n T (match rLin L f n q.1 with
          | .inl e => .inl e
          | .inr q2 => .inr (q2.1, ((13, q.2, q2.2, 0), (1, (q.2 : Int), (q2.2 : Int), -7, -7))) : zRd zSp)
        cases e2 : rLin L f n q.1 with
        | inl e => exact Pg.inl _
        | inr q2 =>
          obtain ⟨a3, a4⟩ := pg_lin (L := L) (f := f) a1 q2 e2
          exact Pg.inr _ a3 (Nat.le_trans (Nat.le_trans (nx_le (f := f) h) a2) a4)
    · split
      · exact lin (fun d => ((14, d, 0, 0), (2, -7, (d : Int), -7, -7)))
      · split
        · exact lin (fun d => ((15, d, 0, 0), (3, -7, (d : Int), -7, -7)))
        · split
          · exact Pg.inr _ (nxT_R h) (nx_le h)
          · split
            · intro q hq
              obtain ⟨a1, a2⟩ := pg_tst (L := L) (f := f) (nxT_R (f := f) h) q hq
              exact ⟨a1, Nat.le_trans (nx_le (f := f) h) a2⟩
            · split
              · exact num 1 99 (fun d => ((21, d, 0, 0), (6, (d : Int), -7, -7, -7)))
              · exact Pg.inr _ (nxT_R h) (nx_le h)
theorem isK_dec {k : Nat} (hk : k < 24) : isK T k = decide (kwI T.2.2.2.1 = (k : Int)) := by
  by_cases c : isK T k = true
  · rw [c, decide_eq_true ((isK_kw hk).mpr c)]
  · rw [bool_f c, decide_eq_false (fun q => c ((isK_kw hk).mp q))]
theorem c_bst (T : zTok) : zF zP 153 v [.inl (kwI T.2.2.2.1)] m = some (some (.inl (b01 (isSt T))), m) := by
  have key : ∀ x : Int, (x = -1 ∨ ∃ k : Nat, x = (k : Int) ∧ k < 24) → zsel x 12 [64, 64, 64, 64, 64, 64, 66, 66, 66, 64, 66, 64] 66 = if (decide (x = ((12 : Nat) : Int)) || (decide (x = ((13 : Nat) : Int)) || (decide (x = ((14 : Nat) : Int)) || (decide (x = ((15 : Nat) : Int)) || (decide (x = ((16 : Nat) : Int)) || (decide (x = ((17 : Nat) : Int)) || (decide (x = ((21 : Nat) : Int)) || decide (x = ((23 : Nat) : Int))))))))) = true then 64 else 66 := by
    rintro x (rfl | ⟨k, rfl, hk⟩)
    · decide
    · have key : ∀ k : Fin 24, zsel ((k.val : Nat) : Int) 12 [64, 64, 64, 64, 64, 64, 66, 66, 66, 64, 66, 64] 66 = if (decide (((k.val : Nat) : Int) = ((12 : Nat) : Int)) || (decide (((k.val : Nat) : Int) = ((13 : Nat) : Int)) || (decide (((k.val : Nat) : Int) = ((14 : Nat) : Int)) || (decide (((k.val : Nat) : Int) = ((15 : Nat) : Int)) || (decide (((k.val : Nat) : Int) = ((16 : Nat) : Int)) || (decide (((k.val : Nat) : Int) = ((17 : Nat) : Int)) || (decide (((k.val : Nat) : Int) = ((21 : Nat) : Int)) || decide (((k.val : Nat) : Int) = ((23 : Nat) : Int))))))))) = true then 64 else 66 := by decide
      exact key ⟨k, hk⟩
  rw [f_X9_beginsStep, key _ (kw_rng T.2.2.2.1), ← isK_dec (by decide), ← isK_dec (by decide), ← isK_dec (by decide), ← isK_dec (by decide), ← isK_dec (by decide), ← isK_dec (by decide), ← isK_dec (by decide), ← isK_dec (by decide)]
  show zX zP 153 v (if isSt T = true then 64 else 66) _ [] m = _
  by_cases c : isSt T = true
  · rw [if_pos c, j_X9_beginsStep_64, if_pos zb1, c]; rfl
  · rw [if_neg c, j_X9_beginsStep_66, if_pos zb0, bool_f c]; rfl
theorem c_bbl (T : zTok) : zF zP 154 v [.inl (kwI T.2.2.2.1)] m = some (some (.inl (b01 (isBl T))), m) := by
  have h17 : kwI T.2.2.2.1 = 17 ↔ isK T 17 = true := isK_kw (T := T) (k := 17) (by decide)
  have h21 : kwI T.2.2.2.1 = 21 ↔ isK T 21 = true := isK_kw (T := T) (k := 21) (by decide)
  rw [f_X9_beginsBlock]
  unfold isBl
  by_cases c : isK T 17 = true
  · rw [if_pos (h17.mpr c), j_X9_beginsBlock_12, j_X9_beginsBlock_17, if_pos zb1, c]; rfl
  · rw [if_neg (fun q => c (h17.mp q)), bool_f c]
    by_cases c2 : isK T 21 = true
    · rw [if_pos (h21.mpr c2), j_X9_beginsBlock_12, j_X9_beginsBlock_17, if_pos zb1, c2]; rfl
    · rw [if_neg (fun q => c2 (h21.mp q)), j_X9_beginsBlock_16, j_X9_beginsBlock_17, if_pos zb0, bool_f c2]; rfl
theorem c_ystep (g : GyC m f n T L) (hR : TkR n T) (a : AyS m A w) (hW : WfA A w) (h30 : nst A ≠ 30) (hst : isSt T = true) (hw : isBl T = true → w < 3) : YsC m f n L A w (zF zP 157 v [(.inr (.inr (some 2))), (.inr (.inr (some 5))), (.inr (.inr (some 41)))] m) (rStp L f n T) := by
  have hN : L.1.length ≤ 8 := g.2.2.2.1.2.1
  have hN2 : L.2.1.length ≤ 8 := g.2.2.2.2.1.2.1
  have hN3 : L.2.2.1.length ≤ 6 := g.2.2.2.2.2.1.2.1
  have hall : ∀ q, rStp L f n T = .inr q → oOk q.2.1 ∧ blkS q.2 = isBl T := fun q h => ⟨gSp_ok (rStp_g hst h).1 hN3 hN2 hN, (rStp_g hst h).2⟩
  have hkw : zi m 2 7 = kwI T.2.2.2.1 := g.2.1.2.2.2.2.1
  obtain ⟨m1, f1, f2, f3⟩ := c_adv (v := 0) g.1 g.2.1 hR
  have g1 := g.tk f2 f3
  have a1 := a.tk f2
  have hR1 : TkR n (nxT f n T) := nxT_R hR
  have t1 := g1.1.t2
  rw [f_X9_readsStep, if_pos g.1.t2, if_pos g.1.t2, f1, zC0_s, hkw]
  refine YsC.pre f2 ?_
  have wnum : ∀ (lo hi : Nat), RdC m1 (zF zP 109 0 [(.inr (.inr (some 2))), .inl (lo : Int), .inl (hi : Int)] m1) nV (.inl (-1)) (rNum f n (nxT f n T) lo hi) := fun lo hi => c_num (v := 0) g1.1 g1.2.1 hR1 lo hi
  have wlin := c_lin (v := 0) g1.1 g1.2.1 hR1 g1.2.2.1 g1.2.2.2
  have wprs := c_prs (v := 0) g1.1 g1.2.1 hR1 g1.2.2.1 g1.2.2.2
  unfold rStp at hall ⊢
  by_cases c12 : isK T 12 = true
  · have k : kwI T.2.2.2.1 = 12 := (isK_kw (k := 12) (by decide)).mpr c12
    have hb : isBl T = false := by unfold isBl; rw [isK_ne (by decide) (by decide) (by decide) c12, isK_ne (by decide) (by decide) (by decide) c12]; rfl
    rw [if_pos c12] at hall
    rw [if_pos c12, k, show zsel 12 12 [64, 97, 104, 104, 175, 135, 175, 175, 175, 142] 175 = 64 from by decide, j_X9_readsStep_64, if_pos t1]
    have wl := wnum 1 20
    cases e1 : rNum f n (nxT f n T) 1 20 with
    | inl e =>
      rw [e1] at wl
      have wl' : zF zP 109 0 [(.inr (.inr (some 2))), .inl 1, .inl 20] m1 = some (some (.inl (-1)), bdC m1 e) := wl
      rw [wl', zC1_s, if_pos rfl, j_X9_readsStep_95, j_X9_readsStep_96, if_pos zb0]
      exact ys_bad (Fr.rf _ _) e
    | inr q =>
      rw [e1] at wl hall
      obtain ⟨m2, b1, b2, b3⟩ := wl
      have b1' : zF zP 109 0 [(.inr (.inr (some 2))), .inl 1, .inl 20] m1 = some (some (.inl (q.2 : Int)), m2) := b1
      obtain ⟨o1, o2⟩ := hall _ rfl
      have a2 := a1.tk b2
      obtain ⟨m3, d1, d2⟩ := ys_add (v := 0) (g1.tk b2 b3) a2 hW h30 o1 (o2.trans hb)
      have d1' : zF zP 150 0 [(.inr (.inr (some 41))), .inl 12, .inl (q.2 : Int), .inl 0, .inl 0] m2 = some (some (.inl 1), m3) := d1
      rw [b1', zC1_s, if_neg (by omega), if_pos a2.1.1, d1', zC1_s, if_neg (by decide), j_X9_readsStep_96, if_pos zb1]
      exact YsC.pre b2 d2
  · rw [if_neg c12] at hall
    rw [if_neg c12]
    by_cases c13 : isK T 13 = true
    · have k : kwI T.2.2.2.1 = 13 := (isK_kw (k := 13) (by decide)).mpr c13
      have hb : isBl T = false := by unfold isBl; rw [isK_ne (by decide) (by decide) (by decide) c13, isK_ne (by decide) (by decide) (by decide) c13]; rfl
      rw [if_pos c13] at hall
      rw [if_pos c13, k, show zsel 13 12 [64, 97, 104, 104, 175, 135, 175, 175, 175, 142] 175 = 97 from by decide, j_X9_readsStep_97]
      refine YsC.wrap ?_
      rw [f_X9_readsGo, if_pos t1]
      cases e1 : rPrs L f n (nxT f n T) with
      | inl e =>
        rw [e1] at wprs
        have wl' : zF zP 139 0 [(.inr (.inr (some 2))), (.inr (.inr (some 5)))] m1 = some (some (.inl (-1)), bdC m1 e) := wprs
        rw [wl', zC1_s, if_pos rfl, if_pos zb0]
        exact ys_bad (Fr.rf _ _) e
      | inr q =>
        rw [e1] at wprs hall
        obtain ⟨m2, b1, b2, b3⟩ := wprs
        have b1' : zF zP 139 0 [(.inr (.inr (some 2))), (.inr (.inr (some 5)))] m1 = some (some (.inl (q.2 : Int)), m2) := b1
        have g2 := g1.tk b2 b3
        have a2 := a1.tk b2
        have hR2 := (pg_prs hR1 q e1).1
        have wl := c_lin (v := 0) g2.1 g2.2.1 hR2 g2.2.2.1 g2.2.2.2
        rw [b1', zC1_s, if_neg (by omega), j_X9_readsGo_13, if_pos g2.1.t2]
        refine YsC.pre b2 ?_
        show YsC m2 f n L A w _ (match rLin L f n q.1 with
          | .inl e => .inl e
          | .inr q2 => .inr (q2.1, ((13, q.2, q2.2, 0), (1, (q.2 : Int), (q2.2 : Int), -7, -7))) : zRd zSp)
        cases e2 : rLin L f n q.1 with
        | inl e =>
          rw [e2] at wl
          have wl' : zF zP 122 0 [(.inr (.inr (some 2))), (.inr (.inr (some 5)))] m2 = some (some (.inl (-1)), bdC m2 e) := wl
          rw [wl', zC1_s, if_pos rfl, j_X9_readsGo_43, j_X9_readsGo_44, if_pos zb0]
          exact ys_bad (Fr.rf _ _) e
        | inr q2 =>
          rw [e2] at wl
          obtain ⟨m3, b4, b5, b6⟩ := wl
          have b4' : zF zP 122 0 [(.inr (.inr (some 2))), (.inr (.inr (some 5)))] m2 = some (some (.inl (q2.2 : Int)), m3) := b4
          have hal := hall (q2.1, ((13, q.2, q2.2, 0), (1, (q.2 : Int), (q2.2 : Int), -7, -7))) (by
            show (match rLin L f n q.1 with
              | .inl e => .inl e
              | .inr q2 => .inr (q2.1, ((13, q.2, q2.2, 0), (1, (q.2 : Int), (q2.2 : Int), -7, -7))) : zRd zSp) = _
            rw [e2])
          have a3 := a2.tk b5
          obtain ⟨m4, d1, d2⟩ := ys_add (v := 0) (g2.tk b5 b6) a3 hW h30 hal.1 (hal.2.trans hb)
          have d1' : zF zP 150 0 [(.inr (.inr (some 41))), .inl 13, .inl (q.2 : Int), .inl (q2.2 : Int), .inl 0] m3 = some (some (.inl 1), m4) := d1
          rw [b4', zC1_s, if_neg (by omega), if_pos a3.1.1, d1', zC1_s, if_neg (by decide), j_X9_readsGo_44, if_pos zb1]
          exact YsC.pre b5 d2
    · rw [if_neg c13] at hall
      rw [if_neg c13]
      have line : ∀ (k : Nat), (∀ q : zTok × Nat, rLin L f n (nxT f n T) = .inr q → ∀ x : zSp, x.1 = (k, q.2, 0, 0) → oOk x.1 ∧ blkS x = false → YsC m1 f n L A w (zX zP 157 v 104 [some (.inr (.inr (some 2))), some (.inr (.inr (some 5))), some (.inr (.inr (some 41))), some (.inl (k : Int)), none] [] m1) (.inr (q.1, x))) ∧ (∀ e, rLin L f n (nxT f n T) = .inl e → YsC m1 f n L A w (zX zP 157 v 104 [some (.inr (.inr (some 2))), some (.inr (.inr (some 5))), some (.inr (.inr (some 41))), some (.inl (k : Int)), none] [] m1) (.inl e)) := fun k => by
        rw [j_X9_readsStep_104, if_pos t1]
        refine ⟨fun q e1 x hx ho => ?_, fun e e1 => ?_⟩
        · rw [e1] at wlin
          obtain ⟨m2, b1, b2, b3⟩ := wlin
          have b1' : zF zP 122 0 [(.inr (.inr (some 2))), (.inr (.inr (some 5)))] m1 = some (some (.inl (q.2 : Int)), m2) := b1
          have a2 := a1.tk b2
          obtain ⟨m3, d1, d2⟩ := ys_add (v := 0) (g1.tk b2 b3) a2 hW h30 ho.1 ho.2
          rw [hx] at d1
          have d1' : zF zP 150 0 [(.inr (.inr (some 41))), .inl (k : Int), .inl (q.2 : Int), .inl 0, .inl 0] m2 = some (some (.inl 1), m3) := d1
          rw [b1', zC1_s, if_neg (by omega), if_pos a2.1.1, d1', zC1_s, if_neg (by decide), j_X9_readsStep_134, if_pos zb1]
          exact YsC.pre b2 d2
        · rw [e1] at wlin
          have wl' : zF zP 122 0 [(.inr (.inr (some 2))), (.inr (.inr (some 5)))] m1 = some (some (.inl (-1)), bdC m1 e) := wlin
          rw [wl', zC1_s, if_pos rfl, j_X9_readsStep_133, j_X9_readsStep_134, if_pos zb0]
          exact ys_bad (Fr.rf _ _) e
      by_cases c14 : isK T 14 = true
      · have k : kwI T.2.2.2.1 = 14 := (isK_kw (k := 14) (by decide)).mpr c14
        have hb : isBl T = false := by unfold isBl; rw [isK_ne (by decide) (by decide) (by decide) c14, isK_ne (by decide) (by decide) (by decide) c14]; rfl
        rw [if_pos c14] at hall
        rw [if_pos c14, k, show zsel 14 12 [64, 97, 104, 104, 175, 135, 175, 175, 175, 142] 175 = 104 from by decide]
        cases e1 : rLin L f n (nxT f n T) with
        | inl e => exact (line 14).2 e e1
        | inr q =>
          rw [e1] at hall
          obtain ⟨o1, o2⟩ := hall _ rfl
          exact (line 14).1 q e1 _ rfl ⟨o1, o2.trans hb⟩
      · rw [if_neg c14] at hall
        rw [if_neg c14]
        by_cases c15 : isK T 15 = true
        · have k : kwI T.2.2.2.1 = 15 := (isK_kw (k := 15) (by decide)).mpr c15
          have hb : isBl T = false := by unfold isBl; rw [isK_ne (by decide) (by decide) (by decide) c15, isK_ne (by decide) (by decide) (by decide) c15]; rfl
          rw [if_pos c15] at hall
          rw [if_pos c15, k, show zsel 15 12 [64, 97, 104, 104, 175, 135, 175, 175, 175, 142] 175 = 104 from by decide]
          cases e1 : rLin L f n (nxT f n T) with
          | inl e => exact (line 15).2 e e1
          | inr q =>
            rw [e1] at hall
            obtain ⟨o1, o2⟩ := hall _ rfl
            exact (line 15).1 q e1 _ rfl ⟨o1, o2.trans hb⟩
        · rw [if_neg c15] at hall
          rw [if_neg c15]
          have bare : ∀ (k : Nat) (x : zSp), x.1 = (k, 0, 0, 0) → oOk x.1 ∧ blkS x = false → YsC m1 f n L A w (zX zP 157 v 175 [some (.inr (.inr (some 2))), some (.inr (.inr (some 5))), some (.inr (.inr (some 41))), some (.inl (k : Int)), none] [] m1) (.inr (nxT f n T, x)) := fun k x hx ho => by
            obtain ⟨m3, d1, d2⟩ := ys_add (v := 0) g1 a1 hW h30 ho.1 ho.2
            rw [hx] at d1
            have d1' : zF zP 150 0 [(.inr (.inr (some 41))), .inl (k : Int), .inl 0, .inl 0, .inl 0] m1 = some (some (.inl 1), m3) := d1
            rw [j_X9_readsStep_175, if_pos a1.1.1, d1', zC1_s, if_pos zb1]
            exact d2
          by_cases c16 : isK T 16 = true
          · have k : kwI T.2.2.2.1 = 16 := (isK_kw (k := 16) (by decide)).mpr c16
            have hb : isBl T = false := by unfold isBl; rw [isK_ne (by decide) (by decide) (by decide) c16, isK_ne (by decide) (by decide) (by decide) c16]; rfl
            rw [if_pos c16] at hall
            rw [if_pos c16, k, show zsel 16 12 [64, 97, 104, 104, 175, 135, 175, 175, 175, 142] 175 = 175 from by decide]
            obtain ⟨o1, o2⟩ := hall _ rfl
            exact bare 16 _ rfl ⟨o1, o2.trans hb⟩
          · rw [if_neg c16] at hall
            rw [if_neg c16]
            by_cases c17 : isK T 17 = true
            · have k : kwI T.2.2.2.1 = 17 := (isK_kw (k := 17) (by decide)).mpr c17
              rw [if_pos c17, k, show zsel 17 12 [64, 97, 104, 104, 175, 135, 175, 175, 175, 142] 175 = 135 from by decide, j_X9_readsStep_135]
              exact YsC.wrap (c_ytest g1 hR1 a1 hW h30 (hw (by unfold isBl; rw [c17]; rfl)))
            · rw [if_neg c17] at hall
              rw [if_neg c17]
              by_cases c21 : isK T 21 = true
              · have k : kwI T.2.2.2.1 = 21 := (isK_kw (k := 21) (by decide)).mpr c21
                have hb : isBl T = true := by unfold isBl; rw [c21, Bool.or_true]
                rw [if_pos c21] at hall
                rw [if_pos c21, k, show zsel 21 12 [64, 97, 104, 104, 175, 135, 175, 175, 175, 142] 175 = 142 from by decide, j_X9_readsStep_142, if_pos t1]
                have wl := wnum 1 99
                cases e1 : rNum f n (nxT f n T) 1 99 with
                | inl e =>
                  rw [e1] at wl
                  have wl' : zF zP 109 0 [(.inr (.inr (some 2))), .inl 1, .inl 99] m1 = some (some (.inl (-1)), bdC m1 e) := wl
                  rw [wl', zC1_s, if_pos rfl, j_X9_readsStep_173, j_X9_readsStep_174, if_pos zb0]
                  exact ys_bad (Fr.rf _ _) e
                | inr q =>
                  rw [e1] at wl hall
                  obtain ⟨m2, b1, b2, b3⟩ := wl
                  have b1' : zF zP 109 0 [(.inr (.inr (some 2))), .inl 1, .inl 99] m1 = some (some (.inl (q.2 : Int)), m2) := b1
                  obtain ⟨o1, o2⟩ := hall _ rfl
                  have a2 := a1.tk b2
                  obtain ⟨m3, d1, d2⟩ := ys_beg (v := 0) (g1.tk b2 b3) a2 hW h30 (hw hb) o1 (o2.trans hb)
                  have d1' : zF zP 151 0 [(.inr (.inr (some 41))), .inl 21, .inl (q.2 : Int), .inl 0, .inl 0] m2 = some (some (.inl 1), m3) := d1
                  rw [b1', zC1_s, if_neg (by omega), if_pos a2.1.1, d1', zC1_s, if_neg (by decide), j_X9_readsStep_174, if_pos zb1]
                  exact YsC.pre b2 d2
              · have c23 : isK T 23 = true := by
                  unfold isSt at hst
                  rw [bool_f c12, bool_f c13, bool_f c14, bool_f c15, bool_f c16, bool_f c17, bool_f c21] at hst
                  exact hst
                have k : kwI T.2.2.2.1 = 23 := (isK_kw (k := 23) (by decide)).mpr c23
                have hb : isBl T = false := by unfold isBl; rw [bool_f c17, bool_f c21]; rfl
                rw [if_neg c21] at hall
                rw [if_neg c21, k, show zsel 23 12 [64, 97, 104, 104, 175, 135, 175, 175, 175, 142] 175 = 175 from by decide]
                obtain ⟨o1, o2⟩ := hall _ rfl
                exact bare 23 _ rfl ⟨o1, o2.trans hb⟩
end YRSC3
