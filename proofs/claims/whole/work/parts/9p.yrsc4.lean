/-! The class reads all STEPS. -/
noncomputable abbrev yrX (v : Nat) (i : Int) (u : Option zV) (m : zM) : Option zO := zX zP 158 v 6 [some ((.inr (.inr (some 2)))), some ((.inr (.inr (some 5)))), some ((.inr (.inr (some 41)))), some (.inl i), u] [] m
def SqC (v : Nat) (m : zM) (f : Nat → Nat) (n : Nat) (L : zLd) (w : Nat) (i : Nat) (u : Option zV) (T : zTok) (r : zRd zAc) : Prop := match r with
  | .inl e => ∃ m', yrX v (i : Int) u m = some (some (.inl 0), m') ∧ Fr (yw w) m m' ∧ zi m' 2 10 = (e.1 : Int) ∧ zi m' 2 11 = (e.2 : Int)
  | .inr q => ∃ (m' : zM) (i' : Nat) (u' : Option zV), yrX v (i : Int) u m = yrX v (i' : Int) u' m' ∧ Fr (yw w) m m' ∧ GyC m' f n q.1 L ∧ AyS m' q.2 w ∧ i' ≤ q.1.2.1 ∧ T.2.1 ≤ q.1.2.1 ∧ FlC m m' ∧ TkR n q.1 ∧ (if w = 0 then decide (q.1.1 = 0) else isK q.1 22) = true
section YRSC4
variable {v : Nat} {m m' m0 : zM} {f : Nat → Nat} {n : Nat} {T : zTok} {L : zLd} {A : zAc} {w : Nat}
theorem y_isEnded (g : GyC m f n T L) : zF zP 97 v [(.inr (.inr (some 2)))] m = some (some (.inl (b01 (decide (T.1 = 0)))), m) := by
  rw [f_X6_isEnded, if_pos g.1.t2, g.2.1.1]
  by_cases c : T.1 = 0
  · rw [if_pos (by omega), j_X6_isEnded_12, if_pos zb1, decide_eq_true c]; rfl
  · rw [if_neg (by omega), j_X6_isEnded_11, j_X6_isEnded_12, if_pos zb0, decide_eq_false c]; rfl
/-- what ends no STEPS here -/
theorem y_head (g : GyC m f n T L) (hR : TkR n T) (a : AyS m A w) (hn : n ≤ 300) {i : Nat} (hi : i ≤ T.2.1) (u : Option zV) (hne : ¬ (if w = 0 then decide (T.1 = 0) else isK T 22) = true) : yrX v (i : Int) u m = zX zP 158 v 56 [some (.inr (.inr (some 2))), some (.inr (.inr (some 5))), some (.inr (.inr (some 41))), some (.inl (i : Int)), u] [] m := by
  have h27 : zX zP 158 v 27 [some (.inr (.inr (some 2))), some (.inr (.inr (some 5))), some (.inr (.inr (some 41))), some (.inl (i : Int)), u] [] m = zX zP 158 v 56 [some (.inr (.inr (some 2))), some (.inr (.inr (some 5))), some (.inr (.inr (some 41))), some (.inl (i : Int)), u] [] m := by
    have k22 := c_isKeyword (v := 0) g.1 g.2.1 (k := 22) (by decide)
    have k22' : zF zP 114 0 [(.inr (.inr (some 2))), .inl 22] m = some (some (.inl (b01 (isK T 22))), m) := k22
    rw [j_X9_reads_27, if_pos g.1.t2, k22', zC1_s]
    by_cases c : isK T 22 = true
    · have hw : w = 0 := Decidable.byContradiction (fun z => hne (by rw [if_neg z]; exact c))
      rw [c, if_neg nb1, if_pos a.1.1, a.2.2.2.1, if_neg (by omega)]
    · rw [bool_f c, if_pos yb0]
  show zX zP 158 v 6 _ [] m = _
  rw [j_X9_reads_6, if_neg (by have := hR.1; have := hR.2.1; omega), if_pos g.1.t2, y_isEnded g, zC1_s]
  by_cases c : T.1 = 0
  · have hw : w ≠ 0 := fun z => hne (by rw [if_pos z, decide_eq_true c])
    rw [decide_eq_true c, if_neg nb1, if_pos a.1.1, a.2.2.2.1, if_neg (by omega)]
    exact h27
  · rw [decide_eq_false c, if_pos yb0]
    exact h27
theorem y_out {i : Int} {m1 : zM} : zX zP 158 v 132 [some (.inr (.inr (some 2))), some (.inr (.inr (some 5))), some (.inr (.inr (some 41))), some (.inl i), some (.inl 0)] [] m1 = some (some (.inl 0), m1) := by
  rw [j_X9_reads_132, if_pos rfl, j_X9_reads_144, if_pos zb0]
theorem y_sem (g : GyC m f n T L) (hR : TkR n T) (i : Nat) (hi : i < 1000000) : (∀ e, rSem f n T = .inl e → ∃ m', zX zP 158 v 132 [some (.inr (.inr (some 2))), some (.inr (.inr (some 5))), some (.inr (.inr (some 41))), some (.inl (i : Int)), some (.inl 1)] [] m = some (some (.inl 0), m') ∧ Fr fqP m m' ∧ zi m' 2 10 = (e.1 : Int) ∧ zi m' 2 11 = (e.2 : Int)) ∧
    (∀ q, rSem f n T = .inr q → ∃ m', zX zP 158 v 132 [some (.inr (.inr (some 2))), some (.inr (.inr (some 5))), some (.inr (.inr (some 41))), some (.inl (i : Int)), some (.inl 1)] [] m = yrX v ((i + 1 : Nat) : Int) (some (.inl 1)) m' ∧ Fr tkP m m' ∧ GyC m' f n q.1 L) := by
  have w := c_sem (v := 0) g.1 g.2.1 hR
  rw [j_X9_reads_132, if_neg (by decide), if_pos g.1.t2]
  refine ⟨fun e e1 => ?_, fun q e1 => ?_⟩
  · rw [e1] at w
    have w' : zF zP 126 0 [(.inr (.inr (some 2)))] m = some (some (.inl 0), bdC m e) := w
    rw [w', zC1_s, if_pos rfl, j_X9_reads_144, if_pos zb0]
    exact ⟨_, rfl, bdC_fr m e, (bdC_k m e).1, (bdC_k m e).2⟩
  · rw [e1] at w
    obtain ⟨m2, b1, b2, b3⟩ := w
    have b1' : zF zP 126 0 [(.inr (.inr (some 2)))] m = some (some (.inl 1), m2) := b1
    rw [b1', zC1_s, if_neg (by decide), j_X9_reads_146, zadd1 hi]
    exact ⟨m2, rfl, b2, g.tk b2 b3⟩
theorem yw_mono {w' : Nat} (h : Fr (yw w') m m') (hw : w ≤ w') : Fr (yw w) m m' := h.mono (fun b j q => by unfold yw at q ⊢; omega)
theorem SqC.pre {m1 : zM} {i i1 : Nat} {u u1 : Option zV} {T1 : zTok} {r : zRd zAc} (h : yrX v (i : Int) u m = yrX v (i1 : Int) u1 m1) (hf : Fr (yw w) m m1) (hfl : FlC m m1) (hT : T.2.1 ≤ T1.2.1) (hs : SqC v m1 f n L w i1 u1 T1 r) : SqC v m f n L w i u T r := by
  cases r with
  | inl e =>
    obtain ⟨m', z1, z2, z3⟩ := hs
    exact ⟨m', h.trans z1, hf.tr z2, z3⟩
  | inr q =>
    obtain ⟨m', i', u', z1, z2, z3, z4, z5, z6, z7, z8⟩ := hs
    exact ⟨m', i', u', h.trans z1, hf.tr z2, z3, z4, z5, Nat.le_trans hT z6, hfl.tr z7, z8⟩
theorem c_yseq : ∀ (k w : Nat) (T : zTok) (A : zAc) (i : Nat) (u : Option zV) (m : zM), TkR n T → n < T.2.1 + k → i ≤ T.2.1 → n ≤ 300 → GyC m f n T L → AyS m A w → WfA A w → w ≤ 3 → SqC v m f n L w i u T (rSq L f n k w T A)
  | 0, w, T, A, i, u, m, hR, hk, hi, hn, g, a, hA, hw => by
    have h1 := hR.1
    have h2 := hR.2.1
    omega
  | k + 1, w, T, A, i, u, m, hR, hk, hi, hn, g, a, hA, hw => by
    have hTn : T.2.1 ≤ n := Nat.le_trans hR.1 hR.2.1
    unfold rSq
    by_cases c1 : (if w = 0 then decide (T.1 = 0) else isK T 22) = true
    · rw [if_pos c1]
      exact ⟨m, i, u, rfl, Fr.rf _ _, g, a, hi, Nat.le_refl _, ⟨rfl, rfl⟩, hR, c1⟩
    · rw [if_neg c1]
      have hh := y_head (v := v) g hR a hn hi u c1
      have hkw : zi m 2 7 = kwI T.2.2.2.1 := g.2.1.2.2.2.2.1
      have six : (6 : Int) = ((6 : Nat) : Int) := rfl
      have sev : (7 : Int) = ((7 : Nat) : Int) := rfl
      by_cases c2 : isSt T = false
      · rw [if_pos c2]
        refine ⟨bdC m (kMis T), ?_, fq_yw (bdC_fr m _), (bdC_k m _).1, (bdC_k m _).2⟩
        rw [hh, j_X9_reads_56, if_pos g.1.t2, hkw, c_bst, zC1_s, c2, if_pos yb0, if_pos g.1.t2, c_misplaced g.1 g.2.1, zC1_s, y_out]
      · have hst : isSt T = true := by cases z : isSt T; exact absurd z c2; rfl
        have h75 : yrX v (i : Int) u m = zX zP 158 v 75 [some (.inr (.inr (some 2))), some (.inr (.inr (some 5))), some (.inr (.inr (some 41))), some (.inl (i : Int)), u] [] m := by
          rw [hh, j_X9_reads_56, if_pos g.1.t2, hkw, c_bst, zC1_s, hst, if_neg nb1]
        rw [if_neg c2]
        by_cases c3 : nst A = 30
        · rw [if_pos c3]
          refine ⟨bdC m (6, T.2.1), ?_, fq_yw (bdC_fr m _), (bdC_k m _).1, (bdC_k m _).2⟩
          rw [h75, j_X9_reads_75, if_pos a.1.1, a.2.2.1, if_neg (by omega), if_pos g.1.t2, six, c_failed g.1 g.2.1, zC1_s, y_out]
        · have h95 : yrX v (i : Int) u m = zX zP 158 v 95 [some (.inr (.inr (some 2))), some (.inr (.inr (some 5))), some (.inr (.inr (some 41))), some (.inl (i : Int)), u] [] m := by
            have h30 := hA.2.2.1
            rw [h75, j_X9_reads_75, if_pos a.1.1, a.2.2.1, if_pos (by omega)]
          rw [if_neg c3]
          by_cases c4 : (isBl T && decide (w = 3)) = true
          · rw [if_pos c4]
            have c4' := c4
            rw [Bool.and_eq_true] at c4'
            have hw3 : w = 3 := of_decide_eq_true c4'.2
            refine ⟨bdC m (7, T.2.1), ?_, fq_yw (bdC_fr m _), (bdC_k m _).1, (bdC_k m _).2⟩
            rw [h95, j_X9_reads_95, if_pos g.1.t2, hkw, c_bbl, zC1_s, c4'.1, if_neg nb1, if_pos a.1.1, a.2.2.2.1, if_neg (by omega), if_pos g.1.t2, sev, c_failed g.1 g.2.1, zC1_s, y_out]
          · have hbw : isBl T = true → w < 3 := fun hb => by
              have : w ≠ 3 := fun z => c4 (by rw [hb, decide_eq_true z]; rfl)
              omega
            have h124 : yrX v (i : Int) u m = zX zP 158 v 124 [some (.inr (.inr (some 2))), some (.inr (.inr (some 5))), some (.inr (.inr (some 41))), some (.inl (i : Int)), u] [] m := by
              rw [h95, j_X9_reads_95, if_pos g.1.t2, hkw, c_bbl, zC1_s]
              by_cases hb : isBl T = true
              · rw [hb, if_neg nb1, if_pos a.1.1, a.2.2.2.1, if_pos (by have := hbw hb; omega)]
              · rw [bool_f hb, if_pos yb0]
            rw [if_neg c4]
            have ys := c_ystep (v := 0) g hR a hA c3 hst hbw
            cases e1 : rStp L f n T with
            | inl e =>
              rw [e1] at ys
              obtain ⟨m1, z1, z2, z3⟩ := ys
              refine ⟨m1, ?_, z2, z3⟩
              rw [h124, j_X9_reads_124, z1, zC1_s, y_out]
            | inr q =>
              rw [e1] at ys
              obtain ⟨m1, z1, z2, z3, z4, z5, z6⟩ := ys
              obtain ⟨p1, p2⟩ := pg_stp (L := L) hR q e1
              have hbk : blkS q.2 = isBl T := (rStp_g hst e1).2
              obtain ⟨s1, s2⟩ := y_sem (v := v) z3 p1 i (by omega)
              have h132 : yrX v (i : Int) u m = zX zP 158 v 132 [some (.inr (.inr (some 2))), some (.inr (.inr (some 5))), some (.inr (.inr (some 41))), some (.inl (i : Int)), some (.inl 1)] [] m1 := by
                rw [h124, j_X9_reads_124, z1, zC1_s]
              show SqC v m f n L w i u T (match rSem f n q.1 with
                | .inl e => .inl e
                | .inr q2 => if isBl T = true then (match rSq L f n k (w + 1) q2.1 (pushA A q.2 (-7)) with
                    | .inl e => .inl e
                    | .inr q3 => match rSem f n (nxT f n q3.1) with
                      | .inl e => .inl e
                      | .inr q4 => rSq L f n k w q4.1 (closeA q3.2 A.1.length (nst A)))
                  else rSq L f n k w q2.1 (pushA A q.2 ((nst A + 1 : Nat) : Int)))
              cases e2 : rSem f n q.1 with
              | inl e =>
                obtain ⟨m2, b1, b2, b3⟩ := s1 e e2
                exact ⟨m2, h132.trans b1, z2.tr (fq_yw b2), b3⟩
              | inr q2 =>
                obtain ⟨m2, b1, b2, g2⟩ := s2 q2 e2
                obtain ⟨r1, r2⟩ := pg_sem p1 q2 e2
                show SqC v m f n L w i u T (if isBl T = true then (match rSq L f n k (w + 1) q2.1 (pushA A q.2 (-7)) with
                    | .inl e => .inl e
                    | .inr q3 => match rSem f n (nxT f n q3.1) with
                      | .inl e => .inl e
                      | .inr q4 => rSq L f n k w q4.1 (closeA q3.2 A.1.length (nst A)))
                  else rSq L f n k w q2.1 (pushA A q.2 ((nst A + 1 : Nat) : Int)))
                by_cases hb : isBl T = true
                · rw [if_pos hb]
                  have hw3 := hbw hb
                  have a2 := (z5 (-7)).tk b2
                  rw [hbk, if_pos hb] at a2
                  have o2 : zi m2 44 w = (A.1.length : Int) := by
                    rw [b2.i (by unfold tkP; omega)]; exact z6 (hbk.trans hb)
                  have hA2 : WfA (pushA A q.2 (-7)) (w + 1) := hA.push c3 q.2 (-7) 1 (by decide)
                  have ih := c_yseq k (w + 1) q2.1 (pushA A q.2 (-7)) (i + 1) (some (.inl 1)) m2 r1 (by omega) (by omega) hn g2 a2 hA2 (by omega)
                  have f2 : Fr (yw w) m m2 := z2.tr (tk_yw b2)
                  have fl2 : FlC m m2 := z4.tr (tk_fl b2)
                  cases e3 : rSq L f n k (w + 1) q2.1 (pushA A q.2 (-7)) with
                  | inl e =>
                    rw [e3] at ih
                    obtain ⟨m3, y1, y2, y3⟩ := ih
                    exact ⟨m3, (h132.trans b1).trans y1, f2.tr (yw_mono y2 (Nat.le_succ w)), y3⟩
                  | inr q3 =>
                    rw [e3] at ih
                    obtain ⟨m3, i3, u3, y1, y2, y3, y4, y5, y6, y7, y8, y9⟩ := ih
                    rw [if_neg (Nat.succ_ne_zero w)] at y9
                    obtain ⟨j1, j2, _⟩ := rSq_ok k (w + 1) q2.1 (pushA A q.2 (-7)) q3 hA2 e3
                    have o3 : zi m3 44 w = (A.1.length : Int) := by
                      rw [y2.i (by unfold yw; omega)]; exact o2
                    have bl : A.1.length < q3.2.1.length := by
                      have := j2.1
                      have := (push_len A q.2 (-7)).1
                      omega
                    have h3n : q3.1.2.1 ≤ n := Nat.le_trans y8.1 y8.2.1
                    obtain ⟨m4, h1, h2, h3⟩ := c_adv (v := 0) y3.1 y3.2.1 y8
                    have g4 := y3.tk h2 h3
                    have a4 := y4.tk h2
                    have o4 : zi m4 44 w = (A.1.length : Int) := by
                      rw [h2.i (by unfold tkP; omega)]; exact o3
                    obtain ⟨m5, n1, n2, n3⟩ := y_end (v := 0) a4 j1 hw3 (nst A) o4 bl
                    have hP : ∀ b j : Nat, (fun (b _ : Nat) => 41 ≤ b ∧ b < 44) b j → 41 ≤ b ∧ b < 45 := fun b j z => by
                      have z' : 41 ≤ b ∧ b < 44 := z
                      omega
                    have g5 := g4.yr n2 hP
                    have hR4 : TkR n (nxT f n q3.1) := nxT_R y8
                    obtain ⟨t1, t2⟩ := y_sem (v := v) g5 hR4 i3 (by omega)
                    have h27 : yrX v (i3 : Int) u3 m3 = zX zP 158 v 132 [some (.inr (.inr (some 2))), some (.inr (.inr (some 5))), some (.inr (.inr (some 41))), some (.inl (i3 : Int)), some (.inl 1)] [] m5 := by
                      have k22 : zF zP 114 0 [(.inr (.inr (some 2))), .inl 22] m3 = some (some (.inl (b01 (isK q3.1 22))), m3) := c_isKeyword (v := 0) y3.1 y3.2.1 (k := 22) (by decide)
                      have h27' : zX zP 158 v 27 [some (.inr (.inr (some 2))), some (.inr (.inr (some 5))), some (.inr (.inr (some 41))), some (.inl (i3 : Int)), u3] [] m3 = zX zP 158 v 132 [some (.inr (.inr (some 2))), some (.inr (.inr (some 5))), some (.inr (.inr (some 41))), some (.inl (i3 : Int)), some (.inl 1)] [] m5 := by
                        rw [j_X9_reads_27, if_pos y3.1.t2, k22, zC1_s, y9, if_neg nb1, if_pos y4.1.1, y4.2.2.2.1, if_pos (by omega), if_pos y3.1.t2, h1, zC0_s, if_pos a4.1.1, n1, zC1_s]
                      show zX zP 158 v 6 _ [] m3 = _
                      rw [j_X9_reads_6, if_neg (by omega), if_pos y3.1.t2, y_isEnded y3, zC1_s]
                      by_cases c : q3.1.1 = 0
                      · rw [decide_eq_true c, if_neg nb1, if_pos y4.1.1, y4.2.2.2.1, if_neg (by omega)]
                        exact h27'
                      · rw [decide_eq_false c, if_pos yb0]
                        exact h27'
                    have f5 : Fr (yw w) m m5 := ((f2.tr (yw_mono y2 (Nat.le_succ w))).tr (tk_yw h2)).tr (n2.mono (fun b j z => by
                      have z' : 41 ≤ b ∧ b < 44 := z
                      exact Or.inr (Or.inl z')))
                    have fl5 : FlC m m5 := ((fl2.tr y7).tr (tk_fl h2)).tr ⟨n2.i (by omega), n2.i (by omega)⟩
                    have hx5 := ((h132.trans b1).trans y1).trans h27
                    show SqC v m f n L w i u T (match rSem f n (nxT f n q3.1) with
                      | .inl e => .inl e
                      | .inr q4 => rSq L f n k w q4.1 (closeA q3.2 A.1.length (nst A)))
                    cases e4 : rSem f n (nxT f n q3.1) with
                    | inl e =>
                      obtain ⟨m6, d1, d2, d3⟩ := t1 e e4
                      exact ⟨m6, hx5.trans d1, f5.tr (fq_yw d2), d3⟩
                    | inr q4 =>
                      obtain ⟨m6, d1, d2, g6⟩ := t2 q4 e4
                      obtain ⟨r3, r4⟩ := pg_sem hR4 q4 e4
                      have hnx := nxT_from (f := f) y8
                      have hq3 := y8.1
                      exact SqC.pre (hx5.trans d1) (f5.tr (tk_yw d2)) (fl5.tr (tk_fl d2)) (by omega) (c_yseq k w q4.1 (closeA q3.2 A.1.length (nst A)) (i3 + 1) (some (.inl 1)) m6 r3 (by omega) (by omega) hn g6 (n3.tk d2) (j1.close A.1.length (nst A)) hw)
                · rw [if_neg hb]
                  have a2 := (z5 ((nst A + 1 : Nat) : Int)).tk b2
                  rw [hbk, if_neg hb] at a2
                  exact SqC.pre (h132.trans b1) (z2.tr (tk_yw b2)) (z4.tr (tk_fl b2)) (by omega) (c_yseq k w q2.1 (pushA A q.2 ((nst A + 1 : Nat) : Int)) (i + 1) (some (.inl 1)) m2 r1 (by omega) (by omega) hn g2 a2 (hA.push c3 q.2 _ 0 (by decide)) hw)
end YRSC4
