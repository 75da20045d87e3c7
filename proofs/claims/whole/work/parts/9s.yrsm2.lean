/-! The reference reads YEARS: what a STEP tells. -/
section YRSM2
variable {v : Nat} {m m' m0 : zM} {f : Nat → Nat} {n : Nat} {T : zTok} {L : zLd} {e : Nat × Nat}
theorem isSt_iff : isSt T = true ↔ ¬ stW T < 0 := by
  rw [stW_lt]
  unfold isSt
  cases isK T 12 <;> cases isK T 13 <;> cases isK T 14 <;> cases isK T 15 <;> cases isK T 16 <;> cases isK T 17 <;> cases isK T 21 <;> cases isK T 23 <;> decide
theorem rTst_kind {q : zTok × zSp} (h : rTst L f n T = .inr q) : q.2.2.1 = 5 := by
  obtain ⟨h1, h2⟩ := rTst_g h
  unfold blkS at h2
  unfold rTst at h
  by_cases c1 : isK T 18 = true
  · rw [if_pos c1] at h
    cases e1 : rLin L f n (nxT f n T) with
    | inl e => rw [e1] at h; cases h
    | inr x => rw [e1] at h; have e := Sum.inr.inj h; rw [← e]
  · rw [if_neg c1] at h
    by_cases c2 : isK T 20 = true
    · rw [if_pos c2] at h
      cases e1 : rPrs L f n (nxT f n T) with
      | inl e => rw [e1] at h; cases h
      | inr x =>
        rw [e1] at h
        have h' : (match rWrd L f n x.1 with
          | .inl e => .inl e
          | .inr q2 => .inr (q2.1, ((20, x.2, q2.2, 0), (5, (x.2 : Int), (q2.2 : Int), 1, -7))) : zRd zSp) = .inr q := h
        cases e2 : rWrd L f n x.1 with
        | inl e => rw [e2] at h'; cases h'
        | inr y => rw [e2] at h'; have e := Sum.inr.inj h'; rw [← e]
    · rw [if_neg c2] at h
      by_cases c3 : isK T 19 = true
      · rw [if_pos c3] at h
        cases e1 : rPrs L f n (nxT f n T) with
        | inl e => rw [e1] at h; cases h
        | inr x =>
          rw [e1] at h
          have h' : (if isCm x.1 = true then (match rNum f n (nxT f n x.1) 0 8 with
            | .inl e => .inl e
            | .inr q2 => .inr (q2.1, ((19, x.2, x.1.2.2.2.2, q2.2), (5, (x.2 : Int), (q2.2 : Int), 2, (x.1.2.2.2.2 : Int))))) else .inl (kMis x.1) : zRd zSp) = .inr q := h
          by_cases cc : isCm x.1 = true
          · rw [if_pos cc] at h'
            cases e2 : rNum f n (nxT f n x.1) 0 8 with
            | inl e => rw [e2] at h'; cases h'
            | inr y => rw [e2] at h'; have e := Sum.inr.inj h'; rw [← e]
          · rw [if_neg cc] at h'; cases h'
      · rw [if_neg c3] at h; cases h
theorem rStp_kind {q : zTok × zSp} (hs : isSt T = true) (h : rStp L f n T = .inr q) : q.2.2.1 = stW T := by
  have num : ∀ (lo hi : Nat) (g : Nat → zSp) (k : Int), (∀ d, (g d).2.1 = k) → (match rNum f n (nxT f n T) lo hi with
      | .inl e => .inl e
      | .inr q => .inr (q.1, g q.2) : zRd zSp) = .inr q → q.2.2.1 = k := fun lo hi g k hk h => by
    cases e1 : rNum f n (nxT f n T) lo hi with
    | inl e => rw [e1] at h; cases h
    | inr x => rw [e1] at h; have e := Sum.inr.inj h; rw [← e]; exact hk _
  have lin : ∀ (g : Nat → zSp) (k : Int), (∀ d, (g d).2.1 = k) → (match rLin L f n (nxT f n T) with
      | .inl e => .inl e
      | .inr q => .inr (q.1, g q.2) : zRd zSp) = .inr q → q.2.2.1 = k := fun g k hk h => by
    cases e1 : rLin L f n (nxT f n T) with
    | inl e => rw [e1] at h; cases h
    | inr x => rw [e1] at h; have e := Sum.inr.inj h; rw [← e]; exact hk _
  unfold rStp at h
  unfold stW
  by_cases c12 : isK T 12 = true
  · rw [if_pos c12] at h ⊢
    exact num 1 20 (fun d => ((12, d, 0, 0), (0, (d : Int), -7, -7, -7))) 0 (fun _ => rfl) h
  · rw [if_neg c12] at h ⊢
    by_cases c13 : isK T 13 = true
    · rw [if_pos c13] at h ⊢
      cases e1 : rPrs L f n (nxT f n T) with
      | inl e => rw [e1] at h; cases h
      | inr x =>
        rw [e1] at h
        have h' : (match rLin L f n x.1 with
          | .inl e => .inl e
          | .inr q2 => .inr (q2.1, ((13, x.2, q2.2, 0), (1, (x.2 : Int), (q2.2 : Int), -7, -7))) : zRd zSp) = .inr q := h
        cases e2 : rLin L f n x.1 with
        | inl e => rw [e2] at h'; cases h'
        | inr y => rw [e2] at h'; have e := Sum.inr.inj h'; rw [← e]
    · rw [if_neg c13] at h ⊢
      by_cases c14 : isK T 14 = true
      · rw [if_pos c14] at h ⊢
        exact lin (fun d => ((14, d, 0, 0), (2, -7, (d : Int), -7, -7))) 2 (fun _ => rfl) h
      · rw [if_neg c14] at h ⊢
        by_cases c15 : isK T 15 = true
        · rw [if_pos c15] at h ⊢
          exact lin (fun d => ((15, d, 0, 0), (3, -7, (d : Int), -7, -7))) 3 (fun _ => rfl) h
        · rw [if_neg c15] at h ⊢
          by_cases c16 : isK T 16 = true
          · rw [if_pos c16] at h ⊢
            have e := Sum.inr.inj h; rw [← e]
          · rw [if_neg c16] at h ⊢
            by_cases c17 : isK T 17 = true
            · rw [if_pos c17] at h ⊢
              exact rTst_kind h
            · rw [if_neg c17] at h ⊢
              by_cases c21 : isK T 21 = true
              · rw [if_pos c21] at h ⊢
                exact num 1 99 (fun d => ((21, d, 0, 0), (6, (d : Int), -7, -7, -7))) 6 (fun _ => rfl) h
              · rw [if_neg c21] at h ⊢
                have c23 : isK T 23 = true := by
                  unfold isSt at hs
                  rw [bool_f c12, bool_f c13, bool_f c14, bool_f c15, bool_f c16, bool_f c17, bool_f c21] at hs
                  exact hs
                rw [if_pos c23]
                have e := Sum.inr.inj h; rw [← e]
theorem YrM.pre {m1 : zM} {c0 : Nat} {o : Option zO} {r : zRd zSp} (h : Fr tmP m0 m1) (hy : YrM m1 f n c0 o r) : YrM m0 f n c0 o r := by
  cases r with
  | inl e =>
    obtain ⟨m', z1, z2, z3⟩ := hy
    exact ⟨m', z1, (tm_ym h).tr z2, z3⟩
  | inr q =>
    obtain ⟨m', z1, z2, z3⟩ := hy
    exact ⟨m', z1, (tm_yc h).tr z2, z3⟩
/-- what stands behind a STEP's word; m stands behind that word -/
theorem m_rest (g : GdM m f n (nxT f n T)) (hR : TkR n T) (hN : NmV m 0 L) (hs : isSt T = true) {c0 : Nat} (hc : 2175 ≤ c0) (hc2 : c0 + 9 ≤ 2445) (hk : zi m 5 c0 = stW T) : YrM m f n c0 (zF zP 305 v [(.inr (.inr (some 0))), .inl (c0 : Int)] m) (rStp L f n T) := by
  have ea : ∀ k : Nat, k < 9 → zadd (c0 : Int) (k : Int) = ((c0 + k : Nat) : Int) := fun k hk => zadd_nat (by omega)
  have ea1 : zadd (c0 : Int) 1 = ((c0 + 1 : Nat) : Int) := ea 1 (by decide)
  have ea2 : zadd (c0 : Int) 2 = ((c0 + 2 : Nat) : Int) := ea 2 (by decide)
  have hR1 : TkR n (nxT f n T) := nxT_R hR
  have r5 : zr m 0 20 = some 5 := g.1.1.2.1.2.1.1
  have t := g.1.t
  -- blocks 85 and 107
  have fin : ∀ (mm : zM) (k : Int), k ≤ 0 ∨ 4 ≤ k → zX zP 305 v 85 [some (.inr (.inr (some 0))), some (.inl (c0 : Int)), some (.inl k)] [] mm = some (none, mm) := fun mm k hk => by
    rw [j_X11_readRest_85]
    by_cases h0 : 0 < k
    · rw [if_pos h0, if_neg (by omega), j_X11_readRest_107]
    · rw [if_neg h0, j_X11_readRest_107]
  have num : ∀ (lo hi : Nat) (k : Nat) (g' : Nat → zSp), k = 0 ∨ 4 ≤ k → (∀ d, (g' d).2 = ((k : Int), (d : Int), -7, -7, -7)) →
      YrM m f n c0 (zC1 (zF zP 281 0 [(.inr (.inr (some 0))), .inl (lo : Int), .inl (hi : Int)] m) (fun c m2 => if zA m2 5 9 (zadd (c0 : Int) 1) = true then zX zP 305 v 85 [some (.inr (.inr (some 0))), some (.inl (c0 : Int)), some (.inl (k : Int))] [] (zwi m2 5 (Int.toNat (zadd (c0 : Int) 1)) c) else none)) (match rNum f n (nxT f n T) lo hi with
        | .inl e => .inl e
        | .inr q => .inr (q.1, g' q.2)) := fun lo hi k g' hk hg => by
    obtain ⟨i1, i2⟩ := m_into g (m_count (v := 0) g hR1 lo hi) (p := c0 + 1) (by omega) (by omega) ea1 (fun mm => zX zP 305 v 85 [some (.inr (.inr (some 0))), some (.inl (c0 : Int)), some (.inl (k : Int))] [] mm)
    cases e1 : rNum f n (nxT f n T) lo hi with
    | inl e =>
      obtain ⟨m3, z1, z2, z3⟩ := i1 e e1
      exact ⟨m3, z1.trans (fin m3 k (by omega)), z2, z3⟩
    | inr q =>
      obtain ⟨m4, m3, z1, z2, z3, z4, z5⟩ := i2 q e1
      refine ⟨m3, z1.trans (fin m3 k (by omega)), (tm_yc z2).tr (at_yc (by omega) (by omega) z3), z4, ?_⟩
      show cellOk m3 c0 (g' q.2).2
      rw [hg]
      intro j j1 j2
      rcases j with _ | _ | _ | _ | _ | _ | _ | _ | j
      · omega
      · exact Or.inr z5
      · exact Or.inl rfl
      · exact Or.inl rfl
      · exact Or.inl rfl
      · exact Or.inl rfl
      · exact Or.inl rfl
      · exact Or.inl rfl
      · omega
  -- a LINE behind
  have lin : ∀ (k : Nat) (mm : zM) (T1 : zTok), 1 ≤ k → k < 4 → GdM mm f n T1 → TkR n T1 → NmV mm 0 L → ∀ (g' : Nat → zSp) (pv : Int), (∀ d, (g' d).2 = ((k : Int), pv, (d : Int), -7, -7)) → (pv = -7 ∨ zi mm 5 (c0 + 1) = pv) →
      YrM mm f n c0 (zX zP 305 v 85 [some (.inr (.inr (some 0))), some (.inl (c0 : Int)), some (.inl (k : Int))] [] mm) (match rLin L f n T1 with
        | .inl e => .inl e
        | .inr q => .inr (q.1, g' q.2)) := fun k mm T1 hk hk4 g1 hR2 hN1 g' pv hg hpv => by
    obtain ⟨i1, i2⟩ := m_into g1 (m_rLin (v := 0) g1 hR2 (b := 0) (by decide) hN1) (p := c0 + 2) (by omega) (by omega) ea2 (fun mm => zX zP 305 v 107 [some (.inr (.inr (some 0))), some (.inl (c0 : Int)), some (.inl (k : Int))] [] mm)
    have s : zX zP 305 v 85 [some (.inr (.inr (some 0))), some (.inl (c0 : Int)), some (.inl (k : Int))] [] mm = zC1 (zF zP 293 0 [(.inr (.inr (some 0))), .inl ((0 : Nat) : Int)] mm) (fun c m2 => if zA m2 5 9 (zadd (c0 : Int) 2) = true then zX zP 305 v 107 [some (.inr (.inr (some 0))), some (.inl (c0 : Int)), some (.inl (k : Int))] [] (zwi m2 5 (Int.toNat (zadd (c0 : Int) 2)) c) else none) := by
      rw [j_X11_readRest_85, if_pos (by omega), if_pos (by omega), if_pos g1.1.t, g1.1.1.2.1.2.1.1, obind, if_pos g1.1.t]; rfl
    cases e1 : rLin L f n T1 with
    | inl e =>
      obtain ⟨m3, z1, z2, z3⟩ := i1 e e1
      exact ⟨m3, (s.trans z1).trans (j_X11_readRest_107 _ _ _ _), z2, z3⟩
    | inr q =>
      obtain ⟨m4, m3, z1, z2, z3, z4, z5⟩ := i2 q e1
      refine ⟨m3, (s.trans z1).trans (j_X11_readRest_107 _ _ _ _), (tm_yc z2).tr (at_yc (by omega) (by omega) z3), z4, ?_⟩
      show cellOk m3 c0 (g' q.2).2
      rw [hg]
      intro j j1 j2
      rcases j with _ | _ | _ | _ | _ | _ | _ | _ | j
      · omega
      · rcases hpv with w | w
        · exact Or.inl w
        · exact Or.inr (by rw [z3.i (by unfold at5; omega), z2.i (by unfold tmP; omega)]; exact w)
      · exact Or.inr z5
      · exact Or.inl rfl
      · exact Or.inl rfl
      · exact Or.inl rfl
      · exact Or.inl rfl
      · exact Or.inl rfl
      · omega
  rw [f_X11_readRest, if_pos t, r5, obind, if_pos (A5 g.1.1 (by omega) (by omega)), Int.toNat_natCast, hk]
  unfold rStp
  by_cases c12 : isK T 12 = true
  · have hw : stW T = 0 := by unfold stW; rw [if_pos c12]
    rw [hw, if_pos rfl, if_pos t, obind, if_pos t, if_pos c12]
    exact num 1 20 0 (fun d => ((12, d, 0, 0), (0, (d : Int), -7, -7, -7))) (Or.inl rfl) (fun _ => rfl)
  · rw [if_neg c12]
    by_cases c13 : isK T 13 = true
    · have hw : stW T = 1 := by unfold stW; rw [if_neg c12, if_pos c13]
      rw [hw, if_neg (by decide), j_X11_readRest_29, if_neg (by decide), j_X11_readRest_53, if_neg (by decide), j_X11_readRest_66, if_pos rfl, if_pos t, r5, obind, if_pos t, if_pos c13]
      obtain ⟨i1, i2⟩ := m_into g (m_rPrs (v := 0) g hR1 (b := 0) (by decide) hN) (p := c0 + 1) (by omega) (by omega) ea1 (fun mm => zX zP 305 v 85 [some (.inr (.inr (some 0))), some (.inl (c0 : Int)), some (.inl 1)] [] mm)
      cases e1 : rPrs L f n (nxT f n T) with
      | inl e =>
        obtain ⟨m3, z1, z2, z3⟩ := i1 e e1
        obtain ⟨m4, y1, y2, y3⟩ := m_intoB z3 (m_rLinB (v := 0) z3 0) (p := c0 + 2) (by omega) (by omega) ea2 (fun mm => zX zP 305 v 107 [some (.inr (.inr (some 0))), some (.inl (c0 : Int)), some (.inl 1)] [] mm)
        have s : zX zP 305 v 85 [some (.inr (.inr (some 0))), some (.inl (c0 : Int)), some (.inl 1)] [] m3 = zC1 (zF zP 293 0 [(.inr (.inr (some 0))), .inl 0] m3) (fun c m2 => if zA m2 5 9 (zadd (c0 : Int) 2) = true then zX zP 305 v 107 [some (.inr (.inr (some 0))), some (.inl (c0 : Int)), some (.inl 1)] [] (zwi m2 5 (Int.toNat (zadd (c0 : Int) 2)) c) else none) := by
          rw [j_X11_readRest_85, if_pos (by decide), if_pos (by decide), if_pos z3.1.t, z3.1.1.2.1.2.1.1, obind, if_pos z3.1.t]
        exact ⟨m4, z1.trans (s.trans (y1.trans (j_X11_readRest_107 _ _ _ _))), z2.tr y2, y3⟩
      | inr q =>
        obtain ⟨m4, m3, z1, z2, z3, z4, z5⟩ := i2 q e1
        have f3 : Fr (ycP c0) m m3 := (tm_yc z2).tr (at_yc (by omega) (by omega) z3)
        have N3 := hN.ym (yc_ym f3 hc)
        have hR3 := (pg_prs hR1 q e1).1
        have w := lin 1 m3 q.1 (by decide) (by decide) z4 hR3 N3 (fun d => ((13, q.2, d, 0), (1, (q.2 : Int), (d : Int), -7, -7))) (q.2 : Int) (fun _ => rfl) (Or.inr z5)
        show YrM m f n c0 _ (match rLin L f n q.1 with
          | .inl e => .inl e
          | .inr q2 => .inr (q2.1, ((13, q.2, q2.2, 0), (1, (q.2 : Int), (q2.2 : Int), -7, -7))) : zRd zSp)
        cases e2 : rLin L f n q.1 with
        | inl e =>
          rw [e2] at w
          obtain ⟨m5, y1, y2, y3⟩ := w
          exact ⟨m5, z1.trans y1, (yc_ym f3 hc).tr y2, y3⟩
        | inr q2 =>
          rw [e2] at w
          obtain ⟨m5, y1, y2, y3⟩ := w
          exact ⟨m5, z1.trans y1, f3.tr y2, y3⟩
    · rw [if_neg c13]
      by_cases c14 : isK T 14 = true
      · have hw : stW T = 2 := by unfold stW; rw [if_neg c12, if_neg c13, if_pos c14]
        rw [hw, if_neg (by decide), j_X11_readRest_29, if_neg (by decide), j_X11_readRest_53, if_neg (by decide), j_X11_readRest_66, if_neg (by decide), if_pos c14]
        exact lin 2 m _ (by decide) (by decide) g hR1 hN (fun d => ((14, d, 0, 0), (2, -7, (d : Int), -7, -7))) (-7) (fun _ => rfl) (Or.inl rfl)
      · rw [if_neg c14]
        by_cases c15 : isK T 15 = true
        · have hw : stW T = 3 := by unfold stW; rw [if_neg c12, if_neg c13, if_neg c14, if_pos c15]
          rw [hw, if_neg (by decide), j_X11_readRest_29, if_neg (by decide), j_X11_readRest_53, if_neg (by decide), j_X11_readRest_66, if_neg (by decide), if_pos c15]
          exact lin 3 m _ (by decide) (by decide) g hR1 hN (fun d => ((15, d, 0, 0), (3, -7, (d : Int), -7, -7))) (-7) (fun _ => rfl) (Or.inl rfl)
        · rw [if_neg c15]
          have bare : ∀ (k : Int) (o : zOp), k ≤ 0 ∨ 4 ≤ k → YrM m f n c0 (zX zP 305 v 85 [some (.inr (.inr (some 0))), some (.inl (c0 : Int)), some (.inl k)] [] m) (.inr (nxT f n T, (o, (k, -7, -7, -7, -7)))) := fun k o hk => by
            refine ⟨m, fin m k hk, Fr.rf _ _, g, fun j j1 j2 => ?_⟩
            rcases j with _ | _ | _ | _ | _ | _ | _ | _ | j
            · omega
            · exact Or.inl rfl
            · exact Or.inl rfl
            · exact Or.inl rfl
            · exact Or.inl rfl
            · exact Or.inl rfl
            · exact Or.inl rfl
            · exact Or.inl rfl
            · omega
          by_cases c16 : isK T 16 = true
          · have hw : stW T = 4 := by unfold stW; rw [if_neg c12, if_neg c13, if_neg c14, if_neg c15, if_pos c16]
            rw [hw, if_neg (by decide), j_X11_readRest_29, if_neg (by decide), j_X11_readRest_53, if_neg (by decide), j_X11_readRest_66, if_neg (by decide), if_pos c16]
            exact bare 4 (16, 0, 0, 0) (Or.inr (by decide))
          · rw [if_neg c16]
            by_cases c17 : isK T 17 = true
            · have hw : stW T = 5 := by unfold stW; rw [if_neg c12, if_neg c13, if_neg c14, if_neg c15, if_neg c16, if_pos c17]
              rw [hw, if_neg (by decide), j_X11_readRest_29, if_neg (by decide), j_X11_readRest_53, if_pos rfl, if_pos t, if_pos c17]
              have w := m_test (v := 0) g hR1 hN hc hc2
              cases e1 : rTst L f n (nxT f n T) with
              | inl e =>
                rw [e1] at w
                obtain ⟨m3, z1, z2⟩ := w
                exact ⟨m3, by rw [z1, zC0_s, fin m3 5 (Or.inr (by decide))], z2⟩
              | inr q =>
                rw [e1] at w
                obtain ⟨m3, z1, z2⟩ := w
                exact ⟨m3, by rw [z1, zC0_s, fin m3 5 (Or.inr (by decide))], z2⟩
            · rw [if_neg c17]
              by_cases c21 : isK T 21 = true
              · have hw : stW T = 6 := by unfold stW; rw [if_neg c12, if_neg c13, if_neg c14, if_neg c15, if_neg c16, if_neg c17, if_pos c21]
                rw [hw, if_neg (by decide), j_X11_readRest_29, if_pos rfl, if_pos t, r5, obind, if_pos t, if_pos c21]
                exact num 1 99 6 (fun d => ((21, d, 0, 0), (6, (d : Int), -7, -7, -7))) (Or.inr (by decide)) (fun _ => rfl)
              · have c23 : isK T 23 = true := by
                  unfold isSt at hs
                  rw [bool_f c12, bool_f c13, bool_f c14, bool_f c15, bool_f c16, bool_f c17, bool_f c21] at hs
                  exact hs
                have hw : stW T = 7 := by unfold stW; rw [if_neg c12, if_neg c13, if_neg c14, if_neg c15, if_neg c16, if_neg c17, if_neg c21, if_pos c23]
                rw [hw, if_neg (by decide), j_X11_readRest_29, if_neg (by decide), j_X11_readRest_53, if_neg (by decide), j_X11_readRest_66, if_neg (by decide), if_neg c21]
                exact bare 7 (23, 0, 0, 0) (Or.inr (by decide))
end YRSM2
