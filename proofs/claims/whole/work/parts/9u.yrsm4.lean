/-! The reference reads all STEPS. -/
section YRSM4
variable {v : Nat} {m m' m0 : zM} {f : Nat → Nat} {n : Nat} {T : zTok} {L : zLd} {e : Nat × Nat} {A : zAc} {w : Nat} {S : zSt}
theorem AyM.fill {x : zSp} {e : Int} {w : Nat} (hA : WfA A w) (a : AyM m (pushA A x (-7))) : AyM (zwi m 5 (2175 + 9 * nst A + 8) e) (pushA A x e) := by
  have hl := hA.2.1
  refine ⟨?_, fun k hk => ?_⟩
  · rw [zi_wi_n _ _ (Or.inl (by decide)), a.1, push_nst, push_nst]
  · have p1 := (push_len A x e).2.2
    have p2 := (push_len A x (-7)).2.2
    rw [p1] at hk
    show (A.2.2 ++ c9 x.2 e).getD k 0 = -7 ∨ zi _ 5 (2175 + k) = (A.2.2 ++ c9 x.2 e).getD k 0
    by_cases h8 : k = 9 * nst A + 8
    · subst h8
      refine Or.inr ?_
      rw [show 2175 + (9 * nst A + 8) = 2175 + 9 * nst A + 8 by omega, zi_wi_s, getD_appr (by omega), hl, show 9 * nst A + 8 - 9 * nst A = 8 by omega]; rfl
    · rw [zi_wi_n _ _ (Or.inr (by omega))]
      have h := a.2 k (by omega)
      have e' : (A.2.2 ++ c9 x.2 e).getD k 0 = (pushA A x (-7)).2.2.getD k 0 := by
        show _ = (A.2.2 ++ c9 x.2 (-7)).getD k 0
        by_cases hk9 : k < A.2.2.length
        · rw [getD_appl hk9, getD_appl hk9]
        · rw [getD_appr (by omega), getD_appr (by omega)]
          exact c9_0 x.2 e (-7) (by omega)
      rw [e']; exact h
theorem AyM.close {w b s : Nat} (hA : WfA A w) (hs : s < nst A) (a : AyM m A) : AyM (zwi m 5 (2175 + 9 * s + 8) (nst A : Int)) (closeA A b s) := by
  have hl := hA.2.1
  refine ⟨?_, fun k hk => ?_⟩
  · rw [zi_wi_n _ _ (Or.inl (by decide)), a.1, close_nst]
  · rw [(close_len A b s).2.2] at hk
    show (A.2.2.set (9 * s + 8) (nst A : Int)).getD k 0 = -7 ∨ zi _ 5 (2175 + k) = (A.2.2.set (9 * s + 8) (nst A : Int)).getD k 0
    rw [getD_set]
    by_cases h8 : 9 * s + 8 = k
    · subst h8
      refine Or.inr ?_
      rw [if_pos ⟨rfl, hk⟩, show 2175 + (9 * s + 8) = 2175 + 9 * s + 8 by omega, zi_wi_s]
    · rw [if_neg (fun z => h8 z.1), zi_wi_n _ _ (Or.inr (by omega))]
      exact a.2 k hk
theorem SqM.pre {H F : zM → Option zO} {m1 : zM} {T1 : zTok} {r : zRd zAc} (h : H m = H m1) (hf : Fr ymP m m1) (hT : T.2.1 ≤ T1.2.1) (hs : SqM m1 f n H F w T1 r) : SqM m f n H F w T r := by
  cases r with
  | inl e =>
    obtain ⟨m', z1, z2, z3⟩ := hs
    exact ⟨m', h.trans z1, hf.tr z2, z3⟩
  | inr q =>
    obtain ⟨m', z1, z2, z3, z4, z5, z6, z7⟩ := hs
    exact ⟨m', h.trans z1, hf.tr z2, z3, z4, z5, Nat.le_trans hT z6, z7⟩
theorem m_191 (g : GdM m f n T) {x1 x2 x3 : Int} {p : Nat} (hp : 2175 ≤ p) (hp2 : p + 8 < 2445) {N : Nat} (h25 : zi m 0 25 = (N : Int)) : zX zP 306 v 191 [some (.inr (.inr (some 0))), some (.inl x1), some (.inl x2), some (.inl x3), some (.inl (p : Int))] [] m = some (none, zwi m 5 (p + 8) (N : Int)) := by
  have e8 : zadd (p : Int) 8 = ((p + 8 : Nat) : Int) := zadd_nat (k := 8) (by omega)
  rw [j_X11_readStep_191, if_pos g.1.t, g.1.1.2.1.2.1.1, obind, if_pos g.1.t, e8, if_pos (A5 g.1.1 (by omega) (by omega)), Int.toNat_natCast, h25]
theorem m_yseq : ∀ (k w : Nat) (H F : zM → Option zO) (T : zTok) (A : zAc) (m : zM), HSpec f n w H F → TkR n T → n < T.2.1 + k → GdM m f n T → NmV m 0 L → AyM m A → WfA A w → w ≤ 3 → SqM m f n H F w T (rSq L f n k w T A)
  | 0, w, H, F, T, A, m, hH, hR, hk, g, hN, a, hA, hw => by
    have h1 := hR.1
    have h2 := hR.2.1
    omega
  | k + 1, w, H, F, T, A, m, hH, hR, hk, g, hN, a, hA, hw => by
    have hTn : T.2.1 ≤ n := Nat.le_trans hR.1 hR.2.1
    unfold rSq
    by_cases c1 : (if w = 0 then decide (T.1 = 0) else isK T 22) = true
    · rw [if_pos c1]
      exact ⟨m, hH.2.1 m T g c1, Fr.rf _ _, g, a, hR, Nat.le_refl _, c1⟩
    · rw [if_neg c1]
      have hst := hH.2.2 m T g c1
      obtain ⟨o1, o2, o3, o4⟩ := m_open (v := 5 - w) g hR hN a hA
      have fail : ∀ (m1 : zM) (e : Nat × Nat), zF zP 306 ((5 - w) + 1) [(.inr (.inr (some 0))), .inl (w : Int)] m = some (none, m1) → Fr ymP m m1 → BdM m1 f n e → ∃ m', H m = F m' ∧ Fr ymP m m' ∧ BdM m' f n e := fun m1 e h1 h2 h3 => ⟨m1, by rw [hst, h1, zC0_s, hH.1 m1 e h3], h2, h3⟩
      by_cases c2 : isSt T = false
      · rw [if_pos c2]
        exact fail _ _ (o1 c2) (fl_ym (bdM_fr m _)) (g.bd (kMis_pos T))
      · have hs : isSt T = true := by cases z : isSt T; exact absurd z c2; rfl
        rw [if_neg c2]
        by_cases c3 : nst A = 30
        · rw [if_pos c3]
          exact fail _ _ (o2 hs c3) (fl_ym (bdM_fr m _)) (g.bd (e := (6, T.2.1)) (Nat.succ_pos 5))
        · rw [if_neg c3]
          by_cases c4 : (isBl T && decide (w = 3)) = true
          · rw [if_pos c4]
            rw [Bool.and_eq_true] at c4
            exact fail _ _ (o3 hs c3 c4.1 (of_decide_eq_true c4.2)) (fl_ym (bdM_fr m _)) (g.bd (e := (7, T.2.1)) (Nat.succ_pos 6))
          · rw [if_neg c4]
            have hbw : isBl T = true → w ≠ 3 := fun hb z => c4 (by rw [hb, decide_eq_true z]; rfl)
            obtain ⟨p1, p2⟩ := o4 hs c3 hbw
            have hn30 := hA.2.2.1
            cases e1 : rStp L f n T with
            | inl e =>
              obtain ⟨m1, z1, z2, z3⟩ := p1 e e1
              exact fail m1 e z1 z2 z3
            | inr q =>
              obtain ⟨s1, s2⟩ := p2 q e1
              obtain ⟨pg1, pg2⟩ := pg_stp (L := L) hR q e1
              show SqM m f n H F w T (match rSem f n q.1 with
                | .inl e => .inl e
                | .inr q2 => if isBl T = true then (match rSq L f n k (w + 1) q2.1 (pushA A q.2 (-7)) with
                    | .inl e => .inl e
                    | .inr q3 => match rSem f n (nxT f n q3.1) with
                      | .inl e => .inl e
                      | .inr q4 => rSq L f n k w q4.1 (closeA q3.2 A.1.length (nst A)))
                  else rSq L f n k w q2.1 (pushA A q.2 ((nst A + 1 : Nat) : Int)))
              cases e2 : rSem f n q.1 with
              | inl e =>
                obtain ⟨m1, z1, z2, z3⟩ := s1 e e2
                exact fail m1 e z1 z2 z3
              | inr q2 =>
                obtain ⟨m4, z1, z2, z3, z4⟩ := s2 q2 e2
                obtain ⟨r1, r2⟩ := pg_sem pg1 q2 e2
                have N4 := hN.ym z2
                show SqM m f n H F w T (if isBl T = true then (match rSq L f n k (w + 1) q2.1 (pushA A q.2 (-7)) with
                    | .inl e => .inl e
                    | .inr q3 => match rSem f n (nxT f n q3.1) with
                      | .inl e => .inl e
                      | .inr q4 => rSq L f n k w q4.1 (closeA q3.2 A.1.length (nst A)))
                  else rSq L f n k w q2.1 (pushA A q.2 ((nst A + 1 : Nat) : Int)))
                by_cases hb : isBl T = true
                · rw [if_pos hb]
                  have hw3 : w < 3 := by have := hbw hb; omega
                  have hA2 : WfA (pushA A q.2 (-7)) (w + 1) := hA.push c3 q.2 (-7) 1 (by decide)
                  rw [hb] at z1
                  have hfu : 5 - w = (5 - (w + 1)) + 1 := by omega
                  -- the block's own head
                  have hH' : HSpec f n (w + 1) (fun mm => zX zP 306 ((5 - w) + 1) 141 [some (.inr (.inr (some 0))), some (.inl (w : Int)), some (.inl (stW T)), some (.inl (b01 true)), some (.inl ((2175 + 9 * nst A : Nat) : Int))] [] mm) (fun mm => zX zP 306 ((5 - w) + 1) 169 [some (.inr (.inr (some 0))), some (.inl (w : Int)), some (.inl (stW T)), some (.inl (b01 true)), some (.inl ((2175 + 9 * nst A : Nat) : Int))] [] mm) := by
                    refine ⟨fun mm e b => ?_, fun mm TT gg he => ?_, fun mm TT gg he => ?_⟩
                    · show zX zP 306 ((5 - w) + 1) 141 _ [] mm = _
                      rw [j_X11_readStep_141, if_neg nb1, if_pos b.1.t, if_neg b.np.2]
                    · have he' : isK TT 22 = true := by unfold yEnd at he; rw [if_neg (Nat.succ_ne_zero w)] at he; exact he
                      show zX zP 306 ((5 - w) + 1) 141 _ [] mm = _
                      rw [j_X11_readStep_141, if_neg nb1, if_pos gg.1.t, gg.2.2.2, if_pos rfl, if_pos gg.1.t, m_isEnd gg, zC1_s, he', if_neg nb1]
                    · have he' : ¬ isK TT 22 = true := fun z => he (by unfold yEnd; rw [if_neg (Nat.succ_ne_zero w)]; exact z)
                      show zX zP 306 ((5 - w) + 1) 141 _ [] mm = _
                      rw [j_X11_readStep_141, if_neg nb1, if_pos gg.1.t, gg.2.2.2, if_pos rfl, if_pos gg.1.t, m_isEnd gg, zC1_s, bool_f he', if_pos yb0, if_pos gg.1.t, zadd1 (by omega), ← hfu]
                  have ih := m_yseq k (w + 1) _ _ q2.1 (pushA A q.2 (-7)) m4 hH' r1 (by omega) z3 N4 z4 hA2 (by omega)
                  cases e3 : rSq L f n k (w + 1) q2.1 (pushA A q.2 (-7)) with
                  | inl e =>
                    rw [e3] at ih
                    obtain ⟨m5, y1, y2, y3⟩ := ih
                    obtain ⟨m6, x1, x2, x3⟩ := m_tailB (v := (5 - w) + 1) y3 (x1 := (w : Int)) (x2 := stW T) (x3 := b01 true) (p := 2175 + 9 * nst A) (by omega) (by omega)
                    exact fail m6 e (z1.trans (y1.trans x1)) ((z2.tr y2).tr x2) x3
                  | inr q3 =>
                    rw [e3] at ih
                    obtain ⟨m5, y1, y2, y3, y4, y5, y6, y7⟩ := ih
                    obtain ⟨j1, j2, _⟩ := rSq_ok k (w + 1) q2.1 (pushA A q.2 (-7)) q3 hA2 e3
                    have y7' : isK q3.1 22 = true := by unfold yEnd at y7; rw [if_neg (Nat.succ_ne_zero w)] at y7; exact y7
                    obtain ⟨m6, d1, d2, g6⟩ := m_mustT (v := 0) y3 y5
                    have d1' : zF zP 280 0 [(.inr (.inr (some 0))), .inl (b01 (isK q3.1 22))] m5 = some (none, m6) := by rw [y7']; exact d1
                    have hsg : zF zP 260 0 [(.inr (.inr (some 0))), .inl 59] m6 = some (some (.inl (b01 (isS (nxT f n q3.1) 59))), m6) := m_isSign g6 59
                    have a6 := y4.tm d2
                    have hR6 : TkR n (nxT f n q3.1) := nxT_R y5
                    have hlt : nst A < nst q3.2 := by
                      have := j2.2.1
                      have := push_nst A q.2 (-7)
                      omega
                    have s169 : zX zP 306 ((5 - w) + 1) 169 [some (.inr (.inr (some 0))), some (.inl (w : Int)), some (.inl (stW T)), some (.inl (b01 true)), some (.inl ((2175 + 9 * nst A : Nat) : Int))] [] m5 = zC0 (zF zP 280 0 [(.inr (.inr (some 0))), .inl (b01 (isS (nxT f n q3.1) 59))] m6) (fun m7 => zX zP 306 ((5 - w) + 1) 191 [some (.inr (.inr (some 0))), some (.inl (w : Int)), some (.inl (stW T)), some (.inl (b01 true)), some (.inl ((2175 + 9 * nst A : Nat) : Int))] [] m7) := by
                      rw [j_X11_readStep_169, if_neg nb1, if_pos y3.1.t, m_isEnd y3, zC1_s, if_pos y3.1.t, d1', zC0_s, if_pos g6.1.t, hsg, zC1_s, if_pos g6.1.t]
                    have f6 : Fr ymP m m6 := (z2.tr y2).tr (tm_ym d2)
                    show SqM m f n H F w T (match rSem f n (nxT f n q3.1) with
                      | .inl e => .inl e
                      | .inr q4 => rSq L f n k w q4.1 (closeA q3.2 A.1.length (nst A)))
                    unfold rSem
                    by_cases cs : isS (nxT f n q3.1) 59 = true
                    · obtain ⟨m7, b1, b2, g7⟩ := m_mustT (v := 0) g6 hR6
                      have b1' : zF zP 280 0 [(.inr (.inr (some 0))), .inl (b01 (isS (nxT f n q3.1) 59))] m6 = some (none, m7) := by rw [cs]; exact b1
                      have a7 := a6.tm b2
                      have hw8 : Fr (at5 (2175 + 9 * nst A + 8)) m7 (zwi m7 5 (2175 + 9 * nst A + 8) (nst q3.2 : Int)) := Fr.wi _ _ ⟨rfl, rfl⟩
                      have x191 := m_191 (v := (5 - w) + 1) g7 (x1 := (w : Int)) (x2 := stW T) (x3 := b01 true) (p := 2175 + 9 * nst A) (by omega) (by omega) a7.1
                      have hsem : rSem f n (nxT f n q3.1) = .inr (nxT f n (nxT f n q3.1), ()) := by unfold rSem; rw [if_pos cs]
                      have r4 := (pg_sem hR6 _ hsem).2
                      have r4' : (nxT f n q3.1).2.1 < (nxT f n (nxT f n q3.1)).2.1 := r4
                      have hnx := nxT_from (f := f) y5
                      have hq3 := y5.1
                      rw [if_pos cs]
                      have hst2 : H m = H (zwi m7 5 (2175 + 9 * nst A + 8) (nst q3.2 : Int)) := by
                        rw [hst, z1.trans (y1.trans s169), b1', zC0_s, x191, zC0_s]
                      exact SqM.pre hst2 ((f6.tr (tm_ym b2)).tr (at_ym (by omega) hw8)) (by show T.2.1 ≤ (nxT f n (nxT f n q3.1)).2.1; omega) (m_yseq k w H F (nxT f n (nxT f n q3.1)) (closeA q3.2 A.1.length (nst A)) _ hH (nxT_R hR6) (by omega) (g7.wr (at_wr (by omega) hw8)) (hN.ym ((f6.tr (tm_ym b2)).tr (at_ym (by omega) hw8))) (a7.close j1 hlt) (j1.close A.1.length (nst A)) hw)
                    · have b := g6.bd (e := kMis (nxT f n q3.1)) (kMis_pos _)
                      have mf : zF zP 280 0 [(.inr (.inr (some 0))), .inl (b01 (isS (nxT f n q3.1) 59))] m6 = some (none, bdM m6 (kMis (nxT f n q3.1))) := by rw [bool_f cs]; exact m_mustF g6
                      have hw8 : Fr (at5 (2175 + 9 * nst A + 8)) (bdM m6 (kMis (nxT f n q3.1))) (zwi (bdM m6 (kMis (nxT f n q3.1))) 5 (2175 + 9 * nst A + 8) (zi (bdM m6 (kMis (nxT f n q3.1))) 0 25)) := Fr.wi _ _ ⟨rfl, rfl⟩
                      rw [if_neg cs]
                      refine fail _ _ (z1.trans (y1.trans (s169.trans ?_))) ((f6.tr (fl_ym (bdM_fr m6 _))).tr (at_ym (by omega) hw8)) (b.wr (at_wr (by omega) hw8))
                      have e8 : zadd ((2175 + 9 * nst A : Nat) : Int) 8 = ((2175 + 9 * nst A + 8 : Nat) : Int) := zadd_nat (k := 8) (by omega)
                      rw [mf, zC0_s, j_X11_readStep_191, if_pos b.1.t, b.1.1.2.1.2.1.1, obind, if_pos b.1.t, e8, if_pos (A5 b.1.1 (by omega) (by omega)), Int.toNat_natCast]
                · rw [if_neg hb]
                  rw [bool_f hb] at z1
                  have h25 : zi m4 0 25 = ((nst A + 1 : Nat) : Int) := by rw [z4.1, push_nst]
                  have x191 := m_191 (v := (5 - w) + 1) z3 (x1 := (w : Int)) (x2 := stW T) (x3 := b01 false) (p := 2175 + 9 * nst A) (by omega) (by omega) h25
                  have hw8 : Fr (at5 (2175 + 9 * nst A + 8)) m4 (zwi m4 5 (2175 + 9 * nst A + 8) ((nst A + 1 : Nat) : Int)) := Fr.wi _ _ ⟨rfl, rfl⟩
                  have f5 := z2.tr (at_ym (by omega) hw8)
                  have hst2 : H m = H (zwi m4 5 (2175 + 9 * nst A + 8) ((nst A + 1 : Nat) : Int)) := by
                    rw [hst, z1, j_X11_readStep_141, if_pos yb0, j_X11_readStep_169, if_pos yb0, x191, zC0_s]
                  exact SqM.pre hst2 f5 (by omega) (m_yseq k w H F q2.1 (pushA A q.2 ((nst A + 1 : Nat) : Int)) _ hH r1 (by omega) (z3.wr (at_wr (by omega) hw8)) (hN.ym f5) (AyM.fill hA z4) (hA.push c3 q.2 _ 0 (by decide)) hw)
end YRSM4
