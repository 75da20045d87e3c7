/-! The reference's years(). -/
def yzP (b j : Nat) : Prop := b = 5 ∧ 217 ≤ j ∧ j < 489
def ycpP (b j : Nat) : Prop := b = 5 ∧ 219 ≤ j ∧ j < 489
section YRSW
variable {v : Nat} {m m' m0 : zM} {f : Nat → Nat} {n : Nat} {T : zTok} {L : zLd} {e : Nat × Nat} {A : zAc} {w : Nat} {S : zSt}
theorem BvM.yrs {y y' : zYr} (hv : BvM m 0 0 (L, y)) (h : Fr yzP m m') (hy : YvM m' 0 y') : BvM m' 0 0 (L, y') := by
  obtain ⟨⟨w1, w2, w3⟩, ⟨l1, l2, l3⟩, ⟨p1, p2, p3⟩, ⟨o1, o2⟩, _⟩ := hv
  have l2' : L.2.1.length ≤ 8 := l2
  have p2' : L.2.2.1.length ≤ 6 := p2
  refine ⟨⟨?_, w2, fun i hi => ?_⟩, ⟨?_, l2, fun i hi => ?_⟩, ⟨?_, p2, fun i hi => ⟨?_, (p3 i hi).2⟩⟩, ⟨?_, ?_⟩, hy⟩
  · rw [h.i (by unfold yzP; omega)]; exact w1
  · rw [h.l (by unfold yzP; omega)]; exact w3 i hi
  · rw [h.i (by unfold yzP; omega)]; exact l1
  · have hi' : i < L.2.1.length := hi
    exact h.mlB (by unfold yzP; omega) (by unfold yzP; omega) (by unfold yzP; omega) (fun j _ _ => by unfold yzP; omega) (l3 i hi)
  · rw [h.i (by unfold yzP; omega)]; exact p1
  · have hi' : i < L.2.2.1.length := hi
    exact h.psB (by unfold yzP; omega) (by unfold yzP; omega) (by unfold yzP; omega) (fun j _ _ => by unfold yzP; omega) (p3 i hi).1
  · rw [h.i (by unfold yzP; omega)]; exact o1
  · rw [h.i (by unfold yzP; omega)]; exact o2
theorem m_yscopy (hS : S2 m) {x1 : Int} {N : Nat} (hN : N ≤ 30) (h25 : zi m 0 25 = (N : Int)) : ∀ (d k : Nat) (m1 : zM), k + d = 9 * N → Fr ycpP m m1 → (∀ j, j < k → zi m1 5 (219 + j) = zi m 5 (2175 + j)) →
    ∃ m', zX zP 307 v 83 [some (.inr (.inr (some 0))), some (.inl x1), some (.inl (k : Int))] [] m1 = some (some (.inl (N : Int)), m') ∧ Fr ycpP m m' ∧ ∀ j, j < 9 * N → zi m' 5 (219 + j) = zi m 5 (2175 + j) := by
  intro d
  have e9 : zmul 9 (N : Int) = ((9 * N : Nat) : Int) := zmul_nat (n := 9) (by omega)
  induction d with
  | zero =>
    intro k m1 hk hF hz
    have hS1 := hF.s2 hS
    have h25' : zi m1 0 25 = (N : Int) := by rw [hF.i (by unfold ycpP; omega)]; exact h25
    refine ⟨m1, ?_, hF, fun j hj => hz j (by omega)⟩
    rw [j_X11_years_83, if_pos hS1.1, h25', e9, if_neg (by omega), j_X11_years_120, if_pos hS1.1, h25']
  | succ d ih =>
    intro k m1 hk hF hz
    have hS1 := hF.s2 hS
    have h25' : zi m1 0 25 = (N : Int) := by rw [hF.i (by unfold ycpP; omega)]; exact h25
    have r5 : zr m1 0 20 = some 5 := hS1.2.1.2.1.1
    have ea : zadd 2175 (k : Int) = ((2175 + k : Nat) : Int) := zadd_nat (n := 2175) (by omega)
    have eb : zadd 219 (k : Int) = ((219 + k : Nat) : Int) := zadd_nat (n := 219) (by omega)
    have er : zi m1 5 (2175 + k) = zi m 5 (2175 + k) := hF.i (by unfold ycpP; omega)
    obtain ⟨m', f1, f2, f3⟩ := ih (k + 1) (zwi m1 5 (219 + k) (zi m 5 (2175 + k))) (by omega) (hF.tr (Fr.wi _ _ (by unfold ycpP; omega))) (fun j hj => by
      by_cases z : j = k
      · subst z; exact zi_wi_s _ _ _ _
      · rw [zi_wi_n _ _ (Or.inr (by omega))]; exact hz j (by omega))
    refine ⟨m', ?_, f2, f3⟩
    rw [j_X11_years_83, if_pos hS1.1, h25', e9, if_pos (by omega), if_pos hS1.1, r5, obind, if_pos hS1.1, obind, ea, eb, if_pos (A5 hS1 (by omega) (by omega)), if_pos (A5 hS1 (by omega) (by omega)), Int.toNat_natCast, Int.toNat_natCast, er, zadd1 (by omega)]
    exact f1
theorem ym_rr (h : Fr ymP m m') : Fr rrP m m' := h.mono (fun b j q => by unfold ymP at q; unfold rrP scr; omega)
theorem w_years (hR : R2 S m) (x : Int) : Ex2 (zF zP 307 v [(.inr (.inr (some 0))), .inl x] m) (o_years S x) := by
  have h0 := hR.pre
  unfold o_years
  rw [f_X11_years, if_pos hR.1.1, zT_wi, if_pos hR.1.1, zT_wi, zT_wi, if_pos hR.1.1]
  generalize zwi (zwi m 0 1 0) 0 0 0 = m0 at h0 ⊢
  have t9 : (gTp S).length ≤ 900 := h0.2.2.2.1.1
  by_cases c : 0 ≤ x ∧ x ≤ ((gTp S).length : Int) ∧ x ≤ 300
  · obtain ⟨n, rfl⟩ := Int.eq_ofNat_of_zero_le c.1
    obtain ⟨m1, a1, a2, a3, a4⟩ := m_starts2 (v := 0) h0 (n := n) (mo := 300) (by omega) (by omega)
    have hB1 : BvM m1 0 0 (gBl S) := a2.bvM (fun j _ hj => by unfold rrP scr; omega) (fun j _ hj => by unfold rrP scr; omega) h0.2.2.2.2.1
    have N1 : NmV m1 0 (gL S) := BvM.nm (b := 0) hB1
    have g2 := a4.s25 0
    have hw : Fr ymP m1 (zwi m1 0 25 0) := Fr.wi m1 _ (by unfold ymP; omega)
    have ay : AyM (zwi m1 0 25 0) ([], [], []) := ⟨zi_wi_s _ _ _ _, fun k hk => absurd hk (Nat.not_lt_zero k)⟩
    have hH : HSpec (slF S n) n 0 (fun mm => zX zP 307 v 29 [some (.inr (.inr (some 0))), some (.inl (n : Int)), none] [] mm) (fun mm => zX zP 307 v 51 [some (.inr (.inr (some 0))), some (.inl (n : Int)), none] [] mm) := by
      refine ⟨fun mm e b => ?_, fun mm TT gg he => ?_, fun mm TT gg he => ?_⟩
      · show zX zP 307 v 29 _ [] mm = _
        rw [j_X11_years_29, if_pos b.1.t, if_neg b.np.2]
      · have he' : TT.1 = 0 := of_decide_eq_true (show decide (TT.1 = 0) = true from he)
        show zX zP 307 v 29 _ [] mm = _
        rw [j_X11_years_29, if_pos gg.1.t, gg.2.2.2, if_pos rfl, if_pos gg.1.t, gg.2.1.1, if_pos (kdM_0.mpr he')]
      · have he' : ¬ TT.1 = 0 := fun z => he (show decide (TT.1 = 0) = true from decide_eq_true z)
        show zX zP 307 v 29 _ [] mm = zC0 (zF zP 306 6 [(.inr (.inr (some 0))), .inl 0] mm) _
        rw [j_X11_years_29, if_pos gg.1.t, gg.2.2.2, if_pos rfl, if_pos gg.1.t, gg.2.1.1, if_neg (fun z => he' (kdM_0.mp z)), if_pos gg.1.t]
    have hq := m_yseq 301 0 _ _ (tokAt (slF S n) n 0) ([], [], []) (zwi m1 0 25 0) hH tok0_R (by omega) g2 (N1.ym hw) ay WfA0 (by decide)
    have hF2 : Fr rrP m0 (zwi m1 0 25 0) := a2.tr (ym_rr hw)
    have e8 : zi (zwi m1 0 25 0) 0 8 = 0 := by rw [zi_wi_n _ _ (Or.inr (by decide))]; exact a3
    have hcond : (decide (0 ≤ (n : Int)) && (decide ((n : Int) ≤ ((gTp S).length : Int)) && decide ((n : Int) ≤ 300))) = true := by rw [decide_eq_true c.1, decide_eq_true c.2.1, decide_eq_true c.2.2]; rfl
    rw [if_pos hcond, Int.toNat_natCast, a1, zC1_s, if_neg (by decide), j_X11_years_24, if_pos a4.1.t]
    show Ex2 _ (oYrs S (rYrs S n))
    cases e1 : rYrs S n with
    | inl e =>
      have e1' : rSq (gL S) (slF S n) n 301 0 (tokAt (slF S n) n 0) ([], [], []) = .inl e := e1
      rw [e1'] at hq
      obtain ⟨m4, y1, y2, y3⟩ := hq
      have y1' : zX zP 307 v 29 [some (.inr (.inr (some 0))), some (.inl (n : Int)), none] [] (zwi m1 0 25 0) = zX zP 307 v 51 [some (.inr (.inr (some 0))), some (.inl (n : Int)), none] [] m4 := y1
      have hF4 : Fr rrP m0 (zwi (zwi m4 0 10 (e.1 : Int)) 0 11 (e.2 : Int)) := ((hF2.tr (ym_rr y2)).tr (Fr.wi _ _ (by unfold rrP scr; omega))).tr (Fr.wi _ _ (by unfold rrP scr; omega))
      have e8' : zi (zwi (zwi m4 0 10 (e.1 : Int)) 0 11 (e.2 : Int)) 0 8 = 0 := by
        rw [zi_wi_n _ _ (Or.inr (by decide)), zi_wi_n _ _ (Or.inr (by decide)), y2.i (by unfold ymP; omega)]; exact e8
      have hR4 := h0.read hF4 e8' (k := (e.1 : Int)) (p := (e.2 : Int)) (by rw [zi_wi_n _ _ (Or.inr (by decide)), zi_wi_s]) (zi_wi_s _ _ _ _)
      rw [y1', j_X11_years_51, if_pos y3.1.t, m_isWellB y3, zC1_s, if_pos rfl]
      exact ⟨_, rfl, hR4.st⟩
    | inr q =>
      have e1' : rSq (gL S) (slF S n) n 301 0 (tokAt (slF S n) n 0) ([], [], []) = .inr q := e1
      rw [e1'] at hq
      obtain ⟨m4, y1, y2, y3, y4, y5, y6, y7⟩ := hq
      obtain ⟨w1, w2, w3, w4⟩ := (rYrs_wf e1).1
      have y1' : zX zP 307 v 29 [some (.inr (.inr (some 0))), some (.inl (n : Int)), none] [] (zwi m1 0 25 0) = zX zP 307 v 51 [some (.inr (.inr (some 0))), some (.inl (n : Int)), none] [] m4 := y1
      have hF4 : Fr rrP m0 (zwi (zwi m4 0 10 0) 0 11 (-1)) := ((hF2.tr (ym_rr y2)).tr (Fr.wi _ _ (by unfold rrP scr; omega))).tr (Fr.wi _ _ (by unfold rrP scr; omega))
      have e8' : zi (zwi (zwi m4 0 10 0) 0 11 (-1)) 0 8 = 0 := by
        rw [zi_wi_n _ _ (Or.inr (by decide)), zi_wi_n _ _ (Or.inr (by decide)), y2.i (by unfold ymP; omega)]; exact e8
      have hR4 := h0.read hF4 e8' (k := 0) (p := -1) (by rw [zi_wi_n _ _ (Or.inr (by decide)), zi_wi_s]) (zi_wi_s _ _ _ _)
      have k25 : zi (zwi (zwi m4 0 10 0) 0 11 (-1)) 0 25 = (nst q.2 : Int) := by
        rw [zi_wi_n _ _ (Or.inr (by decide)), zi_wi_n _ _ (Or.inr (by decide))]; exact y4.1
      have kc : ∀ k, k < q.2.2.2.length → q.2.2.2.getD k 0 = -7 ∨ zi (zwi (zwi m4 0 10 0) 0 11 (-1)) 5 (2175 + k) = q.2.2.2.getD k 0 := fun k hk => by
        rw [zi_wi_n _ _ (Or.inl (by decide)), zi_wi_n _ _ (Or.inl (by decide))]; exact y4.2 k hk
      rw [y1', j_X11_years_51, if_pos y3.1.t, m_isWellG y3, zC1_s, if_neg (by decide)]
      generalize zwi (zwi m4 0 10 0) 0 11 (-1) = m5 at hF4 e8' hR4 k25 kc ⊢
      have r5 : zr m5 0 20 = some 5 := hR4.1.2.1.2.1.1
      have fy : Fr yzP m5 (zwi (zwi m5 5 217 1) 5 218 (nst q.2 : Int)) := (Fr.wi m5 _ (by unfold yzP; omega)).tr (Fr.wi _ _ (by unfold yzP; omega))
      have hS6 : S2 (zwi (zwi m5 5 217 1) 5 218 (nst q.2 : Int)) := fy.s2 hR4.1
      have st : zX zP 307 v 60 [some (.inr (.inr (some 0))), some (.inl (n : Int)), none] [] m5 = zX zP 307 v 83 [some (.inr (.inr (some 0))), some (.inl (n : Int)), some (.inl ((0 : Nat) : Int))] [] (zwi (zwi m5 5 217 1) 5 218 (nst q.2 : Int)) := by
        rw [j_X11_years_60, if_pos hR4.1.1, r5, obind, if_pos (A5 hR4.1 (by omega) (by omega)), zT_wi, if_pos hR4.1.1]
        show (zr m5 0 20).bind _ = _
        rw [r5, obind, if_pos hR4.1.1, zi_wi_n _ _ (Or.inl (by decide)), k25]
        have hA : zA (zwi m5 5 (Int.toNat 217) 1) 5 9 218 = true := A5 hR4.1 (by omega) (by omega)
        rw [if_pos hA]; rfl
      have h25 : zi (zwi (zwi m5 5 217 1) 5 218 (nst q.2 : Int)) 0 25 = (nst q.2 : Int) := by
        rw [zi_wi_n _ _ (Or.inl (by decide)), zi_wi_n _ _ (Or.inl (by decide))]; exact k25
      obtain ⟨m7, z1, z2, z3⟩ := m_yscopy (v := v) hS6 (x1 := (n : Int)) w3 h25 (9 * nst q.2) 0 _ (by omega) (Fr.rf _ _) (fun j hj => absurd hj (Nat.not_lt_zero j))
      have f7 : Fr yzP m5 m7 := fy.tr (z2.mono (fun b j z => by unfold ycpP at z; unfold yzP; omega))
      have hY : YvM m7 0 (some q.2) := by
        refine ⟨?_, fun t ht => ?_⟩
        · show zi m7 5 217 = 1
          rw [z2.i (by unfold ycpP; omega), zi_wi_n _ _ (Or.inr (by decide)), zi_wi_s]
        · have ht' : q.2 = t := Option.some.inj ht
          rw [← ht']
          refine ⟨?_, by omega, fun k hk => ?_⟩
          · show zi m7 5 218 = ((q.2.2.2.length / 9 : Nat) : Int)
            rw [z2.i (by unfold ycpP; omega), zi_wi_s]; rfl
          · show q.2.2.2.getD k 0 = -7 ∨ zi m7 5 (219 + k) = q.2.2.2.getD k 0
            rw [z3 k (by omega), zi_wi_n _ _ (Or.inr (by omega)), zi_wi_n _ _ (Or.inr (by omega))]
            exact kc k hk
      have hB5 : BvM m5 0 0 (gL S, (gBl S).2) := hR4.2.2.2.2.1
      have hR7 := hR4.blkAll (B := (gL S, some q.2)) (f7.mono (fun b j z => by unfold yzP at z; unfold cpP; omega)) (hB5.yrs f7 hY)
      rw [st, z1]
      exact ⟨m7, rfl, hR7⟩
  · have hx : x < 0 ∨ ((gTp S).length : Int) < x ∨ 300 < x := by omega
    have hcond : ¬ (decide (0 ≤ x) && (decide (x ≤ ((gTp S).length : Int)) && decide (x ≤ 300))) = true := fun w => by
      rw [Bool.and_eq_true, Bool.and_eq_true] at w
      exact c ⟨of_decide_eq_true w.1, of_decide_eq_true w.2.1, of_decide_eq_true w.2.2⟩
    rw [if_neg hcond, m_starts2_no h0 hx, zC1_s, if_pos rfl]
    exact x2_no h0
end YRSW
