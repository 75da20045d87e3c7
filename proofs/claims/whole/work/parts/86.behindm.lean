/-! NEEDS, TEXTS, CLASH of the reference. -/
section BEHINDM
variable {v : Nat} {S : zSt} {m : zM}
/-- a ROW by its number, a WORD of it -/
theorem m_codeAt (hR : R2 S m) {c : List Nat} {code i : Nat} (h5 : c.length ≤ 5) (hlt : code < (gL S).1.length ^ c.length) (hd : dgs (gL S).1.length c.length code = c) (hi : i < c.length) :
    ∃ m' : zM, zF zP 377 0 [(.inr (.inr (some 0))), .inl (code : Int), .inl (c.length : Int)] m = some (none, m') ∧ R2 S m' ∧ zA m' 8 9 (i : Int) = true ∧ zi m' 8 i = ((c.getD i 0 : Nat) : Int) := by
  have hM := pow_m hR.w8 h5
  obtain ⟨m', f1, f2, f3⟩ := m_takesCode (v := 0) hR h5 (pow_pos hlt) (c := code) (by omega)
  have hR' := hR.fr (rowP_scr f2)
  rw [hd] at f3
  have k8 : ArS m' 8 9 8 := hR'.1.2.2.2.1.2.2.2
  exact ⟨m', f1, hR', k8.A (by omega) (by omega), f3.2.2 i hi⟩
theorem w_needs (hR : R2 S m) (x : Int) : Ex2 (zF zP 379 v [(.inr (.inr (some 0))), .inl x] m) (o_needs S x) := by
  have h0 := hR.pre
  unfold o_needs
  rw [f_X11_needs, if_pos hR.1.1, zT_wi, if_pos hR.1.1, zT_wi, zT_wi, if_pos hR.1.1]
  generalize zwi (zwi m 0 1 0) 0 0 0 = m0 at h0 ⊢
  rw [m_isLineAt h0, zC1_s]
  by_cases h : inB x (gL S).2.1.length = true
  · obtain ⟨i, rfl, hi⟩ := inB_nat h
    rw [if_neg (b01_d1 h), if_pos h, j_X11_needs_24, if_pos h0.1.1, Int.toNat_natCast]
    obtain ⟨g1, g2⟩ := m_needed (v := 0) h0 hi
    cases hc : ndR (gL S) i with
    | none =>
      obtain ⟨m', r1, r2⟩ := g2 hc
      rw [r1, zC1_s, if_pos (by decide), if_pos r2.1.1, m_refuse r2.1, zC1_s, j_X11_needs_45]
      exact x2_no r2
    | some c =>
      obtain ⟨code, m', r1, r2, r3, r4⟩ := g1 c hc
      rw [r1, zC1_s, if_neg (by omega), j_X11_needs_41, if_pos r2.1.1, j_X11_needs_45, r3]
      exact x2_yes r2
  · have h' := bool_f h
    rw [if_pos (b01_ne.mpr h'), if_neg h, if_pos h0.1.1]; exact x2_noC h0
theorem w_needsAt (hR : R2 S m) (x k : Int) : Ex2 (zF zP 380 v [(.inr (.inr (some 0))), .inl x, .inl k] m) (o_needsAt S x k) := by
  have h0 := hR.pre
  unfold o_needsAt
  rw [f_X11_needsAt, if_pos hR.1.1, zT_wi, if_pos hR.1.1, zT_wi, zT_wi, if_pos hR.1.1]
  generalize zwi (zwi m 0 1 0) 0 0 0 = m0 at h0 ⊢
  rw [m_isLineAt h0, zC1_s]
  by_cases h : inB x (gL S).2.1.length = true
  · obtain ⟨i, rfl, hi⟩ := inB_nat h
    rw [if_neg (b01_d1 h), if_pos h, j_X11_needsAt_24, if_pos h0.1.1, Int.toNat_natCast]
    obtain ⟨g1, g2⟩ := m_needed (v := 0) h0 hi
    cases hc : ndR (gL S) i with
    | none =>
      obtain ⟨m', r1, r2⟩ := g2 hc
      rw [r1, zC1_s, if_pos (by decide), j_X11_needsAt_50, if_pos r2.1.1]
      exact x2_noC r2
    | some c =>
      obtain ⟨code, m', r1, r2, r3, r4, r5, r6⟩ := g1 c hc
      rw [r1, zC1_s, if_neg (by omega), if_pos r2.1.1, r3, m_isIn, zC1_s, inR_inB (by omega)]
      show Ex2 _ (oWd S c k)
      unfold oWd
      by_cases q : inB k c.length = true
      · obtain ⟨j, rfl, hj⟩ := inB_nat q
        obtain ⟨m2, s1, s2, s3, s4⟩ := m_codeAt r2 r4 r5 r6 hj
        rw [if_neg (b01_d1 q), if_pos q, j_X11_needsAt_57, if_pos r2.1.1, if_pos r2.1.1, r3, s1, zC0_s, if_pos s2.1.1, s2.1.2.1.2.1.2.2.2, obind, if_pos s3, Int.toNat_natCast, s4]
        exact x2_yes s2
      · rw [if_pos (b01_ne.mpr (bool_f q)), if_neg q, j_X11_needsAt_50, if_pos r2.1.1]
        exact x2_noC r2
  · rw [if_pos (b01_ne.mpr (bool_f h)), if_neg h, if_pos h0.1.1]; exact x2_noC h0
theorem w_clash (hR : R2 S m) (x y : Int) : Ex2 (zF zP 383 v [(.inr (.inr (some 0))), .inl x, .inl y] m) (o_clash S x y) := by
  have h0 := hR.pre
  unfold o_clash
  rw [f_X11_clash, if_pos hR.1.1, zT_wi, if_pos hR.1.1, zT_wi, zT_wi, if_pos hR.1.1]
  generalize zwi (zwi m 0 1 0) 0 0 0 = m0 at h0 ⊢
  rw [m_isLineAt h0, zC1_s]
  by_cases h : inB x (gL S).2.1.length = true
  · rw [if_neg (b01_d1 h), if_pos h0.1.1, m_isLineAt h0, zC1_s, h, Bool.true_and]
    by_cases h2 : inB y (gL S).2.1.length = true
    · rw [if_neg (b01_d1 h2), if_pos h2, j_X11_clash_32]
      by_cases g : x = y
      · rw [if_pos g, if_pos g, if_pos h0.1.1]; exact x2_noC h0
      · obtain ⟨i, rfl, hi⟩ := inB_nat h
        obtain ⟨j, rfl, hj⟩ := inB_nat h2
        rw [if_neg g, if_neg g, j_X11_clash_44, if_pos h0.1.1, Int.toNat_natCast, Int.toNat_natCast]
        obtain ⟨g1, g2⟩ := m_clashing (v := 0) h0 hi hj
        cases hc : clR (gL S) i j with
        | none =>
          obtain ⟨m', r1, r2⟩ := g2 hc
          rw [r1, zC1_s, if_pos (by decide), if_pos r2.1.1, m_refuse r2.1, zC1_s, j_X11_clash_66]
          exact x2_no r2
        | some c =>
          obtain ⟨code, m', r1, r2, r3, r4⟩ := g1 c hc
          rw [r1, zC1_s, if_neg (by omega), j_X11_clash_62, if_pos r2.1.1, j_X11_clash_66, r3]
          exact x2_yes r2
    · rw [if_pos (b01_ne.mpr (bool_f h2)), if_neg h2, j_X11_clash_26, if_pos h0.1.1]; exact x2_noC h0
  · rw [if_pos (b01_ne.mpr (bool_f h)), bool_f h, Bool.false_and, if_neg (by decide), j_X11_clash_26, if_pos h0.1.1]; exact x2_noC h0
theorem w_clashAt (hR : R2 S m) (x y k : Int) : Ex2 (zF zP 384 v [(.inr (.inr (some 0))), .inl x, .inl y, .inl k] m) (o_clashAt S x y k) := by
  have h0 := hR.pre
  unfold o_clashAt
  rw [f_X11_clashAt, if_pos hR.1.1, zT_wi, if_pos hR.1.1, zT_wi, zT_wi, if_pos hR.1.1]
  generalize zwi (zwi m 0 1 0) 0 0 0 = m0 at h0 ⊢
  rw [m_isLineAt h0, zC1_s]
  by_cases h : inB x (gL S).2.1.length = true
  · rw [if_neg (b01_d1 h), if_pos h0.1.1, m_isLineAt h0, zC1_s, h, Bool.true_and]
    by_cases h2 : inB y (gL S).2.1.length = true
    · rw [if_neg (b01_d1 h2), if_pos h2, j_X11_clashAt_32]
      by_cases g : x = y
      · rw [if_pos g, if_pos g, if_pos h0.1.1]; exact x2_noC h0
      · obtain ⟨i, rfl, hi⟩ := inB_nat h
        obtain ⟨j, rfl, hj⟩ := inB_nat h2
        rw [if_neg g, if_neg g, j_X11_clashAt_44, if_pos h0.1.1, Int.toNat_natCast, Int.toNat_natCast]
        obtain ⟨g1, g2⟩ := m_clashing (v := 0) h0 hi hj
        cases hc : clR (gL S) i j with
        | none =>
          obtain ⟨m', r1, r2⟩ := g2 hc
          rw [r1, zC1_s, if_pos (by decide), j_X11_clashAt_73, if_pos r2.1.1]
          exact x2_noC r2
        | some c =>
          obtain ⟨code, m', r1, r2, r3, r4, r5, r6⟩ := g1 c hc
          rw [r1, zC1_s, if_neg (by omega), if_pos r2.1.1, r3, m_isIn, zC1_s, inR_inB (by omega)]
          show Ex2 _ (oWd S c k)
          unfold oWd
          by_cases q : inB k c.length = true
          · obtain ⟨l, rfl, hl⟩ := inB_nat q
            obtain ⟨m2, s1, s2, s3, s4⟩ := m_codeAt r2 r4 r5 r6 hl
            rw [if_neg (b01_d1 q), if_pos q, j_X11_clashAt_80, if_pos r2.1.1, if_pos r2.1.1, r3, s1, zC0_s, if_pos s2.1.1, s2.1.2.1.2.1.2.2.2, obind, if_pos s3, Int.toNat_natCast, s4]
            exact x2_yes s2
          · rw [if_pos (b01_ne.mpr (bool_f q)), if_neg q, j_X11_clashAt_73, if_pos r2.1.1]
            exact x2_noC r2
    · rw [if_pos (b01_ne.mpr (bool_f h2)), if_neg h2, j_X11_clashAt_26, if_pos h0.1.1]; exact x2_noC h0
  · rw [if_pos (b01_ne.mpr (bool_f h)), bool_f h, Bool.false_and, if_neg (by decide), j_X11_clashAt_26, if_pos h0.1.1]; exact x2_noC h0
theorem w_texts (hR : R2 S m) (t n x k : Int) : Ex2 (zF zP 381 v [(.inr (.inr (some 0))), .inl t, .inl n, .inl x, .inl k] m) (o_texts S t n x k) := by
  have h1 := hR.th (x := 0)
  have hg := yRw_ge S t n (inB x (gL S).2.1.length)
  unfold o_texts yTx
  rw [f_X11_texts, if_pos hR.1.1, zT_wi, if_pos hR.1.1, m_isLineAt h1, zC1_s, zT_wi, if_pos hR.1.1, m_whyNoRow h1, zC1_s, zT_wi, if_pos hR.1.1, zT_wi, zT_wi, if_pos hR.1.1, zi_wi_s]
  have h2 : R2 (wSt S (yRw S t n (inB x (gL S).2.1.length))) (zwi (zwi m 0 1 0) 0 0 (yRw S t n (inB x (gL S).2.1.length))) := h1.st
  by_cases h : yRw S t n (inB x (gL S).2.1.length) = 0
  · rw [if_pos h, if_pos h, m_isIn, zC1_s]
    by_cases c1 : inR k 0 5 = true
    · obtain ⟨t', n', e1, e2, e3, e4, e5, e6⟩ := yRw0 h
      obtain ⟨i, rfl, hi⟩ := inB_nat e5
      have c2 := inR_t.mp c1
      obtain ⟨N, rfl⟩ := Int.eq_ofNat_of_zero_le c2.1
      have hN5 : N ≤ 5 := by omega
      have h0 := hR.pre
      rw [if_neg (b01_d1 c1), if_pos c1, if_pos rfl, h]
      generalize zwi (zwi m 0 1 0) 0 0 0 = m0 at h0 ⊢
      have h' : yRw (wSt S 0) t n (inB (i : Int) (gL S).2.1.length) = 0 := h
      have hok := yRow_ok h0.w16 h'
      obtain ⟨m1, f1, f2, f3⟩ := m_takesRow (v := 0) h0 h'
      have hR1 := h0.fr (rowP_scr f2)
      obtain ⟨m2, g1, g2, g3⟩ := m_others (v := 0) hR1.1 f3
      have hR2 := hR1.fr (arP_scr (by decide) (by decide) g2)
      obtain ⟨m3, k1, k2⟩ := m_texts_in (v := v) (S := wSt S 0) (i := i) (N := N) hi hN5 hok (x1 := t) (x2 := n) (rws (List.range (gL (wSt S 0)).1.length) N) 0 0 m2 rfl hR2 g3 r32_0
      have z0 : ((0 : Nat) : Int) = 0 := rfl
      rw [z0] at k1
      have hst : zi m0 0 0 = 0 := h0.2.1.1
      rw [j_X11_texts_45, if_pos h0.1.1, hst, if_neg (by decide), j_X11_texts_54, if_pos h0.1.1, f1, zC0_s, if_pos hR1.1.1, g1, zC0_s, k1, Int.toNat_natCast, Int.toNat_natCast]
      exact ⟨m3, rfl, k2⟩
    · rw [if_pos (b01_ne.mpr (bool_f c1)), if_neg c1, if_neg (show ¬ (5 : Int) = 0 by decide), zT_wi, zT_wi, if_pos hR.1.1, h, j_X11_texts_45, zT_wi, zT_wi, zT_wi, if_pos hR.1.1, zi_wi_s, if_pos (by decide)]
      exact ⟨_, rfl, (hR.pre).st⟩
  · rw [if_neg h, if_neg h, if_neg h, j_X11_texts_45, zT_wi, zT_wi, if_pos hR.1.1, zi_wi_s, if_pos (show 0 < yRw S t n (inB x (gL S).2.1.length) by omega)]
    exact ⟨_, rfl, h2⟩
end BEHINDM
