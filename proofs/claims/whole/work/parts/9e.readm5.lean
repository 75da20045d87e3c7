/-! The reference reads a LINE, a WORD, ODDS. -/
def BuM (m : zM) (L : zLd) : Prop := BvM m 1956 56 (L, none) ∧ ∀ i, L.2.1.length ≤ i → i < 8 → zi m 5 (1969 + i) = 0 ∧ zi m 5 (1977 + i) = 0 ∧ ∀ k, k < 4 → zi m 5 (1958 + cellN i k) = 0
def RcM (m : zM) (f : Nat → Nat) (n : Nat) (out : Option zO) (r : zRd zLd) : Prop := match r with
  | .inl e => ∃ m', out = some (none, m') ∧ Fr rmP m m' ∧ BdM m' f n e
  | .inr q => ∃ m', out = some (none, m') ∧ Fr rmP m m' ∧ GdM m' f n q.1 ∧ BuM m' q.2
/-- the LINES' numbers -/
def LnR (L : zLd) : Prop := ∀ i, i < L.2.1.length → 1 ≤ (L.2.1.getD i ln0).1 ∧ (L.2.1.getD i ln0).1 ≤ 999
section READM5
variable {v : Nat} {m m' : zM} {f : Nat → Nat} {n : Nat} {T : zTok} {L : zLd} {e : Nat × Nat}
theorem BuM.fr {P : Nat → Nat → Prop} (hB : BuM m L) (h : Fr P m m') (h5 : ∀ j, ¬ P 5 j) (h7 : ∀ j, ¬ P 7 j) : BuM m' L :=
  ⟨h.bvM (fun j _ _ => h5 j) (fun j _ _ => h7 j) hB.1, fun i z1 z2 => ⟨by rw [h.i (h5 _)]; exact (hB.2 i z1 z2).1, by rw [h.i (h5 _)]; exact (hB.2 i z1 z2).2.1, fun k hk => by rw [h.i (h5 _)]; exact (hB.2 i z1 z2).2.2 k hk⟩⟩
theorem BuM.tm (hB : BuM m L) (h : Fr tmP m m') : BuM m' L := hB.fr h (fun j => by unfold tmP; omega) (fun j => by unfold tmP; omega)
theorem m_eds {nu : Int} (h8 : L.2.1.length < 8) {x2 x3 : Int} : ∀ (k : Nat) (T : zTok) (es : List zEd) (m : zM), k + es.length = 5 → TkR n T → GdM m f n T → PeM m L nu es →
    (∀ e, rEds L f n k T es = .inl e → ∃ m', zX zP 298 v 84 [some (.inr (.inr (some 0))), some (.inl (L.2.1.length : Int)), some (.inl x2), some (.inl x3)] [] m = some (none, m') ∧ Fr rmP m m' ∧ BdM m' f n e) ∧
    (∀ q, rEds L f n k T es = .inr q → ∃ m', zX zP 298 v 84 [some (.inr (.inr (some 0))), some (.inl (L.2.1.length : Int)), some (.inl x2), some (.inl x3)] [] m = zX zP 298 v 106 [some (.inr (.inr (some 0))), some (.inl (L.2.1.length : Int)), some (.inl x2), some (.inl x3)] [] m' ∧ Fr rmP m m' ∧ GdM m' f n q.1 ∧ PeM m' L nu q.2) := by
  have bad : ∀ {m1 : zM} {e : Nat × Nat}, BdM m1 f n e → zX zP 298 v 84 [some (.inr (.inr (some 0))), some (.inl (L.2.1.length : Int)), some (.inl x2), some (.inl x3)] [] m1 = some (none, m1) := fun {m1 e} b => by
    have := b.2.2.2
    rw [j_X11_readLine_84, if_pos b.1.t, b.2.1, if_neg (by omega), j_X11_readLine_106, if_pos b.1.t, b.2.1, if_neg (by omega), j_X11_readLine_125]
  intro k
  induction k with
  | zero =>
    intro T es m hk hR g hP
    have h4 : es.length ≤ 4 := hP.2.1.2.2.1
    omega
  | succ k ih =>
    intro T es m hk hR g hP
    have h4 : es.length ≤ 4 := hP.2.1.2.2.1
    rw [j_X11_readLine_84, if_pos g.1.t, g.2.2.2, if_pos rfl, if_pos g.1.t, m_editWord g, zC1_s]
    unfold rEds
    by_cases c : isEd T = true
    · have hk3 := edW0_K c
      obtain ⟨d1, d2⟩ := m_rEdt (v := 0) g hR hP h8 c
      rw [if_pos c, hk3, if_neg (show ¬ (edK T : Int) < 0 by omega), if_pos g.1.t]
      by_cases c4 : es.length = 4
      · obtain ⟨m1, f1, f2, f3⟩ := d1 c4
        rw [if_pos c4, f1, zC0_s, bad f3]
        refine ⟨fun e' h => ?_, fun q h => (nomatch h)⟩
        have h' : (6, T.2.1) = e' := Sum.inl.inj h
        rw [← h']
        exact ⟨m1, rfl, f2, f3⟩
      · obtain ⟨d3, d4⟩ := d2 (by omega)
        rw [if_neg c4]
        cases e1 : rEdt L f n T with
        | inl e =>
          obtain ⟨m1, f1, f2, f3⟩ := d3 e e1
          rw [f1, zC0_s, bad f3]
          refine ⟨fun e' h => ?_, fun q h => (nomatch h)⟩
          have h' : e = e' := Sum.inl.inj h
          rw [← h']
          exact ⟨m1, rfl, f2, f3⟩
        | inr q =>
          obtain ⟨m1, f1, f2, f3, f4⟩ := d4 q e1
          have hR1 := (pg_edt (L := L) hR q e1).1
          have hlen : (es ++ [q.2]).length = es.length + 1 := by rw [List.length_append]; rfl
          obtain ⟨i1, i2⟩ := ih q.1 (es ++ [q.2]) m1 (by rw [hlen]; omega) hR1 f3 f4
          rw [f1, zC0_s]
          show (∀ e, rEds L f n k q.1 (es ++ [q.2]) = .inl e → _) ∧ (∀ q', rEds L f n k q.1 (es ++ [q.2]) = .inr q' → _)
          refine ⟨fun e h => ?_, fun q' h => ?_⟩
          · obtain ⟨m', z1, z2, z3⟩ := i1 e h
            exact ⟨m', z1, f2.tr z2, z3⟩
          · obtain ⟨m', z1, z2, z3, z4⟩ := i2 q' h
            exact ⟨m', z1, f2.tr z2, z3, z4⟩
    · have hn : edW0 T = -1 := by
        unfold isEd at c
        rw [Bool.or_eq_true, Bool.or_eq_true] at c
        unfold edW0
        rw [if_neg (fun w => c (Or.inl w)), if_neg (fun w => c (Or.inr (Or.inl w))), if_neg (fun w => c (Or.inr (Or.inr w)))]
      rw [if_neg c, hn, if_pos (by decide)]
      refine ⟨fun e h => (nomatch h), fun q h => ?_⟩
      have h' : (T, es) = q := Sum.inr.inj h
      rw [← h']
      exact ⟨m, rfl, Fr.rf _ _, g, hP⟩
theorem m_lne (g : GdM m f n T) (hR : TkR n T) (hB : BuM m L) (hL : LnR L) : RcM m f n (zF zP 298 v [(.inr (.inr (some 0)))] m) (rLne L f n T) := by
  have h8 : L.2.1.length ≤ 8 := hB.1.2.1.2.1
  have hS := g.1.1
  have hc : zi m 5 (Int.toNat 1957) = (L.2.1.length : Int) := hB.1.2.1.1
  rw [f_X11_readLine, if_pos g.1.t, hS.2.1.2.1.1, obind, if_pos (A5 hS (by omega) (by omega)), hc]
  unfold rLne
  by_cases c8 : L.2.1.length = 8
  · have hf : zF zP 278 0 [(.inr (.inr (some 0))), .inl 6, .inl (T.2.1 : Int)] m = some (none, bdM m (6, T.2.1)) := m_failG g 6 T.2.1
    have b := g.bd (e := (6, T.2.1)) (Nat.succ_pos 5)
    rw [if_pos c8, if_pos (by omega), if_pos g.1.t, if_pos g.1.t, g.2.1.2.1, hf, zC0_s, j_X11_readLine_25, if_pos b.1.t, b.2.1, if_pos (show (0 : Int) < ((6 : Nat) : Int) by decide)]
    exact ⟨_, rfl, fl_rm (bdM_fr m _), b⟩
  · have h8' : L.2.1.length < 8 := by omega
    obtain ⟨m1, a1, a2, a3⟩ := m_adv (v := 0) g hR
    have hR1 := nxT_R (f := f) hR
    have hB1 := hB.tm a2
    have rc := m_count (v := 0) a3 hR1 1 999
    have e1961 : ∀ _ : Unit, zadd 1961 (L.2.1.length : Int) = ((1961 + L.2.1.length : Nat) : Int) := fun _ => zadd_nat (n := 1961) (by omega)
    -- behind a FAULT
    have bad : ∀ {m2 : zM} {e : Nat × Nat} (x2 x3 : Int), BdM m2 f n e → ∃ m', zX zP 298 v 73 [some (.inr (.inr (some 0))), some (.inl (L.2.1.length : Int)), some (.inl x2), some (.inl x3)] [] m2 = some (none, m') ∧ Fr wrP m2 m' ∧ BdM m' f n e := fun {m2 e} x2 x3 b => by
      have hw : Fr wrP m2 (zwi m2 5 (1961 + L.2.1.length) x3) := Fr.wi m2 _ (Or.inl ⟨rfl, by omega⟩)
      have b2 := b.wr hw
      have := b2.2.2.2
      refine ⟨_, ?_, hw, b2⟩
      rw [j_X11_readLine_73, if_pos b.1.t, b.1.1.2.1.2.1.1, obind, e1961 (), if_pos (A5 b.1.1 (by omega) (by omega)), Int.toNat_natCast, j_X11_readLine_84, if_pos b2.1.t, b2.2.1, if_neg (by omega), j_X11_readLine_106, if_pos b2.1.t, b2.2.1, if_neg (by omega), j_X11_readLine_125]
    rw [if_neg c8, if_neg (by omega), j_X11_readLine_25, if_pos g.1.t, g.2.2.2, if_neg (by decide), j_X11_readLine_33, if_pos g.1.t, a1, zC0_s, if_pos a3.1.t, if_pos a3.1.t, a3.2.1.2.1]
    have rc' : RdM m1 f n (zF zP 281 0 [(.inr (.inr (some 0))), .inl 1, .inl 999] m1) (fun x : Nat => (x : Int)) (rNum f n (nxT f n T) 1 999) := rc
    by_cases cd : (decide ((nxT f n T).1 = 3) && !decide (lnum L ((nxT f n T).2.2.2.2 : Int) = -1)) = true
    · rw [Bool.and_eq_true] at cd
      have h3 : (nxT f n T).1 = 3 := of_decide_eq_true cd.1
      have hl : ¬ lnum L ((nxT f n T).2.2.2.2 : Int) = -1 := fun w => by rw [decide_eq_true w] at cd; exact absurd cd.2 (by decide)
      have hin : 1 ≤ (nxT f n T).2.2.2.2 ∧ (nxT f n T).2.2.2.2 ≤ 999 := by
        rcases lnum_of L ((nxT f n T).2.2.2.2 : Int) with w | ⟨i, w, wi, wv⟩
        · exact absurd w hl
        · have := hL i wi
          rw [wv] at this
          omega
      have hnum : rNum f n (nxT f n T) 1 999 = .inr (nxT f n (nxT f n T), (nxT f n T).2.2.2.2) := by
        unfold rNum
        rw [if_pos h3, if_pos hin]
      rw [hnum] at rc'
      obtain ⟨m2, b1, b2, b3⟩ := rc'
      have b1' : zF zP 281 0 [(.inr (.inr (some 0))), .inl 1, .inl 999] m1 = some (some (.inl ((nxT f n T).2.2.2.2 : Int)), m2) := b1
      have hN2 := BuNm (hB1.tm b2).1
      have hlb : zF zP 292 0 [(.inr (.inr (some 0))), .inl 4, .inl ((nxT f n T).2.2.2.2 : Int)] m2 = some (some (.inl (lnum L ((nxT f n T).2.2.2.2 : Int))), m2) := m_lineByB b3.1.1 (b := 4) (by decide) hN2 _
      have hf : zF zP 278 0 [(.inr (.inr (some 0))), .inl 5, .inl ((nxT f n T).2.1 : Int)] m2 = some (none, bdM m2 (5, (nxT f n T).2.1)) := m_failG b3 5 (nxT f n T).2.1
      have b := b3.bd (e := (5, (nxT f n T).2.1)) (Nat.succ_pos 4)
      obtain ⟨m', f1, f2, f3⟩ := bad ((nxT f n T).2.1 : Int) ((nxT f n T).2.2.2.2 : Int) b
      have hge : ¬ lnum L ((nxT f n T).2.2.2.2 : Int) < 0 := by
        rcases lnum_of L ((nxT f n T).2.2.2.2 : Int) with w | ⟨i, w, _, _⟩
        · exact absurd w hl
        · omega
      rw [if_pos (by rw [decide_eq_true h3, decide_eq_false hl]; rfl), b1', zC1_s, if_pos b3.1.t, b3.2.2.2, if_pos rfl, if_pos b3.1.t, hlb, zC1_s, if_neg hge, if_pos b3.1.t, hf, zC0_s]
      exact ⟨m', f1, (((tm_rm a2).tr (tm_rm b2)).tr (fl_rm (bdM_fr m2 _))).tr (wr_rm f2), f3⟩
    · rw [if_neg cd]
      cases e1 : rNum f n (nxT f n T) 1 999 with
      | inl e =>
        rw [e1] at rc'
        obtain ⟨w1, w2⟩ := rc'
        have b := a3.bd (e := e) w2
        have bne : ¬ zi (bdM m1 e) 0 12 = 0 := by rw [b.2.1]; omega
        obtain ⟨m', f1, f2, f3⟩ := bad ((nxT f n T).2.1 : Int) 0 b
        rw [w1, zC1_s, if_pos b.1.t, if_neg bne]
        exact ⟨m', f1, ((tm_rm a2).tr (fl_rm (bdM_fr m1 e))).tr (wr_rm f2), f3⟩
      | inr q =>
        obtain ⟨n1, n2, n3, n4, n5⟩ := rNum_rng e1
        rw [e1] at rc'
        obtain ⟨m2, b1, b2, b3⟩ := rc'
        have b1' : zF zP 281 0 [(.inr (.inr (some 0))), .inl 1, .inl 999] m1 = some (some (.inl (q.2 : Int)), m2) := b1
        have hB2 := hB1.tm b2
        have hN2 := BuNm hB2.1
        have hlb : zF zP 292 0 [(.inr (.inr (some 0))), .inl 4, .inl (q.2 : Int)] m2 = some (some (.inl (lnum L (q.2 : Int))), m2) := m_lineByB b3.1.1 (b := 4) (by decide) hN2 _
        have hl : lnum L (q.2 : Int) = -1 := by
          rw [n5]
          by_cases w : lnum L ((nxT f n T).2.2.2.2 : Int) = -1
          · exact w
          · exact absurd (by rw [decide_eq_true n4, decide_eq_false w]; rfl) cd
        have hw : Fr wrP m2 (zwi m2 5 (1961 + L.2.1.length) (q.2 : Int)) := Fr.wi m2 _ (Or.inl ⟨rfl, by omega⟩)
        have g3 := b3.wr hw
        have hR2 := (pg_num (f := f) hR1 1 999 q e1).1
        have hF1 : Fr (fun b j => b = 5 ∧ j = 1961 + L.2.1.length) m2 (zwi m2 5 (1961 + L.2.1.length) (q.2 : Int)) := Fr.wi m2 _ ⟨rfl, rfl⟩
        have no5 : ∀ j, j ≠ 1961 + L.2.1.length → ¬ (fun b j => b = 5 ∧ j = 1961 + L.2.1.length) 5 j := fun j z w => z w.2
        have no7 : ∀ j, ¬ (fun b j => b = 5 ∧ j = 1961 + L.2.1.length) 7 j := fun j w => absurd w.1 (by decide)
        have hP3 : PeM (zwi m2 5 (1961 + L.2.1.length) (q.2 : Int)) L (q.2 : Int) [] := by
          have hcc : ∀ i k, cellN i k = 29 + 16 * i + 4 * k := fun _ _ => rfl
          have p6 : L.2.2.1.length ≤ 6 := hB2.1.2.2.1.2.1
          refine ⟨hB2.1.keep hF1 (fun j z1 z2 => no5 j (by omega)) (fun i hi => ⟨no5 _ (by have hi' : i < L.2.1.length := hi; omega), no5 _ (by omega), no5 _ (by omega), fun j z1 z2 => no5 j (by omega)⟩) (fun i hi => ⟨no7 _, no5 _ (by omega), no5 _ (by omega), fun j z1 z2 => no5 j (by omega)⟩) (fun i _ => no7 _) (fun j z1 z2 => no5 j (by omega)), ⟨?_, ?_, Nat.zero_le _, ?_, fun y hy => (nomatch hy), fun k hk => absurd hk (Nat.not_lt_zero k)⟩, fun i z1 z2 => ⟨?_, ?_, fun k hk => ?_⟩, fun k z1 z2 => ?_⟩
          · rw [show 1956 + 5 + L.2.1.length = 1961 + L.2.1.length by omega, zi_wi_s]
          · rw [hF1.i (no5 _ (by omega)), show 1956 + 13 + L.2.1.length = 1969 + L.2.1.length by omega]
            exact (hB2.2 _ (Nat.le_refl _) h8').1
          · rw [hF1.i (no5 _ (by omega)), show 1956 + 21 + L.2.1.length = 1977 + L.2.1.length by omega]
            exact (hB2.2 _ (Nat.le_refl _) h8').2.1
          · rw [hF1.i (no5 _ (by omega))]; exact (hB2.2 i (by omega) z2).1
          · rw [hF1.i (no5 _ (by omega))]; exact (hB2.2 i (by omega) z2).2.1
          · have := hcc i k
            rw [hF1.i (no5 _ (by omega))]; exact (hB2.2 i (by omega) z2).2.2 k hk
          · have := hcc L.2.1.length k
            rw [hF1.i (no5 _ (by omega))]; exact (hB2.2 _ (Nat.le_refl _) h8').2.2 k z2
        obtain ⟨i1, i2⟩ := m_eds (v := v) h8' (x2 := ((nxT f n T).2.1 : Int)) (x3 := (q.2 : Int)) 5 q.1 [] _ rfl hR2 g3 hP3
        have hF2 : Fr rmP m (zwi m2 5 (1961 + L.2.1.length) (q.2 : Int)) := ((tm_rm a2).tr (tm_rm b2)).tr (wr_rm hw)
        rw [b1', zC1_s, if_pos b3.1.t, b3.2.2.2, if_pos rfl, if_pos b3.1.t, hlb, zC1_s, hl, if_pos (by decide), j_X11_readLine_73, if_pos b3.1.t, b3.1.1.2.1.2.1.1, obind, e1961 (), if_pos (A5 b3.1.1 (by omega) (by omega)), Int.toNat_natCast]
        show RcM m f n _ (match rEds L f n 5 q.1 [] with
          | .inl e => .inl e
          | .inr q2 => .inr (q2.1, addLn L ((q.2 : Int), false, q2.2)))
        cases e2 : rEds L f n 5 q.1 [] with
        | inl e =>
          obtain ⟨m', z1, z2, z3⟩ := i1 e e2
          exact ⟨m', z1, hF2.tr z2, z3⟩
        | inr q2 =>
          obtain ⟨m4, z1, z2, z3, z4⟩ := i2 q2 e2
          have hc4 : zi m4 5 (Int.toNat 1957) = (L.2.1.length : Int) := z4.1.2.1.1
          have hw4 : Fr wrP m4 (zwi m4 5 1957 ((L.2.1.length + 1 : Nat) : Int)) := Fr.wi m4 _ (Or.inl ⟨rfl, by omega⟩)
          have hF4 : Fr (fun b j => b = 5 ∧ j = 1957) m4 (zwi m4 5 1957 ((L.2.1.length + 1 : Nat) : Int)) := Fr.wi m4 _ ⟨rfl, rfl⟩
          have n5' : ∀ j, j ≠ 1957 → ¬ (fun b j => b = 5 ∧ j = 1957) 5 j := fun j z w => z w.2
          have n7' : ∀ j, ¬ (fun b j => b = 5 ∧ j = 1957) 7 j := fun j w => absurd w.1 (by decide)
          rw [z1, j_X11_readLine_106, if_pos z3.1.t, z3.2.2.2, if_pos rfl, if_pos z3.1.t, z3.1.1.2.1.2.1.1, obind, if_pos (A5 z3.1.1 (by omega) (by omega)), if_pos (A5 z3.1.1 (by omega) (by omega)), hc4, zadd1 (by omega), j_X11_readLine_125]
          refine ⟨zwi m4 5 1957 ((L.2.1.length + 1 : Nat) : Int), rfl, (hF2.tr z2).tr (wr_rm hw4), z3.wr hw4, ?_⟩
          obtain ⟨⟨w1, w2, w3⟩, ⟨l1, l2, l3⟩, ⟨p1, p2, p3⟩, ⟨o1, o2⟩, hyr⟩ := z4.1
          have hcc : ∀ i k, cellN i k = 29 + 16 * i + 4 * k := fun _ _ => rfl
          have hlen := addLn_len L ((q.2 : Int), false, q2.2)
          refine ⟨⟨⟨?_, w2, fun i hi => ?_⟩, ⟨?_, ?_, fun i hi => ?_⟩, ⟨?_, p2, fun i hi => ⟨?_, ?_⟩⟩, ⟨?_, ?_⟩, hF4.yvM (fun j z1 z2 => n5' j (by omega)) hyr⟩, fun i z1 z2 => ⟨?_, ?_, fun k hk => ?_⟩⟩
          · rw [hF4.i (n5' _ (by omega))]; exact w1
          · rw [hF4.l (n7' _)]; exact w3 i hi
          · show zi (zwi m4 5 1957 _) 5 1957 = (((addLn L ((q.2 : Int), false, q2.2)).2.1.length : Nat) : Int)
            rw [zi_wi_s, hlen]
          · show (addLn L ((q.2 : Int), false, q2.2)).2.1.length ≤ 8
            rw [hlen]; exact h8'
          · have hi' : i < L.2.1.length + 1 := by
              have z : i < (addLn L ((q.2 : Int), false, q2.2)).2.1.length := hi
              rw [hlen] at z; exact z
            show MlB _ 1956 i ((addLn L ((q.2 : Int), false, q2.2)).2.1.getD i ln0)
            refine hF4.mlB (n5' _ (by omega)) (n5' _ (by omega)) (n5' _ (by omega)) (fun j z1 z2 => n5' j (by omega)) ?_
            by_cases z : i = L.2.1.length
            · subst z; rw [addLn_get]; exact z4.2.1
            · show MlB m4 1956 i ((L.2.1 ++ [((q.2 : Int), false, q2.2)]).getD i ln0)
              rw [getD_app_l (by omega)]; exact l3 i (show i < L.2.1.length by omega)
          · rw [hF4.i (n5' _ (by omega))]; exact p1
          · exact hF4.psB (n7' _) (n5' _ (by omega)) (n5' _ (by omega)) (fun j z1 z2 => n5' j (by omega)) (p3 i hi).1
          · show _ < (addLn L ((q.2 : Int), false, q2.2)).2.1.length
            rw [hlen]
            exact Nat.lt_succ_of_lt (p3 i hi).2
          · rw [hF4.i (n5' _ (by omega))]; exact o1
          · rw [hF4.i (n5' _ (by omega))]; exact o2
          · rw [hlen] at z1
            rw [hF4.i (n5' _ (by omega))]; exact (z4.2.2.1 i (by omega) z2).1
          · rw [hlen] at z1
            rw [hF4.i (n5' _ (by omega))]; exact (z4.2.2.1 i (by omega) z2).2.1
          · rw [hlen] at z1
            have := hcc i k
            rw [hF4.i (n5' _ (by omega))]; exact (z4.2.2.1 i (by omega) z2).2.2 k hk
end READM5
