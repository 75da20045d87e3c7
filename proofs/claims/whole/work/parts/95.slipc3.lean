/-! The class reads a SLIP: an EDIT, a LINE. -/
section SLIPC3
variable {v : Nat} {m m' : zM} {f : Nat → Nat} {n : Nat} {T : zTok} {L : zLd}
/-- behind the second WORD of an EDIT -/
theorem c_edtEnd (g : GdC m f n T L) (hR : TkR n T) {i : Nat} {nu : Int} {lo : Bool} {es : List zEd} (hi : i < L.2.1.length) (hL : L.2.1.getD i ln0 = (nu, lo, es)) (h4 : es.length < 4) {k w o : Nat} (hk : k < 3) (hw : w < 16) (ho : o < 16) (h1 : k = 1 → o = 0) :
    ∃ m', zX zP 120 v 89 [some (.inr (.inr (some 2))), some (.inr (.inr (some 33))), some (.inr (.inr (some (33 + 12 + 2 * i)))), some (.inl (k : Int)), some (.inl (w : Int)), some (.inl (o : Int)), none] [] m = some (some (.inl 1), m') ∧ Fr rdC m m' ∧ GdC m' f n (pasE f n T k w o).1 (lnSet L i (nu, lo, es ++ [(pasE f n T k w o).2])) ∧ FlC m m' := by
  have plain : (!decide (k = 2) && isK T 5) = false → ∃ m', zX zP 120 v 106 [some (.inr (.inr (some 2))), some (.inr (.inr (some 33))), some (.inr (.inr (some (33 + 12 + 2 * i)))), some (.inl (k : Int)), some (.inl (w : Int)), some (.inl (o : Int)), none] [] m = some (some (.inl 1), m') ∧ Fr rdC m m' ∧ GdC m' f n (pasE f n T k w o).1 (lnSet L i (nu, lo, es ++ [(pasE f n T k w o).2])) ∧ FlC m m' := by
    intro c
    obtain ⟨m', f1, f2⟩ := c_putEdit (v := v) g hi hL h4 (p := false) hk hw ho h1 rfl
    unfold pasE
    rw [if_neg (by rw [c]; decide)]
    refine ⟨m', ?_, f2⟩
    rw [j_X5_readsEdit_106, j_X5_readsEdit_107, if_pos rfl]
    exact f1
  rw [j_X5_readsEdit_89]
  by_cases c2 : k = 2
  · rw [if_pos (by omega)]
    exact plain (by rw [decide_eq_true c2]; rfl)
  · rw [if_neg (by omega), if_pos g.1.t2]
    have k5 := c_isKeyword (v := 0) g.1 g.2.1 (k := 5) (by decide)
    have k5' : zF zP 114 0 [(.inr (.inr (some 2))), .inl 5] m = some (some (.inl (b01 (isK T 5))), m) := k5
    rw [k5', zC1_s]
    by_cases c5 : isK T 5 = true
    · obtain ⟨m1, a1, a2, a3⟩ := c_advG (v := 0) g hR
      have hp : true = (true && !decide (k = 2)) := by rw [decide_eq_false c2]; rfl
      obtain ⟨m', f1, f2, f3, f4⟩ := c_putEdit (v := v) a3 hi hL h4 (p := true) hk hw ho h1 hp
      unfold pasE
      rw [if_pos (c := (!decide (k = 2) && isK T 5) = true) (by rw [decide_eq_false c2, c5]; rfl), c5, if_neg nb1, j_X5_readsEdit_107, if_neg (by decide), if_pos g.1.t2, a1, zC0_s]
      exact ⟨m', f1, (tk_rd a2).tr f2, f3, (tk_fl a2).tr f4⟩
    · rw [bool_f c5, if_pos yb0]
      exact plain (by rw [bool_f c5, Bool.and_false])
theorem c_edt (g : GdC m f n T L) (hR : TkR n T) {i : Nat} {nu : Int} {lo : Bool} {es : List zEd} (hi : i < L.2.1.length) (hL : L.2.1.getD i ln0 = (nu, lo, es)) (h4 : es.length < 4) :
    (∀ e, rEdt L f n T = .inl e → ∃ m', zF zP 120 v [(.inr (.inr (some 2))), (.inr (.inr (some 33))), (.inr (.inr (some (33 + 12 + 2 * i))))] m = some (some (.inl 0), m') ∧ Fr rdC m m' ∧ zi m' 2 10 = (e.1 : Int) ∧ zi m' 2 11 = (e.2 : Int) ∧ DfB m') ∧
    (∀ q, rEdt L f n T = .inr q → ∃ m', zF zP 120 v [(.inr (.inr (some 2))), (.inr (.inr (some 33))), (.inr (.inr (some (33 + 12 + 2 * i))))] m = some (some (.inl 1), m') ∧ Fr rdC m m' ∧ GdC m' f n q.1 (lnSet L i (nu, lo, es ++ [q.2])) ∧ FlC m m') := by
  have h8 := g.2.2.2.1.2.1
  obtain ⟨m1, a1, a2, a3⟩ := c_advG (v := 0) g hR
  have hR1 := nxT_R (f := f) hR
  have w1 := c_wrd (v := 0) a3.1 a3.2.1 hR1 a3.2.2.1 a3.2.2.2
  have hlt := edK_lt T
  rw [f_X5_readsEdit, if_pos g.1.t2, g.2.1.2.2.2.2.1, c_kindTold, zC1_s, if_pos g.1.t2, a1, zC0_s, if_pos a3.1.t2]
  unfold rEdt
  cases e1 : rWrd L f n (nxT f n T) with
  | inl e =>
    rw [e1] at w1
    have w1' : zF zP 118 0 [(.inr (.inr (some 2))), (.inr (.inr (some 33)))] m1 = some (some (.inl (-1)), bdC m1 e) := w1
    rw [w1', zC1_s, if_pos rfl, if_pos zb0]
    refine ⟨fun e' h => ?_, fun q h => (nomatch h)⟩
    have h' : e = e' := Sum.inl.inj h
    rw [← h']
    exact bd_out a3 (tk_rd a2)
  | inr q =>
    rw [e1] at w1
    obtain ⟨m2, b1, b2, b3⟩ := w1
    have b1' : zF zP 118 0 [(.inr (.inr (some 2))), (.inr (.inr (some 33)))] m1 = some (some (.inl (q.2 : Int)), m2) := b1
    have g2 := a3.tk b2 b3
    have hR2 := (pg_wrd (L := L) (f := f) hR1 q e1).1
    have hq := rWrd_lt e1
    have hF2 : Fr rdC m m2 := (tk_rd a2).tr (tk_rd b2)
    have hfl2 : FlC m m2 := (tk_fl a2).tr (tk_fl b2)
    rw [b1', zC1_s, if_neg (show ¬ (q.2 : Int) = -1 by omega), j_X5_readsEdit_27]
    show (∀ e, (if edK T = 1 then .inr (pasE f n q.1 1 q.2 0) else match rKey f n q.1 (if edK T = 0 then 4 else 8) with
      | .inl e => .inl e
      | .inr q2 => if (decide (edK T = 0) && sameW L q2.1 q.2) = true then .inl (5, q2.1.2.1) else match rWrd L f n q2.1 with
        | .inl e => .inl e
        | .inr q3 => .inr (pasE f n q3.1 (edK T) q.2 q3.2)) = Sum.inl e → _) ∧ (∀ q', (if edK T = 1 then .inr (pasE f n q.1 1 q.2 0) else match rKey f n q.1 (if edK T = 0 then 4 else 8) with
      | .inl e => .inl e
      | .inr q2 => if (decide (edK T = 0) && sameW L q2.1 q.2) = true then .inl (5, q2.1.2.1) else match rWrd L f n q2.1 with
        | .inl e => .inl e
        | .inr q3 => .inr (pasE f n q3.1 (edK T) q.2 q3.2)) = Sum.inr q' → _)
    by_cases c1 : edK T = 1
    · have c1' : (edK T : Int) = 1 := by omega
      obtain ⟨m', f1, f2, f3, f4⟩ := c_edtEnd (v := v) g2 hR2 hi hL h4 (k := 1) (w := q.2) (o := 0) (by decide) (by omega) (by decide) (fun _ => rfl)
      rw [if_pos c1, c1', if_pos rfl]
      refine ⟨fun e h => (nomatch h), fun q' h => ?_⟩
      have h' : pasE f n q.1 1 q.2 0 = q' := Sum.inr.inj h
      rw [← h']
      exact ⟨m', f1, hF2.tr f2, f3, hfl2.tr f4⟩
    · have c1' : ¬ (edK T : Int) = 1 := by omega
      rw [if_neg c1, if_neg c1']
      have hkey : (if (edK T : Int) = 0 then zX zP 120 v 46 [some (.inr (.inr (some 2))), some (.inr (.inr (some 33))), some (.inr (.inr (some (33 + 12 + 2 * i)))), some (.inl (edK T : Int)), some (.inl (q.2 : Int)), some (.inl 0), none] [.inl 4, (.inr (.inr (some 2)))] m2 else zX zP 120 v 44 [some (.inr (.inr (some 2))), some (.inr (.inr (some 33))), some (.inr (.inr (some (33 + 12 + 2 * i)))), some (.inl (edK T : Int)), some (.inl (q.2 : Int)), some (.inl 0), none] [(.inr (.inr (some 2)))] m2) = zX zP 120 v 46 [some (.inr (.inr (some 2))), some (.inr (.inr (some 33))), some (.inr (.inr (some (33 + 12 + 2 * i)))), some (.inl (edK T : Int)), some (.inl (q.2 : Int)), some (.inl 0), none] [.inl (((if edK T = 0 then 4 else 8) : Nat) : Int), (.inr (.inr (some 2)))] m2 := by
        by_cases c0 : edK T = 0
        · rw [if_pos (by omega), if_pos c0]; rfl
        · rw [if_neg (by omega), if_neg c0, j_X5_readsEdit_44]; rfl
      have hk24 : (if edK T = 0 then 4 else 8) < 24 := by split <;> omega
      have kk := c_key (v := 0) g2.1 g2.2.1 hR2 hk24
      rw [hkey, j_X5_readsEdit_46, if_pos g2.1.t2]
      cases e2 : rKey f n q.1 (if edK T = 0 then 4 else 8) with
      | inl e =>
        rw [e2] at kk
        have kk' : zF zP 119 0 [(.inr (.inr (some 2))), .inl (((if edK T = 0 then 4 else 8) : Nat) : Int)] m2 = some (some (.inl 0), bdC m2 e) := kk
        rw [kk', zC1_s, if_pos rfl, if_pos zb0]
        refine ⟨fun e' h => ?_, fun q h => (nomatch h)⟩
        have h' : e = e' := Sum.inl.inj h
        rw [← h']
        exact bd_out g2 hF2
      | inr q2 =>
        rw [e2] at kk
        obtain ⟨m3, d1, d2, d3⟩ := kk
        have d1' : zF zP 119 0 [(.inr (.inr (some 2))), .inl (((if edK T = 0 then 4 else 8) : Nat) : Int)] m2 = some (some (.inl 1), m3) := d1
        have g3 := g2.tk d2 d3
        have hR3 := (pg_key hR2 _ q2 e2).1
        have hF3 := hF2.tr (tk_rd d2)
        have hfl3 := hfl2.tr (tk_fl d2)
        rw [d1', zC1_s, if_neg (by decide), j_X5_readsEdit_54]
        show (∀ e, (if (decide (edK T = 0) && sameW L q2.1 q.2) = true then .inl (5, q2.1.2.1) else match rWrd L f n q2.1 with
          | .inl e => .inl e
          | .inr q3 => .inr (pasE f n q3.1 (edK T) q.2 q3.2)) = Sum.inl e → _) ∧ (∀ q', (if (decide (edK T = 0) && sameW L q2.1 q.2) = true then .inl (5, q2.1.2.1) else match rWrd L f n q2.1 with
          | .inl e => .inl e
          | .inr q3 => .inr (pasE f n q3.1 (edK T) q.2 q3.2)) = Sum.inr q' → _)
        -- the second WORD, from a memory that may hold a FAULT of the same kind already
        have tail : ∀ m4 : zM, GdC m4 f n q2.1 L → Fr rdC m m4 → (∀ q3, rWrd L f n q2.1 = .inr q3 → FlC m m4) →
            (∀ e, (match rWrd L f n q2.1 with
              | .inl e => .inl e
              | .inr q3 => .inr (pasE f n q3.1 (edK T) q.2 q3.2) : zRd zEd) = Sum.inl e → ∃ m', zX zP 120 v 74 [some (.inr (.inr (some 2))), some (.inr (.inr (some 33))), some (.inr (.inr (some (33 + 12 + 2 * i)))), some (.inl (edK T : Int)), some (.inl (q.2 : Int)), some (.inl 0), none] [] m4 = some (some (.inl 0), m') ∧ Fr rdC m m' ∧ zi m' 2 10 = (e.1 : Int) ∧ zi m' 2 11 = (e.2 : Int) ∧ DfB m') ∧
            (∀ q', (match rWrd L f n q2.1 with
              | .inl e => .inl e
              | .inr q3 => .inr (pasE f n q3.1 (edK T) q.2 q3.2) : zRd zEd) = Sum.inr q' → ∃ m', zX zP 120 v 74 [some (.inr (.inr (some 2))), some (.inr (.inr (some 33))), some (.inr (.inr (some (33 + 12 + 2 * i)))), some (.inl (edK T : Int)), some (.inl (q.2 : Int)), some (.inl 0), none] [] m4 = some (some (.inl 1), m') ∧ Fr rdC m m' ∧ GdC m' f n q'.1 (lnSet L i (nu, lo, es ++ [q'.2])) ∧ FlC m m') := by
          intro m4 g4 hF4 hfl4
          have w4 := c_wrd (v := 0) g4.1 g4.2.1 hR3 g4.2.2.1 g4.2.2.2
          rw [j_X5_readsEdit_74, if_pos g4.1.t2]
          cases e3 : rWrd L f n q2.1 with
          | inl e =>
            rw [e3] at w4
            have w4' : zF zP 118 0 [(.inr (.inr (some 2))), (.inr (.inr (some 33)))] m4 = some (some (.inl (-1)), bdC m4 e) := w4
            rw [w4', zC1_s, if_pos rfl, if_pos zb0]
            refine ⟨fun e' h => ?_, fun q h => (nomatch h)⟩
            have h' : e = e' := Sum.inl.inj h
            rw [← h']
            exact bd_out g4 hF4
          | inr q3 =>
            rw [e3] at w4
            obtain ⟨m5, x1, x2, x3⟩ := w4
            have x1' : zF zP 118 0 [(.inr (.inr (some 2))), (.inr (.inr (some 33)))] m4 = some (some (.inl (q3.2 : Int)), m5) := x1
            have g5 := g4.tk x2 x3
            have hR5 := (pg_wrd (L := L) (f := f) hR3 q3 e3).1
            have hq3 := rWrd_lt e3
            obtain ⟨m', f1, f2, f3, f4⟩ := c_edtEnd (v := v) g5 hR5 hi hL h4 (k := edK T) (w := q.2) (o := q3.2) hlt (by omega) (by omega) (fun w => absurd w c1)
            rw [x1', zC1_s, if_neg (show ¬ (q3.2 : Int) = -1 by omega)]
            refine ⟨fun e h => (nomatch h), fun q' h => ?_⟩
            have h' : pasE f n q3.1 (edK T) q.2 q3.2 = q' := Sum.inr.inj h
            rw [← h']
            exact ⟨m', f1, (hF4.tr (tk_rd x2)).tr f2, f3, ((hfl4 q3 e3).tr (tk_fl x2)).tr f4⟩
        by_cases c0 : edK T = 0
        · have c0' : (edK T : Int) = 0 := by omega
          obtain ⟨s1, s2⟩ := c_see (v := 0) g3.1 g3.2.1 g3.2.2.1 g3.2.2.2
          rw [decide_eq_true c0, Bool.true_and, if_pos c0', if_pos g3.1.t2]
          cases e3 : sWrd L q2.1 with
          | inl e =>
            have hs : sameW L q2.1 q.2 = false := by unfold sameW; rw [e3]
            rw [s1 e e3, zC1_s, if_neg (show ¬ (-1 : Int) = (q.2 : Int) by omega), hs, if_neg (show ¬ false = true by decide)]
            exact tail (bdC m3 e) (g3.fq (bdC_fr m3 e)) (hF3.tr (fq_rd (bdC_fr m3 e))) (fun q3 w => by
              unfold rWrd at w
              rw [e3] at w; cases w)
          | inr x =>
            have hs : sameW L q2.1 q.2 = decide (x.2 = q.2) := by unfold sameW; rw [e3]
            have s2' : zF zP 117 0 [(.inr (.inr (some 2))), (.inr (.inr (some 33)))] m3 = some (some (.inl (x.2 : Int)), m3) := s2 x e3
            rw [s2', zC1_s, hs]
            by_cases cx : x.2 = q.2
            · have hf5 : zF zP 98 0 [(.inr (.inr (some 2))), .inl 5] m3 = some (some (.inl 0), bdC m3 (5, q2.1.2.1)) := c_failed (v := 0) g3.1 g3.2.1 5
              rw [if_pos (show (x.2 : Int) = (q.2 : Int) by omega), if_pos (decide_eq_true cx), if_pos g3.1.t2, hf5, zC1_s, if_pos zb0]
              refine ⟨fun e' h => ?_, fun q h => (nomatch h)⟩
              have h' : (5, q2.1.2.1) = e' := Sum.inl.inj h
              rw [← h']
              exact bd_out g3 hF3
            · rw [if_neg (show ¬ (x.2 : Int) = (q.2 : Int) by omega), if_neg (fun w => cx (of_decide_eq_true w))]
              exact tail m3 g3 hF3 (fun _ _ => hfl3)
        · have c0' : ¬ (edK T : Int) = 0 := by omega
          rw [decide_eq_false c0, Bool.false_and, if_neg c0', if_neg (show ¬ false = true by decide)]
          exact tail m3 g3 hF3 (fun _ _ => hfl3)
end SLIPC3
