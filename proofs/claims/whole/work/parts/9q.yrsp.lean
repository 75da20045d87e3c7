/-! The class's years(). -/
def rYrs (S : zSt) (n : Nat) : zRd zAc := rSq (gL S) (slF S n) n 301 0 (tokAt (slF S n) n 0) ([], [], [])
def oYrs (S : zSt) (r : zRd zAc) : Int × zSt := match r with
  | .inl e => oNo (wTp (wFa S (some ((e.1 : Int), (e.2 : Int)))) []) 10
  | .inr q => oYes (wBl (wTp (wFa S (some (0, -1))) []) (gL S, some q.2)) (nst q.2 : Int)
def o_years (S : zSt) (n : Int) : Int × zSt := if (decide (0 ≤ n) && (decide (n ≤ ((gTp S).length : Int)) && decide (n ≤ 300))) = true then oYrs S (rYrs S n.toNat) else oNo S 5
section YRSP
variable {v : Nat} {m m' : zM} {f : Nat → Nat} {n : Nat} {T : zTok} {L : zLd} {S : zSt}
theorem Sam.ldVy (h : Sam m m' 13 17) (hv : LdV m 5 L) : LdV m' 5 L := by
  obtain ⟨⟨w1, w2, w3⟩, ⟨l1, l2, l3⟩, ⟨p1, p2, p3⟩, o1, o2, o3⟩ := hv
  refine ⟨⟨?_, w2, fun i hi => ?_⟩, ⟨?_, l2, fun i hi => h.lnV (by omega) (l3 i hi)⟩, ⟨?_, p2, fun i hi => ?_⟩, ?_, ?_, fun i hi => ?_⟩
  · rw [h.i (by omega)]; exact w1
  · rw [h.l (by omega)]; exact w3 i hi
  · rw [h.i (by omega)]; exact l1
  · rw [h.i (by omega)]; exact p1
  · rw [h.l (by omega), h.i (by omega), h.l (by omega)]; exact p3 i hi
  · rw [h.i (by omega)]; exact o1
  · rw [h.i (by omega)]; exact o2
  · rw [h.i (by omega)]; exact o3 i hi
theorem WfA0 : WfA ([], [], []) 0 := ⟨rfl, rfl, by decide, by decide⟩
theorem rYrs_wf {n : Nat} {q : zTok × zAc} (h : rYrs S n = .inr q) : WfA q.2 0 ∧ ∃ d, Sg (gSp (gL S).2.2.1.length (gL S).2.1.length (gL S).1.length) q.2 d 0 (nst q.2) 0 q.2.1.length := by
  obtain ⟨h1, _, d, h3⟩ := rSq_ok 301 0 _ ([], [], []) q WfA0 h
  exact ⟨h1, d, h3⟩
theorem yw_br {w : Nat} (h : Fr (yw w) m m') : Fr brC m m' := h.mono (fun b j q => by unfold yw at q; unfold brC; omega)
theorem dfb_yw {w : Nat} (h : Fr (yw w) m m') (hd : DfB m) : DfB m' := fun i hi => by rw [h.i (by unfold yw; omega)]; exact hd i hi
theorem p_years (hR : R1 S m) (x : Int) : Ex1 (zF zP 178 v [(.inr (.inr (some 0))), .inl x] m) (o_years S x) := by
  have hS := hR.1
  have t2 : zT m 2 3 = true := hS.2.2.2.2.1.1
  have r1 : zr m 0 1 = some 2 := hS.2.1.2.1
  have r2 : zr m 0 2 = some 5 := hS.2.1.2.2.1
  have r3 : zr m 0 3 = some 33 := hS.2.1.2.2.2.1
  obtain ⟨p1, p2, p3, p4⟩ := hR.2.2.2.1
  have no : Ex1 (zX zP 178 v 22 [some (.inr (.inr (some 0))), some (.inl x), none] [] m) (oNo S 5) := by
    rw [j_X10_years_22, if_pos hS.1]; exact x1_noC hR
  unfold o_years
  rw [f_X10_years]
  by_cases c0 : x < 0
  · rw [if_pos c0, decide_eq_false (by omega), Bool.false_and, if_neg (by decide)]; exact no
  · rw [if_neg c0, if_pos hS.1, r1, obind, if_pos t2, p1, decide_eq_true (by omega), Bool.true_and]
    by_cases c1 : ((gTp S).length : Int) < x
    · rw [if_pos c1, decide_eq_false (by omega), Bool.false_and, if_neg (by decide)]; exact no
    · rw [if_neg c1, decide_eq_true (by omega), Bool.true_and]
      by_cases c2 : (300 : Int) < x
      · rw [if_pos c2, decide_eq_false (by omega), if_neg (by decide)]; exact no
      · obtain ⟨n, rfl⟩ := Int.eq_ofNat_of_zero_le (show 0 ≤ x by omega)
        rw [if_neg c2, decide_eq_true (by omega), if_pos rfl, Int.toNat_natCast, j_X10_years_28, if_pos hS.1, r1, obind, if_pos t2]
        obtain ⟨m1, a1, a2, a3, a4, a5, a6⟩ := c_begin (v := 0) hR (n := n) (by omega)
        have hs1 : Sam m m1 2 3 := a2.sam (fun b j q => by have q' : b = 2 ∧ 3 ≤ j := q; omega)
        have h33 := hs1.Ld hS.2.2.2.2.2.2.2.1
        have h5 := hs1.Ld hS.2.2.2.2.2.2.1
        have hL5 := hs1.ldV (by omega) hR.2.2.2.2.1.1
        have hdf := hs1.dfb (by omega) hR.2.2.2.2.2.2.2
        have hy : YrS m1 41 := h33.2.2.2.1
        have r6 : zr m1 33 6 = some 41 := h33.2.1.2.2.2.2.2.2
        have y1 := hy.1
        have s2 : Sam m1 (zwi (zwi (zwi (zwi m1 41 3 0) 41 4 0) 41 5 0) 41 6 0) 41 42 := (((Sam.wi m1 _ _ (by omega) (by omega)).tr (Sam.wi _ _ _ (by omega) (by omega))).tr (Sam.wi _ _ _ (by omega) (by omega))).tr (Sam.wi _ _ _ (by omega) (by omega))
        have yc : zF zP 3 0 [(.inr (.inr (some 41)))] m1 = some (none, zwi (zwi (zwi (zwi m1 41 3 0) 41 4 0) 41 5 0) 41 6 0) := by
          rw [f_X8_clear, if_pos (by rw [y1]; rfl), zT_wi, if_pos y1, zT_wi, zT_wi, if_pos y1, zT_wi, zT_wi, zT_wi, if_pos y1]
        have st : zF zP 158 0 [(.inr (.inr (some 2))), (.inr (.inr (some 5))), (.inr (.inr (some 41)))] m1 = yrX 0 ((0 : Nat) : Int) none (zwi (zwi (zwi (zwi m1 41 3 0) 41 4 0) 41 5 0) 41 6 0) := by
          rw [f_X9_reads, if_pos y1, yc, zC0_s]; rfl
        have a0 : AyS (zwi (zwi (zwi (zwi m1 41 3 0) 41 4 0) 41 5 0) 41 6 0) ([], [], []) 0 := by
          refine ⟨s2.Yr hy, ?_, ?_, zi_wi_s _ _ _ _, fun i hi => absurd hi (Nat.not_lt_zero i)⟩
          · rw [zi_wi_n _ _ (Or.inr (by decide)), zi_wi_n _ _ (Or.inr (by decide)), zi_wi_s]; rfl
          · rw [zi_wi_n _ _ (Or.inr (by decide)), zi_wi_s]; rfl
        generalize zwi (zwi (zwi (zwi m1 41 3 0) 41 4 0) 41 5 0) 41 6 0 = m2 at s2 yc st a0
        have hf2 : Fr (yw 0) m1 m2 := s2.fr (fun b j q1 q2 => Or.inr (Or.inl (by omega)))
        have hf2' : Fr (fun b _ => 41 ≤ b ∧ b < 45) m1 m2 := s2.fr (fun b j q1 q2 => ⟨by omega, by omega⟩)
        have g1 : GyC m1 (slF S n) n (tokAt (slF S n) n 0) (gL S) := ⟨a3, a4, h5, hL5⟩
        have g2 := g1.yr hf2' (fun b j z => z)
        have hq := c_yseq (v := 0) 301 0 (tokAt (slF S n) n 0) ([], [], []) 0 none m2 tok0_R (by omega) (Nat.zero_le _) (by omega) g2 a0 WfA0 (by decide)
        have hF2 : Fr brC m m2 := (a2.mono (fun b j q => by have q' : b = 2 ∧ 3 ≤ j := q; exact Or.inl q')).tr (yw_br hf2)
        rw [a1, zC0_s, hs1.T, if_pos hS.1, hs1.r, r1, obind, if_pos hS.1, r2, obind, if_pos hS.1, r3, obind, ← hs1.T, if_pos h33.1, ← hs1.r, r6, obind]
        show Ex1 _ (oYrs S (rYrs S n))
        cases e1 : rYrs S n with
        | inl e =>
          have e1' : rSq (gL S) (slF S n) n 301 0 (tokAt (slF S n) n 0) ([], [], []) = .inl e := e1
          rw [e1'] at hq
          obtain ⟨m3, d1, d2, d3, d4⟩ := hq
          have hR3 : R1 S m3 := hR.rd (hF2.tr (yw_br d2)) (dfb_yw (hf2.tr d2) hdf)
          obtain ⟨m4, n1, n2, n3⟩ := c_note (v := 0) hR3 d3 d4
          rw [st, d1, zC1_s, if_pos hR3.1.1, n1, zC0_s, if_pos rfl, if_pos n3.1.1]
          exact x1_noC n3
        | inr q =>
          have e1' : rSq (gL S) (slF S n) n 301 0 (tokAt (slF S n) n 0) ([], [], []) = .inr q := e1
          rw [e1'] at hq
          obtain ⟨m3, i3, u3, d1, d2, d3, d4, d5, d6, d7, d8, d9⟩ := hq
          obtain ⟨w1, w2, w3, w4⟩ := (rYrs_wf e1).1
          have hend : q.1.1 = 0 := by
            rw [if_pos rfl] at d9; exact of_decide_eq_true d9
          have hi3 : i3 ≤ 300 := by
            have := d8.1
            have := d8.2.1
            omega
          have s3 : Sam m3 (zwi m3 41 3 1) 41 42 := Sam.wi m3 _ _ (by omega) (by omega)
          have fin : yrX 0 (i3 : Int) u3 m3 = some (some (.inl 1), zwi m3 41 3 1) := by
            show zX zP 158 0 6 _ [] m3 = _
            rw [j_X9_reads_6, if_neg (by omega), if_pos d3.1.t2, y_isEnded d3, zC1_s, decide_eq_true hend, if_neg nb1, if_pos d4.1.1, d4.2.2.2.1, if_pos (show ((0 : Nat) : Int) = 0 from rfl), j_X9_reads_152, if_pos (by rw [d4.1.1]; rfl), if_pos zb1]
          have f3 : Fr (yw 0) m3 (zwi m3 41 3 1) := s3.fr (fun b j q1 q2 => Or.inr (Or.inl (by omega)))
          have yv3 : YvC (zwi m3 41 3 1) 41 (some q.2) := by
            refine ⟨zi_wi_s _ _ _ _, fun t ht => ?_⟩
            have ht' : q.2 = t := Option.some.inj ht
            rw [← ht']
            refine ⟨?_, by omega, w1, ?_, fun i hi => ?_⟩
            · rw [zi_wi_n _ _ (Or.inr (by decide))]; exact d4.2.1
            · rw [zi_wi_n _ _ (Or.inr (by decide))]; exact d4.2.2.1
            · rw [zi_wi_n _ _ (Or.inl (by decide)), zi_wi_n _ _ (Or.inl (by decide))]; exact d4.2.2.2.2 i hi
          have hx : zF zP 158 0 [(.inr (.inr (some 2))), (.inr (.inr (some 5))), (.inr (.inr (some 41)))] m1 = some (some (.inl 1), zwi m3 41 3 1) := st.trans (d1.trans fin)
          have hR3 : R1 S (zwi m3 41 3 1) := hR.rd ((hF2.tr (yw_br d2)).tr (yw_br f3)) (dfb_yw ((hf2.tr d2).tr f3) hdf)
          have e10 : zi (zwi m3 41 3 1) 2 10 = 0 := by
            rw [zi_wi_n _ _ (Or.inl (by decide)), d7.1, s2.i (by omega)]; exact a5
          have e11 : zi (zwi m3 41 3 1) 2 11 = -1 := by
            rw [zi_wi_n _ _ (Or.inl (by decide)), d7.2, s2.i (by omega)]; exact a6
          obtain ⟨m4, n1, n2, n3⟩ := c_note (v := 0) hR3 e10 e11
          have yv4 : YvC m4 41 (some q.2) := n2.yvC (by omega) yv3
          have hS4 := n3.1
          have l5 := hS4.2.2.2.2.2.2.1
          have l33 := hS4.2.2.2.2.2.2.2.1
          have hA : YrS m4 13 := l5.2.2.2.1
          have hB : YrS m4 41 := l33.2.2.2.1
          have q6 : zr m4 5 6 = some 13 := l5.2.1.2.2.2.2.2.2
          have q7 : zr m4 33 6 = some 41 := l33.2.1.2.2.2.2.2.2
          obtain ⟨m5, k1, k2, k3⟩ := s_copyYears (v := 0) hA hB (by omega) yv4
          have hR5 : R1 (wBl (wTp (wFa S (some (0, -1))) []) (gL S, some q.2)) m5 := n3.land (k2.mono (by omega) (by omega)) ⟨k2.ldVy n3.2.2.2.2.1.1, k3⟩
          have q8 : zr m5 5 6 = some 13 := hR5.1.2.2.2.2.2.2.1.2.1.2.2.2.2.2.2
          have q9 : zT m5 13 5 = true := hR5.1.2.2.2.2.2.2.1.2.2.2.1.1
          rw [hx, zC1_s, if_pos hR3.1.1, n1, zC0_s, if_neg (by decide), j_X10_years_70, if_pos hS4.1, hS4.2.1.2.2.1, obind, if_pos l5.1, q6, obind, if_pos hS4.1, hS4.2.1.2.2.2.1, obind, if_pos l33.1, q7, obind, if_pos hA.1, k1, zC0_s, if_pos hR5.1.1, hR5.1.2.1.2.2.1, obind, if_pos hR5.1.2.2.2.2.2.2.1.1, q8, obind, if_pos q9, if_pos hR5.1.1, (k3.2 q.2 rfl).2.2.2.1]
          exact x1_yesC hR5
end YRSP
