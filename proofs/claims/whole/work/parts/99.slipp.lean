/-! The class's slip(). -/
section SLIPP
variable {v : Nat} {m m' : zM} {f : Nat → Nat} {n : Nat} {T : zTok} {L : zLd} {S : zSt}
theorem rd_br (h : Fr rdC m m') : Fr brC m m' := h.mono (fun b j q => by unfold rdC at q; unfold brC; omega)
theorem tk_br (h : Fr tkP m m') : Fr brC m m' := h.mono (fun b j q => Or.inl ⟨q.1, by have := q.2.1; omega⟩)
theorem c_begin (hR : R1 S m) {n : Nat} (hn : n ≤ (gTp S).length) : ∃ m', zF zP 138 v [(.inr (.inr (some 2))), .inl (n : Int)] m = some (none, m') ∧ Fr (fun b j => b = 2 ∧ 3 ≤ j) m m' ∧ TxC m' (slF S n) n ∧ TkC m' (tokAt (slF S n) n 0) ∧ zi m' 2 10 = 0 ∧ zi m' 2 11 = -1 := by
  have hS := hR.1
  have t2 : zT m 2 3 = true := hS.2.2.2.2.1.1
  obtain ⟨p1, p2, p3, p4⟩ := hR.2.2.2.1
  have hfr : Fr (fun b j => b = 2 ∧ 3 ≤ j) m (zwi (zwi (zwi (zwi m 2 3 (n : Int)) 2 5 0) 2 10 0) 2 11 (-1)) := (((Fr.wi m _ ⟨rfl, by omega⟩).tr (Fr.wi _ _ ⟨rfl, by omega⟩)).tr (Fr.wi _ _ ⟨rfl, by omega⟩)).tr (Fr.wi _ _ ⟨rfl, by omega⟩)
  have no : ∀ b j : Nat, b ≠ 2 → ¬ (fun b j => b = 2 ∧ 3 ≤ j) b j := fun b j hb q => hb q.1
  have hx : TxC (zwi (zwi (zwi (zwi m 2 3 (n : Int)) 2 5 0) 2 10 0) 2 11 (-1)) (slF S n) n := by
    refine ⟨hfr.tpS hS.2.2.2.2.1, ?_, slF_ok (by omega), fun i hi => ?_, fun i hi => ?_⟩
    · rw [zi_wi_n _ _ (Or.inr (by decide)), zi_wi_n _ _ (Or.inr (by decide)), zi_wi_n _ _ (Or.inr (by decide)), zi_wi_s]
    · rw [hfr.i (no 3 i (by decide)), p3 i (by omega)]
      have hz := zand255 ((gTp S).getD i 0)
      show _ = ((slF S n i : Nat) : Int)
      unfold slF
      rw [if_pos hi]
      omega
    · rw [hfr.l (no 4 i (by decide))]; exact p4 i hi
  have h5 : zi (zwi (zwi (zwi (zwi m 2 3 (n : Int)) 2 5 0) 2 10 0) 2 11 (-1)) 2 5 = ((0 : Nat) : Int) := by
    rw [zi_wi_n _ _ (Or.inr (by decide)), zi_wi_n _ _ (Or.inr (by decide)), zi_wi_s]; rfl
  obtain ⟨m', f1, f2, f3⟩ := c_advance (v := 0) hx (Nat.zero_le _) h5
  have hfl := tk_fl f2
  refine ⟨m', ?_, hfr.tr (f2.mono (fun b j q => ⟨q.1, by have := q.2.1; omega⟩)), hx.tk f2, f3, ?_, ?_⟩
  · rw [f_X6_begin, if_pos t2, zT_wi, if_pos t2, zT_wi, zT_wi, if_pos t2, zT_wi, zT_wi, zT_wi, if_pos t2, zT_wi, zT_wi, zT_wi, zT_wi, if_pos t2, f1, zC0_s]
  · rw [hfl.1, zi_wi_n _ _ (Or.inr (by decide)), zi_wi_s]
  · rw [hfl.2, zi_wi_s]
theorem tok0_R {f : Nat → Nat} {n : Nat} : TkR n (tokAt f n 0) := by
  obtain ⟨_, q2, q3, q4, _⟩ := tokAt_rng (f := f) (n := n) (p := 0) (Nat.zero_le n)
  exact ⟨q2, q3, q4⟩
theorem p_slip (hR : R1 S m) (x : Int) : Ex1 (zF zP 177 v [(.inr (.inr (some 0))), .inl x] m) (o_slip S x) := by
  have hS := hR.1
  have t2 : zT m 2 3 = true := hS.2.2.2.2.1.1
  have r1 : zr m 0 1 = some 2 := hS.2.1.2.1
  have r3 : zr m 0 3 = some 33 := hS.2.1.2.2.2.1
  obtain ⟨p1, p2, p3, p4⟩ := hR.2.2.2.1
  have no : Ex1 (zX zP 177 v 15 [some (.inr (.inr (some 0))), some (.inl x), none] [] m) (oNo S 5) := by
    rw [j_X10_slip_15, if_pos hS.1]; exact x1_noC hR
  unfold o_slip
  rw [f_X10_slip]
  by_cases c0 : x < 0
  · rw [if_pos c0, decide_eq_false (by omega), Bool.false_and, if_neg (by decide)]; exact no
  · rw [if_neg c0, if_pos hS.1, r1, obind, if_pos t2, p1, decide_eq_true (by omega), Bool.true_and]
    by_cases c1 : ((gTp S).length : Int) < x
    · rw [if_pos c1, decide_eq_false (by omega), if_neg (by decide)]; exact no
    · obtain ⟨n, rfl⟩ := Int.eq_ofNat_of_zero_le (show 0 ≤ x by omega)
      rw [if_neg c1, decide_eq_true (by omega), if_pos rfl, Int.toNat_natCast, j_X10_slip_21, if_pos hS.1, r1, obind, if_pos t2]
      obtain ⟨m1, a1, a2, a3, a4, a5, a6⟩ := c_begin (v := 0) hR (n := n) (by omega)
      have hs1 : Sam m m1 2 3 := a2.sam (fun b j q => by have q' : b = 2 ∧ 3 ≤ j := q; omega)
      have h33 := hs1.Ld hS.2.2.2.2.2.2.2.1
      have hdf := hs1.dfb (by omega) hR.2.2.2.2.2.2.2
      obtain ⟨m2, b1, b2, b3, b4⟩ := s_clear (v := 0) h33 (fun i hi => by
        have h := hdf i hi
        rw [show 33 + 12 + 2 * i = 45 + 2 * i by omega]
        exact h)
      have hP : ∀ b j : Nat, (fun (b _ : Nat) => b = 33 ∨ b = 33 + 8) b j → 33 ≤ b ∧ b < 61 := fun b j z => by
        have z' : b = 33 ∨ b = 33 + 8 := z
        omega
      have hs2 : Sam m1 m2 33 61 := b2.sam hP
      have hT2 : TkC m2 (tokAt (slF S n) n 0) := by
        have hT := a4
        unfold TkC at hT ⊢
        rw [hs2.i (by omega), hs2.i (by omega), hs2.i (by omega), hs2.l (by omega), hs2.i (by omega), hs2.i (by omega)]
        exact hT
      have g2 : GdC m2 (slF S n) n (tokAt (slF S n) n 0) L00 := ⟨a3.fr b2 (fun q => by have q' : (2 : Nat) = 33 ∨ (2 : Nat) = 33 + 8 := q; omega) (fun j q => by have q' : (3 : Nat) = 33 ∨ (3 : Nat) = 33 + 8 := q; omega) (fun j q => by have q' : (4 : Nat) = 33 ∨ (4 : Nat) = 33 + 8 := q; omega), hT2, hs2.Ld h33, b3⟩
      have hfl2 : FlC m1 m2 := dr_fl b2 hP
      have hF2 : Fr brC m m2 := (a2.mono (fun b j q => by have q' : b = 2 ∧ 3 ≤ j := q; exact Or.inl q')).tr (b2.mono (fun b j z => Or.inr (hP b j z)))
      have hr := c_slp (v := 0) 901 (tokAt (slF S n) n 0) L00 false none m2 (Nat.le_refl _) tok0_R g2
      have st : zF zP 127 0 [(.inr (.inr (some 2))), (.inr (.inr (some 33)))] m1 = zX zP 127 0 8 [some (.inr (.inr (some 2))), some (.inr (.inr (some 33))), some (.inl 0), some (.inl 0), none] [] m2 := by
        rw [f_X5_reads, if_pos h33.1, b1, zC0_s]
      have hr' : RcC m2 (slF S n) n (zF zP 127 0 [(.inr (.inr (some 2))), (.inr (.inr (some 33)))] m1) (rSlip S n) := by rw [st]; exact hr
      rw [a1, zC0_s, hs1.T, if_pos hS.1, hs1.r, r1, obind, if_pos hS.1, r3, obind]
      show Ex1 _ (oRead S (rSlip S n))
      cases e1 : rSlip S n with
      | inl e =>
        rw [e1] at hr'
        obtain ⟨m3, d1, d2, d3, d4, d5⟩ := hr'
        have hR3 : R1 S m3 := hR.rd (hF2.tr (rd_br d2)) d5
        obtain ⟨m4, n1, n2, n3⟩ := c_note (v := 0) hR3 d3 d4
        rw [d1, zC1_s, if_pos hR3.1.1, n1, zC0_s, if_pos rfl, if_pos n3.1.1]
        exact x1_noC n3
      | inr q =>
        rw [e1] at hr'
        obtain ⟨m3, d1, d2, d3, d4⟩ := hr'
        have hR3 : R1 S m3 := hR.rd (hF2.tr (rd_br d2)) d3.df
        have e10 : zi m3 2 10 = 0 := by rw [d4.1, hfl2.1]; exact a5
        have e11 : zi m3 2 11 = -1 := by rw [d4.2, hfl2.2]; exact a6
        have hy3 : YvC m3 41 none := by
          refine ⟨?_, fun t ht => by cases ht⟩
          rw [d2.i (by unfold rdC; omega)]
          exact b4.1
        obtain ⟨m4, n1, n2, n3⟩ := c_note (v := 0) hR3 e10 e11
        have hB4 : BvC m4 33 (q.2, none) := n2.bvC (by omega) ⟨d3.2.2.2, hy3⟩
        have hS4 := n3.1
        obtain ⟨m5, k1, k2, k3⟩ := s_copyLand (v := 0) (A := 5) (B := 33) hS4.2.2.2.2.2.2.1 hS4.2.2.2.2.2.2.2.1 (by omega) hB4
        have hR5 := n3.land k2 k3
        rw [d1, zC1_s, if_pos hR3.1.1, n1, zC0_s, if_neg (by decide), j_X10_slip_56, if_pos hS4.1, hS4.2.1.2.2.1, obind, if_pos hS4.1, hS4.2.1.2.2.2.1, obind, if_pos hS4.2.2.2.2.2.2.1.1, k1, zC0_s, if_pos hR5.1.1, hR5.1.2.1.2.2.1, obind, if_pos hR5.1.2.2.2.2.2.2.1.1, if_pos hR5.1.1, k3.1.2.1.1]
        exact x1_yesC hR5
end SLIPP
