/-! The reference's live(). -/
def lqP (b j : Nat) : Prop := b = 16 ∨ (b = 0 ∧ j = 41)
section LIVE15
variable {B : Nat → Int} {v : Nat} {m m' : zM} {S : zSt} {A : zAc} {L : zLd}
theorem R2.lived {p : Int × Int × Int × Int × Int} (hR : R2 (wL S L) m) (h : Fr lqP m m') (h16 : ∀ i, i < 5 → zi m' 16 i = lv5 p i) (h41 : zi m' 0 41 = 1) : R2 (wLv (wL S L) (some p)) m' := by
  have no : ∀ j, j ≠ 41 → ¬ lqP 0 j := fun j hj => by unfold lqP; omega
  obtain ⟨h1, ⟨a1, a2, a3, a4, a5, a6, a7, a8⟩, ⟨gtr, ⟨t1, t2⟩, gbl, ⟨g1, g3⟩, glv⟩⟩ := hR
  refine ⟨h.s2 h1, ⟨?_, ?_, ?_, ?_, ?_, ?_, ?_, ⟨h41, by rw [h.1]; exact a8.2⟩⟩, fun t ht => h.tvM (by unfold lqP; omega) (by unfold lqP; omega) (fun j _ _ => by unfold lqP; omega) (gtr t ht), ⟨t1, fun i hi => by rw [h.i (by unfold lqP; omega)]; exact t2 i hi⟩, h.bvM (fun j _ _ => by unfold lqP; omega) (fun j _ _ => by unfold lqP; omega) gbl, ⟨g1, fun i hi => h.bvM (fun j _ _ => by unfold lqP; omega) (fun j _ _ => by unfold lqP; omega) (g3 i hi)⟩, fun q hq i hi => ?_⟩
  · rw [h.i (no _ (by decide))]; exact a1
  · rw [h.l (no _ (by decide))]; exact a2
  · rw [h.l (no _ (by decide))]; exact a3
  · rw [h.i (no _ (by decide))]; exact a4
  · rw [h.i (no _ (by decide))]; exact a5
  · rw [h.i (no _ (by decide))]; exact a6
  · rw [h.i (no _ (by decide))]; exact a7
  · have hq' : p = q := Option.some.inj hq
    rw [← hq']; exact h16 i hi
theorem w_live (hR : R2 S m) (hy : YrOk (gBl S)) (ht : TdOk (gL S)) (x : Int) : Ex2 (zF zP 408 v [(.inr (.inr (some 0))), .inl x] m) (o_live S x) := by
  have h0 := hR.pre
  unfold o_live
  rw [f_X11_live, if_pos hR.1.1, zT_wi, if_pos hR.1.1, m_isIn, zC1_s]
  generalize zwi (zwi m 0 1 0) 0 0 0 = m0 at h0 ⊢
  by_cases c : inR x 0 9999 = true
  · rw [if_neg (by rw [c]; decide), if_pos c]
    rw [inR_t] at c
    obtain ⟨n, rfl⟩ := Int.eq_ofNat_of_zero_le (show 0 ≤ x by omega)
    have hY : YvM m0 0 (gBl S).2 := h0.2.2.2.2.1.2.2.2.2
    have h217 : zi m0 5 (Int.toNat 217) = b01 (gBl S).2.isSome := hY.1
    rw [Int.toNat_natCast, j_X11_live_28, if_pos h0.1.1, h0.1.2.1.2.1.1, obind, if_pos (A5 h0.1 (by omega) (by omega)), h217]
    cases e : (gBl S).2 with
    | none =>
      rw [if_pos (show b01 (none : Option (List Int × List Int × List Int)).isSome = 0 from yb0), if_pos h0.1.1]
      exact x2_noC h0
    | some A =>
      obtain ⟨d, hSg⟩ := hy A e
      obtain ⟨m9, q1, q2, q3, q4⟩ := m_lives (v := 0) (S := wSt S 0) (A := A) e h0 hSg ht (show n < 65536 by omega)
      have q2' : LiM (fun j => zi m0 6 j) m9 (wSt S 0) (lvd A (gL S) n) := q2
      obtain ⟨hR9, ⟨g1, g2, g3⟩, ⟨g4, g5, g6⟩, g7, g8⟩ := q2'
      have oL : oLive S n (some A) = oYes (wLv (wL S (lvd A (gL S) n).1) (some (lv5o (lvd A (gL S) n)))) ((lvd A (gL S) n).2.1.2.1 : Int) := rfl
      have q1' : zF zP 407 0 [(.inr (.inr (some 0))), .inl (n : Int)] m0 = some (none, m9) := q1
      rw [if_neg (show ¬ b01 (some A).isSome = 0 from nb1), oL, j_X11_live_46, if_pos h0.1.1, q1', zC0_s]
      have hl : lv5o (lvd A (gL S) n) = (((lvd A (gL S) n).2.1.2.2.1 : Int), ((lvd A (gL S) n).2.1.2.2.2.1 : Int), ((lvd A (gL S) n).2.1.2.2.2.2.1 : Int), ((lvd A (gL S) n).2.1.2.2.2.2.2 : Int), b01 (lvd A (gL S) n).2.2.1) := rfl
      rw [hl]
      generalize lvd A (gL S) n = τ at hR9 g1 g2 g3 g4 g5 g6 g7 g8 ⊢
      obtain ⟨m10, h10⟩ : ∃ m10, zwi m9 16 (Int.toNat 0) (τ.2.1.2.2.1 : Int) = m10 := ⟨_, rfl⟩
      obtain ⟨m11, h11⟩ : ∃ m11, zwi m10 16 (Int.toNat 1) (τ.2.1.2.2.2.1 : Int) = m11 := ⟨_, rfl⟩
      obtain ⟨m12, h12⟩ : ∃ m12, zwi m11 16 (Int.toNat 2) (τ.2.1.2.2.2.2.1 : Int) = m12 := ⟨_, rfl⟩
      obtain ⟨m13, h13⟩ : ∃ m13, zwi m12 16 (Int.toNat 3) (τ.2.1.2.2.2.2.2 : Int) = m13 := ⟨_, rfl⟩
      obtain ⟨m14, h14⟩ : ∃ m14, zwi m13 16 (Int.toNat 4) (b01 τ.2.2.1) = m14 := ⟨_, rfl⟩
      obtain ⟨m15, h15⟩ : ∃ m15, zwi m14 0 41 1 = m15 := ⟨_, rfl⟩
      have p16 : ∀ k : Nat, lqP 16 k := fun _ => Or.inl rfl
      have f10 : Fr lqP m9 m10 := by rw [← h10]; exact (Fr.rf _ _).w2 (p16 _)
      have f11 : Fr lqP m9 m11 := by rw [← h11]; exact f10.w2 (p16 _)
      have f12 : Fr lqP m9 m12 := by rw [← h12]; exact f11.w2 (p16 _)
      have f13 : Fr lqP m9 m13 := by rw [← h13]; exact f12.w2 (p16 _)
      have f14 : Fr lqP m9 m14 := by rw [← h14]; exact f13.w2 (p16 _)
      have f15 : Fr lqP m9 m15 := by rw [← h15]; exact f14.w2 (Or.inr ⟨rfl, rfl⟩)
      have no : ∀ j, j ≠ 41 → ¬ lqP 0 j := fun j hj => by unfold lqP; omega
      have n11 := fun j (q : j ≠ 1) => (congrArg (fun z => zi z 16 j) h11).symm.trans (zi_wi_n m10 (a := 16) (k := Int.toNat 1) (b := 16) (j := j) (τ.2.1.2.2.2.1 : Int) (Or.inr q))
      have n12 := fun j (q : j ≠ 2) => (congrArg (fun z => zi z 16 j) h12).symm.trans (zi_wi_n m11 (a := 16) (k := Int.toNat 2) (b := 16) (j := j) (τ.2.1.2.2.2.2.1 : Int) (Or.inr q))
      have n13 := fun j (q : j ≠ 3) => (congrArg (fun z => zi z 16 j) h13).symm.trans (zi_wi_n m12 (a := 16) (k := Int.toNat 3) (b := 16) (j := j) (τ.2.1.2.2.2.2.2 : Int) (Or.inr q))
      have n14 := fun j (q : j ≠ 4) => (congrArg (fun z => zi z 16 j) h14).symm.trans (zi_wi_n m13 (a := 16) (k := Int.toNat 4) (b := 16) (j := j) (b01 τ.2.2.1) (Or.inr q))
      have n15 := fun j => (congrArg (fun z => zi z 16 j) h15).symm.trans (zi_wi_n m14 (a := 0) (k := 41) (b := 16) (j := j) 1 (Or.inl (by decide)))
      have s10 : zi m10 16 0 = (τ.2.1.2.2.1 : Int) := by rw [← h10]; exact zi_wi_s _ _ _ _
      have s11 : zi m11 16 1 = (τ.2.1.2.2.2.1 : Int) := by rw [← h11]; exact zi_wi_s _ _ _ _
      have s12 : zi m12 16 2 = (τ.2.1.2.2.2.2.1 : Int) := by rw [← h12]; exact zi_wi_s _ _ _ _
      have s13 : zi m13 16 3 = (τ.2.1.2.2.2.2.2 : Int) := by rw [← h13]; exact zi_wi_s _ _ _ _
      have s14 : zi m14 16 4 = b01 τ.2.2.1 := by rw [← h14]; exact zi_wi_s _ _ _ _
      have s15 : zi m15 0 41 = 1 := by rw [← h15]; exact zi_wi_s _ _ _ _
      have h16 : ∀ i, i < 5 → zi m15 16 i = lv5 ((τ.2.1.2.2.1 : Int), (τ.2.1.2.2.2.1 : Int), (τ.2.1.2.2.2.2.1 : Int), (τ.2.1.2.2.2.2.2 : Int), b01 τ.2.2.1) i := fun i hi => by
        rcases i with _ | _ | _ | _ | _ | i
        · exact (n15 0).trans ((n14 0 (by decide)).trans ((n13 0 (by decide)).trans ((n12 0 (by decide)).trans ((n11 0 (by decide)).trans s10))))
        · exact (n15 1).trans ((n14 1 (by decide)).trans ((n13 1 (by decide)).trans ((n12 1 (by decide)).trans s11)))
        · exact (n15 2).trans ((n14 2 (by decide)).trans ((n13 2 (by decide)).trans s12))
        · exact (n15 3).trans ((n14 3 (by decide)).trans s13)
        · exact (n15 4).trans s14
        · omega
      have hR15 := hR9.lived f15 h16 s15
      have S9 := hR9.1
      have S10 := f10.s2 S9
      have S11 := f11.s2 S9
      have S12 := f12.s2 S9
      have S13 := f13.s2 S9
      have S14 := f14.s2 S9
      have r40 : ∀ {mm : zM}, S2 mm → zr mm 0 40 = some 16 := fun h => h.2.1.2.2.2.2.2.2
      have k16 : ∀ {mm : zM} {i : Int}, S2 mm → 0 ≤ i → i < 5 → zA mm 16 9 i = true := fun h h1 h2 => (show ArS _ 16 9 5 from h.2.2.2.2.2.2.2.2).A h1 h2
      have w46 : zi m10 0 46 = (τ.2.1.2.2.2.1 : Int) := by rw [f10.i (no 46 (by decide))]; exact g4
      have w47 : zi m11 0 47 = (τ.2.1.2.2.2.2.1 : Int) := by rw [f11.i (no 47 (by decide))]; exact g5
      have w48 : zi m12 0 48 = (τ.2.1.2.2.2.2.2 : Int) := by rw [f12.i (no 48 (by decide))]; exact g6
      have w49 : zi m13 0 49 = b01 τ.2.2.1 := by rw [f13.i (no 49 (by decide))]; exact g7
      have w44 : zi m15 0 44 = (τ.2.1.2.1 : Int) := by rw [f15.i (no 44 (by decide))]; exact g2
      rw [if_pos S9.1, r40 S9, obind, if_pos S9.1, if_pos (k16 S9 (by decide) (by decide)), g3, h10, if_pos S10.1, r40 S10, obind, if_pos S10.1, if_pos (k16 S10 (by decide) (by decide)), w46, h11]
      dsimp only [zLet]
      rw [if_pos S11.1, r40 S11, obind, if_pos S11.1, if_pos (k16 S11 (by decide) (by decide)), w47, h12, if_pos S12.1, r40 S12, obind, if_pos S12.1, if_pos (k16 S12 (by decide) (by decide)), w48, h13, if_pos S13.1, r40 S13, obind, if_pos S13.1, if_pos (k16 S13 (by decide) (by decide)), w49, h14, if_pos (by rw [S14.1]; rfl), h15, if_pos (f15.s2 S9).1, w44]
      exact ⟨m15, rfl, hR15⟩
  · rw [if_pos (by rw [bool_f c]; rfl), if_neg c, if_pos h0.1.1]; exact x2_noC h0
end LIVE15
