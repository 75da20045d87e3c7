/-! MARKS of the class. -/
def o_mark (S : zSt) : Int × zSt := if (gMk S).length < 3 then oYes (wMk S (gMk S ++ [gBl S])) (((gMk S).length + 1 : Nat) : Int) else oNo S 7
def o_back (S : zSt) : Int × zSt := if (gMk S).length = 0 then oNo S 8 else oYes (wMk (wBl S ((gMk S).getD ((gMk S).length - 1) bl0)) ((gMk S).take ((gMk S).length - 1))) (((gMk S).length - 1 : Nat) : Int)
theorem getD_app_l {α : Type} {l : List α} {x d : α} {i : Nat} (h : i < l.length) : (l ++ [x]).getD i d = l.getD i d := by
  rw [List.getD_eq_getElem?_getD, List.getD_eq_getElem?_getD, List.getElem?_append_left h]
theorem getD_app_r {α : Type} {l : List α} {x d : α} : (l ++ [x]).getD l.length d = x := by
  rw [List.getD_eq_getElem?_getD, List.getElem?_append_right (Nat.le_refl _), Nat.sub_self]; rfl
theorem getD_take {α : Type} {l : List α} {d : α} {i n : Nat} (h : i < n) : (l.take n).getD i d = l.getD i d := by
  rw [List.getD_eq_getElem?_getD, List.getD_eq_getElem?_getD, List.getElem?_take, if_pos h]
section MARK
variable {v : Nat} {S : zSt} {m m' : zM}
theorem p_mark (hR : R1 S m) : Ex1 (zF zP 235 v [(.inr (.inr (some 0)))] m) (o_mark S) := by
  have hS := hR.1
  have hS' := hS
  obtain ⟨hl, hvv⟩ := hR.ll
  obtain ⟨h1, ⟨a1, a2, a3, a4, a5, a6, a7, a8⟩, ⟨gtr, gtp, gbl, gmk, glv, gdf⟩⟩ := hR
  obtain ⟨t0, ⟨r0, r1, r2, r3, r4, r5, r6, r7, r8⟩, ⟨k1, k61, k64, k65, k66⟩, tt, tp, lf, l5, l33, lm⟩ := hS
  have h3 := gmk.1
  unfold o_mark
  rw [f_X10_mark, if_pos t0, if_pos t0, r4, obind, if_pos (k61.Y (by decide)), k61.L, a4]
  by_cases c : (gMk S).length < 3
  · obtain ⟨d1, d2⟩ := lm (gMk S).length c
    obtain ⟨m', f1, f2, f3⟩ := s_copyLand (v := 0) d2 l5 (by omega) gbl
    have hS2 := f2.s1 hS'
    have e1 : ∀ _ : Unit, zadd ((gMk S).length : Int) 1 = (((gMk S).length + 1 : Nat) : Int) := fun _ => zadd_nat (k := 1) (by omega)
    have em : ∀ _ : Unit, zi m' 0 13 = ((gMk S).length : Int) := fun _ => by rw [f2.i (by omega)]; exact a4
    have hw : Sam m' (zwi m' 0 13 (((gMk S).length + 1 : Nat) : Int)) 0 1 := Sam.wi m' _ _ (by omega) (by omega)
    have hN : R1 (wMk S (gMk S ++ [gBl S])) (zwi m' 0 13 (((gMk S).length + 1 : Nat) : Int)) := by
      refine ⟨hw.s1 hS2, ⟨?_, ?_, ?_, ?_, ?_, fun f hf => ⟨?_, ?_⟩, ?_, ?_⟩, fun t ht => hw.trV (by omega) (f2.trV (by omega) (gtr t ht)), hw.tpV (by omega) (f2.tpV (by omega) gtp), hw.bvC (by omega) (f2.bvC (by omega) gbl), ⟨?_, fun i hi => hw.bvC (by omega) ?_⟩, fun p hp i hi => ?_, hw.dfb (by omega) (f2.dfb (by omega) gdf)⟩
      · rw [zi_wi_n _ _ (Or.inr (by decide)), f2.i (by omega)]; exact a1
      · show zl m' 0 15 = _
        rw [f2.l (by omega)]; exact a2
      · show zl m' 0 16 = _
        rw [f2.l (by omega)]; exact a3
      · rw [zi_wi_s]
        show _ = (((gMk S ++ [gBl S]).length : Nat) : Int)
        rw [List.length_append]; rfl
      · rw [zi_wi_n _ _ (Or.inr (by decide)), f2.i (by omega)]; exact a5
      · rw [zi_wi_n _ _ (Or.inr (by decide)), f2.i (by omega)]; exact (a6 f hf).1
      · rw [zi_wi_n _ _ (Or.inr (by decide)), f2.i (by omega)]; exact (a6 f hf).2
      · rw [zi_wi_n _ _ (Or.inr (by decide)), f2.i (by omega)]; exact a7
      · exact f2.1.trans a8
      · show (gMk S ++ [gBl S]).length ≤ 3
        rw [List.length_append]
        show (gMk S).length + 1 ≤ 3
        omega
      · have hi' : i < (gMk S).length + 1 := by
          have : i < (gMk S ++ [gBl S]).length := hi
          rw [List.length_append] at this
          exact this
        show BvC m' (75 + 28 * i) ((gMk S ++ [gBl S]).getD i bl0)
        by_cases e : i = (gMk S).length
        · subst e; rw [getD_app_r]; exact f3
        · rw [getD_app_l (by omega)]; exact f2.bvC (by omega) (gmk.2 i (by omega))
      · rw [zi_wi_n _ _ (Or.inl (by decide)), f2.i (by omega)]; exact glv p hp i hi
    rw [if_pos (by omega), if_pos c, j_X10_mark_19, if_pos t0, r4, obind, if_pos t0, a4, if_pos (k61.A (by omega) (by omega)), Int.toNat_natCast, d1, obind, if_pos t0, r2, obind, if_pos d2.1, f1, zC0_s, j_X10_mark_41, if_pos hS2.1, if_pos hS2.1, em (), e1 (), zT_wi, if_pos hS2.1, if_pos hS2.1, zi_wi_s, c_yes hN.1, zC1_s]
    exact x1_yes hN
  · rw [if_neg (by omega), if_neg c, if_pos t0, c_no hS', zC1_s]
    exact x1_no ⟨h1, ⟨a1, a2, a3, a4, a5, a6, a7, a8⟩, ⟨gtr, gtp, gbl, gmk, glv, gdf⟩⟩
theorem p_back (hR : R1 S m) : Ex1 (zF zP 236 v [(.inr (.inr (some 0)))] m) (o_back S) := by
  have hS := hR.1
  have hS' := hS
  obtain ⟨h1, ⟨a1, a2, a3, a4, a5, a6, a7, a8⟩, ⟨gtr, gtp, gbl, gmk, glv, gdf⟩⟩ := hR
  obtain ⟨t0, ⟨r0, r1, r2, r3, r4, r5, r6, r7, r8⟩, ⟨k1, k61, k64, k65, k66⟩, tt, tp, lf, l5, l33, lm⟩ := hS
  have h3 := gmk.1
  unfold o_back
  rw [f_X10_back, if_pos t0, a4]
  by_cases c : (gMk S).length = 0
  · rw [if_pos (by omega), if_pos c, j_X10_back_20, if_pos t0, c_no hS', zC1_s]
    exact x1_no ⟨h1, ⟨a1, a2, a3, a4, a5, a6, a7, a8⟩, ⟨gtr, gtp, gbl, gmk, glv, gdf⟩⟩
  · have hlt : (gMk S).length - 1 < (gMk S).length := by omega
    obtain ⟨d1, d2⟩ := lm ((gMk S).length - 1) (by omega)
    have e1 : ∀ _ : Unit, zsub ((gMk S).length : Int) 1 = (((gMk S).length - 1 : Nat) : Int) := fun _ => by rw [zsub_of (by unfold r32; omega)]; omega
    have hw : Sam m (zwi m 0 13 (((gMk S).length - 1 : Nat) : Int)) 0 1 := Sam.wi m _ _ (by omega) (by omega)
    have hS2 := hw.s1 hS'
    obtain ⟨m', f1, f2, f3⟩ := s_copyLand (v := 0) (hw.Ld l5) (hw.Ld d2) (by omega) (hw.bvC (by omega) (gmk.2 ((gMk S).length - 1) hlt))
    have hS3 := f2.s1 hS2
    have em : ∀ _ : Unit, zi m' 0 13 = (((gMk S).length - 1 : Nat) : Int) := fun _ => by rw [f2.i (by omega), zi_wi_s]
    have hN : R1 (wMk (wBl S ((gMk S).getD ((gMk S).length - 1) bl0)) ((gMk S).take ((gMk S).length - 1))) m' := by
      refine ⟨hS3, ⟨?_, ?_, ?_, ?_, ?_, fun f hf => ⟨?_, ?_⟩, ?_, ?_⟩, fun t ht => f2.trV (by omega) (hw.trV (by omega) (gtr t ht)), f2.tpV (by omega) (hw.tpV (by omega) gtp), f3, ⟨?_, fun i hi => f2.bvC (by omega) (hw.bvC (by omega) ?_)⟩, fun p hp i hi => ?_, f2.dfb (by omega) (hw.dfb (by omega) gdf)⟩
      · rw [f2.i (by omega), zi_wi_n _ _ (Or.inr (by decide))]; exact a1
      · rw [f2.l (by omega)]; exact a2
      · rw [f2.l (by omega)]; exact a3
      · rw [em ()]
        show _ = ((((gMk S).take ((gMk S).length - 1)).length : Nat) : Int)
        rw [List.length_take, Nat.min_eq_left (by omega)]
      · rw [f2.i (by omega), zi_wi_n _ _ (Or.inr (by decide))]; exact a5
      · rw [f2.i (by omega), zi_wi_n _ _ (Or.inr (by decide))]; exact (a6 f hf).1
      · rw [f2.i (by omega), zi_wi_n _ _ (Or.inr (by decide))]; exact (a6 f hf).2
      · rw [f2.i (by omega), zi_wi_n _ _ (Or.inr (by decide))]; exact a7
      · exact f2.1.trans a8
      · show ((gMk S).take ((gMk S).length - 1)).length ≤ 3
        rw [List.length_take]; omega
      · have hi' : i < (gMk S).length - 1 := by
          have : i < ((gMk S).take ((gMk S).length - 1)).length := hi
          rw [List.length_take] at this
          omega
        show BvC m (75 + 28 * i) (((gMk S).take ((gMk S).length - 1)).getD i bl0)
        rw [getD_take hi']
        exact gmk.2 i (by omega)
      · rw [f2.i (by omega), zi_wi_n _ _ (Or.inl (by decide))]; exact glv p hp i hi
    rw [if_neg (by omega), if_neg c, if_pos t0, if_pos t0, r4, obind, if_pos (k61.Y (by decide)), k61.L, if_neg (by omega), j_X10_back_27, if_pos t0, if_pos t0, a4, e1 (), zT_wi, if_pos t0]
    show Ex1 ((zr m 0 4).bind _) _
    rw [r4, obind, if_pos t0, zi_wi_s]
    show Ex1 (if zA m 61 11 (((gMk S).length - 1 : Nat) : Int) = true then _ else _) _
    rw [if_pos (k61.A (by omega) (by omega)), Int.toNat_natCast]
    show Ex1 ((zr m 61 ((gMk S).length - 1)).bind _) _
    rw [d1, obind, if_pos t0]
    show Ex1 ((zr m 0 2).bind _) _
    rw [r2, obind, if_pos l5.1, f1, zC0_s, j_X10_back_59, if_pos hS3.1, if_pos hS3.1, em (), c_yes hS3, zC1_s]
    exact x1_yes hN
end MARK
