/-! The class: TRAYS by their numbers, why a ROW can't be told, what a call answers. -/
def inR (x lo hi : Int) : Bool := decide (lo ≤ x) && decide (x ≤ hi)
theorem inR_t {x lo hi : Int} : inR x lo hi = true ↔ lo ≤ x ∧ x ≤ hi := by unfold inR; simp
theorem inR_f {x lo hi : Int} : inR x lo hi = false ↔ ¬ (lo ≤ x ∧ x ≤ hi) := by rw [← inR_t]; simp
theorem inR3 {x : Int} (h : inR x 0 3 = true) : ∃ t : Nat, x = (t : Int) ∧ t < 4 := by
  rw [inR_t] at h
  exact ⟨x.toNat, by omega, by omega⟩
theorem inB_nat {x : Int} {n : Nat} (h : inB x n = true) : ∃ i : Nat, x = (i : Int) ∧ i < n := by
  rw [inB_t] at h
  exact ⟨x.toNat, by omega, by omega⟩
theorem b01_ne {b : Bool} : b01 b = 0 ↔ b = false := by cases b <;> decide
theorem bool_f {b : Bool} (h : ¬ b = true) : b = false := by cases b; rfl; exact absurd rfl h
/-- STATUS of a TRAY, of a place in it, of a ROW told in it -/
def ySt (S : zSt) (x : Int) : Int := if inR x 0 3 = true then (if (gTr S x.toNat).1 = true then 0 else 3) else 1
def yPl (S : zSt) (x p : Int) : Int := if inR x 0 3 = true then (if (gTr S x.toNat).1 = true then (if inB p (gTr S x.toNat).2.2.length = true then 0 else 4) else 3) else 1
def yRw (S : zSt) (x n : Int) (told : Bool) : Int := if inR x 0 3 = true then (if told = true then (if (gTr S x.toNat).1 = true then (if ((gTr S x.toNat).2.2.length : Int) < n then 4 else if holds (gTr S x.toNat) ((gL S).1.length : Int) n = true then 0 else 5) else 3) else 2) else 1
def yLs (x y : Int) : Int := if x = 0 then zmax x y else if y = 0 then zmax x y else zmin x y
/-- the ROW told -/
def yRow (S : zSt) (x n : Int) : List Nat := toRow (gTr S x.toNat).2.2 n.toNat
section CLASS1
variable {v : Nat} {S : zSt} {m : zM}
theorem c_trayAt_t {t : Nat} (hS : S1 m) (ht : t < 4) : zF zP 163 v [(.inr (.inr (some 0))), .inl (t : Int)] m = some (some (.inr (.inr (some (67 + 2 * t)))), m) := by
  obtain ⟨t0, ⟨r0, r1, r2, r3, r4, r5, r6, r7, r8⟩, ⟨k1, k61, k64, k65, k66⟩, tt, tp, lf, l5, l33, lm⟩ := hS
  rw [f_X10_trayAt, if_neg (by omega), if_pos t0, r0, obind, if_pos (k1.Y (by decide)), k1.L, if_pos (by omega), if_pos t0, obind, if_pos (k1.A (by omega) (by omega)), Int.toNat_natCast, (tt t ht).1, obind, j_X10_trayAt_23]
theorem c_trayAt_n {x : Int} (hS : S1 m) (hx : ¬ inR x 0 3 = true) : zF zP 163 v [(.inr (.inr (some 0))), .inl x] m = some (some (.inr (.inr none)), m) := by
  obtain ⟨t0, ⟨r0, r1, r2, r3, r4, r5, r6, r7, r8⟩, ⟨k1, k61, k64, k65, k66⟩, tt, tp, lf, l5, l33, lm⟩ := hS
  rw [inR_t] at hx
  by_cases h0 : x < 0
  · rw [f_X10_trayAt, if_pos h0, j_X10_trayAt_22, j_X10_trayAt_23]
  · rw [f_X10_trayAt, if_neg h0, if_pos t0, r0, obind, if_pos (k1.Y (by decide)), k1.L, if_neg (by omega), j_X10_trayAt_22, j_X10_trayAt_23]
theorem c_lesser (x y : Int) : zF zP 172 v [.inl x, .inl y] m = some (some (.inl (yLs x y)), m) := by
  unfold yLs
  rw [f_X10_lesser]
  by_cases h : x = 0
  · rw [if_pos h, if_pos h, j_X10_lesser_8]
  · rw [if_neg h, if_neg h]
    by_cases h2 : y = 0
    · rw [if_pos h2, if_pos h2, j_X10_lesser_8]
    · rw [if_neg h2, if_neg h2, j_X10_lesser_14]
theorem c_trayStatus (hR : R1 S m) (x : Int) : zF zP 171 v [(.inr (.inr (some 0))), .inl x] m = some (some (.inl (ySt S x)), m) := by
  have hS := hR.1
  unfold ySt
  rw [f_X10_trayStatus, if_pos hS.1]
  by_cases hx : inR x 0 3 = true
  · obtain ⟨t, rfl, ht⟩ := inR3 hx
    have hv := hR.2.2.1 t ht
    rw [c_trayAt_t hS ht, zC3_s, j_X10_trayStatus_12, if_pos (hS.2.2.2.1 t ht).2.1, hv.1, if_pos hx, Int.toNat_natCast]
    by_cases e : (gTr S t).1 = true
    · rw [if_neg (by rw [e]; decide), if_pos e, j_X10_trayStatus_24]
    · rw [if_pos (by rw [bool_f e]; rfl), if_neg e, j_X10_trayStatus_23, j_X10_trayStatus_24]
  · rw [c_trayAt_n hS hx, zC3_n, if_neg hx]
theorem c_placeStatus (hR : R1 S m) (x : Int) {p : Int} (hp : r32 p) : zF zP 167 v [(.inr (.inr (some 0))), .inl x, .inl p] m = some (some (.inl (yPl S x p)), m) := by
  have hS := hR.1
  unfold yPl
  rw [f_X10_placeStatus, if_pos hS.1]
  by_cases hx : inR x 0 3 = true
  · obtain ⟨t, rfl, ht⟩ := inR3 hx
    have hv := hR.2.2.1 t ht
    have hT := (hS.2.2.2.1 t ht).2
    rw [c_trayAt_t hS ht, zC3_s, j_X10_placeStatus_12, if_pos hT.1, hv.1, if_pos hx, Int.toNat_natCast]
    by_cases e : (gTr S t).1 = true
    · rw [if_neg (by rw [e]; decide), if_pos e, j_X10_placeStatus_21, if_pos hT.1, s_hasStretch hT hv hp (by unfold r32; omega), zC1_s]
      have e2 : (decide (0 ≤ p) && (decide ((0 : Int) ≤ 1) && decide (p + 1 ≤ ((gTr S t).2.2.length : Int)))) = inB p (gTr S t).2.2.length := by
        unfold inB
        rw [decide_eq_true (by omega : (0 : Int) ≤ 1), Bool.true_and]
        congr 1
      rw [e2]
      by_cases e3 : inB p (gTr S t).2.2.length = true
      · rw [if_neg (by rw [e3]; decide), if_pos e3, j_X10_placeStatus_35]
      · rw [if_pos (by rw [bool_f e3]; rfl), if_neg e3, j_X10_placeStatus_34, j_X10_placeStatus_35]
    · rw [if_pos (by rw [bool_f e]; rfl), if_neg e]
  · rw [c_trayAt_n hS hx, zC3_n, if_neg hx]
theorem c_rowStatus (hR : R1 S m) (x n : Int) (told : Bool) : zF zP 193 v [(.inr (.inr (some 0))), .inl x, .inl n, .inl (b01 told)] m = some (some (.inl (yRw S x n told)), m) := by
  have hS := hR.1
  unfold yRw
  rw [f_X10_rowStatus, if_pos hS.1]
  by_cases hx : inR x 0 3 = true
  · obtain ⟨t, rfl, ht⟩ := inR3 hx
    have hv := hR.2.2.1 t ht
    have hT := (hS.2.2.2.1 t ht).2
    rw [c_trayAt_t hS ht, zC3_s, j_X10_rowStatus_14, if_pos hx, Int.toNat_natCast]
    by_cases e0 : told = true
    · rw [if_neg (by rw [e0]; decide), if_pos e0, j_X10_rowStatus_20, if_pos hT.1, hv.1]
      by_cases e : (gTr S t).1 = true
      · rw [if_neg (by rw [e]; decide), if_pos e, j_X10_rowStatus_30, if_pos hT.1, hv.2.2.1]
        by_cases e1 : ((gTr S t).2.2.length : Int) < n
        · rw [if_pos e1, if_pos e1]
        · rw [if_neg e1, if_neg e1, j_X10_rowStatus_41, if_pos hS.1, hS.2.1.2.2.1, obind, if_pos hS.2.2.2.2.2.2.1.1, if_pos hT.1, hR.2.2.2.2.1.1.1.1, s_holdsRow hT hv, zC1_s]
          by_cases e2 : holds (gTr S t) ((gL S).1.length : Int) n = true
          · rw [if_neg (by rw [e2]; decide), if_pos e2, j_X10_rowStatus_62]
          · rw [if_pos (by rw [bool_f e2]; rfl), if_neg e2, j_X10_rowStatus_61, j_X10_rowStatus_62]
      · rw [if_pos (by rw [bool_f e]; rfl), if_neg e]
    · rw [if_pos (by rw [bool_f e0]; rfl), if_neg e0]
  · rw [c_trayAt_n hS hx, zC3_n, if_neg hx]
/-- a ROW whose STATUS is 0 -/
theorem yRw0 {x n : Int} {told : Bool} (h : yRw S x n told = 0) : ∃ t k : Nat, x = (t : Int) ∧ t < 4 ∧ n = (k : Int) ∧ k ≤ 8 ∧ told = true ∧ (gTr S t).1 = true ∧ k ≤ (gTr S t).2.2.length ∧ yRow S x n = toRow (gTr S t).2.2 k ∧ (∀ i, i < k → 0 ≤ (gTr S t).2.2.getD i 0 ∧ (gTr S t).2.2.getD i 0 < ((gL S).1.length : Int)) := by
  unfold yRw at h
  by_cases hx : inR x 0 3 = true
  · obtain ⟨t, rfl, ht⟩ := inR3 hx
    rw [if_pos hx, Int.toNat_natCast] at h
    by_cases e0 : told = true
    · rw [if_pos e0] at h
      by_cases e : (gTr S t).1 = true
      · rw [if_pos e] at h
        by_cases e1 : ((gTr S t).2.2.length : Int) < n
        · rw [if_pos e1] at h; omega
        · rw [if_neg e1] at h
          by_cases e2 : holds (gTr S t) ((gL S).1.length : Int) n = true
          · unfold holds at e2
            simp only [Bool.and_eq_true, decide_eq_true_eq] at e2
            obtain ⟨q1, q2, q3, q4⟩ := e2
            refine ⟨t, n.toNat, rfl, ht, by omega, by omega, e0, e, by omega, ?_, fun i hi => allW_get _ _ q4 i (by omega) (by omega)⟩
            unfold yRow; rw [Int.toNat_natCast]
          · rw [if_neg e2] at h; omega
      · rw [if_neg e] at h; omega
    · rw [if_neg e0] at h; omega
  · rw [if_neg hx] at h; omega
theorem R1.w16 (hR : R1 S m) : ((gL S).1.length : Int) ≤ 16 := by have := hR.2.2.2.2.1.1.1.2.1; show ((gBl S).1.1.length : Int) ≤ 16; omega
theorem yRow_ok (hw : ((gL S).1.length : Int) ≤ 16) {x n : Int} {told : Bool} (h : yRw S x n told = 0) : rOk (yRow S x n) := by
  obtain ⟨t, k, rfl, ht, rfl, h8, e0, e, hk, hr, hg⟩ := yRw0 h
  rw [hr]
  exact toRow_ok hw hk h8 hg
theorem c_rowIn (hR : R1 S m) {x n : Int} {told : Bool} (h : yRw S x n told = 0) : zF zP 194 v [(.inr (.inr (some 0))), .inl x, .inl n] m = some (some (.inr (.inl (zrow (yRow S x n)))), m) := by
  have hS := hR.1
  obtain ⟨t, k, rfl, ht, rfl, h8, e0, e, hk, hr, hg⟩ := yRw0 h
  have hv := hR.2.2.1 t ht
  have hT := (hS.2.2.2.1 t ht).2
  rw [f_X10_rowIn, if_pos hS.1, c_trayAt_t hS ht, zC3_s, j_X10_rowIn_14, if_pos hT.1, s_firstRow hT hv hR.w16 hk h8 hg, zC2_s, j_X10_rowIn_19, hr]
/-- a word of a row, or none -/
def oWd (S : zSt) (l : List Nat) (k : Int) : Int × zSt := if inB k l.length = true then (((l.getD k.toNat 0 : Nat) : Int), wSt S 0) else (-1, wSt S 8)
theorem c_wordOrNone (hR : R1 S m) {l : List Nat} (hl : rOk l) (k : Int) : ∃ m', zF zP 186 v [(.inr (.inr (some 0))), .inr (.inl (zrow l)), .inl k] m = some (some (.inl (oWd S l k).1), m') ∧ R1 (oWd S l k).2 m' := by
  have h8 := hl.1
  have hne : ¬ zlcmp (zrow l) (-1) = 0 := fun q => zrow_ne (zlcmp_eq.mp q)
  unfold oWd
  by_cases e : inB k l.length = true
  · obtain ⟨i, rfl, hi⟩ := inB_nat e
    refine ⟨zwi m 0 14 0, ?_, by rw [if_pos e]; exact hR.st⟩
    rw [f_X10_wordOrNone, if_neg hne, if_neg (by omega), s_size hl, zC1_s, if_pos (by omega), j_X10_wordOrNone_27, s_wordAt hl (by omega), zC1_s, if_pos hR.1.1, c_yes hR.1, zC1_s, if_pos e, Int.toNat_natCast]
  · refine ⟨zwi m 0 14 8, ?_, by rw [if_neg e]; exact hR.st⟩
    rw [f_X10_wordOrNone, if_neg hne]
    rw [inB_t] at e
    have f : zX zP 186 v 20 [some (.inr (.inr (some 0))), some (.inr (.inl (zrow l))), none, some (.inl k)] [] m = some (some (.inl (-1)), zwi m 0 14 8) := by
      rw [j_X10_wordOrNone_20, if_pos hR.1.1, c_no hR.1, zC1_s]
    by_cases h0 : k < 0
    · rw [if_pos h0, f, if_neg (by rw [inB_t]; omega)]
    · rw [if_neg h0, s_size hl, zC1_s, if_neg (by omega), f, if_neg (by rw [inB_t]; omega)]
/-- a TRAY changed -/
theorem R1.tr {t : Nat} {x : zTr} {m' : zM} (hR : R1 S m) (ht : t < 4) (hs : Sam m m' (67 + 2 * t) (69 + 2 * t)) (hv : TrV m' (67 + 2 * t) x) : R1 (wTr S t x) m' := by
  obtain ⟨h1, h2, ⟨gtr, gtp, gbl, gmk, glv, gdf⟩⟩ := hR
  have h3 := gmk.1
  refine ⟨hs.s1 h1, hs.h1 (by omega) h2, fun j hj => ?_, hs.tpV (by omega) gtp, hs.bvC (by omega) gbl, ⟨gmk.1, fun i hi => hs.bvC (by omega) (gmk.2 i hi)⟩, fun p hp i hi => ?_, hs.dfb (by omega) gdf⟩
  · by_cases e : j = t
    · subst e
      show TrV m' (67 + 2 * j) (if j = j then x else gTr S j)
      rw [if_pos rfl]; exact hv
    · show TrV m' (67 + 2 * j) (if j = t then x else gTr S j)
      rw [if_neg e]; exact hs.trV (by omega) (gtr j hj)
  · rw [hs.i (by omega)]; exact glv p hp i hi
/-- a ROW put into a TRAY -/
def oPut (S : zSt) (l : List Nat) (x : Int) : Int × zSt := if ySt S x = 0 then (if ((gTr S x.toNat).2.2.length : Int) < (l.length : Int) then (-1, wSt S 4) else ((l.length : Int), wSt (wTr S x.toNat ((gTr S x.toNat).1, (gTr S x.toNat).2.1, putF l 0 (gTr S x.toNat).2.2)) 0)) else (-1, wSt S (ySt S x))
theorem ySt0 {x : Int} (h : ySt S x = 0) : ∃ t : Nat, x = (t : Int) ∧ t < 4 ∧ (gTr S t).1 = true := by
  unfold ySt at h
  by_cases hx : inR x 0 3 = true
  · obtain ⟨t, rfl, ht⟩ := inR3 hx
    rw [if_pos hx, Int.toNat_natCast] at h
    by_cases e : (gTr S t).1 = true
    · exact ⟨t, rfl, ht, e⟩
    · rw [if_neg e] at h; omega
  · rw [if_neg hx] at h; omega
theorem c_putRow (hR : R1 S m) {l : List Nat} (hl : rOk l) (x : Int) : ∃ m', zF zP 188 v [(.inr (.inr (some 0))), .inr (.inl (zrow l)), .inl x] m = some (some (.inl (oPut S l x).1), m') ∧ R1 (oPut S l x).2 m' := by
  have hS := hR.1
  unfold oPut
  by_cases e : ySt S x = 0
  · obtain ⟨t, rfl, ht, e2⟩ := ySt0 e
    have hv := hR.2.2.1 t ht
    have hT := (hS.2.2.2.1 t ht).2
    rw [if_pos e, Int.toNat_natCast]
    by_cases e3 : ((gTr S t).2.2.length : Int) < (l.length : Int)
    · refine ⟨zwi m 0 14 4, ?_, by rw [if_pos e3]; exact hR.st⟩
      rw [f_X10_putRow, if_pos hS.1, c_trayStatus hR, zC1_s, if_pos hS.1, c_trayAt_t hS ht, zC3_s, if_pos e, j_X10_putRow_31, if_pos hT.1, s_size hl, zC1_s, hv.2.2.1, if_pos e3, if_pos hS.1, c_no hS, zC1_s, if_pos e3]
    · obtain ⟨m1, f1, f2, f3⟩ := s_putFirst (v := 0) hl hT hv (by omega)
      have hR1 := hR.tr ht (f2.mono (Nat.le_refl _) (by omega)) f3
      refine ⟨zwi m1 0 14 0, ?_, by rw [if_neg e3]; exact hR1.st⟩
      rw [f_X10_putRow, if_pos hS.1, c_trayStatus hR, zC1_s, if_pos hS.1, c_trayAt_t hS ht, zC3_s, if_pos e, j_X10_putRow_31, if_pos hT.1, s_size hl, zC1_s, hv.2.2.1, if_neg e3, j_X10_putRow_49, if_pos hT.1, f1, zC0_s, s_size hl, zC1_s, if_pos hR1.1.1, c_yes hR1.1, zC1_s, if_neg e3]
  · refine ⟨zwi m 0 14 (ySt S x), ?_, by rw [if_neg e]; exact hR.st⟩
    rw [if_neg e, f_X10_putRow, if_pos hS.1, c_trayStatus hR, zC1_s, if_pos hS.1]
    by_cases hx : inR x 0 3 = true
    · obtain ⟨t, rfl, ht⟩ := inR3 hx
      rw [c_trayAt_t hS ht, zC3_s, if_neg e, j_X10_putRow_24, if_pos hS.1, c_no hS, zC1_s]
    · rw [c_trayAt_n hS hx, zC3_n, if_neg e, j_X10_putRow_24, if_pos hS.1, c_no hS, zC1_s]
end CLASS1
