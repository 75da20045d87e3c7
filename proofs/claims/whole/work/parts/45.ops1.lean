/-! What calls answer and do: TRAYS. -/
def oNo (S : zSt) (x : Int) : Int × zSt := (-1, wSt S x)
def oYes (S : zSt) (a : Int) : Int × zSt := (a, wSt S 0)
def oF (S : zSt) (x : Int) : Int × zSt := (0, wSt S x)
def oT (S : zSt) : Int × zSt := (1, wSt S 0)
def Ex1 (o : Option zO) (q : Int × zSt) : Prop := ∃ m', o = some (some (.inl q.1), m') ∧ R1 q.2 m'
def Ex2 (o : Option zO) (q : Int × zSt) : Prop := ∃ m', o = some (some (.inl q.1), m') ∧ R2 q.2 m'
def Ex1L (o : Option zO) (q : Int × zSt) : Prop := ∃ m', o = some (some (.inr (.inl q.1)), m') ∧ R1 q.2 m'
def Ex2L (o : Option zO) (q : Int × zSt) : Prop := ∃ m', o = some (some (.inr (.inl q.1)), m') ∧ R2 q.2 m'
theorem zlt_ge {x k : Int} (h : ¬ x < k) : k ≤ x := Int.not_lt.mp h
section OPS1
variable {v : Nat} {S : zSt} {m m' : zM} {x a : Int}
theorem x1_no (hR : R1 S m) : Ex1 (some (some (.inl (-1)), zwi m 0 14 x)) (oNo S x) := ⟨_, rfl, hR.st⟩
theorem x1_yes (hR : R1 S m) : Ex1 (some (some (.inl a), zwi m 0 14 0)) (oYes S a) := ⟨_, rfl, hR.st⟩
theorem x1_f (hR : R1 S m) : Ex1 (some (some (.inl 0), zwi m 0 14 x)) (oF S x) := ⟨_, rfl, hR.st⟩
theorem x1_t (hR : R1 S m) : Ex1 (some (some (.inl 1), zwi m 0 14 0)) (oT S) := ⟨_, rfl, hR.st⟩
theorem x2_no (hR : R2 (wSt S 0) m) : Ex2 (some (some (.inl (-1)), zwi m 0 0 x)) (oNo S x) := ⟨_, rfl, hR.st⟩
theorem x2_f (hR : R2 (wSt S 0) m) : Ex2 (some (some (.inl 0), zwi m 0 0 x)) (oF S x) := ⟨_, rfl, hR.st⟩
theorem x2_yes (hR : R2 (wSt S 0) m) : Ex2 (some (some (.inl a), m)) (oYes S a) := ⟨_, rfl, hR⟩
theorem x2_t (hR : R2 (wSt S 0) m) : Ex2 (some (some (.inl 1), m)) (oT S) := ⟨_, rfl, hR⟩
theorem p_status (hR : R1 S m) : Ex1 (zF zP 160 v [(.inr (.inr (some 0)))] m) (gSt S, S) := ⟨m, by rw [f_X10_status, if_pos hR.1.1, hR.2.1.1], hR⟩
theorem w_status (hR : R2 S m) : Ex2 (zF zP 238 v [(.inr (.inr (some 0)))] m) (gSt S, S) := by
  refine ⟨_, ?_, hR.th (x := 0)⟩
  rw [f_X11_status, if_pos hR.1.1, zT_wi, if_pos hR.1.1, hR.th.2.1.1]
theorem p_top (hR : R1 S m) : Ex1L (zF zP 161 v [(.inr (.inr (some 0)))] m) ((gFr S).1, S) := ⟨m, by rw [f_X10_top, if_pos hR.1.1, hR.2.1.2.1], hR⟩
theorem w_top (hR : R2 S m) : Ex2L (zF zP 239 v [(.inr (.inr (some 0)))] m) ((gFr S).1, S) := by
  refine ⟨_, ?_, hR.th (x := 0)⟩
  rw [f_X11_top, if_pos hR.1.1, zT_wi, if_pos hR.1.1, hR.th.2.1.2.1]
theorem p_bottom (hR : R1 S m) : Ex1L (zF zP 162 v [(.inr (.inr (some 0)))] m) ((gFr S).2, S) := ⟨m, by rw [f_X10_bottom, if_pos hR.1.1, hR.2.1.2.2.1], hR⟩
theorem w_bottom (hR : R2 S m) : Ex2L (zF zP 240 v [(.inr (.inr (some 0)))] m) ((gFr S).2, S) := by
  refine ⟨_, ?_, hR.th (x := 0)⟩
  rw [f_X11_bottom, if_pos hR.1.1, zT_wi, if_pos hR.1.1, hR.th.2.1.2.2.1]
/-- tray -/
def o_tray (S : zSt) (t s n : Int) : Int × zSt := if inR t 0 3 = true then (if inR s 0 3 = true then (if 60 < n then oF S 5 else if n < 0 then oF S 6 else oT (wTr S t.toNat (true, s, List.replicate n.toNat 0))) else oF S 1) else oF S 1
theorem p_tray (hR : R1 S m) (t s n : Int) : Ex1 (zF zP 166 v [(.inr (.inr (some 0))), .inl t, .inl s, .inl n] m) (o_tray S t s n) := by
  have hS := hR.1
  have f21 : ∀ r, zX zP 166 v 21 [some (.inr (.inr (some 0))), some (.inl t), some (.inl s), some (.inl n), some (.inr (.inr r))] [] m = some (some (.inl 0), zwi m 0 14 1) := fun r => by
    rw [j_X10_tray_21, if_pos hS.1, c_refused hS, zC1_s, if_pos zb0]
  unfold o_tray
  rw [f_X10_tray, if_pos hS.1]
  by_cases h : inR t 0 3 = true
  · obtain ⟨k, rfl, hk⟩ := inR3 h
    have hT := (hS.2.2.2.1 k hk).2
    rw [if_pos h, c_trayAt_t hS hk, zC3_s]
    by_cases h2 : inR s 0 3 = true
    · rw [if_pos h2]
      rw [inR_t] at h2
      rw [if_neg (by omega), if_neg (by omega), j_X10_tray_27]
      by_cases h3 : 60 < n
      · rw [if_pos h3, if_pos h3, if_pos hS.1, c_refused hS, zC1_s, if_pos zb0]; exact x1_f hR
      · rw [if_neg h3, if_neg h3, j_X10_tray_39]
        by_cases h4 : n < 0
        · rw [if_pos h4, if_pos h4, if_pos hS.1, c_refused hS, zC1_s, if_pos zb0]; exact x1_f hR
        · rw [if_neg h4, if_neg h4]
          obtain ⟨N, rfl⟩ := Int.eq_ofNat_of_zero_le (zlt_ge h4)
          obtain ⟨m1, e1, e2, e3⟩ := s_become (v := 0) (y := N) hT (x := s) (by omega) (by omega)
          have hR1 := hR.tr hk (e2.mono (Nat.le_refl _) (by omega)) e3
          rw [j_X10_tray_50, if_pos hT.1, e1, zC0_s, if_pos hR1.1.1, c_granted hR1.1, zC1_s, if_pos zb1, Int.toNat_natCast, Int.toNat_natCast]
          exact x1_t hR1
    · rw [if_neg h2]
      rw [inR_t] at h2
      by_cases h5 : s < 0
      · rw [if_pos h5, f21]; exact x1_f hR
      · rw [if_neg h5, if_pos (by omega), f21]; exact x1_f hR
  · rw [if_neg h, c_trayAt_n hS h, zC3_n, f21]; exact x1_f hR
def trP (t b j : Nat) : Prop := (b = 1 ∧ j = t) ∨ (b = 2 ∧ j = t) ∨ (b = 3 ∧ 60 * t ≤ j ∧ j < 60 * t + 60)
theorem R2.tr {t : Nat} {x : zTr} (hR : R2 S m) (h : Fr (trP t) m m') (hx : TvM m' t x) : R2 (wTr S t x) m' := by
  obtain ⟨h1, h2, ⟨gtr, ⟨t1, t2⟩, gbl, ⟨g1, g3⟩, glv⟩⟩ := hR
  refine ⟨h.s2 h1, h.h2 (fun j hj => by unfold trP; omega) h2, fun j hj => ?_, ⟨t1, fun i hi => by rw [h.i (by unfold trP; omega)]; exact t2 i hi⟩, h.bvM (fun j _ _ => by unfold trP; omega) (fun j _ _ => by unfold trP; omega) gbl, ⟨g1, fun i hi => h.bvM (fun j _ _ => by unfold trP; omega) (fun j _ _ => by unfold trP; omega) (g3 i hi)⟩, fun p hp i hi => by rw [h.i (by unfold trP; omega)]; exact glv p hp i hi⟩
  by_cases e : j = t
  · subst e
    show TvM m' j (if j = j then x else gTr S j)
    rw [if_pos rfl]; exact hx
  · show TvM m' j (if j = t then x else gTr S j)
    rw [if_neg e]; exact h.tvM (by unfold trP; omega) (by unfold trP; omega) (fun i _ _ => by unfold trP; omega) (gtr j hj)
theorem w_tray_loop {t N : Nat} {s : Int} (ht : t < 4) (hN : N ≤ 60) : ∀ (n k : Nat) (m : zM), S2 m → k + n = N → (∀ j, j < k → zl m 3 (60 * t + j) = 0) →
    ∃ m', zX zP 246 v 74 [some (.inr (.inr (some 0))), some (.inl (t : Int)), some (.inl s), some (.inl (N : Int)), some (.inl (k : Int))] [] m = some (some (.inl 1), m') ∧ Fr (fun b j => b = 3 ∧ 60 * t ≤ j ∧ j < 60 * t + 60) m m' ∧ (∀ j, j < N → zl m' 3 (60 * t + j) = 0) := by
  have e1 : zmul 60 (t : Int) = ((60 * t : Nat) : Int) := zmul_nat (n := 60) (by omega)
  intro n
  induction n with
  | zero =>
    intro k m hS hk hB
    exact ⟨m, by rw [j_X11_tray_74, if_neg (by omega), j_X11_tray_99, if_pos zb1], Fr.rf _ _, fun j hj => hB j (by omega)⟩
  | succ n ih =>
    intro k m hS hk hB
    have e2 : zadd ((60 * t : Nat) : Int) (k : Int) = ((60 * t + k : Nat) : Int) := zadd_nat (by omega)
    have hw : Fr (fun b j => b = 3 ∧ 60 * t ≤ j ∧ j < 60 * t + 60) m (zwl m 3 (60 * t + k) 0) := Fr.wl m _ ⟨rfl, by omega, by omega⟩
    obtain ⟨m', f1, f2, f3⟩ := ih (k + 1) _ (hw.s2 hS) (by omega) (fun j hj => by
      by_cases e : j = k
      · subst e; rw [zl_wl_s]
      · rw [zl_wl_off _ _ (Or.inr (by omega))]; exact hB j (by omega))
    refine ⟨m', ?_, hw.tr f2, f3⟩
    rw [j_X11_tray_74, if_pos (by omega), if_pos hS.1, hS.2.1.1.2.2.1, obind, e1, e2, if_pos (hS.2.2.1.2.2.1.A (by omega) (by omega)), Int.toNat_natCast, zadd1 (by omega)]
    exact f1
theorem w_tray (hR : R2 S m) (t s n : Int) : Ex2 (zF zP 246 v [(.inr (.inr (some 0))), .inl t, .inl s, .inl n] m) (o_tray S t s n) := by
  have h0 := hR.pre
  unfold o_tray
  rw [f_X11_tray, if_pos hR.1.1, zT_wi, if_pos hR.1.1]
  generalize zwi (zwi m 0 1 0) 0 0 0 = m0 at h0 ⊢
  have f28 : zX zP 246 v 28 [some (.inr (.inr (some 0))), some (.inl t), some (.inl s), some (.inl n), none] [] m0 = some (some (.inl 0), zwi m0 0 0 1) := by
    rw [j_X11_tray_28, if_pos h0.1.1, m_no h0.1, zC1_s, if_pos zb0]
  by_cases h : inR t 0 3 = true
  · obtain ⟨k, rfl, hk⟩ := inR3 h
    rw [if_pos h, if_neg (by omega), if_pos (by omega)]
    by_cases h2 : inR s 0 3 = true
    · rw [if_pos h2]
      rw [inR_t] at h2
      rw [if_neg (by omega), if_neg (by omega), j_X11_tray_34]
      by_cases h3 : 60 < n
      · rw [if_pos h3, if_pos h3, if_pos h0.1.1, m_no h0.1, zC1_s, if_pos zb0]; exact x2_f h0
      · rw [if_neg h3, if_neg h3, j_X11_tray_46]
        by_cases h4 : n < 0
        · rw [if_pos h4, if_pos h4, if_pos h0.1.1, m_no h0.1, zC1_s, if_pos zb0]; exact x2_f h0
        · rw [if_neg h4, if_neg h4]
          obtain ⟨N, rfl⟩ := Int.eq_ofNat_of_zero_le (zlt_ge h4)
          have w1 : Fr (trP k) m0 (zwi (zwi m0 1 k s) 2 k (N : Int)) := (Fr.wi m0 s (Or.inl ⟨rfl, rfl⟩)).tr (Fr.wi _ _ (Or.inr (Or.inl ⟨rfl, rfl⟩)))
          obtain ⟨m1, e1, e2, e3⟩ := w_tray_loop (v := v) (s := s) (t := k) (N := N) hk (by omega) N 0 _ (w1.s2 h0.1) (by omega) (fun j hj => absurd hj (Nat.not_lt_zero j))
          have w2 : Fr (trP k) m0 m1 := w1.tr (e2.mono (fun b j q => Or.inr (Or.inr q)))
          have hv : TvM m1 k (true, s, List.replicate N 0) := by
            refine ⟨?_, ?_, ?_, (by show 0 ≤ s ∧ s < 4; omega), fun _ j hj => ?_⟩
            · rw [e2.i (by omega), zi_wi_n _ _ (Or.inl (by decide)), zi_wi_s]
            · rw [e2.i (by omega), zi_wi_s, if_pos rfl, List.length_replicate]
            · rw [List.length_replicate]; omega
            · rw [List.length_replicate] at hj
              rw [e3 j hj, List.getD_eq_getElem?_getD, List.getElem?_replicate, if_pos hj]; rfl
          rw [j_X11_tray_57, if_pos h0.1.1, h0.1.2.1.1.1, obind, if_pos (h0.1.2.2.1.1.A (by omega) (by omega)), Int.toNat_natCast, zT_wi, if_pos h0.1.1, zr_wi, h0.1.2.1.1.2.1, obind, zA_wi, if_pos (h0.1.2.2.1.2.1.A (by omega) (by omega)), Int.toNat_natCast]
          have e0 : ((0 : Nat) : Int) = 0 := rfl
          rw [e0] at e1
          rw [e1]
          exact ⟨m1, rfl, h0.tr w2 hv⟩
    · rw [if_neg h2]
      rw [inR_t] at h2
      by_cases h5 : s < 0
      · rw [if_pos h5, f28]; exact x2_f h0
      · rw [if_neg h5, if_pos (by omega), f28]; exact x2_f h0
  · rw [if_neg h]
    rw [inR_t] at h
    by_cases h5 : t < 0
    · rw [if_pos h5, f28]; exact x2_f h0
    · rw [if_neg h5, if_neg (by omega), f28]; exact x2_f h0
/-- write, read -/
def o_write (S : zSt) (t p y : Int) : Int × zSt := if yPl S t p = 0 then oT (wTr S t.toNat ((gTr S t.toNat).1, (gTr S t.toNat).2.1, (gTr S t.toNat).2.2.set p.toNat (zcut (gTr S t.toNat).2.1 y))) else oF S (yPl S t p)
def o_read (S : zSt) (t p : Int) : Int × zSt := if yPl S t p = 0 then oYes S ((gTr S t.toNat).2.2.getD p.toNat 0) else oNo S (yPl S t p)
theorem yPl0 {t p : Int} (h : yPl S t p = 0) : ∃ k i : Nat, t = (k : Int) ∧ k < 4 ∧ p = (i : Int) ∧ i < (gTr S k).2.2.length ∧ (gTr S k).1 = true := by
  unfold yPl at h
  by_cases hx : inR t 0 3 = true
  · obtain ⟨k, rfl, hk⟩ := inR3 hx
    rw [if_pos hx, Int.toNat_natCast] at h
    by_cases e : (gTr S k).1 = true
    · rw [if_pos e] at h
      by_cases e2 : inB p (gTr S k).2.2.length = true
      · obtain ⟨i, rfl, hi⟩ := inB_nat e2
        exact ⟨k, i, rfl, hk, rfl, hi, e⟩
      · rw [if_neg e2] at h; omega
    · rw [if_neg e] at h; omega
  · rw [if_neg hx] at h; omega
theorem yPl_ge (S : zSt) (t p : Int) : 0 ≤ yPl S t p := by
  unfold yPl
  split
  · split
    · split <;> omega
    · omega
  · omega
theorem p_write (hR : R1 S m) (t : Int) {p : Int} (hp : r32 p) (y : Int) : Ex1 (zF zP 168 v [(.inr (.inr (some 0))), .inl t, .inl p, .inr (.inl y)] m) (o_write S t p y) := by
  have hS := hR.1
  unfold o_write
  rw [f_X10_write, if_pos hS.1, c_placeStatus hR t hp, zC1_s, if_pos hS.1]
  by_cases h : yPl S t p = 0
  · obtain ⟨k, i, rfl, hk, rfl, hi, e⟩ := yPl0 h
    have hT := (hS.2.2.2.1 k hk).2
    have hv := hR.2.2.1 k hk
    have h60 := hv.2.2.2.1
    have hR1 := hR.tr hk ((Sam.wl m (a := 67 + 2 * k + 1) i (zcut (gTr S k).2.1 y) (lo := 67 + 2 * k) (hi := 69 + 2 * k) (by omega) (by omega))) (hv.put (x := zcut (gTr S k).2.1 y) hi)
    rw [c_trayAt_t hS hk, zC3_s, if_pos h, if_pos h, j_X10_write_32, if_pos hT.1, s_put hT hv (by omega), zC0_s, if_pos hR1.1.1, c_granted hR1.1, zC1_s, if_pos zb1, Int.toNat_natCast, Int.toNat_natCast]
    exact x1_t hR1
  · rw [if_neg h]
    by_cases hx : inR t 0 3 = true
    · obtain ⟨k, rfl, hk⟩ := inR3 hx
      rw [c_trayAt_t hS hk, zC3_s, if_neg h, j_X10_write_25, if_pos hS.1, c_refused hS, zC1_s, if_pos zb0]; exact x1_f hR
    · rw [c_trayAt_n hS hx, zC3_n, if_neg h, j_X10_write_25, if_pos hS.1, c_refused hS, zC1_s, if_pos zb0]; exact x1_f hR
theorem p_read (hR : R1 S m) (t : Int) {p : Int} (hp : r32 p) : Ex1L (zF zP 170 v [(.inr (.inr (some 0))), .inl t, .inl p] m) (o_read S t p) := by
  have hS := hR.1
  unfold o_read
  rw [f_X10_read, if_pos hS.1, c_placeStatus hR t hp, zC1_s, if_pos hS.1]
  by_cases h : yPl S t p = 0
  · obtain ⟨k, i, rfl, hk, rfl, hi, e⟩ := yPl0 h
    have hT := (hS.2.2.2.1 k hk).2
    have hv := hR.2.2.1 k hk
    have h60 := hv.2.2.2.1
    have hT1 := ((hR.st (x := 0)).1.2.2.2.1 k hk).2
    rw [c_trayAt_t hS hk, zC3_s, if_pos h, if_pos h, j_X10_read_30, if_pos hS.1, if_pos hT1.1, s_get hT1 (by omega), zC2_s, zl_wi, hv.2.2.2.2.2 i hi, Int.toNat_natCast, Int.toNat_natCast]
    exact ⟨_, rfl, hR.st⟩
  · rw [if_neg h]
    by_cases hx : inR t 0 3 = true
    · obtain ⟨k, rfl, hk⟩ := inR3 hx
      rw [c_trayAt_t hS hk, zC3_s, if_neg h, j_X10_read_23, if_pos hS.1, c_no hS, zC1_s]; exact ⟨_, rfl, hR.st⟩
    · rw [c_trayAt_n hS hx, zC3_n, if_neg h, j_X10_read_23, if_pos hS.1, c_no hS, zC1_s]; exact ⟨_, rfl, hR.st⟩
theorem TvM.put {k i : Nat} {t : zTr} {x : Int} (hv : TvM m k t) (he : t.1 = true) (hi : i < t.2.2.length) : TvM (zwl m 3 (60 * k + i) x) k (t.1, t.2.1, t.2.2.set i x) := by
  obtain ⟨q1, q2, q3, q4, q5⟩ := hv
  refine ⟨q1, by rw [List.length_set]; exact q2, by rw [List.length_set]; exact q3, q4, fun _ j hj => ?_⟩
  have hj' : j < t.2.2.length := by rw [List.length_set] at hj; exact hj
  rw [getD_set]
  by_cases e : i = j
  · subst e; rw [if_pos ⟨rfl, hj'⟩, zl_wl_s]
  · rw [if_neg (fun q => e q.1), zl_wl_off _ _ (Or.inr (by omega))]; exact q5 he j hj'
/-- write, as others use it too -/
theorem w_write (hR : R2 S m) (t p y : Int) : Ex2 (zF zP 249 v [(.inr (.inr (some 0))), .inl t, .inl p, .inr (.inl y)] m) (o_write S t p y) := by
  have h1 := hR.th (x := 0)
  have h2 := h1.st (x := yPl S t p)
  have hst := h2.2.1.1
  unfold o_write
  rw [f_X11_write, if_pos hR.1.1, zT_wi, if_pos hR.1.1, m_placed h1, zC1_s, zT_wi, if_pos hR.1.1, zT_wi, zT_wi, if_pos hR.1.1, hst]
  generalize zwi (zwi m 0 1 0) 0 0 (yPl S t p) = m0 at h2 ⊢
  by_cases h : yPl S t p = 0
  · rw [if_pos h, if_neg (show ¬ 0 < gSt (wSt S (yPl S t p)) by show ¬ 0 < yPl S t p; omega)]
    rw [h] at h2
    obtain ⟨k, i, rfl, hk, rfl, hi, e⟩ := yPl0 h
    have hv : TvM m0 k (gTr S k) := h2.tm hk
    have e1 : zmul 60 (k : Int) = ((60 * k : Nat) : Int) := zmul_nat (n := 60) (by omega)
    have h60 : (gTr S k).2.2.length ≤ 60 := hv.2.2.1
    have e2 : zadd ((60 * k : Nat) : Int) (i : Int) = ((60 * k + i : Nat) : Int) := zadd_nat (by omega)
    rw [j_X11_write_24, if_pos h2.1.1, h2.1.2.1.1.2.2.1, obind, if_pos h2.1.1, h2.1.2.1.1.1, obind, if_pos (h2.1.2.2.1.1.A (by omega) (by omega)), Int.toNat_natCast, hv.1, m_cut, zC2_s, e1, e2, if_pos (h2.1.2.2.1.2.2.1.A (by omega) (by omega)), if_pos zb1, Int.toNat_natCast, Int.toNat_natCast]
    exact ⟨_, rfl, h2.tr (Fr.wl m0 _ (Or.inr (Or.inr ⟨rfl, by omega, by omega⟩))) (hv.put e hi)⟩
  · have hg := yPl_ge S t p
    rw [if_neg h, if_pos (show 0 < gSt (wSt S (yPl S t p)) by show 0 < yPl S t p; omega), if_pos zb0]
    exact ⟨_, rfl, h2⟩
theorem w_read (hR : R2 S m) (t p : Int) : Ex2L (zF zP 250 v [(.inr (.inr (some 0))), .inl t, .inl p] m) (o_read S t p) := by
  have h1 := hR.th (x := 0)
  have h2 := h1.st (x := yPl S t p)
  have hst := h2.2.1.1
  unfold o_read
  rw [f_X11_read, if_pos hR.1.1, zT_wi, if_pos hR.1.1, m_placed h1, zC1_s, zT_wi, if_pos hR.1.1, zT_wi, zT_wi, if_pos hR.1.1, hst]
  generalize zwi (zwi m 0 1 0) 0 0 (yPl S t p) = m0 at h2 ⊢
  by_cases h : yPl S t p = 0
  · rw [if_pos h, if_neg (show ¬ 0 < gSt (wSt S (yPl S t p)) by show ¬ 0 < yPl S t p; omega)]
    rw [h] at h2
    obtain ⟨k, i, rfl, hk, rfl, hi, e⟩ := yPl0 h
    have hv : TvM m0 k (gTr S k) := h2.tm hk
    have e1 : zmul 60 (k : Int) = ((60 * k : Nat) : Int) := zmul_nat (n := 60) (by omega)
    have h60 : (gTr S k).2.2.length ≤ 60 := hv.2.2.1
    have e2 : zadd ((60 * k : Nat) : Int) (i : Int) = ((60 * k + i : Nat) : Int) := zadd_nat (by omega)
    rw [j_X11_read_28, if_pos h2.1.1, h2.1.2.1.1.2.2.1, obind, e1, e2, if_pos (h2.1.2.2.1.2.2.1.A (by omega) (by omega)), Int.toNat_natCast, hv.2.2.2.2 e i hi, j_X11_read_39, Int.toNat_natCast, Int.toNat_natCast]
    exact ⟨_, rfl, h2⟩
  · have hg := yPl_ge S t p
    rw [if_neg h, if_pos (show 0 < gSt (wSt S (yPl S t p)) by show 0 < yPl S t p; omega), j_X11_read_39]
    exact ⟨_, rfl, h2⟩
end OPS1
