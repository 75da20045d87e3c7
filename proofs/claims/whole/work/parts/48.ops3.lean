/-! What calls answer and do: PEOPLE, ways, what a LINE does. -/
def o_go (S : zSt) (p x : Int) : Int × zSt := if inB p (gL S).2.2.1.length = true then (if inB x (gL S).2.1.length = true then
    (if ljoin (gL S) ((gL S).2.2.1.getD p.toNat ps0).2.1 x.toNat = true then
      oYes (wL S (psSet (gL S) p.toNat (((gL S).2.2.1.getD p.toNat ps0).1, x.toNat, ((gL S).2.2.1.getD p.toNat ps0).2.2))) (szF (lpeople (psSet (gL S) p.toNat (((gL S).2.2.1.getD p.toNat ps0).1, x.toNat, ((gL S).2.2.1.getD p.toNat ps0).2.2)) x) 8 0 0) else oNo S 9) else oNo S 2) else oNo S 2
def o_lose (S : zSt) (x : Int) (is : Bool) : Int × zSt := if inB x (gL S).2.1.length = true then
    (if ((gL S).2.1.getD x.toNat ln0).2.1 = is then oF S 9 else oT (wL S (lnSet (gL S) x.toNat (((gL S).2.1.getD x.toNat ln0).1, is, ((gL S).2.1.getD x.toNat ln0).2.2)))) else oF S 2
def o_teach (S : zSt) (p t n : Int) : Int × zSt := if yRw S t n (inB p (gL S).2.2.1.length) = 0 then oYes (wL S (psSet (gL S) p.toNat (((gL S).2.2.1.getD p.toNat ps0).1, ((gL S).2.2.1.getD p.toNat ps0).2.1, yRow S t n))) n else oNo S (yRw S t n (inB p (gL S).2.2.1.length))
def o_rule (S : zSt) (x : Int) : Int × zSt := if inR x 0 16 = true then oT (wL S (odSet (gL S) x)) else oF S 5
def o_right (S : zSt) (t n x to : Int) : Int × zSt := if yLs (yRw S t n (inB x (gL S).2.1.length)) (ySt S to) = 0 then oPut S (lput ((gL S).2.1.getD x.toNat ln0).2.2 (yRow S t n)) to else oNo S (yLs (yRw S t n (inB x (gL S).2.1.length)) (ySt S to))
def o_vain (S : zSt) (t n x : Int) : Int × zSt := if yRw S t n (inB x (gL S).2.1.length) = 0 then oYes S (vainE ((gL S).2.1.getD x.toNat ln0).2.2 0 0 (yRow S t n)) else oNo S (yRw S t n (inB x (gL S).2.1.length))
def o_makes (S : zSt) (t n x to k : Int) : Int × zSt := if yLs (yRw S t n (inB x (gL S).2.1.length)) (yRw S to k (inB x (gL S).2.1.length)) = 0 then oYes S (b01 (decide (lput ((gL S).2.1.getD x.toNat ln0).2.2 (yRow S t n) = yRow S to k))) else oNo S (yLs (yRw S t n (inB x (gL S).2.1.length)) (yRw S to k (inB x (gL S).2.1.length)))
section OPS3
variable {v : Nat} {S : zSt} {m m' : zM} {x a : Int}
theorem p_placeOf (hR : R1 S m) (x : Int) : Ex1 (zF zP 184 v [(.inr (.inr (some 0))), .inl x] m) (o_placeOf S x) := by
  have hS := hR.1
  obtain ⟨hl, hv⟩ := hR.ll
  have h6 := hR.p6
  unfold o_placeOf
  rw [f_X10_placeOf, if_pos hS.1, hR.r2, obind, if_pos hR.t5, s_hasPerson hR.t5 hv.2.2.1.1, zC1_s]
  by_cases h : inB x (gL S).2.2.1.length = true
  · obtain ⟨i, rfl, hi⟩ := inB_nat h
    rw [if_neg (by rw [h]; decide), if_pos h, if_pos hS.1, hR.r2, obind, if_pos hR.t5, s_placeAt hl (by omega), zC1_s, if_pos hS.1, c_yes hS, zC1_s, j_X10_placeOf_31, (hv.2.2.1.2.2 i hi).2.1, Int.toNat_natCast]; exact x1_yes hR
  · rw [if_pos (b01_ne.mpr (bool_f h)), if_neg h, j_X10_placeOf_26, if_pos hS.1, c_no hS, zC1_s, j_X10_placeOf_31]; exact x1_no hR
theorem p_length (hR : R1 S m) (x : Int) : Ex1 (zF zP 185 v [(.inr (.inr (some 0))), .inl x] m) (o_length S x) := by
  have hS := hR.1
  obtain ⟨hl, hv⟩ := hR.ll
  have h6 := hR.p6
  unfold o_length
  rw [f_X10_length, if_pos hS.1, hR.r2, obind, if_pos hR.t5, s_hasPerson hR.t5 hv.2.2.1.1, zC1_s]
  by_cases h : inB x (gL S).2.2.1.length = true
  · obtain ⟨i, rfl, hi⟩ := inB_nat h
    obtain ⟨q1, q2⟩ := hv.rowOk hi
    rw [if_neg (by rw [h]; decide), if_pos h, if_pos hS.1, hR.r2, obind, if_pos hR.t5, s_rowAt hl (by omega), zC2_s, q1, s_size q2, zC1_s, if_pos hS.1, c_yes hS, zC1_s, j_X10_length_34, Int.toNat_natCast]; exact x1_yes hR
  · rw [if_pos (b01_ne.mpr (bool_f h)), if_neg h, j_X10_length_29, if_pos hS.1, c_no hS, zC1_s, j_X10_length_34]; exact x1_no hR
theorem p_says (hR : R1 S m) (x k : Int) : Ex1 (zF zP 187 v [(.inr (.inr (some 0))), .inl x, .inl k] m) (o_says S x k) := by
  have hS := hR.1
  obtain ⟨hl, hv⟩ := hR.ll
  have h6 := hR.p6
  unfold o_says
  rw [f_X10_says, if_pos hS.1, hR.r2, obind, if_pos hR.t5, s_hasPerson hR.t5 hv.2.2.1.1, zC1_s]
  by_cases h : inB x (gL S).2.2.1.length = true
  · obtain ⟨i, rfl, hi⟩ := inB_nat h
    obtain ⟨q1, q2⟩ := hv.rowOk hi
    rw [if_neg (by rw [h]; decide), if_pos h, j_X10_says_17, if_pos hS.1, hR.r2, obind, if_pos hR.t5, s_rowAt hl (by omega), zC2_s, q1, if_pos hS.1, Int.toNat_natCast]
    exact x1_C (c_wordOrNone hR q2 k)
  · rw [if_pos (b01_ne.mpr (bool_f h)), if_neg h, if_pos hS.1]; exact x1_noC hR
theorem p_copyRow (hR : R1 S m) (x t : Int) : Ex1 (zF zP 189 v [(.inr (.inr (some 0))), .inl x, .inl t] m) (o_copyRow S x t) := by
  have hS := hR.1
  obtain ⟨hl, hv⟩ := hR.ll
  have h6 := hR.p6
  unfold o_copyRow
  rw [f_X10_copyRow, if_pos hS.1]
  by_cases ht : inR t 0 3 = true
  · obtain ⟨k, rfl, hk⟩ := inR3 ht
    rw [c_trayAt_t hS hk, zC3_s, if_pos ht, j_X10_copyRow_16, if_pos hS.1, hR.r2, obind, if_pos hR.t5, s_hasPerson hR.t5 hv.2.2.1.1, zC1_s]
    by_cases h : inB x (gL S).2.2.1.length = true
    · obtain ⟨i, rfl, hi⟩ := inB_nat h
      obtain ⟨q1, q2⟩ := hv.rowOk hi
      rw [if_neg (by rw [h]; decide), if_pos h, j_X10_copyRow_33, if_pos hS.1, hR.r2, obind, if_pos hR.t5, s_rowAt hl (by omega), zC2_s, q1, if_pos hS.1, Int.toNat_natCast]
      exact x1_C (c_putRow hR q2 _)
    · rw [if_pos (b01_ne.mpr (bool_f h)), if_neg h, if_pos hS.1]; exact x1_noC hR
  · rw [c_trayAt_n hS ht, zC3_n, if_neg ht, if_pos hS.1]; exact x1_noC hR
theorem s_stand {a p : Nat} {x : Int} (h : LdS m a) (hp : p < 6) : zF zP 9 v [(.inr (.inr (some a))), .inl (p : Int), .inl x] m = some (none, zwi m (a + 6) p x) := by
  obtain ⟨h1, ⟨r0, r1, r2, r3, r4, r5, r6⟩, ⟨k1, k2, k5, k6, k7⟩, hy, hn, hl⟩ := h
  rw [f_X0_stand, if_neg (by omega), if_pos h1, r4, obind, if_pos (k6.Y (by decide)), k6.L, if_pos (by omega), if_pos h1, obind, if_pos (k6.A (by omega) (by omega)), Int.toNat_natCast, j_X0_stand_20]
theorem s_say {a p : Nat} {y : Int} (h : LdS m a) (hp : p < 6) : zF zP 11 v [(.inr (.inr (some a))), .inl (p : Int), .inr (.inl y)] m = some (none, zwl m (a + 7) p y) := by
  obtain ⟨h1, ⟨r0, r1, r2, r3, r4, r5, r6⟩, ⟨k1, k2, k5, k6, k7⟩, hy, hn, hl⟩ := h
  rw [f_X0_say, if_neg (by omega), if_pos h1, r5, obind, if_pos (k7.Y (by decide)), k7.L, if_pos (by omega), if_pos h1, obind, if_pos (k7.A (by omega) (by omega)), Int.toNat_natCast, j_X0_say_20]
theorem p_go (hR : R1 S m) (x y : Int) : Ex1 (zF zP 191 v [(.inr (.inr (some 0))), .inl x, .inl y] m) (o_go S x y) := by
  have hS := hR.1
  obtain ⟨hl, hv⟩ := hR.ll
  have h6 := hR.p6
  unfold o_go
  rw [f_X10_go, if_pos hS.1, hR.r2, obind, if_pos hR.t5, s_hasPerson hR.t5 hv.2.2.1.1, zC1_s]
  by_cases h : inB x (gL S).2.2.1.length = true
  · obtain ⟨i, rfl, hi⟩ := inB_nat h
    rw [if_neg (by rw [h]; decide), if_pos h, if_pos hS.1, hR.r2, obind, if_pos hR.t5, s_hasLine hR.t5 hv.2.1.1, zC1_s]
    by_cases h2 : inB y (gL S).2.1.length = true
    · obtain ⟨k, rfl, hk⟩ := inB_nat h2
      have q := hv.2.2.1.2.2 i hi
      rw [if_neg (by rw [h2]; decide), if_pos h2, j_X10_go_28, if_pos hS.1, hR.r2, obind, if_pos hS.1, obind, if_pos hR.t5, s_placeAt hl (by omega), zC1_s, q.2.1, if_pos hR.t5, s_areJoined hl hv q.2.2.2.2 hk, zC1_s, Int.toNat_natCast, Int.toNat_natCast]
      by_cases e : ljoin (gL S) ((gL S).2.2.1.getD i ps0).2.1 k = true
      · have hR1 := hR.lnd (Sam.wi m (a := 5 + 6) i (k : Int) (lo := 11) (hi := 12) (by omega) (by omega)) (by omega) (by omega) (by omega) (hv.stand hi hk)
        obtain ⟨hl1, hv1⟩ := hR1.ll
        obtain ⟨s, e1, e2⟩ := lpeople_nat (psSet (gL S) i (((gL S).2.2.1.getD i ps0).1, k, ((gL S).2.2.1.getD i ps0).2.2)) (k : Int) (by unfold psSet; dsimp only; rw [List.length_set]; exact h6)
        rw [if_neg (by rw [e]; decide), if_pos e, j_X10_go_54, if_pos hS.1, hR.r2, obind, if_pos hR.t5, s_stand hl (by omega), zC0_s, if_pos hR1.1.1, hR1.r2, obind, if_pos hR1.t5, s_peopleAt hl1 hv1, zC1_s, s_bitCount, zC1_s, if_pos hR1.1.1]
        have e3 : bcnt (lpeople (gL (wL S (psSet (gL S) i (((gL S).2.2.1.getD i ps0).1, k, ((gL S).2.2.1.getD i ps0).2.2)))) (k : Int)) = szF (lpeople (psSet (gL S) i (((gL S).2.2.1.getD i ps0).1, k, ((gL S).2.2.1.getD i ps0).2.2)) (k : Int)) 8 0 0 := by
          show bcnt (lpeople (psSet (gL S) i (((gL S).2.2.1.getD i ps0).1, k, ((gL S).2.2.1.getD i ps0).2.2)) (k : Int)) = _
          rw [e1]; exact bcnt_sz e2
        rw [e3]; exact x1_yesC hR1
      · rw [if_pos (b01_ne.mpr (bool_f e)), if_neg e, if_pos hS.1]; exact x1_noC hR
    · rw [if_pos (b01_ne.mpr (bool_f h2)), if_neg h2, j_X10_go_22, if_pos hS.1]; exact x1_noC hR
  · rw [if_pos (b01_ne.mpr (bool_f h)), if_neg h, j_X10_go_22, if_pos hS.1]; exact x1_noC hR
theorem p_lose (hR : R1 S m) (x : Int) (is : Bool) : Ex1 (zF zP 192 v [(.inr (.inr (some 0))), .inl x, .inl (b01 is)] m) (o_lose S x is) := by
  have hS := hR.1
  obtain ⟨hl, hv⟩ := hR.ll
  have h8 := hR.l8
  unfold o_lose
  rw [f_X10_lose, if_pos hS.1, hR.r2, obind, if_pos hR.t5, s_hasLine hR.t5 hv.2.1.1, zC1_s]
  by_cases h : inB x (gL S).2.1.length = true
  · obtain ⟨i, rfl, hi⟩ := inB_nat h
    obtain ⟨g1, g2, g3⟩ := hv.ln hl hi
    rw [if_neg (by rw [h]; decide), if_pos h, j_X10_lose_17, if_pos hS.1, hR.r2, obind, if_pos hR.t5, s_lineAt hl g1, zC4_s, if_pos g2.1, g3.2.2.1, Int.toNat_natCast]
    by_cases e : ((gL S).2.1.getD i ln0).2.1 = is
    · rw [if_pos (by rw [e]), if_pos e, if_pos hS.1]; exact x1_fC hR
    · have hs : Sam m (zwi m (5 + 12 + 2 * i) 3 (b01 is)) (5 + 12 + 2 * i) (5 + 14 + 2 * i) := Sam.wi m _ _ (Nat.le_refl _) (by omega)
      have hx : LnV (zwi m (5 + 12 + 2 * i) 3 (b01 is)) (5 + 12 + 2 * i) ((gL S).2.1.getD i ln0).1 is ((gL S).2.1.getD i ln0).2.2 := by
        obtain ⟨v1, v2, v3, v4, v5, v6⟩ := g3
        refine ⟨?_, ?_, zi_wi_s _ _ _ _, v4, v5, fun j hj => ?_⟩
        · rw [zi_wi_n _ _ (Or.inr (by decide))]; exact v1
        · rw [zi_wi_n _ _ (Or.inr (by decide))]; exact v2
        · rw [zi_wi_n _ _ (Or.inl (by omega))]; exact v6 j hj
      have hR1 := hR.lnd hs (by omega) (by omega) (by omega) (hv.line (x := (((gL S).2.1.getD i ln0).1, is, ((gL S).2.1.getD i ln0).2.2)) hi hs hx)
      rw [if_neg (fun q => e (by cases h1 : ((gL S).2.1.getD i ln0).2.1 <;> cases is <;> rw [h1] at q <;> first | rfl | cases q)), if_neg e, j_X10_lose_41, if_pos (by rw [g2.1, zb_b01]; rfl), if_pos hR1.1.1]
      exact x1_tC hR1
  · rw [if_pos (b01_ne.mpr (bool_f h)), if_neg h, if_pos hS.1]; exact x1_fC hR
theorem p_rule (hR : R1 S m) (x : Int) : Ex1 (zF zP 199 v [(.inr (.inr (some 0))), .inl x] m) (o_rule S x) := by
  have hS := hR.1
  obtain ⟨hl, hv⟩ := hR.ll
  unfold o_rule
  rw [f_X10_rule]
  by_cases h : inR x 0 16 = true
  · rw [if_pos h]
    rw [inR_t] at h
    have hR1 := hR.lnd (Sam.wi m (a := 5) 7 x (lo := 5) (hi := 6) (by omega) (by omega)) (by omega) (by omega) (by omega) hv.odds
    rw [if_neg (by omega), if_neg (by omega), j_X10_rule_16, if_pos hS.1, hR.r2, obind, if_pos hR.t5, if_pos hR1.1.1]
    exact x1_tC hR1
  · rw [if_neg h]
    rw [inR_t] at h
    by_cases h1 : x < 0
    · rw [if_pos h1, j_X10_rule_10, if_pos hS.1]; exact x1_fC hR
    · rw [if_neg h1, if_pos (by omega), j_X10_rule_10, if_pos hS.1]; exact x1_fC hR
theorem p_teach (hR : R1 S m) (p t n : Int) : Ex1 (zF zP 195 v [(.inr (.inr (some 0))), .inl p, .inl t, .inl n] m) (o_teach S p t n) := by
  have hS := hR.1
  obtain ⟨hl, hv⟩ := hR.ll
  have h6 := hR.p6
  unfold o_teach
  rw [f_X10_teach, if_pos hS.1, hR.r2, obind, if_pos hR.t5, s_hasPerson hR.t5 hv.2.2.1.1, zC1_s, if_pos hS.1, c_rowStatus hR, zC1_s]
  by_cases h : yRw S t n (inB p (gL S).2.2.1.length) = 0
  · obtain ⟨t', k, q1, q2, q3, q4, q5, q6⟩ := yRw0 h
    obtain ⟨i, rfl, hi⟩ := inB_nat q5
    have hok := yRow_ok hR.w16 h
    have hR1 := hR.lnd (Sam.wl m (a := 5 + 7) i (zrow (yRow S t n)) (lo := 12) (hi := 13) (by omega) (by omega)) (by omega) (by omega) (by omega) (hv.say hi hok)
    rw [if_pos h, if_pos h, j_X10_teach_28, if_pos hS.1, hR.r2, obind, if_pos hS.1, c_rowIn hR h, zC2_s, if_pos hR.t5, s_say hl (by omega), zC0_s, if_pos hR1.1.1, Int.toNat_natCast]
    exact x1_yesC hR1
  · rw [if_neg h, if_neg h, if_pos hS.1]; exact x1_noC hR
theorem yLs0 {x y : Int} (hx : 0 ≤ x) (hy : 0 ≤ y) (h : yLs x y = 0) : x = 0 ∧ y = 0 := by
  unfold yLs zmax zmin at h
  split at h
  · split at h <;> omega
  · split at h
    · split at h <;> omega
    · split at h <;> omega
theorem yRw_ge (S : zSt) (t n : Int) (b : Bool) : 0 ≤ yRw S t n b := by
  unfold yRw
  repeat' split
  all_goals omega
theorem ySt_ge (S : zSt) (t : Int) : 0 ≤ ySt S t := by
  unfold ySt
  repeat' split
  all_goals omega
theorem p_vain (hR : R1 S m) (t n x : Int) : Ex1 (zF zP 201 v [(.inr (.inr (some 0))), .inl t, .inl n, .inl x] m) (o_vain S t n x) := by
  have hS := hR.1
  obtain ⟨hl, hv⟩ := hR.ll
  unfold o_vain
  rw [f_X10_vain, if_pos hS.1, hR.r2, obind, if_pos hR.t5, s_hasLine hR.t5 hv.2.1.1, zC1_s, if_pos hS.1, c_rowStatus hR, zC1_s]
  by_cases h : yRw S t n (inB x (gL S).2.1.length) = 0
  · obtain ⟨t', k, q1, q2, q3, q4, q5, q6⟩ := yRw0 h
    obtain ⟨i, rfl, hi⟩ := inB_nat q5
    obtain ⟨g1, g2, g3⟩ := hv.ln hl hi
    rw [if_pos h, if_pos h, if_pos hS.1, hR.r2, obind, if_pos hR.t5, s_lineAt hl g1, zC4_s, if_pos hS.1, c_rowIn hR h, zC2_s, if_pos g2.1, s_vainEdits g2 g3 (yRow_ok hR.w16 h), zC1_s, if_pos hS.1, c_yes hS, zC1_s, j_X10_vain_51, Int.toNat_natCast]
    exact x1_yes hR
  · rw [if_neg h, if_neg h, j_X10_vain_45, if_pos hS.1, c_no hS, zC1_s, j_X10_vain_51]; exact x1_no hR
theorem p_makes (hR : R1 S m) (t n x to k : Int) : Ex1 (zF zP 202 v [(.inr (.inr (some 0))), .inl t, .inl n, .inl x, .inl to, .inl k] m) (o_makes S t n x to k) := by
  have hS := hR.1
  obtain ⟨hl, hv⟩ := hR.ll
  unfold o_makes
  rw [f_X10_makes, if_pos hS.1, hR.r2, obind, if_pos hR.t5, s_hasLine hR.t5 hv.2.1.1, zC1_s, if_pos hS.1, c_rowStatus hR, zC1_s, if_pos hS.1, c_rowStatus hR, zC1_s, c_lesser, zC1_s]
  by_cases h : yLs (yRw S t n (inB x (gL S).2.1.length)) (yRw S to k (inB x (gL S).2.1.length)) = 0
  · obtain ⟨ha, hb⟩ := yLs0 (yRw_ge _ _ _ _) (yRw_ge _ _ _ _) h
    obtain ⟨t', k', q1, q2, q3, q4, q5, q6⟩ := yRw0 ha
    obtain ⟨i, rfl, hi⟩ := inB_nat q5
    obtain ⟨g1, g2, g3⟩ := hv.ln hl hi
    have o1 := yRow_ok hR.w16 ha
    have o2 := yRow_ok hR.w16 hb
    rw [if_pos h, if_pos h, j_X10_makes_45, if_pos hS.1, hR.r2, obind, if_pos hR.t5, s_lineAt hl g1, zC4_s, if_pos hS.1, c_rowIn hR ha, zC2_s, if_pos g2.1, s_putRight g2 g3 o1, zC2_s, if_pos hS.1, c_rowIn hR hb, zC2_s, Int.toNat_natCast]
    by_cases e : lput ((gL S).2.1.getD i ln0).2.2 (yRow S t n) = yRow S to k
    · rw [if_pos (zlcmp_eq.mpr (by rw [e])), j_X10_makes_80, if_pos hS.1, decide_eq_true e]; exact x1_yesC hR
    · rw [if_neg (fun q => e (zrow_inj (lput_ok _ _ g3.2.2.2.2.1 o1) o2 (zlcmp_eq.mp q))), j_X10_makes_79, j_X10_makes_80, if_pos hS.1, decide_eq_false e]; exact x1_yesC hR
  · rw [if_neg h, if_neg h, if_pos hS.1]; exact x1_noC hR
theorem p_right (hR : R1 S m) (t n x to : Int) : Ex1 (zF zP 200 v [(.inr (.inr (some 0))), .inl t, .inl n, .inl x, .inl to] m) (o_right S t n x to) := by
  have hS := hR.1
  obtain ⟨hl, hv⟩ := hR.ll
  unfold o_right
  rw [f_X10_right, if_pos hS.1, hR.r2, obind, if_pos hR.t5, s_hasLine hR.t5 hv.2.1.1, zC1_s, if_pos hS.1, c_rowStatus hR, zC1_s, if_pos hS.1, c_trayStatus hR, zC1_s, c_lesser, zC1_s]
  by_cases h : yLs (yRw S t n (inB x (gL S).2.1.length)) (ySt S to) = 0
  · obtain ⟨ha, hb⟩ := yLs0 (yRw_ge _ _ _ _) (ySt_ge _ _) h
    obtain ⟨t', k', q1, q2, q3, q4, q5, q6⟩ := yRw0 ha
    obtain ⟨i, rfl, hi⟩ := inB_nat q5
    obtain ⟨g1, g2, g3⟩ := hv.ln hl hi
    have o1 := yRow_ok hR.w16 ha
    rw [if_pos h, if_pos h, j_X10_right_37, if_pos hS.1, hR.r2, obind, if_pos hR.t5, s_lineAt hl g1, zC4_s, if_pos hS.1, c_rowIn hR ha, zC2_s, if_pos g2.1, s_putRight g2 g3 o1, zC2_s, if_pos hS.1, Int.toNat_natCast]
    exact x1_C (c_putRow hR (lput_ok _ _ g3.2.2.2.2.1 o1) to)
  · rw [if_neg h, if_neg h, if_pos hS.1]; exact x1_noC hR
end OPS3
