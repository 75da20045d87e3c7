/-! EDITS amended, struck, swapped. -/
def o_amend (S : zSt) (x kd a b : Int) (p : Bool) : Int × zSt :=
  if (inB x (gL S).2.1.length && (inB a (gL S).1.length && (decide (kd = 1) || inB b (gL S).1.length))) = true then
    (if (inR kd 0 2 && !(decide (kd = 0) && decide (a = b))) = true then
      (if ((gL S).2.1.getD x.toNat ln0).2.2.length = 4 then oNo S 7
       else oYes (wL S (lnSet (gL S) x.toNat (((gL S).2.1.getD x.toNat ln0).1, ((gL S).2.1.getD x.toNat ln0).2.1, ((gL S).2.1.getD x.toNat ln0).2.2 ++ [(kd.toNat, a.toNat, (if kd = 1 then 0 else b.toNat), p && !decide (kd = 2))]))) ((((gL S).2.1.getD x.toNat ln0).2.2.length + 1 : Nat) : Int)) else oNo S 5) else oNo S 2
def o_strike (S : zSt) (x y : Int) : Int × zSt := if (inB x (gL S).2.1.length && inB y ((gL S).2.1.getD x.toNat ln0).2.2.length) = true then
    oYes (wL S (lnSet (gL S) x.toNat (((gL S).2.1.getD x.toNat ln0).1, ((gL S).2.1.getD x.toNat ln0).2.1, ((gL S).2.1.getD x.toNat ln0).2.2.eraseIdx y.toNat))) ((((gL S).2.1.getD x.toNat ln0).2.2.length - 1 : Nat) : Int) else oNo S 2
def o_swap (S : zSt) (x y z : Int) : Int × zSt := if (inB x (gL S).2.1.length && inB y ((gL S).2.1.getD x.toNat ln0).2.2.length) = true then
    (if (inB x (gL S).2.1.length && inB z ((gL S).2.1.getD x.toNat ln0).2.2.length) = true then
      (if y = z then oF S 9 else oT (wL S (lnSet (gL S) x.toNat (((gL S).2.1.getD x.toNat ln0).1, ((gL S).2.1.getD x.toNat ln0).2.1, (((gL S).2.1.getD x.toNat ln0).2.2.set y.toNat (((gL S).2.1.getD x.toNat ln0).2.2.getD z.toNat e00)).set z.toNat (((gL S).2.1.getD x.toNat ln0).2.2.getD y.toNat e00))))) else oF S 2) else oF S 2
section OPS5
variable {v : Nat} {S : zSt} {m m' : zM}
theorem pack_all : ∀ (k : Fin 3) (w o : Fin 16) (p : Bool), zor (zor (zor ((k.val : Nat) : Int) (if p = true ∧ k.val ≠ 2 then 4 else 0)) (zshl ((w.val : Nat) : Int) 4)) (if k.val = 1 then 0 else zshl ((o.val : Nat) : Int) 8) = epk (k.val, w.val, (if k.val = 1 then 0 else o.val), p && !decide (k.val = 2)) := by decide +kernel
theorem pack_n {k w o : Nat} (hk : k < 3) (hw : w < 16) (ho : o < 16) (p : Bool) : zor (zor (zor (k : Int) (if p = true ∧ k ≠ 2 then 4 else 0)) (zshl (w : Int) 4)) (if k = 1 then 0 else zshl (o : Int) 8) = epk (k, w, (if k = 1 then 0 else o), p && !decide (k = 2)) := pack_all ⟨k, hk⟩ ⟨w, hw⟩ ⟨o, ho⟩ p
theorem s_pack {k w : Nat} {o : Int} {p : Bool} (hk : k < 3) (hw : w < 16) (ho : k = 1 ∨ ∃ n : Nat, o = (n : Int) ∧ n < 16) : zF zP 71 v [.inl (k : Int), .inl (w : Int), .inl o, .inl (b01 p)] m = some (some (.inl (epk (k, w, (if k = 1 then 0 else o.toNat), p && !decide (k = 2)))), m) := by
  have f14 : ∀ y : Int, zX zP 71 v 14 [some (.inl (k : Int)), some (.inl (w : Int)), some (.inl o), some (.inl (b01 p)), none] [.inl y] m = some (some (.inl (zor (zor (zor (k : Int) y) (zshl (w : Int) 4)) (if k = 1 then 0 else zshl o 8))), m) := fun y => by
    rw [j_X2_pack_14]
    by_cases h : k = 1
    · rw [if_pos (by omega), j_X2_pack_37, if_pos h]
    · rw [if_neg (by omega), j_X2_pack_33, j_X2_pack_37, if_neg h]
  have fin : zor (zor (zor (k : Int) (if p = true ∧ k ≠ 2 then 4 else 0)) (zshl (w : Int) 4)) (if k = 1 then 0 else zshl o 8) = epk (k, w, (if k = 1 then 0 else o.toNat), p && !decide (k = 2)) := by
    rcases ho with h | ⟨n, rfl, hn⟩
    · have := pack_n hk hw (show 0 < 16 by decide) p
      rw [if_pos h, if_pos h] at this
      rw [if_pos h, if_pos h]; exact this
    · rw [Int.toNat_natCast]; exact pack_n hk hw hn p
  rw [← fin, f_X2_pack]
  cases p with
  | false => rw [if_pos (show b01 false = 0 from rfl), j_X2_pack_13, f14, if_neg (show ¬ (false = true ∧ k ≠ 2) from fun q => Bool.noConfusion q.1)]
  | true =>
    rw [if_neg (by decide)]
    by_cases h : k = 2
    · rw [if_pos (by omega), j_X2_pack_13, f14, if_neg (show ¬ (true = true ∧ k ≠ 2) from fun q => q.2 h)]
    · rw [if_neg (by omega), f14, if_pos (show true = true ∧ k ≠ 2 from ⟨rfl, h⟩)]
theorem p_amend (hR : R1 S m) (x kd a b : Int) (p : Bool) : Ex1 (zF zP 196 v [(.inr (.inr (some 0))), .inl x, .inl kd, .inl a, .inl b, .inl (b01 p)] m) (o_amend S x kd a b p) := by
  have hS := hR.1
  obtain ⟨hl, hv⟩ := hR.ll
  have h8 := hR.l8
  have hw8 := hR.w8
  have f51 : ∀ y, zX zP 196 v 51 [some (.inr (.inr (some 0))), some (.inl x), some (.inl kd), some (.inl a), some (.inl b), some (.inl (b01 p)), some (.inl y), none] [] m = some (some (.inl (-1)), zwi m 0 14 2) := fun y => by
    rw [j_X10_amend_51, if_pos hS.1, c_no hS, zC1_s]
  have f10 : ∀ y, (y = 0 ↔ kd = 1) → zX zP 196 v 10 [some (.inr (.inr (some 0))), some (.inl x), some (.inl kd), some (.inl a), some (.inl b), some (.inl (b01 p)), none, none] [.inl y] m = if (inB x (gL S).2.1.length && (inB a (gL S).1.length && (decide (kd = 1) || inB b (gL S).1.length))) = true then zX zP 196 v 57 [some (.inr (.inr (some 0))), some (.inl x), some (.inl kd), some (.inl a), some (.inl b), some (.inl (b01 p)), some (.inl y), none] [] m else some (some (.inl (-1)), zwi m 0 14 2) := fun y hy => by
    rw [j_X10_amend_10, if_pos hS.1, hR.r2, obind, if_pos hR.t5, s_hasLine hR.t5 hv.2.1.1, zC1_s]
    by_cases h1 : inB x (gL S).2.1.length = true
    · rw [if_neg (by rw [h1]; decide), if_pos hS.1, hR.r2, obind, if_pos hR.t5, s_hasWord hR.t5 hv.1.1, zC1_s, h1, Bool.true_and]
      by_cases h2 : inB a (gL S).1.length = true
      · rw [if_neg (by rw [h2]; decide), h2, Bool.true_and]
        by_cases h3 : kd = 1
        · rw [if_pos (hy.mpr h3), decide_eq_true h3, Bool.true_or, if_pos rfl]
        · rw [if_neg (fun q => h3 (hy.mp q)), if_pos hS.1, hR.r2, obind, if_pos hR.t5, s_hasWord hR.t5 hv.1.1, zC1_s, decide_eq_false h3, Bool.false_or]
          by_cases h4 : inB b (gL S).1.length = true
          · rw [if_neg (by rw [h4]; decide), if_pos h4]
          · rw [if_pos (b01_ne.mpr (bool_f h4)), if_neg h4, f51]
      · rw [if_pos (b01_ne.mpr (bool_f h2)), bool_f h2, Bool.false_and, f51, if_neg Bool.noConfusion]
    · rw [if_pos (b01_ne.mpr (bool_f h1)), bool_f h1, Bool.false_and, f51, if_neg Bool.noConfusion]
  have key : ∃ y, zF zP 196 v [(.inr (.inr (some 0))), .inl x, .inl kd, .inl a, .inl b, .inl (b01 p)] m = if (inB x (gL S).2.1.length && (inB a (gL S).1.length && (decide (kd = 1) || inB b (gL S).1.length))) = true then zX zP 196 v 57 [some (.inr (.inr (some 0))), some (.inl x), some (.inl kd), some (.inl a), some (.inl b), some (.inl (b01 p)), some (.inl y), none] [] m else some (some (.inl (-1)), zwi m 0 14 2) := by
    rw [f_X10_amend]
    by_cases h : kd = 1
    · exact ⟨0, by rw [if_pos h, j_X10_amend_9, f10 0 ⟨fun _ => h, fun _ => rfl⟩]⟩
    · exact ⟨1, by rw [if_neg h, f10 1 ⟨fun q => absurd q (by decide), fun q => absurd q h⟩]⟩
  obtain ⟨y, key⟩ := key
  rw [key]
  unfold o_amend
  by_cases h : (inB x (gL S).2.1.length && (inB a (gL S).1.length && (decide (kd = 1) || inB b (gL S).1.length))) = true
  · rw [if_pos h, if_pos h, j_X10_amend_57]
    simp only [Bool.and_eq_true, Bool.or_eq_true, decide_eq_true_eq] at h
    obtain ⟨hx, ha, hb⟩ := h
    have f76 : zX zP 196 v 76 [some (.inr (.inr (some 0))), some (.inl x), some (.inl kd), some (.inl a), some (.inl b), some (.inl (b01 p)), some (.inl y), none] [] m = some (some (.inl (-1)), zwi m 0 14 5) := by
      rw [j_X10_amend_76, if_pos hS.1, c_no hS, zC1_s]
    have f57 : (if kd < 0 then zX zP 196 v 76 [some (.inr (.inr (some 0))), some (.inl x), some (.inl kd), some (.inl a), some (.inl b), some (.inl (b01 p)), some (.inl y), none] [] m else if 2 < kd then zX zP 196 v 76 [some (.inr (.inr (some 0))), some (.inl x), some (.inl kd), some (.inl a), some (.inl b), some (.inl (b01 p)), some (.inl y), none] [] m else if kd = 0 then if a = b then zX zP 196 v 76 [some (.inr (.inr (some 0))), some (.inl x), some (.inl kd), some (.inl a), some (.inl b), some (.inl (b01 p)), some (.inl y), none] [] m else zX zP 196 v 82 [some (.inr (.inr (some 0))), some (.inl x), some (.inl kd), some (.inl a), some (.inl b), some (.inl (b01 p)), some (.inl y), none] [] m else zX zP 196 v 82 [some (.inr (.inr (some 0))), some (.inl x), some (.inl kd), some (.inl a), some (.inl b), some (.inl (b01 p)), some (.inl y), none] [] m) = if (inR kd 0 2 && !(decide (kd = 0) && decide (a = b))) = true then zX zP 196 v 82 [some (.inr (.inr (some 0))), some (.inl x), some (.inl kd), some (.inl a), some (.inl b), some (.inl (b01 p)), some (.inl y), none] [] m else some (some (.inl (-1)), zwi m 0 14 5) := by
      rw [f76]
      by_cases h1 : kd < 0
      · rw [if_pos h1, inR_f.mpr (by omega), Bool.false_and, if_neg Bool.noConfusion]
      · rw [if_neg h1]
        by_cases h2 : 2 < kd
        · rw [if_pos h2, inR_f.mpr (by omega), Bool.false_and, if_neg Bool.noConfusion]
        · rw [if_neg h2, inR_t.mpr (by omega), Bool.true_and]
          by_cases h3 : kd = 0
          · rw [if_pos h3, decide_eq_true h3, Bool.true_and]
            by_cases h4 : a = b
            · rw [if_pos h4, decide_eq_true h4, if_neg (by decide)]
            · rw [if_neg h4, decide_eq_false h4, if_pos (by decide)]
          · rw [if_neg h3, decide_eq_false h3, Bool.false_and, if_pos (by decide)]
    rw [f57]
    by_cases g : (inR kd 0 2 && !(decide (kd = 0) && decide (a = b))) = true
    · rw [if_pos g, if_pos g]
      rw [Bool.and_eq_true, inR_t] at g
      obtain ⟨i, rfl, hi⟩ := inB_nat hx
      obtain ⟨w, rfl, hw⟩ := inB_nat ha
      obtain ⟨k, rfl⟩ := Int.eq_ofNat_of_zero_le g.1.1
      obtain ⟨g1, g2, g3⟩ := hv.ln hl hi
      rw [j_X10_amend_82, if_pos hS.1, hR.r2, obind, if_pos hR.t5, s_lineAt hl g1, zC4_s, if_pos g2.1, g3.2.1, Int.toNat_natCast, Int.toNat_natCast, Int.toNat_natCast]
      have h4 := g3.2.2.2.1
      by_cases e : ((gL S).2.1.getD i ln0).2.2.length = 4
      · rw [if_neg (by omega), if_pos e, if_pos hS.1]; exact x1_noC hR
      · have ho : k = 1 ∨ ∃ n : Nat, b = (n : Int) ∧ n < 16 := by
          rcases hb with q | q
          · exact Or.inl (by omega)
          · obtain ⟨n, q1, q2⟩ := inB_nat q
            exact Or.inr ⟨n, q1, by omega⟩
        have hok : eOk (k, w, (if k = 1 then 0 else b.toNat), p && !decide (k = 2)) := by
          refine ⟨by show k < 3; omega, by show w < 16; omega, ?_, fun q => ?_⟩
          · show (if k = 1 then 0 else b.toNat) < 16
            rcases ho with q | ⟨n, rfl, q⟩
            · rw [if_pos q]; decide
            · split
              · decide
              · rw [Int.toNat_natCast]; exact q
          · show (p && !decide (k = 2)) = false
            rw [decide_eq_true q]; cases p <;> rfl
        obtain ⟨m1, f1, f2, f3⟩ := s_add (v := 0) g2 g3 (by omega) hok
        have hR1 := hR.lnd f2 (by omega) (by omega) (by omega) (hv.line (x := (((gL S).2.1.getD i ln0).1, ((gL S).2.1.getD i ln0).2.1, ((gL S).2.1.getD i ln0).2.2 ++ [(k, w, (if k = 1 then 0 else b.toNat), p && !decide (k = 2))])) hi (f2.mono (Nat.le_refl _) (by omega)) f3)
        have e1 : (if ((k : Nat) : Int) = 1 then 0 else b.toNat) = (if k = 1 then 0 else b.toNat) := by
          by_cases q : k = 1
          · rw [if_pos q, if_pos (by omega)]
          · rw [if_neg q, if_neg (by omega)]
        have e2 : decide (((k : Nat) : Int) = 2) = decide (k = 2) := decide_eq_decide.mpr (by omega)
        rw [if_pos (by omega), if_neg e, j_X10_amend_108, s_pack (by omega) (by omega) ho, zC1_s, if_pos g2.1, f1, zC0_s, if_pos (f2.Ln g2).1, if_pos hR1.1.1, f3.2.1, e1, e2, List.length_append]
        exact x1_yesC hR1
    · rw [if_neg g, if_neg g]; exact x1_no hR
  · rw [if_neg h, if_neg h]; exact x1_no hR
theorem p_strike (hR : R1 S m) (x y : Int) : Ex1 (zF zP 197 v [(.inr (.inr (some 0))), .inl x, .inl y] m) (o_strike S x y) := by
  have hS := hR.1
  obtain ⟨hl, hv⟩ := hR.ll
  have h8 := hR.l8
  unfold o_strike
  rw [f_X10_strike, if_pos hS.1, hR.r2, obind, if_pos hR.t5, s_hasEdit hl hv, zC1_s]
  by_cases h : (inB x (gL S).2.1.length && inB y ((gL S).2.1.getD x.toNat ln0).2.2.length) = true
  · rw [if_neg (by rw [h]; decide), if_pos h]
    rw [Bool.and_eq_true] at h
    obtain ⟨i, rfl, hi⟩ := inB_nat h.1
    obtain ⟨k, rfl, hk⟩ := inB_nat h.2
    rw [Int.toNat_natCast] at hk
    obtain ⟨g1, g2, g3⟩ := hv.ln hl hi
    obtain ⟨m1, f1, f2, f3⟩ := s_drop (v := 0) g2 g3 hk
    have hR1 := hR.lnd f2 (by omega) (by omega) (by omega) (hv.line (x := (((gL S).2.1.getD i ln0).1, ((gL S).2.1.getD i ln0).2.1, ((gL S).2.1.getD i ln0).2.2.eraseIdx k)) hi (f2.mono (Nat.le_refl _) (by omega)) f3)
    rw [j_X10_strike_18, if_pos hS.1, hR.r2, obind, if_pos hR.t5, s_lineAt hl g1, zC4_s, if_pos g2.1, f1, zC0_s, if_pos (f2.Ln g2).1, if_pos hR1.1.1, f3.2.1, List.length_eraseIdx, if_pos hk, Int.toNat_natCast, Int.toNat_natCast]
    exact x1_yesC hR1
  · rw [if_pos (b01_ne.mpr (bool_f h)), if_neg h, if_pos hS.1]; exact x1_noC hR
theorem p_swap (hR : R1 S m) (x y z : Int) : Ex1 (zF zP 198 v [(.inr (.inr (some 0))), .inl x, .inl y, .inl z] m) (o_swap S x y z) := by
  have hS := hR.1
  obtain ⟨hl, hv⟩ := hR.ll
  have h8 := hR.l8
  unfold o_swap
  rw [f_X10_swap, if_pos hS.1, hR.r2, obind, if_pos hR.t5, s_hasEdit hl hv, zC1_s]
  by_cases h : (inB x (gL S).2.1.length && inB y ((gL S).2.1.getD x.toNat ln0).2.2.length) = true
  · rw [if_neg (by rw [h]; decide), if_pos h, if_pos hS.1, hR.r2, obind, if_pos hR.t5, s_hasEdit hl hv, zC1_s]
    by_cases g : (inB x (gL S).2.1.length && inB z ((gL S).2.1.getD x.toNat ln0).2.2.length) = true
    · rw [if_neg (by rw [g]; decide), if_pos g, j_X10_swap_30]
      by_cases e : y = z
      · rw [if_pos e, if_pos e, if_pos hS.1]; exact x1_fC hR
      · rw [if_neg e, if_neg e]
        rw [Bool.and_eq_true] at h g
        obtain ⟨i, rfl, hi⟩ := inB_nat h.1
        obtain ⟨k, rfl, hk⟩ := inB_nat h.2
        obtain ⟨j, rfl, hj⟩ := inB_nat g.2
        rw [Int.toNat_natCast] at hk hj
        obtain ⟨g1, g2, g3⟩ := hv.ln hl hi
        obtain ⟨m1, f1, f2, f3⟩ := s_exchange (v := 0) g2 g3 hk hj
        have hR1 := hR.lnd f2 (by omega) (by omega) (by omega) (hv.line (x := (((gL S).2.1.getD i ln0).1, ((gL S).2.1.getD i ln0).2.1, (((gL S).2.1.getD i ln0).2.2.set k (((gL S).2.1.getD i ln0).2.2.getD j e00)).set j (((gL S).2.1.getD i ln0).2.2.getD k e00))) hi (f2.mono (Nat.le_refl _) (by omega)) f3)
        rw [j_X10_swap_42, if_pos hS.1, hR.r2, obind, if_pos hR.t5, s_lineAt hl g1, zC4_s, if_pos g2.1, f1, zC0_s, if_pos hR1.1.1, Int.toNat_natCast, Int.toNat_natCast, Int.toNat_natCast]
        exact x1_tC hR1
    · rw [if_pos (b01_ne.mpr (bool_f g)), if_neg g, j_X10_swap_24, if_pos hS.1]; exact x1_fC hR
  · rw [if_pos (b01_ne.mpr (bool_f h)), if_neg h, j_X10_swap_24, if_pos hS.1]; exact x1_fC hR
end OPS5
