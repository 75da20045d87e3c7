/-! Public calls: NEEDS, TEXTS, CLASH. -/
/-- the WORDS that EDITS look for are WORDS -/
def eIn (L : zLd) : Prop := ∀ i, i < L.2.1.length → ∀ e ∈ (L.2.1.getD i ln0).2.2, e.2.1 < L.1.length
def oSz (S : zSt) (o : Option (List Nat)) : Int × zSt := match o with
  | some c => oYes S (c.length : Int)
  | none => oNo S 8
def oWo (S : zSt) (o : Option (List Nat)) (k : Int) : Int × zSt := match o with
  | some c => oWd S c k
  | none => oNo S 8
def o_needs (S : zSt) (x : Int) : Int × zSt := if inB x (gL S).2.1.length = true then oSz S (ndR (gL S) x.toNat) else oNo S 2
def o_needsAt (S : zSt) (x k : Int) : Int × zSt := if inB x (gL S).2.1.length = true then oWo S (ndR (gL S) x.toNat) k else oNo S 2
def yTx (S : zSt) (t n x k : Int) : Int := if yRw S t n (inB x (gL S).2.1.length) = 0 then (if inR k 0 5 = true then 0 else 5) else yRw S t n (inB x (gL S).2.1.length)
def txN (L : zLd) (w : List Nat) (i N : Nat) : Int := cntT (txP (L.2.1.getD i ln0).2.2 w) (rws (List.range L.1.length) N) 0
def o_texts (S : zSt) (t n x k : Int) : Int × zSt := if yTx S t n x k = 0 then oYes S (txN (gL S) (yRow S t n) x.toNat k.toNat) else oNo S (yTx S t n x k)
def o_clash (S : zSt) (x y : Int) : Int × zSt := if (inB x (gL S).2.1.length && inB y (gL S).2.1.length) = true then (if x = y then oNo S 9 else oSz S (clR (gL S) x.toNat y.toNat)) else oNo S 2
def o_clashAt (S : zSt) (x y k : Int) : Int × zSt := if (inB x (gL S).2.1.length && inB y (gL S).2.1.length) = true then (if x = y then oNo S 9 else oWo S (clR (gL S) x.toNat y.toNat) k) else oNo S 2
section BEHIND
variable {v : Nat} {S : zSt} {m : zM}
theorem fsz_rok {P : List Nat → Bool} {ws : List Nat} (hws : ∀ w ∈ ws, w < 16) : ∀ (n k : Nat) (c : List Nat), k + n ≤ 8 → fsz P ws n k = some c → rOk c
  | 0, _, _, _, h => nomatch h
  | n + 1, k, c, hk, h => by
    unfold fsz at h
    cases g : (rws ws k).find? P with
    | some d =>
      rw [g] at h
      have e : d = c := Option.some.inj h
      subst e
      obtain ⟨a1, a2⟩ := rws_mem k d (List.mem_of_find?_eq_some g)
      exact ⟨by omega, fun w hw => hws w (a2 w hw)⟩
    | none =>
      rw [g] at h
      exact fsz_rok hws n (k + 1) c (by omega) h
theorem toRow_lt {ns : List Int} {k W u : Nat} (hk : k ≤ ns.length) (hu : u ∈ toRow ns k) (h : ∀ i, i < k → 0 ≤ ns.getD i 0 ∧ ns.getD i 0 < (W : Int)) : u < W := by
  unfold toRow at hu
  obtain ⟨x, hx, rfl⟩ := List.mem_map.mp hu
  obtain ⟨i, hi, e⟩ := List.mem_iff_getElem.mp hx
  rw [List.length_take] at hi
  have hw := h i (by omega)
  have hl : i < ns.length := by omega
  rw [List.getElem_take] at e
  have t : ns.getD i 0 = x := by
    rw [List.getD_eq_getElem?_getD, List.getElem?_eq_getElem hl]; exact e
  rw [t] at hw
  omega
theorem range16 {W : Nat} (hW : W ≤ 8) : ∀ w ∈ List.range W, w < 16 := fun w hw => by have := List.mem_range.mp hw; omega
theorem c_sizeOrNone (hR : R1 S m) {o : Option (List Nat)} (ho : ∀ c, o = some c → rOk c) : ∃ m', zF zP 215 v [(.inr (.inr (some 0))), .inr (.inl (oz o))] m = some (some (.inl (oSz S o).1), m') ∧ R1 (oSz S o).2 m' := by
  rw [f_X10_sizeOrNone]
  cases o with
  | none =>
    have e : oz none = -1 := rfl
    rw [e, if_pos (zlcmp_eq.mpr rfl), if_pos hR.1.1, c_no hR.1, zC1_s, j_X10_sizeOrNone_25]
    exact x1_no hR
  | some c =>
    have e : oz (some c) = zrow c := rfl
    rw [e, if_neg (fun q => zrow_pos c (zlcmp_eq.mp q)), j_X10_sizeOrNone_17, s_size (ho c rfl), zC1_s, if_pos hR.1.1, c_yes hR.1, zC1_s, j_X10_sizeOrNone_25]
    exact x1_yes hR
theorem c_wordOrO (hR : R1 S m) {o : Option (List Nat)} (ho : ∀ c, o = some c → rOk c) (k : Int) : ∃ m', zF zP 186 v [(.inr (.inr (some 0))), .inr (.inl (oz o)), .inl k] m = some (some (.inl (oWo S o k).1), m') ∧ R1 (oWo S o k).2 m' := by
  cases o with
  | none =>
    have e : oz none = -1 := rfl
    rw [f_X10_wordOrNone, e, if_pos (zlcmp_eq.mpr rfl), j_X10_wordOrNone_20, if_pos hR.1.1]
    exact x1_noC hR
  | some c => exact c_wordOrNone hR (ho c rfl) k
theorem c_needed (hR : R1 S m) (hI : eIn (gL S)) {i : Nat} (hi : i < (gL S).2.1.length) : zF zP 91 v [(.inr (.inr (some (5 + 12 + 2 * i))))] m = some (some (.inr (.inl (oz (ndR (gL S) i)))), m) ∧ ∀ c, ndR (gL S) i = some c → rOk c := by
  have h8 := hR.w8
  obtain ⟨hl, hv⟩ := hR.ll
  obtain ⟨g1, g2, g3⟩ := hv.ln hl hi
  obtain ⟨s, s1, s2, s3⟩ := sought_nat h8 ((gL S).2.1.getD i ln0).2.2 0 (hI i hi) (Nat.two_pow_pos _)
  have p8 : 2 ^ (gL S).1.length ≤ 2 ^ 8 := Nat.pow_le_pow_right (by decide) h8
  have e0 : ((0 : Nat) : Int) = 0 := rfl
  rw [e0] at s1
  refine ⟨?_, fun c hc => fsz_rok (range16 h8) 6 0 c (by decide) hc⟩
  rw [s_shortestNeeded g2 g3 (s := s) (by omega) s1, ws_range h8 s2, fsz_same (p := fun k => s.testBit k) (fun e he => ⟨g3.2.2.2.2.1 e he, by
    rw [s3, Nat.zero_testBit, Bool.false_or, List.any_eq_true]
    exact ⟨e, he, decide_eq_true rfl⟩⟩) (List.range (gL S).1.length) 6 0 (fun j hj => absurd hj (Nat.not_lt_zero j))]
  rfl
theorem p_needs (hR : R1 S m) (hI : eIn (gL S)) (x : Int) : Ex1 (zF zP 216 v [(.inr (.inr (some 0))), .inl x] m) (o_needs S x) := by
  have hS := hR.1
  obtain ⟨hl, hv⟩ := hR.ll
  unfold o_needs
  rw [f_X10_needs, if_pos hS.1, hR.r2, obind, if_pos hR.t5, s_hasLine hR.t5 hv.2.1.1, zC1_s]
  by_cases h : inB x (gL S).2.1.length = true
  · obtain ⟨i, rfl, hi⟩ := inB_nat h
    obtain ⟨g1, g2, g3⟩ := hv.ln hl hi
    obtain ⟨n1, n2⟩ := c_needed (v := 0) hR hI hi
    rw [if_neg (b01_d1 h), if_pos h, j_X10_needs_17, if_pos hS.1, hR.r2, obind, if_pos hR.t5, s_lineAt hl g1, zC4_s, n1, zC2_s, if_pos hS.1, Int.toNat_natCast]
    exact x1_C (c_sizeOrNone hR n2)
  · rw [if_pos (b01_ne.mpr (bool_f h)), if_neg h, if_pos hS.1]; exact x1_noC hR
theorem p_needsAt (hR : R1 S m) (hI : eIn (gL S)) (x k : Int) : Ex1 (zF zP 217 v [(.inr (.inr (some 0))), .inl x, .inl k] m) (o_needsAt S x k) := by
  have hS := hR.1
  obtain ⟨hl, hv⟩ := hR.ll
  unfold o_needsAt
  rw [f_X10_needsAt, if_pos hS.1, hR.r2, obind, if_pos hR.t5, s_hasLine hR.t5 hv.2.1.1, zC1_s]
  by_cases h : inB x (gL S).2.1.length = true
  · obtain ⟨i, rfl, hi⟩ := inB_nat h
    obtain ⟨g1, g2, g3⟩ := hv.ln hl hi
    obtain ⟨n1, n2⟩ := c_needed (v := 0) hR hI hi
    rw [if_neg (b01_d1 h), if_pos h, j_X10_needsAt_17, if_pos hS.1, hR.r2, obind, if_pos hR.t5, s_lineAt hl g1, zC4_s, n1, zC2_s, if_pos hS.1, Int.toNat_natCast]
    exact x1_C (c_wordOrO hR n2 k)
  · rw [if_pos (b01_ne.mpr (bool_f h)), if_neg h, if_pos hS.1]; exact x1_noC hR
theorem c_clashStatus (hR : R1 S m) (x y : Int) : zF zP 219 v [(.inr (.inr (some 0))), .inl x, .inl y] m = some (some (.inl (if (inB x (gL S).2.1.length && inB y (gL S).2.1.length) = true then (if x = y then 9 else 0) else 2)), m) := by
  have hS := hR.1
  obtain ⟨hl, hv⟩ := hR.ll
  rw [f_X10_clashStatus, if_pos hS.1, hR.r2, obind, if_pos hR.t5, s_hasLine hR.t5 hv.2.1.1, zC1_s]
  by_cases h : inB x (gL S).2.1.length = true
  · rw [if_neg (b01_d1 h), if_pos hS.1, hR.r2, obind, if_pos hR.t5, s_hasLine hR.t5 hv.2.1.1, zC1_s, h, Bool.true_and]
    by_cases h2 : inB y (gL S).2.1.length = true
    · rw [if_neg (b01_d1 h2), if_pos h2, j_X10_clashStatus_24]
      by_cases g : x = y
      · rw [if_pos g, if_pos g, j_X10_clashStatus_35]
      · rw [if_neg g, if_neg g, j_X10_clashStatus_34, j_X10_clashStatus_35]
    · rw [if_pos (b01_ne.mpr (bool_f h2)), if_neg h2, j_X10_clashStatus_22]
  · rw [if_pos (b01_ne.mpr (bool_f h)), bool_f h, Bool.false_and, if_neg (by decide), j_X10_clashStatus_22]
theorem c_clashRow (hR : R1 S m) {i j : Nat} (hi : i < (gL S).2.1.length) (hj : j < (gL S).2.1.length) : zF zP 220 v [(.inr (.inr (some 0))), .inl (i : Int), .inl (j : Int)] m = some (some (.inr (.inl (oz (clR (gL S) i j)))), m) ∧ ∀ c, clR (gL S) i j = some c → rOk c := by
  have h8 := hR.w8
  have hS := hR.1
  obtain ⟨hl, hv⟩ := hR.ll
  obtain ⟨g1, g2, g3⟩ := hv.ln hl hi
  obtain ⟨k1, k2, k3⟩ := hv.ln hl hj
  have hw : zsub (zshl 1 ((gL S).1.length : Int)) 1 = ((2 ^ (gL S).1.length - 1 : Nat) : Int) := by
    rw [zshl1 (by omega)]
    have p8 : 2 ^ (gL S).1.length ≤ 2 ^ 8 := Nat.pow_le_pow_right (by decide) h8
    have p1 : 1 ≤ 2 ^ (gL S).1.length := Nat.two_pow_pos _
    exact zsub1 p1 (by omega)
  have p8 : 2 ^ (gL S).1.length ≤ 2 ^ 8 := Nat.pow_le_pow_right (by decide) h8
  refine ⟨?_, fun c hc => fsz_rok (range16 h8) 4 0 c (by decide) hc⟩
  rw [f_X10_clashRow, if_pos hS.1, hR.r2, obind, if_pos hR.t5, s_lineAt hl g1, zC4_s, if_pos hS.1, hR.r2, obind, if_pos hR.t5, s_lineAt hl k1, zC4_s, if_pos hS.1, hR.r2, obind, if_pos hR.t5, s_allWords hR.t5 hv.1.1, zC1_s, hw, s_shortestClash g2 g3 k2 k3 (s := 2 ^ (gL S).1.length - 1) (by omega), zC2_s, ws_all h8]
  rfl
theorem p_clash (hR : R1 S m) (x y : Int) : Ex1 (zF zP 221 v [(.inr (.inr (some 0))), .inl x, .inl y] m) (o_clash S x y) := by
  have hS := hR.1
  unfold o_clash
  rw [f_X10_clash, if_pos hS.1, c_clashStatus hR, zC1_s]
  by_cases h : (inB x (gL S).2.1.length && inB y (gL S).2.1.length) = true
  · rw [if_pos h, if_pos h]
    by_cases g : x = y
    · rw [if_pos g, if_pos g, if_neg (by decide), j_X10_clash_24, if_pos hS.1, c_no hS, zC1_s, j_X10_clash_29]; exact x1_no hR
    · rw [Bool.and_eq_true] at h
      obtain ⟨i, rfl, hi⟩ := inB_nat h.1
      obtain ⟨j, rfl, hj⟩ := inB_nat h.2
      obtain ⟨n1, n2⟩ := c_clashRow (v := 0) hR hi hj
      obtain ⟨m', r1, r2⟩ := c_sizeOrNone (v := 0) hR n2
      rw [if_neg g, if_neg g, if_pos rfl, if_pos hS.1, n1, zC2_s, if_pos hS.1, r1, zC1_s, j_X10_clash_29, Int.toNat_natCast, Int.toNat_natCast]
      exact ⟨m', rfl, r2⟩
  · rw [if_neg h, if_neg h, if_neg (by decide), j_X10_clash_24, if_pos hS.1, c_no hS, zC1_s, j_X10_clash_29]; exact x1_no hR
theorem p_clashAt (hR : R1 S m) (x y k : Int) : Ex1 (zF zP 222 v [(.inr (.inr (some 0))), .inl x, .inl y, .inl k] m) (o_clashAt S x y k) := by
  have hS := hR.1
  unfold o_clashAt
  rw [f_X10_clashAt, if_pos hS.1, c_clashStatus hR, zC1_s]
  by_cases h : (inB x (gL S).2.1.length && inB y (gL S).2.1.length) = true
  · rw [if_pos h, if_pos h]
    by_cases g : x = y
    · rw [if_pos g, if_pos g, if_neg (by decide), j_X10_clashAt_27, if_pos hS.1, c_no hS, zC1_s, j_X10_clashAt_33]; exact x1_no hR
    · rw [Bool.and_eq_true] at h
      obtain ⟨i, rfl, hi⟩ := inB_nat h.1
      obtain ⟨j, rfl, hj⟩ := inB_nat h.2
      obtain ⟨n1, n2⟩ := c_clashRow (v := 0) hR hi hj
      obtain ⟨m', r1, r2⟩ := c_wordOrO (v := 0) hR n2 k
      rw [if_neg g, if_neg g, if_pos rfl, if_pos hS.1, n1, zC2_s, if_pos hS.1, r1, zC1_s, j_X10_clashAt_33, Int.toNat_natCast, Int.toNat_natCast]
      exact ⟨m', rfl, r2⟩
  · rw [if_neg h, if_neg h, if_neg (by decide), j_X10_clashAt_27, if_pos hS.1, c_no hS, zC1_s, j_X10_clashAt_33]; exact x1_no hR
theorem p_texts (hR : R1 S m) (hI : eIn (gL S)) (t n x k : Int) : Ex1 (zF zP 218 v [(.inr (.inr (some 0))), .inl t, .inl n, .inl x, .inl k] m) (o_texts S t n x k) := by
  have hS := hR.1
  have h8 := hR.w8
  obtain ⟨hl, hv⟩ := hR.ll
  have no : ∀ y : Int, ¬ y = 0 → Ex1 (zX zP 218 v 35 [some (.inr (.inr (some 0))), some (.inl t), some (.inl n), some (.inl x), some (.inl k), some (.inl y)] [] m) (oNo S y) := fun y hy => by
    rw [j_X10_texts_35, if_neg hy, j_X10_texts_66, if_pos hS.1, c_no hS, zC1_s, j_X10_texts_72]; exact x1_no hR
  unfold o_texts yTx
  rw [f_X10_texts, if_pos hS.1, hR.r2, obind, if_pos hR.t5, s_hasLine hR.t5 hv.2.1.1, zC1_s, if_pos hS.1, c_rowStatus hR, zC1_s]
  by_cases h : yRw S t n (inB x (gL S).2.1.length) = 0
  · rw [if_pos h, if_pos h]
    by_cases c1 : k < 0
    · rw [if_pos c1, if_neg (c := inR k 0 5 = true) (fun q => by have := inR_t.mp q; omega), if_neg (by decide), j_X10_texts_32]; exact no 5 (by decide)
    · rw [if_neg c1]
      by_cases c2 : 5 < k
      · rw [if_pos c2, if_neg (c := inR k 0 5 = true) (fun q => by have := inR_t.mp q; omega), if_neg (by decide), j_X10_texts_32]; exact no 5 (by decide)
      · obtain ⟨t', n', e1, e2, e3, e4, e5, e6⟩ := yRw0 h
        obtain ⟨i, rfl, hi⟩ := inB_nat e5
        obtain ⟨N, rfl⟩ := Int.eq_ofNat_of_zero_le (show 0 ≤ k by omega)
        obtain ⟨g1, g2, g3⟩ := hv.ln hl hi
        have hok := yRow_ok hR.w16 h
        have hlt : ∀ u ∈ yRow S t n, u < (gL S).1.length := fun u hu => by
          obtain ⟨_, k', _, _, _, _, _, _, kl, y1, y2⟩ := yRw0 h
          rw [y1] at hu
          exact toRow_lt kl hu y2
        have hN5 : N ≤ 5 := by omega
        obtain ⟨s0, s1, s2, s3⟩ := sought_nat h8 ((gL S).2.1.getD i ln0).2.2 0 (hI i hi) (Nat.two_pow_pos _)
        obtain ⟨r0, r1, r2, r3⟩ := rset_nat h8 (yRow S t n) 0 hlt (Nat.two_pow_pos _)
        have p8 : 2 ^ (gL S).1.length ≤ 2 ^ 8 := Nat.pow_le_pow_right (by decide) h8
        have z0 : ((0 : Nat) : Int) = 0 := rfl
        rw [z0] at s1 r1
        have hz : zor (soughtE ((gL S).2.1.getD i ln0).2.2 0) (rsetF (yRow S t n) 0) = ((s0 ||| r0 : Nat) : Int) := by
          rw [s1, r1]; exact zor_nat (by omega) (by omega)
        have hlt2 : s0 ||| r0 < 2 ^ (gL S).1.length := Nat.or_lt_two_pow s2 r2
        have hcnt : cntT (fun c => decide (zro (lall ((gL S).2.1.getD i ln0).2.2 c) = zrow (yRow S t n))) (rws (wsOf (s0 ||| r0)) N) 0 = txN (gL S) (yRow S t n) i N := by
          rw [ws_range h8 hlt2, rws_filter]
          refine cnt_filter _ _ _ 0 (fun c hc hP => ?_)
          have hP' : zro (lall ((gL S).2.1.getD i ln0).2.2 c) = zrow (yRow S t n) := of_decide_eq_true hP
          have hcm := rws_mem N c hc
          have hcok : rOk c := ⟨by omega, fun w hw => by have := List.mem_range.mp (hcm.2 w hw); omega⟩
          rw [List.all_eq_true]
          intro u hu
          rw [Nat.testBit_or, s3, r3, Nat.zero_testBit, Bool.false_or, Bool.false_or]
          by_cases q : (((gL S).2.1.getD i ln0).2.2.any fun e => decide (e.2.1 = u)) = true
          · rw [q]; rfl
          · rw [bool_f q, Bool.false_or, List.any_eq_true]
            cases g : lall ((gL S).2.1.getD i ln0).2.2 c with
            | none => rw [g] at hP'; exact absurd hP'.symm (zrow_pos _)
            | some d =>
              rw [g] at hP'
              have hd : d = yRow S t n := zrow_inj (lall_ok _ c d g3.2.2.2.2.1 hcok g) hok hP'
              have hm := mem_lall ((gL S).2.1.getD i ln0).2.2 c d (fun e he => ⟨g3.2.2.2.2.1 e he, fun w => q (List.any_eq_true.mpr ⟨e, he, decide_eq_true w.symm⟩)⟩) hu g
              rw [hd] at hm
              exact ⟨u, hm, decide_eq_true rfl⟩
        rw [if_neg c2, if_pos (c := inR (N : Int) 0 5 = true) (inR_t.mpr (by omega)), if_pos rfl, h, j_X10_texts_35, if_pos rfl, if_pos hS.1, hR.r2, obind, if_pos hR.t5, s_lineAt hl g1, zC4_s, if_pos hS.1, c_rowIn hR h, zC2_s, s_textsOf g2 g3 (s := s0 ||| r0) (by omega) hN5 hok hz, zC1_s, hcnt, if_pos hS.1, c_yes hS, zC1_s, j_X10_texts_72, Int.toNat_natCast, Int.toNat_natCast]
        exact x1_yes hR
  · simp only [if_neg h]
    exact no _ h
end BEHIND
