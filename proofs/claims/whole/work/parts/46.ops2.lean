/-! What calls answer: what is told of the SLIP. -/
def o_many (S : zSt) (x : Int) : Int × zSt :=
  if x = 0 then oYes S ((gL S).1.length : Int) else if x = 1 then oYes S ((gL S).2.1.length : Int) else if x = 2 then oYes S ((gL S).2.2.1.length : Int) else if x = 3 then oYes S (gL S).2.2.2.1
  else if x = 4 then oYes S (gL S).2.2.2.2 else if x = 5 then oYes S (setF (fun i => ((gL S).2.1.getD i ln0).2.1) (gL S).2.1.length 0 0)
  else if x = 6 then oYes S (sumF (fun i => (((gL S).2.1.getD i ln0).2.2.length : Int)) (gL S).2.1.length 0 0) else if x = 7 then oYes S (sumF (fun i => (((gL S).2.2.1.getD i ps0).2.2.length : Int)) (gL S).2.2.1.length 0 0) else oNo S 5
def o_line (S : zSt) (x w : Int) : Int × zSt := if inB x (gL S).2.1.length = true then
  (if w = 0 then oYes S ((gL S).2.1.getD x.toNat ln0).1 else if w = 1 then oYes S (((gL S).2.1.getD x.toNat ln0).2.2.length : Int) else if w = 2 then oYes S (b01 ((gL S).2.1.getD x.toNat ln0).2.1)
   else if w = 3 then oYes S (wsetE ((gL S).2.1.getD x.toNat ln0).2.2 0) else if w = 4 then oYes S (lpeople (gL S) x) else oNo S 5) else oNo S 2
def o_lineOf (S : zSt) (x : Int) : Int × zSt := if inR x 1 999 = true then (if lnum (gL S) x = -1 then oNo S 8 else oYes S (lnum (gL S) x)) else oNo S 5
def o_edit (S : zSt) (x y w : Int) : Int × zSt := if (inB x (gL S).2.1.length && inB y ((gL S).2.1.getD x.toNat ln0).2.2.length) = true then
  (if w = 0 then oYes S ((((gL S).2.1.getD x.toNat ln0).2.2.getD y.toNat e00).1 : Int) else if w = 1 then oYes S ((((gL S).2.1.getD x.toNat ln0).2.2.getD y.toNat e00).2.1 : Int)
   else if w = 2 then (if (((gL S).2.1.getD x.toNat ln0).2.2.getD y.toNat e00).1 = 1 then oNo S 8 else oYes S ((((gL S).2.1.getD x.toNat ln0).2.2.getD y.toNat e00).2.2.1 : Int))
   else if w = 3 then oYes S (b01 (((gL S).2.1.getD x.toNat ln0).2.2.getD y.toNat e00).2.2.2) else oNo S 5) else oNo S 2
def o_placeOf (S : zSt) (x : Int) : Int × zSt := if inB x (gL S).2.2.1.length = true then oYes S (((gL S).2.2.1.getD x.toNat ps0).2.1 : Int) else oNo S 2
def o_length (S : zSt) (x : Int) : Int × zSt := if inB x (gL S).2.2.1.length = true then oYes S (((gL S).2.2.1.getD x.toNat ps0).2.2.length : Int) else oNo S 2
def o_says (S : zSt) (x k : Int) : Int × zSt := if inB x (gL S).2.2.1.length = true then oWd S ((gL S).2.2.1.getD x.toNat ps0).2.2 k else oNo S 2
def o_copyRow (S : zSt) (x t : Int) : Int × zSt := if inR t 0 3 = true then (if inB x (gL S).2.2.1.length = true then oPut S ((gL S).2.2.1.getD x.toNat ps0).2.2 t else oNo S 2) else oNo S 1
def o_fault (S : zSt) (x : Int) : Int × zSt := ((if x = 0 then ((gFa S).getD (-1, -1)).1 else if x = 1 then ((gFa S).getD (-1, -1)).2 else -1), S)
section OPS2
variable {v : Nat} {S : zSt} {m m' : zM} {x a : Int}
theorem R1.ll (hR : R1 S m) : LdS m 5 ∧ LdV m 5 (gL S) := ⟨hR.1.2.2.2.2.2.2.1, hR.2.2.2.2.1.1⟩
theorem R1.t5 (hR : R1 S m) : zT m 5 0 = true := hR.1.2.2.2.2.2.2.1.1
theorem R1.r2 (hR : R1 S m) : zr m 0 2 = some 5 := hR.1.2.1.2.2.1
theorem R1.l8 (hR : R1 S m) : (gL S).2.1.length ≤ 8 := hR.ll.2.2.1.2.1
theorem R1.p6 (hR : R1 S m) : (gL S).2.2.1.length ≤ 6 := hR.ll.2.2.2.1.2.1
theorem R1.w8 (hR : R1 S m) : (gL S).1.length ≤ 8 := hR.ll.2.1.2.1
theorem x1_yesC (hR : R1 S m) : Ex1 (zC1 (zF zP 176 0 [(.inr (.inr (some 0))), .inl a] m) (fun c m1 => some (some (.inl c), m1))) (oYes S a) := by rw [c_yes hR.1, zC1_s]; exact x1_yes hR
theorem x1_noC (hR : R1 S m) : Ex1 (zC1 (zF zP 169 0 [(.inr (.inr (some 0))), .inl x] m) (fun c m1 => some (some (.inl c), m1))) (oNo S x) := by rw [c_no hR.1, zC1_s]; exact x1_no hR
theorem x1_fC (hR : R1 S m) : Ex1 (zC1 (zF zP 164 0 [(.inr (.inr (some 0))), .inl x] m) (fun c m1 => if zb c = true then some (some (.inl c), m1) else none)) (oF S x) := by rw [c_refused hR.1, zC1_s, if_pos zb0]; exact x1_f hR
theorem x1_tC (hR : R1 S m) : Ex1 (zC1 (zF zP 165 0 [(.inr (.inr (some 0)))] m) (fun c m1 => if zb c = true then some (some (.inl c), m1) else none)) (oT S) := by rw [c_granted hR.1, zC1_s, if_pos zb1]; exact x1_t hR
theorem x1_C {o : Option zO} {q : Int × zSt} (h : Ex1 o q) : Ex1 (zC1 o (fun c m1 => some (some (.inl c), m1))) q := by
  obtain ⟨m', e, hm⟩ := h
  rw [e, zC1_s]; exact ⟨m', rfl, hm⟩
theorem x2_noC (hR : R2 (wSt S 0) m) : Ex2 (zC1 (zF zP 241 0 [(.inr (.inr (some 0))), .inl x] m) (fun c m1 => some (some (.inl c), m1))) (oNo S x) := by rw [m_refuse hR.1, zC1_s]; exact x2_no hR
theorem x2_fC (hR : R2 (wSt S 0) m) : Ex2 (zC1 (zF zP 242 0 [(.inr (.inr (some 0))), .inl x] m) (fun c m1 => if zb c = true then some (some (.inl c), m1) else none)) (oF S x) := by rw [m_no hR.1, zC1_s, if_pos zb0]; exact x2_f hR
theorem p_fault (hR : R1 S m) (x : Int) : Ex1 (zF zP 179 v [(.inr (.inr (some 0))), .inl x] m) (o_fault S x) := by
  refine ⟨m, ?_, hR⟩
  obtain ⟨h13, h14, h15, h12, h9, h10, h8⟩ := hR.2.1
  unfold o_fault
  rw [f_X10_fault, if_pos hR.1.1, h9]
  cases hf : gFa S with
  | none =>
    rw [if_pos (by rfl)]
    show _ = some (some (Sum.inl (if x = 0 then (-1 : Int) else if x = 1 then -1 else -1)), m)
    rw [ite_self, ite_self]
  | some f =>
    obtain ⟨g1, g2⟩ := h10 f hf
    rw [if_neg (show ¬ b01 (some f).isSome = 0 from fun q => by cases q), j_X10_fault_9]
    show _ = some (some (Sum.inl (if x = 0 then f.1 else if x = 1 then f.2 else -1)), m)
    by_cases h0 : x = 0
    · rw [if_pos h0, if_pos hR.1.1, g1, if_pos h0]
    · rw [if_neg h0, j_X10_fault_18, if_neg h0]
      by_cases h1 : x = 1
      · rw [if_pos h1, if_pos hR.1.1, j_X10_fault_31, g2, if_pos h1]
      · rw [if_neg h1, j_X10_fault_30, j_X10_fault_31, if_neg h1]
theorem w_fault (hR : R2 S m) (x : Int) : Ex2 (zF zP 286 v [(.inr (.inr (some 0))), .inl x] m) (o_fault S x) := by
  have h0 := hR.th (x := 0)
  refine ⟨_, ?_, h0⟩
  obtain ⟨a1, a2, a3, a4, a5, a6, a7, a8⟩ := h0.2.1
  unfold o_fault
  rw [f_X11_fault, if_pos hR.1.1]
  by_cases h0 : x = 0
  · rw [if_pos h0, zT_wi, if_pos hR.1.1, j_X11_fault_29, a5, if_pos h0]
  · rw [if_neg h0, j_X11_fault_16, if_neg h0]
    by_cases h1 : x = 1
    · rw [if_pos h1, zT_wi, if_pos hR.1.1, j_X11_fault_29, a6, if_pos h1]
    · rw [if_neg h1, j_X11_fault_28, j_X11_fault_29, if_neg h1]
theorem zsel_0 {x : Int} {ts : List Nat} {d : Nat} (k : Nat) (h : x = (k : Int)) : zsel x 0 ts d = ts.getD k d := by
  subst h
  unfold zsel
  rw [if_neg (by omega)]
  congr 1
theorem zsel_n {x : Int} {ts : List Nat} {d : Nat} (h : ¬ (0 ≤ x ∧ x < (ts.length : Int))) : zsel x 0 ts d = d := by
  unfold zsel
  by_cases h0 : x < 0
  · rw [if_pos h0]
  · rw [if_neg h0, List.getD_eq_getElem?_getD, List.getElem?_eq_none (by omega)]; rfl
theorem p_many (hR : R1 S m) (x : Int) : Ex1 (zF zP 180 v [(.inr (.inr (some 0))), .inl x] m) (o_many S x) := by
  have hS := hR.1
  obtain ⟨hl, hv⟩ := hR.ll
  unfold o_many
  rw [f_X10_many]
  by_cases h0 : x = 0
  · rw [if_pos h0, zsel_0 0 h0]
    show Ex1 (zX zP 180 v 48 _ _ _) _
    rw [j_X10_many_48, if_pos hS.1, hR.r2, obind, if_pos hR.t5, if_pos hS.1, hv.1.1]; exact x1_yesC hR
  rw [if_neg h0]
  by_cases h1 : x = 1
  · rw [if_pos h1, zsel_0 1 h1]
    show Ex1 (zX zP 180 v 60 _ _ _) _
    rw [j_X10_many_60, if_pos hS.1, hR.r2, obind, if_pos hR.t5, if_pos hS.1, hv.2.1.1]; exact x1_yesC hR
  rw [if_neg h1]
  by_cases h2 : x = 2
  · rw [if_pos h2, zsel_0 2 h2]
    show Ex1 (zX zP 180 v 72 _ _ _) _
    rw [j_X10_many_72, if_pos hS.1, hR.r2, obind, if_pos hR.t5, if_pos hS.1, hv.2.2.1.1]; exact x1_yesC hR
  rw [if_neg h2]
  by_cases h3 : x = 3
  · rw [if_pos h3, zsel_0 3 h3]
    show Ex1 (zX zP 180 v 84 _ _ _) _
    rw [j_X10_many_84, if_pos hS.1, hR.r2, obind, if_pos hR.t5, if_pos hS.1, hv.2.2.2.1]; exact x1_yesC hR
  rw [if_neg h3]
  by_cases h4 : x = 4
  · rw [if_pos h4, zsel_0 4 h4]
    show Ex1 (zX zP 180 v 96 _ _ _) _
    rw [j_X10_many_96, if_pos hS.1, hR.r2, obind, if_pos hR.t5, if_pos hS.1, hv.2.2.2.2.1]; exact x1_yesC hR
  rw [if_neg h4]
  by_cases h5 : x = 5
  · rw [if_pos h5, zsel_0 5 h5]
    show Ex1 (zX zP 180 v 108 _ _ _) _
    rw [j_X10_many_108, if_pos hS.1, hR.r2, obind, if_pos hR.t5, s_lostLines hl hv, zC1_s, if_pos hS.1]; exact x1_yesC hR
  rw [if_neg h5]
  by_cases h6 : x = 6
  · rw [if_pos h6, zsel_0 6 h6]
    show Ex1 (zX zP 180 v 120 _ _ _) _
    rw [j_X10_many_120, if_pos hS.1, hR.r2, obind, if_pos hR.t5, s_allEdits hl hv, zC1_s, if_pos hS.1]; exact x1_yesC hR
  rw [if_neg h6]
  by_cases h7 : x = 7
  · rw [if_pos h7, zsel_0 7 h7]
    show Ex1 (zX zP 180 v 132 _ _ _) _
    rw [j_X10_many_132, if_pos hS.1, hR.r2, obind, if_pos hR.t5, s_allWordsSaid hl hv, zC1_s, if_pos hS.1]; exact x1_yesC hR
  rw [if_neg h7, zsel_n (by show ¬ (0 ≤ x ∧ x < 8); omega), j_X10_many_144, if_pos hS.1]; exact x1_noC hR
theorem w_many (hR : R2 S m) (x : Int) : Ex2 (zF zP 315 v [(.inr (.inr (some 0))), .inl x] m) (o_many S x) := by
  have h0 := hR.pre
  have hl8 := hR.l8
  have hp6 := hR.p6
  unfold o_many
  rw [f_X11_many, if_pos hR.1.1, zT_wi, if_pos hR.1.1, m_isIn, zC1_s]
  generalize zwi (zwi m 0 1 0) 0 0 0 = m0 at h0 ⊢
  obtain ⟨⟨w1, w2, w3⟩, ⟨l1, l2, l3⟩, ⟨p1, p2, p3⟩, ⟨o1, o2⟩, y⟩ := h0.bl
  by_cases hx : inR x 0 7 = true
  · rw [if_neg (by rw [hx]; decide), j_X11_many_28]
    rw [inR_t] at hx
    by_cases h5 : x < 5
    · rw [if_pos h5, if_pos h0.1.1, h0.1.2.1.2.1.1, obind, if_pos (A5 h0.1 (by omega) (by omega))]
      have h5' : x = 0 ∨ x = 1 ∨ x = 2 ∨ x = 3 ∨ x = 4 := by omega
      rcases h5' with rfl | rfl | rfl | rfl | rfl
      · rw [if_pos rfl, h0.c0]; exact x2_yes h0
      · rw [if_neg (by decide), if_pos rfl, h0.c1]; exact x2_yes h0
      · rw [if_neg (by decide), if_neg (by decide), if_pos rfl, h0.c2]; exact x2_yes h0
      · rw [if_neg (by decide), if_neg (by decide), if_neg (by decide), if_pos rfl, show zi m0 5 (Int.toNat 3) = (gL S).2.2.2.1 from o1]; exact x2_yes h0
      · rw [if_neg (by decide), if_neg (by decide), if_neg (by decide), if_neg (by decide), if_pos rfl, show zi m0 5 (Int.toNat 4) = (gL S).2.2.2.2 from o2]; exact x2_yes h0
    · rw [if_neg h5, if_neg (show ¬ x = 0 by omega), if_neg (show ¬ x = 1 by omega), if_neg (show ¬ x = 2 by omega), if_neg (show ¬ x = 3 by omega), if_neg (show ¬ x = 4 by omega), j_X11_many_40]
      by_cases h : x = 5
      · rw [if_pos h, if_pos h, if_pos h0.1.1, m_lostOnes h0, zC1_s, j_X11_many_86]; exact x2_yes h0
      rw [if_neg h, if_neg h, j_X11_many_52]
      by_cases h : x = 6
      · have e := m_sumOf (v := 0) h0.1 (w := 13) (N := (gL S).2.1.length) (f := fun i => (((gL S).2.1.getD i ln0).2.2.length : Int)) (by omega) (fun i hi => (h0.em hi).1)
        rw [if_pos h, if_pos h, if_pos h0.1.1, h0.1.2.1.2.1.1, obind, if_pos (A5 h0.1 (by omega) (by omega)), if_pos h0.1.1, h0.c1]
        have e13 : ((13 : Nat) : Int) = 13 := rfl
        rw [e13] at e
        rw [e, zC1_s, j_X11_many_86]; exact x2_yes h0
      rw [if_neg h, if_neg h, j_X11_many_73, if_pos (show x = 7 by omega)]
      have e := m_sumOf (v := 0) h0.1 (w := 163) (N := (gL S).2.2.1.length) (f := fun i => (((gL S).2.2.1.getD i ps0).2.2.length : Int)) (by omega) (fun i hi => by have := (h0.ps hi).1.2.2.1; rw [Nat.zero_add] at this; exact this)
      have e13 : ((163 : Nat) : Int) = 163 := rfl
      rw [e13] at e
      rw [if_pos h0.1.1, h0.1.2.1.2.1.1, obind, if_pos (A5 h0.1 (by omega) (by omega)), if_pos h0.1.1, h0.c2, e, zC1_s, j_X11_many_86]; exact x2_yes h0
  · rw [if_pos (b01_ne.mpr (bool_f hx)), if_pos h0.1.1]
    rw [inR_t] at hx
    rw [if_neg (by omega), if_neg (by omega), if_neg (by omega), if_neg (by omega), if_neg (by omega), if_neg (by omega), if_neg (by omega), if_neg (by omega)]; exact x2_noC h0
theorem p_line (hR : R1 S m) (x w : Int) : Ex1 (zF zP 181 v [(.inr (.inr (some 0))), .inl x, .inl w] m) (o_line S x w) := by
  have hS := hR.1
  obtain ⟨hl, hv⟩ := hR.ll
  unfold o_line
  rw [f_X10_line, if_pos hS.1, hR.r2, obind, if_pos hR.t5, s_hasLine hR.t5 hv.2.1.1, zC1_s]
  by_cases h : inB x (gL S).2.1.length = true
  · rw [if_neg (by rw [h]; decide), if_pos h]
    obtain ⟨i, rfl, hi⟩ := inB_nat h
    obtain ⟨g1, g2, g3⟩ := hv.ln hl hi
    rw [j_X10_line_17, if_pos hS.1, hR.r2, obind, if_pos hR.t5, s_lineAt hl g1, zC4_s, Int.toNat_natCast]
    by_cases h0 : w = 0
    · rw [if_pos h0, zsel_0 0 h0]
      show Ex1 (zX zP 181 v 60 _ _ _) _
      rw [j_X10_line_60, if_pos g2.1, if_pos hS.1, g3.1]; exact x1_yesC hR
    rw [if_neg h0]
    by_cases h1 : w = 1
    · rw [if_pos h1, zsel_0 1 h1]
      show Ex1 (zX zP 181 v 69 _ _ _) _
      rw [j_X10_line_69, if_pos g2.1, if_pos hS.1, g3.2.1]; exact x1_yesC hR
    rw [if_neg h1]
    by_cases h2 : w = 2
    · rw [if_pos h2, zsel_0 2 h2]
      show Ex1 (zX zP 181 v 78 _ _ _) _
      rw [j_X10_line_78, if_pos g2.1, g3.2.2.1]
      by_cases e : ((gL S).2.1.getD i ln0).2.1 = true
      · rw [if_neg (by rw [e]; decide), j_X10_line_91, if_pos hS.1, e]; exact x1_yesC hR
      · rw [if_pos (b01_ne.mpr (bool_f e)), j_X10_line_90, j_X10_line_91, if_pos hS.1, bool_f e]; exact x1_yesC hR
    rw [if_neg h2]
    by_cases h3 : w = 3
    · rw [if_pos h3, zsel_0 3 h3]
      show Ex1 (zX zP 181 v 95 _ _ _) _
      rw [j_X10_line_95, if_pos g2.1, s_wordSet g2 g3, zC1_s, if_pos hS.1]; exact x1_yesC hR
    rw [if_neg h3]
    by_cases h4 : w = 4
    · rw [if_pos h4, zsel_0 4 h4]
      show Ex1 (zX zP 181 v 104 _ _ _) _
      rw [j_X10_line_104, if_pos hS.1, hR.r2, obind, if_pos hR.t5, s_peopleAt hl hv, zC1_s, if_pos hS.1]; exact x1_yesC hR
    rw [if_neg h4, zsel_n (by show ¬ (0 ≤ w ∧ w < 5); omega), j_X10_line_117, if_pos hS.1]; exact x1_noC hR
  · rw [if_pos (b01_ne.mpr (bool_f h)), if_neg h, if_pos hS.1]; exact x1_noC hR
theorem w_line (hR : R2 S m) (x w : Int) : Ex2 (zF zP 319 v [(.inr (.inr (some 0))), .inl x, .inl w] m) (o_line S x w) := by
  have h0 := hR.pre
  have hl8 := hR.l8
  unfold o_line
  rw [f_X11_line, if_pos hR.1.1, zT_wi, if_pos hR.1.1, zT_wi, zT_wi, if_pos hR.1.1]
  generalize zwi (zwi m 0 1 0) 0 0 0 = m0 at h0 ⊢
  rw [m_isLineAt h0, zC1_s]
  by_cases h : inB x (gL S).2.1.length = true
  · rw [if_neg (by show ¬ b01 (inB x (gL S).2.1.length) = 0; rw [h]; decide), if_pos h]
    obtain ⟨i, rfl, hi⟩ := inB_nat h
    have q := h0.ln hi
    unfold MlB at q
    rw [Nat.zero_add, Nat.zero_add, Nat.zero_add] at q
    rw [j_X11_line_24, m_isIn, zC1_s, Int.toNat_natCast]
    by_cases hw : inR w 0 4 = true
    · rw [if_neg (by rw [hw]; decide), j_X11_line_42]
      rw [inR_t] at hw
      have h5' : w = 0 ∨ w = 1 ∨ w = 2 ∨ w = 3 ∨ w = 4 := by omega
      rcases h5' with rfl | rfl | rfl | rfl | rfl
      · have e : zadd (zadd 5 (zmul 8 0)) (i : Int) = ((5 + i : Nat) : Int) := by rw [show zadd 5 (zmul 8 0) = ((5 : Nat) : Int) by decide]; exact zadd_nat (by omega)
        rw [if_pos (by decide), if_pos h0.1.1, h0.1.2.1.2.1.1, obind, e, if_pos (A5 h0.1 (by omega) (by omega)), Int.toNat_natCast, q.1, j_X11_line_81, if_pos rfl]; exact x2_yes h0
      · have e : zadd (zadd 5 (zmul 8 1)) (i : Int) = ((13 + i : Nat) : Int) := by rw [show zadd 5 (zmul 8 1) = ((13 : Nat) : Int) by decide]; exact zadd_nat (by omega)
        rw [if_pos (by decide), if_pos h0.1.1, h0.1.2.1.2.1.1, obind, e, if_pos (A5 h0.1 (by omega) (by omega)), Int.toNat_natCast, q.2.1, j_X11_line_81, if_neg (by decide), if_pos rfl]; exact x2_yes h0
      · have e : zadd (zadd 5 (zmul 8 2)) (i : Int) = ((21 + i : Nat) : Int) := by rw [show zadd 5 (zmul 8 2) = ((21 : Nat) : Int) by decide]; exact zadd_nat (by omega)
        rw [if_pos (by decide), if_pos h0.1.1, h0.1.2.1.2.1.1, obind, e, if_pos (A5 h0.1 (by omega) (by omega)), Int.toNat_natCast, q.2.2.2.1, j_X11_line_81, if_neg (by decide), if_neg (by decide), if_pos rfl]; exact x2_yes h0
      · rw [if_neg (by decide), j_X11_line_63, if_pos rfl, if_pos h0.1.1, m_wordsOf h0 hi, zC1_s, j_X11_line_81, if_neg (by decide), if_neg (by decide), if_neg (by decide), if_pos rfl]; exact x2_yes h0
      · rw [if_neg (by decide), j_X11_line_63, if_neg (by decide), j_X11_line_76, if_pos h0.1.1, m_peopleAt h0, zC1_s, j_X11_line_81, if_neg (by decide), if_neg (by decide), if_neg (by decide), if_neg (by decide), if_pos rfl]; exact x2_yes h0
    · rw [if_pos (b01_ne.mpr (bool_f hw)), if_pos h0.1.1]
      rw [inR_t] at hw
      rw [if_neg (by omega), if_neg (by omega), if_neg (by omega), if_neg (by omega), if_neg (by omega)]; exact x2_noC h0
  · rw [if_pos (show b01 (inB x (gL S).2.1.length) = 0 from b01_ne.mpr (bool_f h)), if_neg h, if_pos h0.1.1]; exact x2_noC h0
theorem p_lineOf (hR : R1 S m) (x : Int) : Ex1 (zF zP 182 v [(.inr (.inr (some 0))), .inl x] m) (o_lineOf S x) := by
  have hS := hR.1
  obtain ⟨hl, hv⟩ := hR.ll
  unfold o_lineOf
  rw [f_X10_lineOf]
  by_cases h : inR x 1 999 = true
  · rw [if_pos h]
    rw [inR_t] at h
    rw [if_neg (by omega), if_neg (by omega), j_X10_lineOf_18, if_pos hS.1, hR.r2, obind, if_pos hR.t5, s_lineNumbered hl hv, zC1_s]
    by_cases e : lnum (gL S) x = -1
    · rw [if_pos e, if_pos e, if_pos hS.1, c_no hS, zC1_s, j_X10_lineOf_46]; exact x1_no hR
    · rw [if_neg e, if_neg e, j_X10_lineOf_41, if_pos hS.1, c_yes hS, zC1_s, j_X10_lineOf_46]; exact x1_yes hR
  · rw [if_neg h]
    rw [inR_t] at h
    by_cases h1 : x < 1
    · rw [if_pos h1, j_X10_lineOf_12, if_pos hS.1]; exact x1_noC hR
    · rw [if_neg h1, if_pos (by omega), j_X10_lineOf_12, if_pos hS.1]; exact x1_noC hR
theorem lnum_ge (L : zLd) (x : Int) : ¬ lnum L x = -1 → 0 ≤ lnum L x := by
  intro h
  rcases lnum_of L x with q | ⟨i, q, _⟩
  · exact absurd q h
  · omega
theorem w_lineOf (hR : R2 S m) (x : Int) : Ex2 (zF zP 321 v [(.inr (.inr (some 0))), .inl x] m) (o_lineOf S x) := by
  have h0 := hR.pre
  unfold o_lineOf
  rw [f_X11_lineOf, if_pos hR.1.1, zT_wi, if_pos hR.1.1, m_isNumber, zC1_s]
  generalize zwi (zwi m 0 1 0) 0 0 0 = m0 at h0 ⊢
  by_cases h : inR x 1 999 = true
  · rw [if_neg (by rw [h]; decide), if_pos h, j_X11_lineOf_23, if_pos h0.1.1, m_lineBy h0, zC1_s]
    show Ex2 (if lnum (gL S) x < 0 then _ else _) _
    by_cases e : lnum (gL S) x = -1
    · rw [if_pos e, if_pos (by omega), if_pos h0.1.1, m_refuse h0.1, zC1_s, j_X11_lineOf_44]; exact x2_no h0
    · have := lnum_ge _ _ e
      rw [if_neg e, if_neg (by omega), j_X11_lineOf_43, j_X11_lineOf_44]; exact x2_yes h0
  · rw [if_pos (b01_ne.mpr (bool_f h)), if_neg h, if_pos h0.1.1]; exact x2_noC h0
theorem s_hasEdit {a : Nat} {L : zLd} (hl : LdS m a) (hv : LdV m a L) (x y : Int) : zF zP 19 v [(.inr (.inr (some a))), .inl x, .inl y] m = some (some (.inl (b01 (inB x L.2.1.length && inB y (L.2.1.getD x.toNat ln0).2.2.length))), m) := by
  rw [f_X0_hasEdit, if_pos hl.1, s_hasLine hl.1 hv.2.1.1, zC1_s]
  by_cases h : inB x L.2.1.length = true
  · obtain ⟨i, rfl, hi⟩ := inB_nat h
    obtain ⟨g1, g2, g3⟩ := hv.ln hl hi
    rw [if_neg (by rw [h]; decide), h, Bool.true_and, Int.toNat_natCast]
    by_cases h0 : y < 0
    · rw [if_pos h0, j_X0_hasEdit_28, j_X0_hasEdit_29, if_pos zb0, b01_f (by rw [inB_t]; omega)]
    · rw [if_neg h0, if_pos hl.1, s_lineAt hl g1, zC4_s, if_pos g2.1, g3.2.1]
      by_cases h1 : y < ((L.2.1.getD i ln0).2.2.length : Int)
      · rw [if_pos h1, j_X0_hasEdit_29, if_pos zb1, b01_t (by rw [inB_t]; omega)]
      · rw [if_neg h1, j_X0_hasEdit_28, j_X0_hasEdit_29, if_pos zb0, b01_f (by rw [inB_t]; omega)]
  · rw [if_pos (b01_ne.mpr (bool_f h)), j_X0_hasEdit_28, j_X0_hasEdit_29, if_pos zb0, bool_f h]; rfl
theorem p_edit (hR : R1 S m) (x y w : Int) : Ex1 (zF zP 183 v [(.inr (.inr (some 0))), .inl x, .inl y, .inl w] m) (o_edit S x y w) := by
  have hS := hR.1
  obtain ⟨hl, hv⟩ := hR.ll
  unfold o_edit
  rw [f_X10_edit, if_pos hS.1, hR.r2, obind, if_pos hR.t5, s_hasEdit hl hv, zC1_s]
  by_cases h : (inB x (gL S).2.1.length && inB y ((gL S).2.1.getD x.toNat ln0).2.2.length) = true
  · rw [if_neg (by rw [h]; decide), if_pos h]
    rw [Bool.and_eq_true] at h
    obtain ⟨i, rfl, hi⟩ := inB_nat h.1
    obtain ⟨k, rfl, hk⟩ := inB_nat h.2
    rw [Int.toNat_natCast] at hk
    obtain ⟨g1, g2, g3⟩ := hv.ln hl hi
    have h4 := g3.2.2.2.1
    have he := es_ok g3.2.2.2.2.1 k
    rw [j_X10_edit_18, if_pos hS.1, hR.r2, obind, if_pos hR.t5, s_lineAt hl g1, zC4_s, if_pos g2.1, s_editAt g2 (by omega), zC1_s, g3.2.2.2.2.2 k hk, Int.toNat_natCast, Int.toNat_natCast]
    generalize ((gL S).2.1.getD i ln0).2.2.getD k e00 = e at he ⊢
    by_cases h0 : w = 0
    · rw [if_pos h0, zsel_0 0 h0]
      show Ex1 (zX zP 183 v 64 _ _ _) _
      rw [j_X10_edit_64, s_kindOf he, zC1_s, if_pos hS.1]; exact x1_yesC hR
    rw [if_neg h0]
    by_cases h1 : w = 1
    · rw [if_pos h1, zsel_0 1 h1]
      show Ex1 (zX zP 183 v 74 _ _ _) _
      rw [j_X10_edit_74, s_wordOf he, zC1_s, if_pos hS.1]; exact x1_yesC hR
    rw [if_neg h1]
    by_cases h2 : w = 2
    · rw [if_pos h2, zsel_0 2 h2]
      show Ex1 (zX zP 183 v 84 _ _ _) _
      rw [j_X10_edit_84, s_kindOf he, zC1_s]
      by_cases e1 : e.1 = 1
      · rw [if_pos (by omega), if_pos e1, if_pos hS.1, c_no hS, zC1_s, j_X10_edit_111]; exact x1_no hR
      · rw [if_neg (by omega), if_neg e1, j_X10_edit_102, s_otherOf he, zC1_s, if_pos hS.1, c_yes hS, zC1_s, j_X10_edit_111]; exact x1_yes hR
    rw [if_neg h2]
    by_cases h3 : w = 3
    · rw [if_pos h3, zsel_0 3 h3]
      show Ex1 (zX zP 183 v 112 _ _ _) _
      rw [j_X10_edit_112, s_isPassim he, zC1_s]
      by_cases e1 : e.2.2.2 = true
      · rw [if_neg (by rw [e1]; decide), j_X10_edit_126, if_pos hS.1, e1]; exact x1_yesC hR
      · rw [if_pos (b01_ne.mpr (bool_f e1)), j_X10_edit_125, j_X10_edit_126, if_pos hS.1, bool_f e1]; exact x1_yesC hR
    rw [if_neg h3, zsel_n (by show ¬ (0 ≤ w ∧ w < 4); omega), j_X10_edit_130, if_pos hS.1]; exact x1_noC hR
  · rw [if_pos (b01_ne.mpr (bool_f h)), if_neg h, if_pos hS.1]; exact x1_noC hR
theorem w_edit (hR : R2 S m) (x y w : Int) : Ex2 (zF zP 322 v [(.inr (.inr (some 0))), .inl x, .inl y, .inl w] m) (o_edit S x y w) := by
  have h0 := hR.pre
  have hl8 := hR.l8
  unfold o_edit
  rw [f_X11_edit, if_pos hR.1.1, zT_wi, if_pos hR.1.1, zT_wi, zT_wi, if_pos hR.1.1]
  generalize zwi (zwi m 0 1 0) 0 0 0 = m0 at h0 ⊢
  rw [m_isEditAt h0, zC1_s]
  show Ex2 (if b01 (inB x (gL S).2.1.length && inB y ((gL S).2.1.getD x.toNat ln0).2.2.length) = 0 then _ else _) _
  by_cases h : (inB x (gL S).2.1.length && inB y ((gL S).2.1.getD x.toNat ln0).2.2.length) = true
  · rw [if_neg (by rw [h]; decide), if_pos h]
    rw [Bool.and_eq_true] at h
    obtain ⟨i, rfl, hi⟩ := inB_nat h.1
    obtain ⟨k, rfl, hk⟩ := inB_nat h.2
    rw [Int.toNat_natCast] at hk
    obtain ⟨d1, d2, d3, d4⟩ := h0.ed (i := i) (k := k) hi hk
    have h4 := (h0.em hi).2.1
    have hk4 : k < 4 := Nat.lt_of_lt_of_le hk h4
    obtain ⟨⟨A0, A1, A2, A3⟩, c0, c1, c2, c3⟩ := cN h0.1 (cellN_lt (i := i) (k := k) (by omega) hk4)
    rw [j_X11_edit_25, m_isIn, zC1_s, Int.toNat_natCast, Int.toNat_natCast]
    have h71 : ∀ (w : Int) (c : Nat), zadd (cellN i k : Int) w = (c : Int) → zA m0 5 9 (c : Int) = true → zX zP 322 v 71 [some (.inr (.inr (some 0))), some (.inl (i : Int)), some (.inl (k : Int)), some (.inl w)] [] m0 = some (some (.inl (zi m0 5 c)), m0) := fun w c h1 h2 => by
      rw [j_X11_edit_71, if_pos h0.1.1, h0.1.2.1.2.1.1, obind, m_cellI (by omega) hk4, zC1_s, h1, if_pos h2, Int.toNat_natCast, j_X11_edit_83]
    by_cases hw : inR w 0 3 = true
    · rw [if_neg (by rw [hw]; decide), j_X11_edit_43]
      rw [inR_t] at hw
      have h5' : w = 0 ∨ w = 1 ∨ w = 2 ∨ w = 3 := by omega
      rcases h5' with rfl | rfl | rfl | rfl
      · rw [if_neg (by decide), if_pos rfl, h71 0 _ c0 A0, d1]; exact x2_yes h0
      · rw [if_neg (by decide), if_neg (by decide), if_pos rfl, h71 1 _ c1 A1, d2]; exact x2_yes h0
      · rw [if_pos rfl, if_neg (show ¬ (2 : Int) = 0 by decide), if_neg (show ¬ (2 : Int) = 1 by decide), if_pos (show (2 : Int) = 2 from rfl), if_pos h0.1.1, h0.1.2.1.2.1.1, obind, m_cellI (by omega) hk4, zC1_s, if_pos A0, Int.toNat_natCast, d1]
        show Ex2 (if ((((gL S).2.1.getD i ln0).2.2.getD k e00).1 : Int) = 1 then _ else _) _
        by_cases e1 : (((gL S).2.1.getD i ln0).2.2.getD k e00).1 = 1
        · rw [if_pos e1, if_pos (by omega), if_pos h0.1.1, m_refuse h0.1, zC1_s, j_X11_edit_83]; exact x2_no h0
        · rw [if_neg e1, if_neg (by omega), h71 2 _ c2 A2, d3]; exact x2_yes h0
      · rw [if_neg (by decide), if_neg (by decide), if_neg (by decide), if_neg (by decide), if_pos rfl, h71 3 _ c3 A3, d4]; exact x2_yes h0
    · rw [if_pos (b01_ne.mpr (bool_f hw)), if_pos h0.1.1]
      rw [inR_t] at hw
      rw [if_neg (by omega), if_neg (by omega), if_neg (by omega), if_neg (by omega)]; exact x2_noC h0
  · rw [if_pos (b01_ne.mpr (bool_f h)), if_neg h, if_pos h0.1.1]; exact x2_noC h0
end OPS2
