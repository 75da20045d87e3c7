/-! SAME of both: the orders of a LINE's EDITS. -/
def popc (u : Nat) : Nat := (u.testBit 0).toNat + (u.testBit 1).toNat + (u.testBit 2).toNat + (u.testBit 3).toNat
def sumU (u : Nat) (f : Nat → Int) : Nat → Nat → Int → Int
  | 0, _, acc => acc
  | n + 1, k, acc => sumU u f n (k + 1) (if u.testBit k = true then acc else zadd acc (f k))
def eStep (es : List zEd) (k : Nat) (r : List Nat) : List Nat := (edone (es.getD k e00) r).getD r
def orC (es : List zEd) (w : List Nat) : Nat → Nat → List Nat → Int
  | 0, _, r => if r = w then 1 else 0
  | n + 1, u, r => sumU u (fun e => orC es w n (u ||| 2 ^ e) (eStep es e r)) es.length 0 0
def o_same (S : zSt) (t n x : Int) : Int × zSt :=
  if yRw S t n (inB x (gL S).2.1.length) = 0 then
    oYes S (orC ((gL S).2.1.getD x.toNat ln0).2.2 (lput ((gL S).2.1.getD x.toNat ln0).2.2 (yRow S t n)) ((gL S).2.1.getD x.toNat ln0).2.2.length 0 (yRow S t n))
  else oNo S (yRw S t n (inB x (gL S).2.1.length))
theorem sf1 (len : Nat) (h1 : len < 5) (u : Nat) (h2 : u < 16) (h3 : u < 2 ^ len) (k : Nat) (h4 : k < 4) (h5 : k < len) (h6 : u.testBit k = false) : u ||| 2 ^ k < 2 ^ len ∧ popc (u ||| 2 ^ k) = popc u + 1 ∧ zor (u : Int) (zshl 1 (k : Int)) = ((u ||| 2 ^ k : Nat) : Int) ∧ zand ((2 ^ len - 1 - u : Nat) : Int) (zxor (zshl 1 (k : Int)) (-1)) = ((2 ^ len - 1 - (u ||| 2 ^ k) : Nat) : Int) := by
  have key : ∀ (len : Fin 5) (u : Fin 16) (k : Fin 4), (decide (u.val < 2 ^ len.val) && (decide (k.val < len.val) && !u.val.testBit k.val)) = true → u.val ||| 2 ^ k.val < 2 ^ len.val ∧ popc (u.val ||| 2 ^ k.val) = popc u.val + 1 ∧ zor ((u.val : Nat) : Int) (zshl 1 ((k.val : Nat) : Int)) = ((u.val ||| 2 ^ k.val : Nat) : Int) ∧ zand ((2 ^ len.val - 1 - u.val : Nat) : Int) (zxor (zshl 1 ((k.val : Nat) : Int)) (-1)) = ((2 ^ len.val - 1 - (u.val ||| 2 ^ k.val) : Nat) : Int) := by decide +kernel
  exact key ⟨len, h1⟩ ⟨u, h2⟩ ⟨k, h4⟩ (by rw [decide_eq_true h3, decide_eq_true h5, h6]; rfl)
theorem sf2 : ∀ len : Nat, len < 5 → ∀ u : Nat, u < 16 → u < 2 ^ len → szF ((2 ^ len - 1 - u : Nat) : Int) 8 0 0 = ((len - popc u : Nat) : Int) ∧ popc u ≤ len ∧ (2 ^ len - 1 - u = 0 ↔ popc u = len) := by decide +kernel
theorem sf3 : ∀ u : Nat, u < 16 → ∀ k : Nat, k < 4 → zand (zshr (u : Int) (k : Int)) 1 = (if u.testBit k = true then 1 else 0) := by decide +kernel
theorem sf4 : ∀ len : Nat, len < 5 → ∀ u : Nat, u < 16 → u < 2 ^ len → ∀ k : Nat, k < 4 → k < len → hasI ((2 ^ len - 1 - u : Nat) : Int) (k : Int) = !u.testBit k := by decide +kernel
theorem pw16 {len u : Nat} (h : len ≤ 4) (hu : u < 2 ^ len) : u < 16 := by
  have : 2 ^ len ≤ 2 ^ 4 := Nat.pow_le_pow_right (by decide) h
  omega
theorem eStep_ok {es : List zEd} (he : ∀ e ∈ es, eOk e) (k : Nat) {r : List Nat} (hr : rOk r) : rOk (eStep es k r) := getD_edone_ok (es_ok he k) hr
theorem r32_sumU (u : Nat) (f : Nat → Int) : ∀ (n k : Nat) (acc : Int), r32 acc → r32 (sumU u f n k acc)
  | 0, _, acc, h => h
  | n + 1, k, acc, h => by
    unfold sumU
    split
    · exact r32_sumU u f n _ _ h
    · exact r32_sumU u f n _ _ (r32_zadd _ _)
section SAME
variable {v : Nat} {S : zSt} {m : zM}
theorem s_orders {a : Nat} {num : Int} {lost : Bool} {es : List zEd} (h : LnS m a) (hv : LnV m a num lost es) {w : List Nat} (hw : rOk w) : ∀ (n u : Nat) (r : List Nat), n + popc u = es.length → u < 2 ^ es.length → rOk r →
    zF zP 88 (v + n) [.inr (.inr (some a)), .inr (.inl (zrow r)), .inr (.inl (zrow w)), .inl (u : Int), .inl (popc u : Int)] m = some (some (.inl (orC es w n u r)), m) := by
  have h4 := hv.2.2.2.1
  have he := hv.2.2.2.2.1
  intro n
  induction n with
  | zero =>
    intro u r hn hu hr
    rw [f_X4_ordersTo, if_pos h.1, hv.2.1, if_neg (by omega), j_X4_ordersTo_15]
    unfold orC
    by_cases e : r = w
    · rw [if_pos (zlcmp_eq.mpr (by rw [e])), j_X4_ordersTo_26, if_pos e]
    · rw [if_neg (fun q => e (zrow_inj hr hw (zlcmp_eq.mp q))), j_X4_ordersTo_25, j_X4_ordersTo_26, if_neg e]
  | succ n ih =>
    intro u r hn hu hr
    have hu16 := pw16 h4 hu
    have loop : ∀ (j k : Nat) (acc : Int) (u9 u10 : Option zV), k + j = es.length →
        zX zP 88 (v + n + 1) 33 [some (.inr (.inr (some a))), some (.inr (.inl (zrow r))), none, some (.inr (.inl (zrow w))), none, some (.inl (u : Int)), some (.inl (popc u : Int)), some (.inl acc), some (.inl (k : Int)), u9, u10] [] m
          = some (some (.inl (sumU u (fun e => orC es w n (u ||| 2 ^ e) (eStep es e r)) j k acc)), m) := by
      intro j
      induction j with
      | zero =>
        intro k acc u9 u10 hk
        rw [j_X4_ordersTo_33, if_pos h.1, hv.2.1, if_neg (by omega), j_X4_ordersTo_93]; rfl
      | succ j ihj =>
        intro k acc u9 u10 hk
        have e1 : zadd (k : Int) 1 = ((k + 1 : Nat) : Int) := zadd_nat (k := 1) (by omega)
        have b := sf3 u hu16 k (by omega)
        rw [j_X4_ordersTo_33, if_pos h.1, hv.2.1, if_pos (by omega), b]
        unfold sumU
        by_cases c : u.testBit k = true
        · rw [if_pos c, if_neg (by decide), j_X4_ordersTo_87, e1, ihj (k + 1) acc u9 u10 (by omega), if_pos c]
        · obtain ⟨d1, d2, d3, d4⟩ := sf1 es.length (by omega) u hu16 hu k (by omega) (by omega) (bool_f c)
          have ep : zadd (popc u : Int) 1 = ((popc (u ||| 2 ^ k) : Nat) : Int) := by rw [d2]; exact zadd_nat (k := 1) (by omega)
          rw [if_neg c, if_pos rfl, if_pos h.1, s_editAt h (by omega), zC1_s, hv.2.2.2.2.2 k (by omega), s_doneOrNot (es_ok he k) hr, zC2_s, d3, ep]
          show zC1 (zF zP 88 (v + n) [.inr (.inr (some a)), .inr (.inl (zrow (eStep es k r))), .inr (.inl (zrow w)), .inl ((u ||| 2 ^ k : Nat) : Int), .inl ((popc (u ||| 2 ^ k) : Nat) : Int)] m) _ = _
          rw [ih (u ||| 2 ^ k) (eStep es k r) (by omega) d1 (eStep_ok he k hr), zC1_s, j_X4_ordersTo_87, e1, ihj (k + 1) _ _ _ (by omega), if_neg c]
    have e0 : ((0 : Nat) : Int) = 0 := rfl
    have hl := loop es.length 0 0 none none (Nat.zero_add _)
    rw [e0] at hl
    rw [f_X4_ordersTo, if_pos h.1, hv.2.1, if_pos (by omega), if_pos (by omega), j_X4_ordersTo_27]
    exact hl
theorem s_ordersAlike {a : Nat} {num : Int} {lost : Bool} {es : List zEd} (h : LnS m a) (hv : LnV m a num lost es) {l : List Nat} (hl : rOk l) : zF zP 89 v [.inr (.inr (some a)), .inr (.inl (zrow l))] m = some (some (.inl (orC es (lput es l) es.length 0 l)), m) := by
  have h4 := hv.2.2.2.1
  have hh := s_orders (v := 6 - es.length) h hv (w := lput es l) (lput_ok es l hv.2.2.2.2.1 hl) es.length 0 l rfl (Nat.two_pow_pos _) hl
  rw [show 6 - es.length + es.length = 6 by omega] at hh
  rw [f_X4_ordersAlike, if_pos h.1, s_putRight h hv hl, zC2_s]
  show zC1 (zF zP 88 6 [.inr (.inr (some a)), .inr (.inl (zrow l)), .inr (.inl (zrow (lput es l))), .inl ((0 : Nat) : Int), .inl ((popc 0 : Nat) : Int)] m) _ = _
  rw [hh, zC1_s]
theorem p_same (hR : R1 S m) (t n x : Int) : Ex1 (zF zP 207 v [.inr (.inr (some 0)), .inl t, .inl n, .inl x] m) (o_same S t n x) := by
  have hS := hR.1
  obtain ⟨hl, hv⟩ := hR.ll
  unfold o_same
  rw [f_X10_same, if_pos hS.1, hR.r2, obind, if_pos hR.t5, s_hasLine hR.t5 hv.2.1.1, zC1_s, if_pos hS.1, c_rowStatus hR, zC1_s]
  by_cases h : yRw S t n (inB x (gL S).2.1.length) = 0
  · obtain ⟨t', k, q1, q2, q3, q4, q5, q6⟩ := yRw0 h
    obtain ⟨i, rfl, hi⟩ := inB_nat q5
    obtain ⟨g1, g2, g3⟩ := hv.ln hl hi
    rw [if_pos h, if_pos h, if_pos hS.1, hR.r2, obind, if_pos hR.t5, s_lineAt hl g1, zC4_s, if_pos hS.1, c_rowIn hR h, zC2_s, s_ordersAlike g2 g3 (yRow_ok hR.w16 h), zC1_s, if_pos hS.1, c_yes hS, zC1_s, j_X10_same_51, Int.toNat_natCast]
    exact x1_yes hR
  · rw [if_neg h, if_neg h, j_X10_same_45, if_pos hS.1, c_no hS, zC1_s, j_X10_same_51]; exact x1_no hR
end SAME
