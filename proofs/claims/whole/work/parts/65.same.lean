/-! SAME of both: the orders of a LINE's EDITS. -/
def popc (u : Nat) : Nat := (u.testBit 0).toNat + (u.testBit 1).toNat + (u.testBit 2).toNat + (u.testBit 3).toNat
def sumU (u : Nat) (f : Nat → Int) : Nat → Nat → Int → Int
  | 0, _, acc => acc
  | n + 1, k, acc => sumU u f n (k + 1) (if u.testBit k = true then acc else zadd acc (f k))
def eStep (es : List zEd) (k : Nat) (r : List Nat) : List Nat := (edone (es.getD k e00) r).getD r
def orC (es : List zEd) (w : List Nat) : Nat → Nat → List Nat → Int
  | 0, _, r => if r = w then 1 else 0
  | n + 1, u, r => sumU u (fun e => orC es w n (u ||| 2 ^ e) (eStep es e r)) es.length 0 0
def o_same (S : zSt) (t n x : Int) : Int × zSt :=
  if yRw S t n (inB x (gL S).2.1.length) = 0 then
    oYes S (orC ((gL S).2.1.getD x.toNat ln0).2.2 (lput ((gL S).2.1.getD x.toNat ln0).2.2 (yRow S t n)) ((gL S).2.1.getD x.toNat ln0).2.2.length 0 (yRow S t n))
  else oNo S (yRw S t n (inB x (gL S).2.1.length))
theorem sf1 (len : Nat) (h1 : len < 5) (u : Nat) (h2 : u < 16) (h3 : u < 2 ^ len) (k : Nat) (h4 : k < 4) (h5 : k < len) (h6 : u.testBit k = false) : u ||| 2 ^ k < 2 ^ len ∧ popc (u ||| 2 ^ k) = popc u + 1 ∧ zor (u : Int) (zshl 1 (k : Int)) = ((u ||| 2 ^ k : Nat) : Int) ∧ zand ((2 ^ len - 1 - u : Nat) : Int) (zxor (zshl 1 (k : Int)) (-1)) = ((2 ^ len - 1 - (u ||| 2 ^ k) : Nat) : Int) := by
  have key : ∀ (len : Fin 5) (u : Fin 16) (k : Fin 4), (decide (u.val < 2 ^ len.val) && (decide (k.val < len.val) && !u.val.testBit k.val)) = true → u.val ||| 2 ^ k.val < 2 ^ len.val ∧ popc (u.val ||| 2 ^ k.val) = popc u.val + 1 ∧ zor ((u.val : Nat) : Int) (zshl 1 ((k.val : Nat) : Int)) = ((u.val ||| 2 ^ k.val : Nat) : Int) ∧ zand ((2 ^ len.val - 1 - u.val : Nat) : Int) (zxor (zshl 1 ((k.val : Nat) : Int)) (-1)) = ((2 ^ len.val - 1 - (u.val ||| 2 ^ k.val) : Nat) : Int) := by decide +kernel
  exact key ⟨len, h1⟩ ⟨u, h2⟩ ⟨k, h4⟩ (by rw [decide_eq_true h3, decide_eq_true h5, h6]; rfl)
theorem sf2 : ∀ len : Nat, len < 5 → ∀ u : Nat, u < 16 → u < 2 ^ len → szF ((2 ^ len - 1 - u : Nat) : Int) 8 0 0 = ((len - popc u : Nat) : Int) ∧ popc u ≤ len ∧ (2 ^ len - 1 - u = 0 ↔ popc u = len) := by decide +kernel
theorem sf3 : ∀ u : Nat, u < 16 → ∀ k : Nat, k < 4 → zand (zshr (u : Int) (k : Int)) 1 = (if u.testBit k = true then 1 else 0) := by decide +kernel
theorem sf4 : ∀ len : Nat, len < 5 → ∀ u : Nat, u < 16 → u < 2 ^ len → ∀ k : Nat, k < 4 → k < len → hasI ((2 ^ len - 1 - u : Nat) : Int) (k : Int) = !u.testBit k := by decide +kernel
theorem pw16 {len u : Nat} (h : len ≤ 4) (hu : u < 2 ^ len) : u < 16 := by
  have : 2 ^ len ≤ 2 ^ 4 := Nat.pow_le_pow_right (by decide) h
  omega
theorem eStep_ok {es : List zEd} (he : ∀ e ∈ es, eOk e) (k : Nat) {r : List Nat} (hr : rOk r) : rOk (eStep es k r) := getD_edone_ok (es_ok he k) hr
theorem r32_sumU (u : Nat) (f : Nat → Int) : ∀ (n k : Nat) (acc : Int), r32 acc → r32 (sumU u f n k acc)
  | 0, _, acc, h => h
  | n + 1, k, acc, h => by
    unfold sumU
    split
    · exact r32_sumU u f n _ _ h
    · exact r32_sumU u f n _ _ (r32_zadd _ _)
section SAME
variable {v : Nat} {S : zSt} {m : zM}
theorem s_orders {a : Nat} {num : Int} {lost : Bool} {es : List zEd} (h : LnS m a) (hv : LnV m a num lost es) {w : List Nat} (hw : rOk w) : ∀ (n u : Nat) (r : List Nat), n + popc u = es.length → u < 2 ^ es.length → rOk r →
    zF zP 88 (v + n) [(.inr (.inr (some a))), .inr (.inl (zrow r)), .inr (.inl (zrow w)), .inl (u : Int), .inl (popc u : Int)] m = some (some (.inl (orC es w n u r)), m) := by
  have h4 := hv.2.2.2.1
  have he := hv.2.2.2.2.1
  intro n
  induction n with
  | zero =>
    intro u r hn hu hr
    rw [f_X4_ordersTo, if_pos h.1, hv.2.1, if_neg (by omega), j_X4_ordersTo_15]
    unfold orC
    by_cases e : r = w
    · rw [if_pos (zlcmp_eq.mpr (by rw [e])), j_X4_ordersTo_26, if_pos e]
    · rw [if_neg (fun q => e (zrow_inj hr hw (zlcmp_eq.mp q))), j_X4_ordersTo_25, j_X4_ordersTo_26, if_neg e]
  | succ n ih =>
    intro u r hn hu hr
    have hu16 := pw16 h4 hu
    have loop : ∀ (j k : Nat) (acc : Int) (u9 u10 : Option zV), k + j = es.length →
        zX zP 88 (v + n + 1) 33 [some ((.inr (.inr (some a)))), some (.inr (.inl (zrow r))), none, some (.inr (.inl (zrow w))), none, some (.inl (u : Int)), some (.inl (popc u : Int)), some (.inl acc), some (.inl (k : Int)), u9, u10] [] m
          = some (some (.inl (sumU u (fun e => orC es w n (u ||| 2 ^ e) (eStep es e r)) j k acc)), m) := by
      intro j
      induction j with
      | zero =>
        intro k acc u9 u10 hk
        rw [j_X4_ordersTo_33, if_pos h.1, hv.2.1, if_neg (by omega), j_X4_ordersTo_93]; rfl
      | succ j ihj =>
        intro k acc u9 u10 hk
        have e1 : zadd (k : Int) 1 = ((k + 1 : Nat) : Int) := zadd_nat (k := 1) (by omega)
        have b := sf3 u hu16 k (by omega)
        rw [j_X4_ordersTo_33, if_pos h.1, hv.2.1, if_pos (by omega), b]
        unfold sumU
        by_cases c : u.testBit k = true
        · rw [if_pos c, if_neg (by decide), j_X4_ordersTo_87, e1, ihj (k + 1) acc u9 u10 (by omega), if_pos c]
        · obtain ⟨d1, d2, d3, d4⟩ := sf1 es.length (by omega) u hu16 hu k (by omega) (by omega) (bool_f c)
          have ep : zadd (popc u : Int) 1 = ((popc (u ||| 2 ^ k) : Nat) : Int) := by rw [d2]; exact zadd_nat (k := 1) (by omega)
          rw [if_neg c, if_pos rfl, if_pos h.1, s_editAt h (by omega), zC1_s, hv.2.2.2.2.2 k (by omega), s_doneOrNot (es_ok he k) hr, zC2_s, d3, ep]
          show zC1 (zF zP 88 (v + n) [(.inr (.inr (some a))), .inr (.inl (zrow (eStep es k r))), .inr (.inl (zrow w)), .inl ((u ||| 2 ^ k : Nat) : Int), .inl ((popc (u ||| 2 ^ k) : Nat) : Int)] m) _ = _
          rw [ih (u ||| 2 ^ k) (eStep es k r) (by omega) d1 (eStep_ok he k hr), zC1_s, j_X4_ordersTo_87, e1, ihj (k + 1) _ _ _ (by omega), if_neg c]
    have e0 : ((0 : Nat) : Int) = 0 := rfl
    have hl := loop es.length 0 0 none none (Nat.zero_add _)
    rw [e0] at hl
    rw [f_X4_ordersTo, if_pos h.1, hv.2.1, if_pos (by omega), if_pos (by omega), j_X4_ordersTo_27]
    exact hl
theorem s_ordersAlike {a : Nat} {num : Int} {lost : Bool} {es : List zEd} (h : LnS m a) (hv : LnV m a num lost es) {l : List Nat} (hl : rOk l) : zF zP 89 v [(.inr (.inr (some a))), .inr (.inl (zrow l))] m = some (some (.inl (orC es (lput es l) es.length 0 l)), m) := by
  have h4 := hv.2.2.2.1
  have hh := s_orders (v := 6 - es.length) h hv (w := lput es l) (lput_ok es l hv.2.2.2.2.1 hl) es.length 0 l rfl (Nat.two_pow_pos _) hl
  rw [show 6 - es.length + es.length = 6 by omega] at hh
  rw [f_X4_ordersAlike, if_pos h.1, s_putRight h hv hl, zC2_s]
  show zC1 (zF zP 88 6 [(.inr (.inr (some a))), .inr (.inl (zrow l)), .inr (.inl (zrow (lput es l))), .inl ((0 : Nat) : Int), .inl ((popc 0 : Nat) : Int)] m) _ = _
  rw [hh, zC1_s]
theorem p_same (hR : R1 S m) (t n x : Int) : Ex1 (zF zP 207 v [(.inr (.inr (some 0))), .inl t, .inl n, .inl x] m) (o_same S t n x) := by
  have hS := hR.1
  obtain ⟨hl, hv⟩ := hR.ll
  unfold o_same
  rw [f_X10_same, if_pos hS.1, hR.r2, obind, if_pos hR.t5, s_hasLine hR.t5 hv.2.1.1, zC1_s, if_pos hS.1, c_rowStatus hR, zC1_s]
  by_cases h : yRw S t n (inB x (gL S).2.1.length) = 0
  · obtain ⟨t', k, q1, q2, q3, q4, q5, q6⟩ := yRw0 h
    obtain ⟨i, rfl, hi⟩ := inB_nat q5
    obtain ⟨g1, g2, g3⟩ := hv.ln hl hi
    rw [if_pos h, if_pos h, if_pos hS.1, hR.r2, obind, if_pos hR.t5, s_lineAt hl g1, zC4_s, if_pos hS.1, c_rowIn hR h, zC2_s, s_ordersAlike g2 g3 (yRow_ok hR.w16 h), zC1_s, if_pos hS.1, c_yes hS, zC1_s, j_X10_same_51, Int.toNat_natCast]
    exact x1_yes hR
  · rw [if_neg h, if_neg h, j_X10_same_45, if_pos hS.1, c_no hS, zC1_s, j_X10_same_51]; exact x1_no hR
/-- an order as a number: EDIT by EDIT -/
def doO (es : List zEd) : Nat → Nat → List Nat → List Nat
  | 0, _, l => l
  | n + 1, o, l => doO es n (o / 4) (eStep es (o % 4) l)
def dgO (len : Nat) : Nat → Nat → Prop
  | 0, _ => True
  | n + 1, o => o % 4 < len ∧ dgO len n (o / 4)
theorem doO_add (es : List zEd) {e : Nat} (he : e < 4) : ∀ (n o : Nat) (l : List Nat), o < 4 ^ n → doO es (n + 1) (o + e * 4 ^ n) l = eStep es e (doO es n o l)
  | 0, o, l, h => by
    have : o = 0 := by rw [Nat.pow_zero] at h; omega
    subst this
    show eStep es ((0 + e * 4 ^ 0) % 4) l = _
    rw [Nat.pow_zero, Nat.mul_one, Nat.zero_add, Nat.mod_eq_of_lt he]; rfl
  | n + 1, o, l, h => by
    have h1 : e * 4 ^ (n + 1) = 4 * (e * 4 ^ n) := by rw [Nat.pow_succ, ← Nat.mul_assoc, Nat.mul_comm]
    have h2 : 4 ^ (n + 1) = 4 * 4 ^ n := by rw [Nat.pow_succ, Nat.mul_comm]
    rw [h2] at h
    have ih := doO_add es he n (o / 4) (eStep es (o % 4) l) (by omega)
    show doO es (n + 1) ((o + e * 4 ^ (n + 1)) / 4) (eStep es ((o + e * 4 ^ (n + 1)) % 4) l) = eStep es e (doO es n (o / 4) (eStep es (o % 4) l))
    rw [h1, show (o + 4 * (e * 4 ^ n)) / 4 = o / 4 + e * 4 ^ n by omega, show (o + 4 * (e * 4 ^ n)) % 4 = o % 4 by omega]
    exact ih
theorem dgO_add {len e : Nat} (he : e < 4) (hl : e < len) : ∀ (n o : Nat), o < 4 ^ n → dgO len n o → dgO len (n + 1) (o + e * 4 ^ n)
  | 0, o, h, _ => by
    have : o = 0 := by rw [Nat.pow_zero] at h; omega
    subst this
    refine ⟨?_, trivial⟩
    rw [Nat.pow_zero, Nat.mul_one, Nat.zero_add, Nat.mod_eq_of_lt he]; exact hl
  | n + 1, o, h, hd => by
    have h1 : e * 4 ^ (n + 1) = 4 * (e * 4 ^ n) := by rw [Nat.pow_succ, ← Nat.mul_assoc, Nat.mul_comm]
    have h2 : 4 ^ (n + 1) = 4 * 4 ^ n := by rw [Nat.pow_succ, Nat.mul_comm]
    rw [h2] at h
    have ih := dgO_add he hl n (o / 4) (by omega) hd.2
    refine ⟨?_, ?_⟩
    · rw [h1, show (o + 4 * (e * 4 ^ n)) % 4 = o % 4 by omega]; exact hd.1
    · rw [h1, show (o + 4 * (e * 4 ^ n)) / 4 = o / 4 + e * 4 ^ n by omega]; exact ih
theorem add_lt4 {e n o : Nat} (he : e < 4) (h : o < 4 ^ n) : o + e * 4 ^ n < 4 ^ (n + 1) := by
  have h2 : 4 ^ (n + 1) = 4 * 4 ^ n := by rw [Nat.pow_succ, Nat.mul_comm]
  have : e * 4 ^ n ≤ 3 * 4 ^ n := Nat.mul_le_mul_right _ (by omega)
  omega
theorem pow4_le {n : Nat} (h : n ≤ 4) : 4 ^ n ≤ 256 := Nat.le_trans (Nat.pow_le_pow_right (by decide) h) (by decide)
theorem zdiv4 (o : Nat) (h : o < 1000) : zdiv (o : Int) 4 = ((o / 4 : Nat) : Int) := by
  have h1 : Int.tdiv (o : Int) 4 = ((o / 4 : Nat) : Int) := rfl
  unfold zdiv
  rw [h1]
  unfold i32
  rw [Int.bmod_eq_of_le (by omega) (by omega)]
theorem zrem4 (o : Nat) : zrem (o : Int) 4 = ((o % 4 : Nat) : Int) := rfl
theorem ar30 {m' : zM} {l : List Nat} (h : Fr (rowP 0) m m') (hv : ArV m 30 9 l) : ArV m' 30 9 l := h.ar (by unfold rowP; omega) (fun j => by unfold rowP; omega) hv
theorem m_order_do (hR0 : R2 S m) {i : Nat} (hi : i < (gL S).2.1.length) {x2 x3 : Int} {w : List Nat} : ∀ (n k o : Nat) (l : List Nat) (m1 : zM), Fr (rowP 0) m m1 → ArV m1 27 8 l → ArV m1 31 10 w → rOk l → k + n = ((gL S).2.1.getD i ln0).2.2.length → dgO ((gL S).2.1.getD i ln0).2.2.length n o → o < 1000 →
    ∃ m', zX zP 363 v 14 [some ((.inr (.inr (some 0)))), some (.inl (i : Int)), some (.inl x2), some (.inl x3), some (.inl (k : Int)), some (.inl (o : Int)), none] [] m1 = some (some (.inl (if doO ((gL S).2.1.getD i ln0).2.2 n o l = w then 1 else 0)), m') ∧ Fr (rowP 0) m m' := by
  have h8 := hR0.l8
  obtain ⟨a1, a2, a3⟩ := hR0.em hi
  have e13 : ∀ _ : Unit, zadd 13 (i : Int) = ((13 + i : Nat) : Int) := fun _ => zadd_nat (n := 13) (by omega)
  intro n
  induction n with
  | zero =>
    intro k o l m1 hF hv ho hl hk hd ho2
    have hR := hR0.fr (rowP_scr hF)
    refine ⟨m1, ?_, hF⟩
    rw [j_X11_orders_14, if_pos hR.1.1, hR.1.2.1.2.1.1, obind, e13 (), if_pos (cA hR.1 (by omega)), Int.toNat_natCast, (hR.em hi).1, if_neg (by omega), j_X11_orders_50, if_pos hR.1.1, m_isOther hR.1 hv ho, zC1_s]
    unfold doO
    by_cases e : l = w
    · rw [decide_eq_true e, if_neg (by decide), j_X11_orders_62, if_pos e]
    · rw [decide_eq_false e, if_pos (show b01 false = 0 from rfl), j_X11_orders_61, j_X11_orders_62, if_neg e]
  | succ n ih =>
    intro k o l m1 hF hv ho hl hk hd ho2
    have hR := hR0.fr (rowP_scr hF)
    obtain ⟨m2, f1, f2, f3, f4⟩ := m_editR (v := 0) hR hi (k := o % 4) hd.1 hv hl
    obtain ⟨m', g1, g2⟩ := ih (k + 1) (o / 4) _ m2 (hF.tr f2) f3 (ar31 f2 ho) f4 (by omega) hd.2 (by omega)
    have z1 : ∀ _ : Unit, zadd (k : Int) 1 = ((k + 1 : Nat) : Int) := fun _ => zadd_nat (k := 1) (by omega)
    refine ⟨m', ?_, g2⟩
    rw [j_X11_orders_14, if_pos hR.1.1, hR.1.2.1.2.1.1, obind, e13 (), if_pos (cA hR.1 (by omega)), Int.toNat_natCast, (hR.em hi).1, if_pos (by omega), if_neg (by decide), if_pos hR.1.1, zrem4, f1, zC1_s, if_neg (by decide), zdiv4 o ho2, z1 ()]
    exact g1
theorem m_order_pow (hR : R2 S m) {i : Nat} (hi : i < (gL S).2.1.length) {x2 x3 x4 : Int} : ∀ (n k d : Nat), k + n = ((gL S).2.1.getD i ln0).2.2.length → d + n ≤ 4 →
    zX zP 363 v 75 [some ((.inr (.inr (some 0)))), some (.inl (i : Int)), some (.inl x2), some (.inl x3), some (.inl x4), some (.inl ((4 ^ d : Nat) : Int)), some (.inl (k : Int))] [] m
      = zX zP 363 v 104 [some ((.inr (.inr (some 0)))), some (.inl (i : Int)), some (.inl x2), some (.inl x3), some (.inl x4), some (.inl ((4 ^ (d + n) : Nat) : Int)), some (.inl 0)] [] m := by
  have h8 := hR.l8
  obtain ⟨a1, a2, a3⟩ := hR.em hi
  have e13 : ∀ _ : Unit, zadd 13 (i : Int) = ((13 + i : Nat) : Int) := fun _ => zadd_nat (n := 13) (by omega)
  intro n
  induction n with
  | zero =>
    intro k d hk hd
    rw [j_X11_orders_75, if_pos hR.1.1, hR.1.2.1.2.1.1, obind, e13 (), if_pos (cA hR.1 (by omega)), Int.toNat_natCast, a1, if_neg (by omega), j_X11_orders_101]; rfl
  | succ n ih =>
    intro k d hk hd
    have z1 : ∀ _ : Unit, zadd (k : Int) 1 = ((k + 1 : Nat) : Int) := fun _ => zadd_nat (k := 1) (by omega)
    have p := pow4_le (n := d) (by omega)
    have z2 : ∀ _ : Unit, zmul ((4 ^ d : Nat) : Int) 4 = ((4 ^ (d + 1) : Nat) : Int) := fun _ => by
      rw [Nat.pow_succ]; exact zmul_nat (k := 4) (by omega)
    rw [j_X11_orders_75, if_pos hR.1.1, hR.1.2.1.2.1.1, obind, e13 (), if_pos (cA hR.1 (by omega)), Int.toNat_natCast, a1, if_pos (by omega), z2 (), z1 (), ih (k + 1) (d + 1) (by omega) (by omega), show d + 1 + n = d + (n + 1) by omega]
theorem m_orders {i : Nat} (hi : i < (gL S).2.1.length) {l0 w : List Nat} (hl0 : rOk l0) : ∀ (n u o : Nat) (m1 : zM), R2 S m1 → ArV m1 30 9 l0 → ArV m1 31 10 w → n + popc u = ((gL S).2.1.getD i ln0).2.2.length → u < 2 ^ ((gL S).2.1.getD i ln0).2.2.length → o < 4 ^ popc u → dgO ((gL S).2.1.getD i ln0).2.2.length (popc u) o →
    ∃ m', zF zP 363 (v + n) [(.inr (.inr (some 0))), .inl (i : Int), .inl ((2 ^ ((gL S).2.1.getD i ln0).2.2.length - 1 - u : Nat) : Int), .inl (o : Int)] m1 = some (some (.inl (orC ((gL S).2.1.getD i ln0).2.2 w n u (doO ((gL S).2.1.getD i ln0).2.2 (popc u) o l0))), m') ∧ Fr (rowP 0) m1 m' := by
  intro n
  induction n with
  | zero =>
    intro u o m1 hR hk ho hn hu h1 h2
    have h4 := (hR.em hi).2.1
    have hu16 := pw16 h4 hu
    obtain ⟨s1, s2, s3⟩ := sf2 _ (by omega) u hu16 hu
    obtain ⟨m2, f1, f2, f3⟩ := m_gives (v := 0) hR.1 hk
    have f2' : Fr (rowP 0) m1 m2 := f2.mono (fun b j q => by unfold arP at q; unfold rowP; omega)
    have hp := pow4_le (n := popc u) (by omega)
    obtain ⟨m', g1, g2⟩ := m_order_do (v := v) (hR.fr (rowP_scr f2')) hi (x2 := ((2 ^ ((gL S).2.1.getD i ln0).2.2.length - 1 - u : Nat) : Int)) (x3 := (o : Int)) (popc u) 0 o l0 m2 (Fr.rf _ _) f3 (ar31 f2' ho) hl0 (by omega) h2 (by omega)
    have e0 : ((0 : Nat) : Int) = 0 := rfl
    rw [e0] at g1
    refine ⟨m', ?_, f2'.tr g2⟩
    rw [f_X11_orders, if_pos (by rw [s3.mpr (by omega)]; rfl), if_pos hR.1.1, f1, zC0_s]
    exact g1
  | succ n ih =>
    intro u o m1 hR hk ho hn hu h1 h2
    have h8 := hR.l8
    have h4 := (hR.em hi).2.1
    have hu16 := pw16 h4 hu
    have e13 : ∀ _ : Unit, zadd 13 (i : Int) = ((13 + i : Nat) : Int) := fun _ => zadd_nat (n := 13) (by omega)
    obtain ⟨s1, s2, s3⟩ := sf2 _ (by omega) u hu16 hu
    have hp := pow4_le (n := popc u) (by omega)
    have loop : ∀ (j k : Nat) (acc : Int) (m2 : zM), r32 acc → k + j = ((gL S).2.1.getD i ln0).2.2.length → Fr (rowP 0) m1 m2 →
        ∃ m', zX zP 363 (v + n + 1) 104 [some ((.inr (.inr (some 0)))), some (.inl (i : Int)), some (.inl ((2 ^ ((gL S).2.1.getD i ln0).2.2.length - 1 - u : Nat) : Int)), some (.inl (o : Int)), some (.inl acc), some (.inl ((4 ^ popc u : Nat) : Int)), some (.inl (k : Int))] [] m2
          = some (some (.inl (sumU u (fun e => orC ((gL S).2.1.getD i ln0).2.2 w n (u ||| 2 ^ e) (eStep ((gL S).2.1.getD i ln0).2.2 e (doO ((gL S).2.1.getD i ln0).2.2 (popc u) o l0))) j k acc)), m') ∧ Fr (rowP 0) m1 m' := by
      intro j
      induction j with
      | zero =>
        intro k acc m2 ha hk2 hF
        have hR2 := hR.fr (rowP_scr hF)
        refine ⟨m2, ?_, hF⟩
        rw [j_X11_orders_104, if_pos hR2.1.1, hR2.1.2.1.2.1.1, obind, e13 (), if_pos (cA hR2.1 (by omega)), Int.toNat_natCast, (hR2.em hi).1, if_neg (by omega), j_X11_orders_162]; rfl
      | succ j ihj =>
        intro k acc m2 ha hk2 hF
        have hR2 := hR.fr (rowP_scr hF)
        have z1 : ∀ _ : Unit, zadd (k : Int) 1 = ((k + 1 : Nat) : Int) := fun _ => zadd_nat (k := 1) (by omega)
        have b := sf4 _ (by omega) u hu16 hu k (by omega) (by omega)
        unfold sumU
        by_cases c : u.testBit k = true
        · obtain ⟨m', g1, g2⟩ := ihj (k + 1) acc m2 ha (by omega) hF
          refine ⟨m', ?_, g2⟩
          rw [j_X11_orders_104, if_pos hR2.1.1, hR2.1.2.1.2.1.1, obind, e13 (), if_pos (cA hR2.1 (by omega)), Int.toNat_natCast, (hR2.em hi).1, if_pos (by omega), m_has, zC1_s, b, c, if_pos (show b01 (!true) = 0 from rfl), j_X11_orders_152, j_X11_orders_153, zadd0 ha, z1 (), if_pos rfl]
          exact g1
        · obtain ⟨d1, d2, d3, d4⟩ := sf1 _ (by omega) u hu16 hu k (by omega) (by omega) (bool_f c)
          have hk4 : k < 4 := by omega
          have hkl : k < ((gL S).2.1.getD i ln0).2.2.length := by omega
          have hm := Nat.mul_le_mul (show k ≤ 3 by omega) hp
          have z2 : ∀ _ : Unit, zmul (k : Int) ((4 ^ popc u : Nat) : Int) = ((k * 4 ^ popc u : Nat) : Int) := fun _ => zmul_nat (by omega)
          have z3 : ∀ _ : Unit, zadd (o : Int) ((k * 4 ^ popc u : Nat) : Int) = ((o + k * 4 ^ popc u : Nat) : Int) := fun _ => zadd_nat (by omega)
          have hs1 := ar30 hF hk
          have hs2 := ar31 hF ho
          have q1 : o + k * 4 ^ popc u < 4 ^ popc (u ||| 2 ^ k) := by rw [d2]; exact add_lt4 hk4 h1
          have q2 : dgO ((gL S).2.1.getD i ln0).2.2.length (popc (u ||| 2 ^ k)) (o + k * 4 ^ popc u) := by rw [d2]; exact dgO_add hk4 hkl _ _ h1 h2
          obtain ⟨m3, f1, f2⟩ := ih (u ||| 2 ^ k) (o + k * 4 ^ popc u) m2 hR2 hs1 hs2 (by omega) d1 q1 q2
          rw [d2, doO_add _ hk4 _ _ _ h1] at f1
          obtain ⟨m', g1, g2⟩ := ihj (k + 1) (zadd acc (orC ((gL S).2.1.getD i ln0).2.2 w n (u ||| 2 ^ k) (eStep ((gL S).2.1.getD i ln0).2.2 k (doO ((gL S).2.1.getD i ln0).2.2 (popc u) o l0)))) m3 (r32_zadd _ _) (by omega) (hF.tr f2)
          refine ⟨m', ?_, g2⟩
          rw [j_X11_orders_104, if_pos hR2.1.1, hR2.1.2.1.2.1.1, obind, e13 (), if_pos (cA hR2.1 (by omega)), Int.toNat_natCast, (hR2.em hi).1, if_pos (by omega), m_has, zC1_s, b, bool_f c, if_neg (show ¬ b01 (!false) = 0 by decide), if_pos hR2.1.1, d4, z2 (), z3 (), f1, zC1_s, j_X11_orders_153, z1 (), if_neg (show ¬ false = true by decide)]
          exact g1
    have e0 : ((0 : Nat) : Int) = 0 := rfl
    have e1 : ((4 ^ 0 : Nat) : Int) = 1 := rfl
    obtain ⟨m', g1, g2⟩ := loop ((gL S).2.1.getD i ln0).2.2.length 0 0 m1 r32_0 (Nat.zero_add _) (Fr.rf _ _)
    have hpw := m_order_pow (v := v + n + 1) hR hi (x2 := ((2 ^ ((gL S).2.1.getD i ln0).2.2.length - 1 - u : Nat) : Int)) (x3 := (o : Int)) (x4 := 0) (popc u) (((gL S).2.1.getD i ln0).2.2.length - popc u) 0 (by omega) (by omega)
    rw [e0] at g1
    rw [e1, Nat.zero_add] at hpw
    refine ⟨m', ?_, g2⟩
    rw [f_X11_orders, if_neg (show ¬ ((2 ^ ((gL S).2.1.getD i ln0).2.2.length - 1 - u : Nat) : Int) = 0 from fun q => by have := s3.mp (Int.ofNat_inj.mp q); omega), j_X11_orders_63, m_sizeOf, zC1_s, s1]
    show zX zP 363 (v + n + 1) 75 _ [] m1 = _
    rw [hpw]
    exact g1
theorem w_same (hR : R2 S m) (t n x : Int) : Ex2 (zF zP 364 v [(.inr (.inr (some 0))), .inl t, .inl n, .inl x] m) (o_same S t n x) := by
  have h1 := hR.th (x := 0)
  unfold o_same
  rw [f_X11_same, if_pos hR.1.1, zT_wi, if_pos hR.1.1, m_isLineAt h1, zC1_s, zT_wi, if_pos hR.1.1, m_whyNoRow h1, zC1_s, zT_wi, if_pos hR.1.1, zT_wi, zT_wi, if_pos hR.1.1, zi_wi_s]
  by_cases h : yRw S t n (inB x (gL S).2.1.length) = 0
  · have h0 := hR.pre
    rw [h, if_neg (by decide), if_pos rfl]
    generalize zwi (zwi m 0 1 0) 0 0 0 = m0 at h0 ⊢
    have h' : yRw (wSt S 0) t n (inB x (gL S).2.1.length) = 0 := h
    obtain ⟨u, k, q1, q2, q3, q4, q5, q6⟩ := yRw0 h'
    obtain ⟨i, rfl, hi⟩ := inB_nat q5
    have h8 := h0.l8
    have hi' : i < (gL (wSt S 0)).2.1.length := hi
    have hok := yRow_ok h0.w16 h'
    obtain ⟨m1, f1, f2, f3⟩ := m_takesRow (v := 0) h0 h'
    have h2 := h0.fr (rowP_scr f2)
    obtain ⟨m2, k1, k2, k3⟩ := m_keeps (v := 0) h2.1 f3
    have h3 := h2.fr (arP_scr (f := 30) (b := 9) (by decide) (by decide) k2)
    have f4 := k2.ar (f := 27) (b := 8) (by unfold arP; omega) (fun j => by unfold arP; omega) f3
    obtain ⟨m3, g1, g2, g3, g4⟩ := m_putsR (v := 0) h3 (i := i) hi f4 hok
    have h4 := h3.fr (rowP_scr g2)
    obtain ⟨m4, j1, j2, j3⟩ := m_others (v := 0) h4.1 g3
    have h5 := h4.fr (arP10_scr j2)
    have k4 : ArV m4 30 9 (yRow (wSt S 0) t n) := j2.ar (by unfold arP; omega) (fun j => by unfold arP; omega) (ar30 g2 k3)
    have hE := (h5.em (i := i) hi).2.1
    have e13 : ∀ _ : Unit, zadd 13 (i : Int) = ((13 + i : Nat) : Int) := fun _ => zadd_nat (n := 13) (by omega)
    have hsub : ∀ _ : Unit, zsub (zshl 1 (((gL S).2.1.getD i ln0).2.2.length : Int)) 1 = ((2 ^ ((gL S).2.1.getD i ln0).2.2.length - 1 - 0 : Nat) : Int) := fun _ => by
      have hp : 2 ^ ((gL S).2.1.getD i ln0).2.2.length ≤ 2 ^ 4 := Nat.pow_le_pow_right (by decide) hE
      have hp2 : 0 < 2 ^ ((gL S).2.1.getD i ln0).2.2.length := Nat.two_pow_pos _
      rw [zshl1 (show ((gL S).2.1.getD i ln0).2.2.length < 31 from by have := hE; show ((gL (wSt S 0)).2.1.getD i ln0).2.2.length < 31; omega)]
      generalize 2 ^ ((gL S).2.1.getD i ln0).2.2.length = q at hp hp2
      rw [zsub_of (by unfold r32; omega)]; omega
    obtain ⟨m', s1, s2⟩ := m_orders (v := 6 - ((gL S).2.1.getD i ln0).2.2.length) (S := wSt S 0) (i := i) hi (w := lput ((gL S).2.1.getD i ln0).2.2 (yRow S t n)) hok ((gL S).2.1.getD i ln0).2.2.length 0 0 m4 h5 k4 j3 rfl (Nat.two_pow_pos _) (by decide) trivial
    have hE' : ((gL S).2.1.getD i ln0).2.2.length ≤ 4 := hE
    rw [show 6 - ((gL S).2.1.getD i ln0).2.2.length + ((gL S).2.1.getD i ln0).2.2.length = 6 by omega] at s1
    have s1' : zF zP 363 6 [(.inr (.inr (some 0))), .inl (i : Int), .inl ((2 ^ ((gL S).2.1.getD i ln0).2.2.length - 1 - 0 : Nat) : Int), .inl 0] m4 = some (some (.inl (orC ((gL S).2.1.getD i ln0).2.2 (lput ((gL S).2.1.getD i ln0).2.2 (yRow S t n)) ((gL S).2.1.getD i ln0).2.2.length 0 (yRow S t n))), m') := s1
    have a1 : zi m4 5 (13 + i) = (((gL S).2.1.getD i ln0).2.2.length : Int) := (h5.em (i := i) hi).1
    rw [j_X11_same_29, if_pos h0.1.1, f1, zC0_s, if_pos h2.1.1, k1, zC0_s, if_pos h3.1.1, g1, zC1_s, if_pos h4.1.1, j1, zC0_s, if_pos h5.1.1, h5.1.2.1.2.1.1, obind, e13 (), if_pos (cA h5.1 (by omega)), if_pos h5.1.1, Int.toNat_natCast, Int.toNat_natCast, a1, hsub (), s1', zC1_s]
    exact ⟨m', rfl, h5.fr (rowP_scr s2)⟩
  · have hg := yRw_ge S t n (inB x (gL S).2.1.length)
    rw [if_pos (show 0 < yRw S t n (inB x (gL S).2.1.length) by omega), if_neg h]
    exact ⟨_, rfl, (x2_st0 hR).1⟩
end SAME
