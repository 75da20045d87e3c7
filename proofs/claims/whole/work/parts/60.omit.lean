/-! What is omitted; so many DAYS of the reference. -/
def omF (L : zLd) : Nat → Nat → Int → Int
  | 0, _, acc => acc
  | n + 1, k, acc => omF L n (k + 1) (if lomits L (k : Int) = true then zadd acc 1 else acc)
def o_omitted (S : zSt) (x y : Int) : Int × zSt := if (inR x 1 999 && (inR y 1 999 && decide (x ≤ y))) = true then oYes S (omF (gL S) (y.toNat + 1 - x.toNat) x.toNat 0) else oNo S 5
def o_nextOmitted (S : zSt) (x : Int) : Int × zSt := if inR x 1 999 = true then oFd S (firstK (fun k => lomits (gL S) (k : Int)) (1000 - x.toNat) x.toNat) else oNo S 5
section OMIT
variable {v : Nat} {S : zSt} {m m' : zM}
theorem p_omitted_loop (hR : R1 S m) {b : Nat} (hb : b ≤ 999) (x1 : Int) : ∀ (n k : Nat) (acc : Int), k + n = b + 1 →
    Ex1 (zX zP 213 v 28 [some (.inr (.inr (some 0))), some (.inl x1), some (.inl (b : Int)), some (.inl acc), some (.inl (k : Int))] [] m) (oYes S (omF (gL S) n k acc)) := by
  obtain ⟨hl, hv⟩ := hR.ll
  intro n
  induction n with
  | zero =>
    intro k acc hk
    rw [j_X10_omitted_28, if_pos (by omega), j_X10_omitted_55, if_pos hR.1.1]; exact x1_yesC hR
  | succ n ih =>
    intro k acc hk
    rw [j_X10_omitted_28, if_neg (by omega), if_pos hR.1.1, hR.r2, obind, if_pos hR.t5, s_omits hl hv, zC1_s, omF]
    by_cases e : lomits (gL S) (k : Int) = true
    · rw [if_neg (by rw [e]; decide), if_pos e, j_X10_omitted_49, zadd1 (k := k) (by omega)]
      exact ih (k + 1) _ (by omega)
    · rw [if_pos (b01_ne.mpr (bool_f e)), if_neg e, j_X10_omitted_49, zadd1 (k := k) (by omega)]
      exact ih (k + 1) _ (by omega)
theorem p_omitted (hR : R1 S m) (x y : Int) : Ex1 (zF zP 213 v [(.inr (.inr (some 0))), .inl x, .inl y] m) (o_omitted S x y) := by
  have f17 : zX zP 213 v 17 [some (.inr (.inr (some 0))), some (.inl x), some (.inl y), none, none] [] m = some (some (.inl (-1)), zwi m 0 14 5) := by
    rw [j_X10_omitted_17, if_pos hR.1.1, c_no hR.1, zC1_s]
  unfold o_omitted
  rw [f_X10_omitted]
  by_cases h : (inR x 1 999 && (inR y 1 999 && decide (x ≤ y))) = true
  · rw [if_pos h]
    simp only [Bool.and_eq_true, inR_t, decide_eq_true_eq] at h
    obtain ⟨a, rfl⟩ := Int.eq_ofNat_of_zero_le (show 0 ≤ x by omega)
    obtain ⟨b, rfl⟩ := Int.eq_ofNat_of_zero_le (show 0 ≤ y by omega)
    rw [if_neg (by omega), if_neg (by omega), if_neg (by omega), j_X10_omitted_23, Int.toNat_natCast, Int.toNat_natCast]
    exact p_omitted_loop hR (by omega) _ (b + 1 - a) a 0 (by omega)
  · rw [if_neg h]
    simp only [Bool.and_eq_true, inR_t, decide_eq_true_eq] at h
    by_cases h1 : x < 1
    · rw [if_pos h1, f17]; exact x1_no hR
    · rw [if_neg h1]
      by_cases h2 : 999 < y
      · rw [if_pos h2, f17]; exact x1_no hR
      · rw [if_neg h2, if_pos (by omega), f17]; exact x1_no hR
theorem p_nextOmitted_loop (hR : R1 S m) (x1 : Int) : ∀ (n k : Nat), k + n = 1000 →
    Ex1 (zX zP 214 v 20 [some (.inr (.inr (some 0))), some (.inl x1), some (.inl (k : Int))] [] m) (oFd S (firstK (fun k => lomits (gL S) (k : Int)) n k)) := by
  obtain ⟨hl, hv⟩ := hR.ll
  intro n
  induction n with
  | zero =>
    intro k hk
    rw [j_X10_nextOmitted_20, if_pos (by omega), j_X10_nextOmitted_50, if_pos hR.1.1]; exact x1_noC hR
  | succ n ih =>
    intro k hk
    rw [j_X10_nextOmitted_20, if_neg (by omega), if_pos hR.1.1, hR.r2, obind, if_pos hR.t5, s_omits hl hv, zC1_s, firstK]
    by_cases e : lomits (gL S) (k : Int) = true
    · rw [if_neg (by rw [e]; decide), if_pos e, if_pos hR.1.1]
      unfold oFd
      rw [if_neg (by omega)]; exact x1_yesC hR
    · rw [if_pos (b01_ne.mpr (bool_f e)), if_neg e, j_X10_nextOmitted_44, zadd1 (k := k) (by omega)]
      exact ih (k + 1) (by omega)
theorem p_nextOmitted (hR : R1 S m) (x : Int) : Ex1 (zF zP 214 v [(.inr (.inr (some 0))), .inl x] m) (o_nextOmitted S x) := by
  have f12 : zX zP 214 v 12 [some (.inr (.inr (some 0))), some (.inl x), none] [] m = some (some (.inl (-1)), zwi m 0 14 5) := by
    rw [j_X10_nextOmitted_12, if_pos hR.1.1, c_no hR.1, zC1_s]
  unfold o_nextOmitted
  rw [f_X10_nextOmitted]
  by_cases h : inR x 1 999 = true
  · rw [if_pos h]
    rw [inR_t] at h
    obtain ⟨a, rfl⟩ := Int.eq_ofNat_of_zero_le (show 0 ≤ x by omega)
    rw [if_neg (by omega), if_neg (by omega), j_X10_nextOmitted_18, Int.toNat_natCast]
    exact p_nextOmitted_loop hR _ (1000 - a) a (by omega)
  · rw [if_neg h]
    rw [inR_t] at h
    by_cases h1 : x < 1
    · rw [if_pos h1, f12]; exact x1_no hR
    · rw [if_neg h1, if_pos (by omega), f12]; exact x1_no hR
theorem m_isOmitted (hR : R2 S m) (x : Int) : zF zP 373 v [(.inr (.inr (some 0))), .inl x] m = some (some (.inl (b01 (lomits (gL S) x))), m) := by
  rw [f_X11_isOmitted, if_pos hR.1.1, m_lineBy hR, zC1_s]
  unfold lomits
  rcases lnum_of (gL S) x with q | ⟨i, q1, q2, q3⟩
  · rw [if_pos (by omega), j_X11_isOmitted_19, j_X11_isOmitted_24, if_pos zb1, q]; rfl
  · rw [if_neg (by omega), if_pos hR.1.1, q1, m_isLost hR q2, zC1_s, decide_eq_false (show ¬ (i : Int) = -1 by omega), Bool.false_or, Int.toNat_natCast]
    by_cases e : ((gL S).2.1.getD i ln0).2.1 = true
    · rw [if_neg (by rw [e]; decide), j_X11_isOmitted_19, j_X11_isOmitted_24, if_pos zb1, e]; rfl
    · rw [if_pos (b01_ne.mpr (bool_f e)), j_X11_isOmitted_23, j_X11_isOmitted_24, if_pos zb0, bool_f e]; rfl
theorem w_omitted_loop (hR : R2 (wSt S 0) m) {b : Nat} (hb : b ≤ 999) (x1 : Int) : ∀ (n k : Nat) (acc : Int), r32 acc → k + n = b + 1 →
    Ex2 (zX zP 374 v 40 [some (.inr (.inr (some 0))), some (.inl x1), some (.inl (b : Int)), some (.inl acc), some (.inl (k : Int))] [] m) (oYes S (omF (gL S) n k acc)) := by
  intro n
  induction n with
  | zero =>
    intro k acc ha hk
    rw [j_X11_omitted_40, if_pos (by omega), j_X11_omitted_69]; exact x2_yes hR
  | succ n ih =>
    intro k acc ha hk
    rw [j_X11_omitted_40, if_neg (by omega), if_pos hR.1.1, m_isOmitted hR, zC1_s, omF]
    show Ex2 (if b01 (lomits (gL S) (k : Int)) = 0 then _ else _) _
    by_cases e : lomits (gL S) (k : Int) = true
    · rw [if_neg (by rw [e]; decide), if_pos e, j_X11_omitted_61, zadd1 (k := k) (by omega)]
      exact ih (k + 1) _ (r32_zadd _ _) (by omega)
    · rw [if_pos (b01_ne.mpr (bool_f e)), if_neg e, j_X11_omitted_60, j_X11_omitted_61, zadd0 ha, zadd1 (k := k) (by omega)]
      exact ih (k + 1) _ ha (by omega)
theorem w_omitted (hR : R2 S m) (x y : Int) : Ex2 (zF zP 374 v [(.inr (.inr (some 0))), .inl x, .inl y] m) (o_omitted S x y) := by
  have h0 := hR.pre
  unfold o_omitted
  rw [f_X11_omitted, if_pos hR.1.1, zT_wi, if_pos hR.1.1, m_isNumber, zC1_s]
  generalize zwi (zwi m 0 1 0) 0 0 0 = m0 at h0 ⊢
  have f29 : zX zP 374 v 29 [some (.inr (.inr (some 0))), some (.inl x), some (.inl y), none, none] [] m0 = some (some (.inl (-1)), zwi m0 0 0 5) := by
    rw [j_X11_omitted_29, if_pos h0.1.1, m_refuse h0.1, zC1_s]
  by_cases hx : inR x 1 999 = true
  · rw [if_neg (by rw [hx]; decide), m_isNumber, zC1_s, hx, Bool.true_and]
    by_cases hy : inR y 1 999 = true
    · rw [if_neg (by rw [hy]; decide), hy, Bool.true_and]
      by_cases hxy : x ≤ y
      · rw [if_neg (by omega), if_pos (decide_eq_true hxy), j_X11_omitted_35]
        rw [inR_t] at hx hy
        obtain ⟨a, rfl⟩ := Int.eq_ofNat_of_zero_le (show 0 ≤ x by omega)
        obtain ⟨b, rfl⟩ := Int.eq_ofNat_of_zero_le (show 0 ≤ y by omega)
        rw [Int.toNat_natCast, Int.toNat_natCast]
        exact w_omitted_loop h0 (by omega) _ (b + 1 - a) a 0 r32_0 (by omega)
      · rw [if_pos (by omega), f29, if_neg (by rw [decide_eq_true_eq]; exact hxy)]; exact x2_no h0
    · rw [if_pos (b01_ne.mpr (bool_f hy)), f29, bool_f hy, Bool.false_and, if_neg Bool.noConfusion]; exact x2_no h0
  · rw [if_pos (b01_ne.mpr (bool_f hx)), f29, bool_f hx, Bool.false_and, if_neg Bool.noConfusion]; exact x2_no h0
theorem w_nextOmitted_loop (hR : R2 (wSt S 0) m) (x1 : Int) : ∀ (n k : Nat), k + n = 1000 →
    Ex2 (zX zP 375 v 25 [some (.inr (.inr (some 0))), some (.inl x1), some (.inl (k : Int))] [] m) (oFd S (firstK (fun k => lomits (gL S) (k : Int)) n k)) := by
  intro n
  induction n with
  | zero =>
    intro k hk
    rw [j_X11_nextOmitted_25, if_pos (by omega), j_X11_nextOmitted_48, if_pos hR.1.1]; exact x2_noC hR
  | succ n ih =>
    intro k hk
    rw [j_X11_nextOmitted_25, if_neg (by omega), if_pos hR.1.1, m_isOmitted hR, zC1_s, firstK]
    show Ex2 (if b01 (lomits (gL S) (k : Int)) = 0 then _ else _) _
    by_cases e : lomits (gL S) (k : Int) = true
    · rw [if_neg (by rw [e]; decide), if_pos e]
      unfold oFd
      rw [if_neg (by omega)]; exact x2_yes hR
    · rw [if_pos (b01_ne.mpr (bool_f e)), if_neg e, j_X11_nextOmitted_42, zadd1 (k := k) (by omega)]
      exact ih (k + 1) (by omega)
theorem w_nextOmitted (hR : R2 S m) (x : Int) : Ex2 (zF zP 375 v [(.inr (.inr (some 0))), .inl x] m) (o_nextOmitted S x) := by
  have h0 := hR.pre
  unfold o_nextOmitted
  rw [f_X11_nextOmitted, if_pos hR.1.1, zT_wi, if_pos hR.1.1, m_isNumber, zC1_s]
  generalize zwi (zwi m 0 1 0) 0 0 0 = m0 at h0 ⊢
  by_cases hx : inR x 1 999 = true
  · rw [if_neg (by rw [hx]; decide), if_pos hx, j_X11_nextOmitted_23]
    rw [inR_t] at hx
    obtain ⟨a, rfl⟩ := Int.eq_ofNat_of_zero_le (show 0 ≤ x by omega)
    rw [Int.toNat_natCast]
    exact w_nextOmitted_loop h0 _ (1000 - a) a (by omega)
  · rw [if_pos (b01_ne.mpr (bool_f hx)), if_neg hx, if_pos h0.1.1]; exact x2_noC h0
/-- so many DAYS -/
theorem zadd_zadd (x a b : Int) : zadd (zadd x a) b = zadd x (a + b) := by
  unfold zadd i32
  rw [Int.bmod_add_bmod, Int.add_assoc]
def dysL (L : zLd) (n : Nat) : zLd := tdSet (mapP L (fun i => inDays L i n)) (zadd L.2.2.2.2 (n : Int))
theorem dys_0 {L : zLd} (h : r32 L.2.2.2.2) : dysL L 0 = L := by
  have e : mapP L (fun i => inDays L i 0) = L := mapP_id (fun i _ => rfl)
  unfold dysL
  rw [e]
  show tdSet L (zadd L.2.2.2.2 0) = L
  rw [zadd0 h]; rfl
theorem day1_dys (L : zLd) (n : Nat) : day1 (dysL L n) = dysL L (n + 1) := by
  have e1 : mapP (dysL L n) (fun i => lday (dysL L n) i (row0 (dysL L n) i)) = tdSet (mapP L (fun i => inDays L i (n + 1))) (zadd L.2.2.2.2 (n : Int)) := by
    have e2 : mapP (dysL L n) (fun i => lday (dysL L n) i (row0 (dysL L n) i)) = tdSet (mapP (mapP L (fun i => inDays L i n)) (fun i => lday (mapP L (fun i => inDays L i n)) i (row0 (mapP L (fun i => inDays L i n)) i))) (zadd L.2.2.2.2 (n : Int)) := rfl
    rw [e2, mapP_map]
    congr 1
    refine mapP_congr (fun i hi => ?_)
    rw [mapP_lday _ _ hi, mapP_row _ _ hi]
    exact (itr_succ _ _ _).symm
  unfold day1
  rw [e1]
  show tdSet (mapP L (fun i => inDays L i (n + 1))) (zadd (zadd L.2.2.2.2 (n : Int)) 1) = dysL L (n + 1)
  rw [zadd_zadd]; rfl
theorem w_day_days {d : Nat} (hd : d < 1000) (L : zLd) : ∀ (n k : Nat) (S : zSt) (m : zM), gL S = dysL L k → R2 S m → k + n = d →
    ∃ m', zX zP 346 v 81 [some (.inr (.inr (some 0))), some (.inl (d : Int)), some (.inl (k : Int)), none] [] m = zX zP 346 v 97 [some (.inr (.inr (some 0))), some (.inl (d : Int)), some (.inl (d : Int)), none] [] m' ∧ Fr dyP m m' ∧ R2 (wL S (dysL L d)) m' := by
  intro n
  induction n with
  | zero =>
    intro k S m hL hR hk
    have hkd : k = d := by omega
    subst hkd
    refine ⟨m, by rw [j_X11_day_81, if_neg (by omega)], Fr.rf _ _, ?_⟩
    rw [← hL]; exact hR
  | succ n ih =>
    intro k S m hL hR hk
    obtain ⟨m1, f1, f2, f3⟩ := m_goesDay (v := 0) hR
    obtain ⟨m', g1, g2, g3⟩ := ih (k + 1) (wL S (day1 (gL S))) m1 (by rw [gL_wL, hL]; exact day1_dys L k) f3 (by omega)
    refine ⟨m', ?_, f2.tr g2, g3⟩
    rw [j_X11_day_81, if_pos (by omega), if_pos hR.1.1, f1, zC1_s, zadd1 (by omega)]
    exact g1
theorem w_day_said : ∀ (n k : Nat) (m1 : zM) (x1 : Int), S2 m1 → k + n = 54 → (∀ q, q < k → zi m1 11 q = zi m1 5 (163 + q)) →
    ∃ m', zX zP 346 v 51 [some (.inr (.inr (some 0))), some (.inl x1), some (.inl (k : Int)), none] [] m1 = zX zP 346 v 79 [some (.inr (.inr (some 0))), some (.inl x1), some (.inl 54), none] [] m' ∧ Fr (fun b _ => b = 11) m1 m' ∧ (∀ q, q < 54 → zi m' 11 q = zi m1 5 (163 + q)) := by
  intro n
  induction n with
  | zero =>
    intro k m1 x1 hS hk hB
    have hk54 : k = 54 := by omega
    subst hk54
    exact ⟨m1, by rw [j_X11_day_51, if_neg (by omega)]; rfl, Fr.rf _ _, hB⟩
  | succ n ih =>
    intro k m1 x1 hS hk hB
    have e163 : ∀ _ : Unit, zadd 163 (k : Int) = ((163 + k : Nat) : Int) := fun _ => zadd_nat (n := 163) (by omega)
    have hA : zA m1 5 9 ((163 + k : Nat) : Int) = true := A5 hS (by omega) (by omega)
    have hA2 : zA m1 11 9 (k : Int) = true := hS.2.2.2.2.1.2.2.1.A (by omega) (by omega)
    have hw : Fr (fun b _ => b = 11) m1 (zwi m1 11 k (zi m1 5 (163 + k))) := Fr.wi m1 _ rfl
    obtain ⟨m', f1, f2, f3⟩ := ih (k + 1) _ x1 (hw.s2 hS) (by omega) (fun q hq => by
      by_cases e : q = k
      · subst e; rw [zi_wi_s, zi_wi_n _ _ (Or.inl (by decide))]
      · rw [zi_wi_n _ _ (Or.inr e), zi_wi_n _ _ (Or.inl (by decide))]; exact hB q (by omega))
    refine ⟨m', ?_, hw.tr f2, fun q hq => by rw [f3 q hq, zi_wi_n _ _ (Or.inl (by decide))]⟩
    rw [j_X11_day_51, if_pos (by omega), if_pos hS.1, hS.2.1.2.2.1.2.2.1, obind, if_pos hS.1, hS.2.1.2.1.1, obind, e163 (), if_pos hA, if_pos hA2, Int.toNat_natCast, Int.toNat_natCast, zadd1 (by omega)]
    exact f1
theorem m_asSaid_loop (hS : S2 m) {p : Nat} (hp : p < 6) {l l' : List Nat} (h8 : l.length ≤ 8) (hl : l.length = l'.length) (h1 : zi m 11 p = (l.length : Int)) (h2 : ∀ k, k < l.length → zi m 11 (6 + 8 * p + k) = ((l.getD k 0 : Nat) : Int)) (h3 : ∀ k, k < l.length → zi m 5 (169 + 8 * p + k) = ((l'.getD k 0 : Nat) : Int)) : ∀ (n k : Nat), k + n = l.length →
    zX zP 345 v 23 [some (.inr (.inr (some 0))), some (.inl (p : Int)), some (.inl (k : Int))] [] m = some (some (.inl (b01 (decide (l.drop k = l'.drop k)))), m) := by
  have hA : ∀ x : Nat, x < 54 → zA m 11 9 (x : Int) = true := fun x hx => hS.2.2.2.2.1.2.2.1.A (by omega) (by omega)
  have e6 : ∀ k : Nat, k < 8 → zadd (zadd 6 (zmul 8 (p : Int))) (k : Int) = ((6 + 8 * p + k : Nat) : Int) := fun k hk => by
    rw [show zmul 8 (p : Int) = ((8 * p : Nat) : Int) from zmul_nat (n := 8) (by omega), show zadd 6 ((8 * p : Nat) : Int) = ((6 + 8 * p : Nat) : Int) from zadd_nat (n := 6) (by omega)]
    exact zadd_nat (by omega)
  intro n
  induction n with
  | zero =>
    intro k hk
    have e : l.drop k = l'.drop k := by rw [List.drop_eq_nil_of_le (by omega), List.drop_eq_nil_of_le (by omega)]
    rw [j_X11_isAsSaid_23, if_pos hS.1, hS.2.1.2.2.1.2.2.1, obind, if_pos (hA p (by omega)), Int.toNat_natCast, h1, if_neg (by omega), j_X11_isAsSaid_73, if_pos zb1, decide_eq_true e]; rfl
  | succ n ih =>
    intro k hk
    have hk8 : k < 8 := by omega
    rw [j_X11_isAsSaid_23, if_pos hS.1, hS.2.1.2.2.1.2.2.1, obind, if_pos (hA p (by omega)), Int.toNat_natCast, h1, if_pos (by omega), if_pos hS.1, obind, e6 k hk8, if_pos (hA _ (by omega)), if_pos hS.1, hS.2.1.2.1.1, obind, rowC hp hk8, if_pos (rowA hS hp hk8), Int.toNat_natCast, Int.toNat_natCast, h2 k (by omega), h3 k (by omega)]
    by_cases g : l.getD k 0 = l'.getD k 0
    · rw [if_pos (by omega), j_X11_isAsSaid_67, zadd1 (by omega), ih (k + 1) (by omega)]
      congr 4
      exact congrArg b01 (decide_eq_decide.mpr ⟨fun q => (drop_eq_of hl (by omega)).mpr ⟨g, q⟩, fun q => ((drop_eq_of hl (by omega)).mp q).2⟩)
    · rw [if_neg (by omega), if_pos zb0, decide_eq_false (fun q => g ((drop_eq_of hl (by omega)).mp q).1)]; rfl
theorem m_asSaid (hR : R2 S m) {p : Nat} (hp : p < (gL S).2.2.1.length) {l : List Nat} (h8 : l.length ≤ 8) (h1 : zi m 11 p = (l.length : Int)) (h2 : ∀ k, k < l.length → zi m 11 (6 + 8 * p + k) = ((l.getD k 0 : Nat) : Int)) : zF zP 345 v [(.inr (.inr (some 0))), .inl (p : Int)] m = some (some (.inl (b01 (decide (l = row0 (gL S) p)))), m) := by
  have h6 := hR.p6
  obtain ⟨q1, q2, q3, q4⟩ := hR.pc hp
  have e163 : ∀ _ : Unit, zadd 163 (p : Int) = ((163 + p : Nat) : Int) := fun _ => zadd_nat (n := 163) (by omega)
  have hA : zA m 11 9 (p : Int) = true := hR.1.2.2.2.2.1.2.2.1.A (by omega) (by omega)
  have hA5 := cA hR.1 (show 163 + p < 200 by omega)
  rw [f_X11_isAsSaid, if_pos hR.1.1, hR.1.2.1.2.2.1.2.2.1, obind, if_pos hA, if_pos hR.1.1, hR.1.2.1.2.1.1, obind, e163 (), if_pos hA5, Int.toNat_natCast, Int.toNat_natCast, h1, q2]
  by_cases e : l.length = (row0 (gL S) p).length
  · rw [if_pos (show ((l.length : Nat) : Int) = (((gL S).2.2.1.getD p ps0).2.2.length : Int) by rw [e]; rfl), j_X11_isAsSaid_21]
    have := m_asSaid_loop (v := v) hR.1 (p := p) (by omega) h8 e h1 h2 (fun k hk => q4 k (by rw [e] at hk; exact hk)) l.length 0 (by omega)
    rw [List.drop_zero, List.drop_zero] at this
    exact this
  · rw [if_neg (show ¬ ((l.length : Nat) : Int) = (((gL S).2.2.1.getD p ps0).2.2.length : Int) from fun q => e (Int.ofNat.inj q)), if_pos zb0, decide_eq_false (fun q => e (by rw [q]))]; rfl
theorem w_day_cmp (hR : R2 S m) {L0 : zLd} (hlen : L0.2.2.1.length = (gL S).2.2.1.length) (hs : ∀ p, p < (gL S).2.2.1.length → (row0 L0 p).length ≤ 8 ∧ zi m 11 p = ((row0 L0 p).length : Int) ∧ ∀ k, k < (row0 L0 p).length → zi m 11 (6 + 8 * p + k) = (((row0 L0 p).getD k 0 : Nat) : Int)) (x1 : Int) : ∀ (n k : Nat) (acc : Int), r32 acc → k + n = (gL S).2.2.1.length →
    zX zP 346 v 101 [some (.inr (.inr (some 0))), some (.inl x1), some (.inl acc), some (.inl (k : Int))] [] m = some (some (.inl (setF (fun p => !decide (row0 L0 p = row0 (gL S) p)) n k acc)), m) := by
  have h6 := hR.p6
  intro n
  induction n with
  | zero =>
    intro k acc ha hk
    rw [j_X11_day_101, if_pos hR.1.1, hR.1.2.1.2.1.1, obind, if_pos (A5 hR.1 (by omega) (by omega)), hR.c2, if_neg (by omega), j_X11_day_135]; rfl
  | succ n ih =>
    intro k acc ha hk
    obtain ⟨a1, a2, a3⟩ := hs k (by omega)
    rw [j_X11_day_101, if_pos hR.1.1, hR.1.2.1.2.1.1, obind, if_pos (A5 hR.1 (by omega) (by omega)), hR.c2, if_pos (by omega), if_pos hR.1.1, m_asSaid hR (by omega) a1 a2 a3, zC1_s, setF]
    by_cases e : row0 L0 k = row0 (gL S) k
    · rw [if_neg (by rw [decide_eq_true e]; decide), j_X11_day_127, zor0 ha, zadd1 (by omega), ih (k + 1) _ ha (by omega), if_neg (by rw [decide_eq_true e]; decide)]
    · rw [if_pos (by rw [decide_eq_false e]; rfl), j_X11_day_124, j_X11_day_127, zadd1 (by omega), ih (k + 1) _ (r32_or _ _) (by omega), if_pos (by rw [decide_eq_false e]; rfl)]
theorem w_day (hR : R2 S m) (ht : r32 (gL S).2.2.2.2) (n : Int) : Ex2 (zF zP 346 v [(.inr (.inr (some 0))), .inl n] m) (o_day S n) := by
  have h0 := hR.pre
  have h6 := hR.p6
  unfold o_day
  rw [f_X11_day, if_pos hR.1.1, zT_wi, if_pos hR.1.1, m_isIn, zC1_s]
  generalize zwi (zwi m 0 1 0) 0 0 0 = m0 at h0 ⊢
  by_cases h : inR n 1 99 = true
  · rw [if_neg (by rw [h]; decide), if_pos h, j_X11_day_28, if_pos h0.1.1, h0.1.2.1.2.1.1, obind, if_pos (A5 h0.1 (by omega) (by omega)), show zi m0 5 (Int.toNat 4) = (gL S).2.2.2.2 from h0.bl.2.2.2.1.2]
    by_cases g : 9999 < zadd (gL S).2.2.2.2 n
    · rw [if_pos g, if_pos g, if_pos h0.1.1]; exact x2_noC h0
    · rw [if_neg g, if_neg g]
      rw [inR_t] at h
      obtain ⟨N, rfl⟩ := Int.eq_ofNat_of_zero_le (show 0 ≤ n by omega)
      obtain ⟨m1, f1, f2, f3⟩ := w_day_said (v := v) 54 0 m0 (N : Int) h0.1 (by omega) (fun q hq => absurd hq (Nat.not_lt_zero q))
      have h1 := h0.fr (f2.mono (fun b j q => by unfold scr; omega))
      obtain ⟨m2, g1, g2, g3⟩ := w_day_days (v := v) (d := N) (by omega) (gL S) N 0 (wSt S 0) m1 (dys_0 ht).symm h1 (by omega)
      have hlen : (gL S).2.2.1.length = (gL (wL (wSt S 0) (dysL (gL S) N))).2.2.1.length := (mapP_len _ _).symm
      have hc := w_day_cmp (v := v) g3 (L0 := gL S) hlen (fun p hp => by
        rw [← hlen] at hp
        obtain ⟨q1, q2, q3, q4⟩ := h0.pc (i := p) hp
        have q8 : (row0 (gL S) p).length ≤ 8 := q3.1
        refine ⟨q8, ?_, fun k hk => ?_⟩
        · rw [g2.i (by unfold dyP; omega), f3 p (by omega)]; exact q2
        · rw [g2.i (by unfold dyP; omega), f3 _ (by omega), show 163 + (6 + 8 * p + k) = 169 + 8 * p + k by omega]; exact q4 k hk) (N : Int) (gL S).2.2.1.length 0 0 r32_0 (by rw [← hlen]; omega)
      have e0 : ((0 : Nat) : Int) = 0 := rfl
      rw [e0] at f1 g1 hc
      rw [j_X11_day_49, f1, j_X11_day_79, g1, j_X11_day_97, hc, Int.toNat_natCast]
      refine ⟨m2, ?_, g3⟩
      have : setF (fun p => !decide (row0 (gL S) p = row0 (gL (wL (wSt S 0) (dysL (gL S) N))) p)) (gL S).2.2.1.length 0 0 = setF (fun i => !decide (inDays (gL S) i N = row0 (gL S) i)) (gL S).2.2.1.length 0 0 := setF_congr _ _ _ (fun i _ hi => by
        rw [show row0 (gL (wL (wSt S 0) (dysL (gL S) N))) i = inDays (gL S) i N from mapP_row (gL S) (fun i => inDays (gL S) i N) (by omega)]
        congr 1
        exact decide_eq_decide.mpr ⟨Eq.symm, Eq.symm⟩)
      rw [this]; rfl
  · rw [if_pos (b01_ne.mpr (bool_f h)), if_neg h, if_pos h0.1.1]; exact x2_noC h0
end OMIT
