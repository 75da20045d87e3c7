/-! CHANCE, told by both. -/
def o_chance (S : zSt) (t n x to k : Int) : Int × zSt := if yLs (yRw S t n (inB x (gL S).2.1.length)) (yRw S to k (inB x (gL S).2.1.length)) = 0 then
    oFrac S (chF (gL S).2.2.2.1 ((gL S).2.1.getD x.toNat ln0).2.2 (yRow S t n) (yRow S to k) (2 ^ ((gL S).2.1.getD x.toNat ln0).2.2.length) 0 0).toNat (16 ^ ((gL S).2.1.getD x.toNat ln0).2.2.length)
  else oF S (yLs (yRw S t n (inB x (gL S).2.1.length)) (yRw S to k (inB x (gL S).2.1.length)))
section CHANCE
variable {v : Nat} {S : zSt} {m m' : zM}
theorem zlmul_nat {a b : Nat} (h : a * b < 2 ^ 40) : zlmul (a : Int) (b : Int) = ((a * b : Nat) : Int) := by
  have h : a * b < 1099511627776 := h
  unfold zlmul i64
  rw [← Int.natCast_mul, Int.bmod_eq_of_le (by omega) (by omega)]
theorem zladd_nat {a b : Nat} (h : a + b < 2 ^ 40) : zladd (a : Int) (b : Int) = ((a + b : Nat) : Int) := by
  have h : a + b < 1099511627776 := h
  unfold zladd i64
  rw [Int.bmod_eq_of_le (by omega) (by omega)]; omega
theorem chP_nat {o : Nat} (ho : o ≤ 16) (set : Int) : ∀ (r : List zEd) (k c : Nat) (l : List Nat), c * 16 ^ r.length < 2 ^ 40 → ∃ c' : Nat, (chP (o : Int) set r k (c : Int) l).1 = (c' : Int) ∧ c' ≤ c * 16 ^ r.length
  | [], k, c, l, _ => ⟨c, rfl, by rw [List.length_nil, Nat.pow_zero, Nat.mul_one]; exact Nat.le_refl _⟩
  | e :: r, k, c, l, h => by
    have e16 : c * 16 ^ (e :: r).length = c * 16 * 16 ^ r.length := by rw [List.length_cons, Nat.pow_succ, Nat.mul_comm (16 ^ r.length) 16, Nat.mul_assoc]
    rw [e16] at h ⊢
    have hpos : 1 ≤ 16 ^ r.length := Nat.pow_le_pow_right (n := 16) (by decide) (Nat.zero_le r.length)
    have key : ∀ q, q ≤ 16 → c * q ≤ c * 16 ∧ c * q < 2 ^ 40 ∧ c * q * 16 ^ r.length ≤ c * 16 * 16 ^ r.length := fun q hq => by
      have h1 : c * q ≤ c * 16 := Nat.mul_le_mul_left c hq
      have h2 : c * 16 * 1 ≤ c * 16 * 16 ^ r.length := Nat.mul_le_mul_left _ hpos
      exact ⟨h1, by omega, Nat.mul_le_mul_right _ h1⟩
    unfold chP
    split
    · obtain ⟨k1, k2, k3⟩ := key (16 - o) (by omega)
      rw [show zsub 16 (o : Int) = ((16 - o : Nat) : Int) by rw [zsub_of (by unfold r32; omega)]; omega, zlmul_nat k2]
      obtain ⟨c', w1, w2⟩ := chP_nat ho set r (k + 1) (c * (16 - o)) ((edone e l).getD l) (by omega)
      exact ⟨c', w1, by omega⟩
    · obtain ⟨k1, k2, k3⟩ := key o ho
      rw [zlmul_nat k2]
      obtain ⟨c', w1, w2⟩ := chP_nat ho set r (k + 1) (c * o) l (by omega)
      exact ⟨c', w1, by omega⟩
theorem chV_nat {o : Nat} (ho : o ≤ 16) {es : List zEd} (h4 : es.length ≤ 4) (l w : List Nat) (set : Nat) : ∃ c : Nat, chV (o : Int) es l w set = (c : Int) ∧ c ≤ 65536 := by
  have h16 : 16 ^ es.length ≤ 16 ^ 4 := Nat.pow_le_pow_right (by decide) h4
  obtain ⟨c, h1, h2⟩ := chP_nat ho (set : Int) es 0 1 l (by rw [Nat.one_mul]; exact Nat.lt_of_le_of_lt h16 (by decide))
  unfold chV
  split
  · exact ⟨c, h1, by rw [Nat.one_mul] at h2; exact Nat.le_trans h2 (Nat.le_trans h16 (by decide))⟩
  · exact ⟨0, rfl, by decide⟩
theorem chF_nat {o : Nat} (ho : o ≤ 16) {es : List zEd} (h4 : es.length ≤ 4) (l w : List Nat) : ∀ (n k a : Nat), a + 65536 * n < 2 ^ 40 → ∃ c : Nat, chF (o : Int) es l w n k (a : Int) = (c : Int)
  | 0, k, a, _ => ⟨a, rfl⟩
  | n + 1, k, a, h => by
    have h' : a + 65536 * (n + 1) < 1099511627776 := h
    obtain ⟨c, h1, h2⟩ := chV_nat ho h4 l w k
    unfold chF
    rw [h1, zladd_nat (show a + c < 2 ^ 40 by show a + c < 1099511627776; omega)]
    exact chF_nat ho h4 l w n (k + 1) (a + c) (by show a + c + 65536 * n < 1099511627776; omega)
theorem chF_toNat {odds : Int} (ho : 0 ≤ odds ∧ odds ≤ 16) {es : List zEd} (h4 : es.length ≤ 4) (l w : List Nat) : chF odds es l w (2 ^ es.length) 0 0 = (((chF odds es l w (2 ^ es.length) 0 0).toNat : Nat) : Int) := by
  obtain ⟨o, rfl⟩ := Int.eq_ofNat_of_zero_le ho.1
  have h16 : 2 ^ es.length ≤ 2 ^ 4 := Nat.pow_le_pow_right (by decide) h4
  obtain ⟨c, hc⟩ := chF_nat (o := o) (by omega) h4 l w (2 ^ es.length) 0 0 (by
    have : 2 ^ es.length ≤ 16 := h16
    show 0 + 65536 * 2 ^ es.length < 1099511627776; omega)
  have e0 : ((0 : Nat) : Int) = 0 := rfl
  rw [e0] at hc
  rw [hc, Int.toNat_natCast]
theorem p16 {n : Nat} (h : n ≤ 4) : zlshl 1 (zmul 4 (n : Int)) = ((16 ^ n : Nat) : Int) := by
  have key : ∀ n : Fin 5, zlshl 1 (zmul 4 ((n.val : Nat) : Int)) = ((16 ^ n.val : Nat) : Int) := by decide +kernel
  exact key ⟨n, by omega⟩
theorem eu16 {n : Nat} (h : n ≤ 4) (a : Nat) : euD 100 a (16 ^ n) ∧ 0 < 16 ^ n := by
  have h16 : 16 ^ n ≤ 16 ^ 4 := Nat.pow_le_pow_right (by decide) h
  have := euD_pow 17 a (16 ^ n) (Nat.lt_of_le_of_lt h16 (by decide))
  exact ⟨euD_more 34 66 _ _ this, Nat.lt_of_lt_of_le (by decide) (Nat.pow_le_pow_right (n := 16) (by decide) (Nat.zero_le n))⟩
theorem p_chance (hR : R1 S m) (ho : 0 ≤ (gL S).2.2.2.1 ∧ (gL S).2.2.2.1 ≤ 16) (t n x to k : Int) : Ex1 (zF zP 206 v [(.inr (.inr (some 0))), .inl t, .inl n, .inl x, .inl to, .inl k] m) (o_chance S t n x to k) := by
  have hS := hR.1
  obtain ⟨hl, hv⟩ := hR.ll
  unfold o_chance
  rw [f_X10_chance, if_pos hS.1, hR.r2, obind, if_pos hR.t5, s_hasLine hR.t5 hv.2.1.1, zC1_s, if_pos hS.1, c_rowStatus hR, zC1_s, if_pos hS.1, c_rowStatus hR, zC1_s, c_lesser, zC1_s]
  by_cases h : yLs (yRw S t n (inB x (gL S).2.1.length)) (yRw S to k (inB x (gL S).2.1.length)) = 0
  · obtain ⟨ha, hb⟩ := yLs0 (yRw_ge _ _ _ _) (yRw_ge _ _ _ _) h
    obtain ⟨t', k', q1, q2, q3, q4, q5, q6⟩ := yRw0 ha
    obtain ⟨i, rfl, hi⟩ := inB_nat q5
    obtain ⟨g1, g2, g3⟩ := hv.ln hl hi
    have o1 := yRow_ok hR.w16 ha
    have o2 := yRow_ok hR.w16 hb
    have h4 := g3.2.2.2.1
    obtain ⟨d1, d2⟩ := eu16 h4 (chF (gL S).2.2.2.1 ((gL S).2.1.getD i ln0).2.2 (yRow S t n) (yRow S to k) (2 ^ ((gL S).2.1.getD i ln0).2.2.length) 0 0).toNat
    obtain ⟨m1, f1, f2⟩ := c_tell (v := 0) hR d1 (Or.inr d2)
    rw [if_pos h, if_pos h, j_X10_chance_45, if_pos hS.1, hR.r2, obind, if_pos hR.t5, s_lineAt hl g1, zC4_s, if_pos hS.1, c_rowIn hR ha, zC2_s, if_pos hS.1, c_rowIn hR hb, zC2_s, if_pos hS.1, hR.r2, obind, if_pos hR.t5, hv.2.2.2.1, s_chanceOf g2 g3 o1 o2, zC2_s, if_pos g2.1, if_pos hS.1, g3.2.1, p16 h4, chF_toNat ho h4, f1, zC0_s, if_pos f2.1.1, Int.toNat_natCast]
    exact x1_tC f2
  · rw [if_neg h, if_neg h, if_pos hS.1]; exact x1_fC hR
theorem m_editR (hR : R2 S m) {i k : Nat} (hi : i < (gL S).2.1.length) (hk : k < ((gL S).2.1.getD i ln0).2.2.length) {l : List Nat} (hv : ArV m 27 8 l) (hl : rOk l) : ∃ m', zF zP 332 v [(.inr (.inr (some 0))), .inl (i : Int), .inl (k : Int)] m = some (some (.inl (b01 (edone (((gL S).2.1.getD i ln0).2.2.getD k e00) l).isSome)), m') ∧ Fr (rowP 0) m m' ∧ ArV m' 27 8 ((edone (((gL S).2.1.getD i ln0).2.2.getD k e00) l).getD l) ∧ rOk ((edone (((gL S).2.1.getD i ln0).2.2.getD k e00) l).getD l) := by
  have h8 := hR.l8
  have h4 := (hR.em hi).2.1
  have he : eOk (((gL S).2.1.getD i ln0).2.2.getD k e00) := es_ok (hR.eok hi) k
  obtain ⟨m', f1, f2, f3⟩ := m_edits (v := v) hR.1.mo hv.ro hl ((hR.ln hi).mlV.2.2.2 k hk) he (by omega) (by omega)
  exact ⟨m', f1, f2, f3.ar, getD_edone_ok he hl⟩
theorem m_odds_loop (hR0 : R2 S m) {i : Nat} (hi : i < (gL S).2.1.length) {w : List Nat} {set : Nat} : ∀ (r : List zEd) (k : Nat) (c : Int) (l : List Nat) (m1 : zM), Fr (rowP 0) m m1 → ArV m1 27 8 l → ArV m1 31 10 w → rOk l → k ≤ ((gL S).2.1.getD i ln0).2.2.length → ((gL S).2.1.getD i ln0).2.2.drop k = r →
    ∃ m', zX zP 361 v 9 [some (.inr (.inr (some 0))), some (.inl (i : Int)), some (.inl (set : Int)), some (.inr (.inl c)), none, some (.inl (k : Int))] [] m1 = some (some (.inr (.inl (if (chP (gL S).2.2.2.1 (set : Int) r k c l).2 = w then (chP (gL S).2.2.2.1 (set : Int) r k c l).1 else 0))), m') ∧ Fr (rowP 0) m m' := by
  have h8 := hR0.l8
  obtain ⟨a1, a2, a3⟩ := hR0.em hi
  have e13 : ∀ _ : Unit, zadd 13 (i : Int) = ((13 + i : Nat) : Int) := fun _ => zadd_nat (n := 13) (by omega)
  have od : zi m 5 3 = (gL S).2.2.2.1 := hR0.bl.2.2.2.1.1
  intro r
  induction r with
  | nil =>
    intro k c l m1 hF hv ho hl hkl hk
    have hR := hR0.fr (rowP_scr hF)
    have h1 : ((gL S).2.1.getD i ln0).2.2.length ≤ k := List.drop_eq_nil_iff.mp hk
    refine ⟨m1, ?_, hF⟩
    rw [j_X11_oddsOf_9, if_pos hR.1.1, hR.1.2.1.2.1.1, obind, e13 (), if_pos (cA hR.1 (by omega)), Int.toNat_natCast, (hR.em hi).1, if_neg (by omega), j_X11_oddsOf_78, if_pos hR.1.1, m_isOther hR.1 hv ho, zC1_s, chP]
    by_cases e : l = w
    · rw [decide_eq_true e, if_neg (by decide), j_X11_oddsOf_90, if_pos e]
    · rw [decide_eq_false e, if_pos (show b01 false = 0 from rfl), j_X11_oddsOf_89, j_X11_oddsOf_90, if_neg e]
  | cons e r ih =>
    intro k c l m1 hF hv ho hl hkl hk
    have hR := hR0.fr (rowP_scr hF)
    obtain ⟨h1, h2, h3⟩ := edrop_cons hk
    have k32 : k < 32 := by omega
    have od1 : zi m1 5 (Int.toNat 3) = (gL S).2.2.2.1 := hR.bl.2.2.2.1.1
    rw [j_X11_oddsOf_9, if_pos hR.1.1, hR.1.2.1.2.1.1, obind, e13 (), if_pos (cA hR.1 (by omega)), Int.toNat_natCast, (hR.em hi).1, if_pos (by omega), m_has, zC1_s, hasI_eq _ k32, chP]
    by_cases g : zib (set : Int) k = true
    · obtain ⟨m2, f1, f2, f3, f4⟩ := m_editR (v := 0) hR hi h1 hv hl
      rw [h2] at f1 f3 f4
      obtain ⟨m', g1, g2⟩ := ih (k + 1) (zlmul c (zsub 16 (gL S).2.2.2.1)) _ m2 (hF.tr f2) f3 (ar31 f2 ho) f4 (by omega) h3
      refine ⟨m', ?_, g2⟩
      rw [if_neg (by rw [g]; decide), if_pos hR.1.1, hR.1.2.1.2.1.1, obind, if_pos (A5 hR.1 (by omega) (by omega)), od1, j_X11_oddsOf_53, m_has, zC1_s, hasI_eq _ k32, if_neg (by rw [g]; decide), if_pos hR.1.1, f1, zC1_s, j_X11_oddsOf_72, zadd1 (by omega), if_pos g]
      exact g1
    · obtain ⟨m', g1, g2⟩ := ih (k + 1) (zlmul c (gL S).2.2.2.1) l m1 hF hv ho hl (by omega) h3
      refine ⟨m', ?_, g2⟩
      rw [if_pos (b01_ne.mpr (bool_f g)), j_X11_oddsOf_46, if_pos hR.1.1, hR.1.2.1.2.1.1, obind, if_pos (A5 hR.1 (by omega) (by omega)), od1, j_X11_oddsOf_53, m_has, zC1_s, hasI_eq _ k32, if_pos (b01_ne.mpr (bool_f g)), j_X11_oddsOf_72, zadd1 (by omega), if_neg g]
      exact g1
theorem arP27_row (h : Fr (arP 27 8) m m') : Fr (rowP 0) m m' := h.mono (fun b j q => by unfold arP at q; unfold rowP; omega)
theorem m_oddsOf (hR : R2 S m) {i : Nat} (hi : i < (gL S).2.1.length) {l w : List Nat} {set : Nat} (hk : ArV m 30 9 l) (ho : ArV m 31 10 w) (hl : rOk l) : ∃ m', zF zP 361 v [(.inr (.inr (some 0))), .inl (i : Int), .inl (set : Int)] m = some (some (.inr (.inl (chV (gL S).2.2.2.1 ((gL S).2.1.getD i ln0).2.2 l w set))), m') ∧ Fr (rowP 0) m m' := by
  obtain ⟨m1, f1, f2, f3⟩ := m_gives (v := 0) hR.1 hk
  have hR1 := hR.fr (rowP_scr (arP27_row f2))
  obtain ⟨m', g1, g2⟩ := m_odds_loop (v := v) hR1 hi (w := w) (set := set) ((gL S).2.1.getD i ln0).2.2 0 1 l m1 (Fr.rf _ _) f3 (ar31 (arP27_row f2) ho) hl (Nat.zero_le _) rfl
  refine ⟨m', ?_, (arP27_row f2).tr g2⟩
  rw [f_X11_oddsOf, if_pos hR.1.1, f1, zC0_s]
  exact g1
theorem w_chance_pow (hR : R2 S m) {i : Nat} (hi : i < (gL S).2.1.length) (x1 x2 x4 x5 : Int) : ∀ (n k : Nat), k + n = ((gL S).2.1.getD i ln0).2.2.length →
    zX zP 362 v 61 [some (.inr (.inr (some 0))), some (.inl x1), some (.inl x2), some (.inl (i : Int)), some (.inl x4), some (.inl x5), some (.inr (.inl ((16 ^ k : Nat) : Int))), none, some (.inl (k : Int)), none, none] [] m = zX zP 362 v 89 [some (.inr (.inr (some 0))), some (.inl x1), some (.inl x2), some (.inl (i : Int)), some (.inl x4), some (.inl x5), some (.inr (.inl ((16 ^ ((gL S).2.1.getD i ln0).2.2.length : Nat) : Int))), none, some (.inl (((gL S).2.1.getD i ln0).2.2.length : Int)), none, none] [] m := by
  have h8 := hR.l8
  obtain ⟨a1, a2, a3⟩ := hR.em hi
  have e13 : ∀ _ : Unit, zadd 13 (i : Int) = ((13 + i : Nat) : Int) := fun _ => zadd_nat (n := 13) (by omega)
  intro n
  induction n with
  | zero =>
    intro k hk
    rw [j_X11_chance_61, if_pos hR.1.1, hR.1.2.1.2.1.1, obind, e13 (), if_pos (cA hR.1 (by omega)), Int.toNat_natCast, a1, if_neg (by omega), show k = ((gL S).2.1.getD i ln0).2.2.length by omega]
  | succ n ih =>
    intro k hk
    have hp : zlmul ((16 ^ k : Nat) : Int) 16 = ((16 ^ (k + 1) : Nat) : Int) := by
      rw [show (16 : Int) = ((16 : Nat) : Int) from rfl, zlmul_nat, Nat.pow_succ]
      have : 16 ^ k ≤ 16 ^ 4 := Nat.pow_le_pow_right (by decide) (by omega)
      have h2 : 16 ^ 4 * 16 < 2 ^ 40 := by decide
      exact Nat.lt_of_le_of_lt (Nat.mul_le_mul_right 16 this) h2
    rw [j_X11_chance_61, if_pos hR.1.1, hR.1.2.1.2.1.1, obind, e13 (), if_pos (cA hR.1 (by omega)), Int.toNat_natCast, a1, if_pos (by omega), hp, zadd1 (by omega)]
    exact ih (k + 1) (by omega)
theorem w_chance_sum {i : Nat} (hi : i < (gL S).2.1.length) {l w : List Nat} (hl : rOk l) (x1 x2 x4 x5 y6 : Int) : ∀ (n k : Nat) (acc : Int) (m1 : zM), R2 S m1 → ArV m1 30 9 l → ArV m1 31 10 w → k + n = 2 ^ ((gL S).2.1.getD i ln0).2.2.length →
    ∃ m', zX zP 362 v 95 [some (.inr (.inr (some 0))), some (.inl x1), some (.inl x2), some (.inl (i : Int)), some (.inl x4), some (.inl x5), some (.inr (.inl y6)), none, some (.inr (.inl acc)), none, some (.inl (k : Int))] [] m1 = zX zP 362 v 129 [some (.inr (.inr (some 0))), some (.inl x1), some (.inl x2), some (.inl (i : Int)), some (.inl x4), some (.inl x5), some (.inr (.inl y6)), none, some (.inr (.inl (chF (gL S).2.2.2.1 ((gL S).2.1.getD i ln0).2.2 l w n k acc))), none, some (.inl ((2 ^ ((gL S).2.1.getD i ln0).2.2.length : Nat) : Int))] [] m' ∧ R2 S m' := by
  intro n
  induction n with
  | zero =>
    intro k acc m1 hR hk ho hn
    have h8 := hR.l8
    obtain ⟨a1, a2, a3⟩ := hR.em hi
    have e13 : ∀ _ : Unit, zadd 13 (i : Int) = ((13 + i : Nat) : Int) := fun _ => zadd_nat (n := 13) (by omega)
    refine ⟨m1, ?_, hR⟩
    rw [j_X11_chance_95, if_pos hR.1.1, hR.1.2.1.2.1.1, obind, e13 (), if_pos (cA hR.1 (by omega)), Int.toNat_natCast, a1, zshl1 (by omega), if_neg (by omega), show k = 2 ^ ((gL S).2.1.getD i ln0).2.2.length by omega]; rfl
  | succ n ih =>
    intro k acc m1 hR hk ho hn
    have h8 := hR.l8
    obtain ⟨a1, a2, a3⟩ := hR.em hi
    have e13 : ∀ _ : Unit, zadd 13 (i : Int) = ((13 + i : Nat) : Int) := fun _ => zadd_nat (n := 13) (by omega)
    have h16 : 2 ^ ((gL S).2.1.getD i ln0).2.2.length ≤ 2 ^ 4 := Nat.pow_le_pow_right (by decide) a2
    obtain ⟨m2, f1, f2⟩ := m_oddsOf (v := 0) hR hi (set := k) hk ho hl
    obtain ⟨m', g1, g2⟩ := ih (k + 1) (zladd acc (chV (gL S).2.2.2.1 ((gL S).2.1.getD i ln0).2.2 l w k)) m2 (hR.fr (rowP_scr f2)) (f2.ar (by unfold rowP; omega) (fun j => by unfold rowP; omega) hk) (ar31 f2 ho) (by omega)
    refine ⟨m', ?_, g2⟩
    rw [j_X11_chance_95, if_pos hR.1.1, hR.1.2.1.2.1.1, obind, e13 (), if_pos (cA hR.1 (by omega)), Int.toNat_natCast, a1, zshl1 (by omega), if_pos (by omega), if_pos hR.1.1, f1, zC2_s, zadd1 (by omega)]
    exact g1
theorem w_chance (hR : R2 S m) (hod : 0 ≤ (gL S).2.2.2.1 ∧ (gL S).2.2.2.1 ≤ 16) (t n x to k : Int) : Ex2 (zF zP 362 v [(.inr (.inr (some 0))), .inl t, .inl n, .inl x, .inl to, .inl k] m) (o_chance S t n x to k) := by
  have h1 := hR.th (x := 0)
  unfold o_chance
  rw [f_X11_chance, if_pos hR.1.1, zT_wi, if_pos hR.1.1, m_isLineAt h1, zC1_s, zT_wi, if_pos hR.1.1, m_whyNoRows h1, zC1_s, zT_wi, if_pos hR.1.1, zT_wi, zT_wi, if_pos hR.1.1, zi_wi_s]
  show Ex2 (if 0 < yLs (yRw S t n (inB x (gL S).2.1.length)) (yRw S to k (inB x (gL S).2.1.length)) then _ else _) _
  by_cases h : yLs (yRw S t n (inB x (gL S).2.1.length)) (yRw S to k (inB x (gL S).2.1.length)) = 0
  · have h0 := hR.pre
    rw [if_neg (by rw [h]; decide), if_pos h]
    show Ex2 (zX zP 362 v 33 _ [] (zwi (zwi m 0 1 0) 0 0 (yLs (yRw S t n (inB x (gL S).2.1.length)) (yRw S to k (inB x (gL S).2.1.length))))) _
    obtain ⟨ha, hb⟩ := yLs0 (yRw_ge _ _ _ _) (yRw_ge _ _ _ _) h
    rw [h]
    generalize zwi (zwi m 0 1 0) 0 0 0 = m0 at h0 ⊢
    have ha' : yRw (wSt S 0) t n (inB x (gL S).2.1.length) = 0 := ha
    have hb' : yRw (wSt S 0) to k (inB x (gL S).2.1.length) = 0 := hb
    obtain ⟨u, k', q1, q2, q3, q4, q5, q6⟩ := yRw0 ha'
    obtain ⟨i, rfl, hi⟩ := inB_nat q5
    obtain ⟨m1, f1, f2, f3⟩ := m_takesRow (v := 0) h0 hb'
    have h2 := h0.fr (rowP_scr f2)
    obtain ⟨m2, g1, g2, g3⟩ := m_others (v := 0) h2.1 f3
    have h3 := h2.fr (arP10_scr g2)
    obtain ⟨m3, i1, i2, i3⟩ := m_takesRow (v := 0) h3 ha'
    have h4 := h3.fr (rowP_scr i2)
    obtain ⟨m4, k1, k2, k3⟩ := m_keeps (v := 0) h4.1 i3
    have h5 := h4.fr (arP_scr (f := 30) (b := 9) (by decide) (by decide) k2)
    have o4 : ArV m4 31 10 (yRow (wSt S 0) to k) := k2.ar (by unfold arP; omega) (fun j => by unfold arP; omega) (ar31 i2 g3)
    have hE4 : ((gL S).2.1.getD i ln0).2.2.length ≤ 4 := (h5.em (i := i) hi).2.1
    obtain ⟨m5, s1, s2⟩ := w_chance_sum (v := v) (S := wSt S 0) (i := i) hi (l := yRow S t n) (w := yRow S to k) (yRow_ok h0.w16 ha') t n to k (((16 ^ ((gL S).2.1.getD i ln0).2.2.length : Nat)) : Int) (2 ^ ((gL S).2.1.getD i ln0).2.2.length) 0 0 m4 h5 k3 o4 (by show 0 + 2 ^ ((gL S).2.1.getD i ln0).2.2.length = _; rw [Nat.zero_add])
    have hpw := w_chance_pow (v := v) h5 (i := i) hi t n to k ((gL S).2.1.getD i ln0).2.2.length 0 (Nat.zero_add _)
    obtain ⟨d1, d2⟩ := eu16 hE4 (chF (gL S).2.2.2.1 ((gL S).2.1.getD i ln0).2.2 (yRow S t n) (yRow S to k) (2 ^ ((gL S).2.1.getD i ln0).2.2.length) 0 0).toNat
    obtain ⟨m', w1, w2⟩ := m_fraction (v := 0) s2 d1 (Or.inr d2)
    have e0 : ((0 : Nat) : Int) = 0 := rfl
    have e1 : ((16 ^ 0 : Nat) : Int) = 1 := rfl
    rw [e0] at s1 hpw
    rw [e1] at hpw
    rw [j_X11_chance_33, if_pos h0.1.1, f1, zC0_s, if_pos h2.1.1, g1, zC0_s, if_pos h3.1.1, i1, zC0_s, if_pos h4.1.1, k1, zC0_s, hpw, j_X11_chance_89]
    show Ex2 (zX zP 362 v 95 [some (.inr (.inr (some 0))), some (.inl t), some (.inl n), some (.inl (i : Int)), some (.inl to), some (.inl k), some (.inr (.inl (((16 ^ ((gL S).2.1.getD i ln0).2.2.length : Nat)) : Int))), none, some (.inr (.inl 0)), none, some (.inl 0)] [] m4) _
    rw [s1, j_X11_chance_129, if_pos s2.1.1]
    show Ex2 (zC1 (zF zP 244 0 [(.inr (.inr (some 0))), .inr (.inl (chF (gL S).2.2.2.1 ((gL S).2.1.getD i ln0).2.2 (yRow S t n) (yRow S to k) (2 ^ ((gL S).2.1.getD i ln0).2.2.length) 0 0)), .inr (.inl (((16 ^ ((gL S).2.1.getD i ln0).2.2.length : Nat)) : Int))] m5) _) _
    rw [chF_toNat hod hE4, w1, zC1_s, if_pos zb1, Int.toNat_natCast]
    exact ⟨m', rfl, w2⟩
  · have hg := yLs_ge (yRw_ge S t n (inB x (gL S).2.1.length)) (yRw_ge S to k (inB x (gL S).2.1.length))
    rw [if_pos (show 0 < yLs (yRw S t n (inB x (gL S).2.1.length)) (yRw S to k (inB x (gL S).2.1.length)) by omega), if_neg h, if_pos zb0]
    exact ⟨_, rfl, (x2_st0 hR).1⟩
end CHANCE
