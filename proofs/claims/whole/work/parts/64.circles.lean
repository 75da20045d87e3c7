/-! CIRCLES of both: the first DAY a ROW is what it was. -/
def itl (es : List zEd) (l : List Nat) : Nat → List Nat
  | 0 => l
  | t + 1 => lput es (itl es l t)
def anyF (f : Nat → Bool) : Nat → Nat → Bool
  | 0, _ => false
  | n + 1, k => f k || anyF f n (k + 1)
def crF (es : List zEd) (l : List Nat) : Nat → Nat → Int
  | 0, _ => -1
  | n + 1, d => if anyF (fun a => decide (itl es l a = itl es l d)) d 0 = true then (d : Int) else crF es l n (d + 1)
def o_circles (S : zSt) (t n x : Int) : Int × zSt :=
  if yRw S t n (inB x (gL S).2.1.length) = 0 then
    (if crF ((gL S).2.1.getD x.toNat ln0).2.2 (yRow S t n) 501 0 = -1 then oNo S 8 else oYes S (crF ((gL S).2.1.getD x.toNat ln0).2.2 (yRow S t n) 501 0))
  else oNo S (yRw S t n (inB x (gL S).2.1.length))
theorem itl_ok {es : List zEd} {l : List Nat} (he : ∀ e ∈ es, eOk e) (hl : rOk l) : ∀ t, rOk (itl es l t)
  | 0 => hl
  | t + 1 => lput_ok es _ he (itl_ok he hl t)
theorem crF_1 (es : List zEd) (l : List Nat) (n : Nat) : crF es l (n + 1) 0 = crF es l n 1 := rfl
section CIRCLES
variable {v : Nat} {S : zSt} {m : zM}
theorem s_ret_in {a : Nat} {es : List zEd} {l : List Nat} (he : ∀ e ∈ es, eOk e) (hl : rOk l) {y1 : Int} {d : Nat} (hd : d < 501) {m1 : zM} (hk : ArS m1 65 10 501) (hv : ∀ q, q < d → zl m1 65 q = zrow (itl es l q)) : ∀ (n k : Nat), k + n = d →
    zX zP 90 v 16 [some (.inr (.inr (some a))), some (.inr (.inl y1)), none, some (.inr (.inr (some 65))), some (.inr (.inl (zrow (itl es l d)))), none, some (.inl (d : Int)), some (.inl (k : Int))] [] m1
      = if anyF (fun a => decide (itl es l a = itl es l d)) n k = true then some (some (.inl (d : Int)), m1) else zX zP 90 v 42 [some (.inr (.inr (some a))), some (.inr (.inl y1)), none, some (.inr (.inr (some 65))), some (.inr (.inl (zrow (itl es l d)))), none, some (.inl (d : Int)), some (.inl (d : Int))] [] m1 := by
  intro n
  induction n with
  | zero =>
    intro k hk1
    have ek : k = d := by omega
    subst ek
    rw [j_X4_firstReturn_16, if_neg (by omega)]; rfl
  | succ n ih =>
    intro k hk1
    have e1 : zadd (k : Int) 1 = ((k + 1 : Nat) : Int) := zadd_nat (k := 1) (by omega)
    rw [j_X4_firstReturn_16, if_pos (by omega), if_pos (hk.A (by omega) (by omega)), Int.toNat_natCast, hv k (by omega)]
    unfold anyF
    by_cases e : itl es l k = itl es l d
    · rw [if_pos (zlcmp_eq.mpr (by rw [e])), decide_eq_true e, Bool.true_or, if_pos rfl]
    · rw [if_neg (fun q => e (zrow_inj (itl_ok he hl k) (itl_ok he hl d) (zlcmp_eq.mp q))), j_X4_firstReturn_36, e1, ih (k + 1) (by omega), decide_eq_false e, Bool.false_or]
theorem s_ret_out {a : Nat} {num : Int} {lost : Bool} {es : List zEd} {l : List Nat} (h : LnS m a) (hv0 : LnV m a num lost es) (ha : a + 2 ≤ 65) (hl : rOk l) {y1 : Int} (hk0 : ArS m 65 10 501) : ∀ (n d : Nat) (u7 : Option zV) (m1 : zM), d + n = 501 → Sam m m1 65 66 → (∀ q, q < d → zl m1 65 q = zrow (itl es l q)) →
    ∃ m', zX zP 90 v 6 [some (.inr (.inr (some a))), some (.inr (.inl y1)), none, some (.inr (.inr (some 65))), some (.inr (.inl (zrow (itl es l d)))), none, some (.inl (d : Int)), u7] [] m1 = some (some (.inl (crF es l n d)), m') ∧ Sam m m' 65 66 := by
  have he := hv0.2.2.2.2.1
  intro n
  induction n with
  | zero =>
    intro d u7 m1 hd hs hv
    have hk := hs.Ar hk0
    refine ⟨m1, ?_, hs⟩
    rw [j_X4_firstReturn_6, if_pos (hk.Y (by decide)), hk.L, if_neg (by omega), j_X4_firstReturn_62]; rfl
  | succ n ih =>
    intro d u7 m1 hd hs hv
    have hk := hs.Ar hk0
    have e0 : ((0 : Nat) : Int) = 0 := rfl
    have hin := s_ret_in (v := v) (a := a) he hl (y1 := y1) (d := d) (by omega) hk hv d 0 (Nat.zero_add _)
    rw [e0] at hin
    rw [j_X4_firstReturn_6, if_pos (hk.Y (by decide)), hk.L, if_pos (by omega), hin]
    unfold crF
    by_cases c : anyF (fun a => decide (itl es l a = itl es l d)) d 0 = true
    · rw [if_pos c, if_pos c]; exact ⟨m1, rfl, hs⟩
    · rw [if_neg c, if_neg c]
      have hw : Sam m1 (zwl m1 65 d (zrow (itl es l d))) 65 66 := Sam.wl m1 _ _ (by omega) (by omega)
      have hs2 := hs.tr hw
      obtain ⟨m', f1, f2⟩ := ih (d + 1) (some (.inl (d : Int))) _ (by omega) hs2 (fun q hq => by
        by_cases e : q = d
        · subst e; exact zl_wl_s _ _ _ _
        · rw [zl_wl_off _ _ (Or.inr e)]; exact hv q (by omega))
      have e1 : zadd (d : Int) 1 = ((d + 1 : Nat) : Int) := zadd_nat (k := 1) (by omega)
      refine ⟨m', ?_, f2⟩
      rw [j_X4_firstReturn_42, if_pos (hk.A (by omega) (by omega)), Int.toNat_natCast, if_pos (hs2.Ln h).1, s_putRight (hs2.Ln h) (hs2.lnV (by omega) hv0) (itl_ok he hl d), zC2_s, e1]
      exact f1
theorem p_circles (hR : R1 S m) (t n x : Int) : Ex1 (zF zP 208 v [.inr (.inr (some 0)), .inl t, .inl n, .inl x] m) (o_circles S t n x) := by
  have hS := hR.1
  obtain ⟨hl, hv⟩ := hR.ll
  unfold o_circles
  rw [f_X10_circles, if_pos hS.1, hR.r2, obind, if_pos hR.t5, s_hasLine hR.t5 hv.2.1.1, zC1_s, if_pos hS.1, c_rowStatus hR, zC1_s]
  by_cases h : yRw S t n (inB x (gL S).2.1.length) = 0
  · obtain ⟨t', k, q1, q2, q3, q4, q5, q6⟩ := yRw0 h
    obtain ⟨i, rfl, hi⟩ := inB_nat q5
    obtain ⟨g1, g2, g3⟩ := hv.ln hl hi
    obtain ⟨m', f1, f2⟩ := s_ret_out (v := 0) g2 g3 (by omega) (yRow_ok hR.w16 h) (y1 := zrow (yRow S t n)) hS.2.2.1.2.2.2 501 0 none m rfl (Sam.rf _ _ _) (fun q hq => absurd hq (Nat.not_lt_zero q))
    have hR2 := f2.r1 (Or.inr (Or.inl ⟨by omega, by omega⟩)) hR
    have e0 : ((0 : Nat) : Int) = 0 := rfl
    rw [e0] at f1
    have hf : zF zP 90 0 [.inr (.inr (some ((5 + 12 + 2 * i)))), .inr (.inl (zrow (yRow S t n))), .inr (.inr (some 65))] m = some (some (.inl (crF ((gL S).2.1.getD i ln0).2.2 (yRow S t n) 501 0)), m') := by
      rw [f_X4_firstReturn]; exact f1
    rw [if_pos h, if_pos h, j_X10_circles_28, if_pos hS.1, hR.r2, obind, if_pos hR.t5, s_lineAt hl g1, zC4_s, if_pos hS.1, c_rowIn hR h, zC2_s, if_pos hS.1, hS.2.1.2.2.2.2.2.2.2, obind, hf, zC1_s, Int.toNat_natCast]
    by_cases c : crF ((gL S).2.1.getD i ln0).2.2 (yRow S t n) 501 0 = -1
    · rw [if_pos c, if_pos c, if_pos hR2.1.1, c_no hR2.1, zC1_s, j_X10_circles_72]; exact x1_no hR2
    · rw [if_neg c, if_neg c, j_X10_circles_66, if_pos hR2.1.1, c_yes hR2.1, zC1_s, j_X10_circles_72]; exact x1_yes hR2
  · rw [if_neg h, if_neg h, if_pos hS.1]; exact x1_noC hR
end CIRCLES
