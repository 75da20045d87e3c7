/-! CIRCLES of both: the first DAY a ROW is what it was. -/
def itl (es : List zEd) (l : List Nat) : Nat → List Nat
  | 0 => l
  | t + 1 => lput es (itl es l t)
def anyF (f : Nat → Bool) : Nat → Nat → Bool
  | 0, _ => false
  | n + 1, k => f k || anyF f n (k + 1)
def crF (es : List zEd) (l : List Nat) : Nat → Nat → Int
  | 0, _ => -1
  | n + 1, d => if anyF (fun a => decide (itl es l a = itl es l d)) d 0 = true then (d : Int) else crF es l n (d + 1)
def o_circles (S : zSt) (t n x : Int) : Int × zSt :=
  if yRw S t n (inB x (gL S).2.1.length) = 0 then
    (if crF ((gL S).2.1.getD x.toNat ln0).2.2 (yRow S t n) 501 0 = -1 then oNo S 8 else oYes S (crF ((gL S).2.1.getD x.toNat ln0).2.2 (yRow S t n) 501 0))
  else oNo S (yRw S t n (inB x (gL S).2.1.length))
theorem itl_ok {es : List zEd} {l : List Nat} (he : ∀ e ∈ es, eOk e) (hl : rOk l) : ∀ t, rOk (itl es l t)
  | 0 => hl
  | t + 1 => lput_ok es _ he (itl_ok he hl t)
theorem crF_1 (es : List zEd) (l : List Nat) (n : Nat) : crF es l (n + 1) 0 = crF es l n 1 := rfl
section CIRCLES
variable {v : Nat} {S : zSt} {m : zM}
theorem s_ret_in {a : Nat} {es : List zEd} {l : List Nat} (he : ∀ e ∈ es, eOk e) (hl : rOk l) {y1 : Int} {d : Nat} (hd : d < 501) {m1 : zM} (hk : ArS m1 65 10 501) (hv : ∀ q, q < d → zl m1 65 q = zrow (itl es l q)) : ∀ (n k : Nat), k + n = d →
    zX zP 90 v 16 [some ((.inr (.inr (some a)))), some (.inr (.inl y1)), none, some ((.inr (.inr (some 65)))), some (.inr (.inl (zrow (itl es l d)))), none, some (.inl (d : Int)), some (.inl (k : Int))] [] m1
      = if anyF (fun a => decide (itl es l a = itl es l d)) n k = true then some (some (.inl (d : Int)), m1) else zX zP 90 v 42 [some ((.inr (.inr (some a)))), some (.inr (.inl y1)), none, some ((.inr (.inr (some 65)))), some (.inr (.inl (zrow (itl es l d)))), none, some (.inl (d : Int)), some (.inl (d : Int))] [] m1 := by
  intro n
  induction n with
  | zero =>
    intro k hk1
    have ek : k = d := by omega
    subst ek
    rw [j_X4_firstReturn_16, if_neg (by omega)]; rfl
  | succ n ih =>
    intro k hk1
    have e1 : zadd (k : Int) 1 = ((k + 1 : Nat) : Int) := zadd_nat (k := 1) (by omega)
    rw [j_X4_firstReturn_16, if_pos (by omega), if_pos (hk.A (by omega) (by omega)), Int.toNat_natCast, hv k (by omega)]
    unfold anyF
    by_cases e : itl es l k = itl es l d
    · rw [if_pos (zlcmp_eq.mpr (by rw [e])), decide_eq_true e, Bool.true_or, if_pos rfl]
    · rw [if_neg (fun q => e (zrow_inj (itl_ok he hl k) (itl_ok he hl d) (zlcmp_eq.mp q))), j_X4_firstReturn_36, e1, ih (k + 1) (by omega), decide_eq_false e, Bool.false_or]
theorem s_ret_out {a : Nat} {num : Int} {lost : Bool} {es : List zEd} {l : List Nat} (h : LnS m a) (hv0 : LnV m a num lost es) (ha : a + 2 ≤ 65) (hl : rOk l) {y1 : Int} (hk0 : ArS m 65 10 501) : ∀ (n d : Nat) (u7 : Option zV) (m1 : zM), d + n = 501 → Sam m m1 65 66 → (∀ q, q < d → zl m1 65 q = zrow (itl es l q)) →
    ∃ m', zX zP 90 v 6 [some ((.inr (.inr (some a)))), some (.inr (.inl y1)), none, some ((.inr (.inr (some 65)))), some (.inr (.inl (zrow (itl es l d)))), none, some (.inl (d : Int)), u7] [] m1 = some (some (.inl (crF es l n d)), m') ∧ Sam m m' 65 66 := by
  have he := hv0.2.2.2.2.1
  intro n
  induction n with
  | zero =>
    intro d u7 m1 hd hs hv
    have hk := hs.Ar hk0
    refine ⟨m1, ?_, hs⟩
    rw [j_X4_firstReturn_6, if_pos (hk.Y (by decide)), hk.L, if_neg (by omega), j_X4_firstReturn_62]; rfl
  | succ n ih =>
    intro d u7 m1 hd hs hv
    have hk := hs.Ar hk0
    have e0 : ((0 : Nat) : Int) = 0 := rfl
    have hin := s_ret_in (v := v) (a := a) he hl (y1 := y1) (d := d) (by omega) hk hv d 0 (Nat.zero_add _)
    rw [e0] at hin
    rw [j_X4_firstReturn_6, if_pos (hk.Y (by decide)), hk.L, if_pos (by omega), hin]
    unfold crF
    by_cases c : anyF (fun a => decide (itl es l a = itl es l d)) d 0 = true
    · rw [if_pos c, if_pos c]; exact ⟨m1, rfl, hs⟩
    · rw [if_neg c, if_neg c]
      have hw : Sam m1 (zwl m1 65 d (zrow (itl es l d))) 65 66 := Sam.wl m1 _ _ (by omega) (by omega)
      have hs2 := hs.tr hw
      obtain ⟨m', f1, f2⟩ := ih (d + 1) (some (.inl (d : Int))) _ (by omega) hs2 (fun q hq => by
        by_cases e : q = d
        · subst e; exact zl_wl_s _ _ _ _
        · rw [zl_wl_off _ _ (Or.inr e)]; exact hv q (by omega))
      have e1 : zadd (d : Int) 1 = ((d + 1 : Nat) : Int) := zadd_nat (k := 1) (by omega)
      refine ⟨m', ?_, f2⟩
      rw [j_X4_firstReturn_42, if_pos (hk.A (by omega) (by omega)), Int.toNat_natCast, if_pos (hs2.Ln h).1, s_putRight (hs2.Ln h) (hs2.lnV (by omega) hv0) (itl_ok he hl d), zC2_s, e1]
      exact f1
theorem p_circles (hR : R1 S m) (t n x : Int) : Ex1 (zF zP 208 v [(.inr (.inr (some 0))), .inl t, .inl n, .inl x] m) (o_circles S t n x) := by
  have hS := hR.1
  obtain ⟨hl, hv⟩ := hR.ll
  unfold o_circles
  rw [f_X10_circles, if_pos hS.1, hR.r2, obind, if_pos hR.t5, s_hasLine hR.t5 hv.2.1.1, zC1_s, if_pos hS.1, c_rowStatus hR, zC1_s]
  by_cases h : yRw S t n (inB x (gL S).2.1.length) = 0
  · obtain ⟨t', k, q1, q2, q3, q4, q5, q6⟩ := yRw0 h
    obtain ⟨i, rfl, hi⟩ := inB_nat q5
    obtain ⟨g1, g2, g3⟩ := hv.ln hl hi
    obtain ⟨m', f1, f2⟩ := s_ret_out (v := 0) g2 g3 (by omega) (yRow_ok hR.w16 h) (y1 := zrow (yRow S t n)) hS.2.2.1.2.2.2.1 501 0 none m rfl (Sam.rf _ _ _) (fun q hq => absurd hq (Nat.not_lt_zero q))
    have hR2 := f2.r1 (Or.inr (Or.inl ⟨by omega, by omega⟩)) hR
    have e0 : ((0 : Nat) : Int) = 0 := rfl
    rw [e0] at f1
    have hf : zF zP 90 0 [(.inr (.inr (some ((5 + 12 + 2 * i))))), .inr (.inl (zrow (yRow S t n))), (.inr (.inr (some 65)))] m = some (some (.inl (crF ((gL S).2.1.getD i ln0).2.2 (yRow S t n) 501 0)), m') := by
      rw [f_X4_firstReturn]; exact f1
    rw [if_pos h, if_pos h, j_X10_circles_28, if_pos hS.1, hR.r2, obind, if_pos hR.t5, s_lineAt hl g1, zC4_s, if_pos hS.1, c_rowIn hR h, zC2_s, if_pos hS.1, hS.2.1.2.2.2.2.2.2.2.1, obind, hf, zC1_s, Int.toNat_natCast]
    by_cases c : crF ((gL S).2.1.getD i ln0).2.2 (yRow S t n) 501 0 = -1
    · rw [if_pos c, if_pos c, if_pos hR2.1.1, c_no hR2.1, zC1_s, j_X10_circles_72]; exact x1_no hR2
    · rw [if_neg c, if_neg c, j_X10_circles_66, if_pos hR2.1.1, c_yes hR2.1, zC1_s, j_X10_circles_72]; exact x1_yes hR2
  · rw [if_neg h, if_neg h, if_pos hS.1]; exact x1_noC hR
def daP (b j : Nat) : Prop := b = 13
theorem daP_scr {m m' : zM} (h : Fr daP m m') : Fr scr m m' := h.mono (fun c j q => by unfold daP at q; unfold scr; omega)
/-- what lies at a DAY's place -/
def DaV (m : zM) (t : Nat) (l : List Nat) : Prop := zi m 13 (9 * t) = (l.length : Int) ∧ ∀ k, k < l.length → zi m 13 (9 * t + 1 + k) = ((l.getD k 0 : Nat) : Int)
theorem nl_ext {a b : List Nat} (h : a.length = b.length) (h2 : ∀ i, i < a.length → a.getD i 0 = b.getD i 0) : a = b := by
  apply List.ext_getElem h
  intro i h3 h4
  have := h2 i h3
  rw [List.getD_eq_getElem?_getD, List.getD_eq_getElem?_getD, List.getElem?_eq_getElem h3, List.getElem?_eq_getElem h4] at this
  exact this
theorem m_isDay_loop (hR : R2 S m) {t : Nat} (ht : t < 501) {l w : List Nat} (hl : ArV m 27 8 l) (hd : DaV m t w) (hlen : w.length = l.length) : ∀ (n k : Nat), k + n = l.length → (∀ i, i < k → w.getD i 0 = l.getD i 0) →
    zX zP 365 v 20 [some ((.inr (.inr (some 0)))), some (.inl (t : Int)), some (.inl (k : Int))] [] m = some (some (.inl (b01 (decide (w = l)))), m) := by
  have hS := hR.1
  have h8 := hl.2.1
  intro n
  induction n with
  | zero =>
    intro k hk he
    have e : w = l := nl_ext hlen (fun i hi => he i (by omega))
    have hl1 := hl.1
    rw [j_X11_isDay_20, if_pos hS.1, hl1, if_neg (by omega), j_X11_isDay_58, if_pos zb1, decide_eq_true e]; rfl
  | succ n ih =>
    intro k hk he
    have hl1 := hl.1
    have d2 : ∀ _ : Unit, _ := fun _ => hd.2 k (by omega)
    have l2 : ∀ _ : Unit, _ := fun _ => hl.2.2 k (by omega)
    have k8 : ArS m 8 9 8 := hS.2.2.2.1.2.2.2
    have k13 : ArS m 13 9 4509 := hS.2.2.2.2.2.1
    have z1 : ∀ _ : Unit, zmul 9 (t : Int) = ((9 * t : Nat) : Int) := fun _ => zmul_nat (n := 9) (by omega)
    have z2 : ∀ _ : Unit, zadd ((9 * t : Nat) : Int) 1 = ((9 * t + 1 : Nat) : Int) := fun _ => zadd_nat (k := 1) (by omega)
    have z3 : ∀ _ : Unit, zadd ((9 * t + 1 : Nat) : Int) (k : Int) = ((9 * t + 1 + k : Nat) : Int) := fun _ => zadd_nat (by omega)
    have z4 : ∀ _ : Unit, zadd (k : Int) 1 = ((k + 1 : Nat) : Int) := fun _ => zadd_nat (k := 1) (by omega)
    have A13 : zA m 13 9 ((9 * t + 1 + k : Nat) : Int) = true := k13.A (by omega) (by omega)
    rw [j_X11_isDay_20, if_pos hS.1, hl1, if_pos (by omega), if_pos hS.1, hS.2.1.2.2.2.1, obind, z1 (), z2 (), z3 (), if_pos A13, if_pos hS.1, hS.2.1.2.1.2.2.2, obind, if_pos (k8.A (by omega) (by omega)), Int.toNat_natCast, Int.toNat_natCast, d2 (), l2 ()]
    by_cases c : w.getD k 0 = l.getD k 0
    · rw [if_pos (by rw [c]), j_X11_isDay_52, z4 ()]
      exact ih (k + 1) (by omega) (fun i hi => by
        by_cases e : i = k
        · subst e; exact c
        · exact he i (by omega))
    · have e : ¬ w = l := fun q => c (by rw [q])
      rw [if_neg (fun q => c (Int.ofNat_inj.mp q)), if_pos zb0, decide_eq_false e]; rfl
theorem m_isDay (hR : R2 S m) {t : Nat} (ht : t < 501) {l w : List Nat} (hl : ArV m 27 8 l) (hd : DaV m t w) : zF zP 365 v [(.inr (.inr (some 0))), .inl (t : Int)] m = some (some (.inl (b01 (decide (w = l)))), m) := by
  have hS := hR.1
  have hl1 := hl.1
  have d1 := hd.1
  have k13 : ArS m 13 9 4509 := hS.2.2.2.2.2.1
  have z1 : ∀ _ : Unit, zmul 9 (t : Int) = ((9 * t : Nat) : Int) := fun _ => zmul_nat (n := 9) (by omega)
  have A13 : zA m 13 9 ((9 * t : Nat) : Int) = true := k13.A (by omega) (by omega)
  rw [f_X11_isDay, if_pos hS.1, hS.2.1.2.2.2.1, obind, z1 (), if_pos A13, if_pos hS.1, Int.toNat_natCast, d1, hl1]
  by_cases c : w.length = l.length
  · rw [if_pos (by rw [c]), j_X11_isDay_18]
    exact m_isDay_loop hR ht hl hd c l.length 0 (Nat.zero_add _) (fun i hi => absurd hi (Nat.not_lt_zero i))
  · rw [if_neg (fun q => c (Int.ofNat_inj.mp q)), if_pos zb0, decide_eq_false (fun q => c (by rw [q]))]; rfl
theorem m_laysDay_loop (hR0 : R2 S m) {t : Nat} (ht : t < 501) {l : List Nat} (hl0 : ArV m 27 8 l) : ∀ (n k : Nat) (m1 : zM), k + n = l.length → Fr daP m m1 → (∀ t' j, t' ≠ t → j < 9 → zi m1 13 (9 * t' + j) = zi m 13 (9 * t' + j)) → zi m1 13 (9 * t) = (l.length : Int) → (∀ i, i < k → zi m1 13 (9 * t + 1 + i) = ((l.getD i 0 : Nat) : Int)) →
    ∃ m', zX zP 366 v 15 [some ((.inr (.inr (some 0)))), some (.inl (t : Int)), some (.inl (k : Int))] [] m1 = some (none, m') ∧ Fr daP m m' ∧ (∀ t' j, t' ≠ t → j < 9 → zi m' 13 (9 * t' + j) = zi m 13 (9 * t' + j)) ∧ DaV m' t l := by
  have h8 := hl0.2.1
  intro n
  induction n with
  | zero =>
    intro k m1 hk hF ho h1 h2
    have hR := hR0.fr (daP_scr hF)
    have hS := hR.1
    have hl1 := (hF.ar (by unfold daP; omega) (fun j => by unfold daP; omega) hl0).1
    refine ⟨m1, ?_, hF, ho, h1, fun i hi => h2 i (by omega)⟩
    rw [j_X11_laysDay_15, if_pos hS.1, hl1, if_neg (by omega), j_X11_laysDay_48]
  | succ n ih =>
    intro k m1 hk hF ho h1 h2
    have hR := hR0.fr (daP_scr hF)
    have hS := hR.1
    have hl := hF.ar (by unfold daP; omega) (fun j => by unfold daP; omega) hl0
    have hl1 := hl.1
    have l2 := hl.2.2 k (by omega)
    have k8 : ArS m1 8 9 8 := hS.2.2.2.1.2.2.2
    have k13 : ArS m1 13 9 4509 := hS.2.2.2.2.2.1
    have z1 : ∀ _ : Unit, zmul 9 (t : Int) = ((9 * t : Nat) : Int) := fun _ => zmul_nat (n := 9) (by omega)
    have z2 : ∀ _ : Unit, zadd ((9 * t : Nat) : Int) 1 = ((9 * t + 1 : Nat) : Int) := fun _ => zadd_nat (k := 1) (by omega)
    have z3 : ∀ _ : Unit, zadd ((9 * t + 1 : Nat) : Int) (k : Int) = ((9 * t + 1 + k : Nat) : Int) := fun _ => zadd_nat (by omega)
    have z4 : ∀ _ : Unit, zadd (k : Int) 1 = ((k + 1 : Nat) : Int) := fun _ => zadd_nat (k := 1) (by omega)
    have A13 : zA m1 13 9 ((9 * t + 1 + k : Nat) : Int) = true := k13.A (by omega) (by omega)
    have A8 : zA m1 8 9 (k : Int) = true := k8.A (by omega) (by omega)
    have hw : Fr daP m1 (zwi m1 13 (9 * t + 1 + k) ((l.getD k 0 : Nat) : Int)) := Fr.wi m1 _ rfl
    obtain ⟨m', f1, f2, f3, f4⟩ := ih (k + 1) _ (by omega) (hF.tr hw)
      (fun t' j q1 q2 => by rw [zi_wi_n _ _ (Or.inr (by omega))]; exact ho t' j q1 q2)
      (by rw [zi_wi_n _ _ (Or.inr (by omega))]; exact h1)
      (fun i hi => by
        by_cases e : i = k
        · subst e; exact zi_wi_s _ _ _ _
        · rw [zi_wi_n _ _ (Or.inr (by omega))]; exact h2 i (by omega))
    refine ⟨m', ?_, f2, f3, f4⟩
    rw [j_X11_laysDay_15, if_pos hS.1, hl1, if_pos (by omega), if_pos hS.1, hS.2.1.2.2.2.1, obind, if_pos hS.1, hS.2.1.2.1.2.2.2, obind, if_pos A8, z1 (), z2 (), z3 (), if_pos A13, Int.toNat_natCast, Int.toNat_natCast, l2, z4 ()]
    exact f1
theorem m_laysDay (hR : R2 S m) {t : Nat} (ht : t < 501) {l : List Nat} (hl : ArV m 27 8 l) : ∃ m', zF zP 366 v [(.inr (.inr (some 0))), .inl (t : Int)] m = some (none, m') ∧ Fr daP m m' ∧ (∀ t' j, t' ≠ t → j < 9 → zi m' 13 (9 * t' + j) = zi m 13 (9 * t' + j)) ∧ DaV m' t l := by
  have hS := hR.1
  have hl1 := hl.1
  have k13 : ArS m 13 9 4509 := hS.2.2.2.2.2.1
  have z1 : ∀ _ : Unit, zmul 9 (t : Int) = ((9 * t : Nat) : Int) := fun _ => zmul_nat (n := 9) (by omega)
  have A13 : zA m 13 9 ((9 * t : Nat) : Int) = true := k13.A (by omega) (by omega)
  have hw : Fr daP m (zwi m 13 (9 * t) (l.length : Int)) := Fr.wi m _ rfl
  have e0 : ((0 : Nat) : Int) = 0 := rfl
  obtain ⟨m', f1, f2, f3, f4⟩ := m_laysDay_loop (v := v) hR ht hl l.length 0 _ (Nat.zero_add _) hw (fun t' j q1 q2 => by rw [zi_wi_n _ _ (Or.inr (by omega))]) (zi_wi_s _ _ _ _) (fun i hi => absurd hi (Nat.not_lt_zero i))
  refine ⟨m', ?_, f2, f3, f4⟩
  rw [e0] at f1
  rw [f_X11_laysDay, if_pos hS.1, hS.2.1.2.2.2.1, obind, if_pos hS.1, z1 (), if_pos A13, Int.toNat_natCast, hl1]
  exact f1
theorem m_circ_in (hR : R2 S m) {es : List zEd} {l0 : List Nat} {d : Nat} (hd : d < 501) {x1 x2 x3 : Int} (hl : ArV m 27 8 (itl es l0 d)) (hv : ∀ q, q < d → DaV m q (itl es l0 q)) : ∀ (n k : Nat), k + n = d →
    zX zP 367 v 60 [some ((.inr (.inr (some 0)))), some (.inl x1), some (.inl x2), some (.inl x3), some (.inl (d : Int)), some (.inl (k : Int))] [] m
      = if anyF (fun a => decide (itl es l0 a = itl es l0 d)) n k = true then some (some (.inl (d : Int)), m) else zX zP 367 v 85 [some ((.inr (.inr (some 0)))), some (.inl x1), some (.inl x2), some (.inl x3), some (.inl (d : Int)), some (.inl (d : Int))] [] m := by
  have hS := hR.1
  intro n
  induction n with
  | zero =>
    intro k hk1
    have ek : k = d := by omega
    subst ek
    rw [j_X11_circles_60, if_neg (by omega)]; rfl
  | succ n ih =>
    intro k hk1
    have e1 : zadd (k : Int) 1 = ((k + 1 : Nat) : Int) := zadd_nat (k := 1) (by omega)
    rw [j_X11_circles_60, if_pos (by omega), if_pos hS.1, m_isDay hR (by omega) hl (hv k (by omega)), zC1_s]
    unfold anyF
    by_cases e : itl es l0 k = itl es l0 d
    · rw [decide_eq_true e, if_neg (by decide), Bool.true_or, if_pos rfl]
    · rw [decide_eq_false e, if_pos (show b01 false = 0 from rfl), j_X11_circles_79, e1, ih (k + 1) (by omega), Bool.false_or]
theorem m_circ_out {i : Nat} (hi : i < (gL S).2.1.length) {l0 : List Nat} (hl0 : rOk l0) {x1 x2 : Int} : ∀ (n d : Nat) (u5 : Option zV) (m1 : zM), d + 1 + n = 501 → R2 S m1 → gSt S = 0 → ArV m1 27 8 (itl ((gL S).2.1.getD i ln0).2.2 l0 d) → (∀ q, q ≤ d → DaV m1 q (itl ((gL S).2.1.getD i ln0).2.2 l0 q)) →
    ∃ m', zX zP 367 v 43 [some ((.inr (.inr (some 0)))), some (.inl x1), some (.inl x2), some (.inl (i : Int)), some (.inl ((d + 1 : Nat) : Int)), u5] [] m1 =
      (if crF ((gL S).2.1.getD i ln0).2.2 l0 n (d + 1) = -1 then some (some (.inl (-1)), zwi m' 0 0 8) else some (some (.inl (crF ((gL S).2.1.getD i ln0).2.2 l0 n (d + 1))), m')) ∧ R2 S m' := by
  intro n
  induction n with
  | zero =>
    intro d u5 m1 hd hR h0 hl hv
    refine ⟨m1, ?_, hR⟩
    rw [j_X11_circles_43, if_pos (by omega), j_X11_circles_97, if_pos hR.1.1, m_refuse hR.1, zC1_s]
    unfold crF
    rw [if_pos rfl]
  | succ n ih =>
    intro d u5 m1 hd hR h0 hl hv
    have hE := (hR.em (i := i) hi).2.2
    obtain ⟨m2, f1, f2, f3, f4⟩ := m_putsR (v := 0) hR (i := i) hi hl (itl_ok hE hl0 d)
    have hR2 := hR.fr (rowP_scr f2)
    have hv2 : ∀ q, q < d + 1 → DaV m2 q (itl ((gL S).2.1.getD i ln0).2.2 l0 q) := fun q hq => by
      obtain ⟨q1, q2⟩ := hv q (by omega)
      refine ⟨?_, fun k hk => ?_⟩
      · rw [f2.i (by unfold rowP; omega)]; exact q1
      · rw [f2.i (by unfold rowP; omega)]; exact q2 k hk
    have hin := m_circ_in (v := v) hR2 (es := ((gL S).2.1.getD i ln0).2.2) (l0 := l0) (d := d + 1) (by omega) (x1 := x1) (x2 := x2) (x3 := (i : Int)) f3 hv2 (d + 1) 0 (Nat.zero_add _)
    have e0 : ((0 : Nat) : Int) = 0 := rfl
    rw [e0] at hin
    have hc : crF ((gL S).2.1.getD i ln0).2.2 l0 (n + 1) (d + 1) = if anyF (fun a => decide (itl ((gL S).2.1.getD i ln0).2.2 l0 a = itl ((gL S).2.1.getD i ln0).2.2 l0 (d + 1))) (d + 1) 0 = true then ((d + 1 : Nat) : Int) else crF ((gL S).2.1.getD i ln0).2.2 l0 n (d + 1 + 1) := rfl
    rw [hc]
    by_cases c : anyF (fun a => decide (itl ((gL S).2.1.getD i ln0).2.2 l0 a = itl ((gL S).2.1.getD i ln0).2.2 l0 (d + 1))) (d + 1) 0 = true
    · refine ⟨m2, ?_, hR2⟩
      rw [j_X11_circles_43, if_neg (by omega), if_pos hR.1.1, f1, zC1_s, hin, if_pos c, if_pos c, if_neg (by omega)]
    · obtain ⟨m3, g1, g2, g3, g4⟩ := m_laysDay (v := 0) hR2 (t := d + 1) (by omega) f3
      have hR3 := hR2.fr (daP_scr g2)
      obtain ⟨m', k1, k2⟩ := ih (d + 1) (some (.inl ((d + 1 : Nat) : Int))) m3 (by omega) hR3 h0 (g2.ar (by unfold daP; omega) (fun j => by unfold daP; omega) f3) (fun q hq => by
        by_cases e : q = d + 1
        · subst e; exact g4
        · obtain ⟨q1, q2⟩ := hv2 q (by omega)
          have q8 := (itl_ok hE hl0 q).1
          refine ⟨?_, fun k hk => ?_⟩
          · have := g3 q 0 e (by omega)
            rw [Nat.add_zero] at this
            rw [this]; exact q1
          · have := g3 q (1 + k) e (by omega)
            rw [← Nat.add_assoc] at this
            rw [this]; exact q2 k hk)
      have e1 : zadd ((d + 1 : Nat) : Int) 1 = ((d + 1 + 1 : Nat) : Int) := zadd_nat (k := 1) (by omega)
      refine ⟨m', ?_, k2⟩
      rw [j_X11_circles_43, if_neg (by omega), if_pos hR.1.1, f1, zC1_s, hin, if_neg c, if_neg c, j_X11_circles_85, if_pos hR2.1.1, g1, zC0_s, e1]
      exact k1
theorem w_circles (hR : R2 S m) (t n x : Int) : Ex2 (zF zP 367 v [(.inr (.inr (some 0))), .inl t, .inl n, .inl x] m) (o_circles S t n x) := by
  have h1 := hR.th (x := 0)
  unfold o_circles
  rw [f_X11_circles, if_pos hR.1.1, zT_wi, if_pos hR.1.1, m_isLineAt h1, zC1_s, zT_wi, if_pos hR.1.1, m_whyNoRow h1, zC1_s, zT_wi, if_pos hR.1.1, zT_wi, zT_wi, if_pos hR.1.1, zi_wi_s]
  by_cases h : yRw S t n (inB x (gL S).2.1.length) = 0
  · have h0 := hR.pre
    rw [h, if_neg (by decide), if_pos rfl]
    generalize zwi (zwi m 0 1 0) 0 0 0 = m0 at h0 ⊢
    have h' : yRw (wSt S 0) t n (inB x (gL S).2.1.length) = 0 := h
    obtain ⟨u, k, q1, q2, q3, q4, q5, q6⟩ := yRw0 h'
    obtain ⟨i, rfl, hi⟩ := inB_nat q5
    obtain ⟨m1, f1, f2, f3⟩ := m_takesRow (v := 0) h0 h'
    have h2 := h0.fr (rowP_scr f2)
    obtain ⟨m2, g1, g2, g3, g4⟩ := m_laysDay (v := 0) h2 (t := 0) (by omega) f3
    have h3 := h2.fr (daP_scr g2)
    obtain ⟨m', k1, k2⟩ := m_circ_out (v := v) (S := wSt S 0) (i := i) hi (l0 := yRow S t n) (yRow_ok h0.w16 h') (x1 := t) (x2 := n) 500 0 none m2 rfl h3 rfl (g2.ar (by unfold daP; omega) (fun j => by unfold daP; omega) f3) (fun q hq => by
      have : q = 0 := by omega
      subst this; exact g4)
    have e0 : ((0 : Nat) : Int) = 0 := rfl
    have e1 : ((0 + 1 : Nat) : Int) = 1 := rfl
    rw [e0] at g1
    rw [e1] at k1
    have hc := crF_1 ((gL S).2.1.getD i ln0).2.2 (yRow S t n) 500
    rw [j_X11_circles_29, if_pos h0.1.1, f1, zC0_s, if_pos h2.1.1, g1, zC0_s, k1, Int.toNat_natCast]
    show Ex2 _ (if crF ((gL S).2.1.getD i ln0).2.2 (yRow S t n) (500 + 1) 0 = -1 then oNo S 8 else oYes S (crF ((gL S).2.1.getD i ln0).2.2 (yRow S t n) (500 + 1) 0))
    rw [hc]
    show Ex2 (if crF ((gL S).2.1.getD i ln0).2.2 (yRow S t n) 500 1 = -1 then some (some (.inl (-1)), zwi m' 0 0 8) else some (some (.inl (crF ((gL S).2.1.getD i ln0).2.2 (yRow S t n) 500 1)), m')) _
    by_cases c : crF ((gL S).2.1.getD i ln0).2.2 (yRow S t n) 500 1 = -1
    · rw [if_pos c, if_pos c]; exact x2_no k2
    · rw [if_neg c, if_neg c]; exact x2_yes k2
  · have hg := yRw_ge S t n (inB x (gL S).2.1.length)
    rw [if_pos (show 0 < yRw S t n (inB x (gL S).2.1.length) by omega), if_neg h]
    exact ⟨_, rfl, (x2_st0 hR).1⟩
end CIRCLES
