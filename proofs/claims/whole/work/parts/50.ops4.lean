/-! The reference: a ROW taught, what a LINE makes of it. -/
section OPS4
variable {v : Nat} {S : zSt} {m m' : zM} {x a : Int}
def tcP (p b j : Nat) : Prop := b = 5 ∧ (j = 163 + p ∨ (169 + 8 * p ≤ j ∧ j < 177 + 8 * p))
theorem w_teach_loop (hR0 : R2 S m) {t N p : Nat} (ht : t < 4) (he : (gTr S t).1 = true) (hN : N ≤ (gTr S t).2.2.length) (h8 : N ≤ 8) (hp : p < (gL S).2.2.1.length) (hg : ∀ i, i < N → 0 ≤ (gTr S t).2.2.getD i 0 ∧ (gTr S t).2.2.getD i 0 < ((gL S).1.length : Int)) : ∀ (n k : Nat) (m1 : zM), Fr (tcP p) m m1 → (∀ t, t < 4 → TvM m1 t (gTr S t)) → k + n = N → (∀ i, i < k → zi m1 5 (169 + 8 * p + i) = (((toRow (gTr S t).2.2 N).getD i 0 : Nat) : Int)) →
    ∃ m', zX zP 352 v 32 [some (.inr (.inr (some 0))), some (.inl (p : Int)), some (.inl (t : Int)), some (.inl (N : Int)), some (.inl (k : Int))] [] m1 = some (some (.inl (N : Int)), m') ∧ Fr (tcP p) m m' ∧ zi m' 5 (163 + p) = (N : Int) ∧ (∀ i, i < N → zi m' 5 (169 + 8 * p + i) = (((toRow (gTr S t).2.2 N).getD i 0 : Nat) : Int)) := by
  have h6 := hR0.p6
  have hp6 : p < 6 := by omega
  have e163 : ∀ _ : Unit, zadd 163 (p : Int) = ((163 + p : Nat) : Int) := fun _ => zadd_nat (n := 163) (by omega)
  have e60 : ∀ k : Nat, k < 60 → zadd (zmul 60 (t : Int)) (k : Int) = ((60 * t + k : Nat) : Int) := fun k hk => by
    rw [show zmul 60 (t : Int) = ((60 * t : Nat) : Int) from zmul_nat (n := 60) (by omega)]; exact zadd_nat (by omega)
  intro n
  induction n with
  | zero =>
    intro k m1 hF hT hk hB
    have hS := hF.s2 hR0.1
    have hw : Fr (tcP p) m1 (zwi m1 5 (163 + p) (N : Int)) := Fr.wi m1 _ (by unfold tcP; omega)
    refine ⟨zwi m1 5 (163 + p) (N : Int), ?_, hF.tr hw, zi_wi_s _ _ _ _, fun i hi => by rw [zi_wi_n _ _ (Or.inr (by omega))]; exact hB i (by omega)⟩
    rw [j_X11_teach_32, if_neg (by omega), j_X11_teach_68, if_pos hS.1, hS.2.1.2.1.1, obind, e163 (), if_pos (A5 hS (by omega) (by omega)), Int.toNat_natCast]
  | succ n ih =>
    intro k m1 hF hT hk hB
    have hS := hF.s2 hR0.1
    obtain ⟨g1, g2⟩ := hg k (by omega)
    have hw8 := hR0.w8
    have h60 := (hT t ht).2.2.1
    have hk8 : k < 8 := by omega
    have hA3 : zA m1 3 10 ((60 * t + k : Nat) : Int) = true := hS.2.2.1.2.2.1.A (by omega) (by omega)
    have hnum : zl m1 3 (60 * t + k) = (gTr S t).2.2.getD k 0 := (hT t ht).2.2.2.2 he k (by omega)
    have ew : i32 ((gTr S t).2.2.getD k 0) = (((toRow (gTr S t).2.2 N).getD k 0 : Nat) : Int) := by
      have h1 : (toRow (gTr S t).2.2 N).getD k 0 = ((gTr S t).2.2.getD k 0).toNat := by
        unfold toRow
        rw [List.getD_eq_getElem?_getD, List.getElem?_map, List.getElem?_take, if_pos (by omega), List.getD_eq_getElem?_getD, List.getElem?_eq_getElem (by omega)]
        rfl
      rw [h1]
      unfold i32; rw [Int.bmod_eq_of_le (by omega) (by omega)]; omega
    have hw : Fr (tcP p) m1 (zwi m1 5 (169 + 8 * p + k) (((toRow (gTr S t).2.2 N).getD k 0 : Nat) : Int)) := Fr.wi m1 _ (by unfold tcP; omega)
    obtain ⟨m', f1, f2, f3⟩ := ih (k + 1) _ (hF.tr hw) (fun u hu => hw.tvM (by unfold tcP; omega) (by unfold tcP; omega) (fun j _ _ => by unfold tcP; omega) (hT u hu)) (by omega)
      (fun i hi => by
        by_cases e : i = k
        · subst e; rw [zi_wi_s]
        · rw [zi_wi_n _ _ (Or.inr (by omega))]; exact hB i (by omega))
    refine ⟨m', ?_, f2, f3⟩
    rw [j_X11_teach_32, if_pos (by omega), if_pos hS.1, hS.2.1.2.1.1, obind, if_pos hS.1, f_X11_numberOf, if_pos hS.1, hS.2.1.1.2.2.1, obind, e60 k (by omega), if_pos hA3, zC2_s, rowC hp6 hk8, if_pos (rowA hS hp6 hk8), Int.toNat_natCast, Int.toNat_natCast, hnum, ew, zadd1 (by omega)]
    exact f1
/-- behind a STATUS that is told first -/
theorem x2_st0 {x : Int} (hR : R2 S m) : R2 (wSt S x) (zwi (zwi m 0 1 0) 0 0 x) ∧ zi (zwi (zwi m 0 1 0) 0 0 x) 0 0 = x ∧ zT (zwi (zwi m 0 1 0) 0 0 x) 0 7 = true := ⟨hR.th.st, zi_wi_s _ _ _ _, hR.1.1⟩
theorem w_teach (hR : R2 S m) (p t n : Int) : Ex2 (zF zP 352 v [(.inr (.inr (some 0))), .inl p, .inl t, .inl n] m) (o_teach S p t n) := by
  have h1 := hR.th (x := 0)
  have h6 := hR.p6
  unfold o_teach
  rw [f_X11_teach, if_pos hR.1.1, zT_wi, if_pos hR.1.1, m_isPersonAt h1, zC1_s, zT_wi, if_pos hR.1.1, m_whyNoRow h1, zC1_s, zT_wi, if_pos hR.1.1, zT_wi, zT_wi, if_pos hR.1.1, zi_wi_s]
  by_cases h : yRw S t n (inB p (gL S).2.2.1.length) = 0
  · have h0 := hR.pre
    rw [h, if_neg (by decide), if_pos rfl]
    generalize zwi (zwi m 0 1 0) 0 0 0 = m0 at h0 ⊢
    have h' : yRw (wSt S 0) t n (inB p (gL S).2.2.1.length) = 0 := h
    obtain ⟨u, k, rfl, ht, rfl, q4, q5, q6, q7, q8, q9⟩ := yRw0 h'
    obtain ⟨i, rfl, hi⟩ := inB_nat q5
    obtain ⟨m', f1, f2, f3, f4⟩ := w_teach_loop (v := v) (p := i) h0 ht q6 q7 q4 hi q9 k 0 m0 (Fr.rf _ _) (fun t ht => h0.tm ht) (by omega) (fun i hi => absurd hi (Nat.not_lt_zero i))
    have hps := (h0.ps (i := i) hi)
    have hok : rOk (toRow (gTr S u).2.2 k) := by have := yRow_ok h0.w16 h'; rw [q8] at this; exact this
    have hlen := toRow_len q7
    rw [j_X11_teach_29, show (0 : Int) = ((0 : Nat) : Int) from rfl, f1, Int.toNat_natCast]
    refine ⟨m', rfl, ?_⟩
    have hx : yRow S (u : Int) (k : Int) = toRow (gTr S u).2.2 k := q8
    rw [hx]
    refine h0.psw (x := (((gL S).2.2.1.getD i ps0).1, ((gL S).2.2.1.getD i ps0).2.1, toRow (gTr S u).2.2 k)) hi (f2.mono (fun b j q => by unfold tcP at q; unfold psP; omega)) ⟨?_, ?_, ?_, hok, fun j hj => ?_⟩ hps.2
    · rw [f2.l (by unfold tcP; omega)]; exact hps.1.1
    · rw [f2.i (by unfold tcP; have : i < 6 := Nat.lt_of_lt_of_le hi h6; omega)]; exact hps.1.2.1
    · rw [Nat.zero_add, f3]; exact congrArg Nat.cast hlen.symm
    · rw [Nat.zero_add]; exact f4 j (Nat.lt_of_lt_of_le hj (Nat.le_of_eq hlen))
  · have hg := yRw_ge S t n (inB p (gL S).2.2.1.length)
    rw [if_pos (show 0 < yRw S t n (inB p (gL S).2.2.1.length) by omega), if_neg h]
    exact ⟨_, rfl, (x2_st0 hR).1⟩
theorem w_vain (hR : R2 S m) (t n x : Int) : Ex2 (zF zP 358 v [(.inr (.inr (some 0))), .inl t, .inl n, .inl x] m) (o_vain S t n x) := by
  have h1 := hR.th (x := 0)
  unfold o_vain
  rw [f_X11_vain, if_pos hR.1.1, zT_wi, if_pos hR.1.1, m_isLineAt h1, zC1_s, zT_wi, if_pos hR.1.1, m_whyNoRow h1, zC1_s, zT_wi, if_pos hR.1.1, zT_wi, zT_wi, if_pos hR.1.1, zi_wi_s]
  by_cases h : yRw S t n (inB x (gL S).2.1.length) = 0
  · have h0 := hR.pre
    rw [h, if_neg (by decide), if_pos rfl]
    generalize zwi (zwi m 0 1 0) 0 0 0 = m0 at h0 ⊢
    have h' : yRw (wSt S 0) t n (inB x (gL S).2.1.length) = 0 := h
    obtain ⟨u, k, q1, q2, q3, q4, q5, q6⟩ := yRw0 h'
    obtain ⟨i, rfl, hi⟩ := inB_nat q5
    obtain ⟨m1, f1, f2, f3⟩ := m_takesRow (v := 0) h0 h'
    have h2 := h0.fr (rowP_scr f2)
    obtain ⟨m2, g1, g2, g3, g4⟩ := m_putsR (v := 0) h2 (i := i) hi f3 (yRow_ok h0.w16 h')
    rw [j_X11_vain_29, if_pos h0.1.1, f1, zC0_s, if_pos h2.1.1, g1, zC1_s, Int.toNat_natCast]
    exact ⟨m2, rfl, h2.fr (rowP_scr g2)⟩
  · have hg := yRw_ge S t n (inB x (gL S).2.1.length)
    rw [if_pos (show 0 < yRw S t n (inB x (gL S).2.1.length) by omega), if_neg h]
    exact ⟨_, rfl, (x2_st0 hR).1⟩
theorem yLs_ge {x y : Int} (hx : 0 ≤ x) (hy : 0 ≤ y) : 0 ≤ yLs x y := by
  unfold yLs zmax zmin
  repeat' split
  all_goals omega
theorem arP10_scr {m m' : zM} (h : Fr (arP 31 10) m m') : Fr scr m m' := arP_scr (by decide) (by decide) h
theorem ar27 {b : Nat} {l : List Nat} (h : Fr (arP 31 10) m m') (hb : b ≠ 0 ∧ b ≠ 10) {f : Nat} (hf : f ≠ 31) (hv : ArV m f b l) : ArV m' f b l := h.ar (by unfold arP; omega) (fun j => by unfold arP; omega) hv
theorem ar31 {l : List Nat} (h : Fr (rowP 0) m m') (hv : ArV m 31 10 l) : ArV m' 31 10 l := h.ar (by unfold rowP; omega) (fun j => by unfold rowP; omega) hv
theorem w_makes (hR : R2 S m) (t n x to k : Int) : Ex2 (zF zP 359 v [(.inr (.inr (some 0))), .inl t, .inl n, .inl x, .inl to, .inl k] m) (o_makes S t n x to k) := by
  have h1 := hR.th (x := 0)
  unfold o_makes
  rw [f_X11_makes, if_pos hR.1.1, zT_wi, if_pos hR.1.1, m_isLineAt h1, zC1_s, zT_wi, if_pos hR.1.1, m_whyNoRows h1, zC1_s, zT_wi, if_pos hR.1.1, zT_wi, zT_wi, if_pos hR.1.1, zi_wi_s]
  show Ex2 (if 0 < yLs (yRw S t n (inB x (gL S).2.1.length)) (yRw S to k (inB x (gL S).2.1.length)) then _ else _) _
  by_cases h : yLs (yRw S t n (inB x (gL S).2.1.length)) (yRw S to k (inB x (gL S).2.1.length)) = 0
  · have h0 := hR.pre
    rw [if_neg (by rw [h]; decide), if_pos h]
    show Ex2 (zX zP 359 v 33 _ [] (zwi (zwi m 0 1 0) 0 0 (yLs (yRw S t n (inB x (gL S).2.1.length)) (yRw S to k (inB x (gL S).2.1.length))))) _
    obtain ⟨ha, hb⟩ := yLs0 (yRw_ge _ _ _ _) (yRw_ge _ _ _ _) h
    rw [h]
    generalize zwi (zwi m 0 1 0) 0 0 0 = m0 at h0 ⊢
    have ha' : yRw (wSt S 0) t n (inB x (gL S).2.1.length) = 0 := ha
    have hb' : yRw (wSt S 0) to k (inB x (gL S).2.1.length) = 0 := hb
    obtain ⟨u, k', q1, q2, q3, q4, q5, q6⟩ := yRw0 ha'
    obtain ⟨i, rfl, hi⟩ := inB_nat q5
    obtain ⟨m1, f1, f2, f3⟩ := m_takesRow (v := 0) h0 hb'
    have h2 := h0.fr (rowP_scr f2)
    obtain ⟨m2, g1, g2, g3⟩ := m_others (v := 0) h2.1 f3
    have h3 := h2.fr (arP10_scr g2)
    obtain ⟨m3, i1, i2, i3⟩ := m_takesRow (v := 0) h3 ha'
    have h4 := h3.fr (rowP_scr i2)
    obtain ⟨m4, k1, k2, k3, k4⟩ := m_putsR (v := 0) h4 (i := i) hi i3 (yRow_ok h0.w16 ha')
    have h5 := h4.fr (rowP_scr k2)
    have o4 := ar31 k2 (ar31 i2 g3)
    rw [j_X11_makes_33, if_pos h0.1.1, f1, zC0_s, if_pos h2.1.1, g1, zC0_s, if_pos h3.1.1, i1, zC0_s, if_pos h4.1.1, k1, zC1_s, if_pos h5.1.1, m_isOther h5.1 k3 o4, zC1_s, Int.toNat_natCast]
    show Ex2 (if b01 (decide (lput ((gL S).2.1.getD i ln0).2.2 (yRow S t n) = yRow S to k)) = 0 then _ else _) _
    by_cases e : lput ((gL S).2.1.getD i ln0).2.2 (yRow S t n) = yRow S to k
    · rw [decide_eq_true e, if_neg (by decide), j_X11_makes_69]; exact x2_yes h5
    · rw [decide_eq_false e, if_pos (show b01 false = 0 from rfl), j_X11_makes_68, j_X11_makes_69]; exact x2_yes h5
  · have hg := yLs_ge (yRw_ge S t n (inB x (gL S).2.1.length)) (yRw_ge S to k (inB x (gL S).2.1.length))
    rw [if_pos (show 0 < yLs (yRw S t n (inB x (gL S).2.1.length)) (yRw S to k (inB x (gL S).2.1.length)) by omega), if_neg h]
    exact ⟨_, rfl, (x2_st0 hR).1⟩
/-- write at a place that there is, all told -/
theorem m_writeE (hR : R2 S m) {t i : Nat} (ht : t < 4) (he : (gTr S t).1 = true) (hi : i < (gTr S t).2.2.length) (y : Int) : zF zP 249 v [(.inr (.inr (some 0))), .inl (t : Int), .inl (i : Int), .inr (.inl y)] m = some (some (.inl 1), zwl (zwi (zwi m 0 1 0) 0 0 0) 3 (60 * t + i) (zcut (gTr S t).2.1 y)) := by
  have h1 := hR.th (x := 0)
  have hp : yPl S (t : Int) (i : Int) = 0 := by
    unfold yPl
    rw [if_pos (inR_t.mpr (by omega)), Int.toNat_natCast, if_pos he, if_pos (inB_t.mpr (by omega))]
  have h2 := hR.pre
  rw [f_X11_write, if_pos hR.1.1, zT_wi, if_pos hR.1.1, m_placed h1, zC1_s, zT_wi, if_pos hR.1.1, zT_wi, zT_wi, if_pos hR.1.1, zi_wi_s, hp, if_neg (by decide)]
  have hv : TvM (zwi (zwi m 0 1 0) 0 0 0) t (gTr S t) := h2.tm ht
  have h60 : (gTr S t).2.2.length ≤ 60 := hv.2.2.1
  have e2 : ∀ _ : Unit, zadd (zmul 60 (t : Int)) (i : Int) = ((60 * t + i : Nat) : Int) := fun _ => by
    rw [show zmul 60 (t : Int) = ((60 * t : Nat) : Int) from zmul_nat (n := 60) (by omega)]; exact zadd_nat (by omega)
  rw [j_X11_write_24, if_pos h2.1.1, h2.1.2.1.1.2.2.1, obind, if_pos h2.1.1, h2.1.2.1.1.1, obind, if_pos (h2.1.2.2.1.1.A (by omega) (by omega)), Int.toNat_natCast, hv.1, m_cut, zC2_s, e2 (), if_pos (h2.1.2.2.1.2.2.1.A (by omega) (by omega)), if_pos zb1, Int.toNat_natCast]
def rtP (t b j : Nat) : Prop := (b = 0 ∧ j ≤ 1) ∨ (b = 3 ∧ 60 * t ≤ j ∧ j < 60 * t + 60)
theorem w_right_loop {t : Nat} {x1 x2 x3 : Int} {l : List Nat} (ht : t < 4) (hl : rOk l) : ∀ (r : List Nat) (k : Nat) (S : zSt) (m : zM), R2 (wSt S 0) m → (gTr S t).1 = true → l.length ≤ (gTr S t).2.2.length → ArV m 27 8 l → l.drop k = r →
    ∃ m', zX zP 357 v 107 [some (.inr (.inr (some 0))), some (.inl x1), some (.inl x2), some (.inl x3), some (.inl (t : Int)), some (.inl (k : Int))] [] m = some (some (.inl (l.length : Int)), m') ∧ R2 (wSt (wTr S t ((gTr S t).1, (gTr S t).2.1, putF r k (gTr S t).2.2)) 0) m' := by
  have h8 := hl.1
  intro r
  induction r with
  | nil =>
    intro k S m hR he hlen hv hk
    have h1 : l.length ≤ k := List.drop_eq_nil_iff.mp hk
    refine ⟨m, ?_, ?_⟩
    · rw [j_X11_right_107, if_pos hR.1.1, hv.1, if_neg (by omega), j_X11_right_139, if_pos hR.1.1, hv.1]
    · have : wTr S t ((gTr S t).1, (gTr S t).2.1, putF [] k (gTr S t).2.2) = S := by
        show (S.1, (fun j => if j = t then gTr S t else gTr S j), S.2.2) = S
        have e : (fun j => if j = t then gTr S t else gTr S j) = gTr S := by
          funext j
          by_cases g : j = t
          · subst g; rw [if_pos rfl]
          · rw [if_neg g]
        rw [e]
      rw [this]; exact hR
  | cons w r ih =>
    intro k S m hR he hlen hv hk
    obtain ⟨h1, h2, h3⟩ := drop_cons hk
    have hw : w < 16 := by rw [← h2]; exact getD_lt hl.2 k
    have hk8 : k < 8 := by omega
    have hE := m_writeE (v := 0) hR (t := t) (i := k) ht he (show k < (gTr S t).2.2.length by omega) (w : Int)
    have ec : zcut (gTr (wSt S 0) t).2.1 (w : Int) = (w : Int) := zcut_w hw
    rw [ec] at hE
    have hF : Fr (rtP t) m (zwl (zwi (zwi m 0 1 0) 0 0 0) 3 (60 * t + k) (w : Int)) := ((Fr.wi m 0 (Or.inl ⟨rfl, by omega⟩)).tr (Fr.wi _ 0 (Or.inl ⟨rfl, by omega⟩))).tr (Fr.wl _ _ (Or.inr ⟨rfl, by omega, by have := (hR.tm ht).2.2.1; have : (gTr S t).2.2.length ≤ 60 := this; omega⟩))
    have hR1 : R2 (wSt (wTr S t ((gTr S t).1, (gTr S t).2.1, (gTr S t).2.2.set k (w : Int))) 0) (zwl (zwi (zwi m 0 1 0) 0 0 0) 3 (60 * t + k) (w : Int)) := by
      have hp := hR.pre
      have h60 : (gTr S t).2.2.length ≤ 60 := (hR.tm ht).2.2.1
      exact hp.tr (Fr.wl _ _ (Or.inr (Or.inr ⟨rfl, by omega, by omega⟩))) ((hp.tm ht).put he (show k < (gTr S t).2.2.length by omega))
    obtain ⟨m', f1, f2⟩ := ih (k + 1) (wTr S t ((gTr S t).1, (gTr S t).2.1, (gTr S t).2.2.set k (w : Int))) _ hR1 (by show (if t = t then _ else _ : zTr).1 = true; rw [if_pos rfl]; exact he)
      (by show _ ≤ (if t = t then _ else _ : zTr).2.2.length; rw [if_pos rfl]; show _ ≤ ((gTr S t).2.2.set k (w : Int)).length; rw [List.length_set]; exact hlen)
      (hF.ar (by unfold rtP; omega) (fun j => by unfold rtP; omega) hv) h3
    refine ⟨m', ?_, ?_⟩
    · rw [j_X11_right_107, if_pos hR.1.1, hv.1, if_pos (by omega), if_pos hR.1.1, hR.1.2.1.2.1.2.2.2, obind, if_pos (hR.1.2.2.2.1.2.2.2.A (by omega) (by omega)), if_pos hR.1.1, Int.toNat_natCast, hv.2.2 k h1, h2, hE, zC1_s, zadd1 (by omega)]
      exact f1
    · have e1 : (gTr (wTr S t ((gTr S t).1, (gTr S t).2.1, (gTr S t).2.2.set k (w : Int))) t) = ((gTr S t).1, (gTr S t).2.1, (gTr S t).2.2.set k (w : Int)) := if_pos rfl
      rw [e1] at f2
      have e2 : ∀ y, wTr (wTr S t ((gTr S t).1, (gTr S t).2.1, (gTr S t).2.2.set k (w : Int))) t y = wTr S t y := fun y => by
        show (S.1, (fun j => if j = t then y else if j = t then _ else gTr S j), S.2.2) = (S.1, (fun j => if j = t then y else gTr S j), S.2.2)
        have : (fun j => if j = t then y else if j = t then ((gTr S t).1, (gTr S t).2.1, (gTr S t).2.2.set k (w : Int)) else gTr S j) = (fun j => if j = t then y else gTr S j) := by
          funext j
          by_cases g : j = t
          · rw [if_pos g, if_pos g]
          · rw [if_neg g, if_neg g, if_neg g]
        rw [this]
      rw [e2] at f2
      exact f2
theorem w_right (hR : R2 S m) (t n x to : Int) : Ex2 (zF zP 357 v [(.inr (.inr (some 0))), .inl t, .inl n, .inl x, .inl to] m) (o_right S t n x to) := by
  have h1 := hR.th (x := 0)
  have hT := hR.1.1
  have f60 : ∀ y : Int, zX zP 357 v 60 [some (.inr (.inr (some 0))), some (.inl t), some (.inl n), some (.inl x), some (.inl to), none] [.inl y, .inr (.inr (some 0))] (zwi m 0 1 0) = if 0 < y then some (some (.inl (-1)), zwi (zwi m 0 1 0) 0 0 y) else zX zP 357 v 72 [some (.inr (.inr (some 0))), some (.inl t), some (.inl n), some (.inl x), some (.inl to), none] [] (zwi (zwi m 0 1 0) 0 0 y) := fun y => by
    rw [j_X11_right_60, zT_wi, if_pos hT, zT_wi, zT_wi, if_pos hT, zi_wi_s]
  have f49 : zX zP 357 v 49 [some (.inr (.inr (some 0))), some (.inl t), some (.inl n), some (.inl x), some (.inl to), none] [.inr (.inr (some 0))] (zwi m 0 1 0) = zX zP 357 v 60 [some (.inr (.inr (some 0))), some (.inl t), some (.inl n), some (.inl x), some (.inl to), none] [.inl (yRw S t n (inB x (gL S).2.1.length)), .inr (.inr (some 0))] (zwi m 0 1 0) := by
    rw [j_X11_right_49, zT_wi, if_pos hT, m_isLineAt h1, zC1_s, zT_wi, if_pos hT, m_whyNoRow h1, zC1_s]
  have key : zF zP 357 v [(.inr (.inr (some 0))), .inl t, .inl n, .inl x, .inl to] m = zX zP 357 v 60 [some (.inr (.inr (some 0))), some (.inl t), some (.inl n), some (.inl x), some (.inl to), none] [.inl (yLs (yRw S t n (inB x (gL S).2.1.length)) (ySt S to)), .inr (.inr (some 0))] (zwi m 0 1 0) := by
    rw [f_X11_right, if_pos hT, zT_wi, if_pos hT, m_isTray, zC1_s]
    unfold ySt
    by_cases hto : inR to 0 3 = true
    · obtain ⟨k, rfl, hk⟩ := inR3 hto
      rw [if_neg (by rw [hto]; decide), j_X11_right_19, zT_wi, if_pos hT, m_isTray, zC1_s, if_pos hto, Int.toNat_natCast]
      by_cases ht : inR t 0 3 = true
      · rw [if_neg (by rw [ht]; decide), zT_wi, if_pos hT, m_isLineAt h1, zC1_s]
        by_cases hx : inB x (gL S).2.1.length = true
        · rw [if_neg (by rw [hx]; decide), zT_wi, if_pos hT, h1.1.2.1.1.2.1, obind, if_pos (h1.1.2.2.1.2.1.A (by omega) (by omega)), m_trayMany h1 hk]
          by_cases e : (gTr S k).1 = true
          · rw [if_pos e, if_neg (by omega), f49, if_pos e]
            congr 4
            unfold yLs
            have := yRw_ge S t n (inB x (gL S).2.1.length)
            by_cases g : yRw S t n (inB x (gL S).2.1.length) = 0
            · rw [if_pos g, g]; rfl
            · rw [if_neg g, if_pos rfl]; unfold zmax; rw [if_neg (by omega)]
          · rw [if_neg e, if_pos (by decide), if_neg e]
            congr 4
            unfold yLs yRw
            rw [if_pos ht, if_pos hx]
            repeat' split
            all_goals first | rfl | omega
        · rw [if_pos (b01_ne.mpr (bool_f hx)), f49]
          congr 4
          unfold yLs yRw
          rw [if_pos ht, if_neg hx]
          repeat' split
          all_goals first | rfl | omega
      · rw [if_pos (b01_ne.mpr (bool_f ht)), f49]
        congr 4
        unfold yLs yRw
        rw [if_neg ht]
        repeat' split
        all_goals first | rfl | omega
    · rw [if_pos (b01_ne.mpr (bool_f hto)), if_neg hto]
      congr 4
      unfold yLs yRw
      repeat' split
      all_goals first | rfl | omega
  unfold o_right
  rw [key, f60]
  by_cases h : yLs (yRw S t n (inB x (gL S).2.1.length)) (ySt S to) = 0
  · have h0 := hR.pre
    rw [if_neg (by rw [h]; decide), if_pos h, h]
    obtain ⟨ha, hb⟩ := yLs0 (yRw_ge _ _ _ _) (ySt_ge _ _) h
    generalize zwi (zwi m 0 1 0) 0 0 0 = m0 at h0 ⊢
    have ha' : yRw (wSt S 0) t n (inB x (gL S).2.1.length) = 0 := ha
    obtain ⟨u, k', q1, q2, q3, q4, q5, q6⟩ := yRw0 ha'
    obtain ⟨i, rfl, hi⟩ := inB_nat q5
    obtain ⟨k, rfl, hk, he⟩ := ySt0 hb
    obtain ⟨m1, f1, f2, f3⟩ := m_takesRow (v := 0) h0 ha'
    have h2 := h0.fr (rowP_scr f2)
    obtain ⟨m2, g1, g2, g3, g4⟩ := m_putsR (v := 0) h2 (i := i) hi f3 (yRow_ok h0.w16 ha')
    have h3 := h2.fr (rowP_scr g2)
    rw [j_X11_right_72, if_pos h0.1.1, f1, zC0_s, if_pos h2.1.1, g1, zC1_s, if_pos h3.1.1, h3.1.2.1.1.2.1, obind, if_pos (h3.1.2.2.1.2.1.A (by omega) (by omega)), if_pos h3.1.1, Int.toNat_natCast, m_trayMany h3 hk, g3.1, Int.toNat_natCast]
    unfold oPut
    rw [if_pos hb, Int.toNat_natCast]
    show Ex2 (if (if (gTr S k).1 = true then ((gTr S k).2.2.length : Int) else -1) < ((lput ((gL S).2.1.getD i ln0).2.2 (yRow S t n)).length : Int) then _ else _) _
    rw [if_pos he]
    by_cases g : ((gTr S k).2.2.length : Int) < ((lput ((gL S).2.1.getD i ln0).2.2 (yRow S t n)).length : Int)
    · rw [if_pos g, if_pos g, if_pos h3.1.1]; exact x2_noC h3
    · rw [if_neg g, if_neg g, j_X11_right_104]
      obtain ⟨m', f1, f2⟩ := w_right_loop (v := v) (t := k) (x1 := t) (x2 := n) (x3 := (i : Int)) hk g4 (lput ((gL S).2.1.getD i ln0).2.2 (yRow S t n)) 0 S m2 h3 he (Int.ofNat_le.mp (Int.not_lt.mp g)) g3 rfl
      rw [show (0 : Int) = ((0 : Nat) : Int) from rfl]
      exact ⟨m', f1, f2⟩
  · have hg := yLs_ge (yRw_ge S t n (inB x (gL S).2.1.length)) (ySt_ge S to)
    rw [if_pos (show 0 < yLs (yRw S t n (inB x (gL S).2.1.length)) (ySt S to) by omega), if_neg h]
    exact ⟨_, rfl, (x2_st0 hR).1⟩
end OPS4
