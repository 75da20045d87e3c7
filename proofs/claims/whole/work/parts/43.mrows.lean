/-! The reference: rows taken, kept, compared. -/
def ArV (m : zM) (f b : Nat) (l : List Nat) : Prop := zi m 0 f = (l.length : Int) ∧ l.length ≤ 8 ∧ ∀ i, i < l.length → zi m b i = ((l.getD i 0 : Nat) : Int)
def arP (f b c j : Nat) : Prop := (c = 0 ∧ j = f) ∨ c = b
section MROWS
variable {v : Nat} {S : zSt} {m m' : zM}
theorem RoV.ar {l : List Nat} (h : RoV m 0 l) : ArV m 27 8 l := h
theorem ArV.ro {l : List Nat} (h : ArV m 27 8 l) : RoV m 0 l := h
theorem Fr.ar {P : Nat → Nat → Prop} {f b : Nat} {l : List Nat} (h : Fr P m m') (h0 : ¬ P 0 f) (h1 : ∀ j, ¬ P b j) (hv : ArV m f b l) : ArV m' f b l := by
  unfold ArV at hv ⊢
  rw [h.i h0]
  exact ⟨hv.1, hv.2.1, fun i hi => by rw [h.i (h1 _)]; exact hv.2.2 i hi⟩
theorem arP_scr {f b : Nat} (hf : f ≠ 0 ∧ f ≠ 2 ∧ f ≠ 3 ∧ f ≠ 8 ∧ f ≠ 10 ∧ f ≠ 11 ∧ f ≠ 23 ∧ f ≠ 41) (hb : 8 ≤ b ∧ b ≤ 15) (h : Fr (arP f b) m m') : Fr scr m m' := h.mono (fun c j q => by unfold arP at q; unfold scr; omega)
theorem rowP_scr (h : Fr (rowP 0) m m') : Fr scr m m' := h.mono (fun c j q => by unfold rowP at q; unfold scr; omega)

theorem m_keeps_loop {l : List Nat} (h8 : l.length ≤ 8) : ∀ (n k : Nat) (m : zM), S2 m → k + n = l.length → zi m 0 27 = (l.length : Int) → zi m 0 30 = (l.length : Int) → (∀ i, i < l.length → zi m 8 i = ((l.getD i 0 : Nat) : Int)) → (∀ i, i < k → zi m 9 i = ((l.getD i 0 : Nat) : Int)) →
    ∃ m', zX zP 334 v 10 [some (.inr (.inr (some 0))), some (.inl (k : Int))] [] m = some (none, m') ∧ Fr (arP 30 9) m m' ∧ ArV m' 30 9 l := by
  intro n
  induction n with
  | zero =>
    intro k m hS hk hs hd hA hB
    refine ⟨m, ?_, Fr.rf _ _, hd, h8, fun i hi => hB i (by omega)⟩
    rw [j_X11_keeps_10, if_pos hS.1, hs, if_neg (by omega), j_X11_keeps_36]
  | succ n ih =>
    intro k m hS hk hs hd hA hB
    have hw : Fr (arP 30 9) m (zwi m 9 k ((l.getD k 0 : Nat) : Int)) := Fr.wi m _ (Or.inr rfl)
    obtain ⟨m', e1, e2, e3⟩ := ih (k + 1) (zwi m 9 k ((l.getD k 0 : Nat) : Int)) (hw.s2 hS) (by omega) (by rw [zi_wi_n _ _ (Or.inl (by decide))]; exact hs) (by rw [zi_wi_n _ _ (Or.inl (by decide))]; exact hd)
      (fun i hi => by rw [zi_wi_n _ _ (Or.inl (by decide))]; exact hA i hi)
      (fun i hi => by
        by_cases e : i = k
        · subst e; rw [zi_wi_s]
        · rw [zi_wi_n _ _ (Or.inr e)]; exact hB i (by omega))
    refine ⟨m', ?_, hw.tr e2, e3⟩
    rw [j_X11_keeps_10, if_pos hS.1, hs, if_pos (by omega), if_pos hS.1, hS.2.1.2.2.1.1, obind, if_pos hS.1, hS.2.1.2.1.2.2.2, obind, if_pos (hS.2.2.2.1.2.2.2.A (by omega) (by omega)), if_pos (hS.2.2.2.2.1.1.A (by omega) (by omega)), Int.toNat_natCast, hA k (by omega), zadd1 (by omega)]
    exact e1
theorem m_keeps {l : List Nat} (hS : S2 m) (hv : ArV m 27 8 l) : ∃ m', zF zP 334 v [(.inr (.inr (some 0)))] m = some (none, m') ∧ Fr (arP 30 9) m m' ∧ ArV m' 30 9 l := by
  have hw : Fr (arP 30 9) m (zwi m 0 30 (l.length : Int)) := Fr.wi m _ (Or.inl ⟨rfl, rfl⟩)
  obtain ⟨m', e1, e2, e3⟩ := m_keeps_loop (v := v) hv.2.1 l.length 0 (zwi m 0 30 (l.length : Int)) (hw.s2 hS) (by omega) (by rw [zi_wi_n _ _ (Or.inr (by decide))]; exact hv.1) (zi_wi_s _ _ _ _) (fun i hi => by rw [zi_wi_n _ _ (Or.inl (by decide))]; exact hv.2.2 i hi) (fun i hi => absurd hi (Nat.not_lt_zero i))
  refine ⟨m', ?_, hw.tr e2, e3⟩
  rw [f_X11_keeps, if_pos hS.1, if_pos hS.1, hv.1]
  exact e1

theorem m_others_loop {l : List Nat} (h8 : l.length ≤ 8) : ∀ (n k : Nat) (m : zM), S2 m → k + n = l.length → zi m 0 27 = (l.length : Int) → zi m 0 31 = (l.length : Int) → (∀ i, i < l.length → zi m 8 i = ((l.getD i 0 : Nat) : Int)) → (∀ i, i < k → zi m 10 i = ((l.getD i 0 : Nat) : Int)) →
    ∃ m', zX zP 336 v 10 [some (.inr (.inr (some 0))), some (.inl (k : Int))] [] m = some (none, m') ∧ Fr (arP 31 10) m m' ∧ ArV m' 31 10 l := by
  intro n
  induction n with
  | zero =>
    intro k m hS hk hs hd hA hB
    refine ⟨m, ?_, Fr.rf _ _, hd, h8, fun i hi => hB i (by omega)⟩
    rw [j_X11_others_10, if_pos hS.1, hs, if_neg (by omega), j_X11_others_36]
  | succ n ih =>
    intro k m hS hk hs hd hA hB
    have hw : Fr (arP 31 10) m (zwi m 10 k ((l.getD k 0 : Nat) : Int)) := Fr.wi m _ (Or.inr rfl)
    obtain ⟨m', e1, e2, e3⟩ := ih (k + 1) (zwi m 10 k ((l.getD k 0 : Nat) : Int)) (hw.s2 hS) (by omega) (by rw [zi_wi_n _ _ (Or.inl (by decide))]; exact hs) (by rw [zi_wi_n _ _ (Or.inl (by decide))]; exact hd)
      (fun i hi => by rw [zi_wi_n _ _ (Or.inl (by decide))]; exact hA i hi)
      (fun i hi => by
        by_cases e : i = k
        · subst e; rw [zi_wi_s]
        · rw [zi_wi_n _ _ (Or.inr e)]; exact hB i (by omega))
    refine ⟨m', ?_, hw.tr e2, e3⟩
    rw [j_X11_others_10, if_pos hS.1, hs, if_pos (by omega), if_pos hS.1, hS.2.1.2.2.1.2.1, obind, if_pos hS.1, hS.2.1.2.1.2.2.2, obind, if_pos (hS.2.2.2.1.2.2.2.A (by omega) (by omega)), if_pos (hS.2.2.2.2.1.2.1.A (by omega) (by omega)), Int.toNat_natCast, hA k (by omega), zadd1 (by omega)]
    exact e1
theorem m_others {l : List Nat} (hS : S2 m) (hv : ArV m 27 8 l) : ∃ m', zF zP 336 v [(.inr (.inr (some 0)))] m = some (none, m') ∧ Fr (arP 31 10) m m' ∧ ArV m' 31 10 l := by
  have hw : Fr (arP 31 10) m (zwi m 0 31 (l.length : Int)) := Fr.wi m _ (Or.inl ⟨rfl, rfl⟩)
  obtain ⟨m', e1, e2, e3⟩ := m_others_loop (v := v) hv.2.1 l.length 0 (zwi m 0 31 (l.length : Int)) (hw.s2 hS) (by omega) (by rw [zi_wi_n _ _ (Or.inr (by decide))]; exact hv.1) (zi_wi_s _ _ _ _) (fun i hi => by rw [zi_wi_n _ _ (Or.inl (by decide))]; exact hv.2.2 i hi) (fun i hi => absurd hi (Nat.not_lt_zero i))
  refine ⟨m', ?_, hw.tr e2, e3⟩
  rw [f_X11_others, if_pos hS.1, if_pos hS.1, hv.1]
  exact e1

theorem m_gives_loop {l : List Nat} (h8 : l.length ≤ 8) : ∀ (n k : Nat) (m : zM), S2 m → k + n = l.length → zi m 0 30 = (l.length : Int) → zi m 0 27 = (l.length : Int) → (∀ i, i < l.length → zi m 9 i = ((l.getD i 0 : Nat) : Int)) → (∀ i, i < k → zi m 8 i = ((l.getD i 0 : Nat) : Int)) →
    ∃ m', zX zP 335 v 10 [some (.inr (.inr (some 0))), some (.inl (k : Int))] [] m = some (none, m') ∧ Fr (arP 27 8) m m' ∧ ArV m' 27 8 l := by
  intro n
  induction n with
  | zero =>
    intro k m hS hk hs hd hA hB
    refine ⟨m, ?_, Fr.rf _ _, hd, h8, fun i hi => hB i (by omega)⟩
    rw [j_X11_gives_10, if_pos hS.1, hs, if_neg (by omega), j_X11_gives_36]
  | succ n ih =>
    intro k m hS hk hs hd hA hB
    have hw : Fr (arP 27 8) m (zwi m 8 k ((l.getD k 0 : Nat) : Int)) := Fr.wi m _ (Or.inr rfl)
    obtain ⟨m', e1, e2, e3⟩ := ih (k + 1) (zwi m 8 k ((l.getD k 0 : Nat) : Int)) (hw.s2 hS) (by omega) (by rw [zi_wi_n _ _ (Or.inl (by decide))]; exact hs) (by rw [zi_wi_n _ _ (Or.inl (by decide))]; exact hd)
      (fun i hi => by rw [zi_wi_n _ _ (Or.inl (by decide))]; exact hA i hi)
      (fun i hi => by
        by_cases e : i = k
        · subst e; rw [zi_wi_s]
        · rw [zi_wi_n _ _ (Or.inr e)]; exact hB i (by omega))
    refine ⟨m', ?_, hw.tr e2, e3⟩
    rw [j_X11_gives_10, if_pos hS.1, hs, if_pos (by omega), if_pos hS.1, hS.2.1.2.1.2.2.2, obind, if_pos hS.1, hS.2.1.2.2.1.1, obind, if_pos (hS.2.2.2.2.1.1.A (by omega) (by omega)), if_pos (hS.2.2.2.1.2.2.2.A (by omega) (by omega)), Int.toNat_natCast, hA k (by omega), zadd1 (by omega)]
    exact e1
theorem m_gives {l : List Nat} (hS : S2 m) (hv : ArV m 30 9 l) : ∃ m', zF zP 335 v [(.inr (.inr (some 0)))] m = some (none, m') ∧ Fr (arP 27 8) m m' ∧ ArV m' 27 8 l := by
  have hw : Fr (arP 27 8) m (zwi m 0 27 (l.length : Int)) := Fr.wi m _ (Or.inl ⟨rfl, rfl⟩)
  obtain ⟨m', e1, e2, e3⟩ := m_gives_loop (v := v) hv.2.1 l.length 0 (zwi m 0 27 (l.length : Int)) (hw.s2 hS) (by omega) (by rw [zi_wi_n _ _ (Or.inr (by decide))]; exact hv.1) (zi_wi_s _ _ _ _) (fun i hi => by rw [zi_wi_n _ _ (Or.inl (by decide))]; exact hv.2.2 i hi) (fun i hi => absurd hi (Nat.not_lt_zero i))
  refine ⟨m', ?_, hw.tr e2, e3⟩
  rw [f_X11_gives, if_pos hS.1, if_pos hS.1, hv.1]
  exact e1

theorem drop_eq_of {l l' : List Nat} (hl : l.length = l'.length) {k : Nat} (hk : k < l.length) : l.drop k = l'.drop k ↔ (l.getD k 0 = l'.getD k 0 ∧ l.drop (k + 1) = l'.drop (k + 1)) := by
  rw [List.drop_eq_getElem_cons hk, List.drop_eq_getElem_cons (by omega : k < l'.length), List.cons.injEq, List.getD_eq_getElem?_getD, List.getD_eq_getElem?_getD, List.getElem?_eq_getElem hk, List.getElem?_eq_getElem (by omega : k < l'.length)]
  rfl
theorem m_isOther_loop {l l' : List Nat} (hS : S2 m) (hv : ArV m 27 8 l) (hv' : ArV m 31 10 l') (hl : l.length = l'.length) : ∀ (n k : Nat), k + n = l.length →
    zX zP 337 v 15 [some (.inr (.inr (some 0))), some (.inl (k : Int))] [] m = some (some (.inl (b01 (decide (l.drop k = l'.drop k)))), m) := by
  have h8 := hv.2.1
  intro n
  induction n with
  | zero =>
    intro k hk
    have e : l.drop k = l'.drop k := by rw [List.drop_eq_nil_of_le (by omega), List.drop_eq_nil_of_le (by omega)]
    rw [j_X11_isOther_15, if_pos hS.1, hv.1, if_neg (by omega), j_X11_isOther_46, if_pos zb1, decide_eq_true e]; rfl
  | succ n ih =>
    intro k hk
    rw [j_X11_isOther_15, if_pos hS.1, hv.1, if_pos (by omega), if_pos hS.1, hS.2.1.2.1.2.2.2, obind, if_pos (hS.2.2.2.1.2.2.2.A (by omega) (by omega)), if_pos hS.1, hS.2.1.2.2.1.2.1, obind, if_pos (hS.2.2.2.2.1.2.1.A (by omega) (by omega)), Int.toNat_natCast, hv.2.2 k (by omega), hv'.2.2 k (by omega)]
    by_cases g : l.getD k 0 = l'.getD k 0
    · rw [if_pos (by omega), j_X11_isOther_40, zadd1 (by omega), ih (k + 1) (by omega)]
      congr 4
      exact congrArg b01 (decide_eq_decide.mpr ⟨fun q => (drop_eq_of hl (by omega)).mpr ⟨g, q⟩, fun q => ((drop_eq_of hl (by omega)).mp q).2⟩)
    · rw [if_neg (by omega), if_pos zb0, decide_eq_false (fun q => g ((drop_eq_of hl (by omega)).mp q).1)]; rfl
theorem m_isOther {l l' : List Nat} (hS : S2 m) (hv : ArV m 27 8 l) (hv' : ArV m 31 10 l') : zF zP 337 v [(.inr (.inr (some 0)))] m = some (some (.inl (b01 (decide (l = l')))), m) := by
  rw [f_X11_isOther, if_pos hS.1, if_pos hS.1, hv.1, hv'.1]
  by_cases h : l.length = l'.length
  · rw [if_pos (by omega), j_X11_isOther_13]
    have := m_isOther_loop (v := v) hS hv hv' h l.length 0 (by omega)
    rw [List.drop_zero, List.drop_zero] at this
    exact this
  · rw [if_neg (by omega), if_pos zb0, decide_eq_false (fun q => h (by rw [q]))]; rfl
theorem rowC {p k : Nat} (hp : p < 6) (hk : k < 8) : zadd (zadd 169 (zmul 8 (p : Int))) (k : Int) = ((169 + 8 * p + k : Nat) : Int) := by
  rw [show zmul 8 (p : Int) = ((8 * p : Nat) : Int) from zmul_nat (n := 8) (by omega), show zadd 169 ((8 * p : Nat) : Int) = ((169 + 8 * p : Nat) : Int) from zadd_nat (n := 169) (by omega)]
  exact zadd_nat (by omega)
theorem rowA (hS : S2 m) {p k : Nat} (hp : p < 6) (hk : k < 8) : zA m 5 9 ((169 + 8 * p + k : Nat) : Int) = true := A5 hS (by omega) (by omega)
/-- what a PERSON says is taken -/
theorem m_takesSaid_loop (hR0 : R2 S m) {p : Nat} (hp : p < (gL S).2.2.1.length) : ∀ (n k : Nat) (m1 : zM), Fr (rowP 0) m m1 → k + n = ((gL S).2.2.1.getD p ps0).2.2.length → zi m1 0 27 = (((gL S).2.2.1.getD p ps0).2.2.length : Int) → (∀ i, i < k → zi m1 8 i = ((((gL S).2.2.1.getD p ps0).2.2.getD i 0 : Nat) : Int)) →
    ∃ m', zX zP 339 v 16 [some (.inr (.inr (some 0))), some (.inl (p : Int)), some (.inl (k : Int))] [] m1 = some (none, m') ∧ Fr (rowP 0) m m' ∧ ArV m' 27 8 ((gL S).2.2.1.getD p ps0).2.2 := by
  obtain ⟨⟨q1, q2, q3, q4, q5⟩, q6⟩ := hR0.ps hp
  have h6 := hR0.p6
  have h8 := q4.1
  intro n
  induction n with
  | zero =>
    intro k m1 hF hk hs hB
    have hS := hF.s2 hR0.1
    refine ⟨m1, ?_, hF, hs, h8, fun i hi => hB i (by omega)⟩
    rw [j_X11_takesSaid_16, if_pos hS.1, hs, if_neg (by omega), j_X11_takesSaid_51]
  | succ n ih =>
    intro k m1 hF hk hs hB
    have hS := hF.s2 hR0.1
    have hp6 : p < 6 := by omega
    have hk8 : k < 8 := by omega
    have hA8 : zA m1 8 9 (k : Int) = true := hS.2.2.2.1.2.2.2.A (by omega) (by omega)
    have hw : Fr (rowP 0) m1 (zwi m1 8 k ((((gL S).2.2.1.getD p ps0).2.2.getD k 0 : Nat) : Int)) := Fr.wi m1 _ (Or.inr rfl)
    obtain ⟨m', f1, f2, f3⟩ := ih (k + 1) _ (hF.tr hw) (by omega) (by rw [zi_wi_n _ _ (Or.inl (by decide))]; exact hs)
      (fun i hi => by
        by_cases e : i = k
        · subst e; rw [zi_wi_s]
        · rw [zi_wi_n _ _ (Or.inr e)]; exact hB i (by omega))
    have hc : zi m1 5 (169 + 8 * p + k) = ((((gL S).2.2.1.getD p ps0).2.2.getD k 0 : Nat) : Int) := by
      have := q5 k (by omega)
      rw [Nat.zero_add] at this
      rw [hF.i (by unfold rowP; omega)]; exact this
    refine ⟨m', ?_, f2, f3⟩
    rw [j_X11_takesSaid_16, if_pos hS.1, hs, if_pos (by omega), if_pos hS.1, hS.2.1.2.1.2.2.2, obind, if_pos hS.1, hS.2.1.2.1.1, obind, rowC hp6 hk8, if_pos (rowA hS hp6 hk8), if_pos hA8, Int.toNat_natCast, Int.toNat_natCast, hc, zadd1 (by omega)]
    exact f1
theorem m_takesSaid (hR : R2 S m) {p : Nat} (hp : p < (gL S).2.2.1.length) : ∃ m', zF zP 339 v [(.inr (.inr (some 0))), .inl (p : Int)] m = some (none, m') ∧ Fr (rowP 0) m m' ∧ ArV m' 27 8 ((gL S).2.2.1.getD p ps0).2.2 := by
  obtain ⟨⟨q1, q2, q3, q4, q5⟩, q6⟩ := hR.ps hp
  have h6 := hR.p6
  rw [Nat.zero_add] at q3
  have e1 : zadd 163 (p : Int) = ((163 + p : Nat) : Int) := zadd_nat (n := 163) (by omega)
  have hw : Fr (rowP 0) m (zwi m 0 27 (((gL S).2.2.1.getD p ps0).2.2.length : Int)) := Fr.wi m _ (Or.inl ⟨rfl, rfl⟩)
  obtain ⟨m', f1, f2, f3⟩ := m_takesSaid_loop (v := v) hR hp ((gL S).2.2.1.getD p ps0).2.2.length 0 _ hw (by omega) (zi_wi_s _ _ _ _) (fun i hi => absurd hi (Nat.not_lt_zero i))
  refine ⟨m', ?_, f2, f3⟩
  rw [f_X11_takesSaid, if_pos hR.1.1, hR.1.2.1.2.1.1, obind, e1, if_pos (A5 hR.1 (by omega) (by omega)), if_pos hR.1.1, Int.toNat_natCast, q3]
  exact f1
/-- numbers of a TRAY -/
theorem R2.tm (hR : R2 S m) {t : Nat} (ht : t < 4) : TvM m t (gTr S t) := hR.2.2.1 t ht
theorem m_numberOf (hR : R2 S m) {t k : Nat} (ht : t < 4) (he : (gTr S t).1 = true) (hk : k < (gTr S t).2.2.length) : zF zP 252 v [(.inr (.inr (some 0))), .inl (t : Int), .inl (k : Int)] m = some (some (.inr (.inl ((gTr S t).2.2.getD k 0))), m) := by
  obtain ⟨q1, q2, q3, q4, q5⟩ := hR.tm ht
  have e1 : zmul 60 (t : Int) = ((60 * t : Nat) : Int) := zmul_nat (n := 60) (by omega)
  have e2 : zadd ((60 * t : Nat) : Int) (k : Int) = ((60 * t + k : Nat) : Int) := zadd_nat (by omega)
  rw [f_X11_numberOf, if_pos hR.1.1, hR.1.2.1.1.2.2.1, obind, e1, e2, if_pos (hR.1.2.2.1.2.2.1.A (by omega) (by omega)), Int.toNat_natCast, q5 he k hk]
theorem m_trayMany (hR : R2 S m) {t : Nat} (ht : t < 4) : zi m 2 t = (if (gTr S t).1 = true then ((gTr S t).2.2.length : Int) else -1) := (hR.tm ht).2.1
theorem m_trayed (hR : R2 S m) (x : Int) : zF zP 247 v [(.inr (.inr (some 0))), .inl x] m = some (some (.inl (ySt S x)), m) := by
  rw [f_X11_trayed]
  unfold ySt
  by_cases hx : inR x 0 3 = true
  · obtain ⟨t, rfl, ht⟩ := inR3 hx
    rw [if_neg (by omega), if_pos (by omega), j_X11_trayed_13, if_pos hR.1.1, hR.1.2.1.1.2.1, obind, if_pos (hR.1.2.2.1.2.1.A (by omega) (by omega)), Int.toNat_natCast, m_trayMany hR ht, if_pos hx]
    by_cases e : (gTr S t).1 = true
    · rw [if_pos e, if_neg (by omega), j_X11_trayed_26, j_X11_trayed_27, if_pos e]
    · rw [if_neg e, if_pos (by omega), j_X11_trayed_27, if_neg e]
  · rw [if_neg hx]
    rw [inR_t] at hx
    by_cases h0 : x < 0
    · rw [if_pos h0, j_X11_trayed_9, j_X11_trayed_27]
    · rw [if_neg h0, if_neg (by omega), j_X11_trayed_9, j_X11_trayed_27]
theorem m_placed (hR : R2 S m) (x p : Int) : zF zP 248 v [(.inr (.inr (some 0))), .inl x, .inl p] m = some (some (.inl (yPl S x p)), m) := by
  rw [f_X11_placed, if_pos hR.1.1, m_trayed hR, zC1_s]
  unfold yPl ySt
  by_cases hx : inR x 0 3 = true
  · obtain ⟨t, rfl, ht⟩ := inR3 hx
    rw [if_pos hx, if_pos hx, Int.toNat_natCast]
    by_cases e : (gTr S t).1 = true
    · rw [if_pos e, if_pos e, if_neg (by omega), j_X11_placed_14]
      by_cases e2 : inB p (gTr S t).2.2.length = true
      · obtain ⟨k, rfl, hk⟩ := inB_nat e2
        rw [if_neg (by omega), if_pos hR.1.1, hR.1.2.1.1.2.1, obind, if_pos (hR.1.2.2.1.2.1.A (by omega) (by omega)), Int.toNat_natCast, m_trayMany hR ht, if_pos e, if_pos (by omega), j_X11_placed_32, j_X11_placed_33, if_pos e2]
      · rw [if_neg e2]
        rw [inB_t] at e2
        by_cases h0 : p < 0
        · rw [if_pos h0, j_X11_placed_28, j_X11_placed_33]
        · rw [if_neg h0, if_pos hR.1.1, hR.1.2.1.1.2.1, obind, if_pos (hR.1.2.2.1.2.1.A (by omega) (by omega)), Int.toNat_natCast, m_trayMany hR ht, if_pos e, if_neg (by omega), j_X11_placed_28, j_X11_placed_33]
    · rw [if_neg e, if_neg e, if_pos (by omega), j_X11_placed_33]
  · rw [if_neg hx, if_neg hx, if_pos (by omega), j_X11_placed_33]
theorem m_cut (s y : Int) : zF zP 245 v [.inl s, .inr (.inl y)] m = some (some (.inr (.inl (zcut s y))), m) := by
  rw [f_X11_cut]
  unfold zcut
  by_cases h : s = 0
  · rw [if_pos h, if_pos h, j_X11_cut_35]
  · rw [if_neg h, if_neg h, j_X11_cut_11]
    by_cases h1 : s = 1
    · rw [if_pos h1, if_pos h1, j_X11_cut_35]
    · rw [if_neg h1, if_neg h1, j_X11_cut_23]
      by_cases h2 : s = 2
      · rw [if_pos h2, if_pos h2, j_X11_cut_35]
      · rw [if_neg h2, if_neg h2, j_X11_cut_34, j_X11_cut_35]
theorem m_whyNoWords_loop (hR : R2 S m) {t N : Nat} (ht : t < 4) (he : (gTr S t).1 = true) (hN : N ≤ (gTr S t).2.2.length) : ∀ (n k : Nat), k + n = N →
    zX zP 340 v 16 [some (.inr (.inr (some 0))), some (.inl (t : Int)), some (.inl (N : Int)), some (.inl (k : Int))] [] m = some (some (.inl (if allW (gTr S t).2.2 ((gL S).1.length : Int) n k = true then 0 else 5)), m) := by
  have h60 := (hR.tm ht).2.2.1
  intro n
  induction n with
  | zero =>
    intro k hk
    rw [j_X11_whyNoWords_16, if_neg (by omega), j_X11_whyNoWords_42]; rfl
  | succ n ih =>
    intro k hk
    rw [j_X11_whyNoWords_16, if_pos (by omega), if_pos hR.1.1, m_numberOf hR ht he (by omega), zC2_s, if_pos hR.1.1, m_isWordAt hR, zC1_s, allW]
    by_cases g : inB ((gTr S t).2.2.getD k 0) (gL S).1.length = true
    · rw [if_neg (by rw [g]; decide), j_X11_whyNoWords_36, zadd1 (by omega), ih (k + 1) (by omega)]
      rw [inB_t] at g
      rw [decide_eq_true g.1, decide_eq_true g.2, Bool.true_and, Bool.true_and]
    · rw [if_pos (b01_ne.mpr (bool_f g))]
      rw [inB_t] at g
      rw [if_neg (fun q => g (by simp only [Bool.and_eq_true, decide_eq_true_eq] at q; exact ⟨q.1, q.2.1⟩))]
def yNw (S : zSt) (t : Nat) (n : Int) : Int := if inR n 0 8 = true then (if allW (gTr S t).2.2 ((gL S).1.length : Int) n.toNat 0 = true then 0 else 5) else 5
theorem m_whyNoWords (hR : R2 S m) {t : Nat} {n : Int} (ht : t < 4) (he : (gTr S t).1 = true) (hn : n ≤ ((gTr S t).2.2.length : Int)) : zF zP 340 v [(.inr (.inr (some 0))), .inl (t : Int), .inl n] m = some (some (.inl (yNw S t n)), m) := by
  rw [f_X11_whyNoWords, m_isIn, zC1_s]
  unfold yNw
  by_cases g : inR n 0 8 = true
  · rw [if_neg (by rw [g]; decide), if_pos g, j_X11_whyNoWords_14]
    rw [inR_t] at g
    obtain ⟨N, rfl⟩ := Int.eq_ofNat_of_zero_le g.1
    have := m_whyNoWords_loop (v := v) hR ht he (N := N) (by omega) N 0 (by omega)
    rw [Int.toNat_natCast]
    exact this
  · rw [if_pos (b01_ne.mpr (bool_f g)), if_neg g]
theorem yNw_holds {t : Nat} {n : Int} (hn : n ≤ ((gTr S t).2.2.length : Int)) : yNw S t n = (if holds (gTr S t) ((gL S).1.length : Int) n = true then 0 else 5) := by
  unfold yNw holds
  by_cases g : inR n 0 8 = true
  · rw [if_pos g]
    rw [inR_t] at g
    rw [decide_eq_true g.1, decide_eq_true g.2, decide_eq_true hn, Bool.true_and, Bool.true_and, Bool.true_and]
  · rw [if_neg g, if_neg]
    intro q
    simp only [Bool.and_eq_true, decide_eq_true_eq] at q
    exact g (inR_t.mpr ⟨q.1, q.2.1⟩)
theorem m_whyNoRow (hR : R2 S m) (x n : Int) (told : Bool) : zF zP 341 v [(.inr (.inr (some 0))), .inl x, .inl n, .inl (b01 told)] m = some (some (.inl (yRw S x n told)), m) := by
  rw [f_X11_whyNoRow, if_pos hR.1.1, m_isTray, zC1_s]
  unfold yRw
  by_cases hx : inR x 0 3 = true
  · rw [if_neg (by rw [hx]; decide), if_pos hx]
    obtain ⟨t, rfl, ht⟩ := inR3 hx
    rw [j_X11_whyNoRow_10, Int.toNat_natCast]
    by_cases e0 : told = true
    · rw [if_neg (by rw [e0]; decide), if_pos e0, j_X11_whyNoRow_16, if_pos hR.1.1, hR.1.2.1.1.2.1, obind, if_pos (hR.1.2.2.1.2.1.A (by omega) (by omega)), Int.toNat_natCast, m_trayMany hR ht]
      by_cases e : (gTr S t).1 = true
      · rw [if_pos e, if_neg (by omega), if_pos e, j_X11_whyNoRow_27, if_pos hR.1.1, hR.1.2.1.1.2.1, obind, if_pos (hR.1.2.2.1.2.1.A (by omega) (by omega)), Int.toNat_natCast, m_trayMany hR ht, if_pos e]
        by_cases e1 : ((gTr S t).2.2.length : Int) < n
        · rw [if_pos e1, if_pos e1, j_X11_whyNoRow_47]
        · rw [if_neg e1, if_neg e1, j_X11_whyNoRow_41, if_pos hR.1.1, m_whyNoWords hR ht e (by omega), zC1_s, j_X11_whyNoRow_47, yNw_holds (by omega)]
      · rw [if_neg e, if_pos (by omega), if_neg e]
    · rw [if_pos (b01_ne.mpr (bool_f e0)), if_neg e0]
  · rw [if_pos (b01_ne.mpr (bool_f hx)), if_neg hx]
theorem m_whyNoRows (hR : R2 S m) (x n y k : Int) (told : Bool) : zF zP 342 v [(.inr (.inr (some 0))), .inl x, .inl n, .inl (b01 told), .inl y, .inl k] m = some (some (.inl (yLs (yRw S x n told) (yRw S y k told))), m) := by
  rw [f_X11_whyNoRows, if_pos hR.1.1, m_isTray, zC1_s]
  unfold yRw
  by_cases hx : inR x 0 3 = true
  · rw [if_neg (by rw [hx]; decide), if_pos hx, if_pos hR.1.1, m_isTray, zC1_s]
    obtain ⟨t, rfl, ht⟩ := inR3 hx
    by_cases hy : inR y 0 3 = true
    · rw [if_neg (by rw [hy]; decide), if_pos hy]
      obtain ⟨u, rfl, hu⟩ := inR3 hy
      rw [j_X11_whyNoRows_19, Int.toNat_natCast, Int.toNat_natCast]
      by_cases e0 : told = true
      · rw [if_neg (by rw [e0]; decide), if_pos e0, if_pos e0, j_X11_whyNoRows_25, if_pos hR.1.1, hR.1.2.1.1.2.1, obind, if_pos (hR.1.2.2.1.2.1.A (by omega) (by omega)), Int.toNat_natCast, m_trayMany hR ht]
        by_cases e : (gTr S t).1 = true
        · rw [if_pos e, if_neg (by omega), if_pos e, if_pos hR.1.1, obind, if_pos (hR.1.2.2.1.2.1.A (by omega) (by omega)), Int.toNat_natCast, m_trayMany hR hu]
          by_cases f : (gTr S u).1 = true
          · rw [if_pos f, if_neg (by omega), if_pos f, j_X11_whyNoRows_46, if_pos hR.1.1, hR.1.2.1.1.2.1, obind, if_pos (hR.1.2.2.1.2.1.A (by omega) (by omega)), Int.toNat_natCast, m_trayMany hR ht, if_pos e]
            by_cases e1 : ((gTr S t).2.2.length : Int) < n
            · rw [if_pos e1, if_pos e1, j_X11_whyNoRows_68]
              by_cases f1 : ((gTr S u).2.2.length : Int) < k
              · rw [if_pos f1]; rfl
              · rw [if_neg f1]; split <;> rfl
            · rw [if_neg e1, if_neg e1, if_pos hR.1.1, obind, if_pos (hR.1.2.2.1.2.1.A (by omega) (by omega)), Int.toNat_natCast, m_trayMany hR hu, if_pos f]
              by_cases f1 : ((gTr S u).2.2.length : Int) < k
              · rw [if_pos f1, if_pos f1, j_X11_whyNoRows_68]; split <;> rfl
              · rw [if_neg f1, if_neg f1, j_X11_whyNoRows_70, if_pos hR.1.1, m_whyNoWords hR ht e (by omega), zC1_s, if_pos hR.1.1, m_whyNoWords hR hu f (by omega), zC1_s, yNw_holds (by omega), yNw_holds (by omega)]
                by_cases e2 : holds (gTr S t) ((gL S).1.length : Int) n = true
                · rw [if_pos e2]
                  by_cases f2 : holds (gTr S u) ((gL S).1.length : Int) k = true
                  · rw [if_pos f2, if_neg (by decide), j_X11_whyNoRows_92, j_X11_whyNoRows_93]; rfl
                  · rw [if_neg f2, if_pos (by decide), j_X11_whyNoRows_93]; rfl
                · rw [if_neg e2]
                  by_cases f2 : holds (gTr S u) ((gL S).1.length : Int) k = true
                  · rw [if_pos f2, if_pos (by decide), j_X11_whyNoRows_93]; rfl
                  · rw [if_neg f2, if_pos (by decide), j_X11_whyNoRows_93]; rfl
          · rw [if_neg f, if_pos (by omega), if_neg f, j_X11_whyNoRows_44]
            split
            · rfl
            · split <;> rfl
        · rw [if_neg e, if_pos (by omega), if_neg e, j_X11_whyNoRows_44]
          split
          · split
            · rfl
            · split <;> rfl
          · rfl
      · rw [if_pos (b01_ne.mpr (bool_f e0)), if_neg e0, if_neg e0]; rfl
    · rw [if_pos (b01_ne.mpr (bool_f hy)), if_neg hy, j_X11_whyNoRows_17]
      split
      · split
        · split
          · rfl
          · split <;> rfl
        · rfl
      · rfl
  · rw [if_pos (b01_ne.mpr (bool_f hx)), if_neg hx, j_X11_whyNoRows_17]
    split
    · split
      · split
        · split
          · rfl
          · split <;> rfl
        · rfl
      · rfl
    · rfl
/-- a ROW told is taken -/
theorem m_takesRow_loop (hR0 : R2 S m) {t N : Nat} (ht : t < 4) (he : (gTr S t).1 = true) (hN : N ≤ (gTr S t).2.2.length) (h8 : N ≤ 8) (hg : ∀ i, i < N → 0 ≤ (gTr S t).2.2.getD i 0 ∧ (gTr S t).2.2.getD i 0 < ((gL S).1.length : Int)) : ∀ (n k : Nat) (m1 : zM), Fr (rowP 0) m m1 → k + n = N → zi m1 0 27 = (N : Int) → (∀ i, i < k → zi m1 8 i = (((toRow (gTr S t).2.2 N).getD i 0 : Nat) : Int)) →
    ∃ m', zX zP 338 v 7 [some (.inr (.inr (some 0))), some (.inl (t : Int)), some (.inl (N : Int)), some (.inl (k : Int))] [] m1 = some (none, m') ∧ Fr (rowP 0) m m' ∧ ArV m' 27 8 (toRow (gTr S t).2.2 N) := by
  intro n
  induction n with
  | zero =>
    intro k m1 hF hk hs hB
    refine ⟨m1, ?_, hF, by rw [toRow_len hN]; exact hs, by rw [toRow_len hN]; exact h8, fun i hi => hB i (by rw [toRow_len hN] at hi; omega)⟩
    rw [j_X11_takesRow_7, if_neg (by omega), j_X11_takesRow_31]
  | succ n ih =>
    intro k m1 hF hk hs hB
    have hR1 := hR0.fr (rowP_scr hF)
    have hS := hR1.1
    have hw8 := hR0.w8
    obtain ⟨g1, g2⟩ := hg k (by omega)
    have ew : i32 ((gTr S t).2.2.getD k 0) = (((toRow (gTr S t).2.2 N).getD k 0 : Nat) : Int) := by
      have h1 : (toRow (gTr S t).2.2 N).getD k 0 = ((gTr S t).2.2.getD k 0).toNat := by
        unfold toRow
        rw [List.getD_eq_getElem?_getD, List.getElem?_map, List.getElem?_take, if_pos (by omega), List.getD_eq_getElem?_getD, List.getElem?_eq_getElem (by omega)]
        rfl
      rw [h1]
      unfold i32; rw [Int.bmod_eq_of_le (by omega) (by omega)]; omega
    have hw : Fr (rowP 0) m1 (zwi m1 8 k (((toRow (gTr S t).2.2 N).getD k 0 : Nat) : Int)) := Fr.wi m1 _ (Or.inr rfl)
    obtain ⟨m', f1, f2, f3⟩ := ih (k + 1) _ (hF.tr hw) (by omega) (by rw [zi_wi_n _ _ (Or.inl (by decide))]; exact hs)
      (fun i hi => by
        by_cases e : i = k
        · subst e; rw [zi_wi_s]
        · rw [zi_wi_n _ _ (Or.inr e)]; exact hB i (by omega))
    refine ⟨m', ?_, f2, f3⟩
    rw [j_X11_takesRow_7, if_pos (by omega), if_pos hS.1, hS.2.1.2.1.2.2.2, obind, if_pos hS.1, m_numberOf hR1 ht he (by omega), zC2_s, if_pos (hS.2.2.2.1.2.2.2.A (by omega) (by omega)), Int.toNat_natCast, ew, zadd1 (by omega)]
    exact f1
theorem m_takesRow (hR : R2 S m) {x n : Int} {told : Bool} (h : yRw S x n told = 0) : ∃ m', zF zP 338 v [(.inr (.inr (some 0))), .inl x, .inl n] m = some (none, m') ∧ Fr (rowP 0) m m' ∧ ArV m' 27 8 (yRow S x n) := by
  obtain ⟨t, N, rfl, ht, rfl, h8, e0, e, hk, hr, hg⟩ := yRw0 h
  have hw : Fr (rowP 0) m (zwi m 0 27 (N : Int)) := Fr.wi m _ (Or.inl ⟨rfl, rfl⟩)
  obtain ⟨m', f1, f2, f3⟩ := m_takesRow_loop (v := v) hR ht e hk h8 hg N 0 _ hw (by omega) (zi_wi_s _ _ _ _) (fun i hi => absurd hi (Nat.not_lt_zero i))
  refine ⟨m', ?_, f2, by rw [hr]; exact f3⟩
  rw [f_X11_takesRow, if_pos hR.1.1]
  exact f1
theorem m_putsR (hR : R2 S m) {i : Nat} (hi : i < (gL S).2.1.length) {l : List Nat} (hv : ArV m 27 8 l) (hl : rOk l) :
    ∃ m', zF zP 333 v [(.inr (.inr (some 0))), .inl (i : Int)] m = some (some (.inl (vainE ((gL S).2.1.getD i ln0).2.2 0 0 l)), m') ∧ Fr (rowP 0) m m' ∧ ArV m' 27 8 (lput ((gL S).2.1.getD i ln0).2.2 l) ∧ rOk (lput ((gL S).2.1.getD i ln0).2.2 l) := by
  have h8 := hR.l8
  obtain ⟨m', f1, f2, f3, f4⟩ := m_puts (v := v) hR.1.mo (hR.ln hi).mlV hv.ro hl (by omega)
  exact ⟨m', f1, f2, f3.ar, f4⟩
theorem R2.w16 (hR : R2 S m) : ((gL S).1.length : Int) ≤ 16 := by have := hR.w8; omega
end MROWS
