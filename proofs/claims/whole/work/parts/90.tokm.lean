/-! The reference's TOKENS. -/
def tmP (b j : Nat) : Prop := b = 0 ∧ 14 ≤ j ∧ j ≤ 19
def TxM (m : zM) (f : Nat → Nat) (n : Nat) : Prop := S2 m ∧ zi m 0 9 = (n : Int) ∧ TxF f n ∧ ∀ i, i < n → zand (zi m 4 i) 255 = ((f i : Nat) : Int)
def kdM (k : Nat) : Int := if k = 0 then 0 else if k = 2 then 1 else if k = 3 then 2 else if k = 4 then 3 else 4
def TkW (T : zTok) : Prop := T.1 ≤ 4 ∧ (T.1 ≠ 2 → T.2.2.2.1 = 0)
def TkM (m : zM) (T : zTok) : Prop := zi m 0 14 = kdM T.1 ∧ zi m 0 15 = (T.2.1 : Int) ∧ zi m 0 16 = (T.2.2.1 : Int) ∧ (T.1 = 2 → zl m 0 19 = (if T.2.2.2.1 = 0 then -1 else (T.2.2.2.1 : Int)) ∧ (8 < zi m 0 18 ↔ T.2.2.2.1 = 0)) ∧ (T.1 = 3 ∨ T.1 = 4 → zi m 0 17 = (T.2.2.2.2 : Int))
theorem kdM_2 {k : Nat} : kdM k = 1 ↔ k = 2 := by
  unfold kdM
  repeat' split
  all_goals first | omega | (constructor <;> intro h <;> omega)
theorem kdM_3 {k : Nat} : kdM k = 2 ↔ k = 3 := by
  unfold kdM
  repeat' split
  all_goals first | omega | (constructor <;> intro h <;> omega)
theorem kdM_4 {k : Nat} : kdM k = 3 ↔ k = 4 := by
  unfold kdM
  repeat' split
  all_goals first | omega | (constructor <;> intro h <;> omega)
theorem kdM_0 {k : Nat} : kdM k = 0 ↔ k = 0 := by
  unfold kdM
  repeat' split
  all_goals first | omega | (constructor <;> intro h <;> omega)
theorem kdM_1 {k : Nat} (h : k ≤ 4) : kdM k = 4 ↔ k = 1 := by
  unfold kdM
  repeat' split
  all_goals first | omega | (constructor <;> intro h <;> omega)
section TOKM
variable {v : Nat} {m m' : zM} {f : Nat → Nat} {n : Nat}
theorem TxM.fr {P : Nat → Nat → Prop} (hx : TxM m f n) (h : Fr P m m') (h1 : ¬ P 0 9) (h2 : ∀ j, ¬ P 4 j) : TxM m' f n := by
  obtain ⟨a1, a2, a3, a4⟩ := hx
  exact ⟨h.s2 a1, by rw [h.i h1]; exact a2, a3, fun i hi => by rw [h.i (h2 i)]; exact a4 i hi⟩
theorem TxM.tk (hx : TxM m f n) (h : Fr tmP m m') : TxM m' f n := hx.fr h (by unfold tmP; omega) (fun j => by unfold tmP; omega)
theorem TxM.t (hx : TxM m f n) : zT m 0 7 = true := hx.1.1
theorem m_look2 (hx : TxM m f n) (i : Nat) (hi : i < 1000000) : zF zP 255 v [(.inr (.inr (some 0))), .inl (i : Int)] m = some (some (.inl ((f i : Nat) : Int)), m) := by
  obtain ⟨hS, h2, h3, h4⟩ := hx
  have n9 := h3.1
  have k4 : ArS m 4 8 900 := hS.2.2.1.2.2.2
  rw [f_X11_look2, if_pos hS.1, h2]
  by_cases q : i < n
  · rw [if_pos (by omega), if_pos hS.1, hS.2.1.1.2.2.2, obind, if_pos (k4.A (by omega) (by omega)), Int.toNat_natCast, h4 i q, j_X11_look2_22]
  · rw [if_neg (by omega), j_X11_look2_21, j_X11_look2_22, h3.2.2 i (by omega)]; rfl
theorem m_isLetter (x : Nat) : zF zP 256 v [.inl (x : Int)] m = some (some (.inl (b01 (ltr x))), m) := by
  rw [f_X11_isLetter]
  unfold ltr
  by_cases h : 97 ≤ x
  · rw [if_neg (by omega), decide_eq_true h, Bool.true_and]
    by_cases h2 : x ≤ 122
    · rw [if_neg (by omega), j_X11_isLetter_17, if_pos zb1, decide_eq_true h2]; rfl
    · rw [if_pos (by omega), j_X11_isLetter_16, j_X11_isLetter_17, if_pos zb0, decide_eq_false h2]; rfl
  · rw [if_pos (by omega), j_X11_isLetter_16, j_X11_isLetter_17, if_pos zb0, decide_eq_false h]; rfl
theorem m_isDigit (x : Nat) : zF zP 257 v [.inl (x : Int)] m = some (some (.inl (b01 (dgt x))), m) := by
  rw [f_X11_isDigit]
  unfold dgt
  by_cases h : 48 ≤ x
  · rw [if_neg (by omega), decide_eq_true h, Bool.true_and]
    by_cases h2 : x ≤ 57
    · rw [if_neg (by omega), j_X11_isDigit_17, if_pos zb1, decide_eq_true h2]; rfl
    · rw [if_pos (by omega), j_X11_isDigit_16, j_X11_isDigit_17, if_pos zb0, decide_eq_false h2]; rfl
  · rw [if_pos (by omega), j_X11_isDigit_16, j_X11_isDigit_17, if_pos zb0, decide_eq_false h]; rfl
theorem m_isSignByte (c : Nat) : zF zP 258 v [(.inr (.inr (some 0))), .inl (c : Int)] m = some (some (.inl (b01 (sgn c))), m) := by
  rw [f_X11_isSignByte]
  unfold sgn
  by_cases h1 : c = 59
  · rw [if_pos (by omega), j_X11_isSignByte_24, j_X11_isSignByte_29, if_pos zb1, decide_eq_true h1]; rfl
  · rw [if_neg (by omega), decide_eq_false h1, Bool.false_or]
    by_cases h2 : c = 60
    · rw [if_pos (by omega), j_X11_isSignByte_24, j_X11_isSignByte_29, if_pos zb1, decide_eq_true h2]; rfl
    · rw [if_neg (by omega), decide_eq_false h2, Bool.false_or]
      by_cases h3 : c = 62
      · rw [if_pos (by omega), j_X11_isSignByte_24, j_X11_isSignByte_29, if_pos zb1, decide_eq_true h3]; rfl
      · rw [if_neg (by omega), decide_eq_false h3, Bool.false_or]
        by_cases h4 : c = 61
        · rw [if_pos (by omega), j_X11_isSignByte_24, j_X11_isSignByte_29, if_pos zb1, decide_eq_true h4]; rfl
        · rw [if_neg (by omega), j_X11_isSignByte_28, j_X11_isSignByte_29, if_pos zb0, decide_eq_false h4]; rfl
theorem m_skip (hx0 : TxM m f n) : ∀ (k p : Nat) (m1 : zM), Fr tmP m m1 → p + k = n → zi m1 0 15 = (p : Int) → ∃ m', zX zP 259 v 8 [some (.inr (.inr (some 0))), none] [] m1 = zX zP 259 v 58 [some (.inr (.inr (some 0))), none] [] m' ∧ Fr tmP m m' ∧ zi m' 0 15 = ((runF blk f k p : Nat) : Int) := by
  intro k
  induction k with
  | zero =>
    intro p m1 hF hp h4
    have hx := hx0.tk hF
    exact ⟨m1, by rw [j_X11_advance_8, if_pos hx.t, if_pos hx.t, h4, hx.2.1, if_neg (by omega)], hF, h4⟩
  | succ k ih =>
    intro p m1 hF hp h4
    have hx := hx0.tk hF
    have n9 := hx.2.2.1.1
    have hw : Fr tmP m1 (zwi m1 0 15 ((p + 1 : Nat) : Int)) := Fr.wi m1 _ ⟨rfl, by omega, by omega⟩
    have next : blk (f p) = true → ∃ m', zX zP 259 v 45 [some (.inr (.inr (some 0))), none] [] m1 = zX zP 259 v 58 [some (.inr (.inr (some 0))), none] [] m' ∧ Fr tmP m m' ∧ zi m' 0 15 = ((runF blk f (k + 1) p : Nat) : Int) := by
      intro q
      obtain ⟨m', f1, f2, f3⟩ := ih (p + 1) _ (hF.tr hw) (by omega) (zi_wi_s _ _ _ _)
      refine ⟨m', ?_, f2, ?_⟩
      · rw [j_X11_advance_45, if_pos hx.t, if_pos hx.t, h4, zadd1 (by omega)]; exact f1
      · unfold runF; rw [if_pos q]; exact f3
    rw [j_X11_advance_8, if_pos hx.t, if_pos hx.t, h4, hx.2.1, if_pos (by omega), if_pos hx.t, if_pos hx.t, m_look2 hx p (by omega), zC1_s]
    by_cases q1 : f p = 10
    · rw [if_pos (by omega)]
      exact next (by unfold blk; rw [decide_eq_true q1]; rfl)
    · rw [if_neg (by omega), if_pos hx.t, if_pos hx.t, h4, m_look2 hx p (by omega), zC1_s]
      by_cases q2 : f p = 32
      · rw [if_pos (by omega)]
        exact next (by unfold blk; rw [decide_eq_true q2, Bool.or_true])
      · rw [if_neg (by omega)]
        refine ⟨m1, rfl, hF, ?_⟩
        unfold runF
        rw [if_neg (by unfold blk; rw [decide_eq_false q1, decide_eq_false q2]; decide)]
        exact h4
theorem zletter {y c : Nat} (hy : y < 1099511627776) (hc : ltr c = true) : zlsub (zladd (zlmul (y : Int) 32) (c : Int)) 96 = ((y * 32 + (c - 96) : Nat) : Int) := by
  have h := ltr_r hc
  have e1 : zlmul (y : Int) 32 = ((y * 32 : Nat) : Int) := by
    unfold zlmul
    rw [show (y : Int) * 32 = ((y * 32 : Nat) : Int) by omega, i64_id (by unfold r64; omega)]
  have e2 : zladd ((y * 32 : Nat) : Int) (c : Int) = ((y * 32 + c : Nat) : Int) := by
    unfold zladd
    rw [show ((y * 32 : Nat) : Int) + (c : Int) = ((y * 32 + c : Nat) : Int) by omega, i64_id (by unfold r64; omega)]
  rw [e1, e2]
  unfold zlsub
  rw [show ((y * 32 + c : Nat) : Int) - 96 = ((y * 32 + (c - 96) : Nat) : Int) by omega, i64_id (by unfold r64; omega)]
theorem m_letters_loop (hx0 : TxM m f n) {a : Nat} {x1 : Int} : ∀ (k p : Nat) (m1 : zM), Fr tmP m m1 → p + k = n → a ≤ p → zi m1 0 15 = (a : Int) → zi m1 0 16 = (p : Int) → zi m1 0 14 = 1 → (∀ i, a ≤ i → i < p → ltr (f i) = true) → zl m1 0 19 = (if p - a ≤ 8 then ((spl f a (p - a) : Nat) : Int) else -1) →
    ∃ m' : zM, zX zP 259 v 109 [some (.inr (.inr (some 0))), some (.inl x1)] [] m1 = zX zP 259 v 182 [some (.inr (.inr (some 0))), some (.inl x1)] [] m' ∧ Fr tmP m m' ∧ zi m' 0 14 = 1 ∧ zi m' 0 15 = (a : Int) ∧ zi m' 0 16 = ((runF ltr f k p : Nat) : Int) ∧ zl m' 0 19 = (if runF ltr f k p - a ≤ 8 then ((spl f a (runF ltr f k p - a) : Nat) : Int) else -1) := by
  intro k
  induction k with
  | zero =>
    intro p m1 hF hp ha h4 h5 h14 hl hy
    have hx := hx0.tk hF
    have hz : ltr (f p) = false := by rw [hx.2.2.1.2.2 p (by omega)]; decide
    have n9 := hx.2.2.1.1
    exact ⟨m1, by rw [j_X11_advance_109, if_pos hx.t, if_pos hx.t, h5, m_look2 hx p (by omega), zC1_s, m_isLetter, zC1_s, hz, if_pos (by decide)], hF, h14, h4, h5, hy⟩
  | succ k ih =>
    intro p m1 hF hp ha h4 h5 h14 hl hy
    have hx := hx0.tk hF
    have n9 := hx.2.2.1.1
    by_cases q : ltr (f p) = true
    · have er : runF ltr f (k + 1) p = runF ltr f k (p + 1) := by
        show (if ltr (f p) = true then runF ltr f k (p + 1) else p) = _
        rw [if_pos q]
      rw [er]
      have go : ∀ z : Int, z = (if p + 1 - a ≤ 8 then ((spl f a (p + 1 - a) : Nat) : Int) else -1) → ∃ m' : zM, zX zP 259 v 166 [some (.inr (.inr (some 0))), some (.inl x1)] [.inr (.inl z), (.inr (.inr (some 0)))] m1 = zX zP 259 v 182 [some (.inr (.inr (some 0))), some (.inl x1)] [] m' ∧ Fr tmP m m' ∧ zi m' 0 14 = 1 ∧ zi m' 0 15 = (a : Int) ∧ zi m' 0 16 = ((runF ltr f k (p + 1) : Nat) : Int) ∧ zl m' 0 19 = (if runF ltr f k (p + 1) - a ≤ 8 then ((spl f a (runF ltr f k (p + 1) - a) : Nat) : Int) else -1) := by
        intro z hz
        have hw : Fr tmP m1 (zwi (zwl m1 0 19 z) 0 16 ((p + 1 : Nat) : Int)) := (Fr.wl m1 _ ⟨rfl, by omega, by omega⟩).tr (Fr.wi _ _ ⟨rfl, by omega, by omega⟩)
        obtain ⟨m', f1, f2⟩ := ih (p + 1) _ (hF.tr hw) (by omega) (by omega) (by rw [zi_wi_n _ _ (Or.inr (by decide)), zi_wl]; exact h4) (zi_wi_s _ _ _ _) (by rw [zi_wi_n _ _ (Or.inr (by decide)), zi_wl]; exact h14) (fun i q1 q2 => by
          by_cases e : i = p
          · rw [e]; exact q
          · exact hl i q1 (by omega)) (by rw [zl_wi, zl_wl_s]; exact hz)
        refine ⟨m', ?_, f2⟩
        rw [j_X11_advance_166, if_pos hx.t, zT_wl, if_pos hx.t, if_pos hx.t, zi_wl, h5, zadd1 (by omega)]
        exact f1
      have esub : zsub (p : Int) (a : Int) = ((p - a : Nat) : Int) := zsub_nat ha (by omega)
      by_cases q8 : p - a < 8
      · have hs : spl f a (p - a) < 1099511627776 := spl8 (by omega) (fun i q1 q2 => hl i q1 (by omega))
        have e : p + 1 - a = (p - a) + 1 := by omega
        obtain ⟨m', f1, f2⟩ := go (zlsub (zladd (zlmul ((spl f a (p - a) : Nat) : Int) 32) ((f p : Nat) : Int)) 96) (by
          rw [zletter hs q, if_pos (by omega), e]
          show ((spl f a (p - a) * 32 + (f p - 96) : Nat) : Int) = ((spl f a (p - a) * 32 + (f (a + (p - a)) - 96) : Nat) : Int)
          rw [show a + (p - a) = p by omega])
        refine ⟨m', ?_, f2⟩
        rw [if_pos (by omega)] at hy
        rw [j_X11_advance_109, if_pos hx.t, if_pos hx.t, h5, m_look2 hx p (by omega), zC1_s, m_isLetter, zC1_s, q, if_neg (by decide), if_pos hx.t, if_pos hx.t, h5, h4, esub, if_pos (by omega), if_pos hx.t, if_pos hx.t, if_pos hx.t, m_look2 hx p (by omega), zC1_s, hy]
        exact f1
      · obtain ⟨m', f1, f2⟩ := go (-1) (by rw [if_neg (by omega)])
        refine ⟨m', ?_, f2⟩
        rw [j_X11_advance_109, if_pos hx.t, if_pos hx.t, h5, m_look2 hx p (by omega), zC1_s, m_isLetter, zC1_s, q, if_neg (by decide), if_pos hx.t, if_pos hx.t, h5, h4, esub, if_neg (by omega), j_X11_advance_163]
        exact f1
    · have er : runF ltr f (k + 1) p = p := by
        show (if ltr (f p) = true then runF ltr f k (p + 1) else p) = _
        rw [if_neg q]
      rw [er]
      refine ⟨m1, ?_, hF, h14, h4, h5, hy⟩
      rw [j_X11_advance_109, if_pos hx.t, if_pos hx.t, h5, m_look2 hx p (by omega), zC1_s, m_isLetter, zC1_s, bool_f q, if_pos (by decide)]
theorem m_number_loop (hx0 : TxM m f n) {a : Nat} {x1 : Int} : ∀ (k p : Nat) (m1 : zM), Fr tmP m m1 → p + k = n → a ≤ p → zi m1 0 15 = (a : Int) → zi m1 0 16 = (p : Int) → (∀ i, a ≤ i → i < p → dgt (f i) = true) → (p - a ≤ 4 → zi m1 0 17 = ((vlu f a (p - a) : Nat) : Int)) →
    ∃ m' : zM, zX zP 259 v 210 [some (.inr (.inr (some 0))), some (.inl x1)] [] m1 = zX zP 259 v 273 [some (.inr (.inr (some 0))), some (.inl x1)] [] m' ∧ Fr tmP m m' ∧ zi m' 0 15 = (a : Int) ∧ zi m' 0 16 = ((runF dgt f k p : Nat) : Int) ∧ (runF dgt f k p - a ≤ 4 → zi m' 0 17 = ((vlu f a (runF dgt f k p - a) : Nat) : Int)) := by
  intro k
  induction k with
  | zero =>
    intro p m1 hF hp ha h4 h5 hl hy
    have hx := hx0.tk hF
    have hz : dgt (f p) = false := by rw [hx.2.2.1.2.2 p (by omega)]; decide
    have n9 := hx.2.2.1.1
    exact ⟨m1, by rw [j_X11_advance_210, if_pos hx.t, if_pos hx.t, h5, m_look2 hx p (by omega), zC1_s, m_isDigit, zC1_s, hz, if_pos (by decide)], hF, h4, h5, hy⟩
  | succ k ih =>
    intro p m1 hF hp ha h4 h5 hl hy
    have hx := hx0.tk hF
    have n9 := hx.2.2.1.1
    by_cases q : dgt (f p) = true
    · have er : runF dgt f (k + 1) p = runF dgt f k (p + 1) := by
        show (if dgt (f p) = true then runF dgt f k (p + 1) else p) = _
        rw [if_pos q]
      rw [er]
      have hd := dgt_r q
      have go : ∀ m2 : zM, Fr tmP m1 m2 → zi m2 0 15 = (a : Int) → zi m2 0 16 = (p : Int) → (p + 1 - a ≤ 4 → zi m2 0 17 = ((vlu f a (p + 1 - a) : Nat) : Int)) → ∃ m' : zM, zX zP 259 v 260 [some (.inr (.inr (some 0))), some (.inl x1)] [] m2 = zX zP 259 v 273 [some (.inr (.inr (some 0))), some (.inl x1)] [] m' ∧ Fr tmP m m' ∧ zi m' 0 15 = (a : Int) ∧ zi m' 0 16 = ((runF dgt f k (p + 1) : Nat) : Int) ∧ (runF dgt f k (p + 1) - a ≤ 4 → zi m' 0 17 = ((vlu f a (runF dgt f k (p + 1) - a) : Nat) : Int)) := by
        intro m2 hF2 w4 w5 hz
        have hx2 := hx.tk hF2
        have hw : Fr tmP m2 (zwi m2 0 16 ((p + 1 : Nat) : Int)) := Fr.wi _ _ ⟨rfl, by omega, by omega⟩
        obtain ⟨m', f1, f2⟩ := ih (p + 1) _ ((hF.tr hF2).tr hw) (by omega) (by omega) (by rw [zi_wi_n _ _ (Or.inr (by decide))]; exact w4) (zi_wi_s _ _ _ _) (fun i q1 q2 => by
          by_cases e : i = p
          · rw [e]; exact q
          · exact hl i q1 (by omega)) (fun w => by rw [zi_wi_n _ _ (Or.inr (by decide))]; exact hz w)
        refine ⟨m', ?_, f2⟩
        rw [j_X11_advance_260, if_pos hx2.t, if_pos hx2.t, w5, zadd1 (by omega)]
        exact f1
      have esub : zsub (p : Int) (a : Int) = ((p - a : Nat) : Int) := zsub_nat ha (by omega)
      by_cases q4 : p - a < 4
      · have hv : vlu f a (p - a) < 10000 := vlu4 (by omega) (fun i q1 q2 => hl i q1 (by omega))
        have e : p + 1 - a = (p - a) + 1 := by omega
        have ev : zsub (zadd (zmul 10 ((vlu f a (p - a) : Nat) : Int)) ((f p : Nat) : Int)) 48 = ((vlu f a (p + 1 - a) : Nat) : Int) := by
          rw [show zmul 10 ((vlu f a (p - a) : Nat) : Int) = ((10 * vlu f a (p - a) : Nat) : Int) from zmul_nat (n := 10) (by omega), zadd_nat (by omega), show zsub ((10 * vlu f a (p - a) + f p : Nat) : Int) 48 = ((10 * vlu f a (p - a) + f p - 48 : Nat) : Int) from zsub_nat (k := 48) (by omega) (by omega), e]
          show ((10 * vlu f a (p - a) + f p - 48 : Nat) : Int) = ((vlu f a (p - a) * 10 + (f (a + (p - a)) - 48) : Nat) : Int)
          rw [show a + (p - a) = p by omega]
          congr 1
          omega
        have h17 := hy (by omega)
        obtain ⟨m', f1, f2⟩ := go (zwi m1 0 17 ((vlu f a (p + 1 - a) : Nat) : Int)) (Fr.wi m1 _ ⟨rfl, by omega, by omega⟩) (by rw [zi_wi_n _ _ (Or.inr (by decide))]; exact h4) (by rw [zi_wi_n _ _ (Or.inr (by decide))]; exact h5) (fun _ => zi_wi_s _ _ _ _)
        refine ⟨m', ?_, f2⟩
        rw [j_X11_advance_210, if_pos hx.t, if_pos hx.t, h5, m_look2 hx p (by omega), zC1_s, m_isDigit, zC1_s, q, if_neg (by decide), if_pos hx.t, if_pos hx.t, h5, h4, esub, if_pos (by omega), if_pos hx.t, if_pos hx.t, if_pos hx.t, m_look2 hx p (by omega), zC1_s, if_pos hx.t, h17, ev]
        exact f1
      · obtain ⟨m', f1, f2⟩ := go m1 (Fr.rf _ _) h4 h5 (fun w => absurd w (by omega))
        refine ⟨m', ?_, f2⟩
        rw [j_X11_advance_210, if_pos hx.t, if_pos hx.t, h5, m_look2 hx p (by omega), zC1_s, m_isDigit, zC1_s, q, if_neg (by decide), if_pos hx.t, if_pos hx.t, h5, h4, esub, if_neg (by omega)]
        exact f1
    · have er : runF dgt f (k + 1) p = p := by
        show (if dgt (f p) = true then runF dgt f k (p + 1) else p) = _
        rw [if_neg q]
      rw [er]
      refine ⟨m1, ?_, hF, h4, h5, hy⟩
      rw [j_X11_advance_210, if_pos hx.t, if_pos hx.t, h5, m_look2 hx p (by omega), zC1_s, m_isDigit, zC1_s, bool_f q, if_pos (by decide)]
theorem m_advance (hx : TxM m f n) {p : Nat} (hp : p ≤ n) (h16 : zi m 0 16 = (p : Int)) : ∃ m', zF zP 259 v [(.inr (.inr (some 0)))] m = some (none, m') ∧ Fr tmP m m' ∧ TkM m' (tokAt f n p) := by
  have n9 := hx.2.2.1.1
  have hw : Fr tmP m (zwi m 0 15 (p : Int)) := Fr.wi m _ ⟨rfl, by omega, by omega⟩
  obtain ⟨m1, g1, g2, g3⟩ := m_skip (v := v) hx (n - p) p _ hw (by omega) (zi_wi_s _ _ _ _)
  have hr := runF_ge (g := blk) (f := f) (n - p) p
  unfold tokAt
  generalize runF blk f (n - p) p = a at g3 hr ⊢
  have ha : a ≤ n := by omega
  have hx1 := hx.tk g2
  have st : zF zP 259 v [(.inr (.inr (some 0)))] m = zX zP 259 v 58 [some (.inr (.inr (some 0))), none] [] m1 := by
    rw [f_X11_advance, if_pos hx.t, if_pos hx.t, h16]
    exact g1
  have hw2 : Fr tmP m1 (zwi m1 0 16 (a : Int)) := Fr.wi m1 _ ⟨rfl, by omega, by omega⟩
  have hx2 := hx1.tk hw2
  have hF2 := g2.tr hw2
  have e15 : zi (zwi m1 0 16 (a : Int)) 0 15 = (a : Int) := by rw [zi_wi_n _ _ (Or.inr (by decide))]; exact g3
  have e16 : zi (zwi m1 0 16 (a : Int)) 0 16 = (a : Int) := zi_wi_s _ _ _ _
  rw [st, j_X11_advance_58, if_pos hx1.t, if_pos hx1.t, g3, zT_wi, if_pos hx1.t, if_pos hx1.t]
  generalize zwi m1 0 16 (a : Int) = m2 at hx2 e15 e16 hF2 ⊢
  rw [e15, hx2.2.1]
  unfold tokB
  by_cases q : a < n
  · rw [if_pos (by omega), if_pos q, j_X11_advance_83, if_pos hx2.t, if_pos hx2.t, e15, m_look2 hx2 a (by omega), zC1_s, m_isLetter, zC1_s]
    by_cases q1 : ltr (f a) = true
    · have hw3 : Fr tmP m2 (zwl (zwi m2 0 14 1) 0 19 0) := (Fr.wi m2 _ ⟨rfl, by omega, by omega⟩).tr (Fr.wl _ _ ⟨rfl, by omega, by omega⟩)
      obtain ⟨m3, k1, k2, k3, k4, k5, k6⟩ := m_letters_loop (v := v) hx2 (a := a) (x1 := ((f a : Nat) : Int)) (n - a) a _ hw3 (by omega) (Nat.le_refl a) (by rw [zi_wl, zi_wi_n _ _ (Or.inr (by decide))]; exact e15) (by rw [zi_wl, zi_wi_n _ _ (Or.inr (by decide))]; exact e16) (by rw [zi_wl, zi_wi_s]) (fun i q1 q2 => absurd q1 (by omega)) (by rw [zl_wl_s, Nat.sub_self, if_pos (by omega)]; rfl)
      have hx3 := hx2.tk k2
      have hr2 := runF_ge (g := ltr) (f := f) (n - a) a
      have hr3 : a < runF ltr f (n - a) a := by
        have e : n - a = (n - a - 1) + 1 := by omega
        rw [e]
        unfold runF
        rw [if_pos q1]
        have := (runF_ge (g := ltr) (f := f) (n - a - 1) (a + 1)).1
        omega
      have hin : ∀ i, a ≤ i → i < runF ltr f (n - a) a → ltr (f i) = true := fun i z1 z2 => runF_in (n - a) a i z1 z2
      have esub : zsub ((runF ltr f (n - a) a : Nat) : Int) (a : Int) = ((runF ltr f (n - a) a - a : Nat) : Int) := zsub_nat hr2.1 (by omega)
      rw [q1, if_neg (by decide), if_pos hx2.t, zT_wi, if_pos hx2.t, k1, j_X11_advance_182, if_pos hx3.t, if_pos hx3.t, if_pos hx3.t, k5, k4, esub, j_X11_advance_330, if_pos rfl]
      refine ⟨_, rfl, hF2.tr (k2.tr (Fr.wi _ _ ⟨rfl, by omega, by omega⟩)), ?_, ?_, ?_, fun _ => ⟨?_, ?_⟩, fun w => ?_⟩
      · rw [zi_wi_n _ _ (Or.inr (by decide)), k3]; rfl
      · rw [zi_wi_n _ _ (Or.inr (by decide))]; exact k4
      · rw [zi_wi_n _ _ (Or.inr (by decide))]; exact k5
      · rw [zl_wi, k6]
        show _ = (if (if runF ltr f (n - a) a - a ≤ 8 then spl f a (runF ltr f (n - a) a - a) else 0) = 0 then (-1 : Int) else (((if runF ltr f (n - a) a - a ≤ 8 then spl f a (runF ltr f (n - a) a - a) else 0) : Nat) : Int))
        by_cases q8 : runF ltr f (n - a) a - a ≤ 8
        · have hp : 0 < spl f a (runF ltr f (n - a) a - a) := spl_pos _ (by omega) (fun i z1 z2 => hin i z1 (by omega))
          rw [if_pos q8, if_pos q8, if_neg (by omega)]
        · rw [if_neg q8, if_neg q8, if_pos rfl]
      · rw [zi_wi_s]
        show _ ↔ (if runF ltr f (n - a) a - a ≤ 8 then spl f a (runF ltr f (n - a) a - a) else 0) = 0
        by_cases q8 : runF ltr f (n - a) a - a ≤ 8
        · have hp : 0 < spl f a (runF ltr f (n - a) a - a) := spl_pos _ (by omega) (fun i z1 z2 => hin i z1 (by omega))
          rw [if_pos q8]
          constructor <;> intro w <;> omega
        · rw [if_neg q8]
          constructor <;> intro w <;> omega
      · rcases w with w | w
        · exact absurd (show (2 : Nat) = 3 from w) (by decide)
        · exact absurd (show (2 : Nat) = 4 from w) (by decide)
    · rw [bool_f q1, if_pos (by decide), if_neg (by decide), j_X11_advance_198, m_isDigit, zC1_s]
      by_cases q2 : dgt (f a) = true
      · have hw3 : Fr tmP m2 (zwi m2 0 17 0) := Fr.wi m2 _ ⟨rfl, by omega, by omega⟩
        obtain ⟨m3, k1, k2, k4, k5, k6⟩ := m_number_loop (v := v) hx2 (a := a) (x1 := ((f a : Nat) : Int)) (n - a) a _ hw3 (by omega) (Nat.le_refl a) (by rw [zi_wi_n _ _ (Or.inr (by decide))]; exact e15) (by rw [zi_wi_n _ _ (Or.inr (by decide))]; exact e16) (fun i q1 q2 => absurd q1 (by omega)) (fun _ => by rw [zi_wi_s, Nat.sub_self]; rfl)
        have hx3 := hx2.tk k2
        have hr2 := runF_ge (g := dgt) (f := f) (n - a) a
        have esub : zsub ((runF dgt f (n - a) a : Nat) : Int) (a : Int) = ((runF dgt f (n - a) a - a : Nat) : Int) := zsub_nat hr2.1 (by omega)
        rw [q2, if_neg (by decide), if_pos hx2.t, k1, j_X11_advance_273, if_pos hx3.t, if_pos hx3.t, k5, k4, esub, if_pos rfl]
        by_cases q4 : runF dgt f (n - a) a - a ≤ 4
        · rw [if_neg (by omega), j_X11_advance_291, j_X11_advance_292, if_pos hx3.t, j_X11_advance_330, if_pos q4, if_pos q4]
          refine ⟨_, rfl, hF2.tr (k2.tr (Fr.wi _ _ ⟨rfl, by omega, by omega⟩)), ?_, ?_, ?_, fun w => absurd w (by show ¬ (3 : Nat) = 2; decide), fun _ => ?_⟩
          · rw [zi_wi_s]; rfl
          · rw [zi_wi_n _ _ (Or.inr (by decide))]; exact k4
          · rw [zi_wi_n _ _ (Or.inr (by decide))]; exact k5
          · rw [zi_wi_n _ _ (Or.inr (by decide))]; exact k6 q4
        · rw [if_pos (by omega), j_X11_advance_292, if_pos hx3.t, j_X11_advance_330, if_neg q4, if_neg q4]
          refine ⟨_, rfl, hF2.tr (k2.tr (Fr.wi _ _ ⟨rfl, by omega, by omega⟩)), ?_, ?_, ?_, fun w => absurd w (by show ¬ (1 : Nat) = 2; decide), fun w => absurd w (by show ¬ ((1 : Nat) = 3 ∨ (1 : Nat) = 4); decide)⟩
          · rw [zi_wi_s]; rfl
          · rw [zi_wi_n _ _ (Or.inr (by decide))]; exact k4
          · rw [zi_wi_n _ _ (Or.inr (by decide))]; exact k5
      · rw [bool_f q2, if_pos (by decide), if_neg (by decide), j_X11_advance_298, if_pos hx2.t, if_pos hx2.t, e15, zadd1 (by omega), zT_wi, if_pos hx2.t, zT_wi, zT_wi, if_pos hx2.t, m_isSignByte, zC1_s]
        have hw3 : Fr tmP m2 (zwi (zwi m2 0 16 ((a + 1 : Nat) : Int)) 0 17 ((f a : Nat) : Int)) := (Fr.wi m2 _ ⟨rfl, by omega, by omega⟩).tr (Fr.wi _ _ ⟨rfl, by omega, by omega⟩)
        have hx3 := hx2.tk hw3
        have fin : ∀ k : Nat, k = 4 ∨ k = 1 → ∃ m' : zM, (if zT (zwi (zwi m2 0 16 ((a + 1 : Nat) : Int)) 0 17 ((f a : Nat) : Int)) 0 7 = true then zX zP 259 v 330 [some (.inr (.inr (some 0))), some (.inl ((f a : Nat) : Int))] [] (zwi (zwi (zwi m2 0 16 ((a + 1 : Nat) : Int)) 0 17 ((f a : Nat) : Int)) 0 14 (kdM k)) else none) = some (none, m') ∧ Fr tmP m m' ∧ TkM m' (k, a, a + 1, 0, f a) := by
          intro k hk
          refine ⟨_, by rw [if_pos hx3.t, j_X11_advance_330], hF2.tr (hw3.tr (Fr.wi _ _ ⟨rfl, by omega, by omega⟩)), ?_, ?_, ?_, fun w => ?_, fun _ => ?_⟩
          · exact zi_wi_s _ _ _ _
          · rw [zi_wi_n _ _ (Or.inr (by decide)), zi_wi_n _ _ (Or.inr (by decide)), zi_wi_n _ _ (Or.inr (by decide))]; exact e15
          · rw [zi_wi_n _ _ (Or.inr (by decide)), zi_wi_n _ _ (Or.inr (by decide)), zi_wi_s]
          · have w' : k = 2 := w
            omega
          · rw [zi_wi_n _ _ (Or.inr (by decide)), zi_wi_s]
        by_cases q3 : sgn (f a) = true
        · have f4 := fin 4 (Or.inl rfl)
          rw [q3, if_neg (show ¬ b01 true = 0 by decide), j_X11_advance_327, if_pos (show true = true from rfl)]
          exact f4
        · have f1 := fin 1 (Or.inr rfl)
          rw [bool_f q3, if_pos (show b01 false = 0 from rfl), j_X11_advance_326, j_X11_advance_327, if_neg (show ¬ false = true by decide)]
          exact f1
  · have en : a = n := by omega
    rw [if_neg (by omega), if_neg q, if_pos hx1.t]
    refine ⟨_, rfl, hF2.tr (Fr.wi _ _ ⟨rfl, by omega, by omega⟩), ?_, ?_, ?_, fun w => absurd w (by show ¬ (0 : Nat) = 2; decide), fun w => absurd w (by show ¬ ((0 : Nat) = 3 ∨ (0 : Nat) = 4); decide)⟩
    · rw [zi_wi_s]; rfl
    · rw [zi_wi_n _ _ (Or.inr (by decide))]; exact e15
    · rw [zi_wi_n _ _ (Or.inr (by decide)), e16, en]
end TOKM
