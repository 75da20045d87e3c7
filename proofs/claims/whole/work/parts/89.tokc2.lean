/-! The class's next TOKEN. -/
section TOKC2
variable {v : Nat} {m m' : zM} {f : Nat → Nat} {n : Nat}
theorem c_takeLetters (hx : TxC m f n) {a : Nat} (ha : a ≤ n) (h4 : zi m 2 4 = (a : Int)) (h8 : zl m 2 8 = 0) (h7 : zi m 2 7 = -1) :
    ∃ m', zF zP 104 v [(.inr (.inr (some 2)))] m = some (none, m') ∧ Fr tkP m m' ∧ zi m' 2 6 = 2 ∧ zi m' 2 4 = (a : Int) ∧ zi m' 2 5 = ((runF ltr f (n - a) a : Nat) : Int) ∧ zl m' 2 8 = (((if runF ltr f (n - a) a - a ≤ 8 then spl f a (runF ltr f (n - a) a - a) else 0) : Nat) : Int) ∧ zi m' 2 7 = kwI (if runF ltr f (n - a) a - a ≤ 8 then spl f a (runF ltr f (n - a) a - a) else 0) ∧ zi m' 2 9 = zi m 2 9 := by
  have n9 := hx.2.2.1.1
  have hr := runF_ge (g := ltr) (f := f) (n - a) a
  have hw : Fr tkP m (zwi (zwi m 2 6 2) 2 5 (a : Int)) := (Fr.wi m _ ⟨rfl, by omega, by omega⟩).tr (Fr.wi _ _ ⟨rfl, by omega, by omega⟩)
  obtain ⟨m2, y, g1, g2, g3, g4, g5, g6⟩ := c_letters_loop (v := v) hx (a := a) (n - a) a 0 _ hw (by omega) (Nat.le_refl a) (by rw [zi_wi_n _ _ (Or.inr (by decide)), zi_wi_n _ _ (Or.inr (by decide))]; exact h4) (zi_wi_s _ _ _ _) (fun i q1 q2 => absurd q1 (by omega)) (fun _ => by rw [Nat.sub_self]; rfl)
  have hx2 := hx.tk g2
  have e6 : zi m2 2 6 = 2 := by rw [g3 6 (by decide), zi_wi_n _ _ (Or.inr (by decide)), zi_wi_s]
  have e4 : zi m2 2 4 = (a : Int) := by rw [g3 4 (by decide), zi_wi_n _ _ (Or.inr (by decide)), zi_wi_n _ _ (Or.inr (by decide))]; exact h4
  have e7 : zi m2 2 7 = -1 := by rw [g3 7 (by decide), zi_wi_n _ _ (Or.inr (by decide)), zi_wi_n _ _ (Or.inr (by decide))]; exact h7
  have e9 : zi m2 2 9 = zi m 2 9 := by rw [g3 9 (by decide), zi_wi_n _ _ (Or.inr (by decide)), zi_wi_n _ _ (Or.inr (by decide))]
  have e8 : zl m2 2 8 = 0 := by rw [g4 8, zl_wi, zl_wi]; exact h8
  have st : zF zP 104 v [(.inr (.inr (some 2)))] m = zX zP 104 v 66 [some (.inr (.inr (some 2))), some (.inr (.inl y)), none] [] m2 := by
    rw [f_X6_takeLetters, if_pos hx.t2, zT_wi, if_pos hx.t2, if_pos hx.t2, zi_wi_n _ _ (Or.inr (by decide)), h4]
    exact g1
  have esub : zsub ((runF ltr f (n - a) a : Nat) : Int) (a : Int) = ((runF ltr f (n - a) a - a : Nat) : Int) := zsub_nat hr.1 (by omega)
  rw [st, j_X6_takeLetters_66, if_pos hx2.t2, if_pos hx2.t2, g5, e4, esub]
  by_cases q : runF ltr f (n - a) a - a ≤ 8
  · have hy := g6 q
    have hw2 : Fr tkP m2 (zwl m2 2 8 y) := Fr.wl m2 _ ⟨rfl, by omega, by omega⟩
    have hx3 := hx2.tk hw2
    have hw3 : Fr tkP (zwl m2 2 8 y) (zwi (zwl m2 2 8 y) 2 7 (kwI (spl f a (runF ltr f (n - a) a - a)))) := Fr.wi _ _ ⟨rfl, by omega, by omega⟩
    rw [if_neg (by omega), if_pos hx2.t2, zT_wl, if_pos hx2.t2, hy]
    rw [hy] at hw2 hw3 hx3
    rw [c_keywordSpelt hx3, zC1_s, if_pos hx3.t2, j_X6_takeLetters_94, if_pos q]
    refine ⟨_, rfl, g2.tr (hw2.tr hw3), ?_, ?_, ?_, ?_, zi_wi_s _ _ _ _, ?_⟩
    · rw [zi_wi_n _ _ (Or.inr (by decide)), zi_wl]; exact e6
    · rw [zi_wi_n _ _ (Or.inr (by decide)), zi_wl]; exact e4
    · rw [zi_wi_n _ _ (Or.inr (by decide)), zi_wl]; exact g5
    · rw [zl_wi, zl_wl_s]
    · rw [zi_wi_n _ _ (Or.inr (by decide)), zi_wl]; exact e9
  · rw [if_pos (by omega), j_X6_takeLetters_94, if_neg q]
    exact ⟨m2, rfl, g2, e6, e4, g5, e8, by rw [e7, kw_0], e9⟩
theorem c_takeNumber (hx : TxC m f n) {a : Nat} (ha : a ≤ n) (h4 : zi m 2 4 = (a : Int)) (h9 : zi m 2 9 = 0) :
    ∃ m', zF zP 106 v [(.inr (.inr (some 2)))] m = some (none, m') ∧ Fr tkP m m' ∧ zi m' 2 6 = (((if runF dgt f (n - a) a - a ≤ 4 then 3 else 1) : Nat) : Int) ∧ zi m' 2 4 = (a : Int) ∧ zi m' 2 5 = ((runF dgt f (n - a) a : Nat) : Int) ∧ zi m' 2 9 = (((if runF dgt f (n - a) a - a ≤ 4 then vlu f a (runF dgt f (n - a) a - a) else 0) : Nat) : Int) ∧ zi m' 2 7 = zi m 2 7 ∧ zl m' 2 8 = zl m 2 8 := by
  have n9 := hx.2.2.1.1
  have hr := runF_ge (g := dgt) (f := f) (n - a) a
  have hw : Fr tkP m (zwi m 2 5 (a : Int)) := Fr.wi m _ ⟨rfl, by omega, by omega⟩
  obtain ⟨m2, g1, g2, g3, g4, g5, g6⟩ := c_number_loop (v := v) hx (a := a) (n - a) a _ hw (by omega) (Nat.le_refl a) (by rw [zi_wi_n _ _ (Or.inr (by decide))]; exact h4) (zi_wi_s _ _ _ _) (fun i q1 q2 => absurd q1 (by omega)) (by rw [zi_wi_n _ _ (Or.inr (by decide)), h9, Nat.sub_self, if_pos (by omega)]; rfl)
  have hx2 := hx.tk g2
  have e4 : zi m2 2 4 = (a : Int) := by rw [g3 4 (by decide) (by decide), zi_wi_n _ _ (Or.inr (by decide))]; exact h4
  have e7 : zi m2 2 7 = zi m 2 7 := by rw [g3 7 (by decide) (by decide), zi_wi_n _ _ (Or.inr (by decide))]
  have e8 : zl m2 2 8 = zl m 2 8 := by rw [g4 8, zl_wi]
  have e9 : zi m2 2 9 = (((if runF dgt f (n - a) a - a ≤ 4 then vlu f a (runF dgt f (n - a) a - a) else 0) : Nat) : Int) := by
    rw [g6]
    split <;> rfl
  have st : zF zP 106 v [(.inr (.inr (some 2)))] m = zX zP 106 v 86 [some (.inr (.inr (some 2)))] [] m2 := by
    rw [f_X6_takeNumber, if_pos hx.t2, if_pos hx.t2, h4]
    exact g1
  have esub : zsub ((runF dgt f (n - a) a : Nat) : Int) (a : Int) = ((runF dgt f (n - a) a - a : Nat) : Int) := zsub_nat hr.1 (by omega)
  rw [st, j_X6_takeNumber_86, if_pos hx2.t2, if_pos hx2.t2, g5, e4, esub]
  have fin : ∀ k : Nat, ∃ m' : zM, some ((none : Option zV), zwi m2 2 6 (k : Int)) = some ((none : Option zV), m') ∧ Fr tkP m m' ∧ zi m' 2 6 = (k : Int) ∧ zi m' 2 4 = (a : Int) ∧ zi m' 2 5 = ((runF dgt f (n - a) a : Nat) : Int) ∧ zi m' 2 9 = (((if runF dgt f (n - a) a - a ≤ 4 then vlu f a (runF dgt f (n - a) a - a) else 0) : Nat) : Int) ∧ zi m' 2 7 = zi m 2 7 ∧ zl m' 2 8 = zl m 2 8 := by
    intro k
    refine ⟨_, rfl, g2.tr (Fr.wi _ _ ⟨rfl, by omega, by omega⟩), zi_wi_s _ _ _ _, ?_, ?_, ?_, ?_, ?_⟩
    · rw [zi_wi_n _ _ (Or.inr (by decide))]; exact e4
    · rw [zi_wi_n _ _ (Or.inr (by decide))]; exact g5
    · rw [zi_wi_n _ _ (Or.inr (by decide))]; exact e9
    · rw [zi_wi_n _ _ (Or.inr (by decide))]; exact e7
    · rw [zl_wi]; exact e8
  by_cases q : runF dgt f (n - a) a - a ≤ 4
  · have f3 := fin 3
    rw [if_pos q] at f3 ⊢
    rw [if_pos q]
    rw [if_neg (by omega), j_X6_takeNumber_105, if_pos hx2.t2]
    exact f3
  · have f1 := fin 1
    rw [if_neg q] at f1 ⊢
    rw [if_neg q]
    rw [if_pos (by omega), j_X6_takeNumber_104, j_X6_takeNumber_105, if_pos hx2.t2]
    exact f1
theorem c_sign (hx : TxC m f n) {c : Nat} {x : Int} (h : x = (c : Int)) : zX zP 107 v 125 [some (.inr (.inr (some 2))), some (.inl x)] [] m = zX zP 107 v 155 [some (.inr (.inr (some 2))), some (.inl (c : Int))] [.inl (((if sgn c = true then 4 else 1) : Nat) : Int), (.inr (.inr (some 2)))] m := by
  subst h
  rw [j_X6_advance_125]
  unfold sgn
  by_cases h1 : c = 59
  · rw [if_pos (by omega), j_X6_advance_150, decide_eq_true h1]; rfl
  · rw [if_neg (by omega), decide_eq_false h1, Bool.false_or]
    by_cases h2 : c = 60
    · rw [if_pos (by omega), j_X6_advance_150, decide_eq_true h2]; rfl
    · rw [if_neg (by omega), decide_eq_false h2, Bool.false_or]
      by_cases h3 : c = 62
      · rw [if_pos (by omega), j_X6_advance_150, decide_eq_true h3]; rfl
      · rw [if_neg (by omega), decide_eq_false h3, Bool.false_or]
        by_cases h4 : c = 61
        · rw [if_pos (by omega), j_X6_advance_150, decide_eq_true h4]; rfl
        · rw [if_neg (by omega), j_X6_advance_154, decide_eq_false h4]; rfl
theorem c_advance (hx : TxC m f n) {p : Nat} (hp : p ≤ n) (h5 : zi m 2 5 = (p : Int)) : ∃ m', zF zP 107 v [(.inr (.inr (some 2)))] m = some (none, m') ∧ Fr tkP m m' ∧ TkC m' (tokAt f n p) := by
  have n9 := hx.2.2.1.1
  have hw : Fr tkP m (zwi m 2 4 (p : Int)) := Fr.wi m _ ⟨rfl, by omega, by omega⟩
  obtain ⟨m1, g1, g2, g3⟩ := c_skip (v := v) hx (n - p) p _ hw (by omega) (zi_wi_s _ _ _ _)
  have hr := runF_ge (g := blk) (f := f) (n - p) p
  unfold tokAt
  generalize runF blk f (n - p) p = a at g3 hr ⊢
  have ha : a ≤ n := by omega
  have hx1 := hx.tk g2
  have hw2 : Fr tkP m1 (zwi (zwl (zwi m1 2 7 (-1)) 2 8 0) 2 9 0) := ((Fr.wi m1 _ ⟨rfl, by omega, by omega⟩).tr (Fr.wl _ _ ⟨rfl, by omega, by omega⟩)).tr (Fr.wi _ _ ⟨rfl, by omega, by omega⟩)
  have hx2 := hx1.tk hw2
  have e4 : zi (zwi (zwl (zwi m1 2 7 (-1)) 2 8 0) 2 9 0) 2 4 = (a : Int) := by
    rw [zi_wi_n _ _ (Or.inr (by decide)), zi_wl, zi_wi_n _ _ (Or.inr (by decide))]; exact g3
  have e7 : zi (zwi (zwl (zwi m1 2 7 (-1)) 2 8 0) 2 9 0) 2 7 = -1 := by
    rw [zi_wi_n _ _ (Or.inr (by decide)), zi_wl, zi_wi_s]
  have e8 : zl (zwi (zwl (zwi m1 2 7 (-1)) 2 8 0) 2 9 0) 2 8 = 0 := by rw [zl_wi, zl_wl_s]
  have e9 : zi (zwi (zwl (zwi m1 2 7 (-1)) 2 8 0) 2 9 0) 2 9 = 0 := zi_wi_s _ _ _ _
  have st : zF zP 107 v [(.inr (.inr (some 2)))] m = zX zP 107 v 46 [some (.inr (.inr (some 2))), none] [] m1 := by
    rw [f_X6_advance, if_pos hx.t2, if_pos hx.t2, h5]
    exact g1
  rw [st, j_X6_advance_46, if_pos hx1.t2, zT_wi, if_pos hx1.t2, zT_wl, zT_wi, if_pos hx1.t2, zT_wi, zT_wl, zT_wi, if_pos hx1.t2, if_pos hx1.t2]
  have hF2 := g2.tr hw2
  generalize zwi (zwl (zwi m1 2 7 (-1)) 2 8 0) 2 9 0 = m2 at hx2 e4 e7 e8 e9 hF2 ⊢
  rw [e4, c_byteAt hx2 a (by omega), zC1_s, if_pos hx2.t2, if_pos hx2.t2, e4, hx2.2.1]
  unfold tokB
  by_cases q : a < n
  · rw [if_pos (by omega), if_pos q, j_X6_advance_97, c_isLetter, zC1_s]
    by_cases q1 : ltr (f a) = true
    · obtain ⟨m3, k1, k2, k3, k4, k5, k6, k7, k8⟩ := c_takeLetters (v := 0) hx2 ha e4 e8 e7
      rw [q1, if_neg (by decide), if_pos hx2.t2, k1, zC0_s, j_X6_advance_173, if_pos rfl]
      exact ⟨m3, rfl, hF2.tr k2, k3, k4, k5, k6, k7, by rw [k8, e9]; rfl⟩
    · rw [bool_f q1, if_pos (by decide), if_neg (by decide), j_X6_advance_111, c_isDigit, zC1_s]
      by_cases q2 : dgt (f a) = true
      · obtain ⟨m3, k1, k2, k3, k4, k5, k6, k7, k8⟩ := c_takeNumber (v := 0) hx2 ha e4 e9
        rw [q2, if_neg (by decide), if_pos hx2.t2, k1, zC0_s, j_X6_advance_173, if_pos rfl]
        exact ⟨m3, rfl, hF2.tr k2, k3, k4, k5, by rw [k8, e8]; rfl, by rw [k7, e7]; exact kw_0.symm, k6⟩
      · rw [bool_f q2, if_pos (by decide), if_neg (by decide), c_sign hx2 rfl, j_X6_advance_155, if_pos hx2.t2, zT_wi, if_pos hx2.t2, zT_wi, zT_wi, if_pos hx2.t2, if_pos hx2.t2, zi_wi_n _ _ (Or.inr (by decide)), zi_wi_n _ _ (Or.inr (by decide)), e4, zadd1 (by omega), j_X6_advance_173]
        refine ⟨_, rfl, hF2.tr (((Fr.wi m2 _ ⟨rfl, by omega, by omega⟩).tr (Fr.wi _ _ ⟨rfl, by omega, by omega⟩)).tr (Fr.wi _ _ ⟨rfl, by omega, by omega⟩)), ?_, ?_, zi_wi_s _ _ _ _, ?_, ?_, ?_⟩
        · rw [zi_wi_n _ _ (Or.inr (by decide)), zi_wi_n _ _ (Or.inr (by decide)), zi_wi_s]
        · rw [zi_wi_n _ _ (Or.inr (by decide)), zi_wi_n _ _ (Or.inr (by decide)), zi_wi_n _ _ (Or.inr (by decide))]; exact e4
        · rw [zl_wi, zl_wi, zl_wi, e8]; rfl
        · rw [zi_wi_n _ _ (Or.inr (by decide)), zi_wi_n _ _ (Or.inr (by decide)), zi_wi_n _ _ (Or.inr (by decide)), e7]; exact kw_0.symm
        · rw [zi_wi_n _ _ (Or.inr (by decide)), zi_wi_s]
  · have en : a = n := by omega
    rw [if_neg (by omega), if_neg q, if_pos hx2.t2, zT_wi, if_pos hx2.t2, if_pos hx2.t2, zi_wi_n _ _ (Or.inr (by decide)), hx2.2.1, j_X6_advance_173]
    refine ⟨_, rfl, hF2.tr ((Fr.wi m2 _ ⟨rfl, by omega, by omega⟩).tr (Fr.wi _ _ ⟨rfl, by omega, by omega⟩)), ?_, ?_, zi_wi_s _ _ _ _, ?_, ?_, ?_⟩
    · rw [zi_wi_n _ _ (Or.inr (by decide)), zi_wi_s]; rfl
    · rw [zi_wi_n _ _ (Or.inr (by decide)), zi_wi_n _ _ (Or.inr (by decide))]; exact e4
    · rw [zl_wi, zl_wi, e8]; rfl
    · rw [zi_wi_n _ _ (Or.inr (by decide)), zi_wi_n _ _ (Or.inr (by decide)), e7]; exact kw_0.symm
    · rw [zi_wi_n _ _ (Or.inr (by decide)), zi_wi_n _ _ (Or.inr (by decide)), e9]; rfl
end TOKC2
