/-! The class reads a SLIP into its draft. -/
def rdC (b j : Nat) : Prop := (b = 2 ∧ 4 ≤ j) ∨ (33 ≤ b ∧ b < 41) ∨ (45 ≤ b ∧ b < 61)
section DRAFT
variable {v : Nat} {m m' : zM} {a : Nat} {L : zLd}
theorem Fr.sam {P : Nat → Nat → Prop} {lo hi : Nat} (h : Fr P m m') (hP : ∀ b j, P b j → lo ≤ b ∧ b < hi) : Sam m m' lo hi :=
  ⟨h.1, h.2.1, h.2.2.1, fun b hb => ⟨funext (fun j => (h.2.2.2 b j (fun q => by have := hP b j q; omega)).1), funext (fun j => (h.2.2.2 b j (fun q => by have := hP b j q; omega)).2)⟩⟩
theorem Sam.fr {P : Nat → Nat → Prop} {lo hi : Nat} (h : Sam m m' lo hi) (hP : ∀ b j, lo ≤ b → b < hi → P b j) : Fr P m m' :=
  ⟨h.1, h.2.1, h.2.2.1, fun b j hb => by
    have hh : b < lo ∨ hi ≤ b := by
      rcases Nat.lt_or_ge b lo with q | q
      · exact Or.inl q
      · rcases Nat.lt_or_ge b hi with q2 | q2
        · exact absurd (hP b j q q2) hb
        · exact Or.inr q2
    exact ⟨h.i hh j, h.l hh j⟩⟩
theorem s_addWord {y : Int} (h : LdS m a) (hL : LdV m a L) (h8 : L.1.length < 8) : ∃ m', zF zP 20 v [(.inr (.inr (some a))), .inr (.inl y)] m = some (none, m') ∧ Sam m m' a (a + 2) ∧ LdV m' a (addWd L y) := by
  obtain ⟨h1, ⟨r0, r1, r2, r3, r4, r5, r6⟩, ⟨k1, k2, k5, k6, k7⟩, hy, hn, hl⟩ := h
  obtain ⟨⟨w1, w2, w3⟩, ⟨l1, l2, l3⟩, ⟨p1, p2, p3⟩, o1, o2, o3⟩ := hL
  have hs : Sam m (zwi (zwl m (a + 1) L.1.length y) a 8 ((L.1.length + 1 : Nat) : Int)) a (a + 2) := (Sam.wl m _ _ (by omega) (by omega)).tr (Sam.wi _ _ _ (by omega) (by omega))
  have g : ∀ j, j ≠ 8 → zi (zwi (zwl m (a + 1) L.1.length y) a 8 ((L.1.length + 1 : Nat) : Int)) a j = zi m a j := fun j hj => by rw [zi_wi_n _ _ (Or.inr hj), zi_wl]
  refine ⟨_, ?_, hs, ⟨?_, ?_, fun i hi => ?_⟩, ⟨?_, l2, fun i hi => hs.lnV (by omega) (l3 i hi)⟩, ⟨?_, p2, fun i hi => ?_⟩, ?_, ?_, fun i hi => ?_⟩
  · rw [f_X0_addWord, if_pos h1, w1, if_neg (by omega), if_pos h1, if_pos h1, r0, obind, if_pos (k1.Y (by decide)), k1.L, if_pos (by omega), if_pos h1, obind, if_pos h1, if_pos (k1.A (by omega) (by omega)), Int.toNat_natCast, zT_wl, if_pos h1, if_pos h1, zi_wl, w1, zadd1 (by omega), j_X0_addWord_39]
  · rw [zi_wi_s]
    show _ = (((L.1 ++ [y]).length : Nat) : Int)
    rw [List.length_append]; rfl
  · show (L.1 ++ [y]).length ≤ 8
    rw [List.length_append]; exact h8
  · have hi' : i < L.1.length + 1 := by
      have : i < (L.1 ++ [y]).length := hi
      rw [List.length_append] at this; exact this
    show zl _ (a + 1) i = (L.1 ++ [y]).getD i 0
    rw [zl_wi]
    by_cases e : i = L.1.length
    · subst e; rw [zl_wl_s, getD_app_r]
    · rw [zl_wl_n _ _ _ e, getD_app_l (by omega)]; exact w3 i (by omega)
  · rw [g 9 (by decide)]; exact l1
  · rw [g 10 (by decide)]; exact p1
  · rw [hs.l (by omega), hs.i (by omega), hs.l (by omega)]; exact p3 i hi
  · rw [g 7 (by decide)]; exact o1
  · rw [g 11 (by decide)]; exact o2
  · rw [hs.i (by omega)]; exact o3 i hi
theorem s_addLine {x : Int} (h : LdS m a) (hL : LdV m a L) (h8 : L.2.1.length < 8) : ∃ m', zF zP 22 v [(.inr (.inr (some a))), .inl x] m = some (none, m') ∧ Fr (fun b _ => b = a ∨ (a + 12 ≤ b ∧ b < a + 28)) m m' ∧ LdV m' a (addLn L (x, false, [])) := by
  have hS := h
  obtain ⟨h1, ⟨r0, r1, r2, r3, r4, r5, r6⟩, ⟨k1, k2, k5, k6, k7⟩, hy, hn, hl⟩ := h
  obtain ⟨⟨w1, w2, w3⟩, ⟨l1, l2, l3⟩, ⟨p1, p2, p3⟩, o1, o2, o3⟩ := hL
  obtain ⟨d1, d2⟩ := hl L.2.1.length h8
  obtain ⟨m1, f1, f2, f3⟩ := s_lbecome (v := 0) (x := x) d2
  have hw : Sam m1 (zwi m1 a 9 ((L.2.1.length + 1 : Nat) : Int)) a (a + 1) := Sam.wi m1 _ _ (by omega) (by omega)
  have t1 : zT m1 a 0 = true := by rw [f2.T]; exact h1
  have g : ∀ j, j ≠ 9 → zi (zwi m1 a 9 ((L.2.1.length + 1 : Nat) : Int)) a j = zi m a j := fun j hj => by rw [zi_wi_n _ _ (Or.inr hj), f2.i (by omega)]
  have hlen : (L.2.1 ++ [((x, false, []) : zLn)]).length = L.2.1.length + 1 := by rw [List.length_append]; rfl
  refine ⟨_, ?_, (f2.fr (fun b j q1 q2 => Or.inr ⟨by omega, by omega⟩)).tr (hw.fr (fun b j q1 q2 => Or.inl (by omega))), ⟨?_, w2, fun i hi => ?_⟩, ⟨?_, ?_, fun i hi => ?_⟩, ⟨?_, p2, fun i hi => ?_⟩, ?_, ?_, fun i hi => ?_⟩
  · rw [f_X0_addLine, if_pos h1, if_pos h1, r1, obind, if_pos (k2.Y (by decide)), l1, k2.L, if_pos (by omega), if_pos h1, if_pos h1, s_lineAt hS h8, zC4_s, if_pos d2.1, f1, zC0_s, if_pos t1, if_pos t1, f2.i (by omega), l1, zadd1 (by omega), j_X0_addLine_34]
  · rw [g 8 (by decide)]; exact w1
  · rw [hw.l (by omega), f2.l (by omega)]; exact w3 i hi
  · rw [zi_wi_s]
    show _ = (((L.2.1 ++ [((x, false, []) : zLn)]).length : Nat) : Int)
    rw [hlen]
  · show (L.2.1 ++ [((x, false, []) : zLn)]).length ≤ 8
    rw [hlen]; exact h8
  · have hi' : i < L.2.1.length + 1 := by
      have : i < (L.2.1 ++ [((x, false, []) : zLn)]).length := hi
      rw [hlen] at this; exact this
    show LnV _ (a + 12 + 2 * i) ((L.2.1 ++ [((x, false, []) : zLn)]).getD i ln0).1 ((L.2.1 ++ [((x, false, []) : zLn)]).getD i ln0).2.1 ((L.2.1 ++ [((x, false, []) : zLn)]).getD i ln0).2.2
    by_cases e : i = L.2.1.length
    · subst e; rw [getD_app_r]; exact hw.lnV (by omega) f3
    · rw [getD_app_l (by omega)]; exact hw.lnV (by omega) (f2.lnV (by omega) (l3 i (by omega)))
  · rw [g 10 (by decide)]; exact p1
  · rw [hw.l (by omega), f2.l (by omega), hw.i (by omega), f2.i (by omega), hw.l (by omega), f2.l (by omega)]
    have := p3 i hi
    refine ⟨this.1, this.2.1, this.2.2.1, this.2.2.2.1, ?_⟩
    show _ < (L.2.1 ++ [((x, false, []) : zLn)]).length
    rw [hlen]
    exact Nat.lt_succ_of_lt (p3 i hi).2.2.2.2
  · rw [g 7 (by decide)]; exact o1
  · rw [g 11 (by decide)]; exact o2
  · by_cases e : i = L.2.1.length
    · subst e; rw [hw.i (by omega), f3.2.2.1]; exact zb_b01 _
    · rw [hw.i (by omega), f2.i (by omega)]; exact o3 i hi
theorem s_addPerson {y : Int} {x : Nat} (h : LdS m a) (hL : LdV m a L) (h6 : L.2.2.1.length < 6) (hx : x < L.2.1.length) : ∃ m', zF zP 23 v [(.inr (.inr (some a))), .inr (.inl y), .inl (x : Int)] m = some (none, m') ∧ Fr (fun b _ => b = a ∨ (a + 5 ≤ b ∧ b < a + 8)) m m' ∧ LdV m' a (addPs L (y, x, [])) := by
  have hS := h
  obtain ⟨h1, ⟨r0, r1, r2, r3, r4, r5, r6⟩, ⟨k1, k2, k5, k6, k7⟩, hy, hn, hl⟩ := h
  obtain ⟨⟨w1, w2, w3⟩, ⟨l1, l2, l3⟩, ⟨p1, p2, p3⟩, o1, o2, o3⟩ := hL
  have s1 : Sam m (zwl m (a + 5) L.2.2.1.length y) (a + 5) (a + 8) := Sam.wl m _ _ (by omega) (by omega)
  have s2 : Sam (zwl m (a + 5) L.2.2.1.length y) (zwi (zwl m (a + 5) L.2.2.1.length y) (a + 6) L.2.2.1.length (x : Int)) (a + 5) (a + 8) := Sam.wi _ _ _ (by omega) (by omega)
  have s3 : Sam (zwi (zwl m (a + 5) L.2.2.1.length y) (a + 6) L.2.2.1.length (x : Int)) (zwl (zwi (zwl m (a + 5) L.2.2.1.length y) (a + 6) L.2.2.1.length (x : Int)) (a + 7) L.2.2.1.length 0) (a + 5) (a + 8) := Sam.wl _ _ _ (by omega) (by omega)
  have s123 := (s1.tr s2).tr s3
  have hS1 := s1.Ld hS
  have hS2 := s2.Ld hS1
  have hS3 := s3.Ld hS2
  have hw : Sam (zwl (zwi (zwl m (a + 5) L.2.2.1.length y) (a + 6) L.2.2.1.length (x : Int)) (a + 7) L.2.2.1.length 0) (zwi (zwl (zwi (zwl m (a + 5) L.2.2.1.length y) (a + 6) L.2.2.1.length (x : Int)) (a + 7) L.2.2.1.length 0) a 10 ((L.2.2.1.length + 1 : Nat) : Int)) a (a + 1) := Sam.wi _ _ _ (by omega) (by omega)
  have g : ∀ j, j ≠ 10 → zi (zwi (zwl (zwi (zwl m (a + 5) L.2.2.1.length y) (a + 6) L.2.2.1.length (x : Int)) (a + 7) L.2.2.1.length 0) a 10 ((L.2.2.1.length + 1 : Nat) : Int)) a j = zi m a j := fun j hj => by rw [zi_wi_n _ _ (Or.inr hj), s123.i (by omega)]
  have hlen : (L.2.2.1 ++ [((y, x, []) : zPs0)]).length = L.2.2.1.length + 1 := by rw [List.length_append]; rfl
  refine ⟨_, ?_, (s123.fr (fun b j q1 q2 => Or.inr ⟨by omega, by omega⟩)).tr (hw.fr (fun b j q1 q2 => Or.inl (by omega))), ⟨?_, w2, fun i hi => ?_⟩, ⟨?_, l2, fun i hi => ?_⟩, ⟨?_, ?_, fun i hi => ?_⟩, ?_, ?_, fun i hi => ?_⟩
  · rw [f_X0_addPerson, if_pos h1, p1, if_neg (by omega), if_pos h1, if_pos h1, r3, obind, if_pos (k5.Y (by decide)), k5.L, if_pos (by omega), if_pos h1, obind, if_pos h1, if_pos (k5.A (by omega) (by omega)), Int.toNat_natCast, zT_wl, if_pos h1, if_pos h1, zi_wl, p1, s_stand hS1 h6, zC0_s, if_pos hS2.1, if_pos hS2.1, s2.i (by omega), zi_wl, p1, s_say hS2 h6, zC0_s, if_pos hS3.1, if_pos hS3.1, s123.i (by omega), p1, zadd1 (by omega), j_X0_addPerson_57]
  · rw [g 8 (by decide)]; exact w1
  · rw [hw.l (by omega), s123.l (by omega)]; exact w3 i hi
  · rw [g 9 (by decide)]; exact l1
  · exact hw.lnV (by omega) (s123.lnV (by omega) (l3 i hi))
  · rw [zi_wi_s]
    show _ = (((L.2.2.1 ++ [((y, x, []) : zPs0)]).length : Nat) : Int)
    rw [hlen]
  · show (L.2.2.1 ++ [((y, x, []) : zPs0)]).length ≤ 6
    rw [hlen]; exact h6
  · have hi' : i < L.2.2.1.length + 1 := by
      have : i < (L.2.2.1 ++ [((y, x, []) : zPs0)]).length := hi
      rw [hlen] at this; exact this
    show zl _ (a + 5) i = ((L.2.2.1 ++ [((y, x, []) : zPs0)]).getD i ps0).1 ∧ zi _ (a + 6) i = (((L.2.2.1 ++ [((y, x, []) : zPs0)]).getD i ps0).2.1 : Int) ∧ zl _ (a + 7) i = zrow ((L.2.2.1 ++ [((y, x, []) : zPs0)]).getD i ps0).2.2 ∧ rOk ((L.2.2.1 ++ [((y, x, []) : zPs0)]).getD i ps0).2.2 ∧ ((L.2.2.1 ++ [((y, x, []) : zPs0)]).getD i ps0).2.1 < L.2.1.length
    rw [hw.l (by omega), hw.i (by omega), hw.l (by omega)]
    have z5 : ∀ j, zl (zwl (zwi (zwl m (a + 5) L.2.2.1.length y) (a + 6) L.2.2.1.length (x : Int)) (a + 7) L.2.2.1.length 0) (a + 5) j = if j = L.2.2.1.length then y else zl m (a + 5) j := fun j => by
      rw [zl_wl, if_neg (by omega), zl_wi, zl_wl]
      by_cases q : j = L.2.2.1.length
      · rw [if_pos ⟨rfl, q⟩, if_pos q]
      · rw [if_neg (fun w => q w.2), if_neg q]
    have z6 : ∀ j, zi (zwl (zwi (zwl m (a + 5) L.2.2.1.length y) (a + 6) L.2.2.1.length (x : Int)) (a + 7) L.2.2.1.length 0) (a + 6) j = if j = L.2.2.1.length then (x : Int) else zi m (a + 6) j := fun j => by
      rw [zi_wl, zi_wi]
      by_cases q : j = L.2.2.1.length
      · rw [if_pos ⟨rfl, q⟩, if_pos q]
      · rw [if_neg (fun w => q w.2), if_neg q, zi_wl]
    have z7 : ∀ j, zl (zwl (zwi (zwl m (a + 5) L.2.2.1.length y) (a + 6) L.2.2.1.length (x : Int)) (a + 7) L.2.2.1.length 0) (a + 7) j = if j = L.2.2.1.length then 0 else zl m (a + 7) j := fun j => by
      rw [zl_wl]
      by_cases q : j = L.2.2.1.length
      · rw [if_pos ⟨rfl, q⟩, if_pos q]
      · rw [if_neg (fun w => q w.2), if_neg q, zl_wi, zl_wl, if_neg (by omega)]
    rw [z5, z6, z7]
    by_cases e : i = L.2.2.1.length
    · subst e
      rw [if_pos rfl, if_pos rfl, if_pos rfl, getD_app_r]
      exact ⟨rfl, rfl, rfl, rep_ok (f := 0) (N := 0) (by decide) (by decide), hx⟩
    · rw [if_neg e, if_neg e, if_neg e, getD_app_l (by omega)]
      exact p3 i (by omega)
  · rw [g 7 (by decide)]; exact o1
  · rw [g 11 (by decide)]; exact o2
  · rw [hw.i (by omega), s123.i (by omega)]; exact o3 i hi
theorem s_clear (h : LdS m a) (hb : ∀ i, i < 8 → zb (zi m (a + 12 + 2 * i) 3) = true) : ∃ m', zF zP 4 v [(.inr (.inr (some a)))] m = some (none, m') ∧ Fr (fun b _ => b = a ∨ b = a + 8) m m' ∧ LdV m' a ([], [], [], 2, 0) ∧ YvC m' (a + 8) none := by
  have hS := h
  obtain ⟨h1, ⟨r0, r1, r2, r3, r4, r5, r6⟩, ⟨k1, k2, k5, k6, k7⟩, hy, hn, hl⟩ := h
  have s1 : Sam m (zwi (zwi (zwi (zwi (zwi m a 7 2) a 8 0) a 9 0) a 10 0) a 11 0) a (a + 1) := ((((Sam.wi m _ _ (by omega) (by omega)).tr (Sam.wi _ _ _ (by omega) (by omega))).tr (Sam.wi _ _ _ (by omega) (by omega))).tr (Sam.wi _ _ _ (by omega) (by omega))).tr (Sam.wi _ _ _ (by omega) (by omega))
  have e7 : zi (zwi (zwi (zwi (zwi (zwi m a 7 2) a 8 0) a 9 0) a 10 0) a 11 0) a 7 = 2 := by rw [zi_wi_n _ _ (Or.inr (by decide)), zi_wi_n _ _ (Or.inr (by decide)), zi_wi_n _ _ (Or.inr (by decide)), zi_wi_n _ _ (Or.inr (by decide)), zi_wi_s]
  have e8 : zi (zwi (zwi (zwi (zwi (zwi m a 7 2) a 8 0) a 9 0) a 10 0) a 11 0) a 8 = 0 := by rw [zi_wi_n _ _ (Or.inr (by decide)), zi_wi_n _ _ (Or.inr (by decide)), zi_wi_n _ _ (Or.inr (by decide)), zi_wi_s]
  have e9 : zi (zwi (zwi (zwi (zwi (zwi m a 7 2) a 8 0) a 9 0) a 10 0) a 11 0) a 9 = 0 := by rw [zi_wi_n _ _ (Or.inr (by decide)), zi_wi_n _ _ (Or.inr (by decide)), zi_wi_s]
  have e10 : zi (zwi (zwi (zwi (zwi (zwi m a 7 2) a 8 0) a 9 0) a 10 0) a 11 0) a 10 = 0 := by rw [zi_wi_n _ _ (Or.inr (by decide)), zi_wi_s]
  have e11 : zi (zwi (zwi (zwi (zwi (zwi m a 7 2) a 8 0) a 9 0) a 10 0) a 11 0) a 11 = 0 := zi_wi_s _ _ _ _
  have t : ∀ x y : Int, ∀ k j : Nat, True := fun _ _ _ _ => trivial
  rw [f_X0_clear, if_pos h1, zT_wi, if_pos h1, zT_wi, zT_wi, if_pos h1, zT_wi, zT_wi, zT_wi, if_pos h1, zT_wi, zT_wi, zT_wi, zT_wi, if_pos h1, zT_wi, zT_wi, zT_wi, zT_wi, zT_wi, if_pos h1]
  have hr6 : zr (zwi (zwi (zwi (zwi (zwi m a 7 2) a 8 0) a 9 0) a 10 0) a 11 0) a 6 = some (a + 8) := by rw [s1.r]; exact r6
  generalize zwi (zwi (zwi (zwi (zwi m a 7 2) a 8 0) a 9 0) a 10 0) a 11 0 = m1 at s1 e7 e8 e9 e10 e11 hr6 ⊢
  have y1 := (s1.Yr hy).1
  have s2 : Sam m1 (zwi (zwi (zwi (zwi m1 (a + 8) 3 0) (a + 8) 4 0) (a + 8) 5 0) (a + 8) 6 0) (a + 8) (a + 9) := (((Sam.wi m1 _ _ (by omega) (by omega)).tr (Sam.wi _ _ _ (by omega) (by omega))).tr (Sam.wi _ _ _ (by omega) (by omega))).tr (Sam.wi _ _ _ (by omega) (by omega))
  have y3 : zi (zwi (zwi (zwi (zwi m1 (a + 8) 3 0) (a + 8) 4 0) (a + 8) 5 0) (a + 8) 6 0) (a + 8) 3 = 0 := by rw [zi_wi_n _ _ (Or.inr (by decide)), zi_wi_n _ _ (Or.inr (by decide)), zi_wi_n _ _ (Or.inr (by decide)), zi_wi_s]
  have yc : zF zP 3 0 [(.inr (.inr (some (a + 8))))] m1 = some (none, zwi (zwi (zwi (zwi m1 (a + 8) 3 0) (a + 8) 4 0) (a + 8) 5 0) (a + 8) 6 0) := by
    rw [f_X8_clear, if_pos (by rw [y1]; rfl), zT_wi, if_pos y1, zT_wi, zT_wi, if_pos y1, zT_wi, zT_wi, zT_wi, if_pos y1]
  rw [hr6, obind, if_pos hy.1, yc, zC0_s]
  generalize zwi (zwi (zwi (zwi m1 (a + 8) 3 0) (a + 8) 4 0) (a + 8) 5 0) (a + 8) 6 0 = m2 at s2 y3 yc ⊢
  refine ⟨m2, rfl, (s1.fr (fun b j q1 q2 => Or.inl (by omega))).tr (s2.fr (fun b j q1 q2 => Or.inr (by omega))), ⟨⟨?_, Nat.zero_le _, fun i hi => absurd hi (Nat.not_lt_zero i)⟩, ⟨?_, Nat.zero_le _, fun i hi => absurd hi (Nat.not_lt_zero i)⟩, ⟨?_, Nat.zero_le _, fun i hi => absurd hi (Nat.not_lt_zero i)⟩, ?_, ?_, fun i hi => ?_⟩, ?_, fun t ht => by cases ht⟩
  · rw [s2.i (by omega)]; exact e8
  · rw [s2.i (by omega)]; exact e9
  · rw [s2.i (by omega)]; exact e10
  · rw [s2.i (by omega)]; exact e7
  · rw [s2.i (by omega)]; exact e11
  · rw [s2.i (by omega), s1.i (by omega)]; exact hb i hi
  · rw [y3]; rfl
end DRAFT
