/-! MARKS of the reference. -/
def cpP (y b j : Nat) : Prop := (b = 5 ∧ 489 * y ≤ j ∧ j < 489 * y + 489) ∨ (b = 7 ∧ 14 * y ≤ j ∧ j < 14 * y + 14)
section MARKM
variable {v : Nat} {S : zSt} {m m' : zM}
/-- alike places, alike blocks -/
theorem BvM.cp {β ν β' ν' : Nat} {B : zBl} (h5 : ∀ x, x < 489 → zi m' 5 (β' + x) = zi m 5 (β + x)) (h7 : ∀ x, x < 14 → zl m' 7 (ν' + x) = zl m 7 (ν + x)) (hv : BvM m β ν B) : BvM m' β' ν' B := by
  have g5 : ∀ x p p', x < 489 → p' = β' + x → p = β + x → zi m' 5 p' = zi m 5 p := fun x p p' h e e' => by rw [e, e']; exact h5 x h
  have g7 : ∀ x p p', x < 14 → p' = ν' + x → p = ν + x → zl m' 7 p' = zl m 7 p := fun x p p' h e e' => by rw [e, e']; exact h7 x h
  obtain ⟨⟨w1, w2, w3⟩, ⟨l1, l2, l3⟩, ⟨p1, p2, p3⟩, ⟨o1, o2⟩, ⟨y1, y2⟩⟩ := hv
  refine ⟨⟨?_, w2, fun i hi => ?_⟩, ⟨?_, l2, fun i hi => ?_⟩, ⟨?_, p2, fun i hi => ⟨?_, (p3 i hi).2⟩⟩, ⟨?_, ?_⟩, ?_, fun t ht => ?_⟩
  · rw [g5 0 β β' (by omega) (by omega) (by omega)]; exact w1
  · rw [g7 i (ν + i) (ν' + i) (by omega) rfl rfl]; exact w3 i hi
  · rw [g5 1 (β + 1) (β' + 1) (by omega) rfl rfl]; exact l1
  · obtain ⟨q1, q2, q3, q4, q5, q6⟩ := l3 i hi
    unfold MlB
    rw [g5 (5 + i) (β + 5 + i) (β' + 5 + i) (by omega) (by omega) (by omega), g5 (13 + i) (β + 13 + i) (β' + 13 + i) (by omega) (by omega) (by omega), g5 (21 + i) (β + 21 + i) (β' + 21 + i) (by omega) (by omega) (by omega)]
    refine ⟨q1, q2, q3, q4, q5, fun k hk => ?_⟩
    obtain ⟨c1, c2⟩ := cellN_lt (i := i) (k := k) (by omega) (by omega)
    have q := q6 k hk
    unfold EdB at q ⊢
    generalize cellN i k = c at c1 c2 q ⊢
    rw [g5 c (β + c) (β' + c) (by omega) rfl rfl, g5 (c + 1) (β + c + 1) (β' + c + 1) (by omega) rfl rfl, g5 (c + 2) (β + c + 2) (β' + c + 2) (by omega) rfl rfl, g5 (c + 3) (β + c + 3) (β' + c + 3) (by omega) rfl rfl]
    exact q
  · rw [g5 2 (β + 2) (β' + 2) (by omega) rfl rfl]; exact p1
  · obtain ⟨q1, q2, q3, q4, q5⟩ := (p3 i hi).1
    have q8 := q4.1
    unfold PsB
    rw [g7 (8 + i) (ν + 8 + i) (ν' + 8 + i) (by omega) (by omega) (by omega), g5 (157 + i) (β + 157 + i) (β' + 157 + i) (by omega) (by omega) (by omega), g5 (163 + i) (β + 163 + i) (β' + 163 + i) (by omega) (by omega) (by omega)]
    exact ⟨q1, q2, q3, q4, fun k hk => by rw [g5 (169 + 8 * i + k) (β + 169 + 8 * i + k) (β' + 169 + 8 * i + k) (by omega) (by omega) (by omega)]; exact q5 k hk⟩
  · rw [g5 3 (β + 3) (β' + 3) (by omega) rfl rfl]; exact o1
  · rw [g5 4 (β + 4) (β' + 4) (by omega) rfl rfl]; exact o2
  · rw [g5 217 (β + 217) (β' + 217) (by omega) rfl rfl]; exact y1
  · obtain ⟨z1, z2, z3⟩ := y2 t ht
    rw [g5 218 (β + 218) (β' + 218) (by omega) rfl rfl]
    exact ⟨z1, z2, fun k hk => by rw [g5 (219 + k) (β + 219 + k) (β' + 219 + k) (by omega) (by omega) (by omega)]; exact z3 k hk⟩
theorem m_copy_i (hS0 : S2 m) {x y : Nat} (hx : x ≤ 4) (hy : y ≤ 4) (hxy : x ≠ y) : ∀ (n k : Nat) (m1 : zM), k + n = 489 → Fr (cpP y) m m1 → (∀ j, j < k → zi m1 5 (489 * y + j) = zi m 5 (489 * x + j)) →
    ∃ m', zX zP 302 v 2 [some ((.inr (.inr (some 0)))), some (.inl (x : Int)), some (.inl (y : Int)), some (.inl (k : Int))] [] m1 = zX zP 302 v 41 [some ((.inr (.inr (some 0)))), some (.inl (x : Int)), some (.inl (y : Int)), some (.inl 0)] [] m' ∧ Fr (cpP y) m m' ∧ ∀ j, j < 489 → zi m' 5 (489 * y + j) = zi m 5 (489 * x + j) := by
  intro n
  induction n with
  | zero =>
    intro k m1 hk hF hv
    refine ⟨m1, ?_, hF, fun j hj => hv j (by omega)⟩
    rw [j_X11_copy_2, if_neg (by omega), j_X11_copy_39]
  | succ n ih =>
    intro k m1 hk hF hv
    have hS := hF.s2 hS0
    have k5 : ArS m1 5 9 2445 := hS.2.2.2.1.1
    have hk8 : k ≤ 488 := by omega
    have bx : 489 * x + k ≤ 2444 := Nat.add_le_add (Nat.mul_le_mul_left 489 hx) hk8
    have by' : 489 * y + k ≤ 2444 := Nat.add_le_add (Nat.mul_le_mul_left 489 hy) hk8
    have Ax : zA m1 5 9 ((489 * x + k : Nat) : Int) = true := k5.A (Int.natCast_nonneg _) (Int.ofNat_lt.mpr (Nat.lt_of_le_of_lt bx (by decide)))
    have Ay : zA m1 5 9 ((489 * y + k : Nat) : Int) = true := k5.A (Int.natCast_nonneg _) (Int.ofNat_lt.mpr (Nat.lt_of_le_of_lt by' (by decide)))
    have z1 : ∀ _ : Unit, zmul 489 (x : Int) = ((489 * x : Nat) : Int) := fun _ => zmul_nat (n := 489) (by omega)
    have z2 : ∀ _ : Unit, zadd ((489 * x : Nat) : Int) (k : Int) = ((489 * x + k : Nat) : Int) := fun _ => zadd_nat (by omega)
    have z3 : ∀ _ : Unit, zmul 489 (y : Int) = ((489 * y : Nat) : Int) := fun _ => zmul_nat (n := 489) (by omega)
    have z4 : ∀ _ : Unit, zadd ((489 * y : Nat) : Int) (k : Int) = ((489 * y + k : Nat) : Int) := fun _ => zadd_nat (by omega)
    have z5 : ∀ _ : Unit, zadd (k : Int) 1 = ((k + 1 : Nat) : Int) := fun _ => zadd_nat (k := 1) (by omega)
    have er : ∀ _ : Unit, zi m1 5 (489 * x + k) = zi m 5 (489 * x + k) := fun _ => hF.i (by unfold cpP; omega)
    have hw : Fr (cpP y) m1 (zwi m1 5 (489 * y + k) (zi m 5 (489 * x + k))) := Fr.wi m1 _ (Or.inl ⟨rfl, by omega, by omega⟩)
    obtain ⟨m', f1, f2, f3⟩ := ih (k + 1) _ (by omega) (hF.tr hw) (fun j hj => by
      by_cases e : j = k
      · subst e; exact zi_wi_s _ _ _ _
      · rw [zi_wi_n _ _ (Or.inr (by omega))]; exact hv j (by omega))
    refine ⟨m', ?_, f2, f3⟩
    rw [j_X11_copy_2, if_pos (by omega), if_pos hS.1, hS.2.1.2.1.1, obind, if_pos hS.1, obind, z1 (), z2 (), if_pos Ax, z3 (), z4 (), if_pos Ay, Int.toNat_natCast, Int.toNat_natCast, er (), z5 ()]
    exact f1
theorem m_copy_l (hS0 : S2 m) {x y : Nat} (hx : x ≤ 4) (hy : y ≤ 4) (hxy : x ≠ y) : ∀ (n k : Nat) (m1 : zM), k + n = 14 → Fr (cpP y) m m1 → (∀ j, j < k → zl m1 7 (14 * y + j) = zl m 7 (14 * x + j)) →
    ∃ m', zX zP 302 v 41 [some ((.inr (.inr (some 0)))), some (.inl (x : Int)), some (.inl (y : Int)), some (.inl (k : Int))] [] m1 = some (none, m') ∧ Fr (cpP y) m m' ∧ (∀ j, zi m' 5 j = zi m1 5 j) ∧ ∀ j, j < 14 → zl m' 7 (14 * y + j) = zl m 7 (14 * x + j) := by
  intro n
  induction n with
  | zero =>
    intro k m1 hk hF hv
    refine ⟨m1, ?_, hF, fun _ => rfl, fun j hj => hv j (by omega)⟩
    rw [j_X11_copy_41, if_neg (by omega), j_X11_copy_75]
  | succ n ih =>
    intro k m1 hk hF hv
    have hS := hF.s2 hS0
    have k7 : ArS m1 7 10 70 := hS.2.2.2.1.2.2.1
    have Ax : zA m1 7 10 ((14 * x + k : Nat) : Int) = true := k7.A (by omega) (by omega)
    have Ay : zA m1 7 10 ((14 * y + k : Nat) : Int) = true := k7.A (by omega) (by omega)
    have z1 : ∀ _ : Unit, zmul 14 (x : Int) = ((14 * x : Nat) : Int) := fun _ => zmul_nat (n := 14) (by omega)
    have z2 : ∀ _ : Unit, zadd ((14 * x : Nat) : Int) (k : Int) = ((14 * x + k : Nat) : Int) := fun _ => zadd_nat (by omega)
    have z3 : ∀ _ : Unit, zmul 14 (y : Int) = ((14 * y : Nat) : Int) := fun _ => zmul_nat (n := 14) (by omega)
    have z4 : ∀ _ : Unit, zadd ((14 * y : Nat) : Int) (k : Int) = ((14 * y + k : Nat) : Int) := fun _ => zadd_nat (by omega)
    have z5 : ∀ _ : Unit, zadd (k : Int) 1 = ((k + 1 : Nat) : Int) := fun _ => zadd_nat (k := 1) (by omega)
    have er : ∀ _ : Unit, zl m1 7 (14 * x + k) = zl m 7 (14 * x + k) := fun _ => hF.l (by unfold cpP; omega)
    have hw : Fr (cpP y) m1 (zwl m1 7 (14 * y + k) (zl m 7 (14 * x + k))) := Fr.wl m1 _ (Or.inr ⟨rfl, by omega, by omega⟩)
    obtain ⟨m', f1, f2, f3, f4⟩ := ih (k + 1) _ (by omega) (hF.tr hw) (fun j hj => by
      by_cases e : j = k
      · subst e; exact zl_wl_s _ _ _ _
      · rw [zl_wl_off _ _ (Or.inr (by omega))]; exact hv j (by omega))
    refine ⟨m', ?_, f2, f3, f4⟩
    rw [j_X11_copy_41, if_pos (by omega), if_pos hS.1, hS.2.1.2.1.2.2.1, obind, if_pos hS.1, obind, z1 (), z2 (), if_pos Ax, z3 (), z4 (), if_pos Ay, Int.toNat_natCast, Int.toNat_natCast, er (), z5 ()]
    exact f1
theorem m_copy (hS : S2 m) {x y : Nat} (hx : x ≤ 4) (hy : y ≤ 4) (hxy : x ≠ y) {B : zBl} (hB : BvM m (489 * x) (14 * x) B) :
    ∃ m', zF zP 302 v [(.inr (.inr (some 0))), .inl (x : Int), .inl (y : Int)] m = some (none, m') ∧ Fr (cpP y) m m' ∧ BvM m' (489 * y) (14 * y) B := by
  have e0 : ((0 : Nat) : Int) = 0 := rfl
  obtain ⟨m2, f1, f2, f3⟩ := m_copy_i (v := v) hS hx hy hxy 489 0 m (by omega) (Fr.rf _ _) (fun j hj => absurd hj (Nat.not_lt_zero j))
  obtain ⟨m', g1, g2, g3, g4⟩ := m_copy_l (v := v) hS hx hy hxy 14 0 m2 (by omega) f2 (fun j hj => absurd hj (Nat.not_lt_zero j))
  rw [e0] at f1 g1
  refine ⟨m', ?_, g2, BvM.cp (fun j hj => by rw [g3, f3 j hj]) g4 hB⟩
  rw [f_X11_copy]
  exact f1.trans g1
def mkP (y b j : Nat) : Prop := (b = 0 ∧ j = 23) ∨ cpP y b j
theorem w_mark (hR : R2 S m) : Ex2 (zF zP 411 v [(.inr (.inr (some 0)))] m) (o_mark S) := by
  have h0 := hR.pre
  unfold o_mark
  rw [f_X11_mark, if_pos hR.1.1, zT_wi, if_pos hR.1.1, zT_wi, zT_wi, if_pos hR.1.1]
  generalize zwi (zwi m 0 1 0) 0 0 0 = m0 at h0 ⊢
  have h0' := h0
  obtain ⟨hS, ⟨a1, a2, a3, a4, a5, a6, a7, a8⟩, ⟨gtr, ⟨t1, t2⟩, gbl, ⟨g1, g3⟩, glv⟩⟩ := h0
  have a7' : zi m0 0 23 = ((gMk S).length : Int) := a7
  have g1' : (gMk S).length ≤ 3 := g1
  rw [a7']
  by_cases c : (gMk S).length < 3
  · have e1 : ∀ _ : Unit, zadd ((gMk S).length : Int) 1 = (((gMk S).length + 1 : Nat) : Int) := fun _ => zadd_nat (k := 1) (by omega)
    have hw : Fr (mkP ((gMk S).length + 1)) m0 (zwi m0 0 23 (((gMk S).length + 1 : Nat) : Int)) := Fr.wi m0 _ (Or.inl ⟨rfl, rfl⟩)
    have hSw := hw.s2 hS
    have hB1 : BvM (zwi m0 0 23 (((gMk S).length + 1 : Nat) : Int)) 0 0 (gBl S) := hw.bvM (fun j q1 q2 => by unfold mkP cpP; omega) (fun j q1 q2 => by unfold mkP cpP; omega) gbl
    obtain ⟨m', f1, f2, f3⟩ := m_copy (v := 0) hSw (x := 0) (y := (gMk S).length + 1) (by omega) (by omega) (by omega) (B := gBl S) hB1
    have e0 : ((0 : Nat) : Int) = 0 := rfl
    rw [e0] at f1
    have h : Fr (mkP ((gMk S).length + 1)) m0 m' := hw.tr (f2.mono (fun b j q => Or.inr q))
    have em : ∀ _ : Unit, zi m' 0 23 = (((gMk S).length + 1 : Nat) : Int) := fun _ => by rw [f2.i (by unfold cpP; omega), zi_wi_s]
    have hS3 := f2.s2 hSw
    have hN : R2 (wSt (wMk S (gMk S ++ [gBl S])) 0) m' := by
      refine ⟨hS3, ⟨?_, ?_, ?_, ?_, ?_, ?_, ?_, ?_⟩, fun t ht => h.tvM (by unfold mkP cpP; omega) (by unfold mkP cpP; omega) (fun j _ _ => by unfold mkP cpP; omega) (gtr t ht), ⟨t1, fun i hi => ?_⟩, h.bvM (fun j q1 q2 => by unfold mkP cpP; omega) (fun j q1 q2 => by unfold mkP cpP; omega) gbl, ⟨?_, fun i hi => ?_⟩, fun p hp i hi => ?_⟩
      · rw [h.i (by unfold mkP cpP; omega)]; exact a1
      · rw [h.l (by unfold mkP cpP; omega)]; exact a2
      · rw [h.l (by unfold mkP cpP; omega)]; exact a3
      · rw [h.i (by unfold mkP cpP; omega)]; exact a4
      · rw [h.i (by unfold mkP cpP; omega)]; exact a5
      · rw [h.i (by unfold mkP cpP; omega)]; exact a6
      · rw [em ()]
        show _ = (((gMk S ++ [gBl S]).length : Nat) : Int)
        rw [List.length_append]; rfl
      · exact ⟨by rw [h.i (by unfold mkP cpP; omega)]; exact a8.1, by rw [h.1]; exact a8.2⟩
      · rw [h.i (by unfold mkP cpP; omega)]; exact t2 i hi
      · show (gMk S ++ [gBl S]).length ≤ 3
        rw [List.length_append]
        show (gMk S).length + 1 ≤ 3
        omega
      · have hi' : i < (gMk S).length + 1 := by
          have : i < (gMk S ++ [gBl S]).length := hi
          rw [List.length_append] at this
          exact this
        show BvM m' (489 * (i + 1)) (14 * (i + 1)) ((gMk S ++ [gBl S]).getD i bl0)
        by_cases e : i = (gMk S).length
        · subst e; rw [getD_app_r]; exact f3
        · rw [getD_app_l (by omega)]
          exact h.bvM (fun j q1 q2 => by unfold mkP cpP; omega) (fun j q1 q2 => by unfold mkP cpP; omega) (g3 i (by show i < (gMk S).length; omega))
      · rw [h.i (by unfold mkP cpP; omega)]; exact glv p hp i hi
    rw [if_neg (by omega), if_pos c, j_X11_mark_25, if_pos hS.1, if_pos hS.1, a7', e1 (), zT_wi, if_pos hS.1, if_pos hS.1, zi_wi_s, f1, zC0_s, if_pos hS3.1, em ()]
    exact x2_yes hN
  · rw [if_pos (by omega), if_neg c, if_pos hR.1.1]
    exact x2_noC h0'
theorem w_back (hR : R2 S m) : Ex2 (zF zP 412 v [(.inr (.inr (some 0)))] m) (o_back S) := by
  have h0 := hR.pre
  unfold o_back
  rw [f_X11_back, if_pos hR.1.1, zT_wi, if_pos hR.1.1, zT_wi, zT_wi, if_pos hR.1.1]
  generalize zwi (zwi m 0 1 0) 0 0 0 = m0 at h0 ⊢
  have h0' := h0
  obtain ⟨hS, ⟨a1, a2, a3, a4, a5, a6, a7, a8⟩, ⟨gtr, ⟨t1, t2⟩, gbl, ⟨g1, g3⟩, glv⟩⟩ := h0
  have a7' : zi m0 0 23 = ((gMk S).length : Int) := a7
  have g1' : (gMk S).length ≤ 3 := g1
  rw [a7']
  by_cases c : (gMk S).length = 0
  · rw [if_pos (by omega), if_pos c, if_pos hR.1.1]
    exact x2_noC h0'
  · have hlt : (gMk S).length - 1 < (gMk S).length := by omega
    have hB0 : BvM m0 (489 * ((gMk S).length - 1 + 1)) (14 * ((gMk S).length - 1 + 1)) ((gMk S).getD ((gMk S).length - 1) bl0) := g3 ((gMk S).length - 1) hlt
    rw [show (gMk S).length - 1 + 1 = (gMk S).length by omega] at hB0
    obtain ⟨m1, f1, f2, f3⟩ := m_copy (v := 0) hS (x := (gMk S).length) (y := 0) (by omega) (by omega) c hB0
    have e0 : ((0 : Nat) : Int) = 0 := rfl
    rw [e0] at f1
    have hS1 := f2.s2 hS
    have em : ∀ _ : Unit, zi m1 0 23 = ((gMk S).length : Int) := fun _ => by rw [f2.i (by unfold cpP; omega)]; exact a7
    have e1 : ∀ _ : Unit, zsub ((gMk S).length : Int) 1 = (((gMk S).length - 1 : Nat) : Int) := fun _ => by rw [zsub_of (by unfold r32; omega)]; omega
    have hw : Fr (mkP 0) m1 (zwi m1 0 23 (((gMk S).length - 1 : Nat) : Int)) := Fr.wi m1 _ (Or.inl ⟨rfl, rfl⟩)
    have h : Fr (mkP 0) m0 (zwi m1 0 23 (((gMk S).length - 1 : Nat) : Int)) := (f2.mono (fun b j q => Or.inr q)).tr hw
    have hN : R2 (wSt (wMk (wBl S ((gMk S).getD ((gMk S).length - 1) bl0)) ((gMk S).take ((gMk S).length - 1))) 0) (zwi m1 0 23 (((gMk S).length - 1 : Nat) : Int)) := by
      refine ⟨hw.s2 hS1, ⟨?_, ?_, ?_, ?_, ?_, ?_, ?_, ?_⟩, fun t ht => h.tvM (by unfold mkP cpP; omega) (by unfold mkP cpP; omega) (fun j _ _ => by unfold mkP cpP; omega) (gtr t ht), ⟨t1, fun i hi => ?_⟩, ?_, ⟨?_, fun i hi => ?_⟩, fun p hp i hi => ?_⟩
      · rw [h.i (by unfold mkP cpP; omega)]; exact a1
      · rw [h.l (by unfold mkP cpP; omega)]; exact a2
      · rw [h.l (by unfold mkP cpP; omega)]; exact a3
      · rw [h.i (by unfold mkP cpP; omega)]; exact a4
      · rw [h.i (by unfold mkP cpP; omega)]; exact a5
      · rw [h.i (by unfold mkP cpP; omega)]; exact a6
      · rw [zi_wi_s]
        show _ = ((((gMk S).take ((gMk S).length - 1)).length : Nat) : Int)
        rw [List.length_take, Nat.min_eq_left (by omega)]
      · exact ⟨by rw [h.i (by unfold mkP cpP; omega)]; exact a8.1, by rw [h.1]; exact a8.2⟩
      · rw [h.i (by unfold mkP cpP; omega)]; exact t2 i hi
      · exact Fr.bvM (P := fun b j => b = 0 ∧ j = 23) (Fr.wi m1 _ ⟨rfl, rfl⟩) (fun j _ _ => by omega) (fun j _ _ => by omega) f3
      · show ((gMk S).take ((gMk S).length - 1)).length ≤ 3
        rw [List.length_take]; omega
      · have hi' : i < (gMk S).length - 1 := by
          have : i < ((gMk S).take ((gMk S).length - 1)).length := hi
          rw [List.length_take] at this
          omega
        show BvM _ (489 * (i + 1)) (14 * (i + 1)) (((gMk S).take ((gMk S).length - 1)).getD i bl0)
        rw [getD_take hi']
        exact h.bvM (fun j q1 q2 => by unfold mkP cpP; omega) (fun j q1 q2 => by unfold mkP cpP; omega) (g3 i (by show i < (gMk S).length; omega))
      · rw [h.i (by unfold mkP cpP; omega)]; exact glv p hp i hi
    rw [if_neg (by omega), if_neg c, j_X11_back_24, if_pos hS.1, if_pos hS.1, a7', f1, zC0_s, if_pos hS1.1, if_pos hS1.1, em (), e1 (), zT_wi, if_pos hS1.1, zi_wi_s]
    exact x2_yes hN
end MARKM
