/-! The class's YEARS, written. -/
def yw (w b j : Nat) : Prop := (b = 2 ∧ 4 ≤ j) ∨ (41 ≤ b ∧ b < 44) ∨ (b = 44 ∧ w ≤ j)
def AyS (m : zM) (A : zAc) (w : Nat) : Prop := YrS m 41 ∧ zi m 41 4 = (A.1.length : Int) ∧ zi m 41 5 = (nst A : Int) ∧ zi m 41 6 = (w : Int) ∧ ∀ i, i < A.1.length → zi m 42 i = A.1.getD i 0 ∧ (A.2.1.getD i 0 = -7 ∨ zi m 43 i = A.2.1.getD i 0)
section YRSC
variable {v : Nat} {m m' : zM} {f : Nat → Nat} {n : Nat} {T : zTok} {L : zLd} {A : zAc} {w : Nat}
theorem zshl8 {k : Nat} (hk : k < 256) : zshl (k : Int) 8 = ((256 * k : Nat) : Int) := by
  have key : ∀ k : Fin 256, zshl ((k.val : Nat) : Int) 8 = ((256 * k.val : Nat) : Int) := by decide +kernel
  exact key ⟨k, hk⟩
theorem zshl16 {k : Nat} (hk : k < 256) : zshl (k : Int) 16 = ((65536 * k : Nat) : Int) := by
  have key : ∀ k : Fin 256, zshl ((k.val : Nat) : Int) 16 = ((65536 * k.val : Nat) : Int) := by decide +kernel
  exact key ⟨k, hk⟩
theorem zshl24 {k : Nat} (hk : k < 128) : zshl (k : Int) 24 = ((16777216 * k : Nat) : Int) := by
  have key : ∀ k : Fin 128, zshl ((k.val : Nat) : Int) 24 = ((16777216 * k.val : Nat) : Int) := by decide +kernel
  exact key ⟨k, hk⟩
def oOk (o : zOp) : Prop := o.1 < 256 ∧ o.2.1 < 256 ∧ o.2.2.1 < 256 ∧ o.2.2.2 < 128
theorem z_opv {o : zOp} (h : oOk o) : zor (zor (zor (o.1 : Int) (zshl (o.2.1 : Int) 8)) (zshl (o.2.2.1 : Int) 16)) (zshl (o.2.2.2 : Int) 24) = opv o := by
  obtain ⟨a, b, c, d⟩ := o
  obtain ⟨ha, hb, hc, hd⟩ := h
  have ha' : a < 256 := ha
  have hb' : b < 256 := hb
  have hc' : c < 256 := hc
  have hd' : d < 128 := hd
  have e1 : a ||| 256 * b = 256 * b + a := by
    rw [Nat.or_comm]; exact (Nat.two_pow_add_eq_or_of_lt (i := 8) ha' b).symm
  have e2 : (256 * b + a) ||| 65536 * c = 65536 * c + (256 * b + a) := by
    rw [Nat.or_comm]; exact (Nat.two_pow_add_eq_or_of_lt (i := 16) (by omega) c).symm
  have e3 : (65536 * c + (256 * b + a)) ||| 16777216 * d = 16777216 * d + (65536 * c + (256 * b + a)) := by
    rw [Nat.or_comm]; exact (Nat.two_pow_add_eq_or_of_lt (i := 24) (by omega) d).symm
  show zor (zor (zor (a : Int) (zshl (b : Int) 8)) (zshl (c : Int) 16)) (zshl (d : Int) 24) = ((a + 256 * b + 65536 * c + 16777216 * d : Nat) : Int)
  rw [zshl8 hb', zshl16 hc', zshl24 hd', zor_nat (by omega) (by omega), e1, zor_nat (by omega) (by omega), e2, zor_nat (by omega) (by omega), e3]
  congr 1; omega
theorem gSp_ok {P N W : Nat} {x : zSp} (h : gSp P N W x) (hP : P ≤ 6) (hN : N ≤ 8) (hW : W ≤ 8) : oOk x.1 := by
  unfold oOk
  rcases h with ⟨d, rfl, h1, h2⟩ | ⟨p, l, rfl, h1, h2⟩ | ⟨l, rfl, h1⟩ | ⟨l, rfl, h1⟩ | rfl | ⟨l, rfl, h1⟩ | ⟨p, w, rfl, h1, h2⟩ | ⟨p, s, b, rfl, h1, h2, h3⟩ | ⟨d, rfl, h1, h2⟩ | rfl
  all_goals (refine ⟨?_, ?_, ?_, ?_⟩ <;> dsimp only <;> omega)
theorem yw_fl (h : Fr (fun b _ => 41 ≤ b ∧ b < 45) m m') : FlC m m' := ⟨h.i (by omega), h.i (by omega)⟩
theorem y_add (h : YrS m 41) {p : Nat} (hp : zi m 41 4 = (p : Int)) (h60 : p < 60) (x : Int) : zF zP 149 v [(.inr (.inr (some 41))), .inl x] m = some (none, zwi (zwi m 42 p x) 41 4 ((p + 1 : Nat) : Int)) := by
  have h1 := h.1
  have r0 : zr m 41 0 = some 42 := h.2.1.1
  have k1 : ArS m 42 9 60 := h.2.2.1
  rw [f_X8_add, if_pos h1, hp, if_neg (by omega), if_pos h1, if_pos h1, r0, obind, if_pos (k1.Y (by decide)), k1.L, if_pos (by omega), if_pos h1, obind, if_pos h1, if_pos (k1.A (by omega) (by omega)), Int.toNat_natCast, zT_wi, if_pos h1, if_pos h1, zi_wi_n _ _ (Or.inl (by decide)), hp, zadd1 (by omega), j_X8_add_39]
theorem y_step (g : AyS m A w) (hW : WfA A w) (h30 : nst A ≠ 30) {x : zSp} (ho : oOk x.1) (e : Int) : ∃ m', zF zP 150 v [(.inr (.inr (some 41))), .inl (x.1.1 : Int), .inl (x.1.2.1 : Int), .inl (x.1.2.2.1 : Int), .inl (x.1.2.2.2 : Int)] m = some (some (.inl 1), m') ∧ Fr (fun b _ => 41 ≤ b ∧ b < 43) m m' ∧ AyS m' (pushA A x e) w := by
  obtain ⟨g1, g2, g3, g4, g5⟩ := g
  obtain ⟨w1, w2, w3, w4⟩ := hW
  have h1 := g1.1
  have s1 : Sam m (zwi (zwi m 42 A.1.length (opv x.1)) 41 4 ((A.1.length + 1 : Nat) : Int)) 41 43 := (Sam.wi m _ _ (by omega) (by omega)).tr (Sam.wi _ _ _ (by omega) (by omega))
  have s2 : Sam m (zwi (zwi (zwi m 42 A.1.length (opv x.1)) 41 4 ((A.1.length + 1 : Nat) : Int)) 41 5 ((nst A + 1 : Nat) : Int)) 41 43 := s1.tr (Sam.wi _ _ _ (by omega) (by omega))
  obtain ⟨p1, p2, p3⟩ := push_len A x e
  refine ⟨_, ?_, s2.fr (fun b j q1 q2 => ⟨q1, q2⟩), s2.Yr g1, ?_, ?_, ?_, fun i hi => ?_⟩
  · rw [f_X8_addStep, if_pos h1, z_opv ho, y_add g1 g2 (by omega), zC0_s, if_pos (by rw [s1.T]; exact h1), if_pos (by rw [s1.T]; exact h1), if_pos zb1, zi_wi_n _ _ (Or.inr (by decide)), zi_wi_n _ _ (Or.inl (by decide)), g3, zadd1 (by omega)]
  · rw [zi_wi_n _ _ (Or.inr (by decide)), zi_wi_s, p1]
  · rw [zi_wi_s, push_nst]
  · rw [zi_wi_n _ _ (Or.inr (by decide)), zi_wi_n _ _ (Or.inr (by decide)), zi_wi_n _ _ (Or.inl (by decide))]; exact g4
  · rw [p1] at hi
    rw [zi_wi_n (b := 42) _ _ (Or.inl (by decide)), zi_wi_n (b := 42) _ _ (Or.inl (by decide)), zi_wi_n (b := 43) _ _ (Or.inl (by decide)), zi_wi_n (b := 43) _ _ (Or.inl (by decide)), zi_wi_n (b := 43) _ _ (Or.inl (by decide))]
    show _ = (A.1 ++ [opv x.1]).getD i 0 ∧ ((A.2.1 ++ [(-7 : Int)]).getD i 0 = -7 ∨ zi m 43 i = (A.2.1 ++ [(-7 : Int)]).getD i 0)
    by_cases z : i = A.1.length
    · subst z
      rw [zi_wi_s, getD_app_r]
      refine ⟨rfl, Or.inl ?_⟩
      rw [← w1]; exact getD_app_r
    · rw [zi_wi_n _ _ (Or.inr z), getD_appl (by omega), getD_appl (by omega)]
      exact g5 i (by omega)
theorem y_begin (g : AyS m A w) (hW : WfA A w) (h30 : nst A ≠ 30) (hw : w < 3) {x : zSp} (ho : oOk x.1) (e : Int) : ∃ m', zF zP 151 v [(.inr (.inr (some 41))), .inl (x.1.1 : Int), .inl (x.1.2.1 : Int), .inl (x.1.2.2.1 : Int), .inl (x.1.2.2.2 : Int)] m = some (some (.inl 1), m') ∧ Fr (fun b j => (41 ≤ b ∧ b < 43) ∨ (b = 44 ∧ w ≤ j)) m m' ∧ AyS m' (pushA A x e) (w + 1) ∧ zi m' 44 w = (A.1.length : Int) := by
  obtain ⟨g1, g2, g3, g4, g5⟩ := g
  have hW' := hW
  obtain ⟨w1, w2, w3, w4⟩ := hW
  have h1 := g1.1
  have r2 : zr m 41 2 = some 44 := g1.2.1.2.2
  have k3 : ArS m 44 9 3 := g1.2.2.2.2
  have s1 : Sam m (zwi (zwi m 44 w (A.1.length : Int)) 41 6 ((w + 1 : Nat) : Int)) 41 45 := (Sam.wi m _ _ (by omega) (by omega)).tr (Sam.wi _ _ _ (by omega) (by omega))
  have f1 : Fr (fun b j => (41 ≤ b ∧ b < 43) ∨ (b = 44 ∧ w ≤ j)) m (zwi (zwi m 44 w (A.1.length : Int)) 41 6 ((w + 1 : Nat) : Int)) := (Fr.wi m _ (Or.inr ⟨rfl, Nat.le_refl _⟩)).tr (Fr.wi _ _ (Or.inl ⟨by decide, by decide⟩))
  have ga : AyS (zwi (zwi m 44 w (A.1.length : Int)) 41 6 ((w + 1 : Nat) : Int)) A (w + 1) := by
    refine ⟨s1.Yr g1, ?_, ?_, zi_wi_s _ _ _ _, fun i hi => ?_⟩
    · rw [zi_wi_n _ _ (Or.inr (by decide)), zi_wi_n _ _ (Or.inl (by decide))]; exact g2
    · rw [zi_wi_n _ _ (Or.inr (by decide)), zi_wi_n _ _ (Or.inl (by decide))]; exact g3
    · rw [zi_wi_n _ _ (Or.inl (by decide)), zi_wi_n _ _ (Or.inl (by decide)), zi_wi_n _ _ (Or.inl (by decide)), zi_wi_n _ _ (Or.inl (by decide))]; exact g5 i hi
  have st : ∀ (g : AyS (zwi (zwi m 44 w (A.1.length : Int)) 41 6 ((w + 1 : Nat) : Int)) A (w + 1)), ∃ m', zF zP 150 0 [(.inr (.inr (some 41))), .inl (x.1.1 : Int), .inl (x.1.2.1 : Int), .inl (x.1.2.2.1 : Int), .inl (x.1.2.2.2 : Int)] (zwi (zwi m 44 w (A.1.length : Int)) 41 6 ((w + 1 : Nat) : Int)) = some (some (.inl 1), m') ∧ Fr (fun b _ => 41 ≤ b ∧ b < 43) (zwi (zwi m 44 w (A.1.length : Int)) 41 6 ((w + 1 : Nat) : Int)) m' ∧ AyS m' (pushA A x e) (w + 1) := fun g => by
    obtain ⟨q1, q2, q3, q4, q5⟩ := g
    have hz : AyS (zwi (zwi (zwi m 44 w (A.1.length : Int)) 41 6 ((w + 1 : Nat) : Int)) 41 6 (w : Int)) A w := by
      refine ⟨(Sam.wi (lo := 41) (hi := 42) _ _ _ (by omega) (by omega)).Yr q1, ?_, ?_, zi_wi_s _ _ _ _, fun i hi => ?_⟩
      · rw [zi_wi_n _ _ (Or.inr (by decide))]; exact q2
      · rw [zi_wi_n _ _ (Or.inr (by decide))]; exact q3
      · rw [zi_wi_n _ _ (Or.inl (by decide)), zi_wi_n _ _ (Or.inl (by decide))]; exact q5 i hi
    have t1 := q1.1
    have s3 : Sam (zwi (zwi m 44 w (A.1.length : Int)) 41 6 ((w + 1 : Nat) : Int)) (zwi (zwi (zwi (zwi m 44 w (A.1.length : Int)) 41 6 ((w + 1 : Nat) : Int)) 42 A.1.length (opv x.1)) 41 4 ((A.1.length + 1 : Nat) : Int)) 41 43 := (Sam.wi _ _ _ (by omega) (by omega)).tr (Sam.wi _ _ _ (by omega) (by omega))
    generalize zwi (zwi m 44 w (A.1.length : Int)) 41 6 ((w + 1 : Nat) : Int) = m1 at q1 q2 q3 q4 q5 t1 s3 ⊢
    obtain ⟨p1, p2, p3⟩ := push_len A x e
    have s2 := s3.tr (Sam.wi (lo := 41) (hi := 43) (zwi (zwi m1 42 A.1.length (opv x.1)) 41 4 ((A.1.length + 1 : Nat) : Int)) (a := 41) 5 ((nst A + 1 : Nat) : Int) (by omega) (by omega))
    refine ⟨_, ?_, s2.fr (fun b j q1 q2 => ⟨q1, q2⟩), s2.Yr q1, ?_, ?_, ?_, fun i hi => ?_⟩
    · rw [f_X8_addStep, if_pos t1, z_opv ho, y_add q1 q2 (by omega), zC0_s, if_pos (by rw [s3.T]; exact t1), if_pos (by rw [s3.T]; exact t1), if_pos zb1, zi_wi_n _ _ (Or.inr (by decide)), zi_wi_n _ _ (Or.inl (by decide)), q3, zadd1 (by omega)]
    · rw [zi_wi_n _ _ (Or.inr (by decide)), zi_wi_s, p1]
    · rw [zi_wi_s, push_nst]
    · rw [zi_wi_n _ _ (Or.inr (by decide)), zi_wi_n _ _ (Or.inr (by decide)), zi_wi_n _ _ (Or.inl (by decide))]; exact q4
    · rw [p1] at hi
      rw [zi_wi_n (b := 42) _ _ (Or.inl (by decide)), zi_wi_n (b := 42) _ _ (Or.inl (by decide)), zi_wi_n (b := 43) _ _ (Or.inl (by decide)), zi_wi_n (b := 43) _ _ (Or.inl (by decide)), zi_wi_n (b := 43) _ _ (Or.inl (by decide))]
      show _ = (A.1 ++ [opv x.1]).getD i 0 ∧ ((A.2.1 ++ [(-7 : Int)]).getD i 0 = -7 ∨ zi m1 43 i = (A.2.1 ++ [(-7 : Int)]).getD i 0)
      by_cases z : i = A.1.length
      · subst z
        rw [zi_wi_s, getD_app_r]
        refine ⟨rfl, Or.inl ?_⟩
        rw [← w1]; exact getD_app_r
      · rw [zi_wi_n _ _ (Or.inr z), getD_appl (by omega), getD_appl (by omega)]
        exact q5 i (by omega)
  obtain ⟨m', a1, a2, a3⟩ := st ga
  refine ⟨m', ?_, f1.tr (a2.mono (fun b j q => Or.inl q)), a3, ?_⟩
  · rw [f_X8_begin, if_pos h1, g4, if_neg (by omega), if_pos h1, if_pos h1, r2, obind, if_pos (k3.Y (by decide)), k3.L, if_pos (by omega), if_pos h1, obind, if_pos h1, if_pos h1, if_pos (k3.A (by omega) (by omega)), Int.toNat_natCast, g2, zT_wi, if_pos h1, if_pos h1, zi_wi_n _ _ (Or.inl (by decide)), g4, zadd1 (by omega)]
    show zX zP 151 v 42 _ [] (zwi (zwi m 44 w (A.1.length : Int)) 41 6 ((w + 1 : Nat) : Int)) = _
    rw [j_X8_begin_42, if_pos ga.1.1, a1, zC1_s, if_pos zb1]
  · rw [a2.i (by omega), zi_wi_n _ _ (Or.inl (by decide)), zi_wi_s]
theorem y_end (g : AyS m A (w + 1)) (hW : WfA A (w + 1)) (hw : w < 3) {b : Nat} (s : Nat) (hb : zi m 44 w = (b : Int)) (hbl : b < A.1.length) : ∃ m', zF zP 152 v [(.inr (.inr (some 41)))] m = some (some (.inl 1), m') ∧ Fr (fun b _ => 41 ≤ b ∧ b < 44) m m' ∧ AyS m' (closeA A b s) w := by
  obtain ⟨g1, g2, g3, g4, g5⟩ := g
  obtain ⟨w1, w2, w3, w4⟩ := hW
  have h1 := g1.1
  have r1 : zr m 41 1 = some 43 := g1.2.1.2.1
  have r2 : zr m 41 2 = some 44 := g1.2.1.2.2
  have k2 : ArS m 43 9 60 := g1.2.2.2.1
  have k3 : ArS m 44 9 3 := g1.2.2.2.2
  have ew : zsub ((w + 1 : Nat) : Int) 1 = (w : Int) := by
    have e : ((w + 1 : Nat) : Int) - 1 = (w : Int) := by omega
    rw [zsub_of (by unfold r32; omega), e]
  have s1 : Sam m (zwi m 41 6 (w : Int)) 41 44 := Sam.wi m _ _ (by omega) (by omega)
  have hY1 := s1.Yr g1
  have t1 := hY1.1
  have q1 : zr (zwi m 41 6 (w : Int)) 41 1 = some 43 := hY1.2.1.2.1
  have q2 : zr (zwi m 41 6 (w : Int)) 41 2 = some 44 := hY1.2.1.2.2
  have c2 : ArS (zwi m 41 6 (w : Int)) 43 9 60 := hY1.2.2.2.1
  have c3 : ArS (zwi m 41 6 (w : Int)) 44 9 3 := hY1.2.2.2.2
  have e6 : zi (zwi m 41 6 (w : Int)) 41 6 = (w : Int) := zi_wi_s _ _ _ _
  have e44 : zi (zwi m 41 6 (w : Int)) 44 w = (b : Int) := by rw [zi_wi_n _ _ (Or.inl (by decide))]; exact hb
  have e4 : zi (zwi m 41 6 (w : Int)) 41 4 = (A.1.length : Int) := by rw [zi_wi_n _ _ (Or.inr (by decide))]; exact g2
  have e5 : zi (zwi m 41 6 (w : Int)) 41 5 = (nst A : Int) := by rw [zi_wi_n _ _ (Or.inr (by decide))]; exact g3
  have e42 : ∀ i, zi (zwi m 41 6 (w : Int)) 42 i = zi m 42 i := fun i => zi_wi_n _ _ (Or.inl (by decide))
  have e43 : ∀ i, zi (zwi m 41 6 (w : Int)) 43 i = zi m 43 i := fun i => zi_wi_n _ _ (Or.inl (by decide))
  rw [f_X8_end, if_pos h1, g4, if_pos (by omega), if_pos h1, if_pos h1, r2, obind, if_pos (k3.Y (by decide)), k3.L, if_neg (by omega), if_pos h1, if_pos h1, ew]
  generalize zwi m 41 6 (w : Int) = m1 at s1 hY1 t1 q1 q2 c2 c3 e6 e44 e4 e5 e42 e43 ⊢
  rw [if_pos t1, q2, obind, if_pos t1, e6, if_pos (c3.A (by omega) (by omega)), Int.toNat_natCast, e44, if_neg (by omega), if_pos t1, q1, obind, if_pos (c2.Y (by decide)), c2.L, if_pos (by omega), if_pos t1, if_pos t1, obind, if_pos (c2.Y (by decide)), c2.L, e4, if_pos (by omega), if_pos t1, obind, if_pos t1, if_pos (c2.A (by omega) (by omega)), Int.toNat_natCast]
  have s2 : Sam m1 (zwi m1 43 b (A.1.length : Int)) 41 44 := Sam.wi m1 _ _ (by omega) (by omega)
  have hY2 := s2.Yr hY1
  have d4 : zi (zwi m1 43 b (A.1.length : Int)) 41 4 = (A.1.length : Int) := by rw [zi_wi_n _ _ (Or.inl (by decide))]; exact e4
  have u1 := hY2.1
  have u2 : zr (zwi m1 43 b (A.1.length : Int)) 41 1 = some 43 := hY2.2.1.2.1
  have u3 : ArS (zwi m1 43 b (A.1.length : Int)) 43 9 60 := hY2.2.2.2.1
  dsimp only [zLet]
  rw [if_pos u1, u2, obind, if_pos u1, d4, if_pos (u3.A (by omega) (by omega)), Int.toNat_natCast]
  have s3 : Sam (zwi m1 43 b (A.1.length : Int)) (zwi (zwi m1 43 b (A.1.length : Int)) 43 A.1.length (b : Int)) 41 44 := Sam.wi _ _ _ (by omega) (by omega)
  have hY3 := s3.Yr hY2
  have f4 : zi (zwi (zwi m1 43 b (A.1.length : Int)) 43 A.1.length (b : Int)) 41 4 = (A.1.length : Int) := by rw [zi_wi_n _ _ (Or.inl (by decide))]; exact d4
  have s4 : Sam m1 (zwi (zwi (zwi (zwi m1 43 b (A.1.length : Int)) 43 A.1.length (b : Int)) 42 A.1.length 22) 41 4 ((A.1.length + 1 : Nat) : Int)) 41 44 := (s2.tr s3).tr ((Sam.wi _ _ _ (by omega) (by omega)).tr (Sam.wi _ _ _ (by omega) (by omega)))
  obtain ⟨l1, l2, l3⟩ := close_len A b s
  refine ⟨_, ?_, (s1.tr s4).fr (fun b j q1 q2 => ⟨q1, q2⟩), s4.Yr hY1, ?_, ?_, ?_, fun i hi => ?_⟩
  · show zX zP 152 v 84 _ [] (zwi (zwi m1 43 b (A.1.length : Int)) 43 A.1.length (b : Int)) = _
    rw [j_X8_end_84, if_pos hY3.1, y_add hY3 f4 (by omega), zC0_s, if_pos zb1]
  · rw [zi_wi_s, l1]
  · rw [zi_wi_n _ _ (Or.inr (by decide)), zi_wi_n _ _ (Or.inl (by decide)), zi_wi_n _ _ (Or.inl (by decide)), zi_wi_n _ _ (Or.inl (by decide)), e5, close_nst]
  · rw [zi_wi_n _ _ (Or.inr (by decide)), zi_wi_n _ _ (Or.inl (by decide)), zi_wi_n _ _ (Or.inl (by decide)), zi_wi_n _ _ (Or.inl (by decide)), e6]
  · rw [l1] at hi
    have lp : ((A.2.1.set b (A.1.length : Int)).length) = A.1.length := by rw [List.length_set]; exact w1
    rw [zi_wi_n (b := 42) _ _ (Or.inl (by decide)), zi_wi_n (b := 43) _ _ (Or.inl (by decide)), zi_wi_n (b := 43) _ _ (Or.inl (by decide))]
    show _ = (A.1 ++ [(22 : Int)]).getD i 0 ∧ (((A.2.1.set b (A.1.length : Int)) ++ [(b : Int)]).getD i 0 = -7 ∨ _ = ((A.2.1.set b (A.1.length : Int)) ++ [(b : Int)]).getD i 0)
    by_cases z : i = A.1.length
    · rw [z, zi_wi_s, zi_wi_s, getD_app_r]
      refine ⟨rfl, Or.inr ?_⟩
      rw [getD_appr (by omega), lp, Nat.sub_self]; rfl
    · rw [zi_wi_n (b := 42) _ _ (Or.inr z), zi_wi_n (b := 42) _ _ (Or.inl (by decide)), zi_wi_n (b := 42) _ _ (Or.inl (by decide)), zi_wi_n (b := 43) _ _ (Or.inr z), getD_appl (by omega), getD_appl (by omega), getD_set, e42]
      refine ⟨(g5 i (by omega)).1, ?_⟩
      by_cases zb : b = i
      · subst zb
        rw [if_pos ⟨rfl, by omega⟩, zi_wi_s]; exact Or.inr rfl
      · rw [if_neg (fun q => zb q.1), zi_wi_n _ _ (Or.inr (fun q => zb q.symm)), e43]
        exact (g5 i (by omega)).2
end YRSC
