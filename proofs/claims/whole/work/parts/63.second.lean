/-! A new cell behind all that the class holds; SECOND of both. -/
def Low (m m' : zM) : Prop := 159 ≤ zn m ∧ 159 ≤ zn m' ∧ ∀ b, b < 159 → zk m' b = zk m b ∧ ∀ j, zi m' b j = zi m b j ∧ zl m' b j = zl m b j ∧ zr m' b j = zr m b j
section LOW
variable {S : zSt} {m m' : zM} {b : Nat}
theorem Low.push (m : zM) (t len size : Nat) (h : 159 ≤ zn m) : Low m (zpush m t len size) := by
  refine ⟨h, Nat.le_succ_of_le h, fun b hb => ?_⟩
  have hne : ¬ b = m.1.1 := by unfold zn at h; omega
  refine ⟨if_neg hne, fun j => ⟨if_neg hne, if_neg hne, if_neg hne⟩⟩
theorem Low.i (h : Low m m') (hb : b < 159) (j : Nat) : zi m' b j = zi m b j := ((h.2.2 b hb).2 j).1
theorem Low.l (h : Low m m') (hb : b < 159) (j : Nat) : zl m' b j = zl m b j := ((h.2.2 b hb).2 j).2.1
theorem Low.r (h : Low m m') (hb : b < 159) (j : Nat) : zr m' b j = zr m b j := ((h.2.2 b hb).2 j).2.2
theorem Low.T (h : Low m m') (hb : b < 159) (t : Nat) : zT m' b t = zT m b t := by
  have h1 := h.1
  have h2 := h.2.1
  unfold zT
  rw [(h.2.2 b hb).1, decide_eq_true (show b < zn m' by omega), decide_eq_true (show b < zn m by omega)]
theorem Low.Ar {t n : Nat} (h : Low m m') (hb : b < 159) (hs : ArS m b t n) : ArS m' b t n := by
  have h2 := h.2.1
  have h3 := hs.1
  exact ⟨by omega, by rw [(h.2.2 b hb).1]; exact hs.2⟩
theorem Low.Ln (h : Low m m') (hb : b + 2 ≤ 159) (hs : LnS m b) : LnS m' b := by
  have h1 := h.1
  have h2 := h.2.1
  unfold LnS at hs ⊢
  rw [h.T (by omega), h.r (by omega), (h.2.2 (b + 1) (by omega)).1]
  exact ⟨hs.1, hs.2.1, by omega, hs.2.2.2⟩
theorem Low.Yr (h : Low m m') (hb : b + 4 ≤ 159) (hs : YrS m b) : YrS m' b := by
  unfold YrS
  rw [h.T (by omega), h.r (by omega), h.r (by omega), h.r (by omega)]
  exact ⟨hs.1, hs.2.1, h.Ar (by omega) hs.2.2.1, h.Ar (by omega) hs.2.2.2.1, h.Ar (by omega) hs.2.2.2.2⟩
theorem Low.Ld (h : Low m m') (hb : b + 28 ≤ 159) (hs : LdS m b) : LdS m' b := by
  obtain ⟨h1, h2, ⟨k1, k2, k5, k6, k7⟩, hy, hn, hl⟩ := hs
  unfold LdS
  rw [h.T (by omega), h.r (by omega), h.r (by omega), h.r (by omega), h.r (by omega), h.r (by omega), h.r (by omega), h.r (by omega)]
  exact ⟨h1, h2, ⟨h.Ar (by omega) k1, h.Ar (by omega) k2, h.Ar (by omega) k5, h.Ar (by omega) k6, h.Ar (by omega) k7⟩, h.Yr (by omega) hy, h.Ln (by omega) hn, fun i hi => ⟨by rw [h.r (by omega)]; exact (hl i hi).1, h.Ln (by omega) (hl i hi).2⟩⟩
theorem Low.lnV {num : Int} {lost : Bool} {es : List zEd} (h : Low m m') (hb : b + 2 ≤ 159) (hv : LnV m b num lost es) : LnV m' b num lost es := by
  unfold LnV at hv ⊢
  rw [h.i (by omega), h.i (by omega), h.i (by omega)]
  exact ⟨hv.1, hv.2.1, hv.2.2.1, hv.2.2.2.1, hv.2.2.2.2.1, fun i hi => by rw [h.i (by omega)]; exact hv.2.2.2.2.2 i hi⟩
theorem Low.ldV {L : zLd} (h : Low m m') (hb : b + 28 ≤ 159) (hv : LdV m b L) : LdV m' b L := by
  obtain ⟨⟨w1, w2, w3⟩, ⟨l1, l2, l3⟩, ⟨p1, p2, p3⟩, o1, o2⟩ := hv
  unfold LdV
  rw [h.i (by omega), h.i (by omega), h.i (by omega), h.i (by omega), h.i (by omega)]
  exact ⟨⟨w1, w2, fun i hi => by rw [h.l (by omega)]; exact w3 i hi⟩, ⟨l1, l2, fun i hi => h.lnV (by omega) (l3 i hi)⟩,
    ⟨p1, p2, fun i hi => by rw [h.l (by omega), h.i (by omega), h.l (by omega)]; exact p3 i hi⟩, o1, o2.1, fun i hi => by rw [h.i (by omega)]; exact o2.2 i hi⟩
theorem Low.Tr (h : Low m m') (hb : b + 2 ≤ 159) (hs : TrS m b) : TrS m' b := by
  unfold TrS; rw [h.T (by omega), h.r (by omega)]; exact ⟨hs.1, hs.2.1, h.Ar (by omega) hs.2.2⟩
theorem Low.trV {t : zTr} (h : Low m m') (hb : b + 2 ≤ 159) (hv : TrV m b t) : TrV m' b t := by
  unfold TrV at hv ⊢
  rw [h.i (by omega), h.i (by omega), h.i (by omega)]
  exact ⟨hv.1, hv.2.1, hv.2.2.1, hv.2.2.2.1, hv.2.2.2.2.1, fun i hi => by rw [h.l (by omega)]; exact hv.2.2.2.2.2 i hi⟩
theorem Low.yvC {y : zYr} (h : Low m m') (hb : b + 4 ≤ 159) (hv : YvC m b y) : YvC m' b y := by
  unfold YvC at hv ⊢
  rw [h.i (by omega), h.i (by omega), h.i (by omega)]
  exact ⟨hv.1, fun t ht => ⟨(hv.2 t ht).1, (hv.2 t ht).2.1, (hv.2 t ht).2.2.1, (hv.2 t ht).2.2.2.1, fun i hi => by rw [h.i (by omega), h.i (by omega)]; exact (hv.2 t ht).2.2.2.2 i hi⟩⟩
theorem Low.bvC {B : zBl} (h : Low m m') (hb : b + 28 ≤ 159) (hv : BvC m b B) : BvC m' b B := ⟨h.ldV hb hv.1, h.yvC (by omega) hv.2⟩
theorem Low.s1 (h : Low m m') (hs : S1 m) : S1 m' := by
  obtain ⟨t0, ⟨r0, r1, r2, r3, r4, r5, r6, r7, r8⟩, ⟨k1, k61, k64, k65, k66⟩, tt, tp, lf, l5, l33, lm⟩ := hs
  unfold S1 TpS LfS
  rw [h.T (by omega), h.r (by omega), h.r (by omega), h.r (by omega), h.r (by omega), h.r (by omega), h.r (by omega), h.r (by omega), h.r (by omega), h.r (by omega), h.T (by omega), h.r (by omega), h.r (by omega), h.T (by omega), h.r (by omega)]
  exact ⟨t0, ⟨r0, r1, r2, r3, r4, r5, r6, r7, r8⟩, ⟨h.Ar (by omega) k1, h.Ar (by omega) k61, h.Ar (by omega) k64, h.Ar (by omega) k65, h.Ar (by omega) k66⟩, fun t ht => ⟨by rw [h.r (by omega)]; exact (tt t ht).1, h.Tr (by omega) (tt t ht).2⟩, ⟨tp.1, tp.2.1, h.Ar (by omega) tp.2.2.1, h.Ar (by omega) tp.2.2.2⟩, ⟨lf.1, lf.2.1, h.Ar (by omega) lf.2.2⟩, h.Ld (by omega) l5, h.Ld (by omega) l33, fun i hi => ⟨by rw [h.r (by omega)]; exact (lm i hi).1, h.Ld (by omega) (lm i hi).2⟩⟩
theorem Low.tpV {bs : List Int} (h : Low m m') (hv : TpV m bs) : TpV m' bs := by
  unfold TpV at hv ⊢
  rw [h.i (by omega)]
  exact ⟨hv.1, hv.2.1, fun i hi => by rw [h.i (by omega)]; exact hv.2.2.1 i hi, fun i hi => by rw [h.l (by omega)]; exact hv.2.2.2 i hi⟩
theorem Low.g1 (h : Low m m') (hv : G1 S m) : G1 S m' := by
  obtain ⟨gtr, gtp, gbl, gmk, glv, gdf⟩ := hv
  have h3 := gmk.1
  refine ⟨fun t ht => h.trV (by omega) (gtr t ht), h.tpV gtp, h.bvC (by omega) gbl, ⟨gmk.1, fun i hi => h.bvC (by omega) (gmk.2 i hi)⟩, fun p hp i hi => ?_, fun i hi => by rw [h.i (by omega)]; exact gdf i hi⟩
  rw [h.i (by omega)]; exact glv p hp i hi
theorem Low.r1 (h : Low m m') (hR : R1 S m) : R1 (wN S (zn m', zs m')) m' := by
  obtain ⟨h1, ⟨a1, a2, a3, a4, a5, a6, a7, a8⟩, h3⟩ := hR
  refine ⟨h.s1 h1, ⟨?_, ?_, ?_, ?_, ?_, fun f hf => ⟨?_, ?_⟩, ?_, rfl⟩, h.g1 h3⟩
  · rw [h.i (by omega)]; exact a1
  · rw [h.l (by omega)]; exact a2
  · rw [h.l (by omega)]; exact a3
  · rw [h.i (by omega)]; exact a4
  · rw [h.i (by omega)]; exact a5
  · rw [h.i (by omega)]; exact (a6 f hf).1
  · rw [h.i (by omega)]; exact (a6 f hf).2
  · rw [h.i (by omega)]; exact a7
end LOW
/-- the fewest EDITS from so many first WORDS to so many -/
def lvR (x : Nat) (prev : Nat → Nat) (b : List Nat) (i : Nat) : Nat → Nat
  | 0 => i
  | j + 1 => min (prev j + (if x = b.getD j 0 then 0 else 1)) (min (prev (j + 1)) (lvR x prev b i j) + 1)
def lv (a b : List Nat) : Nat → Nat → Nat
  | 0 => fun j => j
  | i + 1 => lvR (a.getD i 0) (lv a b i) b (i + 1)
def o_second (S : zSt) (t n to k : Int) : Int × zSt :=
  if yLs (yRw S t n true) (yRw S to k true) = 0 then oYes S ((lv (yRow S t n) (yRow S to k) (yRow S t n).length (yRow S to k).length : Nat) : Int) else oNo S (yLs (yRw S t n true) (yRw S to k true))
theorem lvR_le (x : Nat) (prev : Nat → Nat) (b : List Nat) (i : Nat) : ∀ j, lvR x prev b i j ≤ i + j
  | 0 => Nat.le_refl _
  | j + 1 => by
    have := lvR_le x prev b i j
    unfold lvR
    omega
theorem lv_le (a b : List Nat) : ∀ i j, lv a b i j ≤ i + j
  | 0, j => by show j ≤ 0 + j; omega
  | i + 1, j => lvR_le _ _ _ _ _
theorem zmin_nat (a b : Nat) : zmin (a : Int) (b : Int) = ((min a b : Nat) : Int) := by
  unfold zmin
  split
  · rw [Nat.min_eq_right (by omega)]
  · rw [Nat.min_eq_left (by omega)]
section SECOND
variable {v : Nat} {S : zSt} {m : zM}
theorem ArS.wi {b t n c k : Nat} {x : Int} (h : ArS m b t n) : ArS (zwi m c k x) b t n := h
theorem c_dist_fill {y0 y2 : Int} {c w : Nat} (hw : w ≤ 8) : ∀ (n k : Nat) (m1 : zM), k + n = w + 1 → ArS m1 c 9 9 → (∀ q, q < k → zi m1 c q = (q : Int)) →
    ∃ m', zX zP 81 v 29 [some (.inr (.inl y0)), none, some (.inr (.inl y2)), none, some ((.inr (.inr (some c)))), some (.inl (w : Int)), some (.inl (k : Int)), none, none, none, none] [] m1 = zX zP 81 v 60 [some (.inr (.inl y0)), none, some (.inr (.inl y2)), none, some ((.inr (.inr (some c)))), some (.inl (w : Int)), some (.inl 1), none, none, none, none] [] m' ∧ Sam m1 m' c (c + 1) ∧ ∀ q, q ≤ w → zi m' c q = (q : Int) := by
  intro n
  induction n with
  | zero =>
    intro k m1 hk hc hv
    refine ⟨m1, ?_, Sam.rf _ _ _, fun q hq => hv q (by omega)⟩
    rw [j_X3_distance_29, if_pos (by omega), j_X3_distance_57]
  | succ n ih =>
    intro k m1 hk hc hv
    have hs : Sam m1 (zwi m1 c k (k : Int)) c (c + 1) := Sam.wi m1 _ _ (by omega) (by omega)
    obtain ⟨m', f1, f2, f3⟩ := ih (k + 1) (zwi m1 c k (k : Int)) (by omega) hc.wi (fun q hq => by
      by_cases e : q = k
      · subst e; exact zi_wi_s _ _ _ _
      · rw [zi_wi_n _ _ (Or.inr e)]; exact hv q (by omega))
    refine ⟨m', ?_, hs.tr f2, f3⟩
    have e1 : zadd (k : Int) 1 = ((k + 1 : Nat) : Int) := zadd_nat (k := 1) (by omega)
    rw [j_X3_distance_29, if_neg (by omega), if_pos (hc.Y (by decide)), hc.L, if_pos (by omega), if_pos (hc.A (by omega) (by omega)), Int.toNat_natCast, e1]
    exact f1
theorem c_dist_in {a b : List Nat} (ha : rOk a) (hb : rOk b) {c i : Nat} (hi : i < a.length) {x5 : Int} : ∀ (n j : Nat) (u9 u10 : Option zV) (m1 : zM), j + 1 + n = b.length + 1 → x5 = (b.length : Int) → ArS m1 c 9 9 → (∀ q, q ≤ j → zi m1 c q = ((lv a b (i + 1) q : Nat) : Int)) → (∀ q, j < q → q ≤ b.length → zi m1 c q = ((lv a b i q : Nat) : Int)) →
    ∃ m' y7 y8 u9' u10', zX zP 81 v 84 [some (.inr (.inl (zrow a))), none, some (.inr (.inl (zrow b))), none, some ((.inr (.inr (some c)))), some (.inl x5), some (.inl ((i + 1 : Nat) : Int)), some (.inl ((lv a b i j : Nat) : Int)), some (.inl ((j + 1 : Nat) : Int)), u9, u10] [] m1
      = zX zP 81 v 60 [some (.inr (.inl (zrow a))), none, some (.inr (.inl (zrow b))), none, some ((.inr (.inr (some c)))), some (.inl x5), some (.inl ((i + 2 : Nat) : Int)), y7, y8, u9', u10'] [] m' ∧ Sam m1 m' c (c + 1) ∧ ∀ q, q ≤ b.length → zi m' c q = ((lv a b (i + 1) q : Nat) : Int) := by
  have ha8 := ha.1
  have hb8 := hb.1
  intro n
  induction n with
  | zero =>
    intro j u9 u10 m1 hj hx hc h1 h2
    refine ⟨m1, some (.inl ((lv a b i j : Nat) : Int)), some (.inl ((j + 1 : Nat) : Int)), u9, u10, ?_, Sam.rf _ _ _, fun q hq => h1 q (by omega)⟩
    have e1 : zadd ((i + 1 : Nat) : Int) 1 = ((i + 2 : Nat) : Int) := zadd_nat (k := 1) (by omega)
    rw [j_X3_distance_84, if_pos (by omega), j_X3_distance_169, e1]
  | succ n ih =>
    intro j u9 u10 m1 hj hx hc h1 h2
    have z4 : ∀ _ : Unit, zadd ((min (lv a b i (j + 1)) (lv a b (i + 1) j) : Nat) : Int) 1 = ((min (lv a b i (j + 1)) (lv a b (i + 1) j) + 1 : Nat) : Int) := fun _ => by
      have b2 := lv_le a b i (j + 1)
      generalize lv a b i (j + 1) = q1 at b2 ⊢
      generalize lv a b (i + 1) j = q2
      exact zadd_nat (k := 1) (by omega)
    have hlast : ∀ d : Nat, d ≤ 1 → zadd ((lv a b i j : Nat) : Int) (d : Int) = ((lv a b i j + d : Nat) : Int) := fun d hd => by
      have b2 := lv_le a b i j
      generalize lv a b i j = q1 at b2 ⊢
      exact zadd_nat (by omega)
    have es : ∀ _ : Unit, lv a b (i + 1) (j + 1) = min (lv a b i j + (if a.getD i 0 = b.getD j 0 then 0 else 1)) (min (lv a b i (j + 1)) (lv a b (i + 1) j) + 1) := fun _ => rfl
    have w1 : ∀ _ : Unit, _ := fun _ => h1 j (Nat.le_refl _)
    have w2 : ∀ _ : Unit, _ := fun _ => h2 (j + 1) (by omega) (by omega)
    have z1 : zsub ((i + 1 : Nat) : Int) 1 = ((i : Nat) : Int) := by rw [zsub_of (by unfold r32; omega)]; omega
    have z2 : zsub ((j + 1 : Nat) : Int) 1 = ((j : Nat) : Int) := by rw [zsub_of (by unfold r32; omega)]; omega
    have z3 : zadd ((j + 1 : Nat) : Int) 1 = ((j + 1 + 1 : Nat) : Int) := zadd_nat (k := 1) (by omega)
    have hs : Sam m1 (zwi m1 c (j + 1) ((lv a b (i + 1) (j + 1) : Nat) : Int)) c (c + 1) := Sam.wi m1 _ _ (by omega) (by omega)
    obtain ⟨m', y7, y8, u9', u10', f1, f2, f3⟩ := ih (j + 1) (some (.inl ((lv a b i (j + 1) : Nat) : Int))) (some (.inl ((lv a b i j + (if a.getD i 0 = b.getD j 0 then 0 else 1) : Nat) : Int))) (zwi m1 c (j + 1) ((lv a b (i + 1) (j + 1) : Nat) : Int)) (by omega) hx hc.wi
      (fun q hq => by
        by_cases e : q = j + 1
        · subst e; exact zi_wi_s _ _ _ _
        · rw [zi_wi_n _ _ (Or.inr e)]; exact h1 q (by omega))
      (fun q hq hq2 => by rw [zi_wi_n _ _ (Or.inr (by omega))]; exact h2 q (by omega) hq2)
    refine ⟨m', y7, y8, u9', u10', ?_, hs.tr f2, f3⟩
    rw [j_X3_distance_84, if_neg (by omega), if_pos (hc.Y (by decide)), hc.L, if_pos (by omega), if_pos (hc.A (by omega) (by omega)), z1, s_wordAt ha (by omega), zC1_s, z2, s_wordAt hb (by omega), zC1_s, Int.toNat_natCast, w2 ()]
    by_cases e : a.getD i 0 = b.getD j 0
    · rw [if_pos (by rw [e]), j_X3_distance_132, z2, if_pos (hc.A (by omega) (by omega)), if_pos (hc.A (by omega) (by omega)), Int.toNat_natCast, Int.toNat_natCast, w1 (), zmin_nat, z4 (), z3]
      have es := es ()
      rw [if_pos e] at es f1
      have e0 := hlast 0 (by omega)
      rw [show ((0 : Nat) : Int) = 0 from rfl] at e0
      rw [e0, zmin_nat, ← es]
      exact f1
    · rw [if_neg (by omega), j_X3_distance_131, j_X3_distance_132, z2, if_pos (hc.A (by omega) (by omega)), if_pos (hc.A (by omega) (by omega)), Int.toNat_natCast, Int.toNat_natCast, w1 (), zmin_nat, z4 (), z3]
      have es := es ()
      rw [if_neg e] at es f1
      have e0 := hlast 1 (by omega)
      rw [show ((1 : Nat) : Int) = 1 from rfl] at e0
      rw [e0, zmin_nat, ← es]
      exact f1
theorem c_dist_out {a b : List Nat} (ha : rOk a) (hb : rOk b) {c : Nat} {x5 : Int} (hx : x5 = (b.length : Int)) : ∀ (n i : Nat) (u7 u8 u9 u10 : Option zV) (m1 : zM), i + n = a.length → ArS m1 c 9 9 → (∀ q, q ≤ b.length → zi m1 c q = ((lv a b i q : Nat) : Int)) →
    ∃ m', zX zP 81 v 60 [some (.inr (.inl (zrow a))), none, some (.inr (.inl (zrow b))), none, some ((.inr (.inr (some c)))), some (.inl x5), some (.inl ((i + 1 : Nat) : Int)), u7, u8, u9, u10] [] m1 = some (some (.inl ((lv a b a.length b.length : Nat) : Int)), m') ∧ Sam m1 m' c (c + 1) := by
  have ha8 := ha.1
  have hb8 := hb.1
  intro n
  induction n with
  | zero =>
    intro i u7 u8 u9 u10 m1 hi hc h1
    refine ⟨m1, ?_, Sam.rf _ _ _⟩
    have w1 := h1 b.length (Nat.le_refl _)
    rw [j_X3_distance_60, s_size ha, zC1_s, if_pos (by omega), j_X3_distance_175, hx, if_pos (hc.A (by omega) (by omega)), Int.toNat_natCast, w1, show i = a.length by omega]
  | succ n ih =>
    intro i u7 u8 u9 u10 m1 hi hc h1
    have w1 := h1 0 (Nat.zero_le _)
    have hs : Sam m1 (zwi m1 c 0 ((i + 1 : Nat) : Int)) c (c + 1) := Sam.wi m1 _ _ (by omega) (by omega)
    obtain ⟨m2, y7, y8, u9', u10', f1, f2, f3⟩ := c_dist_in (v := v) ha hb (c := c) (i := i) (by omega) (x5 := x5) b.length 0 u9 u10 (zwi m1 c 0 ((i + 1 : Nat) : Int)) (by omega) hx hc.wi
      (fun q hq => by
        have e : q = 0 := by omega
        subst e; exact zi_wi_s _ _ _ _)
      (fun q hq hq2 => by rw [zi_wi_n _ _ (Or.inr (by omega))]; exact h1 q hq2)
    obtain ⟨m', g1, g2⟩ := ih (i + 1) y7 y8 u9' u10' m2 (by omega) (f2.Ar hc.wi) f3
    refine ⟨m', ?_, (hs.tr f2).tr g2⟩
    rw [j_X3_distance_60, s_size ha, zC1_s, if_neg (by omega), if_pos (hc.A (by omega) (by omega)), if_pos (hc.A (by omega) (by omega)), show Int.toNat 0 = 0 from rfl, w1]
    exact f1.trans g1
theorem c_distance {a b : List Nat} (ha : rOk a) (hb : rOk b) {c : Nat} (hc : ArS m c 9 9) : ∃ m', zF zP 81 v [.inr (.inl (zrow a)), .inr (.inl (zrow b)), (.inr (.inr (some c)))] m = some (some (.inl ((lv a b a.length b.length : Nat) : Int)), m') ∧ Sam m m' c (c + 1) := by
  have hb8 := hb.1
  obtain ⟨m2, f1, f2, f3⟩ := c_dist_fill (v := v) (y0 := zrow a) (y2 := zrow b) (c := c) hb8 (b.length + 1) 0 m (by omega) hc (fun q hq => absurd hq (Nat.not_lt_zero q))
  obtain ⟨m', g1, g2⟩ := c_dist_out (v := v) ha hb (c := c) (x5 := (b.length : Int)) rfl a.length 0 none none none none m2 (by omega) (f2.Ar hc) (fun q hq => f3 q hq)
  refine ⟨m', ?_, f2.tr g2⟩
  have e8 : zmin (b.length : Int) 8 = (b.length : Int) := by unfold zmin; rw [if_neg (by omega)]
  rw [f_X3_distance, s_size hb, zC1_s, e8, if_neg (by omega), if_pos (hc.Y (by decide)), hc.L, if_pos (by omega), j_X3_distance_26]
  exact f1.trans g1
theorem p_second (hR : R1 S m) (t n to k : Int) : Ex1 (zF zP 203 v [(.inr (.inr (some 0))), .inl t, .inl n, .inl to, .inl k] m) (o_second S t n to k) := by
  have hS := hR.1
  have r8 : zr m 0 8 = some 66 := hS.2.1.2.2.2.2.2.2.2.2
  have k66 : ArS m 66 9 9 := hS.2.2.1.2.2.2.2
  have o1 : (1 : Int) = b01 true := rfl
  unfold o_second
  rw [f_X10_second, if_pos hS.1, o1, c_rowStatus hR, zC1_s, if_pos hS.1, c_rowStatus hR, zC1_s, c_lesser, zC1_s]
  by_cases h : yLs (yRw S t n true) (yRw S to k true) = 0
  · obtain ⟨ha, hb⟩ := yLs0 (yRw_ge _ _ _ _) (yRw_ge _ _ _ _) h
    obtain ⟨m', g1, g2⟩ := c_distance (v := 0) (m := m) (yRow_ok hR.w16 ha) (yRow_ok hR.w16 hb) k66
    have hR2 := g2.r1 (Or.inr (Or.inl ⟨by omega, by omega⟩)) hR
    rw [if_pos h, if_pos h, if_pos hS.1, c_rowIn hR ha, zC2_s, if_pos hS.1, c_rowIn hR hb, zC2_s, if_pos hS.1, r8, obind, g1, zC1_s, if_pos hR2.1.1, c_yes hR2.1, zC1_s, j_X10_second_58]
    exact x1_yes hR2
  · rw [if_neg h, if_neg h, j_X10_second_52, if_pos hS.1, c_no hS, zC1_s, j_X10_second_58]; exact x1_no hR
def farP (b j : Nat) : Prop := b = 12
theorem farP_scr {m m' : zM} (h : Fr farP m m') : Fr scr m m' := h.mono (fun c j q => by unfold farP at q; unfold scr; omega)
theorem m_nth (hR : R2 S m) {x n : Int} {told : Bool} (h : yRw S x n told = 0) {k : Nat} (hk : k < (yRow S x n).length) : zF zP 252 v [(.inr (.inr (some 0))), .inl x, .inl (k : Int)] m = some (some (.inr (.inl (((yRow S x n).getD k 0 : Nat) : Int))), m) := by
  obtain ⟨t, N, rfl, ht, rfl, h8, e0, e, hN, hr, hg⟩ := yRw0 h
  rw [hr] at hk ⊢
  rw [toRow_len hN] at hk
  obtain ⟨g1, g2⟩ := hg k hk
  have h1 : (toRow (gTr S t).2.2 N).getD k 0 = ((gTr S t).2.2.getD k 0).toNat := by
    unfold toRow
    rw [List.getD_eq_getElem?_getD, List.getElem?_map, List.getElem?_take, if_pos (by omega), List.getD_eq_getElem?_getD, List.getElem?_eq_getElem (by omega)]
    rfl
  rw [m_numberOf hR ht e (by omega), h1, Int.toNat_of_nonneg g1]
theorem m_far_in (hR : R2 S m) {x1 x2 x3 x4 : Int} {told : Bool} (ha : yRw S x1 x2 told = 0) (hb : yRw S x3 x4 told = 0) (h4 : x4 = ((yRow S x3 x4).length : Int)) (ha8 : (yRow S x1 x2).length ≤ 8) (hb8 : (yRow S x3 x4).length ≤ 8) {i : Nat} (hi : i ≤ (yRow S x1 x2).length) :
    ∀ (n k : Nat) (u7 : Option zV) (m1 : zM), k + n = (yRow S x3 x4).length + 1 → Fr farP m m1 →
      (∀ i' k', i' < i → k' ≤ (yRow S x3 x4).length → zi m1 12 (9 * i' + k') = ((lv (yRow S x1 x2) (yRow S x3 x4) i' k' : Nat) : Int)) →
      (∀ k', k' < k → zi m1 12 (9 * i + k') = ((lv (yRow S x1 x2) (yRow S x3 x4) i k' : Nat) : Int)) →
    ∃ m' u6' u7', zX zP 360 v 40 [some ((.inr (.inr (some 0)))), some (.inl x1), some (.inl x2), some (.inl x3), some (.inl x4), some (.inl (i : Int)), some (.inl (k : Int)), u7] [] m1
      = zX zP 360 v 31 [some ((.inr (.inr (some 0)))), some (.inl x1), some (.inl x2), some (.inl x3), some (.inl x4), some (.inl ((i + 1 : Nat) : Int)), u6', u7'] [] m' ∧ Fr farP m m' ∧
      ∀ i' k', i' < i + 1 → k' ≤ (yRow S x3 x4).length → zi m' 12 (9 * i' + k') = ((lv (yRow S x1 x2) (yRow S x3 x4) i' k' : Nat) : Int) := by
  intro n
  induction n with
  | zero =>
    intro k u7 m1 hk hF h1 h2
    have e1 : zadd (i : Int) 1 = ((i + 1 : Nat) : Int) := zadd_nat (k := 1) (by omega)
    refine ⟨m1, some (.inl (k : Int)), u7, ?_, hF, fun i' k' q1 q2 => ?_⟩
    · rw [j_X11_second_40, if_pos (by omega), j_X11_second_187, e1]
    · by_cases e : i' = i
      · subst e; exact h2 k' (by omega)
      · exact h1 i' k' (by omega) q2
  | succ n ih =>
    intro k u7 m1 hk hF h1 h2
    have hS := (hR.fr (farP_scr hF)).1
    have hR1 := hR.fr (farP_scr hF)
    have hA := hS.2.2.2.2.2.2.2
    have k12 : ArS m1 12 9 81 := hS.2.2.2.2.1.2.2.2
    have e9 : ∀ _ : Unit, zmul 9 (i : Int) = ((9 * i : Nat) : Int) := fun _ => zmul_nat (n := 9) (by omega)
    have ek : ∀ _ : Unit, zadd ((9 * i : Nat) : Int) (k : Int) = ((9 * i + k : Nat) : Int) := fun _ => zadd_nat (by omega)
    have ek1 : ∀ _ : Unit, zadd (k : Int) 1 = ((k + 1 : Nat) : Int) := fun _ => zadd_nat (k := 1) (by omega)
    have r12 : zr m1 0 33 = some 12 := hS.2.1.2.2.1.2.2.2
    have hput : ∀ (d : Nat), (∀ _ : Unit, d = lv (yRow S x1 x2) (yRow S x3 x4) i k) → ∃ m' u6' u7', zX zP 360 v 166 [some ((.inr (.inr (some 0)))), some (.inl x1), some (.inl x2), some (.inl x3), some (.inl x4), some (.inl (i : Int)), some (.inl (k : Int)), some (.inl (d : Int))] [] m1
      = zX zP 360 v 31 [some ((.inr (.inr (some 0)))), some (.inl x1), some (.inl x2), some (.inl x3), some (.inl x4), some (.inl ((i + 1 : Nat) : Int)), u6', u7'] [] m' ∧ Fr farP m m' ∧
      ∀ i' k', i' < i + 1 → k' ≤ (yRow S x3 x4).length → zi m' 12 (9 * i' + k') = ((lv (yRow S x1 x2) (yRow S x3 x4) i' k' : Nat) : Int) := by
      intro d hd
      have hw : Fr farP m1 (zwi m1 12 (9 * i + k) (d : Int)) := Fr.wi m1 _ rfl
      obtain ⟨m', u6', u7', f1, f2, f3⟩ := ih (k + 1) (some (.inl (d : Int))) (zwi m1 12 (9 * i + k) (d : Int)) (by omega) (hF.tr hw)
        (fun i' k' q1 q2 => by rw [zi_wi_n _ _ (Or.inr (by omega))]; exact h1 i' k' q1 q2)
        (fun k' q1 => by
          by_cases e : k' = k
          · subst e; rw [zi_wi_s, hd ()]
          · rw [zi_wi_n _ _ (Or.inr (by omega))]; exact h2 k' (by omega))
      refine ⟨m', u6', u7', ?_, f2, f3⟩
      rw [j_X11_second_166, if_pos hS.1, r12, obind, e9 (), ek (), if_pos (k12.A (by omega) (by omega)), Int.toNat_natCast, ek1 ()]
      exact f1
    rw [j_X11_second_40, if_neg (by omega)]
    cases i with
    | zero =>
      obtain ⟨m', u6', u7', f1, f2, f3⟩ := hput k (fun _ => rfl)
      refine ⟨m', u6', u7', ?_, f2, f3⟩
      rw [if_pos (show ((0 : Nat) : Int) = 0 from rfl), j_X11_second_111, if_neg (show ¬ 0 < ((0 : Nat) : Int) by omega)]
      exact f1
    | succ i =>
      rw [if_neg (show ¬ ((i + 1 : Nat) : Int) = 0 by omega), j_X11_second_57]
      cases k with
      | zero =>
        obtain ⟨m', u6', u7', f1, f2, f3⟩ := hput (i + 1) (fun _ => rfl)
        refine ⟨m', u6', u7', ?_, f2, f3⟩
        rw [if_pos (show ((0 : Nat) : Int) = 0 from rfl), j_X11_second_111, if_pos (show 0 < ((i + 1 : Nat) : Int) by omega), if_neg (show ¬ 0 < ((0 : Nat) : Int) by omega)]
        exact f1
      | succ k =>
        have z10 : ∀ _ : Unit, zsub ((9 * (i + 1) + (k + 1) : Nat) : Int) 10 = ((9 * i + k : Nat) : Int) := fun _ => by rw [zsub_of (by unfold r32; omega)]; omega
        have z9 : ∀ _ : Unit, zsub ((9 * (i + 1) + (k + 1) : Nat) : Int) 9 = ((9 * i + (k + 1) : Nat) : Int) := fun _ => by rw [zsub_of (by unfold r32; omega)]; omega
        have z1 : ∀ _ : Unit, zsub ((9 * (i + 1) + (k + 1) : Nat) : Int) 1 = ((9 * (i + 1) + k : Nat) : Int) := fun _ => by rw [zsub_of (by unfold r32; omega)]; omega
        have zi1 : ∀ _ : Unit, zsub ((i + 1 : Nat) : Int) 1 = ((i : Nat) : Int) := fun _ => by rw [zsub_of (by unfold r32; omega)]; omega
        have zk1 : ∀ _ : Unit, zsub ((k + 1 : Nat) : Int) 1 = ((k : Nat) : Int) := fun _ => by rw [zsub_of (by unfold r32; omega)]; omega
        have A10 : zA m1 12 9 ((9 * i + k : Nat) : Int) = true := k12.A (by omega) (by omega)
        have A9 : zA m1 12 9 ((9 * i + (k + 1) : Nat) : Int) = true := k12.A (by omega) (by omega)
        have A1 : zA m1 12 9 ((9 * (i + 1) + k : Nat) : Int) = true := k12.A (by omega) (by omega)
        have n1 := m_nth (v := 0) hR1 ha (k := i) (by omega)
        have n2 := m_nth (v := 0) hR1 hb (k := k) (by omega)
        have y1 : ∀ _ : Unit, _ := fun _ => h1 i k (by omega) (by omega)
        have y2 : ∀ _ : Unit, _ := fun _ => h1 i (k + 1) (by omega) (by omega)
        have y3 : ∀ _ : Unit, _ := fun _ => h2 k (by omega)
        have p1 : 0 < ((i + 1 : Nat) : Int) := by omega
        have p2 : 0 < ((k + 1 : Nat) : Int) := by omega
        have p3 : ¬ ((k + 1 : Nat) : Int) = 0 := by omega
        have hl : ∀ d : Nat, d ≤ 1 → zadd ((lv (yRow S x1 x2) (yRow S x3 x4) i k : Nat) : Int) (d : Int) = ((lv (yRow S x1 x2) (yRow S x3 x4) i k + d : Nat) : Int) := fun d hd => by
          have b2 := lv_le (yRow S x1 x2) (yRow S x3 x4) i k
          generalize lv (yRow S x1 x2) (yRow S x3 x4) i k = q1 at b2 ⊢
          exact zadd_nat (by omega)
        have hm : ∀ _ : Unit, zadd 1 ((min (lv (yRow S x1 x2) (yRow S x3 x4) i (k + 1)) (lv (yRow S x1 x2) (yRow S x3 x4) (i + 1) k) : Nat) : Int) = ((min (lv (yRow S x1 x2) (yRow S x3 x4) i (k + 1)) (lv (yRow S x1 x2) (yRow S x3 x4) (i + 1) k) + 1 : Nat) : Int) := fun _ => by
          have b2 := lv_le (yRow S x1 x2) (yRow S x3 x4) i (k + 1)
          generalize lv (yRow S x1 x2) (yRow S x3 x4) i (k + 1) = q1 at b2 ⊢
          generalize lv (yRow S x1 x2) (yRow S x3 x4) (i + 1) k = q2
          rw [Nat.add_comm _ 1]
          exact zadd_nat (n := 1) (by omega)
        have e0 : ((0 : Nat) : Int) = 0 := rfl
        have e1 : ((1 : Nat) : Int) = 1 := rfl
        obtain ⟨m', u6', u7', f1, f2, f3⟩ := hput (min (lv (yRow S x1 x2) (yRow S x3 x4) i k + (if (yRow S x1 x2).getD i 0 = (yRow S x3 x4).getD k 0 then 0 else 1)) (min (lv (yRow S x1 x2) (yRow S x3 x4) i (k + 1)) (lv (yRow S x1 x2) (yRow S x3 x4) (i + 1) k) + 1)) (fun _ => rfl)
        refine ⟨m', u6', u7', ?_, f2, f3⟩
        rw [if_neg p3, j_X11_second_67, if_pos hS.1, r12, obind, e9 (), ek (), z10 (), if_pos A10, if_pos hS.1, zi1 (), n1, zC2_s, if_pos hS.1, zk1 (), n2, zC2_s, Int.toNat_natCast, y1 ()]
        by_cases e : (yRow S x1 x2).getD i 0 = (yRow S x3 x4).getD k 0
        · have h0 := hl 0 (by omega)
          rw [e0] at h0
          rw [if_pos e] at f1
          rw [if_pos (zlcmp_eq.mpr (by rw [e])), j_X11_second_110, j_X11_second_111, h0, if_pos p1, if_pos p2, if_pos hS.1, r12, obind, e9 (), ek (), z9 (), if_pos A9, if_pos hS.1, obind, z1 (), if_pos A1, Int.toNat_natCast, Int.toNat_natCast, y2 (), y3 (), zmin_nat, hm (), zmin_nat]
          exact f1
        · have h0 := hl 1 (by omega)
          rw [e1] at h0
          rw [if_neg e] at f1
          rw [if_neg (fun q => e (by have := zlcmp_eq.mp q; omega)), j_X11_second_109, j_X11_second_110, j_X11_second_111, h0, if_pos p1, if_pos p2, if_pos hS.1, r12, obind, e9 (), ek (), z9 (), if_pos A9, if_pos hS.1, obind, z1 (), if_pos A1, Int.toNat_natCast, Int.toNat_natCast, y2 (), y3 (), zmin_nat, hm (), zmin_nat]
          exact f1
theorem m_far_out (hR : R2 S m) {x1 x2 x3 x4 : Int} {told : Bool} (ha : yRw S x1 x2 told = 0) (hb : yRw S x3 x4 told = 0) (h2 : x2 = ((yRow S x1 x2).length : Int)) (h4 : x4 = ((yRow S x3 x4).length : Int)) (ha8 : (yRow S x1 x2).length ≤ 8) (hb8 : (yRow S x3 x4).length ≤ 8) :
    ∀ (n i : Nat) (u6 u7 : Option zV) (m1 : zM), i + n = (yRow S x1 x2).length + 1 → Fr farP m m1 →
      (∀ i' k', i' < i → k' ≤ (yRow S x3 x4).length → zi m1 12 (9 * i' + k') = ((lv (yRow S x1 x2) (yRow S x3 x4) i' k' : Nat) : Int)) →
    ∃ m', zX zP 360 v 31 [some ((.inr (.inr (some 0)))), some (.inl x1), some (.inl x2), some (.inl x3), some (.inl x4), some (.inl (i : Int)), u6, u7] [] m1
      = some (some (.inl ((lv (yRow S x1 x2) (yRow S x3 x4) (yRow S x1 x2).length (yRow S x3 x4).length : Nat) : Int)), m') ∧ Fr farP m m' := by
  intro n
  induction n with
  | zero =>
    intro i u6 u7 m1 hi hF h1
    have hS := (hR.fr (farP_scr hF)).1
    have k12 : ArS m1 12 9 81 := hS.2.2.2.2.1.2.2.2
    have r12 : zr m1 0 33 = some 12 := hS.2.1.2.2.1.2.2.2
    have y := h1 (yRow S x1 x2).length (yRow S x3 x4).length (by omega) (Nat.le_refl _)
    have e9 : ∀ q : Nat, q ≤ 8 → zmul 9 (q : Int) = ((9 * q : Nat) : Int) := fun q hq => zmul_nat (n := 9) (by omega)
    have ek : ∀ q r : Nat, q ≤ 8 → r ≤ 8 → zadd ((9 * q : Nat) : Int) (r : Int) = ((9 * q + r : Nat) : Int) := fun q r h h' => zadd_nat (by omega)
    refine ⟨m1, ?_, hF⟩
    rw [j_X11_second_31, if_pos (by omega), j_X11_second_193, if_pos hS.1, r12, obind]
    have hh : zadd (zmul 9 x2) x4 = ((9 * (yRow S x1 x2).length + (yRow S x3 x4).length : Nat) : Int) := by
      rw [h2, h4, e9 _ ha8, ek _ _ ha8 hb8, ← h2, ← h4]
    rw [hh, if_pos (k12.A (by omega) (by omega)), Int.toNat_natCast, y]
  | succ n ih =>
    intro i u6 u7 m1 hi hF h1
    obtain ⟨m2, u6', u7', f1, f2, f3⟩ := m_far_in (v := v) hR ha hb h4 ha8 hb8 (i := i) (by omega) ((yRow S x3 x4).length + 1) 0 u7 m1 (by omega) hF h1 (fun k' q => absurd q (Nat.not_lt_zero _))
    obtain ⟨m', g1, g2⟩ := ih (i + 1) u6' u7' m2 (by omega) f2 f3
    refine ⟨m', ?_, g2⟩
    rw [j_X11_second_31, if_neg (by omega)]
    exact f1.trans g1
theorem w_second (hR : R2 S m) (t n to k : Int) : Ex2 (zF zP 360 v [(.inr (.inr (some 0))), .inl t, .inl n, .inl to, .inl k] m) (o_second S t n to k) := by
  have h1 := hR.th (x := 0)
  have o1 : (1 : Int) = b01 true := rfl
  unfold o_second
  rw [f_X11_second, if_pos hR.1.1, zT_wi, if_pos hR.1.1, o1, m_whyNoRows h1, zC1_s, zT_wi, if_pos hR.1.1, zT_wi, zT_wi, if_pos hR.1.1, zi_wi_s]
  by_cases h : yLs (yRw S t n true) (yRw S to k true) = 0
  · have h0 := hR.pre
    rw [if_neg (by rw [h]; decide), if_pos h, h]
    generalize zwi (zwi m 0 1 0) 0 0 0 = m0 at h0 ⊢
    obtain ⟨ha, hb⟩ := yLs0 (yRw_ge _ _ _ _) (yRw_ge _ _ _ _) h
    have ha' : yRw (wSt S 0) t n true = 0 := ha
    have hb' : yRw (wSt S 0) to k true = 0 := hb
    have la : n = ((yRow (wSt S 0) t n).length : Int) ∧ (yRow (wSt S 0) t n).length ≤ 8 := by
      obtain ⟨u, N, rfl, ht, rfl, h8, e0, e, hN, hr, hg⟩ := yRw0 ha'
      rw [hr, toRow_len hN]; exact ⟨rfl, h8⟩
    have lb : k = ((yRow (wSt S 0) to k).length : Int) ∧ (yRow (wSt S 0) to k).length ≤ 8 := by
      obtain ⟨u, N, rfl, ht, rfl, h8, e0, e, hN, hr, hg⟩ := yRw0 hb'
      rw [hr, toRow_len hN]; exact ⟨rfl, h8⟩
    obtain ⟨m', g1, g2⟩ := m_far_out (v := v) h0 ha' hb' la.1 lb.1 la.2 lb.2 ((yRow (wSt S 0) t n).length + 1) 0 none none m0 (by omega) (Fr.rf _ _) (fun i' k' q => absurd q (Nat.not_lt_zero _))
    rw [j_X11_second_28]
    have e0 : ((0 : Nat) : Int) = 0 := rfl
    rw [e0] at g1
    rw [g1]
    exact ⟨m', rfl, h0.fr (farP_scr g2)⟩
  · have hg := yLs_ge (yRw_ge S t n true) (yRw_ge S to k true)
    rw [if_pos (show 0 < yLs (yRw S t n true) (yRw S to k true) by omega), if_neg h]
    exact ⟨_, rfl, (x2_st0 hR).1⟩
end SECOND
