/-! The reference's reading: FAULTS, NUMBERS, NAMES. -/
def sPrs (L : zLd) (T : zTok) : zRd Nat := if isNm T = true then (if pnum L (T.2.2.2.1 : Int) = -1 then .inl (3, T.2.1) else .inr (T, (pnum L (T.2.2.2.1 : Int)).toNat)) else .inl (kMis T)
def nxR (f : Nat → Nat) (n : Nat) (T : zTok) (s : zRd Nat) : zRd Nat := match s with
  | .inl e => .inl e
  | .inr q => .inr (nxT f n T, q.2)
theorem rWrd_s (L : zLd) (f : Nat → Nat) (n : Nat) (T : zTok) : rWrd L f n T = nxR f n T (sWrd L T) := rfl
theorem rPrs_s (L : zLd) (f : Nat → Nat) (n : Nat) (T : zTok) : rPrs L f n T = nxR f n T (sPrs L T) := by
  unfold rPrs sPrs nxR
  by_cases h : isNm T = true
  · rw [if_pos h, if_pos h]
    by_cases h2 : pnum L (T.2.2.2.1 : Int) = -1
    · rw [if_pos h2, if_pos h2]
    · rw [if_neg h2, if_neg h2]
  · rw [if_neg h, if_neg h]
/-- names and numbers of a block -/
def NmV (m : zM) (b : Nat) (L : zLd) : Prop :=
  (zi m 5 (489 * b) = (L.1.length : Int) ∧ L.1.length ≤ 8 ∧ ∀ i, i < L.1.length → zl m 7 (14 * b + i) = L.1.getD i 0) ∧
  (zi m 5 (489 * b + 2) = (L.2.2.1.length : Int) ∧ L.2.2.1.length ≤ 6 ∧ ∀ i, i < L.2.2.1.length → zl m 7 (14 * b + 8 + i) = (L.2.2.1.getD i ps0).1) ∧
  (zi m 5 (489 * b + 1) = (L.2.1.length : Int) ∧ L.2.1.length ≤ 8 ∧ ∀ i, i < L.2.1.length → zi m 5 (489 * b + 5 + i) = (L.2.1.getD i ln0).1)
theorem BvM.nm {m : zM} {b : Nat} {B : zBl} (h : BvM m (489 * b) (14 * b) B) : NmV m b B.1 :=
  ⟨h.1, ⟨h.2.2.1.1, h.2.2.1.2.1, fun i hi => (h.2.2.1.2.2 i hi).1.1⟩, ⟨h.2.1.1, h.2.1.2.1, fun i hi => (h.2.1.2.2 i hi).1⟩⟩
def RdM {α : Type} (m : zM) (f : Nat → Nat) (n : Nat) (out : Option zO) (val : α → Int) (r : zRd α) : Prop := match r with
  | .inl e => out = some (some (.inl 0), bdM m e) ∧ 0 < e.1
  | .inr q => ∃ m', out = some (some (.inl (val q.2)), m') ∧ Fr tmP m m' ∧ GdM m' f n q.1
section READM2
variable {v : Nat} {m m' : zM} {f : Nat → Nat} {n : Nat} {T : zTok} {L : zLd} {e : Nat × Nat}
theorem bdM_fr (m : zM) (e : Nat × Nat) : Fr flP m (bdM m e) := (Fr.wi m _ ⟨rfl, Or.inl rfl⟩).tr (Fr.wi _ _ ⟨rfl, Or.inr rfl⟩)
theorem TxM.fl (hx : TxM m f n) (h : Fr flP m m') : TxM m' f n := hx.fr h (by unfold flP; omega) (fun j => by unfold flP; omega)
theorem GdM.bd (g : GdM m f n T) (he : 0 < e.1) : BdM (bdM m e) f n e := ⟨g.1.fl (bdM_fr m e), by unfold bdM; rw [zi_wi_n _ _ (Or.inr (by decide)), zi_wi_s], zi_wi_s _ _ _ _, he⟩
theorem m_failG (g : GdM m f n T) (k p : Nat) : zF zP 278 v [(.inr (.inr (some 0))), .inl (k : Int), .inl (p : Int)] m = some (none, bdM m (k, p)) := by
  rw [f_X11_fail, if_pos g.1.t, g.2.2.2, if_neg (by decide), j_X11_fail_8, if_pos g.1.t, zT_wi, if_pos g.1.t]; rfl
theorem m_failB (b : BdM m f n e) (x y : Int) : zF zP 278 v [(.inr (.inr (some 0))), .inl x, .inl y] m = some (none, m) := by
  have := b.2.2.2
  rw [f_X11_fail, if_pos b.1.t, b.2.1, if_pos (by omega)]
theorem m_amissG (g : GdM m f n T) : zF zP 279 v [(.inr (.inr (some 0)))] m = some (none, bdM m (kMis T)) := by
  have f1 : zF zP 278 0 [(.inr (.inr (some 0))), .inl 1, .inl (T.2.1 : Int)] m = some (none, bdM m (1, T.2.1)) := m_failG g 1 T.2.1
  have f2 : zF zP 278 0 [(.inr (.inr (some 0))), .inl 2, .inl (T.2.1 : Int)] m = some (none, bdM m (2, T.2.1)) := m_failG g 2 T.2.1
  rw [f_X11_amiss, if_pos g.1.t, g.2.1.1]
  unfold kMis
  by_cases h : T.1 = 1
  · rw [if_pos ((kdM_1 g.2.2.1.1).mpr h), if_pos h, j_X11_amiss_14, if_pos g.1.t, if_pos g.1.t, g.2.1.2.1, f1, zC0_s]
  · rw [if_neg (fun w => h ((kdM_1 g.2.2.1.1).mp w)), if_neg h, j_X11_amiss_13, j_X11_amiss_14, if_pos g.1.t, if_pos g.1.t, g.2.1.2.1, f2, zC0_s]
theorem m_adv (g : GdM m f n T) (hR : TkR n T) : ∃ m', zF zP 259 v [(.inr (.inr (some 0)))] m = some (none, m') ∧ Fr tmP m m' ∧ GdM m' f n (nxT f n T) := by
  obtain ⟨m', f1, f2, f3⟩ := m_advance (v := v) g.1 hR.2.1 g.2.1.2.2.1
  exact ⟨m', f1, f2, g.1.tk f2, f3, tokAt_W, by rw [f2.i (by unfold tmP; omega)]; exact g.2.2.2⟩
theorem m_mustB (b : BdM m f n e) (x : Int) : zF zP 280 v [(.inr (.inr (some 0))), .inl x] m = some (none, m) := by
  have := b.2.2.2
  rw [f_X11_must, if_pos b.1.t, b.2.1, if_pos (by omega)]
theorem m_mustF (g : GdM m f n T) : zF zP 280 v [(.inr (.inr (some 0))), .inl 0] m = some (none, bdM m (kMis T)) := by
  rw [f_X11_must, if_pos g.1.t, g.2.2.2, if_neg (by decide), j_X11_must_8, if_pos rfl, j_X11_must_19, if_pos g.1.t, m_amissG g, zC0_s, j_X11_must_23]
theorem m_mustT (g : GdM m f n T) (hR : TkR n T) : ∃ m', zF zP 280 v [(.inr (.inr (some 0))), .inl 1] m = some (none, m') ∧ Fr tmP m m' ∧ GdM m' f n (nxT f n T) := by
  obtain ⟨m', f1, f2, f3⟩ := m_adv (v := 0) g hR
  exact ⟨m', by rw [f_X11_must, if_pos g.1.t, g.2.2.2, if_neg (by decide), j_X11_must_8, if_neg (by decide), if_pos g.1.t, f1, zC0_s, j_X11_must_23], f2, f3⟩
theorem m_countB (b : BdM m f n e) (lo hi : Int) : zF zP 281 v [(.inr (.inr (some 0))), .inl lo, .inl hi] m = some (some (.inl 0), m) := by
  have := b.2.2.2
  rw [f_X11_count, if_pos b.1.t, b.2.1, if_neg (by omega), j_X11_count_19, if_pos b.1.t, b.2.1, if_neg (by omega), j_X11_count_50, if_pos b.1.t, b.2.1, if_pos (by omega)]
theorem m_count (g : GdM m f n T) (hR : TkR n T) (lo hi : Nat) : RdM m f n (zF zP 281 v [(.inr (.inr (some 0))), .inl (lo : Int), .inl (hi : Int)] m) (fun x : Nat => (x : Int)) (rNum f n T lo hi) := by
  rw [f_X11_count, if_pos g.1.t, g.2.2.2, if_pos rfl, if_pos g.1.t, g.2.1.1]
  unfold rNum
  by_cases h : T.1 = 3
  · rw [if_pos (kdM_3.mpr h), if_pos h, j_X11_count_19, if_pos g.1.t, g.2.2.2, if_pos rfl, if_pos g.1.t, g.2.1.2.2.2.2 (Or.inl h), m_isIn, zC1_s]
    by_cases c : lo ≤ T.2.2.2.2 ∧ T.2.2.2.2 ≤ hi
    · have hin : inR (T.2.2.2.2 : Int) (lo : Int) (hi : Int) = true := inR_t.mpr (by omega)
      obtain ⟨m', f1, f2, f3⟩ := m_adv (v := 0) g hR
      rw [if_pos c, hin, if_neg nb1, j_X11_count_50, if_pos g.1.t, g.2.2.2, if_neg (by decide), j_X11_count_59, if_pos g.1.t, if_pos g.1.t, g.2.1.2.2.2.2 (Or.inl h), f1, zC0_s]
      exact ⟨m', rfl, f2, f3⟩
    · have hin : inR (T.2.2.2.2 : Int) (lo : Int) (hi : Int) = false := inR_f.mpr (by omega)
      have hf : zF zP 278 0 [(.inr (.inr (some 0))), .inl 4, .inl (T.2.1 : Int)] m = some (none, bdM m (4, T.2.1)) := m_failG g 4 T.2.1
      have b := g.bd (e := (4, T.2.1)) (Nat.succ_pos 3)
      rw [if_neg c, hin, if_pos yb0, if_pos g.1.t, if_pos g.1.t, g.2.1.2.1, hf, zC0_s, j_X11_count_50, if_pos b.1.t, b.2.1, if_pos (show (0 : Int) < ((4 : Nat) : Int) by decide)]
      exact ⟨rfl, Nat.succ_pos 3⟩
  · have b := g.bd (e := kMis T) (kMis_pos T)
    have bp := kMis_pos T
    rw [if_neg (fun w => h (kdM_3.mp w)), if_neg h, if_pos g.1.t, m_amissG g, zC0_s, j_X11_count_19, if_pos b.1.t, b.2.1, if_neg (by omega), j_X11_count_50, if_pos b.1.t, b.2.1, if_pos (by omega)]
    exact ⟨rfl, bp⟩
theorem m_manyW (hS : S2 m) {b : Nat} (hb : b ≤ 4) (hN : NmV m b L) : zF zP 287 v [(.inr (.inr (some 0))), .inl (b : Int), .inl 0] m = some (some (.inl (L.1.length : Int)), m) := by
  have e1 : ∀ _ : Unit, zmul 489 (b : Int) = ((489 * b : Nat) : Int) := fun _ => zmul_nat (n := 489) (by omega)
  have e2 : ∀ _ : Unit, zadd ((489 * b : Nat) : Int) 0 = ((489 * b : Nat) : Int) := fun _ => zadd_nat (k := 0) (by omega)
  rw [f_X11_manyOf, if_pos hS.1, hS.2.1.2.1.1, obind, if_pos rfl, j_X11_manyOf_18, e1 (), e2 (), if_pos (A5 hS (by omega) (by omega)), Int.toNat_natCast, hN.1.1]
theorem m_manyP (hS : S2 m) {b : Nat} (hb : b ≤ 4) (hN : NmV m b L) : zF zP 287 v [(.inr (.inr (some 0))), .inl (b : Int), .inl 1] m = some (some (.inl (L.2.2.1.length : Int)), m) := by
  have e1 : ∀ _ : Unit, zmul 489 (b : Int) = ((489 * b : Nat) : Int) := fun _ => zmul_nat (n := 489) (by omega)
  have e2 : ∀ _ : Unit, zadd ((489 * b : Nat) : Int) 2 = ((489 * b + 2 : Nat) : Int) := fun _ => zadd_nat (k := 2) (by omega)
  rw [f_X11_manyOf, if_pos hS.1, hS.2.1.2.1.1, obind, if_neg (by decide), j_X11_manyOf_17, j_X11_manyOf_18, e1 (), e2 (), if_pos (A5 hS (by omega) (by omega)), Int.toNat_natCast, hN.2.1.1]
theorem m_namedW (hS : S2 m) {b : Nat} (hb : b ≤ 4) (hN : NmV m b L) {y : Int} (hy : zl m 0 19 = y) : zF zP 288 v [(.inr (.inr (some 0))), .inl (b : Int), .inl 0] m = some (some (.inl (wnum L y)), m) := by
  have h8 := hN.1.2.1
  have e14 : zmul 14 (b : Int) = ((14 * b : Nat) : Int) := zmul_nat (n := 14) (by omega)
  have e80 : zmul 8 (0 : Int) = 0 := by decide
  have k7 : ArS m 7 10 70 := hS.2.2.2.1.2.2.1
  have r22 : zr m 0 22 = some 7 := hS.2.1.2.1.2.2.1
  have loop : ∀ (d k : Nat), k + d = L.1.length → zX zP 288 v 2 [some (.inr (.inr (some 0))), some (.inl (b : Int)), some (.inl 0), some (.inl (k : Int))] [] m = some (some (.inl (firstK (fun i => decide (L.1.getD i 0 = y)) d k)), m) := by
    intro d
    induction d with
    | zero =>
      intro k hk
      rw [j_X11_named_2, if_pos hS.1, m_manyW hS hb hN, zC1_s, if_neg (by omega), j_X11_named_44]; rfl
    | succ d ih =>
      intro k hk
      have ea : ∀ _ : Unit, zadd (zadd (zmul 14 (b : Int)) (zmul 8 0)) (k : Int) = ((14 * b + k : Nat) : Int) := fun _ => by
        rw [e14, e80, show zadd ((14 * b : Nat) : Int) 0 = ((14 * b : Nat) : Int) from zadd_nat (k := 0) (by omega)]
        exact zadd_nat (by omega)
      rw [j_X11_named_2, if_pos hS.1, m_manyW hS hb hN, zC1_s, if_pos (by omega), if_pos hS.1, r22, obind, ea (), if_pos (k7.A (by omega) (by omega)), if_pos hS.1, Int.toNat_natCast, hN.1.2.2 k (by omega), hy]
      unfold firstK
      by_cases q : L.1.getD k 0 = y
      · rw [if_pos (zlcmp_eq.mpr q), if_pos (decide_eq_true q)]
      · rw [if_neg (fun w => q (zlcmp_eq.mp w)), j_X11_named_38, zadd1 (by omega), ih (k + 1) (by omega), if_neg (fun w => q (of_decide_eq_true w))]
  rw [f_X11_named]
  exact loop L.1.length 0 (Nat.zero_add _)
theorem m_namedP (hS : S2 m) {b : Nat} (hb : b ≤ 4) (hN : NmV m b L) {y : Int} (hy : zl m 0 19 = y) : zF zP 288 v [(.inr (.inr (some 0))), .inl (b : Int), .inl 1] m = some (some (.inl (pnum L y)), m) := by
  have h6 := hN.2.1.2.1
  have e14 : zmul 14 (b : Int) = ((14 * b : Nat) : Int) := zmul_nat (n := 14) (by omega)
  have e81 : zmul 8 (1 : Int) = 8 := by decide
  have k7 : ArS m 7 10 70 := hS.2.2.2.1.2.2.1
  have r22 : zr m 0 22 = some 7 := hS.2.1.2.1.2.2.1
  have loop : ∀ (d k : Nat), k + d = L.2.2.1.length → zX zP 288 v 2 [some (.inr (.inr (some 0))), some (.inl (b : Int)), some (.inl 1), some (.inl (k : Int))] [] m = some (some (.inl (firstK (fun i => decide ((L.2.2.1.getD i ps0).1 = y)) d k)), m) := by
    intro d
    induction d with
    | zero =>
      intro k hk
      rw [j_X11_named_2, if_pos hS.1, m_manyP hS hb hN, zC1_s, if_neg (by omega), j_X11_named_44]; rfl
    | succ d ih =>
      intro k hk
      have ea : ∀ _ : Unit, zadd (zadd (zmul 14 (b : Int)) (zmul 8 1)) (k : Int) = ((14 * b + 8 + k : Nat) : Int) := fun _ => by
        rw [e14, e81, show zadd ((14 * b : Nat) : Int) 8 = ((14 * b + 8 : Nat) : Int) from zadd_nat (k := 8) (by omega)]
        exact zadd_nat (by omega)
      rw [j_X11_named_2, if_pos hS.1, m_manyP hS hb hN, zC1_s, if_pos (by omega), if_pos hS.1, r22, obind, ea (), if_pos (k7.A (by omega) (by omega)), if_pos hS.1, Int.toNat_natCast, hN.2.1.2.2 k (by omega), hy]
      unfold firstK
      by_cases q : (L.2.2.1.getD k ps0).1 = y
      · rw [if_pos (zlcmp_eq.mpr q), if_pos (decide_eq_true q)]
      · rw [if_neg (fun w => q (zlcmp_eq.mp w)), j_X11_named_38, zadd1 (by omega), ih (k + 1) (by omega), if_neg (fun w => q (of_decide_eq_true w))]
  rw [f_X11_named]
  exact loop L.2.2.1.length 0 (Nat.zero_add _)
theorem m_lineByB (hS : S2 m) {b : Nat} (hb : b ≤ 4) (hN : NmV m b L) (x : Int) : zF zP 292 v [(.inr (.inr (some 0))), .inl (b : Int), .inl x] m = some (some (.inl (lnum L x)), m) := by
  have h8 := hN.2.2.2.1
  have e489 : ∀ _ : Unit, zmul 489 (b : Int) = ((489 * b : Nat) : Int) := fun _ => zmul_nat (n := 489) (by omega)
  have e1 : ∀ _ : Unit, zadd (zmul 489 (b : Int)) 1 = ((489 * b + 1 : Nat) : Int) := fun _ => by rw [e489 ()]; exact zadd_nat (k := 1) (by omega)
  have loop : ∀ (d k : Nat), k + d = L.2.1.length → zX zP 292 v 2 [some (.inr (.inr (some 0))), some (.inl (b : Int)), some (.inl x), some (.inl (k : Int))] [] m = some (some (.inl (firstK (fun i => decide ((L.2.1.getD i ln0).1 = x)) d k)), m) := by
    intro d
    induction d with
    | zero =>
      intro k hk
      rw [j_X11_lineBy_2, if_pos hS.1, hS.2.1.2.1.1, obind, e1 (), if_pos (A5 hS (by omega) (by omega)), Int.toNat_natCast, hN.2.2.1, if_neg (by omega), j_X11_lineBy_44]; rfl
    | succ d ih =>
      intro k hk
      have e5 : ∀ _ : Unit, zadd (zadd (zmul 489 (b : Int)) 5) (k : Int) = ((489 * b + 5 + k : Nat) : Int) := fun _ => by
        rw [e489 (), show zadd ((489 * b : Nat) : Int) 5 = ((489 * b + 5 : Nat) : Int) from zadd_nat (k := 5) (by omega)]
        exact zadd_nat (by omega)
      rw [j_X11_lineBy_2, if_pos hS.1, hS.2.1.2.1.1, obind, e1 (), if_pos (A5 hS (by omega) (by omega)), Int.toNat_natCast, hN.2.2.1, if_pos (by omega), if_pos hS.1, obind, e5 (), if_pos (A5 hS (by omega) (by omega)), Int.toNat_natCast, hN.2.2.2.2 k (by omega)]
      unfold firstK
      by_cases q : (L.2.1.getD k ln0).1 = x
      · rw [if_pos q, if_pos (decide_eq_true q)]
      · rw [if_neg q, j_X11_lineBy_38, zadd1 (by omega), ih (k + 1) (by omega), if_neg (fun w => q (of_decide_eq_true w))]
  rw [f_X11_lineBy]
  exact loop L.2.1.length 0 (Nat.zero_add _)
theorem m_word19 (g : GdM m f n T) (h : isNm T = true) : zl m 0 19 = (T.2.2.2.1 : Int) := by
  unfold isNm at h
  rw [Bool.and_eq_true, Bool.and_eq_true] at h
  have h2 : T.1 = 2 := of_decide_eq_true h.1
  have h0 : ¬ T.2.2.2.1 = 0 := fun w => by rw [decide_eq_true w] at h; exact absurd h.2.1 (by decide)
  rw [(g.2.1.2.2.2.1 h2).1, if_neg h0]
theorem zmax0 {x : Int} (h : x = -1) : zmax 0 x = 0 := by rw [h]; decide
theorem zmaxN (i : Nat) : zmax 0 (i : Int) = (i : Int) := by unfold zmax; split <;> omega
theorem m_toldB (b : BdM m f n e) (x y : Int) : zF zP 290 v [(.inr (.inr (some 0))), .inl x, .inl y] m = some (some (.inl 0), m) := by
  have := b.2.2.2
  rw [f_X11_told, if_pos b.1.t, b.2.1, if_neg (by omega), j_X11_told_18, if_pos b.1.t, b.2.1, if_pos (by omega)]
theorem m_told_gen (g : GdM m f n T) {b : Nat} {s : Int} {N : Int} (hn : isNm T = true → zF zP 288 0 [(.inr (.inr (some 0))), .inl (b : Int), .inl s] m = some (some (.inl N), m)) (hN : N = -1 ∨ ∃ i : Nat, N = (i : Int)) :
    (isNm T = true → N = -1 → zF zP 290 v [(.inr (.inr (some 0))), .inl (b : Int), .inl s] m = some (some (.inl 0), bdM m (3, T.2.1))) ∧ (isNm T = true → ¬ N = -1 → zF zP 290 v [(.inr (.inr (some 0))), .inl (b : Int), .inl s] m = some (some (.inl N), m)) ∧ (¬ isNm T = true → zF zP 290 v [(.inr (.inr (some 0))), .inl (b : Int), .inl s] m = some (some (.inl 0), bdM m (kMis T))) := by
  have bp := kMis_pos T
  refine ⟨fun h h2 => ?_, fun h h2 => ?_, fun h => ?_⟩
  · have hf : zF zP 278 0 [(.inr (.inr (some 0))), .inl 3, .inl (T.2.1 : Int)] m = some (none, bdM m (3, T.2.1)) := m_failG g 3 T.2.1
    rw [f_X11_told, if_pos g.1.t, g.2.2.2, if_pos rfl, if_pos g.1.t, m_isName g, zC1_s, h, if_neg nb1, j_X11_told_18, if_pos g.1.t, g.2.2.2, if_neg (by decide), j_X11_told_27, if_pos g.1.t, hn h, zC1_s, h2, if_pos (by decide), if_pos g.1.t, if_pos g.1.t, g.2.1.2.1, hf, zC0_s, j_X11_told_47, zmax0 rfl]
  · rcases hN with q | ⟨i, q⟩
    · exact absurd q h2
    · rw [f_X11_told, if_pos g.1.t, g.2.2.2, if_pos rfl, if_pos g.1.t, m_isName g, zC1_s, h, if_neg nb1, j_X11_told_18, if_pos g.1.t, g.2.2.2, if_neg (by decide), j_X11_told_27, if_pos g.1.t, hn h, zC1_s, q, if_neg (by omega), j_X11_told_47, zmaxN]
  · have b := g.bd (e := kMis T) bp
    rw [f_X11_told, if_pos g.1.t, g.2.2.2, if_pos rfl, if_pos g.1.t, m_isName g, zC1_s, bool_f h, if_pos yb0, if_pos g.1.t, m_amissG g, zC0_s, j_X11_told_18, if_pos b.1.t, b.2.1, if_pos (by omega)]
theorem m_toldW (g : GdM m f n T) {b : Nat} (hb : b ≤ 4) (hN : NmV m b L) : (∀ e, sWrd L T = .inl e → zF zP 290 v [(.inr (.inr (some 0))), .inl (b : Int), .inl 0] m = some (some (.inl 0), bdM m e) ∧ 0 < e.1) ∧ (∀ q, sWrd L T = .inr q → zF zP 290 v [(.inr (.inr (some 0))), .inl (b : Int), .inl 0] m = some (some (.inl (q.2 : Int)), m)) := by
  obtain ⟨t1, t2, t3⟩ := m_told_gen (v := v) g (b := b) (s := 0) (N := wnum L (T.2.2.2.1 : Int)) (fun h => m_namedW g.1.1 hb hN (m_word19 g h)) (by
    rcases wnum_of L (T.2.2.2.1 : Int) with w | ⟨i, w, _⟩
    · exact Or.inl w
    · exact Or.inr ⟨i, w⟩)
  unfold sWrd
  by_cases h : isNm T = true
  · rw [if_pos h]
    by_cases h2 : wnum L (T.2.2.2.1 : Int) = -1
    · rw [if_pos h2]
      refine ⟨fun e' q => ?_, fun q w => (nomatch w)⟩
      have q' : (3, T.2.1) = e' := Sum.inl.inj q
      rw [← q']; exact ⟨t1 h h2, Nat.succ_pos 2⟩
    · rw [if_neg h2]
      refine ⟨fun e' q => (nomatch q), fun q w => ?_⟩
      have w' := Sum.inr.inj w
      rw [← w', t2 h h2]
      rcases wnum_of L (T.2.2.2.1 : Int) with z | ⟨i, z, _⟩
      · exact absurd z h2
      · show _ = some (some (Sum.inl (((wnum L (T.2.2.2.1 : Int)).toNat : Nat) : Int)), m)
        rw [z]; rfl
  · rw [if_neg h]
    refine ⟨fun e' q => ?_, fun q w => (nomatch w)⟩
    have q' : kMis T = e' := Sum.inl.inj q
    rw [← q']; exact ⟨t3 h, kMis_pos T⟩
theorem m_toldP (g : GdM m f n T) {b : Nat} (hb : b ≤ 4) (hN : NmV m b L) : (∀ e, sPrs L T = .inl e → zF zP 290 v [(.inr (.inr (some 0))), .inl (b : Int), .inl 1] m = some (some (.inl 0), bdM m e) ∧ 0 < e.1) ∧ (∀ q, sPrs L T = .inr q → zF zP 290 v [(.inr (.inr (some 0))), .inl (b : Int), .inl 1] m = some (some (.inl (q.2 : Int)), m)) := by
  obtain ⟨t1, t2, t3⟩ := m_told_gen (v := v) g (b := b) (s := 1) (N := pnum L (T.2.2.2.1 : Int)) (fun h => m_namedP g.1.1 hb hN (m_word19 g h)) (by
    rcases pnum_of L (T.2.2.2.1 : Int) with w | ⟨i, w, _⟩
    · exact Or.inl w
    · exact Or.inr ⟨i, w⟩)
  unfold sPrs
  by_cases h : isNm T = true
  · rw [if_pos h]
    by_cases h2 : pnum L (T.2.2.2.1 : Int) = -1
    · rw [if_pos h2]
      refine ⟨fun e' q => ?_, fun q w => (nomatch w)⟩
      have q' : (3, T.2.1) = e' := Sum.inl.inj q
      rw [← q']; exact ⟨t1 h h2, Nat.succ_pos 2⟩
    · rw [if_neg h2]
      refine ⟨fun e' q => (nomatch q), fun q w => ?_⟩
      have w' := Sum.inr.inj w
      rw [← w', t2 h h2]
      rcases pnum_of L (T.2.2.2.1 : Int) with z | ⟨i, z, _⟩
      · exact absurd z h2
      · show _ = some (some (Sum.inl (((pnum L (T.2.2.2.1 : Int)).toNat : Nat) : Int)), m)
        rw [z]; rfl
  · rw [if_neg h]
    refine ⟨fun e' q => ?_, fun q w => (nomatch w)⟩
    have q' : kMis T = e' := Sum.inl.inj q
    rw [← q']; exact ⟨t3 h, kMis_pos T⟩
theorem m_readToldB (b : BdM m f n e) (x y : Int) : zF zP 291 v [(.inr (.inr (some 0))), .inl x, .inl y] m = some (some (.inl 0), m) := by
  rw [f_X11_readTold, if_pos b.1.t, m_toldB b, zC1_s, if_pos b.1.t, m_mustB b, zC0_s]
theorem m_readTold_gen (g : GdM m f n T) (hR : TkR n T) {x y : Int} {s : zRd Nat} (h1 : ∀ e, s = .inl e → zF zP 290 0 [(.inr (.inr (some 0))), .inl x, .inl y] m = some (some (.inl 0), bdM m e) ∧ 0 < e.1) (h2 : ∀ q, s = .inr q → zF zP 290 0 [(.inr (.inr (some 0))), .inl x, .inl y] m = some (some (.inl (q.2 : Int)), m)) :
    RdM m f n (zF zP 291 v [(.inr (.inr (some 0))), .inl x, .inl y] m) (fun x : Nat => (x : Int)) (nxR f n T s) := by
  rw [f_X11_readTold, if_pos g.1.t]
  cases hs : s with
  | inl e =>
    obtain ⟨w1, w2⟩ := h1 e hs
    have b := g.bd (e := e) w2
    rw [w1, zC1_s, if_pos b.1.t, m_mustB b, zC0_s]
    exact ⟨rfl, w2⟩
  | inr q =>
    obtain ⟨m', f1, f2, f3⟩ := m_mustT (v := 0) g hR
    rw [h2 q hs, zC1_s, if_pos g.1.t, f1, zC0_s]
    exact ⟨m', rfl, f2, f3⟩
theorem m_rWrd (g : GdM m f n T) (hR : TkR n T) {b : Nat} (hb : b ≤ 4) (hN : NmV m b L) : RdM m f n (zF zP 291 v [(.inr (.inr (some 0))), .inl (b : Int), .inl 0] m) (fun x : Nat => (x : Int)) (rWrd L f n T) := by
  obtain ⟨t1, t2⟩ := m_toldW (v := 0) g hb hN
  rw [rWrd_s]
  exact m_readTold_gen g hR t1 t2
theorem m_rPrs (g : GdM m f n T) (hR : TkR n T) {b : Nat} (hb : b ≤ 4) (hN : NmV m b L) : RdM m f n (zF zP 291 v [(.inr (.inr (some 0))), .inl (b : Int), .inl 1] m) (fun x : Nat => (x : Int)) (rPrs L f n T) := by
  obtain ⟨t1, t2⟩ := m_toldP (v := 0) g hb hN
  rw [rPrs_s]
  exact m_readTold_gen g hR t1 t2
theorem m_rLinB (b : BdM m f n e) (x : Int) : zF zP 293 v [(.inr (.inr (some 0))), .inl x] m = some (some (.inl 0), m) := by
  have := b.2.2.2
  rw [f_X11_readLineOf, if_pos b.1.t, b.2.1, if_neg (by omega), j_X11_readLineOf_19, if_pos b.1.t, b.2.1, if_pos (by omega), j_X11_readLineOf_39, if_neg (by decide), j_X11_readLineOf_53, if_pos b.1.t, m_mustB b, zC0_s, show zmax 0 0 = 0 by decide]
theorem m_rLin (g : GdM m f n T) (hR : TkR n T) {b : Nat} (hb : b ≤ 4) (hN : NmV m b L) : RdM m f n (zF zP 293 v [(.inr (.inr (some 0))), .inl (b : Int)] m) (fun x : Nat => (x : Int)) (rLin L f n T) := by
  have bp := kMis_pos T
  rw [f_X11_readLineOf, if_pos g.1.t, g.2.2.2, if_pos rfl, if_pos g.1.t, g.2.1.1]
  unfold rLin
  by_cases h : T.1 = 3
  · rw [if_pos (kdM_3.mpr h), if_pos h, j_X11_readLineOf_19, if_pos g.1.t, g.2.2.2, if_neg (by decide), j_X11_readLineOf_30, if_pos g.1.t, if_pos g.1.t, g.2.1.2.2.2.2 (Or.inl h), m_lineByB g.1.1 hb hN, zC1_s, j_X11_readLineOf_39]
    rcases lnum_of L (T.2.2.2.2 : Int) with w | ⟨i, w, _, _⟩
    · have hf : zF zP 278 0 [(.inr (.inr (some 0))), .inl 3, .inl (T.2.1 : Int)] m = some (none, bdM m (3, T.2.1)) := m_failG g 3 T.2.1
      have b' := g.bd (e := (3, T.2.1)) (Nat.succ_pos 2)
      rw [w, if_pos (by decide), if_pos rfl, if_pos g.1.t, if_pos g.1.t, g.2.1.2.1, hf, zC0_s, j_X11_readLineOf_53, if_pos b'.1.t, m_mustB b', zC0_s, zmax0 rfl]
      exact ⟨rfl, Nat.succ_pos 2⟩
    · obtain ⟨m', f1, f2, f3⟩ := m_mustT (v := 0) g hR
      rw [w, if_neg (by omega), if_neg (by omega), j_X11_readLineOf_53, if_pos g.1.t, f1, zC0_s, zmaxN]
      exact ⟨m', rfl, f2, f3⟩
  · have b' := g.bd (e := kMis T) bp
    rw [if_neg (fun w => h (kdM_3.mp w)), if_neg h, if_pos g.1.t, m_amissG g, zC0_s, j_X11_readLineOf_19, if_pos b'.1.t, b'.2.1, if_pos (by omega), j_X11_readLineOf_39, if_neg (by decide), j_X11_readLineOf_53, if_pos b'.1.t, m_mustB b', zC0_s, show zmax 0 0 = 0 by decide]
    exact ⟨rfl, bp⟩
end READM2
