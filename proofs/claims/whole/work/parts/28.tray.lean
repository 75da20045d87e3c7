/-! Memories alike but for some cells; TRAYS of the class. -/
def Sam (m m' : zM) (lo hi : Nat) : Prop := m'.1 = m.1 ∧ m'.2.1 = m.2.1 ∧ m'.2.2.2.2 = m.2.2.2.2 ∧ ∀ b, (b < lo ∨ hi ≤ b) → m'.2.2.1 b = m.2.2.1 b ∧ m'.2.2.2.1 b = m.2.2.2.1 b
theorem Sam.rf (m : zM) (lo hi : Nat) : Sam m m lo hi := ⟨rfl, rfl, rfl, fun _ _ => ⟨rfl, rfl⟩⟩
theorem Sam.tr {m m' m'' : zM} {lo hi : Nat} (h : Sam m m' lo hi) (h' : Sam m' m'' lo hi) : Sam m m'' lo hi :=
  ⟨h'.1.trans h.1, h'.2.1.trans h.2.1, h'.2.2.1.trans h.2.2.1, fun b hb => ⟨(h'.2.2.2 b hb).1.trans (h.2.2.2 b hb).1, (h'.2.2.2 b hb).2.trans (h.2.2.2 b hb).2⟩⟩
theorem Sam.mono {m m' : zM} {lo hi lo' hi' : Nat} (h : Sam m m' lo hi) (h1 : lo' ≤ lo) (h2 : hi ≤ hi') : Sam m m' lo' hi' :=
  ⟨h.1, h.2.1, h.2.2.1, fun b hb => h.2.2.2 b (by omega)⟩
theorem z2_off {α : Type} (f : Nat → Nat → α) {a b : Nat} (k : Nat) (x : α) (h : b ≠ a) : z2 f a k x b = f b := by
  funext j
  exact if_neg (fun q => h q.1)
theorem Sam.wi (m : zM) {a : Nat} (k : Nat) (x : Int) {lo hi : Nat} (h1 : lo ≤ a) (h2 : a < hi) : Sam m (zwi m a k x) lo hi :=
  ⟨rfl, rfl, rfl, fun b hb => ⟨z2_off _ _ _ (by omega), rfl⟩⟩
theorem Sam.wl (m : zM) {a : Nat} (k : Nat) (x : Int) {lo hi : Nat} (h1 : lo ≤ a) (h2 : a < hi) : Sam m (zwl m a k x) lo hi :=
  ⟨rfl, rfl, rfl, fun b hb => ⟨rfl, z2_off _ _ _ (by omega)⟩⟩
theorem Sam.n {m m' : zM} {lo hi : Nat} (h : Sam m m' lo hi) : zn m' = zn m := congrArg Prod.fst h.1
theorem Sam.k {m m' : zM} {lo hi : Nat} (h : Sam m m' lo hi) : zk m' = zk m := h.2.1
theorem Sam.r {m m' : zM} {lo hi : Nat} (h : Sam m m' lo hi) : zr m' = zr m := h.2.2.1
theorem Sam.T {m m' : zM} {lo hi : Nat} (h : Sam m m' lo hi) : zT m' = zT m := by
  funext b t
  unfold zT
  rw [h.n, h.k]
theorem Sam.i {m m' : zM} {lo hi b : Nat} (h : Sam m m' lo hi) (hb : b < lo ∨ hi ≤ b) (j : Nat) : zi m' b j = zi m b j := congrFun (h.2.2.2 b hb).1 j
theorem Sam.l {m m' : zM} {lo hi b : Nat} (h : Sam m m' lo hi) (hb : b < lo ∨ hi ≤ b) (j : Nat) : zl m' b j = zl m b j := congrFun (h.2.2.2 b hb).2 j
theorem Sam.Ar {m m' : zM} {lo hi b t n : Nat} (h : Sam m m' lo hi) (hs : ArS m b t n) : ArS m' b t n := by unfold ArS; rw [h.n, h.k]; exact hs
theorem Sam.Ln {m m' : zM} {lo hi b : Nat} (h : Sam m m' lo hi) (hs : LnS m b) : LnS m' b := by unfold LnS; rw [h.n, h.k, h.T, h.r]; exact hs
theorem Sam.Yr {m m' : zM} {lo hi b : Nat} (h : Sam m m' lo hi) (hs : YrS m b) : YrS m' b := by
  unfold YrS; rw [h.T, h.r]; exact ⟨hs.1, hs.2.1, h.Ar hs.2.2.1, h.Ar hs.2.2.2.1, h.Ar hs.2.2.2.2⟩
theorem Sam.Ld {m m' : zM} {lo hi b : Nat} (h : Sam m m' lo hi) (hs : LdS m b) : LdS m' b := by
  obtain ⟨h1, h2, ⟨k1, k2, k5, k6, k7⟩, hy, hn, hl⟩ := hs
  unfold LdS
  rw [h.T, h.r]
  exact ⟨h1, h2, ⟨h.Ar k1, h.Ar k2, h.Ar k5, h.Ar k6, h.Ar k7⟩, h.Yr hy, h.Ln hn, fun i hi => ⟨(hl i hi).1, h.Ln (hl i hi).2⟩⟩
theorem Sam.lnV {m m' : zM} {lo hi b : Nat} {num : Int} {lost : Bool} {es : List zEd} (h : Sam m m' lo hi) (hb : b + 2 ≤ lo ∨ hi ≤ b) (hv : LnV m b num lost es) : LnV m' b num lost es := by
  unfold LnV at hv ⊢
  rw [h.i (by omega), h.i (by omega), h.i (by omega)]
  exact ⟨hv.1, hv.2.1, hv.2.2.1, hv.2.2.2.1, hv.2.2.2.2.1, fun i hi => by rw [h.i (by omega)]; exact hv.2.2.2.2.2 i hi⟩
theorem Sam.ldV {m m' : zM} {lo hi b : Nat} {L : zLd} (h : Sam m m' lo hi) (hb : b + 28 ≤ lo ∨ hi ≤ b) (hv : LdV m b L) : LdV m' b L := by
  obtain ⟨⟨w1, w2, w3⟩, ⟨l1, l2, l3⟩, ⟨p1, p2, p3⟩, o1, o2⟩ := hv
  unfold LdV
  rw [h.i (by omega), h.i (by omega), h.i (by omega), h.i (by omega), h.i (by omega)]
  exact ⟨⟨w1, w2, fun i hi => by rw [h.l (by omega)]; exact w3 i hi⟩, ⟨l1, l2, fun i hi => h.lnV (by omega) (l3 i hi)⟩,
    ⟨p1, p2, fun i hi => by rw [h.l (by omega), h.i (by omega), h.l (by omega)]; exact p3 i hi⟩, o1, o2.1, fun i hi => by rw [h.i (by omega)]; exact o2.2 i hi⟩
/-- a TRAY: there, sort, numbers -/
abbrev zTr : Type := Bool × Int × List Int
def TrS (m : zM) (a : Nat) : Prop := zT m a 4 = true ∧ zr m a 0 = some (a + 1) ∧ ArS m (a + 1) 10 60
def TrV (m : zM) (a : Nat) (t : zTr) : Prop := zi m a 1 = b01 t.1 ∧ zi m a 2 = t.2.1 ∧ zi m a 3 = (t.2.2.length : Int) ∧ t.2.2.length ≤ 60 ∧ (0 ≤ t.2.1 ∧ t.2.1 < 4) ∧ ∀ i, i < t.2.2.length → zl m (a + 1) i = t.2.2.getD i 0
theorem Sam.Tr {m m' : zM} {lo hi b : Nat} (h : Sam m m' lo hi) (hs : TrS m b) : TrS m' b := by unfold TrS; rw [h.T, h.r]; exact ⟨hs.1, hs.2.1, h.Ar hs.2.2⟩
theorem Sam.trV {m m' : zM} {lo hi b : Nat} {t : zTr} (h : Sam m m' lo hi) (hb : b + 2 ≤ lo ∨ hi ≤ b) (hv : TrV m b t) : TrV m' b t := by
  unfold TrV at hv ⊢
  rw [h.i (by omega), h.i (by omega), h.i (by omega)]
  exact ⟨hv.1, hv.2.1, hv.2.2.1, hv.2.2.2.1, hv.2.2.2.2.1, fun i hi => by rw [h.l (by omega)]; exact hv.2.2.2.2.2 i hi⟩
def zcut (s y : Int) : Int := if s = 0 then Int.bmod (i32 y) 256 else if s = 1 then Int.bmod (i32 y) 65536 else if s = 2 then i32 y else y
section TRAY
variable {v : Nat} {m : zM} {a : Nat} {t : zTr}
theorem s_hasStretch {x y : Int} (h : TrS m a) (hv : TrV m a t) (hx : r32 x) (hy : r32 y) : zF zP 142 v [.inr (.inr (some a)), .inl x, .inl y] m = some (some (.inl (b01 (decide (0 ≤ x) && (decide (0 ≤ y) && decide (x + y ≤ (t.2.2.length : Int)))))), m) := by
  obtain ⟨v1, v2, v3, v4, v5, v6⟩ := hv
  rw [f_X7_hasStretch, v3]
  unfold r32 at hx hy
  by_cases h0 : x < 0
  · rw [if_pos h0, j_X7_hasStretch_30, j_X7_hasStretch_31, decide_eq_false (by omega)]; rfl
  · rw [if_neg h0, decide_eq_true (by omega), Bool.true_and]
    by_cases h1 : y < 0
    · rw [if_pos h1, j_X7_hasStretch_30, j_X7_hasStretch_31, decide_eq_false (by omega)]; rfl
    · rw [if_neg h1, decide_eq_true (by omega), Bool.true_and, if_pos h.1]
      by_cases h2 : (t.2.2.length : Int) < y
      · rw [if_pos h2, j_X7_hasStretch_30, j_X7_hasStretch_31, decide_eq_false (by omega)]; rfl
      · rw [if_neg h2, if_pos h.1, zsub_of (by unfold r32; omega)]
        by_cases h3 : (t.2.2.length : Int) - y < x
        · rw [if_pos h3, j_X7_hasStretch_30, j_X7_hasStretch_31, decide_eq_false (by omega)]; rfl
        · rw [if_neg h3, j_X7_hasStretch_31, decide_eq_true (by omega)]; rfl
theorem s_get {i : Nat} (h : TrS m a) (hi : i < 60) : zF zP 143 v [.inr (.inr (some a)), .inl (i : Int)] m = some (some (.inr (.inl (zl m (a + 1) i))), m) := by
  obtain ⟨h1, r0, k1⟩ := h
  rw [f_X7_get, if_neg (by omega), if_pos h1, r0, obind, if_pos (k1.Y (by decide)), k1.L, if_pos (by omega), if_pos h1, obind, if_pos (k1.A (by omega) (by omega)), Int.toNat_natCast, j_X7_get_23]
theorem s_cut {y : Int} (h : TrS m a) (hv : TrV m a t) : zF zP 144 v [.inr (.inr (some a)), .inr (.inl y)] m = some (some (.inr (.inl (zcut t.2.1 y))), m) := by
  obtain ⟨v1, v2, v3, v4, v5, v6⟩ := hv
  rw [f_X7_cut, if_pos h.1, v2]
  obtain ⟨b, s, ns⟩ := t
  have h4 : s = 0 ∨ s = 1 ∨ s = 2 ∨ s = 3 := by have := v5; simp only at this; omega
  rcases h4 with rfl | rfl | rfl | rfl
  · exact j_X7_cut_32 a y m
  · exact j_X7_cut_37 a y m
  · exact j_X7_cut_42 a y m
  · exact j_X7_cut_46 a y m
theorem s_put {i : Nat} {y : Int} (h : TrS m a) (hv : TrV m a t) (hi : i < 60) : zF zP 145 v [.inr (.inr (some a)), .inl (i : Int), .inr (.inl y)] m = some (none, zwl m (a + 1) i (zcut t.2.1 y)) := by
  have hc := s_cut (v := 0) (y := y) h hv
  obtain ⟨h1, r0, k1⟩ := h
  rw [f_X7_put, if_neg (by omega), if_pos h1, r0, obind, if_pos (k1.Y (by decide)), k1.L, if_pos (by omega), if_pos h1, obind, if_pos h1, hc, zC2_s, if_pos (k1.A (by omega) (by omega)), Int.toNat_natCast, j_X7_put_24]
theorem zl_wl_s (m : zM) (a k : Nat) (x : Int) : zl (zwl m a k x) a k = x := if_pos ⟨rfl, rfl⟩
theorem zl_wl_n (m : zM) (a : Nat) {k j : Nat} (x : Int) (h : j ≠ k) : zl (zwl m a k x) a j = zl m a j := if_neg (fun q => h q.2)
theorem TrV.put {i : Nat} {x : Int} (hv : TrV m a t) (hi : i < t.2.2.length) : TrV (zwl m (a + 1) i x) a (t.1, t.2.1, t.2.2.set i x) := by
  obtain ⟨v1, v2, v3, v4, v5, v6⟩ := hv
  refine ⟨v1, v2, by rw [List.length_set]; exact v3, by rw [List.length_set]; exact v4, v5, fun j hj => ?_⟩
  have hj' : j < t.2.2.length := by rw [List.length_set] at hj; exact hj
  show zl (zwl m (a + 1) i x) (a + 1) j = (t.2.2.set i x).getD j 0
  rw [List.getD_eq_getElem?_getD, List.getElem?_set]
  by_cases e : i = j
  · subst e; rw [zl_wl_s, if_pos rfl, if_pos hi]; rfl
  · rw [zl_wl_n _ _ _ (fun q => e q.symm), if_neg e, v6 j hj', List.getD_eq_getElem?_getD]
end TRAY
