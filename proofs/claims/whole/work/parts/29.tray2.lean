/-! TRAYS of the class: made anew, rows in them. -/
section TRAY2
variable {v : Nat} {m : zM} {a : Nat} {t : zTr}
theorem zi_wi_s (m : zM) (a k : Nat) (x : Int) : zi (zwi m a k x) a k = x := if_pos ⟨rfl, rfl⟩
theorem zi_wi_n (m : zM) {a k b j : Nat} (x : Int) (h : b ≠ a ∨ j ≠ k) : zi (zwi m a k x) b j = zi m b j := if_neg (fun q => by rcases h with h | h; exact h q.1; exact h q.2)
theorem zl_wl_off (m : zM) {a k b j : Nat} (x : Int) (h : b ≠ a ∨ j ≠ k) : zl (zwl m a k x) b j = zl m b j := if_neg (fun q => by rcases h with h | h; exact h q.1; exact h q.2)
/-- zeros up to the end -/
theorem s_become_loop {x y : Int} : ∀ (n k : Nat) (m : zM), TrS m a → k + n = 60 →
    ∃ m', zX zP 141 v 22 [some (.inr (.inr (some a))), some (.inl x), some (.inl y), some (.inl (k : Int))] [] m = some (none, m') ∧ Sam m m' (a + 1) (a + 2) ∧
      ∀ j, zl m' (a + 1) j = if k ≤ j ∧ j < 60 then 0 else zl m (a + 1) j := by
  intro n
  induction n with
  | zero =>
    intro k m h hk
    obtain ⟨h1, r0, k1⟩ := h
    refine ⟨m, ?_, Sam.rf _ _ _, fun j => by rw [if_neg (by omega)]⟩
    rw [j_X7_become_22, if_pos h1, r0, obind, if_pos (k1.Y (by decide)), k1.L, if_neg (by omega), j_X7_become_44]
  | succ n ih =>
    intro k m h hk
    obtain ⟨h1, r0, k1⟩ := h
    have hs : Sam m (zwl m (a + 1) k 0) (a + 1) (a + 2) := Sam.wl m k 0 (Nat.le_refl _) (by omega)
    obtain ⟨m', e1, e2, e3⟩ := ih (k + 1) (zwl m (a + 1) k 0) (hs.Tr ⟨h1, r0, k1⟩) (by omega)
    refine ⟨m', ?_, hs.tr e2, fun j => ?_⟩
    · rw [j_X7_become_22, if_pos h1, r0, obind, if_pos (k1.Y (by decide)), k1.L, if_pos (by omega), if_pos h1, obind, if_pos (k1.A (by omega) (by omega)), Int.toNat_natCast, zadd1 (by omega)]
      exact e1
    · rw [e3 j]
      by_cases e : j = k
      · subst e
        rw [if_neg (by omega), if_pos (by omega), zl_wl_s]
      · rw [zl_wl_off _ _ (Or.inr e)]
        by_cases g : k + 1 ≤ j ∧ j < 60
        · rw [if_pos g, if_pos (by omega)]
        · rw [if_neg g, if_neg (by omega)]
theorem s_become {x : Int} {y : Nat} (h : TrS m a) (hx : 0 ≤ x ∧ x < 4) (hy : y ≤ 60) :
    ∃ m', zF zP 141 v [.inr (.inr (some a)), .inl x, .inl (y : Int)] m = some (none, m') ∧ Sam m m' a (a + 2) ∧ TrV m' a (true, x, List.replicate y 0) := by
  obtain ⟨h1, r0, k1⟩ := h
  have hmin : zmin (y : Int) 60 = (y : Int) := by unfold zmin; rw [if_neg (by omega)]
  have s1 : Sam m (zwi (zwi (zwi m a 1 1) a 2 x) a 3 (y : Int)) a (a + 2) :=
    ((Sam.wi m 1 1 (Nat.le_refl _) (by omega)).tr (Sam.wi _ 2 x (Nat.le_refl _) (by omega))).tr (Sam.wi _ 3 _ (Nat.le_refl _) (by omega))
  obtain ⟨m', e1, e2, e3⟩ := s_become_loop (v := v) (a := a) (x := x) (y := (y : Int)) 60 0 (zwi (zwi (zwi m a 1 1) a 2 x) a 3 (y : Int)) (s1.Tr ⟨h1, r0, k1⟩) rfl
  refine ⟨m', ?_, s1.tr (e2.mono (by omega) (Nat.le_refl _)), ?_⟩
  · rw [f_X7_become, if_pos (by rw [h1]; rfl), if_pos (show zT (zwi m a 1 1) a 4 = true from h1), if_pos (show zT (zwi (zwi m a 1 1) a 2 x) a 4 = true from h1), hmin]
    exact e1
  · have i1 : ∀ j, zi m' a j = zi (zwi (zwi (zwi m a 1 1) a 2 x) a 3 (y : Int)) a j := fun j => e2.i (by omega) j
    refine ⟨?_, ?_, ?_, ?_, hx, fun i hi => ?_⟩
    · rw [i1, zi_wi_n _ _ (Or.inr (by decide)), zi_wi_n _ _ (Or.inr (by decide)), zi_wi_s]; rfl
    · rw [i1, zi_wi_n _ _ (Or.inr (by decide)), zi_wi_s]
    · rw [i1, zi_wi_s, List.length_replicate]
    · rw [List.length_replicate]; exact hy
    · rw [List.length_replicate] at hi
      rw [e3, if_pos (by omega), List.getD_eq_getElem?_getD, List.getElem?_replicate, if_pos hi]; rfl
/-- n first numbers are WORDS -/
def allW (ns : List Int) (w : Int) : Nat → Nat → Bool
  | 0, _ => true
  | n + 1, k => decide (0 ≤ ns.getD k 0) && (decide (ns.getD k 0 < w) && allW ns w n (k + 1))
theorem zlcmp_lt {x y : Int} : zlcmp x y < 0 ↔ x < y := by
  unfold zlcmp
  by_cases h : y < x
  · rw [if_pos h]; constructor <;> intro q <;> omega
  · rw [if_neg h]
    by_cases h2 : x = y
    · rw [if_pos h2]; constructor <;> intro q <;> omega
    · rw [if_neg h2]; constructor <;> intro q <;> omega
theorem s_holdsRow_loop {w : Int} {N : Int} (h : TrS m a) (hv : TrV m a t) : ∀ (n k : Nat), N = ((k + n : Nat) : Int) → k + n ≤ t.2.2.length →
    zX zP 146 v 22 [some (.inr (.inr (some a))), some (.inl N), some (.inl w), some (.inl (k : Int))] [] m = some (some (.inl (b01 (allW t.2.2 w n k))), m) := by
  have h60 := hv.2.2.2.1
  intro n
  induction n with
  | zero =>
    intro k hN hk
    rw [j_X7_holdsRow_22, if_neg (by omega), j_X7_holdsRow_56]; rfl
  | succ n ih =>
    intro k hN hk
    have hg := hv.2.2.2.2.2 k (by omega)
    rw [j_X7_holdsRow_22, if_pos (by omega), if_pos h.1, s_get h (by omega), zC2_s, hg, allW]
    by_cases e : t.2.2.getD k 0 < 0
    · rw [if_pos (zlcmp_lt.mpr e), j_X7_holdsRow_48, decide_eq_false (by omega)]; rfl
    · rw [if_neg (fun q => e (zlcmp_lt.mp q)), if_pos h.1, s_get h (by omega), zC2_s, hg, decide_eq_true (by omega), Bool.true_and]
      by_cases e2 : t.2.2.getD k 0 < w
      · rw [if_pos (zlcmp_lt.mpr e2), j_X7_holdsRow_50, zadd1 (by omega), ih (k + 1) (by omega) (by omega), decide_eq_true e2, Bool.true_and]
      · rw [if_neg (fun q => e2 (zlcmp_lt.mp q)), j_X7_holdsRow_48, decide_eq_false e2]; rfl
def holds (t : zTr) (w n : Int) : Bool := decide (0 ≤ n) && (decide (n ≤ 8) && (decide (n ≤ (t.2.2.length : Int)) && allW t.2.2 w n.toNat 0))
theorem s_holdsRow {w n : Int} (h : TrS m a) (hv : TrV m a t) : zF zP 146 v [.inr (.inr (some a)), .inl n, .inl w] m = some (some (.inl (b01 (holds t w n))), m) := by
  rw [f_X7_holdsRow, hv.2.2.1]
  unfold holds
  by_cases h0 : n < 0
  · rw [if_pos h0, j_X7_holdsRow_18, decide_eq_false (by omega)]; rfl
  · rw [if_neg h0, decide_eq_true (by omega), Bool.true_and]
    by_cases h1 : 8 < n
    · rw [if_pos h1, j_X7_holdsRow_18, decide_eq_false (by omega)]; rfl
    · rw [if_neg h1, decide_eq_true (by omega), Bool.true_and, if_pos h.1]
      by_cases h2 : (t.2.2.length : Int) < n
      · rw [if_pos h2, j_X7_holdsRow_18, decide_eq_false (by omega)]; rfl
      · rw [if_neg h2, decide_eq_true (by omega), Bool.true_and, j_X7_holdsRow_20]
        exact s_holdsRow_loop (N := n) h hv n.toNat 0 (by omega) (by omega)
/-- the ROW of the n first numbers -/
def toRow (ns : List Int) (n : Nat) : List Nat := (ns.take n).map Int.toNat
theorem allW_get {ns : List Int} {w : Int} : ∀ (n k : Nat), allW ns w n k = true → ∀ i, k ≤ i → i < k + n → 0 ≤ ns.getD i 0 ∧ ns.getD i 0 < w
  | 0, k, _, i, h1, h2 => by omega
  | n + 1, k, h, i, h1, h2 => by
    unfold allW at h
    simp only [Bool.and_eq_true, decide_eq_true_eq] at h
    by_cases e : i = k
    · subst e; exact ⟨h.1, h.2.1⟩
    · exact allW_get n (k + 1) h.2.2 i (by omega) (by omega)
theorem toRow_snoc {ns : List Int} {k : Nat} (h : k < ns.length) : toRow ns (k + 1) = toRow ns k ++ [(ns.getD k 0).toNat] := by
  unfold toRow
  rw [List.take_add_one, List.map_append, List.getD_eq_getElem?_getD, List.getElem?_eq_getElem h]; rfl
theorem toRow_len {ns : List Int} {k : Nat} (h : k ≤ ns.length) : (toRow ns k).length = k := by unfold toRow; rw [List.length_map, List.length_take]; omega
theorem toRow_ok {ns : List Int} {w : Int} (hw : w ≤ 16) {n : Nat} (hn : n ≤ ns.length) (h8 : n ≤ 8) (h : ∀ i, i < n → 0 ≤ ns.getD i 0 ∧ ns.getD i 0 < w) : rOk (toRow ns n) := by
  refine ⟨by rw [toRow_len hn]; exact h8, fun x hx => ?_⟩
  unfold toRow at hx
  obtain ⟨y, hy, rfl⟩ := List.mem_map.mp hx
  obtain ⟨i, hi, rfl⟩ := List.mem_iff_getElem.mp hy
  rw [List.length_take] at hi
  have := h i (by omega)
  rw [List.getD_eq_getElem?_getD, List.getElem?_eq_getElem (by omega)] at this
  rw [List.getElem_take]
  have h2 : (some ns[i]).getD 0 = ns[i] := rfl
  rw [h2] at this
  omega
theorem s_firstRow_loop {w : Int} {N : Nat} (h : TrS m a) (hv : TrV m a t) (hw : w ≤ 16) (hN : N ≤ t.2.2.length) (h8 : N ≤ 8) (hg : ∀ i, i < N → 0 ≤ t.2.2.getD i 0 ∧ t.2.2.getD i 0 < w) : ∀ (n k : Nat), N = k + n →
    zX zP 147 v 5 [some (.inr (.inr (some a))), some (.inl (N : Int)), some (.inr (.inl (zrow (toRow t.2.2 k)))), none, some (.inl (k : Int))] [] m = some (some (.inr (.inl (zrow (toRow t.2.2 N)))), m) := by
  have h60 := hv.2.2.2.1
  intro n
  induction n with
  | zero =>
    intro k hk
    rw [j_X7_firstRow_5, if_neg (by omega), j_X7_firstRow_38, show k = N by omega]
  | succ n ih =>
    intro k hk
    obtain ⟨g1, g2⟩ := hg k (by omega)
    have hok := toRow_ok (n := k) hw (by omega) (by omega) (fun i hi => hg i (by omega))
    have e1 : i32 (t.2.2.getD k 0) = (((t.2.2.getD k 0).toNat : Nat) : Int) := by
      unfold i32; rw [Int.bmod_eq_of_le (by omega) (by omega)]; omega
    have e2 : rwith (toRow t.2.2 k) k (t.2.2.getD k 0).toNat = toRow t.2.2 (k + 1) := by
      unfold rwith; rw [if_neg (by rw [toRow_len (by omega)]; omega), toRow_snoc (by omega)]
    rw [j_X7_firstRow_5, if_pos (by omega), if_pos (by omega), if_pos h.1, s_get h (by omega), zC2_s, hv.2.2.2.2.2 k (by omega), e1, s_with hok (by rw [toRow_len (by omega)]; omega) (by omega) (by omega), zC2_s, e2, zadd1 (by omega), ih (k + 1) (by omega)]
theorem s_firstRow {w : Int} {N : Nat} (h : TrS m a) (hv : TrV m a t) (hw : w ≤ 16) (hN : N ≤ t.2.2.length) (h8 : N ≤ 8) (hg : ∀ i, i < N → 0 ≤ t.2.2.getD i 0 ∧ t.2.2.getD i 0 < w) :
    zF zP 147 v [.inr (.inr (some a)), .inl (N : Int)] m = some (some (.inr (.inl (zrow (toRow t.2.2 N)))), m) := by
  rw [f_X7_firstRow]
  exact s_firstRow_loop h hv hw hN h8 hg N 0 (by omega)
end TRAY2
