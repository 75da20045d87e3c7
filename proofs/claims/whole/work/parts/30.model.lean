/-! The reference: its shape, its row. Memories alike but for some places. -/
def Fr (P : Nat → Nat → Prop) (m m' : zM) : Prop := m'.1 = m.1 ∧ m'.2.1 = m.2.1 ∧ m'.2.2.2.2 = m.2.2.2.2 ∧ ∀ b j, ¬ P b j → zi m' b j = zi m b j ∧ zl m' b j = zl m b j
theorem Fr.rf (P : Nat → Nat → Prop) (m : zM) : Fr P m m := ⟨rfl, rfl, rfl, fun _ _ _ => ⟨rfl, rfl⟩⟩
theorem Fr.tr {P : Nat → Nat → Prop} {m m' m'' : zM} (h : Fr P m m') (h' : Fr P m' m'') : Fr P m m'' :=
  ⟨h'.1.trans h.1, h'.2.1.trans h.2.1, h'.2.2.1.trans h.2.2.1, fun b j hb => ⟨(h'.2.2.2 b j hb).1.trans (h.2.2.2 b j hb).1, (h'.2.2.2 b j hb).2.trans (h.2.2.2 b j hb).2⟩⟩
theorem Fr.mono {P Q : Nat → Nat → Prop} {m m' : zM} (h : Fr P m m') (hPQ : ∀ b j, P b j → Q b j) : Fr Q m m' := ⟨h.1, h.2.1, h.2.2.1, fun b j hb => h.2.2.2 b j (fun q => hb (hPQ b j q))⟩
theorem Fr.wi {P : Nat → Nat → Prop} (m : zM) {a k : Nat} (x : Int) (h : P a k) : Fr P m (zwi m a k x) :=
  ⟨rfl, rfl, rfl, fun b j hb => ⟨zi_wi_n _ _ (by
    by_cases e : b = a
    · exact Or.inr (fun q => hb (by rw [e, q]; exact h))
    · exact Or.inl e), rfl⟩⟩
theorem Fr.wl {P : Nat → Nat → Prop} (m : zM) {a k : Nat} (x : Int) (h : P a k) : Fr P m (zwl m a k x) :=
  ⟨rfl, rfl, rfl, fun b j hb => ⟨rfl, zl_wl_off _ _ (by
    by_cases e : b = a
    · exact Or.inr (fun q => hb (by rw [e, q]; exact h))
    · exact Or.inl e)⟩⟩
theorem Fr.n {P : Nat → Nat → Prop} {m m' : zM} (h : Fr P m m') : zn m' = zn m := congrArg Prod.fst h.1
theorem Fr.k {P : Nat → Nat → Prop} {m m' : zM} (h : Fr P m m') : zk m' = zk m := h.2.1
theorem Fr.r {P : Nat → Nat → Prop} {m m' : zM} (h : Fr P m m') : zr m' = zr m := h.2.2.1
theorem Fr.T {P : Nat → Nat → Prop} {m m' : zM} (h : Fr P m m') : zT m' = zT m := by
  funext b t
  unfold zT
  rw [h.n, h.k]
theorem Fr.i {P : Nat → Nat → Prop} {m m' : zM} {b j : Nat} (h : Fr P m m') (hb : ¬ P b j) : zi m' b j = zi m b j := (h.2.2.2 b j hb).1
theorem Fr.l {P : Nat → Nat → Prop} {m m' : zM} {b j : Nat} (h : Fr P m m') (hb : ¬ P b j) : zl m' b j = zl m b j := (h.2.2.2 b j hb).2
theorem Fr.Ar {P : Nat → Nat → Prop} {m m' : zM} {b t n : Nat} (h : Fr P m m') (hs : ArS m b t n) : ArS m' b t n := by unfold ArS; rw [h.n, h.k]; exact hs
def MoS (m : zM) (a : Nat) : Prop := zT m a 7 = true ∧
  ((zr m a 4 = some (a + 1) ∧ zr m a 5 = some (a + 2) ∧ zr m a 6 = some (a + 3) ∧ zr m a 7 = some (a + 4)) ∧ (zr m a 20 = some (a + 5) ∧ zr m a 21 = some (a + 6) ∧ zr m a 22 = some (a + 7) ∧ zr m a 26 = some (a + 8)) ∧
   (zr m a 28 = some (a + 9) ∧ zr m a 29 = some (a + 10) ∧ zr m a 32 = some (a + 11) ∧ zr m a 33 = some (a + 12)) ∧ (zr m a 34 = some (a + 13) ∧ zr m a 35 = some (a + 14) ∧ zr m a 38 = some (a + 15) ∧ zr m a 40 = some (a + 16))) ∧
  ((ArS m (a + 1) 9 4 ∧ ArS m (a + 2) 9 4 ∧ ArS m (a + 3) 10 240 ∧ ArS m (a + 4) 8 900) ∧ (ArS m (a + 5) 9 2445 ∧ ArS m (a + 6) 9 217 ∧ ArS m (a + 7) 10 70 ∧ ArS m (a + 8) 9 8) ∧
   (ArS m (a + 9) 9 8 ∧ ArS m (a + 10) 9 8 ∧ ArS m (a + 11) 9 54 ∧ ArS m (a + 12) 9 81) ∧ (ArS m (a + 13) 9 4509 ∧ ArS m (a + 14) 9 8 ∧ ArS m (a + 15) 9 45 ∧ ArS m (a + 16) 9 5))
theorem Fr.Mo {P : Nat → Nat → Prop} {m m' : zM} {a : Nat} (h : Fr P m m') (hs : MoS m a) : MoS m' a := by
  unfold MoS ArS at hs ⊢
  rw [h.n, h.k, h.r, h.T]
  exact hs
section MODEL
variable {v : Nat} {m : zM} {a : Nat} {l : List Nat}
theorem MoS.c (h : MoS m a) : zr m a 20 = some (a + 5) ∧ ArS m (a + 5) 9 2445 := ⟨h.2.1.2.1.1, h.2.2.2.1.1⟩
theorem MoS.row (h : MoS m a) : zr m a 26 = some (a + 8) ∧ ArS m (a + 8) 9 8 := ⟨h.2.1.2.1.2.2.2, h.2.2.2.1.2.2.2⟩
/-- the row -/
def RoV (m : zM) (a : Nat) (l : List Nat) : Prop := zi m a 27 = (l.length : Int) ∧ l.length ≤ 8 ∧ ∀ i, i < l.length → zi m (a + 8) i = ((l.getD i 0 : Nat) : Int)
def rowP (a b j : Nat) : Prop := (b = a ∧ j = 27) ∨ b = a + 8
theorem m_firstOf_loop {w : Nat} (h : MoS m a) (hv : RoV m a l) : ∀ (r : List Nat) (k : Nat), l.drop k = r →
    zX zP 327 v 2 [some (.inr (.inr (some a))), some (.inl (w : Int)), some (.inl (k : Int))] [] m = some (some (.inl (ixF r w k)), m) := by
  have h8 := hv.2.1
  intro r
  induction r with
  | nil =>
    intro k hk
    have h1 : l.length ≤ k := List.drop_eq_nil_iff.mp hk
    rw [j_X11_firstOf_2, if_pos h.1, hv.1, if_neg (by omega), j_X11_firstOf_28]; rfl
  | cons x r ih =>
    intro k hk
    obtain ⟨h1, h2, h3⟩ := drop_cons hk
    rw [j_X11_firstOf_2, if_pos h.1, hv.1, if_pos (by omega), if_pos h.1, h.row.1, obind, if_pos (h.row.2.A (by omega) (by omega)), Int.toNat_natCast, hv.2.2 k h1, h2, ixF]
    by_cases e : x = w
    · rw [if_pos (by omega), if_pos e]
    · rw [if_neg (by omega), if_neg e, j_X11_firstOf_22, zadd1 (by omega)]
      exact ih (k + 1) h3
theorem m_firstOf {w : Nat} (h : MoS m a) (hv : RoV m a l) : zF zP 327 v [.inr (.inr (some a)), .inl (w : Int)] m = some (some (.inl (ixF l w 0)), m) := by
  rw [f_X11_firstOf]
  exact m_firstOf_loop h hv l 0 rfl
theorem zsub_nat {n k : Nat} (h : k ≤ n) (hn : n < 2147483648) : zsub (n : Int) (k : Int) = ((n - k : Nat) : Int) := by
  rw [zsub_of (by unfold r32; omega)]; omega
theorem zsub1 {n : Nat} (h : 1 ≤ n) (hn : n < 1000000) : zsub (n : Int) 1 = ((n - 1 : Nat) : Int) := zsub_nat (k := 1) h (by omega)
theorem m_drops_loop {i : Nat} (hl : l.length ≤ 8) : ∀ (n k : Nat) (m : zM), MoS m a → i + 1 ≤ k → k + n = l.length → zi m a 27 = (l.length : Int) →
    (∀ j, j < k - 1 → zi m (a + 8) j = (((l.eraseIdx i).getD j 0 : Nat) : Int)) → (∀ j, k ≤ j → j < l.length → zi m (a + 8) j = ((l.getD j 0 : Nat) : Int)) →
    ∃ m', zX zP 328 v 4 [some (.inr (.inr (some a))), some (.inl (i : Int)), some (.inl (k : Int))] [] m = some (none, m') ∧ Fr (rowP a) m m' ∧ RoV m' a (l.eraseIdx i) := by
  intro n
  induction n with
  | zero =>
    intro k m h hk hn h27 hA hB
    have hlen : (l.eraseIdx i).length = l.length - 1 := by rw [List.length_eraseIdx, if_pos (by omega)]
    refine ⟨zwi m a 27 (zsub (l.length : Int) 1), ?_, Fr.wi m _ (Or.inl ⟨rfl, rfl⟩), ?_⟩
    · rw [j_X11_drops_4, if_pos h.1, h27, if_neg (by omega), j_X11_drops_32, if_pos h.1, if_pos h.1, h27]
    · refine ⟨by rw [zi_wi_s, zsub1 (by omega) (by omega), hlen], by omega, fun j hj => ?_⟩
      rw [zi_wi_n _ _ (Or.inl (by omega))]
      exact hA j (by omega)
  | succ n ih =>
    intro k m h hk hn h27 hA hB
    have hw : Fr (rowP a) m (zwi m (a + 8) (k - 1) (zi m (a + 8) k)) := Fr.wi m _ (Or.inr rfl)
    obtain ⟨m', e1, e2, e3⟩ := ih (k + 1) (zwi m (a + 8) (k - 1) (zi m (a + 8) k)) (hw.Mo h) (by omega) (by omega) (by rw [zi_wi_n _ _ (Or.inl (by omega))]; exact h27)
      (fun j hj => by
        by_cases e : j = k - 1
        · subst e
          rw [zi_wi_s, hB k (Nat.le_refl _) (by omega), erase_get, if_neg (by omega), show k - 1 + 1 = k by omega]
        · rw [zi_wi_n _ _ (Or.inr e)]; exact hA j (by omega))
      (fun j hj hj2 => by rw [zi_wi_n _ _ (Or.inr (by omega))]; exact hB j (by omega) hj2)
    refine ⟨m', ?_, hw.tr e2, e3⟩
    rw [j_X11_drops_4, if_pos h.1, h27, if_pos (by omega), if_pos h.1, h.row.1, obind, if_pos h.1, obind, if_pos (h.row.2.A (by omega) (by omega)), zsub1 (by omega) (by omega), if_pos (h.row.2.A (by omega) (by omega)), Int.toNat_natCast, Int.toNat_natCast, zadd1 (by omega)]
    exact e1
theorem m_drops {i : Nat} (h : MoS m a) (hv : RoV m a l) (hi : i < l.length) : ∃ m', zF zP 328 v [.inr (.inr (some a)), .inl (i : Int)] m = some (none, m') ∧ Fr (rowP a) m m' ∧ RoV m' a (l.eraseIdx i) := by
  have h8 := hv.2.1
  obtain ⟨m', e1, e2, e3⟩ := m_drops_loop (v := v) (a := a) (l := l) (i := i) h8 (l.length - (i + 1)) (i + 1) m h (Nat.le_refl _) (by omega) hv.1
    (fun j hj => by rw [erase_get, if_pos (by omega)]; exact hv.2.2 j (by omega)) (fun j hj hj2 => hv.2.2 j hj2)
  exact ⟨m', by rw [f_X11_drops, zadd1 (by omega)]; exact e1, e2, e3⟩
end MODEL
