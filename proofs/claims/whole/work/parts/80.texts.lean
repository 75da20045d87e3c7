/-! The class's TEXTS. -/
def cntT (P : List Nat → Bool) : List (List Nat) → Int → Int
  | [], acc => acc
  | c :: r, acc => cntT P r (if P c = true then zadd acc 1 else acc)
section TEXTS
variable {v : Nat} {m : zM}
theorem s_texts_in {a : Nat} {na : Int} {la : Bool} {ea : List zEd} (hA : LnS m a) (hvA : LnV m a na la ea) {s f : Nat} {E : List Nat → Prop} {w : List Nat} {x3 : Int} {M : Nat} (hM : M < 1000000) : ∀ (R : List (List Nat)) (k : Nat) (acc y : Int), k + R.length = M → (∀ c r, R = c :: r → y = zrow c ∧ chE (s : Int) f E R) → (∀ c ∈ R, rOk c ∧ zF zP 86 0 [.inr (.inl (zrow c)), .inl (s : Int)] m = some (some (.inr (.inl (zrow ((nx (s : Int) f c).getD (List.replicate c.length f))))), m)) →
    zX zP 92 v 33 [some ((.inr (.inr (some a)))), some (.inr (.inl (zrow w))), none, some (.inl x3), some (.inl (s : Int)), some (.inl (M : Int)), some (.inr (.inl y)), none, some (.inl acc), some (.inl (k : Int))] [] m = some (some (.inl (cntT (fun c => decide (zro (lall ea c) = zrow w)) R acc)), m) := by
  intro R
  induction R with
  | nil =>
    intro k acc y hk hy hR
    rw [j_X4_textsOf_33, if_neg (by have : k + 0 = M := hk; omega), j_X4_textsOf_69]; rfl
  | cons c R ih =>
    intro k acc y hk hy hR
    obtain ⟨h1, h2⟩ := hy c R rfl
    obtain ⟨c1, c2⟩ := hR c List.mem_cons_self
    have hk' : k + (R.length + 1) = M := hk
    have e1 : zadd (k : Int) 1 = ((k + 1 : Nat) : Int) := zadd_nat (k := 1) (by omega)
    have hstep : ∀ acc' : Int, zX zP 92 v 54 [some ((.inr (.inr (some a)))), some (.inr (.inl (zrow w))), none, some (.inl x3), some (.inl (s : Int)), some (.inl (M : Int)), some (.inr (.inl (zrow c))), none, some (.inl acc'), some (.inl (k : Int))] [] m = some (some (.inl (cntT (fun c => decide (zro (lall ea c) = zrow w)) R acc')), m) := by
      intro acc'
      rw [j_X4_textsOf_54, c2, zC2_s, e1]
      refine ih (k + 1) acc' _ (by omega) (fun c' r' e => ?_) (fun c' hc' => hR c' (List.mem_cons_of_mem _ hc'))
      subst e
      have hch : nx (s : Int) f c = some c' ∧ chE (s : Int) f E (c' :: r') := h2
      exact ⟨by rw [hch.1]; rfl, hch.2⟩
    rw [h1, j_X4_textsOf_33, if_pos (by omega), if_pos hA.1, s_putRightByAll hA hvA c1, zC2_s]
    unfold cntT
    by_cases g : zro (lall ea c) = zrow w
    · rw [if_pos (zlcmp_eq.mpr g), if_pos (decide_eq_true g)]; exact hstep _
    · rw [if_neg (fun q => g (zlcmp_eq.mp q)), if_neg (fun q => g (of_decide_eq_true q))]; exact hstep _
theorem s_textsOf {a : Nat} {na : Int} {la : Bool} {ea : List zEd} (hA : LnS m a) (hvA : LnV m a na la ea) {s N : Nat} (hs : s < 256) (hN : N ≤ 5) {w : List Nat} (hw : rOk w) (hse : zor (soughtE ea 0) (rsetF w 0) = (s : Int)) :
    zF zP 92 v [(.inr (.inr (some a))), .inr (.inl (zrow w)), .inl (N : Int)] m = some (some (.inl (cntT (fun c => decide (zro (lall ea c) = zrow w)) (rws (wsOf s) N) 0)), m) := by
  obtain ⟨y, y1, y2, y3⟩ := s_enum (v := 0) (m := m) hs (N := N) (by omega)
  have hl := rws_len (wsOf s) N
  have p : (wsOf s).length ^ N ≤ 8 ^ 5 := Nat.le_trans (Nat.pow_le_pow_left (ws_len s) N) (Nat.pow_le_pow_right (by decide) hN)
  have g := s_texts_in (v := v) hA hvA (s := s) (w := w) (x3 := (N : Int)) (M := (wsOf s).length ^ N) (Nat.lt_of_le_of_lt p (by decide)) (rws (wsOf s) N) 0 0 y (by rw [hl, Nat.zero_add]) (fun c r e => y2 c r e) y3
  have e0 : ((0 : Nat) : Int) = 0 := rfl
  rw [e0] at g
  rw [f_X4_textsOf, if_pos hA.1, s_soughtSet hA hvA, zC1_s, s_rwordSet hw, zC1_s, hse, s_howMany hs hN, zC1_s, y1, zC2_s]
  exact g
end TEXTS
