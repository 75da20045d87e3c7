/-! The reference's mean(). -/
def b6P (b _j : Nat) : Prop := b = 6
section MEANW
variable {v : Nat} {m m' m0 : zM} {A : zAc} {S : zSt}
theorem m_keep (hS : S2 m) {x y : Int} : ∀ (d k : Nat) (m1 : zM), k + d = 217 → Fr b6P m m1 → (∀ j, j < k → zi m1 6 j = zi m 5 j) →
    ∃ m', zX zP 410 v 63 [some (.inr (.inr (some 0))), some (.inl x), some (.inl y), some (.inl (k : Int)), none, none, none] [] m1 = zX zP 410 v 88 [some (.inr (.inr (some 0))), some (.inl x), some (.inl y), some (.inl 217), none, none, none] [] m' ∧ Fr b6P m m' ∧ ∀ j, j < 217 → zi m' 6 j = zi m 5 j := by
  intro d
  induction d with
  | zero =>
    intro k m1 hk hF hz
    have e : k = 217 := by omega
    subst e
    exact ⟨m1, by rw [j_X11_mean_63, if_neg (by decide)]; rfl, hF, hz⟩
  | succ d ih =>
    intro k m1 hk hF hz
    have hS1 := hF.s2 hS
    have r6 : zr m1 0 21 = some 6 := hS1.2.1.2.1.2.1
    have k6 : ArS m1 6 9 217 := hS1.2.2.2.1.2.1
    have er : zi m1 5 k = zi m 5 k := hF.i (by unfold b6P; omega)
    obtain ⟨m', f1, f2, f3⟩ := ih (k + 1) (zwi m1 6 k (zi m 5 k)) (by omega) (hF.tr (Fr.wi _ _ rfl)) (fun j hj => by
      by_cases z : j = k
      · subst z; exact zi_wi_s _ _ _ _
      · rw [zi_wi_n _ _ (Or.inr z)]; exact hz j (by omega))
    refine ⟨m', ?_, f2, f3⟩
    rw [j_X11_mean_63, if_pos (by omega), if_pos hS1.1, r6, obind, if_pos hS1.1, hS1.2.1.2.1.1, obind, if_pos (A5 hS1 (by omega) (by omega)), if_pos (k6.A (by omega) (by omega)), Int.toNat_natCast, er, zadd1 (by omega)]
    exact f1
theorem m_putback (hS : S2 m) {x y z w : Int} : ∀ (d k : Nat) (m1 : zM), k + d = 217 → Fr bl0P m m1 → (∀ j, j < k → zi m1 5 j = zi m 6 j) →
    ∃ m', zX zP 410 v 127 [some (.inr (.inr (some 0))), some (.inl x), some (.inl y), some (.inr (.inl z)), none, some (.inl w), some (.inl (k : Int))] [] m1 = zX zP 410 v 155 [some (.inr (.inr (some 0))), some (.inl x), some (.inl y), some (.inr (.inl z)), none, some (.inl w), some (.inl 217)] [] m' ∧ Fr bl0P m m' ∧ ∀ j, j < 217 → zi m' 5 j = zi m 6 j := by
  intro d
  induction d with
  | zero =>
    intro k m1 hk hF hz
    have e : k = 217 := by omega
    subst e
    exact ⟨m1, by rw [j_X11_mean_127, if_neg (by decide)]; rfl, hF, hz⟩
  | succ d ih =>
    intro k m1 hk hF hz
    have hS1 := hF.s2 hS
    have r6 : zr m1 0 21 = some 6 := hS1.2.1.2.1.2.1
    have k6 : ArS m1 6 9 217 := hS1.2.2.2.1.2.1
    have er : zi m1 6 k = zi m 6 k := hF.i (by unfold bl0P; omega)
    obtain ⟨m', f1, f2, f3⟩ := ih (k + 1) (zwi m1 5 k (zi m 6 k)) (by omega) (hF.tr (Fr.wi _ _ ⟨rfl, by omega⟩)) (fun j hj => by
      by_cases z : j = k
      · subst z; exact zi_wi_s _ _ _ _
      · rw [zi_wi_n _ _ (Or.inr z)]; exact hz j (by omega))
    refine ⟨m', ?_, f2, f3⟩
    rw [j_X11_mean_127, if_pos (by omega), if_pos hS1.1, hS1.2.1.2.1.1, obind, if_pos hS1.1, r6, obind, if_pos (k6.A (by omega) (by omega)), if_pos (A5 hS1 (by omega) (by omega)), Int.toNat_natCast, er, zadd1 (by omega)]
    exact f1
theorem w_mean_loop {x y : Nat} (hx : x + y ≤ 10000) (hy20 : y ≤ 20) (hA : (gBl S).2 = some A) {d : Nat} (hSg : Sg (gSp (gL S).2.2.1.length (gL S).2.1.length (gL S).1.length) A d 0 (nst A) 0 A.1.length) (ht : TdOk (gL S)) (h0 : R2 S m0) : ∀ (n i acc : Nat) (u : Option zV) (m : zM), i + n = y → acc + 48 * n < 100000 → R2 S m → (∀ j, j < 217 → zi m 6 j = zi m0 5 j) →
    ∃ m' u', zX zP 410 v 93 [some (.inr (.inr (some 0))), some (.inl (x : Int)), some (.inl (y : Int)), some (.inr (.inl (acc : Int))), none, some (.inl (i : Int)), u] [] m = zX zP 410 v 161 [some (.inr (.inr (some 0))), some (.inl (x : Int)), some (.inl (y : Int)), some (.inr (.inl ((acc + mnS A (gL S) x n i : Nat) : Int))), none, some (.inl (y : Int)), u'] [] m' ∧ R2 S m' := by
  intro n
  induction n with
  | zero =>
    intro i acc u m hi hacc hR h6
    have e : i = y := by omega
    subst e
    exact ⟨m, u, by rw [j_X11_mean_93, if_neg (by omega)]; rfl, hR⟩
  | succ n ih =>
    intro i acc u m hi hacc hR h6
    obtain ⟨m1, q1, q2, q3, _⟩ := m_lives (v := 0) (x := x + i) hA hR hSg ht (by omega)
    have hR1 : R2 (wL S (lvd A (gL S) (x + i)).1) m1 := q2.1
    have b6 : ∀ j, zi m1 6 j = zi m 6 j := q2.2.2.2.2.2
    have hnm : nmL (gL S) (lvd A (gL S) (x + i)).1 := lvA_nm (A := A) (nst A) 0 (nst A) (li0 (gL S) (x + i))
    have hmn : mnS A (gL S) x (n + 1) i = wdL (lvd A (gL S) (x + i)).1 + mnS A (gL S) x n (i + 1) := rfl
    rw [hmn]
    generalize lvd A (gL S) (x + i) = τ at q1 hR1 hnm ⊢
    have hlr : ∀ k, k < τ.1.2.2.1.length → (τ.1.2.2.1.getD k ps0).2.2.length ≤ 8 := fun k hk => (hR1.ps (i := k) hk).1.2.2.2.1.1
    have hr := row_le τ.1 hlr
    have p6 : τ.1.2.2.1.length ≤ 6 := hR1.p6
    have hle := smN_le (fun i => (τ.1.2.2.1.getD i ps0).2.2.length) hr τ.1.2.2.1.length 0
    have hw : wdL τ.1 ≤ 48 := by unfold wdL; omega
    have hc2 : zi m1 5 (Int.toNat 2) = (τ.1.2.2.1.length : Int) := hR1.c2
    have sm := m_sumOf (v := 0) (m := m1) hR1.1 (w := 163) (N := τ.1.2.2.1.length) (f := fun i => ((τ.1.2.2.1.getD i ps0).2.2.length : Int)) (by omega) (fun k hk => by
      have := (hR1.ps (i := k) hk).1.2.2.1
      rw [Nat.zero_add] at this; exact this)
    have es := sumF_nat (fun i => ((τ.1.2.2.1.getD i ps0).2.2.length : Int)) (fun i => (τ.1.2.2.1.getD i ps0).2.2.length) (fun _ => rfl) hr τ.1.2.2.1.length 0 0 (by omega)
    have z0 : ((0 : Nat) : Int) = 0 := rfl
    rw [Nat.zero_add, z0] at es
    rw [es] at sm
    have sm' : zF zP 314 0 [(.inr (.inr (some 0))), .inl 163, .inl (τ.1.2.2.1.length : Int)] m1 = some (some (.inl (wdL τ.1 : Int)), m1) := sm
    obtain ⟨m2, b1, b2, b3⟩ := m_putback (v := v) hR1.1 (x := (x : Int)) (y := (y : Int)) (z := ((acc + wdL τ.1 : Nat) : Int)) (w := (i : Int)) 217 0 m1 rfl (Fr.rf _ _) (fun j hj => absurd hj (Nat.not_lt_zero j))
    have hR2 : R2 S m2 := h0.back hR1 hnm b2 (fun j hj => by rw [b3 j hj, b6 j]; exact h6 j hj)
    obtain ⟨m', u', i1, i2⟩ := ih (i + 1) (acc + wdL τ.1) (some (.inl 217)) m2 (by omega) (by omega) hR2 (fun j hj => by rw [b2.i (by unfold bl0P; omega), b6 j]; exact h6 j hj)
    refine ⟨m', u', ?_, i2⟩
    have ex : zadd (x : Int) (i : Int) = ((x + i : Nat) : Int) := zadd_nat (by omega)
    have el : zladd (acc : Int) (wdL τ.1 : Int) = ((acc + wdL τ.1 : Nat) : Int) := zladd_nat (Nat.lt_of_lt_of_le (show acc + wdL τ.1 < 100000 by omega) (by decide))
    rw [z0] at b1
    rw [j_X11_mean_93, if_pos (by omega), if_pos hR.1.1, ex, q1, zC0_s, if_pos hR1.1.1, hR1.1.2.1.2.1.1, obind, if_pos (A5 hR1.1 (by omega) (by omega)), if_pos hR1.1.1, hc2, sm', zC1_s, el, b1, j_X11_mean_155, zadd1 (by omega), i1, Nat.add_assoc]
theorem w_mean (hR : R2 S m) (hyr : YrOk (gBl S)) (ht : TdOk (gL S)) (x y : Int) : Ex2 (zF zP 410 v [(.inr (.inr (some 0))), .inl x, .inl y] m) (o_mean S x y) := by
  have h0 := hR.pre
  rw [f_X11_mean, if_pos hR.1.1, zT_wi, if_pos hR.1.1, m_isIn, zC1_s]
  generalize zwi (zwi m 0 1 0) 0 0 0 = m0 at h0 ⊢
  have no : ∀ x y : Int, Ex2 (zX zP 410 v 37 [some (.inr (.inr (some 0))), some (.inl x), some (.inl y), none, none, none, none] [] m0) (oF S 5) := fun x y => by
    rw [j_X11_mean_37, if_pos h0.1.1]; exact x2_fC h0
  unfold o_mean
  by_cases c : inR y 1 20 = true
  · rw [c, if_neg nb1, m_isIn, zC1_s]
    rw [inR_t] at c
    obtain ⟨b, rfl⟩ := Int.eq_ofNat_of_zero_le (show 0 ≤ y by omega)
    have es : zsub 10000 (b : Int) = 10000 - (b : Int) := zsub_of (by unfold r32; omega)
    rw [es, Bool.true_and]
    by_cases c2 : inR x 0 (10000 - (b : Int)) = true
    · rw [c2, if_neg nb1, if_pos rfl]
      rw [inR_t] at c2
      obtain ⟨a, rfl⟩ := Int.eq_ofNat_of_zero_le (show 0 ≤ x by omega)
      have hY : YvM m0 0 (gBl S).2 := h0.2.2.2.2.1.2.2.2.2
      have h217 : zi m0 5 (Int.toNat 217) = b01 (gBl S).2.isSome := hY.1
      rw [Int.toNat_natCast, Int.toNat_natCast, j_X11_mean_43, if_pos h0.1.1, h0.1.2.1.2.1.1, obind, if_pos (A5 h0.1 (by omega) (by omega)), h217]
      cases e : (gBl S).2 with
      | none =>
        rw [if_pos (show b01 (none : Option (List Int × List Int × List Int)).isSome = 0 from yb0), if_pos h0.1.1]
        exact x2_fC h0
      | some A =>
        obtain ⟨d, hSg⟩ := hyr A e
        obtain ⟨m1, k1, k2, k3⟩ := m_keep (v := v) h0.1 (x := (a : Int)) (y := (b : Int)) 217 0 m0 rfl (Fr.rf _ _) (fun j hj => absurd hj (Nat.not_lt_zero j))
        have hR1 : R2 (wSt S 0) m1 := h0.fr (k2.mono (fun b j q => by unfold b6P at q; unfold scr; omega))
        obtain ⟨m2, u2, l1, l2⟩ := w_mean_loop (v := v) (S := wSt S 0) (x := a) (y := b) (by omega) (by omega) e hSg ht h0 b 0 0 none m1 (by omega) (by omega) hR1 k3
        have z0 : ((0 : Nat) : Int) = 0 := rfl
        rw [z0, Nat.zero_add] at l1
        rw [z0] at k1
        have hed : euD 100 (mnS A (gL S) a b 0) b := euD_pow 50 _ b (Nat.lt_of_le_of_lt (show b ≤ 20 by omega) (by decide))
        obtain ⟨m3, t1, t2⟩ := m_fraction (v := 0) l2 hed (Or.inr (by omega))
        rw [if_neg (show ¬ b01 (some A).isSome = 0 from nb1), j_X11_mean_61, k1, j_X11_mean_88, l1, j_X11_mean_161, if_pos l2.1.1, t1, zC1_s, if_pos zb1]
        exact ⟨m3, rfl, t2⟩
    · rw [bool_f c2, if_pos yb0, if_neg (by decide)]; exact no _ _
  · rw [bool_f c, if_pos yb0, Bool.false_and, if_neg (by decide)]; exact no _ _
end MEANW
