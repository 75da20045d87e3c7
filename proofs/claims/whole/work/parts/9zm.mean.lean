/-! The class's mean(). -/
def smN (g : Nat → Nat) : Nat → Nat → Nat
  | 0, _ => 0
  | n + 1, k => g k + smN g n (k + 1)
def wdL (L : zLd) : Nat := smN (fun i => (L.2.2.1.getD i ps0).2.2.length) L.2.2.1.length 0
def mnS (A : zAc) (L : zLd) (x : Nat) : Nat → Nat → Nat
  | 0, _ => 0
  | n + 1, i => wdL (lvd A L (x + i)).1 + mnS A L x n (i + 1)
def oMean (S : zSt) (x y : Nat) (Y : zYr) : Int × zSt := match Y with
  | none => oF S 8
  | some A => oFrac S (mnS A (gL S) x y 0) y
def o_mean (S : zSt) (x y : Int) : Int × zSt := if (inR y 1 20 && inR x 0 (10000 - y)) = true then oMean S x.toNat y.toNat (gBl S).2 else oF S 5
section MEAN
variable {v : Nat} {m m' : zM} {a : Nat} {L : zLd} {σ : zLi} {A : zAc} {S : zSt}
theorem sumF_s (f : Nat → Int) (n k : Nat) (acc : Int) : sumF f (n + 1) k acc = sumF f n (k + 1) (zadd acc (f k)) := rfl
theorem smN_s (g : Nat → Nat) (n k : Nat) : smN g (n + 1) k = g k + smN g n (k + 1) := rfl
theorem zadd_1000 {a b : Nat} (h : a + b < 1000) : zadd (a : Int) (b : Int) = ((a + b : Nat) : Int) := zadd_nat (Nat.lt_of_lt_of_le h (by decide))
theorem sumF_nat (f : Nat → Int) (g : Nat → Nat) (hf : ∀ i, f i = (g i : Int)) (hg : ∀ i, g i ≤ 8) : ∀ (n k acc : Nat), acc + 8 * n < 1000 → sumF f n k (acc : Int) = ((acc + smN g n k : Nat) : Int) := by
  intro n
  induction n with
  | zero => intro k acc h; rfl
  | succ n ih =>
    intro k acc h
    have h1 := hg k
    have hlt : acc + g k < 1000 := by omega
    have h2 : acc + g k + 8 * n < 1000 := by omega
    rw [sumF_s, smN_s, hf k, zadd_1000 hlt, ih (k + 1) (acc + g k) h2, Nat.add_assoc]
theorem smN_le (g : Nat → Nat) (hg : ∀ i, g i ≤ 8) : ∀ (n k : Nat), smN g n k ≤ 8 * n
  | 0, k => Nat.zero_le _
  | n + 1, k => by
    have h1 := hg k
    have h2 := smN_le g hg n (k + 1)
    show g k + smN g n (k + 1) ≤ 8 * (n + 1)
    omega
theorem row_le (L : zLd) (h : ∀ i, i < L.2.2.1.length → (L.2.2.1.getD i ps0).2.2.length ≤ 8) (i : Nat) : (L.2.2.1.getD i ps0).2.2.length ≤ 8 := by
  by_cases hi : i < L.2.2.1.length
  · exact h i hi
  · rw [List.getD_eq_getElem?_getD, List.getElem?_eq_none (by omega)]; exact Nat.zero_le _
theorem s_words (h : LdS m a) (hL : LdV m a L) : zF zP 32 v [(.inr (.inr (some a)))] m = some (some (.inl (wdL L : Int)), m) ∧ wdL L ≤ 48 := by
  have hr := row_le L (fun i hi => (hL.rowOk hi).2.1)
  have h6 : L.2.2.1.length ≤ 6 := hL.2.2.1.2.1
  have hb := smN_le (fun i => (L.2.2.1.getD i ps0).2.2.length) hr L.2.2.1.length 0
  have e := sumF_nat (fun i => ((L.2.2.1.getD i ps0).2.2.length : Int)) (fun i => (L.2.2.1.getD i ps0).2.2.length) (fun _ => rfl) hr L.2.2.1.length 0 0 (by omega)
  have z0 : ((0 : Nat) : Int) = 0 := rfl
  rw [Nat.zero_add, z0] at e
  refine ⟨?_, by unfold wdL; omega⟩
  rw [s_allWordsSaid h hL, e]; rfl
theorem R1.dr (hR : R1 S m) (h : Sam m m' 33 64) (hd : DfB m') : R1 S m' := by
  obtain ⟨a1, a2, ⟨gtr, gtp, gbl, gmk, glv, gdf⟩⟩ := hR
  exact ⟨h.s1 a1, h.h1 (by omega) a2, fun t ht => h.trV (by omega) (gtr t ht), h.tpV (by omega) gtp, h.bvC (by omega) gbl, ⟨gmk.1, fun i hi => h.bvC (by omega) (gmk.2 i hi)⟩, fun p hp i hi => by rw [h.i (by omega)]; exact glv p hp i hi, hd⟩
theorem LdV.df (h : LdV m 33 L) : DfB m := fun i hi => by
  have h' := h.2.2.2.2.2 i hi
  rw [show 45 + 2 * i = 33 + 12 + 2 * i by omega]
  exact h'
theorem p_mean_loop {x y : Nat} (hx : x + y ≤ 10000) (hy20 : y ≤ 20) (hA : (gBl S).2 = some A) {d : Nat} (hSg : Sg (gSp (gL S).2.2.1.length (gL S).2.1.length (gL S).1.length) A d 0 (nst A) 0 A.1.length) (ht : TdOk (gL S)) : ∀ (n i acc : Nat) (m : zM), i + n = y → acc + 48 * n < 1000000 → R1 S m →
    ∃ m', zX zP 234 v 57 [some (.inr (.inr (some 0))), some (.inl (x : Int)), some (.inl (y : Int)), some (.inr (.inl (acc : Int))), none, some (.inl (i : Int))] [] m = zX zP 234 v 106 [some (.inr (.inr (some 0))), some (.inl (x : Int)), some (.inl (y : Int)), some (.inr (.inl ((acc + mnS A (gL S) x n i : Nat) : Int))), none, some (.inl (y : Int))] [] m' ∧ R1 S m' := by
  intro n
  induction n with
  | zero =>
    intro i acc m hi hacc hR
    have e : i = y := by omega
    subst e
    exact ⟨m, by rw [j_X10_mean_57, if_neg (by omega)]; rfl, hR⟩
  | succ n ih =>
    intro i acc m hi hacc hR
    have hS := hR.1
    have r2 : zr m 0 2 = some 5 := hS.2.1.2.2.1
    have r3 : zr m 0 3 = some 33 := hS.2.1.2.2.2.1
    have l5 : LdS m 5 := hS.2.2.2.2.2.2.1
    have l33 : LdS m 33 := hS.2.2.2.2.2.2.2.1
    obtain ⟨m1, c1, c2, c3⟩ := s_copyLand (v := 0) (A := 33) (B := 5) l33 l5 (by omega) hR.2.2.2.2.1
    have hR1 := hR.dr (c2.mono (by omega) (by omega)) c3.1.df
    have hS1 := hR1.1
    have hYv : YvC m1 41 (some A) := by
      have h := c3.2
      rw [hA] at h; exact h
    obtain ⟨m2, q1, q2, q3, _⟩ := c_lives (v := 0) (a := 33) (x := x + i) (by omega) hS1.2.2.2.2.2.2.2.1 hS1.2.2.2.2.2.1 c3.1 hYv hSg ht (by omega)
    have s2 : Sam m1 m2 33 64 := q2.sam (fun b j q => by unfold lvF lvE at q; omega)
    have hR2 := hR1.dr s2 q3.1.2.1.df
    obtain ⟨w1, w2⟩ := s_words (v := 0) q3.1.1 q3.1.2.1
    have w2' : wdL (lvd A (gL S) (x + i)).1 ≤ 48 := w2
    obtain ⟨m', i1, i2⟩ := ih (i + 1) (acc + wdL (lvd A (gL S) (x + i)).1) m2 (by omega) (by omega) hR2
    refine ⟨m', ?_, i2⟩
    have ex : zadd (x : Int) (i : Int) = ((x + i : Nat) : Int) := zadd_nat (by omega)
    have el : zladd (acc : Int) (wdL (lvd A (gL S) (x + i)).1 : Int) = ((acc + wdL (lvd A (gL S) (x + i)).1 : Nat) : Int) := zladd_nat (by
      have h40 : (1000000 : Nat) ≤ 2 ^ 40 := by decide
      omega)
    have hm : mnS A (gL S) x (n + 1) i = wdL (lvd A (gL S) (x + i)).1 + mnS A (gL S) x n (i + 1) := rfl
    rw [j_X10_mean_57, if_pos (by omega), if_pos hS.1, r3, obind, if_pos hS.1, r2, obind, if_pos l33.1, c1, zC0_s, if_pos hS1.1, hS1.2.1.2.2.2.2.2.1, obind, if_pos hS1.1, hS1.2.1.2.2.2.1, obind, if_pos hS1.2.2.2.2.2.1.1, ex, q1, zC0_s, if_pos hR2.1.1, hR2.1.2.1.2.2.2.1, obind, if_pos q3.1.1.1, w1, zC1_s, el, zadd1 (by omega), i1, hm, Nat.add_assoc]
theorem p_mean (hR : R1 S m) (hyr : YrOk (gBl S)) (ht : TdOk (gL S)) (x y : Int) : Ex1 (zF zP 234 v [(.inr (.inr (some 0))), .inl x, .inl y] m) (o_mean S x y) := by
  have hS := hR.1
  have r2 : zr m 0 2 = some 5 := hS.2.1.2.2.1
  have l5 : LdS m 5 := hS.2.2.2.2.2.2.1
  have r6 : zr m 5 6 = some 13 := l5.2.1.2.2.2.2.2.2
  have y13 : YrS m 13 := l5.2.2.2.1
  have no : Ex1 (zX zP 234 v 26 [some (.inr (.inr (some 0))), some (.inl x), some (.inl y), none, none, none] [] m) (oF S 5) := by
    rw [j_X10_mean_26, if_pos hS.1]; exact x1_fC hR
  have bad : ¬ (inR y 1 20 && inR x 0 (10000 - y)) = true → o_mean S x y = oF S 5 := fun h => by unfold o_mean; rw [if_neg h]
  rw [f_X10_mean]
  by_cases c0 : y < 1
  · rw [if_pos c0, bad (fun h => by rw [Bool.and_eq_true, inR_t, inR_t] at h; omega)]; exact no
  · rw [if_neg c0]
    by_cases c1 : (20 : Int) < y
    · rw [if_pos c1, bad (fun h => by rw [Bool.and_eq_true, inR_t, inR_t] at h; omega)]; exact no
    · rw [if_neg c1]
      by_cases c2 : x < 0
      · rw [if_pos c2, bad (fun h => by rw [Bool.and_eq_true, inR_t, inR_t] at h; omega)]; exact no
      · obtain ⟨b, rfl⟩ := Int.eq_ofNat_of_zero_le (show 0 ≤ y by omega)
        have es : zadd (zsub 9999 (b : Int)) 1 = 10000 - (b : Int) := by
          rw [zsub_of (by unfold r32; omega)]
          unfold zadd i32
          rw [Int.bmod_eq_of_le (by omega) (by omega)]; omega
        rw [if_neg c2, es]
        by_cases c3 : 10000 - (b : Int) < x
        · rw [if_pos c3, bad (fun h => by rw [Bool.and_eq_true, inR_t, inR_t] at h; omega)]; exact no
        · obtain ⟨a, rfl⟩ := Int.eq_ofNat_of_zero_le (show 0 ≤ x by omega)
          have hc : (inR (b : Int) 1 20 && inR (a : Int) 0 (10000 - (b : Int))) = true := by
            rw [Bool.and_eq_true, inR_t, inR_t]; omega
          have hYv : YvC m 13 (gBl S).2 := hR.2.2.2.2.1.2
          have h3 : zi m 13 3 = b01 (gBl S).2.isSome := hYv.1
          unfold o_mean
          rw [if_neg c3, if_pos hc, Int.toNat_natCast, Int.toNat_natCast, j_X10_mean_32, if_pos hS.1, r2, obind, if_pos l5.1, r6, obind, if_pos y13.1, h3]
          cases e : (gBl S).2 with
          | none =>
            rw [if_pos (show b01 (none : Option (List Int × List Int × List Int)).isSome = 0 from yb0), if_pos hS.1]
            exact x1_fC hR
          | some A =>
            obtain ⟨d, hSg⟩ := hyr A e
            obtain ⟨m1, l1, l2⟩ := p_mean_loop (v := v) (x := a) (y := b) (by omega) (by omega) e hSg ht b 0 0 m (by omega) (by omega) hR
            have z0 : ((0 : Nat) : Int) = 0 := rfl
            rw [z0, Nat.zero_add] at l1
            have hed : euD 100 (mnS A (gL S) a b 0) b := euD_pow 50 _ b (Nat.lt_of_le_of_lt (show b ≤ 20 by omega) (by decide))
            obtain ⟨m2, t1, t2⟩ := c_tell (v := 0) l2 hed (Or.inr (by omega))
            rw [if_neg (show ¬ b01 (some A).isSome = 0 from nb1), j_X10_mean_52, l1, j_X10_mean_106, if_pos l2.1.1, t1, zC0_s, if_pos t2.1.1]
            exact x1_tC t2
end MEAN
