/-! The reference: numbers poured. -/
section POUR
variable {v : Nat} {S : zSt} {m m' : zM}
def n3P (lo hi b j : Nat) : Prop := b = 3 ∧ lo ≤ j ∧ j < hi
theorem w_pour_up {t i u j N : Nat} (ht : t < 4) (hu : u < 4) (hi : i + N ≤ 60) (hj : j + N ≤ 60) (hov : ∀ a b, a < b → b < N → 60 * t + i + a ≠ 60 * u + j + b) (hS0 : S2 m) : ∀ (n k : Nat) (m1 : zM) (u8 : Option zV), k + n = N → Fr (n3P (60 * u + j) (60 * u + j + N)) m m1 → (∀ q, zl m1 3 q = if 60 * u + j + (N - k) ≤ q ∧ q < 60 * u + j + N then zl m 3 (60 * t + i + (q - (60 * u + j))) else zl m 3 q) →
    ∃ m', zX zP 251 v 158 [some (.inr (.inr (some 0))), some (.inl (t : Int)), some (.inl (i : Int)), some (.inl (u : Int)), some (.inl (j : Int)), some (.inl (N : Int)), some (.inl 1), some (.inl (k : Int)), u8] [] m1 = some (some (.inl 1), m') ∧ Fr (n3P (60 * u + j) (60 * u + j + N)) m m' ∧ (∀ q, zl m' 3 q = if 60 * u + j ≤ q ∧ q < 60 * u + j + N then zl m 3 (60 * t + i + (q - (60 * u + j))) else zl m 3 q) := by
  have e1 : ∀ (t i x : Nat), t < 4 → i + x < 60 → zadd (zadd (zmul 60 (t : Int)) (i : Int)) (x : Int) = ((60 * t + i + x : Nat) : Int) := fun t i x h1 h2 => by
    rw [show zmul 60 (t : Int) = ((60 * t : Nat) : Int) from zmul_nat (n := 60) (by omega), show zadd ((60 * t : Nat) : Int) (i : Int) = ((60 * t + i : Nat) : Int) from zadd_nat (by omega)]
    exact zadd_nat (by omega)
  intro n
  induction n with
  | zero =>
    intro k m1 u8 hk hF hB
    refine ⟨m1, by rw [j_X11_pour_158, if_neg (by omega), j_X11_pour_219, if_pos zb1], hF, fun q => ?_⟩
    rw [hB q]
    by_cases g : 60 * u + j ≤ q ∧ q < 60 * u + j + N
    · rw [if_pos g, if_pos (by omega)]
    · rw [if_neg g, if_neg (by omega)]
  | succ n ih =>
    intro k m1 u8 hk hF hB
    have hS := hF.s2 hS0
    have e2 : ∀ _ : Unit, zsub (zsub (N : Int) 1) (k : Int) = ((N - 1 - k : Nat) : Int) := fun _ => by
      rw [show zsub (N : Int) 1 = ((N - 1 : Nat) : Int) from zsub1 (by omega) (by omega)]; exact zsub_nat (by omega) (by omega)
    have hr : zl m1 3 (60 * t + i + (N - 1 - k)) = zl m 3 (60 * t + i + (N - 1 - k)) := by
      rw [hB, if_neg]
      intro q
      exact hov (N - 1 - k) (60 * t + i + (N - 1 - k) - (60 * u + j)) (by omega) (by omega) (by omega)
    have hw : Fr (n3P (60 * u + j) (60 * u + j + N)) m1 (zwl m1 3 (60 * u + j + (N - 1 - k)) (zl m 3 (60 * t + i + (N - 1 - k)))) := Fr.wl m1 _ ⟨rfl, by omega, by omega⟩
    obtain ⟨m', f1, f2⟩ := ih (k + 1) _ (some (.inl ((N - 1 - k : Nat) : Int))) (by omega) (hF.tr hw) (fun q => by
      by_cases e : q = 60 * u + j + (N - 1 - k)
      · subst e
        rw [zl_wl_s, if_pos (by omega), show 60 * u + j + (N - 1 - k) - (60 * u + j) = N - 1 - k by omega]
      · rw [zl_wl_off _ _ (Or.inr e), hB q]
        by_cases g : 60 * u + j + (N - k) ≤ q ∧ q < 60 * u + j + N
        · rw [if_pos g, if_pos (by omega)]
        · rw [if_neg g, if_neg (by omega)])
    refine ⟨m', ?_, f2⟩
    rw [j_X11_pour_158, if_pos (by omega), if_neg (by decide), e2 (), j_X11_pour_182, if_pos hS.1, hS.2.1.1.2.2.1, obind, if_pos hS.1, obind, e1 t i _ ht (by omega), if_pos (hS.2.2.1.2.2.1.A (by omega) (by omega)), e1 u j _ hu (by omega), if_pos (hS.2.2.1.2.2.1.A (by omega) (by omega)), Int.toNat_natCast, Int.toNat_natCast, hr, zadd1 (by omega)]
    exact f1
theorem w_pour_down {t i u j N : Nat} (ht : t < 4) (hu : u < 4) (hi : i + N ≤ 60) (hj : j + N ≤ 60) (hov : ∀ a b, b < a → a < N → 60 * t + i + a ≠ 60 * u + j + b) (hS0 : S2 m) : ∀ (n k : Nat) (m1 : zM) (u8 : Option zV), k + n = N → Fr (n3P (60 * u + j) (60 * u + j + N)) m m1 → (∀ q, zl m1 3 q = if 60 * u + j ≤ q ∧ q < 60 * u + j + k then zl m 3 (60 * t + i + (q - (60 * u + j))) else zl m 3 q) →
    ∃ m', zX zP 251 v 158 [some (.inr (.inr (some 0))), some (.inl (t : Int)), some (.inl (i : Int)), some (.inl (u : Int)), some (.inl (j : Int)), some (.inl (N : Int)), some (.inl 0), some (.inl (k : Int)), u8] [] m1 = some (some (.inl 1), m') ∧ Fr (n3P (60 * u + j) (60 * u + j + N)) m m' ∧ (∀ q, zl m' 3 q = if 60 * u + j ≤ q ∧ q < 60 * u + j + N then zl m 3 (60 * t + i + (q - (60 * u + j))) else zl m 3 q) := by
  have e1 : ∀ (t i x : Nat), t < 4 → i + x < 60 → zadd (zadd (zmul 60 (t : Int)) (i : Int)) (x : Int) = ((60 * t + i + x : Nat) : Int) := fun t i x h1 h2 => by
    rw [show zmul 60 (t : Int) = ((60 * t : Nat) : Int) from zmul_nat (n := 60) (by omega), show zadd ((60 * t : Nat) : Int) (i : Int) = ((60 * t + i : Nat) : Int) from zadd_nat (by omega)]
    exact zadd_nat (by omega)
  intro n
  induction n with
  | zero =>
    intro k m1 u8 hk hF hB
    refine ⟨m1, by rw [j_X11_pour_158, if_neg (by omega), j_X11_pour_219, if_pos zb1], hF, fun q => ?_⟩
    rw [hB q, show k = N by omega]
  | succ n ih =>
    intro k m1 u8 hk hF hB
    have hS := hF.s2 hS0
    have hr : zl m1 3 (60 * t + i + k) = zl m 3 (60 * t + i + k) := by
      rw [hB, if_neg]
      intro q
      exact hov k (60 * t + i + k - (60 * u + j)) (by omega) (by omega) (by omega)
    have hw : Fr (n3P (60 * u + j) (60 * u + j + N)) m1 (zwl m1 3 (60 * u + j + k) (zl m 3 (60 * t + i + k))) := Fr.wl m1 _ ⟨rfl, by omega, by omega⟩
    obtain ⟨m', f1, f2⟩ := ih (k + 1) _ (some (.inl (k : Int))) (by omega) (hF.tr hw) (fun q => by
      by_cases e : q = 60 * u + j + k
      · subst e
        rw [zl_wl_s, if_pos (by omega), show 60 * u + j + k - (60 * u + j) = k by omega]
      · rw [zl_wl_off _ _ (Or.inr e), hB q]
        by_cases g : 60 * u + j ≤ q ∧ q < 60 * u + j + k
        · rw [if_pos g, if_pos (by omega)]
        · rw [if_neg g, if_neg (by omega)])
    refine ⟨m', ?_, f2⟩
    rw [j_X11_pour_158, if_pos (by omega), if_pos rfl, j_X11_pour_180, j_X11_pour_182, if_pos hS.1, hS.2.1.1.2.2.1, obind, if_pos hS.1, obind, e1 t i _ ht (by omega), if_pos (hS.2.2.1.2.2.1.A (by omega) (by omega)), e1 u j _ hu (by omega), if_pos (hS.2.2.1.2.2.1.A (by omega) (by omega)), Int.toNat_natCast, Int.toNat_natCast, hr, zadd1 (by omega)]
    exact f1
theorem zladd_of {x y : Int} (hx : r32 x) (hy : r32 y) : zladd x y = x + y := by
  unfold r32 at hx hy
  unfold zladd i64
  rw [Int.bmod_eq_of_le (by omega) (by omega)]
theorem w_pour (hR : R2 S m) (t u : Int) {i j n : Int} (hi : r32 i) (hj : r32 j) (hn : r32 n) : Ex2 (zF zP 251 v [(.inr (.inr (some 0))), .inl t, .inl i, .inl u, .inl j, .inl n] m) (o_pour S t i u j n) := by
  have h0 := hR.pre
  unfold o_pour
  rw [f_X11_pour, if_pos hR.1.1, zT_wi, if_pos hR.1.1]
  generalize zwi (zwi m 0 1 0) 0 0 0 = m0 at h0 ⊢
  have f28 : zX zP 251 v 28 [some (.inr (.inr (some 0))), some (.inl t), some (.inl i), some (.inl u), some (.inl j), some (.inl n), none, none, none] [] m0 = some (some (.inl 0), zwi m0 0 0 1) := by
    rw [j_X11_pour_28, if_pos h0.1.1, m_no h0.1, zC1_s, if_pos zb0]
  have f52 : zX zP 251 v 52 [some (.inr (.inr (some 0))), some (.inl t), some (.inl i), some (.inl u), some (.inl j), some (.inl n), none, none, none] [] m0 = some (some (.inl 0), zwi m0 0 0 3) := by
    rw [j_X11_pour_52, if_pos h0.1.1, m_no h0.1, zC1_s, if_pos zb0]
  have f136 : zX zP 251 v 136 [some (.inr (.inr (some 0))), some (.inl t), some (.inl i), some (.inl u), some (.inl j), some (.inl n), none, none, none] [] m0 = some (some (.inl 0), zwi m0 0 0 4) := by
    rw [j_X11_pour_136, if_pos h0.1.1, m_no h0.1, zC1_s, if_pos zb0]
  by_cases ht : inR t 0 3 = true
  rotate_left
  · have e : yLs (ySt S t) (ySt S u) = 1 := by
      unfold yLs ySt
      rw [if_neg ht]
      repeat' split
      all_goals first | rfl | omega
    rw [e, if_neg (show ¬ (1 : Int) = 0 by decide)]
    rw [inR_t] at ht
    by_cases h1 : t < 0
    · rw [if_pos h1, f28]; exact x2_f h0
    · rw [if_neg h1, if_neg (by omega), f28]; exact x2_f h0
  by_cases hu : inR u 0 3 = true
  rotate_left
  · have e : yLs (ySt S t) (ySt S u) = 1 := by
      unfold yLs ySt
      rw [if_neg hu]
      repeat' split
      all_goals first | rfl | omega
    rw [e, if_neg (show ¬ (1 : Int) = 0 by decide)]
    rw [inR_t] at ht hu
    rw [if_neg (by omega), if_pos (by omega)]
    by_cases h1 : u < 0
    · rw [if_pos h1, f28]; exact x2_f h0
    · rw [if_neg h1, if_neg (by omega), f28]; exact x2_f h0
  obtain ⟨a, rfl, ha⟩ := inR3 ht
  obtain ⟨b, rfl, hb⟩ := inR3 hu
  rw [if_neg (by omega), if_pos (by omega), if_neg (by omega), if_pos (by omega), j_X11_pour_34, if_pos h0.1.1, h0.1.2.1.1.2.1, obind, if_pos (h0.1.2.2.1.2.1.A (by omega) (by omega)), if_pos h0.1.1, obind, if_pos (h0.1.2.2.1.2.1.A (by omega) (by omega)), Int.toNat_natCast, Int.toNat_natCast, m_trayMany h0 ha, m_trayMany h0 hb]
  unfold ySt
  rw [if_pos ht, if_pos hu, Int.toNat_natCast, Int.toNat_natCast]
  have va : TvM m0 a (gTr S a) := h0.tm ha
  have vb : TvM m0 b (gTr S b) := h0.tm hb
  show Ex2 (if (if (gTr S a).1 = true then ((gTr S a).2.2.length : Int) else -1) < 0 then _ else if (if (gTr S b).1 = true then ((gTr S b).2.2.length : Int) else -1) < 0 then _ else _) _
  by_cases ea : (gTr S a).1 = true
  rotate_left
  · rw [if_neg ea, if_pos (show (-1 : Int) < 0 by decide), f52, if_neg ea]
    have e : yLs 3 (if (gTr S b).1 = true then 0 else 3) = 3 := by split <;> rfl
    rw [e, if_neg (show ¬ (3 : Int) = 0 by decide)]; exact x2_f h0
  by_cases eb : (gTr S b).1 = true
  rotate_left
  · rw [if_pos ea, if_neg (by omega), if_neg eb, if_pos (show (-1 : Int) < 0 by decide), f52, if_pos ea, if_neg eb, if_neg (show ¬ yLs 0 3 = 0 by decide)]
    exact x2_f h0
  rw [if_pos ea, if_neg (by omega), if_pos eb, if_neg (by omega), if_pos ea, if_pos eb, if_pos (show yLs 0 0 = 0 from rfl), j_X11_pour_58, if_pos h0.1.1, h0.1.2.1.1.1, obind, if_pos (h0.1.2.2.1.1.A (by omega) (by omega)), if_pos h0.1.1, obind, if_pos (h0.1.2.2.1.1.A (by omega) (by omega)), Int.toNat_natCast, Int.toNat_natCast, va.1, vb.1]
  by_cases e : (gTr S a).2.1 = (gTr S b).2.1
  rotate_left
  · rw [if_neg e, if_neg e, if_pos h0.1.1]; exact x2_fC h0
  rw [if_pos e, if_pos e, j_X11_pour_80]
  by_cases e1 : n < 0
  · rw [if_pos e1, if_pos e1, if_pos h0.1.1]; exact x2_fC h0
  rw [if_neg e1, if_neg e1, j_X11_pour_92]
  have a60 : (gTr S a).2.2.length ≤ 60 := va.2.2.1
  have b60 : (gTr S b).2.2.length ≤ 60 := vb.2.2.1
  have ta : zi m0 2 a = ((gTr S a).2.2.length : Int) := by rw [va.2.1, if_pos ea]
  have tb : zi m0 2 b = ((gTr S b).2.2.length : Int) := by rw [vb.2.1, if_pos eb]
  by_cases g : (0 ≤ i ∧ i + n ≤ ((gTr S a).2.2.length : Int)) ∧ (0 ≤ j ∧ j + n ≤ ((gTr S b).2.2.length : Int))
  rotate_left
  · rw [if_neg g, f136]
    by_cases q1 : i < 0
    · rw [if_pos q1]; exact x2_f h0
    · rw [if_neg q1]
      by_cases q2 : j < 0
      · rw [if_pos q2]; exact x2_f h0
      · rw [if_neg q2, if_pos h0.1.1, h0.1.2.1.1.2.1, obind, if_pos (h0.1.2.2.1.2.1.A (by omega) (by omega)), Int.toNat_natCast, ta, zladd_of hi hn]
        by_cases q3 : ((gTr S a).2.2.length : Int) < i + n
        · rw [if_pos (zlcmp_gt.mpr q3)]; exact x2_f h0
        · rw [if_neg (fun q => q3 (zlcmp_gt.mp q)), if_pos h0.1.1, obind, if_pos (h0.1.2.2.1.2.1.A (by omega) (by omega)), Int.toNat_natCast, tb, zladd_of hj hn, if_pos (zlcmp_gt.mpr (by omega))]; exact x2_f h0
  have gg := g
  obtain ⟨⟨g1, g2⟩, g3, g4⟩ := g
  rw [if_pos gg, if_neg (show ¬ i < 0 by omega), if_neg (show ¬ j < 0 by omega), if_pos h0.1.1, h0.1.2.1.1.2.1, obind, if_pos (h0.1.2.2.1.2.1.A (by omega) (by omega)), Int.toNat_natCast, ta, zladd_of hi hn, if_neg (fun q => by have := zlcmp_gt.mp q; omega), if_pos h0.1.1, obind, if_pos (h0.1.2.2.1.2.1.A (by omega) (by omega)), Int.toNat_natCast, tb, zladd_of hj hn, if_neg (fun q => by have := zlcmp_gt.mp q; omega), j_X11_pour_142]
  obtain ⟨I, rfl⟩ := Int.eq_ofNat_of_zero_le g1
  obtain ⟨J, rfl⟩ := Int.eq_ofNat_of_zero_le g3
  obtain ⟨N, rfl⟩ := Int.eq_ofNat_of_zero_le (zlt_ge e1)
  have fin : ∀ m', Fr (n3P (60 * b + J) (60 * b + J + N)) m0 m' → (∀ q, zl m' 3 q = if 60 * b + J ≤ q ∧ q < 60 * b + J + N then zl m0 3 (60 * a + I + (q - (60 * b + J))) else zl m0 3 q) → Ex2 (some (some (.inl 1), m')) (oT (wTr S b ((gTr S b).1, (gTr S b).2.1, puL (gTr S a).2.2 (gTr S b).2.2 I J N))) := fun m' hF hB => by
    refine ⟨m', rfl, h0.tr (hF.mono (fun c k q => by unfold n3P at q; unfold trP; omega)) ⟨?_, ?_, by rw [puL_len]; exact b60, vb.2.2.2.1, fun _ k hk => ?_⟩⟩
    · rw [hF.i (by unfold n3P; omega)]; exact vb.1
    · rw [hF.i (by unfold n3P; omega), puL_len]; exact vb.2.1
    · have hk' : k < (gTr S b).2.2.length := by have : k < (puL (gTr S a).2.2 (gTr S b).2.2 I J N).length := hk; rw [puL_len] at this; exact this
      show zl m' 3 (60 * b + k) = (puL (gTr S a).2.2 (gTr S b).2.2 I J N).getD k 0
      rw [puL_get _ _ _ _ _ _ hk', hB]
      by_cases q : J ≤ k ∧ k < J + N
      · rw [if_pos (by omega), if_pos q, show 60 * a + I + (60 * b + k - (60 * b + J)) = 60 * a + (I + (k - J)) by omega]; exact va.2.2.2.2 ea _ (by omega)
      · rw [if_neg (by omega), if_neg q]; exact vb.2.2.2.2 eb k hk'
  simp only [Int.toNat_natCast]
  by_cases r : I < J
  · obtain ⟨m', f1, f2, f3⟩ := w_pour_up (v := v) (t := a) (i := I) (u := b) (j := J) (N := N) ha hb (by omega) (by omega) (fun p q h1 h2 => by omega) h0.1 N 0 m0 none (by omega) (Fr.rf _ _) (fun q => by rw [if_neg (by omega)])
    rw [if_pos (by omega), j_X11_pour_153, show (0 : Int) = ((0 : Nat) : Int) from rfl, f1]
    exact fin m' f2 f3
  · obtain ⟨m', f1, f2, f3⟩ := w_pour_down (v := v) (t := a) (i := I) (u := b) (j := J) (N := N) ha hb (by omega) (by omega) (fun p q h1 h2 => by omega) h0.1 N 0 m0 none (by omega) (Fr.rf _ _) (fun q => by rw [if_neg (by omega)])
    rw [if_neg (by omega), j_X11_pour_152, j_X11_pour_153]
    have e0 : ((0 : Nat) : Int) = 0 := rfl
    rw [e0] at f1
    rw [f1]
    exact fin m' f2 f3
end POUR
