/-! Two worlds in one heap: each a memory's picture; what is not its own it does not touch. -/
/-- the references of a cell lie below N -/
def qD1 (m : zM) (N a : Nat) : Prop := ((zk m a).1 < 8 → ∀ r : vw_C, zCl[(zk m a).1]? = some r → ∀ k, k < r.2.2 → zIsR (zk m a).1 k = true → ∀ b, zr m a k = some b → b < N) ∧ (11 ≤ (zk m a).1 → ∀ k, k < (zk m a).2 → ∀ b, zr m a k = some b → b < N)
def qCd (m : zM) (N : Nat) : Prop := ∀ a, a < N → qD1 m N a
/-- the picture of the first N cells, wherever the next ones come -/
def qW (D : zD) (ρ : Nat → Nat) (m : zM) (N : Nat) (H : Heap) : Prop := (∀ a, a < N → zAt D ρ m a H) ∧ (∀ a b, a < N → b < N → ρ a = ρ b → a = b) ∧ (∀ a, a < N → D.2.2.2.2 (ρ a)) ∧ (∀ a k, r32 (zi m a k)) ∧ (∀ a k, r64 (zl m a k)) ∧ ∀ a, (zk m a).2 < 2147483648
/-- where the next cells come -/
def qRe (D : zD) (ρ : Nat → Nat) (N h : Nat) : Nat → Nat := fun a => if a < N then ρ a else if a < zSPEC then h + (a - N) else D.2.1 100 (a - zSPEC)
def qA (ρ : Nat → Nat) (N h : Nat) : Nat → Prop := fun q => (∃ a, a < N ∧ ρ a = q) ∨ h ≤ q
/-- the first N cells alone -/
def qTr (m : zM) (N : Nat) : zM := ((N, 0), m.2)
section WORLD
variable {D : zD} {ρ ρ' : Nat → Nat} {A : Nat → Prop} {m : zM} {N a : Nat} {H H1 : Heap} {S : zSt}
theorem qRe_lt {h : Nat} (ha : a < N) : qRe D ρ N h a = ρ a := if_pos ha
theorem arrV_same (c : ClassId) (n : Nat) (f g : Nat → Value) (h : ∀ k, k < n → f k = g k) : arrV c n f = arrV c n g := by
  unfold arrV
  congr 2
  funext j
  exact h j.val j.isLt
theorem zAt_re (h : zAt D ρ m a H) (hd : qD1 m N a) (ha : ρ' a = ρ a) (e : ∀ b, b < N → ρ' b = ρ b) : zAt D ρ' m a H := by
  unfold zAt at h ⊢
  by_cases c8 : (zk m a).1 < 8
  · rw [if_pos c8] at h ⊢
    obtain ⟨r, hr, hob⟩ := h
    rw [ha]
    refine ⟨r, hr, hob.to (fun k hk => ?_)⟩
    have key := hd.1 c8 r hr k hk
    have e1 : zIsR (zk m a).1 k = true → (zr m a k).map ρ = (zr m a k).map ρ' := fun hz => by
      cases hb : zr m a k with
      | none => rfl
      | some b => show some (ρ b) = some (ρ' b); rw [e b (key hz b hb)]
    unfold zFv
    unfold zIsR at e1
    split
    · rfl
    · rename_i q; rw [q] at e1; rw [e1 rfl]
    · rename_i q; rw [q] at e1; rw [e1 rfl]
    · rfl
  · rw [if_neg c8] at h ⊢
    refine ⟨h.1, ?_⟩
    rw [ha, h.2]
    congr 1
    refine arrV_same _ _ _ _ (fun k hk => ?_)
    unfold zAv
    by_cases c10 : (zk m a).1 = 10
    · rw [if_pos c10, if_pos c10]
    · rw [if_neg c10, if_neg c10]
      by_cases c11 : 11 ≤ (zk m a).1
      · rw [if_pos c11, if_pos c11]
        cases hb : zr m a k with
        | none => rfl
        | some b => show va_rf (some (ρ b)) = va_rf (some (ρ' b)); rw [e b (hd.2 c11 k hk b hb)]
      · rw [if_neg c11, if_neg c11]
theorem qW.toH (h : qW D ρ m N H) (hc : qCd m N) (hn : zn m = N) (hN : N < zSPEC) (h0 : D.2.2.2.1.size ≤ H.size) (hA : ∀ q : Nat, D.2.2.2.1.size ≤ q → D.2.2.2.2 q) (hk : ∀ q : Nat, q < D.2.2.2.1.size → ¬ D.2.2.2.2 q → H[q]? = D.2.2.2.1[q]?) : zH D (qRe D ρ N H.size) (qA ρ N H.size) m H := by
  subst hn
  obtain ⟨h1, h2, h3, h4, h5, h6⟩ := h
  have hs : ∀ j, j ≤ 2 → qRe D ρ (zn m) H.size (zSPEC + j) = D.2.1 100 j := fun j _ => by
    unfold qRe
    rw [if_neg (by omega), if_neg (by omega), Nat.add_sub_cancel_left]
  refine ⟨fun a ha => zAt_re (h1 a ha) (hc a ha) (qRe_lt ha) (fun b hb => qRe_lt hb), fun a b ha hb e => h2 a b ha hb (by rw [qRe_lt ha, qRe_lt hb] at e; exact e), fun a ha => Or.inl ⟨a, ha, (qRe_lt ha).symm⟩, fun j hj => ?_, h4, h5, h6, hN, ⟨fun q hq => ?_, hs 0 (by omega), hs 1 (by omega), hs 2 (by omega)⟩, h0, hk⟩
  · unfold qRe
    rw [if_neg (by omega), if_pos hj, Nat.add_sub_cancel_left]
  · rcases hq with ⟨b, hb, e⟩ | hq
    · rw [← e]; exact h3 b hb
    · exact hA q (Nat.le_trans h0 hq)
theorem qW.of (h : zH D ρ A m H) (hN : N ≤ zn m) : qW D ρ m N H :=
  ⟨fun a ha => h.1 a (by omega), fun a b ha hb e => h.2.1 a b (by omega) (by omega) e, fun a ha => h.2.2.2.2.2.2.2.2.1.1 _ (h.2.2.1 a (by omega)), h.2.2.2.2.1, h.2.2.2.2.2.1, h.2.2.2.2.2.2.1⟩
theorem qW.keep (h : qW D ρ m N H) (hq : ∀ a, a < N → H1[ρ a]? = H[ρ a]?) : qW D ρ m N H1 := ⟨fun a ha => zAt_congr (h.1 a ha) rfl (fun _ => rfl) (fun _ => rfl) (fun _ => rfl) (hq a ha), h.2⟩
theorem qW.tr {n : Nat} (h : qW D ρ m N H) : qW D ρ (qTr m n) N H := ⟨fun a ha => zAt_congr (h.1 a ha) rfl (fun _ => rfl) (fun _ => rfl) (fun _ => rfl) rfl, h.2⟩
theorem qW.lt (h : qW D ρ m N H) (ha : a < N) : ρ a < H.size := zAt_lt (h.1 a ha)
theorem R1.trim (hR : R1 S m) (hn : 159 ≤ zn m) : R1 (wN S (159, 0)) (qTr m 159) :=
  Low.r1 (m := m) (m' := qTr m 159) ⟨hn, Nat.le_refl 159, fun b _ => ⟨rfl, fun j => ⟨rfl, rfl, rfl⟩⟩⟩ hR
theorem R2.wn {n : Nat × Nat} (hR : R2 S m) : R2 (wN S n) m := hR
/-! references -/
theorem qD1.arr {t n : Nat} (h : zk m a = (t, n)) (h8 : 8 ≤ t) (h11 : t < 11) : qD1 m N a := by
  refine ⟨fun q => ?_, fun q => ?_⟩
  · rw [h] at q; exact absurd q (Nat.not_lt_of_le h8)
  · rw [h] at q; exact absurd h11 (Nat.not_lt_of_le q)
theorem qD1.rarr {t n : Nat} (h : zk m a = (t, n)) (h8 : 8 ≤ t) (hr : ∀ k, k < n → ∃ b, zr m a k = some b ∧ b < N) : qD1 m N a := by
  refine ⟨fun q => ?_, fun _ k hk b hb => ?_⟩
  · rw [h] at q; exact absurd q (Nat.not_lt_of_le h8)
  · rw [h] at hk
    obtain ⟨b', e, hl⟩ := hr k hk
    rw [e] at hb; cases hb; exact hl
theorem qD1.ob {c : Nat} {r : vw_C} (hT : zT m a c = true) (hc : zCl[c]? = some r) (hr : ∀ k, k < r.2.2 → zIsR c k = true → ∃ b, zr m a k = some b ∧ b < N) : qD1 m N a := by
  have hk := (zT_lt hT).2
  have h8 : c < 8 := zkd8 hc
  refine ⟨fun _ r' hr' k hk' hz b hb => ?_, fun q => ?_⟩
  · rw [hk] at hr' hz
    rw [hc] at hr'; cases hr'
    obtain ⟨b', e, hl⟩ := hr k hk' hz
    rw [e] at hb; cases hb; exact hl
  · rw [hk] at q; omega
theorem LnS.cd {b : Nat} (h : LnS m b) (hN : b + 2 ≤ N) : qD1 m N b ∧ qD1 m N (b + 1) := by
  refine ⟨qD1.ob h.1 rfl (fun k hk hz => ?_), qD1.arr h.2.2.2 (by decide) (by decide)⟩
  have hk' : k < 4 := hk
  rcases (show k = 0 ∨ k = 1 ∨ k = 2 ∨ k = 3 by omega) with rfl | rfl | rfl | rfl
  · exact ⟨_, h.2.1, by omega⟩
  all_goals exact absurd hz (by decide)
theorem YrS.cd {b : Nat} (h : YrS m b) (hN : b + 4 ≤ N) : qD1 m N b := by
  obtain ⟨h1, ⟨r0, r1, r2⟩, k1, k2, k3⟩ := h
  refine qD1.ob h1 rfl (fun k hk hz => ?_)
  have hk' : k < 7 := hk
  rcases (show k = 0 ∨ k = 1 ∨ k = 2 ∨ k = 3 ∨ k = 4 ∨ k = 5 ∨ k = 6 by omega) with rfl | rfl | rfl | rfl | rfl | rfl | rfl
  · exact ⟨_, r0, by omega⟩
  · exact ⟨_, r1, by omega⟩
  · exact ⟨_, r2, by omega⟩
  all_goals exact absurd hz (by decide)
theorem TrS.cd {b : Nat} (h : TrS m b) (hN : b + 2 ≤ N) : qD1 m N b ∧ qD1 m N (b + 1) := by
  refine ⟨qD1.ob h.1 rfl (fun k hk hz => ?_), qD1.arr h.2.2.2 (by decide) (by decide)⟩
  have hk' : k < 4 := hk
  rcases (show k = 0 ∨ k = 1 ∨ k = 2 ∨ k = 3 by omega) with rfl | rfl | rfl | rfl
  · exact ⟨_, h.2.1, by omega⟩
  all_goals exact absurd hz (by decide)
theorem LdS.cd {b : Nat} (h : LdS m b) (hN : b + 28 ≤ N) : ∀ a, b ≤ a → a < b + 28 → qD1 m N a := by
  obtain ⟨h1, ⟨r0, r1, r2, r3, r4, r5, r6⟩, ⟨k1, k2, k5, k6, k7⟩, hy, hn, hl⟩ := h
  intro a ha1 ha2
  by_cases c12 : b + 12 ≤ a
  · have h2 : a = b + 12 + 2 * ((a - b - 12) / 2) ∨ a = b + 12 + 2 * ((a - b - 12) / 2) + 1 := by omega
    have h3 : (a - b - 12) / 2 < 8 := by omega
    have h4 := (hl _ h3).2.cd (N := N) (by omega)
    rcases h2 with e | e
    · rw [e]; exact h4.1
    · rw [e]; exact h4.2
  · rcases (show a = b ∨ a = b + 1 ∨ a = b + 2 ∨ a = b + 3 ∨ a = b + 3 + 1 ∨ a = b + 5 ∨ a = b + 6 ∨ a = b + 7 ∨ a = b + 8 ∨ a = b + 8 + 1 ∨ a = b + 8 + 2 ∨ a = b + 8 + 3 by omega) with rfl | rfl | rfl | rfl | rfl | rfl | rfl | rfl | rfl | rfl | rfl | rfl
    · refine qD1.ob h1 rfl (fun k hk hz => ?_)
      have hk' : k < 12 := hk
      rcases (show k = 0 ∨ k = 1 ∨ k = 2 ∨ k = 3 ∨ k = 4 ∨ k = 5 ∨ k = 6 ∨ k = 7 ∨ k = 8 ∨ k = 9 ∨ k = 10 ∨ k = 11 by omega) with rfl | rfl | rfl | rfl | rfl | rfl | rfl | rfl | rfl | rfl | rfl | rfl
      · exact ⟨_, r0, by omega⟩
      · exact ⟨_, r1, by omega⟩
      · exact ⟨_, r2, by omega⟩
      · exact ⟨_, r3, by omega⟩
      · exact ⟨_, r4, by omega⟩
      · exact ⟨_, r5, by omega⟩
      · exact ⟨_, r6, by omega⟩
      all_goals exact absurd hz (by decide)
    · exact qD1.arr k1.2 (by decide) (by decide)
    · exact qD1.rarr k2.2 (by decide) (fun k hk => ⟨_, (hl k hk).1, by omega⟩)
    · exact (hn.cd (by omega)).1
    · exact (hn.cd (by omega)).2
    · exact qD1.arr k5.2 (by decide) (by decide)
    · exact qD1.arr k6.2 (by decide) (by decide)
    · exact qD1.arr k7.2 (by decide) (by decide)
    · exact hy.cd (by omega)
    · exact qD1.arr hy.2.2.1.2 (by decide) (by decide)
    · exact qD1.arr hy.2.2.2.1.2 (by decide) (by decide)
    · exact qD1.arr hy.2.2.2.2.2 (by decide) (by decide)
theorem S1.cd (h : S1 m) : qCd m 159 := by
  obtain ⟨t0, ⟨r0, r1, r2, r3, r4, r5, r6, r7, r8⟩, ⟨k1, k61, k64, k65, k66⟩, tt, tp, lf, l5, l33, lm⟩ := h
  intro a ha
  rcases (show a = 0 ∨ a = 1 ∨ a = 2 ∨ a = 3 ∨ a = 4 ∨ (5 ≤ a ∧ a < 5 + 28) ∨ (33 ≤ a ∧ a < 33 + 28) ∨ a = 61 ∨ a = 62 ∨ a = 63 ∨ a = 64 ∨ a = 65 ∨ a = 66 ∨ (67 ≤ a ∧ a < 75) ∨ 75 ≤ a by omega) with rfl | rfl | rfl | rfl | rfl | q | q | rfl | rfl | rfl | rfl | rfl | rfl | q | q
  · refine qD1.ob t0 rfl (fun k hk hz => ?_)
    have hk' : k < 17 := hk
    rcases (show k = 0 ∨ k = 1 ∨ k = 2 ∨ k = 3 ∨ k = 4 ∨ k = 5 ∨ k = 6 ∨ k = 7 ∨ k = 8 ∨ k = 9 ∨ k = 10 ∨ k = 11 ∨ k = 12 ∨ k = 13 ∨ k = 14 ∨ k = 15 ∨ k = 16 by omega) with rfl | rfl | rfl | rfl | rfl | rfl | rfl | rfl | rfl | rfl | rfl | rfl | rfl | rfl | rfl | rfl | rfl
    · exact ⟨_, r0, by omega⟩
    · exact ⟨_, r1, by omega⟩
    · exact ⟨_, r2, by omega⟩
    · exact ⟨_, r3, by omega⟩
    · exact ⟨_, r4, by omega⟩
    · exact ⟨_, r5, by omega⟩
    · exact ⟨_, r6, by omega⟩
    · exact ⟨_, r7, by omega⟩
    · exact ⟨_, r8, by omega⟩
    all_goals exact absurd hz (by decide)
  · exact qD1.rarr k1.2 (by decide) (fun k hk => ⟨_, (tt k hk).1, by omega⟩)
  · refine qD1.ob tp.1 rfl (fun k hk hz => ?_)
    have hk' : k < 12 := hk
    rcases (show k = 0 ∨ k = 1 ∨ k = 2 ∨ k = 3 ∨ k = 4 ∨ k = 5 ∨ k = 6 ∨ k = 7 ∨ k = 8 ∨ k = 9 ∨ k = 10 ∨ k = 11 by omega) with rfl | rfl | rfl | rfl | rfl | rfl | rfl | rfl | rfl | rfl | rfl | rfl
    · exact ⟨_, tp.2.1.1, by omega⟩
    · exact ⟨_, tp.2.1.2, by omega⟩
    all_goals exact absurd hz (by decide)
  · exact qD1.arr tp.2.2.1.2 (by decide) (by decide)
  · exact qD1.arr tp.2.2.2.2 (by decide) (by decide)
  · exact l5.cd (by omega) a q.1 q.2
  · exact l33.cd (by omega) a q.1 q.2
  · exact qD1.rarr k61.2 (by decide) (fun k hk => ⟨_, (lm k hk).1, by omega⟩)
  · refine qD1.ob lf.1 rfl (fun k hk hz => ?_)
    have hk' : k < 8 := hk
    rcases (show k = 0 ∨ k = 1 ∨ k = 2 ∨ k = 3 ∨ k = 4 ∨ k = 5 ∨ k = 6 ∨ k = 7 by omega) with rfl | rfl | rfl | rfl | rfl | rfl | rfl | rfl
    · exact ⟨_, lf.2.1, by omega⟩
    all_goals exact absurd hz (by decide)
  · exact qD1.arr lf.2.2.2 (by decide) (by decide)
  · exact qD1.arr k64.2 (by decide) (by decide)
  · exact qD1.arr k65.2 (by decide) (by decide)
  · exact qD1.arr k66.2 (by decide) (by decide)
  · have h3 : (a - 67) / 2 < 4 := by omega
    have h4 := (tt _ h3).2.cd (N := 159) (by omega)
    rcases (show a = 67 + 2 * ((a - 67) / 2) ∨ a = 67 + 2 * ((a - 67) / 2) + 1 by omega) with e | e
    · rw [e]; exact h4.1
    · rw [e]; exact h4.2
  · have h3 : (a - 75) / 28 < 3 := by omega
    exact (lm _ h3).2.cd (N := 159) (by omega) a (by omega) (by omega)
theorem S2.cd (h : S2 m) : qCd m 17 := by
  obtain ⟨t0, ⟨⟨r4, r5, r6, r7⟩, ⟨r20, r21, r22, r26⟩, ⟨r28, r29, r32, r33⟩, r34, r35, r38, r40⟩, ⟨k1, k2, k3, k4⟩, ⟨k5, k6, k7, k8⟩, ⟨k9, k10, k11, k12⟩, k13, k14, k15, k16⟩ := h
  intro a ha
  rcases (show a = 0 ∨ a = 1 ∨ a = 2 ∨ a = 3 ∨ a = 4 ∨ a = 5 ∨ a = 6 ∨ a = 7 ∨ a = 8 ∨ a = 9 ∨ a = 10 ∨ a = 11 ∨ a = 12 ∨ a = 13 ∨ a = 14 ∨ a = 15 ∨ a = 16 by omega) with rfl | rfl | rfl | rfl | rfl | rfl | rfl | rfl | rfl | rfl | rfl | rfl | rfl | rfl | rfl | rfl | rfl
  · refine qD1.ob t0 rfl (fun k hk hz => ?_)
    have hk' : k < 50 := hk
    have key : ∀ k : Fin 50, zIsR 7 k.val = true → k.val ∈ [4, 5, 6, 7, 20, 21, 22, 26, 28, 29, 32, 33, 34, 35, 38, 40] := by decide +kernel
    have hm := key ⟨k, hk'⟩ hz
    have hm' : k = 4 ∨ k = 5 ∨ k = 6 ∨ k = 7 ∨ k = 20 ∨ k = 21 ∨ k = 22 ∨ k = 26 ∨ k = 28 ∨ k = 29 ∨ k = 32 ∨ k = 33 ∨ k = 34 ∨ k = 35 ∨ k = 38 ∨ k = 40 := by simpa using hm
    rcases hm' with rfl | rfl | rfl | rfl | rfl | rfl | rfl | rfl | rfl | rfl | rfl | rfl | rfl | rfl | rfl | rfl
    · exact ⟨_, r4, by omega⟩
    · exact ⟨_, r5, by omega⟩
    · exact ⟨_, r6, by omega⟩
    · exact ⟨_, r7, by omega⟩
    · exact ⟨_, r20, by omega⟩
    · exact ⟨_, r21, by omega⟩
    · exact ⟨_, r22, by omega⟩
    · exact ⟨_, r26, by omega⟩
    · exact ⟨_, r28, by omega⟩
    · exact ⟨_, r29, by omega⟩
    · exact ⟨_, r32, by omega⟩
    · exact ⟨_, r33, by omega⟩
    · exact ⟨_, r34, by omega⟩
    · exact ⟨_, r35, by omega⟩
    · exact ⟨_, r38, by omega⟩
    · exact ⟨_, r40, by omega⟩
  · exact qD1.arr k1.2 (by decide) (by decide)
  · exact qD1.arr k2.2 (by decide) (by decide)
  · exact qD1.arr k3.2 (by decide) (by decide)
  · exact qD1.arr k4.2 (by decide) (by decide)
  · exact qD1.arr k5.2 (by decide) (by decide)
  · exact qD1.arr k6.2 (by decide) (by decide)
  · exact qD1.arr k7.2 (by decide) (by decide)
  · exact qD1.arr k8.2 (by decide) (by decide)
  · exact qD1.arr k9.2 (by decide) (by decide)
  · exact qD1.arr k10.2 (by decide) (by decide)
  · exact qD1.arr k11.2 (by decide) (by decide)
  · exact qD1.arr k12.2 (by decide) (by decide)
  · exact qD1.arr k13.2 (by decide) (by decide)
  · exact qD1.arr k14.2 (by decide) (by decide)
  · exact qD1.arr k15.2 (by decide) (by decide)
  · exact qD1.arr k16.2 (by decide) (by decide)
end WORLD
