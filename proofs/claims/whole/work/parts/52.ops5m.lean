/-! The reference: EDITS amended, struck, swapped. -/
section OPS5M
variable {v : Nat} {S : zSt} {m m' : zM}
def edF (e : zEd) (f : Nat) : Int := match f with
  | 0 => (e.1 : Int)
  | 1 => (e.2.1 : Int)
  | 2 => (e.2.2.1 : Int)
  | _ => b01 e.2.2.2
theorem m_cellE {i k : Nat} (hi : i < 8) (hk : k < 4) : zF zP 296 v [.inl (i : Int), .inl (k : Int)] m = some (some (.inl ((29 + 16 * i + 4 * k : Nat) : Int)), m) := m_cell hi hk
theorem EdB.of {i k : Nat} {e : zEd} (h : ∀ f, f < 4 → zi m 5 (29 + 16 * i + (4 * k + f)) = edF e f) : EdB m 0 i k e := by
  unfold EdB cellN
  refine ⟨?_, ?_, ?_, ?_⟩
  · rw [show 0 + (29 + 16 * i + 4 * k) = 29 + 16 * i + (4 * k + 0) by omega]; exact h 0 (by decide)
  · rw [show 0 + (29 + 16 * i + 4 * k) + 1 = 29 + 16 * i + (4 * k + 1) by omega]; exact h 1 (by decide)
  · rw [show 0 + (29 + 16 * i + 4 * k) + 2 = 29 + 16 * i + (4 * k + 2) by omega]; exact h 2 (by decide)
  · rw [show 0 + (29 + 16 * i + 4 * k) + 3 = 29 + 16 * i + (4 * k + 3) by omega]; exact h 3 (by decide)
theorem EdB.to {i k : Nat} {e : zEd} (h : EdB m 0 i k e) : ∀ f, f < 4 → zi m 5 (29 + 16 * i + (4 * k + f)) = edF e f := by
  unfold EdB cellN at h
  obtain ⟨h1, h2, h3, h4⟩ := h
  intro f hf
  have hc : f = 0 ∨ f = 1 ∨ f = 2 ∨ f = 3 := by omega
  rcases hc with rfl | rfl | rfl | rfl
  · rw [show 0 + (29 + 16 * i + 4 * k) = 29 + 16 * i + (4 * k + 0) by omega] at h1; exact h1
  · rw [show 0 + (29 + 16 * i + 4 * k) + 1 = 29 + 16 * i + (4 * k + 1) by omega] at h2; exact h2
  · rw [show 0 + (29 + 16 * i + 4 * k) + 2 = 29 + 16 * i + (4 * k + 2) by omega] at h3; exact h3
  · rw [show 0 + (29 + 16 * i + 4 * k) + 3 = 29 + 16 * i + (4 * k + 3) by omega] at h4; exact h4
theorem cA (hS : S2 m) {c : Nat} (h : c < 200) : zA m 5 9 (c : Int) = true := A5 hS (by omega) (by omega)
def ceP (i b j : Nat) : Prop := b = 5 ∧ (j = 13 + i ∨ (29 + 16 * i ≤ j ∧ j < 45 + 16 * i))
theorem ceP_ln {i : Nat} (h : Fr (ceP i) m m') : Fr (lnP 0 i) m m' := h.mono (fun b j q => by unfold ceP at q; unfold lnP; omega)
theorem MlB.ce {i : Nat} {x y : zLn} (hv : MlB m 0 i x) (h : Fr (ceP i) m m') (h1 : y.1 = x.1) (h2 : y.2.1 = x.2.1) (h3 : zi m' 5 (13 + i) = (y.2.2.length : Int)) (h4 : y.2.2.length ≤ 4) (h5 : ∀ e ∈ y.2.2, eOk e) (h6 : ∀ k, k < y.2.2.length → ∀ f, f < 4 → zi m' 5 (29 + 16 * i + (4 * k + f)) = edF (y.2.2.getD k e00) f) (hi : i < 8) : MlB m' 0 i y := by
  obtain ⟨q1, q2, q3, q4, q5, q6⟩ := hv
  refine ⟨?_, by rw [Nat.zero_add]; exact h3, h4, ?_, h5, fun k hk => EdB.of (h6 k hk)⟩
  · rw [h.i (by unfold ceP; omega), h1]; exact q1
  · rw [h.i (by unfold ceP; omega), h2]; exact q4
theorem w_strike_loop (hR0 : R2 S m) {i k L : Nat} (hi : i < 8) (hk : k < 4) (hL : 1 ≤ L ∧ L ≤ 4) (h13 : zi m 5 (13 + i) = (L : Int)) : ∀ (n q : Nat) (m1 : zM), q + n = 12 → 4 * k ≤ q → Fr (ceP i) m m1 → zi m1 5 (13 + i) = (L : Int) → (∀ o, o < 16 → zi m1 5 (29 + 16 * i + o) = if 4 * k ≤ o ∧ o < q then zi m 5 (29 + 16 * i + (o + 4)) else zi m 5 (29 + 16 * i + o)) →
    ∃ m', zX zP 354 v 31 [some (.inr (.inr (some 0))), some (.inl (i : Int)), some (.inl (k : Int)), some (.inl ((29 + 16 * i + q : Nat) : Int))] [] m1 = some (some (.inl ((L - 1 : Nat) : Int)), m') ∧ Fr (ceP i) m m' ∧ zi m' 5 (13 + i) = ((L - 1 : Nat) : Int) ∧ (∀ o, o < 16 → zi m' 5 (29 + 16 * i + o) = if 4 * k ≤ o ∧ o < 12 then zi m 5 (29 + 16 * i + (o + 4)) else zi m 5 (29 + 16 * i + o)) := by
  have e13 : ∀ _ : Unit, zadd 13 (i : Int) = ((13 + i : Nat) : Int) := fun _ => zadd_nat (n := 13) (by omega)
  have e3 : ∀ (m1 : zM), zF zP 296 0 [.inl (i : Int), .inl 3] m1 = some (some (.inl ((29 + 16 * i + 12 : Nat) : Int)), m1) := fun m1 => m_cellE (m := m1) (k := 3) hi (by decide)
  intro n
  induction n with
  | zero =>
    intro q m1 hq hkq hF hc hB
    have hS := hF.s2 hR0.1
    have hw : Fr (ceP i) m1 (zwi m1 5 (13 + i) ((L - 1 : Nat) : Int)) := Fr.wi m1 _ (by unfold ceP; omega)
    have hq12 : q = 12 := by omega
    subst hq12
    have e1 : ∀ _ : Unit, zsub (L : Int) 1 = ((L - 1 : Nat) : Int) := fun _ => zsub1 hL.1 (by omega)
    refine ⟨zwi m1 5 (13 + i) ((L - 1 : Nat) : Int), ?_, hF.tr hw, zi_wi_s _ _ _ _, fun o ho => by rw [zi_wi_n _ _ (Or.inr (by omega))]; exact hB o ho⟩
    rw [j_X11_strike_31, e3, zC1_s, if_neg (by omega), j_X11_strike_60, if_pos hS.1, hS.2.1.2.1.1, obind, e13 (), if_pos (cA hS (by omega)), if_pos (cA hS (by omega)), Int.toNat_natCast, hc, e1 (), zT_wi, if_pos hS.1, zr_wi, hS.2.1.2.1.1, obind, zA_wi, if_pos (cA hS (by omega)), zi_wi_s]
  | succ n ih =>
    intro q m1 hq hkq hF hc hB
    have hS := hF.s2 hR0.1
    have hw : Fr (ceP i) m1 (zwi m1 5 (29 + 16 * i + q) (zi m 5 (29 + 16 * i + (q + 4)))) := Fr.wi m1 _ (by unfold ceP; omega)
    have e4 : ∀ _ : Unit, zadd ((29 + 16 * i + q : Nat) : Int) 4 = ((29 + 16 * i + (q + 4) : Nat) : Int) := fun _ => zadd_nat (k := 4) (by omega)
    have hr : zi m1 5 (29 + 16 * i + (q + 4)) = zi m 5 (29 + 16 * i + (q + 4)) := by rw [hB (q + 4) (by omega), if_neg (by omega)]
    obtain ⟨m', f1, f2⟩ := ih (q + 1) (zwi m1 5 (29 + 16 * i + q) (zi m 5 (29 + 16 * i + (q + 4)))) (by omega) (by omega) (hF.tr hw) (by rw [zi_wi_n _ _ (Or.inr (by omega))]; exact hc)
      (fun o ho => by
        by_cases e : o = q
        · subst e; rw [zi_wi_s, if_pos (by omega)]
        · rw [zi_wi_n _ _ (Or.inr (by omega)), hB o ho]
          by_cases g : 4 * k ≤ o ∧ o < q
          · rw [if_pos g, if_pos (by omega)]
          · rw [if_neg g, if_neg (by omega)])
    refine ⟨m', ?_, f2⟩
    rw [j_X11_strike_31, e3, zC1_s, if_pos (by omega), if_pos hS.1, hS.2.1.2.1.1, obind, if_pos hS.1, obind, e4 (), if_pos (cA hS (by omega)), if_pos (cA hS (by omega)), Int.toNat_natCast, Int.toNat_natCast, hr, zadd1 (by omega)]
    exact f1
theorem w_strike (hR : R2 S m) (x y : Int) : Ex2 (zF zP 354 v [(.inr (.inr (some 0))), .inl x, .inl y] m) (o_strike S x y) := by
  have h0 := hR.pre
  have hl8 := hR.l8
  unfold o_strike
  rw [f_X11_strike, if_pos hR.1.1, zT_wi, if_pos hR.1.1, zT_wi, zT_wi, if_pos hR.1.1]
  generalize zwi (zwi m 0 1 0) 0 0 0 = m0 at h0 ⊢
  rw [m_isEditAt h0, zC1_s]
  show Ex2 (if b01 (inB x (gL S).2.1.length && inB y ((gL S).2.1.getD x.toNat ln0).2.2.length) = 0 then _ else _) _
  by_cases h : (inB x (gL S).2.1.length && inB y ((gL S).2.1.getD x.toNat ln0).2.2.length) = true
  · rw [if_neg (by rw [h]; decide), if_pos h]
    rw [Bool.and_eq_true] at h
    obtain ⟨i, rfl, hi⟩ := inB_nat h.1
    obtain ⟨k, rfl, hk⟩ := inB_nat h.2
    rw [Int.toNat_natCast] at hk
    have hM : MlB m0 0 i ((gL S).2.1.getD i ln0) := h0.ln hi
    have h4 : ((gL S).2.1.getD i ln0).2.2.length ≤ 4 := hM.2.2.1
    have hi8 : i < 8 := by omega
    have hk4 : k < 4 := by omega
    have h13 : zi m0 5 (13 + i) = (((gL S).2.1.getD i ln0).2.2.length : Int) := (h0.em hi).1
    obtain ⟨m', f1, f2, f3, f5⟩ := w_strike_loop (v := v) h0 hi8 hk4 (L := ((gL S).2.1.getD i ln0).2.2.length) (by omega) h13 (12 - 4 * k) (4 * k) m0 (by omega) (Nat.le_refl _) (Fr.rf _ _) h13 (fun o ho => by rw [if_neg (by omega)])
    rw [j_X11_strike_25, m_cellE hi8 hk4, zC1_s, f1, Int.toNat_natCast, Int.toNat_natCast]
    have hlen : (((gL S).2.1.getD i ln0).2.2.eraseIdx k).length = ((gL S).2.1.getD i ln0).2.2.length - 1 := by rw [List.length_eraseIdx, if_pos hk]
    refine ⟨m', rfl, h0.lnw (x := (((gL S).2.1.getD i ln0).1, ((gL S).2.1.getD i ln0).2.1, ((gL S).2.1.getD i ln0).2.2.eraseIdx k)) hi (ceP_ln f2) (hM.ce f2 rfl rfl (by rw [f3]; exact congrArg Nat.cast hlen.symm) (by show (((gL S).2.1.getD i ln0).2.2.eraseIdx k).length ≤ 4; omega) (fun e he => hM.2.2.2.2.1 e (List.mem_of_mem_eraseIdx he)) (fun j hj f hf => ?_) hi8)⟩
    have hj' : j < ((gL S).2.1.getD i ln0).2.2.length - 1 := by have : j < (((gL S).2.1.getD i ln0).2.2.eraseIdx k).length := hj; omega
    show _ = edF ((((gL S).2.1.getD i ln0).2.2.eraseIdx k).getD j e00) f
    rw [f5 (4 * j + f) (by omega), erase_getE]
    by_cases g : j < k
    · rw [if_neg (by omega), if_pos g]; exact EdB.to (hM.2.2.2.2.2 j (by omega)) f hf
    · rw [if_pos (by omega), if_neg g, show 4 * j + f + 4 = 4 * (j + 1) + f by omega]; exact EdB.to (hM.2.2.2.2.2 (j + 1) (by omega)) f hf
  · rw [if_pos (b01_ne.mpr (bool_f h)), if_neg h, if_pos h0.1.1]; exact x2_noC h0
theorem w_swap_loop (hR0 : R2 S m) {i y z : Nat} (hi : i < 8) (hy : y < 4) (hz : z < 4) (hyz : y ≠ z) : ∀ (n k : Nat) (m1 : zM) (u : Option zV), k + n = 4 → Fr (ceP i) m m1 → zi m1 5 (13 + i) = zi m 5 (13 + i) → (∀ o, o < 16 → zi m1 5 (29 + 16 * i + o) = if 4 * y ≤ o ∧ o < 4 * y + k then zi m 5 (29 + 16 * i + (4 * z + (o - 4 * y))) else if 4 * z ≤ o ∧ o < 4 * z + k then zi m 5 (29 + 16 * i + (4 * y + (o - 4 * z))) else zi m 5 (29 + 16 * i + o)) →
    ∃ m', zX zP 355 v 49 [some (.inr (.inr (some 0))), some (.inl (i : Int)), some (.inl (y : Int)), some (.inl (z : Int)), some (.inl (k : Int)), u] [] m1 = some (some (.inl 1), m') ∧ Fr (ceP i) m m' ∧ zi m' 5 (13 + i) = zi m 5 (13 + i) ∧ (∀ o, o < 16 → zi m' 5 (29 + 16 * i + o) = if 4 * y ≤ o ∧ o < 4 * y + 4 then zi m 5 (29 + 16 * i + (4 * z + (o - 4 * y))) else if 4 * z ≤ o ∧ o < 4 * z + 4 then zi m 5 (29 + 16 * i + (4 * y + (o - 4 * z))) else zi m 5 (29 + 16 * i + o)) := by
  intro n
  induction n with
  | zero =>
    intro k m1 u hk hF hc hB
    have hk4 : k = 4 := by omega
    subst hk4
    exact ⟨m1, by rw [j_X11_swap_49, if_neg (by omega), j_X11_swap_117, if_pos zb1], hF, hc, hB⟩
  | succ n ih =>
    intro k m1 u hk hF hc hB
    have hS := hF.s2 hR0.1
    have ey : ∀ _ : Unit, zadd ((29 + 16 * i + 4 * y : Nat) : Int) (k : Int) = ((29 + 16 * i + (4 * y + k) : Nat) : Int) := fun _ => by rw [← Nat.add_assoc]; exact zadd_nat (by omega)
    have ez : ∀ _ : Unit, zadd ((29 + 16 * i + 4 * z : Nat) : Int) (k : Int) = ((29 + 16 * i + (4 * z + k) : Nat) : Int) := fun _ => by rw [← Nat.add_assoc]; exact zadd_nat (by omega)
    have ry : zi m1 5 (29 + 16 * i + (4 * y + k)) = zi m 5 (29 + 16 * i + (4 * y + k)) := by rw [hB _ (by omega), if_neg (by omega), if_neg (by omega)]
    have rz : zi m1 5 (29 + 16 * i + (4 * z + k)) = zi m 5 (29 + 16 * i + (4 * z + k)) := by rw [hB _ (by omega), if_neg (by omega), if_neg (by omega)]
    have hw : Fr (ceP i) m1 (zwi (zwi m1 5 (29 + 16 * i + (4 * y + k)) (zi m 5 (29 + 16 * i + (4 * z + k)))) 5 (29 + 16 * i + (4 * z + k)) (zi m 5 (29 + 16 * i + (4 * y + k)))) := (Fr.wi m1 _ (by unfold ceP; omega)).tr (Fr.wi _ _ (by unfold ceP; omega))
    obtain ⟨m', f1, f2⟩ := ih (k + 1) _ (some (.inl (zi m 5 (29 + 16 * i + (4 * y + k))))) (by omega) (hF.tr hw) (by rw [zi_wi_n _ _ (Or.inr (by omega)), zi_wi_n _ _ (Or.inr (by omega))]; exact hc)
      (fun o ho => by
        by_cases e1 : o = 4 * z + k
        · subst e1
          rw [zi_wi_s, if_neg (by omega), if_pos (by omega), show 4 * y + (4 * z + k - 4 * z) = 4 * y + k by omega]
        · rw [zi_wi_n _ _ (Or.inr (by omega))]
          by_cases e2 : o = 4 * y + k
          · subst e2
            rw [zi_wi_s, if_pos (by omega), show 4 * z + (4 * y + k - 4 * y) = 4 * z + k by omega]
          · rw [zi_wi_n _ _ (Or.inr (by omega)), hB o ho]
            by_cases g : 4 * y ≤ o ∧ o < 4 * y + k
            · rw [if_pos g, if_pos (by omega)]
            · rw [if_neg g, if_neg (show ¬ (4 * y ≤ o ∧ o < 4 * y + (k + 1)) by omega)]
              by_cases g2 : 4 * z ≤ o ∧ o < 4 * z + k
              · rw [if_pos g2, if_pos (by omega)]
              · rw [if_neg g2, if_neg (by omega)])
    refine ⟨m', ?_, f2⟩
    rw [j_X11_swap_49, if_pos (by omega), if_pos hS.1, hS.2.1.2.1.1, obind, m_cellE hi hy, zC1_s, ey (), if_pos (cA hS (by omega)), if_pos hS.1, hS.2.1.2.1.1, obind, m_cellE hi hy, zC1_s, if_pos hS.1, hS.2.1.2.1.1, obind, m_cellE hi hz, zC1_s, ez (), if_pos (cA hS (by omega)), ey (), if_pos (cA hS (by omega)), zT_wi, if_pos hS.1, zr_wi, hS.2.1.2.1.1, obind, m_cellE hi hz, zC1_s, ez (), zA_wi, if_pos (cA hS (by omega)), Int.toNat_natCast, Int.toNat_natCast, ry, rz, zadd1 (by omega)]
    exact f1
theorem w_swap (hR : R2 S m) (x y z : Int) : Ex2 (zF zP 355 v [(.inr (.inr (some 0))), .inl x, .inl y, .inl z] m) (o_swap S x y z) := by
  have h0 := hR.pre
  have hl8 := hR.l8
  unfold o_swap
  rw [f_X11_swap, if_pos hR.1.1, zT_wi, if_pos hR.1.1, zT_wi, zT_wi, if_pos hR.1.1]
  generalize zwi (zwi m 0 1 0) 0 0 0 = m0 at h0 ⊢
  have f28 : zX zP 355 v 28 [some (.inr (.inr (some 0))), some (.inl x), some (.inl y), some (.inl z), none, none] [] m0 = some (some (.inl 0), zwi m0 0 0 2) := by
    rw [j_X11_swap_28, if_pos h0.1.1, m_no h0.1, zC1_s, if_pos zb0]
  rw [m_isEditAt h0, zC1_s]
  show Ex2 (if b01 (inB x (gL S).2.1.length && inB y ((gL S).2.1.getD x.toNat ln0).2.2.length) = 0 then _ else _) _
  by_cases h : (inB x (gL S).2.1.length && inB y ((gL S).2.1.getD x.toNat ln0).2.2.length) = true
  · rw [if_neg (by rw [h]; decide), if_pos h, if_pos h0.1.1, m_isEditAt h0, zC1_s]
    show Ex2 (if b01 (inB x (gL S).2.1.length && inB z ((gL S).2.1.getD x.toNat ln0).2.2.length) = 0 then _ else _) _
    by_cases g : (inB x (gL S).2.1.length && inB z ((gL S).2.1.getD x.toNat ln0).2.2.length) = true
    · rw [if_neg (by rw [g]; decide), if_pos g, j_X11_swap_34]
      by_cases e : y = z
      · rw [if_pos e, if_pos e, if_pos h0.1.1]; exact x2_fC h0
      · rw [if_neg e, if_neg e, j_X11_swap_46]
        rw [Bool.and_eq_true] at h g
        obtain ⟨i, rfl, hi⟩ := inB_nat h.1
        obtain ⟨k, rfl, hk⟩ := inB_nat h.2
        obtain ⟨j, rfl, hj⟩ := inB_nat g.2
        rw [Int.toNat_natCast] at hk hj
        have hM : MlB m0 0 i ((gL S).2.1.getD i ln0) := h0.ln hi
        have h4 : ((gL S).2.1.getD i ln0).2.2.length ≤ 4 := hM.2.2.1
        have hi8 : i < 8 := by omega
        obtain ⟨m', f1, f2, f3, f5⟩ := w_swap_loop (v := v) h0 hi8 (y := k) (z := j) (by omega) (by omega) (by omega) 4 0 m0 none (by omega) (Fr.rf _ _) rfl (fun o ho => by rw [if_neg (by omega), if_neg (by omega)])
        rw [show (0 : Int) = ((0 : Nat) : Int) from rfl, f1, Int.toNat_natCast, Int.toNat_natCast, Int.toNat_natCast]
        have hes := hM.2.2.2.2.1
        refine ⟨m', rfl, h0.lnw (x := (((gL S).2.1.getD i ln0).1, ((gL S).2.1.getD i ln0).2.1, (((gL S).2.1.getD i ln0).2.2.set k (((gL S).2.1.getD i ln0).2.2.getD j e00)).set j (((gL S).2.1.getD i ln0).2.2.getD k e00))) hi (ceP_ln f2) (hM.ce f2 rfl rfl ?_ ?_ (fun e he => ?_) (fun q hq f hf => ?_) hi8)⟩
        · show zi m' 5 (13 + i) = (((((gL S).2.1.getD i ln0).2.2.set k (((gL S).2.1.getD i ln0).2.2.getD j e00)).set j (((gL S).2.1.getD i ln0).2.2.getD k e00)).length : Int)
          rw [List.length_set, List.length_set, f3]; exact (h0.em hi).1
        · show ((((gL S).2.1.getD i ln0).2.2.set k (((gL S).2.1.getD i ln0).2.2.getD j e00)).set j (((gL S).2.1.getD i ln0).2.2.getD k e00)).length ≤ 4
          rw [List.length_set, List.length_set]; exact h4
        · rcases List.mem_or_eq_of_mem_set he with w | w
          · rcases List.mem_or_eq_of_mem_set w with w2 | w2
            · exact hes e w2
            · rw [w2]; exact es_ok hes j
          · rw [w]; exact es_ok hes k
        · have hq' : q < ((gL S).2.1.getD i ln0).2.2.length := by
            have : q < ((((gL S).2.1.getD i ln0).2.2.set k (((gL S).2.1.getD i ln0).2.2.getD j e00)).set j (((gL S).2.1.getD i ln0).2.2.getD k e00)).length := hq
            rw [List.length_set, List.length_set] at this; exact this
          show _ = edF (((((gL S).2.1.getD i ln0).2.2.set k (((gL S).2.1.getD i ln0).2.2.getD j e00)).set j (((gL S).2.1.getD i ln0).2.2.getD k e00)).getD q e00) f
          rw [f5 (4 * q + f) (by omega), getD_set, getD_set, List.length_set]
          by_cases e1 : j = q
          · subst e1
            rw [if_neg (by omega), if_pos (by omega), if_pos ⟨rfl, hq'⟩, show 4 * k + (4 * j + f - 4 * j) = 4 * k + f by omega]
            exact EdB.to (hM.2.2.2.2.2 k hk) f hf
          · rw [if_neg (show ¬ (j = q ∧ q < ((gL S).2.1.getD i ln0).2.2.length) from fun w => e1 w.1)]
            by_cases e2 : k = q
            · subst e2
              rw [if_pos (by omega), if_pos ⟨rfl, hq'⟩, show 4 * j + (4 * k + f - 4 * k) = 4 * j + f by omega]
              exact EdB.to (hM.2.2.2.2.2 j hj) f hf
            · rw [if_neg (by omega), if_neg (by omega), if_neg (fun w => e2 w.1)]
              exact EdB.to (hM.2.2.2.2.2 q hq') f hf
    · rw [if_pos (b01_ne.mpr (bool_f g)), if_neg g, f28]; exact x2_f h0
  · rw [if_pos (b01_ne.mpr (bool_f h)), if_neg h, f28]; exact x2_f h0
theorem w_amend (hR : R2 S m) (x kd a b : Int) (p : Bool) : Ex2 (zF zP 353 v [(.inr (.inr (some 0))), .inl x, .inl kd, .inl a, .inl b, .inl (b01 p)] m) (o_amend S x kd a b p) := by
  have h0 := hR.pre
  have hl8 := hR.l8
  have hw8 := hR.w8
  unfold o_amend
  rw [f_X11_amend, if_pos hR.1.1, zT_wi, if_pos hR.1.1, zT_wi, zT_wi, if_pos hR.1.1]
  generalize zwi (zwi m 0 1 0) 0 0 0 = m0 at h0 ⊢
  have f42 : zX zP 353 v 42 [some (.inr (.inr (some 0))), some (.inl x), some (.inl kd), some (.inl a), some (.inl b), some (.inl (b01 p)), none, none] [] m0 = some (some (.inl (-1)), zwi m0 0 0 2) := by
    rw [j_X11_amend_42, if_pos h0.1.1, m_refuse h0.1, zC1_s]
  have f70 : zX zP 353 v 70 [some (.inr (.inr (some 0))), some (.inl x), some (.inl kd), some (.inl a), some (.inl b), some (.inl (b01 p)), none, none] [] m0 = some (some (.inl (-1)), zwi m0 0 0 5) := by
    rw [j_X11_amend_70, if_pos h0.1.1, m_refuse h0.1, zC1_s]
  rw [m_isLineAt h0, zC1_s]
  show Ex2 (if b01 (inB x (gL S).2.1.length) = 0 then _ else _) _
  by_cases hx : inB x (gL S).2.1.length = true
  rotate_left
  · rw [if_pos (b01_ne.mpr (bool_f hx)), f42, bool_f hx, Bool.false_and, if_neg Bool.noConfusion]; exact x2_no h0
  rw [if_neg (by rw [hx]; decide), if_pos h0.1.1, m_isWordAt h0, zC1_s, hx, Bool.true_and]
  show Ex2 (if b01 (inB a (gL S).1.length) = 0 then _ else _) _
  by_cases ha : inB a (gL S).1.length = true
  rotate_left
  · rw [if_pos (b01_ne.mpr (bool_f ha)), f42, bool_f ha, Bool.false_and, if_neg Bool.noConfusion]; exact x2_no h0
  rw [if_neg (by rw [ha]; decide), ha, Bool.true_and]
  have f48 : (if kd = 1 then zX zP 353 v 48 [some (.inr (.inr (some 0))), some (.inl x), some (.inl kd), some (.inl a), some (.inl b), some (.inl (b01 p)), none, none] [] m0 else if zT m0 0 7 = true then zC1 (zF zP 308 0 [(.inr (.inr (some 0))), .inr (.inl b)] m0) (fun c6 m5 => if c6 = 0 then zX zP 353 v 42 [some (.inr (.inr (some 0))), some (.inl x), some (.inl kd), some (.inl a), some (.inl b), some (.inl (b01 p)), none, none] [] m5 else zX zP 353 v 48 [some (.inr (.inr (some 0))), some (.inl x), some (.inl kd), some (.inl a), some (.inl b), some (.inl (b01 p)), none, none] [] m5) else none) = if (decide (kd = 1) || inB b (gL S).1.length) = true then zX zP 353 v 48 [some (.inr (.inr (some 0))), some (.inl x), some (.inl kd), some (.inl a), some (.inl b), some (.inl (b01 p)), none, none] [] m0 else some (some (.inl (-1)), zwi m0 0 0 2) := by
    by_cases h : kd = 1
    · rw [if_pos h, decide_eq_true h, Bool.true_or, if_pos rfl]
    · rw [if_neg h, decide_eq_false h, Bool.false_or, if_pos h0.1.1, m_isWordAt h0, zC1_s]
      show (if b01 (inB b (gL S).1.length) = 0 then _ else _) = _
      by_cases hb : inB b (gL S).1.length = true
      · rw [if_neg (by rw [hb]; decide), if_pos hb]
      · rw [if_pos (b01_ne.mpr (bool_f hb)), if_neg hb, f42]
  rw [f48]
  by_cases hb : (decide (kd = 1) || inB b (gL S).1.length) = true
  rotate_left
  · rw [if_neg hb, if_neg hb]; exact x2_no h0
  rw [if_pos hb, if_pos hb, j_X11_amend_48, m_isIn, zC1_s]
  by_cases hk : inR kd 0 2 = true
  rotate_left
  · rw [if_pos (b01_ne.mpr (bool_f hk)), f70, bool_f hk, Bool.false_and, if_neg Bool.noConfusion]; exact x2_no h0
  rw [if_neg (by rw [hk]; decide), hk, Bool.true_and]
  have f76 : (if kd = 0 then if a = b then zX zP 353 v 70 [some (.inr (.inr (some 0))), some (.inl x), some (.inl kd), some (.inl a), some (.inl b), some (.inl (b01 p)), none, none] [] m0 else zX zP 353 v 76 [some (.inr (.inr (some 0))), some (.inl x), some (.inl kd), some (.inl a), some (.inl b), some (.inl (b01 p)), none, none] [] m0 else zX zP 353 v 76 [some (.inr (.inr (some 0))), some (.inl x), some (.inl kd), some (.inl a), some (.inl b), some (.inl (b01 p)), none, none] [] m0) = if (!(decide (kd = 0) && decide (a = b))) = true then zX zP 353 v 76 [some (.inr (.inr (some 0))), some (.inl x), some (.inl kd), some (.inl a), some (.inl b), some (.inl (b01 p)), none, none] [] m0 else some (some (.inl (-1)), zwi m0 0 0 5) := by
    by_cases h3 : kd = 0
    · rw [if_pos h3, decide_eq_true h3, Bool.true_and]
      by_cases h4 : a = b
      · rw [if_pos h4, decide_eq_true h4, if_neg (by decide), f70]
      · rw [if_neg h4, decide_eq_false h4, if_pos (by decide)]
    · rw [if_neg h3, decide_eq_false h3, Bool.false_and, if_pos (by decide)]
  rw [f76]
  by_cases hc : (!(decide (kd = 0) && decide (a = b))) = true
  rotate_left
  · rw [if_neg hc, if_neg hc]; exact x2_no h0
  rw [if_pos hc, if_pos hc]
  obtain ⟨i, rfl, hi⟩ := inB_nat hx
  obtain ⟨w, rfl, hw⟩ := inB_nat ha
  rw [inR_t] at hk
  obtain ⟨k, rfl⟩ := Int.eq_ofNat_of_zero_le hk.1
  have hM : MlB m0 0 i ((gL S).2.1.getD i ln0) := h0.ln hi
  have h4 : ((gL S).2.1.getD i ln0).2.2.length ≤ 4 := hM.2.2.1
  have hi8 : i < 8 := by omega
  have h13 : zi m0 5 (13 + i) = (((gL S).2.1.getD i ln0).2.2.length : Int) := (h0.em hi).1
  have e13 : ∀ _ : Unit, zadd 13 (i : Int) = ((13 + i : Nat) : Int) := fun _ => zadd_nat (n := 13) (by omega)
  rw [j_X11_amend_76, if_pos h0.1.1, h0.1.2.1.2.1.1, obind, e13 (), if_pos (cA h0.1 (by omega)), Int.toNat_natCast, Int.toNat_natCast, Int.toNat_natCast, Int.toNat_natCast, h13]
  generalize hes : ((gL S).2.1.getD i ln0) = ln at hM h4 h13 ⊢
  by_cases e : ln.2.2.length = 4
  · rw [if_pos (by omega), if_pos e, if_pos h0.1.1]; exact x2_noC h0
  rw [if_neg (by omega), if_neg e]
  generalize hE : ln.2.2.length = E at h4 e h13 ⊢
  have hE4 : E < 4 := by omega
  have hbN : k = 1 ∨ ∃ n : Nat, b = (n : Int) ∧ n < 16 := by
    rw [Bool.or_eq_true, decide_eq_true_eq] at hb
    rcases hb with w1 | w1
    · exact Or.inl (by omega)
    · obtain ⟨n, w2, w3⟩ := inB_nat w1
      exact Or.inr ⟨n, w2, by omega⟩
  have hb2 : ∃ o : Nat, (if k = 1 then 0 else b.toNat) = o ∧ o < 16 ∧ (k ≠ 1 → b = (o : Int)) := by
    by_cases w1 : k = 1
    · exact ⟨0, by rw [if_pos w1], by decide, fun w2 => absurd w1 w2⟩
    · rcases hbN with w2 | ⟨n, rfl, w3⟩
      · exact absurd w2 w1
      · exact ⟨n, by rw [if_neg w1, Int.toNat_natCast], w3, fun _ => rfl⟩
  obtain ⟨o, ho1, ho2, ho3⟩ := hb2
  have ek : (if ((k : Nat) : Int) = 1 then 0 else b.toNat) = o := by
    rw [← ho1]
    by_cases w1 : k = 1
    · rw [if_pos w1, if_pos (by omega)]
    · rw [if_neg w1, if_neg (by omega)]
  have ek2 : decide (((k : Nat) : Int) = 2) = decide (k = 2) := decide_eq_decide.mpr (by omega)
  have c1 : ∀ _ : Unit, zadd ((29 + 16 * i + 4 * E : Nat) : Int) 1 = ((29 + 16 * i + (4 * E + 1) : Nat) : Int) := fun _ => zadd_nat (k := 1) (by omega)
  have c2 : ∀ _ : Unit, zadd ((29 + 16 * i + 4 * E : Nat) : Int) 2 = ((29 + 16 * i + (4 * E + 2) : Nat) : Int) := fun _ => zadd_nat (k := 2) (by omega)
  have c3 : ∀ _ : Unit, zadd ((29 + 16 * i + 4 * E : Nat) : Int) 3 = ((29 + 16 * i + (4 * E + 3) : Nat) : Int) := fun _ => zadd_nat (k := 3) (by omega)
  have hS := h0.1
  have fin : ∀ (m1 : zM) (q : Bool), S2 m1 → zi m1 5 (13 + i) = (E : Int) → zX zP 353 v 169 [some (.inr (.inr (some 0))), some (.inl (i : Int)), some (.inl (k : Int)), some (.inl (w : Int)), some (.inl b), some (.inl (b01 p)), some (.inl (E : Int)), some (.inl ((29 + 16 * i + 4 * E : Nat) : Int))] [.inl (b01 q), .inl ((29 + 16 * i + (4 * E + 3) : Nat) : Int), .inr (.inr (some 5))] m1 = some (some (.inl ((E + 1 : Nat) : Int)), zwi (zwi m1 5 (29 + 16 * i + (4 * E + 3)) (b01 q)) 5 (13 + i) ((E + 1 : Nat) : Int)) := fun m1 q hS1 hm => by
    rw [j_X11_amend_169, if_pos (cA hS1 (by omega)), zT_wi, if_pos hS1.1, zr_wi, hS1.2.1.2.1.1, obind, e13 (), zA_wi, if_pos (cA hS1 (by omega)), if_pos (cA hS1 (by omega)), Int.toNat_natCast, Int.toNat_natCast, zi_wi_n _ _ (Or.inr (by omega)), hm, zadd1 (by omega)]
    rfl
  have f145 : ∀ m1, S2 m1 → zi m1 5 (13 + i) = (E : Int) → zX zP 353 v 145 [some (.inr (.inr (some 0))), some (.inl (i : Int)), some (.inl (k : Int)), some (.inl (w : Int)), some (.inl b), some (.inl (b01 p)), some (.inl (E : Int)), some (.inl ((29 + 16 * i + 4 * E : Nat) : Int))] [.inl (o : Int), .inl ((29 + 16 * i + (4 * E + 2) : Nat) : Int), .inr (.inr (some 5))] m1 = some (some (.inl ((E + 1 : Nat) : Int)), zwi (zwi (zwi m1 5 (29 + 16 * i + (4 * E + 2)) (o : Int)) 5 (29 + 16 * i + (4 * E + 3)) (b01 (p && !decide (k = 2)))) 5 (13 + i) ((E + 1 : Nat) : Int)) := fun m1 hS1 hm => by
    have hm1 : zi (zwi m1 5 (29 + 16 * i + (4 * E + 2)) (o : Int)) 5 (13 + i) = (E : Int) := by rw [zi_wi_n _ _ (Or.inr (by omega))]; exact hm
    have hS2 : S2 (zwi m1 5 (29 + 16 * i + (4 * E + 2)) (o : Int)) := hS1
    rw [j_X11_amend_145, if_pos (cA hS1 (by omega)), zT_wi, if_pos hS1.1, zr_wi, hS1.2.1.2.1.1, obind, c3 (), Int.toNat_natCast]
    cases p with
    | false =>
      rw [if_pos (show b01 false = 0 from rfl), j_X11_amend_168]
      exact fin _ false hS2 hm1
    | true =>
      rw [if_neg (by decide)]
      by_cases w1 : k = 2
      · rw [if_pos (by omega), j_X11_amend_168, decide_eq_true w1]
        exact fin _ false hS2 hm1
      · rw [if_neg (by omega), decide_eq_false w1]
        exact fin _ true hS2 hm1
  have f100 : zX zP 353 v 100 [some (.inr (.inr (some 0))), some (.inl (i : Int)), some (.inl (k : Int)), some (.inl (w : Int)), some (.inl b), some (.inl (b01 p)), some (.inl (E : Int)), none] [] m0 = some (some (.inl ((E + 1 : Nat) : Int)), zwi (zwi (zwi (zwi (zwi m0 5 (29 + 16 * i + 4 * E) (k : Int)) 5 (29 + 16 * i + (4 * E + 1)) (w : Int)) 5 (29 + 16 * i + (4 * E + 2)) (o : Int)) 5 (29 + 16 * i + (4 * E + 3)) (b01 (p && !decide (k = 2)))) 5 (13 + i) ((E + 1 : Nat) : Int)) := by
    have hm1 : zi (zwi (zwi m0 5 (29 + 16 * i + 4 * E) (k : Int)) 5 (29 + 16 * i + (4 * E + 1)) (w : Int)) 5 (13 + i) = (E : Int) := by rw [zi_wi_n _ _ (Or.inr (by omega)), zi_wi_n _ _ (Or.inr (by omega))]; exact h13
    have hS1 : S2 (zwi (zwi m0 5 (29 + 16 * i + 4 * E) (k : Int)) 5 (29 + 16 * i + (4 * E + 1)) (w : Int)) := hS
    rw [j_X11_amend_100, m_cellE hi8 hE4, zC1_s, if_pos hS.1, hS.2.1.2.1.1, obind, if_pos (cA hS (by omega)), zT_wi, if_pos hS.1, zr_wi, hS.2.1.2.1.1, obind, c1 (), zA_wi, if_pos (cA hS (by omega)), zT_wi, zT_wi, if_pos hS.1, zr_wi, zr_wi, hS.2.1.2.1.1, obind, c2 (), Int.toNat_natCast, Int.toNat_natCast]
    by_cases w1 : k = 1
    · rw [if_pos (by omega)]
      have ho : o = 0 := by rw [← ho1, if_pos w1]
      have := f145 _ hS1 hm1
      rw [ho] at this ⊢
      exact this
    · rw [if_neg (by omega), j_X11_amend_143]
      rw [show b = (o : Int) from ho3 w1]
      have := f145 _ hS1 hm1
      rw [show b = (o : Int) from ho3 w1] at this
      exact this
  have hF : Fr (ceP i) m0 (zwi (zwi (zwi (zwi (zwi m0 5 (29 + 16 * i + 4 * E) (k : Int)) 5 (29 + 16 * i + (4 * E + 1)) (w : Int)) 5 (29 + 16 * i + (4 * E + 2)) (o : Int)) 5 (29 + 16 * i + (4 * E + 3)) (b01 (p && !decide (k = 2)))) 5 (13 + i) ((E + 1 : Nat) : Int)) :=
    ((((Fr.wi m0 _ (by unfold ceP; omega)).tr (Fr.wi _ _ (by unfold ceP; omega))).tr (Fr.wi _ _ (by unfold ceP; omega))).tr (Fr.wi _ _ (by unfold ceP; omega))).tr (Fr.wi _ _ (by unfold ceP; omega))
  have hok : eOk (k, w, o, p && !decide (k = 2)) := by
    refine ⟨by show k < 3; omega, by show w < 16; omega, ho2, fun w1 => ?_⟩
    show (p && !decide (k = 2)) = false
    rw [decide_eq_true w1]; cases p <;> rfl
  rw [f100, ek, ek2]
  refine ⟨_, rfl, h0.lnw (x := (ln.1, ln.2.1, ln.2.2 ++ [(k, w, o, p && !decide (k = 2))])) hi (ceP_ln hF) (hM.ce hF rfl rfl ?_ ?_ (fun e he => ?_) (fun j hj f hf => ?_) hi8)⟩
  · rw [zi_wi_s]; show _ = ((ln.2.2 ++ [(k, w, o, p && !decide (k = 2))]).length : Int); rw [List.length_append, hE]; rfl
  · show (ln.2.2 ++ [(k, w, o, p && !decide (k = 2))]).length ≤ 4; rw [List.length_append, hE]; show E + 1 ≤ 4; omega
  · rcases List.mem_append.mp he with w1 | w1
    · exact hM.2.2.2.2.1 e w1
    · rw [List.mem_singleton.mp w1]; exact hok
  · have hj' : j < E + 1 := by have : j < (ln.2.2 ++ [(k, w, o, p && !decide (k = 2))]).length := hj; rw [List.length_append, hE] at this; exact this
    show _ = edF ((ln.2.2 ++ [(k, w, o, p && !decide (k = 2))]).getD j e00) f
    by_cases w1 : j = E
    · subst w1
      rw [List.getD_eq_getElem?_getD, List.getElem?_append_right (by omega), hE, Nat.sub_self]
      have hc : f = 0 ∨ f = 1 ∨ f = 2 ∨ f = 3 := by omega
      rcases hc with rfl | rfl | rfl | rfl
      · rw [zi_wi_n _ _ (Or.inr (by omega)), zi_wi_n _ _ (Or.inr (by omega)), zi_wi_n _ _ (Or.inr (by omega)), zi_wi_n _ _ (Or.inr (by omega))]; exact zi_wi_s _ _ _ _
      · rw [zi_wi_n _ _ (Or.inr (by omega)), zi_wi_n _ _ (Or.inr (by omega)), zi_wi_n _ _ (Or.inr (by omega))]; exact zi_wi_s _ _ _ _
      · rw [zi_wi_n _ _ (Or.inr (by omega)), zi_wi_n _ _ (Or.inr (by omega))]; exact zi_wi_s _ _ _ _
      · rw [zi_wi_n _ _ (Or.inr (by omega))]; exact zi_wi_s _ _ _ _
    · have hj2 : j < ln.2.2.length := by omega
      rw [zi_wi_n _ _ (Or.inr (by omega)), zi_wi_n _ _ (Or.inr (by omega)), zi_wi_n _ _ (Or.inr (by omega)), zi_wi_n _ _ (Or.inr (by omega)), zi_wi_n _ _ (Or.inr (by omega)), List.getD_eq_getElem?_getD, List.getElem?_append_left hj2, ← List.getD_eq_getElem?_getD]
      exact EdB.to (hM.2.2.2.2.2 j hj2) f hf
end OPS5M
