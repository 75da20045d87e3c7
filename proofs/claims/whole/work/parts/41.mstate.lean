/-! The reference's memory as the state's picture. -/
def S2 (m : zM) : Prop := zT m 0 7 = true ∧
  ((zr m 0 4 = some 1 ∧ zr m 0 5 = some 2 ∧ zr m 0 6 = some 3 ∧ zr m 0 7 = some 4) ∧ (zr m 0 20 = some 5 ∧ zr m 0 21 = some 6 ∧ zr m 0 22 = some 7 ∧ zr m 0 26 = some 8) ∧
   (zr m 0 28 = some 9 ∧ zr m 0 29 = some 10 ∧ zr m 0 32 = some 11 ∧ zr m 0 33 = some 12) ∧ (zr m 0 34 = some 13 ∧ zr m 0 35 = some 14 ∧ zr m 0 38 = some 15 ∧ zr m 0 40 = some 16)) ∧
  ((ArS m 1 9 4 ∧ ArS m 2 9 4 ∧ ArS m 3 10 240 ∧ ArS m 4 8 900) ∧ (ArS m 5 9 2445 ∧ ArS m 6 9 217 ∧ ArS m 7 10 70 ∧ ArS m 8 9 8) ∧
   (ArS m 9 9 8 ∧ ArS m 10 9 8 ∧ ArS m 11 9 54 ∧ ArS m 12 9 81) ∧ (ArS m 13 9 4509 ∧ ArS m 14 9 8 ∧ ArS m 15 9 45 ∧ ArS m 16 9 5))
theorem MoS.s2 {m : zM} (h : MoS m 0) : S2 m := h
theorem S2.mo {m : zM} (h : S2 m) : MoS m 0 := h
def EdB (m : zM) (β i k : Nat) (e : zEd) : Prop := zi m 5 (β + cellN i k) = (e.1 : Int) ∧ zi m 5 (β + cellN i k + 1) = (e.2.1 : Int) ∧ zi m 5 (β + cellN i k + 2) = (e.2.2.1 : Int) ∧ zi m 5 (β + cellN i k + 3) = b01 e.2.2.2
def MlB (m : zM) (β i : Nat) (x : zLn) : Prop := zi m 5 (β + 5 + i) = x.1 ∧ zi m 5 (β + 13 + i) = (x.2.2.length : Int) ∧ x.2.2.length ≤ 4 ∧ zi m 5 (β + 21 + i) = b01 x.2.1 ∧ (∀ e ∈ x.2.2, eOk e) ∧ ∀ k, k < x.2.2.length → EdB m β i k (x.2.2.getD k e00)
def PsB (m : zM) (β ν i : Nat) (x : zPs0) : Prop := zl m 7 (ν + 8 + i) = x.1 ∧ zi m 5 (β + 157 + i) = (x.2.1 : Int) ∧ zi m 5 (β + 163 + i) = (x.2.2.length : Int) ∧ rOk x.2.2 ∧ ∀ k, k < x.2.2.length → zi m 5 (β + 169 + 8 * i + k) = ((x.2.2.getD k 0 : Nat) : Int)
def YvM (m : zM) (β : Nat) (y : zYr) : Prop := zi m 5 (β + 217) = b01 y.isSome ∧ ∀ t, y = some t → zi m 5 (β + 218) = ((t.2.2.length / 9 : Nat) : Int) ∧ t.2.2.length ≤ 270 ∧ ∀ k, k < t.2.2.length → t.2.2.getD k 0 = -7 ∨ zi m 5 (β + 219 + k) = t.2.2.getD k 0
def BvM (m : zM) (β ν : Nat) (B : zBl) : Prop :=
  (zi m 5 β = (B.1.1.length : Int) ∧ B.1.1.length ≤ 8 ∧ ∀ i, i < B.1.1.length → zl m 7 (ν + i) = B.1.1.getD i 0) ∧
  (zi m 5 (β + 1) = (B.1.2.1.length : Int) ∧ B.1.2.1.length ≤ 8 ∧ ∀ i, i < B.1.2.1.length → MlB m β i (B.1.2.1.getD i ln0)) ∧
  (zi m 5 (β + 2) = (B.1.2.2.1.length : Int) ∧ B.1.2.2.1.length ≤ 6 ∧ ∀ i, i < B.1.2.2.1.length → PsB m β ν i (B.1.2.2.1.getD i ps0) ∧ (B.1.2.2.1.getD i ps0).2.1 < B.1.2.1.length) ∧
  (zi m 5 (β + 3) = B.1.2.2.2.1 ∧ zi m 5 (β + 4) = B.1.2.2.2.2) ∧ YvM m β B.2
def TvM (m : zM) (t : Nat) (x : zTr) : Prop := zi m 1 t = x.2.1 ∧ zi m 2 t = (if x.1 = true then (x.2.2.length : Int) else -1) ∧ x.2.2.length ≤ 60 ∧ (0 ≤ x.2.1 ∧ x.2.1 < 4) ∧ (x.1 = true → ∀ k, k < x.2.2.length → zl m 3 (60 * t + k) = x.2.2.getD k 0)
def H2 (S : zSt) (m : zM) : Prop := zi m 0 0 = gSt S ∧ zl m 0 2 = (gFr S).1 ∧ zl m 0 3 = (gFr S).2 ∧ zi m 0 8 = ((gTp S).length : Int) ∧ zi m 0 10 = ((gFa S).getD (-1, -1)).1 ∧ zi m 0 11 = ((gFa S).getD (-1, -1)).2 ∧ zi m 0 23 = ((gMk S).length : Int) ∧ (zi m 0 41 = b01 (gLv S).isSome ∧ m.1 = (17, 0))
def G2 (S : zSt) (m : zM) : Prop := (∀ t, t < 4 → TvM m t (gTr S t)) ∧ ((gTp S).length ≤ 900 ∧ ∀ i, i < (gTp S).length → zi m 4 i = (gTp S).getD i 0) ∧ BvM m 0 0 (gBl S) ∧
  ((gMk S).length ≤ 3 ∧ ∀ i, i < (gMk S).length → BvM m (489 * (i + 1)) (14 * (i + 1)) ((gMk S).getD i bl0)) ∧ (∀ p, gLv S = some p → ∀ i, i < 5 → zi m 16 i = lv5 p i)
def R2 (S : zSt) (m : zM) : Prop := S2 m ∧ H2 S m ∧ G2 S m
/-- places that hold nothing from call to call -/
def scr (b j : Nat) : Prop := (b = 0 ∧ j ≠ 0 ∧ j ≠ 2 ∧ j ≠ 3 ∧ j ≠ 8 ∧ j ≠ 10 ∧ j ≠ 11 ∧ j ≠ 23 ∧ j ≠ 41) ∨ b = 6 ∨ (8 ≤ b ∧ b ≤ 15) ∨ (b = 5 ∧ 1956 ≤ j) ∨ (b = 7 ∧ 56 ≤ j)
section MSTATE
variable {S : zSt} {m m' : zM} {P : Nat → Nat → Prop}
theorem cellN_lt {i k : Nat} (hi : i < 8) (hk : k < 4) : 29 ≤ cellN i k ∧ cellN i k + 3 < 157 := by unfold cellN; omega
theorem Fr.bvM {β ν : Nat} {B : zBl} (h : Fr P m m') (h5 : ∀ j, β ≤ j → j < β + 489 → ¬ P 5 j) (h7 : ∀ j, ν ≤ j → j < ν + 14 → ¬ P 7 j) (hv : BvM m β ν B) : BvM m' β ν B := by
  obtain ⟨⟨w1, w2, w3⟩, ⟨l1, l2, l3⟩, ⟨p1, p2, p3⟩, ⟨o1, o2⟩, ⟨y1, y2⟩⟩ := hv
  unfold BvM YvM
  rw [h.i (h5 _ (by omega) (by omega)), h.i (h5 _ (by omega) (by omega)), h.i (h5 _ (by omega) (by omega)), h.i (h5 _ (by omega) (by omega)), h.i (h5 _ (by omega) (by omega)), h.i (h5 _ (by omega) (by omega))]
  refine ⟨⟨w1, w2, fun i hi => by rw [h.l (h7 _ (by omega) (by omega))]; exact w3 i hi⟩, ⟨l1, l2, fun i hi => ?_⟩, ⟨p1, p2, fun i hi => ⟨?_, (p3 i hi).2⟩⟩, ⟨o1, o2⟩, y1, fun t ht => ?_⟩
  · obtain ⟨q1, q2, q3, q4, q5, q6⟩ := l3 i hi
    unfold MlB
    rw [h.i (h5 _ (by omega) (by omega)), h.i (h5 _ (by omega) (by omega)), h.i (h5 _ (by omega) (by omega))]
    refine ⟨q1, q2, q3, q4, q5, fun k hk => ?_⟩
    obtain ⟨c1, c2⟩ := cellN_lt (i := i) (k := k) (by omega) (by omega)
    have := q6 k hk
    unfold EdB at this ⊢
    rw [h.i (h5 _ (by omega) (by omega)), h.i (h5 _ (by omega) (by omega)), h.i (h5 _ (by omega) (by omega)), h.i (h5 _ (by omega) (by omega))]
    exact this
  · obtain ⟨q1, q2, q3, q4, q5⟩ := (p3 i hi).1
    have q8 := q4.1
    unfold PsB
    rw [h.l (h7 _ (by omega) (by omega)), h.i (h5 _ (by omega) (by omega)), h.i (h5 _ (by omega) (by omega))]
    exact ⟨q1, q2, q3, q4, fun k hk => by rw [h.i (h5 _ (by omega) (by omega))]; exact q5 k hk⟩
  · obtain ⟨z1, z2, z3⟩ := y2 t ht
    rw [h.i (h5 _ (by omega) (by omega))]
    exact ⟨z1, z2, fun k hk => by rw [h.i (h5 _ (by omega) (by omega))]; exact z3 k hk⟩
theorem Fr.tvM {t : Nat} {x : zTr} (h : Fr P m m') (h1 : ¬ P 1 t) (h2 : ¬ P 2 t) (h3 : ∀ j, 60 * t ≤ j → j < 60 * t + 60 → ¬ P 3 j) (hv : TvM m t x) : TvM m' t x := by
  obtain ⟨q1, q2, q3, q4, q5⟩ := hv
  unfold TvM
  rw [h.i h1, h.i h2]
  exact ⟨q1, q2, q3, q4, fun e k hk => by rw [h.l (h3 _ (by omega) (by omega))]; exact q5 e k hk⟩
theorem Fr.g2 (h : Fr P m m') (h1 : ∀ j, ¬ P 1 j) (h2 : ∀ j, ¬ P 2 j) (h3 : ∀ j, ¬ P 3 j) (h4 : ∀ j, ¬ P 4 j) (h5 : ∀ j, j < 1956 → ¬ P 5 j) (h7 : ∀ j, j < 56 → ¬ P 7 j) (h16 : ∀ j, ¬ P 16 j) (hv : G2 S m) : G2 S m' := by
  obtain ⟨gtr, ⟨t1, t2⟩, gbl, ⟨g1, g3⟩, glv⟩ := hv
  refine ⟨fun t ht => h.tvM (h1 _) (h2 _) (fun j _ _ => h3 j) (gtr t ht), ⟨t1, fun i hi => by rw [h.i (h4 _)]; exact t2 i hi⟩, h.bvM (fun j _ hj => h5 j (by omega)) (fun j _ hj => h7 j (by omega)) gbl, ⟨g1, fun i hi => h.bvM (fun j _ hj => h5 j (by omega)) (fun j _ hj => h7 j (by omega)) (g3 i hi)⟩, fun p hp i hi => by rw [h.i (h16 _)]; exact glv p hp i hi⟩
theorem Fr.h2 (h : Fr P m m') (h0 : ∀ j, j = 0 ∨ j = 2 ∨ j = 3 ∨ j = 8 ∨ j = 10 ∨ j = 11 ∨ j = 23 ∨ j = 41 → ¬ P 0 j) (hv : H2 S m) : H2 S m' := by
  unfold H2 at hv ⊢
  rw [h.i (h0 _ (by omega)), h.i (h0 _ (by omega)), h.i (h0 _ (by omega)), h.i (h0 _ (by omega)), h.i (h0 _ (by omega)), h.i (h0 _ (by omega)), h.l (h0 _ (by omega)), h.l (h0 _ (by omega)), h.1]
  exact hv
theorem Fr.s2 (h : Fr P m m') (hs : S2 m) : S2 m' := (h.Mo hs.mo).s2
theorem R2.fr (hR : R2 S m) (h : Fr scr m m') : R2 S m' :=
  ⟨h.s2 hR.1, h.h2 (fun j hj => by unfold scr; omega) hR.2.1, h.g2 (fun j => by unfold scr; omega) (fun j => by unfold scr; omega) (fun j => by unfold scr; omega) (fun j => by unfold scr; omega) (fun j hj => by unfold scr; omega) (fun j hj => by unfold scr; omega) (fun j => by unfold scr; omega) hR.2.2⟩
def at00 (b j : Nat) : Prop := b = 0 ∧ j = 0
theorem R2.st {x : Int} (hR : R2 S m) : R2 (wSt S x) (zwi m 0 0 x) := by
  have h : Fr at00 m (zwi m 0 0 x) := Fr.wi m x ⟨rfl, rfl⟩
  obtain ⟨h1, ⟨a1, a2, a3, a4, a5, a6, a7, a8⟩, h3⟩ := hR
  have g : ∀ j, ¬ j = 0 → ¬ at00 0 j := fun j hj q => hj q.2
  refine ⟨h.s2 h1, ⟨zi_wi_s _ _ _ _, a2, a3, ?_, ?_, ?_, ?_, ?_⟩, h.g2 (fun j => by unfold at00; omega) (fun j => by unfold at00; omega) (fun j => by unfold at00; omega) (fun j => by unfold at00; omega) (fun j hj => by unfold at00; omega) (fun j hj => by unfold at00; omega) (fun j => by unfold at00; omega) h3⟩
  · rw [h.i (g _ (by decide))]; exact a4
  · rw [h.i (g _ (by decide))]; exact a5
  · rw [h.i (g _ (by decide))]; exact a6
  · rw [h.i (g _ (by decide))]; exact a7
  · exact ⟨by rw [h.i (g _ (by decide))]; exact a8.1, a8.2⟩
theorem R2.th {x : Int} (hR : R2 S m) : R2 S (zwi m 0 1 x) := hR.fr (Fr.wi m x (by unfold scr; omega))
theorem R2.pre (hR : R2 S m) : R2 (wSt S 0) (zwi (zwi m 0 1 0) 0 0 0) := hR.th.st
theorem m_refuse {v : Nat} {x : Int} (h : S2 m) : zF zP 241 v [(.inr (.inr (some 0))), .inl x] m = some (some (.inl (-1)), zwi m 0 0 x) := by rw [f_X11_refuse, if_pos h.1]
theorem m_no {v : Nat} {x : Int} (h : S2 m) : zF zP 242 v [(.inr (.inr (some 0))), .inl x] m = some (some (.inl 0), zwi m 0 0 x) := by rw [f_X11_no, if_pos h.1, if_pos zb0]
theorem zlcmp_gt {x y : Int} : 0 < zlcmp x y ↔ y < x := by
  unfold zlcmp
  by_cases h : y < x
  · rw [if_pos h]; constructor <;> intro q <;> omega
  · rw [if_neg h]
    by_cases h2 : x = y
    · rw [if_pos h2]; constructor <;> intro q <;> omega
    · rw [if_neg h2]; constructor <;> intro q <;> omega
theorem m_isIn {v : Nat} (x lo hi : Int) : zF zP 243 v [.inr (.inl x), .inr (.inl lo), .inr (.inl hi)] m = some (some (.inl (b01 (inR x lo hi))), m) := by
  rw [f_X11_isIn]
  by_cases h0 : x < lo
  · rw [if_pos (zlcmp_lt.mpr h0), j_X11_isIn_17, j_X11_isIn_18, if_pos zb0, inR_f.mpr (by omega)]; rfl
  · rw [if_neg (fun q => h0 (zlcmp_lt.mp q))]
    by_cases h1 : hi < x
    · rw [if_pos (zlcmp_gt.mpr h1), j_X11_isIn_17, j_X11_isIn_18, if_pos zb0, inR_f.mpr (by omega)]; rfl
    · rw [if_neg (fun q => h1 (zlcmp_gt.mp q)), j_X11_isIn_18, if_pos zb1, inR_t.mpr (by omega)]; rfl
theorem m_isTray {v : Nat} (x : Int) (a : Nat) : zF zP 253 v [(.inr (.inr (some a))), .inl x] m = some (some (.inl (b01 (inR x 0 3))), m) := by
  rw [f_X11_isTray, m_isIn, zC1_s, if_pos (zb_b01 _)]
theorem m_isNumber {v : Nat} (x : Int) : zF zP 320 v [.inl x] m = some (some (.inl (b01 (inR x 1 999))), m) := by
  rw [f_X11_isNumber, m_isIn, zC1_s, if_pos (zb_b01 _)]
theorem m_isAhead {v : Nat} (x : Int) : zF zP 392 v [.inl x] m = some (some (.inl (b01 (inR x 0 500))), m) := by
  rw [f_X11_isAhead, m_isIn, zC1_s, if_pos (zb_b01 _)]
theorem inR_inB {x : Int} {n : Nat} (hn : n < 1000000) : inR x 0 (zsub (n : Int) 1) = inB x n := by
  have e : zsub (n : Int) 1 = (n : Int) - 1 := zsub_of (by unfold r32; omega)
  rw [e]
  unfold inR inB
  congr 1
  exact decide_eq_decide.mpr (by omega)
theorem A5 (h : S2 m) {x : Int} (h0 : 0 ≤ x) (h1 : x < 2445) : zA m 5 9 x = true := h.2.2.2.1.1.A h0 h1
theorem R2.c0 (hR : R2 S m) : zi m 5 (Int.toNat 0) = ((gL S).1.length : Int) := hR.2.2.2.2.1.1.1
theorem R2.c1 (hR : R2 S m) : zi m 5 (Int.toNat 1) = ((gL S).2.1.length : Int) := hR.2.2.2.2.1.2.1.1
theorem R2.c2 (hR : R2 S m) : zi m 5 (Int.toNat 2) = ((gL S).2.2.1.length : Int) := hR.2.2.2.2.1.2.2.1.1
theorem R2.w8 (hR : R2 S m) : (gL S).1.length ≤ 8 := hR.2.2.2.2.1.1.2.1
theorem R2.l8 (hR : R2 S m) : (gL S).2.1.length ≤ 8 := hR.2.2.2.2.1.2.1.2.1
theorem R2.p6 (hR : R2 S m) : (gL S).2.2.1.length ≤ 6 := hR.2.2.2.2.1.2.2.1.2.1
theorem m_isWordAt {v : Nat} (hR : R2 S m) (x : Int) : zF zP 308 v [(.inr (.inr (some 0))), .inr (.inl x)] m = some (some (.inl (b01 (inB x (gL S).1.length))), m) := by
  have h8 := hR.w8
  rw [f_X11_isWordAt, if_pos hR.1.1, hR.1.2.1.2.1.1, obind, if_pos (A5 hR.1 (by omega) (by omega)), hR.c0, m_isIn, zC1_s, if_pos (zb_b01 _), inR_inB (by omega)]
theorem m_isLineAt {v : Nat} (hR : R2 S m) (x : Int) : zF zP 309 v [(.inr (.inr (some 0))), .inl x] m = some (some (.inl (b01 (inB x (gL S).2.1.length))), m) := by
  have h8 := hR.l8
  rw [f_X11_isLineAt, if_pos hR.1.1, hR.1.2.1.2.1.1, obind, if_pos (A5 hR.1 (by omega) (by omega)), hR.c1, m_isIn, zC1_s, if_pos (zb_b01 _), inR_inB (by omega)]
theorem m_isPersonAt {v : Nat} (hR : R2 S m) (x : Int) : zF zP 311 v [(.inr (.inr (some 0))), .inl x] m = some (some (.inl (b01 (inB x (gL S).2.2.1.length))), m) := by
  have h8 := hR.p6
  rw [f_X11_isPersonAt, if_pos hR.1.1, hR.1.2.1.2.1.1, obind, if_pos (A5 hR.1 (by omega) (by omega)), hR.c2, m_isIn, zC1_s, if_pos (zb_b01 _), inR_inB (by omega)]
theorem R2.ln {i : Nat} (hR : R2 S m) (hi : i < (gL S).2.1.length) : MlB m 0 i ((gL S).2.1.getD i ln0) := hR.2.2.2.2.1.2.1.2.2 i hi
theorem R2.ps {i : Nat} (hR : R2 S m) (hi : i < (gL S).2.2.1.length) : PsB m 0 0 i ((gL S).2.2.1.getD i ps0) ∧ ((gL S).2.2.1.getD i ps0).2.1 < (gL S).2.1.length := hR.2.2.2.2.1.2.2.1.2.2 i hi
theorem MlB.mlV {i : Nat} {x : zLn} (h : MlB m 0 i x) : MlV m 0 i x.2.2 := by
  obtain ⟨h1, h2, h3, h4, h5, h6⟩ := h
  refine ⟨by rw [Nat.zero_add] at h2; exact h2, h3, h5, fun k hk => ?_⟩
  have := h6 k hk
  unfold EdB at this
  rw [Nat.zero_add] at this
  exact this
end MSTATE
