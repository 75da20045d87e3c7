/-! The state of both: TRAYS, tape, the SLIP with all that became of it, MARKS, what was LIVED; the class's memory as its picture. -/
abbrev zYr : Type := Option (List Int × List Int × List Int)
abbrev zBl : Type := zLd × zYr
/-- the last: how many cells, how many slots the class's memory has -/
abbrev zSt : Type := (Int × Int × Int) × (Nat → zTr) × List Int × Option (Int × Int) × zBl × List zBl × Option (Int × Int × Int × Int × Int) × (Nat × Nat)
def bl0 : zBl := (([], [], [], 2, 0), none)
abbrev gSt (S : zSt) : Int := S.1.1
abbrev gFr (S : zSt) : Int × Int := S.1.2
abbrev gTr (S : zSt) : Nat → zTr := S.2.1
abbrev gTp (S : zSt) : List Int := S.2.2.1
abbrev gFa (S : zSt) : Option (Int × Int) := S.2.2.2.1
abbrev gBl (S : zSt) : zBl := S.2.2.2.2.1
abbrev gMk (S : zSt) : List zBl := S.2.2.2.2.2.1
abbrev gLv (S : zSt) : Option (Int × Int × Int × Int × Int) := S.2.2.2.2.2.2.1
abbrev gN (S : zSt) : Nat × Nat := S.2.2.2.2.2.2.2
abbrev gL (S : zSt) : zLd := (gBl S).1
abbrev wSt (S : zSt) (x : Int) : zSt := ((x, S.1.2), S.2)
abbrev wFr (S : zSt) (p : Int × Int) : zSt := ((S.1.1, p), S.2)
abbrev wTr (S : zSt) (t : Nat) (x : zTr) : zSt := (S.1, (fun j => if j = t then x else gTr S j), S.2.2)
abbrev wTp (S : zSt) (l : List Int) : zSt := (S.1, S.2.1, l, S.2.2.2)
abbrev wFa (S : zSt) (f : Option (Int × Int)) : zSt := (S.1, S.2.1, S.2.2.1, f, S.2.2.2.2)
abbrev wBl (S : zSt) (B : zBl) : zSt := (S.1, S.2.1, S.2.2.1, S.2.2.2.1, B, S.2.2.2.2.2)
abbrev wMk (S : zSt) (M : List zBl) : zSt := (S.1, S.2.1, S.2.2.1, S.2.2.2.1, S.2.2.2.2.1, M, S.2.2.2.2.2.2)
abbrev wLv (S : zSt) (l : Option (Int × Int × Int × Int × Int)) : zSt := (S.1, S.2.1, S.2.2.1, S.2.2.2.1, S.2.2.2.2.1, S.2.2.2.2.2.1, l, S.2.2.2.2.2.2.2)
abbrev wN (S : zSt) (n : Nat × Nat) : zSt := (S.1, S.2.1, S.2.2.1, S.2.2.2.1, S.2.2.2.2.1, S.2.2.2.2.2.1, S.2.2.2.2.2.2.1, n)
/-- the WORDS OF THE TEXT that are no NAMES -/
def zKey : List Int := [495763, 769604, 402885, 6642, 594980, 538561837, 139859589, 1265842, 317298260, 542723566, 52, 624435, 4153, 239, 409189, 206276, 1497, 762030, 409204, 409031, 8243, 409072, 5572, 643568]
def YvC (m : zM) (a : Nat) (y : zYr) : Prop := zi m a 3 = b01 y.isSome ∧ ∀ t, y = some t → zi m a 4 = (t.1.length : Int) ∧ t.1.length ≤ 60 ∧ t.2.1.length = t.1.length ∧ zi m a 5 = ((t.2.2.length / 9 : Nat) : Int) ∧ ∀ i, i < t.1.length → zi m (a + 1) i = t.1.getD i 0 ∧ (t.2.1.getD i 0 = -7 ∨ zi m (a + 2) i = t.2.1.getD i 0)
def BvC (m : zM) (a : Nat) (B : zBl) : Prop := LdV m a B.1 ∧ YvC m (a + 8) B.2
def TpS (m : zM) : Prop := zT m 2 3 = true ∧ (zr m 2 0 = some 3 ∧ zr m 2 1 = some 4) ∧ ArS m 3 8 900 ∧ ArS m 4 10 24
def LfS (m : zM) : Prop := zT m 62 1 = true ∧ zr m 62 0 = some 63 ∧ ArS m 63 9 60
def S1 (m : zM) : Prop := zT m 0 6 = true ∧ (zr m 0 0 = some 1 ∧ zr m 0 1 = some 2 ∧ zr m 0 2 = some 5 ∧ zr m 0 3 = some 33 ∧ zr m 0 4 = some 61 ∧ zr m 0 5 = some 62 ∧ zr m 0 6 = some 64 ∧ zr m 0 7 = some 65 ∧ zr m 0 8 = some 66) ∧
  (ArS m 1 13 4 ∧ ArS m 61 11 3 ∧ ArS m 64 9 5 ∧ ArS m 65 10 501 ∧ ArS m 66 9 9) ∧ (∀ t, t < 4 → zr m 1 t = some (67 + 2 * t) ∧ TrS m (67 + 2 * t)) ∧ TpS m ∧ LfS m ∧ LdS m 5 ∧ LdS m 33 ∧ ∀ i, i < 3 → zr m 61 i = some (75 + 28 * i) ∧ LdS m (75 + 28 * i)
def TpV (m : zM) (bs : List Int) : Prop := zi m 2 2 = (bs.length : Int) ∧ bs.length ≤ 900 ∧ (∀ i, i < bs.length → zi m 3 i = bs.getD i 0) ∧ ∀ i, i < 24 → zl m 4 i = zKey.getD i 0
def lv5 (p : Int × Int × Int × Int × Int) (i : Nat) : Int := match i with
  | 0 => p.1
  | 1 => p.2.1
  | 2 => p.2.2.1
  | 3 => p.2.2.2.1
  | _ => p.2.2.2.2
def H1 (S : zSt) (m : zM) : Prop := zi m 0 14 = gSt S ∧ zl m 0 15 = (gFr S).1 ∧ zl m 0 16 = (gFr S).2 ∧ zi m 0 13 = ((gMk S).length : Int) ∧ zi m 0 10 = b01 (gFa S).isSome ∧ (∀ f, gFa S = some f → zi m 0 11 = f.1 ∧ zi m 0 12 = f.2) ∧ zi m 0 9 = b01 (gLv S).isSome ∧ m.1 = gN S
/-- the draft's LINES keep bits for LOST -/
def DfB (m : zM) : Prop := ∀ i, i < 8 → zb (zi m (45 + 2 * i) 3) = true
def G1 (S : zSt) (m : zM) : Prop := (∀ t, t < 4 → TrV m (67 + 2 * t) (gTr S t)) ∧ TpV m (gTp S) ∧ BvC m 5 (gBl S) ∧ ((gMk S).length ≤ 3 ∧ ∀ i, i < (gMk S).length → BvC m (75 + 28 * i) ((gMk S).getD i bl0)) ∧ ((∀ p, gLv S = some p → ∀ i, i < 5 → zi m 64 i = lv5 p i) ∧ DfB m)
def R1 (S : zSt) (m : zM) : Prop := S1 m ∧ H1 S m ∧ G1 S m
theorem zb0 : zb 0 = true := rfl
theorem zb1 : zb 1 = true := rfl
section STATE
variable {S : zSt} {m m' : zM} {lo hi : Nat}
theorem Sam.yvC {b : Nat} {y : zYr} (h : Sam m m' lo hi) (hb : b + 4 ≤ lo ∨ hi ≤ b) (hv : YvC m b y) : YvC m' b y := by
  unfold YvC at hv ⊢
  rw [h.i (by omega), h.i (by omega), h.i (by omega)]
  exact ⟨hv.1, fun t ht => ⟨(hv.2 t ht).1, (hv.2 t ht).2.1, (hv.2 t ht).2.2.1, (hv.2 t ht).2.2.2.1, fun i hi => by rw [h.i (by omega), h.i (by omega)]; exact (hv.2 t ht).2.2.2.2 i hi⟩⟩
theorem Sam.bvC {b : Nat} {B : zBl} (h : Sam m m' lo hi) (hb : b + 28 ≤ lo ∨ hi ≤ b) (hv : BvC m b B) : BvC m' b B := ⟨h.ldV hb hv.1, h.yvC (by omega) hv.2⟩
theorem Sam.s1 (h : Sam m m' lo hi) (hs : S1 m) : S1 m' := by
  obtain ⟨t0, ⟨r0, r1, r2, r3, r4, r5, r6, r7, r8⟩, ⟨k1, k61, k64, k65, k66⟩, tt, tp, lf, l5, l33, lm⟩ := hs
  unfold S1 TpS LfS
  rw [h.T, h.r]
  exact ⟨t0, ⟨r0, r1, r2, r3, r4, r5, r6, r7, r8⟩, ⟨h.Ar k1, h.Ar k61, h.Ar k64, h.Ar k65, h.Ar k66⟩, fun t ht => ⟨(tt t ht).1, h.Tr (tt t ht).2⟩, ⟨tp.1, tp.2.1, h.Ar tp.2.2.1, h.Ar tp.2.2.2⟩, ⟨lf.1, lf.2.1, h.Ar lf.2.2⟩, h.Ld l5, h.Ld l33, fun i hi => ⟨(lm i hi).1, h.Ld (lm i hi).2⟩⟩
theorem Sam.tpV {bs : List Int} (h : Sam m m' lo hi) (hb : 5 ≤ lo ∨ hi ≤ 2) (hv : TpV m bs) : TpV m' bs := by
  unfold TpV at hv ⊢
  rw [h.i (by omega)]
  exact ⟨hv.1, hv.2.1, fun i hi => by rw [h.i (by omega)]; exact hv.2.2.1 i hi, fun i hi => by rw [h.l (by omega)]; exact hv.2.2.2 i hi⟩
/-- what lies behind object 0 stays -/
theorem Sam.dfb (h : Sam m m' lo hi) (hb : hi ≤ 45 ∨ 60 ≤ lo) (hv : DfB m) : DfB m' := fun i hi => by rw [h.i (by omega)]; exact hv i hi
theorem Sam.g1 (h : Sam m m' lo hi) (hb : hi ≤ 1 ∨ (61 ≤ lo ∧ hi ≤ 64) ∨ (65 ≤ lo ∧ hi ≤ 67) ∨ 159 ≤ lo) (hv : G1 S m) : G1 S m' := by
  obtain ⟨gtr, gtp, gbl, gmk, glv, gdf⟩ := hv
  have h3 := gmk.1
  refine ⟨fun t ht => h.trV (by omega) (gtr t ht), h.tpV (by omega) gtp, h.bvC (by omega) gbl, ⟨gmk.1, fun i hi => h.bvC (by omega) (gmk.2 i hi)⟩, fun p hp i hi => ?_, h.dfb (by omega) gdf⟩
  rw [h.i (by omega)]; exact glv p hp i hi
theorem Sam.h1 (h : Sam m m' lo hi) (hb : 1 ≤ lo) (hv : H1 S m) : H1 S m' := by
  unfold H1 at hv ⊢
  rw [h.i (by omega), h.i (by omega), h.i (by omega), h.i (by omega), h.i (by omega), h.i (by omega), h.l (by omega), h.l (by omega), h.1]
  exact hv
theorem Sam.r1 (h : Sam m m' lo hi) (hb : (61 ≤ lo ∧ hi ≤ 64) ∨ (65 ≤ lo ∧ hi ≤ 67) ∨ 159 ≤ lo) (hR : R1 S m) : R1 S m' := ⟨h.s1 hR.1, h.h1 (by omega) hR.2.1, h.g1 (by omega) hR.2.2⟩
/-- a status told -/
theorem R1.st {x : Int} (h : R1 S m) : R1 (wSt S x) (zwi m 0 14 x) := by
  have hs : Sam m (zwi m 0 14 x) 0 1 := Sam.wi m _ _ (by omega) (by omega)
  obtain ⟨h1, ⟨a1, a2, a3, a4, a5, a6, a7⟩, h3⟩ := h
  refine ⟨hs.s1 h1, ⟨zi_wi_s _ _ _ _, a2, a3, ?_, ?_, fun f hf => ⟨?_, ?_⟩, ?_, a7.2⟩, hs.g1 (by omega) h3⟩
  · rw [zi_wi_n _ _ (Or.inr (by decide))]; exact a4
  · rw [zi_wi_n _ _ (Or.inr (by decide))]; exact a5
  · rw [zi_wi_n _ _ (Or.inr (by decide))]; exact (a6 f hf).1
  · rw [zi_wi_n _ _ (Or.inr (by decide))]; exact (a6 f hf).2
  · rw [zi_wi_n _ _ (Or.inr (by decide))]; exact a7.1
theorem c_yes {v : Nat} {x : Int} (h : S1 m) : zF zP 176 v [(.inr (.inr (some 0))), .inl x] m = some (some (.inl x), zwi m 0 14 0) := by rw [f_X10_yes, if_pos h.1]
theorem c_no {v : Nat} {x : Int} (h : S1 m) : zF zP 169 v [(.inr (.inr (some 0))), .inl x] m = some (some (.inl (-1)), zwi m 0 14 x) := by rw [f_X10_no, if_pos h.1]
theorem c_refused {v : Nat} {x : Int} (h : S1 m) : zF zP 164 v [(.inr (.inr (some 0))), .inl x] m = some (some (.inl 0), zwi m 0 14 x) := by rw [f_X10_refused, if_pos h.1, if_pos zb0]
theorem c_granted {v : Nat} (h : S1 m) : zF zP 165 v [(.inr (.inr (some 0)))] m = some (some (.inl 1), zwi m 0 14 0) := by rw [f_X10_granted, if_pos h.1, if_pos zb1]
end STATE
