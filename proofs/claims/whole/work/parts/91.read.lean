/-! What is read TOKEN by TOKEN: plain; the class's steps. -/
abbrev zRd (α : Type) : Type := Sum (Nat × Nat) (zTok × α)
def kMis (T : zTok) : Nat × Nat := ((if T.1 = 1 then 1 else 2), T.2.1)
def nxT (f : Nat → Nat) (n : Nat) (T : zTok) : zTok := tokAt f n T.2.2.1
def rNum (f : Nat → Nat) (n : Nat) (T : zTok) (lo hi : Nat) : zRd Nat := if T.1 = 3 then (if lo ≤ T.2.2.2.2 ∧ T.2.2.2.2 ≤ hi then .inr (nxT f n T, T.2.2.2.2) else .inl (4, T.2.1)) else .inl (kMis T)
def wnum (L : zLd) (x : Int) : Int := firstK (fun i => decide (L.1.getD i 0 = x)) L.1.length 0
def pnum (L : zLd) (x : Int) : Int := firstK (fun i => decide ((L.2.2.1.getD i ps0).1 = x)) L.2.2.1.length 0
def isNm (T : zTok) : Bool := decide (T.1 = 2) && (!decide (T.2.2.2.1 = 0) && decide (kwI T.2.2.2.1 = -1))
def rLin (L : zLd) (f : Nat → Nat) (n : Nat) (T : zTok) : zRd Nat := if T.1 = 3 then (if lnum L (T.2.2.2.2 : Int) = -1 then .inl (3, T.2.1) else .inr (nxT f n T, (lnum L (T.2.2.2.2 : Int)).toNat)) else .inl (kMis T)
def sWrd (L : zLd) (T : zTok) : zRd Nat := if isNm T = true then (if wnum L (T.2.2.2.1 : Int) = -1 then .inl (3, T.2.1) else .inr (T, (wnum L (T.2.2.2.1 : Int)).toNat)) else .inl (kMis T)
def rWrd (L : zLd) (f : Nat → Nat) (n : Nat) (T : zTok) : zRd Nat := match sWrd L T with
  | .inl e => .inl e
  | .inr q => .inr (nxT f n T, q.2)
def rPrs (L : zLd) (f : Nat → Nat) (n : Nat) (T : zTok) : zRd Nat := if isNm T = true then (if pnum L (T.2.2.2.1 : Int) = -1 then .inl (3, T.2.1) else .inr (nxT f n T, (pnum L (T.2.2.2.1 : Int)).toNat)) else .inl (kMis T)
def rNew (L : zLd) (f : Nat → Nat) (n : Nat) (T : zTok) : zRd Nat := if isNm T = true then (if wnum L (T.2.2.2.1 : Int) = -1 ∧ pnum L (T.2.2.2.1 : Int) = -1 then .inr (nxT f n T, T.2.2.2.1) else .inl (3, T.2.1)) else .inl (kMis T)
def isK (T : zTok) (k : Nat) : Bool := decide ((T.2.2.2.1 : Int) = zKey.getD k 0)
def rKey (f : Nat → Nat) (n : Nat) (T : zTok) (k : Nat) : zRd Unit := if isK T k = true then .inr (nxT f n T, ()) else .inl (kMis T)
def isS (T : zTok) (c : Nat) : Bool := decide (T.1 = 4) && decide (T.2.2.2.2 = c)
def rSem (f : Nat → Nat) (n : Nat) (T : zTok) : zRd Unit := if isS T 59 = true then .inr (nxT f n T, ()) else .inl (kMis T)
def fqP (b j : Nat) : Prop := b = 2 ∧ 10 ≤ j
def bdC (m : zM) (e : Nat × Nat) : zM := zwi (zwi m 2 10 (e.1 : Int)) 2 11 (e.2 : Int)
def RdC {α : Type} (m : zM) (out : Option zO) (good : α → zV) (bad : zV) (r : zRd α) : Prop := match r with
  | .inl e => out = some (some bad, bdC m e)
  | .inr q => ∃ m', out = some (some (good q.2), m') ∧ Fr tkP m m' ∧ TkC m' q.1
def nV (x : Nat) : zV := .inl (x : Int)
/-- a TOKEN of a text stands where it may -/
def TkR (n : Nat) (T : zTok) : Prop := T.2.1 ≤ T.2.2.1 ∧ T.2.2.1 ≤ n ∧ (T.1 ≠ 0 → T.2.1 < T.2.2.1)
theorem nxT_R {f : Nat → Nat} {n : Nat} {T : zTok} (h : TkR n T) : TkR n (nxT f n T) := by
  obtain ⟨_, q2, q3, q4, _⟩ := tokAt_rng (f := f) (n := n) (p := T.2.2.1) h.2.1
  exact ⟨q2, q3, q4⟩
theorem nxT_from {f : Nat → Nat} {n : Nat} {T : zTok} (h : TkR n T) : T.2.2.1 ≤ (nxT f n T).2.1 := (tokAt_rng (f := f) (n := n) (p := T.2.2.1) h.2.1).1
theorem kMis_pos (T : zTok) : 0 < (kMis T).1 := by
  unfold kMis
  show 0 < (if T.1 = 1 then 1 else 2)
  split <;> omega
theorem nb1 : ¬ b01 true = 0 := by decide
theorem yb0 : b01 false = 0 := rfl
section READ
variable {v : Nat} {m m' : zM} {f : Nat → Nat} {n : Nat} {T : zTok}
theorem bdC_fr (m : zM) (e : Nat × Nat) : Fr fqP m (bdC m e) := (Fr.wi m _ ⟨rfl, by omega⟩).tr (Fr.wi _ _ ⟨rfl, by omega⟩)
theorem bdC_k (m : zM) (e : Nat × Nat) : zi (bdC m e) 2 10 = (e.1 : Int) ∧ zi (bdC m e) 2 11 = (e.2 : Int) := ⟨by unfold bdC; rw [zi_wi_n _ _ (Or.inr (by decide)), zi_wi_s], zi_wi_s _ _ _ _⟩
theorem TkC.fq (hT : TkC m T) (h : Fr fqP m m') : TkC m' T := by
  unfold TkC at hT ⊢
  rw [h.i (by unfold fqP; omega), h.i (by unfold fqP; omega), h.i (by unfold fqP; omega), h.l (by unfold fqP; omega), h.i (by unfold fqP; omega), h.i (by unfold fqP; omega)]
  exact hT
theorem TxC.fq (hx : TxC m f n) (h : Fr fqP m m') : TxC m' f n := hx.fr h (by unfold fqP; omega) (fun j => by unfold fqP; omega) (fun j => by unfold fqP; omega)
theorem c_failed (hx : TxC m f n) (hT : TkC m T) (k : Nat) : zF zP 98 v [(.inr (.inr (some 2))), .inl (k : Int)] m = some (some (.inl 0), bdC m (k, T.2.1)) := by
  rw [f_X6_failed, if_pos hx.t2, zT_wi, if_pos hx.t2, if_pos hx.t2, if_pos zb0, zi_wi_n _ _ (Or.inr (by decide)), hT.2.1]; rfl
theorem c_misplaced (hx : TxC m f n) (hT : TkC m T) : zF zP 108 v [(.inr (.inr (some 2)))] m = some (some (.inl 0), bdC m (kMis T)) := by
  rw [f_X6_misplaced, if_pos hx.t2, hT.1]
  by_cases h : T.1 = 1
  · have e : kMis T = (1, T.2.1) := by unfold kMis; rw [if_pos h]
    have hf := c_failed (v := 0) hx hT 1
    rw [if_pos (by omega), j_X6_misplaced_14, if_pos hx.t2, e]
    show zC1 (zF zP 98 0 [(.inr (.inr (some 2))), .inl ((1 : Nat) : Int)] m) _ = _
    rw [hf, zC1_s, if_pos zb0]
  · have e : kMis T = (2, T.2.1) := by unfold kMis; rw [if_neg h]
    have hf := c_failed (v := 0) hx hT 2
    rw [if_neg (by omega), j_X6_misplaced_13, j_X6_misplaced_14, if_pos hx.t2, e]
    show zC1 (zF zP 98 0 [(.inr (.inr (some 2))), .inl ((2 : Nat) : Int)] m) _ = _
    rw [hf, zC1_s, if_pos zb0]
theorem c_adv (hx : TxC m f n) (hT : TkC m T) (hR : TkR n T) : ∃ m', zF zP 107 v [(.inr (.inr (some 2)))] m = some (none, m') ∧ Fr tkP m m' ∧ TkC m' (nxT f n T) := c_advance hx hR.2.1 hT.2.2.1
theorem c_num (hx : TxC m f n) (hT : TkC m T) (hR : TkR n T) (lo hi : Nat) : RdC m (zF zP 109 v [(.inr (.inr (some 2))), .inl (lo : Int), .inl (hi : Int)] m) nV (.inl (-1)) (rNum f n T lo hi) := by
  rw [f_X6_takeNumberIn, if_pos hx.t2, hT.1]
  unfold rNum
  have bad : (4 : Int) = ((4 : Nat) : Int) := rfl
  by_cases h : T.1 = 3
  · rw [if_pos (by omega), if_pos h, j_X6_takeNumberIn_15, if_pos hx.t2, hT.2.2.2.2.2]
    by_cases h1 : lo ≤ T.2.2.2.2
    · rw [if_neg (by omega), if_pos hx.t2]
      by_cases h2 : T.2.2.2.2 ≤ hi
      · obtain ⟨m', f1, f2, f3⟩ := c_adv (v := 0) hx hT hR
        rw [if_neg (by omega), if_pos ⟨h1, h2⟩, j_X6_takeNumberIn_39, if_pos hx.t2, if_pos hx.t2, f1, zC0_s, hT.2.2.2.2.2]
        exact ⟨m', rfl, f2, f3⟩
      · rw [if_pos (by omega), if_neg (fun w => h2 w.2), j_X6_takeNumberIn_31, if_pos hx.t2, bad, c_failed hx hT, zC1_s]; rfl
    · rw [if_pos (by omega), if_neg (fun w => h1 w.1), j_X6_takeNumberIn_31, if_pos hx.t2, bad, c_failed hx hT, zC1_s]; rfl
  · rw [if_neg (by omega), if_neg h, if_pos hx.t2, c_misplaced hx hT, zC1_s]; rfl
theorem c_lin {a : Nat} {L : zLd} (hx : TxC m f n) (hT : TkC m T) (hR : TkR n T) (hl : LdS m a) (hv : LdV m a L) : RdC m (zF zP 122 v [(.inr (.inr (some 2))), (.inr (.inr (some a)))] m) nV (.inl (-1)) (rLin L f n T) := by
  rw [f_X6_takeLine, if_pos hx.t2, hT.1]
  unfold rLin
  have bad : (3 : Int) = ((3 : Nat) : Int) := rfl
  by_cases h : T.1 = 3
  · rw [if_pos (by omega), if_pos h, j_X6_takeLine_15, if_pos hx.t2, if_pos hl.1, hT.2.2.2.2.2, s_lineNumbered hl hv, zC1_s]
    rcases lnum_of L (T.2.2.2.2 : Int) with e | ⟨i, e, _, _⟩
    · rw [e, if_pos rfl, if_pos rfl, if_pos hx.t2, bad, c_failed hx hT, zC1_s]; rfl
    · obtain ⟨m', f1, f2, f3⟩ := c_adv (v := 0) hx hT hR
      rw [e, if_neg (by omega), if_neg (by omega), j_X6_takeLine_37, if_pos hx.t2, f1, zC0_s]
      exact ⟨m', rfl, f2, f3⟩
  · rw [if_neg (by omega), if_neg h, if_pos hx.t2, c_misplaced hx hT, zC1_s]; rfl
theorem c_isName (hx : TxC m f n) (hT : TkC m T) : zF zP 111 v [(.inr (.inr (some 2)))] m = some (some (.inl (b01 (isNm T))), m) := by
  rw [f_X6_isName, if_pos hx.t2, hT.1]
  unfold isNm
  by_cases h : T.1 = 2
  · rw [if_pos (by omega), if_pos hx.t2, hT.2.2.2.1, decide_eq_true h, Bool.true_and]
    by_cases h1 : T.2.2.2.1 = 0
    · rw [if_pos (zlcmp_eq.mpr (by omega)), j_X6_isName_29, j_X6_isName_30, if_pos zb0, decide_eq_true h1]; rfl
    · rw [if_neg (fun w => h1 (by have := zlcmp_eq.mp w; omega)), if_pos hx.t2, hT.2.2.2.2.1, decide_eq_false h1]
      by_cases h2 : kwI T.2.2.2.1 = -1
      · rw [if_pos h2, j_X6_isName_30, if_pos zb1, decide_eq_true h2]; rfl
      · rw [if_neg h2, j_X6_isName_29, j_X6_isName_30, if_pos zb0, decide_eq_false h2]; rfl
  · rw [if_neg (by omega), j_X6_isName_29, j_X6_isName_30, if_pos zb0, decide_eq_false h]; rfl
theorem s_wordNamed {a : Nat} {L : zLd} {y : Int} (h : LdS m a) (hL : LdV m a L) : zF zP 24 v [(.inr (.inr (some a))), .inr (.inl y)] m = some (some (.inl (wnum L y)), m) := by
  obtain ⟨h1, ⟨r0, r1, r2, r3, r4, r5, r6⟩, ⟨k1, k2, k5, k6, k7⟩, hy, hn, hl⟩ := h
  obtain ⟨w1, w2, w3⟩ := hL.1
  have loop : ∀ (n k : Nat), k + n = L.1.length → zX zP 24 v 2 [some (.inr (.inr (some a))), some (.inr (.inl y)), none, some (.inl (k : Int))] [] m = some (some (.inl (firstK (fun i => decide (L.1.getD i 0 = y)) n k)), m) := by
    intro n
    induction n with
    | zero =>
      intro k hk
      rw [j_X0_wordNamed_2, if_pos h1, w1, if_neg (by omega), j_X0_wordNamed_38]; rfl
    | succ n ih =>
      intro k hk
      rw [j_X0_wordNamed_2, if_pos h1, w1, if_pos (by omega), if_pos h1, r0, obind, if_pos (k1.Y (by decide)), k1.L, if_pos (by omega), if_pos h1, obind, if_pos (k1.A (by omega) (by omega)), Int.toNat_natCast, w3 k (by omega)]
      unfold firstK
      by_cases q : L.1.getD k 0 = y
      · rw [if_pos (zlcmp_eq.mpr q), if_pos (decide_eq_true q)]
      · rw [if_neg (fun w => q (zlcmp_eq.mp w)), j_X0_wordNamed_32, zadd1 (by omega), ih (k + 1) (by omega), if_neg (fun w => q (of_decide_eq_true w))]
  rw [f_X0_wordNamed]
  exact loop L.1.length 0 (Nat.zero_add _)
theorem s_personNamed {a : Nat} {L : zLd} {y : Int} (h : LdS m a) (hL : LdV m a L) : zF zP 25 v [(.inr (.inr (some a))), .inr (.inl y)] m = some (some (.inl (pnum L y)), m) := by
  obtain ⟨h1, ⟨r0, r1, r2, r3, r4, r5, r6⟩, ⟨k1, k2, k5, k6, k7⟩, hy, hn, hl⟩ := h
  obtain ⟨w1, w2, w3⟩ := hL.2.2.1
  have loop : ∀ (n k : Nat), k + n = L.2.2.1.length → zX zP 25 v 2 [some (.inr (.inr (some a))), some (.inr (.inl y)), none, some (.inl (k : Int))] [] m = some (some (.inl (firstK (fun i => decide ((L.2.2.1.getD i ps0).1 = y)) n k)), m) := by
    intro n
    induction n with
    | zero =>
      intro k hk
      rw [j_X0_personNamed_2, if_pos h1, w1, if_neg (by omega), j_X0_personNamed_38]; rfl
    | succ n ih =>
      intro k hk
      rw [j_X0_personNamed_2, if_pos h1, w1, if_pos (by omega), if_pos h1, r3, obind, if_pos (k5.Y (by decide)), k5.L, if_pos (by omega), if_pos h1, obind, if_pos (k5.A (by omega) (by omega)), Int.toNat_natCast, (w3 k (by omega)).1]
      unfold firstK
      by_cases q : (L.2.2.1.getD k ps0).1 = y
      · rw [if_pos (zlcmp_eq.mpr q), if_pos (decide_eq_true q)]
      · rw [if_neg (fun w => q (zlcmp_eq.mp w)), j_X0_personNamed_32, zadd1 (by omega), ih (k + 1) (by omega), if_neg (fun w => q (of_decide_eq_true w))]
  rw [f_X0_personNamed]
  exact loop L.2.2.1.length 0 (Nat.zero_add _)
theorem wnum_of (L : zLd) (x : Int) : wnum L x = -1 ∨ ∃ i : Nat, wnum L x = (i : Int) ∧ i < L.1.length := by
  rcases firstK_of (fun i => decide (L.1.getD i 0 = x)) L.1.length 0 with e | ⟨i, e, _, q, _⟩
  · exact Or.inl e
  · exact Or.inr ⟨i, e, by omega⟩
theorem pnum_of (L : zLd) (x : Int) : pnum L x = -1 ∨ ∃ i : Nat, pnum L x = (i : Int) ∧ i < L.2.2.1.length := by
  rcases firstK_of (fun i => decide ((L.2.2.1.getD i ps0).1 = x)) L.2.2.1.length 0 with e | ⟨i, e, _, q, _⟩
  · exact Or.inl e
  · exact Or.inr ⟨i, e, by omega⟩
theorem c_see {a : Nat} {L : zLd} (hx : TxC m f n) (hT : TkC m T) (hl : LdS m a) (hv : LdV m a L) : (∀ e, sWrd L T = .inl e → zF zP 117 v [(.inr (.inr (some 2))), (.inr (.inr (some a)))] m = some (some (.inl (-1)), bdC m e)) ∧ (∀ q, sWrd L T = .inr q → zF zP 117 v [(.inr (.inr (some 2))), (.inr (.inr (some a)))] m = some (some (nV q.2), m)) := by
  rw [f_X6_seeWord, if_pos hx.t2, c_isName hx hT, zC1_s]
  unfold sWrd
  have bad : (3 : Int) = ((3 : Nat) : Int) := rfl
  by_cases h : isNm T = true
  · rw [if_pos h, h, if_neg nb1, j_X6_seeWord_14, if_pos hx.t2, if_pos hl.1, hT.2.2.2.1, s_wordNamed hl hv, zC1_s]
    rcases wnum_of L (T.2.2.2.1 : Int) with e | ⟨i, e, _⟩
    · rw [e, if_pos rfl, if_pos rfl, if_pos hx.t2, bad, c_failed hx hT, zC1_s, j_X6_seeWord_34]
      refine ⟨fun e' h' => ?_, fun q h' => nomatch h'⟩
      injection h' with h'
      rw [← h']
    · rw [e, if_neg (by omega), if_neg (by omega), j_X6_seeWord_34]
      refine ⟨fun e' h' => (nomatch h'), fun q h' => ?_⟩
      injection h' with h'
      rw [← h']; rfl
  · rw [if_neg h, bool_f h, if_pos yb0, if_pos hx.t2, c_misplaced hx hT, zC1_s]
    refine ⟨fun e' h' => ?_, fun q h' => nomatch h'⟩
    injection h' with h'
    rw [← h']
theorem c_wrd {a : Nat} {L : zLd} (hx : TxC m f n) (hT : TkC m T) (hR : TkR n T) (hl : LdS m a) (hv : LdV m a L) : RdC m (zF zP 118 v [(.inr (.inr (some 2))), (.inr (.inr (some a)))] m) nV (.inl (-1)) (rWrd L f n T) := by
  obtain ⟨g1, g2⟩ := c_see (v := 0) hx hT hl hv
  rw [f_X6_takeWord, if_pos hx.t2]
  unfold rWrd
  cases h : sWrd L T with
  | inl e =>
    rw [g1 e h, zC1_s, if_pos rfl, j_X6_takeWord_15]; rfl
  | inr q =>
    obtain ⟨m', f1, f2, f3⟩ := c_adv (v := 0) hx hT hR
    rw [g2 q h]
    show RdC m (zC1 (some (some (.inl ((q.2 : Nat) : Int)), m)) _) nV (.inl (-1)) (.inr (nxT f n T, q.2))
    rw [zC1_s, if_neg (by omega), if_pos hx.t2, f1, zC0_s, j_X6_takeWord_15]
    exact ⟨m', rfl, f2, f3⟩
theorem c_prs {a : Nat} {L : zLd} (hx : TxC m f n) (hT : TkC m T) (hR : TkR n T) (hl : LdS m a) (hv : LdV m a L) : RdC m (zF zP 139 v [(.inr (.inr (some 2))), (.inr (.inr (some a)))] m) nV (.inl (-1)) (rPrs L f n T) := by
  rw [f_X6_takePerson, if_pos hx.t2, c_isName hx hT, zC1_s]
  unfold rPrs
  have bad : (3 : Int) = ((3 : Nat) : Int) := rfl
  by_cases h : isNm T = true
  · rw [if_pos h, h, if_neg nb1, j_X6_takePerson_14, if_pos hx.t2, if_pos hl.1, hT.2.2.2.1, s_personNamed hl hv, zC1_s]
    rcases pnum_of L (T.2.2.2.1 : Int) with e | ⟨i, e, _⟩
    · rw [e, if_pos rfl, if_pos rfl, if_pos hx.t2, bad, c_failed hx hT, zC1_s]; rfl
    · obtain ⟨m', f1, f2, f3⟩ := c_adv (v := 0) hx hT hR
      rw [e, if_neg (by omega), if_neg (by omega), j_X6_takePerson_36, if_pos hx.t2, f1, zC0_s]
      exact ⟨m', rfl, f2, f3⟩
  · rw [if_neg h, bool_f h, if_pos yb0, if_pos hx.t2, c_misplaced hx hT, zC1_s]; rfl
theorem c_new {a : Nat} {L : zLd} (hx : TxC m f n) (hT : TkC m T) (hR : TkR n T) (hl : LdS m a) (hv : LdV m a L) : RdC m (zF zP 112 v [(.inr (.inr (some 2))), (.inr (.inr (some a)))] m) (fun x : Nat => .inr (.inl (x : Int))) (.inr (.inl 0)) (rNew L f n T) := by
  rw [f_X6_takeNewName, if_pos hx.t2, c_isName hx hT, zC1_s]
  unfold rNew
  have bad : (3 : Int) = ((3 : Nat) : Int) := rfl
  by_cases h : isNm T = true
  · rw [if_pos h, h, if_neg nb1, j_X6_takeNewName_14, if_pos hx.t2, if_pos hl.1, hT.2.2.2.1, s_wordNamed hl hv, zC1_s]
    by_cases e : wnum L (T.2.2.2.1 : Int) = -1
    · rw [if_pos e, if_pos hx.t2, if_pos hl.1, hT.2.2.2.1, s_personNamed hl hv, zC1_s]
      by_cases e2 : pnum L (T.2.2.2.1 : Int) = -1
      · obtain ⟨m', f1, f2, f3⟩ := c_adv (v := 0) hx hT hR
        rw [if_pos e2, if_pos ⟨e, e2⟩, j_X6_takeNewName_46, if_pos hx.t2, if_pos hx.t2, f1, zC0_s, hT.2.2.2.1]
        exact ⟨m', rfl, f2, f3⟩
      · rw [if_neg e2, if_neg (fun w => e2 w.2), j_X6_takeNewName_38, if_pos hx.t2, bad, c_failed hx hT, zC1_s]; rfl
    · rw [if_neg e, if_neg (fun w => e w.1), j_X6_takeNewName_38, if_pos hx.t2, bad, c_failed hx hT, zC1_s]; rfl
  · rw [if_neg h, bool_f h, if_pos yb0, if_pos hx.t2, c_misplaced hx hT, zC1_s]; rfl
theorem isK_kw {k : Nat} (hk : k < 24) : kwI T.2.2.2.1 = (k : Int) ↔ isK T k = true := by
  unfold isK
  rw [kw_iff hk]
  exact ⟨decide_eq_true, of_decide_eq_true⟩
theorem c_isKeyword (hx : TxC m f n) (hT : TkC m T) {k : Nat} (hk : k < 24) : zF zP 114 v [(.inr (.inr (some 2))), .inl (k : Int)] m = some (some (.inl (b01 (isK T k))), m) := by
  rw [f_X6_isKeyword, if_pos hx.t2, hT.2.2.2.2.1]
  by_cases h : isK T k = true
  · rw [if_pos ((isK_kw hk).mpr h), j_X6_isKeyword_13, if_pos zb1, h]; rfl
  · rw [if_neg (fun w => h ((isK_kw hk).mp w)), j_X6_isKeyword_12, j_X6_isKeyword_13, if_pos zb0, bool_f h]; rfl
theorem c_key (hx : TxC m f n) (hT : TkC m T) (hR : TkR n T) {k : Nat} (hk : k < 24) : RdC m (zF zP 119 v [(.inr (.inr (some 2))), .inl (k : Int)] m) (fun _ : Unit => .inl 1) (.inl 0) (rKey f n T k) := by
  rw [f_X6_takesKeyword, if_pos hx.t2, hT.2.2.2.2.1]
  unfold rKey
  by_cases h : isK T k = true
  · obtain ⟨m', f1, f2, f3⟩ := c_adv (v := 0) hx hT hR
    rw [if_pos ((isK_kw hk).mpr h), if_pos h, j_X6_takesKeyword_13, if_pos hx.t2, f1, zC0_s, if_pos zb1]
    exact ⟨m', rfl, f2, f3⟩
  · rw [if_neg (fun w => h ((isK_kw hk).mp w)), if_neg h, if_pos hx.t2, c_misplaced hx hT, zC1_s, if_pos zb0]; rfl
theorem c_sem (hx : TxC m f n) (hT : TkC m T) (hR : TkR n T) : RdC m (zF zP 126 v [(.inr (.inr (some 2)))] m) (fun _ : Unit => .inl 1) (.inl 0) (rSem f n T) := by
  rw [f_X6_takesSemicolon, if_pos hx.t2, hT.1]
  unfold rSem isS
  have no : RdC m (zX zP 126 v 17 [some (.inr (.inr (some 2)))] [] m) (fun _ : Unit => .inl 1) (.inl 0) (.inl (kMis T)) := by
    rw [j_X6_takesSemicolon_17, if_pos hx.t2, c_misplaced hx hT, zC1_s, if_pos zb0]; rfl
  by_cases h : T.1 = 4
  · rw [if_pos (by omega), if_pos hx.t2, hT.2.2.2.2.2, decide_eq_true h, Bool.true_and]
    by_cases h2 : T.2.2.2.2 = 59
    · obtain ⟨m', f1, f2, f3⟩ := c_adv (v := 0) hx hT hR
      rw [if_pos (by omega), if_pos (decide_eq_true h2), j_X6_takesSemicolon_22, if_pos hx.t2, f1, zC0_s, if_pos zb1]
      exact ⟨m', rfl, f2, f3⟩
    · rw [if_neg (by omega), if_neg (fun w => h2 (of_decide_eq_true w))]; exact no
  · rw [if_neg (by omega), decide_eq_false h, Bool.false_and, if_neg (by decide)]; exact no
end READ
