/-! The class reads a SLIP: EDITS, LINES, PEOPLE. -/
def GdC (m : zM) (f : Nat → Nat) (n : Nat) (T : zTok) (L : zLd) : Prop := TxC m f n ∧ TkC m T ∧ LdS m 33 ∧ LdV m 33 L
def FlC (m m' : zM) : Prop := zi m' 2 10 = zi m 2 10 ∧ zi m' 2 11 = zi m 2 11
def RcC (m : zM) (f : Nat → Nat) (n : Nat) (out : Option zO) (r : zRd zLd) : Prop := match r with
  | .inl e => ∃ m', out = some (some (.inl 0), m') ∧ Fr rdC m m' ∧ zi m' 2 10 = (e.1 : Int) ∧ zi m' 2 11 = (e.2 : Int) ∧ DfB m'
  | .inr q => ∃ m', out = some (some (.inl 1), m') ∧ Fr rdC m m' ∧ GdC m' f n q.1 q.2 ∧ FlC m m'
theorem wnum_c {L L' : zLd} (h : L.1 = L'.1) : wnum L = wnum L' := by funext x; unfold wnum; rw [h]
theorem sWrd_c {L L' : zLd} (h : L.1 = L'.1) : sWrd L = sWrd L' := by funext T; unfold sWrd; rw [wnum_c h]
theorem rWrd_c {L L' : zLd} (h : L.1 = L'.1) : rWrd L = rWrd L' := by funext f n T; unfold rWrd; rw [sWrd_c h]
theorem rEdt_c {L L' : zLd} (h : L.1 = L'.1) : rEdt L = rEdt L' := by funext f n T; unfold rEdt sameW; rw [rWrd_c h, sWrd_c h]
theorem rEds_c {L L' : zLd} (h : L.1 = L'.1) (f : Nat → Nat) (n : Nat) : ∀ (k : Nat) (T : zTok) (es : List zEd), rEds L f n k T es = rEds L' f n k T es
  | 0, T, es => rfl
  | k + 1, T, es => by
    unfold rEds
    rw [rEdt_c h]
    cases rEdt L' f n T with
    | inl e => rfl
    | inr q =>
      show (if isEd T = true then (if es.length = 4 then .inl (6, T.2.1) else rEds L f n k q.1 (es ++ [q.2])) else (.inr (T, es) : zRd (List zEd))) = (if isEd T = true then (if es.length = 4 then .inl (6, T.2.1) else rEds L' f n k q.1 (es ++ [q.2])) else .inr (T, es))
      rw [rEds_c h f n k]
theorem rSai_c {L L' : zLd} (h : L.1 = L'.1) (f : Nat → Nat) (n : Nat) : ∀ (k : Nat) (T : zTok) (l : List Nat), rSai L f n k T l = rSai L' f n k T l
  | 0, T, l => rfl
  | k + 1, T, l => by
    unfold rSai
    rw [sWrd_c h]
    cases sWrd L' T with
    | inl e => rfl
    | inr q =>
      show (if (decide (l.length = 0) || decide (T.1 = 2)) = true then (if l.length = 8 then .inl (6, T.2.1) else rSai L f n k (nxT f n T) (l ++ [q.2])) else (.inr (T, l) : zRd (List Nat))) = (if (decide (l.length = 0) || decide (T.1 = 2)) = true then (if l.length = 8 then .inl (6, T.2.1) else rSai L' f n k (nxT f n T) (l ++ [q.2])) else .inr (T, l))
      rw [rSai_c h f n k]
section SLIPC
variable {v : Nat} {m m' : zM} {f : Nat → Nat} {n : Nat} {T : zTok} {L : zLd}
theorem tk_rd (h : Fr tkP m m') : Fr rdC m m' := h.mono (fun b j q => Or.inl ⟨q.1, q.2.1⟩)
theorem fq_rd (h : Fr fqP m m') : Fr rdC m m' := h.mono (fun b j q => Or.inl ⟨q.1, by have := q.2; omega⟩)
theorem tk_sam (h : Fr tkP m m') : Sam m m' 2 3 := h.sam (fun b j q => by have := q.1; omega)
theorem fq_sam (h : Fr fqP m m') : Sam m m' 2 3 := h.sam (fun b j q => by have := q.1; omega)
theorem FlC.tr {m'' : zM} (h : FlC m m') (h' : FlC m' m'') : FlC m m'' := ⟨h'.1.trans h.1, h'.2.trans h.2⟩
theorem tk_fl (h : Fr tkP m m') : FlC m m' := ⟨h.i (by unfold tkP; omega), h.i (by unfold tkP; omega)⟩
theorem GdC.tk {T' : zTok} (g : GdC m f n T L) (h : Fr tkP m m') (hT : TkC m' T') : GdC m' f n T' L := ⟨g.1.tk h, hT, (tk_sam h).Ld g.2.2.1, (tk_sam h).ldV (by omega) g.2.2.2⟩
theorem GdC.fq (g : GdC m f n T L) (h : Fr fqP m m') : GdC m' f n T L := ⟨g.1.fq h, g.2.1.fq h, (fq_sam h).Ld g.2.2.1, (fq_sam h).ldV (by omega) g.2.2.2⟩
theorem GdC.dr {L' : zLd} (g : GdC m f n T L) {P : Nat → Nat → Prop} (h : Fr P m m') (hP : ∀ b j, P b j → 33 ≤ b ∧ b < 61) (hL : LdV m' 33 L') : GdC m' f n T L' := by
  have hs := h.sam hP
  refine ⟨g.1.fr h (fun q => by have := hP _ _ q; omega) (fun j q => by have := hP _ _ q; omega) (fun j q => by have := hP _ _ q; omega), ?_, hs.Ld g.2.2.1, hL⟩
  have hT := g.2.1
  unfold TkC at hT ⊢
  rw [hs.i (by omega), hs.i (by omega), hs.i (by omega), hs.l (by omega), hs.i (by omega), hs.i (by omega)]
  exact hT
theorem dr_fl {P : Nat → Nat → Prop} (h : Fr P m m') (hP : ∀ b j, P b j → 33 ≤ b ∧ b < 61) : FlC m m' := ⟨h.i (fun q => by have := hP _ _ q; omega), h.i (fun q => by have := hP _ _ q; omega)⟩
/-- a step that fails where it stands -/
theorem GdC.df (g : GdC m f n T L) : DfB m := fun i hi => by
  have h := g.2.2.2.2.2.2.2.2 i hi
  rw [show 45 + 2 * i = 33 + 12 + 2 * i by omega]
  exact h
theorem bd_out {e : Nat × Nat} {m0 : zM} (g : GdC m f n T L) (h : Fr rdC m0 m) : ∃ m', some (some (Sum.inl (0 : Int) : zV), bdC m e) = some (some (Sum.inl (0 : Int) : zV), m') ∧ Fr rdC m0 m' ∧ zi m' 2 10 = (e.1 : Int) ∧ zi m' 2 11 = (e.2 : Int) ∧ DfB m' := ⟨_, rfl, h.tr (fq_rd (bdC_fr m e)), (bdC_k m e).1, (bdC_k m e).2, (g.fq (bdC_fr m e)).df⟩
theorem c_advG (g : GdC m f n T L) (hR : TkR n T) : ∃ m', zF zP 107 v [(.inr (.inr (some 2)))] m = some (none, m') ∧ Fr tkP m m' ∧ GdC m' f n (nxT f n T) L := by
  obtain ⟨m', f1, f2, f3⟩ := c_adv (v := v) g.1 g.2.1 hR
  exact ⟨m', f1, f2, g.tk f2 f3⟩
theorem c_kindTold (T : zTok) : zF zP 116 v [.inl (kwI T.2.2.2.1)] m = some (some (.inl (edK T : Int)), m) := by
  rw [f_X5_kindTold]
  unfold edK
  have h3 : kwI T.2.2.2.1 = 3 ↔ isK T 3 = true := isK_kw (T := T) (k := 3) (by decide)
  have h6 : kwI T.2.2.2.1 = 6 ↔ isK T 6 = true := isK_kw (T := T) (k := 6) (by decide)
  by_cases c : isK T 3 = true
  · rw [if_pos (h3.mpr c), if_pos c]; rfl
  · rw [if_neg (fun w => c (h3.mp w)), if_neg c, j_X5_kindTold_7]
    by_cases c6 : isK T 6 = true
    · rw [if_pos (h6.mpr c6), if_pos c6, j_X5_kindTold_18]; rfl
    · rw [if_neg (fun w => c6 (h6.mp w)), if_neg c6, j_X5_kindTold_17, j_X5_kindTold_18]; rfl
theorem c_beginsEdit (g : GdC m f n T L) : zF zP 115 v [(.inr (.inr (some 2)))] m = some (some (.inl (b01 (isEd T))), m) := by
  have k3 := c_isKeyword (v := 0) g.1 g.2.1 (k := 3) (by decide)
  have k6 := c_isKeyword (v := 0) g.1 g.2.1 (k := 6) (by decide)
  have k7 := c_isKeyword (v := 0) g.1 g.2.1 (k := 7) (by decide)
  rw [f_X5_beginsEdit, if_pos g.1.t2]
  show zC1 (zF zP 114 0 [(.inr (.inr (some 2))), .inl ((3 : Nat) : Int)] m) _ = _
  rw [k3, zC1_s]
  unfold isEd
  by_cases c3 : isK T 3 = true
  · rw [c3, if_neg nb1, j_X5_beginsEdit_26, j_X5_beginsEdit_31, if_pos zb1]; rfl
  · rw [bool_f c3, if_pos yb0, if_pos g.1.t2, Bool.false_or]
    show zC1 (zF zP 114 0 [(.inr (.inr (some 2))), .inl ((6 : Nat) : Int)] m) _ = _
    rw [k6, zC1_s]
    by_cases c6 : isK T 6 = true
    · rw [c6, if_neg nb1, j_X5_beginsEdit_26, j_X5_beginsEdit_31, if_pos zb1]; rfl
    · rw [bool_f c6, if_pos yb0, if_pos g.1.t2, Bool.false_or]
      show zC1 (zF zP 114 0 [(.inr (.inr (some 2))), .inl ((7 : Nat) : Int)] m) _ = _
      rw [k7, zC1_s]
      by_cases c7 : isK T 7 = true
      · rw [c7, if_neg nb1, j_X5_beginsEdit_26, j_X5_beginsEdit_31, if_pos zb1]; rfl
      · rw [bool_f c7, if_pos yb0, j_X5_beginsEdit_30, j_X5_beginsEdit_31, if_pos zb0]; rfl
/-- an EDIT comes to the last LINE -/
theorem c_putEdit (g : GdC m f n T L) {i : Nat} {nu : Int} {lo : Bool} {es : List zEd} (hi : i < L.2.1.length) (hL : L.2.1.getD i ln0 = (nu, lo, es)) (h4 : es.length < 4) {k w o : Nat} {p : Bool} (hk : k < 3) (hw : w < 16) (ho : o < 16) (h1 : k = 1 → o = 0) (hp : p = (p && !decide (k = 2))) :
    ∃ m', zX zP 120 v 118 [some (.inr (.inr (some 2))), some (.inr (.inr (some 33))), some (.inr (.inr (some (33 + 12 + 2 * i)))), some (.inl (k : Int)), some (.inl (w : Int)), some (.inl (o : Int)), some (.inl (b01 p))] [] m = some (some (.inl 1), m') ∧ Fr rdC m m' ∧ GdC m' f n T (lnSet L i (nu, lo, es ++ [(k, w, o, p)])) ∧ FlC m m' := by
  have h8 := g.2.2.2.2.1.2.1
  obtain ⟨q1, q2, q3⟩ := g.2.2.2.ln g.2.2.1 hi
  rw [hL] at q3
  have he : eOk (k, w, o, p) := ⟨hk, hw, ho, fun h2 => by
    have h2' : k = 2 := h2
    show p = false
    rw [hp, decide_eq_true h2', Bool.not_true, Bool.and_false]⟩
  obtain ⟨m', f1, f2, f3⟩ := s_add (v := 0) q2 q3 h4 he
  have hfr : Fr (fun b _ => 33 + 12 + 2 * i ≤ b ∧ b < 33 + 12 + 2 * i + 2) m m' := f2.fr (fun b j z1 z2 => ⟨z1, z2⟩)
  have hP : ∀ b j, (fun b (_ : Nat) => 33 + 12 + 2 * i ≤ b ∧ b < 33 + 12 + 2 * i + 2) b j → 33 ≤ b ∧ b < 61 := fun b j z => by
    have z' : 33 + 12 + 2 * i ≤ b ∧ b < 33 + 12 + 2 * i + 2 := z
    omega
  have hpk : zF zP 71 0 [.inl (k : Int), .inl (w : Int), .inl (o : Int), .inl (b01 p)] m = some (some (.inl (epk (k, w, o, p))), m) := by
    rw [s_pack (p := p) hk hw (Or.inr ⟨o, rfl, ho⟩), ← hp]
    by_cases c : k = 1
    · rw [if_pos c, h1 c]
    · rw [if_neg c, Int.toNat_natCast]
  refine ⟨m', ?_, hfr.mono (fun b j z => by
    have z' : 33 + 12 + 2 * i ≤ b ∧ b < 33 + 12 + 2 * i + 2 := z
    exact Or.inr (Or.inr (by omega))), g.dr hfr hP (g.2.2.2.line hi (h := by
      have e : 33 + 14 + 2 * i = 33 + 12 + 2 * i + 2 := by omega
      rw [e]; exact f2) f3), dr_fl hfr hP⟩
  rw [j_X5_readsEdit_118, hpk, zC1_s, if_pos q2.1, f1, zC0_s, if_pos zb1]
end SLIPC
