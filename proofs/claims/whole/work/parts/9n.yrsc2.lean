/-! The class reads one STEP of YEARS. -/
def GyC (m : zM) (f : Nat → Nat) (n : Nat) (T : zTok) (L : zLd) : Prop := TxC m f n ∧ TkC m T ∧ LdS m 5 ∧ LdV m 5 L
def YsC (m : zM) (f : Nat → Nat) (n : Nat) (L : zLd) (A : zAc) (w : Nat) (out : Option zO) (r : zRd zSp) : Prop := match r with
  | .inl e => ∃ m', out = some (some (.inl 0), m') ∧ Fr (yw w) m m' ∧ zi m' 2 10 = (e.1 : Int) ∧ zi m' 2 11 = (e.2 : Int)
  | .inr q => ∃ m', out = some (some (.inl 1), m') ∧ Fr (yw w) m m' ∧ GyC m' f n q.1 L ∧ FlC m m' ∧ (∀ e, AyS m' (pushA A q.2 e) (if blkS q.2 = true then w + 1 else w)) ∧ (blkS q.2 = true → zi m' 44 w = (A.1.length : Int))
def sgT (T : zTok) : Prop := T.1 = 4 → T.2.2.2.2 = 59 ∨ T.2.2.2.2 = 60 ∨ T.2.2.2.2 = 62 ∨ T.2.2.2.2 = 61
section YRSC2
variable {v : Nat} {m m' m0 : zM} {f : Nat → Nat} {n : Nat} {T : zTok} {L : zLd} {A : zAc} {w : Nat}
theorem sgT_tok (f : Nat → Nat) (n p : Nat) : sgT (tokAt f n p) := by
  unfold sgT tokAt tokB
  generalize runF blk f (n - p) p = a
  by_cases h1 : a < n
  · rw [if_pos h1]
    by_cases h2 : ltr (f a) = true
    · rw [if_pos h2]; intro h; have h' : (2 : Nat) = 4 := h; omega
    · rw [if_neg h2]
      by_cases h3 : dgt (f a) = true
      · rw [if_pos h3]
        intro h
        exfalso
        have h' : (if runF dgt f (n - a) a - a ≤ 4 then 3 else 1) = 4 := h
        split at h' <;> omega
      · rw [if_neg h3]
        intro h
        have h' : (if sgn (f a) = true then 4 else 1) = 4 := h
        by_cases h4 : sgn (f a) = true
        · unfold sgn at h4
          rw [Bool.or_eq_true, Bool.or_eq_true, Bool.or_eq_true] at h4
          show f a = 59 ∨ f a = 60 ∨ f a = 62 ∨ f a = 61
          rcases h4 with z | z | z | z
          · exact Or.inl (of_decide_eq_true z)
          · exact Or.inr (Or.inl (of_decide_eq_true z))
          · exact Or.inr (Or.inr (Or.inl (of_decide_eq_true z)))
          · exact Or.inr (Or.inr (Or.inr (of_decide_eq_true z)))
        · rw [if_neg h4] at h'; omega
  · rw [if_neg h1]; intro h; have h' : (0 : Nat) = 4 := h; omega
theorem rPrs_nx {q : zTok × Nat} (h : rPrs L f n T = .inr q) : q.1 = nxT f n T := by
  unfold rPrs at h
  split at h
  · split at h
    · cases h
    · have e := Sum.inr.inj h
      rw [← e]
  · cases h
theorem isCm_iff (h : sgT T) : isCm T = true ↔ (T.1 = 4 ∧ T.2.2.2.2 ≠ 59) := by
  unfold isCm isS
  constructor
  · intro c
    rw [Bool.or_eq_true, Bool.or_eq_true, Bool.and_eq_true, Bool.and_eq_true, Bool.and_eq_true] at c
    rcases c with z | z | z
    · have z2 := of_decide_eq_true z.2
      exact ⟨of_decide_eq_true z.1, by omega⟩
    · have z2 := of_decide_eq_true z.2
      exact ⟨of_decide_eq_true z.1, by omega⟩
    · have z2 := of_decide_eq_true z.2
      exact ⟨of_decide_eq_true z.1, by omega⟩
  · rintro ⟨c1, c2⟩
    rw [decide_eq_true c1, Bool.true_and, Bool.true_and, Bool.true_and]
    rcases h c1 with z | z | z | z
    · exact absurd z c2
    · rw [decide_eq_true z]; rfl
    · rw [decide_eq_true z, Bool.true_or, Bool.or_true]
    · rw [decide_eq_true z, Bool.or_true, Bool.or_true]
theorem tk_yw (h : Fr tkP m m') : Fr (yw w) m m' := h.mono (fun b j q => Or.inl ⟨q.1, q.2.1⟩)
theorem fq_yw (h : Fr fqP m m') : Fr (yw w) m m' := h.mono (fun b j q => Or.inl ⟨q.1, by have := q.2; omega⟩)
theorem GyC.tk {T' : zTok} (g : GyC m f n T L) (h : Fr tkP m m') (hT : TkC m' T') : GyC m' f n T' L := ⟨g.1.tk h, hT, (tk_sam h).Ld g.2.2.1, (tk_sam h).ldV (by omega) g.2.2.2⟩
theorem GyC.yr {P : Nat → Nat → Prop} (g : GyC m f n T L) (h : Fr P m m') (hP : ∀ b j, P b j → 41 ≤ b ∧ b < 45) : GyC m' f n T L := by
  have hs := h.sam hP
  refine ⟨g.1.fr h (fun q => by have := hP _ _ q; omega) (fun j q => by have := hP _ _ q; omega) (fun j q => by have := hP _ _ q; omega), ?_, hs.Ld g.2.2.1, hs.ldV (by omega) g.2.2.2⟩
  have hT := g.2.1
  unfold TkC at hT ⊢
  rw [hs.i (by omega), hs.i (by omega), hs.i (by omega), hs.l (by omega), hs.i (by omega), hs.i (by omega)]
  exact hT
theorem AyS.tk (a : AyS m A w) (h : Fr tkP m m') : AyS m' A w := by
  have hs := tk_sam h
  obtain ⟨a1, a2, a3, a4, a5⟩ := a
  unfold AyS
  rw [hs.i (by omega), hs.i (by omega), hs.i (by omega)]
  exact ⟨hs.Yr a1, a2, a3, a4, fun i hi => by rw [hs.i (by omega), hs.i (by omega)]; exact a5 i hi⟩
theorem ys_bad (h : Fr (yw w) m0 m) (e : Nat × Nat) : YsC m0 f n L A w (some (some (.inl 0), bdC m e)) (.inl e) := ⟨_, rfl, h.tr (fq_yw (bdC_fr m e)), (bdC_k m e).1, (bdC_k m e).2⟩
theorem YsC.pre {o : Option zO} {r : zRd zSp} (h : Fr tkP m0 m) (hy : YsC m f n L A w o r) : YsC m0 f n L A w o r := by
  cases r with
  | inl e =>
    obtain ⟨m', z1, z2, z3⟩ := hy
    exact ⟨m', z1, (tk_yw h).tr z2, z3⟩
  | inr q =>
    obtain ⟨m', z1, z2, z3, z4, z5⟩ := hy
    exact ⟨m', z1, (tk_yw h).tr z2, z3, (tk_fl h).tr z4, z5⟩
theorem YsC.wrap {o : Option zO} {r : zRd zSp} (hy : YsC m0 f n L A w o r) : YsC m0 f n L A w (zC1 o (fun c m1 => if zb c = true then some (some (.inl c), m1) else none)) r := by
  cases r with
  | inl e =>
    obtain ⟨m', z1, z2⟩ := hy
    exact ⟨m', by rw [z1, zC1_s, if_pos zb0], z2⟩
  | inr q =>
    obtain ⟨m', z1, z2⟩ := hy
    exact ⟨m', by rw [z1, zC1_s, if_pos zb1], z2⟩
theorem ys_add (g : GyC m f n T L) (a : AyS m A w) (hW : WfA A w) (h30 : nst A ≠ 30) {x : zSp} (ho : oOk x.1) (hb : blkS x = false) : ∃ m', zF zP 150 v [(.inr (.inr (some 41))), .inl (x.1.1 : Int), .inl (x.1.2.1 : Int), .inl (x.1.2.2.1 : Int), .inl (x.1.2.2.2 : Int)] m = some (some (.inl 1), m') ∧ YsC m f n L A w (some (some (.inl 1), m')) (.inr (T, x)) := by
  have key : ∀ e, ∃ m', zF zP 150 v [(.inr (.inr (some 41))), .inl (x.1.1 : Int), .inl (x.1.2.1 : Int), .inl (x.1.2.2.1 : Int), .inl (x.1.2.2.2 : Int)] m = some (some (.inl 1), m') ∧ Fr (fun b _ => 41 ≤ b ∧ b < 43) m m' ∧ AyS m' (pushA A x e) w := fun e => y_step a hW h30 ho e
  obtain ⟨m', k1, k2, _⟩ := key 0
  have hP : ∀ b j : Nat, (fun (b _ : Nat) => 41 ≤ b ∧ b < 43) b j → 41 ≤ b ∧ b < 45 := fun b j z => by
    have z' : 41 ≤ b ∧ b < 43 := z
    omega
  refine ⟨m', k1, m', rfl, k2.mono (fun b j z => by
    have z' : 41 ≤ b ∧ b < 43 := z
    exact Or.inr (Or.inl (by omega))), g.yr k2 hP, ⟨k2.i (by omega), k2.i (by omega)⟩, fun e => ?_, fun h => ?_⟩
  · obtain ⟨m2, q1, _, q3⟩ := key e
    have e2 : m2 = m' := by
      rw [k1] at q1
      injection q1 with q1
      injection q1 with _ q1
      exact q1.symm
    rw [hb, ← e2, if_neg (by decide)]; exact q3
  · have h' : blkS x = true := h
    rw [hb] at h'; cases h'
theorem ys_beg (g : GyC m f n T L) (a : AyS m A w) (hW : WfA A w) (h30 : nst A ≠ 30) (hw : w < 3) {x : zSp} (ho : oOk x.1) (hb : blkS x = true) : ∃ m', zF zP 151 v [(.inr (.inr (some 41))), .inl (x.1.1 : Int), .inl (x.1.2.1 : Int), .inl (x.1.2.2.1 : Int), .inl (x.1.2.2.2 : Int)] m = some (some (.inl 1), m') ∧ YsC m f n L A w (some (some (.inl 1), m')) (.inr (T, x)) := by
  have key : ∀ e, ∃ m', zF zP 151 v [(.inr (.inr (some 41))), .inl (x.1.1 : Int), .inl (x.1.2.1 : Int), .inl (x.1.2.2.1 : Int), .inl (x.1.2.2.2 : Int)] m = some (some (.inl 1), m') ∧ Fr (fun b j => (41 ≤ b ∧ b < 43) ∨ (b = 44 ∧ w ≤ j)) m m' ∧ AyS m' (pushA A x e) (w + 1) ∧ zi m' 44 w = (A.1.length : Int) := fun e => y_begin a hW h30 hw ho e
  obtain ⟨m', k1, k2, _, k4⟩ := key 0
  have hP : ∀ b j : Nat, (fun (b j : Nat) => (41 ≤ b ∧ b < 43) ∨ (b = 44 ∧ w ≤ j)) b j → 41 ≤ b ∧ b < 45 := fun b j z => by
    have z' : (41 ≤ b ∧ b < 43) ∨ (b = 44 ∧ w ≤ j) := z
    omega
  refine ⟨m', k1, m', rfl, k2.mono (fun b j z => by
    have z' : (41 ≤ b ∧ b < 43) ∨ (b = 44 ∧ w ≤ j) := z
    unfold yw; omega), g.yr k2 hP, ⟨k2.i (by omega), k2.i (by omega)⟩, fun e => ?_, fun h => k4⟩
  obtain ⟨m2, q1, _, q3, _⟩ := key e
  have e2 : m2 = m' := by
    rw [k1] at q1
    injection q1 with q1
    injection q1 with _ q1
    exact q1.symm
  rw [hb, ← e2, if_pos rfl]; exact q3
theorem c_ytest (g : GyC m f n T L) (hR : TkR n T) (a : AyS m A w) (hW : WfA A w) (h30 : nst A ≠ 30) (hw : w < 3) : YsC m f n L A w (zF zP 156 v [(.inr (.inr (some 2))), (.inr (.inr (some 5))), (.inr (.inr (some 41)))] m) (rTst L f n T) := by
  have hN : L.1.length ≤ 8 := g.2.2.2.1.2.1
  have hN2 : L.2.1.length ≤ 8 := g.2.2.2.2.1.2.1
  have hN3 : L.2.2.1.length ≤ 6 := g.2.2.2.2.2.1.2.1
  have hok : ∀ {x : zSp}, gSp L.2.2.1.length L.2.1.length L.1.length x → oOk x.1 := fun h => gSp_ok h hN3 hN2 hN
  have hall : ∀ q, rTst L f n T = .inr q → oOk q.2.1 ∧ blkS q.2 = true := fun q h => ⟨hok (rTst_g h).1, (rTst_g h).2⟩
  have hkw : zi m 2 7 = kwI T.2.2.2.1 := g.2.1.2.2.2.2.1
  obtain ⟨m1, f1, f2, f3⟩ := c_adv (v := 0) g.1 g.2.1 hR
  have g1 := g.tk f2 f3
  have a1 := a.tk f2
  have hR1 : TkR n (nxT f n T) := nxT_R hR
  rw [f_X9_readsTest, if_pos g.1.t2, hkw]
  unfold rTst at hall ⊢
  by_cases c1 : isK T 18 = true
  · have k1 : kwI T.2.2.2.1 = 18 := (isK_kw (k := 18) (by decide)).mpr c1
    rw [if_pos c1] at hall
    rw [k1, if_pos rfl, if_pos c1, j_X9_readsTest_28, if_pos g.1.t2, f1, zC0_s, if_pos rfl, if_pos g1.1.t2]
    refine YsC.pre f2 ?_
    have wl := c_lin (v := 0) g1.1 g1.2.1 hR1 g1.2.2.1 g1.2.2.2
    cases e1 : rLin L f n (nxT f n T) with
    | inl e =>
      rw [e1] at wl
      have wl' : zF zP 122 0 [(.inr (.inr (some 2))), (.inr (.inr (some 5)))] m1 = some (some (.inl (-1)), bdC m1 e) := wl
      rw [wl', zC1_s, if_pos rfl, j_X9_readsTest_67, j_X9_readsTest_68, if_pos zb0]
      exact ys_bad (Fr.rf _ _) e
    | inr q =>
      rw [e1] at wl hall
      obtain ⟨m2, b1, b2, b3⟩ := wl
      have b1' : zF zP 122 0 [(.inr (.inr (some 2))), (.inr (.inr (some 5)))] m1 = some (some (.inl (q.2 : Int)), m2) := b1
      obtain ⟨o1, o2⟩ := hall _ rfl
      have g2 := g1.tk b2 b3
      have a2 := a1.tk b2
      obtain ⟨m3, d1, d2⟩ := ys_beg (v := 0) g2 a2 hW h30 hw o1 o2
      have d1' : zF zP 151 0 [(.inr (.inr (some 41))), .inl 18, .inl (q.2 : Int), .inl 0, .inl 0] m2 = some (some (.inl 1), m3) := d1
      rw [b1', zC1_s, if_neg (by omega), if_pos a2.1.1, d1', zC1_s, if_neg (by decide), j_X9_readsTest_68, if_pos zb1]
      exact YsC.pre b2 d2
  · have k1 : ¬ kwI T.2.2.2.1 = 18 := fun w => c1 ((isK_kw (k := 18) (by decide)).mp w)
    rw [if_neg c1] at hall
    rw [if_neg k1, if_neg c1]
    -- a PERSON
    have per : ∀ (k : Nat), (k = 19 ∨ k = 20) → (∀ q, rPrs L f n (nxT f n T) = .inr q → ∀ m2, Fr tkP m1 m2 → GyC m2 f n q.1 L → AyS m2 A w → TkR n q.1 → YsC m2 f n L A w (zX zP 156 v 84 [some (.inr (.inr (some 2))), some (.inr (.inr (some 5))), some (.inr (.inr (some 41))), some (.inl (k : Int)), some (.inl (q.2 : Int)), none, none] [] m2) (if k = 20 then (match rWrd L f n q.1 with
        | .inl e => .inl e
        | .inr q2 => .inr (q2.1, ((20, q.2, q2.2, 0), (5, (q.2 : Int), (q2.2 : Int), 1, -7)))) else (if isCm q.1 = true then (match rNum f n (nxT f n q.1) 0 8 with
        | .inl e => .inl e
        | .inr q2 => .inr (q2.1, ((19, q.2, q.1.2.2.2.2, q2.2), (5, (q.2 : Int), (q2.2 : Int), 2, (q.1.2.2.2.2 : Int))))) else .inl (kMis q.1)))) →
        YsC m f n L A w (zX zP 156 v 28 [some (.inr (.inr (some 2))), some (.inr (.inr (some 5))), some (.inr (.inr (some 41))), some (.inl (k : Int)), none, none, none] [] m) (match rPrs L f n (nxT f n T) with
          | .inl e => .inl e
          | .inr q => if k = 20 then (match rWrd L f n q.1 with
        | .inl e => .inl e
        | .inr q2 => .inr (q2.1, ((20, q.2, q2.2, 0), (5, (q.2 : Int), (q2.2 : Int), 1, -7)))) else (if isCm q.1 = true then (match rNum f n (nxT f n q.1) 0 8 with
        | .inl e => .inl e
        | .inr q2 => .inr (q2.1, ((19, q.2, q.1.2.2.2.2, q2.2), (5, (q.2 : Int), (q2.2 : Int), 2, (q.1.2.2.2.2 : Int))))) else .inl (kMis q.1))) := by
      intro k hk hq
      rw [j_X9_readsTest_28, if_pos g.1.t2, f1, zC0_s, if_neg (by omega), j_X9_readsTest_69, if_pos g1.1.t2]
      refine YsC.pre f2 ?_
      have wl := c_prs (v := 0) g1.1 g1.2.1 hR1 g1.2.2.1 g1.2.2.2
      cases e1 : rPrs L f n (nxT f n T) with
      | inl e =>
        rw [e1] at wl
        have wl' : zF zP 139 0 [(.inr (.inr (some 2))), (.inr (.inr (some 5)))] m1 = some (some (.inl (-1)), bdC m1 e) := wl
        rw [wl', zC1_s, if_pos rfl, if_pos zb0]
        exact ys_bad (Fr.rf _ _) e
      | inr q =>
        rw [e1] at wl
        obtain ⟨m2, b1, b2, b3⟩ := wl
        have b1' : zF zP 139 0 [(.inr (.inr (some 2))), (.inr (.inr (some 5)))] m1 = some (some (.inl (q.2 : Int)), m2) := b1
        rw [b1', zC1_s, if_neg (by omega)]
        exact YsC.pre b2 (hq q e1 m2 b2 (g1.tk b2 b3) (a1.tk b2) (pg_prs hR1 q e1).1)
    by_cases c2 : isK T 20 = true
    · have k2 : kwI T.2.2.2.1 = 20 := (isK_kw (k := 20) (by decide)).mpr c2
      rw [if_pos c2] at hall
      rw [k2, if_pos rfl, if_pos c2]
      have p := per 20 (Or.inr rfl) (fun q e1 m2 b2 g2 a2 hR2 => by
        rw [e1] at hall
        rw [j_X9_readsTest_84, if_pos rfl, if_pos (show ((20 : Nat) : Int) = 20 from rfl), if_pos g2.1.t2]
        have wl := c_wrd (v := 0) g2.1 g2.2.1 hR2 g2.2.2.1 g2.2.2.2
        cases e2 : rWrd L f n q.1 with
        | inl e =>
          rw [e2] at wl
          have wl' : zF zP 118 0 [(.inr (.inr (some 2))), (.inr (.inr (some 5)))] m2 = some (some (.inl (-1)), bdC m2 e) := wl
          rw [wl', zC1_s, if_pos rfl, j_X9_readsTest_120, j_X9_readsTest_121, if_pos zb0]
          exact ys_bad (Fr.rf _ _) e
        | inr q2 =>
          rw [e2] at wl
          obtain ⟨m3, b1, b4, b5⟩ := wl
          have b1' : zF zP 118 0 [(.inr (.inr (some 2))), (.inr (.inr (some 5)))] m2 = some (some (.inl (q2.2 : Int)), m3) := b1
          have hal := hall (q2.1, ((20, q.2, q2.2, 0), (5, (q.2 : Int), (q2.2 : Int), 1, -7))) (by
            show (match rWrd L f n q.1 with
              | .inl e => .inl e
              | .inr q2 => .inr (q2.1, ((20, q.2, q2.2, 0), (5, (q.2 : Int), (q2.2 : Int), 1, -7))) : zRd zSp) = _
            rw [e2])
          have g3 := g2.tk b4 b5
          have a3 := a2.tk b4
          obtain ⟨m4, d1, d2⟩ := ys_beg (v := 0) g3 a3 hW h30 hw hal.1 hal.2
          have d1' : zF zP 151 0 [(.inr (.inr (some 41))), .inl 20, .inl (q.2 : Int), .inl (q2.2 : Int), .inl 0] m3 = some (some (.inl 1), m4) := d1
          rw [b1', zC1_s, if_neg (by omega), if_pos a3.1.1]
          show YsC m2 f n L A w (zC1 (zF zP 151 0 [(.inr (.inr (some 41))), .inl 20, .inl (q.2 : Int), .inl (q2.2 : Int), .inl 0] m3) _) _
          rw [d1', zC1_s, if_neg (by decide), j_X9_readsTest_121, if_pos zb1]
          exact YsC.pre b4 d2)
      exact p
    · have k2 : ¬ kwI T.2.2.2.1 = 20 := fun w => c2 ((isK_kw (k := 20) (by decide)).mp w)
      rw [if_neg c2] at hall
      rw [if_neg k2, if_neg c2]
      by_cases c3 : isK T 19 = true
      · have k3 : kwI T.2.2.2.1 = 19 := (isK_kw (k := 19) (by decide)).mpr c3
        rw [if_pos c3] at hall
        rw [k3, if_pos rfl, if_pos c3]
        have p := per 19 (Or.inl rfl) (fun q e1 m2 b2 g2 a2 hR2 => by
          rw [e1] at hall
          have hsg : sgT q.1 := by rw [rPrs_nx e1]; exact sgT_tok _ _ _
          rw [j_X9_readsTest_84, if_neg (by decide), if_neg (by decide), j_X9_readsTest_122, if_pos g2.1.t2, if_pos g2.1.t2, g2.2.1.1, g2.2.1.2.2.2.2.2]
          have mis : ¬ isCm q.1 = true → YsC m2 f n L A w (zX zP 156 v 143 [some (.inr (.inr (some 2))), some (.inr (.inr (some 5))), some (.inr (.inr (some 41))), some (.inl ((19 : Nat) : Int)), some (.inl (q.2 : Int)), some (.inl (q.1.2.2.2.2 : Int)), none] [] m2) (if isCm q.1 = true then (match rNum f n (nxT f n q.1) 0 8 with
            | .inl e => .inl e
            | .inr q2 => .inr (q2.1, ((19, q.2, q.1.2.2.2.2, q2.2), (5, (q.2 : Int), (q2.2 : Int), 2, (q.1.2.2.2.2 : Int))))) else .inl (kMis q.1)) := fun hc => by
            rw [j_X9_readsTest_143, if_pos g2.1.t2, c_misplaced g2.1 g2.2.1, zC1_s, if_pos zb0, if_neg hc]
            exact ys_bad (Fr.rf _ _) _
          by_cases d4 : q.1.1 = 4
          · rw [if_pos (by omega)]
            by_cases d5 : q.1.2.2.2.2 = 59
            · rw [if_pos (by omega)]
              exact mis (fun hc => ((isCm_iff hsg).mp hc).2 d5)
            · have hcm : isCm q.1 = true := (isCm_iff hsg).mpr ⟨d4, d5⟩
              obtain ⟨m3, h1, h2, h3⟩ := c_adv (v := 0) g2.1 g2.2.1 hR2
              have g3 := g2.tk h2 h3
              have a3 := a2.tk h2
              rw [if_neg (by omega), if_pos hcm, j_X9_readsTest_148, if_pos g2.1.t2, h1, zC0_s, if_pos g3.1.t2]
              refine YsC.pre h2 ?_
              have wl := c_num (v := 0) g3.1 g3.2.1 (nxT_R hR2) 0 8
              cases e2 : rNum f n (nxT f n q.1) 0 8 with
              | inl e =>
                rw [e2] at wl
                have wl' : zF zP 109 0 [(.inr (.inr (some 2))), .inl 0, .inl 8] m3 = some (some (.inl (-1)), bdC m3 e) := wl
                rw [wl', zC1_s, if_pos rfl, j_X9_readsTest_185, j_X9_readsTest_186, if_pos zb0]
                exact ys_bad (Fr.rf _ _) e
              | inr q2 =>
                rw [e2] at wl
                obtain ⟨m4, b1, b4, b5⟩ := wl
                have b1' : zF zP 109 0 [(.inr (.inr (some 2))), .inl 0, .inl 8] m3 = some (some (.inl (q2.2 : Int)), m4) := b1
                have hal := hall (q2.1, ((19, q.2, q.1.2.2.2.2, q2.2), (5, (q.2 : Int), (q2.2 : Int), 2, (q.1.2.2.2.2 : Int)))) (by
                  show (if isCm q.1 = true then (match rNum f n (nxT f n q.1) 0 8 with
                    | .inl e => .inl e
                    | .inr q2 => .inr (q2.1, ((19, q.2, q.1.2.2.2.2, q2.2), (5, (q.2 : Int), (q2.2 : Int), 2, (q.1.2.2.2.2 : Int))))) else .inl (kMis q.1) : zRd zSp) = _
                  rw [if_pos hcm, e2])
                have g4 := g3.tk b4 b5
                have a4 := a3.tk b4
                obtain ⟨m5, d1, d2⟩ := ys_beg (v := 0) g4 a4 hW h30 hw hal.1 hal.2
                have d1' : zF zP 151 0 [(.inr (.inr (some 41))), .inl ((19 : Nat) : Int), .inl (q.2 : Int), .inl (q.1.2.2.2.2 : Int), .inl (q2.2 : Int)] m4 = some (some (.inl 1), m5) := d1
                rw [b1', zC1_s, if_neg (by omega), if_pos a4.1.1, d1', zC1_s, if_neg (by decide), j_X9_readsTest_186, if_pos zb1]
                exact YsC.pre b4 d2
          · rw [if_neg (by omega)]
            exact mis (fun hc => d4 ((isCm_iff hsg).mp hc).1))
        exact p
      · have k3 : ¬ kwI T.2.2.2.1 = 19 := fun w => c3 ((isK_kw (k := 19) (by decide)).mp w)
        rw [if_neg k3, if_neg c3, if_pos g.1.t2, c_misplaced g.1 g.2.1, zC1_s, if_pos zb0]
        exact ys_bad (Fr.rf _ _) _
end YRSC2
