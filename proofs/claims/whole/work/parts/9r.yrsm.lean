/-! The reference reads YEARS: a test. -/
def ymP (b j : Nat) : Prop := (b = 0 ∧ 12 ≤ j ∧ j ≤ 19) ∨ (b = 0 ∧ j = 25) ∨ (b = 5 ∧ 2175 ≤ j)
def ycP (c0 b j : Nat) : Prop := tmP b j ∨ (b = 5 ∧ c0 + 1 ≤ j ∧ j < c0 + 8)
def cellOk (m : zM) (c0 : Nat) (x : zCe) : Prop := ∀ j, 1 ≤ j → j < 8 → (c9 x 0).getD j 0 = -7 ∨ zi m 5 (c0 + j) = (c9 x 0).getD j 0
def YrM (m : zM) (f : Nat → Nat) (n : Nat) (c0 : Nat) (out : Option zO) (r : zRd zSp) : Prop := match r with
  | .inl e => ∃ m', out = some (none, m') ∧ Fr ymP m m' ∧ BdM m' f n e
  | .inr q => ∃ m', out = some (none, m') ∧ Fr (ycP c0) m m' ∧ GdM m' f n q.1 ∧ cellOk m' c0 q.2.2
section YRSM
variable {v : Nat} {m m' m0 : zM} {f : Nat → Nat} {n : Nat} {T : zTok} {L : zLd} {e : Nat × Nat}
theorem tm_ym (h : Fr tmP m m') : Fr ymP m m' := h.mono (fun b j q => by unfold tmP at q; unfold ymP; omega)
theorem fl_ym (h : Fr flP m m') : Fr ymP m m' := h.mono (fun b j q => by unfold flP at q; unfold ymP; omega)
theorem yc_ym {c0 : Nat} (h : Fr (ycP c0) m m') (hc : 2175 ≤ c0) : Fr ymP m m' := h.mono (fun b j q => by unfold ycP tmP at q; unfold ymP; omega)
theorem tm_yc {c0 : Nat} (h : Fr tmP m m') : Fr (ycP c0) m m' := h.mono (fun b j q => Or.inl q)
theorem NmV.ym (hN : NmV m 0 L) (h : Fr ymP m m') : NmV m' 0 L := hN.fr h (fun j _ hj => by unfold ymP; omega) (fun j => by unfold ymP; omega)
def at5 (p b j : Nat) : Prop := b = 5 ∧ j = p
theorem at_wr {p : Nat} (hp : 1956 ≤ p) (h : Fr (at5 p) m m') : Fr wrP m m' := h.mono (fun b j q => Or.inl ⟨q.1, by have := q.2; omega⟩)
theorem at_ym {p : Nat} (hp : 2175 ≤ p) (h : Fr (at5 p) m m') : Fr ymP m m' := h.mono (fun b j q => by unfold at5 at q; unfold ymP; omega)
theorem at_yc {p c0 : Nat} (h1 : c0 + 1 ≤ p) (h2 : p < c0 + 8) (h : Fr (at5 p) m m') : Fr (ycP c0) m m' := h.mono (fun b j q => by unfold at5 at q; unfold ycP; omega)
/-- a read one is kept in a place -/
theorem m_into (g : GdM m f n T) {α : Type} {o : Option zO} {val : α → Int} {r : zRd α} (h : RdM m f n o val r) {p : Nat} (hp : 2175 ≤ p) (hp2 : p < 2445) {z : Int} (hz : z = (p : Int)) (K : zM → Option zO) :
    (∀ e, r = .inl e → ∃ m2, zC1 o (fun c m2 => if zA m2 5 9 z = true then K (zwi m2 5 (Int.toNat z) c) else none) = K m2 ∧ Fr ymP m m2 ∧ BdM m2 f n e) ∧
    (∀ q, r = .inr q → ∃ m1 m2, zC1 o (fun c m2 => if zA m2 5 9 z = true then K (zwi m2 5 (Int.toNat z) c) else none) = K m2 ∧ Fr tmP m m1 ∧ Fr (at5 p) m1 m2 ∧ GdM m2 f n q.1 ∧ zi m2 5 p = val q.2) := by
  subst hz
  refine ⟨fun e he => ?_, fun q hq => ?_⟩
  · rw [he] at h
    obtain ⟨h1, h2⟩ := h
    have b := g.bd h2
    have hw : Fr (at5 p) (bdM m e) (zwi (bdM m e) 5 p 0) := Fr.wi _ _ ⟨rfl, rfl⟩
    refine ⟨_, ?_, (fl_ym (bdM_fr m e)).tr (at_ym hp hw), b.wr (at_wr (by omega) hw)⟩
    rw [h1, zC1_s, if_pos (A5 b.1.1 (by omega) (by omega)), Int.toNat_natCast]
  · rw [hq] at h
    obtain ⟨m1, h1, h2, h3⟩ := h
    have hw : Fr (at5 p) m1 (zwi m1 5 p (val q.2)) := Fr.wi m1 _ ⟨rfl, rfl⟩
    refine ⟨m1, _, ?_, h2, hw, h3.wr (at_wr (by omega) hw), zi_wi_s _ _ _ _⟩
    rw [h1, zC1_s, if_pos (A5 h3.1.1 (by omega) (by omega)), Int.toNat_natCast]
theorem m_intoB (b : BdM m f n e) {o : Option zO} (h : o = some (some (.inl 0), m)) {p : Nat} (hp : 2175 ≤ p) (hp2 : p < 2445) {z : Int} (hz : z = (p : Int)) (K : zM → Option zO) :
    ∃ m2, zC1 o (fun c m2 => if zA m2 5 9 z = true then K (zwi m2 5 (Int.toNat z) c) else none) = K m2 ∧ Fr ymP m m2 ∧ BdM m2 f n e := by
  subst hz
  have hw : Fr (at5 p) m (zwi m 5 p 0) := Fr.wi _ _ ⟨rfl, rfl⟩
  refine ⟨_, ?_, at_ym hp hw, b.wr (at_wr (by omega) hw)⟩
  rw [h, zC1_s, if_pos (A5 b.1.1 (by omega) (by omega)), Int.toNat_natCast]
theorem BdM.np (b : BdM m f n e) : 0 < zi m 0 12 ∧ ¬ zi m 0 12 = 0 := by
  have := b.2.2.2
  rw [b.2.1]; omega
theorem c9_0 (x : zCe) (e e' : Int) {j : Nat} (hj : j < 8) : (c9 x e).getD j 0 = (c9 x e').getD j 0 := by
  rcases j with _ | _ | _ | _ | _ | _ | _ | _ | j
  all_goals first | rfl | omega
theorem m_te89B (b : BdM m f n e) {x1 x2 : Int} : zX zP 304 v 89 [some (.inr (.inr (some 0))), some (.inl x1), some (.inl x2)] [] m = some (none, m) := by
  rw [j_X11_readTest_89, if_pos b.1.t, if_pos b.np.1, j_X11_readTest_101]
theorem m_te89G (g : GdM m f n T) {x1 x2 : Int} (h : x2 ≠ 2) : zX zP 304 v 89 [some (.inr (.inr (some 0))), some (.inl x1), some (.inl x2)] [] m = some (none, m) := by
  rw [j_X11_readTest_89, if_pos g.1.t, g.2.2.2, if_neg (by decide), if_neg h, j_X11_readTest_101]
theorem m_test (g : GdM m f n T) (hR : TkR n T) (hN : NmV m 0 L) {c0 : Nat} (hc : 2175 ≤ c0) (hc2 : c0 + 9 ≤ 2445) : YrM m f n c0 (zF zP 304 v [(.inr (.inr (some 0))), .inl (c0 : Int)] m) (rTst L f n T) := by
  have ea : ∀ k : Nat, k < 9 → zadd (c0 : Int) (k : Int) = ((c0 + k : Nat) : Int) := fun k hk => zadd_nat (by omega)
  have ea1 : zadd (c0 : Int) 1 = ((c0 + 1 : Nat) : Int) := ea 1 (by decide)
  have ea2 : zadd (c0 : Int) 2 = ((c0 + 2 : Nat) : Int) := ea 2 (by decide)
  have ea6 : zadd (c0 : Int) 6 = ((c0 + 6 : Nat) : Int) := ea 6 (by decide)
  have ea7 : zadd (c0 : Int) 7 = ((c0 + 7 : Nat) : Int) := ea 7 (by decide)
  have st : zF zP 304 v [(.inr (.inr (some 0))), .inl (c0 : Int)] m = zX zP 304 v 15 [some (.inr (.inr (some 0))), some (.inl (c0 : Int)), some (.inl (teW T))] [.inl (b01 (!decide (teW T < 0))), (.inr (.inr (some 0)))] m := by
    rw [f_X11_readTest, if_pos g.1.t, m_testWord g, zC1_s]
    by_cases c : teW T < 0
    · rw [if_pos c, j_X11_readTest_14, decide_eq_true c]; rfl
    · rw [if_neg c, decide_eq_false c]; rfl
  rw [st, j_X11_readTest_15, if_pos g.1.t]
  by_cases c : teW T < 0
  · obtain ⟨k18, k20, k19⟩ := teW_lt.mp c
    have bp := kMis_pos T
    have b := g.bd (e := kMis T) bp
    have mf : zF zP 280 0 [(.inr (.inr (some 0))), .inl (b01 (!decide (teW T < 0)))] m = some (none, bdM m (kMis T)) := by rw [decide_eq_true c]; exact m_mustF g
    have hw : Fr (at5 (c0 + 6)) (bdM m (kMis T)) (zwi (bdM m (kMis T)) 5 (c0 + 6) (teW T)) := Fr.wi _ _ ⟨rfl, rfl⟩
    have b2 := b.wr (at_wr (by omega) hw)
    have er : rTst L f n T = .inl (kMis T) := by unfold rTst; rw [k18, k20, k19]; rfl
    rw [er, mf, zC0_s, if_pos b.1.t, b.1.1.2.1.2.1.1, obind, ea6, if_pos (A5 b.1.1 (by omega) (by omega)), Int.toNat_natCast, if_pos b2.1.t, if_pos b2.np.1]
    exact ⟨_, rfl, (fl_ym (bdM_fr m _)).tr (at_ym (by omega) hw), b2⟩
  · obtain ⟨m1, d1, d2, g1⟩ := m_mustT (v := 0) g hR
    have mt : zF zP 280 0 [(.inr (.inr (some 0))), .inl (b01 (!decide (teW T < 0)))] m = some (none, m1) := by rw [decide_eq_false c]; exact d1
    have hw : Fr (at5 (c0 + 6)) m1 (zwi m1 5 (c0 + 6) (teW T)) := Fr.wi _ _ ⟨rfl, rfl⟩
    have g2 := g1.wr (at_wr (by omega) hw)
    have c6 : zi (zwi m1 5 (c0 + 6) (teW T)) 5 (c0 + 6) = teW T := zi_wi_s _ _ _ _
    rw [mt, zC0_s, if_pos g1.1.t, g1.1.1.2.1.2.1.1, obind, ea6, if_pos (A5 g1.1.1 (by omega) (by omega)), Int.toNat_natCast, if_pos g2.1.t, g2.2.2.2, if_neg (by decide)]
    have f2 : Fr (ycP c0) m (zwi m1 5 (c0 + 6) (teW T)) := (tm_yc d2).tr (at_yc (by omega) (by omega) hw)
    have hR1 : TkR n (nxT f n T) := nxT_R hR
    have N2 := (hN.ym (yc_ym f2 hc))
    generalize zwi m1 5 (c0 + 6) (teW T) = m2 at g2 c6 f2 N2 ⊢
    have r5 : zr m2 0 20 = some 5 := g2.1.1.2.1.2.1.1
    unfold rTst
    by_cases k18 : isK T 18 = true
    · have ht : teW T = 0 := by unfold teW; rw [if_pos k18]
      rw [ht] at c6 ⊢
      have wl := m_rLin (v := 0) g2 hR1 (b := 0) (by decide) N2
      obtain ⟨i1, i2⟩ := m_into g2 wl (p := c0 + 1) (by omega) (by omega) ea1 (fun m => zX zP 304 v 70 [some (.inr (.inr (some 0))), some (.inl (c0 : Int)), some (.inl 0)] [] m)
      have s70 : ∀ mm, zX zP 304 v 70 [some (.inr (.inr (some 0))), some (.inl (c0 : Int)), some (.inl 0)] [] mm = zX zP 304 v 89 [some (.inr (.inr (some 0))), some (.inl (c0 : Int)), some (.inl 0)] [] mm := fun mm => by rw [j_X11_readTest_70, if_neg (by decide)]
      rw [if_pos k18, j_X11_readTest_36, if_pos rfl, if_pos g2.1.t, r5, obind, if_pos g2.1.t]
      cases e1 : rLin L f n (nxT f n T) with
      | inl e =>
        obtain ⟨m3, z1, z2, z3⟩ := i1 e e1
        exact ⟨m3, z1.trans ((s70 m3).trans (m_te89B z3)), (yc_ym f2 hc).tr z2, z3⟩
      | inr q =>
        obtain ⟨m4, m3, z1, z2, z3, z4, z5⟩ := i2 q e1
        refine ⟨m3, z1.trans ((s70 m3).trans (m_te89G z4 (by decide))), (f2.tr (tm_yc z2)).tr (at_yc (by omega) (by omega) z3), z4, fun j j1 j2 => ?_⟩
        have k6 : zi m3 5 (c0 + 6) = 0 := by rw [z3.i (by unfold at5; omega), z2.i (by unfold tmP; omega)]; exact c6
        rcases j with _ | _ | _ | _ | _ | _ | _ | _ | j
        · omega
        · exact Or.inr z5
        · exact Or.inl rfl
        · exact Or.inl rfl
        · exact Or.inl rfl
        · exact Or.inl rfl
        · exact Or.inr k6
        · exact Or.inl rfl
        · omega
    · rw [if_neg k18]
      have hne0 : ¬ teW T = 0 := by
        unfold teW
        rw [if_neg k18]
        repeat' split
        all_goals decide
      -- a PERSON
      have wl := m_rPrs (v := 0) g2 hR1 (b := 0) (by decide) N2
      obtain ⟨i1, i2⟩ := m_into g2 wl (p := c0 + 1) (by omega) (by omega) ea1 (fun m => zX zP 304 v 70 [some (.inr (.inr (some 0))), some (.inl (c0 : Int)), some (.inl (teW T))] [] m)
      rw [j_X11_readTest_36, if_neg hne0, j_X11_readTest_56, if_pos g2.1.t, r5, obind, if_pos g2.1.t]
      -- what fails there already
      have bad : ∀ (m3 : zM) (e : Nat × Nat), Fr ymP m m3 → BdM m3 f n e → ∃ m', zX zP 304 v 70 [some (.inr (.inr (some 0))), some (.inl (c0 : Int)), some (.inl (teW T))] [] m3 = some (none, m') ∧ Fr ymP m m' ∧ BdM m' f n e := fun m3 e hf b => by
        rw [j_X11_readTest_70]
        by_cases h1 : teW T = 1
        · obtain ⟨m4, y1, y2, y3⟩ := m_intoB b (m_readToldB (v := 0) b 0 0) (p := c0 + 2) (by omega) (by omega) ea2 (fun m => zX zP 304 v 89 [some (.inr (.inr (some 0))), some (.inl (c0 : Int)), some (.inl (teW T))] [] m)
          rw [if_pos h1, if_pos b.1.t, b.1.1.2.1.2.1.1, obind, if_pos b.1.t]
          exact ⟨m4, y1.trans (m_te89B y3), hf.tr y2, y3⟩
        · rw [if_neg h1]
          exact ⟨m3, m_te89B b, hf, b⟩
      by_cases k20 : isK T 20 = true
      · have ht : teW T = 1 := by unfold teW; rw [if_neg k18, if_pos k20]
        rw [if_pos k20]
        cases e1 : rPrs L f n (nxT f n T) with
        | inl e =>
          obtain ⟨m3, z1, z2, z3⟩ := i1 e e1
          obtain ⟨m4, y1, y2, y3⟩ := bad m3 e ((yc_ym f2 hc).tr z2) z3
          exact ⟨m4, z1.trans y1, y2, y3⟩
        | inr q =>
          obtain ⟨m4, m3, z1, z2, z3, z4, z5⟩ := i2 q e1
          have f3 : Fr (ycP c0) m m3 := (f2.tr (tm_yc z2)).tr (at_yc (by omega) (by omega) z3)
          have N3 := hN.ym (yc_ym f3 hc)
          have hR3 := (pg_prs hR1 q e1).1
          have k6 : zi m3 5 (c0 + 6) = 1 := by rw [z3.i (by unfold at5; omega), z2.i (by unfold tmP; omega), c6]; exact ht
          have wl2 := m_rWrd (v := 0) z4 hR3 (b := 0) (by decide) N3
          obtain ⟨i3, i4⟩ := m_into z4 wl2 (p := c0 + 2) (by omega) (by omega) ea2 (fun m => zX zP 304 v 89 [some (.inr (.inr (some 0))), some (.inl (c0 : Int)), some (.inl (teW T))] [] m)
          have s70 : zX zP 304 v 70 [some (.inr (.inr (some 0))), some (.inl (c0 : Int)), some (.inl (teW T))] [] m3 = zC1 (zF zP 291 0 [(.inr (.inr (some 0))), .inl 0, .inl 0] m3) (fun c m2 => if zA m2 5 9 (zadd (c0 : Int) 2) = true then zX zP 304 v 89 [some (.inr (.inr (some 0))), some (.inl (c0 : Int)), some (.inl (teW T))] [] (zwi m2 5 (Int.toNat (zadd (c0 : Int) 2)) c) else none) := by
            rw [j_X11_readTest_70, if_pos ht, if_pos z4.1.t, z4.1.1.2.1.2.1.1, obind, if_pos z4.1.t]
          show YrM m f n c0 _ (match rWrd L f n q.1 with
            | .inl e => .inl e
            | .inr q2 => .inr (q2.1, ((20, q.2, q2.2, 0), (5, (q.2 : Int), (q2.2 : Int), 1, -7))) : zRd zSp)
          cases e2 : rWrd L f n q.1 with
          | inl e =>
            obtain ⟨m5, y1, y2, y3⟩ := i3 e e2
            exact ⟨m5, (z1.trans s70).trans (y1.trans (m_te89B y3)), (yc_ym f3 hc).tr y2, y3⟩
          | inr q2 =>
            obtain ⟨m6, m5, y1, y2, y3, y4, y5⟩ := i4 q2 e2
            refine ⟨m5, (z1.trans s70).trans (y1.trans (m_te89G y4 (by rw [ht]; decide))), (f3.tr (tm_yc y2)).tr (at_yc (by omega) (by omega) y3), y4, fun j j1 j2 => ?_⟩
            have k1 : zi m5 5 (c0 + 1) = (q.2 : Int) := by rw [y3.i (by unfold at5; omega), y2.i (by unfold tmP; omega)]; exact z5
            have k6' : zi m5 5 (c0 + 6) = 1 := by rw [y3.i (by unfold at5; omega), y2.i (by unfold tmP; omega)]; exact k6
            rcases j with _ | _ | _ | _ | _ | _ | _ | _ | j
            · omega
            · exact Or.inr k1
            · exact Or.inr y5
            · exact Or.inl rfl
            · exact Or.inl rfl
            · exact Or.inl rfl
            · exact Or.inr k6'
            · exact Or.inl rfl
            · omega
      · have k19 : isK T 19 = true := by
          cases z : isK T 19 with
          | true => rfl
          | false => exact absurd (teW_lt.mpr ⟨bool_f k18, bool_f k20, z⟩) c
        have ht : teW T = 2 := by unfold teW; rw [if_neg k18, if_neg k20, if_pos k19]
        rw [if_neg k20, if_pos k19]
        cases e1 : rPrs L f n (nxT f n T) with
        | inl e =>
          obtain ⟨m3, z1, z2, z3⟩ := i1 e e1
          obtain ⟨m4, y1, y2, y3⟩ := bad m3 e ((yc_ym f2 hc).tr z2) z3
          exact ⟨m4, z1.trans y1, y2, y3⟩
        | inr q =>
          obtain ⟨m4, m3, z1, z2, z3, z4, z5⟩ := i2 q e1
          have f3 : Fr (ycP c0) m m3 := (f2.tr (tm_yc z2)).tr (at_yc (by omega) (by omega) z3)
          have hR3 := (pg_prs hR1 q e1).1
          have hsg : sgT q.1 := by rw [rPrs_nx e1]; exact sgT_tok _ _ _
          have k6 : zi m3 5 (c0 + 6) = 2 := by rw [z3.i (by unfold at5; omega), z2.i (by unfold tmP; omega), c6]; exact ht
          have r53 : zr m3 0 20 = some 5 := z4.1.1.2.1.2.1.1
          -- the SIGN
          have s126 : ∃ y : Int, (q.1.1 = 4 → y = (q.1.2.2.2.2 : Int)) ∧ zX zP 304 v 70 [some (.inr (.inr (some 0))), some (.inl (c0 : Int)), some (.inl (teW T))] [] m3 = zX zP 304 v 126 [some (.inr (.inr (some 0))), some (.inl (c0 : Int)), some (.inl (teW T))] [.inl y, .inl ((c0 + 7 : Nat) : Int), (.inr (.inr (some 5)))] m3 := by
            rw [j_X11_readTest_70, if_neg (by rw [ht]; decide), j_X11_readTest_89, if_pos z4.1.t, z4.2.2.2, if_neg (by decide), if_pos ht, j_X11_readTest_102, if_pos z4.1.t, r53, obind, if_pos z4.1.t, ea7, z4.2.1.1]
            by_cases h4 : q.1.1 = 4
            · refine ⟨(q.1.2.2.2.2 : Int), fun _ => rfl, ?_⟩
              rw [if_pos (kdM_4.mpr h4), if_pos z4.1.t, z4.2.1.2.2.2.2 (Or.inr h4)]
            · refine ⟨0, fun w => absurd w h4, ?_⟩
              rw [if_neg (fun w => h4 (kdM_4.mp w)), j_X11_readTest_125]
          obtain ⟨y, hy, s126⟩ := s126
          have hw7 : Fr (at5 (c0 + 7)) m3 (zwi m3 5 (c0 + 7) y) := Fr.wi _ _ ⟨rfl, rfl⟩
          have g7 := z4.wr (at_wr (by omega) hw7)
          have f7 := f3.tr (at_yc (by omega) (by omega) hw7)
          have c7 : zi (zwi m3 5 (c0 + 7) y) 5 (c0 + 7) = y := zi_wi_s _ _ _ _
          have k1 : zi (zwi m3 5 (c0 + 7) y) 5 (c0 + 1) = (q.2 : Int) := by rw [hw7.i (by unfold at5; omega)]; exact z5
          have k6' : zi (zwi m3 5 (c0 + 7) y) 5 (c0 + 6) = 2 := by rw [hw7.i (by unfold at5; omega)]; exact k6
          have s160 : zX zP 304 v 126 [some (.inr (.inr (some 0))), some (.inl (c0 : Int)), some (.inl (teW T))] [.inl y, .inl ((c0 + 7 : Nat) : Int), (.inr (.inr (some 5)))] m3 = zX zP 304 v 160 [some (.inr (.inr (some 0))), some (.inl (c0 : Int)), some (.inl (teW T))] [.inl (b01 (isCm q.1)), (.inr (.inr (some 0)))] (zwi m3 5 (c0 + 7) y) := by
            rw [j_X11_readTest_126, if_pos (A5 z4.1.1 (by omega) (by omega)), Int.toNat_natCast]
            have a60 : zF zP 260 0 [(.inr (.inr (some 0))), .inl 60] (zwi m3 5 (c0 + 7) y) = some (some (.inl (b01 (isS q.1 60))), zwi m3 5 (c0 + 7) y) := m_isSign g7 60
            have a62 : zF zP 260 0 [(.inr (.inr (some 0))), .inl 62] (zwi m3 5 (c0 + 7) y) = some (some (.inl (b01 (isS q.1 62))), zwi m3 5 (c0 + 7) y) := m_isSign g7 62
            have a61 : zF zP 260 0 [(.inr (.inr (some 0))), .inl 61] (zwi m3 5 (c0 + 7) y) = some (some (.inl (b01 (isS q.1 61))), zwi m3 5 (c0 + 7) y) := m_isSign g7 61
            generalize zwi m3 5 (c0 + 7) y = m7 at g7 a60 a62 a61 ⊢
            unfold isCm
            rw [if_pos g7.1.t, a60, zC1_s]
            by_cases h60 : isS q.1 60 = true
            · rw [h60, if_neg nb1, j_X11_readTest_155]; rfl
            · rw [bool_f h60, if_pos yb0, if_pos g7.1.t, a62, zC1_s, Bool.false_or]
              by_cases h62 : isS q.1 62 = true
              · rw [h62, if_neg nb1, j_X11_readTest_155]; rfl
              · rw [bool_f h62, if_pos yb0, if_pos g7.1.t, a61, zC1_s, Bool.false_or]
                by_cases h61 : isS q.1 61 = true
                · rw [h61, if_neg nb1, j_X11_readTest_155]; rfl
                · rw [bool_f h61, if_pos yb0, j_X11_readTest_159]; rfl
          generalize zwi m3 5 (c0 + 7) y = m7 at hw7 g7 f7 c7 k1 k6' s160
          have r57 : zr m7 0 20 = some 5 := g7.1.1.2.1.2.1.1
          show YrM m f n c0 _ (if isCm q.1 = true then (match rNum f n (nxT f n q.1) 0 8 with
            | .inl e => .inl e
            | .inr q2 => .inr (q2.1, ((19, q.2, q.1.2.2.2.2, q2.2), (5, (q.2 : Int), (q2.2 : Int), 2, (q.1.2.2.2.2 : Int))))) else .inl (kMis q.1) : zRd zSp)
          by_cases hc1 : isCm q.1 = true
          · obtain ⟨m8, d3, d4, g8⟩ := m_mustT (v := 0) g7 hR3
            have d3' : zF zP 280 0 [(.inr (.inr (some 0))), .inl (b01 (isCm q.1))] m7 = some (none, m8) := by rw [hc1]; exact d3
            have hy' := hy ((isCm_iff hsg).mp hc1).1
            have wl2 := m_count (v := 0) g8 (nxT_R hR3) 0 8
            obtain ⟨i3, i4⟩ := m_into g8 wl2 (p := c0 + 2) (by omega) (by omega) ea2 (fun m => some (none, m))
            have s : zX zP 304 v 160 [some (.inr (.inr (some 0))), some (.inl (c0 : Int)), some (.inl (teW T))] [.inl (b01 (isCm q.1)), (.inr (.inr (some 0)))] m7 = zC1 (zF zP 281 0 [(.inr (.inr (some 0))), .inl ((0 : Nat) : Int), .inl ((8 : Nat) : Int)] m8) (fun c m2 => if zA m2 5 9 (zadd (c0 : Int) 2) = true then some (none, zwi m2 5 (Int.toNat (zadd (c0 : Int) 2)) c) else none) := by
              rw [j_X11_readTest_160, if_pos g7.1.t, d3', zC0_s, if_pos g8.1.t, g8.1.1.2.1.2.1.1, obind, if_pos g8.1.t]; rfl
            have f8 : Fr (ycP c0) m m8 := f7.tr (tm_yc d4)
            rw [if_pos hc1]
            cases e2 : rNum f n (nxT f n q.1) 0 8 with
            | inl e =>
              obtain ⟨m9, y1, y2, y3⟩ := i3 e e2
              exact ⟨m9, z1.trans (s126.trans (s160.trans (s.trans y1))), (yc_ym f8 hc).tr y2, y3⟩
            | inr q2 =>
              obtain ⟨m10, m9, y1, y2, y3, y4, y5⟩ := i4 q2 e2
              refine ⟨m9, z1.trans (s126.trans (s160.trans (s.trans y1))), (f8.tr (tm_yc y2)).tr (at_yc (by omega) (by omega) y3), y4, fun j j1 j2 => ?_⟩
              have sam : ∀ p, p ≠ c0 + 2 → zi m9 5 p = zi m7 5 p := fun p hp => by rw [y3.i (by unfold at5; omega), y2.i (by unfold tmP; omega), d4.i (by unfold tmP; omega)]
              rcases j with _ | _ | _ | _ | _ | _ | _ | _ | j
              · omega
              · exact Or.inr ((sam _ (by omega)).trans k1)
              · exact Or.inr y5
              · exact Or.inl rfl
              · exact Or.inl rfl
              · exact Or.inl rfl
              · exact Or.inr ((sam _ (by omega)).trans k6')
              · exact Or.inr ((sam _ (by omega)).trans (c7.trans hy'))
              · omega
          · have b := g7.bd (e := kMis q.1) (kMis_pos q.1)
            have d3' : zF zP 280 0 [(.inr (.inr (some 0))), .inl (b01 (isCm q.1))] m7 = some (none, bdM m7 (kMis q.1)) := by rw [bool_f hc1]; exact m_mustF g7
            obtain ⟨m9, y1, y2, y3⟩ := m_intoB b (m_countB (v := 0) b 0 8) (p := c0 + 2) (by omega) (by omega) ea2 (fun m => some (none, m))
            rw [if_neg hc1]
            refine ⟨m9, z1.trans (s126.trans (s160.trans ?_)), ((yc_ym f7 hc).tr (fl_ym (bdM_fr m7 _))).tr y2, y3⟩
            rw [j_X11_readTest_160, if_pos g7.1.t, d3', zC0_s, if_pos b.1.t, b.1.1.2.1.2.1.1, obind, if_pos b.1.t]
            exact y1
end YRSM
