/-! The reference reads STEPS of YEARS. -/
def AyM (m : zM) (A : zAc) : Prop := zi m 0 25 = (nst A : Int) ∧ ∀ k, k < A.2.2.length → A.2.2.getD k 0 = -7 ∨ zi m 5 (2175 + k) = A.2.2.getD k 0
def yEnd (w : Nat) (T : zTok) : Bool := if w = 0 then decide (T.1 = 0) else isK T 22
/-- STEPS are read as long as none ends them -/
def HSpec (f : Nat → Nat) (n w : Nat) (H F : zM → Option zO) : Prop :=
  (∀ m e, BdM m f n e → H m = F m) ∧ (∀ m T, GdM m f n T → yEnd w T = true → H m = F m) ∧
  ∀ m T, GdM m f n T → ¬ yEnd w T = true → H m = zC0 (zF zP 306 ((5 - w) + 1) [(.inr (.inr (some 0))), .inl (w : Int)] m) H
def SqM (m : zM) (f : Nat → Nat) (n : Nat) (H F : zM → Option zO) (w : Nat) (T : zTok) (r : zRd zAc) : Prop := match r with
  | .inl e => ∃ m', H m = F m' ∧ Fr ymP m m' ∧ BdM m' f n e
  | .inr q => ∃ m', H m = F m' ∧ Fr ymP m m' ∧ GdM m' f n q.1 ∧ AyM m' q.2 ∧ TkR n q.1 ∧ T.2.1 ≤ q.1.2.1 ∧ yEnd w q.1 = true
section YRSM3
variable {v : Nat} {m m' m0 : zM} {f : Nat → Nat} {n : Nat} {T : zTok} {L : zLd} {e : Nat × Nat} {A : zAc} {w : Nat}
theorem GdM.s25 (g : GdM m f n T) (x : Int) : GdM (zwi m 0 25 x) f n T := by
  have h : Fr (fun b j => b = 0 ∧ j = 25) m (zwi m 0 25 x) := Fr.wi m _ ⟨rfl, rfl⟩
  have no : ∀ j, j ≠ 25 → ¬ (fun b j => b = 0 ∧ j = 25) 0 j := fun j z w => z w.2
  obtain ⟨hx, ⟨k1, k2, k3, k4, k5⟩, hW, hb⟩ := g
  refine ⟨hx.fr h (no 9 (by decide)) (fun j w => absurd w.1 (by decide)), ⟨by rw [h.i (no _ (by decide))]; exact k1, by rw [h.i (no _ (by decide))]; exact k2, by rw [h.i (no _ (by decide))]; exact k3, fun q => by rw [h.l (no _ (by decide)), h.i (no _ (by decide))]; exact k4 q, fun q => by rw [h.i (no _ (by decide))]; exact k5 q⟩, hW, by rw [h.i (no _ (by decide))]; exact hb⟩
theorem AyM.tm (a : AyM m A) (h : Fr tmP m m') : AyM m' A := by
  refine ⟨?_, fun k hk => ?_⟩
  · rw [h.i (by unfold tmP; omega)]; exact a.1
  · rw [h.i (by unfold tmP; omega)]; exact a.2 k hk
theorem isBl_stW : (stW T = 5 ∨ stW T = 6) ↔ isBl T = true := by
  unfold isBl stW
  by_cases c12 : isK T 12 = true
  · rw [isK_ne (j := 12) (k := 17) (by decide) (by decide) (by decide) c12, isK_ne (j := 12) (k := 21) (by decide) (by decide) (by decide) c12, if_pos c12]; decide
  · rw [if_neg c12]
    by_cases c13 : isK T 13 = true
    · rw [isK_ne (j := 13) (k := 17) (by decide) (by decide) (by decide) c13, isK_ne (j := 13) (k := 21) (by decide) (by decide) (by decide) c13, if_pos c13]; decide
    · rw [if_neg c13]
      by_cases c14 : isK T 14 = true
      · rw [isK_ne (j := 14) (k := 17) (by decide) (by decide) (by decide) c14, isK_ne (j := 14) (k := 21) (by decide) (by decide) (by decide) c14, if_pos c14]; decide
      · rw [if_neg c14]
        by_cases c15 : isK T 15 = true
        · rw [isK_ne (j := 15) (k := 17) (by decide) (by decide) (by decide) c15, isK_ne (j := 15) (k := 21) (by decide) (by decide) (by decide) c15, if_pos c15]; decide
        · rw [if_neg c15]
          by_cases c16 : isK T 16 = true
          · rw [isK_ne (j := 16) (k := 17) (by decide) (by decide) (by decide) c16, isK_ne (j := 16) (k := 21) (by decide) (by decide) (by decide) c16, if_pos c16]; decide
          · rw [if_neg c16]
            cases isK T 17 <;> cases isK T 21 <;> cases isK T 23 <;> decide
theorem nst9 {w : Nat} (hA : WfA A w) (hn : nst A ≠ 30) : zadd 2175 (zmul 9 (nst A : Int)) = ((2175 + 9 * nst A : Nat) : Int) := by
  have h := hA.2.2.1
  have e1 : zmul 9 (nst A : Int) = ((9 * nst A : Nat) : Int) := zmul_nat (n := 9) (by omega)
  rw [e1]
  exact zadd_nat (n := 2175) (by omega)
theorem m_st82B (b : BdM m f n e) {x1 x2 x3 : Int} : zX zP 306 v 82 [some (.inr (.inr (some 0))), some (.inl x1), some (.inl x2), some (.inl x3), none] [] m = some (none, m) := by
  rw [j_X11_readStep_82, if_pos b.1.t, if_pos b.np.1]
theorem m_st56B (b : BdM m f n e) {x1 x2 x3 : Int} : zX zP 306 v 56 [some (.inr (.inr (some 0))), some (.inl x1), some (.inl x2), some (.inl x3), none] [] m = some (none, m) := by
  rw [j_X11_readStep_56, if_pos b.1.t, if_neg b.np.2, m_st82B b]
/-- the end of a STEP that failed -/
theorem m_tailB (b : BdM m f n e) {x1 x2 x3 : Int} {p : Nat} (hp : 2175 ≤ p) (hp2 : p + 8 < 2445) : ∃ m', zX zP 306 v 169 [some (.inr (.inr (some 0))), some (.inl x1), some (.inl x2), some (.inl x3), some (.inl (p : Int))] [] m = some (none, m') ∧ Fr ymP m m' ∧ BdM m' f n e := by
  have e8 : zadd (p : Int) 8 = ((p + 8 : Nat) : Int) := zadd_nat (k := 8) (by omega)
  have hw : Fr (at5 (p + 8)) m (zwi m 5 (p + 8) (zi m 0 25)) := Fr.wi _ _ ⟨rfl, rfl⟩
  have s191 : zX zP 306 v 191 [some (.inr (.inr (some 0))), some (.inl x1), some (.inl x2), some (.inl x3), some (.inl (p : Int))] [] m = some (none, zwi m 5 (p + 8) (zi m 0 25)) := by
    rw [j_X11_readStep_191, if_pos b.1.t, b.1.1.2.1.2.1.1, obind, if_pos b.1.t, e8, if_pos (A5 b.1.1 (by omega) (by omega)), Int.toNat_natCast]
  refine ⟨_, ?_, at_ym (by omega) hw, b.wr (at_wr (by omega) hw)⟩
  rw [j_X11_readStep_169]
  by_cases h3 : x3 = 0
  · rw [if_pos h3]; exact s191
  · obtain ⟨y, hy⟩ := m_isEnd_any (v := 0) b.1
    obtain ⟨z, hz⟩ := m_isSign_any (v := 0) b.1 59
    rw [if_neg h3, if_pos b.1.t, hy, zC1_s, if_pos b.1.t, m_mustB b, zC0_s, if_pos b.1.t, hz, zC1_s, if_pos b.1.t, m_mustB b, zC0_s]
    exact s191
theorem m_141B (b : BdM m f n e) {x1 x2 x3 : Int} {p : Nat} (hp : 2175 ≤ p) (hp2 : p + 8 < 2445) : ∃ m', zX zP 306 (v + 1) 141 [some (.inr (.inr (some 0))), some (.inl x1), some (.inl x2), some (.inl x3), some (.inl (p : Int))] [] m = some (none, m') ∧ Fr ymP m m' ∧ BdM m' f n e := by
  obtain ⟨m', h1, h2⟩ := m_tailB (v := v + 1) b (x1 := x1) (x2 := x2) (x3 := x3) hp hp2
  refine ⟨m', ?_, h2⟩
  rw [j_X11_readStep_141]
  by_cases h3 : x3 = 0
  · rw [if_pos h3]; exact h1
  · rw [if_neg h3, if_pos b.1.t, if_neg b.np.2]; exact h1
/-- a STEP up to what it holds -/
theorem m_open (g : GdM m f n T) (hR : TkR n T) (hN : NmV m 0 L) (a : AyM m A) (hA : WfA A w) :
    (isSt T = false → zF zP 306 (v + 1) [(.inr (.inr (some 0))), .inl (w : Int)] m = some (none, bdM m (kMis T))) ∧
    (isSt T = true → nst A = 30 → zF zP 306 (v + 1) [(.inr (.inr (some 0))), .inl (w : Int)] m = some (none, bdM m (6, T.2.1))) ∧
    (isSt T = true → nst A ≠ 30 → isBl T = true → w = 3 → zF zP 306 (v + 1) [(.inr (.inr (some 0))), .inl (w : Int)] m = some (none, bdM m (7, T.2.1))) ∧
    (isSt T = true → nst A ≠ 30 → (isBl T = true → w ≠ 3) →
      (∀ e, rStp L f n T = .inl e → ∃ m', zF zP 306 (v + 1) [(.inr (.inr (some 0))), .inl (w : Int)] m = some (none, m') ∧ Fr ymP m m' ∧ BdM m' f n e) ∧
      (∀ q, rStp L f n T = .inr q → (∀ e, rSem f n q.1 = .inl e → ∃ m', zF zP 306 (v + 1) [(.inr (.inr (some 0))), .inl (w : Int)] m = some (none, m') ∧ Fr ymP m m' ∧ BdM m' f n e) ∧
        (∀ q2, rSem f n q.1 = .inr q2 → ∃ m', zF zP 306 (v + 1) [(.inr (.inr (some 0))), .inl (w : Int)] m = zX zP 306 (v + 1) 141 [some (.inr (.inr (some 0))), some (.inl (w : Int)), some (.inl (stW T)), some (.inl (b01 (isBl T))), some (.inl ((2175 + 9 * nst A : Nat) : Int))] [] m' ∧ Fr ymP m m' ∧ GdM m' f n q2.1 ∧ AyM m' (pushA A q.2 (-7))))) := by
  have t := g.1.t
  have h21 : zF zP 306 (v + 1) [(.inr (.inr (some 0))), .inl (w : Int)] m = zX zP 306 (v + 1) 21 [some (.inr (.inr (some 0))), some (.inl (w : Int)), some (.inl (stW T)), none, none] [.inl (b01 (isBl T))] m := by
    rw [f_X11_readStep, if_pos t, m_stepWord g, zC1_s]
    by_cases h5 : stW T = 5
    · rw [if_pos h5, j_X11_readStep_16, isBl_stW.mp (Or.inl h5)]; rfl
    · rw [if_neg h5]
      by_cases h6 : stW T = 6
      · rw [if_pos h6, j_X11_readStep_16, isBl_stW.mp (Or.inr h6)]; rfl
      · have hb : isBl T = false := bool_f (fun z => (isBl_stW.mpr z).elim h5 h6)
        rw [if_neg h6, j_X11_readStep_20, hb]; rfl
  have h30 : isSt T = true → zF zP 306 (v + 1) [(.inr (.inr (some 0))), .inl (w : Int)] m = zX zP 306 (v + 1) 30 [some (.inr (.inr (some 0))), some (.inl (w : Int)), some (.inl (stW T)), some (.inl (b01 (isBl T))), none] [] m := fun hs => by
    rw [h21, j_X11_readStep_21, if_neg (isSt_iff.mp hs)]
  have h56 : isSt T = true → nst A ≠ 30 → zF zP 306 (v + 1) [(.inr (.inr (some 0))), .inl (w : Int)] m = zX zP 306 (v + 1) 56 [some (.inr (.inr (some 0))), some (.inl (w : Int)), some (.inl (stW T)), some (.inl (b01 (isBl T))), none] [] m := fun hs hn => by
    rw [h30 hs, j_X11_readStep_30, if_pos t, g.2.2.2, if_pos rfl, if_pos t, a.1, if_neg (by omega)]
  refine ⟨fun hs => ?_, fun hs hn => ?_, fun hs hn hb hw => ?_, fun hs hn hbw => ?_⟩
  · have b := g.bd (e := kMis T) (kMis_pos T)
    have hlt : stW T < 0 := Decidable.byContradiction (fun z => by rw [isSt_iff.mpr z] at hs; cases hs)
    rw [h21, j_X11_readStep_21, if_pos hlt, if_pos t, m_amissG g, zC0_s, j_X11_readStep_30, if_pos b.1.t, if_neg b.np.2, m_st56B b]
  · have b := g.bd (e := (6, T.2.1)) (Nat.succ_pos 5)
    have hf : zF zP 278 0 [(.inr (.inr (some 0))), .inl 6, .inl (T.2.1 : Int)] m = some (none, bdM m (6, T.2.1)) := m_failG g 6 T.2.1
    rw [h30 hs, j_X11_readStep_30, if_pos t, g.2.2.2, if_pos rfl, if_pos t, a.1, if_pos (by omega), if_pos t, if_pos t, g.2.1.2.1, hf, zC0_s, m_st56B b]
  · have b := g.bd (e := (7, T.2.1)) (Nat.succ_pos 6)
    have hf : zF zP 278 0 [(.inr (.inr (some 0))), .inl 7, .inl (T.2.1 : Int)] m = some (none, bdM m (7, T.2.1)) := m_failG g 7 T.2.1
    rw [h56 hs hn, j_X11_readStep_56, if_pos t, g.2.2.2, if_pos rfl, hb, if_neg nb1, if_pos (by omega), if_pos t, if_pos t, g.2.1.2.1, hf, zC0_s, m_st82B b]
  · have h90 : zF zP 306 (v + 1) [(.inr (.inr (some 0))), .inl (w : Int)] m = zX zP 306 (v + 1) 90 [some (.inr (.inr (some 0))), some (.inl (w : Int)), some (.inl (stW T)), some (.inl (b01 (isBl T))), none] [] m := by
      have h82 : zX zP 306 (v + 1) 82 [some (.inr (.inr (some 0))), some (.inl (w : Int)), some (.inl (stW T)), some (.inl (b01 (isBl T))), none] [] m = zX zP 306 (v + 1) 90 [some (.inr (.inr (some 0))), some (.inl (w : Int)), some (.inl (stW T)), some (.inl (b01 (isBl T))), none] [] m := by
        rw [j_X11_readStep_82, if_pos t, g.2.2.2, if_neg (by decide)]
      rw [h56 hs hn, j_X11_readStep_56, if_pos t, g.2.2.2, if_pos rfl]
      by_cases hb : isBl T = true
      · have hw := hbw hb
        rw [hb, if_neg nb1, if_neg (by omega)]; rw [hb] at h82; exact h82
      · rw [bool_f hb, if_pos yb0]; rw [bool_f hb] at h82; exact h82
    have hn30 := hA.2.2.1
    have g1 := g.s25 ((nst A + 1 : Nat) : Int)
    have f1 : Fr ymP m (zwi m 0 25 ((nst A + 1 : Nat) : Int)) := Fr.wi m _ (by unfold ymP; omega)
    obtain ⟨m2, d1, d2, g2⟩ := m_adv (v := 0) g1 hR
    have hw0 : Fr (at5 (2175 + 9 * nst A)) m2 (zwi m2 5 (2175 + 9 * nst A) (stW T)) := Fr.wi m2 _ ⟨rfl, rfl⟩
    have g3 := g2.wr (at_wr (by omega) hw0)
    have f3 : Fr ymP m (zwi m2 5 (2175 + 9 * nst A) (stW T)) := (f1.tr (tm_ym d2)).tr (at_ym (by omega) hw0)
    have k0 : zi (zwi m2 5 (2175 + 9 * nst A) (stW T)) 5 (2175 + 9 * nst A) = stW T := zi_wi_s _ _ _ _
    have k25 : zi (zwi m2 5 (2175 + 9 * nst A) (stW T)) 0 25 = ((nst A + 1 : Nat) : Int) := by
      rw [zi_wi_n _ _ (Or.inl (by decide)), d2.i (by unfold tmP; omega), zi_wi_s]
    have kold : ∀ j, 2175 ≤ j → j < 2175 + 9 * nst A → zi (zwi m2 5 (2175 + 9 * nst A) (stW T)) 5 j = zi m 5 j := fun j h1 h2 => by
      rw [zi_wi_n _ _ (Or.inr (by omega)), d2.i (by unfold tmP; omega), zi_wi_n _ _ (Or.inl (by decide))]
    have st : zX zP 306 (v + 1) 90 [some (.inr (.inr (some 0))), some (.inl (w : Int)), some (.inl (stW T)), some (.inl (b01 (isBl T))), none] [] m = zC0 (zF zP 305 0 [(.inr (.inr (some 0))), .inl ((2175 + 9 * nst A : Nat) : Int)] (zwi m2 5 (2175 + 9 * nst A) (stW T))) (fun m3 => if zT m3 0 7 = true then zC1 (zF zP 260 0 [(.inr (.inr (some 0))), .inl 59] m3) (fun c5 m4 => if zT m4 0 7 = true then zC0 (zF zP 280 0 [(.inr (.inr (some 0))), .inl c5] m4) (fun m6 => zX zP 306 (v + 1) 141 [some (.inr (.inr (some 0))), some (.inl (w : Int)), some (.inl (stW T)), some (.inl (b01 (isBl T))), some (.inl ((2175 + 9 * nst A : Nat) : Int))] [] m6) else none) else none) := by
      rw [j_X11_readStep_90, if_pos t, if_pos t, if_pos t, a.1, zadd1 (by omega), zT_wi, if_pos t, d1, zC0_s, if_pos g2.1.t, g2.1.1.2.1.2.1.1, obind, nst9 hA hn, if_pos (A5 g2.1.1 (by omega) (by omega)), Int.toNat_natCast, zT_wi, if_pos g2.1.t]
    have N3 := hN.ym f3
    generalize zwi m2 5 (2175 + 9 * nst A) (stW T) = m3 at g3 f3 k0 k25 kold st N3
    have rs := m_rest (v := 0) g3 hR N3 hs (c0 := 2175 + 9 * nst A) (by omega) (by omega) k0
    refine ⟨fun e he => ?_, fun q hq => ?_⟩
    · rw [he] at rs
      obtain ⟨m4, z1, z2, z3⟩ := rs
      obtain ⟨y, hy⟩ := m_isSign_any (v := 0) z3.1 59
      obtain ⟨m5, y1, y2, y3⟩ := m_141B (v := v) z3 (x1 := (w : Int)) (x2 := stW T) (x3 := b01 (isBl T)) (p := 2175 + 9 * nst A) (by omega) (by omega)
      refine ⟨m5, ?_, (f3.tr z2).tr y2, y3⟩
      rw [h90, st, z1, zC0_s, if_pos z3.1.t, hy, zC1_s, if_pos z3.1.t, m_mustB z3, zC0_s, y1]
    · rw [hq] at rs
      obtain ⟨m4, z1, z2, z3, z4⟩ := rs
      have hR4 := (pg_stp (L := L) hR q hq).1
      have hsg : zF zP 260 0 [(.inr (.inr (some 0))), .inl 59] m4 = some (some (.inl (b01 (isS q.1 59))), m4) := m_isSign z3 59
      have f4 : Fr ymP m m4 := f3.tr (yc_ym z2 (by omega))
      refine ⟨fun e he => ?_, fun q2 hq2 => ?_⟩
      · unfold rSem at he
        by_cases cs : isS q.1 59 = true
        · rw [if_pos cs] at he; cases he
        · rw [if_neg cs] at he
          have e' : kMis q.1 = e := Sum.inl.inj he
          have b := z3.bd (e := kMis q.1) (kMis_pos q.1)
          have mf : zF zP 280 0 [(.inr (.inr (some 0))), .inl (b01 (isS q.1 59))] m4 = some (none, bdM m4 (kMis q.1)) := by rw [bool_f cs]; exact m_mustF z3
          obtain ⟨m5, y1, y2, y3⟩ := m_141B (v := v) b (x1 := (w : Int)) (x2 := stW T) (x3 := b01 (isBl T)) (p := 2175 + 9 * nst A) (by omega) (by omega)
          rw [← e']
          refine ⟨m5, ?_, (f4.tr (fl_ym (bdM_fr m4 _))).tr y2, y3⟩
          rw [h90, st, z1, zC0_s, if_pos z3.1.t, hsg, zC1_s, if_pos z3.1.t, mf, zC0_s, y1]
      · unfold rSem at hq2
        by_cases cs : isS q.1 59 = true
        · rw [if_pos cs] at hq2
          have e' : (nxT f n q.1, ()) = q2 := Sum.inr.inj hq2
          obtain ⟨m5, y1, y2, y3⟩ := m_mustT (v := 0) z3 hR4
          have mt : zF zP 280 0 [(.inr (.inr (some 0))), .inl (b01 (isS q.1 59))] m4 = some (none, m5) := by rw [cs]; exact y1
          rw [← e']
          have sam : ∀ j, 2175 ≤ j → (j < 2175 + 9 * nst A + 1 ∨ 2175 + 9 * nst A + 8 ≤ j) → zi m5 5 j = zi m3 5 j := fun j h1 h2 => by
            rw [y2.i (by unfold tmP; omega), z2.i (by unfold ycP tmP; omega)]
          refine ⟨m5, ?_, f4.tr (tm_ym y2), y3, ?_, fun k hk => ?_⟩
          · rw [h90, st, z1, zC0_s, if_pos z3.1.t, hsg, zC1_s, if_pos z3.1.t, mt, zC0_s]
          · rw [y2.i (by unfold tmP; omega), z2.i (by unfold ycP tmP; omega), k25, push_nst]
          · rw [(push_len A q.2 (-7)).2.2] at hk
            have hl := hA.2.1
            show (A.2.2 ++ c9 q.2.2 (-7)).getD k 0 = -7 ∨ zi m5 5 (2175 + k) = (A.2.2 ++ c9 q.2.2 (-7)).getD k 0
            by_cases hk9 : k < 9 * nst A
            · rw [getD_appl (by omega), sam _ (by omega) (Or.inl (by omega)), kold _ (by omega) (by omega)]
              exact a.2 k (by omega)
            · rw [getD_appr (by omega), hl]
              obtain ⟨j, hj⟩ : ∃ j, k = 9 * nst A + j := ⟨k - 9 * nst A, by omega⟩
              subst hj
              rw [show 9 * nst A + j - 9 * nst A = j by omega, show 2175 + (9 * nst A + j) = 2175 + 9 * nst A + j by omega]
              by_cases j0 : j = 0
              · subst j0
                refine Or.inr ?_
                show zi m5 5 (2175 + 9 * nst A + 0) = q.2.2.1
                rw [sam _ (by omega) (Or.inl (by omega)), rStp_kind hs hq]
                exact k0
              · by_cases j8 : j = 8
                · subst j8; exact Or.inl rfl
                · have := z4 j (by omega) (by omega)
                  rw [c9_0 q.2.2 (-7) 0 (by omega), y2.i (by unfold tmP; omega)]
                  exact this
        · rw [if_neg cs] at hq2; cases hq2
end YRSM3
