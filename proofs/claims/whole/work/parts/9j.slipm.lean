/-! The reference's slip(): the call. -/
section SLIPM
variable {v : Nat} {m m' : zM} {f : Nat → Nat} {n : Nat} {T : zTok} {L : zLd} {e : Nat × Nat} {S : zSt}
def rrP (b j : Nat) : Prop := scr b j ∨ (b = 0 ∧ (j = 8 ∨ j = 10 ∨ j = 11))
theorem R2.read (hR : R2 S m) (h : Fr rrP m m') {k p : Int} (h8 : zi m' 0 8 = 0) (h10 : zi m' 0 10 = k) (h11 : zi m' 0 11 = p) : R2 (wTp (wFa S (some (k, p))) []) m' := by
  have no : ∀ j, j = 0 ∨ j = 2 ∨ j = 3 ∨ j = 23 ∨ j = 41 → ¬ rrP 0 j := fun j hj => by unfold rrP scr; omega
  obtain ⟨h1, ⟨a1, a2, a3, a4, a5, a6, a7, a8⟩, ⟨gtr, ⟨t1, t2⟩, gbl, ⟨g1, g3⟩, glv⟩⟩ := hR
  refine ⟨h.s2 h1, ⟨?_, ?_, ?_, h8, h10, h11, ?_, ?_⟩, fun t ht => h.tvM (by unfold rrP scr; omega) (by unfold rrP scr; omega) (fun j _ _ => by unfold rrP scr; omega) (gtr t ht), ⟨Nat.zero_le _, fun i hi => absurd hi (Nat.not_lt_zero i)⟩, h.bvM (fun j _ hj => by unfold rrP scr; omega) (fun j _ hj => by unfold rrP scr; omega) gbl, ⟨g1, fun i hi => by
    have hi' : i < (gMk S).length := hi
    exact h.bvM (fun j _ hj => by unfold rrP scr; omega) (fun j _ hj => by unfold rrP scr; omega) (g3 i hi)⟩, fun q hq i hi => ?_⟩
  · rw [h.i (no _ (by omega))]; exact a1
  · rw [h.l (no _ (by omega))]; exact a2
  · rw [h.l (no _ (by omega))]; exact a3
  · rw [h.i (no _ (by omega))]; exact a7
  · exact ⟨by rw [h.i (no _ (by omega))]; exact a8.1, by rw [h.1]; exact a8.2⟩
  · rw [h.i (by unfold rrP scr; omega)]; exact glv q hq i hi
theorem R2.blkAll {B : zBl} (hR : R2 S m) (h : Fr (cpP 0) m m') (hB : BvM m' 0 0 B) : R2 (wBl S B) m' := by
  obtain ⟨h1, h2, ⟨gtr, ⟨t1, t2⟩, gbl, ⟨g1, g3⟩, glv⟩⟩ := hR
  exact ⟨h.s2 h1, h.h2 (fun j hj => by unfold cpP; omega) h2, fun t ht => h.tvM (by unfold cpP; omega) (by unfold cpP; omega) (fun j _ _ => by unfold cpP; omega) (gtr t ht), ⟨t1, fun i hi => by rw [h.i (by unfold cpP; omega)]; exact t2 i hi⟩, hB, ⟨g1, fun i hi => h.bvM (fun j _ hj => by unfold cpP; omega) (fun j _ hj => by unfold cpP; omega) (g3 i hi)⟩, fun q hq i hi => by rw [h.i (by unfold cpP; omega)]; exact glv q hq i hi⟩
theorem rp_rr (h : Fr rpP m m') : Fr rrP m m' := h.mono (fun b j q => by unfold rpP rmP at q; unfold rrP scr; omega)
theorem m_starts2 (hR : R2 (wSt S 0) m) {n : Nat} {mo : Int} (hn : n ≤ (gTp S).length) (hmo : (n : Int) ≤ mo) : ∃ m', zF zP 284 v [(.inr (.inr (some 0))), .inr (.inl (n : Int)), .inl mo] m = some (some (.inl 1), m') ∧ Fr rrP m m' ∧ zi m' 0 8 = 0 ∧ GdM m' (slF S n) n (tokAt (slF S n) n 0) := by
  have hS := hR.1
  have t9 : (gTp S).length ≤ 900 := hR.2.2.2.1.1
  have h8 : zi m 0 8 = ((gTp S).length : Int) := hR.2.1.2.2.2.1
  have ei : i32 (n : Int) = (n : Int) := i32_nat (by omega)
  have hfr : Fr rrP m (zwi (zwi (zwi (zwi m 0 9 (n : Int)) 0 8 0) 0 16 0) 0 12 0) := (((Fr.wi m _ (by unfold rrP scr; omega)).tr (Fr.wi _ _ (by unfold rrP scr; omega))).tr (Fr.wi _ _ (by unfold rrP scr; omega))).tr (Fr.wi _ _ (by unfold rrP scr; omega))
  have hx : TxM (zwi (zwi (zwi (zwi m 0 9 (n : Int)) 0 8 0) 0 16 0) 0 12 0) (slF S n) n := by
    refine ⟨hfr.s2 hS, ?_, slF_ok (by omega), fun i hi => ?_⟩
    · rw [zi_wi_n _ _ (Or.inr (by decide)), zi_wi_n _ _ (Or.inr (by decide)), zi_wi_n _ _ (Or.inr (by decide)), zi_wi_s]
    · rw [hfr.i (by unfold rrP scr; omega)]
      have hb : zi m 4 i = (gTp S).getD i 0 := hR.2.2.2.1.2 i (show i < (gTp S).length by omega)
      rw [hb]
      have hz := zand255 ((gTp S).getD i 0)
      unfold slF
      rw [if_pos hi]
      omega
  have h16 : zi (zwi (zwi (zwi (zwi m 0 9 (n : Int)) 0 8 0) 0 16 0) 0 12 0) 0 16 = ((0 : Nat) : Int) := by
    rw [zi_wi_n _ _ (Or.inr (by decide)), zi_wi_s]; rfl
  obtain ⟨m', f1, f2, f3⟩ := m_advance (v := 0) hx (Nat.zero_le _) h16
  refine ⟨m', ?_, hfr.tr (f2.mono (fun b j q => by unfold tmP at q; unfold rrP scr; omega)), ?_, hx.tk f2, f3, tokAt_W, ?_⟩
  · rw [f_X11_starts, if_neg (fun w => by have := zlcmp_lt.mp w; omega), if_pos hS.1, h8, if_neg (fun w => by have := zlcmp_gt.mp w; omega), if_neg (fun w => by have := zlcmp_gt.mp w; omega), j_X11_starts_29, ei, if_pos hS.1, zT_wi, if_pos hS.1, zT_wi, zT_wi, if_pos hS.1, zT_wi, zT_wi, zT_wi, if_pos hS.1, zT_wi, zT_wi, zT_wi, zT_wi, if_pos hS.1, f1, zC0_s, if_pos zb1]
  · rw [f2.i (by unfold tmP; omega), zi_wi_n _ _ (Or.inr (by decide)), zi_wi_n _ _ (Or.inr (by decide)), zi_wi_s]
  · rw [f2.i (by unfold tmP; omega), zi_wi_s]
theorem m_starts2_no (hR : R2 (wSt S 0) m) {x mo : Int} (h : x < 0 ∨ ((gTp S).length : Int) < x ∨ mo < x) : zF zP 284 v [(.inr (.inr (some 0))), .inr (.inl x), .inl mo] m = some (some (.inl 0), zwi m 0 0 5) := by
  have hS := hR.1
  have h8 : zi m 0 8 = ((gTp S).length : Int) := hR.2.1.2.2.2.1
  have no : zX zP 284 v 23 [some (.inr (.inr (some 0))), some (.inr (.inl x)), none, some (.inl mo)] [] m = some (some (.inl 0), zwi m 0 0 5) := by
    rw [j_X11_starts_23, if_pos hS.1, m_no hS, zC1_s, if_pos zb0]
  rw [f_X11_starts]
  by_cases c0 : x < 0
  · rw [if_pos (zlcmp_lt.mpr c0), no]
  · rw [if_neg (fun w => c0 (zlcmp_lt.mp w)), if_pos hS.1, h8]
    by_cases c1 : ((gTp S).length : Int) < x
    · rw [if_pos (zlcmp_gt.mpr c1), no]
    · rw [if_neg (fun w => c1 (zlcmp_gt.mp w)), if_pos (zlcmp_gt.mpr (by omega)), no]
/-- the FAULT told, or none -/
theorem m_isWellG (g : GdM m f n T) : zF zP 285 v [(.inr (.inr (some 0)))] m = some (some (.inl 1), zwi (zwi m 0 10 0) 0 11 (-1)) := by
  have t := g.1.t
  rw [f_X11_isWell, if_pos t, if_pos t, g.2.2.2, zT_wi, if_pos t, zi_wi_n _ _ (Or.inr (by decide)), g.2.2.2, if_pos rfl, j_X11_isWell_24, zT_wi, if_pos t, zT_wi, zT_wi, if_pos t, zi_wi_n _ _ (Or.inr (by decide)), zi_wi_n _ _ (Or.inr (by decide)), g.2.2.2, if_pos rfl, j_X11_isWell_43, j_X11_isWell_48, if_pos zb1]
theorem m_isWellB (b : BdM m f n e) : zF zP 285 v [(.inr (.inr (some 0)))] m = some (some (.inl 0), zwi (zwi (zwi m 0 10 (e.1 : Int)) 0 11 (e.2 : Int)) 0 0 10) := by
  have t := b.1.t
  have := b.2.2.2
  have hS : S2 (zwi (zwi m 0 10 (e.1 : Int)) 0 11 (e.2 : Int)) := ((Fr.wi m _ (show rrP 0 10 by unfold rrP scr; omega)).tr (Fr.wi _ _ (show rrP 0 11 by unfold rrP scr; omega))).s2 b.1.1
  rw [f_X11_isWell, if_pos t, if_pos t, b.2.1, zT_wi, if_pos t, zi_wi_n _ _ (Or.inr (by decide)), b.2.1, if_neg (by omega), j_X11_isWell_20, zT_wi, if_pos t, zi_wi_n _ _ (Or.inr (by decide)), b.2.2.1, j_X11_isWell_24, zT_wi, if_pos t, zT_wi, zT_wi, if_pos t, zi_wi_n _ _ (Or.inr (by decide)), zi_wi_n _ _ (Or.inr (by decide)), b.2.1, if_neg (by omega), if_pos t, m_no hS, zC1_s, if_pos rfl, j_X11_isWell_47, j_X11_isWell_48, if_pos zb0]
theorem m_zero (hx : TxM m f n) {x1 : Int} : ∀ (d k : Nat) (m1 : zM), k + d = 489 → Fr wrP m m1 → (∀ j, j < k → zi m1 5 (1956 + j) = 0) → ∃ m', zX zP 303 v 26 [some (.inr (.inr (some 0))), some (.inl x1), some (.inl (k : Int))] [] m1 = zX zP 303 v 50 [some (.inr (.inr (some 0))), some (.inl x1), some (.inl 489)] [] m' ∧ Fr wrP m m' ∧ ∀ j, j < 489 → zi m' 5 (1956 + j) = 0 := by
  intro d
  induction d with
  | zero =>
    intro k m1 hk hF hz
    have e : k = 489 := by omega
    subst e
    exact ⟨m1, by rw [j_X11_slip_26, if_neg (by decide)]; rfl, hF, hz⟩
  | succ d ih =>
    intro k m1 hk hF hz
    have hx1 : TxM m1 f n := hx.fr hF (by unfold wrP; omega) (fun j => by unfold wrP; omega)
    have e1 : ∀ _ : Unit, zadd 1956 (k : Int) = ((1956 + k : Nat) : Int) := fun _ => zadd_nat (n := 1956) (by omega)
    have hw : Fr wrP m1 (zwi m1 5 (1956 + k) 0) := Fr.wi m1 _ (Or.inl ⟨rfl, by omega⟩)
    obtain ⟨m', f1, f2, f3⟩ := ih (k + 1) _ (by omega) (hF.tr hw) (fun j hj => by
      by_cases z : j = k
      · subst z; exact zi_wi_s _ _ _ _
      · rw [zi_wi_n _ _ (Or.inr (by omega))]; exact hz j (by omega))
    refine ⟨m', ?_, f2, f3⟩
    rw [j_X11_slip_26, if_pos (by omega), if_pos hx1.t, hx1.1.2.1.2.1.1, obind, e1 (), if_pos (A5 hx1.1 (by omega) (by omega)), Int.toNat_natCast, zadd1 (by omega)]
    exact f1
theorem w_slip (hR : R2 S m) (x : Int) : Ex2 (zF zP 303 v [(.inr (.inr (some 0))), .inl x] m) (o_slip S x) := by
  have h0 := hR.pre
  unfold o_slip
  rw [f_X11_slip, if_pos hR.1.1, zT_wi, if_pos hR.1.1, zT_wi, zT_wi, if_pos hR.1.1]
  generalize zwi (zwi m 0 1 0) 0 0 0 = m0 at h0 ⊢
  have t9 : (gTp S).length ≤ 900 := h0.2.2.2.1.1
  by_cases c : 0 ≤ x ∧ x ≤ ((gTp S).length : Int)
  · obtain ⟨n, rfl⟩ := Int.eq_ofNat_of_zero_le c.1
    obtain ⟨m1, a1, a2, a3, a4⟩ := m_starts2 (v := 0) h0 (n := n) (mo := 900) (by omega) (by omega)
    obtain ⟨m2, b1, b2, b3⟩ := m_zero (v := v) a4.1 (x1 := (n : Int)) 489 0 m1 (by omega) (Fr.rf _ _) (fun j hj => absurd hj (Nat.not_lt_zero j))
    have g2 := a4.wr b2
    have hw : Fr wrP m2 (zwi m2 5 1959 2) := Fr.wi m2 _ (Or.inl ⟨rfl, by omega⟩)
    have g3 := (g2.wr hw).s24 0
    have hz : ∀ j, 1956 ≤ j → j < 2445 → j ≠ 1959 → zi (zwi (zwi m2 5 1959 2) 0 24 0) 5 j = 0 := fun j k1 k2 k3 => by
      rw [zi_wi_n _ _ (Or.inl (by decide)), zi_wi_n _ _ (Or.inr k3)]
      have := b3 (j - 1956) (by omega)
      rw [show 1956 + (j - 1956) = j by omega] at this
      exact this
    have hB3 : BuM (zwi (zwi m2 5 1959 2) 0 24 0) L00 := by
      refine ⟨⟨⟨hz _ (by omega) (by omega) (by omega), Nat.zero_le _, fun i hi => absurd hi (Nat.not_lt_zero i)⟩, ⟨hz _ (by omega) (by omega) (by omega), Nat.zero_le _, fun i hi => absurd hi (Nat.not_lt_zero i)⟩, ⟨hz _ (by omega) (by omega) (by omega), Nat.zero_le _, fun i hi => absurd hi (Nat.not_lt_zero i)⟩, ⟨?_, hz _ (by omega) (by omega) (by omega)⟩, hz _ (by omega) (by omega) (by omega), fun t ht => by cases ht⟩, fun i _ hi => ⟨hz _ (by omega) (by omega) (by omega), hz _ (by omega) (by omega) (by omega), fun k hk => ?_⟩⟩
      · show zi (zwi (zwi m2 5 1959 2) 0 24 0) 5 1959 = 2
        rw [zi_wi_n _ _ (Or.inl (by decide)), zi_wi_s]
      · have : cellN i k = 29 + 16 * i + 4 * k := rfl
        exact hz _ (by omega) (by omega) (by omega)
    have hL0 : SlOk L00 := ⟨fun i hi => absurd hi (Nat.not_lt_zero i), fun i hi => absurd hi (Nat.not_lt_zero i), ⟨by decide, by decide⟩, rfl⟩
    have h24 : zi (zwi (zwi m2 5 1959 2) 0 24 0) 0 24 = b01 false := zi_wi_s _ _ _ _
    have hR0 : TkR n (tokAt (slF S n) n 0) := tok0_R
    have hF3 : Fr rrP m0 (zwi (zwi m2 5 1959 2) 0 24 0) := ((a2.tr (rp_rr (rm_rp (wr_rm b2)))).tr (rp_rr (rm_rp (wr_rm hw)))).tr (Fr.wi _ _ (by unfold rrP scr; omega))
    obtain ⟨i1, i2⟩ := m_slp (v := v) (x1 := (n : Int)) (x2 := 489) 901 (tokAt (slF S n) n 0) L00 false _ (by omega) hR0 g3 hB3 hL0 h24 (by have := hR0.1; have := hR0.2.1; omega)
    have e8 : zi (zwi (zwi m2 5 1959 2) 0 24 0) 0 8 = 0 := by
      rw [zi_wi_n _ _ (Or.inr (by decide)), zi_wi_n _ _ (Or.inl (by decide)), b2.i (by unfold wrP; omega)]; exact a3
    have st : zX zP 303 v 50 [some (.inr (.inr (some 0))), some (.inl (n : Int)), some (.inl 489)] [] m2 = zX zP 303 v 64 [some (.inr (.inr (some 0))), some (.inl (n : Int)), some (.inl 489)] [] (zwi (zwi m2 5 1959 2) 0 24 0) := by
      have ht : zT (zwi m2 5 1959 2) 0 7 = true := g2.1.t
      rw [j_X11_slip_50, if_pos g2.1.t, g2.1.1.2.1.2.1.1, obind, if_pos (A5 g2.1.1 (by omega) (by omega))]
      show (if (zT (zwi m2 5 1959 2) 0 7 && zb 0) = true then _ else none) = _
      rw [ht, if_pos (by decide)]; rfl
    have hcond : (decide (0 ≤ (n : Int)) && decide ((n : Int) ≤ ((gTp S).length : Int))) = true := by rw [decide_eq_true c.1, decide_eq_true c.2]; rfl
    have z0 : ((0 : Nat) : Int) = 0 := rfl
    rw [z0] at b1
    rw [if_pos hcond, Int.toNat_natCast, a1, zC1_s, if_neg (by decide), j_X11_slip_24, b1, st]
    show Ex2 _ (oRead S (rSlp (slF S n) n 901 L00 false (tokAt (slF S n) n 0)))
    cases e1 : rSlp (slF S n) n 901 L00 false (tokAt (slF S n) n 0) with
    | inl e =>
      obtain ⟨m4, y1, y2, y3⟩ := i1 e e1
      have hF4 : Fr rrP m0 (zwi (zwi m4 0 10 (e.1 : Int)) 0 11 (e.2 : Int)) := ((hF3.tr (rp_rr y2)).tr (Fr.wi _ _ (by unfold rrP scr; omega))).tr (Fr.wi _ _ (by unfold rrP scr; omega))
      have e8' : zi (zwi (zwi m4 0 10 (e.1 : Int)) 0 11 (e.2 : Int)) 0 8 = 0 := by
        rw [zi_wi_n _ _ (Or.inr (by decide)), zi_wi_n _ _ (Or.inr (by decide)), y2.i (by unfold rpP rmP; omega)]; exact e8
      have hR4 := h0.read hF4 e8' (k := (e.1 : Int)) (p := (e.2 : Int)) (by rw [zi_wi_n _ _ (Or.inr (by decide)), zi_wi_s]) (zi_wi_s _ _ _ _)
      rw [y1, j_X11_slip_95, if_pos y3.1.t, m_isWellB y3, zC1_s, if_pos rfl]
      exact ⟨_, rfl, hR4.st⟩
    | inr q =>
      obtain ⟨m4, y1, y2, y3, y4, y5⟩ := i2 q e1
      have hF4 : Fr rrP m0 (zwi (zwi m4 0 10 0) 0 11 (-1)) := ((hF3.tr (rp_rr y2)).tr (Fr.wi _ _ (by unfold rrP scr; omega))).tr (Fr.wi _ _ (by unfold rrP scr; omega))
      have e8' : zi (zwi (zwi m4 0 10 0) 0 11 (-1)) 0 8 = 0 := by
        rw [zi_wi_n _ _ (Or.inr (by decide)), zi_wi_n _ _ (Or.inr (by decide)), y2.i (by unfold rpP rmP; omega)]; exact e8
      have hR4 := h0.read hF4 e8' (k := 0) (p := -1) (by rw [zi_wi_n _ _ (Or.inr (by decide)), zi_wi_s]) (zi_wi_s _ _ _ _)
      have hB4 : BvM (zwi (zwi m4 0 10 0) 0 11 (-1)) 1956 56 (q.2, none) := ((y4.fr (Fr.wi m4 _ rfl : Fr (fun b _ => b = 0) m4 (zwi m4 0 10 0)) (fun j w => absurd (show (5 : Nat) = 0 from w) (by decide)) (fun j w => absurd (show (7 : Nat) = 0 from w) (by decide))).fr (Fr.wi _ _ rfl : Fr (fun b _ => b = 0) (zwi m4 0 10 0) (zwi (zwi m4 0 10 0) 0 11 (-1))) (fun j w => absurd (show (5 : Nat) = 0 from w) (by decide)) (fun j w => absurd (show (7 : Nat) = 0 from w) (by decide))).1
      obtain ⟨m5, k1, k2, k3⟩ := m_copy (v := 0) hR4.1 (x := 4) (y := 0) (by decide) (by decide) (by decide) hB4
      have k1' : zF zP 302 0 [(.inr (.inr (some 0))), .inl 4, .inl 0] (zwi (zwi m4 0 10 0) 0 11 (-1)) = some (none, m5) := k1
      have hR5 := hR4.blkAll k2 k3
      have hc1 : zi m5 5 (Int.toNat 1) = (q.2.2.1.length : Int) := hR5.2.2.2.2.1.2.1.1
      rw [y1, j_X11_slip_95, if_pos y3.1.t, m_isWellG y3, zC1_s, if_neg (by decide), j_X11_slip_104, if_pos hR4.1.1, k1', zC0_s, if_pos hR5.1.1, hR5.1.2.1.2.1.1, obind, if_pos (A5 hR5.1 (by omega) (by omega)), hc1]
      exact ⟨m5, rfl, hR5⟩
  · have hx : x < 0 ∨ ((gTp S).length : Int) < x ∨ 900 < x := by omega
    have hcond : ¬ (decide (0 ≤ x) && decide (x ≤ ((gTp S).length : Int))) = true := fun w => by
      rw [Bool.and_eq_true] at w
      exact c ⟨of_decide_eq_true w.1, of_decide_eq_true w.2⟩
    rw [if_neg hcond, m_starts2_no h0 hx, zC1_s, if_pos rfl]
    exact x2_no h0
end SLIPM
