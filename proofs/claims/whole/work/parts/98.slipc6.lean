/-! The class reads a SLIP: all PARTS; the call. -/
theorem zand255 (x : Int) : 0 ≤ zand x 255 ∧ zand x 255 < 256 := by
  unfold zand
  have e : (Int32.ofInt x &&& Int32.ofInt 255).toInt = ((Int32.ofInt x).toBitVec &&& 255#32).toInt := rfl
  rw [e]
  have h : ((Int32.ofInt x).toBitVec &&& 255#32).toNat ≤ 255 := by
    rw [BitVec.toNat_and]; exact Nat.and_le_right
  rw [BitVec.toInt_eq_toNat_of_lt (by omega)]
  omega
def slF (S : zSt) (n : Nat) : Nat → Nat := fun i => if i < n then (zand ((gTp S).getD i 0) 255).toNat else 0
theorem slF_ok {S : zSt} {n : Nat} (hn : n ≤ 900) : TxF (slF S n) n := by
  refine ⟨hn, fun i => ?_, fun i hi => ?_⟩
  · unfold slF
    split
    · have := zand255 ((gTp S).getD i 0); omega
    · omega
  · unfold slF; rw [if_neg (by omega)]
def L00 : zLd := ([], [], [], 2, 0)
def rSlip (S : zSt) (n : Nat) : zRd zLd := rSlp (slF S n) n 901 L00 false (tokAt (slF S n) n 0)
def oRead (S : zSt) (r : zRd zLd) : Int × zSt := match r with
  | .inl e => oNo (wTp (wFa S (some ((e.1 : Int), (e.2 : Int)))) []) 10
  | .inr q => oYes (wBl (wTp (wFa S (some (0, -1))) []) (q.2, none)) (q.2.2.1.length : Int)
def o_slip (S : zSt) (n : Int) : Int × zSt := if (decide (0 ≤ n) && decide (n ≤ ((gTp S).length : Int))) = true then oRead S (rSlip S n.toNat) else oNo S 5
section SLIPC6
variable {v : Nat} {m m' : zM} {f : Nat → Nat} {n : Nat} {T : zTok} {L : zLd} {S : zSt}
theorem c_prt (g : GdC m f n T L) (hR : TkR n T) (od : Bool) {x3 : Int} {u4 : Option zV} :
    (∀ e, rPrt L od f n T = .inl e → ∃ (m' : zM) (od' : Bool), zX zP 127 v (zsel (kwI T.2.2.2.1) 0 [80, 104, 114, 134, 134, 134, 134, 134, 134, 124] 134) [some (.inr (.inr (some 2))), some (.inr (.inr (some 33))), some (.inl (b01 od)), some (.inl x3), u4] [] m = zX zP 127 v 140 [some (.inr (.inr (some 2))), some (.inr (.inr (some 33))), some (.inl (b01 od')), some (.inl x3), some (.inl 0)] [] m' ∧ Fr rdC m m' ∧ zi m' 2 10 = (e.1 : Int) ∧ zi m' 2 11 = (e.2 : Int) ∧ DfB m') ∧
    (∀ q, rPrt L od f n T = .inr q → ∃ m' : zM, zX zP 127 v (zsel (kwI T.2.2.2.1) 0 [80, 104, 114, 134, 134, 134, 134, 134, 134, 124] 134) [some (.inr (.inr (some 2))), some (.inr (.inr (some 33))), some (.inl (b01 od)), some (.inl x3), u4] [] m = zX zP 127 v 140 [some (.inr (.inr (some 2))), some (.inr (.inr (some 33))), some (.inl (b01 (od || isK T 0))), some (.inl x3), some (.inl 1)] [] m' ∧ Fr rdC m m' ∧ GdC m' f n q.1 q.2 ∧ FlC m m') := by
  have kw : ∀ k : Nat, k < 24 → (kwI T.2.2.2.1 = (k : Int) ↔ isK T k = true) := fun k hk => isK_kw hk
  have other : ∀ k j : Nat, k < 24 → j < 24 → k ≠ j → isK T k = true → isK T j = false := fun k j hk hj hne h => by
    refine bool_f (fun w => ?_)
    have h1 := (kw k hk).mpr h
    have h2 := (kw j hj).mpr w
    omega
  -- a PART with its own function
  have fin : ∀ (r : zRd zLd) (out : Option zO) (x : Option zO) (od' : Bool), RcC m f n out r → x = zC1 out (fun c2 m1 => zX zP 127 v 140 [some (.inr (.inr (some 2))), some (.inr (.inr (some 33))), some (.inl (b01 od')), some (.inl x3), some (.inl c2)] [] m1) → od' = (od || isK T 0) →
      (∀ e, r = .inl e → ∃ (m' : zM) (od' : Bool), x = zX zP 127 v 140 [some (.inr (.inr (some 2))), some (.inr (.inr (some 33))), some (.inl (b01 od')), some (.inl x3), some (.inl 0)] [] m' ∧ Fr rdC m m' ∧ zi m' 2 10 = (e.1 : Int) ∧ zi m' 2 11 = (e.2 : Int) ∧ DfB m') ∧
      (∀ q, r = .inr q → ∃ m' : zM, x = zX zP 127 v 140 [some (.inr (.inr (some 2))), some (.inr (.inr (some 33))), some (.inl (b01 (od || isK T 0))), some (.inl x3), some (.inl 1)] [] m' ∧ Fr rdC m m' ∧ GdC m' f n q.1 q.2 ∧ FlC m m') := by
    intro r out x od' hr hx hod
    refine ⟨fun e h => ?_, fun q h => ?_⟩
    · rw [h] at hr
      obtain ⟨m', z1, z2⟩ := hr
      exact ⟨m', od', by rw [hx, z1, zC1_s], z2⟩
    · rw [h] at hr
      obtain ⟨m', z1, z2⟩ := hr
      exact ⟨m', by rw [hx, z1, zC1_s, hod], z2⟩
  unfold rPrt
  by_cases c0 : isK T 0 = true
  · rw [if_pos c0, zsel_0 0 ((kw 0 (by decide)).mpr c0)]
    show (∀ e, _ → ∃ (m' : zM) (od' : Bool), zX zP 127 v 80 _ [] m = _ ∧ _) ∧ (∀ q, _ → ∃ m' : zM, zX zP 127 v 80 _ [] m = _ ∧ _)
    rw [j_X5_reads_80]
    cases od with
    | true =>
      have hf : zF zP 98 0 [(.inr (.inr (some 2))), .inl 5] m = some (some (.inl 0), bdC m (5, T.2.1)) := c_failed (v := 0) g.1 g.2.1 5
      rw [if_neg nb1, if_pos g.1.t2, hf, zC1_s, j_X5_reads_97]
      refine ⟨fun e h => ?_, fun q h => ?_⟩
      · unfold rOdd at h
        rw [if_pos rfl] at h
        have h' : (5, T.2.1) = e := Sum.inl.inj h
        rw [← h']
        exact ⟨_, true, rfl, fq_rd (bdC_fr m _), (bdC_k m _).1, (bdC_k m _).2, (g.fq (bdC_fr m _)).df⟩
      · unfold rOdd at h
        rw [if_pos rfl] at h
        cases h
    | false =>
      have w := c_odd (v := 0) g hR
      rw [if_pos yb0, j_X5_reads_92]
      refine fin _ _ _ true w ?_ (by rw [c0, Bool.or_true])
      congr 1
      funext c m1
      rw [j_X5_reads_97]
      rfl
  · rw [if_neg c0]
    have eod : od = (od || isK T 0) := by rw [bool_f c0, Bool.or_false]
    by_cases c1 : isK T 1 = true
    · rw [if_pos c1, zsel_0 1 ((kw 1 (by decide)).mpr c1)]
      exact fin _ _ _ od (c_wdP (v := 0) g hR) (j_X5_reads_104 2 33 (b01 od) x3 u4 m) eod
    · rw [if_neg c1]
      by_cases c2 : isK T 2 = true
      · rw [if_pos c2, zsel_0 2 ((kw 2 (by decide)).mpr c2)]
        exact fin _ _ _ od (c_lne (v := 0) g hR) (j_X5_reads_114 2 33 (b01 od) x3 u4 m) eod
      · rw [if_neg c2]
        by_cases c9 : isK T 9 = true
        · rw [if_pos c9, zsel_0 9 ((kw 9 (by decide)).mpr c9)]
          exact fin _ _ _ od (c_psn (v := 0) g hR) (j_X5_reads_124 2 33 (b01 od) x3 u4 m) eod
        · rw [if_neg c9]
          have hz : zsel (kwI T.2.2.2.1) 0 [80, 104, 114, 134, 134, 134, 134, 134, 134, 124] 134 = 134 := by
            rcases kw_rng T.2.2.2.1 with e | ⟨k, e, hk⟩
            · rw [e]; exact zsel_n (by decide)
            · by_cases hk10 : k < 10
              · rw [zsel_0 k e]
                have hne : k ≠ 0 ∧ k ≠ 1 ∧ k ≠ 2 ∧ k ≠ 9 := by
                  refine ⟨fun q => ?_, fun q => ?_, fun q => ?_, fun q => ?_⟩
                  · exact c0 ((kw 0 (by decide)).mp (by rw [e, q]))
                  · exact c1 ((kw 1 (by decide)).mp (by rw [e, q]))
                  · exact c2 ((kw 2 (by decide)).mp (by rw [e, q]))
                  · exact c9 ((kw 9 (by decide)).mp (by rw [e, q]))
                have key : ∀ k : Fin 10, k.val ≠ 0 → k.val ≠ 1 → k.val ≠ 2 → k.val ≠ 9 → [80, 104, 114, 134, 134, 134, 134, 134, 134, 124].getD k.val 134 = 134 := by decide
                exact key ⟨k, hk10⟩ hne.1 hne.2.1 hne.2.2.1 hne.2.2.2
              · rw [e]; exact zsel_n (fun q => by
                  have q2 : (k : Int) < 10 := q.2
                  omega)
          rw [hz, j_X5_reads_134, if_pos g.1.t2, c_misplaced g.1 g.2.1, zC1_s]
          refine ⟨fun e h => ?_, fun q h => (nomatch h)⟩
          have h' : kMis T = e := Sum.inl.inj h
          rw [← h']
          exact ⟨_, od, rfl, fq_rd (bdC_fr m _), (bdC_k m _).1, (bdC_k m _).2, (g.fq (bdC_fr m _)).df⟩
theorem c_isEnded (g : GdC m f n T L) : zF zP 97 v [(.inr (.inr (some 2)))] m = some (some (.inl (b01 (decide (T.1 = 0)))), m) := by
  rw [f_X6_isEnded, if_pos g.1.t2, g.2.1.1]
  by_cases c : T.1 = 0
  · rw [if_pos (by omega), j_X6_isEnded_12, if_pos zb1, decide_eq_true c]; rfl
  · rw [if_neg (by omega), j_X6_isEnded_11, j_X6_isEnded_12, if_pos zb0, decide_eq_false c]; rfl
theorem c_slp : ∀ (k : Nat) (T : zTok) (L : zLd) (od : Bool) (u4 : Option zV) (m : zM), k ≤ 901 → TkR n T → GdC m f n T L →
    RcC m f n (zX zP 127 v 8 [some (.inr (.inr (some 2))), some (.inr (.inr (some 33))), some (.inl (b01 od)), some (.inl ((901 - k : Nat) : Int)), u4] [] m) (rSlp f n k L od T) := by
  intro k
  induction k with
  | zero =>
    intro T L od u4 m hk hR g
    rw [j_X5_reads_8, if_pos (by omega), j_X5_reads_160, if_pos zb1]
    exact ⟨m, rfl, Fr.rf _ _, g, rfl, rfl⟩
  | succ k ih =>
    intro T L od u4 m hk hR g
    rw [j_X5_reads_8, if_neg (by omega), if_pos g.1.t2, c_isEnded g, zC1_s]
    unfold rSlp
    by_cases c : T.1 = 0
    · rw [if_pos c, decide_eq_true c, if_neg nb1, j_X5_reads_160, if_pos zb1]
      exact ⟨m, rfl, Fr.rf _ _, g, rfl, rfl⟩
    · obtain ⟨p1, p2⟩ := c_prt (v := v) g hR od (x3 := ((901 - (k + 1) : Nat) : Int)) (u4 := u4)
      rw [if_neg c, decide_eq_false c, if_pos yb0, if_pos g.1.t2, g.2.1.2.2.2.2.1]
      cases e1 : rPrt L od f n T with
      | inl e =>
        obtain ⟨m', od', z1, z2⟩ := p1 e e1
        rw [z1, j_X5_reads_140, if_pos rfl, j_X5_reads_152, if_pos zb0]
        exact ⟨m', rfl, z2⟩
      | inr q =>
        obtain ⟨m1, z1, z2, z3, z4⟩ := p2 q e1
        have hR1 := (pg_prt (L := L) hR od q e1).1
        have w := c_sem (v := 0) z3.1 z3.2.1 hR1
        rw [z1, j_X5_reads_140, if_neg (by decide), if_pos z3.1.t2]
        show RcC m f n _ (match rSem f n q.1 with
          | .inl e => .inl e
          | .inr q2 => rSlp f n k q.2 (od || isK T 0) q2.1)
        cases e2 : rSem f n q.1 with
        | inl e =>
          rw [e2] at w
          have w' : zF zP 126 0 [(.inr (.inr (some 2)))] m1 = some (some (.inl 0), bdC m1 e) := w
          rw [w', zC1_s, if_pos rfl, j_X5_reads_152, if_pos zb0]
          exact bd_out z3 z2
        | inr q2 =>
          rw [e2] at w
          obtain ⟨m2, b1, b2, b3⟩ := w
          have b1' : zF zP 126 0 [(.inr (.inr (some 2)))] m1 = some (some (.inl 1), m2) := b1
          have g2 := z3.tk b2 b3
          have i1 := ih q2.1 q.2 (od || isK T 0) (some (.inl 1)) m2 (by omega) (pg_sem hR1 q2 e2).1 g2
          have e3 : 901 - k = 901 - (k + 1) + 1 := by omega
          rw [e3] at i1
          rw [b1', zC1_s, if_neg (by decide), j_X5_reads_154, zadd1 (by omega)]
          show RcC m f n _ (rSlp f n k q.2 (od || isK T 0) q2.1)
          cases e4 : rSlp f n k q.2 (od || isK T 0) q2.1 with
          | inl e =>
            rw [e4] at i1
            obtain ⟨m', y1, y2, y3⟩ := i1
            exact ⟨m', y1, (z2.tr (tk_rd b2)).tr y2, y3⟩
          | inr q4 =>
            rw [e4] at i1
            obtain ⟨m', y1, y2, y3, y4⟩ := i1
            exact ⟨m', y1, (z2.tr (tk_rd b2)).tr y2, y3, (z4.tr (tk_fl b2)).tr y4⟩
/-- what reading changes at all -/
def brC (b j : Nat) : Prop := (b = 2 ∧ 3 ≤ j) ∨ (33 ≤ b ∧ b < 61)
theorem Fr.split {P : Nat → Nat → Prop} (h : Fr P m m') (hP : ∀ b j, P b j → b = 2 ∨ (33 ≤ b ∧ b < 61)) : ∃ m'' : zM, Sam m m'' 2 3 ∧ Sam m'' m' 33 61 := by
  refine ⟨(m.1, m.2.1, (fun b => if b = 2 then m'.2.2.1 2 else m.2.2.1 b), (fun b => if b = 2 then m'.2.2.2.1 2 else m.2.2.2.1 b), m.2.2.2.2), ⟨rfl, rfl, rfl, fun b hb => ⟨if_neg (by omega), if_neg (by omega)⟩⟩, h.1, h.2.1, h.2.2.1, fun b hb => ?_⟩
  by_cases e : b = 2
  · subst e; exact ⟨rfl, rfl⟩
  · have hn : ∀ j, ¬ P b j := fun j q => by have := hP b j q; omega
    exact ⟨(funext (fun j => h.i (hn j))).trans (if_neg e).symm, (funext (fun j => h.l (hn j))).trans (if_neg e).symm⟩
theorem R1.rd (hR : R1 S m) (h : Fr brC m m') (hd : DfB m') : R1 S m' := by
  obtain ⟨m'', h1, h2⟩ := h.split (fun b j q => by unfold brC at q; omega)
  obtain ⟨a1, a2, ⟨gtr, gtp, gbl, gmk, glv, gdf⟩⟩ := hR
  refine ⟨h2.s1 (h1.s1 a1), h2.h1 (by omega) (h1.h1 (by omega) a2), fun t ht => h2.trV (by omega) (h1.trV (by omega) (gtr t ht)), ?_, h2.bvC (by omega) (h1.bvC (by omega) gbl), ⟨gmk.1, fun i hi => h2.bvC (by omega) (h1.bvC (by omega) (gmk.2 i hi))⟩, fun p hp i hi => ?_, hd⟩
  · unfold TpV at gtp ⊢
    rw [h.i (by unfold brC; omega)]
    exact ⟨gtp.1, gtp.2.1, fun i hi => by rw [h.i (by unfold brC; omega)]; exact gtp.2.2.1 i hi, fun i hi => by rw [h.l (by unfold brC; omega)]; exact gtp.2.2.2 i hi⟩
  · rw [h2.i (by omega), h1.i (by omega)]; exact glv p hp i hi
theorem c_note (hR : R1 S m) {k p : Int} (h10 : zi m 2 10 = k) (h11 : zi m 2 11 = p) : ∃ m', zF zP 175 v [(.inr (.inr (some 0)))] m = some (none, m') ∧ Sam m m' 0 3 ∧ R1 (wTp (wFa S (some (k, p))) []) m' := by
  have hS := hR.1
  obtain ⟨a1, ⟨b13, b14, b15, b12, b9, b10, b8, bN⟩, ⟨gtr, gtp, gbl, gmk, glv, gdf⟩⟩ := hR
  have t2 : zT m 2 3 = true := hS.2.2.2.2.1.1
  have r1 : zr m 0 1 = some 2 := hS.2.1.2.1
  have hs : Sam m (zwi (zwi (zwi (zwi m 0 10 1) 0 11 k) 0 12 p) 2 2 0) 0 3 := (((Sam.wi m _ _ (by omega) (by omega)).tr (Sam.wi _ _ _ (by omega) (by omega))).tr (Sam.wi _ _ _ (by omega) (by omega))).tr (Sam.wi _ _ _ (by omega) (by omega))
  have g : ∀ j, j ≠ 10 → j ≠ 11 → j ≠ 12 → zi (zwi (zwi (zwi (zwi m 0 10 1) 0 11 k) 0 12 p) 2 2 0) 0 j = zi m 0 j := fun j q1 q2 q3 => by
    rw [zi_wi_n _ _ (Or.inl (by decide)), zi_wi_n _ _ (Or.inr q3), zi_wi_n _ _ (Or.inr q2), zi_wi_n _ _ (Or.inr q1)]
  refine ⟨_, ?_, hs, hs.s1 hS, ⟨?_, b14, b15, ?_, ?_, fun f hf => ?_, ?_, bN⟩, fun t ht => hs.trV (by omega) (gtr t ht), ?_, hs.bvC (by omega) gbl, ⟨gmk.1, fun i hi => hs.bvC (by omega) (gmk.2 i hi)⟩, fun q hq i hi => ?_, hs.dfb (by omega) gdf⟩
  · rw [f_X10_noteFault, if_pos (by rw [hS.1]; rfl), zT_wi, if_pos hS.1]
    show (zr m 0 1).bind _ = _
    rw [r1, obind, if_pos t2, if_pos hS.1, zT_wi, zT_wi, if_pos hS.1, zi_wi_n _ _ (Or.inl (by decide)), h10]
    show (zr m 0 1).bind _ = _
    rw [r1, obind, if_pos t2, if_pos hS.1, zi_wi_n _ _ (Or.inl (by decide)), zi_wi_n _ _ (Or.inl (by decide)), h11]
    show (if zT m 0 6 = true then (zr m 0 1).bind _ else none) = _
    rw [if_pos hS.1, r1, obind]
    show (if zT m 2 3 = true then _ else none) = _
    rw [if_pos t2]
  · rw [g 14 (by decide) (by decide) (by decide)]; exact b13
  · rw [g 13 (by decide) (by decide) (by decide)]; exact b12
  · rw [zi_wi_n _ _ (Or.inl (by decide)), zi_wi_n _ _ (Or.inr (by decide)), zi_wi_n _ _ (Or.inr (by decide)), zi_wi_s]; rfl
  · have hf' : (k, p) = f := Option.some.inj hf
    rw [← hf']
    exact ⟨by rw [zi_wi_n _ _ (Or.inl (by decide)), zi_wi_n _ _ (Or.inr (by decide)), zi_wi_s], by rw [zi_wi_n _ _ (Or.inl (by decide)), zi_wi_s]⟩
  · rw [g 9 (by decide) (by decide) (by decide)]; exact b8
  · refine ⟨zi_wi_s _ _ _ _, Nat.zero_le _, fun i hi => absurd hi (Nat.not_lt_zero i), fun i hi => ?_⟩
    rw [zl_wi, zl_wi, zl_wi, zl_wi]; exact gtp.2.2.2 i hi
  · rw [hs.i (by omega)]; exact glv q hq i hi
end SLIPC6
