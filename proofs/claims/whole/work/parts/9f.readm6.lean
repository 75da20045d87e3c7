/-! The reference reads a WORD, ODDS, a PERSON. -/
noncomputable def psT (v : Nat) (c2 : Int) (m5 : zM) : Option zO := if zT m5 0 7 = true then (zr m5 0 20).bind (fun b6 => if zT m5 0 7 = true then zC1 (zF zP 293 0 [.inr (.inr (some 0)), .inl (4)] m5) (fun c8 m7 => if zA m7 b6 9 (zadd (2113) c2) = true then if zT (zwi m7 b6 (Int.toNat (zadd (2113) c2)) c8) 0 7 = true then (zr (zwi m7 b6 (Int.toNat (zadd (2113) c2)) c8) 0 20).bind (fun b9 => if zA (zwi m7 b6 (Int.toNat (zadd (2113) c2)) c8) b9 9 (zadd (2119) c2) = true then if zT (zwi (zwi m7 b6 (Int.toNat (zadd (2113) c2)) c8) b9 (Int.toNat (zadd (2119) c2)) (0)) 0 7 = true then if (zi (zwi (zwi m7 b6 (Int.toNat (zadd (2113) c2)) c8) b9 (Int.toNat (zadd (2119) c2)) (0)) 0 12) = 0 then if zT (zwi (zwi m7 b6 (Int.toNat (zadd (2113) c2)) c8) b9 (Int.toNat (zadd (2119) c2)) (0)) 0 7 = true then zC1 (zF zP 271 0 [.inr (.inr (some 0))] (zwi (zwi m7 b6 (Int.toNat (zadd (2113) c2)) c8) b9 (Int.toNat (zadd (2119) c2)) (0))) (fun c11 m10 => if c11 = 0 then zX zP 300 v 61 [some (.inr (.inr (some 0))), some (.inl c2)] [] m10 else if zT m10 0 7 = true then zC0 (zF zP 299 0 [.inr (.inr (some 0)), .inl c2] m10) (fun m12 => zX zP 300 v 61 [some (.inr (.inr (some 0))), some (.inl c2)] [] m12) else none) else none else zX zP 300 v 61 [some (.inr (.inr (some 0))), some (.inl c2)] [] (zwi (zwi m7 b6 (Int.toNat (zadd (2113) c2)) c8) b9 (Int.toNat (zadd (2119) c2)) (0)) else none else none) else none else none) else none) else none
theorem ps_eq {v : Nat} {m : zM} : zF zP 300 v [(.inr (.inr (some 0)))] m = if zT m 0 7 = true then zC1 (zF zP 289 0 [.inr (.inr (some 0)), .inl (1), .inl (6)] m) (fun c2 m1 => if zT m1 0 7 = true then zC1 (zF zP 270 0 [.inr (.inr (some 0))] m1) (fun c4 m3 => if zT m3 0 7 = true then zC0 (zF zP 280 0 [.inr (.inr (some 0)), .inl c4] m3) (fun m5 => psT v c2 m5) else none) else none) else none := f_X11_readPerson 0 m
section READM6
variable {v : Nat} {m m' : zM} {f : Nat → Nat} {n : Nat} {T : zTok} {L : zLd} {e : Nat × Nat}
theorem m_readNew (g : GdM m f n T) (hR : TkR n T) (hB : BuM m L) {s k mo : Nat} (hs : s < 2) (hk : zF zP 287 0 [(.inr (.inr (some 0))), .inl 4, .inl (s : Int)] m = some (some (.inl (k : Int)), m)) (hk8 : k < 8) (hk14 : 8 * s + k < 14) (hne : k ≠ mo) :
    (∀ e, rNew L f n (nxT f n T) = .inl e → ∃ m', zF zP 289 v [(.inr (.inr (some 0))), .inl (s : Int), .inl (mo : Int)] m = some (some (.inl 0), m') ∧ Fr rmP m m' ∧ BdM m' f n e) ∧
    (∀ q, rNew L f n (nxT f n T) = .inr q → ∃ m1 m', zF zP 289 v [(.inr (.inr (some 0))), .inl (s : Int), .inl (mo : Int)] m = some (some (.inl (k : Int)), m') ∧ Fr tmP m m1 ∧ Fr tmP (zwl m1 7 (56 + 8 * s + k) (q.2 : Int)) m' ∧ GdM m' f n q.1) := by
  obtain ⟨m1, a1, a2, a3⟩ := m_adv (v := 0) g hR
  have hR1 := nxT_R (f := f) hR
  have hB1 := hB.tm a2
  have hN1 := BuNm hB1.1
  have st : zF zP 289 v [(.inr (.inr (some 0))), .inl (s : Int), .inl (mo : Int)] m = if b01 (isNm (nxT f n T)) = 0 then (if zT m1 0 7 = true then zC0 (zF zP 279 0 [(.inr (.inr (some 0)))] m1) (fun m4 => zX zP 289 v 46 [some (.inr (.inr (some 0))), some (.inl (s : Int)), some (.inl (mo : Int)), some (.inl (k : Int))] [] m4) else none) else zX zP 289 v 46 [some (.inr (.inr (some 0))), some (.inl (s : Int)), some (.inl (mo : Int)), some (.inl (k : Int))] [] m1 := by
    rw [f_X11_readNew, if_pos g.1.t, hk, zC1_s, if_neg (show ¬ (k : Int) = (mo : Int) by omega), j_X11_readNew_22, if_pos g.1.t, g.2.2.2, if_neg (by decide), j_X11_readNew_31, if_pos g.1.t, a1, zC0_s, if_pos a3.1.t, m_isName a3, zC1_s]
  -- a FAULT told
  have bad : ∀ {m2 : zM} {e : Nat × Nat}, BdM m2 f n e → zX zP 289 v 80 [some (.inr (.inr (some 0))), some (.inl (s : Int)), some (.inl (mo : Int)), some (.inl (k : Int))] [] m2 = some (some (.inl 0), m2) := fun {m2 e} b => by
    have := b.2.2.2
    rw [j_X11_readNew_80, if_pos b.1.t, b.2.1, if_pos (by omega)]
  have f3 : isNm (nxT f n T) = true → ∃ m', zX zP 289 v 71 [some (.inr (.inr (some 0))), some (.inl (s : Int)), some (.inl (mo : Int)), some (.inl (k : Int))] [] m1 = some (some (.inl 0), m') ∧ Fr rmP m m' ∧ BdM m' f n (3, (nxT f n T).2.1) := fun _ => by
    have hf : zF zP 278 0 [(.inr (.inr (some 0))), .inl 3, .inl ((nxT f n T).2.1 : Int)] m1 = some (none, bdM m1 (3, (nxT f n T).2.1)) := m_failG a3 3 (nxT f n T).2.1
    have b := a3.bd (e := (3, (nxT f n T).2.1)) (Nat.succ_pos 2)
    rw [j_X11_readNew_71, if_pos a3.1.t, if_pos a3.1.t, a3.2.1.2.1, hf, zC0_s, bad b]
    exact ⟨_, rfl, (tm_rm a2).tr (fl_rm (bdM_fr m1 _)), b⟩
  rw [st]
  unfold rNew
  by_cases c : isNm (nxT f n T) = true
  · have nW : zF zP 288 0 [(.inr (.inr (some 0))), .inl 4, .inl 0] m1 = some (some (.inl (wnum L ((nxT f n T).2.2.2.1 : Int))), m1) := m_namedW a3.1.1 (b := 4) (by decide) hN1 (m_word19 a3 c)
    have nP : zF zP 288 0 [(.inr (.inr (some 0))), .inl 4, .inl 1] m1 = some (some (.inl (pnum L ((nxT f n T).2.2.2.1 : Int))), m1) := m_namedP a3.1.1 (b := 4) (by decide) hN1 (m_word19 a3 c)
    rw [if_pos c, c, if_neg nb1, j_X11_readNew_46, if_pos a3.1.t, a3.2.2.2, if_pos rfl, if_pos a3.1.t, nW, zC1_s]
    by_cases cw : wnum L ((nxT f n T).2.2.2.1 : Int) = -1
    · rw [if_pos (show wnum L ((nxT f n T).2.2.2.1 : Int) < 0 by rw [cw]; decide), if_pos a3.1.t, nP, zC1_s]
      by_cases cp : pnum L ((nxT f n T).2.2.2.1 : Int) = -1
      · have e56 : ∀ _ : Unit, zadd (zadd 56 (zmul 8 (s : Int))) (k : Int) = ((56 + 8 * s + k : Nat) : Int) := fun _ => by
          rw [show zmul 8 (s : Int) = ((8 * s : Nat) : Int) from zmul_nat (n := 8) (by omega), show zadd 56 ((8 * s : Nat) : Int) = ((56 + 8 * s : Nat) : Int) from zadd_nat (n := 56) (by omega)]
          exact zadd_nat (by omega)
        have k7 : ArS m1 7 10 70 := a3.1.1.2.2.2.1.2.2.1
        have r22 : zr m1 0 22 = some 7 := a3.1.1.2.1.2.1.2.2.1
        have hw : Fr wrP m1 (zwl m1 7 (56 + 8 * s + k) ((nxT f n T).2.2.2.1 : Int)) := Fr.wl m1 _ (Or.inr ⟨rfl, by omega⟩)
        have g2 := a3.wr hw
        obtain ⟨m', x1, x2, x3⟩ := m_adv (v := 0) g2 hR1
        rw [if_pos (show pnum L ((nxT f n T).2.2.2.1 : Int) < 0 by rw [cp]; decide), if_pos (show wnum L ((nxT f n T).2.2.2.1 : Int) = -1 ∧ pnum L ((nxT f n T).2.2.2.1 : Int) = -1 from ⟨cw, cp⟩), j_X11_readNew_80, if_pos a3.1.t, a3.2.2.2, if_neg (by decide), j_X11_readNew_89, if_pos a3.1.t, r22, obind, if_pos a3.1.t, e56 (), if_pos (k7.A (by omega) (by omega)), Int.toNat_natCast, m_word19 a3 c, zT_wl, if_pos a3.1.t, x1, zC0_s]
        refine ⟨fun e h => (nomatch h), fun q h => ?_⟩
        have h' : (nxT f n (nxT f n T), (nxT f n T).2.2.2.1) = q := Sum.inr.inj h
        rw [← h']
        exact ⟨m1, m', rfl, a2, x2, x3⟩
      · have hge : ¬ pnum L ((nxT f n T).2.2.2.1 : Int) < 0 := by
          rcases pnum_of L ((nxT f n T).2.2.2.1 : Int) with w | ⟨i, w, _⟩
          · exact absurd w cp
          · omega
        rw [if_neg hge, if_neg (show ¬ (wnum L ((nxT f n T).2.2.2.1 : Int) = -1 ∧ pnum L ((nxT f n T).2.2.2.1 : Int) = -1) from fun w => cp w.2)]
        refine ⟨fun e h => ?_, fun q h => (nomatch h)⟩
        have h' : (3, (nxT f n T).2.1) = e := Sum.inl.inj h
        rw [← h']
        exact f3 c
    · have hge : ¬ wnum L ((nxT f n T).2.2.2.1 : Int) < 0 := by
        rcases wnum_of L ((nxT f n T).2.2.2.1 : Int) with w | ⟨i, w, _⟩
        · exact absurd w cw
        · omega
      rw [if_neg hge, if_neg (show ¬ (wnum L ((nxT f n T).2.2.2.1 : Int) = -1 ∧ pnum L ((nxT f n T).2.2.2.1 : Int) = -1) from fun w => cw w.1)]
      refine ⟨fun e h => ?_, fun q h => (nomatch h)⟩
      have h' : (3, (nxT f n T).2.1) = e := Sum.inl.inj h
      rw [← h']
      exact f3 c
  · have bp := kMis_pos (nxT f n T)
    have b := a3.bd (e := kMis (nxT f n T)) bp
    have bne : ¬ zi (bdM m1 (kMis (nxT f n T))) 0 12 = 0 := by rw [b.2.1]; omega
    rw [if_neg c, bool_f c, if_pos yb0, if_pos a3.1.t, m_amissG a3, zC0_s, j_X11_readNew_46, if_pos b.1.t, if_neg bne, bad b]
    refine ⟨fun e h => ?_, fun q h => (nomatch h)⟩
    have h' : kMis (nxT f n T) = e := Sum.inl.inj h
    rw [← h']
    exact ⟨_, rfl, (tm_rm a2).tr (fl_rm (bdM_fr m1 _)), b⟩
theorem m_readNew_full (g : GdM m f n T) {s k mo : Nat} (hk : zF zP 287 0 [(.inr (.inr (some 0))), .inl 4, .inl (s : Int)] m = some (some (.inl (k : Int)), m)) (he : k = mo) : zF zP 289 v [(.inr (.inr (some 0))), .inl (s : Int), .inl (mo : Int)] m = some (some (.inl 0), bdM m (6, T.2.1)) ∧ BdM (bdM m (6, T.2.1)) f n (6, T.2.1) := by
  have hf : zF zP 278 0 [(.inr (.inr (some 0))), .inl 6, .inl (T.2.1 : Int)] m = some (none, bdM m (6, T.2.1)) := m_failG g 6 T.2.1
  have b := g.bd (e := (6, T.2.1)) (Nat.succ_pos 5)
  refine ⟨?_, b⟩
  rw [f_X11_readNew, if_pos g.1.t, hk, zC1_s, if_pos (show (k : Int) = (mo : Int) by omega), if_pos g.1.t, if_pos g.1.t, g.2.1.2.1, hf, zC0_s, j_X11_readNew_22, if_pos b.1.t, b.2.1, if_pos (show (0 : Int) < ((6 : Nat) : Int) by decide)]
theorem m_wdP (g : GdM m f n T) (hR : TkR n T) (hB : BuM m L) : RcM m f n (zF zP 295 v [(.inr (.inr (some 0)))] m) (rWdP L f n T) := by
  have h8 : L.1.length ≤ 8 := hB.1.1.2.1
  have hk : zF zP 287 0 [(.inr (.inr (some 0))), .inl 4, .inl ((0 : Nat) : Int)] m = some (some (.inl (L.1.length : Int)), m) := m_manyW g.1.1 (b := 4) (by decide) (BuNm hB.1)
  rw [f_X11_readWordOf, if_pos g.1.t]
  unfold rWdP
  by_cases c8 : L.1.length = 8
  · obtain ⟨z1, z2⟩ := m_readNew_full (v := 0) g hk (mo := 8) c8
    have z1' : zF zP 289 0 [(.inr (.inr (some 0))), .inl 0, .inl 8] m = some (some (.inl 0), bdM m (6, T.2.1)) := z1
    have bne : ¬ zi (bdM m (6, T.2.1)) 0 12 = 0 := by rw [z2.2.1]; exact (by decide : ¬ ((6 : Nat) : Int) = 0)
    rw [if_pos c8, z1', zC1_s, if_pos z2.1.t, if_neg bne, j_X11_readWordOf_27]
    exact ⟨_, rfl, fl_rm (bdM_fr m _), z2⟩
  · obtain ⟨r1, r2⟩ := m_readNew (v := 0) g hR hB (s := 0) (mo := 8) (by decide) hk (by omega) (by omega) c8
    rw [if_neg c8]
    cases e1 : rNew L f n (nxT f n T) with
    | inl e =>
      obtain ⟨m', z1, z2, z3⟩ := r1 e e1
      have z1' : zF zP 289 0 [(.inr (.inr (some 0))), .inl 0, .inl 8] m = some (some (.inl 0), m') := z1
      have bne : ¬ zi m' 0 12 = 0 := by rw [z3.2.1]; have := z3.2.2.2; omega
      rw [z1', zC1_s, if_pos z3.1.t, if_neg bne, j_X11_readWordOf_27]
      exact ⟨m', rfl, z2, z3⟩
    | inr q =>
      obtain ⟨m1, m2, z1, z2, z3, z4⟩ := r2 q e1
      have z1' : zF zP 289 0 [(.inr (.inr (some 0))), .inl 0, .inl 8] m = some (some (.inl (L.1.length : Int)), m2) := z1
      have hB1 := hB.tm z2
      have hw7 : Fr wrP m1 (zwl m1 7 (56 + 8 * 0 + L.1.length) (q.2 : Int)) := Fr.wl m1 _ (Or.inr ⟨rfl, by omega⟩)
      have hc0 : zi m2 5 (Int.toNat 1956) = (L.1.length : Int) := by
        show zi m2 5 1956 = _
        rw [z3.i (by unfold tmP; omega), zi_wl]; exact hB1.1.1.1
      have hw5 : Fr wrP m2 (zwi m2 5 1956 ((L.1.length + 1 : Nat) : Int)) := Fr.wi m2 _ (Or.inl ⟨rfl, by omega⟩)
      have hall : Fr (fun b j => tmP b j ∨ (b = 7 ∧ j = 56 + L.1.length) ∨ (b = 5 ∧ j = 1956)) m1 (zwi m2 5 1956 ((L.1.length + 1 : Nat) : Int)) := ((Fr.wl m1 _ (Or.inr (Or.inl ⟨rfl, by omega⟩))).tr (z3.mono (fun b j q => Or.inl q))).tr (Fr.wi m2 _ (Or.inr (Or.inr ⟨rfl, rfl⟩)))
      have n5 : ∀ j, j ≠ 1956 → ¬ (fun b j => tmP b j ∨ (b = 7 ∧ j = 56 + L.1.length) ∨ (b = 5 ∧ j = 1956)) 5 j := fun j z w => by
        have w' : tmP 5 j ∨ (5 = 7 ∧ j = 56 + L.1.length) ∨ (5 = 5 ∧ j = 1956) := w
        unfold tmP at w'; omega
      have n7 : ∀ j, j ≠ 56 + L.1.length → ¬ (fun b j => tmP b j ∨ (b = 7 ∧ j = 56 + L.1.length) ∨ (b = 5 ∧ j = 1956)) 7 j := fun j z w => by
        have w' : tmP 7 j ∨ (7 = 7 ∧ j = 56 + L.1.length) ∨ (7 = 5 ∧ j = 1956) := w
        unfold tmP at w'; omega
      rw [z1', zC1_s, if_pos z4.1.t, z4.2.2.2, if_pos rfl, if_pos z4.1.t, z4.1.1.2.1.2.1.1, obind, if_pos (A5 z4.1.1 (by omega) (by omega)), if_pos (A5 z4.1.1 (by omega) (by omega)), hc0, zadd1 (by omega), j_X11_readWordOf_27]
      refine ⟨zwi m2 5 1956 ((L.1.length + 1 : Nat) : Int), rfl, (((tm_rm z2).tr (wr_rm hw7)).tr (tm_rm z3)).tr (wr_rm hw5), z4.wr hw5, ?_⟩
      obtain ⟨⟨w1, w2, w3⟩, ⟨l1, l2, l3⟩, ⟨p1, p2, p3⟩, ⟨o1, o2⟩, hyr⟩ := hB1.1
      have hcc : ∀ i k, cellN i k = 29 + 16 * i + 4 * k := fun _ _ => rfl
      have hlen : (addWd L (q.2 : Int)).1.length = L.1.length + 1 := by
        show (L.1 ++ [(q.2 : Int)]).length = _
        rw [List.length_append]; rfl
      refine ⟨⟨⟨?_, ?_, fun i hi => ?_⟩, ⟨?_, l2, fun i hi => ?_⟩, ⟨?_, p2, fun i hi => ⟨?_, (p3 i hi).2⟩⟩, ⟨?_, ?_⟩, hall.yvM (fun j z1 z2 => n5 j (by omega)) hyr⟩, fun i z1 z2 => ⟨?_, ?_, fun k hk => ?_⟩⟩
      · show zi (zwi m2 5 1956 _) 5 1956 = (((addWd L (q.2 : Int)).1.length : Nat) : Int)
        rw [zi_wi_s, hlen]
      · show (addWd L (q.2 : Int)).1.length ≤ 8
        rw [hlen]; omega
      · have hi' : i < L.1.length + 1 := by
          have z : i < (addWd L (q.2 : Int)).1.length := hi
          rw [hlen] at z; exact z
        show zl _ 7 (56 + i) = (L.1 ++ [(q.2 : Int)]).getD i 0
        by_cases z : i = L.1.length
        · subst z
          rw [getD_app_r, zl_wi, z3.l (by unfold tmP; omega), show 56 + 8 * 0 + L.1.length = 56 + L.1.length by omega, zl_wl_s]
        · rw [getD_app_l (by omega), hall.l (n7 _ (by omega))]
          exact w3 i (show i < L.1.length by omega)
      · rw [hall.i (n5 _ (by omega))]; exact l1
      · exact hall.mlB (n5 _ (by omega)) (n5 _ (by omega)) (n5 _ (by omega)) (fun j z1 z2 => n5 j (by omega)) (l3 i hi)
      · rw [hall.i (n5 _ (by omega))]; exact p1
      · exact hall.psB (n7 _ (by omega)) (n5 _ (by omega)) (n5 _ (by omega)) (fun j z1 z2 => n5 j (by omega)) (p3 i hi).1
      · rw [hall.i (n5 _ (by omega))]; exact o1
      · rw [hall.i (n5 _ (by omega))]; exact o2
      · rw [hall.i (n5 _ (by omega))]; exact (hB1.2 i z1 z2).1
      · rw [hall.i (n5 _ (by omega))]; exact (hB1.2 i z1 z2).2.1
      · have := hcc i k
        rw [hall.i (n5 _ (by omega))]; exact (hB1.2 i z1 z2).2.2 k hk
end READM6
