/-! The reference reads a PERSON, ODDS, a PART. -/
def rpP (b j : Nat) : Prop := rmP b j ∨ (b = 0 ∧ j = 24)
section READM8
variable {v : Nat} {m m' : zM} {f : Nat → Nat} {n : Nat} {T : zTok} {L : zLd} {e : Nat × Nat}
theorem m_psn (g : GdM m f n T) (hR : TkR n T) (hB : BuM m L) : RcM m f n (zF zP 300 v [(.inr (.inr (some 0)))] m) (rPsn L f n T) := by
  have h6 : L.2.2.1.length ≤ 6 := hB.1.2.2.1.2.1
  have hk : zF zP 287 0 [(.inr (.inr (some 0))), .inl 4, .inl ((1 : Nat) : Int)] m = some (some (.inl (L.2.2.1.length : Int)), m) := m_manyP g.1.1 (b := 4) (by decide) (BuNm hB.1)
  rw [ps_eq, if_pos g.1.t]
  unfold rPsn
  by_cases c6 : L.2.2.1.length = 6
  · obtain ⟨z1, z2⟩ := m_readNew_full (v := 0) g hk (mo := 6) c6
    have z1' : zF zP 289 0 [(.inr (.inr (some 0))), .inl 1, .inl 6] m = some (some (.inl 0), bdM m (6, T.2.1)) := z1
    obtain ⟨y, hy⟩ := m_isAt_any (v := 0) z2.1
    obtain ⟨m', f1, f2, f3⟩ := m_psTB (v := v) z2 (p := 0) (by decide)
    have f1' : psT v 0 (bdM m (6, T.2.1)) = some (none, m') := f1
    rw [if_pos c6, z1', zC1_s, if_pos z2.1.t, hy, zC1_s, if_pos z2.1.t, m_mustB z2, zC0_s, f1']
    exact ⟨m', rfl, (fl_rm (bdM_fr m _)).tr (wr_rm f2), f3⟩
  · obtain ⟨r1, r2⟩ := m_readNew (v := 0) g hR hB (s := 1) (mo := 6) (by decide) hk (by omega) (by omega) c6
    rw [if_neg c6]
    cases e1 : rNew L f n (nxT f n T) with
    | inl e =>
      obtain ⟨m1, z1, z2, z3⟩ := r1 e e1
      have z1' : zF zP 289 0 [(.inr (.inr (some 0))), .inl 1, .inl 6] m = some (some (.inl 0), m1) := z1
      obtain ⟨y, hy⟩ := m_isAt_any (v := 0) z3.1
      obtain ⟨m', f1, f2, f3⟩ := m_psTB (v := v) z3 (p := 0) (by decide)
      have f1' : psT v 0 m1 = some (none, m') := f1
      rw [z1', zC1_s, if_pos z3.1.t, hy, zC1_s, if_pos z3.1.t, m_mustB z3, zC0_s, f1']
      exact ⟨m', rfl, z2.tr (wr_rm f2), f3⟩
    | inr q =>
      obtain ⟨m1, m2, z1, z2, z3, z4⟩ := r2 q e1
      have z1' : zF zP 289 0 [(.inr (.inr (some 0))), .inl 1, .inl 6] m = some (some (.inl (L.2.2.1.length : Int)), m2) := z1
      have hp : L.2.2.1.length < 6 := by omega
      have hB1 := hB.tm z2
      have hR2 := (pg_new (L := L) (f := f) (nxT_R (f := f) hR) q e1).1
      have hw7 : Fr wrP m1 (zwl m1 7 (56 + 8 * 1 + L.2.2.1.length) (q.2 : Int)) := Fr.wl m1 _ (Or.inr ⟨rfl, by omega⟩)
      have h7f : Fr (fun b j => b = 7 ∧ j = 64 + L.2.2.1.length) m1 (zwl m1 7 (56 + 8 * 1 + L.2.2.1.length) (q.2 : Int)) := Fr.wl m1 _ ⟨rfl, by omega⟩
      have q5 : ∀ j, ¬ (fun b j => b = 7 ∧ j = 64 + L.2.2.1.length) 5 j := fun j w => absurd w.1 (by decide)
      have q7 : ∀ j, j ≠ 64 + L.2.2.1.length → ¬ (fun b j => b = 7 ∧ j = 64 + L.2.2.1.length) 7 j := fun j z w => z w.2
      have hW8 : L.1.length ≤ 8 := hB1.1.1.2.1
      have hBw : BuM (zwl m1 7 (56 + 8 * 1 + L.2.2.1.length) (q.2 : Int)) L := ⟨hB1.1.keep h7f (fun j _ _ => q5 j) (fun i _ => ⟨q5 _, q5 _, q5 _, fun j _ _ => q5 j⟩) (fun i hi => ⟨q7 _ (by have hi' : i < L.2.2.1.length := hi; omega), q5 _, q5 _, fun j _ _ => q5 j⟩) (fun i hi => q7 _ (by have hi' : i < L.1.length := hi; omega)) (fun j _ _ => q5 j), fun i z1 z2 => ⟨by rw [h7f.i (q5 _)]; exact (hB1.2 i z1 z2).1, by rw [h7f.i (q5 _)]; exact (hB1.2 i z1 z2).2.1, fun k hk => by rw [h7f.i (q5 _)]; exact (hB1.2 i z1 z2).2.2 k hk⟩⟩
      have hB2 := hBw.tm z3
      have hname : zl m2 7 (64 + L.2.2.1.length) = (q.2 : Int) := by
        rw [z3.l (by unfold tmP; omega), show 56 + 8 * 1 + L.2.2.1.length = 64 + L.2.2.1.length by omega, zl_wl_s]
      have hF2 : Fr rmP m m2 := ((tm_rm z2).tr (wr_rm hw7)).tr (tm_rm z3)
      rw [z1', zC1_s, if_pos z4.1.t, m_isAt z4, zC1_s, if_pos z4.1.t]
      show RcM m f n _ (match rKey f n q.1 10 with
        | .inl e => .inl e
        | .inr q2 => match rLin L f n q2.1 with
          | .inl e => .inl e
          | .inr q3 => if isK q3.1 11 = true then (match rSai L f n 9 (nxT f n q3.1) [] with
            | .inl e => .inl e
            | .inr q4 => .inr (q4.1, addPs L ((q.2 : Int), q3.2, q4.2))) else .inr (q3.1, addPs L ((q.2 : Int), q3.2, [])))
      unfold rKey
      by_cases ck : isK q.1 10 = true
      · obtain ⟨m3, d1, d2, d3⟩ := m_mustT (v := 0) z4 hR2
        have d1' : zF zP 280 0 [(.inr (.inr (some 0))), .inl (b01 true)] m2 = some (none, m3) := d1
        have hR3 := nxT_R (f := f) hR2
        have hB3 := hB2.tm d2
        have hF3 := hF2.tr (tm_rm d2)
        have rl : RdM m3 f n (zF zP 293 0 [(.inr (.inr (some 0))), .inl 4] m3) (fun x : Nat => (x : Int)) (rLin L f n (nxT f n q.1)) := m_rLin d3 hR3 (b := 4) (by decide) (BuNm hB3.1)
        rw [if_pos ck, ck, d1', zC0_s]
        show RcM m f n _ (match rLin L f n (nxT f n q.1) with
          | .inl e => .inl e
          | .inr q3 => if isK q3.1 11 = true then (match rSai L f n 9 (nxT f n q3.1) [] with
            | .inl e => .inl e
            | .inr q4 => .inr (q4.1, addPs L ((q.2 : Int), q3.2, q4.2))) else .inr (q3.1, addPs L ((q.2 : Int), q3.2, [])))
        cases e3 : rLin L f n (nxT f n q.1) with
        | inl e =>
          rw [e3] at rl
          obtain ⟨w1, w2⟩ := rl
          have b := d3.bd (e := e) w2
          have bne : ¬ zi (bdM m3 e) 0 12 = 0 := by rw [b.2.1]; omega
          have hw := p2w_fr (m := bdM m3 e) (p := L.2.2.1.length) 0
          rw [m_psT d3.1 hp b.1 w1, if_neg bne, m_ps61B (b.wr hw)]
          exact ⟨_, rfl, (hF3.tr (fl_rm (bdM_fr m3 e))).tr (wr_rm hw), b.wr hw⟩
        | inr q3 =>
          rw [e3] at rl
          obtain ⟨m4, x1, x2, x3⟩ := rl
          have hR4 := (pg_lin (L := L) (f := f) hR3 q3 e3).1
          have hq3 := rLin_lt e3
          have hB4 := hB3.tm x2
          have hw := p2w_fr (m := m4) (p := L.2.2.1.length) (q3.2 : Int)
          have g5 := x3.wr hw
          have hF4 := (hF3.tr (tm_rm x2)).tr (wr_rm hw)
          have hname4 : zl m4 7 (64 + L.2.2.1.length) = (q.2 : Int) := by
            rw [x2.l (by unfold tmP; omega), d2.l (by unfold tmP; omega)]; exact hname
          -- at last: the PERSON is one more
          have fin : ∀ (m6 : zM) (T' : zTok) (l : List Nat), GdM m6 f n T' → Fr (saP L.2.2.1.length) (p2w m4 L.2.2.1.length (q3.2 : Int)) m6 → rOk l → zi m6 5 (2119 + L.2.2.1.length) = (l.length : Int) → (∀ j, j < l.length → zi m6 5 (2125 + 8 * L.2.2.1.length + j) = ((l.getD j 0 : Nat) : Int)) →
              ∃ m', zX zP 300 v 61 [some (.inr (.inr (some 0))), some (.inl (L.2.2.1.length : Int))] [] m6 = some (none, m') ∧ Fr rmP m m' ∧ GdM m' f n T' ∧ BuM m' (addPs L ((q.2 : Int), q3.2, l)) := by
            intro m6 T' l g6 hs hok hlen hce
            have hall : Fr (fun b j => saP L.2.2.1.length b j ∨ (b = 5 ∧ (j = 2113 + L.2.2.1.length ∨ j = 2119 + L.2.2.1.length ∨ j = 1958))) m4 (zwi m6 5 1958 ((L.2.2.1.length + 1 : Nat) : Int)) := (((Fr.wi m4 _ (Or.inr ⟨rfl, Or.inl rfl⟩)).tr (Fr.wi _ _ (Or.inr ⟨rfl, Or.inr (Or.inl rfl)⟩))).tr (hs.mono (fun b j q => Or.inl q))).tr (Fr.wi m6 _ (Or.inr ⟨rfl, Or.inr (Or.inr rfl)⟩))
            have n5 : ∀ j, j ≠ 1958 → j ≠ 2113 + L.2.2.1.length → j ≠ 2119 + L.2.2.1.length → (j < 2125 + 8 * L.2.2.1.length ∨ 2133 + 8 * L.2.2.1.length ≤ j) → ¬ (fun b j => saP L.2.2.1.length b j ∨ (b = 5 ∧ (j = 2113 + L.2.2.1.length ∨ j = 2119 + L.2.2.1.length ∨ j = 1958))) 5 j := fun j k1 k2 k3 k4 w => by
              have w' : saP L.2.2.1.length 5 j ∨ (5 = 5 ∧ (j = 2113 + L.2.2.1.length ∨ j = 2119 + L.2.2.1.length ∨ j = 1958)) := w
              unfold saP tmP flP at w'; omega
            have n7 : ∀ j, ¬ (fun b j => saP L.2.2.1.length b j ∨ (b = 5 ∧ (j = 2113 + L.2.2.1.length ∨ j = 2119 + L.2.2.1.length ∨ j = 1958))) 7 j := fun j w => by
              have w' : saP L.2.2.1.length 7 j ∨ (7 = 5 ∧ (j = 2113 + L.2.2.1.length ∨ j = 2119 + L.2.2.1.length ∨ j = 1958)) := w
              unfold saP tmP flP at w'; omega
            have hc6 : zi m6 5 (Int.toNat 1958) = (L.2.2.1.length : Int) := by
              show zi m6 5 1958 = _
              rw [hs.i (by unfold saP tmP flP; omega)]
              unfold p2w
              rw [zi_wi_n _ _ (Or.inr (by omega)), zi_wi_n _ _ (Or.inr (by omega))]
              exact hB4.1.2.2.1.1
            have hw6 : Fr wrP m6 (zwi m6 5 1958 ((L.2.2.1.length + 1 : Nat) : Int)) := Fr.wi m6 _ (Or.inl ⟨rfl, by omega⟩)
            refine ⟨zwi m6 5 1958 ((L.2.2.1.length + 1 : Nat) : Int), ?_, (hF4.tr (sa_rm hs)).tr (wr_rm hw6), g6.wr hw6, ?_⟩
            · rw [j_X11_readPerson_61, if_pos g6.1.t, g6.2.2.2, if_pos rfl, if_pos g6.1.t, g6.1.1.2.1.2.1.1, obind, if_pos (A5 g6.1.1 (by omega) (by omega)), if_pos (A5 g6.1.1 (by omega) (by omega)), hc6, zadd1 (by omega), j_X11_readPerson_80]; rfl
            obtain ⟨⟨w1, w2, w3⟩, ⟨l1, l2, l3⟩, ⟨p1, p2, p3⟩, ⟨o1, o2⟩, hyr⟩ := hB4.1
            have hcc : ∀ i k, cellN i k = 29 + 16 * i + 4 * k := fun _ _ => rfl
            have hpl := addPs_len L ((q.2 : Int), q3.2, l)
            have l8 : L.2.1.length ≤ 8 := l2
            refine ⟨⟨⟨?_, w2, fun i hi => ?_⟩, ⟨?_, l2, fun i hi => ?_⟩, ⟨?_, ?_, fun i hi => ?_⟩, ⟨?_, ?_⟩, hall.yvM (fun j z1 z2 => n5 j (by omega) (by omega) (by omega) (by omega)) hyr⟩, fun i z1 z2 => ⟨?_, ?_, fun k hk => ?_⟩⟩
            · rw [hall.i (n5 _ (by omega) (by omega) (by omega) (by omega))]; exact w1
            · rw [hall.l (n7 _)]; exact w3 i hi
            · rw [hall.i (n5 _ (by omega) (by omega) (by omega) (by omega))]; exact l1
            · have hi8 : i < L.2.1.length := hi
              exact hall.mlB (n5 _ (by omega) (by omega) (by omega) (by omega)) (n5 _ (by omega) (by omega) (by omega) (by omega)) (n5 _ (by omega) (by omega) (by omega) (by omega)) (fun j z1 z2 => n5 j (by omega) (by omega) (by omega) (by omega)) (l3 i hi)
            · show zi (zwi m6 5 1958 _) 5 1958 = (((addPs L ((q.2 : Int), q3.2, l)).2.2.1.length : Nat) : Int)
              rw [zi_wi_s, hpl]
            · show (addPs L ((q.2 : Int), q3.2, l)).2.2.1.length ≤ 6
              rw [hpl]; exact hp
            · have hi' : i < L.2.2.1.length + 1 := by
                have z : i < (addPs L ((q.2 : Int), q3.2, l)).2.2.1.length := hi
                rw [hpl] at z; exact z
              show PsB _ 1956 56 i ((L.2.2.1 ++ [(((q.2 : Int), q3.2, l) : zPs0)]).getD i ps0) ∧ ((L.2.2.1 ++ [(((q.2 : Int), q3.2, l) : zPs0)]).getD i ps0).2.1 < L.2.1.length
              by_cases z : i = L.2.2.1.length
              · subst z
                rw [getD_app_r]
                refine ⟨⟨?_, ?_, ?_, hok, fun k hk => ?_⟩, hq3⟩
                · rw [hall.l (n7 _), show 56 + 8 + L.2.2.1.length = 64 + L.2.2.1.length by omega]; exact hname4
                · rw [zi_wi_n _ _ (Or.inr (by omega)), hs.i (by unfold saP tmP flP; omega), show 1956 + 157 + L.2.2.1.length = 2113 + L.2.2.1.length by omega]
                  unfold p2w
                  rw [zi_wi_n _ _ (Or.inr (by omega)), zi_wi_s]
                · rw [zi_wi_n _ _ (Or.inr (by omega)), show 1956 + 163 + L.2.2.1.length = 2119 + L.2.2.1.length by omega]; exact hlen
                · have hk8 : k < l.length := hk
                  have := hok.1
                  rw [zi_wi_n _ _ (Or.inr (by omega)), show 1956 + 169 + 8 * L.2.2.1.length + k = 2125 + 8 * L.2.2.1.length + k by omega]; exact hce k hk8
              · rw [getD_app_l (by omega)]
                have hi6 : i < L.2.2.1.length := by omega
                exact ⟨hall.psB (n7 _) (n5 _ (by omega) (by omega) (by omega) (by omega)) (n5 _ (by omega) (by omega) (by omega) (by omega)) (fun j z1 z2 => n5 j (by omega) (by omega) (by omega) (by omega)) (p3 i hi6).1, (p3 i hi6).2⟩
            · rw [hall.i (n5 _ (by omega) (by omega) (by omega) (by omega))]; exact o1
            · rw [hall.i (n5 _ (by omega) (by omega) (by omega) (by omega))]; exact o2
            · rw [hall.i (n5 _ (by omega) (by omega) (by omega) (by omega))]; exact (hB4.2 i z1 z2).1
            · rw [hall.i (n5 _ (by omega) (by omega) (by omega) (by omega))]; exact (hB4.2 i z1 z2).2.1
            · have := hcc i k
              rw [hall.i (n5 _ (by omega) (by omega) (by omega) (by omega))]; exact (hB4.2 i z1 z2).2.2 k hk
          have x3ne : zi m4 0 12 = 0 := x3.2.2.2
          rw [m_psT d3.1 hp x3.1 x1, if_pos x3ne, m_isSays g5, zC1_s]
          show RcM m f n _ (if isK q3.1 11 = true then (match rSai L f n 9 (nxT f n q3.1) [] with
            | .inl e => .inl e
            | .inr q4 => .inr (q4.1, addPs L ((q.2 : Int), q3.2, q4.2))) else .inr (q3.1, addPs L ((q.2 : Int), q3.2, [])))
          by_cases c11 : isK q3.1 11 = true
          · obtain ⟨m5, t1, t2, t3⟩ := m_adv (v := 0) g5 hR4
            have hN5 : NmV m5 4 L := ((BuNm hB4.1).fr ((Fr.wi m4 _ ⟨rfl, Or.inl rfl⟩).tr (Fr.wi _ _ ⟨rfl, Or.inr rfl⟩) : Fr (fun b j => b = 5 ∧ (j = 2113 + L.2.2.1.length ∨ j = 2119 + L.2.2.1.length)) m4 (p2w m4 L.2.2.1.length (q3.2 : Int))) (fun j z1 z2 w => by have w' : 5 = 5 ∧ (j = 2113 + L.2.2.1.length ∨ j = 2119 + L.2.2.1.length) := w; omega) (fun j w => by have w' : 7 = 5 ∧ (j = 2113 + L.2.2.1.length ∨ j = 2119 + L.2.2.1.length) := w; omega)).fr t2 (fun j z1 z2 => by unfold tmP; omega) (fun j => by unfold tmP; omega)
            obtain ⟨i1, i2⟩ := m_sai (v := 0) hp 9 (nxT f n q3.1) [] none m5 rfl (rep_ok (f := 0) (N := 0) (by decide) (by decide)) (nxT_R hR4) t3 hN5 (fun j hj => absurd hj (Nat.not_lt_zero j))
            have z0 : (([] : List Nat).length : Int) = 0 := rfl
            rw [z0] at i1 i2
            rw [if_pos c11, c11, if_neg nb1, if_pos g5.1.t, f_X11_readSays, if_pos g5.1.t, t1, zC0_s]
            cases e4 : rSai L f n 9 (nxT f n q3.1) [] with
            | inl e =>
              obtain ⟨m', y1, y2, y3⟩ := i1 e e4
              rw [y1, zC0_s, m_ps61B y3]
              exact ⟨m', rfl, (hF4.tr (tm_rm t2)).tr (sa_rm y2), y3⟩
            | inr q4 =>
              obtain ⟨m6, y1, y2, y3, y4, y5, y6⟩ := i2 q4 e4
              rw [y1, zC0_s]
              exact fin m6 q4.1 q4.2 y3 ((tm_sa t2).tr y2) y4 y5 y6
          · rw [if_neg c11, bool_f c11, if_pos yb0]
            refine fin _ q3.1 [] g5 (Fr.rf _ _) (rep_ok (f := 0) (N := 0) (by decide) (by decide)) ?_ (fun j hj => absurd hj (Nat.not_lt_zero j))
            unfold p2w
            exact zi_wi_s _ _ _ _
      · have bp := kMis_pos q.1
        have b := z4.bd (e := kMis q.1) bp
        obtain ⟨m', f1, f2, f3⟩ := m_psTB (v := v) b hp
        have mf : zF zP 280 0 [(.inr (.inr (some 0))), .inl (b01 false)] m2 = some (none, bdM m2 (kMis q.1)) := m_mustF z4
        rw [if_neg ck, bool_f ck, mf, zC0_s, f1]
        exact ⟨m', rfl, (hF2.tr (fl_rm (bdM_fr m2 _))).tr (wr_rm f2), f3⟩
theorem GdM.s24 (g : GdM m f n T) (x : Int) : GdM (zwi m 0 24 x) f n T := by
  have h : Fr (fun b j => b = 0 ∧ j = 24) m (zwi m 0 24 x) := Fr.wi m _ ⟨rfl, rfl⟩
  have no : ∀ j, j ≠ 24 → ¬ (fun b j => b = 0 ∧ j = 24) 0 j := fun j z w => z w.2
  obtain ⟨hx, ⟨k1, k2, k3, k4, k5⟩, hW, hb⟩ := g
  refine ⟨hx.fr h (no 9 (by decide)) (fun j w => absurd w.1 (by decide)), ⟨by rw [h.i (no _ (by decide))]; exact k1, by rw [h.i (no _ (by decide))]; exact k2, by rw [h.i (no _ (by decide))]; exact k3, fun q => by rw [h.l (no _ (by decide)), h.i (no _ (by decide))]; exact k4 q, fun q => by rw [h.i (no _ (by decide))]; exact k5 q⟩, hW, by rw [h.i (no _ (by decide))]; exact hb⟩
theorem rm_rp (h : Fr rmP m m') : Fr rpP m m' := h.mono (fun b j q => Or.inl q)
theorem m_odd (g : GdM m f n T) (hR : TkR n T) (hB : BuM m L) {od : Bool} (h24 : zi m 0 24 = b01 od) : match rOdd L od f n T with
    | .inl e => ∃ m', zF zP 294 v [(.inr (.inr (some 0)))] m = some (none, m') ∧ Fr rpP m m' ∧ BdM m' f n e
    | .inr q => ∃ m', zF zP 294 v [(.inr (.inr (some 0)))] m = some (none, m') ∧ Fr rpP m m' ∧ GdM m' f n q.1 ∧ BuM m' q.2 ∧ zi m' 0 24 = 1 := by
  rw [f_X11_readOdds, if_pos g.1.t, h24]
  unfold rOdd
  cases od with
  | true =>
    have hf : zF zP 278 0 [(.inr (.inr (some 0))), .inl 5, .inl (T.2.1 : Int)] m = some (none, bdM m (5, T.2.1)) := m_failG g 5 T.2.1
    have b := g.bd (e := (5, T.2.1)) (Nat.succ_pos 4)
    rw [if_pos rfl, if_neg nb1, if_pos g.1.t, if_pos g.1.t, g.2.1.2.1, hf, zC0_s, j_X11_readOdds_16, if_pos b.1.t, b.2.1, if_pos (show (0 : Int) < ((5 : Nat) : Int) by decide)]
    exact ⟨_, rfl, rm_rp (fl_rm (bdM_fr m _)), b⟩
  | false =>
    have g1 := g.s24 1
    have hF1 : Fr rpP m (zwi m 0 24 1) := Fr.wi m _ (Or.inr ⟨rfl, rfl⟩)
    obtain ⟨m1, a1, a2, a3⟩ := m_adv (v := 0) g1 hR
    have hR1 := nxT_R (f := f) hR
    have hB1 : BuM m1 L := (hB.fr (Fr.wi m _ rfl : Fr (fun b _ => b = 0) m (zwi m 0 24 1)) (fun j w => absurd (show (5 : Nat) = 0 from w) (by decide)) (fun j w => absurd (show (7 : Nat) = 0 from w) (by decide))).tm a2
    have rc : RdM m1 f n (zF zP 281 0 [(.inr (.inr (some 0))), .inl 0, .inl 16] m1) (fun x : Nat => (x : Int)) (rNum f n (nxT f n T) 0 16) := m_count a3 hR1 0 16
    have ht : zT (zwi m 0 24 1) 0 7 = true := g1.1.t
    rw [if_neg (show ¬ false = true by decide), if_pos yb0, j_X11_readOdds_16, if_pos g.1.t, g.2.2.2, if_neg (by decide), j_X11_readOdds_24, if_pos (by rw [g.1.t]; rfl), if_pos ht, a1, zC0_s, if_pos a3.1.t, a3.1.1.2.1.2.1.1, obind, if_pos a3.1.t]
    have h24' : zi m1 0 24 = 1 := by rw [a2.i (by unfold tmP; omega), zi_wi_s]
    cases e1 : rNum f n (nxT f n T) 0 16 with
    | inl e =>
      rw [e1] at rc
      obtain ⟨w1, w2⟩ := rc
      have b := a3.bd (e := e) w2
      have hw : Fr wrP (bdM m1 e) (zwi (bdM m1 e) 5 1959 0) := Fr.wi _ _ (Or.inl ⟨rfl, by omega⟩)
      rw [w1, zC1_s, if_pos (A5 b.1.1 (by omega) (by omega))]
      exact ⟨zwi (bdM m1 e) 5 1959 0, rfl, ((hF1.tr (rm_rp (tm_rm a2))).tr (rm_rp (fl_rm (bdM_fr m1 e)))).tr (rm_rp (wr_rm hw)), b.wr hw⟩
    | inr q =>
      rw [e1] at rc
      obtain ⟨m2, b1, b2, b3⟩ := rc
      have b1' : zF zP 281 0 [(.inr (.inr (some 0))), .inl 0, .inl 16] m1 = some (some (.inl (q.2 : Int)), m2) := b1
      have hw : Fr wrP m2 (zwi m2 5 1959 (q.2 : Int)) := Fr.wi _ _ (Or.inl ⟨rfl, by omega⟩)
      have hB2 := hB1.tm b2
      have hone : Fr (fun b j => b = 5 ∧ j = 1959) m2 (zwi m2 5 1959 (q.2 : Int)) := Fr.wi m2 _ ⟨rfl, rfl⟩
      rw [b1', zC1_s, if_pos (A5 b3.1.1 (by omega) (by omega))]
      refine ⟨zwi m2 5 1959 (q.2 : Int), rfl, ((hF1.tr (rm_rp (tm_rm a2))).tr (rm_rp (tm_rm b2))).tr (rm_rp (wr_rm hw)), b3.wr hw, ⟨hB2.1.odds, fun i z1 z2 => ⟨?_, ?_, fun k hk => ?_⟩⟩, ?_⟩
      · rw [zi_wi_n _ _ (Or.inr (by omega))]; exact (hB2.2 i z1 z2).1
      · rw [zi_wi_n _ _ (Or.inr (by omega))]; exact (hB2.2 i z1 z2).2.1
      · have : cellN i k = 29 + 16 * i + 4 * k := rfl
        rw [zi_wi_n _ _ (Or.inr (by omega))]; exact (hB2.2 i z1 z2).2.2 k hk
      · rw [zi_wi_n _ _ (Or.inl (by decide)), b2.i (by unfold tmP; omega)]; exact h24'
theorem m_prt (g : GdM m f n T) (hR : TkR n T) (hB : BuM m L) (hL : LnR L) {od : Bool} (h24 : zi m 0 24 = b01 od) :
    (∀ e, rPrt L od f n T = .inl e → ∃ m', zF zP 301 v [(.inr (.inr (some 0)))] m = some (none, m') ∧ Fr rpP m m' ∧ BdM m' f n e) ∧
    (∀ q, rPrt L od f n T = .inr q → ∃ m', zF zP 301 v [(.inr (.inr (some 0)))] m = some (none, m') ∧ Fr rpP m m' ∧ GdM m' f n q.1 ∧ BuM m' q.2 ∧ zi m' 0 24 = b01 (od || isK T 0)) := by
  have fin : ∀ (r : zRd zLd) (out x : Option zO), RcM m f n out r → x = zC0 out (fun m3 => zX zP 301 v 60 [some (.inr (.inr (some 0)))] [] m3) → isK T 0 = false →
      (∀ e, r = .inl e → ∃ m', x = some (none, m') ∧ Fr rpP m m' ∧ BdM m' f n e) ∧ (∀ q, r = .inr q → ∃ m', x = some (none, m') ∧ Fr rpP m m' ∧ GdM m' f n q.1 ∧ BuM m' q.2 ∧ zi m' 0 24 = b01 (od || isK T 0)) := by
    intro r out x hr hx h0
    refine ⟨fun e h => ?_, fun q h => ?_⟩
    · rw [h] at hr
      obtain ⟨m', z1, z2, z3⟩ := hr
      exact ⟨m', by rw [hx, z1, zC0_s, j_X11_readPart_60], rm_rp z2, z3⟩
    · rw [h] at hr
      obtain ⟨m', z1, z2, z3, z4⟩ := hr
      exact ⟨m', by rw [hx, z1, zC0_s, j_X11_readPart_60], rm_rp z2, z3, z4, by rw [h0, Bool.or_false, z2.i (by unfold rmP; omega)]; exact h24⟩
  rw [f_X11_readPart, if_pos g.1.t, m_isOdds g, zC1_s]
  unfold rPrt
  by_cases c0 : isK T 0 = true
  · have ho := m_odd (v := 0) g hR hB h24
    rw [if_pos c0, c0, if_neg nb1, if_pos g.1.t]
    refine ⟨fun e h => ?_, fun q h => ?_⟩
    · rw [h] at ho
      obtain ⟨m', z1, z2, z3⟩ := ho
      rw [z1, zC0_s, j_X11_readPart_60]
      exact ⟨m', rfl, z2, z3⟩
    · rw [h] at ho
      obtain ⟨m', z1, z2, z3, z4, z5⟩ := ho
      rw [z1, zC0_s, j_X11_readPart_60]
      exact ⟨m', rfl, z2, z3, z4, by rw [z5, Bool.or_true]; rfl⟩
  · have f0 := bool_f c0
    rw [if_neg c0, if_pos (b01_ne.mpr f0), j_X11_readPart_14, if_pos g.1.t, m_isWordWord g, zC1_s]
    by_cases c1 : isK T 1 = true
    · rw [if_pos c1, c1, if_neg nb1, if_pos g.1.t]
      exact fin _ _ _ (m_wdP (v := 0) g hR hB) rfl f0
    · rw [if_neg c1, if_pos (b01_ne.mpr (bool_f c1)), j_X11_readPart_28, if_pos g.1.t, m_isLine g, zC1_s]
      by_cases c2 : isK T 2 = true
      · rw [if_pos c2, c2, if_neg nb1, if_pos g.1.t]
        exact fin _ _ _ (m_lne (v := 0) g hR hB hL) rfl f0
      · rw [if_neg c2, if_pos (b01_ne.mpr (bool_f c2)), j_X11_readPart_42, if_pos g.1.t, m_isPerson g, zC1_s]
        by_cases c9 : isK T 9 = true
        · rw [if_pos c9, c9, if_neg nb1, if_pos g.1.t]
          exact fin _ _ _ (m_psn (v := 0) g hR hB) rfl f0
        · have bp := kMis_pos T
          have b := g.bd (e := kMis T) bp
          rw [if_neg c9, if_pos (b01_ne.mpr (bool_f c9)), j_X11_readPart_56, if_pos g.1.t, m_amissG g, zC0_s, j_X11_readPart_60]
          refine ⟨fun e h => ?_, fun q h => (nomatch h)⟩
          have h' : kMis T = e := Sum.inl.inj h
          rw [← h']
          exact ⟨_, rfl, rm_rp (fl_rm (bdM_fr m _)), b⟩
end READM8
