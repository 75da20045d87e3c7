/-! The reference reads a PERSON, ODDS. -/
def saP (p b j : Nat) : Prop := tmP b j ∨ flP b j ∨ (b = 5 ∧ (j = 2119 + p ∨ (2125 + 8 * p ≤ j ∧ j < 2133 + 8 * p)))
section READM7
variable {v : Nat} {m m' : zM} {f : Nat → Nat} {n : Nat} {T : zTok} {L : zLd} {e : Nat × Nat}
theorem tm_sa {p : Nat} (h : Fr tmP m m') : Fr (saP p) m m' := h.mono (fun b j q => Or.inl q)
theorem fl_sa {p : Nat} (h : Fr flP m m') : Fr (saP p) m m' := h.mono (fun b j q => Or.inr (Or.inl q))
theorem sa_rm {p : Nat} (h : Fr (saP p) m m') : Fr rmP m m' := h.mono (fun b j q => by unfold saP tmP flP at q; unfold rmP; omega)
theorem NmV.fr {P : Nat → Nat → Prop} {b : Nat} (hN : NmV m b L) (h : Fr P m m') (h5 : ∀ j, 489 * b ≤ j → j < 489 * b + 13 → ¬ P 5 j) (h7 : ∀ j, ¬ P 7 j) : NmV m' b L := by
  obtain ⟨⟨a1, a2, a3⟩, ⟨b1, b2, b3⟩, c1, c2, c3⟩ := hN
  exact ⟨⟨by rw [h.i (h5 _ (by omega) (by omega))]; exact a1, a2, fun i hi => by rw [h.l (h7 _)]; exact a3 i hi⟩, ⟨by rw [h.i (h5 _ (by omega) (by omega))]; exact b1, b2, fun i hi => by rw [h.l (h7 _)]; exact b3 i hi⟩, by rw [h.i (h5 _ (by omega) (by omega))]; exact c1, c2, fun i hi => by rw [h.i (h5 _ (by omega) (by omega))]; exact c3 i hi⟩
theorem m_sai {p : Nat} (hp : p < 6) : ∀ (k : Nat) (T : zTok) (l : List Nat) (u : Option zV) (m : zM), k + l.length = 9 → rOk l → TkR n T → GdM m f n T → NmV m 4 L → (∀ j, j < l.length → zi m 5 (2125 + 8 * p + j) = ((l.getD j 0 : Nat) : Int)) →
    (∀ e, rSai L f n k T l = .inl e → ∃ m', zX zP 299 v 6 [some (.inr (.inr (some 0))), some (.inl (p : Int)), some (.inl (l.length : Int)), u] [] m = some (none, m') ∧ Fr (saP p) m m' ∧ BdM m' f n e) ∧
    (∀ q, rSai L f n k T l = .inr q → ∃ m', zX zP 299 v 6 [some (.inr (.inr (some 0))), some (.inl (p : Int)), some (.inl (l.length : Int)), u] [] m = some (none, m') ∧ Fr (saP p) m m' ∧ GdM m' f n q.1 ∧ rOk q.2 ∧ zi m' 5 (2119 + p) = (q.2.length : Int) ∧ ∀ j, j < q.2.length → zi m' 5 (2125 + 8 * p + j) = ((q.2.getD j 0 : Nat) : Int)) := by
  -- a FAULT told
  have bad : ∀ {m1 : zM} {e : Nat × Nat} (x2 x3 : Int), BdM m1 f n e → zX zP 299 v 55 [some (.inr (.inr (some 0))), some (.inl (p : Int)), some (.inl x2), some (.inl x3)] [] m1 = some (none, m1) := fun {m1 e} x2 x3 b => by
    have := b.2.2.2
    rw [j_X11_readSays_55, if_pos b.1.t, m_mustB b, zC0_s, if_pos b.1.t, b.2.1, if_pos (by omega)]
  intro k
  induction k with
  | zero =>
    intro T l u m hk hl hR g hN hc
    have := hl.1
    omega
  | succ k ih =>
    intro T l u m hk hl hR g hN hc
    have h8 := hl.1
    have hW8 := hN.1.2.1
    have e2119 : ∀ _ : Unit, zadd 2119 (p : Int) = ((2119 + p : Nat) : Int) := fun _ => zadd_nat (n := 2119) (by omega)
    have hS := g.1.1
    have start : zX zP 299 v 6 [some (.inr (.inr (some 0))), some (.inl (p : Int)), some (.inl (l.length : Int)), u] [] m = if (decide (l.length = 0) || decide (T.1 = 2)) = true then zX zP 299 v 25 [some (.inr (.inr (some 0))), some (.inl (p : Int)), some (.inl (l.length : Int)), u] [] m else zX zP 299 v 90 [some (.inr (.inr (some 0))), some (.inl (p : Int)), some (.inl (l.length : Int)), u] [] m := by
      rw [j_X11_readSays_6, if_pos g.1.t, g.2.2.2, if_pos rfl]
      by_cases c : l.length = 0
      · rw [if_pos (show (l.length : Int) = 0 by omega), decide_eq_true c, Bool.true_or, if_pos rfl]
      · rw [if_neg (show ¬ (l.length : Int) = 0 by omega), if_pos g.1.t, g.2.1.1, decide_eq_false c, Bool.false_or]
        by_cases c2 : T.1 = 2
        · rw [if_pos (kdM_2.mpr c2), decide_eq_true c2, if_pos rfl]
        · rw [if_neg (fun w => c2 (kdM_2.mp w)), decide_eq_false c2, if_neg (by decide)]
    rw [start]
    unfold rSai
    by_cases c : (decide (l.length = 0) || decide (T.1 = 2)) = true
    · obtain ⟨t1, t2⟩ := m_toldW (v := 0) g (b := 4) (by decide) hN
      rw [if_pos c, if_pos c, j_X11_readSays_25, if_pos g.1.t]
      cases e1 : sWrd L T with
      | inl e =>
        obtain ⟨y1, y2⟩ := t1 e e1
        have y1' : zF zP 290 0 [(.inr (.inr (some 0))), .inl 4, .inl 0] m = some (some (.inl 0), bdM m e) := y1
        have b := g.bd (e := e) y2
        have bne : ¬ zi (bdM m e) 0 12 = 0 := by rw [b.2.1]; omega
        rw [y1', zC1_s, if_pos b.1.t, if_neg bne, bad _ _ b]
        refine ⟨fun e' h => ?_, fun q h => (nomatch h)⟩
        have h' : e = e' := Sum.inl.inj h
        rw [← h']
        exact ⟨_, rfl, fl_sa (bdM_fr m e), b⟩
      | inr q =>
        have y1' : zF zP 290 0 [(.inr (.inr (some 0))), .inl 4, .inl 0] m = some (some (.inl (q.2 : Int)), m) := t2 q e1
        have hq := sWrd_lt (q := q) e1
        rw [y1', zC1_s, if_pos g.1.t, g.2.2.2, if_pos rfl]
        show (∀ e, (if l.length = 8 then .inl (6, T.2.1) else rSai L f n k (nxT f n T) (l ++ [q.2])) = Sum.inl e → _) ∧ (∀ q', (if l.length = 8 then .inl (6, T.2.1) else rSai L f n k (nxT f n T) (l ++ [q.2])) = Sum.inr q' → _)
        by_cases c8 : l.length = 8
        · have hf : zF zP 278 0 [(.inr (.inr (some 0))), .inl 6, .inl (T.2.1 : Int)] m = some (none, bdM m (6, T.2.1)) := m_failG g 6 T.2.1
          have b := g.bd (e := (6, T.2.1)) (Nat.succ_pos 5)
          rw [if_pos c8, if_pos (show (l.length : Int) = 8 by omega), if_pos g.1.t, if_pos g.1.t, g.2.1.2.1, hf, zC0_s, bad _ _ b]
          refine ⟨fun e' h => ?_, fun q h => (nomatch h)⟩
          have h' : (6, T.2.1) = e' := Sum.inl.inj h
          rw [← h']
          exact ⟨_, rfl, fl_sa (bdM_fr m _), b⟩
        · obtain ⟨m1, a1, a2, a3⟩ := m_mustT (v := 0) g hR
          have hw := rwith_ok hl (Nat.le_refl _) (by omega) (show q.2 < 16 by omega)
          rw [rwith_end] at hw
          have hlen : (l ++ [q.2]).length = l.length + 1 := by rw [List.length_append]; rfl
          have e2125 : ∀ _ : Unit, zadd (zadd 2125 (zmul 8 (p : Int))) (l.length : Int) = ((2125 + 8 * p + l.length : Nat) : Int) := fun _ => by
            rw [show zmul 8 (p : Int) = ((8 * p : Nat) : Int) from zmul_nat (n := 8) (by omega), show zadd 2125 ((8 * p : Nat) : Int) = ((2125 + 8 * p : Nat) : Int) from zadd_nat (n := 2125) (by omega)]
            exact zadd_nat (by omega)
          have hwr : Fr wrP m1 (zwi m1 5 (2125 + 8 * p + l.length) (q.2 : Int)) := Fr.wi m1 _ (Or.inl ⟨rfl, by omega⟩)
          have hsa : Fr (saP p) m1 (zwi m1 5 (2125 + 8 * p + l.length) (q.2 : Int)) := Fr.wi m1 _ (Or.inr (Or.inr ⟨rfl, by omega⟩))
          obtain ⟨i1, i2⟩ := ih (nxT f n T) (l ++ [q.2]) (some (.inl (q.2 : Int))) _ (by rw [hlen]; omega) hw (nxT_R hR) (a3.wr hwr) ((hN.fr a2 (fun j z1 z2 => by unfold tmP; omega) (fun j => by unfold tmP; omega)).fr hsa (fun j z1 z2 => by unfold saP tmP flP; omega) (fun j => by unfold saP tmP flP; omega)) (fun j hj => by
            rw [hlen] at hj
            by_cases z : j = l.length
            · subst z; rw [zi_wi_s, getD_app_r]
            · rw [zi_wi_n _ _ (Or.inr (by omega)), a2.i (by unfold tmP; omega), getD_app_l (by omega)]; exact hc j (by omega))
          rw [hlen] at i1 i2
          rw [if_neg c8, if_neg (show ¬ (l.length : Int) = 8 by omega), j_X11_readSays_55, if_pos g.1.t, a1, zC0_s, if_pos a3.1.t, a3.2.2.2, if_neg (by decide), j_X11_readSays_68, if_pos a3.1.t, a3.1.1.2.1.2.1.1, obind, e2125 (), if_pos (A5 a3.1.1 (by omega) (by omega)), Int.toNat_natCast, zadd1 (by omega)]
          refine ⟨fun e h => ?_, fun q' h => ?_⟩
          · obtain ⟨m', z1, z2, z3⟩ := i1 e h
            exact ⟨m', z1, ((tm_sa a2).tr hsa).tr z2, z3⟩
          · obtain ⟨m', z1, z2, z3⟩ := i2 q' h
            exact ⟨m', z1, ((tm_sa a2).tr hsa).tr z2, z3⟩
    · rw [if_neg c, if_neg c]
      refine ⟨fun e h => (nomatch h), fun q h => ?_⟩
      have h' : (T, l) = q := Sum.inr.inj h
      rw [← h']
      have hw : Fr wrP m (zwi m 5 (2119 + p) (l.length : Int)) := Fr.wi m _ (Or.inl ⟨rfl, by omega⟩)
      refine ⟨zwi m 5 (2119 + p) (l.length : Int), ?_, Fr.wi m _ (Or.inr (Or.inr ⟨rfl, Or.inl rfl⟩)), g.wr hw, hl, zi_wi_s _ _ _ _, fun j hj => ?_⟩
      · rw [j_X11_readSays_90, if_pos g.1.t, hS.2.1.2.1.1, obind, e2119 (), if_pos (A5 hS (by omega) (by omega)), Int.toNat_natCast]
      · rw [zi_wi_n _ _ (Or.inr (by omega))]; exact hc j hj
theorem m_ps61B (b : BdM m f n e) (x : Int) : zX zP 300 v 61 [some (.inr (.inr (some 0))), some (.inl x)] [] m = some (none, m) := by
  have := b.2.2.2
  rw [j_X11_readPerson_61, if_pos b.1.t, b.2.1, if_neg (by omega), j_X11_readPerson_80]
theorem ps_e {p : Nat} (hp : p < 6) : zadd 2113 (p : Int) = ((2113 + p : Nat) : Int) ∧ zadd 2119 (p : Int) = ((2119 + p : Nat) : Int) := ⟨zadd_nat (n := 2113) (by omega), zadd_nat (n := 2119) (by omega)⟩
/-- behind the LINE told -/
def p2w (m : zM) (p : Nat) (x : Int) : zM := zwi (zwi m 5 (2113 + p) x) 5 (2119 + p) 0
theorem p2w_fr {p : Nat} (x : Int) : Fr wrP m (p2w m p x) := (Fr.wi m _ (Or.inl ⟨rfl, by omega⟩)).tr (Fr.wi _ _ (Or.inl ⟨rfl, by omega⟩))
theorem m_psT (hx : TxM m f n) {p : Nat} (hp : p < 6) {m7 : zM} {x : Int} (h7 : TxM m7 f n) (hl : zF zP 293 0 [(.inr (.inr (some 0))), .inl 4] m = some (some (.inl x), m7)) : psT v (p : Int) m = if zi m7 0 12 = 0 then zC1 (zF zP 271 0 [(.inr (.inr (some 0)))] (p2w m7 p x)) (fun c11 m10 => if c11 = 0 then zX zP 300 v 61 [some (.inr (.inr (some 0))), some (.inl (p : Int))] [] m10 else if zT m10 0 7 = true then zC0 (zF zP 299 0 [(.inr (.inr (some 0))), .inl (p : Int)] m10) (fun m12 => zX zP 300 v 61 [some (.inr (.inr (some 0))), some (.inl (p : Int))] [] m12) else none) else zX zP 300 v 61 [some (.inr (.inr (some 0))), some (.inl (p : Int))] [] (p2w m7 p x) := by
  obtain ⟨e1, e2⟩ := ps_e hp
  have n12 : zi (p2w m7 p x) 0 12 = zi m7 0 12 := by unfold p2w; rw [zi_wi_n _ _ (Or.inl (by decide)), zi_wi_n _ _ (Or.inl (by decide))]
  unfold psT
  rw [if_pos hx.t, hx.1.2.1.2.1.1, obind, if_pos hx.t, hl, zC1_s, e1, if_pos (A5 h7.1 (by omega) (by omega)), zT_wi, if_pos h7.t, Int.toNat_natCast]
  show (zr m7 0 20).bind _ = _
  rw [h7.1.2.1.2.1.1, obind, e2, zA_wi, if_pos (A5 h7.1 (by omega) (by omega)), zT_wi, zT_wi, if_pos h7.t, Int.toNat_natCast]
  show (if zi (p2w m7 p x) 0 12 = 0 then (if zT m7 0 7 = true then _ else none) else zX zP 300 v 61 _ [] (p2w m7 p x)) = _
  rw [n12]
  by_cases c : zi m7 0 12 = 0
  · rw [if_pos c, if_pos c, if_pos h7.t]; rfl
  · rw [if_neg c, if_neg c]
theorem m_psTB (b : BdM m f n e) {p : Nat} (hp : p < 6) : ∃ m', psT v (p : Int) m = some (none, m') ∧ Fr wrP m m' ∧ BdM m' f n e := by
  have hl : zF zP 293 0 [(.inr (.inr (some 0))), .inl 4] m = some (some (.inl 0), m) := m_rLinB b 4
  have hw := p2w_fr (m := m) (p := p) 0
  have bne : ¬ zi m 0 12 = 0 := by rw [b.2.1]; have := b.2.2.2; omega
  refine ⟨_, ?_, hw, b.wr hw⟩
  rw [m_psT b.1 hp b.1 hl, if_neg bne, m_ps61B (b.wr hw)]
end READM7
