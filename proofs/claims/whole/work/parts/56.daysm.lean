/-! The reference: DAYS. -/
def dyP (b j : Nat) : Prop := (b = 0 ∧ (j = 27 ∨ j = 31)) ∨ b = 8 ∨ b = 10 ∨ (b = 5 ∧ j < 217)
section DAYS2
variable {v : Nat} {S : zSt} {m m' : zM}
theorem rowP_dy (h : Fr (rowP 0) m m') : Fr dyP m m' := h.mono (fun b j q => by unfold rowP at q; unfold dyP; omega)
theorem arP_dy (h : Fr (arP 31 10) m m') : Fr dyP m m' := h.mono (fun b j q => by unfold arP at q; unfold dyP; omega)
theorem psP_dy {p : Nat} (hp : p < 6) (h : Fr (psP 0 p) m m') : Fr dyP m m' := h.mono (fun b j q => by unfold psP at q; unfold dyP; omega)
theorem R2.rok (hR : R2 S m) {p : Nat} (hp : p < (gL S).2.2.1.length) : rOk (row0 (gL S) p) := (hR.pc hp).2.2.1
theorem R2.eok (hR : R2 S m) {i : Nat} (hi : i < (gL S).2.1.length) : ∀ e ∈ ((gL S).2.1.getD i ln0).2.2, eOk e := (hR.em hi).2.2
theorem R2.dok (hR : R2 S m) {p : Nat} (hp : p < (gL S).2.2.1.length) {l : List Nat} (hl : rOk l) : rOk (lday (gL S) p l) := by
  unfold lday
  split
  · exact hl
  · exact lput_ok _ _ (hR.eok (hR.ps hp).2) hl
theorem R2.iok (hR : R2 S m) {p : Nat} (hp : p < (gL S).2.2.1.length) : ∀ (n : Nat) (l : List Nat), rOk l → rOk (itr (lday (gL S) p) n l)
  | 0, l, h => h
  | n + 1, l, h => hR.iok hp n _ (hR.dok hp h)
/-- the row at hand goes a DAY on -/
theorem m_takesIn_loop (hR0 : R2 S m) {p d : Nat} (hp : p < (gL S).2.2.1.length) : ∀ (n k : Nat) (l : List Nat) (m1 : zM), Fr (rowP 0) m m1 → ArV m1 27 8 l → rOk l → k + n = d → d < 1000000 →
    ∃ m', zX zP 393 v 7 [some (.inr (.inr (some 0))), some (.inl (p : Int)), some (.inl (d : Int)), some (.inl (k : Int))] [] m1 = some (none, m') ∧ Fr (rowP 0) m m' ∧ ArV m' 27 8 (itr (lday (gL S) p) n l) := by
  have h6 := hR0.p6
  have e157 : ∀ _ : Unit, zadd 157 (p : Int) = ((157 + p : Nat) : Int) := fun _ => zadd_nat (n := 157) (by omega)
  have hpl := (hR0.ps hp).2
  intro n
  induction n with
  | zero =>
    intro k l m1 hF hv hl hk hd
    exact ⟨m1, by rw [j_X11_takesIn_7, if_neg (by omega), j_X11_takesIn_50], hF, hv⟩
  | succ n ih =>
    intro k l m1 hF hv hl hk hd
    have hR := hR0.fr (rowP_scr hF)
    rw [j_X11_takesIn_7, if_pos (by omega), if_pos hR.1.1, hR.1.2.1.2.1.1, obind, e157 (), if_pos (cA hR.1 (by omega)), if_pos hR.1.1, Int.toNat_natCast, (hR.pc hp).1, m_isLost hR hpl, zC1_s]
    by_cases e : ((gL S).2.1.getD ((gL S).2.2.1.getD p ps0).2.1 ln0).2.1 = true
    · have ed : ∀ l, lday (gL S) p l = l := fun l => by unfold lday; rw [if_pos e]
      refine ⟨m1, ?_, hF, ?_⟩
      · rw [if_neg (by rw [e]; decide), j_X11_takesIn_50]
      · rw [itr_fix (ed l)]; exact hv
    · have ed : lday (gL S) p l = lput ((gL S).2.1.getD ((gL S).2.2.1.getD p ps0).2.1 ln0).2.2 l := by unfold lday; rw [if_neg e]
      obtain ⟨m2, g1, g2, g3, g4⟩ := m_putsR (v := 0) hR hpl hv hl
      obtain ⟨m', f1, f2, f3⟩ := ih (k + 1) _ m2 (hF.tr g2) g3 g4 (by omega) hd
      refine ⟨m', ?_, f2, ?_⟩
      · rw [if_pos (b01_ne.mpr (bool_f e)), if_pos hR.1.1, hR.1.2.1.2.1.1, obind, if_pos (cA hR.1 (by omega)), if_pos hR.1.1, (hR.pc hp).1, g1, zC1_s, zadd1 (by omega)]
        exact f1
      · show ArV m' 27 8 (itr (lday (gL S) p) n (lday (gL S) p l)); rw [ed]; exact f3
theorem m_takesIn (hR : R2 S m) {p d : Nat} (hp : p < (gL S).2.2.1.length) (hd : d < 1000000) : ∃ m', zF zP 393 v [(.inr (.inr (some 0))), .inl (p : Int), .inl (d : Int)] m = some (none, m') ∧ Fr (rowP 0) m m' ∧ ArV m' 27 8 (inDays (gL S) p d) := by
  obtain ⟨m1, g1, g2, g3⟩ := m_takesSaid (v := 0) hR hp
  obtain ⟨m', f1, f2, f3⟩ := m_takesIn_loop (v := v) hR hp (d := d) d 0 _ m1 g2 g3 (hR.rok hp) (by omega) hd
  refine ⟨m', ?_, f2, f3⟩
  rw [f_X11_takesIn, if_pos hR.1.1, g1, zC0_s]
  exact f1
theorem w_longIn (hR : R2 S m) (p d : Int) : Ex2 (zF zP 394 v [(.inr (.inr (some 0))), .inl p, .inl d] m) (o_longIn S p d) := by
  have h0 := hR.pre
  unfold o_longIn
  rw [f_X11_longIn, if_pos hR.1.1, zT_wi, if_pos hR.1.1, zT_wi, zT_wi, if_pos hR.1.1]
  generalize zwi (zwi m 0 1 0) 0 0 0 = m0 at h0 ⊢
  rw [m_isPersonAt h0, zC1_s]
  show Ex2 (if b01 (inB p (gL S).2.2.1.length) = 0 then _ else _) _
  by_cases h : inB p (gL S).2.2.1.length = true
  · rw [if_neg (by rw [h]; decide), if_pos h, j_X11_longIn_24, m_isAhead, zC1_s]
    by_cases g : inR d 0 500 = true
    · obtain ⟨i, rfl, hi⟩ := inB_nat h
      rw [if_neg (by rw [g]; decide), if_pos g]
      rw [inR_t] at g
      obtain ⟨n, rfl⟩ := Int.eq_ofNat_of_zero_le g.1
      obtain ⟨m', f1, f2, f3⟩ := m_takesIn (v := 0) h0 (p := i) hi (show n < 1000000 by omega)
      have h2 := h0.fr (rowP_scr f2)
      rw [j_X11_longIn_37, if_pos h0.1.1, f1, zC0_s, if_pos h2.1.1, f3.1, Int.toNat_natCast, Int.toNat_natCast]; exact x2_yes h2
    · rw [if_pos (b01_ne.mpr (bool_f g)), if_neg g, if_pos h0.1.1]; exact x2_noC h0
  · rw [if_pos (b01_ne.mpr (bool_f h)), if_neg h, if_pos h0.1.1]; exact x2_noC h0
theorem w_sayIn (hR : R2 S m) (p d k : Int) : Ex2 (zF zP 395 v [(.inr (.inr (some 0))), .inl p, .inl d, .inl k] m) (o_sayIn S p d k) := by
  have h0 := hR.pre
  unfold o_sayIn oWd
  rw [f_X11_sayIn, if_pos hR.1.1, zT_wi, if_pos hR.1.1, zT_wi, zT_wi, if_pos hR.1.1]
  generalize zwi (zwi m 0 1 0) 0 0 0 = m0 at h0 ⊢
  rw [m_isPersonAt h0, zC1_s]
  show Ex2 (if b01 (inB p (gL S).2.2.1.length) = 0 then _ else _) _
  by_cases h : inB p (gL S).2.2.1.length = true
  · rw [if_neg (by rw [h]; decide), if_pos h, j_X11_sayIn_24, m_isAhead, zC1_s]
    by_cases g : inR d 0 500 = true
    · obtain ⟨i, rfl, hi⟩ := inB_nat h
      rw [if_neg (by rw [g]; decide), if_pos g]
      rw [inR_t] at g
      obtain ⟨n, rfl⟩ := Int.eq_ofNat_of_zero_le g.1
      obtain ⟨m', f1, f2, f3⟩ := m_takesIn (v := 0) h0 (p := i) hi (show n < 1000000 by omega)
      have h2 := h0.fr (rowP_scr f2)
      have hL : (inDays (gL S) i n).length ≤ 8 := f3.2.1
      rw [j_X11_sayIn_37, if_pos h0.1.1, f1, zC0_s, if_pos h2.1.1, f3.1]
      show Ex2 (zC1 (zF zP 243 0 [.inr (.inl k), .inr (.inl 0), .inr (.inl (zsub ((inDays (gL S) i n).length : Int) 1))] m') _) _
      rw [m_isIn, zC1_s, inR_inB (by omega), Int.toNat_natCast, Int.toNat_natCast]
      by_cases q : inB k (inDays (gL S) i n).length = true
      · obtain ⟨j, rfl, hj⟩ := inB_nat q
        rw [if_neg (by rw [q]; decide), if_pos q, if_pos h2.1.1, h2.1.2.1.2.1.2.2.2, obind, if_pos (h2.1.2.2.2.1.2.2.2.A (by omega) (by omega)), Int.toNat_natCast, f3.2.2 j hj, j_X11_sayIn_74]
        exact ⟨m', rfl, h2⟩
      · rw [if_pos (b01_ne.mpr (bool_f q)), if_neg q, j_X11_sayIn_68, if_pos h2.1.1, m_refuse h2.1, zC1_s, j_X11_sayIn_74]
        exact ⟨_, rfl, h2.st⟩
    · rw [if_pos (b01_ne.mpr (bool_f g)), if_neg g, if_pos h0.1.1]; exact x2_noC h0
  · rw [if_pos (b01_ne.mpr (bool_f h)), if_neg h, if_pos h0.1.1]; exact x2_noC h0
theorem w_saysFirst_loop (hR0 : R2 (wSt S 0) m) {p w : Nat} (hp : p < (gL S).2.2.1.length) : ∀ (n k : Nat) (l : List Nat) (m1 : zM), Fr (rowP 0) m m1 → ArV m1 27 8 l → rOk l → k + n = 501 →
    Ex2 (zX zP 396 v 40 [some (.inr (.inr (some 0))), some (.inl (p : Int)), some (.inl (w : Int)), some (.inl (k : Int))] [] m1) (oFd S (sfF (lday (gL S) p) (fun l => !decide (ixF l w 0 = -1)) n k l)) := by
  have h6 : (gL S).2.2.1.length ≤ 6 := hR0.p6
  have e157 : ∀ _ : Unit, zadd 157 (p : Int) = ((157 + p : Nat) : Int) := fun _ => zadd_nat (n := 157) (by omega)
  have hpl := (hR0.ps (i := p) hp).2
  intro n
  induction n with
  | zero =>
    intro k l m1 hF hv hl hk
    have hR := hR0.fr (rowP_scr hF)
    rw [j_X11_saysFirst_40, if_pos (by omega), j_X11_saysFirst_95, if_pos hR.1.1]; exact x2_noC hR
  | succ n ih =>
    intro k l m1 hF hv hl hk
    have hR := hR0.fr (rowP_scr hF)
    rw [j_X11_saysFirst_40, if_neg (by omega), if_pos hR.1.1]
    have hfo := m_firstOf (v := 0) (w := w) hR.1.mo hv.ro
    rw [hfo, zC1_s, sfF]
    by_cases e : ixF l w 0 = -1
    · rw [if_pos (by omega), if_neg (by rw [decide_eq_true e]; decide), j_X11_saysFirst_57, if_pos hR.1.1, hR.1.2.1.2.1.1, obind, e157 (), if_pos (cA hR.1 (by omega)), if_pos hR.1.1, Int.toNat_natCast, (hR.pc (i := p) hp).1, m_isLost hR hpl, zC1_s]
      show Ex2 (if b01 ((gL S).2.1.getD ((gL S).2.2.1.getD p ps0).2.1 ln0).2.1 = 0 then _ else _) _
      by_cases q : ((gL S).2.1.getD ((gL S).2.2.1.getD p ps0).2.1 ln0).2.1 = true
      · have ed : lday (gL S) p l = l := by unfold lday; rw [if_pos q]
        rw [if_neg (by rw [q]; decide), j_X11_saysFirst_89, zadd1 (by omega), ed]
        exact ih (k + 1) l m1 hF hv hl (by omega)
      · have ed : lday (gL S) p l = lput ((gL S).2.1.getD ((gL S).2.2.1.getD p ps0).2.1 ln0).2.2 l := by unfold lday; rw [if_neg q]
        obtain ⟨m2, g1, g2, g3, g4⟩ := m_putsR (v := 0) hR hpl hv hl
        rw [if_pos (b01_ne.mpr (bool_f q)), if_pos hR.1.1, hR.1.2.1.2.1.1, obind, if_pos (cA hR.1 (by omega)), if_pos hR.1.1, (hR.pc (i := p) hp).1, g1, zC1_s, j_X11_saysFirst_89, zadd1 (by omega), ed]
        exact ih (k + 1) _ m2 (hF.tr g2) g3 g4 (by omega)
    · have hge : 0 ≤ ixF l w 0 := by rcases ixF_ge l w 0 with q | q; exact absurd q e; omega
      rw [if_neg (by omega), if_pos (by rw [decide_eq_false e]; rfl)]
      unfold oFd
      rw [if_neg (by omega)]
      exact x2_yes hR
theorem w_saysFirst (hR : R2 S m) (p w : Int) : Ex2 (zF zP 396 v [(.inr (.inr (some 0))), .inl p, .inl w] m) (o_saysFirst S p w) := by
  have h0 := hR.pre
  unfold o_saysFirst
  rw [f_X11_saysFirst, if_pos hR.1.1, zT_wi, if_pos hR.1.1, zT_wi, zT_wi, if_pos hR.1.1]
  generalize zwi (zwi m 0 1 0) 0 0 0 = m0 at h0 ⊢
  rw [m_isPersonAt h0, zC1_s]
  show Ex2 (if b01 (inB p (gL S).2.2.1.length) = 0 then _ else _) _
  by_cases h : inB p (gL S).2.2.1.length = true
  · rw [if_neg (by rw [h]; decide), if_pos h, if_pos h0.1.1, m_isWordAt h0, zC1_s]
    show Ex2 (if b01 (inB w (gL S).1.length) = 0 then _ else _) _
    by_cases g : inB w (gL S).1.length = true
    · obtain ⟨i, rfl, hi⟩ := inB_nat h
      obtain ⟨k, rfl, hk⟩ := inB_nat g
      obtain ⟨m1, g1, g2, g3⟩ := m_takesSaid (v := 0) h0 (p := i) hi
      rw [if_neg (by rw [g]; decide), if_pos g, j_X11_saysFirst_33, if_pos h0.1.1, g1, zC0_s, Int.toNat_natCast, Int.toNat_natCast]
      exact w_saysFirst_loop (v := v) h0 hi 501 0 _ m1 g2 g3 (h0.rok (p := i) hi) (by omega)
    · rw [if_pos (b01_ne.mpr (bool_f g)), if_neg g, j_X11_saysFirst_27, if_pos h0.1.1]; exact x2_noC h0
  · rw [if_pos (b01_ne.mpr (bool_f h)), if_neg h, j_X11_saysFirst_27, if_pos h0.1.1]; exact x2_noC h0
theorem w_silentIn_loop (hR0 : R2 (wSt S 0) m) {p : Nat} (hp : p < (gL S).2.2.1.length) : ∀ (n k : Nat) (l : List Nat) (m1 : zM), Fr (rowP 0) m m1 → ArV m1 27 8 l → rOk l → k + n = 501 →
    Ex2 (zX zP 397 v 31 [some (.inr (.inr (some 0))), some (.inl (p : Int)), some (.inl (k : Int))] [] m1) (oFd S (sfF (lday (gL S) p) (fun l => decide (l.length = 0)) n k l)) := by
  have h6 : (gL S).2.2.1.length ≤ 6 := hR0.p6
  have e157 : ∀ _ : Unit, zadd 157 (p : Int) = ((157 + p : Nat) : Int) := fun _ => zadd_nat (n := 157) (by omega)
  have hpl := (hR0.ps (i := p) hp).2
  intro n
  induction n with
  | zero =>
    intro k l m1 hF hv hl hk
    have hR := hR0.fr (rowP_scr hF)
    rw [j_X11_silentIn_31, if_pos (by omega), j_X11_silentIn_85, if_pos hR.1.1]; exact x2_noC hR
  | succ n ih =>
    intro k l m1 hF hv hl hk
    have hR := hR0.fr (rowP_scr hF)
    rw [j_X11_silentIn_31, if_neg (by omega), if_pos hR.1.1, hv.1, sfF]
    by_cases e : l.length = 0
    · rw [if_pos (by omega), if_pos (decide_eq_true e)]
      unfold oFd
      rw [if_neg (by omega)]
      exact x2_yes hR
    · rw [if_neg (by omega), if_neg (by rw [decide_eq_false e]; decide), j_X11_silentIn_47, if_pos hR.1.1, hR.1.2.1.2.1.1, obind, e157 (), if_pos (cA hR.1 (by omega)), if_pos hR.1.1, Int.toNat_natCast, (hR.pc (i := p) hp).1, m_isLost hR hpl, zC1_s]
      show Ex2 (if b01 ((gL S).2.1.getD ((gL S).2.2.1.getD p ps0).2.1 ln0).2.1 = 0 then _ else _) _
      by_cases q : ((gL S).2.1.getD ((gL S).2.2.1.getD p ps0).2.1 ln0).2.1 = true
      · have ed : lday (gL S) p l = l := by unfold lday; rw [if_pos q]
        rw [if_neg (by rw [q]; decide), j_X11_silentIn_79, zadd1 (by omega), ed]
        exact ih (k + 1) l m1 hF hv hl (by omega)
      · have ed : lday (gL S) p l = lput ((gL S).2.1.getD ((gL S).2.2.1.getD p ps0).2.1 ln0).2.2 l := by unfold lday; rw [if_neg q]
        obtain ⟨m2, g1, g2, g3, g4⟩ := m_putsR (v := 0) hR hpl hv hl
        rw [if_pos (b01_ne.mpr (bool_f q)), if_pos hR.1.1, hR.1.2.1.2.1.1, obind, if_pos (cA hR.1 (by omega)), if_pos hR.1.1, (hR.pc (i := p) hp).1, g1, zC1_s, j_X11_silentIn_79, zadd1 (by omega), ed]
        exact ih (k + 1) _ m2 (hF.tr g2) g3 g4 (by omega)
theorem w_silentIn (hR : R2 S m) (p : Int) : Ex2 (zF zP 397 v [(.inr (.inr (some 0))), .inl p] m) (o_silentIn S p) := by
  have h0 := hR.pre
  unfold o_silentIn
  rw [f_X11_silentIn, if_pos hR.1.1, zT_wi, if_pos hR.1.1, zT_wi, zT_wi, if_pos hR.1.1]
  generalize zwi (zwi m 0 1 0) 0 0 0 = m0 at h0 ⊢
  rw [m_isPersonAt h0, zC1_s]
  show Ex2 (if b01 (inB p (gL S).2.2.1.length) = 0 then _ else _) _
  by_cases h : inB p (gL S).2.2.1.length = true
  · obtain ⟨i, rfl, hi⟩ := inB_nat h
    obtain ⟨m1, g1, g2, g3⟩ := m_takesSaid (v := 0) h0 (p := i) hi
    rw [if_neg (by rw [h]; decide), if_pos h, j_X11_silentIn_24, if_pos h0.1.1, g1, zC0_s, Int.toNat_natCast]
    exact w_silentIn_loop (v := v) h0 hi 501 0 _ m1 g2 g3 (h0.rok (p := i) hi) (by omega)
  · rw [if_pos (b01_ne.mpr (bool_f h)), if_neg h, if_pos h0.1.1]; exact x2_noC h0
theorem w_alikeIn_loop {p d : Nat} (hp : p < (gL S).2.2.1.length) (hd : d < 1000000) : ∀ (n k : Nat) (acc : Int) (m1 : zM), R2 (wSt S 0) m1 → ArV m1 31 10 (inDays (gL S) p d) → r32 acc → k + n = (gL S).2.2.1.length →
    Ex2 (zX zP 398 v 52 [some (.inr (.inr (some 0))), some (.inl (p : Int)), some (.inl (d : Int)), some (.inl acc), some (.inl (k : Int))] [] m1) (oYes S (setF (alF (gL S) p d) n k acc)) := by
  intro n
  induction n with
  | zero =>
    intro k acc m1 hR ho ha hk
    have h6 : (gL S).2.2.1.length ≤ 6 := hR.p6
    have hc2 : zi m1 5 (Int.toNat 2) = ((gL S).2.2.1.length : Int) := hR.c2
    rw [j_X11_alikeIn_52, if_pos hR.1.1, hR.1.2.1.2.1.1, obind, if_pos (A5 hR.1 (by omega) (by omega)), hc2, if_neg (by omega), j_X11_alikeIn_103]
    exact x2_yes hR
  | succ n ih =>
    intro k acc m1 hR ho ha hk
    have h6 : (gL S).2.2.1.length ≤ 6 := hR.p6
    have hc2 : zi m1 5 (Int.toNat 2) = ((gL S).2.2.1.length : Int) := hR.c2
    rw [j_X11_alikeIn_52, if_pos hR.1.1, hR.1.2.1.2.1.1, obind, if_pos (A5 hR.1 (by omega) (by omega)), hc2, if_pos (by omega), setF]
    by_cases e : k = p
    · rw [if_pos (by omega), j_X11_alikeIn_97, zadd1 (by omega), if_neg (by rw [e]; exact alF_s _ _ _)]
      exact ih (k + 1) acc m1 hR ho ha (by omega)
    · obtain ⟨m2, f1, f2, f3⟩ := m_takesIn (v := 0) hR (p := k) (d := d) (show k < (gL S).2.2.1.length by omega) hd
      have hR2 := hR.fr (rowP_scr f2)
      have ho2 := ar31 f2 ho
      rw [if_neg (by omega), j_X11_alikeIn_72, if_pos hR.1.1, f1, zC0_s, if_pos hR2.1.1, m_isOther hR2.1 f3 ho2, zC1_s]
      show Ex2 (if b01 (decide (inDays (gL S) k d = inDays (gL S) p d)) = 0 then _ else _) _
      by_cases g : inDays (gL S) k d = inDays (gL S) p d
      · rw [if_neg (by rw [decide_eq_true g]; decide), j_X11_alikeIn_95, j_X11_alikeIn_97, zadd1 (by omega), if_pos (by rw [alF_n e]; exact decide_eq_true g)]
        exact ih (k + 1) _ m2 hR2 ho2 (r32_or _ _) (by omega)
      · rw [if_pos (by rw [decide_eq_false g]; rfl), j_X11_alikeIn_94, j_X11_alikeIn_95, j_X11_alikeIn_97, zor0 ha, zadd1 (by omega), if_neg (by rw [alF_n e, decide_eq_false g]; decide)]
        exact ih (k + 1) acc m2 hR2 ho2 ha (by omega)
theorem w_alikeIn (hR : R2 S m) (p d : Int) : Ex2 (zF zP 398 v [(.inr (.inr (some 0))), .inl p, .inl d] m) (o_alikeIn S p d) := by
  have h0 := hR.pre
  unfold o_alikeIn
  rw [f_X11_alikeIn, if_pos hR.1.1, zT_wi, if_pos hR.1.1, zT_wi, zT_wi, if_pos hR.1.1]
  generalize zwi (zwi m 0 1 0) 0 0 0 = m0 at h0 ⊢
  rw [m_isPersonAt h0, zC1_s]
  show Ex2 (if b01 (inB p (gL S).2.2.1.length) = 0 then _ else _) _
  by_cases h : inB p (gL S).2.2.1.length = true
  · rw [if_neg (by rw [h]; decide), if_pos h, j_X11_alikeIn_24, m_isAhead, zC1_s]
    by_cases g : inR d 0 500 = true
    · obtain ⟨i, rfl, hi⟩ := inB_nat h
      rw [if_neg (by rw [g]; decide), if_pos g]
      rw [inR_t] at g
      obtain ⟨n, rfl⟩ := Int.eq_ofNat_of_zero_le g.1
      obtain ⟨m', f1, f2, f3⟩ := m_takesIn (v := 0) h0 (p := i) hi (show n < 1000000 by omega)
      have h2 := h0.fr (rowP_scr f2)
      obtain ⟨m2, g1, g2, g3⟩ := m_others (v := 0) h2.1 f3
      have h3 := h2.fr (arP10_scr g2)
      rw [j_X11_alikeIn_37, if_pos h0.1.1, f1, zC0_s, if_pos h2.1.1, g1, zC0_s, Int.toNat_natCast, Int.toNat_natCast]
      exact w_alikeIn_loop (v := v) hi (by omega) (gL S).2.2.1.length 0 0 m2 h3 g3 r32_0 (by omega)
    · rw [if_pos (b01_ne.mpr (bool_f g)), if_neg g, if_pos h0.1.1]; exact x2_noC h0
  · rw [if_pos (b01_ne.mpr (bool_f h)), if_neg h, if_pos h0.1.1]; exact x2_noC h0
/-- one PERSON, one DAY -/
theorem psSet_id (L : zLd) (p : Nat) : psSet L p ((L.2.2.1.getD p ps0).1, (L.2.2.1.getD p ps0).2.1, row0 L p) = L := by
  have : L.2.2.1.set p (L.2.2.1.getD p ps0) = L.2.2.1 := by
    apply ps_ext
    · rw [List.length_set]
    · intro i hi
      rw [List.length_set] at hi
      rw [getD_set]
      by_cases e : p = i
      · subst e; rw [if_pos ⟨rfl, hi⟩]
      · rw [if_neg (fun q => e q.1)]
  show (L.1, L.2.1, L.2.2.1.set p (L.2.2.1.getD p ps0), L.2.2.2) = L
  rw [this]
theorem m_isPut_loop {p : Nat} {l : List Nat} (hp : p < 6) (h8 : l.length ≤ 8) : ∀ (n k : Nat) (m1 : zM), S2 m1 → ArV m1 27 8 l → k + n = l.length → (∀ i, i < k → zi m1 5 (169 + 8 * p + i) = ((l.getD i 0 : Nat) : Int)) →
    ∃ m', zX zP 343 v 45 [some (.inr (.inr (some 0))), some (.inl (p : Int)), some (.inl (k : Int))] [] m1 = zX zP 343 v 80 [some (.inr (.inr (some 0))), some (.inl (p : Int)), some (.inl (l.length : Int))] [] m' ∧ Fr (tcP p) m1 m' ∧ (∀ i, i < l.length → zi m' 5 (169 + 8 * p + i) = ((l.getD i 0 : Nat) : Int)) := by
  intro n
  induction n with
  | zero =>
    intro k m1 hS hv hk hB
    refine ⟨m1, ?_, Fr.rf _ _, fun i hi => hB i (by omega)⟩
    rw [j_X11_isPut_45, if_pos hS.1, hv.1, if_neg (by omega), show k = l.length by omega]
  | succ n ih =>
    intro k m1 hS hv hk hB
    have hk8 : k < 8 := by omega
    have hA8 : zA m1 8 9 (k : Int) = true := hS.2.2.2.1.2.2.2.A (by omega) (by omega)
    have hw : Fr (tcP p) m1 (zwi m1 5 (169 + 8 * p + k) ((l.getD k 0 : Nat) : Int)) := Fr.wi m1 _ (by unfold tcP; omega)
    obtain ⟨m', f1, f2, f3⟩ := ih (k + 1) _ (hw.s2 hS) (hw.ar (by unfold tcP; omega) (fun j => by unfold tcP; omega) hv) (by omega) (fun i hi => by
      by_cases e : i = k
      · subst e; rw [zi_wi_s]
      · rw [zi_wi_n _ _ (Or.inr (by omega))]; exact hB i (by omega))
    refine ⟨m', ?_, hw.tr f2, f3⟩
    rw [j_X11_isPut_45, if_pos hS.1, hv.1, if_pos (by omega), if_pos hS.1, hS.2.1.2.1.1, obind, if_pos hS.1, hS.2.1.2.1.2.2.2, obind, if_pos hA8, rowC hp hk8, if_pos (rowA hS hp hk8), Int.toNat_natCast, Int.toNat_natCast, hv.2.2 k (by omega), zadd1 (by omega)]
    exact f1
theorem m_isPut (hR : R2 S m) {p : Nat} (hp : p < (gL S).2.2.1.length) : ∃ m', zF zP 343 v [(.inr (.inr (some 0))), .inl (p : Int)] m = some (some (.inl (b01 (!decide (lday (gL S) p (row0 (gL S) p) = row0 (gL S) p)))), m') ∧ Fr dyP m m' ∧ R2 (wL S (psSet (gL S) p (((gL S).2.2.1.getD p ps0).1, ((gL S).2.2.1.getD p ps0).2.1, lday (gL S) p (row0 (gL S) p)))) m' := by
  have h6 := hR.p6
  have hp6 : p < 6 := by omega
  have e157 : ∀ _ : Unit, zadd 157 (p : Int) = ((157 + p : Nat) : Int) := fun _ => zadd_nat (n := 157) (by omega)
  have e163 : ∀ _ : Unit, zadd 163 (p : Int) = ((163 + p : Nat) : Int) := fun _ => zadd_nat (n := 163) (by omega)
  have hpl := (hR.ps hp).2
  rw [f_X11_isPut, if_pos hR.1.1, hR.1.2.1.2.1.1, obind, e157 (), if_pos (cA hR.1 (by omega)), if_pos hR.1.1, Int.toNat_natCast, (hR.pc hp).1, m_isLost hR hpl, zC1_s]
  by_cases e : ((gL S).2.1.getD ((gL S).2.2.1.getD p ps0).2.1 ln0).2.1 = true
  · have ed : lday (gL S) p (row0 (gL S) p) = row0 (gL S) p := by unfold lday; rw [if_pos e]
    refine ⟨m, ?_, Fr.rf _ _, ?_⟩
    · rw [if_neg (by rw [e]; decide), if_pos zb0, decide_eq_true ed]; rfl
    · rw [ed, psSet_id]; exact hR
  · have ed : lday (gL S) p (row0 (gL S) p) = lput ((gL S).2.1.getD ((gL S).2.2.1.getD p ps0).2.1 ln0).2.2 (row0 (gL S) p) := by unfold lday; rw [if_neg e]
    have hok : rOk (lday (gL S) p (row0 (gL S) p)) := hR.dok hp (hR.rok hp)
    obtain ⟨m1, a1, a2, a3⟩ := m_takesSaid (v := 0) hR hp
    have hR1 := hR.fr (rowP_scr a2)
    obtain ⟨m2, b1, b2, b3⟩ := m_others (v := 0) hR1.1 a3
    have hR2 := hR1.fr (arP10_scr b2)
    have a4 := ar27 b2 (b := 8) (f := 27) (by decide) (by decide) a3
    obtain ⟨m3, c1, c2, c3, c4⟩ := m_putsR (v := 0) hR2 hpl a4 (hR.rok hp)
    have hR3 := hR2.fr (rowP_scr c2)
    have b4 := ar31 c2 b3
    rw [show lput ((gL S).2.1.getD ((gL S).2.2.1.getD p ps0).2.1 ln0).2.2 ((gL S).2.2.1.getD p ps0).2.2 = lday (gL S) p (row0 (gL S) p) from ed.symm] at c3
    obtain ⟨m4, d1, d2, d3⟩ := m_isPut_loop (v := v) (p := p) hp6 hok.1 (lday (gL S) p (row0 (gL S) p)).length 0 m3 hR3.1 c3 (by omega) (fun i hi => absurd hi (Nat.not_lt_zero i))
    have hS4 := d2.s2 hR3.1
    have w5 : Fr (tcP p) m4 (zwi m4 5 (163 + p) ((lday (gL S) p (row0 (gL S) p)).length : Int)) := Fr.wi m4 _ (by unfold tcP; omega)
    have d5 := d2.tr w5
    have hS5 := w5.s2 hS4
    have r4 : zi m4 0 27 = ((lday (gL S) p (row0 (gL S) p)).length : Int) := by rw [d2.i (by unfold tcP; omega)]; exact c3.1
    have v5 : ArV (zwi m4 5 (163 + p) ((lday (gL S) p (row0 (gL S) p)).length : Int)) 27 8 (lday (gL S) p (row0 (gL S) p)) := d5.ar (by unfold tcP; omega) (fun j => by unfold tcP; omega) c3
    have o5 : ArV (zwi m4 5 (163 + p) ((lday (gL S) p (row0 (gL S) p)).length : Int)) 31 10 (row0 (gL S) p) := d5.ar (by unfold tcP; omega) (fun j => by unfold tcP; omega) b4
    refine ⟨_, ?_, ((((rowP_dy a2).tr (arP_dy b2)).tr (rowP_dy c2)).tr (d5.mono (fun b j q => by unfold tcP at q; unfold dyP; omega))), ?_⟩
    · rw [if_pos (b01_ne.mpr (bool_f e)), j_X11_isPut_19, if_pos hR.1.1, a1, zC0_s, if_pos hR1.1.1, b1, zC0_s, if_pos hR2.1.1, hR2.1.2.1.2.1.1, obind, e157 (), if_pos (cA hR2.1 (by omega)), if_pos hR2.1.1, Int.toNat_natCast, (hR2.pc hp).1, c1, zC1_s, show (0 : Int) = ((0 : Nat) : Int) from rfl, d1, j_X11_isPut_80, if_pos hS4.1, hS4.2.1.2.1.1, obind, if_pos hS4.1, e163 (), if_pos (cA hS4 (by omega)), Int.toNat_natCast, r4, zT_wi, if_pos hS4.1, m_isOther hS5 v5 o5, zC1_s]
      by_cases g : lday (gL S) p (row0 (gL S) p) = row0 (gL S) p
      · rw [decide_eq_true g, if_neg (by decide), j_X11_isPut_105, j_X11_isPut_106, if_pos zb0]; rfl
      · rw [decide_eq_false g, if_pos (show b01 false = 0 from rfl), j_X11_isPut_106, if_pos zb1]; rfl
    · refine hR3.psw (x := (((gL S).2.2.1.getD p ps0).1, ((gL S).2.2.1.getD p ps0).2.1, lday (gL S) p (row0 (gL S) p))) hp (d5.mono (fun b j q => by unfold tcP at q; unfold psP; omega)) ⟨?_, ?_, ?_, hok, fun k hk => ?_⟩ hpl
      · rw [d5.l (by unfold tcP; omega)]; exact (hR3.ps hp).1.1
      · rw [d5.i (by unfold tcP; omega)]; exact (hR3.ps hp).1.2.1
      · rw [Nat.zero_add]; exact zi_wi_s _ _ _ _
      · rw [zi_wi_n _ _ (Or.inr (by omega)), Nat.zero_add]; exact d3 k hk
/-- all PEOPLE, one DAY -/
theorem m_goesDay_loop (L : zLd) : ∀ (n k : Nat) (acc : Int) (f : Nat → List Nat) (S : zSt) (m : zM), gL S = mapP L f → R2 S m → r32 acc → k + n = L.2.2.1.length → (∀ i, f i = if i < k then lday L i (row0 L i) else row0 L i) →
    ∃ m', zX zP 344 v 4 [some (.inr (.inr (some 0))), some (.inl acc), some (.inl (k : Int))] [] m = some (some (.inl (setF (fun i => !decide (lday L i (row0 L i) = row0 L i)) n k acc)), m') ∧ Fr dyP m m' ∧ R2 (wL S (tdSet (mapP L (fun i => lday L i (row0 L i))) (zadd L.2.2.2.2 1))) m' := by
  intro n
  induction n with
  | zero =>
    intro k acc f S m hL hR ha hk hf
    have hc2 : zi m 5 (Int.toNat 2) = (L.2.2.1.length : Int) := by rw [hR.c2, hL, mapP_len]
    have h6 := hR.p6
    rw [hL, mapP_len] at h6
    have ht : zi m 5 (Int.toNat 4) = L.2.2.2.2 := by rw [show zi m 5 (Int.toNat 4) = (gL S).2.2.2.2 from hR.bl.2.2.2.1.2, hL]; rfl
    have hF : Fr bl0P m (zwi m 5 4 (zadd L.2.2.2.2 1)) := Fr.wi m _ ⟨rfl, by decide⟩
    have e := hR.blk hF (hR.bl.today (β := 0) (x := zadd L.2.2.2.2 1))
    refine ⟨zwi m 5 4 (zadd L.2.2.2.2 1), ?_, hF.mono (fun b j q => by unfold bl0P at q; unfold dyP; omega), ?_⟩
    · rw [j_X11_goesDay_4, if_pos hR.1.1, hR.1.2.1.2.1.1, obind, if_pos (A5 hR.1 (by omega) (by omega)), hc2, if_neg (by omega), j_X11_goesDay_38, if_pos hR.1.1, hR.1.2.1.2.1.1, obind, if_pos (A5 hR.1 (by omega) (by omega)), if_pos (A5 hR.1 (by omega) (by omega)), ht]; rfl
    · have e2 : mapP L (fun i => lday L i (row0 L i)) = gL S := by rw [hL]; exact mapP_congr (fun i hi => by rw [hf, if_pos (by omega)])
      rw [e2]; exact e
  | succ n ih =>
    intro k acc f S m hL hR ha hk hf
    have hk' : k < L.2.2.1.length := by omega
    have hc2 : zi m 5 (Int.toNat 2) = (L.2.2.1.length : Int) := by rw [hR.c2, hL, mapP_len]
    have h6 := hR.p6
    have hkm : k < (gL S).2.2.1.length := by rw [hL, mapP_len]; exact hk'
    rw [hL, mapP_len] at h6
    have e1 : lday (gL S) k (row0 (gL S) k) = lday L k (row0 L k) := by rw [hL, mapP_lday _ _ hk', mapP_row _ _ hk', hf k, if_neg (by omega)]
    have e2 : row0 (gL S) k = row0 L k := by rw [hL, mapP_row _ _ hk', hf k, if_neg (by omega)]
    obtain ⟨m1, g1, g2, g3⟩ := m_isPut (v := 0) hR hkm
    rw [e1, e2] at g1
    rw [e1] at g3
    have hL1 : gL (wL S (psSet (gL S) k (((gL S).2.2.1.getD k ps0).1, ((gL S).2.2.1.getD k ps0).2.1, lday L k (row0 L k)))) = mapP L (fun i => if i = k then lday L k (row0 L k) else f i) := by
      rw [gL_wL, hL]; exact mapP_set L f hk' _
    have key : ∀ acc', r32 acc' → ∃ m', zX zP 344 v 4 [some (.inr (.inr (some 0))), some (.inl acc'), some (.inl ((k + 1 : Nat) : Int))] [] m1 = some (some (.inl (setF (fun i => !decide (lday L i (row0 L i) = row0 L i)) n (k + 1) acc')), m') ∧ Fr dyP m1 m' ∧ R2 (wL S (tdSet (mapP L (fun i => lday L i (row0 L i))) (zadd L.2.2.2.2 1))) m' := fun acc' ha' =>
      ih (k + 1) acc' (fun i => if i = k then lday L k (row0 L k) else f i) (wL S (psSet (gL S) k (((gL S).2.2.1.getD k ps0).1, ((gL S).2.2.1.getD k ps0).2.1, lday L k (row0 L k)))) m1 hL1 g3 ha' (by omega) (fun i => by
        by_cases e : i = k
        · subst e; rw [if_pos rfl, if_pos (by omega)]
        · rw [if_neg e, hf i]
          by_cases g : i < k
          · rw [if_pos g, if_pos (by omega)]
          · rw [if_neg g, if_neg (by omega)])
    by_cases e : lday L k (row0 L k) = row0 L k
    · obtain ⟨m', i1, i2, i3⟩ := key acc ha
      refine ⟨m', ?_, g2.tr i2, i3⟩
      rw [j_X11_goesDay_4, if_pos hR.1.1, hR.1.2.1.2.1.1, obind, if_pos (A5 hR.1 (by omega) (by omega)), hc2, if_pos (by omega), if_pos hR.1.1, g1, zC1_s, if_pos (by rw [decide_eq_true e]; rfl), j_X11_goesDay_29, j_X11_goesDay_30, zor0 ha, zadd1 (by omega), setF, if_neg (by rw [decide_eq_true e]; decide)]
      exact i1
    · obtain ⟨m', i1, i2, i3⟩ := key (zor acc (zshl 1 (k : Int))) (r32_or _ _)
      refine ⟨m', ?_, g2.tr i2, i3⟩
      rw [j_X11_goesDay_4, if_pos hR.1.1, hR.1.2.1.2.1.1, obind, if_pos (A5 hR.1 (by omega) (by omega)), hc2, if_pos (by omega), if_pos hR.1.1, g1, zC1_s, if_neg (by rw [decide_eq_false e]; decide), j_X11_goesDay_30, zadd1 (by omega), setF, if_pos (by rw [decide_eq_false e]; rfl)]
      exact i1
def day1 (L : zLd) : zLd := tdSet (mapP L (fun i => lday L i (row0 L i))) (zadd L.2.2.2.2 1)
def day1s (L : zLd) : Int := setF (fun i => !decide (lday L i (row0 L i) = row0 L i)) L.2.2.1.length 0 0
theorem m_goesDay (hR : R2 S m) : ∃ m', zF zP 344 v [(.inr (.inr (some 0)))] m = some (some (.inl (day1s (gL S))), m') ∧ Fr dyP m m' ∧ R2 (wL S (day1 (gL S))) m' := by
  rw [f_X11_goesDay]
  exact m_goesDay_loop (v := v) (gL S) _ 0 0 (fun i => row0 (gL S) i) S m (mapP_id (fun i _ => rfl)).symm hR r32_0 (by omega) (fun i => by rw [if_neg (Nat.not_lt_zero i)])
end DAYS2
