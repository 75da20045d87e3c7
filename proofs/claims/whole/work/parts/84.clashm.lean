/-! The reference's search for a CLASH; its TEXTS. -/
section CLASHM
variable {v : Nat} {S : zSt} {m : zM}
theorem m_clashing_in {i j N : Nat} (hi : i < (gL S).2.1.length) (hj : j < (gL S).2.1.length) (hN : N ≤ 5) : ∀ (R : List (List Nat)) (k : Nat) (m1 : zM), (rws (List.range (gL S).1.length) N).drop k = R → R2 S m1 → zi m1 0 37 = (N : Int) →
    (∀ c, R.find? (clsP ((gL S).2.1.getD i ln0).2.2 ((gL S).2.1.getD j ln0).2.2) = some c → ∃ (code : Nat) (m' : zM), zX zP 382 v 15 [some (.inr (.inr (some 0))), some (.inl (i : Int)), some (.inl (j : Int)), some (.inl (N : Int)), some (.inl (k : Int))] [] m1 = some (some (.inl (code : Int)), m') ∧ R2 S m' ∧ zi m' 0 37 = (N : Int) ∧ code < (gL S).1.length ^ N ∧ dgs (gL S).1.length N code = c) ∧
    (R.find? (clsP ((gL S).2.1.getD i ln0).2.2 ((gL S).2.1.getD j ln0).2.2) = none → ∃ (u : Option zV) (m' : zM), zX zP 382 v 15 [some (.inr (.inr (some 0))), some (.inl (i : Int)), some (.inl (j : Int)), some (.inl (N : Int)), some (.inl (k : Int))] [] m1 = zX zP 382 v 2 [some (.inr (.inr (some 0))), some (.inl (i : Int)), some (.inl (j : Int)), some (.inl ((N + 1 : Nat) : Int)), u] [] m' ∧ R2 S m') := by
  intro R
  induction R with
  | nil =>
    intro k m1 hd hR h37
    refine ⟨fun c h => (nomatch h), fun _ => ⟨some (.inl (k : Int)), m1, ?_, hR⟩⟩
    have hk : (gL S).1.length ^ N ≤ k := by
      have := List.drop_eq_nil_iff.mp hd
      rw [rws_len, List.length_range] at this
      exact this
    have e1 : ∀ _ : Unit, zadd (N : Int) 1 = ((N + 1 : Nat) : Int) := fun _ => zadd_nat (k := 1) (by omega)
    rw [j_X11_clashing_15, if_pos hR.1.1, m_rowsOf hR hN, zC1_s, if_neg (by omega), j_X11_clashing_83, e1 ()]
  | cons c R ih =>
    intro k m1 hd hR h37
    have h8 := hR.w8
    obtain ⟨q1, q2, q3⟩ := rdrop_cons hd
    rw [rws_len, List.length_range] at q1
    rw [rws_get N k q1] at q2
    have hM := pow_m h8 hN
    have hc := (dgs_ok h8 hN q1).1
    rw [q2] at hc
    obtain ⟨m2, f1, f2, f3⟩ := m_takesCode (v := 0) hR hN (pow_pos q1) (c := k) (by omega)
    rw [q2] at f3
    have hR2 := hR.fr (rowP_scr f2)
    obtain ⟨m3, g1, g2, g3, g4⟩ := m_putsR (v := 0) hR2 hi f3 hc
    have hR3 := hR2.fr (rowP_scr g2)
    obtain ⟨m4, a1, a2, a3, a4⟩ := m_putsR (v := 0) hR3 hj g3 g4
    have hR4 := hR3.fr (rowP_scr a2)
    obtain ⟨m5, b1, b2, b3⟩ := m_others (v := 0) hR4.1 a3
    have hR5 := hR4.fr (arP_scr (by decide) (by decide) b2)
    obtain ⟨m6, k1, k2, k3⟩ := m_takesCode (v := 0) hR5 hN (pow_pos q1) (c := k) (by omega)
    rw [q2] at k3
    have hR6 := hR5.fr (rowP_scr k2)
    have w6 : ArV m6 31 10 _ := k2.ar (by unfold rowP; omega) (fun j => by unfold rowP; omega) b3
    obtain ⟨m7, l1, l2, l3, l4⟩ := m_putsR (v := 0) hR6 hj k3 hc
    have hR7 := hR6.fr (rowP_scr l2)
    have w7 : ArV m7 31 10 _ := l2.ar (by unfold rowP; omega) (fun j => by unfold rowP; omega) w6
    obtain ⟨m8, n1, n2, n3, n4⟩ := m_putsR (v := 0) hR7 hi l3 l4
    have hR8 := hR7.fr (rowP_scr n2)
    have w8 : ArV m8 31 10 _ := n2.ar (by unfold rowP; omega) (fun j => by unfold rowP; omega) w7
    have ho := m_isOther (v := 0) hR8.1 n3 w8
    have h37' : zi m8 0 37 = (N : Int) := by rw [n2.i (by unfold rowP; omega), l2.i (by unfold rowP; omega), k2.i (by unfold rowP; omega), b2.i (by unfold arP; omega), a2.i (by unfold rowP; omega), g2.i (by unfold rowP; omega), f2.i (by unfold rowP; omega)]; exact h37
    have step : zX zP 382 v 15 [some (.inr (.inr (some 0))), some (.inl (i : Int)), some (.inl (j : Int)), some (.inl (N : Int)), some (.inl (k : Int))] [] m1 = if b01 (decide (lput ((gL S).2.1.getD i ln0).2.2 (lput ((gL S).2.1.getD j ln0).2.2 c) = lput ((gL S).2.1.getD j ln0).2.2 (lput ((gL S).2.1.getD i ln0).2.2 c))) = 0 then some (some (.inl (k : Int)), m8) else zX zP 382 v 77 [some (.inr (.inr (some 0))), some (.inl (i : Int)), some (.inl (j : Int)), some (.inl (N : Int)), some (.inl (k : Int))] [] m8 := by
      rw [j_X11_clashing_15, if_pos hR.1.1, m_rowsOf hR hN, zC1_s, if_pos (by omega), if_pos hR.1.1, f1, zC0_s, if_pos hR2.1.1, g1, zC1_s, if_pos hR3.1.1, a1, zC1_s, if_pos hR4.1.1, b1, zC0_s, if_pos hR5.1.1, k1, zC0_s, if_pos hR6.1.1, l1, zC1_s, if_pos hR7.1.1, n1, zC1_s, if_pos hR8.1.1, ho, zC1_s]
    rw [step]
    by_cases g : lput ((gL S).2.1.getD j ln0).2.2 (lput ((gL S).2.1.getD i ln0).2.2 c) = lput ((gL S).2.1.getD i ln0).2.2 (lput ((gL S).2.1.getD j ln0).2.2 c)
    · have hp : clsP ((gL S).2.1.getD i ln0).2.2 ((gL S).2.1.getD j ln0).2.2 c = false := by unfold clsP; rw [decide_eq_true g]; rfl
      have e1 : ∀ _ : Unit, zadd (k : Int) 1 = ((k + 1 : Nat) : Int) := fun _ => zadd_nat (k := 1) (by omega)
      rw [List.find?_cons, hp, decide_eq_true g.symm, if_neg (by decide), j_X11_clashing_77, e1 ()]
      exact ih (k + 1) m8 q3 hR8 h37'
    · have hp : clsP ((gL S).2.1.getD i ln0).2.2 ((gL S).2.1.getD j ln0).2.2 c = true := by unfold clsP; rw [decide_eq_false g]; rfl
      rw [List.find?_cons, hp, decide_eq_false (fun w => g w.symm), if_pos (by decide)]
      exact ⟨fun c' e => ⟨k, m8, rfl, hR8, h37', q1, q2.trans (Option.some.inj e)⟩, fun e => absurd (show true = false from congrArg Option.isSome e) (by decide)⟩
def clR (L : zLd) (i j : Nat) : Option (List Nat) := fsz (clsP (L.2.1.getD i ln0).2.2 (L.2.1.getD j ln0).2.2) (List.range L.1.length) 4 0
theorem m_clashing (hR : R2 S m) {i j : Nat} (hi : i < (gL S).2.1.length) (hj : j < (gL S).2.1.length) :
    (∀ c, clR (gL S) i j = some c → ∃ (code : Nat) (m' : zM), zF zP 382 v [(.inr (.inr (some 0))), .inl (i : Int), .inl (j : Int)] m = some (some (.inl (code : Int)), m') ∧ R2 S m' ∧ zi m' 0 37 = (c.length : Int) ∧ c.length ≤ 5 ∧ code < (gL S).1.length ^ c.length ∧ dgs (gL S).1.length c.length code = c) ∧
    (clR (gL S) i j = none → ∃ m' : zM, zF zP 382 v [(.inr (.inr (some 0))), .inl (i : Int), .inl (j : Int)] m = some (some (.inl (-1)), m') ∧ R2 S m') := by
  have loop : ∀ (n k : Nat) (u : Option zV) (m1 : zM), k + n = 4 → R2 S m1 →
      (∀ c, fsz (clsP ((gL S).2.1.getD i ln0).2.2 ((gL S).2.1.getD j ln0).2.2) (List.range (gL S).1.length) n k = some c → ∃ (code : Nat) (m' : zM), zX zP 382 v 2 [some (.inr (.inr (some 0))), some (.inl (i : Int)), some (.inl (j : Int)), some (.inl (k : Int)), u] [] m1 = some (some (.inl (code : Int)), m') ∧ R2 S m' ∧ zi m' 0 37 = (c.length : Int) ∧ c.length ≤ 5 ∧ code < (gL S).1.length ^ c.length ∧ dgs (gL S).1.length c.length code = c) ∧
      (fsz (clsP ((gL S).2.1.getD i ln0).2.2 ((gL S).2.1.getD j ln0).2.2) (List.range (gL S).1.length) n k = none → ∃ m' : zM, zX zP 382 v 2 [some (.inr (.inr (some 0))), some (.inl (i : Int)), some (.inl (j : Int)), some (.inl (k : Int)), u] [] m1 = some (some (.inl (-1)), m') ∧ R2 S m') := by
    intro n
    induction n with
    | zero =>
      intro k u m1 hk hR1
      refine ⟨fun c h => (nomatch h), fun _ => ⟨m1, ?_, hR1⟩⟩
      rw [j_X11_clashing_2, if_neg (by omega), j_X11_clashing_89]
    | succ n ih =>
      intro k u m1 hk hR1
      have hw : Fr scr m1 (zwi m1 0 37 (k : Int)) := Fr.wi m1 _ (by unfold scr; omega)
      obtain ⟨g1, g2⟩ := m_clashing_in (v := v) hi hj (N := k) (by omega) (rws (List.range (gL S).1.length) k) 0 (zwi m1 0 37 (k : Int)) rfl (hR1.fr hw) (zi_wi_s _ _ _ _)
      have e0 : ((0 : Nat) : Int) = 0 := rfl
      rw [e0] at g1 g2
      have hfs : fsz (clsP ((gL S).2.1.getD i ln0).2.2 ((gL S).2.1.getD j ln0).2.2) (List.range (gL S).1.length) (n + 1) k = match (rws (List.range (gL S).1.length) k).find? (clsP ((gL S).2.1.getD i ln0).2.2 ((gL S).2.1.getD j ln0).2.2) with
        | some r => some r
        | none => fsz (clsP ((gL S).2.1.getD i ln0).2.2 ((gL S).2.1.getD j ln0).2.2) (List.range (gL S).1.length) n (k + 1) := rfl
      rw [j_X11_clashing_2, if_pos (by omega), if_pos hR1.1.1]
      cases hc : (rws (List.range (gL S).1.length) k).find? (clsP ((gL S).2.1.getD i ln0).2.2 ((gL S).2.1.getD j ln0).2.2) with
      | some c =>
        rw [hc] at hfs
        rw [hfs]
        refine ⟨fun c' e => ?_, fun e => absurd (show true = false from congrArg Option.isSome e) (by decide)⟩
        have e' : c = c' := Option.some.inj e
        subst e'
        obtain ⟨code, m', x1, x2, x3, x4, x5⟩ := g1 c hc
        have hl : c.length = k := by rw [← x5]; exact dgs_len _ _ _
        rw [hl]
        exact ⟨code, m', x1, x2, x3, by omega, x4, x5⟩
      | none =>
        rw [hc] at hfs
        rw [hfs]
        obtain ⟨u', m', x1, x2⟩ := g2 hc
        obtain ⟨y1, y2⟩ := ih (k + 1) u' m' (by omega) x2
        refine ⟨fun c e => ?_, fun e => ?_⟩
        · obtain ⟨code, m'', z1, z2⟩ := y1 c e
          exact ⟨code, m'', x1.trans z1, z2⟩
        · obtain ⟨m'', z1, z2⟩ := y2 e
          exact ⟨m'', x1.trans z1, z2⟩
  have hl := loop 4 0 none m rfl hR
  have e0 : ((0 : Nat) : Int) = 0 := rfl
  rw [e0] at hl
  rw [f_X11_clashing]
  exact hl
def txP (es : List zEd) (w c : List Nat) : Bool := decide (zro (lall es c) = zrow w)
theorem txP_eq {es : List zEd} {w c : List Nat} (he : ∀ e ∈ es, eOk e) (hc : rOk c) (hw : rOk w) : txP es w c = ((lall es c).isSome && decide (lput es c = w)) := by
  unfold txP
  cases g : lall es c with
  | none =>
    rw [show (none : Option (List Nat)).isSome = false from rfl, Bool.false_and]
    exact decide_eq_false (fun q => zrow_pos w q.symm)
  | some d =>
    rw [show (some d : Option (List Nat)).isSome = true from rfl, Bool.true_and, lall_lput es c d g]
    exact decide_eq_decide.mpr ⟨fun q => zrow_inj (lall_ok es c d he hc g) hw q, fun q => by rw [q]; rfl⟩
theorem m_texts_in {i N : Nat} (hi : i < (gL S).2.1.length) (hN : N ≤ 5) {w : List Nat} (hw : rOk w) {x1 x2 : Int} : ∀ (R : List (List Nat)) (k : Nat) (acc : Int) (m1 : zM), (rws (List.range (gL S).1.length) N).drop k = R → R2 S m1 → ArV m1 31 10 w → r32 acc →
    ∃ m' : zM, zX zP 381 v 70 [some (.inr (.inr (some 0))), some (.inl x1), some (.inl x2), some (.inl (i : Int)), some (.inl (N : Int)), some (.inl acc), some (.inl (k : Int))] [] m1 = some (some (.inl (cntT (txP ((gL S).2.1.getD i ln0).2.2 w) R acc)), m') ∧ R2 S m' := by
  intro R
  induction R with
  | nil =>
    intro k acc m1 hd hR hv ha
    have hk : (gL S).1.length ^ N ≤ k := by
      have := List.drop_eq_nil_iff.mp hd
      rw [rws_len, List.length_range] at this
      exact this
    exact ⟨m1, by rw [j_X11_texts_70, if_pos hR.1.1, m_rowsOf hR hN, zC1_s, if_neg (by omega), j_X11_texts_120]; rfl, hR⟩
  | cons c R ih =>
    intro k acc m1 hd hR hv ha
    have h8 := hR.w8
    obtain ⟨q1, q2, q3⟩ := rdrop_cons hd
    rw [rws_len, List.length_range] at q1
    rw [rws_get N k q1] at q2
    have hM := pow_m h8 hN
    have hc := (dgs_ok h8 hN q1).1
    rw [q2] at hc
    obtain ⟨m2, f1, f2, f3⟩ := m_takesCode (v := 0) hR hN (pow_pos q1) (c := k) (by omega)
    rw [q2] at f3
    have hR2 := hR.fr (rowP_scr f2)
    obtain ⟨m3, g1, g2, g3, g4⟩ := m_putsR (v := 0) hR2 hi f3 hc
    have hR3 := hR2.fr (rowP_scr g2)
    have w3 : ArV m3 31 10 w := g2.ar (by unfold rowP; omega) (fun j => by unfold rowP; omega) (f2.ar (by unfold rowP; omega) (fun j => by unfold rowP; omega) hv)
    have ho := m_isOther (v := 0) hR3.1 g3 w3
    obtain ⟨a', v1, v2⟩ := vainE_all ((gL S).2.1.getD i ln0).2.2 0 0 c (by decide) (by have := (hR.em hi).2.1; omega)
    have e0 : ((0 : Nat) : Int) = 0 := rfl
    have e1 : ∀ _ : Unit, zadd (k : Int) 1 = ((k + 1 : Nat) : Int) := fun _ => zadd_nat (k := 1) (by omega)
    rw [e0] at v1
    have hct : cntT (txP ((gL S).2.1.getD i ln0).2.2 w) (c :: R) acc = cntT (txP ((gL S).2.1.getD i ln0).2.2 w) R (if txP ((gL S).2.1.getD i ln0).2.2 w c = true then zadd acc 1 else acc) := rfl
    rw [hct, txP_eq (hR.em hi).2.2 hc hw]
    have st : zX zP 381 v 70 [some (.inr (.inr (some 0))), some (.inl x1), some (.inl x2), some (.inl (i : Int)), some (.inl (N : Int)), some (.inl acc), some (.inl (k : Int))] [] m1 = if (a' : Int) = 0 then (if b01 (decide (lput ((gL S).2.1.getD i ln0).2.2 c = w)) = 0 then zX zP 381 v 110 [some (.inr (.inr (some 0))), some (.inl x1), some (.inl x2), some (.inl (i : Int)), some (.inl (N : Int)), some (.inl acc), some (.inl (k : Int))] [.inl acc] m3 else zX zP 381 v 111 [some (.inr (.inr (some 0))), some (.inl x1), some (.inl x2), some (.inl (i : Int)), some (.inl (N : Int)), some (.inl acc), some (.inl (k : Int))] [.inl 1, .inl acc] m3) else zX zP 381 v 110 [some (.inr (.inr (some 0))), some (.inl x1), some (.inl x2), some (.inl (i : Int)), some (.inl (N : Int)), some (.inl acc), some (.inl (k : Int))] [.inl acc] m3 := by
      rw [j_X11_texts_70, if_pos hR.1.1, m_rowsOf hR hN, zC1_s, if_pos (by omega), if_pos hR.1.1, f1, zC0_s, if_pos hR2.1.1, g1, zC1_s, v1]
      by_cases z : (a' : Int) = 0
      · rw [if_pos z, if_pos z, if_pos hR3.1.1, ho, zC1_s]
      · rw [if_neg z, if_neg z]
    have no : zX zP 381 v 110 [some (.inr (.inr (some 0))), some (.inl x1), some (.inl x2), some (.inl (i : Int)), some (.inl (N : Int)), some (.inl acc), some (.inl (k : Int))] [.inl acc] m3 = zX zP 381 v 70 [some (.inr (.inr (some 0))), some (.inl x1), some (.inl x2), some (.inl (i : Int)), some (.inl (N : Int)), some (.inl acc), some (.inl ((k + 1 : Nat) : Int))] [] m3 := by
      rw [j_X11_texts_110, j_X11_texts_111, zadd0 ha, e1 ()]
    rw [st]
    by_cases hP : (lall ((gL S).2.1.getD i ln0).2.2 c).isSome = true
    · have hz : a' = 0 := v2.mpr ⟨rfl, hP⟩
      rw [if_pos (by omega), hP, Bool.true_and]
      by_cases g : lput ((gL S).2.1.getD i ln0).2.2 c = w
      · rw [decide_eq_true g, if_neg (by decide), if_pos rfl, j_X11_texts_111, e1 ()]
        exact ih (k + 1) (zadd acc 1) m3 q3 hR3 w3 (r32_zadd _ _)
      · rw [decide_eq_false g, if_pos (by decide), if_neg (by decide), no]
        exact ih (k + 1) acc m3 q3 hR3 w3 ha
    · have hz : ¬ a' = 0 := fun q => hP (v2.mp q).2
      rw [if_neg (by omega), bool_f hP, Bool.false_and, if_neg (by decide), no]
      exact ih (k + 1) acc m3 q3 hR3 w3 ha
end CLASHM
