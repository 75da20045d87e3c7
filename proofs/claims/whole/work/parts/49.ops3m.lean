/-! The reference: PEOPLE, ways, what a LINE does. -/
section OPS3M
variable {v : Nat} {S : zSt} {m m' : zM} {x a : Int}
theorem R2.pc {i : Nat} (hR : R2 S m) (hi : i < (gL S).2.2.1.length) : zi m 5 (157 + i) = (((gL S).2.2.1.getD i ps0).2.1 : Int) ∧ zi m 5 (163 + i) = (((gL S).2.2.1.getD i ps0).2.2.length : Int) ∧ rOk ((gL S).2.2.1.getD i ps0).2.2 ∧ ∀ k, k < ((gL S).2.2.1.getD i ps0).2.2.length → zi m 5 (169 + 8 * i + k) = ((((gL S).2.2.1.getD i ps0).2.2.getD k 0 : Nat) : Int) := by
  obtain ⟨q1, q2, q3, q4, q5⟩ := (hR.ps hi).1
  rw [Nat.zero_add] at q2 q3
  exact ⟨q2, q3, q4, fun k hk => by have := q5 k hk; rw [Nat.zero_add] at this; exact this⟩
theorem x2_C {o : Option zO} {q : Int × zSt} (h : Ex2 o q) : Ex2 (zC1 o (fun c m1 => some (some (.inl c), m1))) q := by
  obtain ⟨m', e, hm⟩ := h
  rw [e, zC1_s]; exact ⟨m', rfl, hm⟩
theorem w_placeOf (hR : R2 S m) (x : Int) : Ex2 (zF zP 323 v [(.inr (.inr (some 0))), .inl x] m) (o_placeOf S x) := by
  have h0 := hR.pre
  have h6 := hR.p6
  unfold o_placeOf
  rw [f_X11_placeOf, if_pos hR.1.1, zT_wi, if_pos hR.1.1, zT_wi, zT_wi, if_pos hR.1.1]
  generalize zwi (zwi m 0 1 0) 0 0 0 = m0 at h0 ⊢
  rw [m_isPersonAt h0, zC1_s]
  show Ex2 (if b01 (inB x (gL S).2.2.1.length) = 0 then _ else _) _
  by_cases h : inB x (gL S).2.2.1.length = true
  · obtain ⟨i, rfl, hi⟩ := inB_nat h
    have e : ∀ _ : Unit, zadd 157 (i : Int) = ((157 + i : Nat) : Int) := fun _ => zadd_nat (n := 157) (by omega)
    rw [if_neg (by rw [h]; decide), if_pos h, if_pos h0.1.1, h0.1.2.1.2.1.1, obind, e (), if_pos (A5 h0.1 (by omega) (by omega)), Int.toNat_natCast, (h0.pc hi).1, j_X11_placeOf_36, Int.toNat_natCast]; exact x2_yes h0
  · rw [if_pos (b01_ne.mpr (bool_f h)), if_neg h, j_X11_placeOf_31, if_pos h0.1.1, m_refuse h0.1, zC1_s, j_X11_placeOf_36]; exact x2_no h0
theorem w_length (hR : R2 S m) (x : Int) : Ex2 (zF zP 324 v [(.inr (.inr (some 0))), .inl x] m) (o_length S x) := by
  have h0 := hR.pre
  have h6 := hR.p6
  unfold o_length
  rw [f_X11_length, if_pos hR.1.1, zT_wi, if_pos hR.1.1, zT_wi, zT_wi, if_pos hR.1.1]
  generalize zwi (zwi m 0 1 0) 0 0 0 = m0 at h0 ⊢
  rw [m_isPersonAt h0, zC1_s]
  show Ex2 (if b01 (inB x (gL S).2.2.1.length) = 0 then _ else _) _
  by_cases h : inB x (gL S).2.2.1.length = true
  · obtain ⟨i, rfl, hi⟩ := inB_nat h
    have e : ∀ _ : Unit, zadd 163 (i : Int) = ((163 + i : Nat) : Int) := fun _ => zadd_nat (n := 163) (by omega)
    rw [if_neg (by rw [h]; decide), if_pos h, if_pos h0.1.1, h0.1.2.1.2.1.1, obind, e (), if_pos (A5 h0.1 (by omega) (by omega)), Int.toNat_natCast, (h0.pc hi).2.1, j_X11_length_36, Int.toNat_natCast]; exact x2_yes h0
  · rw [if_pos (b01_ne.mpr (bool_f h)), if_neg h, j_X11_length_31, if_pos h0.1.1, m_refuse h0.1, zC1_s, j_X11_length_36]; exact x2_no h0
theorem w_says (hR : R2 S m) (x k : Int) : Ex2 (zF zP 325 v [(.inr (.inr (some 0))), .inl x, .inl k] m) (o_says S x k) := by
  have h0 := hR.pre
  have h6 := hR.p6
  unfold o_says oWd
  rw [f_X11_says, if_pos hR.1.1, zT_wi, if_pos hR.1.1, zT_wi, zT_wi, if_pos hR.1.1]
  generalize zwi (zwi m 0 1 0) 0 0 0 = m0 at h0 ⊢
  rw [m_isPersonAt h0, zC1_s]
  show Ex2 (if b01 (inB x (gL S).2.2.1.length) = 0 then _ else _) _
  by_cases h : inB x (gL S).2.2.1.length = true
  · obtain ⟨i, rfl, hi⟩ := inB_nat h
    have e : ∀ _ : Unit, zadd 163 (i : Int) = ((163 + i : Nat) : Int) := fun _ => zadd_nat (n := 163) (by omega)
    obtain ⟨q1, q2, q3, q4⟩ := h0.pc (i := i) hi
    have q8 := q3.1
    rw [if_neg (by rw [h]; decide), if_pos h, j_X11_says_24, if_pos h0.1.1, h0.1.2.1.2.1.1, obind, e (), if_pos (A5 h0.1 (by omega) (by omega)), Int.toNat_natCast, q2, m_isIn, zC1_s, inR_inB (by omega), Int.toNat_natCast]
    show Ex2 (if b01 (inB k ((gL S).2.2.1.getD i ps0).2.2.length) = 0 then _ else _) _
    by_cases g : inB k ((gL S).2.2.1.getD i ps0).2.2.length = true
    · obtain ⟨j, rfl, hj⟩ := inB_nat g
      have hp6 : i < 6 := by omega
      have hj8 : j < 8 := Nat.lt_of_lt_of_le hj q8
      rw [if_neg (by rw [g]; decide), if_pos g, if_pos h0.1.1, h0.1.2.1.2.1.1, obind, rowC hp6 hj8, if_pos (rowA h0.1 hp6 hj8), Int.toNat_natCast, q4 j hj, j_X11_says_70, Int.toNat_natCast]
      exact ⟨m0, rfl, h0⟩
    · rw [if_pos (b01_ne.mpr (bool_f g)), if_neg g, j_X11_says_64, if_pos h0.1.1, m_refuse h0.1, zC1_s, j_X11_says_70]
      exact ⟨_, rfl, h0.st⟩
  · rw [if_pos (b01_ne.mpr (bool_f h)), if_neg h, if_pos h0.1.1]; exact x2_noC h0
theorem w_copyRow_loop {t p : Nat} (hR0 : R2 S m) (ht : t < 4) (hp : p < (gL S).2.2.1.length) : ∀ (r : List Nat) (k : Nat) (m1 : zM) (tr : zTr), Fr (fun b j => b = 3 ∧ 60 * t ≤ j ∧ j < 60 * t + 60) m m1 → TvM m1 t tr → tr.1 = true → ((gL S).2.2.1.getD p ps0).2.2.length ≤ tr.2.2.length → ((gL S).2.2.1.getD p ps0).2.2.drop k = r →
    ∃ m', zX zP 326 v 80 [some (.inr (.inr (some 0))), some (.inl (p : Int)), some (.inl (t : Int)), some (.inl (k : Int))] [] m1 = some (some (.inl (((gL S).2.2.1.getD p ps0).2.2.length : Int)), m') ∧ Fr (fun b j => b = 3 ∧ 60 * t ≤ j ∧ j < 60 * t + 60) m m' ∧ TvM m' t (tr.1, tr.2.1, putF r k tr.2.2) := by
  have h6 := hR0.p6
  obtain ⟨q1, q2, q3, q4⟩ := hR0.pc hp
  have q8 := q3.1
  have e163 : ∀ _ : Unit, zadd 163 (p : Int) = ((163 + p : Nat) : Int) := fun _ => zadd_nat (n := 163) (by omega)
  intro r
  induction r with
  | nil =>
    intro k m1 tr hF hv he hlen hk
    have hS := hF.s2 hR0.1
    have h1 : ((gL S).2.2.1.getD p ps0).2.2.length ≤ k := List.drop_eq_nil_iff.mp hk
    have hc : zi m1 5 (163 + p) = (((gL S).2.2.1.getD p ps0).2.2.length : Int) := by rw [hF.i (by omega)]; exact q2
    refine ⟨m1, ?_, hF, hv⟩
    rw [j_X11_copyRow_80, if_pos hS.1, hS.2.1.2.1.1, obind, e163 (), if_pos (A5 hS (by omega) (by omega)), Int.toNat_natCast, hc, if_neg (by omega), j_X11_copyRow_127, if_pos hS.1, hS.2.1.2.1.1, obind, e163 (), if_pos (A5 hS (by omega) (by omega)), Int.toNat_natCast, hc]
  | cons w r ih =>
    intro k m1 tr hF hv he hlen hk
    have hS := hF.s2 hR0.1
    obtain ⟨h1, h2, h3⟩ := drop_cons hk
    have h60 := hv.2.2.1
    have hp6 : p < 6 := by omega
    have hk8 : k < 8 := by omega
    have e2 : ∀ _ : Unit, zadd (zmul 60 (t : Int)) (k : Int) = ((60 * t + k : Nat) : Int) := fun _ => by
      rw [show zmul 60 (t : Int) = ((60 * t : Nat) : Int) from zmul_nat (n := 60) (by omega)]; exact zadd_nat (by omega)
    have hA3 : zA m1 3 10 ((60 * t + k : Nat) : Int) = true := hS.2.2.1.2.2.1.A (by omega) (by omega)
    have hc : zi m1 5 (163 + p) = (((gL S).2.2.1.getD p ps0).2.2.length : Int) := by rw [hF.i (by omega)]; exact q2
    have hw : Fr (fun b j => b = 3 ∧ 60 * t ≤ j ∧ j < 60 * t + 60) m1 (zwl m1 3 (60 * t + k) (w : Int)) := Fr.wl m1 _ ⟨rfl, by omega, by omega⟩
    obtain ⟨m', f1, f2, f3⟩ := ih (k + 1) (zwl m1 3 (60 * t + k) (w : Int)) (tr.1, tr.2.1, tr.2.2.set k (w : Int)) (hF.tr hw) (hv.put he (by omega)) he (by show _ ≤ (tr.2.2.set k (w : Int)).length; rw [List.length_set]; exact hlen) h3
    refine ⟨m', ?_, f2, f3⟩
    have hd : zi m1 5 (169 + 8 * p + k) = (w : Int) := by rw [hF.i (by omega), q4 k h1, h2]
    rw [j_X11_copyRow_80, if_pos hS.1, hS.2.1.2.1.1, obind, e163 (), if_pos (A5 hS (by omega) (by omega)), Int.toNat_natCast, hc, if_pos (by omega), if_pos hS.1, hS.2.1.1.2.2.1, obind, if_pos hS.1, obind, rowC hp6 hk8, if_pos (rowA hS hp6 hk8), e2 (), if_pos hA3, Int.toNat_natCast, Int.toNat_natCast, hd, zadd1 (by omega)]
    exact f1
theorem w_copyRow (hR : R2 S m) (x t : Int) : Ex2 (zF zP 326 v [(.inr (.inr (some 0))), .inl x, .inl t] m) (o_copyRow S x t) := by
  have h0 := hR.pre
  have h6 := hR.p6
  unfold o_copyRow oPut
  rw [f_X11_copyRow, if_pos hR.1.1, zT_wi, if_pos hR.1.1, zT_wi, zT_wi, if_pos hR.1.1]
  generalize zwi (zwi m 0 1 0) 0 0 0 = m0 at h0 ⊢
  rw [m_isTray, zC1_s]
  by_cases ht : inR t 0 3 = true
  · rw [if_neg (by rw [ht]; decide), if_pos ht, j_X11_copyRow_24, if_pos h0.1.1, m_isPersonAt h0, zC1_s]
    show Ex2 (if b01 (inB x (gL S).2.2.1.length) = 0 then _ else _) _
    by_cases h : inB x (gL S).2.2.1.length = true
    · obtain ⟨i, rfl, hi⟩ := inB_nat h
      obtain ⟨k, rfl, hk⟩ := inR3 ht
      have e163 : ∀ _ : Unit, zadd 163 (i : Int) = ((163 + i : Nat) : Int) := fun _ => zadd_nat (n := 163) (by omega)
      obtain ⟨q1, q2, q3, q4⟩ := h0.pc (i := i) hi
      rw [if_neg (by rw [h]; decide), if_pos h, j_X11_copyRow_38, if_pos h0.1.1, h0.1.2.1.1.2.1, obind, if_pos (h0.1.2.2.1.2.1.A (by omega) (by omega)), Int.toNat_natCast, m_trayMany h0 hk]
      unfold ySt
      rw [if_pos ht, Int.toNat_natCast, Int.toNat_natCast]
      show Ex2 (if (if (gTr S k).1 = true then ((gTr S k).2.2.length : Int) else -1) < 0 then _ else _) _
      by_cases e : (gTr S k).1 = true
      · rw [if_pos e, if_neg (by omega), if_pos e, if_pos rfl, j_X11_copyRow_53, if_pos h0.1.1, h0.1.2.1.1.2.1, obind, if_pos (h0.1.2.2.1.2.1.A (by omega) (by omega)), if_pos h0.1.1, h0.1.2.1.2.1.1, obind, e163 (), if_pos (A5 h0.1 (by omega) (by omega)), Int.toNat_natCast, Int.toNat_natCast, m_trayMany h0 hk, q2]
        show Ex2 (if (if (gTr S k).1 = true then ((gTr S k).2.2.length : Int) else -1) < (((gL S).2.2.1.getD i ps0).2.2.length : Int) then _ else _) _
        rw [if_pos e]
        by_cases g : ((gTr S k).2.2.length : Int) < (((gL S).2.2.1.getD i ps0).2.2.length : Int)
        · rw [if_pos g, if_pos g, if_pos h0.1.1]; exact x2_noC h0
        · rw [if_neg g, if_neg g, j_X11_copyRow_78]
          obtain ⟨m', f1, f2, f3⟩ := w_copyRow_loop (v := v) (t := k) (p := i) h0 hk hi ((gL S).2.2.1.getD i ps0).2.2 0 m0 (gTr S k) (Fr.rf _ _) (h0.tm hk) e (Int.ofNat_le.mp (Int.not_lt.mp g)) rfl
          rw [show (0 : Int) = ((0 : Nat) : Int) from rfl, f1]
          exact ⟨m', rfl, h0.tr (f2.mono (fun b j q => Or.inr (Or.inr q))) f3⟩
      · rw [if_neg e, if_pos (show (-1 : Int) < 0 by decide), if_neg e, if_neg (show ¬ (3 : Int) = 0 by decide), if_pos h0.1.1]; exact x2_noC h0
    · rw [if_pos (b01_ne.mpr (bool_f h)), if_neg h, if_pos h0.1.1]; exact x2_noC h0
  · rw [if_pos (b01_ne.mpr (bool_f ht)), if_neg ht, if_pos h0.1.1]; exact x2_noC h0
theorem m_areJoined (hR : R2 S m) {i j : Nat} (hi : i < (gL S).2.1.length) (hj : j < (gL S).2.1.length) : zF zP 347 v [(.inr (.inr (some 0))), .inl (i : Int), .inl (j : Int)] m = some (some (.inl (b01 (ljoin (gL S) i j))), m) := by
  have h8 := hR.l8
  have e5 : ∀ k : Nat, k < 8 → zadd 5 (k : Int) = ((5 + k : Nat) : Int) := fun k hk => zadd_nat (n := 5) (by omega)
  have n1 := (hR.ln hi).1
  have n2 := (hR.ln hj).1
  rw [Nat.zero_add] at n1 n2
  rw [f_X11_areJoined]
  unfold ljoin
  by_cases e : i = j
  · rw [if_pos (by omega), j_X11_areJoined_21, if_pos zb0, decide_eq_true e]; rfl
  · rw [if_neg (by omega), if_pos hR.1.1, m_isLost hR hi, zC1_s, decide_eq_false e, Bool.not_false, Bool.true_and]
    by_cases e1 : ((gL S).2.1.getD i ln0).2.1 = true
    · rw [if_neg (by rw [e1]; decide), j_X11_areJoined_21, if_pos zb0, e1]; rfl
    · rw [if_pos (b01_ne.mpr (bool_f e1)), if_pos hR.1.1, m_isLost hR hj, zC1_s, bool_f e1, Bool.not_false, Bool.true_and]
      by_cases e2 : ((gL S).2.1.getD j ln0).2.1 = true
      · rw [if_neg (by rw [e2]; decide), j_X11_areJoined_21, if_pos zb0, e2]; rfl
      · rw [if_pos (b01_ne.mpr (bool_f e2)), j_X11_areJoined_23, if_pos hR.1.1, m_wordsOf hR hi, zC1_s, if_pos hR.1.1, m_wordsOf hR hj, zC1_s, bool_f e2, Bool.not_false, Bool.true_and]
        by_cases e3 : zand (wsetE ((gL S).2.1.getD i ln0).2.2 0) (wsetE ((gL S).2.1.getD j ln0).2.2 0) = 0
        · rw [if_pos e3, if_pos hR.1.1, hR.1.2.1.2.1.1, obind, e5 i (by omega), if_pos (A5 hR.1 (by omega) (by omega)), if_pos hR.1.1, obind, e5 j (by omega), if_pos (A5 hR.1 (by omega) (by omega)), Int.toNat_natCast, Int.toNat_natCast, n1, n2, decide_eq_true e3, Bool.not_true, Bool.false_or]
          by_cases e4 : zabs (zsub ((gL S).2.1.getD i ln0).1 ((gL S).2.1.getD j ln0).1) = 1
          · rw [if_pos e4, j_X11_areJoined_61, j_X11_areJoined_66, if_pos zb1, decide_eq_true e4]; rfl
          · rw [if_neg e4, j_X11_areJoined_65, j_X11_areJoined_66, if_pos zb0, decide_eq_false e4]; rfl
        · rw [if_neg e3, j_X11_areJoined_61, j_X11_areJoined_66, if_pos zb1, decide_eq_false e3]; rfl
/-- a PERSON goes: done or not -/
def uGo (S : zSt) (p x : Nat) : zSt := wL S (psSet (gL S) p (((gL S).2.2.1.getD p ps0).1, x, ((gL S).2.2.1.getD p ps0).2.2))
theorem m_goes (hR : R2 S m) {p x : Nat} (hp : p < (gL S).2.2.1.length) (hx : x < (gL S).2.1.length) : ∃ m', zF zP 348 v [(.inr (.inr (some 0))), .inl (p : Int), .inl (x : Int)] m = some (some (.inl (b01 (ljoin (gL S) ((gL S).2.2.1.getD p ps0).2.1 x))), m') ∧ Fr (psP 0 p) m m' ∧ R2 (if ljoin (gL S) ((gL S).2.2.1.getD p ps0).2.1 x = true then uGo S p x else S) m' := by
  have h6 := hR.p6
  have e157 : ∀ _ : Unit, zadd 157 (p : Int) = ((157 + p : Nat) : Int) := fun _ => zadd_nat (n := 157) (by omega)
  obtain ⟨q1, q2, q3, q4⟩ := hR.pc hp
  have hpl := (hR.ps hp).2
  rw [f_X11_goes, if_pos hR.1.1, hR.1.2.1.2.1.1, obind, e157 (), if_pos (A5 hR.1 (by omega) (by omega)), if_pos hR.1.1, Int.toNat_natCast, q1, m_areJoined hR hpl hx, zC1_s]
  by_cases e : ljoin (gL S) ((gL S).2.2.1.getD p ps0).2.1 x = true
  · have hF : Fr (psP 0 p) m (zwi m 5 (157 + p) (x : Int)) := Fr.wi m _ (by unfold psP; omega)
    refine ⟨zwi m 5 (157 + p) (x : Int), ?_, hF, ?_⟩
    · rw [if_neg (by rw [e]; decide), j_X11_goes_20, if_pos hR.1.1, hR.1.2.1.2.1.1, obind, e157 (), if_pos (A5 hR.1 (by omega) (by omega)), if_pos zb1, Int.toNat_natCast, e]; rfl
    · rw [if_pos e]
      refine hR.psw hp hF ⟨(hR.ps hp).1.1, ?_, ?_, q3, fun k hk => ?_⟩ hx
      · rw [Nat.zero_add]; exact zi_wi_s _ _ _ _
      · rw [zi_wi_n _ _ (Or.inr (by omega)), Nat.zero_add]; exact q2
      · rw [zi_wi_n _ _ (Or.inr (by omega)), Nat.zero_add]; exact q4 k hk
  · refine ⟨m, ?_, Fr.rf _ _, by rw [if_neg e]; exact hR⟩
    rw [if_pos (b01_ne.mpr (bool_f e)), if_pos zb0, bool_f e]; rfl
theorem w_go (hR : R2 S m) (x y : Int) : Ex2 (zF zP 349 v [(.inr (.inr (some 0))), .inl x, .inl y] m) (o_go S x y) := by
  have h0 := hR.pre
  have h6 := hR.p6
  unfold o_go
  rw [f_X11_go, if_pos hR.1.1, zT_wi, if_pos hR.1.1, zT_wi, zT_wi, if_pos hR.1.1]
  generalize zwi (zwi m 0 1 0) 0 0 0 = m0 at h0 ⊢
  rw [m_isPersonAt h0, zC1_s]
  show Ex2 (if b01 (inB x (gL S).2.2.1.length) = 0 then _ else _) _
  by_cases h : inB x (gL S).2.2.1.length = true
  · obtain ⟨i, rfl, hi⟩ := inB_nat h
    rw [if_neg (by rw [h]; decide), if_pos h, if_pos h0.1.1, m_isLineAt h0, zC1_s]
    show Ex2 (if b01 (inB y (gL S).2.1.length) = 0 then _ else _) _
    by_cases h2 : inB y (gL S).2.1.length = true
    · obtain ⟨k, rfl, hk⟩ := inB_nat h2
      obtain ⟨m', f1, f2, f3⟩ := m_goes (v := 0) h0 (p := i) (x := k) hi hk
      rw [if_neg (by rw [h2]; decide), if_pos h2, j_X11_go_32, if_pos h0.1.1, f1, zC1_s, Int.toNat_natCast, Int.toNat_natCast]
      show Ex2 (if b01 (ljoin (gL S) ((gL S).2.2.1.getD i ps0).2.1 k) = 0 then _ else _) _
      by_cases e : ljoin (gL S) ((gL S).2.2.1.getD i ps0).2.1 k = true
      · rw [show (if ljoin (gL (wSt S 0)) ((gL (wSt S 0)).2.2.1.getD i ps0).2.1 k = true then uGo (wSt S 0) i k else wSt S 0) = uGo (wSt S 0) i k from if_pos e] at f3
        rw [if_neg (by rw [e]; decide), if_pos e, if_pos f3.1.1, m_peopleAt f3, zC1_s, m_sizeOf, zC1_s, j_X11_go_58]
        exact ⟨m', rfl, f3⟩
      · rw [show (if ljoin (gL (wSt S 0)) ((gL (wSt S 0)).2.2.1.getD i ps0).2.1 k = true then uGo (wSt S 0) i k else wSt S 0) = wSt S 0 from if_neg e] at f3
        rw [if_pos (b01_ne.mpr (bool_f e)), if_neg e, j_X11_go_52, if_pos f3.1.1, m_refuse f3.1, zC1_s, j_X11_go_58]; exact x2_no f3
    · rw [if_pos (b01_ne.mpr (bool_f h2)), if_neg h2, j_X11_go_26, if_pos h0.1.1]; exact x2_noC h0
  · rw [if_pos (b01_ne.mpr (bool_f h)), if_neg h, j_X11_go_26, if_pos h0.1.1]; exact x2_noC h0
/-- a LINE is lost or found: done or not -/
def uLo (S : zSt) (i : Nat) (is : Bool) : zSt := wL S (lnSet (gL S) i (((gL S).2.1.getD i ln0).1, is, ((gL S).2.1.getD i ln0).2.2))
theorem b01_inj {b c : Bool} : b01 b = b01 c ↔ b = c := by cases b <;> cases c <;> decide
theorem m_loses (hR : R2 S m) {i : Nat} (hi : i < (gL S).2.1.length) (is : Bool) : ∃ m', zF zP 350 v [(.inr (.inr (some 0))), .inl (i : Int), .inl (b01 is)] m = some (some (.inl (b01 (!decide (((gL S).2.1.getD i ln0).2.1 = is)))), m') ∧ Fr (lnP 0 i) m m' ∧ R2 (if ((gL S).2.1.getD i ln0).2.1 = is then S else uLo S i is) m' := by
  have h8 := hR.l8
  have e21 : ∀ _ : Unit, zadd 21 (i : Int) = ((21 + i : Nat) : Int) := fun _ => zadd_nat (n := 21) (by omega)
  rw [f_X11_loses, if_pos hR.1.1, m_isLost hR hi, zC1_s]
  by_cases e : ((gL S).2.1.getD i ln0).2.1 = is
  · refine ⟨m, ?_, Fr.rf _ _, by rw [if_pos e]; exact hR⟩
    rw [if_pos (by rw [e]), if_pos zb0, decide_eq_true e]; rfl
  · have hF : Fr (lnP 0 i) m (zwi m 5 (21 + i) (b01 is)) := Fr.wi m _ (by unfold lnP; omega)
    obtain ⟨c1, c2, c3, c4, c5, c6⟩ := hR.ln hi
    refine ⟨zwi m 5 (21 + i) (b01 is), ?_, hF, ?_⟩
    · rw [if_neg (fun q => e (b01_inj.mp q)), j_X11_loses_11, if_pos hR.1.1, hR.1.2.1.2.1.1, obind, e21 (), decide_eq_false e]
      have hA := A5 hR.1 (x := ((21 + i : Nat) : Int)) (by omega) (by omega)
      cases is with
      | true => rw [if_neg (by decide), j_X11_loses_28, if_pos hA, if_pos zb1, Int.toNat_natCast]; rfl
      | false => rw [if_pos (show b01 false = 0 from rfl), j_X11_loses_27, j_X11_loses_28, if_pos hA, if_pos zb1, Int.toNat_natCast]; rfl
    · rw [if_neg e]
      refine hR.lnw hi hF ⟨?_, ?_, c3, ?_, c5, fun k hk => ?_⟩
      · rw [zi_wi_n _ _ (Or.inr (by omega))]; exact c1
      · rw [zi_wi_n _ _ (Or.inr (by omega))]; exact c2
      · rw [Nat.zero_add]; exact zi_wi_s _ _ _ _
      · have := c6 k hk
        unfold EdB cellN at this ⊢
        rw [zi_wi_n _ _ (Or.inr (by omega)), zi_wi_n _ _ (Or.inr (by omega)), zi_wi_n _ _ (Or.inr (by omega)), zi_wi_n _ _ (Or.inr (by omega))]
        exact this
theorem w_lose (hR : R2 S m) (x : Int) (is : Bool) : Ex2 (zF zP 351 v [(.inr (.inr (some 0))), .inl x, .inl (b01 is)] m) (o_lose S x is) := by
  have h0 := hR.pre
  unfold o_lose
  rw [f_X11_lose, if_pos hR.1.1, zT_wi, if_pos hR.1.1, zT_wi, zT_wi, if_pos hR.1.1]
  generalize zwi (zwi m 0 1 0) 0 0 0 = m0 at h0 ⊢
  rw [m_isLineAt h0, zC1_s]
  show Ex2 (if b01 (inB x (gL S).2.1.length) = 0 then _ else _) _
  by_cases h : inB x (gL S).2.1.length = true
  · obtain ⟨i, rfl, hi⟩ := inB_nat h
    obtain ⟨m', f1, f2, f3⟩ := m_loses (v := 0) h0 (i := i) hi is
    rw [if_neg (by rw [h]; decide), if_pos h, j_X11_lose_24, if_pos h0.1.1, f1, zC1_s, Int.toNat_natCast]
    show Ex2 (if b01 (!decide (((gL S).2.1.getD i ln0).2.1 = is)) = 0 then _ else _) _
    by_cases e : ((gL S).2.1.getD i ln0).2.1 = is
    · rw [show (if ((gL (wSt S 0)).2.1.getD i ln0).2.1 = is then wSt S 0 else uLo (wSt S 0) i is) = wSt S 0 from if_pos e] at f3
      rw [if_pos (by rw [decide_eq_true e]; rfl), if_pos e, if_pos f3.1.1, m_no f3.1, zC1_s, if_pos rfl, j_X11_lose_46, j_X11_lose_47, if_pos zb0]; exact x2_f f3
    · rw [show (if ((gL (wSt S 0)).2.1.getD i ln0).2.1 = is then wSt S 0 else uLo (wSt S 0) i is) = uLo (wSt S 0) i is from if_neg e] at f3
      rw [if_neg (by rw [decide_eq_false e]; decide), if_neg e, j_X11_lose_42, j_X11_lose_47, if_pos zb1]
      exact ⟨m', rfl, f3⟩
  · rw [if_pos (b01_ne.mpr (bool_f h)), if_neg h, if_pos h0.1.1]; exact x2_fC h0
theorem w_rule (hR : R2 S m) (x : Int) : Ex2 (zF zP 356 v [(.inr (.inr (some 0))), .inl x] m) (o_rule S x) := by
  have h0 := hR.pre
  unfold o_rule
  rw [f_X11_rule, if_pos hR.1.1, zT_wi, if_pos hR.1.1, m_isIn, zC1_s]
  generalize zwi (zwi m 0 1 0) 0 0 0 = m0 at h0 ⊢
  by_cases h : inR x 0 16 = true
  · rw [if_neg (by rw [h]; decide), if_pos h, j_X11_rule_28, if_pos h0.1.1, h0.1.2.1.2.1.1, obind, if_pos (A5 h0.1 (by omega) (by omega)), if_pos zb1]
    exact ⟨_, rfl, h0.blk (Fr.wi m0 (k := 3) x ⟨rfl, by omega⟩) (h0.bl.odds (x := x))⟩
  · rw [if_pos (b01_ne.mpr (bool_f h)), if_neg h, if_pos h0.1.1]; exact x2_fC h0
end OPS3M
