/-! LIVING in the class: ends, LOOPS, tests. -/
noncomputable abbrev lvX (v a : Nat) (x2 : Int) (p t : Nat) (u : Option zV) (m : zM) : Option zO := zX zP 70 v 16 [some ((.inr (.inr (some 62)))), some ((.inr (.inr (some a)))), some (.inl x2), some ((.inr (.inr (some (a + 8))))), some (.inl (p : Int)), some (.inl (t : Int)), u] [] m
def lvF (a p p' b j : Nat) : Prop := lvE a b j ∨ (b = 63 ∧ p ≤ j ∧ j < p')
def szs (P N W : Nat) (σ : zLi) : Prop := σ.1.2.2.1.length = P ∧ σ.1.2.1.length = N ∧ σ.1.1.length = W
def RnOk (P N W : Nat) (σ : zLi) : Prop := σ.2.2.2 = false ∧ LiB σ.2.1.2.1 σ ∧ σ.2.1.2.1 ≤ 300 ∧ szs P N W σ
section LIVE5
variable {v : Nat} {m m' : zM} {a : Nat} {L : zLd} {σ : zLi} {A : zAc} {P N W : Nat} {x2 : Int}
theorem LiB.mono {i j : Nat} (h : LiB i σ) (hij : i ≤ j) : LiB j σ := by
  obtain ⟨b1, ⟨b2, b3, b4, b5⟩, b6⟩ := h
  exact ⟨b1, ⟨by omega, by omega, by omega, by omega⟩, b6⟩
theorem eGo_ok {p x j : Nat} (h : LiB j σ) (hz : szs P N W σ) : LiB (j + 1) (eW (eGo p x σ)) ∧ szs P N W (eW (eGo p x σ)) ∧ (eW (eGo p x σ)).2.1.2.1 = σ.2.1.2.1 ∧ (eW (eGo p x σ)).2.2 = σ.2.2 := by
  obtain ⟨b1, ⟨b2, b3, b4, b5⟩, b6⟩ := h
  obtain ⟨z1, z2, z3⟩ := hz
  unfold eGo
  split
  · refine ⟨⟨b1, ⟨?_, ?_, ?_, ?_⟩, b6⟩, ⟨?_, z2, z3⟩, rfl, rfl⟩
    · show σ.2.1.2.2.1 ≤ j + 1; omega
    · show σ.2.1.2.2.2.1 ≤ 20 * (j + 1); omega
    · show σ.2.1.2.2.2.2.1 + 1 ≤ j + 1; omega
    · show σ.2.1.2.2.2.2.2 ≤ 120 * (j + 1); omega
    · show (σ.1.2.2.1.set p _).length = P
      rw [List.length_set]; exact z1
  · refine ⟨⟨b1, ⟨?_, ?_, ?_, ?_⟩, b6⟩, ⟨z1, z2, z3⟩, rfl, rfl⟩
    · show σ.2.1.2.2.1 + 1 ≤ j + 1; omega
    · show σ.2.1.2.2.2.1 ≤ 20 * (j + 1); omega
    · show σ.2.1.2.2.2.2.1 ≤ j + 1; omega
    · show σ.2.1.2.2.2.2.2 ≤ 120 * (j + 1); omega
theorem eLo_ok {i j : Nat} {b : Bool} (h : LiB j σ) (hz : szs P N W σ) : LiB (j + 1) (eW (eLo i b σ)) ∧ szs P N W (eW (eLo i b σ)) ∧ (eW (eLo i b σ)).2.1.2.1 = σ.2.1.2.1 ∧ (eW (eLo i b σ)).2.2 = σ.2.2 := by
  obtain ⟨b1, ⟨b2, b3, b4, b5⟩, b6⟩ := h
  obtain ⟨z1, z2, z3⟩ := hz
  unfold eLo
  split
  · refine ⟨⟨b1, ⟨?_, ?_, ?_, ?_⟩, b6⟩, ⟨z1, z2, z3⟩, rfl, rfl⟩
    · show σ.2.1.2.2.1 + 1 ≤ j + 1; omega
    · show σ.2.1.2.2.2.1 ≤ 20 * (j + 1); omega
    · show σ.2.1.2.2.2.2.1 ≤ j + 1; omega
    · show σ.2.1.2.2.2.2.2 ≤ 120 * (j + 1); omega
  · refine ⟨⟨b1, ⟨?_, ?_, ?_, ?_⟩, b6⟩, ⟨z1, ?_, z3⟩, rfl, rfl⟩
    · show σ.2.1.2.2.1 ≤ j + 1; omega
    · show σ.2.1.2.2.2.1 ≤ 20 * (j + 1); omega
    · show σ.2.1.2.2.2.2.1 ≤ j + 1; omega
    · show σ.2.1.2.2.2.2.2 ≤ 120 * (j + 1); omega
    · show (σ.1.2.1.set i _).length = N
      rw [List.length_set]; exact z2
theorem eDay_ok {d j : Nat} (hd : d ≤ 20) (h6 : σ.1.2.2.1.length ≤ 6) (h : LiB j σ) (hz : szs P N W σ) : LiB (j + 1) (eW (eDay d σ)) ∧ szs P N W (eW (eDay d σ)) ∧ (eW (eDay d σ)).2.1.2.1 = σ.2.1.2.1 ∧ (eW (eDay d σ)).2.2 = σ.2.2 := by
  obtain ⟨b1, ⟨b2, b3, b4, b5⟩, t, bt, bt2⟩ := h
  obtain ⟨z1, z2, z3⟩ := hz
  unfold eDay
  by_cases c : 9999 < σ.1.2.2.2.2 + (d : Int)
  · rw [if_pos c]
    refine ⟨⟨b1, ⟨?_, ?_, ?_, ?_⟩, t, bt, bt2⟩, ⟨z1, z2, z3⟩, rfl, rfl⟩
    · show σ.2.1.2.2.1 + 1 ≤ j + 1; omega
    · show σ.2.1.2.2.2.1 ≤ 20 * (j + 1); omega
    · show σ.2.1.2.2.2.2.1 ≤ j + 1; omega
    · show σ.2.1.2.2.2.2.2 ≤ 120 * (j + 1); omega
  · have hm := mvs_le σ.1 h6 d 0
    rw [if_neg c]
    refine ⟨⟨b1, ⟨?_, ?_, ?_, ?_⟩, t + d, ?_, by omega⟩, ⟨(sz_dys σ.1 d).2.2.trans z1, z2, z3⟩, rfl, rfl⟩
    · show σ.2.1.2.2.1 ≤ j + 1; omega
    · show σ.2.1.2.2.2.1 + d ≤ 20 * (j + 1); omega
    · show σ.2.1.2.2.2.2.1 ≤ j + 1; omega
    · show σ.2.1.2.2.2.2.2 + mvs σ.1 d 0 ≤ 120 * (j + 1); omega
    · show zadd σ.1.2.2.2.2 (d : Int) = ((t + d : Nat) : Int)
      rw [bt]; exact zadd_nat (by omega)
theorem eX_ok {x : zSp} {j : Nat} (hg : gSp P N W x) (hb : blkS x = false) (h6 : σ.1.2.2.1.length ≤ 6) (h : LiB j σ) (hz : szs P N W σ) : LiB (j + 1) (eW (eX x.2 σ)) ∧ szs P N W (eW (eX x.2 σ)) ∧ (eW (eX x.2 σ)).2.1.2.1 = σ.2.1.2.1 ∧ (eW (eX x.2 σ)).2.2 = σ.2.2 := by
  have any : LiB (j + 1) (eW (eAny σ)) ∧ szs P N W (eW (eAny σ)) ∧ (eW (eAny σ)).2.1.2.1 = σ.2.1.2.1 ∧ (eW (eAny σ)).2.2 = σ.2.2 := by
    unfold eAny
    split
    · obtain ⟨b1, ⟨b2, b3, b4, b5⟩, b6⟩ := h
      refine ⟨⟨b1, ⟨?_, ?_, ?_, ?_⟩, b6⟩, hz, rfl, rfl⟩
      · show σ.2.1.2.2.1 + 1 ≤ j + 1; omega
      · show σ.2.1.2.2.2.1 ≤ 20 * (j + 1); omega
      · show σ.2.1.2.2.2.2.1 ≤ j + 1; omega
      · show σ.2.1.2.2.2.2.2 ≤ 120 * (j + 1); omega
    · have hd := dwN_lt (dwN σ.2.1.1)
      generalize dwN (dwN σ.2.1.1) = e at hd
      exact eGo_ok (σ := seL σ e) ⟨hd, h.2⟩ hz
  rcases hg with ⟨d, rfl, q1, q2⟩ | ⟨p', l, rfl, q1, q2⟩ | ⟨l, rfl, q1⟩ | ⟨l, rfl, q1⟩ | rfl | ⟨l, rfl, q1⟩ | ⟨p', w, rfl, q1, q2⟩ | ⟨p', s, b, rfl, q1, q2, q3⟩ | ⟨d, rfl, q1, q2⟩ | rfl
  · exact eDay_ok q2 h6 h hz
  · exact eGo_ok h hz
  · exact eLo_ok h hz
  · exact eLo_ok h hz
  · exact any
  · exact absurd (show true = false from hb) (by decide)
  · exact absurd (show true = false from hb) (by decide)
  · exact absurd (show true = false from hb) (by decide)
  · exact absurd (show true = false from hb) (by decide)
  · exact any
theorem lvF_y (p p' b j : Nat) (ha : a + 28 ≤ 62) : a + 8 ≤ b → b < a + 12 → ¬ lvF a p p' b j := fun h1 h2 => by unfold lvF lvE; omega
theorem lvE_F {p p' : Nat} (h : Fr (lvE a) m m') : Fr (lvF a p p') m m' := h.mono (fun b j q => Or.inl q)
theorem lvF_mono {p p' q q' : Nat} (h : Fr (lvF a p p') m m') (h1 : q ≤ p) (h2 : p' ≤ q') : Fr (lvF a q q') m m' := h.mono (fun b j z => z.elim Or.inl (fun z => Or.inr ⟨z.1, by have := z.2.1; omega, by have := z.2.2; omega⟩))
theorem c_op (g : GLi m a A σ) {p t : Nat} (hp : p < A.1.length) (ht : t < 1000000) (u : Option zV) {o : zOp} (ho : oOk o) (hop : A.1.getD p 0 = opv o) :
    (o.1 = 22 → lvX v a x2 p t u m = zC1 (zF zP 58 0 [(.inr (.inr (some 62))), (.inr (.inr (some (a + 8)))), .inl (p : Int)] m) (fun c m5 => zX zP 70 v 105 [some ((.inr (.inr (some 62)))), some ((.inr (.inr (some a)))), some (.inl x2), some ((.inr (.inr (some (a + 8))))), some (.inl c), some (.inl (t : Int)), some (.inl 22)] [] m5)) ∧
    (o.1 ≠ 22 → lvX v a x2 p t u m = zX zP 70 v 62 [some ((.inr (.inr (some 62)))), some ((.inr (.inr (some a)))), some (.inl x2), some ((.inr (.inr (some (a + 8))))), some (.inl (p : Int)), some (.inl (t : Int)), some (.inl (o.1 : Int))] [] m) := by
  obtain ⟨d1, _⟩ := opv_dec ho
  obtain ⟨p60, o1, _⟩ := g.op hp
  have hy : YrS m (a + 8) := g.1.1.2.2.2.1
  have y4 : zi m (a + 8) 4 = (A.1.length : Int) := (g.2.2 A rfl).1
  have t62 := g.1.2.2.1.1
  have st : lvX v a x2 p t u m = (if (o.1 : Int) = 22 then (if zT m 62 1 = true then zC1 (zF zP 58 0 [(.inr (.inr (some 62))), (.inr (.inr (some (a + 8)))), .inl (p : Int)] m) (fun c6 m5 => zX zP 70 v 105 [some ((.inr (.inr (some 62)))), some ((.inr (.inr (some a)))), some (.inl x2), some ((.inr (.inr (some (a + 8))))), some (.inl c6), some (.inl (t : Int)), some (.inl (o.1 : Int))] [] m5) else none) else zX zP 70 v 62 [some ((.inr (.inr (some 62)))), some ((.inr (.inr (some a)))), some (.inl x2), some ((.inr (.inr (some (a + 8))))), some (.inl (p : Int)), some (.inl (t : Int)), some (.inl (o.1 : Int))] [] m) := by
    show zX zP 70 v 16 _ [] m = _
    rw [j_X1_goesThrough_16, if_pos (by omega), if_pos hy.1, y4, if_pos (by omega), if_pos hy.1, y_opAt hy p60, zC1_s, o1, hop, f_X8_kindOf, zC1_s, d1]
  refine ⟨fun h => ?_, fun h => ?_⟩
  · rw [st, if_pos (by omega), if_pos t62, h]; rfl
  · rw [st, if_neg (by omega)]
/-- an END behind a test, behind a LOOP -/
theorem c_end (g : GLi m a A σ) {p q t : Nat} (hpq : p < q) (hq : q < A.1.length) (ht : t < 1000000) (u : Option zV) {x : zSp} (ho : oOk x.1) (hop : A.1.getD p 0 = opv x.1) (h22 : A.1.getD q 0 = 22) (hpa : A.2.1.getD q 0 = (p : Int)) :
    (x.1.1 ≠ 21 → lvX v a x2 q t u m = lvX v a x2 (q + 1) (t + 1) (some (.inl 22)) m) ∧
    (x.1.1 = 21 → ∀ n : Nat, zi m 63 p = (n : Int) → n < 1000 → (1 < n → lvX v a x2 q t u m = lvX v a x2 (p + 1) (t + 1) (some (.inl 22)) (zwi m 63 p ((n - 1 : Nat) : Int))) ∧ (n ≤ 1 → lvX v a x2 q t u m = lvX v a x2 (q + 1) (t + 1) (some (.inl 22)) m)) := by
  have hok : oOk (22, 0, 0, 0) := ⟨by decide, by decide, by decide, by decide⟩
  have e22 : A.1.getD q 0 = opv (22, 0, 0, 0) := h22
  obtain ⟨d1, _⟩ := opv_dec ho
  obtain ⟨q60, o1, pa⟩ := g.op hq
  obtain ⟨p60, o2, _⟩ := g.op (show p < A.1.length by omega)
  have hy : YrS m (a + 8) := g.1.1.2.2.2.1
  have hpa' : zi m (a + 8 + 2) q = (p : Int) := by
    rcases pa with z | z
    · rw [hpa] at z; omega
    · rw [z]; exact hpa
  obtain ⟨t62, r63, k63⟩ := g.1.2.2.1
  have st := (c_op (v := v) (x2 := x2) g hq ht u hok e22).1 rfl
  have be : ∀ y : Int, zF zP 58 0 [(.inr (.inr (some 62))), (.inr (.inr (some (a + 8)))), .inl (q : Int)] m = zX zP 58 0 24 [some (.inr (.inr (some 62))), some (.inr (.inr (some (a + 8)))), some (.inl (q : Int)), some (.inl (p : Int)), none] [.inl (b01 (decide (x.1.1 = 21)))] m := fun _ => by
    rw [f_X1_behindEnd, if_pos hy.1, y_paAt hy q60, zC1_s, hpa', if_pos hy.1, y_opAt hy p60, zC1_s, o2, hop, f_X8_kindOf, zC1_s, d1]
    by_cases c : x.1.1 = 21
    · rw [if_pos (by omega), decide_eq_true c]; rfl
    · rw [if_neg (by omega), j_X1_behindEnd_23, decide_eq_false c]; rfl
  have out : zX zP 70 v 105 [some ((.inr (.inr (some 62)))), some ((.inr (.inr (some a)))), some (.inl x2), some ((.inr (.inr (some (a + 8))))), some (.inl ((q + 1 : Nat) : Int)), some (.inl (t : Int)), some (.inl 22)] [] m = lvX v a x2 (q + 1) (t + 1) (some (.inl 22)) m := by
    rw [j_X1_goesThrough_105, zadd1 (by omega)]
  refine ⟨fun h => ?_, fun h n hn hn2 => ⟨fun h1 => ?_, fun h1 => ?_⟩⟩
  · rw [st, be 0, decide_eq_false h, j_X1_behindEnd_24, if_pos yb0, j_X1_behindEnd_68, zadd1 (by omega), zC1_s]
    exact out
  · have es : zsub (n : Int) 1 = ((n - 1 : Nat) : Int) := by
      have e : (n : Int) - 1 = ((n - 1 : Nat) : Int) := by omega
      rw [zsub_of (by unfold r32; omega), e]
    rw [st, be 0, decide_eq_true h, j_X1_behindEnd_24, if_neg nb1, if_neg (by omega), if_pos t62, r63, obind, if_pos (k63.Y (by decide)), k63.L, if_pos (by omega), if_pos t62, obind, if_pos (k63.A (by omega) (by omega)), Int.toNat_natCast, hn, if_pos (by omega), if_pos t62, obind, if_pos (k63.A (by omega) (by omega)), if_pos (k63.A (by omega) (by omega)), hn, es, zadd1 (by omega), zC1_s]
    show zX zP 70 v 105 _ [] _ = _
    rw [j_X1_goesThrough_105, zadd1 (by omega)]
  · rw [st, be 0, decide_eq_true h, j_X1_behindEnd_24, if_neg nb1, if_neg (by omega), if_pos t62, r63, obind, if_pos (k63.Y (by decide)), k63.L, if_pos (by omega), if_pos t62, obind, if_pos (k63.A (by omega) (by omega)), Int.toNat_natCast, hn, if_neg (by omega), j_X1_behindEnd_68, zadd1 (by omega), zC1_s]
    exact out
end LIVE5
