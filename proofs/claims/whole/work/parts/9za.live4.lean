/-! LIVING: the whole, plain; one STEP in the class. -/
def ceL (A : zAc) (s j : Nat) : Int := A.2.2.getD (9 * s + j) 0
def ceT (A : zAc) (s : Nat) : zCe := (ceL A s 0, ceL A s 1, ceL A s 2, ceL A s 6, ceL A s 7)
def eX (c : zCe) (σ : zLi) : Bool × zLi := if c.1 = 0 then eDay c.2.1.toNat σ else if c.1 = 1 then eGo c.2.1.toNat c.2.2.1.toNat σ else if c.1 = 2 then eLo c.2.2.1.toNat true σ else if c.1 = 3 then eLo c.2.2.1.toNat false σ else eAny σ
def eW (r : Bool × zLi) : zLi := if r.1 = true then r.2 else wo1 r.2
def tX (c : zCe) (L : zLd) : Bool := if c.2.2.2.1 = 0 then (L.2.1.getD c.2.1.toNat ln0).2.1 else if c.2.2.2.1 = 1 then !decide (ixF (row0 L c.2.1.toNat) c.2.2.1.toNat 0 = -1) else
  (if c.2.2.2.2 = 60 then decide ((row0 L c.2.1.toNat).length < c.2.2.1.toNat) else if c.2.2.2.2 = 62 then decide (c.2.2.1.toNat < (row0 L c.2.1.toNat).length) else decide ((row0 L c.2.1.toNat).length = c.2.2.1.toNat))
def spL (σ : zLi) (o : Bool) : zLi := (σ.1, σ.2.1, (o, true))
/-- from STEP s on, ahead of STEP e -/
def lvA (A : zAc) : Nat → Nat → Nat → zLi → zLi
  | 0, _, _, σ => σ
  | k + 1, s, e, σ => if s < e ∧ σ.2.2.2 = false then
      lvA A k (ceL A s 8).toNat e (if σ.2.1.2.1 = 300 then spL σ true else
        if (ceT A s).1 < 5 then eW (eX (ceT A s) (do1 σ)) else
        if (ceT A s).1 = 5 then (if tX (ceT A s) σ.1 = true then lvA A k (s + 1) (ceL A s 8).toNat (do1 σ) else do1 σ) else
        if (ceT A s).1 = 6 then itr (lvA A k (s + 1) (ceL A s 8).toNat) (ceT A s).2.1.toNat (do1 σ) else spL (do1 σ) σ.2.2.1)
    else σ
def GLi (m : zM) (a : Nat) (A : zAc) (σ : zLi) : Prop := LiC m a σ ∧ YvC m (a + 8) (some A)
section LIVE4
variable {v : Nat} {m m' : zM} {a : Nat} {L : zLd} {σ : zLi} {A : zAc}
theorem lvA_stop (k s e : Nat) (h : σ.2.2.2 = true) : lvA A k s e σ = σ := by
  cases k with
  | zero => rfl
  | succ k =>
    unfold lvA
    rw [if_neg (fun q => by rw [h] at q; exact absurd q.2 (by decide))]
theorem lvA_end (k s : Nat) : lvA A k s s σ = σ := by
  cases k with
  | zero => rfl
  | succ k =>
    unfold lvA
    rw [if_neg (fun q => Nat.lt_irrefl _ q.1)]
theorem itr_stop {g : zLi → zLi} (h : g σ = σ) (n : Nat) : itr g n σ = σ := fix_itr h n
theorem ceAt_T {s : Nat} {x : zSp} {e : Int} (h : ceAt A.2.2 s x e) : ceT A s = x.2 ∧ ceL A s 8 = e := by
  have h0 : ceL A s 0 = x.2.1 := h 0 (by decide)
  have h1 : ceL A s 1 = x.2.2.1 := h 1 (by decide)
  have h2 : ceL A s 2 = x.2.2.2.1 := h 2 (by decide)
  have h6 : ceL A s 6 = x.2.2.2.2.1 := h 6 (by decide)
  have h7 : ceL A s 7 = x.2.2.2.2.2 := h 7 (by decide)
  refine ⟨?_, h 8 (by decide)⟩
  unfold ceT
  rw [h0, h1, h2, h6, h7]
theorem tHold_X {P N W : Nat} {x : zSp} (hg : gSp P N W x) (h5 : x.2.1 = 5) : tHold x.1 L = tX x.2 L := by
  rcases hg with ⟨d, rfl, h1, h2⟩ | ⟨p, l, rfl, h1, h2⟩ | ⟨l, rfl, h1⟩ | ⟨l, rfl, h1⟩ | rfl | ⟨l, rfl, h1⟩ | ⟨p, w, rfl, h1, h2⟩ | ⟨p, s, b, rfl, h1, h2, h3⟩ | ⟨d, rfl, h1, h2⟩ | rfl
  · have h5' : (0 : Int) = 5 := h5
    omega
  · have h5' : (1 : Int) = 5 := h5
    omega
  · have h5' : (2 : Int) = 5 := h5
    omega
  · have h5' : (3 : Int) = 5 := h5
    omega
  · exact absurd h5 (by decide)
  · rfl
  · rfl
  · rcases h2 with s | s | s
    · subst s; rfl
    · subst s; rfl
    · subst s; rfl
  · have h5' : (6 : Int) = 5 := h5
    omega
  · exact absurd h5 (by decide)
theorem y_opAt (h : YrS m (a + 8)) {i : Nat} (hi : i < 60) : zF zP 12 v [(.inr (.inr (some (a + 8)))), .inl (i : Int)] m = some (some (.inl (zi m (a + 8 + 1) i)), m) := by
  rw [f_X8_operationAt, if_neg (by omega), if_pos h.1, h.2.1.1, obind, if_pos (h.2.2.1.Y (by decide)), h.2.2.1.L, if_pos (by omega), if_pos h.1, obind, if_pos (h.2.2.1.A (by omega) (by omega)), Int.toNat_natCast, j_X8_operationAt_23]
theorem y_paAt (h : YrS m (a + 8)) {i : Nat} (hi : i < 60) : zF zP 13 v [(.inr (.inr (some (a + 8)))), .inl (i : Int)] m = some (some (.inl (zi m (a + 8 + 2) i)), m) := by
  rw [f_X8_partnerOf, if_neg (by omega), if_pos h.1, h.2.1.2.1, obind, if_pos (h.2.2.2.1.Y (by decide)), h.2.2.2.1.L, if_pos (by omega), if_pos h.1, obind, if_pos (h.2.2.2.1.A (by omega) (by omega)), Int.toNat_natCast, j_X8_partnerOf_23]
theorem GLi.op {i : Nat} (g : GLi m a A σ) (hi : i < A.1.length) : i < 60 ∧ zi m (a + 8 + 1) i = A.1.getD i 0 ∧ (A.2.1.getD i 0 = -7 ∨ zi m (a + 8 + 2) i = A.2.1.getD i 0) := by
  obtain ⟨y1, y2, y3, y4, y5⟩ := g.2.2 A rfl
  exact ⟨by omega, (y5 i hi).1, (y5 i hi).2⟩
theorem GLi.fr {σ' : zLi} {P : Nat → Nat → Prop} (g : GLi m a A σ) (h : Fr P m m') (hP : ∀ b j, a + 8 ≤ b → b < a + 12 → ¬ P b j) (hL : LiC m' a σ') : GLi m' a A σ' := by
  refine ⟨hL, ?_⟩
  have hy := g.2
  unfold YvC at hy ⊢
  rw [h.i (hP _ _ (by omega) (by omega)), h.i (hP _ _ (by omega) (by omega)), h.i (hP _ _ (by omega) (by omega))]
  exact ⟨hy.1, fun t ht => ⟨(hy.2 t ht).1, (hy.2 t ht).2.1, (hy.2 t ht).2.2.1, (hy.2 t ht).2.2.2.1, fun i hi => by rw [h.i (hP _ _ (by omega) (by omega)), h.i (hP _ _ (by omega) (by omega))]; exact (hy.2 t ht).2.2.2.2 i hi⟩⟩
theorem lvE_y (b j : Nat) (ha : a + 28 ≤ 62) : a + 8 ≤ b → b < a + 12 → ¬ lvE a b j := fun h1 h2 => by unfold lvE; omega
/-- what came of a STEP -/
theorem s_came {j p : Nat} {x3 x4 : Int} {r : Bool × zLi} (hp : p < 1000000) (hj : j ≤ 300) (hr : r.2.2.1.2.2.1 ≤ j) (ha : a + 28 ≤ 62) (h : LiC m a r.2) :
    ∃ m', zX zP 69 v 189 [some (.inr (.inr (some 62))), some (.inr (.inr (some a))), some (.inl (p : Int)), some (.inl x3), some (.inl x4), some (.inl (b01 r.1))] [] m = some (some (.inl ((p + 1 : Nat) : Int)), m') ∧ Fr (lvE a) m m' ∧ LiC m' a (eW r) := by
  obtain ⟨h1, h2, h3, ⟨g1, g2, g3⟩, ⟨g4, g5, g6⟩, g7⟩ := h
  have v62 : ∀ (y : Int) (j : Nat), j ≠ 3 → zi (zwi m 62 3 y) 62 j = zi m 62 j := fun y j hj => zi_wi_n _ _ (Or.inr hj)
  have hw : ∀ y : Int, Sam m (zwi m 62 3 y) 62 63 := fun y => Sam.wi m _ _ (by omega) (by omega)
  unfold eW
  rw [j_X1_behindStep_189, if_pos h3.1, g3]
  by_cases c : r.1 = true
  · have e : ∀ _ : Unit, zadd (r.2.2.1.2.2.1 : Int) 0 = (r.2.2.1.2.2.1 : Int) := fun _ => zadd_nat (k := 0) (by omega)
    rw [if_pos c, c, if_neg nb1, j_X1_behindStep_204, if_pos h3.1, zadd1 hp, e ()]
    refine ⟨_, rfl, Fr.wi m _ (Or.inr (Or.inr (Or.inr (Or.inr rfl)))), (hw _).Ld h1, (hw _).ldV (by omega) h2, (hw _).Lf h3, ⟨?_, ?_, zi_wi_s _ _ _ _⟩, ⟨?_, ?_, ?_⟩, ?_⟩
    · rw [v62 _ 1 (by decide)]; exact g1
    · rw [v62 _ 2 (by decide)]; exact g2
    · rw [v62 _ 4 (by decide)]; exact g4
    · rw [v62 _ 5 (by decide)]; exact g5
    · rw [v62 _ 6 (by decide)]; exact g6
    · rw [v62 _ 7 (by decide)]; exact g7
  · have e : ∀ _ : Unit, zadd (r.2.2.1.2.2.1 : Int) 1 = ((r.2.2.1.2.2.1 + 1 : Nat) : Int) := fun _ => zadd1 (by omega)
    rw [if_neg c, bool_f c, if_pos yb0, j_X1_behindStep_203, j_X1_behindStep_204, if_pos h3.1, zadd1 hp, e ()]
    refine ⟨_, rfl, Fr.wi m _ (Or.inr (Or.inr (Or.inr (Or.inr rfl)))), (hw _).Ld h1, (hw _).ldV (by omega) h2, (hw _).Lf h3, ⟨?_, ?_, zi_wi_s _ _ _ _⟩, ⟨?_, ?_, ?_⟩, ?_⟩
    · rw [v62 _ 1 (by decide)]; exact g1
    · rw [v62 _ 2 (by decide)]; exact g2
    · rw [v62 _ 4 (by decide)]; exact g4
    · rw [v62 _ 5 (by decide)]; exact g5
    · rw [v62 _ 6 (by decide)]; exact g6
    · rw [v62 _ 7 (by decide)]; exact g7
/-- an effect leaves the count of those without effect -/
theorem eX_wo (c : zCe) (σ : zLi) : (eX c σ).2.2.1.2.2.1 = σ.2.1.2.2.1 := by
  have go : ∀ p x (σ : zLi), (eGo p x σ).2.2.1.2.2.1 = σ.2.1.2.2.1 := fun p x σ => by unfold eGo; split <;> rfl
  have lo : ∀ i b (σ : zLi), (eLo i b σ).2.2.1.2.2.1 = σ.2.1.2.2.1 := fun i b σ => by unfold eLo; split <;> rfl
  unfold eX
  split
  · unfold eDay; split <;> rfl
  · split
    · exact go _ _ _
    · split
      · exact lo _ _ _
      · split
        · exact lo _ _ _
        · unfold eAny
          split
          · rfl
          · rw [go]; rfl
theorem s_step {P N W p j : Nat} {x : zSp} (hg : gSp P N W x) (hb : blkS x = false) (h7 : x.2.1 ≠ 7) (hp : p < A.1.length) (hop : A.1.getD p 0 = opv x.1) (hj : j ≤ 300) (ha : a + 28 ≤ 62) (g : GLi m a A σ) (hB : LiB j σ) (hz : σ.1.2.2.1.length = P ∧ σ.1.2.1.length = N ∧ σ.1.1.length = W) :
    ∃ m', zF zP 69 v [(.inr (.inr (some 62))), (.inr (.inr (some a))), .inl (p : Int)] m = some (some (.inl ((p + 1 : Nat) : Int)), m') ∧ Fr (lvE a) m m' ∧ LiC m' a (eW (eX x.2 σ)) := by
  obtain ⟨z1, z2, z3⟩ := hz
  have hC := g.1
  have h1 := hC.1
  have hW8 : W ≤ 8 := by rw [← z3]; exact hC.2.1.1.2.1
  have hN8 : N ≤ 8 := by rw [← z2]; exact hC.2.1.2.1.2.1
  have hP6 : P ≤ 6 := by rw [← z1]; exact hC.2.1.2.2.1.2.1
  have hok := gSp_ok hg hP6 hN8 hW8
  obtain ⟨d1, d2, d3, d4⟩ := opv_dec hok
  obtain ⟨p60, o1, _⟩ := g.op hp
  have hy : YrS m (a + 8) := h1.2.2.2.1
  have st : zF zP 69 v [(.inr (.inr (some 62))), (.inr (.inr (some a))), .inl (p : Int)] m = zX zP 69 v (zsel (x.1.1 : Int) 12 [76, 88, 104, 117, 130, 164, 164, 164, 164, 140] 164) [some (.inr (.inr (some 62))), some (.inr (.inr (some a))), some (.inl (p : Int)), some (.inl (opv x.1)), some (.inl (x.1.2.1 : Int)), some (.inl 1)] [] m := by
    rw [f_X1_behindStep, if_pos h1.1, h1.2.1.2.2.2.2.2.2, obind, if_pos hy.1, y_opAt hy p60, zC1_s, o1, hop, f_X8_firstOf, zC1_s, f_X8_kindOf, zC1_s, d1, d2]
  have fin : ∀ (o : Option zO) (r : Bool × zLi), EfC m a o r → r.2.2.1.2.2.1 ≤ j → ∃ m', zC1 o (fun c2 m1 => zX zP 69 v 189 [some (.inr (.inr (some 62))), some (.inr (.inr (some a))), some (.inl (p : Int)), some (.inl (opv x.1)), some (.inl (x.1.2.1 : Int)), some (.inl c2)] [] m1) = some (some (.inl ((p + 1 : Nat) : Int)), m') ∧ Fr (lvE a) m m' ∧ LiC m' a (eW r) := fun o r hE hr => by
    obtain ⟨m1, e1, e2, e3⟩ := hE
    obtain ⟨m2, q1, q2, q3⟩ := s_came (v := v) (p := p) (x3 := opv x.1) (x4 := (x.1.2.1 : Int)) (r := r) (by omega) hj hr ha e3
    exact ⟨m2, by rw [e1, zC1_s]; exact q1, e2.tr q2, q3⟩
  have hwo : (eX x.2 σ).2.2.1.2.2.1 ≤ j := by rw [eX_wo]; exact hB.2.1.1
  rw [st]
  have t62 := hC.2.2.1.1
  rcases hg with ⟨d, rfl, q1, q2⟩ | ⟨p', l, rfl, q1, q2⟩ | ⟨l, rfl, q1⟩ | ⟨l, rfl, q1⟩ | rfl | ⟨l, rfl, q1⟩ | ⟨p', w, rfl, q1, q2⟩ | ⟨p', s, b, rfl, q1, q2, q3⟩ | ⟨d, rfl, q1, q2⟩ | rfl
  · show ∃ m', zX zP _ v 76 _ [] m = _ ∧ _
    rw [j_X1_behindStep_76, if_pos t62]
    exact fin _ _ (s_days (d := d) q2 hj ha hC hB) hwo
  · show ∃ m', zX zP _ v 88 _ [] m = _ ∧ _
    rw [j_X1_behindStep_88, f_X8_secondOf, zC1_s, d3, if_pos t62]
    exact fin _ _ (s_go (p := p') (x := l) (by omega) (by omega) hj ha hC hB) hwo
  · show ∃ m', zX zP _ v 104 _ [] m = _ ∧ _
    rw [j_X1_behindStep_104, if_pos t62]
    exact fin _ _ (s_lo (i := l) true (by omega) ha hC) hwo
  · show ∃ m', zX zP _ v 117 _ [] m = _ ∧ _
    rw [j_X1_behindStep_117, if_pos t62]
    exact fin _ _ (s_lo (i := l) false (by omega) ha hC) hwo
  · show ∃ m', zX zP _ v 130 _ [] m = _ ∧ _
    rw [j_X1_behindStep_130, if_pos t62]
    exact fin _ _ (s_any hj ha hC hB) hwo
  · exact absurd (show true = false from hb) (by decide)
  · exact absurd (show true = false from hb) (by decide)
  · exact absurd (show true = false from hb) (by decide)
  · exact absurd (show true = false from hb) (by decide)
  · exact absurd rfl h7
end LIVE4
