/-! LIVING in the class: all of it. -/
def RnC (v : Nat) (m : zM) (a : Nat) (A : zAc) (x2 : Int) (P N W p p' t : Nat) (u : Option zV) (dn : Nat) (σ' : zLi) : Prop :=
  (σ'.2.2.2 = false → ∃ (m' : zM) (t' : Nat) (u' : Option zV), lvX v a x2 p t u m = lvX v a x2 p' t' u' m' ∧ GLi m' a A σ' ∧ Fr (lvF a p p') m m' ∧ RnOk P N W σ' ∧ t' + 101 * (300 - σ'.2.1.2.1) ≤ t + 101 * (300 - dn)) ∧
  (σ'.2.2.2 = true → ∃ m', lvX v a x2 p t u m = some (none, m') ∧ GLi m' a A σ' ∧ Fr (lvF a p p') m m' ∧ σ'.2.1.2.1 ≤ 300 ∧ LiB 300 σ' ∧ szs P N W σ')
section LIVE6
variable {v : Nat} {m m' : zM} {a : Nat} {L : zLd} {σ : zLi} {A : zAc} {P N W : Nat} {x2 : Int}
theorem RnC.pre {m1 : zM} {p p1 p' t t1 dn dn1 : Nat} {u u1 : Option zV} {σ' : zLi} (h : lvX v a x2 p t u m = lvX v a x2 p1 t1 u1 m1) (hf : Fr (lvF a p p') m m1) (hp : p ≤ p1) (ht : t1 + 101 * (300 - dn1) ≤ t + 101 * (300 - dn)) (hr : RnC v m1 a A x2 P N W p1 p' t1 u1 dn1 σ') : RnC v m a A x2 P N W p p' t u dn σ' := by
  refine ⟨fun hs => ?_, fun hs => ?_⟩
  · obtain ⟨m', t', u', z1, z2, z3, z4, z5⟩ := hr.1 hs
    exact ⟨m', t', u', h.trans z1, z2, hf.tr (lvF_mono z3 hp (Nat.le_refl _)), z4, by omega⟩
  · obtain ⟨m', z1, z2, z3, z4⟩ := hr.2 hs
    exact ⟨m', h.trans z1, z2, hf.tr (lvF_mono z3 hp (Nat.le_refl _)), z4⟩
theorem s_blkst {p : Nat} {x : zSp} (hok : oOk x.1) (hp : p < A.1.length) (hop : A.1.getD p 0 = opv x.1) (g : GLi m a A σ) : zF zP 69 v [(.inr (.inr (some 62))), (.inr (.inr (some a))), .inl (p : Int)] m = zX zP 69 v (zsel (x.1.1 : Int) 12 [76, 88, 104, 117, 130, 164, 164, 164, 164, 140] 164) [some (.inr (.inr (some 62))), some (.inr (.inr (some a))), some (.inl (p : Int)), some (.inl (opv x.1)), some (.inl (x.1.2.1 : Int)), some (.inl 1)] [] m := by
  obtain ⟨d1, d2, d3, d4⟩ := opv_dec hok
  obtain ⟨p60, o1, _⟩ := g.op hp
  have h1 := g.1.1
  have hy : YrS m (a + 8) := h1.2.2.2.1
  rw [f_X1_behindStep, if_pos h1.1, h1.2.1.2.2.2.2.2.2, obind, if_pos hy.1, y_opAt hy p60, zC1_s, o1, hop, f_X8_firstOf, zC1_s, f_X8_kindOf, zC1_s, d1, d2]
theorem s_loopop {p d j : Nat} (hd : d < 100) (hp : p < A.1.length) (hop : A.1.getD p 0 = opv (21, d, 0, 0)) (hj : j ≤ 300) (ha : a + 28 ≤ 62) (g : GLi m a A σ) (hB : LiB j σ) :
    ∃ m', zF zP 69 v [(.inr (.inr (some 62))), (.inr (.inr (some a))), .inl (p : Int)] m = some (some (.inl ((p + 1 : Nat) : Int)), m') ∧ Fr (lvF a p (p + 1)) m m' ∧ GLi m' a A σ ∧ zi m' 63 p = (d : Int) := by
  obtain ⟨p60, _, _⟩ := g.op hp
  obtain ⟨t62, r63, k63⟩ := g.1.2.2.1
  have hs : Sam m (zwi m 63 p (d : Int)) 63 64 := Sam.wi m _ _ (by omega) (by omega)
  have hf : Fr (lvF a p (p + 1)) m (zwi m 63 p (d : Int)) := Fr.wi m _ (Or.inr ⟨rfl, by omega, by omega⟩)
  have hC1 : LiC (zwi m 63 p (d : Int)) a σ := g.1.of (hs.mono (by omega) (by omega)) (hs.ldV (by omega) g.1.2.1) (fun j _ _ => hs.i (by omega) j) rfl
  obtain ⟨m2, q1, q2, q3⟩ := s_came (v := v) (p := p) (x3 := opv (21, d, 0, 0)) (x4 := (d : Int)) (r := (true, σ)) (by omega) hj hB.2.1.1 ha hC1
  have hf2 : Fr (lvF a p (p + 1)) m m2 := hf.tr (lvE_F q2)
  refine ⟨m2, ?_, hf2, g.fr hf2 (fun b j => lvF_y p (p + 1) b j ha) q3, ?_⟩
  · have hok : oOk (21, d, 0, 0) := ⟨by show 21 < 256; decide, by show d < 256; omega, by show 0 < 256; decide, by show 0 < 128; decide⟩
    rw [s_blkst (x := ((21, d, 0, 0), (6, (d : Int), -7, -7, -7))) hok hp hop g]
    show zX zP 69 v 140 [some (.inr (.inr (some 62))), some (.inr (.inr (some a))), some (.inl (p : Int)), some (.inl (opv (21, d, 0, 0))), some (.inl (d : Int)), some (.inl 1)] [] m = _
    rw [j_X1_behindStep_140, if_neg (by omega), if_pos t62, r63, obind, if_pos (k63.Y (by decide)), k63.L, if_pos (by omega), if_pos t62, obind, if_pos (k63.A (by omega) (by omega)), Int.toNat_natCast]
    exact q1
  · rw [q2.i (by unfold lvE; omega), zi_wi_s]
theorem s_testop {p q : Nat} {x : zSp} (hg : gSp P N W x) (h5 : x.2.1 = 5) (hp : p < A.1.length) (hop : A.1.getD p 0 = opv x.1) (hpa : A.2.1.getD p 0 = (q : Int)) (hq : q < 1000) (g : GLi m a A σ) (hz : szs P N W σ) :
    zF zP 69 v [(.inr (.inr (some 62))), (.inr (.inr (some a))), .inl (p : Int)] m = some (some (.inl ((if tX x.2 σ.1 = true then p + 1 else q + 1 : Nat) : Int)), m) := by
  obtain ⟨z1, z2, z3⟩ := hz
  have hC := g.1
  have h1 := hC.1
  have hW8 : W ≤ 8 := by rw [← z3]; exact hC.2.1.1.2.1
  have hN8 : N ≤ 8 := by rw [← z2]; exact hC.2.1.2.1.2.1
  have hP6 : P ≤ 6 := by rw [← z1]; exact hC.2.1.2.2.1.2.1
  have hok := gSp_ok hg hP6 hN8 hW8
  obtain ⟨p60, _, pa⟩ := g.op hp
  have hy : YrS m (a + 8) := h1.2.2.2.1
  have hpa' : zi m (a + 8 + 2) p = (q : Int) := by
    rcases pa with z | z
    · rw [hpa] at z; omega
    · rw [z]; exact hpa
  have hk : (x.1.1 = 18 ∧ x.1.2.1 < σ.1.2.1.length) ∨ (x.1.1 = 20 ∧ x.1.2.1 < σ.1.2.2.1.length ∧ x.1.2.2.1 < σ.1.1.length) ∨ (x.1.1 = 19 ∧ x.1.2.1 < σ.1.2.2.1.length ∧ (x.1.2.2.1 = 60 ∨ x.1.2.2.1 = 61 ∨ x.1.2.2.1 = 62)) := by
    rcases hg with ⟨d, rfl, q1, q2⟩ | ⟨p', l, rfl, q1, q2⟩ | ⟨l, rfl, q1⟩ | ⟨l, rfl, q1⟩ | rfl | ⟨l, rfl, q1⟩ | ⟨p', w, rfl, q1, q2⟩ | ⟨p', s, b, rfl, q1, q2, q3⟩ | ⟨d, rfl, q1, q2⟩ | rfl
    · have h' : (0 : Int) = 5 := h5
      omega
    · have h' : (1 : Int) = 5 := h5
      omega
    · have h' : (2 : Int) = 5 := h5
      omega
    · have h' : (3 : Int) = 5 := h5
      omega
    · exact absurd h5 (by decide)
    · exact Or.inl ⟨rfl, by rw [z2]; exact q1⟩
    · exact Or.inr (Or.inl ⟨rfl, by rw [z1]; exact q1, by rw [z3]; exact q2⟩)
    · exact Or.inr (Or.inr ⟨rfl, by rw [z1]; exact q1, q2⟩)
    · have h' : (6 : Int) = 5 := h5
      omega
    · exact absurd h5 (by decide)
  have hh := s_holds (v := 0) h1 hC.2.1 hok hk
  rw [tHold_X hg h5] at hh
  have hsel : zsel (x.1.1 : Int) 12 [76, 88, 104, 117, 130, 164, 164, 164, 164, 140] 164 = 164 := by
    rcases hk with z | z | z
    · rw [z.1]; decide
    · rw [z.1]; decide
    · rw [z.1]; decide
  rw [s_blkst hok hp hop g, hsel, j_X1_behindStep_164, hh, zC1_s]
  by_cases c : tX x.2 σ.1 = true
  · rw [c, if_neg nb1, j_X1_behindStep_188, zadd1 (by omega), if_pos rfl]
  · rw [bool_f c, if_pos yb0, j_X1_behindStep_178, if_pos h1.1, h1.2.1.2.2.2.2.2.2, obind, if_pos hy.1, y_paAt hy p60, zC1_s, hpa', j_X1_behindStep_188, zadd1 (by omega), if_neg (by decide)]
/-- a STEP counted -/
theorem c_count (g : GLi m a A σ) (ha : a + 28 ≤ 62) (hd : σ.2.1.2.1 < 300) {p t : Nat} {k : Nat} : 
    (k = 23 → zX zP 70 v 62 [some ((.inr (.inr (some 62)))), some ((.inr (.inr (some a)))), some (.inl x2), some ((.inr (.inr (some (a + 8))))), some (.inl (p : Int)), some (.inl (t : Int)), some (.inl (k : Int))] [] m = some (none, zwi m 62 2 ((σ.2.1.2.1 + 1 : Nat) : Int))) ∧
    (k ≠ 23 → zX zP 70 v 62 [some ((.inr (.inr (some 62)))), some ((.inr (.inr (some a)))), some (.inl x2), some ((.inr (.inr (some (a + 8))))), some (.inl (p : Int)), some (.inl (t : Int)), some (.inl (k : Int))] [] m = zC1 (zF zP 69 0 [(.inr (.inr (some 62))), (.inr (.inr (some a))), .inl (p : Int)] (zwi m 62 2 ((σ.2.1.2.1 + 1 : Nat) : Int))) (fun c2 m1 => zX zP 70 v 105 [some ((.inr (.inr (some 62)))), some ((.inr (.inr (some a)))), some (.inl x2), some ((.inr (.inr (some (a + 8))))), some (.inl c2), some (.inl (t : Int)), some (.inl (k : Int))] [] m1)) ∧
    GLi (zwi m 62 2 ((σ.2.1.2.1 + 1 : Nat) : Int)) a A (do1 σ) ∧ ∀ p', Fr (lvF a p p') m (zwi m 62 2 ((σ.2.1.2.1 + 1 : Nat) : Int)) := by
  have hC := g.1
  obtain ⟨h1, h2, h3, ⟨g1, g2, g3⟩, ⟨g4, g5, g6⟩, g7⟩ := g.1
  have hw : Sam m (zwi m 62 2 ((σ.2.1.2.1 + 1 : Nat) : Int)) 62 63 := Sam.wi m _ _ (by omega) (by omega)
  have v62 : ∀ j, j ≠ 2 → zi (zwi m 62 2 ((σ.2.1.2.1 + 1 : Nat) : Int)) 62 j = zi m 62 j := fun j hj => zi_wi_n _ _ (Or.inr hj)
  have hf : ∀ p', Fr (lvF a p p') m (zwi m 62 2 ((σ.2.1.2.1 + 1 : Nat) : Int)) := fun p' => Fr.wi m _ (Or.inl (Or.inr (Or.inr (Or.inr (Or.inr rfl)))))
  have hC1 : LiC (zwi m 62 2 ((σ.2.1.2.1 + 1 : Nat) : Int)) a (do1 σ) := by
    refine ⟨hw.Ld h1, hw.ldV (by omega) h2, hw.Lf h3, ⟨?_, zi_wi_s _ _ _ _, ?_⟩, ⟨?_, ?_, ?_⟩, ?_⟩
    · rw [v62 1 (by decide)]; exact g1
    · rw [v62 3 (by decide)]; exact g3
    · rw [v62 4 (by decide)]; exact g4
    · rw [v62 5 (by decide)]; exact g5
    · rw [v62 6 (by decide)]; exact g6
    · rw [v62 7 (by decide)]; exact g7
  have st : zX zP 70 v 62 [some ((.inr (.inr (some 62)))), some ((.inr (.inr (some a)))), some (.inl x2), some ((.inr (.inr (some (a + 8))))), some (.inl (p : Int)), some (.inl (t : Int)), some (.inl (k : Int))] [] m = (if (k : Int) = 23 then some (none, zwi m 62 2 ((σ.2.1.2.1 + 1 : Nat) : Int)) else zX zP 70 v 96 [some ((.inr (.inr (some 62)))), some ((.inr (.inr (some a)))), some (.inl x2), some ((.inr (.inr (some (a + 8))))), some (.inl (p : Int)), some (.inl (t : Int)), some (.inl (k : Int))] [] (zwi m 62 2 ((σ.2.1.2.1 + 1 : Nat) : Int))) := by
    rw [j_X1_goesThrough_62, if_pos h3.1, g2, if_pos (by omega), j_X1_goesThrough_78, if_pos h3.1, if_pos h3.1, g2, zadd1 (by omega)]
  refine ⟨fun hk => ?_, fun hk => ?_, g.fr (hf p) (fun b j => lvF_y p p b j ha) hC1, hf⟩
  · rw [st, if_pos (by omega)]
  · rw [st, if_neg (by omega), j_X1_goesThrough_96, if_pos (hw.Lf h3).1]
end LIVE6
