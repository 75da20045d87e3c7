/-! LIVING in the class: STEPS by their structure. -/
section LIVE7
variable {v : Nat} {a : Nat} {A : zAc} {P N W : Nat} {x2 : Int}
theorem gSp_k {x : zSp} (hg : gSp P N W x) : x.1.1 ≠ 22 ∧ (x.2.1 = 7 ↔ x.1.1 = 23) ∧ (blkS x = false → x.2.1 ≠ 7 → x.2.1 < 5) ∧ (blkS x = true → x.2.1 = 5 ∧ x.1.1 ≠ 21 ∨ ∃ d : Nat, x = ((21, d, 0, 0), (6, (d : Int), -7, -7, -7)) ∧ 1 ≤ d ∧ d ≤ 99) ∧ (blkS x = true → x.1.1 ≠ 23) := by
  rcases hg with ⟨d, rfl, q1, q2⟩ | ⟨p', l, rfl, q1, q2⟩ | ⟨l, rfl, q1⟩ | ⟨l, rfl, q1⟩ | rfl | ⟨l, rfl, q1⟩ | ⟨p', w, rfl, q1, q2⟩ | ⟨p', s, b, rfl, q1, q2, q3⟩ | ⟨d, rfl, q1, q2⟩ | rfl
  · refine ⟨by show (12 : Nat) ≠ 22; decide, by show (0 : Int) = 7 ↔ (12 : Nat) = 23; decide, fun _ _ => by show (0 : Int) < 5; decide, fun h => absurd (show false = true from h) (by decide), fun h => absurd (show false = true from h) (by decide)⟩
  · refine ⟨by show (13 : Nat) ≠ 22; decide, by show (1 : Int) = 7 ↔ (13 : Nat) = 23; decide, fun _ _ => by show (1 : Int) < 5; decide, fun h => absurd (show false = true from h) (by decide), fun h => absurd (show false = true from h) (by decide)⟩
  · refine ⟨by show (14 : Nat) ≠ 22; decide, by show (2 : Int) = 7 ↔ (14 : Nat) = 23; decide, fun _ _ => by show (2 : Int) < 5; decide, fun h => absurd (show false = true from h) (by decide), fun h => absurd (show false = true from h) (by decide)⟩
  · refine ⟨by show (15 : Nat) ≠ 22; decide, by show (3 : Int) = 7 ↔ (15 : Nat) = 23; decide, fun _ _ => by show (3 : Int) < 5; decide, fun h => absurd (show false = true from h) (by decide), fun h => absurd (show false = true from h) (by decide)⟩
  · refine ⟨by decide, by decide, fun _ _ => by decide, fun h => absurd (show false = true from h) (by decide), fun h => absurd (show false = true from h) (by decide)⟩
  · refine ⟨by show (18 : Nat) ≠ 22; decide, by show (5 : Int) = 7 ↔ (18 : Nat) = 23; decide, fun h => absurd (show true = false from h) (by decide), fun _ => Or.inl ⟨rfl, by show (18 : Nat) ≠ 21; decide⟩, fun _ => by show (18 : Nat) ≠ 23; decide⟩
  · refine ⟨by show (20 : Nat) ≠ 22; decide, by show (5 : Int) = 7 ↔ (20 : Nat) = 23; decide, fun h => absurd (show true = false from h) (by decide), fun _ => Or.inl ⟨rfl, by show (20 : Nat) ≠ 21; decide⟩, fun _ => by show (20 : Nat) ≠ 23; decide⟩
  · refine ⟨by show (19 : Nat) ≠ 22; decide, by show (5 : Int) = 7 ↔ (19 : Nat) = 23; decide, fun h => absurd (show true = false from h) (by decide), fun _ => Or.inl ⟨rfl, by show (19 : Nat) ≠ 21; decide⟩, fun _ => by show (19 : Nat) ≠ 23; decide⟩
  · refine ⟨by show (21 : Nat) ≠ 22; decide, by show (6 : Int) = 7 ↔ (21 : Nat) = 23; decide, fun h => absurd (show true = false from h) (by decide), fun _ => Or.inr ⟨d, rfl, q1, q2⟩, fun _ => by show (21 : Nat) ≠ 23; decide⟩
  · refine ⟨by decide, by decide, fun _ h => absurd rfl h, fun h => absurd (show false = true from h) (by decide), fun h => absurd (show false = true from h) (by decide)⟩
theorem c_run (ha : a + 28 ≤ 62) : ∀ (d k s s' p p' : Nat) (σ : zLi) (m : zM) (t : Nat) (u : Option zV), Sg (gSp P N W) A d s s' p p' → s' ≤ s + k → p' ≤ A.1.length → GLi m a A σ → RnOk P N W σ → t + 101 * (300 - σ.2.1.2.1) ≤ 100000 →
    RnC v m a A x2 P N W p p' t u σ.2.1.2.1 (lvA A k s s' σ) := by
  intro d
  have same : ∀ (k s p : Nat) (σ : zLi) (m : zM) (t : Nat) (u : Option zV), GLi m a A σ → RnOk P N W σ → RnC v m a A x2 P N W p p t u σ.2.1.2.1 (lvA A k s s σ) := fun k s p σ m t u g hr => by
    rw [lvA_end]
    exact ⟨fun _ => ⟨m, t, u, rfl, g, Fr.rf _ _, hr, Nat.le_refl _⟩, fun hs => by rw [hr.1] at hs; cases hs⟩
  induction d with
  | zero =>
    intro k s s' p p' σ m t u hS hk hp' g hr ht
    obtain ⟨rfl, rfl⟩ := hS
    exact same k s p σ m t u g hr
  | succ d ih =>
    intro k s s' p p' σ m t u hS hk hp' g hr ht
    rcases hS with ⟨rfl, rfl⟩ | ⟨x, hg, hop, hss, hpp, hbr⟩
    · exact same k s p σ m t u g hr
    · obtain ⟨k, rfl⟩ : ∃ k', k = k' + 1 := ⟨k - 1, by omega⟩
      obtain ⟨r1, r2, r3, r4⟩ := hr
      have hP6 : σ.1.2.2.1.length ≤ 6 := g.1.2.1.2.2.1.2.1
      have hok : oOk x.1 := gSp_ok hg (by rw [← r4.1]; exact hP6) (by rw [← r4.2.1]; exact g.1.2.1.2.1.2.1) (by rw [← r4.2.2]; exact g.1.2.1.1.2.1)
      obtain ⟨k22, k23, klt, kbl, kb23⟩ := gSp_k hg
      have hpA : p < A.1.length := by omega
      have h62 := (c_op (v := v) (x2 := x2) g hpA (show t < 1000000 by omega) u hok hop).2 k22
      have hcT : ceT A s = x.2 := by
        rcases hbr with ⟨_, hc, _⟩ | ⟨_, e, q, hc, _⟩
        · exact (ceAt_T hc).1
        · exact (ceAt_T hc).1
      unfold lvA
      rw [if_pos ⟨hss, r1⟩, hcT]
      by_cases c300 : σ.2.1.2.1 = 300
      · -- no more STEPS
        rw [if_pos c300, lvA_stop _ _ _ (show (spL σ true).2.2.2 = true from rfl)]
        refine ⟨fun hs => absurd (show true = false from hs) (by decide), fun _ => ?_⟩
        obtain ⟨h1, h2, h3, ⟨g1, g2, g3⟩, ⟨g4, g5, g6⟩, g7⟩ := g.1
        have hw : Sam m (zwi m 62 7 1) 62 63 := Sam.wi m _ _ (by omega) (by omega)
        have v62 : ∀ j, j ≠ 7 → zi (zwi m 62 7 1) 62 j = zi m 62 j := fun j hj => zi_wi_n _ _ (Or.inr hj)
        have hf : Fr (lvF a p p') m (zwi m 62 7 1) := Fr.wi m _ (Or.inl (Or.inr (Or.inr (Or.inr (Or.inr rfl)))))
        have hC : LiC (zwi m 62 7 1) a (spL σ true) := by
          refine ⟨hw.Ld h1, hw.ldV (by omega) h2, hw.Lf h3, ⟨?_, ?_, ?_⟩, ⟨?_, ?_, ?_⟩, zi_wi_s _ _ _ _⟩
          · rw [v62 1 (by decide)]; exact g1
          · rw [v62 2 (by decide)]; exact g2
          · rw [v62 3 (by decide)]; exact g3
          · rw [v62 4 (by decide)]; exact g4
          · rw [v62 5 (by decide)]; exact g5
          · rw [v62 6 (by decide)]; exact g6
        refine ⟨zwi m 62 7 1, ?_, g.fr hf (fun b j => lvF_y p p' b j ha) hC, hf, r3, r2.mono r3, r4⟩
        rw [h62, j_X1_goesThrough_62, if_pos h3.1, g2, if_neg (by omega), if_pos h3.1]
      · rw [if_neg c300]
        have hd : σ.2.1.2.1 < 300 := by omega
        obtain ⟨n1, n2, n3, n4⟩ := c_count (v := v) (x2 := x2) g ha hd (p := p) (t := t) (k := x.1.1)
        have hB1 : LiB σ.2.1.2.1 (do1 σ) := r2
        have hz1 : szs P N W (do1 σ) := r4
        rcases hbr with ⟨hb, hc, hrest⟩ | ⟨hb, e, q, hc, hse, hes, hpq, hqp, hbody, hq22, hpa, hpa2, hrest⟩
        · -- no block
          have hc8 := (ceAt_T hc).2
          by_cases h7 : x.2.1 = 7
          · rw [if_neg (by omega), if_neg (by omega), if_neg (by omega), lvA_stop _ _ _ (show (spL (do1 σ) σ.2.2.1).2.2.2 = true from rfl)]
            refine ⟨fun hs => absurd (show true = false from hs) (by decide), fun _ => ⟨_, (h62.trans (n1 (k23.mp h7))), ?_, n4 p', ?_, ?_, r4⟩⟩
            · exact ⟨n3.1, n3.2⟩
            · show σ.2.1.2.1 + 1 ≤ 300; omega
            · exact (show LiB 300 (do1 σ) from hB1.mono r3)
          · have hlt := klt hb h7
            obtain ⟨m2, q1, q2, q3⟩ := s_step (v := 0) hg hb h7 hpA hop r3 ha n3 hB1 hz1
            obtain ⟨o1, o2, o3, o4⟩ := eX_ok (σ := do1 σ) hg hb hP6 hB1 hz1
            have g2 : GLi m2 a A (eW (eX x.2 (do1 σ))) := n3.fr q2 (fun b j => lvE_y b j ha) q3
            have hdn : (eW (eX x.2 (do1 σ))).2.1.2.1 = σ.2.1.2.1 + 1 := o3
            have ok2 : RnOk P N W (eW (eX x.2 (do1 σ))) := ⟨by rw [o4]; exact r1, by rw [hdn]; exact o1, by rw [hdn]; omega, o2⟩
            have go : lvX v a x2 p t u m = lvX v a x2 (p + 1) (t + 1) (some (.inl (x.1.1 : Int))) m2 := by
              rw [h62, n2 (fun z => h7 (k23.mpr z)), q1, zC1_s, j_X1_goesThrough_105, zadd1 (by omega)]
            rw [if_pos hlt, hc8, Int.toNat_natCast]
            exact RnC.pre go ((n4 p').tr (lvE_F q2)) (by omega) (by rw [hdn]; omega) (ih k (s + 1) s' (p + 1) p' _ m2 (t + 1) _ hrest (by omega) hp' g2 ok2 (by rw [hdn]; omega))
        · -- a block
          have hc8 := (ceAt_T hc).2
          have hq : q < A.1.length := by omega
          have ok1 : RnOk P N W (do1 σ) := ⟨r1, hB1.mono (Nat.le_succ _), hd, hz1⟩
          have hdn1 : (do1 σ).2.1.2.1 = σ.2.1.2.1 + 1 := rfl
          rw [hc8, Int.toNat_natCast]
          rcases kbl hb with ⟨h5, hn21⟩ | ⟨n, hx, hn1, hn99⟩
          · -- a test
            have ts := s_testop (v := 0) hg h5 hpA hop hpa (by have := g.op hq; omega) n3 hz1
            rw [if_neg (by omega), if_pos h5]
            by_cases ct : tX x.2 σ.1 = true
            · have ct' : tX x.2 (do1 σ).1 = true := ct
              have go : lvX v a x2 p t u m = lvX v a x2 (p + 1) (t + 1) (some (.inl (x.1.1 : Int))) (zwi m 62 2 ((σ.2.1.2.1 + 1 : Nat) : Int)) := by
                rw [h62, n2 (kb23 hb), ts, if_pos ct', zC1_s, j_X1_goesThrough_105, zadd1 (by omega)]
              rw [if_pos ct]
              have body := ih k (s + 1) e (p + 1) q (do1 σ) (zwi m 62 2 ((σ.2.1.2.1 + 1 : Nat) : Int)) (t + 1) (some (.inl (x.1.1 : Int))) hbody (by omega) (by omega) n3 ok1 (by rw [hdn1]; omega)
              generalize lvA A k (s + 1) e (do1 σ) = τ at body ⊢
              by_cases cs : τ.2.2.2 = true
              · obtain ⟨m3, y1, y2, y3, y4⟩ := body.2 cs
                rw [lvA_stop _ _ _ cs]
                exact ⟨fun hs => (by rw [cs] at hs; cases hs), fun _ => ⟨m3, go.trans y1, y2, (n4 p').tr (lvF_mono y3 (by omega) (by omega)), y4⟩⟩
              · obtain ⟨m3, t3, u3, y1, y2, y3, y4, y5⟩ := body.1 (bool_f cs)
                rw [hdn1] at y5
                have en := (c_end (v := v) (x2 := x2) y2 hpq hq (show t3 < 1000000 by omega) u3 hok hop hq22 hpa2).1 hn21
                exact RnC.pre (go.trans (y1.trans en)) ((n4 p').tr (lvF_mono y3 (by omega) (by omega))) (by omega) (by omega) (ih k e s' (q + 1) p' τ m3 (t3 + 1) _ hrest (by omega) hp' y2 y4 (by omega))
            · have ct' : ¬ tX x.2 (do1 σ).1 = true := ct
              have go : lvX v a x2 p t u m = lvX v a x2 (q + 1) (t + 1) (some (.inl (x.1.1 : Int))) (zwi m 62 2 ((σ.2.1.2.1 + 1 : Nat) : Int)) := by
                rw [h62, n2 (kb23 hb), ts, if_neg ct', zC1_s, j_X1_goesThrough_105, zadd1 (by omega)]
              rw [if_neg ct]
              exact RnC.pre go (n4 p') (by omega) (by rw [hdn1]; omega) (ih k e s' (q + 1) p' (do1 σ) _ (t + 1) _ hrest (by omega) hp' n3 ok1 (by rw [hdn1]; omega))
          · -- a LOOP
            subst hx
            have hop' : A.1.getD p 0 = opv (21, n, 0, 0) := hop
            obtain ⟨m2, q1, q2, q3, q4⟩ := s_loopop (v := 0) (d := n) (by omega) hpA hop' r3 ha n3 hB1
            have go : lvX v a x2 p t u m = lvX v a x2 (p + 1) (t + 1) (some (.inl ((21 : Nat) : Int))) m2 := by
              rw [h62, n2 (kb23 hb), q1, zC1_s]
              show zX zP 70 v 105 _ [] m2 = _
              rw [j_X1_goesThrough_105, zadd1 (by omega)]
            have f2 : Fr (lvF a p p') m m2 := (n4 p').tr (lvF_mono q2 (Nat.le_refl _) (by omega))
            -- rounds
            have rounds : ∀ (c : Nat) (τ : zLi) (m3 : zM) (t3 : Nat) (u3 : Option zV), 1 ≤ c → c ≤ 99 → GLi m3 a A τ → RnOk P N W τ → zi m3 63 p = (c : Int) → t3 + c + 101 * (300 - τ.2.1.2.1) ≤ 100000 →
                ((itr (lvA A k (s + 1) e) c τ).2.2.2 = false → ∃ (m' : zM) (t' : Nat) (u' : Option zV), lvX v a x2 (p + 1) t3 u3 m3 = lvX v a x2 (q + 1) t' u' m' ∧ GLi m' a A (itr (lvA A k (s + 1) e) c τ) ∧ Fr (lvF a p p') m3 m' ∧ RnOk P N W (itr (lvA A k (s + 1) e) c τ) ∧ t' + 101 * (300 - (itr (lvA A k (s + 1) e) c τ).2.1.2.1) ≤ t3 + c + 101 * (300 - τ.2.1.2.1)) ∧
                ((itr (lvA A k (s + 1) e) c τ).2.2.2 = true → ∃ m', lvX v a x2 (p + 1) t3 u3 m3 = some (none, m') ∧ GLi m' a A (itr (lvA A k (s + 1) e) c τ) ∧ Fr (lvF a p p') m3 m' ∧ (itr (lvA A k (s + 1) e) c τ).2.1.2.1 ≤ 300 ∧ LiB 300 (itr (lvA A k (s + 1) e) c τ) ∧ szs P N W (itr (lvA A k (s + 1) e) c τ)) := by
              intro c
              induction c with
              | zero => intro τ m3 t3 u3 h1; omega
              | succ c ihc =>
                intro τ m3 t3 u3 h1 h99 gg okk hrd htt
                have body := ih k (s + 1) e (p + 1) q τ m3 t3 u3 hbody (by omega) (by omega) gg okk (by omega)
                show ((itr (lvA A k (s + 1) e) c (lvA A k (s + 1) e τ)).2.2.2 = false → _) ∧ ((itr (lvA A k (s + 1) e) c (lvA A k (s + 1) e τ)).2.2.2 = true → _)
                have hit : itr (lvA A k (s + 1) e) (c + 1) τ = itr (lvA A k (s + 1) e) c (lvA A k (s + 1) e τ) := rfl
                rw [hit]
                have hstop : ∀ ρ : zLi, ρ.2.2.2 = true → itr (lvA A k (s + 1) e) c ρ = ρ := fun ρ h => itr_stop (lvA_stop _ _ _ h) c
                generalize lvA A k (s + 1) e τ = ρ at body ⊢
                by_cases cs : ρ.2.2.2 = true
                · obtain ⟨m4, y1, y2, y3, y4⟩ := body.2 cs
                  rw [hstop ρ cs]
                  exact ⟨fun hs => (by rw [cs] at hs; cases hs), fun _ => ⟨m4, y1, y2, lvF_mono y3 (by omega) (by omega), y4⟩⟩
                · obtain ⟨m4, t4, u4, y1, y2, y3, y4, y5⟩ := body.1 (bool_f cs)
                  have hrd4 : zi m4 63 p = ((c + 1 : Nat) : Int) := by
                    rw [y3.i (by unfold lvF lvE; omega)]; exact hrd
                  obtain ⟨en1, en2⟩ := (c_end (v := v) (x2 := x2) y2 hpq hq (show t4 < 1000000 by omega) u4 hok hop hq22 hpa2).2 rfl (c + 1) hrd4 (by omega)
                  by_cases c0 : c = 0
                  · subst c0
                    have en := en2 (by omega)
                    refine ⟨fun _ => ⟨m4, t4 + 1, _, y1.trans en, y2, lvF_mono y3 (by omega) (by omega), y4, by
                      show t4 + 1 + 101 * (300 - ρ.2.1.2.1) ≤ _
                      omega⟩, fun hs => absurd hs (by
                        show ¬ ρ.2.2.2 = true
                        exact cs)⟩
                  · have en := en1 (by omega)
                    have hs63 : Sam m4 (zwi m4 63 p ((c + 1 - 1 : Nat) : Int)) 63 64 := Sam.wi m4 _ _ (by omega) (by omega)
                    have hf63 : Fr (lvF a p p') m4 (zwi m4 63 p ((c + 1 - 1 : Nat) : Int)) := Fr.wi m4 _ (Or.inr ⟨rfl, by omega, by omega⟩)
                    have g5 : GLi (zwi m4 63 p ((c + 1 - 1 : Nat) : Int)) a A ρ := y2.fr hf63 (fun b j => lvF_y p p' b j ha) (y2.1.of (hs63.mono (by omega) (by omega)) (hs63.ldV (by omega) y2.1.2.1) (fun j _ _ => hs63.i (by omega) j) rfl)
                    obtain ⟨i1, i2⟩ := ihc ρ (zwi m4 63 p ((c + 1 - 1 : Nat) : Int)) (t4 + 1) (some (.inl 22)) (by omega) (by omega) g5 y4 (by rw [zi_wi_s]; congr 1) (by omega)
                    have f45 : Fr (lvF a p p') m3 (zwi m4 63 p ((c + 1 - 1 : Nat) : Int)) := (lvF_mono y3 (by omega) (by omega)).tr hf63
                    refine ⟨fun hs => ?_, fun hs => ?_⟩
                    · obtain ⟨m', t', u', z1, z2, z3, z4, z5⟩ := i1 hs
                      exact ⟨m', t', u', y1.trans (en.trans z1), z2, f45.tr z3, z4, by omega⟩
                    · obtain ⟨m', z1, z2, z3, z4⟩ := i2 hs
                      exact ⟨m', y1.trans (en.trans z1), z2, f45.tr z3, z4⟩
            rw [if_neg (show ¬ ((6 : Int) < 5) by decide), if_neg (show ¬ ((6 : Int) = 5) by decide), if_pos (show (6 : Int) = 6 from rfl)]
            show RnC v m a A x2 P N W p p' t u σ.2.1.2.1 (lvA A k e s' (itr (lvA A k (s + 1) e) n (do1 σ)))
            obtain ⟨i1, i2⟩ := rounds n (do1 σ) m2 (t + 1) (some (.inl ((21 : Nat) : Int))) hn1 hn99 q3 ok1 q4 (by rw [hdn1]; omega)
            generalize itr (lvA A k (s + 1) e) n (do1 σ) = τ at i1 i2 ⊢
            by_cases cs : τ.2.2.2 = true
            · obtain ⟨m3, y1, y2, y3, y4⟩ := i2 cs
              rw [lvA_stop _ _ _ cs]
              exact ⟨fun hs => (by rw [cs] at hs; cases hs), fun _ => ⟨m3, go.trans y1, y2, f2.tr y3, y4⟩⟩
            · obtain ⟨m3, t3, u3, y1, y2, y3, y4, y5⟩ := i1 (bool_f cs)
              rw [hdn1] at y5
              exact RnC.pre (go.trans y1) (f2.tr y3) (by omega) (by omega) (ih k e s' (q + 1) p' τ m3 t3 _ hrest (by omega) hp' y2 y4 (by omega))
end LIVE7
