/-! LIVING in the reference: STEPS by their structure. -/
section LIVE13
variable {B : Nat → Int} {m m' : zM} {L : zLd} {S : zSt} {P N W : Nat} {A : zAc}
theorem m_run (hA : (gBl S).2 = some A) : ∀ (d k v s s' p p' : Nat) (σ : zLi) (m : zM) (x1 : Int), Sg (gSp P N W) A d s s' p p' → s' ≤ s + k → s' ≤ s + v → s' ≤ nst A → LiM B m S σ → RnOk P N W σ →
    RnM B S P N W (zX zP 405 v 2 [some (.inr (.inr (some 0))), some (.inl x1), some (.inl (s' : Int)), some (.inl (s : Int))] [] m) (lvA A k s s' σ) := by
  have same : ∀ (k v s : Nat) (σ : zLi) (m : zM) (x1 : Int), LiM B m S σ → RnOk P N W σ → RnM B S P N W (zX zP 405 v 2 [some (.inr (.inr (some 0))), some (.inl x1), some (.inl (s : Int)), some (.inl (s : Int))] [] m) (lvA A k s s σ) := fun k v s σ m x1 g hr => by
    rw [lvA_end]
    refine ⟨m, ?_, g, fun _ => hr, hr.2.2.1, hr.2.1.mono hr.2.2.1, hr.2.2.2⟩
    rw [j_X11_doAll_2, if_neg (by omega), j_X11_doAll_39]
  intro d
  induction d with
  | zero =>
    intro k v s s' p p' σ m x1 hS hk hv hn g hr
    obtain ⟨rfl, rfl⟩ := hS
    exact same k v s σ m x1 g hr
  | succ d ih =>
    intro k v s s' p p' σ m x1 hS hk hv hn g hr
    rcases hS with ⟨rfl, rfl⟩ | ⟨x, hg, hop, hss, hpp, hbr⟩
    · exact same k v s σ m x1 g hr
    · obtain ⟨k, rfl⟩ : ∃ k', k = k' + 1 := ⟨k - 1, by omega⟩
      obtain ⟨v, rfl⟩ : ∃ v', v = v' + 1 := ⟨v - 1, by omega⟩
      obtain ⟨r1, r2, r3, r4⟩ := hr
      obtain ⟨k22, k23, klt, kbl, kb23⟩ := gSp_k hg
      have hP6 : σ.1.2.2.1.length ≤ 6 := g.1.p6
      obtain ⟨e, hc, hse, hes⟩ : ∃ e : Nat, ceAt A.2.2 s x (e : Int) ∧ s < e ∧ e ≤ s' := by
        rcases hbr with ⟨_, hc, _⟩ | ⟨_, e, q, hc, hse, hes, _⟩
        · exact ⟨s + 1, hc, by omega, by omega⟩
        · exact ⟨e, hc, hse, hes⟩
      have hcT := (ceAt_T hc).1
      have hc8 := (ceAt_T hc).2
      have hsn : s < nst A := by omega
      have hn30 : s < 30 := by have := (m_lcell hA g hsn hc).2; omega
      have t := g.1.1.1
      have h42 : zi m 0 42 = 0 := by rw [g.2.2.2.2.1, r1]; rfl
      have ea8 : ∀ _ : Unit, zadd ((219 + 9 * s : Nat) : Int) 8 = ((219 + 9 * s + 8 : Nat) : Int) := fun _ => zadd_nat (k := 8) (by omega)
      -- behind the STEP
      have next : ∀ (m1 : zM) (τ : zLi), zF zP 406 (v + 1) [(.inr (.inr (some 0))), .inl (s : Int)] m = some (none, m1) → LiM B m1 S τ → zX zP 405 (v + 1) 2 [some (.inr (.inr (some 0))), some (.inl x1), some (.inl (s' : Int)), some (.inl (s : Int))] [] m = zX zP 405 (v + 1) 2 [some (.inr (.inr (some 0))), some (.inl x1), some (.inl (s' : Int)), some (.inl (e : Int))] [] m1 := fun m1 τ h1 h2 => by
        have c8 : zi m1 5 (219 + 9 * s + 8) = (e : Int) := by
          rcases (m_lcell hA h2 hsn hc).1 8 (by decide) with z | z
          · have z' : (e : Int) = -7 := z
            omega
          · exact z
        rw [j_X11_doAll_2, if_pos (by omega), if_pos t, h42, if_pos rfl, if_pos t, h1, zC0_s, if_pos h2.1.1.1, h2.1.1.2.1.2.1.1, obind, m_at hn30, ea8 (), if_pos (A5 h2.1.1 (by omega) (by omega)), Int.toNat_natCast, c8]
      have fin : ∀ (τ : zLi) (m1 : zM), zF zP 406 (v + 1) [(.inr (.inr (some 0))), .inl (s : Int)] m = some (none, m1) → LiM B m1 S τ → τ.2.2.2 = true → τ.2.1.2.1 ≤ 300 → LiB 300 τ → szs P N W τ → RnM B S P N W (zX zP 405 (v + 1) 2 [some (.inr (.inr (some 0))), some (.inl x1), some (.inl (s' : Int)), some (.inl (s : Int))] [] m) (lvA A k e s' τ) := fun τ m1 h1 h2 h3 h4 h5 h6 => by
        rw [lvA_stop _ _ _ h3]
        exact ⟨m1, (next m1 τ h1 h2).trans (m_stopX h2 h3), h2, fun q => (by rw [h3] at q; cases q), h4, h5, h6⟩
      unfold lvA
      rw [if_pos ⟨hss, r1⟩, hcT, hc8, Int.toNat_natCast]
      by_cases c300 : σ.2.1.2.1 = 300
      · rw [if_pos c300]
        have h44 : zi m 0 44 = (σ.2.1.2.1 : Int) := g.2.1.2.1
        have g1 := LiM.stop (σ := σ) g
        obtain ⟨hR1, ⟨a1, a2, a3⟩, ⟨a4, a5, a6⟩, a7, a8⟩ := g1
        have v0 : ∀ j, j ≠ 49 → zi (zwi (zwi m 0 42 1) 0 49 1) 0 j = zi (zwi m 0 42 1) 0 j := fun j hj => zi_wi_n _ _ (Or.inr hj)
        have g2 : LiM B (zwi (zwi m 0 42 1) 0 49 1) S (spL σ true) := by
          refine ⟨hR1.s0 (by decide) (by decide), ⟨?_, ?_, ?_⟩, ⟨?_, ?_, ?_⟩, zi_wi_s _ _ _ _, ?_⟩
          · rw [v0 43 (by decide)]; exact a1
          · rw [v0 44 (by decide)]; exact a2
          · rw [v0 45 (by decide)]; exact a3
          · rw [v0 46 (by decide)]; exact a4
          · rw [v0 47 (by decide)]; exact a5
          · rw [v0 48 (by decide)]; exact a6
          · exact ⟨by rw [v0 42 (by decide)]; exact a8.1, fun j => (zi_wi_n _ _ (Or.inl (by decide))).trans (a8.2 j)⟩
        refine fin (spL σ true) _ ?_ g2 rfl r3 (show LiB 300 σ from r2.mono r3) r4
        rw [f_X11_doOne, if_pos t, h44, if_pos (by omega), if_pos (by rw [t]; rfl), zT_wi, if_pos t]
      · rw [if_neg c300]
        have hd : σ.2.1.2.1 < 300 := by omega
        have gd := g.do1
        have hB1 : LiB σ.2.1.2.1 (do1 σ) := r2
        have hz1 : szs P N W (do1 σ) := r4
        have ok1 : RnOk P N W (do1 σ) := ⟨r1, hB1.mono (Nat.le_succ _), hd, hz1⟩
        have hcd : CeM (zwi m 0 44 ((σ.2.1.2.1 + 1 : Nat) : Int)) (219 + 9 * s) x.2 (e : Int) := (m_lcell hA gd hsn hc).1
        have h44 : zi m 0 44 = (σ.2.1.2.1 : Int) := g.2.1.2.1
        -- one STEP up to its kind
        have big : ¬ x.2.1 < 5 → x.2.1 ≠ -7 → zF zP 406 (v + 1) [(.inr (.inr (some 0))), .inl (s : Int)] m = zX zP 406 (v + 1) 77 [some (.inr (.inr (some 0))), some (.inl (s : Int)), some (.inl ((219 + 9 * s : Nat) : Int)), some (.inl x.2.1), none] [] (zwi m 0 44 ((σ.2.1.2.1 + 1 : Nat) : Int)) := fun h5 h7 => by
          have k0 : zi (zwi m 0 44 ((σ.2.1.2.1 + 1 : Nat) : Int)) 5 (219 + 9 * s) = x.2.1 := (hcd 0 (by decide)).resolve_left h7
          rw [f_X11_doOne, if_pos t, h44, if_neg (by omega), j_X11_doOne_21, if_pos t, if_pos t, h44, zadd1 (by omega), zT_wi, if_pos t]
          show (zr m 0 20).bind _ = _
          rw [g.1.1.2.1.2.1.1, obind, m_at hn30, if_pos (A5 gd.1.1 (by omega) (by omega)), Int.toNat_natCast, k0, if_neg h5]
        have td := gd.1.1.1
        have r5d := gd.1.1.2.1.2.1.1
        rcases hbr with ⟨hb, hc', hrest⟩ | ⟨hb, e', q, hc', hse', hes', hpq, hqp, hbody, hq22, hpa, hpa2, hrest⟩
        · -- no block
          have ee : e = s + 1 := by
            have := (ceAt_T hc').2
            rw [hc8] at this
            omega
          subst ee
          by_cases h7 : x.2.1 = 7
          · rw [if_neg (by omega), if_neg (by omega), if_neg (by omega)]
            refine fin (spL (do1 σ) (do1 σ).2.2.1) _ ?_ gd.stop rfl hd (show LiB 300 (do1 σ) from hB1.mono r3) r4
            rw [big (by omega) (by omega), h7, j_X11_doOne_77, if_neg (by decide), j_X11_doOne_109, if_neg (by decide), j_X11_doOne_163, if_pos (by decide), if_pos (by rw [td]; rfl), j_X11_doOne_174]
          · have hlt := klt hb h7
            obtain ⟨m1, q1, q2⟩ := m_one (v := v + 1) hg hb h7 hn30 (m_lcell hA g hsn hc).1 hd g r2 r4
            obtain ⟨o1, o2, o3, o4⟩ := eX_ok (σ := do1 σ) hg hb hP6 hB1 hz1
            have hdn : (eW (eX x.2 (do1 σ))).2.1.2.1 = σ.2.1.2.1 + 1 := o3
            have ok2 : RnOk P N W (eW (eX x.2 (do1 σ))) := ⟨by rw [o4]; exact r1, by rw [hdn]; exact o1, by rw [hdn]; omega, o2⟩
            rw [if_pos hlt, next m1 _ q1 q2]
            exact ih k (v + 1) (s + 1) s' (p + 1) p' _ m1 x1 hrest (by omega) (by omega) hn q2 ok2
        · -- a block
          have ee : e = e' := by
            have := (ceAt_T hc').2
            rw [hc8] at this
            omega
          subst ee
          -- behind a block's inside
          have after : ∀ (τ : zLi) (m1 : zM), zF zP 406 (v + 1) [(.inr (.inr (some 0))), .inl (s : Int)] m = some (none, m1) → LiM B m1 S τ → (τ.2.2.2 = false → RnOk P N W τ) → τ.2.1.2.1 ≤ 300 → LiB 300 τ → szs P N W τ → RnM B S P N W (zX zP 405 (v + 1) 2 [some (.inr (.inr (some 0))), some (.inl x1), some (.inl (s' : Int)), some (.inl (s : Int))] [] m) (lvA A k e s' τ) := fun τ m1 h1 h2 h3 h4 h5 h6 => by
            by_cases cs : τ.2.2.2 = true
            · exact fin τ m1 h1 h2 cs h4 h5 h6
            · rw [next m1 τ h1 h2]
              exact ih k (v + 1) e s' (q + 1) p' τ m1 x1 hrest (by omega) (by omega) hn h2 (h3 (bool_f cs))
          have body : ∀ (τ : zLi) (m1 : zM), LiM B m1 S τ → RnOk P N W τ → RnM B S P N W (zF zP 405 v [(.inr (.inr (some 0))), .inl ((s + 1 : Nat) : Int), .inl (e : Int)] m1) (lvA A k (s + 1) e τ) := fun τ m1 h1 h2 => by
            rw [f_X11_doAll]
            exact ih k v (s + 1) e (p + 1) q τ m1 ((s + 1 : Nat) : Int) hbody (by omega) (by omega) (by omega) h1 h2
          have c8 : ∀ (m1 : zM) (τ : zLi), LiM B m1 S τ → zi m1 5 (219 + 9 * s + 8) = (e : Int) := fun m1 τ h2 => by
            rcases (m_lcell hA h2 hsn hc).1 8 (by decide) with z | z
            · have z' : (e : Int) = -7 := z
              omega
            · exact z
          rcases kbl hb with ⟨h5, hn21⟩ | ⟨n, hx, hn1, hn99⟩
          · rw [if_neg (by omega), if_pos h5]
            obtain ⟨m1, q1, q2⟩ := m_isSo (v := 0) hg h5 (by omega) hcd gd hz1
            by_cases ct : tX x.2 σ.1 = true
            · have ct' : tX x.2 (do1 σ).1 = true := ct
              obtain ⟨m2, b1, b2, b3, b4⟩ := body (do1 σ) m1 q2 ok1
              rw [if_pos ct]
              refine after _ m2 ?_ b2 b3 b4.1 b4.2.1 b4.2.2
              rw [big (by omega) (by omega), h5, j_X11_doOne_77, if_pos rfl, if_pos td, q1, zC1_s, ct', if_neg nb1, if_pos q2.1.1.1, q2.1.1.2.1.2.1.1, obind, ea8 (), if_pos (A5 q2.1.1 (by omega) (by omega)), if_pos q2.1.1.1, Int.toNat_natCast, c8 m1 _ q2, zadd1 (by omega), b1, zC0_s, j_X11_doOne_174]
            · have ct' : tX x.2 (do1 σ).1 = false := bool_f ct
              rw [if_neg ct]
              refine after _ m1 ?_ q2 (fun _ => ok1) hd (hB1.mono r3) hz1
              rw [big (by omega) (by omega), h5, j_X11_doOne_77, if_pos rfl, if_pos td, q1, zC1_s, ct', if_pos yb0, j_X11_doOne_109, if_neg (by decide), j_X11_doOne_163, if_neg (by decide), j_X11_doOne_174]
          · subst hx
            rw [if_neg (show ¬ ((6 : Int) < 5) by decide), if_neg (show ¬ ((6 : Int) = 5) by decide), if_pos (show (6 : Int) = 6 from rfl)]
            show RnM B S P N W _ (lvA A k e s' (itr (lvA A k (s + 1) e) n (do1 σ)))
            have ea1 : ∀ _ : Unit, zadd ((219 + 9 * s : Nat) : Int) 1 = ((219 + 9 * s + 1 : Nat) : Int) := fun _ => zadd1 (by omega)
            have c1 : ∀ (m1 : zM) (τ : zLi), LiM B m1 S τ → zi m1 5 (219 + 9 * s + 1) = (n : Int) := fun m1 τ h2 => by
              rcases (m_lcell hA h2 hsn hc).1 1 (by decide) with z | z
              · have z' : (n : Int) = -7 := z
                omega
              · exact z
            have rounds : ∀ (c i : Nat) (τ : zLi) (m1 : zM), c + i = n → LiM B m1 S τ → (τ.2.2.2 = false → RnOk P N W τ) → τ.2.1.2.1 ≤ 300 → LiB 300 τ → szs P N W τ →
                RnM B S P N W (zX zP 406 (v + 1) 118 [some (.inr (.inr (some 0))), some (.inl (s : Int)), some (.inl ((219 + 9 * s : Nat) : Int)), some (.inl 6), some (.inl (i : Int))] [] m1) (itr (lvA A k (s + 1) e) c τ) := by
              intro c
              induction c with
              | zero =>
                intro i τ m1 hi h1 h2 h3 h4 h5
                refine ⟨m1, ?_, h1, h2, h3, h4, h5⟩
                rw [j_X11_doOne_118, if_pos h1.1.1.1, h1.1.1.2.1.2.1.1, obind, ea1 (), if_pos (A5 h1.1.1 (by omega) (by omega)), Int.toNat_natCast, c1 m1 τ h1, if_neg (by omega), j_X11_doOne_160, j_X11_doOne_174]
              | succ c ihc =>
                intro i τ m1 hi h1 h2 h3 h4 h5
                have h42' : zi m1 0 42 = b01 τ.2.2.2 := h1.2.2.2.2.1
                by_cases cs : τ.2.2.2 = true
                · have hst : itr (lvA A k (s + 1) e) (c + 1) τ = τ := itr_stop (lvA_stop _ _ _ cs) (c + 1)
                  rw [hst]
                  refine ⟨m1, ?_, h1, h2, h3, h4, h5⟩
                  rw [j_X11_doOne_118, if_pos h1.1.1.1, h1.1.1.2.1.2.1.1, obind, ea1 (), if_pos (A5 h1.1.1 (by omega) (by omega)), Int.toNat_natCast, c1 m1 τ h1, if_pos (by omega), if_pos h1.1.1.1, h42', cs, if_neg nb1, j_X11_doOne_160, j_X11_doOne_174]
                · obtain ⟨m2, b1, b2, b3, b4, b5, b6⟩ := body τ m1 h1 (h2 (bool_f cs))
                  show RnM B S P N W _ (itr (lvA A k (s + 1) e) c (lvA A k (s + 1) e τ))
                  have go : zX zP 406 (v + 1) 118 [some (.inr (.inr (some 0))), some (.inl (s : Int)), some (.inl ((219 + 9 * s : Nat) : Int)), some (.inl 6), some (.inl (i : Int))] [] m1 = zX zP 406 (v + 1) 118 [some (.inr (.inr (some 0))), some (.inl (s : Int)), some (.inl ((219 + 9 * s : Nat) : Int)), some (.inl 6), some (.inl ((i + 1 : Nat) : Int))] [] m2 := by
                    rw [j_X11_doOne_118, if_pos h1.1.1.1, h1.1.1.2.1.2.1.1, obind, ea1 (), if_pos (A5 h1.1.1 (by omega) (by omega)), Int.toNat_natCast, c1 m1 τ h1, if_pos (by omega), if_pos h1.1.1.1, h42', bool_f cs, if_pos yb0, if_pos h1.1.1.1, obind, ea8 (), if_pos (A5 h1.1.1 (by omega) (by omega)), if_pos h1.1.1.1, Int.toNat_natCast, c8 m1 τ h1, zadd1 (by omega), b1, zC0_s, zadd1 (by omega)]
                  rw [go]
                  exact ihc (i + 1) _ m2 (by omega) b2 b3 b4 b5 b6
            obtain ⟨m2, b1, b2, b3, b4, b5, b6⟩ := rounds n 0 (do1 σ) _ (by omega) gd (fun _ => ok1) hd (hB1.mono r3) hz1
            refine after _ m2 ?_ b2 b3 b4 b5 b6
            have hbig := big (show ¬ ((6 : Int) < 5) by decide) (show (6 : Int) ≠ -7 by decide)
            rw [hbig]
            show zX zP 406 (v + 1) 77 [some (.inr (.inr (some 0))), some (.inl (s : Int)), some (.inl ((219 + 9 * s : Nat) : Int)), some (.inl 6), none] [] _ = _
            rw [j_X11_doOne_77, if_neg (by decide), j_X11_doOne_109, if_pos rfl]
            exact b1
end LIVE13
