/-! The reference: ways from LINE to LINE, what is omitted, a DAY of all. -/
section ROUTESM
variable {v : Nat} {S : zSt} {m m' : zM}
def waP (b j : Nat) : Prop := b = 14
theorem waP_scr (h : Fr waP m m') : Fr scr m m' := h.mono (fun b j q => by unfold waP at q; unfold scr; omega)
/-- how far each is after t rounds -/
def WaV (m : zM) (L : zLd) (i t : Nat) : Prop := ∀ l, l < L.2.1.length → (zi m 14 l = -1 ∧ ¬ lball L i t l = true) ∨ (∃ d : Nat, zi m 14 l = (d : Int) ∧ d ≤ t ∧ lball L i d l = true ∧ ∀ s, s < d → ¬ lball L i s l = true)
theorem m_ways_in (hR0 : R2 S m) {i t l : Nat} (hl : l < (gL S).2.1.length) (ht : t < 8) (w0 : zi m 14 l = -1) : ∀ (n k : Nat) (m1 : zM), Fr (fun b j => b = 14 ∧ j = l) m m1 → k + n = (gL S).2.1.length → (zi m1 14 l = -1 ∧ (∀ q, q < k → ¬ (zi m 14 q = (t : Int) ∧ ljoin (gL S) q l = true)) ∨ zi m1 14 l = ((t + 1 : Nat) : Int) ∧ ∃ q, q < (gL S).2.1.length ∧ zi m 14 q = (t : Int) ∧ ljoin (gL S) q l = true) →
    ∃ m', zX zP 369 v 53 [some (.inr (.inr (some 0))), some (.inl (i : Int)), some (.inl (t : Int)), some (.inl (l : Int)), some (.inl (k : Int))] [] m1 = zX zP 369 v 109 [some (.inr (.inr (some 0))), some (.inl (i : Int)), some (.inl (t : Int)), some (.inl (l : Int)), some (.inl ((gL S).2.1.length : Int))] [] m' ∧ Fr (fun b j => b = 14 ∧ j = l) m m' ∧ (zi m' 14 l = -1 ∧ (∀ q, q < (gL S).2.1.length → ¬ (zi m 14 q = (t : Int) ∧ ljoin (gL S) q l = true)) ∨ zi m' 14 l = ((t + 1 : Nat) : Int) ∧ ∃ q, q < (gL S).2.1.length ∧ zi m 14 q = (t : Int) ∧ ljoin (gL S) q l = true) := by
  have h8 := hR0.l8
  intro n
  induction n with
  | zero =>
    intro k m1 hF hk hB
    have hR := hR0.fr (hF.mono (fun b j q => by unfold scr; omega))
    refine ⟨m1, ?_, hF, ?_⟩
    · rw [j_X11_laysWays_53, if_pos hR.1.1, hR.1.2.1.2.1.1, obind, if_pos (A5 hR.1 (by omega) (by omega)), hR.c1, if_neg (by omega), show k = (gL S).2.1.length by omega]
    · rcases hB with ⟨b1, b2⟩ | b
      · exact Or.inl ⟨b1, fun q hq => b2 q (by omega)⟩
      · exact Or.inr b
  | succ n ih =>
    intro k m1 hF hk hB
    have hR := hR0.fr (hF.mono (fun b j q => by unfold scr; omega))
    have hA : ∀ x : Nat, x < 8 → zA m1 14 9 (x : Int) = true := fun x hx => hR.1.2.2.2.2.2.2.1.A (by omega) (by omega)
    have f103 : zX zP 369 v 103 [some (.inr (.inr (some 0))), some (.inl (i : Int)), some (.inl (t : Int)), some (.inl (l : Int)), some (.inl (k : Int))] [] m1 = zX zP 369 v 53 [some (.inr (.inr (some 0))), some (.inl (i : Int)), some (.inl (t : Int)), some (.inl (l : Int)), some (.inl ((k + 1 : Nat) : Int))] [] m1 := by rw [j_X11_laysWays_103, zadd1 (by omega)]
    have keep : ¬ (zi m 14 k = (t : Int) ∧ ljoin (gL S) k l = true) ∨ ¬ zi m1 14 l < 0 → ∃ m', zX zP 369 v 103 [some (.inr (.inr (some 0))), some (.inl (i : Int)), some (.inl (t : Int)), some (.inl (l : Int)), some (.inl (k : Int))] [] m1 = zX zP 369 v 109 [some (.inr (.inr (some 0))), some (.inl (i : Int)), some (.inl (t : Int)), some (.inl (l : Int)), some (.inl ((gL S).2.1.length : Int))] [] m' ∧ Fr (fun b j => b = 14 ∧ j = l) m m' ∧ (zi m' 14 l = -1 ∧ (∀ q, q < (gL S).2.1.length → ¬ (zi m 14 q = (t : Int) ∧ ljoin (gL S) q l = true)) ∨ zi m' 14 l = ((t + 1 : Nat) : Int) ∧ ∃ q, q < (gL S).2.1.length ∧ zi m 14 q = (t : Int) ∧ ljoin (gL S) q l = true) := fun hn => by
      rw [f103]
      refine ih (k + 1) m1 hF (by omega) ?_
      rcases hB with ⟨b1, b2⟩ | b
      · refine Or.inl ⟨b1, fun q hq => ?_⟩
        by_cases e : q = k
        · subst e
          rcases hn with hn | hn
          · exact hn
          · rw [b1] at hn; exact absurd (by decide : (-1 : Int) < 0) hn
        · exact b2 q (by omega)
      · exact Or.inr b
    rw [j_X11_laysWays_53, if_pos hR.1.1, hR.1.2.1.2.1.1, obind, if_pos (A5 hR.1 (by omega) (by omega)), hR.c1, if_pos (by omega), if_pos hR.1.1, hR.1.2.1.2.2.2.2.1, obind, if_pos (hA l (by omega)), Int.toNat_natCast]
    by_cases e1 : zi m1 14 l < 0
    · have b1 : zi m1 14 l = -1 ∧ ∀ q, q < k → ¬ (zi m 14 q = (t : Int) ∧ ljoin (gL S) q l = true) := by
        rcases hB with b | b
        · exact b
        · rw [b.1] at e1; omega
      have ek : zi m1 14 k = zi m 14 k := by
        by_cases e : k = l
        · rw [e, b1.1, w0]
        · exact hF.i (by omega)
      rw [if_pos e1, if_pos hR.1.1, obind, if_pos (hA k (by omega)), Int.toNat_natCast, ek]
      by_cases e2 : zi m 14 k = (t : Int)
      · rw [if_pos e2, if_pos hR.1.1, m_areJoined hR (show k < (gL S).2.1.length by omega) hl, zC1_s]
        by_cases e3 : ljoin (gL S) k l = true
        · have hw : Fr (fun b j => b = 14 ∧ j = l) m1 (zwi m1 14 l ((t + 1 : Nat) : Int)) := Fr.wi m1 _ ⟨rfl, rfl⟩
          rw [if_neg (by rw [e3]; decide), if_pos hR.1.1, hR.1.2.1.2.2.2.2.1, obind, if_pos (hA l (by omega)), zadd1 (k := t) (by omega), j_X11_laysWays_103, zadd1 (by omega)]
          exact ih (k + 1) _ (hF.tr hw) (by omega) (Or.inr ⟨zi_wi_s _ _ _ _, k, by omega, e2, e3⟩)
        · rw [if_pos (b01_ne.mpr (bool_f e3))]
          exact keep (Or.inl (fun q => e3 q.2))
      · rw [if_neg e2]
        exact keep (Or.inl (fun q => e2 q.1))
    · rw [if_neg e1]
      exact keep (Or.inr e1)
/-- one that is reached already is passed over -/
theorem m_ways_skip (hR0 : R2 S m) {i t l : Nat} (hl : l < (gL S).2.1.length) (w0 : ¬ zi m 14 l < 0) : ∀ (n k : Nat), k + n = (gL S).2.1.length →
    zX zP 369 v 53 [some (.inr (.inr (some 0))), some (.inl (i : Int)), some (.inl (t : Int)), some (.inl (l : Int)), some (.inl (k : Int))] [] m = zX zP 369 v 109 [some (.inr (.inr (some 0))), some (.inl (i : Int)), some (.inl (t : Int)), some (.inl (l : Int)), some (.inl ((gL S).2.1.length : Int))] [] m := by
  have h8 := hR0.l8
  intro n
  induction n with
  | zero =>
    intro k hk
    rw [j_X11_laysWays_53, if_pos hR0.1.1, hR0.1.2.1.2.1.1, obind, if_pos (A5 hR0.1 (by omega) (by omega)), hR0.c1, if_neg (by omega), show k = (gL S).2.1.length by omega]
  | succ n ih =>
    intro k hk
    rw [j_X11_laysWays_53, if_pos hR0.1.1, hR0.1.2.1.2.1.1, obind, if_pos (A5 hR0.1 (by omega) (by omega)), hR0.c1, if_pos (by omega), if_pos hR0.1.1, hR0.1.2.1.2.2.2.2.1, obind, if_pos (hR0.1.2.2.2.2.2.2.1.A (by omega) (by omega)), Int.toNat_natCast, if_neg w0, j_X11_laysWays_103, zadd1 (by omega)]
    exact ih (k + 1) (by omega)
/-- one round: LINES below l have it already -/
def WaR (m : zM) (L : zLd) (i t l : Nat) : Prop := (∀ q, q < l → (zi m 14 q = -1 ∧ ¬ lball L i (t + 1) q = true) ∨ (∃ d : Nat, zi m 14 q = (d : Int) ∧ d ≤ t + 1 ∧ lball L i d q = true ∧ ∀ s, s < d → ¬ lball L i s q = true)) ∧ (∀ q, l ≤ q → q < L.2.1.length → (zi m 14 q = -1 ∧ ¬ lball L i t q = true) ∨ (∃ d : Nat, zi m 14 q = (d : Int) ∧ d ≤ t ∧ lball L i d q = true ∧ ∀ s, s < d → ¬ lball L i s q = true))
theorem m_ways_round {i t : Nat} (ht : t < 8) : ∀ (n l : Nat) (m1 : zM) (u : Option zV), R2 S m1 → l + n = (gL S).2.1.length → WaR m1 (gL S) i t l →
    ∃ m' u', zX zP 369 v 40 [some (.inr (.inr (some 0))), some (.inl (i : Int)), some (.inl (t : Int)), some (.inl (l : Int)), u] [] m1 = zX zP 369 v 32 [some (.inr (.inr (some 0))), some (.inl (i : Int)), some (.inl ((t + 1 : Nat) : Int)), some (.inl ((gL S).2.1.length : Int)), u'] [] m' ∧ Fr waP m1 m' ∧ WaV m' (gL S) i (t + 1) := by
  intro n
  induction n with
  | zero =>
    intro l m1 u hR hk hB
    have h8 := hR.l8
    refine ⟨m1, u, ?_, Fr.rf _ _, fun q hq => hB.1 q (by omega)⟩
    rw [j_X11_laysWays_40, if_pos hR.1.1, hR.1.2.1.2.1.1, obind, if_pos (A5 hR.1 (by omega) (by omega)), hR.c1, if_neg (by omega), j_X11_laysWays_115, zadd1 (by omega), show l = (gL S).2.1.length by omega]
  | succ n ih =>
    intro l m1 u hR hk hB
    have h8 := hR.l8
    have hl : l < (gL S).2.1.length := by omega
    have st : zX zP 369 v 40 [some (.inr (.inr (some 0))), some (.inl (i : Int)), some (.inl (t : Int)), some (.inl (l : Int)), u] [] m1 = zX zP 369 v 53 [some (.inr (.inr (some 0))), some (.inl (i : Int)), some (.inl (t : Int)), some (.inl (l : Int)), some (.inl ((0 : Nat) : Int))] [] m1 := by
      rw [j_X11_laysWays_40, if_pos hR.1.1, hR.1.2.1.2.1.1, obind, if_pos (A5 hR.1 (by omega) (by omega)), hR.c1, if_pos (by omega)]; rfl
    -- what is at t after rounds up to t
    have at_t : ∀ q, q < (gL S).2.1.length → (zi m1 14 q = (t : Int) ↔ (lball (gL S) i t q = true ∧ ∀ s, s < t → ¬ lball (gL S) i s q = true)) := fun q hq => by
      by_cases g : q < l
      · rcases hB.1 q g with ⟨b1, b2⟩ | ⟨d, b1, b2, b3, b4⟩
        · constructor
          · intro w; rw [b1] at w; omega
          · rintro ⟨w, _⟩; exact absurd (bal_mono (by omega) w) b2
        · constructor
          · intro w; have : d = t := by rw [b1] at w; omega
            subst this; exact ⟨b3, b4⟩
          · rintro ⟨w1, w2⟩
            have q1 : ¬ d < t := fun w => w2 d w b3
            have q2 : ¬ t < d := fun w => b4 t w w1
            rw [b1, show d = t by omega]
      · rcases hB.2 q (by omega) hq with ⟨b1, b2⟩ | ⟨d, b1, b2, b3, b4⟩
        · constructor
          · intro w; rw [b1] at w; omega
          · rintro ⟨w, _⟩; exact absurd w b2
        · constructor
          · intro w; have : d = t := by rw [b1] at w; omega
            subst this; exact ⟨b3, b4⟩
          · rintro ⟨w1, w2⟩
            have q1 : ¬ d < t := fun w => w2 d w b3
            have q2 : ¬ t < d := fun w => b4 t w w1
            rw [b1, show d = t by omega]
    rcases hB.2 l (Nat.le_refl _) hl with ⟨b1, b2⟩ | ⟨d, b1, b2, b3, b4⟩
    · obtain ⟨m2, f1, f2, f3⟩ := m_ways_in (v := v) hR (i := i) hl ht b1 (gL S).2.1.length 0 m1 (Fr.rf _ _) (by omega) (Or.inl ⟨b1, fun q hq => absurd hq (Nat.not_lt_zero q)⟩)
      have hR2 := hR.fr (f2.mono (fun b j q => by unfold scr; omega))
      have hB2 : WaR m2 (gL S) i t (l + 1) := by
        refine ⟨fun q hq => ?_, fun q h1 h2 => ?_⟩
        · by_cases e : q = l
          · subst e
            rcases f3 with ⟨g1, g2⟩ | ⟨g1, k, g2, g3, g4⟩
            · refine Or.inl ⟨g1, fun w => ?_⟩
              rcases bal_s.mp w with w | ⟨k, w1, w2, w3⟩
              · exact b2 w
              · refine g2 k w1 ⟨(at_t k w1).mpr ⟨w2, fun s hs w4 => ?_⟩, w3⟩
                exact b2 (bal_mono (show s + 1 ≤ t by omega) (bal_s.mpr (Or.inr ⟨k, w1, w4, w3⟩)))
            · exact Or.inr ⟨t + 1, g1, Nat.le_refl _, bal_s.mpr (Or.inr ⟨k, g2, ((at_t k g2).mp g3).1, g4⟩), fun s hs w => b2 (bal_mono (by omega) w)⟩
          · rw [f2.i (by omega)]; exact hB.1 q (by omega)
        · rw [f2.i (by omega)]; exact hB.2 q (by omega) h2
      obtain ⟨m', u', g1, g2, g3⟩ := ih (l + 1) m2 (some (.inl ((gL S).2.1.length : Int))) hR2 (by omega) hB2
      refine ⟨m', u', ?_, (f2.mono (fun b j q => q.1)).tr g2, g3⟩
      rw [st, f1, j_X11_laysWays_109, zadd1 (by omega)]
      exact g1
    · have hB2 : WaR m1 (gL S) i t (l + 1) := by
        refine ⟨fun q hq => ?_, fun q h1 h2 => hB.2 q (by omega) h2⟩
        by_cases e : q = l
        · subst e; exact Or.inr ⟨d, b1, by omega, b3, b4⟩
        · exact hB.1 q (by omega)
      obtain ⟨m', u', g1, g2, g3⟩ := ih (l + 1) m1 (some (.inl ((gL S).2.1.length : Int))) hR (by omega) hB2
      refine ⟨m', u', ?_, g2, g3⟩
      rw [st, m_ways_skip hR hl (by rw [b1]; omega) (gL S).2.1.length 0 (by omega), j_X11_laysWays_109, zadd1 (by omega)]
      exact g1
theorem m_ways_rounds {i : Nat} : ∀ (n t : Nat) (m1 : zM) (u3 u4 : Option zV), R2 S m1 → t + n = 8 → WaV m1 (gL S) i t →
    ∃ m', zX zP 369 v 32 [some (.inr (.inr (some 0))), some (.inl (i : Int)), some (.inl (t : Int)), u3, u4] [] m1 = some (none, m') ∧ Fr waP m1 m' ∧ WaV m' (gL S) i 8 := by
  intro n
  induction n with
  | zero =>
    intro t m1 u3 u4 hR hk hB
    have ht : t = 8 := by omega
    subst ht
    exact ⟨m1, by rw [j_X11_laysWays_32, if_neg (by omega), j_X11_laysWays_121], Fr.rf _ _, hB⟩
  | succ n ih =>
    intro t m1 u3 u4 hR hk hB
    obtain ⟨m2, u', f1, f2, f3⟩ := m_ways_round (v := v) (i := i) (t := t) (by omega) (gL S).2.1.length 0 m1 u4 hR (by omega) ⟨fun q hq => absurd hq (Nat.not_lt_zero q), fun q _ h2 => hB q h2⟩
    obtain ⟨m', g1, g2, g3⟩ := ih (t + 1) m2 (some (.inl ((gL S).2.1.length : Int))) u' (hR.fr (waP_scr f2)) (by omega) f3
    refine ⟨m', ?_, f2.tr g2, g3⟩
    rw [j_X11_laysWays_32, if_pos (by omega), show (0 : Int) = ((0 : Nat) : Int) from rfl, f1]
    exact g1
theorem m_ways_init {i : Nat} : ∀ (n k : Nat) (m1 : zM), S2 m1 → k + n = 8 → (∀ q, q < k → zi m1 14 q = if q = i then 0 else -1) →
    ∃ m', zX zP 369 v 2 [some (.inr (.inr (some 0))), some (.inl (i : Int)), some (.inl (k : Int)), none, none] [] m1 = zX zP 369 v 30 [some (.inr (.inr (some 0))), some (.inl (i : Int)), some (.inl 8), none, none] [] m' ∧ Fr waP m1 m' ∧ (∀ q, q < 8 → zi m' 14 q = if q = i then 0 else -1) := by
  intro n
  induction n with
  | zero =>
    intro k m1 hS hk hB
    have hk8 : k = 8 := by omega
    subst hk8
    exact ⟨m1, by rw [j_X11_laysWays_2, if_neg (by omega)]; rfl, Fr.rf _ _, hB⟩
  | succ n ih =>
    intro k m1 hS hk hB
    have hA : zA m1 14 9 (k : Int) = true := hS.2.2.2.2.2.2.1.A (by omega) (by omega)
    have hw : Fr waP m1 (zwi m1 14 k (if k = i then 0 else -1)) := Fr.wi m1 _ rfl
    obtain ⟨m', f1, f2, f3⟩ := ih (k + 1) _ (hw.s2 hS) (by omega) (fun q hq => by
      by_cases e : q = k
      · subst e; rw [zi_wi_s]
      · rw [zi_wi_n _ _ (Or.inr e)]; exact hB q (by omega))
    refine ⟨m', ?_, hw.tr f2, f3⟩
    rw [j_X11_laysWays_2, if_pos (by omega), if_pos hS.1, hS.2.1.2.2.2.2.1, obind]
    by_cases e : k = i
    · rw [if_pos e] at f1
      rw [if_pos (by omega), j_X11_laysWays_23, if_pos hA, Int.toNat_natCast, zadd1 (by omega)]
      exact f1
    · rw [if_neg e] at f1
      rw [if_neg (by omega), j_X11_laysWays_22, j_X11_laysWays_23, if_pos hA, Int.toNat_natCast, zadd1 (by omega)]
      exact f1
theorem m_laysWays (hR : R2 S m) {i : Nat} (hi : i < (gL S).2.1.length) : ∃ m', zF zP 369 v [(.inr (.inr (some 0))), .inl (i : Int)] m = some (none, m') ∧ Fr waP m m' ∧ ∀ l, l < (gL S).2.1.length → zi m' 14 l = ldis (gL S) i l := by
  have h8 := hR.l8
  obtain ⟨m1, f1, f2, f3⟩ := m_ways_init (v := v) (i := i) 8 0 m hR.1 (by omega) (fun q hq => absurd hq (Nat.not_lt_zero q))
  have hR1 := hR.fr (waP_scr f2)
  obtain ⟨m', g1, g2, g3⟩ := m_ways_rounds (v := v) (i := i) 8 0 m1 none none hR1 (by omega) (fun l hl => by
    rw [f3 l (by omega)]
    by_cases e : l = i
    · rw [if_pos e]; exact Or.inr ⟨0, rfl, Nat.le_refl _, bal_0.mpr e, fun s hs => absurd hs (Nat.not_lt_zero s)⟩
    · rw [if_neg e]; exact Or.inl ⟨rfl, fun q => e (bal_0.mp q)⟩)
  refine ⟨m', ?_, f2.tr g2, fun l hl => ?_⟩
  · have e0 : ((0 : Nat) : Int) = 0 := rfl
    rw [e0] at f1 g1
    rw [f_X11_laysWays, f1, j_X11_laysWays_30, g1]
  · rcases g3 l hl with ⟨b1, b2⟩ | ⟨d, b1, b2, b3, b4⟩
    · rcases ldis_of hi hl with ⟨h1, h2⟩ | ⟨d, h1, h2, h3, h4⟩
      · rw [b1, h1]
      · exact absurd (bal_mono (by omega) h3) b2
    · rcases ldis_of hi hl with ⟨h1, h2⟩ | ⟨e, h1, h2, h3, h4⟩
      · exact absurd b3 (h2 d)
      · have q1 : ¬ d < e := fun w => h4 d w b3
        have q2 : ¬ e < d := fun w => b4 e w h3
        rw [b1, h1, show d = e by omega]
theorem w_joined (hR : R2 S m) (x y : Int) : Ex2 (zF zP 368 v [(.inr (.inr (some 0))), .inl x, .inl y] m) (o_joined S x y) := by
  have h0 := hR.pre
  unfold o_joined
  rw [f_X11_joined, if_pos hR.1.1, zT_wi, if_pos hR.1.1, zT_wi, zT_wi, if_pos hR.1.1]
  generalize zwi (zwi m 0 1 0) 0 0 0 = m0 at h0 ⊢
  rw [m_isLineAt h0, zC1_s]
  show Ex2 (if b01 (inB x (gL S).2.1.length) = 0 then _ else _) _
  by_cases h : inB x (gL S).2.1.length = true
  · rw [if_neg (by rw [h]; decide), if_pos h, if_pos h0.1.1, m_isLineAt h0, zC1_s]
    show Ex2 (if b01 (inB y (gL S).2.1.length) = 0 then _ else _) _
    by_cases g : inB y (gL S).2.1.length = true
    · obtain ⟨i, rfl, hi⟩ := inB_nat h
      obtain ⟨j, rfl, hj⟩ := inB_nat g
      rw [if_neg (by rw [g]; decide), if_pos g, j_X11_joined_32]
      by_cases e : (i : Int) = (j : Int)
      · rw [if_pos e, if_pos e, if_pos h0.1.1]; exact x2_noC h0
      · rw [if_neg e, if_neg e, j_X11_joined_44, if_pos h0.1.1, m_areJoined h0 (i := i) (j := j) hi hj, zC1_s, Int.toNat_natCast, Int.toNat_natCast]
        show Ex2 (if b01 (ljoin (gL S) i j) = 0 then _ else _) _
        by_cases q : ljoin (gL S) i j = true
        · rw [if_neg (by rw [q]; decide), j_X11_joined_58, q]; exact x2_yes h0
        · rw [if_pos (b01_ne.mpr (bool_f q)), j_X11_joined_57, j_X11_joined_58, bool_f q]; exact x2_yes h0
    · rw [if_pos (b01_ne.mpr (bool_f g)), if_neg g, j_X11_joined_26, if_pos h0.1.1]; exact x2_noC h0
  · rw [if_pos (b01_ne.mpr (bool_f h)), if_neg h, j_X11_joined_26, if_pos h0.1.1]; exact x2_noC h0
theorem w_route (hR : R2 S m) (x y : Int) : Ex2 (zF zP 370 v [(.inr (.inr (some 0))), .inl x, .inl y] m) (o_route S x y) := by
  have h0 := hR.pre
  have h8 := hR.l8
  unfold o_route
  rw [f_X11_route, if_pos hR.1.1, zT_wi, if_pos hR.1.1, zT_wi, zT_wi, if_pos hR.1.1]
  generalize zwi (zwi m 0 1 0) 0 0 0 = m0 at h0 ⊢
  rw [m_isLineAt h0, zC1_s]
  show Ex2 (if b01 (inB x (gL S).2.1.length) = 0 then _ else _) _
  by_cases h : inB x (gL S).2.1.length = true
  · rw [if_neg (by rw [h]; decide), if_pos h, if_pos h0.1.1, m_isLineAt h0, zC1_s]
    show Ex2 (if b01 (inB y (gL S).2.1.length) = 0 then _ else _) _
    by_cases g : inB y (gL S).2.1.length = true
    · obtain ⟨i, rfl, hi⟩ := inB_nat h
      obtain ⟨j, rfl, hj⟩ := inB_nat g
      obtain ⟨m1, f1, f2, f3⟩ := m_laysWays (v := 0) h0 (i := i) hi
      have h1 := h0.fr (waP_scr f2)
      have f3' : zi m1 14 j = ldis (gL S) i j := f3 j hj
      have hA : zA m1 14 9 (j : Int) = true := h1.1.2.2.2.2.2.2.1.A (by omega) (by omega)
      rw [if_neg (by rw [g]; decide), if_pos g, j_X11_route_32, if_pos h0.1.1, f1, zC0_s, if_pos h1.1.1, h1.1.2.1.2.2.2.2.1, obind, if_pos hA, Int.toNat_natCast, Int.toNat_natCast, f3']
      by_cases e : ldis (gL S) i j = -1
      · rw [if_pos (by omega), if_pos e, if_pos h1.1.1, m_refuse h1.1, zC1_s, j_X11_route_61]; exact x2_no h1
      · obtain ⟨d, hd, _⟩ := ldis_ge hi hj e
        rw [if_neg (by omega), if_neg e, j_X11_route_55, if_pos h1.1.1, h1.1.2.1.2.2.2.2.1, obind, if_pos hA, j_X11_route_61, Int.toNat_natCast, f3']; exact x2_yes h1
    · rw [if_pos (b01_ne.mpr (bool_f g)), if_neg g, j_X11_route_26, if_pos h0.1.1]; exact x2_noC h0
  · rw [if_pos (b01_ne.mpr (bool_f h)), if_neg h, j_X11_route_26, if_pos h0.1.1]; exact x2_noC h0
theorem w_routeFirst_loop (hR : R2 (wSt S 0) m) {i j : Nat} (hi : i < (gL S).2.1.length) (hj : j < (gL S).2.1.length) (hij : i ≠ j) (hw : ∀ l, l < (gL S).2.1.length → zi m 14 l = ldis (gL S) j l) (hex : ∃ k, k < (gL S).2.1.length ∧ (ljoin (gL S) i k && decide (ldis (gL S) j k = ldis (gL S) j i - 1)) = true) (hd : ∃ d : Nat, ldis (gL S) j i = (d : Int) ∧ d < 100) : ∀ (n k : Nat), k + n = (gL S).2.1.length → (∀ q, q < k → ¬ (ljoin (gL S) i q && decide (ldis (gL S) j q = ldis (gL S) j i - 1)) = true) →
    Ex2 (zX zP 371 v 55 [some (.inr (.inr (some 0))), some (.inl (i : Int)), some (.inl (j : Int)), some (.inl (k : Int))] [] m) (oYes S (firstK (fun k => ljoin (gL S) i k && decide (ldis (gL S) j k = ldis (gL S) j i - 1)) n k)) := by
  have h8 : (gL S).2.1.length ≤ 8 := hR.l8
  have hc1 : zi m 5 (Int.toNat 1) = ((gL S).2.1.length : Int) := hR.c1
  obtain ⟨d, hd, hd1⟩ := hd
  have hA : ∀ x : Nat, x < 8 → zA m 14 9 (x : Int) = true := fun x hx => hR.1.2.2.2.2.2.2.1.A (by omega) (by omega)
  intro n
  induction n with
  | zero =>
    intro k hk hB
    obtain ⟨q, h1, h2⟩ := hex
    exact absurd h2 (hB q (by omega))
  | succ n ih =>
    intro k hk hB
    have hk' : k < (gL S).2.1.length := by omega
    have goOn : ¬ (ljoin (gL S) i k && decide (ldis (gL S) j k = ldis (gL S) j i - 1)) = true → Ex2 (zX zP 371 v 98 [some (.inr (.inr (some 0))), some (.inl (i : Int)), some (.inl (j : Int)), some (.inl (k : Int))] [] m) (oYes S (firstK (fun k => ljoin (gL S) i k && decide (ldis (gL S) j k = ldis (gL S) j i - 1)) (n + 1) k)) := fun hn => by
      rw [j_X11_routeFirst_98, zadd1 (by omega), firstK, if_neg hn]
      exact ih (k + 1) (by omega) (fun q hq => by
        by_cases e : q = k
        · rw [e]; exact hn
        · exact hB q (by omega))
    rw [j_X11_routeFirst_55, if_pos hR.1.1, hR.1.2.1.2.1.1, obind, if_pos (A5 hR.1 (by omega) (by omega)), hc1, if_pos (by omega), if_neg (by omega), if_pos hR.1.1, m_areJoined hR (i := i) (j := k) hi hk', zC1_s]
    show Ex2 (if b01 (ljoin (gL S) i k) = 0 then _ else _) _
    by_cases q : ljoin (gL S) i k = true
    · rw [if_neg (by rw [q]; decide), if_pos hR.1.1, hR.1.2.1.2.2.2.2.1, obind, if_pos (hA k (by omega)), if_pos hR.1.1, obind, if_pos (hA i (by omega)), Int.toNat_natCast, Int.toNat_natCast, hw k hk', hw i hi, hd, show zsub ((d : Nat) : Int) 1 = (d : Int) - 1 from zsub_of (by unfold r32; omega)]
      by_cases e : ldis (gL S) j k = (d : Int) - 1
      · rw [if_pos e, firstK, if_pos (by rw [q, Bool.true_and]; exact decide_eq_true e)]; exact x2_yes hR
      · rw [if_neg e]
        have w2 := goOn (fun w => by rw [q, Bool.true_and, decide_eq_true_eq, hd] at w; exact e w)
        rw [hd] at w2; exact w2
    · rw [if_pos (b01_ne.mpr (bool_f q))]
      exact goOn (by rw [bool_f q, Bool.false_and]; exact Bool.noConfusion)
theorem w_routeFirst (hR : R2 S m) (x y : Int) : Ex2 (zF zP 371 v [(.inr (.inr (some 0))), .inl x, .inl y] m) (o_routeFirst S x y) := by
  have h0 := hR.pre
  have h8 := hR.l8
  unfold o_routeFirst
  rw [f_X11_routeFirst, if_pos hR.1.1, zT_wi, if_pos hR.1.1, zT_wi, zT_wi, if_pos hR.1.1]
  generalize zwi (zwi m 0 1 0) 0 0 0 = m0 at h0 ⊢
  rw [m_isLineAt h0, zC1_s]
  show Ex2 (if b01 (inB x (gL S).2.1.length) = 0 then _ else _) _
  by_cases h : inB x (gL S).2.1.length = true
  · rw [if_neg (by rw [h]; decide), if_pos h, if_pos h0.1.1, m_isLineAt h0, zC1_s]
    show Ex2 (if b01 (inB y (gL S).2.1.length) = 0 then _ else _) _
    by_cases g : inB y (gL S).2.1.length = true
    · obtain ⟨i, rfl, hi⟩ := inB_nat h
      obtain ⟨j, rfl, hj⟩ := inB_nat g
      obtain ⟨m1, f1, f2, f3⟩ := m_laysWays (v := 0) h0 (i := j) hj
      have h1 := h0.fr (waP_scr f2)
      have f3' : zi m1 14 i = ldis (gL S) j i := f3 i hi
      have hA : zA m1 14 9 (i : Int) = true := h1.1.2.2.2.2.2.2.1.A (by omega) (by omega)
      rw [if_neg (by rw [g]; decide), if_pos g, j_X11_routeFirst_32, if_pos h0.1.1, f1, zC0_s, if_pos h1.1.1, h1.1.2.1.2.2.2.2.1, obind, if_pos hA, Int.toNat_natCast, Int.toNat_natCast, f3', ldis_sym hi hj]
      by_cases e : ldis (gL S) j i = -1
      · rw [if_pos (by omega), if_pos e, if_pos h1.1.1]; exact x2_noC h1
      · obtain ⟨d, hd, hd8⟩ := ldis_ge hj hi e
        rw [if_neg (by omega), if_neg e, j_X11_routeFirst_53]
        by_cases q : (i : Int) = (j : Int)
        · have hc1 : zi m1 5 (Int.toNat 1) = ((gL S).2.1.length : Int) := h1.c1
          rw [if_pos q, j_X11_routeFirst_55, if_pos h1.1.1, h1.1.2.1.2.1.1, obind, if_pos (A5 h1.1 (by omega) (by omega)), hc1, if_pos (by omega), if_pos q, j_X11_routeFirst_104, if_pos h1.1.1]; exact x2_noC h1
        · rw [if_neg q]
          have hd0 : d ≠ 0 := fun w => q (by rw [w] at hd; rw [ldis_0 hj hi hd])
          obtain ⟨k, k1, k2, k3⟩ := ldis_pred hj hi (d := d - 1) (by rw [hd]; omega)
          exact w_routeFirst_loop (v := v) h1 hi hj (fun w => q (by rw [w])) f3 ⟨k, k1, by rw [k2, Bool.true_and]; exact decide_eq_true (by rw [k3, hd]; omega)⟩ ⟨d, hd, by omega⟩ (gL S).2.1.length 0 (by omega) (fun q hq => absurd hq (Nat.not_lt_zero q))
    · rw [if_pos (b01_ne.mpr (bool_f g)), if_neg g, j_X11_routeFirst_26, if_pos h0.1.1]; exact x2_noC h0
  · rw [if_pos (b01_ne.mpr (bool_f h)), if_neg h, j_X11_routeFirst_26, if_pos h0.1.1]; exact x2_noC h0
theorem w_reach_loop (hR : R2 (wSt S 0) m) {i : Nat} (hi : i < (gL S).2.1.length) (hw : ∀ l, l < (gL S).2.1.length → zi m 14 l = ldis (gL S) i l) (x1 : Int) : ∀ (n k : Nat) (acc : Int), r32 acc → k + n = (gL S).2.1.length →
    Ex2 (zX zP 372 v 33 [some (.inr (.inr (some 0))), some (.inl x1), some (.inl acc), some (.inl (k : Int))] [] m) (oYes S (setF (fun l => !decide (ldis (gL S) i l = -1)) n k acc)) := by
  have h8 : (gL S).2.1.length ≤ 8 := hR.l8
  have hc1 : zi m 5 (Int.toNat 1) = ((gL S).2.1.length : Int) := hR.c1
  intro n
  induction n with
  | zero =>
    intro k acc ha hk
    rw [j_X11_reach_33, if_pos hR.1.1, hR.1.2.1.2.1.1, obind, if_pos (A5 hR.1 (by omega) (by omega)), hc1, if_neg (by omega), j_X11_reach_68]; exact x2_yes hR
  | succ n ih =>
    intro k acc ha hk
    have hk' : k < (gL S).2.1.length := by omega
    rw [j_X11_reach_33, if_pos hR.1.1, hR.1.2.1.2.1.1, obind, if_pos (A5 hR.1 (by omega) (by omega)), hc1, if_pos (by omega), if_pos hR.1.1, hR.1.2.1.2.2.2.2.1, obind, if_pos (hR.1.2.2.2.2.2.2.1.A (by omega) (by omega)), Int.toNat_natCast, hw k hk', setF]
    by_cases e : ldis (gL S) i k = -1
    · rw [if_pos (by omega), j_X11_reach_59, j_X11_reach_60, zor0 ha, zadd1 (by omega), if_neg (by rw [decide_eq_true e]; decide)]
      exact ih (k + 1) acc ha (by omega)
    · obtain ⟨d, hd, _⟩ := ldis_ge hi hk' e
      rw [if_neg (by omega), j_X11_reach_60, zadd1 (by omega), if_pos (by rw [decide_eq_false e]; rfl)]
      exact ih (k + 1) _ (r32_or _ _) (by omega)
theorem w_reach (hR : R2 S m) (x : Int) : Ex2 (zF zP 372 v [(.inr (.inr (some 0))), .inl x] m) (o_reach S x) := by
  have h0 := hR.pre
  unfold o_reach
  rw [f_X11_reach, if_pos hR.1.1, zT_wi, if_pos hR.1.1, zT_wi, zT_wi, if_pos hR.1.1]
  generalize zwi (zwi m 0 1 0) 0 0 0 = m0 at h0 ⊢
  rw [m_isLineAt h0, zC1_s]
  show Ex2 (if b01 (inB x (gL S).2.1.length) = 0 then _ else _) _
  by_cases h : inB x (gL S).2.1.length = true
  · obtain ⟨i, rfl, hi⟩ := inB_nat h
    obtain ⟨m1, f1, f2, f3⟩ := m_laysWays (v := 0) h0 (i := i) hi
    have h1 := h0.fr (waP_scr f2)
    rw [if_neg (by rw [h]; decide), if_pos h, j_X11_reach_24, if_pos h0.1.1, f1, zC0_s, Int.toNat_natCast]
    exact w_reach_loop (v := v) h1 hi f3 _ (gL S).2.1.length 0 0 r32_0 (by omega)
  · rw [if_pos (b01_ne.mpr (bool_f h)), if_neg h, if_pos h0.1.1]; exact x2_noC h0
end ROUTESM
