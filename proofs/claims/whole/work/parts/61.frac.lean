/-! FRACTIONS: Euclid's way in both; CHANCE. -/
def euc : Nat → Nat → Nat → Nat
  | 0, a, _ => a
  | f + 1, a, b => if b = 0 then a else euc f b (a % b)
def euD : Nat → Nat → Nat → Prop
  | 0, _, b => b = 0
  | f + 1, a, b => b = 0 ∨ euD f b (a % b)
theorem euc_0 : ∀ (f a : Nat), euc f a 0 = a
  | 0, _ => rfl
  | f + 1, _ => if_pos rfl
theorem euc_more : ∀ (f k a b : Nat), euD f a b → euc (f + k) a b = euc f a b
  | 0, k, a, b, h => by
    have h : b = 0 := h
    subst h
    rw [euc_0]; rfl
  | f + 1, k, a, b, h => by
    rw [show f + 1 + k = (f + k) + 1 by omega]
    unfold euc
    by_cases e : b = 0
    · rw [if_pos e, if_pos e]
    · rw [if_neg e, if_neg e]
      rcases h with h | h
      · exact absurd h e
      · exact euc_more f k _ _ h
theorem euD_more : ∀ (f k a b : Nat), euD f a b → euD (f + k) a b
  | 0, 0, a, b, h => h
  | 0, k + 1, a, b, h => by
    rw [show 0 + (k + 1) = (0 + k) + 1 by omega]
    exact Or.inl h
  | f + 1, k, a, b, h => by
    rw [show f + 1 + k = (f + k) + 1 by omega]
    rcases h with h | h
    · exact Or.inl h
    · exact Or.inr (euD_more f k _ _ h)
theorem euD_pow : ∀ (k a b : Nat), b < 2 ^ k → euD (2 * k) a b
  | 0, a, b, h => by
    have : b < 1 := h
    show b = 0; omega
  | k + 1, a, b, h => by
    rw [show 2 * (k + 1) = (2 * k + 1) + 1 by omega]
    by_cases e : b = 0
    · exact Or.inl e
    · refine Or.inr ?_
      by_cases e2 : a % b = 0
      · exact Or.inl e2
      · refine Or.inr (euD_pow k _ _ ?_)
        have h1 : a % b < b := Nat.mod_lt _ (by omega)
        have h2 : b % (a % b) < a % b := Nat.mod_lt _ (by omega)
        have h3 : b % (a % b) ≤ b - a % b := by
          rw [Nat.mod_eq_sub_mod (by omega)]
          exact Nat.mod_le _ _
        have h4 : 2 ^ (k + 1) = 2 * 2 ^ k := by rw [Nat.pow_succ]; omega
        omega
theorem euc_pos : ∀ (f a b : Nat), euD f a b → 0 < a ∨ 0 < b → 0 < euc f a b
  | 0, a, b, h, hp => by
    have h : b = 0 := h
    rcases hp with q | q
    · exact q
    · omega
  | f + 1, a, b, h, hp => by
    unfold euc
    by_cases e : b = 0
    · rw [if_pos e]; rcases hp with q | q; exact q; omega
    · rw [if_neg e]
      rcases h with h | h
      · exact absurd h e
      · exact euc_pos f _ _ h (Or.inl (by omega))
theorem zlrem_nat (a b : Nat) : zlrem (a : Int) (b : Int) = ((a % b : Nat) : Int) := rfl
def oFrac (S : zSt) (a b : Nat) : Int × zSt := oT (wFr S (zldiv (a : Int) (euc 100 a b : Int), zldiv (b : Int) (euc 100 a b : Int)))
section FRAC
variable {v : Nat} {S : zSt} {m m' : zM}
theorem R1.fr {x y : Int} (h : R1 S m) : R1 (wFr S (x, y)) (zwl (zwl m 0 15 x) 0 16 y) := by
  have hs : Sam m (zwl (zwl m 0 15 x) 0 16 y) 0 1 := (Sam.wl m _ _ (by omega) (by omega)).tr (Sam.wl _ _ _ (by omega) (by omega))
  obtain ⟨h1, ⟨a1, a2, a3, a4, a5, a6, a7⟩, h3⟩ := h
  refine ⟨hs.s1 h1, ⟨a1, ?_, ?_, a4, a5, a6, a7⟩, hs.g1 (by omega) h3⟩
  · rw [zl_wl_off _ _ (Or.inr (by decide)), zl_wl_s]
  · rw [zl_wl_s]
theorem c_euc : ∀ (n k a b : Nat) (y0 y2 : Int) (u9 u10 : Option zV), k + n = 100 →
    ∃ r, zX zP 204 v 9 [some (.inr (.inl y0)), none, some (.inr (.inl y2)), none, some (.inr (.inl (a : Int))), none, some (.inr (.inl (b : Int))), none, some (.inl (k : Int)), u9, u10] [] m = some (some (.inr (.inl ((r : Nat) : Int))), m) ∧ r = euc n a b := by
  intro n
  induction n with
  | zero =>
    intro k a b y0 y2 u9 u10 hk
    exact ⟨a, by rw [j_X10_commonDivisor_9, if_neg (by omega), j_X10_commonDivisor_44], rfl⟩
  | succ n ih =>
    intro k a b y0 y2 u9 u10 hk
    by_cases e : b = 0
    · refine ⟨a, ?_, by unfold euc; rw [if_pos e]⟩
      rw [j_X10_commonDivisor_9, if_pos (by omega), if_pos (zlcmp_eq.mpr (by omega)), j_X10_commonDivisor_44]
    · obtain ⟨r, h1, h2⟩ := ih (k + 1) b (a % b) y0 y2 (some (.inr (.inl ((a % b : Nat) : Int)))) none (by omega)
      refine ⟨r, ?_, by unfold euc; rw [if_neg e]; exact h2⟩
      rw [j_X10_commonDivisor_9, if_pos (by omega), if_neg (fun q => e (by have := zlcmp_eq.mp q; omega)), if_neg (by omega), zlrem_nat, zadd1 (k := k) (by omega)]
      exact h1
theorem c_tell (hR : R1 S m) {a b : Nat} (hd : euD 100 a b) (hp : 0 < a ∨ 0 < b) : ∃ m', zF zP 205 v [(.inr (.inr (some 0))), .inr (.inl (a : Int)), .inr (.inl (b : Int))] m = some (none, m') ∧ R1 (wFr S (zldiv (a : Int) (euc 100 a b : Int), zldiv (b : Int) (euc 100 a b : Int))) m' := by
  obtain ⟨r, h1, h2⟩ := c_euc (v := 0) (m := m) 100 0 a b (a : Int) (b : Int) none none rfl
  have hpos := euc_pos _ _ _ hd hp
  rw [← h2] at hpos ⊢
  refine ⟨_, ?_, hR.fr⟩
  have e0 : ((0 : Nat) : Int) = 0 := rfl
  rw [e0] at h1
  rw [f_X10_tell, f_X10_commonDivisor, h1, zC2_s, if_pos (zlcmp_gt.mpr (by omega)), if_neg (by omega), if_pos hR.1.1, if_neg (by omega), zT_wl, if_pos hR.1.1, j_X10_tell_30]
theorem R2.fra {x y : Int} (hR : R2 S m) : R2 (wFr S (x, y)) (zwl (zwl m 0 2 x) 0 3 y) := by
  have h : Fr (fun b j => b = 0 ∧ (j = 2 ∨ j = 3)) m (zwl (zwl m 0 2 x) 0 3 y) := (Fr.wl m x ⟨rfl, Or.inl rfl⟩).tr (Fr.wl _ y ⟨rfl, Or.inr rfl⟩)
  obtain ⟨h1, ⟨a1, a2, a3, a4, a5, a6, a7, a8⟩, h3⟩ := hR
  refine ⟨h.s2 h1, ⟨a1, ?_, ?_, a4, a5, a6, a7, a8⟩, h.g2 (fun j => by omega) (fun j => by omega) (fun j => by omega) (fun j => by omega) (fun j hj => by omega) (fun j hj => by omega) (fun j => by omega) h3⟩
  · rw [zl_wl_off _ _ (Or.inr (by decide)), zl_wl_s]
  · rw [zl_wl_s]
theorem m_frac_loop (hR : R2 S m) {y1 y3 : Int} : ∀ (f a b : Nat) (u9 u10 : Option zV), euD f a b → (0 < a ∨ 0 < b) →
    ∃ m', zX zP 244 v 9 [some (.inr (.inr (some 0))), some (.inr (.inl y1)), none, some (.inr (.inl y3)), none, some (.inr (.inl (a : Int))), none, some (.inr (.inl (b : Int))), none, u9, u10] [] m = some (some (.inl 1), m') ∧ R2 (wFr S (zldiv y1 (euc f a b : Int), zldiv y3 (euc f a b : Int))) m' := by
  have fin : ∀ (a : Nat) (b : Int) (u9 u10 : Option zV), 0 < a → ∃ m', zX zP 244 v 34 [some (.inr (.inr (some 0))), some (.inr (.inl y1)), none, some (.inr (.inl y3)), none, some (.inr (.inl (a : Int))), none, some (.inr (.inl b)), none, u9, u10] [] m = some (some (.inl 1), m') ∧ R2 (wFr S (zldiv y1 (a : Int), zldiv y3 (a : Int))) m' := fun a b u9 u10 ha => by
    refine ⟨_, ?_, hR.fra⟩
    rw [j_X11_fraction_34, if_neg (by omega), if_pos hR.1.1, if_neg (by omega), zT_wl, if_pos hR.1.1, if_pos zb1]
  intro f
  induction f with
  | zero =>
    intro a b u9 u10 h hp
    have h : b = 0 := h
    subst h
    obtain ⟨m', h1, h2⟩ := fin a ((0 : Nat) : Int) u9 u10 (by omega)
    refine ⟨m', ?_, h2⟩
    rw [j_X11_fraction_9, if_pos (zlcmp_eq.mpr (show ((0 : Nat) : Int) = 0 from rfl))]; exact h1
  | succ f ih =>
    intro a b u9 u10 h hp
    by_cases e : b = 0
    · obtain ⟨m', h1, h2⟩ := fin a (b : Int) u9 u10 (by omega)
      refine ⟨m', ?_, by unfold euc; rw [if_pos e]; exact h2⟩
      rw [j_X11_fraction_9, if_pos (zlcmp_eq.mpr (by omega))]; exact h1
    · rcases h with h | h
      · exact absurd h e
      · obtain ⟨m', h1, h2⟩ := ih b (a % b) (some (.inr (.inl ((a % b : Nat) : Int)))) none h (Or.inl (by omega))
        refine ⟨m', ?_, by unfold euc; rw [if_neg e]; exact h2⟩
        rw [j_X11_fraction_9, if_neg (fun q => e (by have := zlcmp_eq.mp q; omega)), if_neg (by omega), zlrem_nat]
        exact h1
theorem zlabs_nat (a : Nat) : zlabs (a : Int) = (a : Int) := by
  unfold zlabs
  by_cases h : 0 < (a : Int)
  · rw [if_pos h]
  · rw [if_neg h, show a = 0 by omega]; decide
theorem m_fraction (hR : R2 S m) {a b : Nat} (hd : euD 100 a b) (hp : 0 < a ∨ 0 < b) : ∃ m', zF zP 244 v [(.inr (.inr (some 0))), .inr (.inl (a : Int)), .inr (.inl (b : Int))] m = some (some (.inl 1), m') ∧ R2 (wFr S (zldiv (a : Int) (euc 100 a b : Int), zldiv (b : Int) (euc 100 a b : Int))) m' := by
  rw [f_X11_fraction, zlabs_nat]
  exact m_frac_loop hR 100 a b _ _ hd hp
/-! CHANCE -/
def chP (odds : Int) (set : Int) : List zEd → Nat → Int → List Nat → Int × List Nat
  | [], _, c, l => (c, l)
  | e :: r, k, c, l => if zib set k = true then chP odds set r (k + 1) (zlmul c (zsub 16 odds)) ((edone e l).getD l) else chP odds set r (k + 1) (zlmul c odds) l
def chV (odds : Int) (es : List zEd) (l w : List Nat) (set : Nat) : Int := if (chP odds (set : Int) es 0 1 l).2 = w then (chP odds (set : Int) es 0 1 l).1 else 0
def chF (odds : Int) (es : List zEd) (l w : List Nat) : Nat → Nat → Int → Int
  | 0, _, acc => acc
  | n + 1, k, acc => chF odds es l w n (k + 1) (zladd acc (chV odds es l w k))
theorem chP_ok (odds set : Int) : ∀ (r : List zEd) (k : Nat) (c : Int) (l : List Nat), (∀ e ∈ r, eOk e) → rOk l → rOk (chP odds set r k c l).2
  | [], _, _, l, _, h => h
  | e :: r, k, c, l, he, h => by
    unfold chP
    split
    · exact chP_ok odds set r _ _ _ (fun x hx => he x (List.mem_cons_of_mem _ hx)) (getD_edone_ok (he e List.mem_cons_self) h)
    · exact chP_ok odds set r _ _ _ (fun x hx => he x (List.mem_cons_of_mem _ hx)) h
theorem bitI_f {x : Int} {k : Nat} (hk : k < 32) : zand (zshr x (k : Int)) 1 = 0 ↔ ¬ zib x k = true := by
  rw [← bitI_eq x hk]
  unfold bitI
  by_cases h : zand (zshr x (k : Int)) 1 = 0
  · rw [decide_eq_true h]; exact ⟨fun _ => Bool.noConfusion, fun _ => h⟩
  · rw [decide_eq_false h]; exact ⟨fun q => absurd q h, fun q => absurd rfl q⟩
theorem s_chance_in {b : Nat} {num : Int} {lost : Bool} {es : List zEd} (h : LnS m b) (hv : LnV m b num lost es) {odds : Int} {y1 y6 : Int} {w : Int} {set : Nat} : ∀ (r : List zEd) (k : Nat) (c : Int) (l : List Nat) (u : Option zV), k ≤ es.length → es.drop k = r → rOk l →
    ∃ u', zX zP 87 v 26 [some (.inr (.inr (some b))), some (.inr (.inl y1)), none, some (.inr (.inl w)), none, some (.inl odds), some (.inr (.inl y6)), none, some (.inl (set : Int)), some (.inr (.inl c)), none, some (.inr (.inl (zrow l))), none, some (.inl (k : Int)), u] [] m = zX zP 87 v 103 [some (.inr (.inr (some b))), some (.inr (.inl y1)), none, some (.inr (.inl w)), none, some (.inl odds), some (.inr (.inl y6)), none, some (.inl (set : Int)), some (.inr (.inl (chP odds (set : Int) r k c l).1)), none, some (.inr (.inl (zrow (chP odds (set : Int) r k c l).2))), none, some (.inl (es.length : Int)), u'] [] m := by
  have h4 := hv.2.2.2.1
  intro r
  induction r with
  | nil =>
    intro k c l u hkl hk hl
    have h1 : es.length ≤ k := List.drop_eq_nil_iff.mp hk
    have hke : k = es.length := by omega
    exact ⟨u, by rw [j_X4_chanceOf_26, if_pos h.1, hv.2.1, if_neg (by omega), hke]; rfl⟩
  | cons e r ih =>
    intro k c l u hkl hk hl
    obtain ⟨h1, h2, he, h3, hE⟩ := hv.at h hk
    have k32 : k < 32 := by omega
    by_cases g : zib (set : Int) k = true
    · obtain ⟨u', i1⟩ := ih (k + 1) (zlmul c (zsub 16 odds)) ((edone e l).getD l) (some (.inl 1)) (by omega) h3 (getD_edone_ok he hl)
      refine ⟨u', ?_⟩
      rw [j_X4_chanceOf_26, if_pos h.1, hv.2.1, if_pos (by omega), if_neg (fun q => (bitI_f k32).mp q g), j_X4_chanceOf_50, if_neg (by decide), j_X4_chanceOf_71, if_neg (by decide), if_pos h.1, hE, zC1_s, s_doneOrNot he hl, zC2_s, j_X4_chanceOf_95, zadd1 (by omega), chP, if_pos g]
      exact i1
    · obtain ⟨u', i1⟩ := ih (k + 1) (zlmul c odds) l (some (.inl 0)) (by omega) h3 hl
      refine ⟨u', ?_⟩
      rw [j_X4_chanceOf_26, if_pos h.1, hv.2.1, if_pos (by omega), if_pos ((bitI_f k32).mpr g), j_X4_chanceOf_49, j_X4_chanceOf_50, if_pos rfl, j_X4_chanceOf_68, j_X4_chanceOf_71, if_pos rfl, j_X4_chanceOf_93, j_X4_chanceOf_95, zadd1 (by omega), chP, if_neg g]
      exact i1
theorem s_chanceOf_loop {b : Nat} {num : Int} {lost : Bool} {es : List zEd} (h : LnS m b) (hv : LnV m b num lost es) {odds : Int} {l w : List Nat} (hl : rOk l) (hw : rOk w) : ∀ (n k : Nat) (acc : Int) (u9 u10 u11 u12 u13 u14 : Option zV), k + n = 2 ^ es.length →
    zX zP 87 v 6 [some (.inr (.inr (some b))), some (.inr (.inl (zrow l))), none, some (.inr (.inl (zrow w))), none, some (.inl odds), some (.inr (.inl acc)), none, some (.inl (k : Int)), u9, u10, u11, u12, u13, u14] [] m = some (some (.inr (.inl (chF odds es l w n k acc))), m) := by
  have h4 := hv.2.2.2.1
  have hp : zshl 1 (es.length : Int) = ((2 ^ es.length : Nat) : Int) := zshl1 (by omega)
  have h16 : 2 ^ es.length ≤ 2 ^ 4 := Nat.pow_le_pow_right (by decide) h4
  have hok := fun set : Nat => chP_ok odds (set : Int) es 0 1 l hv.2.2.2.2.1 hl
  intro n
  induction n with
  | zero =>
    intro k acc u9 u10 u11 u12 u13 u14 hk
    rw [j_X4_chanceOf_6, if_pos h.1, hv.2.1, hp, if_neg (by omega), j_X4_chanceOf_127]; rfl
  | succ n ih =>
    intro k acc u9 u10 u11 u12 u13 u14 hk
    obtain ⟨u', i1⟩ := s_chance_in (v := v) h hv (odds := odds) (y1 := zrow l) (y6 := acc) (w := zrow w) (set := k) es 0 1 l u14 (Nat.zero_le _) rfl hl
    have e0 : ((0 : Nat) : Int) = 0 := rfl
    rw [e0] at i1
    rw [j_X4_chanceOf_6, if_pos h.1, hv.2.1, hp, if_pos (by omega), i1, j_X4_chanceOf_103, chF, chV]
    by_cases e : (chP odds (k : Int) es 0 1 l).2 = w
    · rw [if_pos (zlcmp_eq.mpr (by rw [e])), j_X4_chanceOf_118, zadd1 (by omega), ih (k + 1) _ _ _ _ _ _ _ (by omega), if_pos e]
    · rw [if_neg (fun q => e (zrow_inj (hok k) hw (zlcmp_eq.mp q))), j_X4_chanceOf_117, j_X4_chanceOf_118, zadd1 (by omega), ih (k + 1) _ _ _ _ _ _ _ (by omega), if_neg e]
theorem s_chanceOf {b : Nat} {num : Int} {lost : Bool} {es : List zEd} (h : LnS m b) (hv : LnV m b num lost es) {odds : Int} {l w : List Nat} (hl : rOk l) (hw : rOk w) : zF zP 87 v [(.inr (.inr (some b))), .inr (.inl (zrow l)), .inr (.inl (zrow w)), .inl odds] m = some (some (.inr (.inl (chF odds es l w (2 ^ es.length) 0 0))), m) := by
  rw [f_X4_chanceOf]
  exact s_chanceOf_loop h hv hl hw (2 ^ es.length) 0 0 _ _ _ _ _ _ (by omega)
end FRAC
