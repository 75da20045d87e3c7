/-! GAME and MOVE of the reference. -/
def mS (f : Bool) (q : Int × Int) (x : Int) (k : Nat) : Int × Int := if q.2 < 0 then (x, (k : Int)) else if bt f q.1 x = true then (x, (k : Int)) else q
def mB (f : Bool) (u : Nat) (g : Nat → Int) : Nat → Nat → Int × Int → Int × Int
  | 0, _, q => q
  | n + 1, k, q => mB f u g n (k + 1) (if u.testBit k = true then q else mS f q (g k) k)
theorem bt_t (a b : Int) : bt true a b = true ↔ a < b := decide_eq_true_iff
theorem bt_f (a b : Int) : bt false a b = true ↔ b < a := decide_eq_true_iff
theorem bt_tri {f : Bool} {a b : Int} (h : ¬ bt f a b = true) (h' : ¬ bt f b a = true) : a = b := by
  cases f
  · rw [bt_f] at h h'; omega
  · rw [bt_t] at h h'; omega
theorem bt_asym {f : Bool} {a b : Int} (h : bt f a b = true) : ¬ bt f b a = true := by
  cases f
  · rw [bt_f] at h ⊢; omega
  · rw [bt_t] at h ⊢; omega
theorem bt_trans {f : Bool} {a b c : Int} (h : bt f a b = true) (h' : bt f b c = true) : bt f a c = true := by
  cases f
  · rw [bt_f] at *; omega
  · rw [bt_t] at *; omega
theorem bt_neg {f : Bool} {a b c : Int} (h : ¬ bt f b c = true) (h' : bt f a c = true) : bt f a b = true := by
  cases f
  · rw [bt_f] at *; omega
  · rw [bt_t] at *; omega
/-- the class's best out of the reference's -/
theorem mB_cB (f : Bool) (u : Nat) (g : Nat → Int) (z : Int) : ∀ (n k : Nat) (q : Int × Int) (acc : Int), (q.2 < 0 → acc = z) → (¬ q.2 < 0 → acc = if bt f z q.1 = true then q.1 else z) → ((mB f u g n k q).2 < 0 → cB f u g n k acc = z) ∧ (¬ (mB f u g n k q).2 < 0 → cB f u g n k acc = if bt f z (mB f u g n k q).1 = true then (mB f u g n k q).1 else z)
  | 0, k, q, acc, h1, h2 => ⟨h1, h2⟩
  | n + 1, k, q, acc, h1, h2 => by
    unfold mB cB
    by_cases c : u.testBit k = true
    · rw [if_pos c, if_pos c]; exact mB_cB f u g z n (k + 1) q acc h1 h2
    · rw [if_neg c, if_neg c]
      refine mB_cB f u g z n (k + 1) _ _ ?_ ?_
      · intro h
        unfold mS at h
        by_cases c1 : q.2 < 0
        · rw [if_pos c1] at h; exact absurd h (by show ¬ (k : Int) < 0; omega)
        · rw [if_neg c1] at h
          by_cases c2 : bt f q.1 (g k) = true
          · rw [if_pos c2] at h; exact absurd h (by show ¬ (k : Int) < 0; omega)
          · rw [if_neg c2] at h; exact absurd h c1
      · intro _
        unfold mS
        by_cases c1 : q.2 < 0
        · rw [if_pos c1, h1 c1]
        · rw [if_neg c1, h2 c1]
          by_cases c2 : bt f q.1 (g k) = true
          · rw [if_pos c2]
            show _ = if bt f z (g k) = true then g k else z
            by_cases c3 : bt f z q.1 = true
            · rw [if_pos c3, if_pos c2, if_pos (bt_trans c3 c2)]
            · rw [if_neg c3]
          · rw [if_neg c2]
            by_cases c3 : bt f z q.1 = true
            · rw [if_pos c3, if_neg c2]
            · rw [if_neg c3, if_neg (fun r => c3 (bt_neg c2 r))]
theorem mS_best (f : Bool) (u : Nat) (g : Nat → Int) (z : Int) (n : Nat) : (mS f (mB f u g n 0 (0, -1)) z n).1 = cB f u g n 0 z := by
  obtain ⟨h1, h2⟩ := mB_cB f u g z n 0 (0, -1) z (fun _ => rfl) (fun h => absurd (show ((0, -1) : Int × Int).2 < 0 by decide) h)
  generalize mB f u g n 0 (0, -1) = q at h1 h2 ⊢
  unfold mS
  by_cases c1 : q.2 < 0
  · rw [if_pos c1, h1 c1]
  · rw [if_neg c1, h2 c1]
    by_cases c2 : bt f q.1 z = true
    · rw [if_pos c2, if_neg (bt_asym c2)]
    · rw [if_neg c2]
      by_cases c3 : bt f z q.1 = true
      · rw [if_pos c3]
      · rw [if_neg c3]; exact bt_tri c2 c3
theorem bt_neg' {f : Bool} {a b c : Int} (h : ¬ bt f b c = true) (h' : bt f b a = true) : bt f c a = true := by
  cases f
  · rw [bt_f] at *; omega
  · rw [bt_t] at *; omega
theorem bt_irr (f : Bool) (a : Int) : ¬ bt f a a = true := by
  cases f
  · rw [bt_f]; omega
  · rw [bt_t]; omega
def ixP (f : Bool) (g : Nat → Int) (k : Nat) (q : Int × Int) : Prop := (q.2 = -1 ∧ k = 0) ∨ (∃ w : Nat, w < k ∧ q = (g w, (w : Int)) ∧ (∀ j, j < w → bt f (g j) (g w) = true) ∧ ∀ j, j < k → ¬ bt f (g w) (g j) = true)
theorem mB_ix (f : Bool) (g : Nat → Int) : ∀ (n k : Nat) (q : Int × Int), ixP f g k q → ixP f g (k + n) (mB f 0 g n k q)
  | 0, k, q, h => h
  | n + 1, k, q, h => by
    have e : k + (n + 1) = k + 1 + n := by omega
    rw [e]
    unfold mB
    rw [if_neg (show ¬ Nat.testBit 0 k = true from by rw [Nat.zero_testBit]; decide)]
    refine mB_ix f g n (k + 1) _ ?_
    right
    unfold mS
    rcases h with ⟨h1, rfl⟩ | ⟨w, h1, rfl, h3, h4⟩
    · rw [if_pos (by omega)]
      exact ⟨0, by omega, rfl, fun j hj => absurd hj (Nat.not_lt_zero j), fun j hj => by
        have : j = 0 := by omega
        subst this; exact bt_irr f _⟩
    · rw [if_neg (show ¬ (w : Int) < 0 by omega)]
      by_cases c : bt f (g w) (g k) = true
      · rw [if_pos c]
        refine ⟨k, by omega, rfl, fun j hj => bt_neg' (h4 j hj) c, fun j hj => ?_⟩
        by_cases e : j = k
        · subst e; exact bt_irr f _
        · exact bt_asym (bt_neg' (h4 j (by omega)) c)
      · rw [if_neg c]
        refine ⟨w, by omega, rfl, h3, fun j hj => ?_⟩
        by_cases e : j = k
        · subst e; exact c
        · exact h4 j (by omega)
theorem fmF_none (g : Nat → Int) (best : Int) : ∀ (n k : Nat), (∀ j, k ≤ j → j < k + n → ¬ g j = best) → fmF g best n k = -1
  | 0, k, h => rfl
  | n + 1, k, h => by
    unfold fmF
    rw [if_neg (h k (Nat.le_refl _) (by omega))]
    exact fmF_none g best n (k + 1) (fun j h1 h2 => h j (by omega) (by omega))
theorem fmF_first (g : Nat → Int) (best : Int) (w : Nat) (hw : g w = best) : ∀ (n k : Nat), k ≤ w → w < k + n → (∀ j, k ≤ j → j < w → ¬ g j = best) → fmF g best n k = (w : Int)
  | 0, k, h1, h2, _ => by omega
  | n + 1, k, h1, h2, h => by
    unfold fmF
    by_cases e : k = w
    · subst e; rw [if_pos hw]
    · rw [if_neg (h k (Nat.le_refl _) (by omega))]
      exact fmF_first g best w hw n (k + 1) (by omega) (by omega) (fun j h1 h2 => h j (by omega) h2)
/-- which EDIT: of both the same -/
theorem mS_ix (f : Bool) (g : Nat → Int) (z : Int) (n : Nat) : (mS f (mB f 0 g n 0 (0, -1)) z n).2 = if fmF g (cB f 0 g n 0 z) n 0 = -1 then (n : Int) else fmF g (cB f 0 g n 0 z) n 0 := by
  have hb := mS_best f 0 g z n
  have hi := mB_ix f g n 0 (0, -1) (Or.inl ⟨rfl, rfl⟩)
  rw [Nat.zero_add] at hi
  rw [← hb]
  generalize mB f 0 g n 0 (0, -1) = q at hi ⊢
  rcases hi with ⟨h1, rfl⟩ | ⟨w, h1, rfl, h3, h4⟩
  · unfold mS
    rw [if_pos (by omega)]
    show ((0 : Nat) : Int) = if (-1 : Int) = -1 then _ else _
    rw [if_pos rfl]
  · unfold mS
    rw [if_neg (show ¬ (w : Int) < 0 by omega)]
    by_cases c : bt f (g w) z = true
    · rw [if_pos c]
      show (n : Int) = if fmF g z n 0 = -1 then (n : Int) else fmF g z n 0
      rw [if_pos (fmF_none g z n 0 (fun j _ hj e => h4 j (by omega) (by rw [e]; exact c)))]
    · rw [if_neg c]
      show (w : Int) = if fmF g (g w) n 0 = -1 then (n : Int) else fmF g (g w) n 0
      rw [fmF_first g (g w) w rfl n 0 (Nat.zero_le _) (by omega) (fun j _ hj e => bt_irr f (g w) (by have := h3 j hj; rw [e] at this; exact this)), if_neg (by omega)]
def tnP (t b j : Nat) : Prop := b = 15 ∧ 9 * t ≤ j ∧ j < 9 * t + 9
def glP (t b j : Nat) : Prop := (b = 0 ∧ (j = 27 ∨ j = 39)) ∨ b = 8 ∨ (b = 15 ∧ 9 * (t + 1) ≤ j)
def TnV (m : zM) (t : Nat) (l : List Nat) : Prop := zi m 15 (9 * t) = (l.length : Int) ∧ ∀ k, k < l.length → zi m 15 (9 * t + 1 + k) = ((l.getD k 0 : Nat) : Int)
section GAMEM
variable {v : Nat} {S : zSt} {m m' : zM}
theorem glP_scr {t : Nat} (h : Fr (glP t) m m') : Fr scr m m' := h.mono (fun c j q => by unfold glP at q; unfold scr; omega)
theorem tnP_scr {t : Nat} (h : Fr (tnP t) m m') : Fr scr m m' := h.mono (fun c j q => by unfold tnP at q; unfold scr; omega)
theorem tnP_gl {t : Nat} (h : Fr (tnP (t + 1)) m m') : Fr (glP t) m m' := h.mono (fun c j q => by unfold tnP at q; unfold glP; omega)
theorem rowP_gl {t : Nat} (h : Fr (rowP 0) m m') : Fr (glP t) m m' := h.mono (fun c j q => by unfold rowP at q; unfold glP; omega)
theorem glP_gl {t : Nat} (h : Fr (glP (t + 1)) m m') : Fr (glP t) m m' := h.mono (fun c j q => by unfold glP at q ⊢; omega)
theorem TnV.fr {t : Nat} {l : List Nat} (h : Fr (glP t) m m') (h8 : l.length ≤ 8) (hv : TnV m t l) : TnV m' t l := by
  refine ⟨?_, fun k hk => ?_⟩
  · rw [h.i (by unfold glP; omega)]; exact hv.1
  · rw [h.i (by unfold glP; omega)]; exact hv.2 k hk
theorem m_laysTurn_loop (hR0 : R2 S m) {t : Nat} (ht : t < 5) {l : List Nat} (hl0 : ArV m 27 8 l) : ∀ (n k : Nat) (m1 : zM), k + n = l.length → Fr (tnP t) m m1 → zi m1 15 (9 * t) = (l.length : Int) → (∀ i, i < k → zi m1 15 (9 * t + 1 + i) = ((l.getD i 0 : Nat) : Int)) →
    ∃ m', zX zP 385 v 15 [some ((.inr (.inr (some 0)))), some (.inl (t : Int)), some (.inl (k : Int))] [] m1 = some (none, m') ∧ Fr (tnP t) m m' ∧ TnV m' t l := by
  have h8 := hl0.2.1
  intro n
  induction n with
  | zero =>
    intro k m1 hk hF h1 h2
    have hR := hR0.fr (tnP_scr hF)
    have hS := hR.1
    have hl1 := (hF.ar (by unfold tnP; omega) (fun j => by unfold tnP; omega) hl0).1
    refine ⟨m1, ?_, hF, h1, fun i hi => h2 i (by omega)⟩
    rw [j_X11_laysTurn_15, if_pos hS.1, hl1, if_neg (by omega), j_X11_laysTurn_48]
  | succ n ih =>
    intro k m1 hk hF h1 h2
    have hR := hR0.fr (tnP_scr hF)
    have hS := hR.1
    have hl := hF.ar (by unfold tnP; omega) (fun j => by unfold tnP; omega) hl0
    have hl1 := hl.1
    have l2 := hl.2.2 k (by omega)
    have k8 : ArS m1 8 9 8 := hS.2.2.2.1.2.2.2
    have k15 : ArS m1 15 9 45 := hS.2.2.2.2.2.2.2.1
    have z1 : ∀ _ : Unit, zmul 9 (t : Int) = ((9 * t : Nat) : Int) := fun _ => zmul_nat (n := 9) (by omega)
    have z2 : ∀ _ : Unit, zadd ((9 * t : Nat) : Int) 1 = ((9 * t + 1 : Nat) : Int) := fun _ => zadd_nat (k := 1) (by omega)
    have z3 : ∀ _ : Unit, zadd ((9 * t + 1 : Nat) : Int) (k : Int) = ((9 * t + 1 + k : Nat) : Int) := fun _ => zadd_nat (by omega)
    have z4 : ∀ _ : Unit, zadd (k : Int) 1 = ((k + 1 : Nat) : Int) := fun _ => zadd_nat (k := 1) (by omega)
    have A13 : zA m1 15 9 ((9 * t + 1 + k : Nat) : Int) = true := k15.A (by omega) (by omega)
    have A8 : zA m1 8 9 (k : Int) = true := k8.A (by omega) (by omega)
    have hw : Fr (tnP t) m1 (zwi m1 15 (9 * t + 1 + k) ((l.getD k 0 : Nat) : Int)) := Fr.wi m1 _ ⟨rfl, by omega, by omega⟩
    obtain ⟨m', f1, f2, f3⟩ := ih (k + 1) _ (by omega) (hF.tr hw)
      (by rw [zi_wi_n _ _ (Or.inr (by omega))]; exact h1)
      (fun i hi => by
        by_cases e : i = k
        · subst e; exact zi_wi_s _ _ _ _
        · rw [zi_wi_n _ _ (Or.inr (by omega))]; exact h2 i (by omega))
    refine ⟨m', ?_, f2, f3⟩
    rw [j_X11_laysTurn_15, if_pos hS.1, hl1, if_pos (by omega), if_pos hS.1, hS.2.1.2.2.2.2.2.1, obind, if_pos hS.1, hS.2.1.2.1.2.2.2, obind, if_pos A8, z1 (), z2 (), z3 (), if_pos A13, Int.toNat_natCast, Int.toNat_natCast, l2, z4 ()]
    exact f1
theorem m_laysTurn (hR : R2 S m) {t : Nat} (ht : t < 5) {l : List Nat} (hl : ArV m 27 8 l) : ∃ m', zF zP 385 v [(.inr (.inr (some 0))), .inl (t : Int)] m = some (none, m') ∧ Fr (tnP t) m m' ∧ TnV m' t l := by
  have hS := hR.1
  have hl1 := hl.1
  have k15 : ArS m 15 9 45 := hS.2.2.2.2.2.2.2.1
  have z1 : ∀ _ : Unit, zmul 9 (t : Int) = ((9 * t : Nat) : Int) := fun _ => zmul_nat (n := 9) (by omega)
  have A13 : zA m 15 9 ((9 * t : Nat) : Int) = true := k15.A (by omega) (by omega)
  have hw : Fr (tnP t) m (zwi m 15 (9 * t) (l.length : Int)) := Fr.wi m _ ⟨rfl, by omega, by omega⟩
  have e0 : ((0 : Nat) : Int) = 0 := rfl
  obtain ⟨m', f1, f2, f3⟩ := m_laysTurn_loop (v := v) hR ht hl l.length 0 _ (Nat.zero_add _) hw (zi_wi_s _ _ _ _) (fun i hi => absurd hi (Nat.not_lt_zero i))
  refine ⟨m', ?_, f2, f3⟩
  rw [e0] at f1
  rw [f_X11_laysTurn, if_pos hS.1, hS.2.1.2.2.2.2.2.1, obind, if_pos hS.1, z1 (), if_pos A13, Int.toNat_natCast, hl1]
  exact f1
theorem m_takesTurn_loop (hR0 : R2 S m) {t : Nat} (ht : t < 5) {l : List Nat} (h8 : l.length ≤ 8) (hv0 : TnV m t l) : ∀ (n k : Nat) (m1 : zM), k + n = l.length → Fr (rowP 0) m m1 → zi m1 0 27 = (l.length : Int) → (∀ i, i < k → zi m1 8 i = ((l.getD i 0 : Nat) : Int)) →
    ∃ m', zX zP 386 v 15 [some ((.inr (.inr (some 0)))), some (.inl (t : Int)), some (.inl (k : Int))] [] m1 = some (none, m') ∧ Fr (rowP 0) m m' ∧ ArV m' 27 8 l := by
  intro n
  induction n with
  | zero =>
    intro k m1 hk hF h1 h2
    have hR := hR0.fr (rowP_scr hF)
    have hS := hR.1
    refine ⟨m1, ?_, hF, h1, h8, fun i hi => h2 i (by omega)⟩
    rw [j_X11_takesTurn_15, if_pos hS.1, h1, if_neg (by omega), j_X11_takesTurn_48]
  | succ n ih =>
    intro k m1 hk hF h1 h2
    have hR := hR0.fr (rowP_scr hF)
    have hS := hR.1
    have l2 : ∀ _ : Unit, zi m1 15 (9 * t + 1 + k) = ((l.getD k 0 : Nat) : Int) := fun _ => by rw [hF.i (by unfold rowP; omega)]; exact hv0.2 k (by omega)
    have k8 : ArS m1 8 9 8 := hS.2.2.2.1.2.2.2
    have k15 : ArS m1 15 9 45 := hS.2.2.2.2.2.2.2.1
    have z1 : ∀ _ : Unit, zmul 9 (t : Int) = ((9 * t : Nat) : Int) := fun _ => zmul_nat (n := 9) (by omega)
    have z2 : ∀ _ : Unit, zadd ((9 * t : Nat) : Int) 1 = ((9 * t + 1 : Nat) : Int) := fun _ => zadd_nat (k := 1) (by omega)
    have z3 : ∀ _ : Unit, zadd ((9 * t + 1 : Nat) : Int) (k : Int) = ((9 * t + 1 + k : Nat) : Int) := fun _ => zadd_nat (by omega)
    have z4 : ∀ _ : Unit, zadd (k : Int) 1 = ((k + 1 : Nat) : Int) := fun _ => zadd_nat (k := 1) (by omega)
    have A13 : zA m1 15 9 ((9 * t + 1 + k : Nat) : Int) = true := k15.A (by omega) (by omega)
    have A8 : zA m1 8 9 (k : Int) = true := k8.A (by omega) (by omega)
    have hw : Fr (rowP 0) m1 (zwi m1 8 k ((l.getD k 0 : Nat) : Int)) := Fr.wi m1 _ (Or.inr rfl)
    obtain ⟨m', f1, f2, f3⟩ := ih (k + 1) _ (by omega) (hF.tr hw)
      (by rw [zi_wi_n _ _ (Or.inl (by omega))]; exact h1)
      (fun i hi => by
        by_cases e : i = k
        · subst e; exact zi_wi_s _ _ _ _
        · rw [zi_wi_n _ _ (Or.inr (by omega))]; exact h2 i (by omega))
    refine ⟨m', ?_, f2, f3⟩
    rw [j_X11_takesTurn_15, if_pos hS.1, h1, if_pos (by omega), if_pos hS.1, hS.2.1.2.1.2.2.2, obind, if_pos hS.1, hS.2.1.2.2.2.2.2.1, obind, z1 (), z2 (), z3 (), if_pos A13, if_pos A8, Int.toNat_natCast, Int.toNat_natCast, l2 (), z4 ()]
    exact f1
theorem m_takesTurn (hR : R2 S m) {t : Nat} (ht : t < 5) {l : List Nat} (h8 : l.length ≤ 8) (hv : TnV m t l) : ∃ m', zF zP 386 v [(.inr (.inr (some 0))), .inl (t : Int)] m = some (none, m') ∧ Fr (rowP 0) m m' ∧ ArV m' 27 8 l := by
  have hS := hR.1
  have k15 : ArS m 15 9 45 := hS.2.2.2.2.2.2.2.1
  have z1 : ∀ _ : Unit, zmul 9 (t : Int) = ((9 * t : Nat) : Int) := fun _ => zmul_nat (n := 9) (by omega)
  have A13 : zA m 15 9 ((9 * t : Nat) : Int) = true := k15.A (by omega) (by omega)
  have hw : Fr (rowP 0) m (zwi m 0 27 (l.length : Int)) := Fr.wi m _ (Or.inl ⟨rfl, rfl⟩)
  have e0 : ((0 : Nat) : Int) = 0 := rfl
  have d1 := hv.1
  obtain ⟨m', f1, f2, f3⟩ := m_takesTurn_loop (v := v) hR ht h8 hv l.length 0 _ (Nat.zero_add _) hw (zi_wi_s _ _ _ _) (fun i hi => absurd hi (Nat.not_lt_zero i))
  refine ⟨m', ?_, f2, f3⟩
  rw [e0] at f1
  rw [f_X11_takesTurn, if_pos hS.1, hS.2.1.2.2.2.2.2.1, obind, z1 (), if_pos A13, if_pos hS.1, Int.toNat_natCast, d1]
  exact f1
theorem m_score_loop (hR : R2 S m) {l : List Nat} (hl : ArV m 27 8 l) {x y : Nat} (hne : x ≠ y) : ∀ (r : List Nat) (k cx cy : Nat), l.drop k = r → cx ≤ k → cy ≤ k → k ≤ l.length →
    zX zP 387 v 5 [some ((.inr (.inr (some 0)))), some (.inl (x : Int)), some (.inl (y : Int)), some (.inl ((cx : Int) - (cy : Int))), some (.inl (k : Int))] [] m = some (some (.inl (zsub (cntF r x (cx : Int)) (cntF r y (cy : Int)))), m) := by
  have hS := hR.1
  have h8 := hl.2.1
  have hl1 := hl.1
  have k8 : ArS m 8 9 8 := hS.2.2.2.1.2.2.2
  intro r
  induction r with
  | nil =>
    intro k cx cy hk h1 h2 h3
    have hk2 : l.length ≤ k := List.drop_eq_nil_iff.mp hk
    rw [j_X11_score_5, if_pos hS.1, hl1, if_neg (by omega), j_X11_score_54]
    unfold cntF
    rw [zsub_of (by unfold r32; omega)]
  | cons w r ih =>
    intro k cx cy hk h1 h2 h3
    obtain ⟨g1, g2, g3⟩ := drop_cons hk
    have l2 := hl.2.2 k g1
    rw [g2] at l2
    have z1 : zadd (k : Int) 1 = ((k + 1 : Nat) : Int) := zadd_nat (k := 1) (by omega)
    rw [j_X11_score_5, if_pos hS.1, hl1, if_pos (by omega), if_pos hS.1, hS.2.1.2.1.2.2.2, obind, if_pos (k8.A (by omega) (by omega)), Int.toNat_natCast, l2, cntF, cntF]
    by_cases c1 : w = x
    · have i1 := ih (k + 1) (cx + 1) cy g3 (by omega) (by omega) (by omega)
      have q1 : zadd ((cx : Int) - (cy : Int)) 1 = ((cx + 1 : Nat) : Int) - (cy : Int) := by rw [zadd_of (by unfold r32; omega)]; omega
      have q2 : zadd (cx : Int) 1 = ((cx + 1 : Nat) : Int) := zadd_nat (k := 1) (by omega)
      rw [if_pos (show (w : Int) = (x : Int) by omega), j_X11_score_46, q1, z1, if_pos c1, if_neg (show ¬ w = y by omega), q2]
      exact i1
    · rw [if_neg (show ¬ (w : Int) = (x : Int) by omega), j_X11_score_30, if_pos hS.1, hS.2.1.2.1.2.2.2, obind, if_pos (k8.A (by omega) (by omega)), Int.toNat_natCast, l2, if_neg c1]
      by_cases c2 : w = y
      · have i1 := ih (k + 1) cx (cy + 1) g3 (by omega) (by omega) (by omega)
        have q1 : zadd ((cx : Int) - (cy : Int)) (-1) = (cx : Int) - ((cy + 1 : Nat) : Int) := by rw [zadd_of (by unfold r32; omega)]; omega
        have q2 : zadd (cy : Int) 1 = ((cy + 1 : Nat) : Int) := zadd_nat (k := 1) (by omega)
        rw [if_pos (show (w : Int) = (y : Int) by omega), j_X11_score_46, q1, z1, if_pos c2, q2]
        exact i1
      · have i1 := ih (k + 1) cx cy g3 (by omega) (by omega) (by omega)
        have q1 : zadd ((cx : Int) - (cy : Int)) 0 = (cx : Int) - (cy : Int) := by rw [zadd_of (by unfold r32; omega)]; omega
        rw [if_neg (show ¬ (w : Int) = (y : Int) by omega), j_X11_score_45, j_X11_score_46, q1, z1, if_neg c2]
        exact i1
theorem m_score (hR : R2 S m) {l : List Nat} (hl : ArV m 27 8 l) {x y : Nat} (hne : x ≠ y) : zF zP 387 v [(.inr (.inr (some 0))), .inl (x : Int), .inl (y : Int)] m = some (some (.inl (scF l x y)), m) := by
  rw [f_X11_score]
  exact m_score_loop hR hl hne l 0 0 0 rfl (Nat.le_refl _) (Nat.le_refl _) (Nat.zero_le _)
end GAMEM
