/-! Ways from LINE to LINE: who is reached in so many goings; sets against ways. -/
def anyN (p : Nat → Bool) : Nat → Bool
  | 0 => false
  | n + 1 => anyN p n || p n
theorem anyN_iff {p : Nat → Bool} : ∀ {n : Nat}, anyN p n = true ↔ ∃ k, k < n ∧ p k = true
  | 0 => ⟨fun h => Bool.noConfusion (show false = true from h), fun ⟨k, h, _⟩ => absurd h (Nat.not_lt_zero k)⟩
  | n + 1 => by
    show (anyN p n || p n) = true ↔ _
    rw [Bool.or_eq_true, anyN_iff (n := n)]
    constructor
    · rintro (⟨k, h1, h2⟩ | h)
      · exact ⟨k, by omega, h2⟩
      · exact ⟨n, by omega, h⟩
    · rintro ⟨k, h1, h2⟩
      by_cases e : k = n
      · rw [e] at h2; exact Or.inr h2
      · exact Or.inl ⟨k, by omega, h2⟩
def cntN (p : Nat → Bool) : Nat → Nat
  | 0 => 0
  | n + 1 => cntN p n + (if p n = true then 1 else 0)
theorem cntN_le (p : Nat → Bool) : ∀ n, cntN p n ≤ n
  | 0 => Nat.le_refl _
  | n + 1 => by
    have := cntN_le p n
    unfold cntN
    split <;> omega
theorem cntN_mono {p q : Nat → Bool} : ∀ n, (∀ k, k < n → p k = true → q k = true) → cntN p n ≤ cntN q n
  | 0, _ => Nat.le_refl _
  | n + 1, h => by
    have := cntN_mono n (fun k hk => h k (by omega))
    unfold cntN
    by_cases e : p n = true
    · rw [if_pos e, if_pos (h n (by omega) e)]; omega
    · rw [if_neg e]; split <;> omega
theorem cntN_lt {p q : Nat → Bool} : ∀ n, (∀ k, k < n → p k = true → q k = true) → (∃ k, k < n ∧ q k = true ∧ ¬ p k = true) → cntN p n < cntN q n
  | 0, _, ⟨k, hk, _⟩ => absurd hk (Nat.not_lt_zero k)
  | n + 1, h, ⟨k, hk, h1, h2⟩ => by
    unfold cntN
    by_cases e : k = n
    · subst e
      have := cntN_mono k (fun j hj => h j (by omega))
      rw [if_neg h2, if_pos h1]; omega
    · have := cntN_lt n (fun j hj => h j (by omega)) ⟨k, by omega, h1, h2⟩
      by_cases e2 : p n = true
      · rw [if_pos e2, if_pos (h n (by omega) e2)]; omega
      · rw [if_neg e2]; split <;> omega
theorem cntN_all {p : Nat → Bool} : ∀ n, cntN p n = n → ∀ k, k < n → p k = true
  | 0, _, k, hk => absurd hk (Nat.not_lt_zero k)
  | n + 1, h, k, hk => by
    unfold cntN at h
    have hl := cntN_le p n
    by_cases e : p n = true
    · rw [if_pos e] at h
      by_cases g : k = n
      · rw [g]; exact e
      · exact cntN_all n (by omega) k (by omega)
    · rw [if_neg e] at h; omega
def bal (J : Nat → Nat → Bool) (n i : Nat) : Nat → Nat → Bool
  | 0, l => decide (l = i)
  | t + 1, l => bal J n i t l || anyN (fun k => bal J n i t k && J k l) n
section BALLS
variable {J : Nat → Nat → Bool} {n : Nat}
theorem bal_s {i t l : Nat} : bal J n i (t + 1) l = true ↔ (bal J n i t l = true ∨ ∃ k, k < n ∧ bal J n i t k = true ∧ J k l = true) := by
  show (bal J n i t l || anyN (fun k => bal J n i t k && J k l) n) = true ↔ _
  rw [Bool.or_eq_true, anyN_iff]
  simp only [Bool.and_eq_true]
theorem bal_0 {i l : Nat} : bal J n i 0 l = true ↔ l = i := decide_eq_true_iff
theorem bal_le {i t l : Nat} : ∀ (d : Nat), bal J n i t l = true → bal J n i (t + d) l = true
  | 0, h => h
  | d + 1, h => bal_s.mpr (Or.inl (bal_le d h))
theorem bal_mono {i t s l : Nat} (h : t ≤ s) (hb : bal J n i t l = true) : bal J n i s l = true := by
  have := bal_le (J := J) (n := n) (s - t) hb
  rwa [show t + (s - t) = s by omega] at this
theorem bal_stable {i t : Nat} (h : ∀ l, l < n → bal J n i (t + 1) l = true → bal J n i t l = true) : ∀ (d l : Nat), l < n → bal J n i (t + d) l = true → bal J n i t l = true
  | 0, l, _, hb => hb
  | d + 1, l, hl, hb => by
    rcases bal_s.mp hb with hb | ⟨k, hk, hb, hj⟩
    · exact bal_stable h d l hl hb
    · exact h l hl (bal_s.mpr (Or.inr ⟨k, hk, bal_stable h d k hk hb, hj⟩))
/-- the first step apart -/
theorem bal_first {i : Nat} (hin : i < n) : ∀ (t l : Nat), l < n → (bal J n i (t + 1) l = true ↔ (bal J n i t l = true ∨ ∃ k, k < n ∧ J i k = true ∧ bal J n k t l = true))
  | 0, l, hl => by
    rw [bal_s, bal_0]
    constructor
    · rintro (h | ⟨k, hk, h, hj⟩)
      · exact Or.inl h
      · rw [bal_0.mp h] at hj
        exact Or.inr ⟨l, hl, hj, bal_0.mpr rfl⟩
    · rintro (h | ⟨k, hk, hj, h⟩)
      · exact Or.inl h
      · rw [← bal_0.mp h] at hj
        exact Or.inr ⟨i, hin, bal_0.mpr rfl, hj⟩
  | t + 1, l, hl => by
    constructor
    · intro h
      rcases bal_s.mp h with h | ⟨k, hk, h, hj⟩
      · exact Or.inl h
      · rcases (bal_first hin t k hk).mp h with h2 | ⟨q, hq, hj2, h2⟩
        · exact Or.inl (bal_s.mpr (Or.inr ⟨k, hk, h2, hj⟩))
        · exact Or.inr ⟨q, hq, hj2, bal_s.mpr (Or.inr ⟨k, hk, h2, hj⟩)⟩
    · rintro (h | ⟨k, hk, hj, h⟩)
      · exact bal_s.mpr (Or.inl h)
      · rcases bal_s.mp h with h | ⟨q, hq, h, hj2⟩
        · exact bal_s.mpr (Or.inl ((bal_first hin t l hl).mpr (Or.inr ⟨k, hk, hj, h⟩)))
        · exact bal_s.mpr (Or.inr ⟨q, hq, (bal_first hin t q hq).mpr (Or.inr ⟨k, hk, hj, h⟩), hj2⟩)
theorem bal_sym (hJ : ∀ a b, a < n → b < n → J a b = J b a) : ∀ (t i l : Nat), i < n → l < n → bal J n i t l = true → bal J n l t i = true
  | 0, i, l, _, _, h => bal_0.mpr (bal_0.mp h).symm
  | t + 1, i, l, hi, hl, h => by
    rw [bal_first hl t i hi]
    rcases bal_s.mp h with h | ⟨k, hk, h, hj⟩
    · exact Or.inl (bal_sym hJ t i l hi hl h)
    · exact Or.inr ⟨k, hk, by rw [hJ l k hl hk]; exact hj, bal_sym hJ t i k hi hk h⟩
/-- after n - 1 steps nobody is left to be reached -/
theorem bal_grow {i : Nat} (hin : i < n) : ∀ t, (∃ s, s < t ∧ ∀ l, l < n → bal J n i (s + 1) l = true → bal J n i s l = true) ∨ t + 1 ≤ cntN (bal J n i t) n
  | 0 => Or.inr (by
      have : cntN (fun _ => false) n < cntN (bal J n i 0) n := cntN_lt n (fun k _ h => absurd h (by decide)) ⟨i, hin, bal_0.mpr rfl, by decide⟩
      omega)
  | t + 1 => by
    rcases bal_grow hin t with ⟨s, h1, h2⟩ | h
    · exact Or.inl ⟨s, by omega, h2⟩
    · by_cases g : ∀ l, l < n → bal J n i (t + 1) l = true → bal J n i t l = true
      · exact Or.inl ⟨t, by omega, g⟩
      · refine Or.inr ?_
        have : ∃ k, k < n ∧ bal J n i (t + 1) k = true ∧ ¬ bal J n i t k = true := by
          refine Classical.byContradiction (fun q => g (fun l hl hb => Classical.byContradiction (fun w => q ⟨l, hl, hb, w⟩)))
        have := cntN_lt (p := bal J n i t) (q := bal J n i (t + 1)) n (fun k _ h => bal_s.mpr (Or.inl h)) this
        omega
theorem bal_last {i s l : Nat} (hin : i < n) (hl : l < n) (h : bal J n i s l = true) : bal J n i (n - 1) l = true := by
  by_cases hs : s ≤ n - 1
  · exact bal_mono hs h
  · rcases bal_grow (J := J) hin (n - 1) with ⟨t, h1, h2⟩ | g
    · exact bal_mono (by omega) (bal_stable h2 (s - t) l hl (by rw [show t + (s - t) = s by omega]; exact h))
    · have := cntN_le (bal J n i (n - 1)) n
      exact cntN_all n (by omega) l hl
/-- the first time one is reached -/
def dis (J : Nat → Nat → Bool) (n i l : Nat) : Nat → Nat → Int
  | 0, _ => -1
  | r + 1, t => if bal J n i t l = true then (t : Int) else dis J n i l r (t + 1)
theorem dis_of {i l : Nat} : ∀ (r t : Nat), (dis J n i l r t = -1 ∧ ∀ s, t ≤ s → s < t + r → ¬ bal J n i s l = true) ∨ (∃ d, dis J n i l r t = ((d : Nat) : Int) ∧ t ≤ d ∧ d < t + r ∧ bal J n i d l = true ∧ ∀ s, t ≤ s → s < d → ¬ bal J n i s l = true)
  | 0, t => Or.inl ⟨rfl, fun s h1 h2 => by omega⟩
  | r + 1, t => by
    unfold dis
    by_cases h : bal J n i t l = true
    · rw [if_pos h]; exact Or.inr ⟨t, rfl, Nat.le_refl _, by omega, h, fun s h1 h2 => by omega⟩
    · rw [if_neg h]
      rcases dis_of (i := i) (l := l) r (t + 1) with ⟨h1, h2⟩ | ⟨d, h1, h2, h3, h4, h5⟩
      · exact Or.inl ⟨h1, fun s q1 q2 => by
          by_cases e : s = t
          · rw [e]; exact h
          · exact h2 s (by omega) (by omega)⟩
      · exact Or.inr ⟨d, h1, by omega, by omega, h4, fun s q1 q2 => by
          by_cases e : s = t
          · rw [e]; exact h
          · exact h5 s (by omega) q2⟩
end BALLS
