/-! A set's WORDS among all; in VAIN or not. -/
theorem ws_range {W s : Nat} (hW : W ≤ 8) (hs : s < 2 ^ W) : wsOf s = (List.range W).filter (fun k => s.testBit k) := by
  have key : ∀ (W : Fin 9) (s : Fin 256), decide (s.val < 2 ^ W.val) = true → wsOf s.val = (List.range W.val).filter (fun k => s.val.testBit k) := by decide +kernel
  have h8 : 2 ^ W ≤ 2 ^ 8 := Nat.pow_le_pow_right (by decide) hW
  exact key ⟨W, by omega⟩ ⟨s, by omega⟩ (decide_eq_true hs)
theorem ws_all {W : Nat} (hW : W ≤ 8) : wsOf (2 ^ W - 1) = List.range W := by
  have key : ∀ W : Fin 9, wsOf (2 ^ W.val - 1) = List.range W.val := by decide +kernel
  exact key ⟨W, by omega⟩
theorem lall_lput : ∀ (es : List zEd) (l d : List Nat), lall es l = some d → lput es l = d
  | [], l, d, h => Option.some.inj h
  | e :: r, l, d, h => by
    unfold lall at h
    unfold lput
    cases g : edone e l with
    | none => rw [g] at h; exact absurd (show false = true from congrArg Option.isSome h) (by decide)
    | some q =>
      rw [g] at h
      exact lall_lput r q d h
theorem vainE_all : ∀ (es : List zEd) (k a : Nat) (l : List Nat), a < 2 ^ k → k + es.length ≤ 30 → ∃ a' : Nat, vainE es k (a : Int) l = (a' : Int) ∧ (a' = 0 ↔ a = 0 ∧ (lall es l).isSome = true)
  | [], k, a, l, _, _ => ⟨a, rfl, fun h => ⟨h, rfl⟩, fun h => h.1⟩
  | e :: r, k, a, l, ha, hk => by
    have hk' : k + (r.length + 1) ≤ 30 := hk
    have p1 : 2 ^ k < 2 ^ (k + 1) := Nat.pow_lt_pow_right (by decide) (Nat.lt_succ_self k)
    have p2 : 2 ^ (k + 1) ≤ 2 ^ 30 := Nat.pow_le_pow_right (by decide) (by omega)
    unfold vainE lall
    cases g : edone e l with
    | none =>
      have hz : zor (a : Int) (zshl 1 (k : Int)) = ((a ||| 2 ^ k : Nat) : Int) := by
        rw [zshl1 (by omega)]
        exact zor_nat (by omega) (by omega)
      have hlt : a ||| 2 ^ k < 2 ^ (k + 1) := Nat.or_lt_two_pow (by omega) p1
      have hge : 2 ^ k ≤ a ||| 2 ^ k := Nat.right_le_or
      have hpos : 0 < 2 ^ k := Nat.two_pow_pos k
      obtain ⟨a', i1, i2⟩ := vainE_all r (k + 1) (a ||| 2 ^ k) ((none : Option (List Nat)).getD l) hlt (by omega)
      rw [if_pos rfl, hz]
      refine ⟨a', i1, fun h => ?_, fun h => ?_⟩
      · have := (i2.mp h).1; omega
      · exact absurd (show false = true from h.2) (by decide)
    | some q =>
      have hne : ¬ (some q : Option (List Nat)) = none := fun h => absurd (show true = false from congrArg Option.isSome h) (by decide)
      rw [if_neg hne]
      exact vainE_all r (k + 1) a q (by omega) (by omega)
