/-! A set's WORDS among all; in VAIN or not. -/
theorem ws_range {W s : Nat} (hW : W ≤ 8) (hs : s < 2 ^ W) : wsOf s = (List.range W).filter (fun k => s.testBit k) := by
  have key : ∀ (W : Fin 9) (s : Fin 256), decide (s.val < 2 ^ W.val) = true → wsOf s.val = (List.range W.val).filter (fun k => s.val.testBit k) := by decide +kernel
  have h8 : 2 ^ W ≤ 2 ^ 8 := Nat.pow_le_pow_right (by decide) hW
  exact key ⟨W, by omega⟩ ⟨s, by omega⟩ (decide_eq_true hs)
theorem ws_all {W : Nat} (hW : W ≤ 8) : wsOf (2 ^ W - 1) = List.range W := by
  have key : ∀ W : Fin 9, wsOf (2 ^ W.val - 1) = List.range W.val := by decide +kernel
  exact key ⟨W, by omega⟩
theorem lall_lput : ∀ (es : List zEd) (l d : List Nat), lall es l = some d → lput es l = d
  | [], l, d, h => Option.some.inj h
  | e :: r, l, d, h => by
    unfold lall at h
    unfold lput
    cases g : edone e l with
    | none => rw [g] at h; exact absurd (show false = true from congrArg Option.isSome h) (by decide)
    | some q =>
      rw [g] at h
      exact lall_lput r q d h
