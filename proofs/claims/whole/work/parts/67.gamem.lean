/-! GAME and MOVE of the reference. -/
def mS (f : Bool) (q : Int × Int) (x : Int) (k : Nat) : Int × Int := if q.2 < 0 then (x, (k : Int)) else if bt f q.1 x = true then (x, (k : Int)) else q
def mB (f : Bool) (u : Nat) (g : Nat → Int) : Nat → Nat → Int × Int → Int × Int
  | 0, _, q => q
  | n + 1, k, q => mB f u g n (k + 1) (if u.testBit k = true then q else mS f q (g k) k)
theorem bt_t (a b : Int) : bt true a b = true ↔ a < b := decide_eq_true_iff
theorem bt_f (a b : Int) : bt false a b = true ↔ b < a := decide_eq_true_iff
theorem bt_tri {f : Bool} {a b : Int} (h : ¬ bt f a b = true) (h' : ¬ bt f b a = true) : a = b := by
  cases f
  · rw [bt_f] at h h'; omega
  · rw [bt_t] at h h'; omega
theorem bt_asym {f : Bool} {a b : Int} (h : bt f a b = true) : ¬ bt f b a = true := by
  cases f
  · rw [bt_f] at h ⊢; omega
  · rw [bt_t] at h ⊢; omega
theorem bt_trans {f : Bool} {a b c : Int} (h : bt f a b = true) (h' : bt f b c = true) : bt f a c = true := by
  cases f
  · rw [bt_f] at *; omega
  · rw [bt_t] at *; omega
theorem bt_neg {f : Bool} {a b c : Int} (h : ¬ bt f b c = true) (h' : bt f a c = true) : bt f a b = true := by
  cases f
  · rw [bt_f] at *; omega
  · rw [bt_t] at *; omega
/-- the class's best out of the reference's -/
theorem mB_cB (f : Bool) (u : Nat) (g : Nat → Int) (z : Int) : ∀ (n k : Nat) (q : Int × Int) (acc : Int), (q.2 < 0 → acc = z) → (¬ q.2 < 0 → acc = if bt f z q.1 = true then q.1 else z) → ((mB f u g n k q).2 < 0 → cB f u g n k acc = z) ∧ (¬ (mB f u g n k q).2 < 0 → cB f u g n k acc = if bt f z (mB f u g n k q).1 = true then (mB f u g n k q).1 else z)
  | 0, k, q, acc, h1, h2 => ⟨h1, h2⟩
  | n + 1, k, q, acc, h1, h2 => by
    unfold mB cB
    by_cases c : u.testBit k = true
    · rw [if_pos c, if_pos c]; exact mB_cB f u g z n (k + 1) q acc h1 h2
    · rw [if_neg c, if_neg c]
      refine mB_cB f u g z n (k + 1) _ _ ?_ ?_
      · intro h
        unfold mS at h
        by_cases c1 : q.2 < 0
        · rw [if_pos c1] at h; exact absurd h (by show ¬ (k : Int) < 0; omega)
        · rw [if_neg c1] at h
          by_cases c2 : bt f q.1 (g k) = true
          · rw [if_pos c2] at h; exact absurd h (by show ¬ (k : Int) < 0; omega)
          · rw [if_neg c2] at h; exact absurd h c1
      · intro _
        unfold mS
        by_cases c1 : q.2 < 0
        · rw [if_pos c1, h1 c1]
        · rw [if_neg c1, h2 c1]
          by_cases c2 : bt f q.1 (g k) = true
          · rw [if_pos c2]
            show _ = if bt f z (g k) = true then g k else z
            by_cases c3 : bt f z q.1 = true
            · rw [if_pos c3, if_pos c2, if_pos (bt_trans c3 c2)]
            · rw [if_neg c3]
          · rw [if_neg c2]
            by_cases c3 : bt f z q.1 = true
            · rw [if_pos c3, if_neg c2]
            · rw [if_neg c3, if_neg (fun r => c3 (bt_neg c2 r))]
theorem mS_best (f : Bool) (u : Nat) (g : Nat → Int) (z : Int) (n : Nat) : (mS f (mB f u g n 0 (0, -1)) z n).1 = cB f u g n 0 z := by
  obtain ⟨h1, h2⟩ := mB_cB f u g z n 0 (0, -1) z (fun _ => rfl) (fun h => absurd (show ((0, -1) : Int × Int).2 < 0 by decide) h)
  generalize mB f u g n 0 (0, -1) = q at h1 h2 ⊢
  unfold mS
  by_cases c1 : q.2 < 0
  · rw [if_pos c1, h1 c1]
  · rw [if_neg c1, h2 c1]
    by_cases c2 : bt f q.1 z = true
    · rw [if_pos c2, if_neg (bt_asym c2)]
    · rw [if_neg c2]
      by_cases c3 : bt f z q.1 = true
      · rw [if_pos c3]
      · rw [if_neg c3]; exact bt_tri c2 c3
