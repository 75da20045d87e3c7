/-! EDITS word by word. -/
def eact (e : zEd) : List Nat := if e.1 = 0 then [e.2.2.1] else if e.1 = 2 then [e.2.1, e.2.2.1] else []
def eall (e : zEd) : List Nat → List Nat
  | [] => []
  | x :: r => (if e.2.2.2 = true ∧ x = e.2.1 then eact e else [x]) ++ eall e r
def efst (e : zEd) : List Nat → Option (List Nat)
  | [] => none
  | x :: r => if x = e.2.1 then some (eact e ++ eall e r) else (efst e r).map (x :: ·)
def espec (e : zEd) (l : List Nat) : Option (List Nat) := if e.1 = 2 ∧ ¬ l.length < 8 then none else efst e l
theorem eall_app (e : zEd) : ∀ (a b : List Nat), eall e (a ++ b) = eall e a ++ eall e b
  | [], b => rfl
  | x :: r, b => by
    show _ ++ eall e (r ++ b) = (_ ++ eall e r) ++ eall e b
    rw [eall_app e r b, List.append_assoc]
theorem eall_id {e : zEd} (h : e.2.2.2 = false) : ∀ l, eall e l = l
  | [] => rfl
  | x :: r => by
    show (if e.2.2.2 = true ∧ x = e.2.1 then eact e else [x]) ++ eall e r = x :: r
    rw [h, eall_id h r, if_neg (by rintro ⟨q, _⟩; cases q)]; rfl
theorem edW_take {e : zEd} {l t : List Nat} {p k : Nat} (h2 : e.1 ≠ 2) (hk : k < l.length) :
    edW e l p k (l.take (k + 1) ++ t) = l.take k ++ ((if k = p ∨ (e.2.2.2 = true ∧ l.getD k 0 = e.2.1) then eact e else [l.getD k 0]) ++ t) := by
  have e1 : l.take (k + 1) = l.take k ++ [l.getD k 0] := by
    rw [List.take_add_one, List.getD_eq_getElem?_getD, List.getElem?_eq_getElem hk]; rfl
  have hlen : (l.take k).length = k := by rw [List.length_take]; omega
  unfold edW
  split
  · unfold eact
    by_cases h0 : e.1 = 0
    · rw [if_pos h0, if_pos h0]
      unfold rwith
      rw [if_pos (by rw [List.length_append, List.length_take]; omega), e1, List.append_assoc, List.set_append_right _ _ (by omega), hlen, Nat.sub_self]; rfl
    · rw [if_neg h0, if_neg h0, if_neg h2, e1, List.append_assoc, List.eraseIdx_append_of_length_le (by omega), hlen, Nat.sub_self]; rfl
  · rw [e1, List.append_assoc]
theorem edL_take {e : zEd} {l : List Nat} {p : Nat} (h2 : e.1 ≠ 2) : ∀ (n : Nat) (t : List Nat), p + (n + 1) ≤ l.length →
    edL e l p (n + 1) (l.take (p + (n + 1)) ++ t) = l.take p ++ (eact e ++ (eall e ((l.drop (p + 1)).take n) ++ t))
  | 0, t, h => by
    show edW e l p (p + 0) (l.take (p + 1) ++ t) = _
    rw [Nat.add_zero, edW_take h2 (by omega), if_pos (Or.inl rfl)]
    simp [eall]
  | n + 1, t, h => by
    show edL e l p (n + 1) (edW e l p (p + (n + 1)) (l.take (p + (n + 1) + 1) ++ t)) = _
    rw [edW_take h2 (by omega), edL_take h2 n _ (by omega)]
    have e1 : (l.drop (p + 1)).take (n + 1) = (l.drop (p + 1)).take n ++ [l.getD (p + (n + 1)) 0] := by
      rw [List.take_add_one, List.getElem?_drop, show p + 1 + n = p + (n + 1) by omega, List.getD_eq_getElem?_getD, List.getElem?_eq_getElem (by omega)]; rfl
    rw [e1, eall_app, List.append_assoc]
    have hne : ¬ p + (n + 1) = p := by omega
    show _ ++ (_ ++ (_ ++ (_ ++ t))) = _ ++ (_ ++ (_ ++ (((if _ then eact e else [l.getD (p + (n + 1)) 0]) ++ []) ++ t)))
    by_cases hc : e.2.2.2 = true ∧ l.getD (p + (n + 1)) 0 = e.2.1
    · rw [if_pos (Or.inr hc), if_pos hc, List.append_nil]
    · rw [if_neg (by rintro (q | q); exact hne q; exact hc q), if_neg hc, List.append_nil]
theorem efst_at (e : zEd) : ∀ (l : List Nat) (k : Nat), (ixF l e.2.1 k = -1 ∧ efst e l = none) ∨ ∃ p : Nat, ixF l e.2.1 k = ((k + p : Nat) : Int) ∧ p < l.length ∧ l.getD p 0 = e.2.1 ∧ efst e l = some (l.take p ++ (eact e ++ eall e (l.drop (p + 1))))
  | [], k => Or.inl ⟨rfl, rfl⟩
  | x :: r, k => by
    unfold ixF efst
    by_cases hx : x = e.2.1
    · rw [if_pos hx, if_pos hx]
      exact Or.inr ⟨0, rfl, by simp, hx, rfl⟩
    · rw [if_neg hx, if_neg hx]
      rcases efst_at e r (k + 1) with ⟨h1, h2⟩ | ⟨p, h1, h2, h3, h4⟩
      · exact Or.inl ⟨h1, by rw [h2]; rfl⟩
      · exact Or.inr ⟨p + 1, by rw [h1]; congr 1; omega, by simpa using h2, h3, by rw [h4]; rfl⟩
theorem ins_take : ∀ (l : List Nat) (k x : Nat), k ≤ l.length → l.insertIdx k x = l.take k ++ (x :: l.drop k)
  | l, 0, x, _ => by simp
  | [], k + 1, x, h => by simp at h
  | y :: r, k + 1, x, h => by
    rw [List.insertIdx_succ_cons, ins_take r k x (by simpa using h)]; rfl
theorem edone_spec {e : zEd} {l : List Nat} (he : eOk e) : edone e l = espec e l := by
  unfold edone espec
  rcases efst_at e l 0 with ⟨h1, h2⟩ | ⟨p, h1, h2, h3, h4⟩
  · rw [if_pos h1, h2]; split <;> rfl
  · rw [if_neg (by rw [h1]; omega), h1, h4, Nat.zero_add, Int.toNat_natCast]
    by_cases hk : e.1 = 2
    · rw [if_pos hk]
      by_cases h8 : l.length < 8
      · rw [if_pos h8, if_neg (fun q => q.2 h8), eall_id (he.2.2.2 hk)]
        have ea : eact e = [e.2.1, e.2.2.1] := by unfold eact; rw [if_neg (by omega), if_pos hk]
        have e2 : l.take (p + 1) = l.take p ++ [l.getD p 0] := by
          rw [List.take_add_one, List.getD_eq_getElem?_getD, List.getElem?_eq_getElem h2]; rfl
        have e3 : l.insertIdx (p + 1) e.2.2.1 = l.take (p + 1) ++ (e.2.2.1 :: l.drop (p + 1)) := ins_take l (p + 1) e.2.2.1 (by omega)
        rw [ea, e3, e2, h3]
        simp
      · rw [if_neg h8, if_pos ⟨hk, h8⟩]
    · rw [if_neg hk, if_neg (fun q => hk q.1)]
      obtain ⟨n, hn⟩ : ∃ n, l.length - p = n + 1 := ⟨l.length - p - 1, by omega⟩
      have e1 : edL e l p (n + 1) l = edL e l p (n + 1) (l.take (p + (n + 1)) ++ []) := by
        rw [List.append_nil, List.take_of_length_le (by omega)]
      rw [hn, e1, edL_take hk n [] (by omega), List.append_nil, List.take_of_length_le (l := l.drop (p + 1)) (by rw [List.length_drop]; omega)]
