/-! The reference's numbers of ROWS and the rows in their order; those out of fewer WORDS. -/
theorem dgs_top {W : Nat} : ∀ (n w c : Nat), w < W → c < W ^ n → dgs W (n + 1) (w * W ^ n + c) = w :: dgs W n c
  | 0, w, c, hw, hc => by
    have : c = 0 := by rw [Nat.pow_zero] at hc; omega
    subst this
    show [] ++ [(w * W ^ 0 + 0) % W] = [w]
    rw [Nat.pow_zero, Nat.mul_one, Nat.add_zero, Nat.mod_eq_of_lt hw]; rfl
  | n + 1, w, c, hw, hc => by
    have hW : 0 < W := by omega
    have e1 : w * W ^ (n + 1) = W * (w * W ^ n) := by rw [Nat.pow_succ, ← Nat.mul_assoc, Nat.mul_comm]
    have e2 : (w * W ^ (n + 1) + c) / W = w * W ^ n + c / W := by rw [e1, Nat.mul_add_div hW]
    have e3 : (w * W ^ (n + 1) + c) % W = c % W := by rw [e1, Nat.mul_add_mod]
    have hc' : c / W < W ^ n := Nat.div_lt_of_lt_mul (by rw [Nat.mul_comm, ← Nat.pow_succ]; exact hc)
    show dgs W (n + 1) ((w * W ^ (n + 1) + c) / W) ++ [(w * W ^ (n + 1) + c) % W] = w :: (dgs W n (c / W) ++ [c % W])
    rw [e2, e3, dgs_top n w (c / W) hw hc']; rfl
theorem fmp_get {L : List (List Nat)} : ∀ (ws : List Nat) (i j : Nat), i < ws.length → j < L.length → (fmp ws L).getD (i * L.length + j) [] = ws.getD i 0 :: L.getD j []
  | [], i, j, h, _ => absurd h (Nat.not_lt_zero i)
  | w :: ws, 0, j, _, hj => by
    show (L.map (List.cons w) ++ fmp ws L).getD (0 * L.length + j) [] = w :: L.getD j []
    rw [Nat.zero_mul, Nat.zero_add, List.getD_eq_getElem?_getD, List.getElem?_append_left (by rw [List.length_map]; exact hj), List.getElem?_map, List.getD_eq_getElem?_getD, List.getElem?_eq_getElem hj]
    rfl
  | w :: ws, i + 1, j, h, hj => by
    show (L.map (List.cons w) ++ fmp ws L).getD ((i + 1) * L.length + j) [] = ws.getD i 0 :: L.getD j []
    have e : (i + 1) * L.length + j = L.length + (i * L.length + j) := by rw [Nat.succ_mul]; omega
    rw [e, List.getD_eq_getElem?_getD, List.getElem?_append_right (by rw [List.length_map]; omega), List.length_map, Nat.add_sub_cancel_left, ← List.getD_eq_getElem?_getD]
    exact fmp_get ws i j (by rw [List.length_cons] at h; omega) hj
theorem rws_get {W : Nat} : ∀ (n c : Nat), c < W ^ n → (rws (List.range W) n).getD c [] = dgs W n c
  | 0, c, h => by
    have : c = 0 := by rw [Nat.pow_zero] at h; omega
    subst this; rfl
  | n + 1, c, h => by
    have hW : 0 < W ^ n := by
      rcases Nat.eq_zero_or_pos (W ^ n) with e | e
      · rw [Nat.pow_succ, e, Nat.zero_mul] at h; omega
      · exact e
    have hl : (rws (List.range W) n).length = W ^ n := by rw [rws_len, List.length_range]
    have h1 : c / W ^ n < W := Nat.div_lt_of_lt_mul (by rw [← Nat.pow_succ]; exact h)
    have h2 : c % W ^ n < W ^ n := Nat.mod_lt _ hW
    have e : c = c / W ^ n * W ^ n + c % W ^ n := by rw [Nat.mul_comm]; exact (Nat.div_add_mod c (W ^ n)).symm
    have g := fmp_get (L := rws (List.range W) n) (List.range W) (c / W ^ n) (c % W ^ n) (by rw [List.length_range]; exact h1) (by rw [hl]; exact h2)
    rw [hl, ← e, rws_get n (c % W ^ n) h2] at g
    have hr : (List.range W).getD (c / W ^ n) 0 = c / W ^ n := by
      rw [List.getD_eq_getElem?_getD, List.getElem?_range h1]; rfl
    have t := dgs_top n (c / W ^ n) (c % W ^ n) h1 h2
    rw [← e] at t
    rw [t, ← hr]
    rw [hr]
    rw [hr] at g
    exact g
theorem filt_none : ∀ L : List (List Nat), L.filter (fun _ => false) = []
  | [] => rfl
  | _ :: L => filt_none L
theorem fmp_filter {L : List (List Nat)} (p : Nat → Bool) : ∀ ws : List Nat, fmp (ws.filter p) (L.filter (fun a => a.all p)) = (fmp ws L).filter (fun a => a.all p)
  | [] => rfl
  | w :: ws => by
    show fmp ((w :: ws).filter p) (L.filter (fun a => a.all p)) = (L.map (List.cons w) ++ fmp ws L).filter (fun a => a.all p)
    rw [List.filter_append, List.filter_map, ← fmp_filter p ws]
    by_cases h : p w = true
    · rw [List.filter_cons_of_pos h]
      show (L.filter (fun a => a.all p)).map (List.cons w) ++ fmp (ws.filter p) (L.filter (fun a => a.all p)) = _
      have e : ((fun a => List.all a p) ∘ List.cons w) = (fun a : List Nat => a.all p) := by
        funext a
        show (p w && a.all p) = a.all p
        rw [h, Bool.true_and]
      rw [e]
    · rw [List.filter_cons_of_neg h]
      have e : ((fun a => List.all a p) ∘ List.cons w) = (fun _ : List Nat => false) := by
        funext a
        show (p w && a.all p) = false
        rw [bool_f h, Bool.false_and]
      rw [e, filt_none]; rfl
/-- fewer WORDS: the same ROWS in the same order, those of these WORDS alone -/
theorem rws_filter (p : Nat → Bool) (ws : List Nat) : ∀ n : Nat, rws (ws.filter p) n = (rws ws n).filter (fun a => a.all p)
  | 0 => rfl
  | n + 1 => by
    show fmp (ws.filter p) (rws (ws.filter p) n) = (fmp ws (rws ws n)).filter (fun a => a.all p)
    rw [rws_filter p ws n, fmp_filter]
