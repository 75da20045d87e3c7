/-! The reference's row: inserts, deletes. -/
section MODEL2
variable {v : Nat} {m : zM} {a : Nat} {l : List Nat}
theorem m_inserts_loop {i w : Nat} (hl : l.length < 8) (hw : w < 16) : ∀ (d : Nat) (m : zM), MoS m a → zi m a 27 = (l.length : Int) → i + d ≤ l.length →
    (∀ j, i + d < j → j ≤ l.length → zi m (a + 8) j = ((l.getD (j - 1) 0 : Nat) : Int)) → (∀ j, j ≤ i + d → j < l.length → zi m (a + 8) j = ((l.getD j 0 : Nat) : Int)) →
    ∃ m', zX zP 329 v 5 [some (.inr (.inr (some a))), some (.inl (i : Int)), some (.inl (w : Int)), some (.inl ((i + d : Nat) : Int))] [] m = some (none, m') ∧ Fr (rowP a) m m' ∧ RoV m' a (l.insertIdx i w) := by
  intro d
  induction d with
  | zero =>
    intro m h h27 hd hA hB
    have h1 : Fr (rowP a) m (zwi m (a + 8) i (w : Int)) := Fr.wi m _ (Or.inr rfl)
    refine ⟨zwi (zwi m (a + 8) i (w : Int)) a 27 (zadd (l.length : Int) 1), ?_, h1.tr (Fr.wi _ _ (Or.inl ⟨rfl, rfl⟩)), ?_⟩
    · rw [j_X11_inserts_5, if_neg (by omega), j_X11_inserts_30, if_pos h.1, h.row.1, obind, if_pos (h.row.2.A (by omega) (by omega)), Int.toNat_natCast, if_pos (h1.Mo h).1, if_pos (h1.Mo h).1, zi_wi_n _ _ (Or.inl (by omega)), h27]
    · have hlen : (l.insertIdx i w).length = l.length + 1 := List.length_insertIdx_of_le_length (by omega) _
      refine ⟨by rw [zi_wi_s, zadd1 (by omega), hlen], by omega, fun j hj => ?_⟩
      rw [zi_wi_n _ _ (Or.inl (by omega)), insert_get (by omega)]
      by_cases e : j = i
      · subst e
        rw [zi_wi_s, if_neg (by omega), if_pos rfl]
      · rw [zi_wi_n _ _ (Or.inr e)]
        by_cases g : j < i
        · rw [if_pos g]; exact hB j (by omega) (by omega)
        · rw [if_neg g, if_neg e]; exact hA j (by omega) (by omega)
  | succ d ih =>
    intro m h h27 hd hA hB
    have h1 : Fr (rowP a) m (zwi m (a + 8) (i + (d + 1)) (zi m (a + 8) (i + d))) := Fr.wi m _ (Or.inr rfl)
    obtain ⟨m', e1, e2, e3⟩ := ih (zwi m (a + 8) (i + (d + 1)) (zi m (a + 8) (i + d))) (h1.Mo h) (by rw [zi_wi_n _ _ (Or.inl (by omega))]; exact h27) (by omega)
      (fun j hj hj2 => by
        by_cases e : j = i + (d + 1)
        · subst e
          rw [zi_wi_s, hB (i + d) (by omega) (by omega)]; rfl
        · rw [zi_wi_n _ _ (Or.inr e)]; exact hA j (by omega) hj2)
      (fun j hj hj2 => by rw [zi_wi_n _ _ (Or.inr (by omega))]; exact hB j (by omega) hj2)
    refine ⟨m', ?_, h1.tr e2, e3⟩
    have ea : zsub ((i + (d + 1) : Nat) : Int) 1 = ((i + d : Nat) : Int) := by rw [zsub1 (by omega) (by omega)]; rfl
    have eb : zadd ((i + (d + 1) : Nat) : Int) (-1) = ((i + d : Nat) : Int) := by rw [zadd_of (by unfold r32; omega)]; omega
    rw [j_X11_inserts_5, if_pos (by omega), if_pos h.1, h.row.1, obind, if_pos h.1, obind, ea, if_pos (h.row.2.A (by omega) (by omega)), if_pos (h.row.2.A (by omega) (by omega)), Int.toNat_natCast, Int.toNat_natCast, eb]
    exact e1
theorem m_inserts {i w : Nat} (h : MoS m a) (hv : RoV m a l) (hi : i ≤ l.length) (hl : l.length < 8) (hw : w < 16) :
    ∃ m', zF zP 329 v [.inr (.inr (some a)), .inl (i : Int), .inl (w : Int)] m = some (none, m') ∧ Fr (rowP a) m m' ∧ RoV m' a (l.insertIdx i w) := by
  obtain ⟨m', e1, e2, e3⟩ := m_inserts_loop (v := v) (a := a) (l := l) (i := i) (w := w) hl hw (l.length - i) m h hv.1 (by omega) (fun j h1 h2 => by omega) (fun j h1 h2 => hv.2.2 j h2)
  refine ⟨m', ?_, e2, e3⟩
  rw [f_X11_inserts, if_pos h.1, hv.1, show (l.length : Int) = ((i + (l.length - i) : Nat) : Int) by omega]
  exact e1
theorem erase_mid (p t : List Nat) (x : Nat) : (p ++ (x :: t)).eraseIdx p.length = p ++ t := by
  rw [List.eraseIdx_append_of_length_le (Nat.le_refl _), Nat.sub_self]; rfl
/-- from the last place down to i: WORDS alike are dropped -/
theorem m_deletes_loop {i w : Nat} {e : zEd} (he : e.1 = 1 ∧ e.2.1 = w ∧ e.2.2.2 = true) (l1 : List Nat) (hl : l1.length ≤ 8) : ∀ (d : Nat) (m : zM), MoS m a → i + d ≤ l1.length → RoV m a (l1.take (i + d) ++ eall e (l1.drop (i + d))) →
    ∃ m', zX zP 330 v 13 [some (.inr (.inr (some a))), some (.inl (i : Int)), some (.inl (w : Int)), some (.inl 1), some (.inl ((i : Int) + (d : Int) - 1))] [] m = some (none, m') ∧ Fr (rowP a) m m' ∧ RoV m' a (l1.take i ++ eall e (l1.drop i)) := by
  intro d
  induction d with
  | zero =>
    intro m h hd hv
    exact ⟨m, by rw [j_X11_deletes_13, if_pos (by omega), j_X11_deletes_46], Fr.rf _ _, hv⟩
  | succ d ih =>
    intro m h hd hv
    have ek : (i : Int) + ((d + 1 : Nat) : Int) - 1 = ((i + d : Nat) : Int) := by omega
    have eb : zadd ((i + d : Nat) : Int) (-1) = (i : Int) + (d : Int) - 1 := by rw [zadd_of (by unfold r32; omega)]; omega
    have hk : i + d < l1.length := by omega
    have htl : (l1.take (i + d)).length = i + d := by rw [List.length_take]; omega
    have et : l1.take (i + (d + 1)) ++ eall e (l1.drop (i + (d + 1))) = l1.take (i + d) ++ (l1.getD (i + d) 0 :: eall e (l1.drop (i + d + 1))) := by
      rw [show i + (d + 1) = i + d + 1 by omega, List.take_add_one, List.getD_eq_getElem?_getD, List.getElem?_eq_getElem hk, List.append_assoc]; rfl
    have ed : eall e (l1.drop (i + d)) = (if l1.getD (i + d) 0 = w then [] else [l1.getD (i + d) 0]) ++ eall e (l1.drop (i + d + 1)) := by
      have h0 : l1.drop (i + d) = l1.getD (i + d) 0 :: l1.drop (i + d + 1) := by
        rw [List.drop_eq_getElem_cons hk, List.getD_eq_getElem?_getD, List.getElem?_eq_getElem hk]; rfl
      rw [h0, eall, he.2.1, he.2.2]
      have ea : eact e = [] := by unfold eact; rw [if_neg (by omega), if_neg (by omega)]
      rw [ea]
      by_cases g : l1.getD (i + d) 0 = w
      · rw [if_pos ⟨rfl, g⟩, if_pos g]
      · rw [if_neg (fun q => g q.2), if_neg g]
    rw [et] at hv
    have h8 := hv.2.1
    have hgl : i + d < (l1.take (i + d) ++ (l1.getD (i + d) 0 :: eall e (l1.drop (i + d + 1)))).length := by rw [List.length_append, htl, List.length_cons]; omega
    have hx : zi m (a + 8) (i + d) = ((l1.getD (i + d) 0 : Nat) : Int) := by
      rw [hv.2.2 _ hgl]
      congr 1
      rw [List.getD_eq_getElem?_getD, List.getElem?_append_right (by omega), htl, Nat.sub_self]; rfl
    rw [ek, j_X11_deletes_13, if_neg (by omega), if_neg (by decide), if_pos h.1, h.row.1, obind, if_pos (h.row.2.A (by omega) (by omega)), Int.toNat_natCast, hx]
    by_cases g : l1.getD (i + d) 0 = w
    · obtain ⟨m1, e1, e2, e3⟩ := m_drops (v := 0) (i := i + d) h hv hgl
      have e4 := erase_mid (l1.take (i + d)) (eall e (l1.drop (i + d + 1))) (l1.getD (i + d) 0)
      rw [htl] at e4
      rw [e4] at e3
      rw [if_pos g, List.nil_append] at ed
      rw [← ed] at e3
      obtain ⟨m', f1, f2, f3⟩ := ih m1 (e2.Mo h) (by omega) e3
      refine ⟨m', ?_, e2.tr f2, f3⟩
      rw [if_pos (by omega), if_pos h.1, e1, zC0_s, j_X11_deletes_40, eb]
      exact f1
    · rw [if_neg g] at ed
      have e3 : RoV m a (l1.take (i + d) ++ eall e (l1.drop (i + d))) := by rw [ed]; exact hv
      obtain ⟨m', f1, f2, f3⟩ := ih m h (by omega) e3
      refine ⟨m', ?_, f2, f3⟩
      rw [if_neg (by omega), j_X11_deletes_40, eb]
      exact f1
end MODEL2
