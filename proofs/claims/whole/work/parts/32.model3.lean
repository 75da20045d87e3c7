/-! The reference's row: deletes, reads. -/
section MODEL3
variable {v : Nat} {m : zM} {a : Nat} {l : List Nat}
theorem erase_take (l : List Nat) {p : Nat} (hp : p < l.length) : l.eraseIdx p = l.take p ++ l.drop (p + 1) := List.eraseIdx_eq_take_drop_succ l p
theorem m_deletes {p : Nat} {e : zEd} (h : MoS m a) (hv : RoV m a l) (hp : p < l.length) (he : e.1 = 1) :
    ∃ m', zF zP 330 v [.inr (.inr (some a)), .inl (p : Int), .inl (e.2.1 : Int), .inl (b01 e.2.2.2)] m = some (none, m') ∧ Fr (rowP a) m m' ∧ RoV m' a (l.take p ++ (eact e ++ eall e (l.drop (p + 1)))) := by
  have h8 := hv.2.1
  have ea : eact e = [] := by unfold eact; rw [if_neg (by omega), if_neg (by omega)]
  rw [ea, List.nil_append]
  obtain ⟨m1, e1, e2, e3⟩ := m_drops (v := 0) (i := p) h hv hp
  have hS := e2.Mo h
  rw [f_X11_deletes, if_pos h.1, e1, zC0_s, if_pos hS.1, e3.1]
  have hlen : (l.eraseIdx p).length = l.length - 1 := by rw [List.length_eraseIdx, if_pos hp]
  have htp : (l.take p).length = p := by rw [List.length_take]; omega
  have hx : zsub (((l.eraseIdx p).length : Nat) : Int) 1 = (p : Int) + ((l.length - 1 - p : Nat) : Int) - 1 := by rw [hlen, zsub_of (by unfold r32; omega)]; omega
  rw [hx]
  by_cases hall : e.2.2.2 = true
  · have hv1 : RoV m1 a ((l.eraseIdx p).take (p + (l.length - 1 - p)) ++ eall e ((l.eraseIdx p).drop (p + (l.length - 1 - p)))) := by
      rw [List.take_of_length_le (by omega), List.drop_eq_nil_of_le (by omega)]
      show RoV m1 a (l.eraseIdx p ++ [])
      rw [List.append_nil]; exact e3
    obtain ⟨m', f1, f2, f3⟩ := m_deletes_loop (v := v) (i := p) (w := e.2.1) (e := e) ⟨he, rfl, hall⟩ (l.eraseIdx p) (by omega) (l.length - 1 - p) m1 hS (by omega) hv1
    have g1 : (l.eraseIdx p).take p = l.take p := by rw [erase_take l hp, List.take_append_of_le_length (by omega), List.take_of_length_le (by omega)]
    have g2 : (l.eraseIdx p).drop p = l.drop (p + 1) := by rw [erase_take l hp, List.drop_append_of_le_length (by omega), List.drop_eq_nil_of_le (by omega)]; rfl
    rw [g1, g2] at f3
    exact ⟨m', by rw [b01_t hall]; exact f1, e2.tr f2, f3⟩
  · refine ⟨m1, ?_, e2, ?_⟩
    · rw [b01_f hall, j_X11_deletes_13]
      by_cases hc : (p : Int) + ((l.length - 1 - p : Nat) : Int) - 1 < (p : Int)
      · rw [if_pos hc, j_X11_deletes_46]
      · rw [if_neg hc, if_pos rfl, j_X11_deletes_46]
    · rw [eall_id (by simpa using hall), ← erase_take l hp]; exact e3
theorem RoV.set {k b : Nat} (hv : RoV m a l) (hk : k < l.length) : RoV (zwi m (a + 8) k (b : Int)) a (l.set k b) := by
  refine ⟨by rw [zi_wi_n _ _ (Or.inl (by omega)), List.length_set]; exact hv.1, by rw [List.length_set]; exact hv.2.1, fun j hj => ?_⟩
  rw [List.length_set] at hj
  rw [List.getD_eq_getElem?_getD, List.getElem?_set]
  by_cases e : k = j
  · subst e; rw [zi_wi_s, if_pos rfl, if_pos hk]; rfl
  · rw [zi_wi_n _ _ (Or.inr (fun q => e q.symm)), if_neg e, hv.2.2 j hj, List.getD_eq_getElem?_getD]
theorem set_mid (q r : List Nat) (x b : Nat) : (q ++ (x :: r)).set q.length b = q ++ (b :: r) := by
  rw [List.set_append_right _ _ (Nat.le_refl _), Nat.sub_self]; rfl
theorem m_reads_loop {i : Int} {e : zEd} (he : e.1 = 0 ∧ e.2.2.2 = true) : ∀ (r q : List Nat) (m : zM), MoS m a → RoV m a (q ++ r) →
    ∃ m', zX zP 331 v 12 [some (.inr (.inr (some a))), some (.inl i), some (.inl (e.2.1 : Int)), some (.inl (e.2.2.1 : Int)), some (.inl 1), some (.inl (q.length : Int))] [] m = some (none, m') ∧ Fr (rowP a) m m' ∧ RoV m' a (q ++ eall e r) := by
  intro r
  induction r with
  | nil =>
    intro q m h hv
    refine ⟨m, ?_, Fr.rf _ _, hv⟩
    rw [j_X11_reads_12, if_pos h.1, hv.1, if_neg (by rw [List.append_nil]; omega), j_X11_reads_51]
  | cons x r ih =>
    intro q m h hv
    have h8 := hv.2.1
    have hql : q.length < (q ++ (x :: r)).length := by rw [List.length_append, List.length_cons]; omega
    have hx : zi m (a + 8) q.length = (x : Int) := by
      rw [hv.2.2 _ hql]
      congr 1
      rw [List.getD_eq_getElem?_getD, List.getElem?_append_right (Nat.le_refl _), Nat.sub_self]; rfl
    have ea : eact e = [e.2.2.1] := by unfold eact; rw [if_pos he.1]
    rw [j_X11_reads_12, if_pos h.1, hv.1, if_pos (by omega), if_neg (by decide), if_pos h.1, h.row.1, obind, if_pos (h.row.2.A (by omega) (by omega)), Int.toNat_natCast, hx, eall, he.2, ea]
    by_cases g : x = e.2.1
    · have hs : Fr (rowP a) m (zwi m (a + 8) q.length (e.2.2.1 : Int)) := Fr.wi m _ (Or.inr rfl)
      have hv2 := hv.set (b := e.2.2.1) hql
      rw [set_mid, show q ++ (e.2.2.1 :: r) = (q ++ [e.2.2.1]) ++ r by rw [List.append_assoc]; rfl] at hv2
      obtain ⟨m', f1, f2, f3⟩ := ih (q ++ [e.2.2.1]) _ (hs.Mo h) hv2
      refine ⟨m', ?_, hs.tr f2, ?_⟩
      · rw [if_pos (by omega), if_pos h.1, obind, if_pos (h.row.2.A (by omega) (by omega)), j_X11_reads_45, zadd1 (by omega), show q.length + 1 = (q ++ [e.2.2.1]).length by rw [List.length_append]; rfl]
        exact f1
      · rw [if_pos ⟨rfl, g⟩, ← List.append_assoc]; exact f3
    · rw [show q ++ (x :: r) = (q ++ [x]) ++ r by rw [List.append_assoc]; rfl] at hv
      obtain ⟨m', f1, f2, f3⟩ := ih (q ++ [x]) _ h hv
      refine ⟨m', ?_, f2, ?_⟩
      · rw [if_neg (by omega), j_X11_reads_45, zadd1 (by omega), show q.length + 1 = (q ++ [x]).length by rw [List.length_append]; rfl]
        exact f1
      · rw [if_neg (fun z => g z.2), ← List.append_assoc]; exact f3
theorem m_reads {p : Nat} {e : zEd} (h : MoS m a) (hv : RoV m a l) (hp : p < l.length) (he : e.1 = 0) :
    ∃ m', zF zP 331 v [.inr (.inr (some a)), .inl (p : Int), .inl (e.2.1 : Int), .inl (e.2.2.1 : Int), .inl (b01 e.2.2.2)] m = some (none, m') ∧ Fr (rowP a) m m' ∧ RoV m' a (l.take p ++ (eact e ++ eall e (l.drop (p + 1)))) := by
  have h8 := hv.2.1
  have htp : (l.take p).length = p := by rw [List.length_take]; omega
  have ea : eact e = [e.2.2.1] := by unfold eact; rw [if_pos he]
  have hs : Fr (rowP a) m (zwi m (a + 8) p (e.2.2.1 : Int)) := Fr.wi m _ (Or.inr rfl)
  have hv2 := hv.set (b := e.2.2.1) hp
  have e0 : l.set p e.2.2.1 = (l.take p ++ [e.2.2.1]) ++ l.drop (p + 1) := by
    rw [List.set_eq_take_append_cons_drop, if_pos hp, List.append_assoc]; rfl
  rw [e0] at hv2
  have hql : (l.take p ++ [e.2.2.1]).length = p + 1 := by rw [List.length_append, htp]; rfl
  rw [ea, f_X11_reads, if_pos h.1, h.row.1, obind, if_pos (h.row.2.A (by omega) (by omega)), Int.toNat_natCast, zadd1 (by omega)]
  by_cases hall : e.2.2.2 = true
  · obtain ⟨m', f1, f2, f3⟩ := m_reads_loop (v := v) (i := (p : Int)) (e := e) ⟨he, hall⟩ (l.drop (p + 1)) (l.take p ++ [e.2.2.1]) _ (hs.Mo h) hv2
    rw [hql] at f1
    rw [List.append_assoc] at f3
    exact ⟨m', by rw [b01_t hall]; exact f1, hs.tr f2, f3⟩
  · refine ⟨_, ?_, hs, ?_⟩
    · have hS := hs.Mo h
      rw [b01_f hall, j_X11_reads_12, if_pos hS.1]
      by_cases hc : ((p + 1 : Nat) : Int) < zi (zwi m (a + 8) p (e.2.2.1 : Int)) a 27
      · rw [if_pos hc, if_pos rfl, j_X11_reads_51]
      · rw [if_neg hc, j_X11_reads_51]
    · rw [eall_id (by simpa using hall), ← List.append_assoc]; exact hv2
end MODEL3
