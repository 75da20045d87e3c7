/-! A LINE of the class: an EDIT dropped. -/
section LINE3
variable {v : Nat} {m : zM} {a : Nat} {num : Int} {lost : Bool} {es : List zEd}
theorem erase_getE (l : List zEd) (k j : Nat) : (l.eraseIdx k).getD j e00 = if j < k then l.getD j e00 else l.getD (j + 1) e00 := by
  simp only [List.getD_eq_getElem?_getD, List.getElem?_eraseIdx]
  split <;> rfl
theorem s_drop_loop {i : Nat} (h4 : es.length ≤ 4) (hi : i < es.length) (hes : ∀ e ∈ es, eOk e) : ∀ (n k : Nat) (m : zM), LnS m a → i ≤ k → k + 1 + n = es.length → zi m a 1 = num → zi m a 2 = (es.length : Int) → zi m a 3 = b01 lost →
    (∀ j, j < k → zi m (a + 1) j = epk ((es.eraseIdx i).getD j e00)) → (∀ j, k < j → j < es.length → zi m (a + 1) j = epk (es.getD j e00)) →
    ∃ m', zX zP 74 v 6 [some (.inr (.inr (some a))), some (.inl (i : Int)), some (.inl (k : Int))] [] m = some (none, m') ∧ Sam m m' a (a + 2) ∧ LnV m' a num lost (es.eraseIdx i) := by
  intro n
  induction n with
  | zero =>
    intro k m h hk hn h1 h2 h3 hA hB
    have hlen : (es.eraseIdx i).length = es.length - 1 := by rw [List.length_eraseIdx, if_pos hi]
    refine ⟨zwi m a 2 (zsub (es.length : Int) 1), ?_, Sam.wi m 2 _ (Nat.le_refl _) (by omega), ?_⟩
    · rw [j_X2_drop_6, if_pos h.1, h2, zadd1 (by omega), if_neg (by omega), j_X2_drop_47, if_pos h.1, if_pos h.1, h2]
    · refine ⟨by rw [zi_wi_n _ _ (Or.inr (by decide))]; exact h1, by rw [zi_wi_s, zsub1 (by omega) (by omega), hlen], by rw [zi_wi_n _ _ (Or.inr (by decide))]; exact h3, by omega, fun e he => hes e (List.mem_of_mem_eraseIdx he), fun j hj => ?_⟩
      rw [zi_wi_n _ _ (Or.inl (by omega))]
      exact hA j (by omega)
  | succ n ih =>
    intro k m h hk hn h1 h2 h3 hA hB
    have hs : Sam m (zwi m (a + 1) k (zi m (a + 1) (k + 1))) a (a + 2) := Sam.wi m _ _ (by omega) (by omega)
    obtain ⟨m', e1, e2, e3⟩ := ih (k + 1) (zwi m (a + 1) k (zi m (a + 1) (k + 1))) (hs.Ln h) (by omega) (by omega)
      (by rw [zi_wi_n _ _ (Or.inl (by omega))]; exact h1) (by rw [zi_wi_n _ _ (Or.inl (by omega))]; exact h2) (by rw [zi_wi_n _ _ (Or.inl (by omega))]; exact h3)
      (fun j hj => by
        by_cases e : j = k
        · subst e
          rw [zi_wi_s, hB (j + 1) (by omega) (by omega), erase_getE, if_neg (by omega)]
        · rw [zi_wi_n _ _ (Or.inr e)]; exact hA j (by omega))
      (fun j hj hj2 => by rw [zi_wi_n _ _ (Or.inr (by omega))]; exact hB j (by omega) hj2)
    refine ⟨m', ?_, hs.tr e2, e3⟩
    rw [j_X2_drop_6, if_pos h.1, h2, zadd1 (by omega), if_pos (by omega), if_pos h.1, h.2.1, obind, if_pos h.Y, h.2.2.2, if_pos (by omega), if_pos h.1, obind, if_pos h.1, obind, if_pos (h.A (by omega) (by omega)), if_pos (h.A (by omega) (by omega)), Int.toNat_natCast, Int.toNat_natCast]
    exact e1
theorem s_drop {i : Nat} (h : LnS m a) (hv : LnV m a num lost es) (hi : i < es.length) :
    ∃ m', zF zP 74 v [.inr (.inr (some a)), .inl (i : Int)] m = some (none, m') ∧ Sam m m' a (a + 2) ∧ LnV m' a num lost (es.eraseIdx i) := by
  obtain ⟨v1, v2, v3, v4, v5, v6⟩ := hv
  have hz : zmax (i : Int) 0 = (i : Int) := by unfold zmax; split <;> omega
  rw [f_X2_drop, hz]
  exact s_drop_loop v4 hi v5 (es.length - (i + 1)) i m h (Nat.le_refl _) (by omega) v1 v2 v3 (fun j hj => by rw [erase_getE, if_pos hj]; exact v6 j (by omega)) (fun j hj hj2 => v6 j hj2)
end LINE3
