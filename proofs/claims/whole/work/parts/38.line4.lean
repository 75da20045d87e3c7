/-! A LINE of the class: two EDITS exchanged. -/
section LINE4
variable {v : Nat} {m : zM} {a : Nat} {num : Int} {lost : Bool} {es : List zEd}
theorem s_exchange {i j : Nat} (h : LnS m a) (hv : LnV m a num lost es) (hi : i < es.length) (hj : j < es.length) :
    ∃ m', zF zP 75 v [.inr (.inr (some a)), .inl (i : Int), .inl (j : Int)] m = some (none, m') ∧ Sam m m' a (a + 2) ∧ LnV m' a num lost ((es.set i (es.getD j e00)).set j (es.getD i e00)) := by
  obtain ⟨v1, v2, v3, v4, v5, v6⟩ := hv
  have s1 : Sam m (zwi m (a + 1) i (zi m (a + 1) j)) a (a + 2) := Sam.wi m _ _ (by omega) (by omega)
  have hS := s1.Ln h
  refine ⟨zwi (zwi m (a + 1) i (zi m (a + 1) j)) (a + 1) j (zi m (a + 1) i), ?_, s1.tr (Sam.wi _ _ _ (by omega) (by omega)), ?_⟩
  · rw [f_X2_exchange, if_neg (by omega), if_pos h.1, h.2.1, obind, if_pos h.Y, h.2.2.2, if_pos (by omega), if_neg (by omega), if_pos h.1, obind, if_pos h.Y, h.2.2.2, if_pos (by omega), if_pos h.1, obind, if_pos (h.A (by omega) (by omega)), if_pos h.1, obind, if_pos h.1, obind, if_pos (h.A (by omega) (by omega)), if_pos (h.A (by omega) (by omega)), Int.toNat_natCast, Int.toNat_natCast, if_pos hS.1, hS.2.1, obind, if_pos (hS.A (by omega) (by omega)), j_X2_exchange_52]
  · refine ⟨by rw [zi_wi_n _ _ (Or.inl (by omega)), zi_wi_n _ _ (Or.inl (by omega))]; exact v1, by rw [zi_wi_n _ _ (Or.inl (by omega)), zi_wi_n _ _ (Or.inl (by omega)), List.length_set, List.length_set]; exact v2, by rw [zi_wi_n _ _ (Or.inl (by omega)), zi_wi_n _ _ (Or.inl (by omega))]; exact v3, by rw [List.length_set, List.length_set]; exact v4, ?_, ?_⟩
    · intro e he
      rcases List.mem_or_eq_of_mem_set he with q | q
      · rcases List.mem_or_eq_of_mem_set q with q2 | q2
        · exact v5 e q2
        · rw [q2]; exact es_ok v5 j
      · rw [q]; exact es_ok v5 i
    · intro k hk
      rw [List.length_set, List.length_set] at hk
      rw [List.getD_eq_getElem?_getD, List.getElem?_set, List.length_set]
      by_cases g : j = k
      · subst g
        rw [zi_wi_s, if_pos rfl, if_pos hj, v6 i hi]; rfl
      · rw [zi_wi_n _ _ (Or.inr (fun q => g q.symm)), if_neg g, List.getElem?_set]
        by_cases g2 : i = k
        · subst g2
          rw [zi_wi_s, if_pos rfl, if_pos hi, v6 j hj]; rfl
        · rw [zi_wi_n _ _ (Or.inr (fun q => g2 q.symm)), if_neg g2, v6 k hk, List.getD_eq_getElem?_getD]
end LINE4
