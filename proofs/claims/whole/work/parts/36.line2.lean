/-! A LINE of the class is changed. -/
section LINE2
variable {v : Nat} {m : zM} {a : Nat} {num : Int} {lost : Bool} {es : List zEd}
theorem s_lbecome {x : Int} (h : LnS m a) : ∃ m', zF zP 21 v [.inr (.inr (some a)), .inl x] m = some (none, m') ∧ Sam m m' a (a + 2) ∧ LnV m' a x false [] := by
  refine ⟨zwi (zwi (zwi m a 1 x) a 2 0) a 3 0, ?_, ((Sam.wi m 1 x (Nat.le_refl _) (by omega)).tr (Sam.wi _ 2 0 (Nat.le_refl _) (by omega))).tr (Sam.wi _ 3 0 (Nat.le_refl _) (by omega)), ?_⟩
  · rw [f_X2_become, if_pos h.1, if_pos (show zT (zwi m a 1 x) a 2 = true from h.1), if_pos (show (zT (zwi (zwi m a 1 x) a 2 0) a 2 && zb 0) = true from by rw [show zT (zwi (zwi m a 1 x) a 2 0) a 2 = true from h.1]; rfl)]
  · refine ⟨?_, ?_, ?_, by decide, fun e he => absurd he List.not_mem_nil, fun i hi => absurd hi (Nat.not_lt_zero i)⟩
    · rw [zi_wi_n _ _ (Or.inr (by decide)), zi_wi_n _ _ (Or.inr (by decide)), zi_wi_s]
    · rw [zi_wi_n _ _ (Or.inr (by decide)), zi_wi_s]; rfl
    · rw [zi_wi_s]; rfl
theorem s_add {e : zEd} (h : LnS m a) (hv : LnV m a num lost es) (h4 : es.length < 4) (he : eOk e) :
    ∃ m', zF zP 73 v [.inr (.inr (some a)), .inl (epk e)] m = some (none, m') ∧ Sam m m' a (a + 2) ∧ LnV m' a num lost (es ++ [e]) := by
  obtain ⟨v1, v2, v3, v4, v5, v6⟩ := hv
  have s1 : Sam m (zwi m (a + 1) es.length (epk e)) a (a + 2) := Sam.wi m _ _ (by omega) (by omega)
  have hlen : (es ++ [e]).length = es.length + 1 := by rw [List.length_append]; rfl
  refine ⟨zwi (zwi m (a + 1) es.length (epk e)) a 2 ((es.length + 1 : Nat) : Int), ?_, s1.tr (Sam.wi _ 2 _ (Nat.le_refl _) (by omega)), ?_⟩
  · rw [f_X2_add, if_pos h.1, v2, if_neg (by omega), if_pos h.1, if_pos h.1, h.2.1, obind, if_pos h.Y, h.2.2.2, if_pos (by omega), if_pos h.1, obind, if_pos h.1, if_pos (h.A (by omega) (by omega)), Int.toNat_natCast, if_pos (s1.Ln h).1, if_pos (s1.Ln h).1, zi_wi_n _ _ (Or.inl (by omega)), v2, zadd1 (by omega), j_X2_add_39]
  · refine ⟨?_, ?_, ?_, by omega, ?_, fun i hi => ?_⟩
    · rw [zi_wi_n _ _ (Or.inr (by decide)), zi_wi_n _ _ (Or.inl (by omega))]; exact v1
    · rw [zi_wi_s, hlen]
    · rw [zi_wi_n _ _ (Or.inr (by decide)), zi_wi_n _ _ (Or.inl (by omega))]; exact v3
    · intro x hx
      rcases List.mem_append.mp hx with q | q
      · exact v5 x q
      · rw [List.mem_singleton.mp q]; exact he
    · rw [hlen] at hi
      rw [zi_wi_n _ _ (Or.inl (by omega)), List.getD_eq_getElem?_getD]
      by_cases g : i = es.length
      · subst g
        rw [zi_wi_s, List.getElem?_append_right (Nat.le_refl _), Nat.sub_self]; rfl
      · rw [zi_wi_n _ _ (Or.inr g), v6 i (by omega), List.getElem?_append_left (by omega), List.getD_eq_getElem?_getD]
end LINE2
