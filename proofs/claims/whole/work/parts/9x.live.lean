/-! LIVING: one DAY of all PEOPLE in any LAND. -/
def cnF (f : Nat → Bool) : Nat → Nat → Nat
  | 0, _ => 0
  | n + 1, k => (if f k = true then 1 else 0) + cnF f n (k + 1)
def mvB (L : zLd) (i : Nat) : Bool := !decide (lday L i (row0 L i) = row0 L i)
def mvd (L : zLd) : Nat := cnF (mvB L) L.2.2.1.length 0
def mvs (L : zLd) : Nat → Nat → Nat
  | 0, _ => 0
  | n + 1, k => mvd (mapP L (fun i => inDays L i k)) + mvs L n (k + 1)
section LIVE
variable {v : Nat} {m m' : zM} {a : Nat} {L : zLd}
theorem cnF_congr {f g : Nat → Bool} : ∀ (n k : Nat), (∀ i, k ≤ i → i < k + n → f i = g i) → cnF f n k = cnF g n k
  | 0, k, h => rfl
  | n + 1, k, h => by
    unfold cnF
    rw [h k (Nat.le_refl _) (by omega), cnF_congr n (k + 1) (fun i h1 h2 => h i (by omega) (by omega))]
theorem cnF_le (f : Nat → Bool) : ∀ (n k : Nat), cnF f n k ≤ n
  | 0, k => Nat.le_refl _
  | n + 1, k => by
    unfold cnF
    have := cnF_le f n (k + 1)
    split <;> omega
theorem cnF_0 {f : Nat → Bool} : ∀ (n k : Nat), cnF f n k = 0 → ∀ i, k ≤ i → i < k + n → f i = false
  | 0, k, h, i, h1, h2 => by omega
  | n + 1, k, h, i, h1, h2 => by
    unfold cnF at h
    by_cases hf : f k = true
    · rw [if_pos hf] at h; omega
    · rw [if_neg hf] at h
      rcases Nat.eq_or_lt_of_le h1 with e | e
      · rw [← e]; exact bool_f hf
      · exact cnF_0 n (k + 1) (by omega) i (by omega) (by omega)
theorem sz_cn (f : Nat → Bool) {n : Nat} (hn : n ≤ 6) : szF (setF f n 0 0) 8 0 0 = ((cnF f n 0 : Nat) : Int) := by
  have e : ∀ i, 0 ≤ i → i < 0 + n → f i = [f 0, f 1, f 2, f 3, f 4, f 5].getD i false := fun i _ hi => by
    rcases i with _ | _ | _ | _ | _ | _ | i
    all_goals first | rfl | omega
  rw [setF_congr n 0 0 e, cnF_congr n 0 e]
  generalize f 0 = b0; generalize f 1 = b1; generalize f 2 = b2; generalize f 3 = b3; generalize f 4 = b4; generalize f 5 = b5
  have key : ∀ (n : Fin 7) (b0 b1 b2 b3 b4 b5 : Bool), szF (setF (fun i => [b0, b1, b2, b3, b4, b5].getD i false) n.val 0 0) 8 0 0 = ((cnF (fun i => [b0, b1, b2, b3, b4, b5].getD i false) n.val 0 : Nat) : Int) := by decide +kernel
  exact key ⟨n, by omega⟩ b0 b1 b2 b3 b4 b5
/-- where nothing changes, nothing changes later -/
theorem fix_itr {α : Type} {g : α → α} {x : α} (h : g x = x) : ∀ n, itr g n x = x
  | 0 => rfl
  | n + 1 => by
    show itr g n (g x) = x
    rw [h]; exact fix_itr h n
theorem itr_add {α : Type} (g : α → α) : ∀ (n k : Nat) (x : α), itr g (n + k) x = itr g n (itr g k x)
  | n, 0, x => rfl
  | n, k + 1, x => by
    show itr g (n + k) (g x) = _
    rw [itr_add g n k (g x)]; rfl
theorem mvd_0 {k : Nat} (h : mvd (mapP L (fun i => inDays L i k)) = 0) {i : Nat} (hi : i < L.2.2.1.length) : lday L i (inDays L i k) = inDays L i k := by
  unfold mvd at h
  rw [mapP_len] at h
  have := cnF_0 _ 0 h i (Nat.zero_le _) (by omega)
  unfold mvB at this
  rw [mapP_lday _ _ hi, mapP_row _ _ hi] at this
  by_cases c : lday L i (inDays L i k) = inDays L i k
  · exact c
  · rw [decide_eq_false c] at this; cases this
theorem mvd_fix {k : Nat} (h : mvd (mapP L (fun i => inDays L i k)) = 0) (j : Nat) : mapP L (fun i => inDays L i (j + k)) = mapP L (fun i => inDays L i k) := mapP_congr (fun i hi => by
  unfold inDays
  rw [itr_add]
  exact fix_itr (mvd_0 h hi) j)
theorem mvs_0 {k : Nat} (h : mvd (mapP L (fun i => inDays L i k)) = 0) : ∀ (n j : Nat), mvs L n (j + k) = 0
  | 0, j => rfl
  | n + 1, j => by
    unfold mvs
    rw [mvd_fix h j, h, show j + k + 1 = (j + 1) + k by omega, mvs_0 h n (j + 1)]
theorem mvd_td (L : zLd) (x : Int) : mvd (tdSet L x) = mvd L := rfl
theorem s_putAll_loop (L : zLd) : ∀ (n k acc : Nat) (f : Nat → List Nat) (m : zM) (u3 u4 u5 u6 u7 : Option zV), acc + n < 1000 → LdS m a → LdV m a (mapP L f) → (∀ i, i < L.2.2.1.length → rOk (row0 L i)) → k + n = L.2.2.1.length → (∀ i, f i = if i < k then lday L i (row0 L i) else row0 L i) →
    ∃ m', zX zP 53 v 4 [some ((.inr (.inr (some a)))), some (.inl (acc : Int)), some (.inl (k : Int)), u3, u4, u5, u6, u7] [] m = some (some (.inl ((acc + cnF (mvB L) n k : Nat) : Int)), m') ∧ Sam m m' (a + 7) (a + 8) ∧ LdV m' a (mapP L (fun i => lday L i (row0 L i))) := by
  intro n
  induction n with
  | zero =>
    intro k acc f m u3 u4 u5 u6 u7 ha h hL hr hk hf
    have p1 : zi m a 10 = (L.2.2.1.length : Int) := by rw [hL.2.2.1.1, mapP_len]
    refine ⟨m, ?_, Sam.rf _ _ _, ?_⟩
    · rw [j_X0_putAllRight_4, if_pos h.1, p1, if_neg (by omega), j_X0_putAllRight_73]; rfl
    · have e2 : mapP L f = mapP L (fun i => lday L i (row0 L i)) := mapP_congr (fun i hi => by rw [hf, if_pos (by omega)])
      rw [← e2]; exact hL
  | succ n ih =>
    intro k acc f m u3 u4 u5 u6 u7 ha h hL hr hk hf
    have hk' : k < L.2.2.1.length := by omega
    have p1 : zi m a 10 = (L.2.2.1.length : Int) := by rw [hL.2.2.1.1, mapP_len]
    have h6 : L.2.2.1.length ≤ 6 := by have := hL.2.2.1.2.1; rw [mapP_len] at this; exact this
    have hkm : k < (mapP L f).2.2.1.length := by rw [mapP_len]; exact hk'
    obtain ⟨q1, q2, q3, q4, q5⟩ := hL.2.2.1.2.2 k hkm
    rw [mapP_get L f hk'] at q2 q3 q4 q5
    have hfk : f k = row0 L k := by rw [hf, if_neg (Nat.lt_irrefl _)]
    have q3' : zl m (a + 7) k = zrow (row0 L k) := by rw [q3]; show zrow (f k) = _; rw [hfk]
    have q2' : zi m (a + 6) k = ((L.2.2.1.getD k ps0).2.1 : Int) := q2
    have q5' : (L.2.2.1.getD k ps0).2.1 < L.2.1.length := q5
    have l8 : L.2.1.length ≤ 8 := hL.2.1.2.1
    obtain ⟨d1, d2⟩ := h.2.2.2.2.2 (L.2.2.1.getD k ps0).2.1 (by omega)
    have hv : LnV m (a + 12 + 2 * (L.2.2.1.getD k ps0).2.1) (L.2.1.getD (L.2.2.1.getD k ps0).2.1 ln0).1 (L.2.1.getD (L.2.2.1.getD k ps0).2.1 ln0).2.1 (L.2.1.getD (L.2.2.1.getD k ps0).2.1 ln0).2.2 := hL.2.1.2.2 _ q5'
    have hok := hr k hk'
    have hlo : rOk (lday L k (row0 L k)) := by
      have hok2 := lday_ok (p := k) (l := row0 L k) hL hkm hok
      rw [mapP_lday _ _ hk'] at hok2; exact hok2
    have s47 : zX zP 53 v 4 [some ((.inr (.inr (some a)))), some (.inl (acc : Int)), some (.inl (k : Int)), u3, u4, u5, u6, u7] [] m = zX zP 53 v 47 [some ((.inr (.inr (some a)))), some (.inl (acc : Int)), some (.inl (k : Int)), some ((.inr (.inr (some (a + 12 + 2 * (L.2.2.1.getD k ps0).2.1))))), some (.inr (.inl (zrow (row0 L k)))), none, u6, u7] [.inr (.inl (zrow (lday L k (row0 L k))))] m := by
      rw [j_X0_putAllRight_4, if_pos h.1, p1, if_pos (by omega), if_pos h.1, s_placeAt h (by omega), zC1_s, if_pos h.1, q2', s_lineAt h (by omega), zC4_s, if_pos h.1, s_rowAt h (by omega), q3']
      show (if zT m _ 2 = true then _ else none) = _
      rw [if_pos d2.1, hv.2.2.1]
      unfold lday
      by_cases hb : (L.2.1.getD (L.2.2.1.getD k ps0).2.1 ln0).2.1 = true
      · rw [b01_t hb, if_neg (by decide), if_pos hb]
      · rw [b01_f hb, if_pos rfl, if_neg hb, j_X0_putAllRight_41, if_pos d2.1, s_putRight d2 hv hok, zC2_s]
    rw [s47, j_X0_putAllRight_47]
    unfold cnF mvB
    by_cases e : lday L k (row0 L k) = row0 L k
    · obtain ⟨m', i1, i2, i3⟩ := ih (k + 1) acc f m (some ((.inr (.inr (some (a + 12 + 2 * (L.2.2.1.getD k ps0).2.1)))))) (some (.inr (.inl (zrow (row0 L k))))) none (some (.inr (.inl (zrow (lday L k (row0 L k)))))) none (by omega) h hL hr (by omega) (fun i => by
        rw [hf i]
        by_cases g : i < k
        · rw [if_pos g, if_pos (by omega)]
        · rw [if_neg g]
          by_cases g2 : i = k
          · subst g2; rw [if_pos (by omega), e]
          · rw [if_neg (by omega)])
      refine ⟨m', ?_, i2, i3⟩
      rw [if_pos (zlcmp_eq.mpr (by rw [e])), j_X0_putAllRight_67, zadd1 (by omega), decide_eq_true e, if_neg (by decide), Nat.zero_add]
      exact i1
    · have hne : ¬ zrow (lday L k (row0 L k)) = zrow (row0 L k) := fun z => e (zrow_inj hlo hok z)
      have hs : Sam m (zwl m (a + 7) k (zrow (lday L k (row0 L k)))) (a + 7) (a + 8) := Sam.wl m _ _ (by omega) (by omega)
      have hL2 : LdV (zwl m (a + 7) k (zrow (lday L k (row0 L k)))) a (mapP L (fun i => if i = k then lday L k (row0 L k) else f i)) := by
        rw [← mapP_set L f hk']; exact hL.say hkm hlo
      obtain ⟨m', i1, i2, i3⟩ := ih (k + 1) (acc + 1) (fun i => if i = k then lday L k (row0 L k) else f i) _ (some ((.inr (.inr (some (a + 12 + 2 * (L.2.2.1.getD k ps0).2.1)))))) (some (.inr (.inl (zrow (row0 L k))))) none (some (.inr (.inl (zrow (lday L k (row0 L k)))))) none (by omega) (hs.Ld h) hL2 hr (by omega) (fun i => by
        by_cases g2 : i = k
        · subst g2; rw [if_pos rfl, if_pos (by omega)]
        · rw [if_neg g2, hf i]
          by_cases g : i < k
          · rw [if_pos g, if_pos (by omega)]
          · rw [if_neg g, if_neg (by omega)])
      refine ⟨m', ?_, hs.tr i2, i3⟩
      rw [if_neg (fun z => hne (zlcmp_eq.mp z)), if_pos h.1, s_say h (by omega), zC0_s, j_X0_putAllRight_67, zadd1 (by omega), zadd1 (by omega), decide_eq_false e, if_pos (by decide), show acc + (1 + cnF (fun i => !decide (lday L i (row0 L i) = row0 L i)) n (k + 1)) = acc + 1 + cnF (fun i => !decide (lday L i (row0 L i) = row0 L i)) n (k + 1) by omega]
      exact i1
theorem s_putAll (h : LdS m a) (hL : LdV m a L) : ∃ m', zF zP 53 v [(.inr (.inr (some a)))] m = some (some (.inl (mvd L : Int)), m') ∧ Sam m m' (a + 7) (a + 8) ∧ LdV m' a (mapP L (fun i => lday L i (row0 L i))) := by
  have h6 : L.2.2.1.length ≤ 6 := hL.2.2.1.2.1
  have e : mapP L (fun i => row0 L i) = L := mapP_id (fun i _ => rfl)
  obtain ⟨m', i1, i2, i3⟩ := s_putAll_loop (v := v) (a := a) L L.2.2.1.length 0 0 (fun i => row0 L i) m none none none none none (by omega) h (by rw [e]; exact hL) (fun i hi => (hL.rowOk hi).2) (by omega) (fun i => by rw [if_neg (Nat.not_lt_zero i)])
  refine ⟨m', ?_, i2, i3⟩
  rw [f_X0_putAllRight]
  rw [Nat.zero_add] at i1
  exact i1
end LIVE
