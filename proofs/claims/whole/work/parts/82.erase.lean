/-! WORDS that no EDIT looks for may be left out of a ROW. -/
def er (p : Nat → Bool) : List Nat → List Nat → Prop
  | [], c' => c' = []
  | x :: c, c' => (p x = false ∧ er p c c') ∨ (∃ r, c' = x :: r ∧ er p c r)
section ERASE
variable {p : Nat → Bool}
theorem er_len : ∀ (c c' : List Nat), er p c c' → c'.length ≤ c.length
  | [], c', h => by rw [show c' = [] from h]; exact Nat.le_refl _
  | x :: c, c', h => by
    rcases h with ⟨_, h⟩ | ⟨r, rfl, h⟩
    · exact Nat.le_succ_of_le (er_len c c' h)
    · exact Nat.succ_le_succ (er_len c r h)
theorem er_rf : ∀ c : List Nat, er p c c
  | [] => rfl
  | x :: c => Or.inr ⟨c, rfl, er_rf c⟩
theorem er_app : ∀ (a a' b b' : List Nat), er p a a' → er p b b' → er p (a ++ b) (a' ++ b')
  | [], a', b, b', h, h' => by rw [show a' = [] from h]; exact h'
  | x :: a, a', b, b', h, h' => by
    rcases h with ⟨q, h⟩ | ⟨r, rfl, h⟩
    · exact Or.inl ⟨q, er_app a a' b b' h h'⟩
    · exact Or.inr ⟨r ++ b', rfl, er_app a r b b' h h'⟩
theorem er_filter : ∀ c : List Nat, er p c (c.filter p)
  | [] => rfl
  | x :: c => by
    by_cases h : p x = true
    · rw [List.filter_cons_of_pos h]; exact Or.inr ⟨_, rfl, er_filter c⟩
    · rw [List.filter_cons_of_neg h]; exact Or.inl ⟨bool_f h, er_filter c⟩
theorem er_eall {e : zEd} (he : p e.2.1 = true) : ∀ (c c' : List Nat), er p c c' → er p (eall e c) (eall e c')
  | [], c', h => by rw [show c' = [] from h]; exact er_rf _
  | x :: c, c', h => by
    rcases h with ⟨q, h⟩ | ⟨r, rfl, h⟩
    · have hx : ¬ (e.2.2.2 = true ∧ x = e.2.1) := fun w => by rw [w.2, he] at q; cases q
      have e1 : eall e (x :: c) = [x] ++ eall e c := by
        show (if e.2.2.2 = true ∧ x = e.2.1 then eact e else [x]) ++ eall e c = _
        rw [if_neg hx]
      rw [e1]
      exact Or.inl ⟨q, er_eall he c c' h⟩
    · exact er_app _ _ _ _ (er_rf _) (er_eall he c r h)
theorem er_efst {e : zEd} (he : p e.2.1 = true) : ∀ (c c' d : List Nat), er p c c' → efst e c = some d → ∃ d', efst e c' = some d' ∧ er p d d'
  | [], c', d, h, hd => by cases hd
  | x :: c, c', d, h, hd => by
    have hd' : (if x = e.2.1 then some (eact e ++ eall e c) else (efst e c).map (x :: ·)) = some d := hd
    rcases h with ⟨q, h⟩ | ⟨r, rfl, h⟩
    · have hx : ¬ x = e.2.1 := fun w => by rw [w, he] at q; cases q
      rw [if_neg hx] at hd'
      cases g : efst e c with
      | none => rw [g] at hd'; cases hd'
      | some f =>
        rw [g] at hd'
        obtain ⟨d', i1, i2⟩ := er_efst he c c' f h g
        have e2 : x :: f = d := Option.some.inj hd'
        subst e2
        exact ⟨d', i1, Or.inl ⟨q, i2⟩⟩
    · by_cases hx : x = e.2.1
      · rw [if_pos hx] at hd'
        refine ⟨eact e ++ eall e r, ?_, ?_⟩
        · show (if x = e.2.1 then some (eact e ++ eall e r) else (efst e r).map (x :: ·)) = _
          rw [if_pos hx]
        · rw [← Option.some.inj hd']
          exact er_app _ _ _ _ (er_rf _) (er_eall he c r h)
      · rw [if_neg hx] at hd'
        cases g : efst e c with
        | none => rw [g] at hd'; cases hd'
        | some f =>
          rw [g] at hd'
          obtain ⟨d', i1, i2⟩ := er_efst he c r f h g
          have e2 : x :: f = d := Option.some.inj hd'
          subst e2
          refine ⟨x :: d', ?_, Or.inr ⟨d', rfl, i2⟩⟩
          show (if x = e.2.1 then some (eact e ++ eall e r) else (efst e r).map (x :: ·)) = _
          rw [if_neg hx, i1]; rfl
theorem er_edone {e : zEd} (ho : eOk e) (he : p e.2.1 = true) {c c' d : List Nat} (h : er p c c') (hd : edone e c = some d) : ∃ d', edone e c' = some d' ∧ er p d d' := by
  rw [edone_spec ho] at hd ⊢
  unfold espec at hd ⊢
  have hl := er_len c c' h
  by_cases q : e.1 = 2 ∧ ¬ c.length < 8
  · rw [if_pos q] at hd; cases hd
  · rw [if_neg q] at hd
    rw [if_neg (fun w => q ⟨w.1, fun z => w.2 (by omega)⟩)]
    exact er_efst he c c' d h hd
theorem er_lall : ∀ (es : List zEd) (c c' : List Nat), (∀ e ∈ es, eOk e ∧ p e.2.1 = true) → er p c c' → (lall es c).isSome = true → (lall es c').isSome = true
  | [], c, c', _, _, _ => rfl
  | e :: r, c, c', he, h, hs => by
    have h0 := he e List.mem_cons_self
    unfold lall at hs ⊢
    cases g : edone e c with
    | none => rw [g] at hs; cases hs
    | some d =>
      rw [g] at hs
      obtain ⟨d', i1, i2⟩ := er_edone h0.1 h0.2 h g
      rw [i1]
      exact er_lall r d d' (fun e' q => he e' (List.mem_cons_of_mem _ q)) i2 hs
/-- a WORD that no EDIT looks for stays -/
theorem mem_eall {e : zEd} {u : Nat} (hu : u ≠ e.2.1) : ∀ c : List Nat, u ∈ c → u ∈ eall e c
  | [], h => nomatch h
  | x :: c, h => by
    show u ∈ (if e.2.2.2 = true ∧ x = e.2.1 then eact e else [x]) ++ eall e c
    rcases List.mem_cons.mp h with rfl | h
    · rw [if_neg (fun w => hu w.2)]
      exact List.mem_append_left _ (List.mem_singleton.mpr rfl)
    · exact List.mem_append_right _ (mem_eall hu c h)
theorem mem_efst {e : zEd} {u : Nat} (hu : u ≠ e.2.1) : ∀ c d : List Nat, u ∈ c → efst e c = some d → u ∈ d
  | [], d, h, _ => nomatch h
  | x :: c, d, h, hd => by
    have hd' : (if x = e.2.1 then some (eact e ++ eall e c) else (efst e c).map (x :: ·)) = some d := hd
    by_cases hx : x = e.2.1
    · rw [if_pos hx] at hd'
      rw [← Option.some.inj hd']
      rcases List.mem_cons.mp h with rfl | h
      · exact absurd hx hu
      · exact List.mem_append_right _ (mem_eall hu c h)
    · rw [if_neg hx] at hd'
      cases g : efst e c with
      | none => rw [g] at hd'; cases hd'
      | some f =>
        rw [g] at hd'
        have e2 : x :: f = d := Option.some.inj hd'
        subst e2
        rcases List.mem_cons.mp h with rfl | h
        · exact List.mem_cons_self
        · exact List.mem_cons_of_mem _ (mem_efst hu c f h g)
theorem mem_lall {u : Nat} : ∀ (es : List zEd) (c d : List Nat), (∀ e ∈ es, eOk e ∧ u ≠ e.2.1) → u ∈ c → lall es c = some d → u ∈ d
  | [], c, d, _, h, hd => by
    have : some c = some d := hd
    rw [← Option.some.inj this]; exact h
  | e :: r, c, d, he, h, hd => by
    have h0 := he e List.mem_cons_self
    unfold lall at hd
    cases g : edone e c with
    | none => rw [g] at hd; cases hd
    | some f =>
      rw [g] at hd
      have g' := g
      rw [edone_spec h0.1] at g'
      unfold espec at g'
      by_cases q : e.1 = 2 ∧ ¬ c.length < 8
      · rw [if_pos q] at g'; cases g'
      · rw [if_neg q] at g'
        exact mem_lall r f d (fun e' w => he e' (List.mem_cons_of_mem _ w)) (mem_efst h0.2 c f h g') hd
theorem find_filter (P q : List Nat → Bool) : ∀ R : List (List Nat), (∀ c ∈ R, P c = true → q c = true) → (R.filter q).find? P = R.find? P
  | [], _ => rfl
  | c :: R, h => by
    have ih := find_filter P q R (fun c' w => h c' (List.mem_cons_of_mem _ w))
    by_cases hq : q c = true
    · rw [List.filter_cons_of_pos hq, List.find?_cons, List.find?_cons, ih]
    · have hp : P c = false := bool_f (fun w => hq (h c List.mem_cons_self w))
      rw [List.filter_cons_of_neg hq, List.find?_cons, hp, ih]
theorem cnt_filter (P q : List Nat → Bool) : ∀ (R : List (List Nat)) (acc : Int), (∀ c ∈ R, P c = true → q c = true) → cntT P (R.filter q) acc = cntT P R acc
  | [], _, _ => rfl
  | c :: R, acc, h => by
    have ih := fun a => cnt_filter P q R a (fun c' w => h c' (List.mem_cons_of_mem _ w))
    by_cases hq : q c = true
    · rw [List.filter_cons_of_pos hq]
      exact ih _
    · have hp : ¬ P c = true := fun w => hq (h c List.mem_cons_self w)
      rw [List.filter_cons_of_neg hq]
      show _ = cntT P R (if P c = true then zadd acc 1 else acc)
      rw [if_neg hp]
      exact ih acc
/-- all rows of WORDS 0 .. W-1 of a length -/
theorem rws_all {ws : List Nat} : ∀ (n : Nat) (x : List Nat), x.length = n → (∀ w ∈ x, w ∈ ws) → x ∈ rws ws n
  | 0, x, h, _ => by
    rw [List.length_eq_zero_iff.mp h]; exact List.mem_singleton.mpr rfl
  | n + 1, [], h, _ => by cases h
  | n + 1, w :: x, h, hw => (fmp_mem ws).mpr ⟨w, hw w List.mem_cons_self, x, rws_all n x (Nat.succ.inj h) (fun u hu => hw u (List.mem_cons_of_mem _ hu)), rfl⟩
theorem fsz_same {es : List zEd} (he : ∀ e ∈ es, eOk e ∧ p e.2.1 = true) (ws : List Nat) : ∀ (n k : Nat), (∀ j, j < k → ∀ c ∈ rws ws j, ¬ (lall es c).isSome = true) →
    fsz (fun c => (lall es c).isSome) (ws.filter p) n k = fsz (fun c => (lall es c).isSome) ws n k
  | 0, _, _ => rfl
  | n + 1, k, h => by
    have e1 : (rws (ws.filter p) k).find? (fun c => (lall es c).isSome) = (rws ws k).find? (fun c => (lall es c).isSome) := by
      rw [rws_filter]
      refine find_filter _ _ _ (fun c hc hP => ?_)
      obtain ⟨c1, c2⟩ := rws_mem k c hc
      have hf := er_lall es c (c.filter p) he (er_filter c) hP
      by_cases q : c.all p = true
      · exact q
      · have hlt : (c.filter p).length < k := by
          rw [← c1]
          refine Nat.lt_of_le_of_ne (List.length_filter_le _ _) (fun w => q ?_)
          rw [List.all_eq_true]
          exact List.length_filter_eq_length_iff.mp w
        exact absurd hf (h _ hlt _ (rws_all _ _ rfl (fun u hu => c2 u (List.mem_filter.mp hu).1)))
    unfold fsz
    rw [e1]
    cases g : (rws ws k).find? (fun c => (lall es c).isSome) with
    | some c => rfl
    | none =>
      exact fsz_same he ws n (k + 1) (fun j hj c hc => by
        by_cases hjk : j = k
        · subst hjk
          exact List.find?_eq_none.mp g c hc
        · exact h j (by omega) c hc)
end ERASE
/-- what is sought, as a Nat -/
theorem sought_nat {W : Nat} (hW : W ≤ 8) : ∀ (es : List zEd) (a : Nat), (∀ e ∈ es, e.2.1 < W) → a < 2 ^ W → ∃ s : Nat, soughtE es (a : Int) = (s : Int) ∧ s < 2 ^ W ∧ ∀ k, s.testBit k = (a.testBit k || es.any (fun e => decide (e.2.1 = k)))
  | [], a, _, ha => ⟨a, rfl, ha, fun k => by rw [List.any_nil, Bool.or_false]⟩
  | e :: r, a, h, ha => by
    have h0 := h e List.mem_cons_self
    have p8 : 2 ^ W ≤ 2 ^ 8 := Nat.pow_le_pow_right (by decide) hW
    have p1 : 2 ^ e.2.1 < 2 ^ W := Nat.pow_lt_pow_right (by decide) h0
    have hz : zor (a : Int) (zshl 1 (e.2.1 : Int)) = ((a ||| 2 ^ e.2.1 : Nat) : Int) := by
      rw [zshl1 (by omega)]
      exact zor_nat (by omega) (by omega)
    obtain ⟨s, i1, i2, i3⟩ := sought_nat hW r (a ||| 2 ^ e.2.1) (fun e' q => h e' (List.mem_cons_of_mem _ q)) (Nat.or_lt_two_pow ha p1)
    refine ⟨s, ?_, i2, fun k => ?_⟩
    · show soughtE r (zor (a : Int) (zshl 1 (e.2.1 : Int))) = _
      rw [hz]; exact i1
    · rw [i3 k, Nat.testBit_or, Nat.testBit_two_pow, List.any_cons, Bool.or_assoc]
theorem rset_nat {W : Nat} (hW : W ≤ 8) : ∀ (l : List Nat) (a : Nat), (∀ x ∈ l, x < W) → a < 2 ^ W → ∃ s : Nat, rsetF l (a : Int) = (s : Int) ∧ s < 2 ^ W ∧ ∀ k, s.testBit k = (a.testBit k || l.any (fun x => decide (x = k)))
  | [], a, _, ha => ⟨a, rfl, ha, fun k => by rw [List.any_nil, Bool.or_false]⟩
  | e :: r, a, h, ha => by
    have h0 := h e List.mem_cons_self
    have p8 : 2 ^ W ≤ 2 ^ 8 := Nat.pow_le_pow_right (by decide) hW
    have p1 : 2 ^ e < 2 ^ W := Nat.pow_lt_pow_right (by decide) h0
    have hz : zor (a : Int) (zshl 1 (e : Int)) = ((a ||| 2 ^ e : Nat) : Int) := by
      rw [zshl1 (by omega)]
      exact zor_nat (by omega) (by omega)
    obtain ⟨s, i1, i2, i3⟩ := rset_nat hW r (a ||| 2 ^ e) (fun e' q => h e' (List.mem_cons_of_mem _ q)) (Nat.or_lt_two_pow ha p1)
    refine ⟨s, ?_, i2, fun k => ?_⟩
    · show rsetF r (zor (a : Int) (zshl 1 (e : Int))) = _
      rw [hz]; exact i1
    · rw [i3 k, Nat.testBit_or, Nat.testBit_two_pow, List.any_cons, Bool.or_assoc]
