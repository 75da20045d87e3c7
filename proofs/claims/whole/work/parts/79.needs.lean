/-! The class's shortest ROW that a LINE NEEDS. -/
section NEEDS
variable {v : Nat} {m : zM}
theorem zrow_pos (l : List Nat) : ¬ zrow l = -1 := by
  show ¬ ((pw l : Nat) : Int) = -1
  omega
theorem s_needs_in {a : Nat} {na : Int} {la : Bool} {ea : List zEd} (hA : LnS m a) (hvA : LnV m a na la ea) {s f : Nat} {E : List Nat → Prop} {x2 : Int} {M : Nat} (hM : M < 1000000) : ∀ (R : List (List Nat)) (k : Nat) (y : Int), k + R.length = M → (∀ c r, R = c :: r → y = zrow c ∧ chE (s : Int) f E R) → (∀ c ∈ R, rOk c ∧ zF zP 86 0 [.inr (.inl (zrow c)), .inl (s : Int)] m = some (some (.inr (.inl (zrow ((nx (s : Int) f c).getD (List.replicate c.length f))))), m)) →
    (∀ c, R.find? (fun c => (lall ea c).isSome) = some c → zX zP 91 v 28 [some ((.inr (.inr (some a)))), some (.inl (s : Int)), some (.inl x2), some (.inl (M : Int)), some (.inr (.inl y)), none, some (.inl (k : Int))] [] m = some (some (.inr (.inl (zrow c))), m)) ∧
    (R.find? (fun c => (lall ea c).isSome) = none → ∃ u3 u4 u5 u6, zX zP 91 v 28 [some ((.inr (.inr (some a)))), some (.inl (s : Int)), some (.inl x2), some (.inl (M : Int)), some (.inr (.inl y)), none, some (.inl (k : Int))] [] m = zX zP 91 v 7 [some ((.inr (.inr (some a)))), some (.inl (s : Int)), some (.inl (zadd x2 1)), u3, u4, u5, u6] [] m) := by
  intro R
  induction R with
  | nil =>
    intro k y hk hy hR
    refine ⟨fun c h => (nomatch h), fun _ => ⟨some (.inl (M : Int)), some (.inr (.inl y)), none, some (.inl (k : Int)), ?_⟩⟩
    rw [j_X4_shortestNeeded_28, if_neg (by have : k + 0 = M := hk; omega), j_X4_shortestNeeded_64]
  | cons c R ih =>
    intro k y hk hy hR
    obtain ⟨h1, h2⟩ := hy c R rfl
    obtain ⟨c1, c2⟩ := hR c List.mem_cons_self
    have hk' : k + (R.length + 1) = M := hk
    have e1 : zadd (k : Int) 1 = ((k + 1 : Nat) : Int) := zadd_nat (k := 1) (by omega)
    rw [h1, j_X4_shortestNeeded_28, if_pos (by omega), if_pos hA.1, s_putRightByAll hA hvA c1, zC2_s]
    cases g : lall ea c with
    | none =>
      have hfd : (c :: R).find? (fun c => (lall ea c).isSome) = R.find? (fun c => (lall ea c).isSome) := by
        rw [List.find?_cons, g]; rfl
      have hz : zro none = -1 := rfl
      rw [hfd, if_pos (zlcmp_eq.mpr hz), j_X4_shortestNeeded_50, c2, zC2_s, e1]
      refine ih (k + 1) _ (by omega) (fun c' r' e => ?_) (fun c' hc' => hR c' (List.mem_cons_of_mem _ hc'))
      subst e
      have hch : nx (s : Int) f c = some c' ∧ chE (s : Int) f E (c' :: r') := h2
      exact ⟨by rw [hch.1]; rfl, hch.2⟩
    | some d =>
      have hfd : (c :: R).find? (fun c => (lall ea c).isSome) = some c := by
        rw [List.find?_cons, g]; rfl
      have hd : rOk d := lall_ok ea c d hvA.2.2.2.2.1 c1 g
      have hz : ¬ zro (some d) = -1 := zrow_pos d
      rw [hfd, if_neg (fun q => hz (zlcmp_eq.mp q))]
      exact ⟨fun c' e => congrArg (fun q => some (some (Sum.inr (Sum.inl (zrow q))), m)) (Option.some.inj e), fun e => absurd (show true = false from congrArg Option.isSome e) (by decide)⟩
theorem s_shortestNeeded {a : Nat} {na : Int} {la : Bool} {ea : List zEd} (hA : LnS m a) (hvA : LnV m a na la ea) {s : Nat} (hs : s < 256) (hse : soughtE ea 0 = (s : Int)) :
    zF zP 91 v [(.inr (.inr (some a)))] m = some (some (.inr (.inl (oz (fsz (fun c => (lall ea c).isSome) (wsOf s) 6 0)))), m) := by
  have loop : ∀ (n k : Nat) (u3 u4 u5 u6 : Option zV), k + n = 6 → zX zP 91 v 7 [some ((.inr (.inr (some a)))), some (.inl (s : Int)), some (.inl (k : Int)), u3, u4, u5, u6] [] m = some (some (.inr (.inl (oz (fsz (fun c => (lall ea c).isSome) (wsOf s) n k)))), m) := by
    intro n
    induction n with
    | zero =>
      intro k u3 u4 u5 u6 hk
      rw [j_X4_shortestNeeded_7, if_pos (by omega), j_X4_shortestNeeded_70]; rfl
    | succ n ih =>
      intro k u3 u4 u5 u6 hk
      obtain ⟨y, y1, y2, y3⟩ := s_enum (v := 0) (m := m) hs (N := k) (by omega)
      have hl := rws_len (wsOf s) k
      have p : (wsOf s).length ^ k ≤ 8 ^ 5 := Nat.le_trans (Nat.pow_le_pow_left (ws_len s) k) (Nat.pow_le_pow_right (by decide) (by omega))
      obtain ⟨g1, g2⟩ := s_needs_in (v := v) hA hvA (s := s) (x2 := (k : Int)) (M := (wsOf s).length ^ k) (Nat.lt_of_le_of_lt p (by decide)) (rws (wsOf s) k) 0 y (by rw [hl, Nat.zero_add]) (fun c r e => y2 c r e) y3
      have e0 : ((0 : Nat) : Int) = 0 := rfl
      rw [e0] at g1 g2
      have ek : zadd (k : Int) 1 = ((k + 1 : Nat) : Int) := zadd_nat (k := 1) (by omega)
      rw [j_X4_shortestNeeded_7, if_neg (by omega), s_howMany hs (by omega), zC1_s, y1, zC2_s]
      have hfs : fsz (fun c => (lall ea c).isSome) (wsOf s) (n + 1) k = match (rws (wsOf s) k).find? (fun c => (lall ea c).isSome) with
        | some r => some r
        | none => fsz (fun c => (lall ea c).isSome) (wsOf s) n (k + 1) := rfl
      cases hc : (rws (wsOf s) k).find? (fun c => (lall ea c).isSome) with
      | some c =>
        rw [hc] at hfs
        rw [hfs]
        exact g1 c hc
      | none =>
        rw [hc] at hfs
        rw [hfs]
        obtain ⟨w4, w5, w6, w7, g3⟩ := g2 hc
        refine g3.trans ?_
        rw [ek]
        exact ih (k + 1) w4 w5 w6 w7 (by omega)
  have e0 : ((0 : Nat) : Int) = 0 := rfl
  have hl := loop 6 0 none none none none rfl
  rw [e0] at hl
  rw [f_X4_shortestNeeded, if_pos hA.1, s_soughtSet hA hvA, zC1_s, hse]
  exact hl
end NEEDS
