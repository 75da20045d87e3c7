/-! The class's search through ROWS. -/
section CLASH
variable {v : Nat} {m : zM}
theorem zrow_nil : zrow [] = 0 := rfl
theorem rep_ok {f N : Nat} (hf : f < 16) (hN : N ≤ 8) : rOk (List.replicate N f) := ⟨by rw [List.length_replicate]; exact hN, fun x hx => by rw [List.eq_of_mem_replicate hx]; exact hf⟩
theorem s_firstOf {s f N : Nat} (hf : ntz (s : Int) = (f : Int)) (hf16 : f < 16) (hN : N ≤ 8) : zF zP 83 v [.inl (N : Int), .inl (s : Int)] m = some (some (.inr (.inl (zrow (List.replicate N f)))), m) := by
  have loop : ∀ (n k : Nat), k + n = N → zX zP 83 v 5 [some (.inl (N : Int)), some (.inl (s : Int)), some (.inr (.inl (zrow (List.replicate k f)))), none, some (.inl (k : Int))] [] m = some (some (.inr (.inl (zrow (List.replicate N f)))), m) := by
    intro n
    induction n with
    | zero =>
      intro k hk
      have e : k = N := by omega
      subst e
      rw [j_X3_firstOf_5, if_neg (by omega), j_X3_firstOf_35]
    | succ n ih =>
      intro k hk
      have e1 : zadd (k : Int) 1 = ((k + 1 : Nat) : Int) := zadd_nat (k := 1) (by omega)
      have er : rwith (List.replicate k f) k f = List.replicate (k + 1) f := by
        unfold rwith
        rw [List.length_replicate, if_neg (Nat.lt_irrefl k), List.replicate_succ']
      rw [j_X3_firstOf_5, if_pos (by omega), if_pos (by omega), s_ntz, zC1_s, hf, s_with (rep_ok hf16 (by omega)) (by rw [List.length_replicate]; exact Nat.le_refl _) (by omega) hf16, zC2_s, er, e1]
      exact ih (k + 1) (by omega)
  rw [f_X3_firstOf]
  exact loop N 0 (Nat.zero_add _)
theorem s_next_nil (x : Int) : zF zP 86 v [.inr (.inl (zrow [])), .inl x] m = some (some (.inr (.inl (zrow []))), m) := by
  have e1 : zsub (([] : List Nat).length : Int) 1 = -1 := by decide
  rw [f_X3_next, s_size (show rOk [] from rep_ok (f := 0) (N := 0) (by decide) (by decide)), zC1_s, e1, j_X3_next_10, if_pos (by decide), j_X3_next_62]
theorem s_firstOf_some (x : Int) (N : Nat) (hN : N ≤ 8) : ∃ y : Int, zF zP 83 v [.inl (N : Int), .inl x] m = some (some (.inr (.inl y)), m) := by
  have loop : ∀ (n k : Nat) (y0 : Int), k + n = N → ∃ y : Int, zX zP 83 v 5 [some (.inl (N : Int)), some (.inl x), some (.inr (.inl y0)), none, some (.inl (k : Int))] [] m = some (some (.inr (.inl y)), m) := by
    intro n
    induction n with
    | zero =>
      intro k y0 hk
      exact ⟨y0, by rw [j_X3_firstOf_5, if_neg (by omega), j_X3_firstOf_35]⟩
    | succ n ih =>
      intro k y0 hk
      have e1 : zadd (k : Int) 1 = ((k + 1 : Nat) : Int) := zadd_nat (k := 1) (by omega)
      obtain ⟨y1, hy1⟩ := s_with_some (v := 0) y0 (k : Int) (ntz x) m
      rw [j_X3_firstOf_5, if_pos (by omega), if_pos (by omega), s_ntz, zC1_s, hy1, zC2_s, e1]
      exact ih (k + 1) _ (by omega)
  rw [f_X3_firstOf]
  exact loop N 0 0 (Nat.zero_add _)
/-- where the class starts, and that it comes through all ROWS of a length -/
theorem s_enum {s : Nat} (hs : s < 256) {N : Nat} (hN : N ≤ 8) : ∃ y : Int, zF zP 83 v [.inl (N : Int), .inl (s : Int)] m = some (some (.inr (.inl y)), m) ∧
    (∀ c r, rws (wsOf s) N = c :: r → y = zrow c ∧ chE (s : Int) ((wsOf s).getD 0 0) (fun a => nx (s : Int) ((wsOf s).getD 0 0) a = none ∧ a.length = N) (rws (wsOf s) N)) ∧
    ∀ c ∈ rws (wsOf s) N, rOk c ∧ zF zP 86 0 [.inr (.inl (zrow c)), .inl (s : Int)] m = some (some (.inr (.inl (zrow ((nx (s : Int) ((wsOf s).getD 0 0) c).getD (List.replicate c.length ((wsOf s).getD 0 0)))))), m) := by
  by_cases h0 : s = 0
  · subst h0
    have e : wsOf 0 = [] := by decide
    rw [e]
    cases N with
    | zero =>
      refine ⟨0, ?_, fun c r hc => ⟨?_, rfl, rfl⟩, fun c hc => ?_⟩
      · rw [f_X3_firstOf]
        show zX zP 83 v 5 [some (.inl 0), some (.inl 0), some (.inr (.inl 0)), none, some (.inl 0)] [] m = _
        rw [j_X3_firstOf_5, if_neg (by decide), j_X3_firstOf_35]
      · have : [[]] = c :: r := hc
        injection this with q1 q2
        rw [← q1]; rfl
      · have : c = [] := List.mem_singleton.mp hc
        subst this
        exact ⟨rep_ok (f := 0) (N := 0) (by decide) (by decide), s_next_nil _⟩
    | succ N =>
      obtain ⟨y, hy⟩ := s_firstOf_some (v := v) (m := m) ((0 : Nat) : Int) (N + 1) hN
      exact ⟨y, hy, fun c r hc => (nomatch (show ([] : List (List Nat)) = c :: r from hc)), fun c hc => (nomatch (show c ∈ ([] : List (List Nat)) from hc))⟩
  · have hf := ws_first hs h0
    have hsq := sqB_ws hs
    have hmem : ∀ w ∈ wsOf s, w < 8 := fun w hw => (ws_mem.mp hw).1
    cases hw : wsOf s with
    | nil =>
      have k1 : ∀ s : Fin 256, s.val ≠ 0 → wsOf s.val ≠ [] := by decide +kernel
      exact absurd hw (k1 ⟨s, hs⟩ h0)
    | cons f r =>
      rw [hw] at hf hsq hmem
      have hf' : ntz (s : Int) = (f : Int) := hf
      have hf8 : f < 8 := hmem f List.mem_cons_self
      obtain ⟨g1, L', g2⟩ := rws_ch hsq N
      refine ⟨zrow (List.replicate N f), s_firstOf hf' (by omega) hN, fun c r' hc => ⟨?_, g1⟩, fun c hc => ?_⟩
      · rw [g2] at hc
        injection hc with q1 q2
        rw [q1]
      · obtain ⟨x1, x2⟩ := rws_mem N c hc
        have x8 : ∀ w ∈ c, w < 8 := fun w hw => hmem w (x2 w hw)
        have ok : rOk c := ⟨by omega, fun w hw => by have := x8 w hw; omega⟩
        refine ⟨ok, s_next hs hf' (by omega) ok (fun k hk => ?_)⟩
        rw [List.getD_eq_getElem?_getD, List.getElem?_eq_getElem hk]
        exact x8 _ (List.getElem_mem hk)
/-- what is told of rows in their order: the first that is so -/
theorem s_clash_in {a b : Nat} {na nb : Int} {la lb : Bool} {ea eb : List zEd} (hA : LnS m a) (hvA : LnV m a na la ea) (hB : LnS m b) (hvB : LnV m b nb lb eb) {s f : Nat} {E : List Nat → Prop} {x3 : Int} {M : Nat} (hM : M < 1000000) : ∀ (R : List (List Nat)) (k : Nat) (y : Int), k + R.length = M → (∀ c r, R = c :: r → y = zrow c ∧ chE (s : Int) f E R) → (∀ c ∈ R, rOk c ∧ zF zP 86 0 [.inr (.inl (zrow c)), .inl (s : Int)] m = some (some (.inr (.inl (zrow ((nx (s : Int) f c).getD (List.replicate c.length f))))), m)) →
    (∀ c, R.find? (fun c => !decide (lput eb (lput ea c) = lput ea (lput eb c))) = some c → zX zP 93 v 24 [some ((.inr (.inr (some a)))), some ((.inr (.inr (some b)))), some (.inl (s : Int)), some (.inl x3), some (.inl (M : Int)), some (.inr (.inl y)), none, some (.inl (k : Int))] [] m = some (some (.inr (.inl (zrow c))), m)) ∧
    (R.find? (fun c => !decide (lput eb (lput ea c) = lput ea (lput eb c))) = none → ∃ u4 u5 u6 u7, zX zP 93 v 24 [some ((.inr (.inr (some a)))), some ((.inr (.inr (some b)))), some (.inl (s : Int)), some (.inl x3), some (.inl (M : Int)), some (.inr (.inl y)), none, some (.inl (k : Int))] [] m = zX zP 93 v 2 [some ((.inr (.inr (some a)))), some ((.inr (.inr (some b)))), some (.inl (s : Int)), some (.inl (zadd x3 1)), u4, u5, u6, u7] [] m) := by
  intro R
  induction R with
  | nil =>
    intro k y hk hy hR
    refine ⟨fun c h => (nomatch h), fun _ => ⟨some (.inl (M : Int)), some (.inr (.inl y)), none, some (.inl (k : Int)), ?_⟩⟩
    rw [j_X4_shortestClash_24, if_neg (by have : k + 0 = M := hk; omega), j_X4_shortestClash_72]
  | cons c R ih =>
    intro k y hk hy hR
    obtain ⟨h1, h2⟩ := hy c R rfl
    obtain ⟨c1, c2⟩ := hR c List.mem_cons_self
    have hk' : k + (R.length + 1) = M := hk
    have e1 : zadd (k : Int) 1 = ((k + 1 : Nat) : Int) := zadd_nat (k := 1) (by omega)
    have o1 := lput_ok ea c hvA.2.2.2.2.1 c1
    have o2 := lput_ok eb c hvB.2.2.2.2.1 c1
    have o3 := lput_ok eb _ hvB.2.2.2.2.1 o1
    have o4 := lput_ok ea _ hvA.2.2.2.2.1 o2
    have step : zX zP 93 v 24 [some ((.inr (.inr (some a)))), some ((.inr (.inr (some b)))), some (.inl (s : Int)), some (.inl x3), some (.inl (M : Int)), some (.inr (.inl y)), none, some (.inl (k : Int))] [] m = if zlcmp (zrow (lput eb (lput ea c))) (zrow (lput ea (lput eb c))) = 0 then zX zP 93 v 58 [some ((.inr (.inr (some a)))), some ((.inr (.inr (some b)))), some (.inl (s : Int)), some (.inl x3), some (.inl (M : Int)), some (.inr (.inl (zrow c))), none, some (.inl (k : Int))] [] m else some (some (.inr (.inl (zrow c))), m) := by
      rw [h1, j_X4_shortestClash_24, if_pos (by omega), if_pos hA.1, s_putRight hA hvA c1, zC2_s, if_pos hB.1, s_putRight hB hvB o1, zC2_s, if_pos hB.1, s_putRight hB hvB c1, zC2_s, if_pos hA.1, s_putRight hA hvA o2, zC2_s]
    rw [step]
    by_cases g : lput eb (lput ea c) = lput ea (lput eb c)
    · have hfd : (c :: R).find? (fun c => !decide (lput eb (lput ea c) = lput ea (lput eb c))) = R.find? (fun c => !decide (lput eb (lput ea c) = lput ea (lput eb c))) := by
        rw [List.find?_cons, decide_eq_true g]; rfl
      rw [hfd, if_pos (zlcmp_eq.mpr (by rw [g])), j_X4_shortestClash_58, c2, zC2_s, e1]
      refine ih (k + 1) _ (by omega) (fun c' r' e => ?_) (fun c' hc' => hR c' (List.mem_cons_of_mem _ hc'))
      subst e
      have hch : nx (s : Int) f c = some c' ∧ chE (s : Int) f E (c' :: r') := h2
      exact ⟨by rw [hch.1]; rfl, hch.2⟩
    · have hfd : (c :: R).find? (fun c => !decide (lput eb (lput ea c) = lput ea (lput eb c))) = some c := by
        rw [List.find?_cons, decide_eq_false g]; rfl
      rw [hfd, if_neg (fun q => g (zrow_inj o3 o4 (zlcmp_eq.mp q)))]
      exact ⟨fun c' e => congrArg (fun q => some (some (Sum.inr (Sum.inl (zrow q))), m)) (Option.some.inj e), fun e => absurd (show true = false from congrArg Option.isSome e) (by decide)⟩
end CLASH
