/-! A LINE of the class: its shape, what it holds, what it does. -/
def LnS (m : zM) (a : Nat) : Prop := zT m a 2 = true ∧ zr m a 0 = some (a + 1) ∧ a + 1 < zn m ∧ zk m (a + 1) = (9, 4)
def e00 : zEd := (0, 0, 0, false)
def LnV (m : zM) (a : Nat) (num : Int) (lost : Bool) (es : List zEd) : Prop :=
  zi m a 1 = num ∧ zi m a 2 = (es.length : Int) ∧ zi m a 3 = b01 lost ∧ es.length ≤ 4 ∧ (∀ e ∈ es, eOk e) ∧ ∀ i, i < es.length → zi m (a + 1) i = epk (es.getD i e00)
theorem LnS.A {m : zM} {a : Nat} (h : LnS m a) {x : Int} (h0 : 0 ≤ x) (h4 : x < 4) : zA m (a + 1) 9 x = true := zA_i h.2.2.1 h.2.2.2 h0 h4
theorem LnS.Y {m : zM} {a : Nat} (h : LnS m a) : zY m (a + 1) = true := zY_i h.2.2.1 h.2.2.2 (by decide)
theorem eOk0 : eOk e00 := by unfold eOk e00; decide
theorem es_ok {es : List zEd} (h : ∀ e ∈ es, eOk e) (i : Nat) : eOk (es.getD i e00) := by
  rw [List.getD_eq_getElem?_getD]
  cases hq : es[i]? with
  | none => exact eOk0
  | some e => exact h e (List.mem_of_getElem? hq)
theorem obind {α β : Type} (a : α) (f : α → Option β) : (some a).bind f = f a := rfl
theorem s_editAt {v : Nat} {m : zM} {a i : Nat} (h : LnS m a) (hi : i < 4) : zF zP 6 v [.inr (.inr (some a)), .inl (i : Int)] m = some (some (.inl (zi m (a + 1) i)), m) := by
  rw [f_X2_editAt, if_neg (by omega), if_pos h.1, h.2.1, obind, if_pos h.Y, h.2.2.2, if_pos (by omega), if_pos h.1, obind, if_pos (h.A (by omega) (by omega)), j_X2_editAt_23, Int.toNat_natCast]
def lput : List zEd → List Nat → List Nat
  | [], l => l
  | e :: r, l => lput r ((edone e l).getD l)
theorem getD_edone_ok {e : zEd} {l : List Nat} (he : eOk e) (h : rOk l) : rOk ((edone e l).getD l) := by
  cases hq : edone e l with
  | none => exact h
  | some r => exact edone_ok he h hq
theorem lput_ok : ∀ (es : List zEd) (l : List Nat), (∀ e ∈ es, eOk e) → rOk l → rOk (lput es l)
  | [], l, _, h => h
  | e :: r, l, he, h => lput_ok r _ (fun x hx => he x (List.mem_cons_of_mem _ hx)) (getD_edone_ok (he e List.mem_cons_self) h)
theorem edrop_cons {es r : List zEd} {k : Nat} {x : zEd} (h : es.drop k = x :: r) : k < es.length ∧ es.getD k e00 = x ∧ es.drop (k + 1) = r := by
  have h1 : k < es.length := Nat.not_le.mp fun q => by rw [List.drop_eq_nil_of_le q] at h; cases h
  have h2 := List.drop_eq_getElem_cons h1
  rw [h] at h2
  injection h2 with e1 e2
  refine ⟨h1, ?_, e2.symm⟩
  rw [List.getD_eq_getElem?_getD, List.getElem?_eq_getElem h1, e1]; rfl
theorem zro_m1 {o : Option (List Nat)} : zlcmp (zro o) (-1) = 0 ↔ o = none := by
  rw [zlcmp_eq]
  cases o with
  | none => exact ⟨fun _ => rfl, fun _ => rfl⟩
  | some r => exact ⟨fun q => absurd q zrow_ne, fun q => by cases q⟩
theorem s_putRight_loop {v : Nat} {m : zM} {a : Nat} {num : Int} {lost : Bool} {es : List zEd} (h : LnS m a) (hv : LnV m a num lost es) (y1 : Int) : ∀ (r : List zEd) (k : Nat) (l : List Nat) (u6 u7 : Option zV), es.drop k = r → rOk l →
    zX zP 50 v 5 [some (.inr (.inr (some a))), some (.inr (.inl y1)), none, some (.inr (.inl (zrow l))), none, some (.inl (k : Int)), u6, u7] [] m = some (some (.inr (.inl (zrow (lput r l)))), m) := by
  obtain ⟨v1, v2, v3, v4, v5, v6⟩ := hv
  intro r
  induction r with
  | nil =>
    intro k l u6 u7 hk hl
    have h1 : es.length ≤ k := List.drop_eq_nil_iff.mp hk
    rw [j_X2_putRight_5, if_pos h.1, v2, if_neg (by omega), j_X2_putRight_44]; rfl
  | cons e r ih =>
    intro k l u6 u7 hk hl
    obtain ⟨h1, h2, h3⟩ := edrop_cons hk
    have he : eOk e := by rw [← h2]; exact es_ok v5 k
    have e1 : zadd (k : Int) 1 = ((k + 1 : Nat) : Int) := zadd_nat (k := 1) (by omega)
    rw [j_X2_putRight_5, if_pos h.1, v2, if_pos (by omega), if_pos h.1, s_editAt h (by omega), zC1_s, v6 k h1, h2, s_done he hl, zC2_s]
    cases hq : edone e l with
    | none =>
      rw [if_pos (zro_m1.mpr rfl), j_X2_putRight_38, e1, ih (k + 1) l _ _ h3 hl]
      show _ = some (some (Sum.inr (Sum.inl (zrow (lput r ((edone e l).getD l))))), m)
      rw [hq]; rfl
    | some l2 =>
      have hl2 := edone_ok he hl hq
      rw [if_neg (fun q => by have := zro_m1.mp q; cases this)]
      show zX zP 50 v 38 [some (.inr (.inr (some a))), some (.inr (.inl y1)), none, some (.inr (.inl (zrow l2))), none, some (.inl (k : Int)), some (.inr (.inl (zrow l2))), none] [] m = _
      rw [j_X2_putRight_38, e1, ih (k + 1) l2 _ _ h3 hl2]
      show _ = some (some (Sum.inr (Sum.inl (zrow (lput r ((edone e l).getD l))))), m)
      rw [hq]; rfl
theorem s_putRight {v : Nat} {m : zM} {a : Nat} {num : Int} {lost : Bool} {es : List zEd} {l : List Nat} (h : LnS m a) (hv : LnV m a num lost es) (hl : rOk l) :
    zF zP 50 v [.inr (.inr (some a)), .inr (.inl (zrow l))] m = some (some (.inr (.inl (zrow (lput es l)))), m) := by
  rw [f_X2_putRight]
  exact s_putRight_loop h hv _ es 0 l _ _ rfl hl
