/-! The runs without fuel: 'zX P k lv pc' is what zRun gives with fuel enough; an equation for each block. -/
/-- with fuel enough, always -/
def zEv (F : Nat → Option zO) (o : zO) : Prop := ∃ f, ∀ g, f ≤ g → F g = some o
theorem zEv.uniq {F : Nat → Option zO} {o o' : zO} (h : zEv F o) (h' : zEv F o') : o = o' := by
  obtain ⟨f, h⟩ := h
  obtain ⟨f', h'⟩ := h'
  have a := h (max f f') (Nat.le_max_left _ _)
  rw [h' (max f f') (Nat.le_max_right _ _)] at a
  exact (Option.some.inj a).symm
noncomputable def zLim (F : Nat → Option zO) : Option zO := by
  classical
  exact if h : ∃ o, zEv F o then some (Classical.choose h) else none
theorem zLim_some {F : Nat → Option zO} {o : zO} : zLim F = some o ↔ zEv F o := by
  unfold zLim
  constructor
  · intro h
    split at h
    · rename_i hh
      have := Classical.choose_spec hh
      cases h
      exact this
    · cases h
  · intro h
    have hh : ∃ o, zEv F o := ⟨o, h⟩
    rw [dif_pos hh]
    exact congrArg some ((Classical.choose_spec hh).uniq h)
/-- what an instruction does, when locals, stack and memory are known -/
def zShape (x : zI) : Prop := ∀ lv ls st m, (∃ r : Option zO, ∀ C J K, x lv C J K ls st m = r) ∨ (∃ t ls' st' m', ∀ C J K, x lv C J K ls st m = J t ls' st' m') ∨
  (∃ ls' st' m', ∀ C J K, x lv C J K ls st m = K ls' st' m') ∨ (∃ k j as t ls' r, ∀ C J K, x lv C J K ls st m = zret t (C k j as m) K ls' r)
theorem sh_r {x : Nat → zC → (Nat → zK) → zK → Option zO} {lv : Nat} {m : zM} (r : Option zO) (h : ∀ C J K, x lv C J K = r) : (∃ r : Option zO, ∀ C J K, x lv C J K = r) ∨ (∃ t ls' st' m', ∀ C J K, x lv C J K = J t ls' st' m') ∨
  (∃ ls' st' m', ∀ C J K, x lv C J K = K ls' st' m') ∨ (∃ k j as t ls' r, ∀ C J K, x lv C J K = zret t (C k j as m) K ls' r) := Or.inl ⟨r, h⟩

theorem sh_pure (f : zLo → List zV → Option (zLo × List zV)) : zShape (zPure f) := by
  intro lv ls st m
  unfold zPure
  cases f ls st with
  | none => exact Or.inl ⟨_, fun _ _ _ => rfl⟩
  | some q => obtain ⟨a, b⟩ := q; exact Or.inr (Or.inr (Or.inl ⟨_, _, _, fun _ _ _ => rfl⟩))
theorem sh_goto (t : Nat) : zShape (z_goto t) := fun lv ls st m => Or.inr (Or.inl ⟨_, _, _, _, fun _ _ _ => rfl⟩)
theorem sh_idiv : zShape (z_idiv) := by
  intro lv ls st m
  unfold z_idiv
  repeat' split
  all_goals first | (exact Or.inl ⟨_, fun _ _ _ => rfl⟩; done) | (exact Or.inr (Or.inl ⟨_, _, _, _, fun _ _ _ => rfl⟩); done) | (exact Or.inr (Or.inr (Or.inl ⟨_, _, _, fun _ _ _ => rfl⟩)); done)
theorem sh_irem : zShape (z_irem) := by
  intro lv ls st m
  unfold z_irem
  repeat' split
  all_goals first | (exact Or.inl ⟨_, fun _ _ _ => rfl⟩; done) | (exact Or.inr (Or.inl ⟨_, _, _, _, fun _ _ _ => rfl⟩); done) | (exact Or.inr (Or.inr (Or.inl ⟨_, _, _, fun _ _ _ => rfl⟩)); done)
theorem sh_ldiv : zShape (z_ldiv) := by
  intro lv ls st m
  unfold z_ldiv
  repeat' split
  all_goals first | (exact Or.inl ⟨_, fun _ _ _ => rfl⟩; done) | (exact Or.inr (Or.inl ⟨_, _, _, _, fun _ _ _ => rfl⟩); done) | (exact Or.inr (Or.inr (Or.inl ⟨_, _, _, fun _ _ _ => rfl⟩)); done)
theorem sh_lrem : zShape (z_lrem) := by
  intro lv ls st m
  unfold z_lrem
  repeat' split
  all_goals first | (exact Or.inl ⟨_, fun _ _ _ => rfl⟩; done) | (exact Or.inr (Or.inl ⟨_, _, _, _, fun _ _ _ => rfl⟩); done) | (exact Or.inr (Or.inr (Or.inl ⟨_, _, _, fun _ _ _ => rfl⟩)); done)
theorem sh_if (c : ClassFile.Cond) (t : Nat) : zShape (z_if c t) := by
  intro lv ls st m
  unfold z_if
  cases c <;> (repeat' split)
  all_goals first | (exact Or.inl ⟨_, fun _ _ _ => rfl⟩; done) | (exact Or.inr (Or.inl ⟨_, _, _, _, fun _ _ _ => rfl⟩); done) | (exact Or.inr (Or.inr (Or.inl ⟨_, _, _, fun _ _ _ => rfl⟩)); done)
theorem sh_icmp (c : ClassFile.Cond) (t : Nat) : zShape (z_icmp c t) := by
  intro lv ls st m
  unfold z_icmp
  cases c <;> (repeat' split)
  all_goals first | (exact Or.inl ⟨_, fun _ _ _ => rfl⟩; done) | (exact Or.inr (Or.inl ⟨_, _, _, _, fun _ _ _ => rfl⟩); done) | (exact Or.inr (Or.inr (Or.inl ⟨_, _, _, fun _ _ _ => rfl⟩)); done)
theorem sh_ifnull (t : Nat) : zShape (z_ifnull t) := by
  intro lv ls st m
  unfold z_ifnull
  split
  · rename_i q r
    cases q
    · exact Or.inr (Or.inl ⟨_, _, _, _, fun _ _ _ => rfl⟩)
    · exact Or.inr (Or.inr (Or.inl ⟨_, _, _, fun _ _ _ => rfl⟩))
  · exact Or.inl ⟨_, fun _ _ _ => rfl⟩
theorem sh_ifnonnull (t : Nat) : zShape (z_ifnonnull t) := by
  intro lv ls st m
  unfold z_ifnonnull
  split
  · rename_i q r
    cases q
    · exact Or.inr (Or.inr (Or.inl ⟨_, _, _, fun _ _ _ => rfl⟩))
    · exact Or.inr (Or.inl ⟨_, _, _, _, fun _ _ _ => rfl⟩)
  · exact Or.inl ⟨_, fun _ _ _ => rfl⟩
theorem sh_table (lo : Int) (ts : List Nat) (d : Nat) : zShape (z_table lo ts d) := by
  intro lv ls st m
  unfold z_table
  repeat' split
  all_goals first | (exact Or.inl ⟨_, fun _ _ _ => rfl⟩; done) | (exact Or.inr (Or.inl ⟨_, _, _, _, fun _ _ _ => rfl⟩); done) | (exact Or.inr (Or.inr (Or.inl ⟨_, _, _, fun _ _ _ => rfl⟩)); done)
theorem sh_look (ps : List (Int × Nat)) (d : Nat) : zShape (z_look ps d) := by
  intro lv ls st m
  unfold z_look
  repeat' split
  all_goals first | (exact Or.inl ⟨_, fun _ _ _ => rfl⟩; done) | (exact Or.inr (Or.inl ⟨_, _, _, _, fun _ _ _ => rfl⟩); done) | (exact Or.inr (Or.inr (Or.inl ⟨_, _, _, fun _ _ _ => rfl⟩)); done)
theorem sh_geti (c k : Nat) : zShape (z_geti c k) := by
  intro lv ls st m
  unfold z_geti
  repeat' split
  all_goals first | (exact Or.inl ⟨_, fun _ _ _ => rfl⟩; done) | (exact Or.inr (Or.inl ⟨_, _, _, _, fun _ _ _ => rfl⟩); done) | (exact Or.inr (Or.inr (Or.inl ⟨_, _, _, fun _ _ _ => rfl⟩)); done)
theorem sh_getl (c k : Nat) : zShape (z_getl c k) := by
  intro lv ls st m
  unfold z_getl
  repeat' split
  all_goals first | (exact Or.inl ⟨_, fun _ _ _ => rfl⟩; done) | (exact Or.inr (Or.inl ⟨_, _, _, _, fun _ _ _ => rfl⟩); done) | (exact Or.inr (Or.inr (Or.inl ⟨_, _, _, fun _ _ _ => rfl⟩)); done)
theorem sh_puti (c k : Nat) : zShape (z_puti c k) := by
  intro lv ls st m
  unfold z_puti
  repeat' split
  all_goals first | (exact Or.inl ⟨_, fun _ _ _ => rfl⟩; done) | (exact Or.inr (Or.inl ⟨_, _, _, _, fun _ _ _ => rfl⟩); done) | (exact Or.inr (Or.inr (Or.inl ⟨_, _, _, fun _ _ _ => rfl⟩)); done)
theorem sh_putz (c k : Nat) : zShape (z_putz c k) := by
  intro lv ls st m
  unfold z_putz
  repeat' split
  all_goals first | (exact Or.inl ⟨_, fun _ _ _ => rfl⟩; done) | (exact Or.inr (Or.inl ⟨_, _, _, _, fun _ _ _ => rfl⟩); done) | (exact Or.inr (Or.inr (Or.inl ⟨_, _, _, fun _ _ _ => rfl⟩)); done)
theorem sh_putl (c k : Nat) : zShape (z_putl c k) := by
  intro lv ls st m
  unfold z_putl
  repeat' split
  all_goals first | (exact Or.inl ⟨_, fun _ _ _ => rfl⟩; done) | (exact Or.inr (Or.inl ⟨_, _, _, _, fun _ _ _ => rfl⟩); done) | (exact Or.inr (Or.inr (Or.inl ⟨_, _, _, fun _ _ _ => rfl⟩)); done)
theorem sh_putr (c k : Nat) : zShape (z_putr c k) := by
  intro lv ls st m
  unfold z_putr
  repeat' split
  all_goals first | (exact Or.inl ⟨_, fun _ _ _ => rfl⟩; done) | (exact Or.inr (Or.inl ⟨_, _, _, _, fun _ _ _ => rfl⟩); done) | (exact Or.inr (Or.inr (Or.inl ⟨_, _, _, fun _ _ _ => rfl⟩)); done)
theorem sh_new (c k : Nat) : zShape (z_new c k) := by
  intro lv ls st m
  unfold z_new
  repeat' split
  all_goals first | (exact Or.inl ⟨_, fun _ _ _ => rfl⟩; done) | (exact Or.inr (Or.inl ⟨_, _, _, _, fun _ _ _ => rfl⟩); done) | (exact Or.inr (Or.inr (Or.inl ⟨_, _, _, fun _ _ _ => rfl⟩)); done)
theorem sh_aast (c k : Nat) : zShape (z_aast c k) := by
  intro lv ls st m
  unfold z_aast
  repeat' split
  all_goals first | (exact Or.inl ⟨_, fun _ _ _ => rfl⟩; done) | (exact Or.inr (Or.inl ⟨_, _, _, _, fun _ _ _ => rfl⟩); done) | (exact Or.inr (Or.inr (Or.inl ⟨_, _, _, fun _ _ _ => rfl⟩)); done)
theorem sh_iald : zShape (z_iald) := by
  intro lv ls st m
  unfold z_iald
  repeat' split
  all_goals first | (exact Or.inl ⟨_, fun _ _ _ => rfl⟩; done) | (exact Or.inr (Or.inl ⟨_, _, _, _, fun _ _ _ => rfl⟩); done) | (exact Or.inr (Or.inr (Or.inl ⟨_, _, _, fun _ _ _ => rfl⟩)); done)
theorem sh_bald : zShape (z_bald) := by
  intro lv ls st m
  unfold z_bald
  repeat' split
  all_goals first | (exact Or.inl ⟨_, fun _ _ _ => rfl⟩; done) | (exact Or.inr (Or.inl ⟨_, _, _, _, fun _ _ _ => rfl⟩); done) | (exact Or.inr (Or.inr (Or.inl ⟨_, _, _, fun _ _ _ => rfl⟩)); done)
theorem sh_lald : zShape (z_lald) := by
  intro lv ls st m
  unfold z_lald
  repeat' split
  all_goals first | (exact Or.inl ⟨_, fun _ _ _ => rfl⟩; done) | (exact Or.inr (Or.inl ⟨_, _, _, _, fun _ _ _ => rfl⟩); done) | (exact Or.inr (Or.inr (Or.inl ⟨_, _, _, fun _ _ _ => rfl⟩)); done)
theorem sh_iast : zShape (z_iast) := by
  intro lv ls st m
  unfold z_iast
  repeat' split
  all_goals first | (exact Or.inl ⟨_, fun _ _ _ => rfl⟩; done) | (exact Or.inr (Or.inl ⟨_, _, _, _, fun _ _ _ => rfl⟩); done) | (exact Or.inr (Or.inr (Or.inl ⟨_, _, _, fun _ _ _ => rfl⟩)); done)
theorem sh_bast : zShape (z_bast) := by
  intro lv ls st m
  unfold z_bast
  repeat' split
  all_goals first | (exact Or.inl ⟨_, fun _ _ _ => rfl⟩; done) | (exact Or.inr (Or.inl ⟨_, _, _, _, fun _ _ _ => rfl⟩); done) | (exact Or.inr (Or.inr (Or.inl ⟨_, _, _, fun _ _ _ => rfl⟩)); done)
theorem sh_last : zShape (z_last) := by
  intro lv ls st m
  unfold z_last
  repeat' split
  all_goals first | (exact Or.inl ⟨_, fun _ _ _ => rfl⟩; done) | (exact Or.inr (Or.inl ⟨_, _, _, _, fun _ _ _ => rfl⟩); done) | (exact Or.inr (Or.inr (Or.inl ⟨_, _, _, fun _ _ _ => rfl⟩)); done)
theorem sh_alen : zShape (z_alen) := by
  intro lv ls st m
  unfold z_alen
  repeat' split
  all_goals first | (exact Or.inl ⟨_, fun _ _ _ => rfl⟩; done) | (exact Or.inr (Or.inl ⟨_, _, _, _, fun _ _ _ => rfl⟩); done) | (exact Or.inr (Or.inr (Or.inl ⟨_, _, _, fun _ _ _ => rfl⟩)); done)
theorem sh_obj : zShape (z_obj) := by
  intro lv ls st m
  unfold z_obj
  repeat' split
  all_goals first | (exact Or.inl ⟨_, fun _ _ _ => rfl⟩; done) | (exact Or.inr (Or.inl ⟨_, _, _, _, fun _ _ _ => rfl⟩); done) | (exact Or.inr (Or.inr (Or.inl ⟨_, _, _, fun _ _ _ => rfl⟩)); done)
theorem sh_iret : zShape (z_iret) := by
  intro lv ls st m
  unfold z_iret
  repeat' split
  all_goals first | (exact Or.inl ⟨_, fun _ _ _ => rfl⟩; done) | (exact Or.inr (Or.inl ⟨_, _, _, _, fun _ _ _ => rfl⟩); done) | (exact Or.inr (Or.inr (Or.inl ⟨_, _, _, fun _ _ _ => rfl⟩)); done)
theorem sh_zret : zShape (z_zret) := by
  intro lv ls st m
  unfold z_zret
  repeat' split
  all_goals first | (exact Or.inl ⟨_, fun _ _ _ => rfl⟩; done) | (exact Or.inr (Or.inl ⟨_, _, _, _, fun _ _ _ => rfl⟩); done) | (exact Or.inr (Or.inr (Or.inl ⟨_, _, _, fun _ _ _ => rfl⟩)); done)
theorem sh_lret : zShape (z_lret) := by
  intro lv ls st m
  unfold z_lret
  repeat' split
  all_goals first | (exact Or.inl ⟨_, fun _ _ _ => rfl⟩; done) | (exact Or.inr (Or.inl ⟨_, _, _, _, fun _ _ _ => rfl⟩); done) | (exact Or.inr (Or.inr (Or.inl ⟨_, _, _, fun _ _ _ => rfl⟩)); done)
theorem sh_aret : zShape (z_aret) := by
  intro lv ls st m
  unfold z_aret
  repeat' split
  all_goals first | (exact Or.inl ⟨_, fun _ _ _ => rfl⟩; done) | (exact Or.inr (Or.inl ⟨_, _, _, _, fun _ _ _ => rfl⟩); done) | (exact Or.inr (Or.inr (Or.inl ⟨_, _, _, fun _ _ _ => rfl⟩)); done)
theorem sh_vret : zShape (z_vret) := by
  intro lv ls st m
  unfold z_vret
  repeat' split
  all_goals first | (exact Or.inl ⟨_, fun _ _ _ => rfl⟩; done) | (exact Or.inr (Or.inl ⟨_, _, _, _, fun _ _ _ => rfl⟩); done) | (exact Or.inr (Or.inr (Or.inl ⟨_, _, _, fun _ _ _ => rfl⟩)); done)
theorem sh_cpyl : zShape (z_cpyl) := by
  intro lv ls st m
  unfold z_cpyl
  repeat' split
  all_goals first | (exact Or.inl ⟨_, fun _ _ _ => rfl⟩; done) | (exact Or.inr (Or.inl ⟨_, _, _, _, fun _ _ _ => rfl⟩); done) | (exact Or.inr (Or.inr (Or.inl ⟨_, _, _, fun _ _ _ => rfl⟩)); done)
theorem sh_newa (t : Nat) : zShape (z_newa t) := by
  intro lv ls st m
  unfold z_newa
  repeat' split
  all_goals first | (exact Or.inl ⟨_, fun _ _ _ => rfl⟩; done) | (exact Or.inr (Or.inl ⟨_, _, _, _, fun _ _ _ => rfl⟩); done) | (exact Or.inr (Or.inr (Or.inl ⟨_, _, _, fun _ _ _ => rfl⟩)); done)
theorem sh_mi2 (op : Int → Int → Int) : zShape (z_mi2 op) := by
  intro lv ls st m
  unfold z_mi2
  repeat' split
  all_goals first | (exact Or.inl ⟨_, fun _ _ _ => rfl⟩; done) | (exact Or.inr (Or.inl ⟨_, _, _, _, fun _ _ _ => rfl⟩); done) | (exact Or.inr (Or.inr (Or.inl ⟨_, _, _, fun _ _ _ => rfl⟩)); done)
theorem sh_mi1 (op : Int → Int) : zShape (z_mi1 op) := by
  intro lv ls st m
  unfold z_mi1
  repeat' split
  all_goals first | (exact Or.inl ⟨_, fun _ _ _ => rfl⟩; done) | (exact Or.inr (Or.inl ⟨_, _, _, _, fun _ _ _ => rfl⟩); done) | (exact Or.inr (Or.inr (Or.inl ⟨_, _, _, fun _ _ _ => rfl⟩)); done)
theorem sh_ml2 (op : Int → Int → Int) : zShape (z_ml2 op) := by
  intro lv ls st m
  unfold z_ml2
  repeat' split
  all_goals first | (exact Or.inl ⟨_, fun _ _ _ => rfl⟩; done) | (exact Or.inr (Or.inl ⟨_, _, _, _, fun _ _ _ => rfl⟩); done) | (exact Or.inr (Or.inr (Or.inl ⟨_, _, _, fun _ _ _ => rfl⟩)); done)
theorem sh_ml1 (op : Int → Int) : zShape (z_ml1 op) := by
  intro lv ls st m
  unfold z_ml1
  repeat' split
  all_goals first | (exact Or.inl ⟨_, fun _ _ _ => rfl⟩; done) | (exact Or.inr (Or.inl ⟨_, _, _, _, fun _ _ _ => rfl⟩); done) | (exact Or.inr (Or.inr (Or.inl ⟨_, _, _, fun _ _ _ => rfl⟩)); done)
theorem sh_getr (c k : Nat) : zShape (z_getr c k) := by
  intro lv ls st m
  unfold z_getr
  split
  · rename_i a r
    split
    · cases zr m a k with
      | none => exact Or.inl ⟨_, fun _ _ _ => rfl⟩
      | some b => exact Or.inr (Or.inr (Or.inl ⟨_, _, _, fun _ _ _ => rfl⟩))
    · exact Or.inl ⟨_, fun _ _ _ => rfl⟩
  · exact Or.inl ⟨_, fun _ _ _ => rfl⟩
theorem sh_aald (t : Nat) : zShape (z_aald t) := by
  intro lv ls st m
  unfold z_aald
  split
  · rename_i x a r
    split
    · cases zr m a x.toNat with
      | none => exact Or.inl ⟨_, fun _ _ _ => rfl⟩
      | some b => exact Or.inr (Or.inr (Or.inl ⟨_, _, _, fun _ _ _ => rfl⟩))
    · exact Or.inl ⟨_, fun _ _ _ => rfl⟩
  · exact Or.inl ⟨_, fun _ _ _ => rfl⟩
theorem sh_lev {md l lv : Nat} {m : zM} {k t : Nat} {as r : List zV} {ls : zLo} : (∃ w : Option zO, ∀ (C : zC) (J : Nat → zK) (K : zK), zlev md l lv (fun j => zret t (C k j as m) K ls r) = w) ∨ (∃ k' j as' t' ls' r', ∀ (C : zC) (J : Nat → zK) (K : zK), zlev md l lv (fun j => zret t (C k j as m) K ls r) = zret t' (C k' j as' m) K ls' r') := by
  rcases md with _ | _ | md
  · exact Or.inr ⟨_, _, _, _, _, _, fun _ _ _ => rfl⟩
  · exact Or.inr ⟨_, _, _, _, _, _, fun _ _ _ => rfl⟩
  · cases lv with
    | zero => exact Or.inl ⟨none, fun _ _ _ => rfl⟩
    | succ j => exact Or.inr ⟨_, _, _, _, _, _, fun _ _ _ => rfl⟩
theorem sh_calls (k md l n t : Nat) : zShape (z_calls k md l n t) := by
  intro lv ls st m
  unfold z_calls
  split
  · rcases sh_lev (md := md) (l := l) (lv := lv) (m := m) (k := k) (t := t) (as := (st.take n).reverse) (r := st.drop n) (ls := ls) with ⟨r, h⟩ | ⟨k', j, as', t', ls', r', h⟩
    · exact Or.inl ⟨r, fun C J K => h C J K⟩
    · exact Or.inr (Or.inr (Or.inr ⟨k', j, as', t', ls', r', fun C J K => h C J K⟩))
  · exact Or.inl ⟨_, fun _ _ _ => rfl⟩
theorem sh_callv (c k md l n t : Nat) : zShape (z_callv c k md l n t) := by
  intro lv ls st m
  unfold z_callv
  split
  · split
    · rcases sh_lev (md := md) (l := l) (lv := lv) (m := m) (k := k) (t := t) (as := (st.take n).reverse) (r := st.drop n) (ls := ls) with ⟨r, h⟩ | ⟨k', j, as', t', ls', r', h⟩
      · exact Or.inl ⟨r, fun C J K => h C J K⟩
      · exact Or.inr (Or.inr (Or.inr ⟨k', j, as', t', ls', r', fun C J K => h C J K⟩))
    · exact Or.inl ⟨_, fun _ _ _ => rfl⟩
  · exact Or.inl ⟨_, fun _ _ _ => rfl⟩
/-- how a return goes on -/
theorem zret_go {t : Nat} (K : zLo → List zV → zM → Option zO) (ls : zLo) (r : List zV) (o : Option zO) : (∀ K, zret t o K ls r = none) ∨ ∃ st m, ∀ K, zret t o K ls r = K ls st m := by
  unfold zret
  split
  · unfold zC0; split
    · exact Or.inr ⟨_, _, fun _ => rfl⟩
    · exact Or.inl fun _ => rfl
  · unfold zC1; split
    · exact Or.inr ⟨_, _, fun _ => rfl⟩
    · exact Or.inl fun _ => rfl
  · unfold zC2; split
    · exact Or.inr ⟨_, _, fun _ => rfl⟩
    · exact Or.inl fun _ => rfl
  · unfold zC3; split
    · exact Or.inr ⟨_, _, fun _ => rfl⟩
    · exact Or.inr ⟨_, _, fun _ => rfl⟩
    · exact Or.inl fun _ => rfl
  · unfold zC4; split
    · exact Or.inr ⟨_, _, fun _ => rfl⟩
    · exact Or.inl fun _ => rfl
theorem zret_none (t : Nat) (K : zLo → List zV → zM → Option zO) (ls : zLo) (r : List zV) : zret t none K ls r = none := by
  unfold zret
  split <;> rfl
/-- one that gives more -/
def zLe (F G : zK) : Prop := ∀ ls st m o, F ls st m = some o → G ls st m = some o
def zLeC (C C' : zC) : Prop := ∀ k l as m o, C k l as m = some o → C' k l as m = some o
theorem zShape.mono {x : zI} (h : zShape x) {lv : Nat} {C C' : zC} {J J' : Nat → zK} {K K' : zK} (hC : zLeC C C') (hJ : ∀ q, zLe (J q) (J' q)) (hK : zLe K K') : zLe (x lv C J K) (x lv C' J' K') := by
  intro ls st m o ho
  rcases h lv ls st m with ⟨r, h⟩ | ⟨t, ls', st', m', h⟩ | ⟨ls', st', m', h⟩ | ⟨k, j, as, t, ls', r, h⟩
  · rw [h] at ho ⊢; exact ho
  · rw [h] at ho ⊢; exact hJ _ _ _ _ _ ho
  · rw [h] at ho ⊢; exact hK _ _ _ _ ho
  · rw [h] at ho ⊢
    cases hc : C k j as m with
    | none => rw [hc, zret_none] at ho; cases ho
    | some u =>
      rw [hC _ _ _ _ _ hc]
      rw [hc] at ho
      rcases zret_go (t := t) K ls' r (some u) with q | ⟨s1, m1, q⟩
      · rw [q] at ho; cases ho
      · rw [q] at ho ⊢; exact hK _ _ _ _ ho
/-- a limit of them -/
def zTo (F : Nat → zK) (G : zK) : Prop := ∀ ls st m o, G ls st m = some o → zEv (fun f => F f ls st m) o
def zToC (C : Nat → zC) (C' : zC) : Prop := ∀ k l as m o, C' k l as m = some o → zEv (fun f => C f k l as m) o
theorem zShape.lim {x : zI} (h : zShape x) {lv : Nat} {C : Nat → zC} {C' : zC} {J : Nat → Nat → zK} {J' : Nat → zK} {K : Nat → zK} {K' : zK} (hC : zToC C C') (hJ : ∀ q, zTo (fun f => J f q) (J' q)) (hK : zTo K K') : zTo (fun f => x lv (C f) (J f) (K f)) (x lv C' J' K') := by
  intro ls st m o ho
  rcases h lv ls st m with ⟨r, h⟩ | ⟨t, ls', st', m', h⟩ | ⟨ls', st', m', h⟩ | ⟨k, j, as, t, ls', r, h⟩
  · rw [h] at ho; exact ⟨0, fun g _ => by show x lv _ _ _ ls st m = _; rw [h]; exact ho⟩
  · rw [h] at ho
    obtain ⟨f, q⟩ := hJ _ _ _ _ _ ho
    exact ⟨f, fun g hg => by show x lv _ _ _ ls st m = _; rw [h]; exact q g hg⟩
  · rw [h] at ho
    obtain ⟨f, q⟩ := hK _ _ _ _ ho
    exact ⟨f, fun g hg => by show x lv _ _ _ ls st m = _; rw [h]; exact q g hg⟩
  · rw [h] at ho
    cases hc : C' k j as m with
    | none => rw [hc, zret_none] at ho; cases ho
    | some u =>
      rw [hc] at ho
      rcases zret_go (t := t) K' ls' r (some u) with q | ⟨s1, m1, q⟩
      · rw [q] at ho; cases ho
      · rw [q] at ho
        obtain ⟨f1, q1⟩ := hC _ _ _ _ _ hc
        obtain ⟨f2, q2⟩ := hK _ _ _ _ ho
        refine ⟨max f1 f2, fun g hg => ?_⟩
        show x lv _ _ _ ls st m = _
        have q3 : C g k j as m = some u := q1 g (Nat.le_trans (Nat.le_max_left _ _) hg)
        rw [h, q3, q]
        exact q2 g (Nat.le_trans (Nat.le_max_right _ _) hg)
/-- all instructions of a block have a shape -/
def zBsh : zBlk → Prop
  | [] => True
  | (_, _, x) :: r => zShape x ∧ zBsh r
theorem zBk_mono {lv : Nat} {C C' : zC} {J J' : Nat → zK} (hC : zLeC C C') (hJ : ∀ q, zLe (J q) (J' q)) : ∀ (b : zBlk) (pc : Nat), zBsh b → zLe (zBk lv C J pc b) (zBk lv C' J' pc b)
  | [], pc, _ => hJ pc
  | (_, n, x) :: r, pc, h => h.1.mono hC hJ (zBk_mono hC hJ r (pc + n) h.2)
theorem zBk_lim {lv : Nat} {C : Nat → zC} {C' : zC} {J : Nat → Nat → zK} {J' : Nat → zK} (hC : zToC C C') (hJ : ∀ q, zTo (fun f => J f q) (J' q)) : ∀ (b : zBlk) (pc : Nat), zBsh b → zTo (fun f => zBk lv (C f) (J f) pc b) (zBk lv C' J' pc b)
  | [], pc, _ => hJ pc
  | (_, n, x) :: r, pc, h => h.1.lim hC hJ (zBk_lim hC hJ r (pc + n) h.2)
section ZP12
variable (P : Nat → zE)
noncomputable def zX (k lv pc : Nat) : zK := fun ls st m => zLim (fun f => zRun P f k lv pc ls st m)
/-- a call, without fuel -/
noncomputable def zF : zC := zGo P (fun k lv pc => zX P k lv pc)
variable {P : Nat → zE}
theorem zGo_le {R R' : Nat → Nat → Nat → zK} (h : ∀ k l q, zLe (R k l q) (R' k l q)) : zLeC (zGo P R) (zGo P R') := by
  intro k l as m o ho
  unfold zGo at ho ⊢
  split
  · rename_i g hg
    rw [hg] at ho
    exact ho
  · rename_i hg
    rw [hg] at ho
    dsimp only at ho
    split
    · rename_i q
      rw [if_pos q] at ho
      exact h _ _ _ _ _ _ _ ho
    · rename_i q
      rw [if_neg q] at ho
      exact ho
theorem zGo_to {R : Nat → Nat → Nat → Nat → zK} {R' : Nat → Nat → Nat → zK} (h : ∀ k l q, zTo (fun f => R f k l q) (R' k l q)) : zToC (fun f => zGo P (R f)) (zGo P R') := by
  intro k l as m o ho
  unfold zGo at ho
  cases hg : (P k).2.2.2.2.2.2 with
  | some g =>
    rw [hg] at ho
    refine ⟨0, fun f _ => ?_⟩
    show zGo P (R f) k l as m = _
    unfold zGo
    rw [hg]
    exact ho
  | none =>
    rw [hg] at ho
    dsimp only at ho
    split at ho
    · rename_i q
      obtain ⟨f, hf⟩ := h _ _ _ _ _ _ _ ho
      refine ⟨f, fun g hg2 => ?_⟩
      show zGo P (R g) k l as m = _
      unfold zGo
      rw [hg]
      dsimp only
      rw [if_pos q]
      exact hf g hg2
    · cases ho
def zPsh (P : Nat → zE) : Prop := ∀ k pc b, (P k).2.2.2.2.2.1 pc = some b → zBsh b
theorem zRun_succ (h : zPsh P) : ∀ f k lv pc, zLe (zRun P f k lv pc) (zRun P (f + 1) k lv pc)
  | 0, k, lv, pc => fun ls st m o ho => by cases ho
  | f + 1, k, lv, pc => by
    intro ls st m o ho
    have ih := zRun_succ h f
    unfold zRun at ho ⊢
    cases hb : (P k).2.2.2.2.2.1 pc with
    | none => rw [hb] at ho; cases ho
    | some b =>
      rw [hb] at ho
      exact zBk_mono (zGo_le ih) (fun q => ih k lv q) b pc (h k pc b hb) ls st m o ho
theorem zRun_le (h : zPsh P) {f g : Nat} (hfg : f ≤ g) (k lv pc : Nat) : zLe (zRun P f k lv pc) (zRun P g k lv pc) := by
  induction hfg with
  | refl => exact fun _ _ _ _ h => h
  | step _ ih => exact fun ls st m o ho => zRun_succ h _ _ _ _ _ _ _ _ (ih ls st m o ho)
theorem zX_of (h : zPsh P) {f k lv pc : Nat} : zLe (zRun P f k lv pc) (zX P k lv pc) := fun ls st m o ho => zLim_some.mpr ⟨f, fun g hg => zRun_le h hg k lv pc ls st m o ho⟩
theorem zX_to {k lv pc : Nat} : zTo (fun f => zRun P f k lv pc) (zX P k lv pc) := fun ls st m o ho => zLim_some.mp ho
/-- THE EQUATION OF A BLOCK -/
theorem zX_eq (h : zPsh P) {k lv pc : Nat} {b : zBlk} (hb : (P k).2.2.2.2.2.1 pc = some b) (ls : zLo) (st : List zV) (m : zM) : zX P k lv pc ls st m = zBk lv (zF P) (fun q => zX P k lv q) pc b ls st m := by
  have h1 : ∀ o, zBk lv (zF P) (fun q => zX P k lv q) pc b ls st m = some o → zX P k lv pc ls st m = some o := by
    intro o ho
    obtain ⟨f, hf⟩ := zBk_lim (C := fun f => zGo P (zRun P f)) (J := fun f q => zRun P f k lv q) (zGo_to (fun k l q => zX_to)) (fun q => zX_to) b pc (h k pc b hb) ls st m o ho
    refine zX_of h (f := f + 1) ls st m o ?_
    unfold zRun
    rw [hb]
    exact hf f (Nat.le_refl _)
  have h2 : ∀ o, zX P k lv pc ls st m = some o → zBk lv (zF P) (fun q => zX P k lv q) pc b ls st m = some o := by
    intro o ho
    obtain ⟨f, hf⟩ := zX_to ls st m o ho
    have hg := hf (f + 1) (Nat.le_succ f)
    dsimp only at hg
    unfold zRun at hg
    rw [hb] at hg
    exact zBk_mono (zGo_le (fun k l q => zX_of h)) (fun q => zX_of h) b pc (h k pc b hb) ls st m o hg
  cases hx : zX P k lv pc ls st m with
  | some o => exact (h2 o hx).symm
  | none =>
    cases hy : zBk lv (zF P) (fun q => zX P k lv q) pc b ls st m with
    | none => rfl
    | some o => rw [h1 o hy] at hx; cases hx
/-- WHAT A CALL GIVES IS WHAT THE MACHINE GIVES -/
theorem zF_met (hP : ∀ k, zMok P (P k)) {k j : Nat} {as : List zV} {mm : zM} {out : zO} (h : zF P k j as mm = some out) (hok : ∀ v ∈ as, zok v) : zGr mm out.2 ∧ ∀ (l : Launch) (D : zD) (ρ : Nat → Nat) (A : Nat → Prop), Met l (P k).1 [.code (P k).1 (P k).2.1 (P k).2.2.1 (P k).2.2.2.1] (zRoom (zmu (P k) j) (zn out.2 - zn mm) (zs out.2 - zs mm)) (zPc D ρ A as mm) (zQ D ρ A out) (zn out.2 - zn mm) (zs out.2 - zs mm) A := by
  obtain ⟨f, hf⟩ := zGo_to (P := P) (fun k l q => zX_to) k j as mm out h
  have hg := hf f (Nat.le_refl _)
  have hE : zmu (P k) j < zmu ((P k).1, (P k).2.1, (P k).2.2.1, (P k).2.2.2.1, (P k).2.2.2.2.1 + 1, (P k).2.2.2.2.2.1, (P k).2.2.2.2.2.2) j := by
    show (P k).2.2.2.2.1 + 2 * j < (P k).2.2.2.2.1 + 1 + 2 * j
    omega
  obtain ⟨h1, h2⟩ := zGo_cs hP f _ j k j as mm out hg
  exact ⟨h1, h2 hE hok⟩
end ZP12
