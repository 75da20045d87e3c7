/-! The runs without fuel: 'zX P k lv pc' is what zRun gives with fuel enough; an equation for each block. -/
section ZP12
variable (P : Nat → zE)
/-- with fuel enough, always -/
def zEv (F : Nat → Option zO) (o : zO) : Prop := ∃ f, ∀ g, f ≤ g → F g = some o
theorem zEv.uniq {F : Nat → Option zO} {o o' : zO} (h : zEv F o) (h' : zEv F o') : o = o' := by
  obtain ⟨f, h⟩ := h
  obtain ⟨f', h'⟩ := h'
  have a := h (max f f') (Nat.le_max_left _ _)
  rw [h' (max f f') (Nat.le_max_right _ _)] at a
  exact (Option.some.inj a).symm
noncomputable def zLim (F : Nat → Option zO) : Option zO := by
  classical
  exact if h : ∃ o, zEv F o then some (Classical.choose h) else none
theorem zLim_some {F : Nat → Option zO} {o : zO} : zLim F = some o ↔ zEv F o := by
  unfold zLim
  constructor
  · intro h
    split at h
    · rename_i hh
      have := Classical.choose_spec hh
      cases h
      exact this
    · cases h
  · intro h
    have hh : ∃ o, zEv F o := ⟨o, h⟩
    rw [dif_pos hh]
    exact congrArg some ((Classical.choose_spec hh).uniq h)
noncomputable def zX (k lv pc : Nat) : zK := fun ls st m => zLim (fun f => zRun P f k lv pc ls st m)
/-- a call, without fuel -/
noncomputable def zF : zC := zGo P (fun k lv pc => zX P k lv pc)
/-- one more fuel does no harm -/
def zLe (F G : zK) : Prop := ∀ ls st m o, F ls st m = some o → G ls st m = some o
def zLeC (C C' : zC) : Prop := ∀ k l as m o, C k l as m = some o → C' k l as m = some o
/-- an instruction keeps that, and is finite -/
def zMn (x : zI) : Prop := (∀ lv C C' J J' K K', zLeC C C' → (∀ q, zLe (J q) (J' q)) → zLe K K' → zLe (x lv C J K) (x lv C' J' K'))
theorem zMn_pure (f : zLo → List zV → Option (zLo × List zV)) : zMn (zPure f) := by
  intro lv C C' J J' K K' hC hJ hK ls st m o h
  unfold zPure at h ⊢
  split at h
  · rename_i q hq
    exact hK _ _ _ _ h
  · cases h
end ZP12
