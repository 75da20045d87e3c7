/-! equations of calls and blocks -/
def zLet {α : Type} (e : zM) (f : zM → α) : α := f e
section ZP19
variable {P : Nat → zE}
theorem zXb (h : zPsh P) {k lv pc : Nat} {E : zE} {b : zBlk} {ls : zLo} {st : List zV} {m : zM} (hE : P k = E) (hb : E.2.2.2.2.2.1 pc = some b) : zX P k lv pc ls st m = zBk lv (zF P) (fun q => zX P k lv q) pc b ls st m := zX_eq h (by rw [hE]; exact hb) ls st m
theorem zFb (h : zPsh P) {k l : Nat} {as : List zV} {m : zM} {E : zE} {b : zBlk} (hE : P k = E) (he : E.2.2.2.2.2.2 = none) (hl : Nat.ble (zaw as) E.2.2.1 = true) (hb : E.2.2.2.2.2.1 0 = some b) : zF P k l as m = zBk l (zF P) (fun q => zX P k l q) 0 b (zEnt as E.2.2.1) [] m := by
  have h1 : zF P k l as m = zX P k l 0 (zEnt as E.2.2.1) [] m := by
    unfold zF zGo
    rw [hE, he]
    dsimp only
    rw [if_pos (Nat.le_of_ble_eq_true hl)]
  rw [h1]
  exact zXb h hE hb
end ZP19
