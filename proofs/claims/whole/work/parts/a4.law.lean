/-! The law's body: what it pushes, what it calls. -/
def qA0 (s : State) : Nat → Prop := fun q => s.heap.size ≤ q
/-- instructions from pc on, as the law's code has them -/
def dcL : Nat → List (Instr × Nat) → Bool
  | _, [] => true
  | pc, (i, n) :: r => decide (decode code pc = .ok (i, n)) && dcL (pc + n) r
def dcN : List (Instr × Nat) → Nat
  | [] => 0
  | (_, n) :: r => n + dcN r
theorem dcL_hd {pc n : Nat} {i : Instr} {r : List (Instr × Nat)} (h : dcL pc ((i, n) :: r) = true) : decode code pc = .ok (i, n) ∧ dcL (pc + n) r = true := by
  unfold dcL at h
  rw [Bool.and_eq_true] at h
  exact ⟨of_decide_eq_true h.1, h.2⟩
theorem dcL_nil (pc : Nat) : dcL pc [] = true := by unfold dcL; rfl
theorem dcL_cons (pc n : Nat) (i : Instr) (r : List (Instr × Nat)) : dcL pc ((i, n) :: r) = (decide (decode code pc = .ok (i, n)) && dcL (pc + n) r) := by
  conv => lhs; unfold dcL
theorem dcN_nil : dcN [] = 0 := rfl
theorem dcN_cons (n : Nat) (i : Instr) (r : List (Instr × Nat)) : dcN ((i, n) :: r) = n + dcN r := rfl
theorem dcL_app {l1 l2 : List (Instr × Nat)} : ∀ {pc : Nat}, dcL pc (l1 ++ l2) = true → dcL pc l1 = true ∧ dcL (pc + dcN l1) l2 = true := by
  induction l1 with
  | nil =>
    intro pc h
    rw [List.nil_append] at h
    rw [dcN_nil, Nat.add_zero]
    exact ⟨dcL_nil pc, h⟩
  | cons x r ih =>
    obtain ⟨i, n⟩ := x
    intro pc h
    rw [List.cons_append] at h
    obtain ⟨h1, h2⟩ := dcL_hd h
    obtain ⟨h3, h4⟩ := ih h2
    rw [dcN_cons, ← Nat.add_assoc, dcL_cons, h3, decide_eq_true h1]
    exact ⟨rfl, h4⟩
theorem dcN_app (l1 l2 : List (Instr × Nat)) : dcN (l1 ++ l2) = dcN l1 + dcN l2 := by
  induction l1 with
  | nil => show dcN l2 = 0 + dcN l2; omega
  | cons x r ih => obtain ⟨x1, x2⟩ := x; show x2 + dcN (r ++ l2) = x2 + dcN r + dcN l2; rw [ih]; omega
/-- an argument: an element of the script, whether it is not 0, a long of two -/
abbrev zAg : Type := Nat × Nat
def eI (k : Nat) : List (Instr × Nat) := [(.aload_n 0, 1), (.iload_n 3, 1), (if k = 6 then (.bipush 6, 2) else (.iconst (k : Int), 1)), (.iadd, 1), (.iaload, 1)]
def agI (a : zAg) : List (Instr × Nat) := match a.1 with
  | 0 => eI a.2
  | 1 => eI a.2 ++ [(.ifCond .eq 7, 3), (.iconst 1, 1), (.goto 4, 3), (.iconst 0, 1)]
  | _ => eI a.2 ++ ([(.i2l, 1), (.bipush 32, 2), (.lshl, 1)] ++ (eI (a.2 + 1) ++ [(.i2l, 1), (.ldc2_w 32, 3), (.land, 1), (.lor, 1)]))
def agIs : List zAg → List (Instr × Nat)
  | [] => []
  | a :: r => agI a ++ agIs r
def lgV (x y : Int) : Int := (((Int64.ofInt x) <<< (Int32.toInt64 32 &&& 63)) ||| (Int64.ofInt y &&& Int64.ofInt 4294967295)).toInt
def agV (f : Nat → Int) (a : zAg) : zV := match a.1 with
  | 0 => .inl (f a.2)
  | 1 => .inl (b01 (!decide (f a.2 = 0)))
  | _ => .inr (.inl (lgV (f a.2) (f (a.2 + 1))))
def agW (f : Nat → Int) (a : zAg) : Value := match a.1 with
  | 0 => .int (Int32.ofInt (f a.2))
  | 1 => .int (Int32.ofInt (b01 (!decide (f a.2 = 0))))
  | _ => .long (Int64.ofInt (lgV (f a.2) (f (a.2 + 1))))
theorem agVW (f : Nat → Int) (ρ : Nat → Nat) (a : zAg) : zW ρ (agV f a) = agW f a := by
  unfold agV agW
  split <;> rfl
theorem agV_ok (f : Nat → Int) (hf : ∀ j, r32 (f j)) (a : zAg) : zok (agV f a) := by
  unfold agV
  split
  · exact hf _
  · unfold b01; split <;> exact ⟨by decide, by decide⟩
  · exact zr64 _
/-- locals in the loop -/
def lwS (ls : Array Slot) (b xa ya i : Nat) : Prop := lv_has ls 4 [(0, .ref b), (1, .ref xa), (2, .ref ya), (3, .int (Int32.ofInt (i : Int)))]
abbrev lwG (p : Program) (l : Launch) (e : Env) (s : State) (m : MethodId) (below : List Frame) (meth : Method) (c : Code) (b : Nat) (H : Heap) (locs : List Loc) (cells slots : Nat) (g : JFrame) : Prop := W p l e room_1 s m #[Value.ref b] below meth c H locs cells slots (lw_Z below #[Value.ref b] s) g
/-- what the law stands in -/
def lwX (p : Program) (s : State) (m : MethodId) (meth : Method) (c : Code) (b L : Nat) (xs : Nat → Int32) (D : zD) : Prop := lw_At p s m meth c b L xs ∧ zKs D s ∧ D.2.2.2.1 = s.heap ∧ D.2.2.2.2 = qA0 s ∧ L ≤ 3584
theorem lw_ldc : Jvm.Cond.constantLong "ErrataLandLaw" 32 (Int64.ofInt 4294967295) ∈ lw_tbl := List.mem_of_getElem? (i := 2299) (by decide +kernel)
section LAW
variable {p : Program} {l : Launch} {e : Env} {s : State} {m : MethodId} {below : List Frame} {meth : Method} {c : Code} {b L : Nat} {xs : Nat → Int32} {D : zD} {H : Heap} {locs : List Loc} {cells slots : Nat} {ls : Array Slot} {st : List Value} {pc i xa ya k : Nat}
theorem ofI_add (i k : Nat) : Int32.ofInt (i : Int) + Int32.ofInt (k : Int) = Int32.ofInt ((i + k : Nat) : Int) := by
  rw [← Int32.ofInt_add]; rfl
theorem lw_e (h : dcL pc (eI k) = true) (hk : k ≤ 6) (hX : lwX p s m meth c b L xs D) (hS : va_S (qA0 s) s.heap H locs) (hls : lwS ls b xa ya i) (hi : i + 7 ≤ L)
    (kk : lwG p l e s m below meth c b H locs cells slots (F0 m (pc + dcN (eI k)) ls (.int (xs (i + k)) :: st))) : lwG p l e s m below meth c b H locs cells slots (F0 m pc ls st) := by
  obtain ⟨⟨hx, hb, -, hml, hown, hts, hXb, hbl, -, -⟩, -, -, -, hL⟩ := hX
  have hA : ¬ qA0 s b := Nat.not_le.mpr hbl
  have r : r32 ((i + k : Nat) : Int) := by unfold r32; omega
  have hin : vp_in (Int32.ofInt ((i + k : Nat) : Int)) L := zin r (by omega) (by omega)
  have e1 : (Int32.ofInt ((i + k : Nat) : Int)).toNatClampNeg = i + k := by rw [zcn r (by omega)]; omega
  by_cases c6 : k = 6
  · subst c6
    have e2 : eI 6 = [(.aload_n 0, 1), (.iload_n 3, 1), (.bipush 6, 2), (.iadd, 1), (.iaload, 1)] := rfl
    rw [e2] at h kk
    obtain ⟨d0, h⟩ := dcL_hd h
    obtain ⟨d1, h⟩ := dcL_hd h
    obtain ⟨d2, h⟩ := dcL_hd h
    obtain ⟨d3, h⟩ := dcL_hd h
    obtain ⟨d4, h⟩ := dcL_hd h
    refine lv_aload_n hx hb d0 rfl (lv_at hls 0 rfl) ?_
    refine lv_iload_n hx hb d1 rfl (lv_at hls 3 rfl) ?_
    refine lv_bipush (v := Int32.ofInt ((6 : Nat) : Int)) hx hb d2 (by decide +kernel) ?_
    refine lv_iadd hx hb d3 ?_
    rw [ofI_add]
    refine va_sld hx hb hXb hbl hA hS hin d4 ?_
    rw [e1]
    exact kk
  · have e2 : eI k = [(.aload_n 0, 1), (.iload_n 3, 1), (.iconst (k : Int), 1), (.iadd, 1), (.iaload, 1)] := by unfold eI; rw [if_neg c6]
    rw [e2] at h kk
    obtain ⟨d0, h⟩ := dcL_hd h
    obtain ⟨d1, h⟩ := dcL_hd h
    obtain ⟨d2, h⟩ := dcL_hd h
    obtain ⟨d3, h⟩ := dcL_hd h
    obtain ⟨d4, h⟩ := dcL_hd h
    refine lv_aload_n hx hb d0 rfl (lv_at hls 0 rfl) ?_
    refine lv_iload_n hx hb d1 rfl (lv_at hls 3 rfl) ?_
    refine lv_iconst (v := Int32.ofInt (k : Int)) hx hb d2 rfl ?_
    refine lv_iadd hx hb d3 ?_
    rw [ofI_add]
    refine va_sld hx hb hXb hbl hA hS hin d4 ?_
    rw [e1]
    exact kk
/-- an argument pushed -/
theorem lw_a {a : zAg} {f : Nat → Int} (hf : ∀ j, f j = (xs (i + j)).toInt) (h : dcL pc (agI a) = true) (ha : a.2 + 1 ≤ 6 ∨ (a.1 ≤ 1 ∧ a.2 ≤ 6)) (hX : lwX p s m meth c b L xs D) (hS : va_S (qA0 s) s.heap H locs) (hls : lwS ls b xa ya i) (hi : i + 7 ≤ L)
    (kk : lwG p l e s m below meth c b H locs cells slots (F0 m (pc + dcN (agI a)) ls (agW f a :: st))) : lwG p l e s m below meth c b H locs cells slots (F0 m pc ls st) := by
  have hx := hX.1.1
  have hb := hX.1.2.1
  have hown := hX.1.2.2.2.2.1
  obtain ⟨k, j⟩ := a
  have hk : k = 0 ∨ k = 1 ∨ ∃ k', k = k' + 2 := by
    by_cases c0 : k = 0
    · exact Or.inl c0
    · by_cases c1 : k = 1
      · exact Or.inr (Or.inl c1)
      · exact Or.inr (Or.inr ⟨k - 2, by omega⟩)
  rcases hk with hk | hk | ⟨k', hk⟩
  · subst hk
    refine lw_e (k := j) h (by omega) hX hS hls hi ?_
    have e0 : agW f (0, j) = .int (xs (i + j)) := by
      show Value.int (Int32.ofInt (f j)) = _
      rw [hf, zO32]
    rw [e0] at kk
    exact kk
  · subst hk
    obtain ⟨h1, h2⟩ := dcL_app (l1 := eI j) h
    refine lw_e (k := j) h1 (by omega) hX hS hls hi ?_
    have e1 : agI (1, j) = eI j ++ [(.ifCond .eq 7, 3), (.iconst 1, 1), (.goto 4, 3), (.iconst 0, 1)] := rfl
    have e8 : dcN [((.ifCond .eq 7, 3) : Instr × Nat), (.iconst 1, 1), (.goto 4, 3), (.iconst 0, 1)] = 8 := rfl
    rw [e1, dcN_app, e8, ← Nat.add_assoc] at kk
    generalize pc + dcN (eI j) = q at h2 kk ⊢
    obtain ⟨d0, h2⟩ := dcL_hd h2
    obtain ⟨d1, h2⟩ := dcL_hd h2
    obtain ⟨d2, h2⟩ := dcL_hd h2
    obtain ⟨d3, h2⟩ := dcL_hd h2
    have hz : xs (i + j) = 0 ↔ f j = 0 := by rw [hf, ← Int32.toInt_inj]; exact Iff.rfl
    refine lv_if_eq (tgt := q + 7) hx hb d0 (by omega) (fun hc => ?_) (fun hc => ?_)
    · refine lv_iconst (v := 0) hx hb (pc := q + 7) d3 (by decide) ?_
      have e0 : agW f (1, j) = .int 0 := by
        show Value.int (Int32.ofInt (b01 (!decide (f j = 0)))) = _
        rw [decide_eq_true (hz.mp hc)]; rfl
      rw [e0] at kk
      exact kk
    · refine lv_iconst (v := 1) hx hb d1 (by decide) ?_
      refine lv_goto (tgt := q + 8) hx hb d2 (by omega) ?_
      have e0 : agW f (1, j) = .int 1 := by
        show Value.int (Int32.ofInt (b01 (!decide (f j = 0)))) = _
        rw [decide_eq_false (fun w => hc (hz.mpr w))]; rfl
      rw [e0] at kk
      exact kk
  · subst hk
    have e3 : ∀ k j : Nat, agI (k + 2, j) = eI j ++ ([(.i2l, 1), (.bipush 32, 2), (.lshl, 1)] ++ (eI (j + 1) ++ [(.i2l, 1), (.ldc2_w 32, 3), (.land, 1), (.lor, 1)])) := fun _ _ => rfl
    rw [e3] at h kk
    obtain ⟨h1, h2⟩ := dcL_app (l1 := eI j) h
    have hj : j + 1 ≤ 6 := by
      rcases ha with q | q
      · exact q
      · have := q.1; simp at this
    refine lw_e (k := j) h1 (by omega) hX hS hls hi ?_
    rw [dcN_app, dcN_app, dcN_app, ← Nat.add_assoc, ← Nat.add_assoc, ← Nat.add_assoc] at kk
    generalize pc + dcN (eI j) = q at h2 kk ⊢
    obtain ⟨h2, h4⟩ := dcL_app (l1 := [(.i2l, 1), (.bipush 32, 2), (.lshl, 1)]) h2
    have ew : dcN [((.i2l, 1) : Instr × Nat), (.bipush 32, 2), (.lshl, 1)] = 4 := rfl
    have ew6 : dcN [((.i2l, 1) : Instr × Nat), (.ldc2_w 32, 3), (.land, 1), (.lor, 1)] = 6 := rfl
    rw [ew] at h4
    rw [ew, ew6] at kk
    obtain ⟨d0, h2⟩ := dcL_hd h2
    obtain ⟨d1, h2⟩ := dcL_hd h2
    obtain ⟨d2, h2⟩ := dcL_hd h2
    refine lv_i2l hx hb d0 rfl ?_
    refine lv_bipush (v := 32) hx hb d1 (by decide +kernel) ?_
    refine lv_lshl hx hb d2 rfl ?_
    obtain ⟨h4, h5⟩ := dcL_app (l1 := eI (j + 1)) h4
    refine lw_e (pc := q + 1 + 2 + 1) (k := j + 1) h4 hj hX hS hls hi ?_
    rw [show q + 1 + 2 + 1 = q + 4 by omega]
    generalize q + 4 + dcN (eI (j + 1)) = q2 at h5 kk ⊢
    obtain ⟨d3, h5⟩ := dcL_hd h5
    obtain ⟨d4, h5⟩ := dcL_hd h5
    obtain ⟨d5, h5⟩ := dcL_hd h5
    obtain ⟨d6, h5⟩ := dcL_hd h5
    refine lv_i2l hx hb d3 rfl ?_
    refine lv_ldc2 (v := Int64.ofInt 4294967295) hx hb hown (hX.1.2.2.2.2.2.1 _ lw_ldc) d4 ?_
    refine lv_land hx hb d5 ?_
    refine lv_lor hx hb d6 ?_
    have e0 : agW f (k' + 2, j) = .long ((xs (i + j)).toInt64 <<< (Int32.toInt64 32 &&& 63) ||| (xs (i + (j + 1))).toInt64 &&& Int64.ofInt 4294967295) := by
      show Value.long (Int64.ofInt (lgV (f j) (f (j + 1)))) = _
      unfold lgV
      rw [zO64, hf, hf]
      rfl
    rw [e0] at kk
    exact kk
end LAW
