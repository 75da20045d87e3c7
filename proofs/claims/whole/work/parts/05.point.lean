/-! A point of a method's run, and what it is for a continuation to be sound. -/
def zcm (ls : zLo) (i : Nat) (v : zV) : Prop := ls[i]? = some (some v) ∧ ∀ x, v = .inr (.inl x) → ls[i + 1]? = some none
def zLr (ρ : Nat → Nat) (nL : Nat) (lsA : Array Slot) (ls : zLo) : Prop := lsA.size = nL ∧ lv_wf lsA ∧ ∀ i v, zcm ls i v → lsA[i]? = some (.val (zW ρ v))
def zGr (m m' : zM) : Prop := zn m ≤ zn m' ∧ zs m ≤ zs m'
def zRoom (mu c s : Nat) : Room := { frames := mu, cells := c, slots := s, locals := 60 * mu }
def zCx (E : zE) (p : Program) (s : State) (m : MethodId) (meth : Method) (c : Code) (D : zD) (A : Nat → Prop) : Prop :=
  p.tables.exec = Jvm.exec ∧ c.code = E.2.1 ∧ c.maxLocals = E.2.2.1 ∧ meth.sig.returnType = E.2.2.2.1 ∧ s.vm.findClass E.1.cls = some m.cls ∧ meth.locks = false ∧ meth.name = E.1.name ∧ (∀ q, s.heap.size ≤ q → A q) ∧ zKs D s
def zPt (E : zE) (D : zD) (ρ : Nat → Nat) (A : Nat → Prop) (s : State) (n0 s0 : Nat) (ls : zLo) (st : List zV) (m : zM) (H : Heap) (locs : List Loc) (lsA : Array Slot) : Prop :=
  zLr ρ E.2.2.1 lsA ls ∧ (∀ v ∈ st, zok v) ∧ (∀ v, some v ∈ ls → zok v) ∧ zH D ρ A m H ∧ va_S A s.heap H locs ∧ n0 ≤ zn m ∧ s0 ≤ zs m
/-- a method's start and its end -/
def zPc (D : zD) (ρ : Nat → Nat) (A : Nat → Prop) (as : List zV) (m : zM) : Array Value → State → Prop := fun v U => v = (as.map (zW ρ)).toArray ∧ zH D ρ A m U.heap ∧ zKs D U ∧ ∀ q, U.heap.size ≤ q → A q
def zQ (D : zD) (ρ : Nat → Nat) (A : Nat → Prop) (out : zO) : Array Value → State → Outcome → State → Prop := fun _ st oc t => oc = .returned (out.1.map (zW ρ)) ∧ (∀ v, out.1 = some v → zok v) ∧ zH D ρ A out.2 t.heap ∧ va_F A st t
/-- what a value is told of a return -/
def zSn (E : zE) (lv pc : Nat) (F : zK) : Prop := ∀ (ls : zLo) (st : List zV) (mm : zM) (out : zO), F ls st mm = some out → zGr mm out.2 ∧
  ∀ (p : Program) (l : Launch) (e : Env) (s : State) (m : MethodId) (args : Array Value) (below : List Frame) (meth : Method) (c : Code) (D : zD) (ρ : Nat → Nat) (A : Nat → Prop) (n0 s0 : Nat) (H : Heap) (locs : List Loc) (lsA : Array Slot),
    zCx E p s m meth c D A → zPt E D ρ A s n0 s0 ls st mm H locs lsA →
    W p l e (zRoom (zmu E lv) (zn out.2 - n0) (zs out.2 - s0)) s m args below meth c H locs (zn mm - n0) (zs mm - s0) (MQ below (zQ D ρ A out) args s (zn out.2 - n0) (zs out.2 - s0) A) (F0 m pc lsA (st.map (zW ρ)))
def zCs (P : Nat → zE) (E : zE) (lv : Nat) (C : zC) : Prop := ∀ k j as mm out, C k j as mm = some out → zGr mm out.2 ∧
  (zmu (P k) j < zmu E lv → (∀ v ∈ as, zok v) → ∀ (l : Launch) (D : zD) (ρ : Nat → Nat) (A : Nat → Prop), Met l (P k).1 [.code (P k).1 (P k).2.1 (P k).2.2.1 (P k).2.2.2.1] (zRoom (zmu (P k) j) (zn out.2 - zn mm) (zs out.2 - zs mm)) (zPc D ρ A as mm) (zQ D ρ A out) (zn out.2 - zn mm) (zs out.2 - zs mm) A)
/-- an instruction is sound -/
def zSi (P : Nat → zE) (E : zE) (pc : Nat) (i : Instr) (n : Nat) (x : zI) : Prop := ∀ (lv : Nat) (C : zC) (J : Nat → zK) (K : zK), decode E.2.1 pc = .ok (i, n) → zCs P E lv C → (∀ q, zSn E lv q (J q)) → zSn E lv (pc + n) K → zSn E lv pc (x lv C J K)
theorem zGr.rf (m : zM) : zGr m m := ⟨Nat.le_refl _, Nat.le_refl _⟩
theorem zGr.tr {a b c : zM} (h : zGr a b) (h' : zGr b c) : zGr a c := ⟨Nat.le_trans h.1 h'.1, Nat.le_trans h.2 h'.2⟩
/-- what touches locals and stack alone -/
def zPs (E : zE) (i : Instr) (n : Nat) (f : zLo → List zV → Option (zLo × List zV)) : Prop := ∀ ls st q, f ls st = some q → (∀ v ∈ st, zok v) → (∀ v, some v ∈ ls → zok v) →
  ((∀ v ∈ q.2, zok v) ∧ ∀ v, some v ∈ q.1 → zok v) ∧
  ∀ (p : Program) (l : Launch) (e : Env) (R : Room) (s : State) (m : MethodId) (args : Array Value) (below : List Frame) (meth : Method) (c : Code) (H : Heap) (locs : List Loc) (cells slots : Nat) (Q : State → Prop) (pc : Nat) (lsA : Array Slot) (ρ : Nat → Nat),
    p.tables.exec = Jvm.exec → c.code = E.2.1 → s.vm.findClass E.1.cls = some m.cls → (∀ w ∈ zAll, w.before args s = true) → decode E.2.1 pc = .ok (i, n) → zLr ρ E.2.2.1 lsA ls →
    (∀ lsA', zLr ρ E.2.2.1 lsA' q.1 → W p l e R s m args below meth c H locs cells slots Q (F0 m (pc + n) lsA' (q.2.map (zW ρ)))) → W p l e R s m args below meth c H locs cells slots Q (F0 m pc lsA (st.map (zW ρ)))
theorem zPs.si {P : Nat → zE} {E : zE} {pc : Nat} {i : Instr} {n : Nat} {f : zLo → List zV → Option (zLo × List zV)} (h : zPs E i n f) : zSi P E pc i n (zPure f) := by
  intro lv C J K hd hC hJ hK ls st mm out hF
  unfold zPure at hF
  cases hq : f ls st with
  | none => rw [hq] at hF; cases hF
  | some q =>
    rw [hq] at hF
    have hF : K q.1 q.2 mm = some out := hF
    refine ⟨(hK _ _ _ _ hF).1, fun p l e s m args below meth c D ρ A n0 s0 H locs lsA hc hp => ?_⟩
    obtain ⟨hL, hst, hls, hH, hS, h1, h2⟩ := hp
    obtain ⟨⟨k1, k2⟩, k3⟩ := h ls st q hq hst hls
    refine k3 p l e _ s m args below meth c H locs _ _ _ pc lsA ρ hc.1 hc.2.1 hc.2.2.2.2.1 (fun w hw => zKs_word hc.2.2.2.2.2.2.2.2 hw) hd hL (fun lsA' hL' => ?_)
    exact (hK _ _ _ _ hF).2 p l e s m args below meth c D ρ A n0 s0 H locs lsA' hc ⟨hL', k1, k2, hH, hS, h1, h2⟩
/-- stack alone: what is pushed is sound, the row goes on with the same locals -/
theorem zPs.st {E : zE} {i : Instr} {n : Nat} {f : zLo → List zV → Option (zLo × List zV)}
    (h : ∀ ls st q, f ls st = some q → q.1 = ls ∧ ((∀ v ∈ st, zok v) → (∀ v, some v ∈ ls → zok v) → (∀ v ∈ q.2, zok v) ∧
      ∀ (p : Program) (l : Launch) (e : Env) (R : Room) (s : State) (m : MethodId) (args : Array Value) (below : List Frame) (meth : Method) (c : Code) (H : Heap) (locs : List Loc) (cells slots : Nat) (Q : State → Prop) (pc : Nat) (lsA : Array Slot) (ρ : Nat → Nat),
        p.tables.exec = Jvm.exec → c.code = E.2.1 → s.vm.findClass E.1.cls = some m.cls → (∀ w ∈ zAll, w.before args s = true) → decode E.2.1 pc = .ok (i, n) → zLr ρ E.2.2.1 lsA ls →
        W p l e R s m args below meth c H locs cells slots Q (F0 m (pc + n) lsA (q.2.map (zW ρ))) → W p l e R s m args below meth c H locs cells slots Q (F0 m pc lsA (st.map (zW ρ))))) : zPs E i n f := by
  intro ls st q hq hst hls
  obtain ⟨e1, e2⟩ := h ls st q hq
  obtain ⟨k1, k2⟩ := e2 hst hls
  refine ⟨⟨k1, by rw [e1]; exact hls⟩, ?_⟩
  intro p l e R s m args below meth c H locs cells slots Q pc lsA ρ a1 a2 a3 a4 a5 a6 a7
  exact k2 p l e R s m args below meth c H locs cells slots Q pc lsA ρ a1 a2 a3 a4 a5 a6 (a7 lsA (by rw [e1]; exact a6))
theorem zok_c {v : zV} {l : List zV} (h : zok v) (hl : ∀ v ∈ l, zok v) : ∀ w ∈ v :: l, zok w := fun w hw => by
  rcases List.mem_cons.mp hw with rfl | hw
  · exact h
  · exact hl w hw
theorem zok_t {v : zV} {l : List zV} (hl : ∀ w ∈ v :: l, zok w) : ∀ w ∈ l, zok w := fun w hw => hl w (List.mem_cons_of_mem _ hw)
theorem zok_h {v : zV} {l : List zV} (hl : ∀ w ∈ v :: l, zok w) : zok v := hl v List.mem_cons_self
section ZPS
variable {E : zE}
theorem p_iconst {n : Int} {x : Int} (hx : x = n) (hr : r32 x) : zPs E (.iconst n) 1 (zf_const x) := zPs.st fun ls st q hq => by
  cases hq
  refine ⟨rfl, fun h1 h2 => ⟨zok_c hr h1, ?_⟩⟩
  intro p l e R s m args below meth c H locs cells slots Q pc lsA ρ a1 a2 a3 a4 a5 a6 a7
  exact lv_iconst a1 a2 a5 (by rw [hx]) a7
theorem p_bipush {n : Int} {x : Int} (hx : Int32.ofInt x = (Int8.ofInt n).toInt32) (hr : r32 x) : zPs E (.bipush n) 2 (zf_const x) := zPs.st fun ls st q hq => by
  cases hq
  refine ⟨rfl, fun h1 h2 => ⟨zok_c hr h1, ?_⟩⟩
  intro p l e R s m args below meth c H locs cells slots Q pc lsA ρ a1 a2 a3 a4 a5 a6 a7
  exact lv_bipush a1 a2 a5 hx.symm a7
theorem p_sipush {n : Int} {x : Int} (hx : Int32.ofInt x = (Int16.ofInt n).toInt32) (hr : r32 x) : zPs E (.sipush n) 3 (zf_const x) := zPs.st fun ls st q hq => by
  cases hq
  refine ⟨rfl, fun h1 h2 => ⟨zok_c hr h1, ?_⟩⟩
  intro p l e R s m args below meth c H locs cells slots Q pc lsA ρ a1 a2 a3 a4 a5 a6 a7
  exact lv_sipush a1 a2 a5 hx.symm a7
theorem p_ldc {n : Nat} {x : Int} (hr : r32 x) (hw : Cond.constant E.1.cls n (Int32.ofInt x) ∈ zAll) : zPs E (.ldc n) 2 (zf_const x) := zPs.st fun ls st q hq => by
  cases hq
  refine ⟨rfl, fun h1 h2 => ⟨zok_c hr h1, ?_⟩⟩
  intro p l e R s m args below meth c H locs cells slots Q pc lsA ρ a1 a2 a3 a4 a5 a6 a7
  exact lv_ldc a1 a2 a3 (a4 _ hw) a5 a7
theorem p_ldcw {n : Nat} {x : Int} (hr : r32 x) (hw : Cond.constant E.1.cls n (Int32.ofInt x) ∈ zAll) : zPs E (.ldc_w n) 3 (zf_const x) := zPs.st fun ls st q hq => by
  cases hq
  refine ⟨rfl, fun h1 h2 => ⟨zok_c hr h1, ?_⟩⟩
  intro p l e R s m args below meth c H locs cells slots Q pc lsA ρ a1 a2 a3 a4 a5 a6 a7
  exact lv_ldcw a1 a2 a3 (a4 _ hw) a5 a7
theorem p_ldc2 {n : Nat} {x : Int} (hr : r64 x) (hw : Cond.constantLong E.1.cls n (Int64.ofInt x) ∈ zAll) : zPs E (.ldc2_w n) 3 (zf_lconst x) := zPs.st fun ls st q hq => by
  cases hq
  refine ⟨rfl, fun h1 h2 => ⟨zok_c hr h1, ?_⟩⟩
  intro p l e R s m args below meth c H locs cells slots Q pc lsA ρ a1 a2 a3 a4 a5 a6 a7
  exact lv_ldc2 a1 a2 a3 (a4 _ hw) a5 a7
theorem p_lconst {n : Fin 2} {x : Int} (hx : Int64.ofInt x = Int64.ofNat (n : Nat)) (hr : r64 x) : zPs E (.lconst n) 1 (zf_lconst x) := zPs.st fun ls st q hq => by
  cases hq
  refine ⟨rfl, fun h1 h2 => ⟨zok_c hr h1, ?_⟩⟩
  intro p l e R s m args below meth c H locs cells slots Q pc lsA ρ a1 a2 a3 a4 a5 a6 a7
  exact lv_lconst a1 a2 a5 hx.symm a7
theorem p_null : zPs E .aconst_null 1 zf_null := zPs.st fun ls st q hq => by
  cases hq
  refine ⟨rfl, fun h1 h2 => ⟨zok_c trivial h1, ?_⟩⟩
  intro p l e R s m args below meth c H locs cells slots Q pc lsA ρ a1 a2 a3 a4 a5 a6 a7
  exact lv_null a1 a2 a5 a7
theorem zcm_i {ls : zLo} {k : Nat} {x : Int} (h : ls[k]? = some (some (.inl x))) : zcm ls k (.inl x) := ⟨h, fun y hy => by cases hy⟩
theorem zcm_a {ls : zLo} {k : Nat} {x : Option Nat} (h : ls[k]? = some (some (.inr (.inr x)))) : zcm ls k (.inr (.inr x)) := ⟨h, fun y hy => by cases hy⟩
theorem p_iload {k : Nat} : zPs E (.iload k) 2 (zf_iload k) := zPs.st fun ls st q hq => by
  unfold zf_iload at hq
  split at hq
  · rename_i x hx
    cases hq
    refine ⟨rfl, fun h1 h2 => ⟨zok_c (h2 _ (List.mem_of_getElem? hx)) h1, ?_⟩⟩
    intro p l e R s m args below meth c H locs cells slots Q pc lsA ρ a1 a2 a3 a4 a5 a6 a7
    exact lv_iload a1 a2 a5 (a6.2.2 k _ (zcm_i hx)) a7
  · cases hq
theorem p_iload_n {k : Fin 4} {k' : Nat} (hk : (k : Nat) = k') : zPs E (.iload_n k) 1 (zf_iload k') := zPs.st fun ls st q hq => by
  unfold zf_iload at hq
  split at hq
  · rename_i x hx
    cases hq
    refine ⟨rfl, fun h1 h2 => ⟨zok_c (h2 _ (List.mem_of_getElem? hx)) h1, ?_⟩⟩
    intro p l e R s m args below meth c H locs cells slots Q pc lsA ρ a1 a2 a3 a4 a5 a6 a7
    exact lv_iload_n a1 a2 a5 hk (a6.2.2 k' _ (zcm_i hx)) a7
  · cases hq
theorem p_lload {k : Nat} : zPs E (.lload k) 2 (zf_lload k) := zPs.st fun ls st q hq => by
  unfold zf_lload at hq
  split at hq
  · rename_i x hx hy
    cases hq
    refine ⟨rfl, fun h1 h2 => ⟨zok_c (h2 _ (List.mem_of_getElem? hx)) h1, ?_⟩⟩
    intro p l e R s m args below meth c H locs cells slots Q pc lsA ρ a1 a2 a3 a4 a5 a6 a7
    exact lv_lload a1 a2 a5 (a6.2.2 k _ ⟨hx, fun _ _ => hy⟩) a7
  · cases hq
theorem p_lload_n {k : Fin 4} {k' : Nat} (hk : (k : Nat) = k') : zPs E (.lload_n k) 1 (zf_lload k') := zPs.st fun ls st q hq => by
  unfold zf_lload at hq
  split at hq
  · rename_i x hx hy
    cases hq
    refine ⟨rfl, fun h1 h2 => ⟨zok_c (h2 _ (List.mem_of_getElem? hx)) h1, ?_⟩⟩
    intro p l e R s m args below meth c H locs cells slots Q pc lsA ρ a1 a2 a3 a4 a5 a6 a7
    exact lv_lload_n a1 a2 a5 hk (a6.2.2 k' _ ⟨hx, fun _ _ => hy⟩) a7
  · cases hq
theorem p_aload {k : Nat} : zPs E (.aload k) 2 (zf_aload k) := zPs.st fun ls st q hq => by
  unfold zf_aload at hq
  split at hq
  · rename_i x hx
    cases hq
    refine ⟨rfl, fun h1 h2 => ⟨zok_c trivial h1, ?_⟩⟩
    intro p l e R s m args below meth c H locs cells slots Q pc lsA ρ a1 a2 a3 a4 a5 a6 a7
    have hv := a6.2.2 k _ (zcm_a hx)
    cases x with
    | none => exact lv_aloadN a1 a2 a5 hv a7
    | some a => exact lv_aload a1 a2 a5 hv a7
  · cases hq
theorem p_aload_n {k : Fin 4} {k' : Nat} (hk : (k : Nat) = k') : zPs E (.aload_n k) 1 (zf_aload k') := zPs.st fun ls st q hq => by
  unfold zf_aload at hq
  split at hq
  · rename_i x hx
    cases hq
    refine ⟨rfl, fun h1 h2 => ⟨zok_c trivial h1, ?_⟩⟩
    intro p l e R s m args below meth c H locs cells slots Q pc lsA ρ a1 a2 a3 a4 a5 a6 a7
    have hv := a6.2.2 k' _ (zcm_a hx)
    cases x with
    | none => exact lv_aload_nN a1 a2 a5 hk hv a7
    | some a => exact lv_aload_n a1 a2 a5 hk hv a7
  · cases hq
/-- stores -/
def zall (lsA : Array Slot) : List (Nat × Value) := (List.range lsA.size).filterMap fun j => match lsA[j]? with
  | some (Slot.val v) => some (j, v)
  | _ => none
theorem zall_in {lsA : Array Slot} {j : Nat} {v : Value} (h : lsA[j]? = some (.val v)) : (j, v) ∈ zall lsA := by
  refine List.mem_filterMap.mpr ⟨j, List.mem_range.mpr (Array.getElem?_eq_some_iff.mp h).1, ?_⟩
  rw [h]
theorem zall_has {lsA : Array Slot} {nL : Nat} (h1 : lsA.size = nL) (h2 : lv_wf lsA) : lv_has lsA nL (zall lsA) := by
  refine ⟨h1, h2, fun q hq => ?_⟩
  obtain ⟨j, -, hj⟩ := List.mem_filterMap.mp hq
  split at hj
  · rename_i v hv
    cases hj
    exact hv
  · cases hj
theorem zLr_st1 {ρ : Nat → Nat} {nL k : Nat} {lsA lsA' : Array Slot} {ls : zLo} {v : zV} (hv : ∀ x, v ≠ .inr (.inl x)) (h : zLr ρ nL lsA ls)
    (h' : lv_has lsA' nL ((k, zW ρ v) :: (zall lsA).filter (fun q => !(q.1 == k) && !(q.1 + 1 == k && q.2.category == 2)))) : zLr ρ nL lsA' (ls.set k (some v)) := by
  refine ⟨h'.1, h'.2.1, fun j w hw => ?_⟩
  obtain ⟨w1, w2⟩ := hw
  by_cases hjk : j = k
  · subst hjk
    have hlt : j < ls.length := by
      rcases Nat.lt_or_ge j ls.length with q | q
      · exact q
      · rw [List.getElem?_eq_none (by rw [List.length_set]; exact q)] at w1; cases w1
    rw [List.getElem?_set_self hlt] at w1
    cases w1
    exact h'.2.2 (j, zW ρ v) List.mem_cons_self
  · rw [List.getElem?_set_ne (Ne.symm hjk)] at w1
    have hold : lsA[j]? = some (.val (zW ρ w)) := by
      refine h.2.2 j w ⟨w1, fun x hx => ?_⟩
      have h3 := w2 x hx
      by_cases hk : j + 1 = k
      · subst hk
        have hlt : j + 1 < ls.length := by
          rcases Nat.lt_or_ge (j + 1) ls.length with q | q
          · exact q
          · rw [List.getElem?_eq_none (by rw [List.length_set]; exact q)] at h3; cases h3
        rw [List.getElem?_set_self hlt] at h3
        cases h3
      · rwa [List.getElem?_set_ne (Ne.symm hk)] at h3
    refine h'.2.2 (j, zW ρ w) (List.mem_cons_of_mem _ (List.mem_filter.mpr ⟨zall_in hold, ?_⟩))
    simp only [Bool.and_eq_true, Bool.not_eq_true', beq_eq_false_iff_ne, ne_eq, Bool.and_eq_false_iff]
    refine ⟨hjk, ?_⟩
    by_cases hk : j + 1 = k
    · right
      intro hc
      have : ∃ x, w = .inr (.inl x) := by
        rcases w with x | x | x
        · cases hc
        · exact ⟨x, rfl⟩
        · cases x <;> cases hc
      obtain ⟨x, rfl⟩ := this
      have h3 := w2 x rfl
      subst hk
      have hlt : j + 1 < ls.length := by
        rcases Nat.lt_or_ge (j + 1) ls.length with q | q
        · exact q
        · rw [List.getElem?_eq_none (by rw [List.length_set]; exact q)] at h3; cases h3
      rw [List.getElem?_set_self hlt] at h3
      cases h3
    · left
      exact hk
end ZPS
