section ZP6
variable {E : zE}
theorem zlen_set {ls : zLo} {k j : Nat} {x y : Option zV} (h : (ls.set k x)[j]? = some y) : j < ls.length := by
  rcases Nat.lt_or_ge j ls.length with q | q
  · exact q
  · rw [List.getElem?_eq_none (by rw [List.length_set]; exact q)] at h; cases h
theorem zLr_st2 {ρ : Nat → Nat} {nL k : Nat} {lsA lsA' : Array Slot} {ls : zLo} {x : Int} (h : zLr ρ nL lsA ls)
    (h' : lv_has lsA' nL ((k, zW ρ (.inr (.inl x))) :: (zall lsA).filter (fun q => !(q.1 == k) && (!(q.1 == k + 1) && !(q.1 + 1 == k && q.2.category == 2))))) : zLr ρ nL lsA' ((ls.set k (some (.inr (.inl x)))).set (k + 1) none) := by
  refine ⟨h'.1, h'.2.1, fun j w hw => ?_⟩
  obtain ⟨w1, w2⟩ := hw
  have hl1 := zlen_set w1
  rw [List.length_set] at hl1
  by_cases hj1 : j = k + 1
  · subst hj1
    rw [List.getElem?_set_self (by rw [List.length_set]; exact hl1)] at w1
    cases w1
  · rw [List.getElem?_set_ne (Ne.symm hj1)] at w1
    by_cases hjk : j = k
    · subst hjk
      rw [List.getElem?_set_self hl1] at w1
      cases w1
      exact h'.2.2 (j, zW ρ _) List.mem_cons_self
    · rw [List.getElem?_set_ne (Ne.symm hjk)] at w1
      have h0 : ∀ y, w = .inr (.inl y) → j + 1 ≠ k ∧ ls[j + 1]? = some none := by
        intro y hy
        have h3 := w2 y hy
        have hl3 := zlen_set h3
        rw [List.length_set] at hl3
        have hne : ¬ j + 1 = k + 1 := fun e => hjk (by omega)
        rw [List.getElem?_set_ne (Ne.symm hne)] at h3
        by_cases hk : j + 1 = k
        · subst hk
          rw [List.getElem?_set_self hl3] at h3
          cases h3
        · rw [List.getElem?_set_ne (Ne.symm hk)] at h3
          exact ⟨hk, h3⟩
      have hold : lsA[j]? = some (.val (zW ρ w)) := h.2.2 j w ⟨w1, fun y hy => (h0 y hy).2⟩
      refine h'.2.2 (j, zW ρ w) (List.mem_cons_of_mem _ (List.mem_filter.mpr ⟨zall_in hold, ?_⟩))
      simp only [Bool.and_eq_true, Bool.not_eq_true', beq_eq_false_iff_ne, ne_eq, Bool.and_eq_false_iff]
      refine ⟨hjk, hj1, ?_⟩
      by_cases hk : j + 1 = k
      · right
        intro hc
        rcases w with y | y | y
        · cases hc
        · exact (h0 y rfl).1 hk
        · cases y <;> cases hc
      · left
        exact hk
theorem zset_ok {ls : zLo} {k : Nat} {v : zV} (hv : zok v) (h : ∀ w, some w ∈ ls → zok w) : ∀ w, some w ∈ ls.set k (some v) → zok w := fun w hw => by
  rcases List.mem_or_eq_of_mem_set hw with q | q
  · exact h w q
  · cases q; exact hv
theorem zset_ok0 {ls : zLo} {k : Nat} (h : ∀ w, some w ∈ ls → zok w) : ∀ w, some w ∈ ls.set k none → zok w := fun w hw => by
  rcases List.mem_or_eq_of_mem_set hw with q | q
  · exact h w q
  · cases q
theorem zset_lt {ls : zLo} {ρ : Nat → Nat} {nL k : Nat} {lsA : Array Slot} {x : Int} (hL : zLr ρ nL lsA ls) (h : zcm ls k (.inl x)) : k < nL := by
  have := hL.2.2 k _ h
  rw [← hL.1]
  exact (Array.getElem?_eq_some_iff.mp this).1
theorem p_istore {k : Nat} (hn : k < E.2.2.1) : zPs E (.istore k) 2 (zf_istore k) := by
  intro ls st q hq h1 h2
  unfold zf_istore at hq
  split at hq
  · cases hq
    refine ⟨⟨zok_t h1, zset_ok (zok_h h1) h2⟩, ?_⟩
    intro p l e R s m args below meth c H locs cells slots Q pc lsA ρ a1 a2 a3 a4 a5 a6 a7
    exact lv_istore (lv := zall lsA) a1 a2 a5 (zall_has a6.1 a6.2.1) hn rfl (fun ls' hl' => a7 ls' (zLr_st1 (v := .inl _) (fun y hy => by cases hy) a6 hl'))
  · cases hq
theorem p_istore_n {k : Fin 4} {k' : Nat} (hk : (k : Nat) = k') (hn : k' < E.2.2.1) : zPs E (.istore_n k) 1 (zf_istore k') := by
  intro ls st q hq h1 h2
  unfold zf_istore at hq
  split at hq
  · cases hq
    refine ⟨⟨zok_t h1, zset_ok (zok_h h1) h2⟩, ?_⟩
    intro p l e R s m args below meth c H locs cells slots Q pc lsA ρ a1 a2 a3 a4 a5 a6 a7
    exact lv_istore_n (lv := zall lsA) a1 a2 a5 hk (zall_has a6.1 a6.2.1) hn rfl (fun ls' hl' => a7 ls' (zLr_st1 (v := .inl _) (fun y hy => by cases hy) a6 hl'))
  · cases hq
theorem p_lstore {k : Nat} (hn : k + 1 < E.2.2.1) : zPs E (.lstore k) 2 (zf_lstore k) := by
  intro ls st q hq h1 h2
  unfold zf_lstore at hq
  split at hq
  · cases hq
    refine ⟨⟨zok_t h1, zset_ok0 (zset_ok (zok_h h1) h2)⟩, ?_⟩
    intro p l e R s m args below meth c H locs cells slots Q pc lsA ρ a1 a2 a3 a4 a5 a6 a7
    exact lv_lstore (lv := zall lsA) a1 a2 a5 (zall_has a6.1 a6.2.1) hn rfl (fun ls' hl' => a7 ls' (zLr_st2 a6 hl'))
  · cases hq
theorem p_lstore_n {k : Fin 4} {k' : Nat} (hk : (k : Nat) = k') (hn : k' + 1 < E.2.2.1) : zPs E (.lstore_n k) 1 (zf_lstore k') := by
  intro ls st q hq h1 h2
  unfold zf_lstore at hq
  split at hq
  · cases hq
    refine ⟨⟨zok_t h1, zset_ok0 (zset_ok (zok_h h1) h2)⟩, ?_⟩
    intro p l e R s m args below meth c H locs cells slots Q pc lsA ρ a1 a2 a3 a4 a5 a6 a7
    exact lv_lstore_n (lv := zall lsA) a1 a2 a5 hk (zall_has a6.1 a6.2.1) hn rfl (fun ls' hl' => a7 ls' (zLr_st2 a6 hl'))
  · cases hq
theorem p_astore {k : Nat} (hn : k < E.2.2.1) : zPs E (.astore k) 2 (zf_astore k) := by
  intro ls st q hq h1 h2
  unfold zf_astore at hq
  split at hq
  · rename_i x r
    cases hq
    refine ⟨⟨zok_t h1, zset_ok (zok_h h1) h2⟩, ?_⟩
    intro p l e R s m args below meth c H locs cells slots Q pc lsA ρ a1 a2 a3 a4 a5 a6 a7
    cases x with
    | none => exact lv_astoreN (lv := zall lsA) a1 a2 a5 (zall_has a6.1 a6.2.1) hn rfl (fun ls' hl' => a7 ls' (zLr_st1 (v := .inr (.inr none)) (fun y hy => by cases hy) a6 hl'))
    | some b => exact lv_astore (lv := zall lsA) a1 a2 a5 (zall_has a6.1 a6.2.1) hn rfl (fun ls' hl' => a7 ls' (zLr_st1 (v := .inr (.inr (some b))) (fun y hy => by cases hy) a6 hl'))
  · cases hq
theorem p_astore_n {k : Fin 4} {k' : Nat} (hk : (k : Nat) = k') (hn : k' < E.2.2.1) : zPs E (.astore_n k) 1 (zf_astore k') := by
  intro ls st q hq h1 h2
  unfold zf_astore at hq
  split at hq
  · rename_i x r
    cases hq
    refine ⟨⟨zok_t h1, zset_ok (zok_h h1) h2⟩, ?_⟩
    intro p l e R s m args below meth c H locs cells slots Q pc lsA ρ a1 a2 a3 a4 a5 a6 a7
    cases x with
    | none => exact lv_astore_nN (lv := zall lsA) a1 a2 a5 hk (zall_has a6.1 a6.2.1) hn rfl (fun ls' hl' => a7 ls' (zLr_st1 (v := .inr (.inr none)) (fun y hy => by cases hy) a6 hl'))
    | some b => exact lv_astore_n (lv := zall lsA) a1 a2 a5 hk (zall_has a6.1 a6.2.1) hn rfl (fun ls' hl' => a7 ls' (zLr_st1 (v := .inr (.inr (some b))) (fun y hy => by cases hy) a6 hl'))
  · cases hq
theorem z_cadd (x y : Int) : Int32.ofInt x + Int32.ofInt y = Int32.ofInt (zadd x y) := by unfold zadd; rw [zOi32, Int32.ofInt_add]
theorem z_csub (x y : Int) : Int32.ofInt x - Int32.ofInt y = Int32.ofInt (zsub x y) := by unfold zsub; rw [zOi32, Int32.ofInt_sub]
theorem z_cmul (x y : Int) : Int32.ofInt x * Int32.ofInt y = Int32.ofInt (zmul x y) := by unfold zmul; rw [zOi32, Int32.ofInt_mul]
theorem z_cladd (x y : Int) : Int64.ofInt x + Int64.ofInt y = Int64.ofInt (zladd x y) := by unfold zladd; rw [zOi64, Int64.ofInt_add]
theorem z_clsub (x y : Int) : Int64.ofInt x - Int64.ofInt y = Int64.ofInt (zlsub x y) := by unfold zlsub; rw [zOi64, Int64.ofInt_sub]
theorem z_clmul (x y : Int) : Int64.ofInt x * Int64.ofInt y = Int64.ofInt (zlmul x y) := by unfold zlmul; rw [zOi64, Int64.ofInt_mul]
theorem p_iinc {k : Nat} {d : Int} (hn : k < E.2.2.1) : zPs E (.iinc k d) 3 (zf_iinc k d) := by
  intro ls st q hq h1 h2
  unfold zf_iinc at hq
  split at hq
  · rename_i x hx
    cases hq
    refine ⟨⟨h1, zset_ok (r32_i32 _) h2⟩, ?_⟩
    intro p l e R s m args below meth c H locs cells slots Q pc lsA ρ a1 a2 a3 a4 a5 a6 a7
    have hv := zall_in (a6.2.2 k _ (zcm_i hx))
    obtain ⟨i, hi⟩ := List.getElem?_of_mem hv
    exact lv_iinc (lv := zall lsA) (v := Int32.ofInt (zadd x d)) a1 a2 a5 (zall_has a6.1 a6.2.1) hi (z_cadd x d) hn rfl (fun ls' hl' => a7 ls' (zLr_st1 (v := .inl _) (fun y hy => by cases hy) a6 hl'))
  · cases hq
/-- int by int -/
theorem p_ii {i : Instr} {op : Int → Int → Int} (hr : ∀ x y, r32 x → r32 y → r32 (op x y))
    (h : ∀ (x y : Int), r32 x → r32 y → ∀ (p : Program) (l : Launch) (e : Env) (R : Room) (s : State) (m : MethodId) (args : Array Value) (below : List Frame) (meth : Method) (c : Code) (H : Heap) (locs : List Loc) (cells slots : Nat) (Q : State → Prop) (pc : Nat) (lsA : Array Slot) (rest : List Value),
      p.tables.exec = Jvm.exec → c.code = E.2.1 → decode E.2.1 pc = .ok (i, 1) → W p l e R s m args below meth c H locs cells slots Q (F0 m (pc + 1) lsA (.int (Int32.ofInt (op x y)) :: rest)) → W p l e R s m args below meth c H locs cells slots Q (F0 m pc lsA (.int (Int32.ofInt y) :: .int (Int32.ofInt x) :: rest))) : zPs E i 1 (zf_ii op) := zPs.st fun ls st q hq => by
  unfold zf_ii at hq
  split at hq
  · cases hq
    refine ⟨rfl, fun h1 h2 => ⟨zok_c (hr _ _ (zok_h (zok_t h1)) (zok_h h1)) (zok_t (zok_t h1)), ?_⟩⟩
    intro p l e R s m args below meth c H locs cells slots Q pc lsA ρ a1 a2 a3 a4 a5 a6 a7
    exact h _ _ (zok_h (zok_t h1)) (zok_h h1) p l e R s m args below meth c H locs cells slots Q pc lsA _ a1 a2 a5 a7
  · cases hq
theorem p_ll {i : Instr} {op : Int → Int → Int} (hr : ∀ x y, r64 x → r64 y → r64 (op x y))
    (h : ∀ (x y : Int), r64 x → r64 y → ∀ (p : Program) (l : Launch) (e : Env) (R : Room) (s : State) (m : MethodId) (args : Array Value) (below : List Frame) (meth : Method) (c : Code) (H : Heap) (locs : List Loc) (cells slots : Nat) (Q : State → Prop) (pc : Nat) (lsA : Array Slot) (rest : List Value),
      p.tables.exec = Jvm.exec → c.code = E.2.1 → decode E.2.1 pc = .ok (i, 1) → W p l e R s m args below meth c H locs cells slots Q (F0 m (pc + 1) lsA (.long (Int64.ofInt (op x y)) :: rest)) → W p l e R s m args below meth c H locs cells slots Q (F0 m pc lsA (.long (Int64.ofInt y) :: .long (Int64.ofInt x) :: rest))) : zPs E i 1 (zf_ll op) := zPs.st fun ls st q hq => by
  unfold zf_ll at hq
  split at hq
  · cases hq
    refine ⟨rfl, fun h1 h2 => ⟨zok_c (hr _ _ (zok_h (zok_t h1)) (zok_h h1)) (zok_t (zok_t h1)), ?_⟩⟩
    intro p l e R s m args below meth c H locs cells slots Q pc lsA ρ a1 a2 a3 a4 a5 a6 a7
    exact h _ _ (zok_h (zok_t h1)) (zok_h h1) p l e R s m args below meth c H locs cells slots Q pc lsA _ a1 a2 a5 a7
  · cases hq
theorem p_li {i : Instr} {op : Int → Int → Int} (hr : ∀ x y, r64 x → r32 y → r64 (op x y))
    (h : ∀ (x y : Int), r64 x → r32 y → ∀ (p : Program) (l : Launch) (e : Env) (R : Room) (s : State) (m : MethodId) (args : Array Value) (below : List Frame) (meth : Method) (c : Code) (H : Heap) (locs : List Loc) (cells slots : Nat) (Q : State → Prop) (pc : Nat) (lsA : Array Slot) (rest : List Value),
      p.tables.exec = Jvm.exec → c.code = E.2.1 → decode E.2.1 pc = .ok (i, 1) → W p l e R s m args below meth c H locs cells slots Q (F0 m (pc + 1) lsA (.long (Int64.ofInt (op x y)) :: rest)) → W p l e R s m args below meth c H locs cells slots Q (F0 m pc lsA (.int (Int32.ofInt y) :: .long (Int64.ofInt x) :: rest))) : zPs E i 1 (zf_li op) := zPs.st fun ls st q hq => by
  unfold zf_li at hq
  split at hq
  · cases hq
    refine ⟨rfl, fun h1 h2 => ⟨zok_c (hr _ _ (zok_h (zok_t h1)) (zok_h h1)) (zok_t (zok_t h1)), ?_⟩⟩
    intro p l e R s m args below meth c H locs cells slots Q pc lsA ρ a1 a2 a3 a4 a5 a6 a7
    exact h _ _ (zok_h (zok_t h1)) (zok_h h1) p l e R s m args below meth c H locs cells slots Q pc lsA _ a1 a2 a5 a7
  · cases hq
theorem p_iadd : zPs E .iadd 1 (zf_ii zadd) := p_ii (fun _ _ _ _ => r32_i32 _) fun x y _ _ p l e R s m args below meth c H locs cells slots Q pc lsA rest a1 a2 a3 k => lv_iadd a1 a2 a3 (by rw [z_cadd]; exact k)
theorem p_isub : zPs E .isub 1 (zf_ii zsub) := p_ii (fun _ _ _ _ => r32_i32 _) fun x y _ _ p l e R s m args below meth c H locs cells slots Q pc lsA rest a1 a2 a3 k => lv_isub a1 a2 a3 (by rw [z_csub]; exact k)
theorem p_imul : zPs E .imul 1 (zf_ii zmul) := p_ii (fun _ _ _ _ => r32_i32 _) fun x y _ _ p l e R s m args below meth c H locs cells slots Q pc lsA rest a1 a2 a3 k => lv_imul a1 a2 a3 (by rw [z_cmul]; exact k)
theorem p_iand : zPs E .iand 1 (zf_ii zand) := p_ii (fun _ _ _ _ => zr32 _) fun x y _ _ p l e R s m args below meth c H locs cells slots Q pc lsA rest a1 a2 a3 k => lv_iand a1 a2 a3 (by unfold zand at k; rw [zO32] at k; exact k)
theorem p_ior : zPs E .ior 1 (zf_ii zor) := p_ii (fun _ _ _ _ => zr32 _) fun x y _ _ p l e R s m args below meth c H locs cells slots Q pc lsA rest a1 a2 a3 k => lv_ior a1 a2 a3 (by unfold zor at k; rw [zO32] at k; exact k)
theorem p_ixor : zPs E .ixor 1 (zf_ii zxor) := p_ii (fun _ _ _ _ => zr32 _) fun x y _ _ p l e R s m args below meth c H locs cells slots Q pc lsA rest a1 a2 a3 k => lv_ixor a1 a2 a3 (by unfold zxor at k; rw [zO32] at k; exact k)
theorem p_ishl : zPs E .ishl 1 (zf_ii zshl) := p_ii (fun _ _ _ _ => zr32 _) fun x y _ _ p l e R s m args below meth c H locs cells slots Q pc lsA rest a1 a2 a3 k => lv_ishl a1 a2 a3 (by unfold zshl at k; rw [zO32] at k; exact k)
theorem p_ishr : zPs E .ishr 1 (zf_ii zshr) := p_ii (fun _ _ _ _ => zr32 _) fun x y _ _ p l e R s m args below meth c H locs cells slots Q pc lsA rest a1 a2 a3 k => lv_ishr a1 a2 a3 (by unfold zshr at k; rw [zO32] at k; exact k)
theorem p_iushr : zPs E .iushr 1 (zf_ii zushr) := p_ii (fun _ _ _ _ => zr32 _) fun x y _ _ p l e R s m args below meth c H locs cells slots Q pc lsA rest a1 a2 a3 k => lv_iushr a1 a2 a3 rfl (by unfold zushr at k; rw [zO32] at k; exact k)
theorem p_ladd : zPs E .ladd 1 (zf_ll zladd) := p_ll (fun _ _ _ _ => r64_i64 _) fun x y _ _ p l e R s m args below meth c H locs cells slots Q pc lsA rest a1 a2 a3 k => lv_ladd a1 a2 a3 (by rw [z_cladd]; exact k)
theorem p_lsub : zPs E .lsub 1 (zf_ll zlsub) := p_ll (fun _ _ _ _ => r64_i64 _) fun x y _ _ p l e R s m args below meth c H locs cells slots Q pc lsA rest a1 a2 a3 k => lv_lsub a1 a2 a3 (by rw [z_clsub]; exact k)
theorem p_lmul : zPs E .lmul 1 (zf_ll zlmul) := p_ll (fun _ _ _ _ => r64_i64 _) fun x y _ _ p l e R s m args below meth c H locs cells slots Q pc lsA rest a1 a2 a3 k => lv_lmul a1 a2 a3 (by rw [z_clmul]; exact k)
theorem p_land : zPs E .land 1 (zf_ll zland) := p_ll (fun _ _ _ _ => zr64 _) fun x y _ _ p l e R s m args below meth c H locs cells slots Q pc lsA rest a1 a2 a3 k => lv_land a1 a2 a3 (by unfold zland at k; rw [zO64] at k; exact k)
theorem p_lor : zPs E .lor 1 (zf_ll zlor) := p_ll (fun _ _ _ _ => zr64 _) fun x y _ _ p l e R s m args below meth c H locs cells slots Q pc lsA rest a1 a2 a3 k => lv_lor a1 a2 a3 (by unfold zlor at k; rw [zO64] at k; exact k)
theorem p_lxor : zPs E .lxor 1 (zf_ll zlxor) := p_ll (fun _ _ _ _ => zr64 _) fun x y _ _ p l e R s m args below meth c H locs cells slots Q pc lsA rest a1 a2 a3 k => lv_lxor a1 a2 a3 (by unfold zlxor at k; rw [zO64] at k; exact k)
theorem p_lshl : zPs E .lshl 1 (zf_li zlshl) := p_li (fun _ _ _ _ => zr64 _) fun x y _ _ p l e R s m args below meth c H locs cells slots Q pc lsA rest a1 a2 a3 k => lv_lshl a1 a2 a3 rfl (by unfold zlshl at k; rw [zO64] at k; exact k)
theorem p_lushr : zPs E .lushr 1 (zf_li zlushr) := p_li (fun _ _ _ _ => zr64 _) fun x y _ _ p l e R s m args below meth c H locs cells slots Q pc lsA rest a1 a2 a3 k => lv_lushr a1 a2 a3 rfl (by unfold zlushr at k; rw [zO64] at k; exact k)
theorem p_lcmp : zPs E .lcmp 1 zf_lcmp := zPs.st fun ls st q hq => by
  unfold zf_lcmp at hq
  split at hq
  · rename_i y x r
    cases hq
    have hr : r32 (zlcmp x y) := by
      unfold zlcmp r32
      by_cases h1 : y < x
      · rw [if_pos h1]; omega
      · rw [if_neg h1]
        by_cases h2 : x = y
        · rw [if_pos h2]; omega
        · rw [if_neg h2]; omega
    refine ⟨rfl, fun h1 h2 => ⟨zok_c hr (zok_t (zok_t h1)), ?_⟩⟩
    intro p l e R s m args below meth c H locs cells slots Q pc lsA ρ a1 a2 a3 a4 a5 a6 a7
    refine W.lcmp a1 a2 a5 ?_
    have hx : r64 x := zok_h (zok_t h1)
    have hy : r64 y := zok_h h1
    have e1 : lg_cmp (Int64.ofInt x) (Int64.ofInt y) = Int32.ofInt (zlcmp x y) := by
      unfold lg_cmp zlcmp
      simp only [gt_iff_lt, Int64.lt_iff_toInt_lt, ← Int64.toInt_inj, zT64 hx, zT64 hy]
      split
      · rfl
      · split <;> rfl
    rw [e1]
    exact a7
  · cases hq
theorem p_i2l : zPs E .i2l 1 zf_i2l := zPs.st fun ls st q hq => by
  unfold zf_i2l at hq
  split at hq
  · rename_i x r
    cases hq
    refine ⟨rfl, fun h1 h2 => ?_⟩
    have hx : r32 x := zok_h h1
    refine ⟨zok_c (show r64 x by unfold r32 at hx; unfold r64; omega) (zok_t h1), ?_⟩
    intro p l e R s m args below meth c H locs cells slots Q pc lsA ρ a1 a2 a3 a4 a5 a6 a7
    exact lv_i2l a1 a2 a5 (v := Int64.ofInt x) (Int64.toInt_inj.1 (by rw [Int32.toInt_toInt64, zT32 hx, zT64 (by unfold r32 at hx; unfold r64; omega)])) a7
  · cases hq
theorem p_l2i : zPs E .l2i 1 zf_l2i := zPs.st fun ls st q hq => by
  unfold zf_l2i at hq
  split at hq
  · rename_i x r
    cases hq
    refine ⟨rfl, fun h1 h2 => ?_⟩
    have hx : r64 x := zok_h h1
    refine ⟨zok_c (r32_i32 x) (zok_t h1), ?_⟩
    intro p l e R s m args below meth c H locs cells slots Q pc lsA ρ a1 a2 a3 a4 a5 a6 a7
    exact lv_l2i a1 a2 a5 (v := Int32.ofInt (i32 x)) (Int32.toInt_inj.1 (by rw [Int64.toInt_toInt32, zT64 hx, zT32 (r32_i32 x)]; rfl)) a7
  · cases hq
theorem zbm {x : Int} {k : Nat} (h0 : 0 < k) (h : k ≤ 2147483648) : r32 (Int.bmod x k) := by
  unfold r32
  have h1 := Int.le_bmod (x := x) (m := k) h0
  have h2 := Int.bmod_lt (x := x) (m := k) h0
  omega
theorem p_i2b : zPs E .i2b 1 (zf_i1 (fun x => Int.bmod x 256)) := zPs.st fun ls st q hq => by
  unfold zf_i1 at hq
  split at hq
  · rename_i x r
    cases hq
    refine ⟨rfl, fun h1 h2 => ?_⟩
    have hx : r32 x := zok_h h1
    refine ⟨zok_c (zbm (by decide) (by decide)) (zok_t h1), ?_⟩
    intro p l e R s m args below meth c H locs cells slots Q pc lsA ρ a1 a2 a3 a4 a5 a6 a7
    exact lv_i2b a1 a2 a5 (v := Int32.ofInt (Int.bmod x 256)) (Int32.toInt_inj.1 (by rw [Int8.toInt_toInt32, Int32.toInt_toInt8, zT32 hx, zT32 (zbm (by decide) (by decide))])) a7
  · cases hq
theorem p_i2s : zPs E .i2s 1 (zf_i1 (fun x => Int.bmod x 65536)) := zPs.st fun ls st q hq => by
  unfold zf_i1 at hq
  split at hq
  · rename_i x r
    cases hq
    refine ⟨rfl, fun h1 h2 => ?_⟩
    have hx : r32 x := zok_h h1
    refine ⟨zok_c (zbm (by decide) (by decide)) (zok_t h1), ?_⟩
    intro p l e R s m args below meth c H locs cells slots Q pc lsA ρ a1 a2 a3 a4 a5 a6 a7
    exact lv_i2s a1 a2 a5 (v := Int32.ofInt (Int.bmod x 65536)) (Int32.toInt_inj.1 (by rw [Int16.toInt_toInt32, Int32.toInt_toInt16, zT32 hx, zT32 (zbm (by decide) (by decide))])) a7
  · cases hq
theorem p_ineg : zPs E .ineg 1 (zf_i1 zneg) := zPs.st fun ls st q hq => by
  unfold zf_i1 at hq
  split at hq
  · rename_i x r
    cases hq
    refine ⟨rfl, fun h1 h2 => ⟨zok_c (r32_i32 _) (zok_t h1), ?_⟩⟩
    intro p l e R s m args below meth c H locs cells slots Q pc lsA ρ a1 a2 a3 a4 a5 a6 a7
    exact lv_ineg a1 a2 a5 (by rw [← Int32.ofInt_neg, ← zOi32 (-x)]; exact a7)
  · cases hq
theorem p_lneg : zPs E .lneg 1 (zf_l1 zlneg) := zPs.st fun ls st q hq => by
  unfold zf_l1 at hq
  split at hq
  · rename_i x r
    cases hq
    refine ⟨rfl, fun h1 h2 => ⟨zok_c (r64_i64 _) (zok_t h1), ?_⟩⟩
    intro p l e R s m args below meth c H locs cells slots Q pc lsA ρ a1 a2 a3 a4 a5 a6 a7
    exact lv_lneg a1 a2 a5 (by rw [← Int64.ofInt_neg, ← zOi64 (-x)]; exact a7)
  · cases hq
theorem p_dup : zPs E .dup 1 zf_dup := zPs.st fun ls st q hq => by
  unfold zf_dup at hq
  split at hq
  · cases hq
    refine ⟨rfl, fun h1 h2 => ⟨zok_c (zok_h h1) h1, ?_⟩⟩
    intro p l e R s m args below meth c H locs cells slots Q pc lsA ρ a1 a2 a3 a4 a5 a6 a7
    exact lv_dup a1 a2 a5 rfl a7
  · rename_i x r
    cases hq
    refine ⟨rfl, fun h1 h2 => ⟨zok_c (zok_h h1) h1, ?_⟩⟩
    intro p l e R s m args below meth c H locs cells slots Q pc lsA ρ a1 a2 a3 a4 a5 a6 a7
    exact lv_dup a1 a2 a5 (by cases x <;> rfl) a7
  · cases hq
theorem p_pop : zPs E .pop 1 zf_pop := zPs.st fun ls st q hq => by
  unfold zf_pop at hq
  split at hq
  · cases hq
    refine ⟨rfl, fun h1 h2 => ⟨zok_t h1, ?_⟩⟩
    intro p l e R s m args below meth c H locs cells slots Q pc lsA ρ a1 a2 a3 a4 a5 a6 a7
    exact lv_pop a1 a2 a5 rfl a7
  · rename_i x r
    cases hq
    refine ⟨rfl, fun h1 h2 => ⟨zok_t h1, ?_⟩⟩
    intro p l e R s m args below meth c H locs cells slots Q pc lsA ρ a1 a2 a3 a4 a5 a6 a7
    exact lv_pop a1 a2 a5 (by cases x <;> rfl) a7
  · cases hq
theorem p_dup2 : zPs E .dup2 1 zf_dup2 := zPs.st fun ls st q hq => by
  unfold zf_dup2 at hq
  split at hq
  · rename_i x y r
    cases hq
    refine ⟨rfl, fun h1 h2 => ⟨zok_c (zok_h h1) (zok_c trivial h1), ?_⟩⟩
    intro p l e R s m args below meth c H locs cells slots Q pc lsA ρ a1 a2 a3 a4 a5 a6 a7
    exact lv_dup2_11 a1 a2 a5 rfl (by cases y <;> rfl) a7
  · cases hq
theorem p_dup_x1 : zPs E .dup_x1 1 zf_dup_x1 := zPs.st fun ls st q hq => by
  unfold zf_dup_x1 at hq
  split at hq
  · rename_i x y r
    cases hq
    refine ⟨rfl, fun h1 h2 => ⟨zok_c (zok_h h1) (zok_c trivial (zok_c (zok_h h1) (zok_t (zok_t h1)))), ?_⟩⟩
    intro p l e R s m args below meth c H locs cells slots Q pc lsA ρ a1 a2 a3 a4 a5 a6 a7
    exact lv_dup_x1 a1 a2 a5 rfl (by cases y <;> rfl) a7
  · cases hq
end ZP6
