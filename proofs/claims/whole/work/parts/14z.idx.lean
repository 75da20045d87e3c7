/-! String.checkIndex as a whole: the formatter that it hands on is a reference or null; nobody looks at it. -/
def gIdx (as : List zV) (m : zM) : Option zO := match as with
  | [.inl x, .inl n] => if 0 ≤ x ∧ x < n then some (none, m) else none
  | _ => none
def zEx : zE := (yJ0_checkIndex_df160, cJ0_checkIndex_df160, 2, none, 2, (fun _ => none), some gIdx)
theorem di0 : decode cJ3_checkIndex_8e157 0 = .ok (.iload_n 0, 1) := by decide +kernel
theorem di1 : decode cJ3_checkIndex_8e157 1 = .ok (.ifCond .lt 8, 3) := by decide +kernel
theorem di4 : decode cJ3_checkIndex_8e157 4 = .ok (.iload_n 0, 1) := by decide +kernel
theorem di5 : decode cJ3_checkIndex_8e157 5 = .ok (.iload_n 1, 1) := by decide +kernel
theorem di6 : decode cJ3_checkIndex_8e157 6 = .ok (.if_icmp .lt 10, 3) := by decide +kernel
theorem di16 : decode cJ3_checkIndex_8e157 16 = .ok (.iload_n 0, 1) := by decide +kernel
theorem di17 : decode cJ3_checkIndex_8e157 17 = .ok (.ireturn, 1) := by decide +kernel
theorem dj0 : decode cJ0_checkIndex_df160 0 = .ok (.iload_n 0, 1) := by decide +kernel
theorem dj1 : decode cJ0_checkIndex_df160 1 = .ok (.iload_n 1, 1) := by decide +kernel
theorem dj2 : decode cJ0_checkIndex_df160 2 = .ok (.getstatic 1053, 3) := by decide +kernel
theorem dj5 : decode cJ0_checkIndex_df160 5 = .ok (.invokestatic 1059, 3) := by decide +kernel
theorem dj8 : decode cJ0_checkIndex_df160 8 = .ok (.pop, 1) := by decide +kernel
theorem dj9 : decode cJ0_checkIndex_df160 9 = .ok (.return_, 1) := by decide +kernel
theorem c_idx (l : Launch) (x n : Int32) (w : Value) (H0 : Heap) (hw : w = .null ∨ ∃ t, w = .ref t) (h0 : ¬ x < 0) (h1 : x < n) : Met l yJ3_checkIndex_8e157 [.code yJ3_checkIndex_8e157 cJ3_checkIndex_8e157 3 (some .int)] ({ frames := 1, cells := 0, slots := 0, locals := 60 }) (va_Pc [.int x, .int n, w] (fun U => U.heap = H0)) (va_Qi (fun r (_ : Unit) => r = x) (fun _ t => t.heap = H0) (fun _ => False)) 0 0 (fun _ => False) := by
  refine zofW (cc := cJ3_checkIndex_8e157) (maxL := 3) (ret := some .int) (by decide +kernel) rfl ?_
  intro p e s m args below meth c s₁ B hml hv
  obtain ⟨rfl, hH⟩ := hv
  have hx := B.exec
  have hb := B.bytes
  have hr := B.returns
  have hlocks := B.notSynchronized
  have hl : lv_has ((lg_sl [.int x, .int n, w] ++ List.replicate (3 - (lg_sl [.int x, .int n, w]).length) Slot.unset).toArray) 3 [(0, .int x), (1, .int n)] := by
    rcases hw with rfl | ⟨t, rfl⟩
    · exact lv_sub (lv_entry ([.int x, .int n, .null]) (n := 3) (Nat.le_of_ble_eq_true rfl)) [0, 1] rfl
    · exact lv_sub (lv_entry ([.int x, .int n, .ref t]) (n := 3) (Nat.le_of_ble_eq_true rfl)) [0, 1] rfl
  rw [lg_entry_eq]
  generalize (lg_sl [.int x, .int n, w] ++ List.replicate (3 - (lg_sl [.int x, .int n, w]).length) Slot.unset).toArray = ls at hl ⊢
  refine lv_iload_n hx hb di0 rfl (lv_at hl 0 rfl) ?_
  refine lv_if_lt (tgt := 9) hx hb di1 (by decide) (fun q => absurd q h0) (fun _ => ?_)
  refine lv_iload_n hx hb di4 rfl (lv_at hl 0 rfl) ?_
  refine lv_iload_n hx hb di5 rfl (lv_at hl 1 rfl) ?_
  refine lv_icmp_lt (tgt := 16) hx hb di6 (by decide) (fun _ => ?_) (fun q => absurd h1 q)
  refine lv_iload_n hx hb di16 rfl (lv_at hl 0 rfl) ?_
  exact W.iret hx hb hr (fun t ht _ => ⟨⟨x, (), rfl, rfl, ht.trans hH⟩, va_S.F (va_S.rf (A := fun _ => False)) ht⟩) (fun q hq => by cases hq) di17 hlocks
theorem gIdx_ok : ∀ as mm out, gIdx as mm = some out → zGr mm out.2 ∧ ∀ (j : Nat), (∀ v ∈ as, zok v) → ∀ (l : Launch) (D : zD) (ρ : Nat → Nat) (A : Nat → Prop), Met l zEx.1 [.code zEx.1 zEx.2.1 zEx.2.2.1 zEx.2.2.2.1] (zRoom (zmu zEx j) (zn out.2 - zn mm) (zs out.2 - zs mm)) (zPc D ρ A as mm) (zQ D ρ A out) (zn out.2 - zn mm) (zs out.2 - zs mm) A := by
  intro as mm out h
  unfold gIdx at h
  split at h
  · rename_i x n
    split at h
    · rename_i hq
      obtain ⟨hx0, hxn⟩ := hq
      cases h
      refine ⟨zGr.rf _, fun j hok l D ρ A => ?_⟩
      have rx : r32 x := hok (.inl x) List.mem_cons_self
      have rn : r32 n := hok (.inl n) (List.mem_cons_of_mem _ List.mem_cons_self)
      have g0 : ¬ Int32.ofInt x < 0 := fun q => absurd ((zlt0 rx).mp q) (Int.not_lt.mpr hx0)
      have g1 : Int32.ofInt x < Int32.ofInt n := (zlt2 rx rn).mpr hxn
      show Met l yJ0_checkIndex_df160 [.code yJ0_checkIndex_df160 cJ0_checkIndex_df160 2 none] (zRoom (2 + 2 * j) (zn mm - zn mm) (zs mm - zs mm)) _ _ (zn mm - zn mm) (zs mm - zs mm) A
      rw [Nat.sub_self, Nat.sub_self]
      refine zofW (cc := cJ0_checkIndex_df160) (maxL := 2) (ret := none) (by decide +kernel) rfl ?_
      intro p e s m args below meth c s₁ B hml hv
      obtain ⟨rfl, hH, hKs, hA⟩ := hv
      have hx := B.exec
      have hb := B.bytes
      have hr := B.returns
      have hown : s.vm.findClass yJ0_checkIndex_df160.cls = some m.cls := findClass_of_methodNamed B.named
      have hlocks := B.notSynchronized
      have hl := lv_entry (List.map (zW ρ) [.inl x, .inl n]) (n := 2) (Nat.le_of_ble_eq_true rfl)
      rw [lg_entry_eq]
      generalize (lg_sl (List.map (zW ρ) [.inl x, .inl n]) ++ List.replicate (2 - (lg_sl (List.map (zW ρ) [.inl x, .inl n])).length) Slot.unset).toArray = ls at hl ⊢
      have hl : lv_has ls 2 [(0, .int (Int32.ofInt x)), (1, .int (Int32.ofInt n))] := hl
      refine lv_iload_n hx hb dj0 rfl (lv_at hl 0 rfl) ?_
      refine lv_iload_n hx hb dj1 rfl (lv_at hl 1 rfl) ?_
      obtain ⟨w, hw, hZ⟩ : ∃ w : Value, (w = .null ∨ ∃ t, w = .ref t) ∧ va_Z "jdk/internal/util/Preconditions" "SIOOBE_FORMATTE\x52" "Ljava/util/function/BiFunction;" w D.2.2.2.2 s s.heap := by
        rcases (zS_key hKs hH).2.2.2 with q | ⟨t, q⟩
        · exact ⟨_, Or.inl rfl, q⟩
        · exact ⟨_, Or.inr ⟨t, rfl⟩, q⟩
      obtain ⟨cf, kf, fi, f, a, cell, e1, e2, e3, e4, e5, e6, e7, e8⟩ := hZ
      refine W.gets hx hb hown (zKs_word (a := _) hKs zw_202) e1 e2 e3 e4 e5 (fun q => by rw [q] at e6; cases e6) e7 rfl dj2 ?_
      have hargs : ∀ u ∈ [Cond.code yJ3_checkIndex_8e157 cJ3_checkIndex_8e157 3 (some .int)], ∀ (a' : Array Value) (U : State), s.WarmedH U.vm → u.before a' U = true := fun u hu a' U hW => by
        rw [List.mem_singleton.mp hu]
        exact zAll_warm zw_206 hW (zKs_word hKs zw_206 (a := #[]))
      have hpre : PreS s s.heap (va_Pc [.int (Int32.ofInt x), .int (Int32.ofInt n), w] (fun U => U.heap = s.heap)) [.int (Int32.ofInt x), .int (Int32.ofInt n), w] := ⟨fun a U g mk q => ⟨q.1, q.2⟩, fun U hU hW => ⟨rfl, hU⟩⟩
      have hcw : w.category = 1 := by rcases hw with rfl | ⟨t, rfl⟩ <;> rfl
      refine va_calli (A0 := A) (H0 := s.heap) (A1 := fun _ => False) (free := fun _ => False) (va_runS (As := [.int (Int32.ofInt x), .int (Int32.ofInt n), w]) (rest := []) (own := yJ0_checkIndex_df160.cls) (cc := cJ0_checkIndex_df160) (nL := 2) ⟨hx, hb, hml, hown, fun u hu => zKs_word (a := _) hKs hu⟩ (c_idx l (Int32.ofInt x) (Int32.ofInt n) w s.heap hw g0 g1)
        ⟨⟨rfl, rfl, (by show 1 + 1 ≤ 2 + 2 * j; omega), (by show 8 + (3 + 11) + 60 ≤ 60 * (2 + 2 * j); omega), hargs, List.mem_singleton.mpr rfl, zKs_word hKs zw_206, zKs_word hKs zw_146, ⟨by decide, by decide⟩, fun sig q => (by
          have q2 : parseMethodDescriptor yJ3_checkIndex_8e157.desc = some sig := q
          have q3 : (parseMethodDescriptor yJ3_checkIndex_8e157.desc).map (fun d => d.parameters.length) = some 3 := by decide +kernel
          rw [q2] at q3
          exact (Option.some.inj q3).symm), zKs_word hKs zw_204⟩, zKs_word hKs zw_205⟩ hpre rfl rfl hl.1 rfl (lv_room (by decide)) dj5 ⟨Nat.le_refl _, Nat.le_refl _⟩) va_S.rf (fun q _ h => h.elim) (fun q h => h.elim) (fun r u t H1 locs1 ht hvm hres hB hz hk hS1 => ?_)
      have eH : H1 = s.heap := ht.symm.trans hB
      subst eH
      refine lv_pop hx hb dj8 rfl ?_
      exact W.vret hx hb hr (fun t2 ht2 _ => z_end (o := none) hH hS1 (fun v q => by cases q) ht2) hS1.2.2 dj9 hlocks
    · cases h
  · cases h
theorem zEx_ok {P : Nat → zE} : zMo2 P zEx := ⟨⟨by decide +kernel, fun _ _ h => (by cases h), fun g hg as mm out h => (by
  have e : gIdx = g := Option.some.inj hg
  rw [← e] at h
  exact gIdx_ok as mm out h)⟩, fun _ _ h => (by cases h)⟩
theorem zF_g {P : Nat → zE} {k v : Nat} {as : List zV} {m : zM} {g : List zV → zM → Option zO} (h : (P k).2.2.2.2.2.2 = some g) : zF P k v as m = g as m := by
  unfold zF zGo
  rw [h]
