section ZP11
variable {P : Nat → zE} {E : zE} {pc : Nat}
/-- a callee's words -/
def zWc (X : zE) : Prop := Cond.code X.1 X.2.1 X.2.2.1 X.2.2.2.1 ∈ zAll ∧ Cond.initialized X.1.cls ∈ zAll ∧ (X.1.cls ≠ "java/lang/invoke/MethodHandle" ∧ X.1.cls ≠ "java/lang/invoke/VarHandle") ∧ X.2.2.1 ≤ 41
def zMl (own : String) (i : Nat) (y : MethodName) : Prop := Cond.methodLink own i y ∈ zAll ∨ ∃ h, Cond.methodLinkNest own i y h ∈ zAll
theorem zcl_of {n : Nat} {st : List zV} (h : zcl n st = true) : n ≤ st.length ∧ zw (st.drop n) ≤ 8 := by
  unfold zcl at h
  simpa using h
theorem zsig {y : MethodName} {n : Nat} (h : (parseMethodDescriptor y.desc).map (fun d => d.parameters.length) = some n) : ∀ sig, parseMethodDescriptor y.desc = some sig → n = sig.parameters.length := fun sig q => by
  rw [q] at h
  exact (Option.some.inj h).symm
theorem zargs_eq (st : List zV) (n : Nat) (ρ : Nat → Nat) : st.map (zW ρ) = ((st.take n).reverse.map (zW ρ)).reverse ++ (st.drop n).map (zW ρ) := by
  rw [← List.map_reverse, List.reverse_reverse, ← List.map_append, List.take_append_drop]
theorem zin_take {st : List zV} {n : Nat} (h : ∀ v ∈ st, zok v) : ∀ v ∈ (st.take n).reverse, zok v := fun v hv => h v (List.mem_of_mem_take (List.mem_reverse.mp hv))
theorem zin_drop {st : List zV} {n : Nat} (h : ∀ v ∈ st, zok v) : ∀ v ∈ st.drop n, zok v := fun v hv => h v (List.mem_of_mem_drop hv)
theorem s_calls {k md l n t i : Nat} {X : zE} (hX : P k = X) (hwc : zWc X) (hlv : zLv X.2.2.2.2.1 E.2.2.2.2.1 md l) (hml : zMl E.1.cls i X.1) (hst : Cond.static X.1 ∈ zAll) (hsg : (parseMethodDescriptor X.1.desc).map (fun d => d.parameters.length) = some n) : zSi P E pc (.invokestatic i) 3 (z_calls k md l n t) := by
  subst hX
  intro lv C J K hd hC hJ hK ls st mm out hF
  unfold z_calls at hF
  split at hF
  · rename_i hc
    obtain ⟨c1, c2⟩ := zcl_of hc
    obtain ⟨j, hj, hmu⟩ := zlev_of hF hlv
    obtain ⟨v, m', hCo, hKo⟩ := zret_of hj
    obtain ⟨hG, hM⟩ := hC _ _ _ _ _ hCo
    have hG2 := (hK _ _ _ _ hKo).1
    refine ⟨hG.tr hG2, fun p lL e s m args below meth cd D ρ A n0 s0 H locs lsA hx hp => ?_⟩
    obtain ⟨hL, hok, hls, hH, hS, h1, h2⟩ := hp
    have hKs := hx.2.2.2.2.2.2.2.2
    have hG1n : zn mm ≤ zn m' := hG.1
    have hG1s : zs mm ≤ zs m' := hG.2
    have hG2n : zn m' ≤ zn out.2 := hG2.1
    have hG2s : zs m' ≤ zs out.2 := hG2.2
    have hMet := hM hmu (zin_take hok) lL D ρ A
    have hargs : ∀ w ∈ [Cond.code (P k).1 (P k).2.1 (P k).2.2.1 (P k).2.2.2.1], ∀ (a' : Array Value) (U : State), s.WarmedH U.vm → w.before a' U = true := fun w hw a' U hW => by
      rw [List.mem_singleton.mp hw]
      exact zAll_warm hwc.1 hW (zKs_word hKs hwc.1 (a := #[]))
    have hlen : ((st.take n).reverse.map (zW ρ)).length = n := by rw [List.length_map, List.length_reverse, List.length_take]; omega
    have hpre : PreS s H (zPc D ρ A (st.take n).reverse mm) ((st.take n).reverse.map (zW ρ)) := ⟨zPc_blind, fun U hU hW => ⟨rfl, by rw [hU]; exact hH, zKs_warm hW hKs, by rw [hU]; exact fun q hq => hx.2.2.2.2.2.2.2.1 q (Nat.le_trans hS.1 hq)⟩⟩
    have hrm : (zRoom (zmu (P k) j) (zn m' - zn mm) (zs m' - zs mm)).frames + 1 ≤ (zRoom (zmu E lv) (zn out.2 - n0) (zs out.2 - s0)).frames ∧ 8 + ((P k).2.2.1 + 11) + (zRoom (zmu (P k) j) (zn m' - zn mm) (zs m' - zs mm)).locals ≤ (zRoom (zmu E lv) (zn out.2 - n0) (zs out.2 - s0)).locals := by
      have h41 := hwc.2.2.2
      have hmu' : zmu (P k) j < zmu E lv := hmu
      show zmu (P k) j + 1 ≤ zmu E lv ∧ 8 + ((P k).2.2.1 + 11) + 60 * zmu (P k) j ≤ 60 * zmu E lv
      omega
    have key : va_Run p lL e (zRoom (zmu E lv) (zn out.2 - n0) (zs out.2 - s0)) s m args below meth cd H locs (zn mm - n0) (zs mm - s0) (zn m' - zn mm) (zs m' - zs mm) (F0 m pc lsA (st.map (zW ρ))) ((st.drop n).map (zW ρ)) (zQ D ρ A (v, m') ((st.take n).reverse.map (zW ρ)).toArray) A := by
      have hcap : zn mm - n0 + (zn m' - zn mm) ≤ (zRoom (zmu E lv) (zn out.2 - n0) (zs out.2 - s0)).cells ∧ zs mm - s0 + (zs m' - zs mm) ≤ (zRoom (zmu E lv) (zn out.2 - n0) (zs out.2 - s0)).slots := by
        show zn mm - n0 + (zn m' - zn mm) ≤ zn out.2 - n0 ∧ zs mm - s0 + (zs m' - zs mm) ≤ zs out.2 - s0
        omega
      rcases hml with hml | ⟨hh, hml⟩
      · exact va_runS (As := (st.take n).reverse.map (zW ρ)) ⟨hx.1, hx.2.1, hx.2.2.1, hx.2.2.2.2.1, fun w hw => zKs_word (a := args) hKs hw⟩ hMet ⟨⟨rfl, rfl, hrm.1, hrm.2, hargs, List.mem_singleton.mpr rfl, zKs_word hKs hwc.1, zKs_word hKs hwc.2.1, hwc.2.2.1, zsig hsg, zKs_word hKs hml⟩, zKs_word hKs hst⟩ hpre rfl hlen hL.1 (zargs_eq st n ρ) (lv_room (by rw [zw_cat]; exact c2)) hd hcap
      · exact va_runSN (As := (st.take n).reverse.map (zW ρ)) ⟨hx.1, hx.2.1, hx.2.2.1, hx.2.2.2.2.1, fun w hw => zKs_word (a := args) hKs hw⟩ hMet ⟨⟨⟨rfl, rfl, hrm.1, hrm.2, hargs, List.mem_singleton.mpr rfl⟩, zKs_word hKs hwc.1, zKs_word hKs hwc.2.1, hwc.2.2.1, zsig hsg, zKs_word hKs hml⟩, zKs_word hKs hst, trivial⟩ hpre rfl hlen hL.1 (zargs_eq st n ρ) (lv_room (by rw [zw_cat]; exact c2)) hd hcap
    refine zcall_go key hS (fun H1 locs1 hv hH1 hS1 => ?_)
    have kk := (hK _ _ _ _ hKo).2 p lL e s m args below meth cd D ρ A n0 s0 H1 locs1 lsA hx ⟨hL, ?_, hls, hH1, hS1, by omega, by omega⟩
    · rw [show zn m' - n0 = zn mm - n0 + (zn m' - zn mm) by omega, show zs m' - s0 = zs mm - s0 + (zs m' - zs mm) by omega] at kk
      have e1 : (v.toList ++ st.drop n).map (zW ρ) = (v.map (zW ρ)).toList ++ (st.drop n).map (zW ρ) := by
        rw [List.map_append]
        cases v <;> rfl
      rw [e1] at kk
      exact kk
    · intro w hw
      rcases List.mem_append.mp hw with q | q
      · cases v with
        | none => cases q
        | some v0 => rw [List.mem_singleton.mp q]; exact hv _ rfl
      · exact zin_drop hok w q
  · cases hF
theorem zrv_of {m : zM} {c : Nat} {as : List zV} (h : zrv m c as = true) : ∃ a as', as = .inr (.inr (some a)) :: as' ∧ zT m a c = true := by
  unfold zrv at h
  split at h
  · exact ⟨_, _, rfl, h⟩
  · cases h
/-- constructors and virtual calls -/
theorem s_callv {c k md l n t i : Nat} {r : vw_C} {X : zE} (hX : P k = X) (hc : zCl[c]? = some r) (hcls : r.1 = X.1.cls) (hwc : zWc X) (hlv : zLv X.2.2.2.2.1 E.2.2.2.2.1 md l) (hml : zMl E.1.cls i X.1) (hin : Cond.instanceMethod X.1 ∈ zAll) (hse : Cond.selects r.1 X.1 X.1 ∈ zAll) (hsg : (parseMethodDescriptor X.1.desc).map (fun d => d.parameters.length + 1) = some n) : zSi P E pc (.invokevirtual i) 3 (z_callv c k md l n t) := by
  subst hX
  intro lv C J K hd hC hJ hK ls st mm out hF
  unfold z_callv at hF
  split at hF
  · rename_i hcc
    split at hF
    · rename_i hrv
      obtain ⟨c1, c2⟩ := zcl_of hcc
      obtain ⟨a, as', has, hTa⟩ := zrv_of hrv
      obtain ⟨j, hj, hmu⟩ := zlev_of hF hlv
      obtain ⟨v, m', hCo, hKo⟩ := zret_of hj
      obtain ⟨hG, hM⟩ := hC _ _ _ _ _ hCo
      have hG2 := (hK _ _ _ _ hKo).1
      refine ⟨hG.tr hG2, fun p lL e s m args below meth cd D ρ A n0 s0 H locs lsA hx hp => ?_⟩
      obtain ⟨hL, hok, hls, hH, hS, h1, h2⟩ := hp
      have hKs := hx.2.2.2.2.2.2.2.2
      have hG1n : zn mm ≤ zn m' := hG.1
      have hG1s : zs mm ≤ zs m' := hG.2
      have hG2n : zn m' ≤ zn out.2 := hG2.1
      have hG2s : zs m' ≤ zs out.2 := hG2.2
      have hMet := hM hmu (zin_take hok) lL D ρ A
      rw [has] at hMet
      have hargs : ∀ w ∈ [Cond.code (P k).1 (P k).2.1 (P k).2.2.1 (P k).2.2.2.1], ∀ (a' : Array Value) (U : State), s.WarmedH U.vm → w.before a' U = true := fun w hw a' U hW => by
        rw [List.mem_singleton.mp hw]
        exact zAll_warm hwc.1 hW (zKs_word hKs hwc.1 (a := #[]))
      have hl0 : (st.take n).reverse.length = n := by rw [List.length_reverse, List.length_take]; omega
      have hlen : (as'.map (zW ρ)).length + 1 = n := by rw [List.length_map, ← hl0, has]; rfl
      obtain ⟨cellB, q1, q2, q3, -⟩ := zAt_obj (hH.1 a (zT_lt hTa).1) (zT_lt hTa).2 hc
      have hpre : PreV s H r.1 (ρ a) (zPc D ρ A (.inr (.inr (some a)) :: as') mm) (as'.map (zW ρ)) := ⟨zPc_blind, ⟨cellB, q1, by rw [q3]; rfl, by rw [q2]; exact (hKs.1 c r hc).2.1⟩, fun U hU hW => ⟨rfl, by rw [hU]; exact hH, zKs_warm hW hKs, by rw [hU]; exact fun q hq => hx.2.2.2.2.2.2.2.1 q (Nat.le_trans hS.1 hq)⟩⟩
      have hrm : (zRoom (zmu (P k) j) (zn m' - zn mm) (zs m' - zs mm)).frames + 1 ≤ (zRoom (zmu E lv) (zn out.2 - n0) (zs out.2 - s0)).frames ∧ 8 + ((P k).2.2.1 + 11) + (zRoom (zmu (P k) j) (zn m' - zn mm) (zs m' - zs mm)).locals ≤ (zRoom (zmu E lv) (zn out.2 - n0) (zs out.2 - s0)).locals := by
        have h41 := hwc.2.2.2
        have hmu' : zmu (P k) j < zmu E lv := hmu
        show zmu (P k) j + 1 ≤ zmu E lv ∧ 8 + ((P k).2.2.1 + 11) + 60 * zmu (P k) j ≤ 60 * zmu E lv
        omega
      have hstk : st.map (zW ρ) = (as'.map (zW ρ)).reverse ++ .ref (ρ a) :: (st.drop n).map (zW ρ) := by
        rw [zargs_eq st n ρ, has, List.map_cons, List.reverse_cons, List.append_assoc]
        rfl
      have hsg' : ∀ sig, parseMethodDescriptor (P k).1.desc = some sig → (as'.map (zW ρ)).length = sig.parameters.length := fun sig q => by
        rw [q] at hsg
        have := Option.some.inj hsg
        dsimp only at this
        omega
      have key : va_Run p lL e (zRoom (zmu E lv) (zn out.2 - n0) (zs out.2 - s0)) s m args below meth cd H locs (zn mm - n0) (zs mm - s0) (zn m' - zn mm) (zs m' - zs mm) (F0 m pc lsA (st.map (zW ρ))) ((st.drop n).map (zW ρ)) (zQ D ρ A (v, m') (Value.ref (ρ a) :: as'.map (zW ρ)).toArray) A := by
        have hcap : zn mm - n0 + (zn m' - zn mm) ≤ (zRoom (zmu E lv) (zn out.2 - n0) (zs out.2 - s0)).cells ∧ zs mm - s0 + (zs m' - zs mm) ≤ (zRoom (zmu E lv) (zn out.2 - n0) (zs out.2 - s0)).slots := by
          show zn mm - n0 + (zn m' - zn mm) ≤ zn out.2 - n0 ∧ zs mm - s0 + (zs m' - zs mm) ≤ zs out.2 - s0
          omega
        rcases hml with hml | ⟨hh, hml⟩
        · exact va_runV (C := r.1) (b := ρ a) (As := as'.map (zW ρ)) ⟨hx.1, hx.2.1, hx.2.2.1, hx.2.2.2.2.1, fun w hw => zKs_word (a := args) hKs hw⟩ hMet ⟨⟨rfl, rfl, hrm.1, hrm.2, hargs, List.mem_singleton.mpr rfl, zKs_word hKs hwc.1, zKs_word hKs hwc.2.1, hwc.2.2.1, hsg', zKs_word hKs hml⟩, zKs_word hKs hin, zKs_word hKs hse⟩ hpre rfl rfl hL.1 hstk (lv_room (by rw [zw_cat]; exact c2)) hd hcap
        · exact va_runVN (C := r.1) (b := ρ a) (As := as'.map (zW ρ)) ⟨hx.1, hx.2.1, hx.2.2.1, hx.2.2.2.2.1, fun w hw => zKs_word (a := args) hKs hw⟩ hMet ⟨⟨⟨rfl, rfl, hrm.1, hrm.2, hargs, List.mem_singleton.mpr rfl⟩, zKs_word hKs hwc.1, zKs_word hKs hwc.2.1, hwc.2.2.1, hsg', zKs_word hKs hml⟩, zKs_word hKs hin, zKs_word hKs hse⟩ hpre rfl rfl hL.1 hstk (lv_room (by rw [zw_cat]; exact c2)) hd hcap
      refine zcall_go key hS (fun H1 locs1 hv hH1 hS1 => ?_)
      have kk := (hK _ _ _ _ hKo).2 p lL e s m args below meth cd D ρ A n0 s0 H1 locs1 lsA hx ⟨hL, ?_, hls, hH1, hS1, by omega, by omega⟩
      · rw [show zn m' - n0 = zn mm - n0 + (zn m' - zn mm) by omega, show zs m' - s0 = zs mm - s0 + (zs m' - zs mm) by omega] at kk
        have e1 : (v.toList ++ st.drop n).map (zW ρ) = (v.map (zW ρ)).toList ++ (st.drop n).map (zW ρ) := by
          rw [List.map_append]
          cases v <;> rfl
        rw [e1] at kk
        exact kk
      · intro w hw
        rcases List.mem_append.mp hw with q | q
        · cases v with
          | none => cases q
          | some v0 => rw [List.mem_singleton.mp q]; exact hv _ rfl
        · exact zin_drop hok w q
    · cases hF
  · cases hF
theorem s_calli {c k md l n t i : Nat} {r : vw_C} {X : zE} (hX : P k = X) (hc : zCl[c]? = some r) (hnm : X.1.name = "<init>") (hret : X.2.2.2.1 = none) (hwc : zWc X) (hlv : zLv X.2.2.2.2.1 E.2.2.2.2.1 md l) (hml : zMl E.1.cls i X.1) (hin : Cond.instanceMethod X.1 ∈ zAll) (hsg : (parseMethodDescriptor X.1.desc).map (fun d => d.parameters.length + 1) = some n) : zSi P E pc (.invokespecial i) 3 (z_callv c k md l n t) := by
  subst hX
  intro lv C J K hd hC hJ hK ls st mm out hF
  unfold z_callv at hF
  split at hF
  · rename_i hcc
    split at hF
    · rename_i hrv
      obtain ⟨c1, c2⟩ := zcl_of hcc
      obtain ⟨a, as', has, hTa⟩ := zrv_of hrv
      obtain ⟨j, hj, hmu⟩ := zlev_of hF hlv
      obtain ⟨v, m', hCo, hKo⟩ := zret_of hj
      obtain ⟨hG, hM⟩ := hC _ _ _ _ _ hCo
      have hG2 := (hK _ _ _ _ hKo).1
      refine ⟨hG.tr hG2, fun p lL e s m args below meth cd D ρ A n0 s0 H locs lsA hx hp => ?_⟩
      obtain ⟨hL, hok, hls, hH, hS, h1, h2⟩ := hp
      have hKs := hx.2.2.2.2.2.2.2.2
      have hG1n : zn mm ≤ zn m' := hG.1
      have hG1s : zs mm ≤ zs m' := hG.2
      have hG2n : zn m' ≤ zn out.2 := hG2.1
      have hG2s : zs m' ≤ zs out.2 := hG2.2
      have hMet := hM hmu (zin_take hok) lL D ρ A
      rw [has] at hMet
      have hargs : ∀ w ∈ [Cond.code (P k).1 (P k).2.1 (P k).2.2.1 (P k).2.2.2.1], ∀ (a' : Array Value) (U : State), s.WarmedH U.vm → w.before a' U = true := fun w hw a' U hW => by
        rw [List.mem_singleton.mp hw]
        exact zAll_warm hwc.1 hW (zKs_word hKs hwc.1 (a := #[]))
      have hcode := hwc.1
      rw [hret] at hMet hargs hcode
      have hl0 : (st.take n).reverse.length = n := by rw [List.length_reverse, List.length_take]; omega
      have hlen : (as'.map (zW ρ)).length + 1 = n := by rw [List.length_map, ← hl0, has]; rfl
      have hpre : PreS s H (zPc D ρ A (.inr (.inr (some a)) :: as') mm) (.ref (ρ a) :: as'.map (zW ρ)) := ⟨zPc_blind, fun U hU hW => ⟨rfl, by rw [hU]; exact hH, zKs_warm hW hKs, by rw [hU]; exact fun q hq => hx.2.2.2.2.2.2.2.1 q (Nat.le_trans hS.1 hq)⟩⟩
      have hrm : (zRoom (zmu (P k) j) (zn m' - zn mm) (zs m' - zs mm)).frames + 1 ≤ (zRoom (zmu E lv) (zn out.2 - n0) (zs out.2 - s0)).frames ∧ 8 + ((P k).2.2.1 + 11) + (zRoom (zmu (P k) j) (zn m' - zn mm) (zs m' - zs mm)).locals ≤ (zRoom (zmu E lv) (zn out.2 - n0) (zs out.2 - s0)).locals := by
        have h41 := hwc.2.2.2
        have hmu' : zmu (P k) j < zmu E lv := hmu
        show zmu (P k) j + 1 ≤ zmu E lv ∧ 8 + ((P k).2.2.1 + 11) + 60 * zmu (P k) j ≤ 60 * zmu E lv
        omega
      have hstk : st.map (zW ρ) = (as'.map (zW ρ)).reverse ++ .ref (ρ a) :: (st.drop n).map (zW ρ) := by
        rw [zargs_eq st n ρ, has, List.map_cons, List.reverse_cons, List.append_assoc]
        rfl
      have hsg' : ∀ sig, parseMethodDescriptor (P k).1.desc = some sig → (as'.map (zW ρ)).length = sig.parameters.length := fun sig q => by
        rw [q] at hsg
        have := Option.some.inj hsg
        dsimp only at this
        omega
      have key : va_Run p lL e (zRoom (zmu E lv) (zn out.2 - n0) (zs out.2 - s0)) s m args below meth cd H locs (zn mm - n0) (zs mm - s0) (zn m' - zn mm) (zs m' - zs mm) (F0 m pc lsA (st.map (zW ρ))) ((st.drop n).map (zW ρ)) (zQ D ρ A (v, m') (Value.ref (ρ a) :: as'.map (zW ρ)).toArray) A := by
        have hcap : zn mm - n0 + (zn m' - zn mm) ≤ (zRoom (zmu E lv) (zn out.2 - n0) (zs out.2 - s0)).cells ∧ zs mm - s0 + (zs m' - zs mm) ≤ (zRoom (zmu E lv) (zn out.2 - n0) (zs out.2 - s0)).slots := by
          show zn mm - n0 + (zn m' - zn mm) ≤ zn out.2 - n0 ∧ zs mm - s0 + (zs m' - zs mm) ≤ zs out.2 - s0
          omega
        rcases hml with hml | ⟨hh, hml⟩
        · exact va_runI (b := ρ a) (As := as'.map (zW ρ)) ⟨hx.1, hx.2.1, hx.2.2.1, hx.2.2.2.2.1, fun w hw => zKs_word (a := args) hKs hw⟩ hMet ⟨⟨rfl, rfl, hrm.1, hrm.2, hargs, List.mem_singleton.mpr rfl, zKs_word hKs hcode, zKs_word hKs hwc.2.1, hwc.2.2.1, hsg', zKs_word hKs hml⟩, hnm, zKs_word hKs hin⟩ hpre rfl rfl hL.1 hstk (lv_room (by rw [zw_cat]; exact c2)) hd hcap
        · exact va_runIN (b := ρ a) (As := as'.map (zW ρ)) ⟨hx.1, hx.2.1, hx.2.2.1, hx.2.2.2.2.1, fun w hw => zKs_word (a := args) hKs hw⟩ hMet ⟨⟨⟨rfl, rfl, hrm.1, hrm.2, hargs, List.mem_singleton.mpr rfl⟩, zKs_word hKs hcode, zKs_word hKs hwc.2.1, hwc.2.2.1, hsg', zKs_word hKs hml⟩, hnm, zKs_word hKs hin⟩ hpre rfl rfl hL.1 hstk (lv_room (by rw [zw_cat]; exact c2)) hd hcap
      refine zcall_go key hS (fun H1 locs1 hv hH1 hS1 => ?_)
      have kk := (hK _ _ _ _ hKo).2 p lL e s m args below meth cd D ρ A n0 s0 H1 locs1 lsA hx ⟨hL, ?_, hls, hH1, hS1, by omega, by omega⟩
      · rw [show zn m' - n0 = zn mm - n0 + (zn m' - zn mm) by omega, show zs m' - s0 = zs mm - s0 + (zs m' - zs mm) by omega] at kk
        have e1 : (v.toList ++ st.drop n).map (zW ρ) = (v.map (zW ρ)).toList ++ (st.drop n).map (zW ρ) := by
          rw [List.map_append]
          cases v <;> rfl
        rw [e1] at kk
        exact kk
      · intro w hw
        rcases List.mem_append.mp hw with q | q
        · cases v with
          | none => cases q
          | some v0 => rw [List.mem_singleton.mp q]; exact hv _ rfl
        · exact zin_drop hok w q
    · cases hF
  · cases hF
/-- a block of instructions, each sound -/
def zBok (P : Nat → zE) (E : zE) : Nat → zBlk → Prop
  | _, [] => True
  | pc, (i, n, x) :: r => zSi P E pc i n x ∧ zBok P E (pc + n) r
/-- the code has them -/
def zBdk (cc : ByteArray) : Nat → zBlk → Bool
  | _, [] => true
  | pc, (i, n, _) :: r => decide (decode cc pc = .ok (i, n)) && zBdk cc (pc + n) r
theorem zBk_sn {lv : Nat} {C : zC} {J : Nat → zK} (hC : zCs P E lv C) (hJ : ∀ q, zSn E lv q (J q)) : ∀ (pc : Nat) (b : zBlk), zBdk E.2.1 pc b = true → zBok P E pc b → zSn E lv pc (zBk lv C J pc b)
  | pc, [], _, _ => hJ pc
  | pc, (i, n, x) :: r, hd, hb => by
    unfold zBdk at hd
    rw [Bool.and_eq_true] at hd
    exact hb.1 lv C J _ (of_decide_eq_true hd.1) hC hJ (zBk_sn hC hJ (pc + n) r hd.2 hb.2)
theorem zofW {l : Launch} {y : MethodName} {ws ws' : List Cond} {rm : Room} {Pc : Array Value → State → Prop} {Qc : Array Value → State → Outcome → State → Prop} {mc ms : Nat} {free : Addr → Prop} {cc : ByteArray} {maxL : Nat} {ret : Option FieldType}
    (hy : plainFor y = true) (hw : ws = Cond.code y cc maxL ret :: ws')
    (body : ∀ p e s m args below meth c s₁, BodyLoose p l y (headSpec ws rm) cc maxL ret e s m args below meth c s₁ → c.maxLocals = maxL → Pc args s →
      W p l e (headSpec ws rm).room s m args below meth c s.heap [] 0 0 (MQ below Qc args s mc ms free) (entryFrame m args maxL)) : Met l y ws rm Pc Qc mc ms free := by
  refine MetFree.of_bodySF (code := cc) (maxLocals := maxL) (ret := ret) hy ?_ ?_
  · intro args s m h hn
    obtain ⟨meth, c, h1, h2, h3, h4, h5, h6, -, -⟩ := Cond.code_spec hn (atoms_spec (ws := ws) h _ (by rw [hw]; exact List.mem_cons_self))
    exact ⟨meth, c, h1, h2, h3, h4, h5, h6⟩
  · intro p e s m args below meth c s₁ B hml hP _
    have hh0 : s₁.heap = s.heap := by rw [B.state]; rfl
    obtain ⟨t, a1, o, b1, b2, b3⟩ := body p e s m args below meth c s₁ B hml hP s₁ hh0 (Stand.of_body B)
    exact ⟨t, o, a1, b1, b2, ⟨b3.1, b3.2⟩⟩
/-- a method is sound: its words, its blocks, or the whole of it -/
def zMok (P : Nat → zE) (E : zE) : Prop := plainFor E.1 = true ∧ (∀ pc b, E.2.2.2.2.2.1 pc = some b → zBdk E.2.1 pc b = true ∧ zBok P E pc b) ∧
  ∀ g, E.2.2.2.2.2.2 = some g → ∀ as mm out, g as mm = some out → zGr mm out.2 ∧ ∀ (j : Nat), (∀ v ∈ as, zok v) → ∀ (l : Launch) (D : zD) (ρ : Nat → Nat) (A : Nat → Prop), Met l E.1 [.code E.1 E.2.1 E.2.2.1 E.2.2.2.1] (zRoom (zmu E j) (zn out.2 - zn mm) (zs out.2 - zs mm)) (zPc D ρ A as mm) (zQ D ρ A out) (zn out.2 - zn mm) (zs out.2 - zs mm) A
/-- the locals at a method's entry -/
theorem zEnt_len : ∀ (as : List zV) (ρ : Nat → Nat), (lg_sl (as.map (zW ρ))).length = zaw as
  | [], _ => rfl
  | .inl x :: r, ρ => by
    have := zEnt_len r ρ
    show ([Slot.val (zW ρ (.inl x))] ++ lg_sl (r.map (zW ρ))).length = zaw r + 1
    rw [List.length_append, this]
    exact Nat.add_comm _ _
  | .inr (.inl x) :: r, ρ => by
    have := zEnt_len r ρ
    show ([Slot.val (zW ρ (.inr (.inl x))), Slot.second] ++ lg_sl (r.map (zW ρ))).length = zaw r + 2
    rw [List.length_append, this]
    exact Nat.add_comm _ _
  | .inr (.inr x) :: r, ρ => by
    have := zEnt_len r ρ
    cases x
    · show ([Slot.val (zW ρ (.inr (.inr none)))] ++ lg_sl (r.map (zW ρ))).length = zaw r + 1
      rw [List.length_append, this]
      exact Nat.add_comm _ _
    · show ([Slot.val (zW ρ (.inr (.inr (some _))))] ++ lg_sl (r.map (zW ρ))).length = zaw r + 1
      rw [List.length_append, this]
      exact Nat.add_comm _ _
theorem zEnt_in : ∀ (as : List zV) (ρ : Nat → Nat) (n k i : Nat) (v : zV), (zEnt as n)[i]? = some (some v) → (k + i, zW ρ v) ∈ lv_args k (as.map (zW ρ))
  | [], ρ, n, k, i, v, h => by
    have : some v ∈ List.replicate n (none : Option zV) := List.mem_of_getElem? h
    have := List.eq_of_mem_replicate this
    cases this
  | .inl x :: r, ρ, n, k, i, v, h => by
    cases i with
    | zero => cases h; exact List.mem_cons_self
    | succ i =>
      have := zEnt_in r ρ (n - 1) (k + 1) i v h
      rw [show k + 1 + i = k + (i + 1) by omega] at this
      exact List.mem_cons_of_mem _ this
  | .inr (.inr x) :: r, ρ, n, k, i, v, h => by
    cases i with
    | zero => cases h; exact List.mem_cons_self
    | succ i =>
      have := zEnt_in r ρ (n - 1) (k + 1) i v h
      rw [show k + 1 + i = k + (i + 1) by omega] at this
      cases x <;> exact List.mem_cons_of_mem _ this
  | .inr (.inl x) :: r, ρ, n, k, i, v, h => by
    cases i with
    | zero => cases h; exact List.mem_cons_self
    | succ i =>
      cases i with
      | zero => cases h
      | succ i =>
        have := zEnt_in r ρ (n - 2) (k + 2) i v h
        rw [show k + 2 + i = k + (i + 1 + 1) by omega] at this
        exact List.mem_cons_of_mem _ this
theorem zEnt_ok : ∀ (as : List zV) (n : Nat), (∀ v ∈ as, zok v) → ∀ v, some v ∈ zEnt as n → zok v
  | [], n, _, v, h => by
    have := List.eq_of_mem_replicate h
    cases this
  | .inl x :: r, n, ha, v, h => by
    rcases List.mem_cons.mp h with q | q
    · cases q; exact zok_h ha
    · exact zEnt_ok r (n - 1) (zok_t ha) v q
  | .inr (.inr x) :: r, n, ha, v, h => by
    rcases List.mem_cons.mp h with q | q
    · cases q; exact trivial
    · exact zEnt_ok r (n - 1) (zok_t ha) v q
  | .inr (.inl x) :: r, n, ha, v, h => by
    rcases List.mem_cons.mp h with q | q
    · cases q; exact zok_h ha
    · rcases List.mem_cons.mp q with q | q
      · cases q
      · exact zEnt_ok r (n - 2) (zok_t ha) v q
theorem zGo_cs1 (hP : ∀ k, zMok P (P k)) {R : Nat → Nat → Nat → zK} (ih : ∀ k lv pc, zSn (P k) lv pc (R k lv pc)) (E : zE) (lv : Nat) : zCs P E lv (zGo P R) := by
  intro k j as mm out h
  unfold zGo at h
  split at h
  · rename_i g hg
    obtain ⟨h1, h2⟩ := (hP k).2.2 g hg as mm out h
    exact ⟨h1, fun _ ha => h2 j ha⟩
  · rename_i hg
    split at h
    · rename_i haw
      refine ⟨(ih k j 0 _ _ _ _ h).1, fun _ ha l D ρ A => ?_⟩
      refine zofW (cc := (P k).2.1) (maxL := (P k).2.2.1) (ret := (P k).2.2.2.1) (hP k).1 rfl ?_
      intro p e s m args below meth c s₁ B hml hv
      obtain ⟨rfl, hH, hKs, hA⟩ := hv
      have hlh := lv_entry (as.map (zW ρ)) (n := (P k).2.2.1) (by rw [zEnt_len]; exact haw)
      rw [lg_entry_eq]
      have hcx : zCx (P k) p s m meth c D A := ⟨B.exec, B.bytes, hml, B.returns, findClass_of_methodNamed B.named, B.notSynchronized, (name_of_methodNamed B.named B.method).1, hA, hKs⟩
      have kk := (ih k j 0 _ _ _ _ h).2 p l e s m (as.map (zW ρ)).toArray below meth c D ρ A (zn mm) (zs mm) s.heap [] _ hcx
        ⟨⟨hlh.1, hlh.2.1, fun i v hi => hlh.2.2 (i, zW ρ v) (by have := zEnt_in as ρ (P k).2.2.1 0 i v hi.1; rwa [Nat.zero_add] at this)⟩, fun v hv => (by cases hv), zEnt_ok as _ ha, hH, va_S.rf, Nat.le_refl _, Nat.le_refl _⟩
      rw [Nat.sub_self, Nat.sub_self] at kk
      exact kk
    · cases h
/-- ALL METHODS SOUND: then what a run gives is what the machine gives -/
theorem zRun_sn (hP : ∀ k, zMok P (P k)) : ∀ f k lv pc, zSn (P k) lv pc (zRun P f k lv pc)
  | 0, k, lv, pc => fun ls st mm out h => by cases h
  | f + 1, k, lv, pc => by
    have ih := zRun_sn hP f
    intro ls st mm out h
    unfold zRun at h
    split at h
    · rename_i b hb
      obtain ⟨h1, h2⟩ := (hP k).2.1 pc b hb
      exact zBk_sn (zGo_cs1 hP ih (P k) lv) (fun q => ih k lv q) pc b h1 h2 ls st mm out h
    · cases h
theorem zGo_cs (hP : ∀ k, zMok P (P k)) (f : Nat) (E : zE) (lv : Nat) : zCs P E lv (zGo P (zRun P f)) := zGo_cs1 hP (zRun_sn hP f) E lv
end ZP11
