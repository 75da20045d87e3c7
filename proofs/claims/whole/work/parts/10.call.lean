/-! new cells, calls -/
theorem zAt_lt {D : zD} {ρ : Nat → Nat} {m : zM} {a : Nat} {H : Heap} (h : zAt D ρ m a H) : ρ a < H.size := by
  unfold zAt at h
  split at h
  · obtain ⟨r, -, cell, q, -⟩ := h
    exact (Array.getElem?_eq_some_iff.mp q).1
  · exact (Array.getElem?_eq_some_iff.mp h.2).1
theorem zH_push {D : zD} {ρ : Nat → Nat} {A : Nat → Prop} {m : zM} {H H' : Heap} {t len size : Nat} (h : zH D ρ A m H) (hn : zn m + 1 < zSPEC) (hA : A H.size) (hlen : len < 2147483648) (hz : H'.size = H.size + 1) (oq : ∀ q, q < H.size → H'[q]? = H[q]?)
    (hat : zAt D ρ (zpush m t len size) (zn m) H') : zH D ρ A (zpush m t len size) H' := by
  obtain ⟨h1, h2, h3, h4, h5, h6, h7, h8, h9, h10, h11⟩ := h
  have e0 : ρ (zn m) = H.size := by have := h4 0 (by omega); simpa using this
  have en : zn (zpush m t len size) = zn m + 1 := rfl
  have ne : ∀ b, b < zn m → ¬ b = m.1.1 := fun b hb e => by have : zn m = m.1.1 := rfl; omega
  refine ⟨fun b hb => ?_, fun b c hb hc hbc => ?_, fun b hb => ?_, fun j hj => ?_, fun a k => ?_, fun a k => ?_, fun a => ?_, by rw [en]; exact hn, h9, by omega, fun q hq hA => by rw [oq q (by omega)]; exact h11 q hq hA⟩
  · rw [en] at hb
    by_cases hbn : b = zn m
    · rw [hbn]; exact hat
    · have hb' : b < zn m := by omega
      refine zAt_congr (h1 b hb') ?_ (fun j => ?_) (fun j => ?_) (fun j => ?_) (oq _ (zAt_lt (h1 b hb')))
      · show (if b = m.1.1 then _ else _) = _; rw [if_neg (ne b hb')]; rfl
      · show (if b = m.1.1 then _ else _) = _; rw [if_neg (ne b hb')]; rfl
      · show (if b = m.1.1 then _ else _) = _; rw [if_neg (ne b hb')]; rfl
      · show (if b = m.1.1 then _ else _) = _; rw [if_neg (ne b hb')]; rfl
  · rw [en] at hb hc
    have k1 : ∀ b, b < zn m → ρ b < H.size := fun b hb => zAt_lt (h1 b hb)
    by_cases hbn : b = zn m
    · by_cases hcn : c = zn m
      · omega
      · have := k1 c (by omega)
        rw [hbn, e0] at hbc
        omega
    · by_cases hcn : c = zn m
      · have := k1 b (by omega)
        rw [hcn, e0] at hbc
        omega
      · exact h2 b c (by omega) (by omega) hbc
  · rw [en] at hb
    by_cases hbn : b = zn m
    · rw [hbn, e0]; exact hA
    · exact h3 b (by omega)
  · rw [en] at hj ⊢
    rw [hz, show zn m + 1 + j = zn m + (1 + j) by omega, h4 (1 + j) (by omega)]
    omega
  · show r32 (if a = m.1.1 then _ else _)
    split
    · exact ⟨by omega, by omega⟩
    · exact h5 a k
  · show r64 (if a = m.1.1 then _ else _)
    split
    · exact ⟨by omega, by omega⟩
    · exact h6 a k
  · show (if a = m.1.1 then (t, len) else _).2 < _
    split
    · exact hlen
    · exact h7 a
theorem zKind_all : ∀ (c : Nat) (r : vw_C), zCl[c]? = some r → ∀ k, k < r.2.2 → zIsI c k = true ∨ zFt c k = .long ∨ zIsR c k = true := by
  intro c r h
  match c, h with
  | 0, h => cases h; decide
  | 1, h => cases h; decide
  | 2, h => cases h; decide
  | 3, h => cases h; decide
  | 4, h => cases h; decide
  | 5, h => cases h; decide
  | 6, h => cases h; decide
  | 7, h => cases h; decide
  | c + 8, h => simp [zCl] at h
theorem zpush_k (m : zM) (t len size : Nat) : zk (zpush m t len size) (zn m) = (t, len) := by show (if _ = _ then _ else _) = _; exact if_pos rfl
theorem zpush_i (m : zM) (t len size j : Nat) : zi (zpush m t len size) (zn m) j = 0 := by show (if _ = _ then _ else _) = _; exact if_pos rfl
theorem zpush_l (m : zM) (t len size j : Nat) : zl (zpush m t len size) (zn m) j = 0 := by show (if _ = _ then _ else _) = _; exact if_pos rfl
theorem zpush_r (m : zM) (t len size j : Nat) : zr (zpush m t len size) (zn m) j = none := by show (if _ = _ then _ else _) = _; exact if_pos rfl
theorem zFv_new {ρ : Nat → Nat} {m : zM} {c k len size : Nat} (h : zIsI c k = true ∨ zFt c k = .long ∨ zIsR c k = true) : defaultValue (zFt c k) = zFv ρ (zpush m c len size) (zn m) c k := by
  rcases h with h | h | h
  · rw [zFv_i (zIsI_ne h), zpush_i]
    unfold zIsI at h
    split at h
    · rename_i q; rw [q]; rfl
    · rename_i q; rw [q]; rfl
    · cases h
  · rw [zFv_l h, zpush_l, h]; rfl
  · rw [zFv_r (zIsR_or h), zpush_r]
    rcases zIsR_or h with ⟨n, q⟩ | ⟨n, q⟩ <;> rw [q] <;> rfl
section ZP10
variable {P : Nat → zE} {E : zE} {pc : Nat}
theorem zkd8 {c : Nat} {r : vw_C} (hc : zCl[c]? = some r) : c < 8 := by
  have := (List.getElem?_eq_some_iff.mp hc).1
  simpa [zCl] using this
theorem s_new {i c : Nat} {r : vw_C} (hc : zCl[c]? = some r) (hw1 : Cond.classLink E.1.cls i r.1 ∈ zAll) (hw2 : Cond.instantiable r.1 r.2.2 ∈ zAll) (hw3 : Cond.initialized r.1 ∈ zAll) : zSi P E pc (.new i) 3 (z_new c r.2.2) := by
  intro lv C J K hd hC hJ hK ls st mm out hF
  unfold z_new at hF
  split at hF
  · rename_i hn
    have hG := (hK _ _ _ _ hF).1
    have hG1 : zn mm + 1 ≤ zn out.2 := hG.1
    have hG2 : zs mm + r.2.2 ≤ zs out.2 := hG.2
    refine ⟨⟨by omega, by omega⟩, fun p l e s m args below meth cd D ρ A n0 s0 H locs lsA hx hp => ?_⟩
    obtain ⟨hL, hst, hls, hH, hS, h1, h2⟩ := hp
    have hKs := hx.2.2.2.2.2.2.2.2
    have hfc := (hKs.1 c r hc).2.1
    have e0 : ρ (zn mm) = H.size := by have := hH.2.2.2.1 0 (by omega); simpa using this
    refine W.newcK hx.1 hx.2.1 hx.2.2.2.2.1 (zKs_word hKs hw1) (zKs_word hKs hw2) (zKs_word hKs hw3) rfl hd (by show zn mm - n0 + 1 ≤ zn out.2 - n0; omega) (by show zs mm - s0 + r.2.2 ≤ zs out.2 - s0; omega) hfc rfl (fun H' kC hkC e1 z1 o1 => ?_)
    have hob := u_born (N := r.2.2) (zFt c) (fun w hw => zKs_word (a := #[]) hKs hw) (zCok_all c r hc).1 (hKs.1 c r hc) hkC e1 (zCok_all c r hc).2.1
    have hH' : zH D ρ A (zpush mm c 0 r.2.2) H' := zH_push hH hn (hx.2.2.2.2.2.2.2.1 _ hS.1) (by omega) z1 o1 (zAt_mkobj (c := c) (by rw [zpush_k]) hc (by rw [e0]; exact hob.to (fun k hk => zFv_new (zKind_all c r hc k hk))))
    have hS' : va_S A s.heap H' locs := ⟨Nat.le_trans hS.1 (by omega), fun x q1 q2 => (o1 x (Nat.lt_of_lt_of_le q1 hS.1)).trans (hS.2.1 x q1 q2), hS.2.2⟩
    have k := (hK _ _ _ _ hF).2 p l e s m args below meth cd D ρ A n0 s0 H' locs lsA hx ⟨hL, zok_c trivial hst, hls, hH', hS', by show n0 ≤ zn mm + 1; omega, by show s0 ≤ zs mm + r.2.2; omega⟩
    have a1 : zn (zpush mm c 0 r.2.2) - n0 = zn mm - n0 + 1 := by show zn mm + 1 - n0 = _; omega
    have a2 : zs (zpush mm c 0 r.2.2) - s0 = zs mm - s0 + r.2.2 := by show zs mm + r.2.2 - s0 = _; omega
    rw [a1, a2] at k
    rw [← e0]
    exact k
  · cases hF
theorem znewa_of {m : zM} {x : Int} (h : (decide (0 ≤ x) && (decide (x < 100000) && decide (zn m + 1 < zSPEC))) = true) : 0 ≤ x ∧ x < 100000 ∧ zn m + 1 < zSPEC := by simpa using h
theorem s_newa {at_ : ArrayType} {t : Nat} (ht : zTy t = some (newarray.typeOf at_)) (h8 : ¬ t < 8) (h11 : ¬ 11 ≤ t) (hb : componentBytes (newarray.typeOf at_) ≤ 8) (hw : Cond.arrayClass (newarray.typeOf at_) ∈ zAll)
    (hra : ∀ U cA, va_RA U cA (newarray.typeOf at_) → U.vm.findClass ("[" ++ (newarray.typeOf at_).toString) = some cA) (hdv : (t = 10 ∧ defaultValue (newarray.typeOf at_) = .long 0) ∨ (t ≠ 10 ∧ defaultValue (newarray.typeOf at_) = .int 0)) : zSi P E pc (.newarray at_) 2 (z_newa t) := by
  intro lv C J K hd hC hJ hK ls st mm out hF
  unfold z_newa at hF
  split at hF
  · rename_i x rest
    split at hF
    · rename_i hq
      obtain ⟨g1, g2, hn⟩ := znewa_of hq
      have hG := (hK _ _ _ _ hF).1
      have hG1 : zn mm + 1 ≤ zn out.2 := hG.1
      have hG2 : zs mm + x.toNat ≤ zs out.2 := hG.2
      refine ⟨⟨by omega, by omega⟩, fun p l e s m args below meth cd D ρ A n0 s0 H locs lsA hx hp => ?_⟩
      obtain ⟨hL, hst, hls, hH, hS, h1, h2⟩ := hp
      have hKs := hx.2.2.2.2.2.2.2.2
      have hx32 : r32 x := zok_h hst
      have e0 : ρ (zn mm) = H.size := by have := hH.2.2.2.1 0 (by omega); simpa using this
      have hby : x.toNat * componentBytes (newarray.typeOf at_) ≤ 536870912 := by
        have := Nat.mul_le_mul (show x.toNat ≤ 100000 by omega) hb
        omega
      refine va_newaK hx.1 hx.2.1 (zKs_word hKs hw) rfl hd rfl (fun q => by have := (zlt0 hx32).mp q; omega) (zcn hx32 g1) hby (by show zn mm - n0 + 1 ≤ zn out.2 - n0; omega) (by show zs mm - s0 + x.toNat ≤ zs out.2 - s0; omega) rfl (fun H' cA e1 z1 o1 hAr hNm => ?_)
      have hcA : D.2.2.1 t = cA := Option.some.inj ((hra s _ (hKs.2.1 t _ ht).2).symm.trans hNm)
      have hat : zAt D ρ (zpush mm t x.toNat x.toNat) (zn mm) H' := by
        refine zAt_mkarr (t := t) (by rw [zpush_k]) h8 ht ?_
        rw [e0, e1, zpush_k, hcA]
        congr 2
        funext j
        rcases hdv with ⟨q1, q2⟩ | ⟨q1, q2⟩
        · rw [q2, q1, zAv_l, zpush_l]; rfl
        · rw [q2, zAv_i q1 h11, zpush_i]; rfl
      have hH' := zH_push hH hn (hx.2.2.2.2.2.2.2.1 _ hS.1) (by omega) z1 o1 hat
      have hS' : va_S A s.heap H' locs := ⟨Nat.le_trans hS.1 (by omega), fun x q1 q2 => (o1 x (Nat.lt_of_lt_of_le q1 hS.1)).trans (hS.2.1 x q1 q2), hS.2.2⟩
      have k := (hK _ _ _ _ hF).2 p l e s m args below meth cd D ρ A n0 s0 H' locs lsA hx ⟨hL, zok_c trivial (zok_t hst), hls, hH', hS', by show n0 ≤ zn mm + 1; omega, by show s0 ≤ zs mm + x.toNat; omega⟩
      have a1 : zn (zpush mm t x.toNat x.toNat) - n0 = zn mm - n0 + 1 := by show zn mm + 1 - n0 = _; omega
      have a2 : zs (zpush mm t x.toNat x.toNat) - s0 = zs mm - s0 + x.toNat := by show zs mm + x.toNat - s0 = _; omega
      rw [a1, a2] at k
      rw [← e0]
      exact k
    · cases hF
  · cases hF
theorem s_anew {i t : Nat} {Cn : String} (ht : zTy t = some (.object Cn)) (h11 : 11 ≤ t) (hw1 : Cond.classLink E.1.cls i Cn ∈ zAll) (hw2 : Cond.arrayOver (.object Cn) ∈ zAll) : zSi P E pc (.anewarray i) 3 (z_newa t) := by
  intro lv C J K hd hC hJ hK ls st mm out hF
  unfold z_newa at hF
  split at hF
  · rename_i x rest
    split at hF
    · rename_i hq
      obtain ⟨g1, g2, hn⟩ := znewa_of hq
      have hG := (hK _ _ _ _ hF).1
      have hG1 : zn mm + 1 ≤ zn out.2 := hG.1
      have hG2 : zs mm + x.toNat ≤ zs out.2 := hG.2
      refine ⟨⟨by omega, by omega⟩, fun p l e s m args below meth cd D ρ A n0 s0 H locs lsA hx hp => ?_⟩
      obtain ⟨hL, hst, hls, hH, hS, h1, h2⟩ := hp
      have hKs := hx.2.2.2.2.2.2.2.2
      have hx32 : r32 x := zok_h hst
      have e0 : ρ (zn mm) = H.size := by have := hH.2.2.2.1 0 (by omega); simpa using this
      refine W.anew hx.1 hx.2.1 hx.2.2.2.2.1 (zKs_word hKs hw1) (zKs_word hKs hw2) rfl hd rfl (fun q => by have := (zlt0 hx32).mp q; omega) (by rw [zcn hx32 g1]; omega) (by show zn mm - n0 + 1 ≤ zn out.2 - n0; omega) (by rw [zcn hx32 g1]; show zs mm - s0 + x.toNat ≤ zs out.2 - s0; omega) (fun cA kA comp f1 f2 f3 f4 => ?_)
      rw [zcn hx32 g1]
      generalize hH1 : H.push ({ cls := cA, slots := Array.replicate x.toNat .null, vm := .none } : Cell) = H'
      have z1 : H'.size = H.size + 1 := by rw [← hH1, Array.size_push]
      have e1 : H'[H.size]? = some (arrV cA x.toNat (fun _ => .null)) := by rw [← hH1, Array.getElem?_push_size, ← arrV_new]
      have o1 : ∀ q : Nat, q < H.size → H'[q]? = H[q]? := fun q hq => by rw [← hH1, Array.getElem?_push, if_neg (Nat.ne_of_lt hq)]
      have hcA : D.2.2.1 t = cA := by
        obtain ⟨kB, cB, -, -, -, b4⟩ := (hKs.2.1 t _ ht).2
        exact Option.some.inj (b4.symm.trans f1)
      have hat : zAt D ρ (zpush mm t x.toNat x.toNat) (zn mm) H' := by
        refine zAt_mkarr (t := t) (by rw [zpush_k]) (by omega) ht ?_
        rw [e0, e1, zpush_k, hcA]
        congr 2
        funext j
        rw [zAv_r h11, zpush_r]; rfl
      have hH' := zH_push hH hn (hx.2.2.2.2.2.2.2.1 _ hS.1) (by omega) z1 o1 hat
      have hS' : va_S A s.heap H' locs := ⟨Nat.le_trans hS.1 (by omega), fun x q1 q2 => (o1 x (Nat.lt_of_lt_of_le q1 hS.1)).trans (hS.2.1 x q1 q2), hS.2.2⟩
      have k := (hK _ _ _ _ hF).2 p l e s m args below meth cd D ρ A n0 s0 H' locs lsA hx ⟨hL, zok_c trivial (zok_t hst), hls, hH', hS', by show n0 ≤ zn mm + 1; omega, by show s0 ≤ zs mm + x.toNat; omega⟩
      have a1 : zn (zpush mm t x.toNat x.toNat) - n0 = zn mm - n0 + 1 := by show zn mm + 1 - n0 = _; omega
      have a2 : zs (zpush mm t x.toNat x.toNat) - s0 = zs mm - s0 + x.toNat := by show zs mm + x.toNat - s0 = _; omega
      rw [a1, a2] at k
      rw [← e0]
      exact k
    · cases hF
  · cases hF
theorem zw_cat (ρ : Nat → Nat) : ∀ st : List zV, ((st.map (zW ρ)).map fun v => v.category).sum = zw st
  | [] => rfl
  | .inl x :: r => by
    have := zw_cat ρ r
    rw [List.map_cons, List.map_cons, List.sum_cons, this]
    show 1 + zw r = zw r + 1
    omega
  | .inr (.inl x) :: r => by
    have := zw_cat ρ r
    rw [List.map_cons, List.map_cons, List.sum_cons, this]
    show 2 + zw r = zw r + 2
    omega
  | .inr (.inr x) :: r => by
    have := zw_cat ρ r
    rw [List.map_cons, List.map_cons, List.sum_cons, this]
    cases x
    · show 1 + zw r = zw r + 1
      omega
    · show 1 + zw r = zw r + 1
      omega
theorem s_obj {i : Nat} (hw1 : Cond.methodLink E.1.cls i Lib.objectInit ∈ zAll) (hw2 : Cond.instanceMethod Lib.objectInit ∈ zAll) (hw3 : Cond.code Lib.objectInit ⟨#[0xb1]⟩ 1 none ∈ zAll) (hmu : 1 ≤ E.2.2.2.2.1) : zSi P E pc (.invokespecial i) 3 z_obj := by
  intro lv C J K hd hC hJ hK ls st mm out hF
  unfold z_obj at hF
  split at hF
  · rename_i a rest
    split at hF
    · rename_i hw
      refine ⟨(hK _ _ _ _ hF).1, fun p l e s m args below meth cd D ρ A n0 s0 H locs lsA hx hp => ?_⟩
      obtain ⟨hL, hst, hls, hH, hS, h1, h2⟩ := hp
      have hKs := hx.2.2.2.2.2.2.2.2
      refine W.objInit hx.1 hx.2.1 hx.2.2.2.2.1 (zKs_word hKs hw1) (zKs_word hKs hw2) (zKs_word hKs hw3) rfl (by rw [hx.2.2.1]; exact hL.1) (a := ρ a) rfl hd (by show 1 ≤ zmu E lv; unfold zmu; omega) ?_ ?_
      · show 2 * 0 + ((rest.map (zW ρ)).map fun v => v.category).sum + 12 ≤ 60 * zmu E lv
        rw [zw_cat]
        unfold zmu
        omega
      · exact (hK _ _ _ _ hF).2 p l e s m args below meth cd D ρ A n0 s0 H locs lsA hx ⟨hL, zok_t hst, hls, hH, hS, h1, h2⟩
    · cases hF
  · cases hF
/-- behind a call -/
theorem zcall_go {p : Program} {l : Launch} {e : Env} {R : Room} {s : State} {m : MethodId} {args : Array Value} {below : List Frame} {meth : Method} {c : Code} {H : Heap} {locs : List Loc} {cells slots mc ms : Nat} {Q : State → Prop} {lsA : Array Slot} {st0 rest : List Value} {D : zD} {ρ : Nat → Nat} {A : Nat → Prop} {o : zO} {a : Array Value}
    (hr : va_Run p l e R s m args below meth c H locs cells slots mc ms (F0 m pc lsA st0) rest (zQ D ρ A o a) A) (hS : va_S A s.heap H locs)
    (kk : ∀ H1 locs1, (∀ v, o.1 = some v → zok v) → zH D ρ A o.2 H1 → va_S A s.heap H1 locs1 → W p l e R s m args below meth c H1 locs1 (cells + mc) (slots + ms) Q (F0 m (pc + 3) lsA ((o.1.map (zW ρ)).toList ++ rest))) :
    W p l e R s m args below meth c H locs cells slots Q (F0 m pc lsA st0) := by
  intro T hT X
  obtain ⟨v, st₀, t, T', L, h0, X', hL, e1, e2, ⟨hv, hok, hH, hz, hk⟩, st⟩ := hr T hT X
  cases hv
  rw [h0] at hz hk
  obtain ⟨t2, a1, b1⟩ := kk T'.heap (locs ++ L) hok (by rw [e1]; exact hH)
    ⟨Nat.le_trans hS.1 (by rw [e1]; exact hz), fun q h1 h2 => by rw [e1, hk q (Nat.lt_of_lt_of_le h1 hS.1) h2]; exact hS.2.1 q h1 h2, fun q hq => by
      rcases List.mem_append.mp hq with h | h
      · exact hS.2.2 q h
      · exact hL q h⟩ T' rfl X'
  exact ⟨t2, st t2 a1, b1⟩
theorem zPc_blind {D : zD} {ρ : Nat → Nat} {A : Nat → Prop} {as : List zV} {mm : zM} : FrameBlind (zPc D ρ A as mm) := fun a U g mk h => by
  obtain ⟨h1, h2, h3, h4⟩ := h
  exact ⟨h1, h2, zKs_warm (s := U) (U := U.calling g mk a) (State.WarmedH.refl U) h3, h4⟩
theorem zret_of {t : Nat} {o : Option zO} {K : zLo → List zV → zM → Option zO} {ls : zLo} {r : List zV} {out : zO} (h : zret t o K ls r = some out) : ∃ (v : Option zV) (m' : zM), o = some (v, m') ∧ K ls (v.toList ++ r) m' = some out := by
  unfold zret at h
  split at h
  · unfold zC0 at h
    split at h
    · exact ⟨none, _, rfl, h⟩
    · cases h
  · unfold zC1 at h
    split at h
    · exact ⟨some _, _, rfl, h⟩
    · cases h
  · unfold zC2 at h
    split at h
    · exact ⟨some _, _, rfl, h⟩
    · cases h
  · unfold zC3 at h
    split at h
    · exact ⟨some _, _, rfl, h⟩
    · exact ⟨some _, _, rfl, h⟩
    · cases h
  · unfold zC4 at h
    split at h
    · exact ⟨some _, _, rfl, h⟩
    · cases h
/-- which level a call may have -/
def zLv (c' c md l : Nat) : Prop := match md with
  | 0 => c' + 2 * l < c
  | 1 => c' < c
  | _ => c' ≤ c + 1
theorem zlev_of {md l lv : Nat} {f : Nat → Option zO} {out : zO} (h : zlev md l lv f = some out) {c c' : Nat} (hl : zLv c' c md l) : ∃ j, f j = some out ∧ c' + 2 * j < c + 2 * lv := by
  rcases md with _ | _ | md
  · have h : f l = some out := h
    have hl : c' + 2 * l < c := hl
    exact ⟨_, h, by omega⟩
  · have h : f lv = some out := h
    have hl : c' < c := hl
    exact ⟨_, h, by omega⟩
  · have hl : c' ≤ c + 1 := hl
    cases lv with
    | zero => cases h
    | succ j =>
      have h : f j = some out := h
      exact ⟨j, h, by omega⟩
end ZP10
