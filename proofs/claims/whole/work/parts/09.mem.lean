section ZP9
variable {P : Nat → zE} {E : zE} {pc : Nat}
theorem z2_ne {α : Type} {f : Nat → Nat → α} {a b k j : Nat} {x : α} (h : b ≠ a) : z2 f a k x b j = f b j := by unfold z2; rw [if_neg (fun q => h q.1)]
theorem z2_at {α : Type} (f : Nat → Nat → α) (a k : Nat) (x : α) (j : Nat) : z2 f a k x a j = if j = k then x else f a j := by unfold z2; simp
theorem z2_ok {R : Int → Prop} {f : Nat → Nat → Int} {a k : Nat} {x : Int} (h : ∀ a k, R (f a k)) (hx : R x) : ∀ b j, R (z2 f a k x b j) := fun b j => by
  unfold z2
  split
  · exact hx
  · exact h b j
theorem zFv_i {ρ : Nat → Nat} {m : zM} {a c k : Nat} (h : zFt c k ≠ .long ∧ (∀ n, zFt c k ≠ .object n) ∧ ∀ t, zFt c k ≠ .array t) : zFv ρ m a c k = .int (Int32.ofInt (zi m a k)) := by
  unfold zFv
  split
  · rename_i q; exact absurd q h.1
  · rename_i q; exact absurd q (h.2.1 _)
  · rename_i q; exact absurd q (h.2.2 _)
  · rfl
theorem zFv_l {ρ : Nat → Nat} {m : zM} {a c k : Nat} (h : zFt c k = .long) : zFv ρ m a c k = .long (Int64.ofInt (zl m a k)) := by
  unfold zFv
  rw [h]
theorem zFv_r {ρ : Nat → Nat} {m : zM} {a c k : Nat} (h : (∃ n, zFt c k = .object n) ∨ ∃ t, zFt c k = .array t) : zFv ρ m a c k = va_rf ((zr m a k).map ρ) := by
  unfold zFv
  rcases h with ⟨n, h⟩ | ⟨t, h⟩ <;> rw [h]
/-- which fields are ints (booleans too) -/
def zIsI (c k : Nat) : Bool := match zFt c k with
  | .int => true
  | .boolean => true
  | _ => false
def zIsR (c k : Nat) : Bool := match zFt c k with
  | .object _ => true
  | .array _ => true
  | _ => false
theorem zIsI_ne {c k : Nat} (h : zIsI c k = true) : zFt c k ≠ .long ∧ (∀ n, zFt c k ≠ .object n) ∧ ∀ t, zFt c k ≠ .array t := by
  unfold zIsI at h
  refine ⟨fun q => ?_, fun n q => ?_, fun t q => ?_⟩ <;> rw [q] at h <;> cases h
theorem zIsR_or {c k : Nat} (h : zIsR c k = true) : (∃ n, zFt c k = .object n) ∨ ∃ t, zFt c k = .array t := by
  unfold zIsR at h
  split at h
  · rename_i n q; exact Or.inl ⟨n, q⟩
  · rename_i t q; exact Or.inr ⟨t, q⟩
  · cases h

theorem s_geti {i c k : Nat} {r : vw_C} (hc : zCl[c]? = some r) (hk : k < r.2.2) (hw : zLk E.1.cls i (r.2.1 k).1 (r.2.1 k).2.1 (r.2.1 k).2.2.1) (ht : zIsI c k = true) : zSi P E pc (.getfield i) 3 (z_geti c k) := by
  intro lv C J K hd hC hJ hK ls st mm out hF
  unfold z_geti at hF
  split at hF
  · rename_i a rest
    split at hF
    · rename_i hT
      refine ⟨(hK _ _ _ _ hF).1, fun p l e s m args below meth cd D ρ A n0 s0 H locs lsA hx hp => ?_⟩
      obtain ⟨hL, hst, hls, hH, hS, h1, h2⟩ := hp
      refine zget (r := r) hc hk hw hT hx hH hd ?_
      rw [zFv_i (zIsI_ne ht)]
      exact (hK _ _ _ _ hF).2 p l e s m args below meth cd D ρ A n0 s0 H locs lsA hx ⟨hL, zok_c (hH.2.2.2.2.1 a k) (zok_t hst), hls, hH, hS, h1, h2⟩
    · cases hF
  · cases hF
theorem s_getl {i c k : Nat} {r : vw_C} (hc : zCl[c]? = some r) (hk : k < r.2.2) (hw : zLk E.1.cls i (r.2.1 k).1 (r.2.1 k).2.1 (r.2.1 k).2.2.1) (ht : zFt c k = .long) : zSi P E pc (.getfield i) 3 (z_getl c k) := by
  intro lv C J K hd hC hJ hK ls st mm out hF
  unfold z_getl at hF
  split at hF
  · rename_i a rest
    split at hF
    · rename_i hT
      refine ⟨(hK _ _ _ _ hF).1, fun p l e s m args below meth cd D ρ A n0 s0 H locs lsA hx hp => ?_⟩
      obtain ⟨hL, hst, hls, hH, hS, h1, h2⟩ := hp
      refine zget (r := r) hc hk hw hT hx hH hd ?_
      rw [zFv_l ht]
      exact (hK _ _ _ _ hF).2 p l e s m args below meth cd D ρ A n0 s0 H locs lsA hx ⟨hL, zok_c (hH.2.2.2.2.2.1 a k) (zok_t hst), hls, hH, hS, h1, h2⟩
    · cases hF
  · cases hF
theorem s_getr {i c k : Nat} {r : vw_C} (hc : zCl[c]? = some r) (hk : k < r.2.2) (hw : zLk E.1.cls i (r.2.1 k).1 (r.2.1 k).2.1 (r.2.1 k).2.2.1) (ht : zIsR c k = true) : zSi P E pc (.getfield i) 3 (z_getr c k) := by
  intro lv C J K hd hC hJ hK ls st mm out hF
  unfold z_getr at hF
  split at hF
  · rename_i a rest
    split at hF
    · rename_i hT
      cases hr : zr mm a k with
      | none => rw [hr] at hF; cases hF
      | some b =>
        rw [hr] at hF
        have hF : K ls (.inr (.inr (some b)) :: rest) mm = some out := hF
        refine ⟨(hK _ _ _ _ hF).1, fun p l e s m args below meth cd D ρ A n0 s0 H locs lsA hx hp => ?_⟩
        obtain ⟨hL, hst, hls, hH, hS, h1, h2⟩ := hp
        refine zget (r := r) hc hk hw hT hx hH hd ?_
        rw [zFv_r (zIsR_or ht), hr]
        exact (hK _ _ _ _ hF).2 p l e s m args below meth cd D ρ A n0 s0 H locs lsA hx ⟨hL, zok_c trivial (zok_t hst), hls, hH, hS, h1, h2⟩
    · cases hF
  · cases hF
theorem zFv_up_i {ρ : Nat → Nat} {m : zM} {a c k : Nat} {x : Int} (h : zIsI c k = true) (j : Nat) : zFv ρ (zwi m a k x) a c j = updV (zFv ρ m a c) k (.int (Int32.ofInt x)) j := by
  unfold updV
  by_cases hj : j = k
  · subst hj
    rw [if_pos rfl, zFv_i (zIsI_ne h)]
    show Value.int (Int32.ofInt (z2 _ _ _ _ _ _)) = _
    rw [z2_at, if_pos rfl]
  · rw [if_neg hj]
    unfold zFv
    have e1 : zi (zwi m a k x) a j = zi m a j := by show z2 _ _ _ _ _ _ = _; rw [z2_at, if_neg hj]; rfl
    rw [e1]
    rfl
theorem zFv_up_l {ρ : Nat → Nat} {m : zM} {a c k : Nat} {x : Int} (h : zFt c k = .long) (j : Nat) : zFv ρ (zwl m a k x) a c j = updV (zFv ρ m a c) k (.long (Int64.ofInt x)) j := by
  unfold updV
  by_cases hj : j = k
  · subst hj
    rw [if_pos rfl, zFv_l h]
    show Value.long (Int64.ofInt (z2 _ _ _ _ _ _)) = _
    rw [z2_at, if_pos rfl]
  · rw [if_neg hj]
    unfold zFv
    have e1 : zl (zwl m a k x) a j = zl m a j := by show z2 _ _ _ _ _ _ = _; rw [z2_at, if_neg hj]; rfl
    rw [e1]
    rfl
theorem zFv_up_r {ρ : Nat → Nat} {m : zM} {a c k b : Nat} (h : zIsR c k = true) (j : Nat) : zFv ρ (zwr m a k (some b)) a c j = updV (zFv ρ m a c) k (.ref (ρ b)) j := by
  unfold updV
  by_cases hj : j = k
  · subst hj
    rw [if_pos rfl, zFv_r (zIsR_or h)]
    show va_rf (Option.map ρ (z2 _ _ _ _ _ _)) = _
    rw [z2_at, if_pos rfl]
    rfl
  · rw [if_neg hj]
    unfold zFv
    have e1 : zr (zwr m a k (some b)) a j = zr m a j := by show z2 _ _ _ _ _ _ = _; rw [z2_at, if_neg hj]; rfl
    rw [e1]
    rfl
def zFin (E : zE) (i k : Nat) (T : u_T) : Prop := (T k).2.2.2 = false ∨ ((T k).2.2.2 = true ∧ E.1.name = "<init>" ∧ (T k).1 = E.1.cls ∧ Cond.fieldLink E.1.cls i (T k).1 (T k).2.1 (T k).2.2.1 ∈ zAll)
theorem s_puti {i c k : Nat} {C : String} {T : u_T} {N : Nat} (hc : zCl[c]? = some (C, T, N)) (hk : k < N) (hfin : zFin E i k T) (hw : zLk E.1.cls i (T k).1 (T k).2.1 (T k).2.2.1) (ht : zFt c k = .int) : zSi P E pc (.putfield i) 3 (z_puti c k) := by
  intro lv C J K hd hC hJ hK ls st mm out hF
  have hi : zIsI c k = true := by unfold zIsI; rw [ht]
  unfold z_puti at hF
  split at hF
  · rename_i x a rest
    split at hF
    · rename_i hT
      refine ⟨(hK _ _ _ _ hF).1, fun p l e s m args below meth cd D ρ A n0 s0 H locs lsA hx hp => ?_⟩
      obtain ⟨hL, hst, hls, hH, hS, h1, h2⟩ := hp
      refine zput (m' := zwi mm a k x) hc hk hfin hw hT (by rw [ht]; rfl) (by rw [ht]; rfl) hx hH hS hd rfl (fun _ => rfl) (fun b hb j => ⟨z2_ne hb, rfl, rfl⟩) (z2_ok hH.2.2.2.2.1 (zok_h hst)) hH.2.2.2.2.2.1 (fun j _ => zFv_up_i hi j) (fun H' locs' hH' hS' => ?_)
      exact (hK _ _ _ _ hF).2 p l e s m args below meth cd D ρ A n0 s0 H' locs' lsA hx ⟨hL, zok2 hst, hls, hH', hS', h1, h2⟩
    · cases hF
  · cases hF
theorem s_putz {i c k : Nat} {C : String} {T : u_T} {N : Nat} (hc : zCl[c]? = some (C, T, N)) (hk : k < N) (hfin : zFin E i k T) (hw : zLk E.1.cls i (T k).1 (T k).2.1 (T k).2.2.1) (ht : zFt c k = .boolean) : zSi P E pc (.putfield i) 3 (z_putz c k) := by
  intro lv C J K hd hC hJ hK ls st mm out hF
  have hi : zIsI c k = true := by unfold zIsI; rw [ht]
  unfold z_putz at hF
  split at hF
  · rename_i x a rest
    split at hF
    · rename_i hT0
      simp only [Bool.and_eq_true] at hT0
      obtain ⟨hT, hb⟩ := hT0
      have hb2 : x = 0 ∨ x = 1 := by simpa [zb] using hb
      refine ⟨(hK _ _ _ _ hF).1, fun p l e s m args below meth cd D ρ A n0 s0 H locs lsA hx hp => ?_⟩
      obtain ⟨hL, hst, hls, hH, hS, h1, h2⟩ := hp
      refine zput (m' := zwi mm a k x) hc hk hfin hw hT (by rw [ht]; rcases hb2 with rfl | rfl <;> rfl) (by rw [ht]; rcases hb2 with rfl | rfl <;> rfl) hx hH hS hd rfl (fun _ => rfl) (fun b hb j => ⟨z2_ne hb, rfl, rfl⟩) (z2_ok hH.2.2.2.2.1 (zok_h hst)) hH.2.2.2.2.2.1 (fun j _ => zFv_up_i hi j) (fun H' locs' hH' hS' => ?_)
      exact (hK _ _ _ _ hF).2 p l e s m args below meth cd D ρ A n0 s0 H' locs' lsA hx ⟨hL, zok2 hst, hls, hH', hS', h1, h2⟩
    · cases hF
  · cases hF
theorem s_putl {i c k : Nat} {C : String} {T : u_T} {N : Nat} (hc : zCl[c]? = some (C, T, N)) (hk : k < N) (hfin : zFin E i k T) (hw : zLk E.1.cls i (T k).1 (T k).2.1 (T k).2.2.1) (ht : zFt c k = .long) : zSi P E pc (.putfield i) 3 (z_putl c k) := by
  intro lv C J K hd hC hJ hK ls st mm out hF
  unfold z_putl at hF
  split at hF
  · rename_i x a rest
    split at hF
    · rename_i hT
      refine ⟨(hK _ _ _ _ hF).1, fun p l e s m args below meth cd D ρ A n0 s0 H locs lsA hx hp => ?_⟩
      obtain ⟨hL, hst, hls, hH, hS, h1, h2⟩ := hp
      refine zput (m' := zwl mm a k x) hc hk hfin hw hT (by rw [ht]; rfl) (by rw [ht]; rfl) hx hH hS hd rfl (fun _ => rfl) (fun b hb j => ⟨rfl, z2_ne hb, rfl⟩) hH.2.2.2.2.1 (z2_ok hH.2.2.2.2.2.1 (zok_h hst)) (fun j _ => zFv_up_l ht j) (fun H' locs' hH' hS' => ?_)
      exact (hK _ _ _ _ hF).2 p l e s m args below meth cd D ρ A n0 s0 H' locs' lsA hx ⟨hL, zok2 hst, hls, hH', hS', h1, h2⟩
    · cases hF
  · cases hF
theorem s_putr {i c k : Nat} {C : String} {T : u_T} {N : Nat} (hc : zCl[c]? = some (C, T, N)) (hk : k < N) (hfin : zFin E i k T) (hw : zLk E.1.cls i (T k).1 (T k).2.1 (T k).2.2.1) (ht : zIsR c k = true) : zSi P E pc (.putfield i) 3 (z_putr c k) := by
  intro lv C J K hd hC hJ hK ls st mm out hF
  unfold z_putr at hF
  split at hF
  · rename_i b a rest
    split at hF
    · rename_i hT
      refine ⟨(hK _ _ _ _ hF).1, fun p l e s m args below meth cd D ρ A n0 s0 H locs lsA hx hp => ?_⟩
      obtain ⟨hL, hst, hls, hH, hS, h1, h2⟩ := hp
      refine zput (v := .ref (ρ b)) (m' := zwr mm a k (some b)) hc hk hfin hw hT (by rcases zIsR_or ht with ⟨n, q⟩ | ⟨n, q⟩ <;> rw [q] <;> rfl) (by rcases zIsR_or ht with ⟨n, q⟩ | ⟨n, q⟩ <;> rw [q] <;> rfl) hx hH hS hd rfl (fun _ => rfl) (fun b hb j => ⟨rfl, rfl, z2_ne hb⟩) hH.2.2.2.2.1 hH.2.2.2.2.2.1 (fun j _ => zFv_up_r ht j) (fun H' locs' hH' hS' => ?_)
      exact (hK _ _ _ _ hF).2 p l e s m args below meth cd D ρ A n0 s0 H' locs' lsA hx ⟨hL, zok2 hst, hls, hH', hS', h1, h2⟩
    · cases hF
  · cases hF
/-! arrays -/
theorem zAv_i {ρ : Nat → Nat} {m : zM} {a t k : Nat} (h : ¬ t = 10) (h' : ¬ 11 ≤ t) : zAv ρ m a t k = .int (Int32.ofInt (zi m a k)) := by unfold zAv; rw [if_neg h, if_neg h']
theorem zAv_l {ρ : Nat → Nat} {m : zM} {a k : Nat} : zAv ρ m a 10 k = .long (Int64.ofInt (zl m a k)) := rfl
theorem zAv_r {ρ : Nat → Nat} {m : zM} {a t k : Nat} (h' : 11 ≤ t) : zAv ρ m a t k = va_rf ((zr m a k).map ρ) := by unfold zAv; rw [if_neg (by omega), if_pos h']
theorem zArr {D : zD} {s : State} (hK : zKs D s) {t : Nat} {ty : FieldType} (h : zTy t = some ty) (N : Nat) (f : Nat → Value) : s.isArrayOf (arrV (D.2.2.1 t) N f) ty := (hK.2.1 t ty h).1 N f
theorem zix {mm : zM} {a t : Nat} {x : Int} (h : zA mm a t x = true) {D : zD} {ρ : Nat → Nat} {A : Nat → Prop} {H : Heap} (hH : zH D ρ A mm H) : r32 x ∧ x.toNat < (zk mm a).2 := by
  obtain ⟨h1, h2, h3, h4⟩ := zA_of h
  have h7 := hH.2.2.2.2.2.2.1 a
  unfold r32
  omega
theorem zArr_in {mm : zM} {a t : Nat} {x : Int} (h : zA mm a t x = true) {D : zD} {ρ : Nat → Nat} {A : Nat → Prop} {H : Heap} (hH : zH D ρ A mm H) (f : Nat → Value) : ¬ (Int32.ofInt x < 0 ∨ (arrV (D.2.2.1 t) (zk mm a).2 f).slots.size ≤ (Int32.ofInt x).toNatClampNeg) := by
  rw [arrV_size]
  exact zin (zix h hH).1 (zA_of h).2.2.1 (zA_of h).2.2.2
theorem zArr_v {mm : zM} {a t : Nat} {x : Int} (h : zA mm a t x = true) {D : zD} {ρ : Nat → Nat} {A : Nat → Prop} {H : Heap} (hH : zH D ρ A mm H) (f : Nat → Value) : (arrV (D.2.2.1 t) (zk mm a).2 f).slots[(Int32.ofInt x).toNatClampNeg]? = some (f x.toNat) := by
  rw [zcn (zix h hH).1 (zA_of h).2.2.1]
  exact arrV_read _ f (zix h hH).2

theorem s_iald : zSi P E pc .iaload 1 z_iald := by
  intro lv C J K hd hC hJ hK ls st mm out hF
  unfold z_iald at hF
  split at hF
  · rename_i x a rest
    split at hF
    · rename_i hT
      obtain ⟨g1, g2, g3, g4⟩ := zA_of hT
      refine ⟨(hK _ _ _ _ hF).1, fun p l e s m args below meth cd D ρ A n0 s0 H locs lsA hx hp => ?_⟩
      obtain ⟨hL, hst, hls, hH, hS, h1, h2⟩ := hp
      refine W.iald (v := zAv ρ mm a 9 x.toNat) hx.1 hx.2.1 (zAt_arr (hH.1 a g1) g2 (by decide)) (zArr hx.2.2.2.2.2.2.2.2 rfl _ _) (fun q => by cases q) (zArr_in hT hH _) (zArr_v hT hH _) rfl rfl hd ?_
      rw [zAv_i (by decide) (by decide)]
      exact (hK _ _ _ _ hF).2 p l e s m args below meth cd D ρ A n0 s0 H locs lsA hx ⟨hL, zok_c (hH.2.2.2.2.1 _ _) (zok2 hst), hls, hH, hS, h1, h2⟩
    · cases hF
  · cases hF
theorem s_bald : zSi P E pc .baload 1 z_bald := by
  intro lv C J K hd hC hJ hK ls st mm out hF
  unfold z_bald at hF
  split at hF
  · rename_i x a rest
    split at hF
    · rename_i hT
      obtain ⟨g1, g2, g3, g4⟩ := zA_of hT
      refine ⟨(hK _ _ _ _ hF).1, fun p l e s m args below meth cd D ρ A n0 s0 H locs lsA hx hp => ?_⟩
      obtain ⟨hL, hst, hls, hH, hS, h1, h2⟩ := hp
      refine W.bald (v := zAv ρ mm a 8 x.toNat) hx.1 hx.2.1 (zAt_arr (hH.1 a g1) g2 (by decide)) (zArr hx.2.2.2.2.2.2.2.2 rfl _ _) (fun q => by cases q) (zArr_in hT hH _) (zArr_v hT hH _) rfl rfl hd ?_
      rw [zAv_i (by decide) (by decide)]
      exact (hK _ _ _ _ hF).2 p l e s m args below meth cd D ρ A n0 s0 H locs lsA hx ⟨hL, zok_c (hH.2.2.2.2.1 _ _) (zok2 hst), hls, hH, hS, h1, h2⟩
    · cases hF
  · cases hF
theorem s_lald : zSi P E pc .laload 1 z_lald := by
  intro lv C J K hd hC hJ hK ls st mm out hF
  unfold z_lald at hF
  split at hF
  · rename_i x a rest
    split at hF
    · rename_i hT
      obtain ⟨g1, g2, g3, g4⟩ := zA_of hT
      refine ⟨(hK _ _ _ _ hF).1, fun p l e s m args below meth cd D ρ A n0 s0 H locs lsA hx hp => ?_⟩
      obtain ⟨hL, hst, hls, hH, hS, h1, h2⟩ := hp
      refine W.lald (v := zAv ρ mm a 10 x.toNat) hx.1 hx.2.1 (zAt_arr (hH.1 a g1) g2 (by decide)) (zArr hx.2.2.2.2.2.2.2.2 rfl _ _) (fun q => by cases q) (zArr_in hT hH _) (zArr_v hT hH _) rfl rfl hd ?_
      rw [zAv_l]
      exact (hK _ _ _ _ hF).2 p l e s m args below meth cd D ρ A n0 s0 H locs lsA hx ⟨hL, zok_c (hH.2.2.2.2.2.1 _ _) (zok2 hst), hls, hH, hS, h1, h2⟩
    · cases hF
  · cases hF
theorem s_aald {t : Nat} {ty : FieldType} (ht : zTy t = some ty) (hty : ty.isReference = true) (h8 : 11 ≤ t) : zSi P E pc .aaload 1 (z_aald t) := by
  intro lv C J K hd hC hJ hK ls st mm out hF
  unfold z_aald at hF
  split at hF
  · rename_i x a rest
    split at hF
    · rename_i hT
      obtain ⟨g1, g2, g3, g4⟩ := zA_of hT
      cases hr : zr mm a x.toNat with
      | none => rw [hr] at hF; cases hF
      | some b =>
        rw [hr] at hF
        have hF : K ls (.inr (.inr (some b)) :: rest) mm = some out := hF
        refine ⟨(hK _ _ _ _ hF).1, fun p l e s m args below meth cd D ρ A n0 s0 H locs lsA hx hp => ?_⟩
        obtain ⟨hL, hst, hls, hH, hS, h1, h2⟩ := hp
        refine W.aald (v := zAv ρ mm a t x.toNat) (ty := ty) hx.1 hx.2.1 (zAt_arr (hH.1 a g1) g2 (by omega)) (zArr hx.2.2.2.2.2.2.2.2 ht _ _) hty (fun q => by cases q) (zArr_in hT hH _) (zArr_v hT hH _) rfl rfl hd ?_
        rw [zAv_r h8, hr]
        exact (hK _ _ _ _ hF).2 p l e s m args below meth cd D ρ A n0 s0 H locs lsA hx ⟨hL, zok_c trivial (zok2 hst), hls, hH, hS, h1, h2⟩
    · cases hF
  · cases hF
theorem zok3 {u v w : zV} {l : List zV} (hl : ∀ x ∈ u :: v :: w :: l, zok x) : ∀ x ∈ l, zok x := zok_t (zok_t (zok_t hl))
/-- a store into an array: m' tells it so -/
theorem zarr_st {D : zD} {ρ : Nat → Nat} {A : Nat → Prop} {mm m' : zM} {a t : Nat} {x : Int} {H H' : Heap} {s : State} {locs : List Loc} {v : Value} {ty : FieldType} (hT : zA mm a t x = true) (h8 : ¬ t < 8) (hty : zTy t = some ty) (hH : zH D ρ A mm H) (hS : va_S A s.heap H locs)
    (e : H'[ρ a]? = some ((arrV (D.2.2.1 t) (zk mm a).2 (zAv ρ mm a t)).setSlot (Int32.ofInt x).toNatClampNeg v)) (z : H'.size = H.size) (oq : ∀ q, q ≠ ρ a → H'[q]? = H[q]?)
    (hm : zn m' = zn mm) (hkd : ∀ b, zk m' b = zk mm b) (hs : ∀ b, b ≠ a → ∀ j, zi m' b j = zi mm b j ∧ zl m' b j = zl mm b j ∧ zr m' b j = zr mm b j) (hri : ∀ a k, r32 (zi m' a k)) (hrl : ∀ a k, r64 (zl m' a k))
    (hv : zAv ρ m' a t = updV (zAv ρ mm a t) x.toNat v) : zH D ρ A m' H' ∧ va_S A s.heap H' (locs ++ [⟨ρ a, (Int32.ofInt x).toNatClampNeg⟩]) := by
  obtain ⟨g1, g2, g3, g4⟩ := zA_of hT
  refine ⟨zH_upd hH hm hkd g1 hs hri hrl z oq (zAt_mkarr (by rw [hkd]; exact g2) h8 hty ?_), hS.put z oq (hH.2.2.1 a g1)⟩
  rw [e, arrV_store, zcn (zix hT hH).1 g3, hkd, hv]
theorem zAv_up_i {ρ : Nat → Nat} {m : zM} {a t k : Nat} {x : Int} (h : ¬ t = 10) (h' : ¬ 11 ≤ t) : zAv ρ (zwi m a k x) a t = updV (zAv ρ m a t) k (.int (Int32.ofInt x)) := by
  funext j
  unfold updV
  rw [zAv_i h h', zAv_i h h']
  show Value.int (Int32.ofInt (z2 _ _ _ _ _ _)) = _
  rw [z2_at]
  split <;> rfl
theorem zAv_up_l {ρ : Nat → Nat} {m : zM} {a k : Nat} {x : Int} : zAv ρ (zwl m a k x) a 10 = updV (zAv ρ m a 10) k (.long (Int64.ofInt x)) := by
  funext j
  unfold updV
  rw [zAv_l, zAv_l]
  show Value.long (Int64.ofInt (z2 _ _ _ _ _ _)) = _
  rw [z2_at]
  split <;> rfl
theorem zAv_up_r {ρ : Nat → Nat} {m : zM} {a t k b : Nat} (h : 11 ≤ t) : zAv ρ (zwr m a k (some b)) a t = updV (zAv ρ m a t) k (.ref (ρ b)) := by
  funext j
  unfold updV
  rw [zAv_r h, zAv_r h]
  show va_rf (Option.map ρ (z2 _ _ _ _ _ _)) = _
  rw [z2_at]
  split <;> rfl

theorem s_iast : zSi P E pc .iastore 1 z_iast := by
  intro lv C J K hd hC hJ hK ls st mm out hF
  unfold z_iast at hF
  split at hF
  · rename_i v x a rest
    split at hF
    · rename_i hT
      obtain ⟨g1, g2, g3, g4⟩ := zA_of hT
      refine ⟨(hK _ _ _ _ hF).1, fun p l e s m args below meth cd D ρ A n0 s0 H locs lsA hx hp => ?_⟩
      obtain ⟨hL, hst, hls, hH, hS, h1, h2⟩ := hp
      refine W.iast hx.1 hx.2.1 (zAt_arr (hH.1 a g1) g2 (by decide)) (zArr hx.2.2.2.2.2.2.2.2 rfl _ _) (fun q => by cases q) (zArr_in hT hH _) rfl rfl hd (fun H' e1 e2 e3 => ?_)
      obtain ⟨hH', hS'⟩ := zarr_st (m' := zwi mm a x.toNat v) hT (by decide) rfl hH hS e1 e2 e3 rfl (fun _ => rfl) (fun b hb j => ⟨z2_ne hb, rfl, rfl⟩) (z2_ok hH.2.2.2.2.1 (zok_h hst)) hH.2.2.2.2.2.1 (zAv_up_i (by decide) (by decide))
      exact (hK _ _ _ _ hF).2 p l e s m args below meth cd D ρ A n0 s0 H' _ lsA hx ⟨hL, zok3 hst, hls, hH', hS', h1, h2⟩
    · cases hF
  · cases hF
theorem s_last : zSi P E pc .lastore 1 z_last := by
  intro lv C J K hd hC hJ hK ls st mm out hF
  unfold z_last at hF
  split at hF
  · rename_i v x a rest
    split at hF
    · rename_i hT
      obtain ⟨g1, g2, g3, g4⟩ := zA_of hT
      refine ⟨(hK _ _ _ _ hF).1, fun p l e s m args below meth cd D ρ A n0 s0 H locs lsA hx hp => ?_⟩
      obtain ⟨hL, hst, hls, hH, hS, h1, h2⟩ := hp
      refine W.last hx.1 hx.2.1 (zAt_arr (hH.1 a g1) g2 (by decide)) (zArr hx.2.2.2.2.2.2.2.2 rfl _ _) (fun q => by cases q) (zArr_in hT hH _) rfl rfl hd (fun H' e1 e2 e3 => ?_)
      obtain ⟨hH', hS'⟩ := zarr_st (m' := zwl mm a x.toNat v) hT (by decide) rfl hH hS e1 e2 e3 rfl (fun _ => rfl) (fun b hb j => ⟨rfl, z2_ne hb, rfl⟩) hH.2.2.2.2.1 (z2_ok hH.2.2.2.2.2.1 (zok_h hst)) (zAv_up_l)
      exact (hK _ _ _ _ hF).2 p l e s m args below meth cd D ρ A n0 s0 H' _ lsA hx ⟨hL, zok3 hst, hls, hH', hS', h1, h2⟩
    · cases hF
  · cases hF
theorem s_bast : zSi P E pc .bastore 1 z_bast := by
  intro lv C J K hd hC hJ hK ls st mm out hF
  unfold z_bast at hF
  split at hF
  · rename_i v x a rest
    split at hF
    · rename_i hT
      obtain ⟨g1, g2, g3, g4⟩ := zA_of hT
      refine ⟨(hK _ _ _ _ hF).1, fun p l e s m args below meth cd D ρ A n0 s0 H locs lsA hx hp => ?_⟩
      obtain ⟨hL, hst, hls, hH, hS, h1, h2⟩ := hp
      have hv : r32 v := zok_h hst
      have hb : r32 (Int.bmod v 256) := zbm (by decide) (by decide)
      refine W.bast hx.1 hx.2.1 (zAt_arr (hH.1 a g1) g2 (by decide)) (zArr hx.2.2.2.2.2.2.2.2 rfl _ _) (fun q => by cases q) (zArr_in hT hH _) rfl rfl hd (fun H' e1 e2 e3 => ?_)
      have en : narrow .byte (.int (Int32.ofInt v)) = .int (Int32.ofInt (Int.bmod v 256)) := by
        show Value.int _ = _
        congr 1
        exact Int32.toInt_inj.1 (by rw [Int8.toInt_toInt32, Int32.toInt_toInt8, zT32 hv, zT32 hb])
      rw [en] at e1
      obtain ⟨hH', hS'⟩ := zarr_st (m' := zwi mm a x.toNat (Int.bmod v 256)) hT (by decide) rfl hH hS e1 e2 e3 rfl (fun _ => rfl) (fun b hb j => ⟨z2_ne hb, rfl, rfl⟩) (z2_ok hH.2.2.2.2.1 hb) hH.2.2.2.2.2.1 (zAv_up_i (by decide) (by decide))
      exact (hK _ _ _ _ hF).2 p l e s m args below meth cd D ρ A n0 s0 H' _ lsA hx ⟨hL, zok3 hst, hls, hH', hS', h1, h2⟩
    · cases hF
  · cases hF
theorem s_aast {t c : Nat} {r : vw_C} (ht : zTy t = some (.object r.1)) (hc : zCl[c]? = some r) (h8 : 11 ≤ t) : zSi P E pc .aastore 1 (z_aast t c) := by
  intro lv C J K hd hC hJ hK ls st mm out hF
  unfold z_aast at hF
  split at hF
  · rename_i v x a rest
    split at hF
    · rename_i hT0
      simp only [Bool.and_eq_true] at hT0
      obtain ⟨hT, hTv⟩ := hT0
      obtain ⟨g1, g2, g3, g4⟩ := zA_of hT
      refine ⟨(hK _ _ _ _ hF).1, fun p l e s m args below meth cd D ρ A n0 s0 H locs lsA hx hp => ?_⟩
      obtain ⟨hL, hst, hls, hH, hS, h1, h2⟩ := hp
      have hKs := hx.2.2.2.2.2.2.2.2
      obtain ⟨cellV, q1, q2, q3, -⟩ := zAt_obj (hH.1 v (zT_lt hTv).1) (zT_lt hTv).2 hc
      have hcls := (hKs.1 c r hc).2
      obtain ⟨kA, comp, k1, k2, k3, -⟩ := (hKs.2.1 t _ ht).2
      have hcomp : comp = D.1 c := Option.some.inj (k3.symm.trans hcls.1)
      subst hcomp
      obtain ⟨kC, hkC, -⟩ := id hcls.2
      have hin := zArr_in hT hH (zAv ρ mm a t)
      refine W.aast hx.1 hx.2.1 (zAt_arr (hH.1 a g1) g2 (by omega)) (fun q h => by cases h) (fun h => by cases h) k1 k2 rfl hkC ⟨fun z => hin (Or.inl z), Nat.lt_of_not_le (fun z => hin (Or.inr z))⟩ q1 (fun q h => by rw [q3] at h; cases h) (by rw [q2]; exact hkC) (by rw [q2]; exact va_assign hcls) rfl rfl hd (fun H' e1 e2 e3 => ?_)
      obtain ⟨hH', hS'⟩ := zarr_st (m' := zwr mm a x.toNat (some v)) hT (by omega) ht hH hS e1 e2 e3 rfl (fun _ => rfl) (fun b hb j => ⟨rfl, rfl, z2_ne hb⟩) hH.2.2.2.2.1 hH.2.2.2.2.2.1 (zAv_up_r h8)
      exact (hK _ _ _ _ hF).2 p l e s m args below meth cd D ρ A n0 s0 H' _ lsA hx ⟨hL, zok3 hst, hls, hH', hS', h1, h2⟩
    · cases hF
  · cases hF
theorem zY_of {m : zM} {a : Nat} (h : zY m a = true) : a < zn m ∧ ¬ (zk m a).1 < 8 := by
  unfold zY at h
  simp only [Bool.and_eq_true, decide_eq_true_eq] at h
  exact ⟨h.1, by omega⟩
theorem s_alen : zSi P E pc .arraylength 1 z_alen := by
  intro lv C J K hd hC hJ hK ls st mm out hF
  unfold z_alen at hF
  split at hF
  · rename_i a rest
    split at hF
    · rename_i hT
      obtain ⟨g1, g2⟩ := zY_of hT
      refine ⟨(hK _ _ _ _ hF).1, fun p l e s m args below meth cd D ρ A n0 s0 H locs lsA hx hp => ?_⟩
      obtain ⟨hL, hst, hls, hH, hS, h1, h2⟩ := hp
      obtain ⟨ty, hty⟩ := zAt_ty (hH.1 a g1) rfl g2
      have h7 := hH.2.2.2.2.2.2.1 a
      refine W.alen (n := Int32.ofInt ((zk mm a).2 : Int)) hx.1 hx.2.1 (zAt_arr (hH.1 a g1) rfl g2) (zArr hx.2.2.2.2.2.2.2.2 hty _ _) (by rw [arrV_size]; rfl) rfl rfl hd ?_
      exact (hK _ _ _ _ hF).2 p l e s m args below meth cd D ρ A n0 s0 H locs lsA hx ⟨hL, zok_c (show r32 _ by unfold r32; omega) (zok_t hst), hls, hH, hS, h1, h2⟩
    · cases hF
  · cases hF
end ZP9
