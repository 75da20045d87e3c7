/-! fields and arrays -/
def zCok (c : Nat) (r : vw_C) : Prop := (∀ w ∈ u_ws r.1 r.2.1 r.2.2, w ∈ zAll) ∧ (∀ k, k < r.2.2 → parseFieldDescriptor (r.2.1 k).2.2.1 = some (zFt c k)) ∧ (∀ a, a < r.2.2 → ∀ b, b < r.2.2 → a ≠ b → (r.2.1 a).2.1 ≠ (r.2.1 b).2.1)
theorem zin_of {ws : List Cond} (h1 : ∀ w ∈ ws, w ∈ lw_tbl) (h2 : ws.all zGood = true) : ∀ w ∈ ws, w ∈ zAll := fun w hw => List.mem_filter.mpr ⟨h1 w hw, List.all_eq_true.mp h2 w hw⟩
theorem zin0 : ∀ w ∈ u_ws RX0 TX0 12, w ∈ zAll := zin_of (by decide +kernel) (by decide +kernel)
theorem zin1 : ∀ w ∈ u_ws RX1 TX1 8, w ∈ zAll := zin_of (by decide +kernel) (by decide +kernel)
theorem zin2 : ∀ w ∈ u_ws RX2 TX2 4, w ∈ zAll := zin_of (by decide +kernel) (by decide +kernel)
theorem zin3 : ∀ w ∈ u_ws RX6 TX6 12, w ∈ zAll := zin_of (by decide +kernel) (by decide +kernel)
theorem zin4 : ∀ w ∈ u_ws RX7 TX7 4, w ∈ zAll := zin_of (by decide +kernel) (by decide +kernel)
theorem zin5 : ∀ w ∈ u_ws RX8 TX8 7, w ∈ zAll := zin_of (by decide +kernel) (by decide +kernel)
theorem zin6 : ∀ w ∈ u_ws RX10 TX10 17, w ∈ zAll := zin_of (by decide +kernel) (by decide +kernel)
theorem zin7 : ∀ w ∈ u_ws RX11 TX11 50, w ∈ zAll := zin_of (by decide +kernel) (by decide +kernel)
theorem zCok_all : ∀ (c : Nat) (r : vw_C), zCl[c]? = some r → zCok c r := by
  intro c r h
  match c, h with
  | 0, h => cases h; exact ⟨zin0, tyX0_ok, nmX0⟩
  | 1, h => cases h; exact ⟨zin1, tyX1_ok, nmX1⟩
  | 2, h => cases h; exact ⟨zin2, tyX2_ok, nmX2⟩
  | 3, h => cases h; exact ⟨zin3, tyX6_ok, nmX6⟩
  | 4, h => cases h; exact ⟨zin4, tyX7_ok, nmX7⟩
  | 5, h => cases h; exact ⟨zin5, tyX8_ok, nmX8⟩
  | 6, h => cases h; exact ⟨zin6, tyX10_ok, nmX10⟩
  | 7, h => cases h; exact ⟨zin7, tyX11_ok, nmX11⟩
  | c + 8, h => simp [zCl] at h
theorem zKs_va {D : zD} {s : State} (h : zKs D s) : va_K (D.1, D.2.1) zCl [] s := ⟨h.1, fun k q hk => by simp at hk⟩
theorem zT_lt {m : zM} {a t : Nat} (h : zT m a t = true) : a < zn m ∧ (zk m a).1 = t := by
  unfold zT at h
  simpa using h
theorem zA_of {m : zM} {a t : Nat} {x : Int} (h : zA m a t x = true) : a < zn m ∧ (zk m a).1 = t ∧ 0 ≤ x ∧ x < ((zk m a).2 : Int) := by
  unfold zA at h
  simp only [Bool.and_eq_true, decide_eq_true_eq] at h
  exact ⟨(zT_lt h.1).1, (zT_lt h.1).2, h.2.1, h.2.2⟩
theorem zAt_obj {D : zD} {ρ : Nat → Nat} {m : zM} {a c : Nat} {H : Heap} {r : vw_C} (h : zAt D ρ m a H) (hk : (zk m a).1 = c) (hc : zCl[c]? = some r) : t_OB (ρ a) (D.1 c) r.2.2 (D.2.1 c) H (zFv ρ m a c) := by
  have hlt : c < 8 := by
    have := (List.getElem?_eq_some_iff.mp hc).1
    simpa [zCl] using this
  unfold zAt at h
  rw [hk, if_pos hlt] at h
  obtain ⟨r', h1, h2⟩ := h
  cases h1.symm.trans hc
  exact h2
theorem zAt_arr {D : zD} {ρ : Nat → Nat} {m : zM} {a t : Nat} {H : Heap} (h : zAt D ρ m a H) (hk : (zk m a).1 = t) (ht : ¬ t < 8) : H[ρ a]? = some (arrV (D.2.2.1 t) (zk m a).2 (zAv ρ m a t)) := by
  unfold zAt at h
  rw [hk, if_neg ht] at h
  exact h.2
theorem zAt_mkobj {D : zD} {ρ : Nat → Nat} {m : zM} {a c : Nat} {H : Heap} {r : vw_C} (hk : (zk m a).1 = c) (hc : zCl[c]? = some r) (h : t_OB (ρ a) (D.1 c) r.2.2 (D.2.1 c) H (zFv ρ m a c)) : zAt D ρ m a H := by
  have hlt : c < 8 := by
    have := (List.getElem?_eq_some_iff.mp hc).1
    simpa [zCl] using this
  unfold zAt
  rw [hk, if_pos hlt]
  exact ⟨r, hc, h⟩
theorem zAt_mkarr {D : zD} {ρ : Nat → Nat} {m : zM} {a t : Nat} {H : Heap} {ty : FieldType} (hk : (zk m a).1 = t) (ht : ¬ t < 8) (hty : zTy t = some ty) (h : H[ρ a]? = some (arrV (D.2.2.1 t) (zk m a).2 (zAv ρ m a t))) : zAt D ρ m a H := by
  unfold zAt
  rw [hk, if_neg ht]
  exact ⟨⟨ty, hty⟩, h⟩
theorem zAt_ty {D : zD} {ρ : Nat → Nat} {m : zM} {a t : Nat} {H : Heap} (h : zAt D ρ m a H) (hk : (zk m a).1 = t) (ht : ¬ t < 8) : ∃ ty, zTy t = some ty := by
  unfold zAt at h
  rw [hk, if_neg ht] at h
  exact h.1
theorem zAt_congr {D : zD} {ρ : Nat → Nat} {m m' : zM} {a : Nat} {H H' : Heap} (h : zAt D ρ m a H) (hk : zk m' a = zk m a) (hi : ∀ j, zi m' a j = zi m a j) (hl : ∀ j, zl m' a j = zl m a j) (hr : ∀ j, zr m' a j = zr m a j) (hq : H'[ρ a]? = H[ρ a]?) : zAt D ρ m' a H' := by
  have e1 : ∀ c, zFv ρ m' a c = zFv ρ m a c := fun c => by
    funext k
    unfold zFv
    rw [hi, hl, hr]
  have e2 : ∀ t, zAv ρ m' a t = zAv ρ m a t := fun t => by
    funext k
    unfold zAv
    rw [hi, hl, hr]
  unfold zAt at h ⊢
  rw [hk]
  split
  · rename_i hlt
    rw [if_pos hlt] at h
    obtain ⟨r, h1, h2⟩ := h
    exact ⟨r, h1, by rw [e1]; exact h2.kept hq⟩
  · rename_i hlt
    rw [if_neg hlt] at h
    exact ⟨h.1, by rw [e2, hq]; exact h.2⟩
/-- one cell written -/
theorem zH_upd {D : zD} {ρ : Nat → Nat} {A : Nat → Prop} {m m' : zM} {a : Nat} {H H' : Heap} (h : zH D ρ A m H) (hn : zn m' = zn m) (hk : ∀ b, zk m' b = zk m b) (ha : a < zn m)
    (hs : ∀ b, b ≠ a → ∀ j, zi m' b j = zi m b j ∧ zl m' b j = zl m b j ∧ zr m' b j = zr m b j) (hri : ∀ a k, r32 (zi m' a k)) (hrl : ∀ a k, r64 (zl m' a k))
    (hz : H'.size = H.size) (oq : ∀ q, q ≠ ρ a → H'[q]? = H[q]?) (hat : zAt D ρ m' a H') : zH D ρ A m' H' := by
  obtain ⟨h1, h2, h3, h4, h5, h6, h7, h8, h9, h10, h11⟩ := h
  refine ⟨fun b hb => ?_, fun b c hb hc => ?_, fun b hb => h3 b (by rw [← hn]; exact hb), fun j hj => ?_, hri, hrl, fun b => by rw [hk]; exact h7 b, by rw [hn]; exact h8, h9, by rw [hz]; exact h10, fun q hq hA => by rw [oq q (fun e => hA (by rw [e]; exact h9.1 _ (h3 a ha)))]; exact h11 q hq hA⟩
  · by_cases hba : b = a
    · subst hba; exact hat
    · rw [hn] at hb
      exact zAt_congr (h1 b hb) (hk b) (fun j => (hs b hba j).1) (fun j => (hs b hba j).2.1) (fun j => (hs b hba j).2.2) (oq _ (fun e => hba (h2 b a hb ha e)))
  · rw [hn] at hb hc
    exact h2 b c hb hc
  · rw [hn, hz]
    rw [hn] at hj
    exact h4 j hj
section ZP8
variable {P : Nat → zE} {E : zE} {pc : Nat}
/-- the field k of class c, found -/
theorem zfld {D : zD} {s : State} (hK : zKs D s) {c k : Nat} {r : vw_C} (hc : zCl[c]? = some r) (hk : k < r.2.2) : ∃ (cf : Nat) (kf : Class) (fi : Nat) (f : Field), s.fieldFound? (r.2.1 k).1 (r.2.1 k).2.1 (r.2.1 k).2.2.1 = some (cf, kf, fi, f) ∧ f.slot = D.2.1 c k ∧ f.isStatic = false := by
  obtain ⟨hS, hfc, kC, hkC, hkind⟩ := hK.1 c _ hc
  obtain ⟨cf, kf, fi, f, hi, hsl⟩ := hS k hk
  exact ⟨cf, kf, fi, f, hi, hsl, (u_facts hfc hkC (u_lays (fun w hw => zKs_word (a := #[]) hK hw) (zCok_all c r hc).1 hk) hi).1⟩
theorem zap {D : zD} {s : State} (hK : zKs D s) {c : Nat} {C : String} {T : u_T} {N : Nat} (hc : zCl[c]? = some (C, T, N)) : ∀ x y, x < N → y < N → x ≠ y → D.2.1 c x ≠ D.2.1 c y :=
  va_apart (own := "") (args := #[]) (fun w hw => zKs_word hK hw) (zCok_all c _ hc).1 (zFt c) (zCok_all c _ hc).2.1 (zCok_all c _ hc).2.2 (zKs_va hK) hc
/-- a word that lets a field be read or written -/
def zLk (own : String) (i : Nat) (C n d : String) : Prop := Cond.fieldLink own i C n d ∈ zAll ∨ ∃ h, Cond.fieldLinkNest own i C n d h ∈ zAll
theorem zget {i c k : Nat} {r : vw_C} (hc : zCl[c]? = some r) (hk : k < r.2.2) (hw : zLk E.1.cls i (r.2.1 k).1 (r.2.1 k).2.1 (r.2.1 k).2.2.1) {a : Nat} {mm : zM} (hT : zT mm a c = true)
    {p : Program} {l : Launch} {e : Env} {R : Room} {s : State} {m : MethodId} {args : Array Value} {below : List Frame} {meth : Method} {cd : Code} {D : zD} {ρ : Nat → Nat} {A : Nat → Prop} {H : Heap} {locs : List Loc} {cells slots : Nat} {Q : State → Prop} {lsA : Array Slot} {rest : List Value}
    (hx : zCx E p s m meth cd D A) (hH : zH D ρ A mm H) (hd : decode E.2.1 pc = .ok (.getfield i, 3))
    (kk : W p l e R s m args below meth cd H locs cells slots Q (F0 m (pc + 3) lsA (zFv ρ mm a c k :: rest))) : W p l e R s m args below meth cd H locs cells slots Q (F0 m pc lsA (.ref (ρ a) :: rest)) := by
  have hK := hx.2.2.2.2.2.2.2.2
  obtain ⟨cf, kf, fi, f, hi, hsl, hst⟩ := zfld hK hc hk
  obtain ⟨cell, q1, q2, q3, q4⟩ := zAt_obj (hH.1 a (zT_lt hT).1) (zT_lt hT).2 hc
  have hv : cell.slots[f.slot]? = some (zFv ρ mm a c k) := by rw [hsl]; exact q4 k hk
  rcases hw with hw | ⟨h, hw⟩
  · exact W.getf hx.1 hx.2.1 hx.2.2.2.2.1 (zKs_word hK hw) hi hst q1 (by rw [q3]; exact fun h => by cases h) hv rfl rfl hd kk
  · exact va_Wgetf hx.1 hx.2.1 hx.2.2.2.2.1 (zKs_word hK hw) hi hst q1 (by rw [q3]; exact fun h => by cases h) hv rfl rfl hd kk
/-- a store: v comes to the field k of cell a; the memory m' tells it so -/
theorem zput {i c k : Nat} {C : String} {T : u_T} {N : Nat} (hc : zCl[c]? = some (C, T, N)) (hk : k < N) (hfin : (T k).2.2.2 = false ∨ ((T k).2.2.2 = true ∧ E.1.name = "<init>" ∧ (T k).1 = E.1.cls ∧ Cond.fieldLink E.1.cls i (T k).1 (T k).2.1 (T k).2.2.1 ∈ zAll)) (hw : zLk E.1.cls i (T k).1 (T k).2.1 (T k).2.2.1) {a : Nat} {mm m' : zM} (hT : zT mm a c = true)
    {v : Value} (hn : narrow (zFt c k) v = v) (hf : fits (zFt c k) v = true)
    {p : Program} {l : Launch} {e : Env} {R : Room} {s : State} {m : MethodId} {args : Array Value} {below : List Frame} {meth : Method} {cd : Code} {D : zD} {ρ : Nat → Nat} {A : Nat → Prop} {H : Heap} {locs : List Loc} {cells slots : Nat} {Q : State → Prop} {lsA : Array Slot} {rest : List Value}
    (hx : zCx E p s m meth cd D A) (hH : zH D ρ A mm H) (hS : va_S A s.heap H locs) (hd : decode E.2.1 pc = .ok (.putfield i, 3))
    (hm : zn m' = zn mm) (hkd : ∀ b, zk m' b = zk mm b) (hs : ∀ b, b ≠ a → ∀ j, zi m' b j = zi mm b j ∧ zl m' b j = zl mm b j ∧ zr m' b j = zr mm b j) (hri : ∀ a k, r32 (zi m' a k)) (hrl : ∀ a k, r64 (zl m' a k))
    (hv : ∀ j, j < N → zFv ρ m' a c j = updV (zFv ρ mm a c) k v j)
    (kk : ∀ H' locs', zH D ρ A m' H' → va_S A s.heap H' locs' → W p l e R s m args below meth cd H' locs' cells slots Q (F0 m (pc + 3) lsA rest)) : W p l e R s m args below meth cd H locs cells slots Q (F0 m pc lsA (v :: .ref (ρ a) :: rest)) := by
  have hK := hx.2.2.2.2.2.2.2.2
  have hts : ∀ w ∈ zAll, w.before args s = true := fun w hw => zKs_word hK hw
  obtain ⟨hSl, hfc, kC, hkC, hkind⟩ := hK.1 c _ hc
  obtain ⟨cf, kf, fi, f, hi, hsl, hst⟩ := zfld hK hc hk
  obtain ⟨hl, ht⟩ := zT_lt hT
  obtain ⟨cell, q1, q2, q3, q4⟩ := zAt_obj (hH.1 a hl) ht hc
  have hlt : f.slot < cell.slots.size := by rw [hsl]; exact k2_hasslot (q4 k hk)
  have hty := (zCok_all c _ hc).2.1 k hk
  have key : ∀ H' : Heap, H'[ρ a]? = some (cell.setSlot f.slot v) → H'.size = H.size → (∀ q, q ≠ ρ a → H'[q]? = H[q]?) → W p l e R s m args below meth cd H' (locs ++ [⟨ρ a, f.slot⟩]) cells slots Q (F0 m (pc + 3) lsA rest) := by
    intro H' e1 e2 e3
    rw [hsl] at e1
    refine kk H' _ (zH_upd hH hm hkd hl hs hri hrl e2 e3 (zAt_mkobj (by rw [hkd]; exact ht) hc ?_)) (hS.put e2 e3 (hH.2.2.1 a hl))
    exact t_OB.to (V := updV (zFv ρ mm a c) k v) ⟨_, e1, q2, q3, t_set q4 (zap hK hc) hk v⟩ (fun j hj => (hv j hj).symm)
  have hlay := hts _ ((zCok_all c _ hc).1 _ (u_in_lay hk))
  unfold u_lay at hlay
  rcases hfin with hfin | ⟨hfin, hin, hdecl, hw1⟩
  · rw [if_neg (by rw [hfin]; decide)] at hlay
    have h6 := u_store hfc hkC hkind hlay hi hty hn hf
    rcases hw with hw | ⟨h, hw⟩
    · exact W.putK hx.1 hx.2.1 ⟨hx.2.2.2.2.1, hts _ hw, ⟨cf, kf, fi, hi⟩, hst⟩ (by rw [q2]; exact h6) q1 q3 hlt rfl rfl hd key
    · exact va_WputK hx.1 hx.2.1 hx.2.2.2.2.1 (hts _ hw) hi hst (by rw [q2]; exact h6) q1 q3 hlt rfl rfl hd key
  · rw [if_pos hfin] at hlay
    have hcf : m.cls = cf := by
      obtain ⟨_, _, c', _, _, _, -, -, hf', -, -, -, hown2, -⟩ := Cond.laysFinal_spec hlay
      have e1 : c' = cf := by have := hi.symm.trans hf'; simp at this; exact this.1.symm
      have hown2 : s.vm.findClass (T k).1 = some c' := hown2
      rw [hdecl] at hown2
      rw [← e1]; exact Option.some.inj (hx.2.2.2.2.1.symm.trans hown2)
    have h6 := u_fits hfc hkC hkind (Or.inr hlay) hi hty hn hf
    exact W.putFinK hx.1 hx.2.1 hx.2.2.2.2.1 (hts _ hw1) hi hst hcf (hx.2.2.2.2.2.2.1.trans hin) (by rw [q2]; exact h6) q1 q3 hlt rfl rfl hd key
end ZP8
