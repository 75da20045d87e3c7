/-! The law from its entry. -/
section WHOLE
variable {p : Program} {l : Launch} {e : Env} {s : State} {m : MethodId} {below : List Frame} {meth : Method} {c : Code} {b L : Nat} {xs : Nat → Int32} {D : zD} {H : Heap} {locs : List Loc} {cells slots : Nat} {ls : Array Slot} {st : List Value} {pc k : Nat}
theorem z64 : r64 0 := ⟨by decide, by decide⟩
theorem z32 : r32 0 := ⟨by decide, by decide⟩
theorem qW_0 (ρ : Nat → Nat) : qW D ρ m00 0 H := ⟨fun a ha => absurd ha (Nat.not_lt_zero a), fun a b ha => absurd ha (Nat.not_lt_zero a), fun a ha => absurd ha (Nat.not_lt_zero a), fun a k => z32, fun a k => z64, fun a => Nat.zero_lt_succ _⟩
theorem lw_new {idx cI : Nat} {r : vw_C} (hX : lwX p s m meth c b L xs D) (hc : zCl[cI]? = some r) (w1 : Cond.classLink R_law idx r.1 ∈ zAll) (w2 : Cond.instantiable r.1 r.2.2 ∈ zAll) (w3 : Cond.initialized r.1 ∈ zAll) (hd : decode code pc = .ok (.new idx, 3)) (hS : va_S (qA0 s) s.heap H locs) (hcap : cells + 1 ≤ 600000 ∧ slots + r.2.2 ≤ 7302250)
    (kk : ∀ H1 : Heap, (∀ q : Nat, q < H.size → H1[q]? = H[q]?) → qW D (fun a => H.size + a) (zpush m00 cI 0 r.2.2) 1 H1 → va_S (qA0 s) s.heap H1 locs → lwG p l e s m below meth c b H1 locs (cells + 1) (slots + r.2.2) (F0 m (pc + 3) ls (.ref H.size :: st))) :
    lwG p l e s m below meth c b H locs cells slots (F0 m pc ls st) := by
  obtain ⟨⟨hx, hb, -, hml, hown, hts, hXb, hbl, -, -⟩, hKs, hD1, hD2, hL⟩ := hX
  have hfc := (hKs.1 cI r hc).2.1
  refine W.newcK hx hb hown (zKs_word hKs w1) (zKs_word hKs w2) (zKs_word hKs w3) rfl hd hcap.1 hcap.2 hfc rfl (fun H' kC hkC e1 z1 o1 => ?_)
  have hob := u_born (N := r.2.2) (zFt cI) (fun w hw => zKs_word (a := #[]) hKs hw) (zCok_all cI r hc).1 (hKs.1 cI r hc) hkC e1 (zCok_all cI r hc).2.1
  refine kk H' o1 ⟨fun a ha => ?_, fun a b ha hb _ => by omega, fun a ha => ?_, fun a k => ?_, fun a k => ?_, fun a => ?_⟩ ⟨Nat.le_trans hS.1 (by omega), fun x q1 q2 => (o1 x (Nat.lt_of_lt_of_le q1 hS.1)).trans (hS.2.1 x q1 q2), hS.2.2⟩
  · have e0 : a = 0 := by omega
    subst e0
    exact zAt_mkobj (c := cI) (congrArg Prod.fst (zpush_k m00 cI 0 r.2.2)) hc (hob.to (fun k hk => zFv_new (m := m00) (zKind_all cI r hc k hk)))
  · rw [hD2]
    exact Nat.le_trans hS.1 (Nat.le_add_right _ _)
  · show r32 (if a = 0 then 0 else 0)
    rw [ite_self]; exact z32
  · show r64 (if a = 0 then 0 else 0)
    rw [ite_self]; exact z64
  · show (if a = 0 then (cI, 0) else (0, 0)).2 < 2147483648
    split <;> exact Nat.zero_lt_succ _
/-- a constructor, over its own new world -/
theorem lw_ini {idx N N2 : Nat} {mm m2 m' : zM} {ρ ρ2 : Nat → Nat} (hX : lwX p s m meth c b L xs D) (hwc : zWc (zP k)) (hret : (zP k).2.2.2.1 = none) (hnm : (zP k).1.name = "<init>") (hlink : Cond.methodLink R_law idx (zP k).1 ∈ zAll) (hin : Cond.instanceMethod (zP k).1 ∈ zAll) (hsg : (parseMethodDescriptor (zP k).1.desc).map (fun d => d.parameters.length) = some 0) (hmu : zmu (zP k) 0 ≤ 1000)
    (hd : decode code pc = .ok (.invokespecial idx, 3)) (hl : ls.size = 4) (hW : qW D ρ mm N H) (hcd : qCd mm N) (hN : zn mm = N) (hNS : 0 < N ∧ N < 1000) (hF : zF zP k 0 [.inr (.inr (some 0))] mm = some (none, m')) (hst : (st.map fun v => v.category).sum ≤ 8)
    (hW2 : qW D ρ2 m2 N2 H) (hdis : ∀ a b, a < N → b < N2 → ρ a ≠ ρ2 b) (hS : va_S (qA0 s) s.heap H locs) (hcap : cells + (zn m' - N) ≤ 600000 ∧ slots + (zs m' - zs mm) ≤ 7302250)
    (kk : ∀ (H1 : Heap) (locs1 : List Loc) (ρ' : Nat → Nat), (∀ a, a < N → ρ' a = ρ a) → qW D ρ' m' (zn m') H1 → (∀ a b, a < zn m' → b < N2 → ρ' a ≠ ρ2 b) → qW D ρ2 m2 N2 H1 → va_S (qA0 s) s.heap H1 locs1 → lwG p l e s m below meth c b H1 locs1 (cells + (zn m' - N)) (slots + (zs m' - zs mm)) (F0 m (pc + 3) ls st)) :
    lwG p l e s m below meth c b H locs cells slots (F0 m pc ls (.ref (ρ 0) :: st)) := by
  subst hN
  obtain ⟨⟨hx, hb, -, hml, hown, hts, hXb, hbl, -, -⟩, hKs, hD1, hD2, hL⟩ := hX
  have h0 : D.2.2.2.1.size ≤ H.size := by rw [hD1]; exact hS.1
  have hAA : ∀ q : Nat, D.2.2.2.1.size ≤ q → D.2.2.2.2 q := fun q hq => by rw [hD2]; rw [hD1] at hq; exact hq
  have hk0 : ∀ q : Nat, q < D.2.2.2.1.size → ¬ D.2.2.2.2 q → H[q]? = D.2.2.2.1[q]? := fun q h1 h2 => by rw [hD1] at h1 ⊢; rw [hD2] at h2; exact hS.2.1 q h1 h2
  have hH := hW.toH hcd rfl (Nat.lt_trans hNS.2 (by decide)) h0 hAA hk0
  have hA0 : ∀ q, qA ρ (zn mm) H.size q → qA0 s q := fun q hq => by
    rcases hq with ⟨a, ha, e⟩ | hq
    · have := hW.2.2.1 a ha
      rw [hD2, e] at this; exact this
    · exact Nat.le_trans hS.1 hq
  have hokA : ∀ w ∈ ([.inr (.inr (some 0))] : List zV), zok w := fun w hw => by
    rw [List.mem_singleton.mp hw]; exact trivial
  obtain ⟨hG, hMet⟩ := zF_met zPok hF hokA
  have hMet := hMet l D (qRe D ρ (zn mm) H.size) (qA ρ (zn mm) H.size)
  have e0 : qRe D ρ (zn mm) H.size 0 = ρ 0 := qRe_lt hNS.1
  have hlt : ∀ a, a < zn mm → qRe D ρ (zn mm) H.size a = ρ a := fun a ha => qRe_lt ha
  generalize qRe D ρ (zn mm) H.size = ρ' at hH hMet e0 hlt
  have hargs : ∀ w ∈ [Cond.code (zP k).1 (zP k).2.1 (zP k).2.2.1 (zP k).2.2.2.1], ∀ (a' : Array Value) (U : State), s.WarmedH U.vm → w.before a' U = true := fun w hw a' U hWa => by
    rw [List.mem_singleton.mp hw]
    exact zAll_warm hwc.1 hWa (zKs_word hKs hwc.1 (a := #[]))
  have hcode := hwc.1
  rw [hret] at hMet hargs hcode
  have hpre : PreS s H (zPc D ρ' (qA ρ (zn mm) H.size) [.inr (.inr (some 0))] mm) [.ref (ρ' 0)] :=
    ⟨zPc_blind, fun U hU hWa => ⟨rfl, by rw [hU]; exact hH, zKs_warm hWa hKs, by rw [hU]; exact fun q hq => Or.inr hq⟩⟩
  have hrm : zmu (zP k) 0 + 1 ≤ 2048 ∧ 8 + ((zP k).2.2.1 + 11) + 60 * zmu (zP k) 0 ≤ 84000 := by
    have h41 := hwc.2.2.2
    omega
  have hsg' : ∀ sig, parseMethodDescriptor (zP k).1.desc = some sig → ([] : List Value).length = sig.parameters.length := fun sig q => by
    rw [q] at hsg
    exact (Option.some.inj hsg).symm
  have key : va_Run p l e room_1 s m #[Value.ref b] below meth c H locs cells slots (zn m' - zn mm) (zs m' - zs mm) (F0 m pc ls (.ref (ρ 0) :: st)) st (zQ D ρ' (qA ρ (zn mm) H.size) (none, m') (Value.ref (ρ' 0) :: []).toArray) (qA ρ (zn mm) H.size) :=
    va_runI (b := ρ' 0) (As := []) (own := R_law) (cc := code) (nL := 4) ⟨hx, hb, hml, hown, fun w hw => zKs_word (a := #[Value.ref b]) hKs hw⟩ hMet ⟨⟨rfl, rfl, hrm.1, hrm.2, hargs, List.mem_singleton.mpr rfl, zKs_word hKs hcode, zKs_word hKs hwc.2.1, hwc.2.2.1, hsg', zKs_word hKs hlink⟩, hnm, zKs_word hKs hin⟩ hpre rfl rfl hl (by rw [e0]; rfl) (lv_room hst) hd hcap
  refine lw_go key hS hA0 (fun H1 locs1 hv hH1 hz hq hS1 => ?_)
  have hA2 : ∀ a, a < N2 → ¬ qA ρ (zn mm) H.size (ρ2 a) := fun a ha w => by
    rcases w with ⟨a', ha', e⟩ | w
    · exact hdis a' a ha' ha e
    · exact absurd (hW2.lt ha) (Nat.not_lt.mpr w)
  refine kk H1 locs1 ρ' hlt (qW.of hH1 (Nat.le_refl _)) (fun a b' ha hb' q => hA2 b' hb' (by rw [← q]; exact hH1.2.2.1 a ha)) (hW2.keep (fun a ha => hq _ (hW2.lt ha) (hA2 a ha))) hS1
theorem qCd_1 {cI sz : Nat} : qCd (zpush m00 cI 0 sz) 1 := fun a ha => by
  have e0 : a = 0 := by omega
  subst e0
  have hr : ∀ k, zr (zpush m00 cI 0 sz) 0 k = none := fun k => zpush_r m00 cI 0 sz k
  exact ⟨fun _ r _ k _ _ b hb => (by rw [hr k] at hb; cases hb), fun _ k _ b hb => (by rw [hr k] at hb; cases hb)⟩
theorem lw_d0 : dcL 0 [(.new 7, 3), (.dup, 1), (.invokespecial 9, 3), (.astore_n 1, 1), (.new 10, 3), (.dup, 1), (.invokespecial 12, 3), (.astore_n 2, 1), (.iconst 0, 1), (.istore_n 3, 1)] = true := by decide +kernel
end WHOLE
/-- THE LAW, from its entry -/
theorem whole_start {p : Program} {e : Env} {s : State} {m : MethodId} {below : List Frame} {meth : Method} {c : Code} (l : Launch) (hflags : l.flags = flags0) {b L : Nat} {xs : Nat → Int32} (hL : L ≤ 3584) (C0 : lw_At p s m meth c b L xs) : W p l e room_1 s m #[Value.ref b] below meth c s.heap [] 0 0 (lw_Z below #[Value.ref b] s) (entryFrame m ([Value.ref b] : List Value).toArray 4) := by
  obtain ⟨D, hKs, hD1, hD2⟩ := lw_D C0
  have hX : lwX p s m meth c b L xs D := ⟨C0, hKs, hD1, hD2, hL⟩
  have hx := C0.1
  have hb := C0.2.1
  obtain ⟨d0, h⟩ := dcL_hd lw_d0
  obtain ⟨d3, h⟩ := dcL_hd h
  obtain ⟨d4, h⟩ := dcL_hd h
  obtain ⟨d7, h⟩ := dcL_hd h
  obtain ⟨d8, h⟩ := dcL_hd h
  obtain ⟨d11, h⟩ := dcL_hd h
  obtain ⟨d12, h⟩ := dcL_hd h
  obtain ⟨d15, h⟩ := dcL_hd h
  obtain ⟨d16, h⟩ := dcL_hd h
  obtain ⟨d17, -⟩ := dcL_hd h
  obtain ⟨mA, eA, nA, sA, rA⟩ := c_new1
  obtain ⟨mB, eB, nB, sB, rB⟩ := c_new2
  have s1 : zs (zpush m00 6 0 17) = 17 := rfl
  have s2 : zs (zpush m00 7 0 50) = 50 := rfl
  have hl := lv_entry ([.ref b]) (n := 4) (Nat.le_of_ble_eq_true rfl)
  rw [lg_entry_eq]
  generalize (lg_sl ([.ref b]) ++ List.replicate (4 - (lg_sl ([.ref b])).length) Slot.unset).toArray = ls at hl ⊢
  have hl : lv_has ls 4 [(0, .ref b)] := hl
  refine lw_new (l := l) (idx := 7) (cI := 6) hX rfl zv_161 zv_162 zw_142 d0 va_S.rf ⟨Nat.le_of_ble_eq_true rfl, Nat.le_of_ble_eq_true rfl⟩ (fun H1 o1 hW1 hS1 => ?_)
  refine lv_dup hx hb d3 rfl ?_
  refine lw_ini (k := 159) (idx := 9) (ρ := fun a => s.heap.size + a) (st := [.ref s.heap.size]) hX (by rw [zPe_159]; exact zWc_159) (by rw [zPe_159]; rfl) (by rw [zPe_159]; rfl) (by rw [zPe_159]; exact zv_163) (by rw [zPe_159]; exact zv_164) (by rw [zPe_159]; decide +kernel) (by rw [zPe_159]; decide +kernel) d4 hl.1 hW1 qCd_1 rfl ⟨by decide, by decide⟩ eA (Nat.le_of_ble_eq_true rfl) (qW_0 (H := H1) (D := D) (fun a => a)) (fun a b' _ hb' => absurd hb' (Nat.not_lt_zero b')) hS1 ⟨by omega, by rw [s1]; show 0 + 17 + (zs mA - 17) ≤ 7302250; omega⟩ (fun H2 locs2 ρ1 hρ1 hW1 _ _ hS2 => ?_)
  rw [nA] at hW1
  refine lv_astore_n (lv' := [(1, .ref s.heap.size), (0, .ref b)]) hx hb d7 rfl hl (by decide) rfl (fun ls hl => ?_)
  have a0 : ρ1 0 = s.heap.size := hρ1 0 (by decide)
  refine lw_new (l := l) (idx := 10) (cI := 7) hX rfl zv_1429 zv_1430 zw_153 d8 hS2 ⟨by rw [nA]; decide, by rw [s1]; show 0 + 17 + (zs mA - 17) + 50 ≤ 7302250; omega⟩ (fun H3 o3 hW2 hS3 => ?_)
  have hW1' := hW1.keep (fun a ha => o3 _ (hW1.lt ha))
  refine lv_dup hx hb d11 rfl ?_
  refine lw_ini (k := 237) (idx := 12) (ρ := fun a => H2.size + a) (st := [.ref H2.size]) hX (by rw [zPe_237]; exact zWc_237) (by rw [zPe_237]; rfl) (by rw [zPe_237]; rfl) (by rw [zPe_237]; exact zv_1431) (by rw [zPe_237]; exact zv_1432) (by rw [zPe_237]; decide +kernel) (by rw [zPe_237]; decide +kernel) d12 hl.1 hW2 qCd_1 rfl ⟨by decide, by decide⟩ eB (Nat.le_of_ble_eq_true rfl) hW1' (fun a b' ha hb' q => ?_) hS3 ⟨by omega, by rw [s1, s2]; show 0 + 17 + (zs mA - 17) + 50 + (zs mB - 50) ≤ 7302250; omega⟩ (fun H4 locs4 ρ2 hρ2 hW2 hdis hW1'' hS4 => ?_)
  · have := hW1.lt hb'
    have q' : H2.size + a = ρ1 b' := q
    omega
  rw [nB] at hW2 hdis
  have b0 : ρ2 0 = H2.size := hρ2 0 (by decide)
  refine lv_astore_n (lv' := [(2, .ref H2.size), (1, .ref s.heap.size), (0, .ref b)]) hx hb d15 rfl hl (by decide) rfl (fun ls hl => ?_)
  refine lv_iconst (v := 0) hx hb d16 (by decide) ?_
  refine lv_istore_n (lv' := [(3, .int 0), (2, .ref H2.size), (1, .ref s.heap.size), (0, .ref b)]) hx hb d17 rfl hl (by decide) rfl (fun ls hl => ?_)
  refine W.widen (k := 176 + 0) (n := 250000 + 9 * 0) (by omega) (by rw [s1, s2]; show 0 + 17 + (zs mA - 17) + 50 + (zs mB - 50) ≤ _; omega) ?_
  exact lw_loop hX 250000 (by decide) L 0 H4 locs4 ls S00 (by omega) (by decide) (lv_sub hl [3, 2, 1, 0] rfl) ⟨qTr mA 159, qTr mB 17, ρ1, ρ2, rA, rB, qInv00, rfl, hW1''.tr, hW2.tr, fun a b' ha hb' q => hdis b' a hb' ha q.symm, ⟨a0, b0⟩, hS4⟩
