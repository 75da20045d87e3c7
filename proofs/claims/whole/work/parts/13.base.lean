/-! what the printed methods stand on -/
theorem q32 {x : Int} (h : (decide (-2147483648 ≤ x) && decide (x < 2147483648)) = true) : r32 x := by
  rw [Bool.and_eq_true] at h
  exact ⟨of_decide_eq_true h.1, of_decide_eq_true h.2⟩
theorem q64 {x : Int} (h : (decide (-9223372036854775808 ≤ x) && decide (x < 9223372036854775808)) = true) : r64 x := by
  rw [Bool.and_eq_true] at h
  exact ⟨of_decide_eq_true h.1, of_decide_eq_true h.2⟩
def zlkb : List (Nat × zBlk) → Nat → Option zBlk
  | [], _ => none
  | (p, b) :: r, pc => if p = pc then some b else zlkb r pc
/-- each instruction sound, and of a shape -/
def zB2 (P : Nat → zE) (E : zE) : Nat → zBlk → Prop
  | _, [] => True
  | pc, (i, n, x) :: r => (zSi P E pc i n x ∧ zShape x) ∧ zB2 P E (pc + n) r
def zBs (P : Nat → zE) (E : zE) : List (Nat × zBlk) → Prop
  | [] => True
  | (pc, b) :: r => zB2 P E pc b ∧ zBs P E r
def zBds (cc : ByteArray) : List (Nat × zBlk) → Bool
  | [] => true
  | (pc, b) :: r => zBdk cc pc b && zBds cc r
theorem b_n {P : Nat → zE} {E : zE} {pc : Nat} : zB2 P E pc [] := trivial
theorem b_c {P : Nat → zE} {E : zE} {pc n : Nat} {i : Instr} {x : zI} {r : zBlk} (h : zSi P E pc i n x ∧ zShape x) (k : zB2 P E (pc + n) r) : zB2 P E pc ((i, n, x) :: r) := ⟨h, k⟩
theorem c_n {P : Nat → zE} {E : zE} : zBs P E [] := trivial
theorem c_c {P : Nat → zE} {E : zE} {pc : Nat} {b : zBlk} {r : List (Nat × zBlk)} (h : zB2 P E pc b) (k : zBs P E r) : zBs P E ((pc, b) :: r) := ⟨h, k⟩
theorem zB2.ok {P : Nat → zE} {E : zE} : ∀ {pc : Nat} {b : zBlk}, zB2 P E pc b → zBok P E pc b ∧ zBsh b
  | _, [], _ => ⟨trivial, trivial⟩
  | _, (_, _, _) :: _, h => ⟨⟨h.1.1, (zB2.ok h.2).1⟩, h.1.2, (zB2.ok h.2).2⟩
theorem zBs.at {P : Nat → zE} {E : zE} {cc : ByteArray} : ∀ {l : List (Nat × zBlk)} {pc : Nat} {b : zBlk}, zBs P E l → zBds cc l = true → zlkb l pc = some b → zBdk cc pc b = true ∧ zB2 P E pc b
  | [], _, _, _, _, h => by cases h
  | (p, b0) :: r, pc, b, h1, h2, h3 => by
    unfold zBds at h2
    rw [Bool.and_eq_true] at h2
    unfold zlkb at h3
    split at h3
    · rename_i hp
      subst hp
      cases h3
      exact ⟨h2.1, h1.1⟩
    · exact zBs.at h1.2 h2.2 h3
/-- a method by its printed blocks -/
def zMk (y : MethodName) (cc : ByteArray) (nL : Nat) (ret : Option FieldType) (cap : Nat) (l : List (Nat × zBlk)) : zE := (y, cc, nL, ret, cap, zlkb l, none)
/-- sound, and each block of a shape -/
def zMo2 (P : Nat → zE) (E : zE) : Prop := zMok P E ∧ ∀ pc b, E.2.2.2.2.2.1 pc = some b → zBsh b
theorem zMk_ok {P : Nat → zE} {y : MethodName} {cc : ByteArray} {nL : Nat} {ret : Option FieldType} {cap : Nat} {l : List (Nat × zBlk)} (hp : plainFor y = true) (hd : zBds cc l = true) (hb : zBs P (zMk y cc nL ret cap l) l) : zMo2 P (zMk y cc nL ret cap l) :=
  ⟨⟨hp, fun pc b h => ⟨(hb.at hd h).1, (hb.at hd h).2.ok.1⟩, fun g h => by cases h⟩, fun pc b h => (hb.at hd h).2.ok.2⟩
def zE0 : zE := (⟨"", "", ""⟩, ⟨#[]⟩, 0, none, 0, fun _ => none, none)
theorem zE0_ok {P : Nat → zE} (h : plainFor ⟨"", "", ""⟩ = true) : zMo2 P zE0 := ⟨⟨h, fun _ _ h => (by cases h), fun _ h => (by cases h)⟩, fun _ _ h => (by cases h)⟩
section ZP13
variable {P : Nat → zE} {E : zE} {pc : Nat}
theorem s_cpyl {i : Nat} (hw1 : Cond.methodLink E.1.cls i Jvm.arraycopyName ∈ zAll) (hw2 : Cond.native Jvm.arraycopyName ∈ zAll) (hw3 : Cond.static Jvm.arraycopyName ∈ zAll) (hw4 : Cond.initialized "java/lang/System" ∈ zAll) (hmu : 1 ≤ E.2.2.2.2.1) : zSi P E pc (.invokestatic i) 3 z_cpyl := by
  intro lv C J K hd hC hJ hK ls st mm out hF
  unfold z_cpyl at hF
  split at hF
  · rename_i n j b i0 a rest
    split at hF
    · rename_i hq
      simp only [Bool.and_eq_true, decide_eq_true_eq] at hq
      obtain ⟨⟨hTa, hTb⟩, ⟨g1, g2, g3⟩, ⟨g4, g5⟩, g6⟩ := hq
      refine ⟨(hK _ _ _ _ hF).1, fun p l e s m args below meth cd D ρ A n0 s0 H locs lsA hx hp => ?_⟩
      obtain ⟨hL, hst, hls, hH, hS, h1, h2⟩ := hp
      have hKs := hx.2.2.2.2.2.2.2.2
      have rn : r32 n := zok_h hst
      have rj : r32 j := zok_h (zok_t hst)
      have ri : r32 i0 := zok_h (zok_t (zok_t (zok_t hst)))
      obtain ⟨la, ka⟩ := zT_lt hTa
      obtain ⟨lb, kb⟩ := zT_lt hTb
      have hca := zAt_arr (hH.1 a la) ka (by decide)
      have hcb := zAt_arr (hH.1 b lb) kb (by decide)
      obtain ⟨-, k0, hk0, cm0, hkk0⟩ := zArr hKs (t := 10) rfl (zk mm a).2 (zAv ρ mm a 10)
      obtain ⟨-, k1, hk1, cm1, hkk1⟩ := zArr hKs (t := 10) rfl (zk mm b).2 (zAv ρ mm b 10)
      intro T hT X
      have tn : (Int32.ofInt n).toNatClampNeg = n.toNat := zcn rn g1
      have ti : (Int32.ofInt i0).toNatClampNeg = i0.toNat := zcn ri g2
      have tj : (Int32.ofInt j).toNatClampNeg = j.toNat := zcn rj g4
      obtain ⟨vm', X', step⟩ := X.arraycopy hx.1 hx.2.2.2.2.1 (zKs_word hKs hw1) (zKs_word hKs hw2) (zKs_word hKs hw3) (zKs_word hKs hw4) (src := ρ a) (dst := ρ b) (cs := arrV (D.2.2.1 10) (zk mm a).2 (zAv ρ mm a 10)) (cd := arrV (D.2.2.1 10) (zk mm b).2 (zAv ρ mm b 10)) (srcPos := Int32.ofInt i0) (destPos := Int32.ofInt j) (n := Int32.ofInt n) (by rw [hT]; exact hca) (by rw [hT]; exact hcb)
        (fun _ h => by cases h) (fun _ h => by cases h) (fun h => by cases h) (fun h => by cases h) hk0 hk1 hkk0 hkk1 (by simp [refKind]) (fun q => by have := (zlt0 ri).mp q; omega) (fun q => by have := (zlt0 rj).mp q; omega) (fun q => by have := (zlt0 rn).mp q; omega)
        (by rw [zT32 ri, zT32 rn, arrV_size]; omega)
        (by rw [zT32 rj, zT32 rn, arrV_size]; omega)
        (fun vm₁ _ k hk => by
          rw [ti]
          rw [tn] at hk
          have e : (arrV (D.2.2.1 10) (zk mm a).2 (zAv ρ mm a 10)).slots.getD (i0.toNat + k) .null = .long (Int64.ofInt (zl mm a (i0.toNat + k))) := by
            rw [Array.getD_eq_getD_getElem?, arrV_read _ _ (by omega)]
            rfl
          refine ⟨?_, ?_⟩
          · rw [e]; rfl
          · rw [e]; exact trivial)
        (g := F0 m pc lsA (.int (Int32.ofInt n) :: .int (Int32.ofInt j) :: .ref (ρ b) :: .int (Int32.ofInt i0) :: .ref (ρ a) :: rest.map (zW ρ))) rfl (by rw [hx.2.2.1]; exact hL.1) (rest := rest.map (zW ρ)) rfl (by rw [hx.2.1]; exact hd) (by show 1 ≤ zmu E lv; unfold zmu; omega)
        (by
          show 2 * 0 + ((rest.map (zW ρ)).map fun v => v.category).sum + (nativeFrameWords "java/lang/System" "arraycopy" 5 + 11) ≤ 60 * zmu E lv
          rw [zw_cat]
          have : nativeFrameWords "java/lang/System" "arraycopy" 5 ≤ 40 := by decide
          unfold zmu
          omega)
      have e1 : copied (arrV (D.2.2.1 10) (zk mm a).2 (zAv ρ mm a 10)) (arrV (D.2.2.1 10) (zk mm b).2 (zAv ρ mm b 10)) (Int32.ofInt i0) (Int32.ofInt j) (Int32.ofInt n) = arrV (D.2.2.1 10) (zk mm b).2 (fun k => .long (va_cpy (fun k => Int64.ofInt (zl mm a k)) (fun k => Int64.ofInt (zl mm b k)) (Int32.ofInt i0).toNatClampNeg (Int32.ofInt j).toNatClampNeg (Int32.ofInt n).toNatClampNeg k)) :=
        va_copied (fun z => .long z) (D.2.2.1 10) (D.2.2.1 10) (fun k => Int64.ofInt (zl mm a k)) (fun k => Int64.ofInt (zl mm b k)) (by rw [ti, tn]; omega)
      rw [ti, tj, tn] at e1
      rw [e1] at X' step
      generalize hm' : (mm.1, mm.2.1, mm.2.2.1, (fun c k => if c = b ∧ j.toNat ≤ k ∧ k < j.toNat + n.toNat then zl mm a (i0.toNat + (k - j.toNat)) else zl mm c k), mm.2.2.2.2) = m' at hF
      have en : zn m' = zn mm := by rw [← hm']; rfl
      have es : zs m' = zs mm := by rw [← hm']; rfl
      have hl : ρ b < H.size := (Array.getElem?_eq_some_iff.mp hcb).1
      generalize hcell : arrV (D.2.2.1 10) (zk mm b).2 (fun k => Value.long (va_cpy (fun k => Int64.ofInt (zl mm a k)) (fun k => Int64.ofInt (zl mm b k)) i0.toNat j.toNat n.toNat k)) = cl' at X' step
      have hheap : ((T.setVm vm').setCell (ρ b) cl').heap = H.setIfInBounds (ρ b) cl' := by rw [← hT]; rfl
      have oq : ∀ q : Nat, q ≠ ρ b → (H.setIfInBounds (ρ b) cl')[q]? = H[q]? := fun q hq => by simp [Array.getElem?_setIfInBounds, Ne.symm hq]
      have hat : (H.setIfInBounds (ρ b) cl')[ρ b]? = some cl' := by simp [Array.getElem?_setIfInBounds, hl]
      have hH' : zH D ρ A m' (H.setIfInBounds (ρ b) cl') := by
        refine zH_upd (a := b) hH en (fun c => by rw [← hm']; rfl) lb (fun c hc k => ?_) (fun a k => by rw [← hm']; exact hH.2.2.2.2.1 a k) (fun c k => ?_) (by simp) oq ?_
        · rw [← hm']
          refine ⟨rfl, ?_, rfl⟩
          show (if _ then _ else _) = _
          rw [if_neg (fun q => hc q.1)]
        · rw [← hm']
          show r64 (if _ then _ else _)
          split
          · exact hH.2.2.2.2.2.1 _ _
          · exact hH.2.2.2.2.2.1 _ _
        · refine zAt_mkarr (t := 10) (ty := .long) (by rw [← hm']; exact kb) (by decide) rfl ?_
          rw [hat, ← hcell]
          have ek : (zk m' b).2 = (zk mm b).2 := by rw [← hm']; rfl
          rw [ek]
          congr 2
          funext k
          rw [zAv_l, ← hm']
          show _ = Value.long (Int64.ofInt (if _ then _ else _))
          unfold va_cpy
          by_cases hk : j.toNat ≤ k ∧ k < j.toNat + n.toNat
          · rw [if_pos hk, if_pos ⟨rfl, hk⟩]
          · rw [if_neg hk, if_neg (fun q => hk q.2)]
      have hS' : ∀ locs1, (∀ q ∈ locs1, A q.base) → va_S A s.heap (H.setIfInBounds (ρ b) cl') (locs ++ locs1) := fun locs1 hl1 => ⟨by simp; exact hS.1, fun q q1 q2 => by
        rw [oq q (fun e => q2 (by rw [e]; exact hH.2.2.1 b lb))]
        exact hS.2.1 q q1 q2, fun q hq => by
        rcases List.mem_append.mp hq with h | h
        · exact hS.2.2 q h
        · exact hl1 q h⟩
      have X2 := X'
      rw [← en, ← es] at X2
      have kk := (hK _ _ _ _ hF).2 p l e s m args below meth cd D ρ A n0 s0 _ _ lsA hx ⟨hL, zok_t (zok_t (zok_t (zok_t (zok_t hst)))), hls, hH', hS' _ (by
        intro q hq
        obtain ⟨z, -, hz⟩ := List.mem_map.mp hq
        rw [← hz]
        exact hH.2.2.1 b lb), by rw [en]; exact h1, by rw [es]; exact h2⟩ _ hheap X2
      obtain ⟨t, a1, b1⟩ := kk
      exact ⟨t, step _ a1, b1⟩
    · cases hF
  · cases hF
/-! java.lang.Math -/
theorem zlocs {rest : List zV} {ρ : Nat → Nat} {mu n0 s0 : Nat} (hw : zw rest ≤ 8) (hmu : 1 ≤ mu) : ((rest.map (zW ρ)).map fun v => v.category).sum + 15 ≤ (zRoom mu n0 s0).locals := by
  show _ ≤ 60 * mu
  rw [zw_cat]
  omega
theorem s_mmax {i : Nat} (hw1 : Cond.methodLink E.1.cls i Lib.Math.max.name ∈ zAll) (hw2 : Cond.static Lib.Math.max.name ∈ zAll) (hw3 : Cond.initialized "java/lang/Math" ∈ zAll) (hw4 : Cond.code Lib.Math.max.name Lib.Math.max.code 2 (some .int) ∈ zAll) (hmu : 1 ≤ E.2.2.2.2.1) : zSi P E pc (.invokestatic i) 3 (z_mi2 zmax) := by
  intro lv C J K hd hC hJ hK ls st mm out hF
  unfold z_mi2 at hF
  split at hF
  · rename_i y x rest
    split at hF
    · rename_i hw
      have hG := (hK _ _ _ _ hF).1
      refine ⟨hG, fun p l e s m args below meth cd D ρ A n0 s0 H locs lsA hx0 hp => ?_⟩
      obtain ⟨hL, hst, hls, hH, hS, h1, h2⟩ := hp
      have hKs := hx0.2.2.2.2.2.2.2.2
      have hx : r32 x := zok_h (zok_t hst)
      have hy : r32 y := zok_h hst
      have hok : r32 (zmax x y) := by unfold zmax; split <;> assumption
      have hmu' : 1 ≤ zmu E lv := by unfold zmu; omega
      have hG1 : zn mm ≤ zn out.2 := hG.1
      have hG2 : zs mm ≤ zs out.2 := hG.2
      have e1 : Int32.ofInt (zmax x y) = (if Int32.ofInt x < Int32.ofInt y then Int32.ofInt y else Int32.ofInt x) := by
        unfold zmax
        simp only [zlt2 hx hy]
        split <;> rfl
      have hlc := zlocs (ρ := ρ) (n0 := zn out.2 - n0) (s0 := zs out.2 - s0) hw hmu'
      refine va_mmax hx0.1 hx0.2.1 (by rw [hx0.2.2.1]; exact hL.1.symm) hx0.2.2.2.2.1 (zKs_word hKs hw1) (zKs_word hKs hw2) (zKs_word hKs hw3) (zKs_word hKs hw4) hmu' (by first | exact hlc | exact Nat.le_trans (Nat.add_le_add_left (by decide) _) hlc) (by show zn mm - n0 ≤ zn out.2 - n0; omega) (by show zs mm - s0 ≤ zs out.2 - s0; omega) hd ?_
      rw [← e1]
      exact (hK _ _ _ _ hF).2 p l e s m args below meth cd D ρ A n0 s0 H locs lsA hx0 ⟨hL, zok_c hok (zok_t (zok_t hst)), hls, hH, hS, h1, h2⟩
    · cases hF
  · cases hF
theorem s_mmin {i : Nat} (hw1 : Cond.methodLink E.1.cls i Lib.Math.min.name ∈ zAll) (hw2 : Cond.static Lib.Math.min.name ∈ zAll) (hw3 : Cond.initialized "java/lang/Math" ∈ zAll) (hw4 : Cond.code Lib.Math.min.name Lib.Math.min.code 2 (some .int) ∈ zAll) (hmu : 1 ≤ E.2.2.2.2.1) : zSi P E pc (.invokestatic i) 3 (z_mi2 zmin) := by
  intro lv C J K hd hC hJ hK ls st mm out hF
  unfold z_mi2 at hF
  split at hF
  · rename_i y x rest
    split at hF
    · rename_i hw
      have hG := (hK _ _ _ _ hF).1
      refine ⟨hG, fun p l e s m args below meth cd D ρ A n0 s0 H locs lsA hx0 hp => ?_⟩
      obtain ⟨hL, hst, hls, hH, hS, h1, h2⟩ := hp
      have hKs := hx0.2.2.2.2.2.2.2.2
      have hx : r32 x := zok_h (zok_t hst)
      have hy : r32 y := zok_h hst
      have hok : r32 (zmin x y) := by unfold zmin; split <;> assumption
      have hmu' : 1 ≤ zmu E lv := by unfold zmu; omega
      have hG1 : zn mm ≤ zn out.2 := hG.1
      have hG2 : zs mm ≤ zs out.2 := hG.2
      have e1 : Int32.ofInt (zmin x y) = (if Int32.ofInt y < Int32.ofInt x then Int32.ofInt y else Int32.ofInt x) := by
        unfold zmin
        simp only [zlt2 hy hx]
        split <;> rfl
      have hlc := zlocs (ρ := ρ) (n0 := zn out.2 - n0) (s0 := zs out.2 - s0) hw hmu'
      refine va_mmin hx0.1 hx0.2.1 (by rw [hx0.2.2.1]; exact hL.1.symm) hx0.2.2.2.2.1 (zKs_word hKs hw1) (zKs_word hKs hw2) (zKs_word hKs hw3) (zKs_word hKs hw4) hmu' (by first | exact hlc | exact Nat.le_trans (Nat.add_le_add_left (by decide) _) hlc) (by show zn mm - n0 ≤ zn out.2 - n0; omega) (by show zs mm - s0 ≤ zs out.2 - s0; omega) hd ?_
      rw [← e1]
      exact (hK _ _ _ _ hF).2 p l e s m args below meth cd D ρ A n0 s0 H locs lsA hx0 ⟨hL, zok_c hok (zok_t (zok_t hst)), hls, hH, hS, h1, h2⟩
    · cases hF
  · cases hF
theorem s_mabs {i : Nat} (hw1 : Cond.methodLink E.1.cls i Lib.Math.abs.name ∈ zAll) (hw2 : Cond.static Lib.Math.abs.name ∈ zAll) (hw3 : Cond.initialized "java/lang/Math" ∈ zAll) (hw4 : Cond.code Lib.Math.abs.name Lib.Math.abs.code 1 (some .int) ∈ zAll) (hmu : 1 ≤ E.2.2.2.2.1) : zSi P E pc (.invokestatic i) 3 (z_mi1 zabs) := by
  intro lv C J K hd hC hJ hK ls st mm out hF
  unfold z_mi1 at hF
  split at hF
  · rename_i x rest
    split at hF
    · rename_i hw
      have hG := (hK _ _ _ _ hF).1
      refine ⟨hG, fun p l e s m args below meth cd D ρ A n0 s0 H locs lsA hx0 hp => ?_⟩
      obtain ⟨hL, hst, hls, hH, hS, h1, h2⟩ := hp
      have hKs := hx0.2.2.2.2.2.2.2.2
      have hx : r32 x := zok_h hst
      have hok : r32 (zabs x) := by
        unfold zabs
        split
        · assumption
        · exact r32_i32 _
      have hmu' : 1 ≤ zmu E lv := by unfold zmu; omega
      have hG1 : zn mm ≤ zn out.2 := hG.1
      have hG2 : zs mm ≤ zs out.2 := hG.2
      have e1 : Int32.ofInt (zabs x) = (if 0 ≤ Int32.ofInt x then Int32.ofInt x else 0 - Int32.ofInt x) := by
        unfold zabs
        have : (0 ≤ Int32.ofInt x) ↔ 0 ≤ x := by rw [Int32.le_iff_toInt_le, zT32 hx, Int32.toInt_zero]
        simp only [this]
        split
        · rfl
        · rw [zOi32, Int32.ofInt_sub]; rfl
      have hlc := zlocs (ρ := ρ) (n0 := zn out.2 - n0) (s0 := zs out.2 - s0) hw hmu'
      refine va_mabs hx0.1 hx0.2.1 (by rw [hx0.2.2.1]; exact hL.1.symm) hx0.2.2.2.2.1 (zKs_word hKs hw1) (zKs_word hKs hw2) (zKs_word hKs hw3) (zKs_word hKs hw4) hmu' (by first | exact hlc | exact Nat.le_trans (Nat.add_le_add_left (by decide) _) hlc) (by show zn mm - n0 ≤ zn out.2 - n0; omega) (by show zs mm - s0 ≤ zs out.2 - s0; omega) hd ?_
      rw [← e1]
      exact (hK _ _ _ _ hF).2 p l e s m args below meth cd D ρ A n0 s0 H locs lsA hx0 ⟨hL, zok_c hok (zok_t hst), hls, hH, hS, h1, h2⟩
    · cases hF
  · cases hF
theorem s_mmaxl {i : Nat} (hw1 : Cond.methodLink E.1.cls i Lib.MathLoose.max_long.x ∈ zAll) (hw2 : Cond.static Lib.MathLoose.max_long.x ∈ zAll) (hw3 : Cond.initialized "java/lang/Math" ∈ zAll) (hw4 : Cond.code Lib.MathLoose.max_long.x Lib.MathLoose.max_long.code 4 (some .long) ∈ zAll) (hmu : 1 ≤ E.2.2.2.2.1) : zSi P E pc (.invokestatic i) 3 (z_ml2 zlmax) := by
  intro lv C J K hd hC hJ hK ls st mm out hF
  unfold z_ml2 at hF
  split at hF
  · rename_i y x rest
    split at hF
    · rename_i hw
      have hG := (hK _ _ _ _ hF).1
      refine ⟨hG, fun p l e s m args below meth cd D ρ A n0 s0 H locs lsA hx0 hp => ?_⟩
      obtain ⟨hL, hst, hls, hH, hS, h1, h2⟩ := hp
      have hKs := hx0.2.2.2.2.2.2.2.2
      have hx : r64 x := zok_h (zok_t hst)
      have hy : r64 y := zok_h hst
      have hok : r64 (zlmax x y) := by unfold zlmax; split <;> assumption
      have hmu' : 1 ≤ zmu E lv := by unfold zmu; omega
      have hG1 : zn mm ≤ zn out.2 := hG.1
      have hG2 : zs mm ≤ zs out.2 := hG.2
      have e1 : Int64.ofInt (zlmax x y) = (if Int64.ofInt y < Int64.ofInt x then Int64.ofInt x else Int64.ofInt y) := by
        unfold zlmax
        have : (Int64.ofInt y < Int64.ofInt x) ↔ y < x := by rw [Int64.lt_iff_toInt_lt, zT64 hx, zT64 hy]
        simp only [this]
        split <;> rfl
      have hlc := zlocs (ρ := ρ) (n0 := zn out.2 - n0) (s0 := zs out.2 - s0) hw hmu'
      refine va_mmax_long hx0.1 hx0.2.1 (by rw [hx0.2.2.1]; exact hL.1.symm) hx0.2.2.2.2.1 (zKs_word hKs hw1) (zKs_word hKs hw2) (zKs_word hKs hw3) (zKs_word hKs hw4) hmu' (by first | exact hlc | exact Nat.le_trans (Nat.add_le_add_left (by decide) _) hlc) (by show zn mm - n0 ≤ zn out.2 - n0; omega) (by show zs mm - s0 ≤ zs out.2 - s0; omega) hd ?_
      rw [← e1]
      exact (hK _ _ _ _ hF).2 p l e s m args below meth cd D ρ A n0 s0 H locs lsA hx0 ⟨hL, zok_c hok (zok_t (zok_t hst)), hls, hH, hS, h1, h2⟩
    · cases hF
  · cases hF
theorem s_mabsl {i : Nat} (hw1 : Cond.methodLink E.1.cls i Lib.MathLoose.abs_long.x ∈ zAll) (hw2 : Cond.static Lib.MathLoose.abs_long.x ∈ zAll) (hw3 : Cond.initialized "java/lang/Math" ∈ zAll) (hw4 : Cond.code Lib.MathLoose.abs_long.x Lib.MathLoose.abs_long.code 2 (some .long) ∈ zAll) (hmu : 1 ≤ E.2.2.2.2.1) : zSi P E pc (.invokestatic i) 3 (z_ml1 zlabs) := by
  intro lv C J K hd hC hJ hK ls st mm out hF
  unfold z_ml1 at hF
  split at hF
  · rename_i x rest
    split at hF
    · rename_i hw
      have hG := (hK _ _ _ _ hF).1
      refine ⟨hG, fun p l e s m args below meth cd D ρ A n0 s0 H locs lsA hx0 hp => ?_⟩
      obtain ⟨hL, hst, hls, hH, hS, h1, h2⟩ := hp
      have hKs := hx0.2.2.2.2.2.2.2.2
      have hx : r64 x := zok_h hst
      have hok : r64 (zlabs x) := by
        unfold zlabs
        split
        · assumption
        · exact r64_i64 _
      have hmu' : 1 ≤ zmu E lv := by unfold zmu; omega
      have hG1 : zn mm ≤ zn out.2 := hG.1
      have hG2 : zs mm ≤ zs out.2 := hG.2
      have e1 : Int64.ofInt (zlabs x) = (if 0 < Int64.ofInt x then Int64.ofInt x else -Int64.ofInt x) := by
        unfold zlabs
        have : (0 < Int64.ofInt x) ↔ 0 < x := by rw [Int64.lt_iff_toInt_lt, zT64 hx, Int64.toInt_zero]
        simp only [this]
        split
        · rfl
        · rw [zOi64, Int64.ofInt_neg]
      have hlc := zlocs (ρ := ρ) (n0 := zn out.2 - n0) (s0 := zs out.2 - s0) hw hmu'
      refine va_mabs_long hx0.1 hx0.2.1 (by rw [hx0.2.2.1]; exact hL.1.symm) hx0.2.2.2.2.1 (zKs_word hKs hw1) (zKs_word hKs hw2) (zKs_word hKs hw3) (zKs_word hKs hw4) hmu' (by first | exact hlc | exact Nat.le_trans (Nat.add_le_add_left (by decide) _) hlc) (by show zn mm - n0 ≤ zn out.2 - n0; omega) (by show zs mm - s0 ≤ zs out.2 - s0; omega) hd ?_
      rw [← e1]
      exact (hK _ _ _ _ hF).2 p l e s m args below meth cd D ρ A n0 s0 H locs lsA hx0 ⟨hL, zok_c hok (zok_t hst), hls, hH, hS, h1, h2⟩
    · cases hF
  · cases hF
end ZP13
