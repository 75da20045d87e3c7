/-! The law's loop. -/
theorem lw_d18 : dcL 18 [(.iload_n 3, 1), (.aload_n 0, 1), (.arraylength, 1), (.bipush 7, 2), (.isub, 1), (.if_icmp .gt 2348, 3), (.aload_n 0, 1), (.iload_n 3, 1), (.iaload, 1), (.bipush 63, 2), (.iand, 1), (.tableswitch 2333 0 56 #[243, 256, 270, 284, 327, 400, 434, 497, 560, 583, 606, 629, 652, 685, 708, 751, 774, 797, 830, 863, 886, 919, 968, 1011, 1090, 1123, 1166, 1189, 1242, 1285, 1348, 1401, 1464, 1507, 1550, 1583, 1616, 1649, 1672, 1705, 1728, 1751, 1784, 1837, 1870, 1913, 1988, 2063, 2096, 2139, 2172, 2195, 2228, 2251, 2274, 2307, 2320], 243)] = true := by decide +kernel
theorem lw_d2366 : dcL 2366 [(.iinc 3 7, 3), (.goto (-2351), 3), (.iconst 1, 1), (.ireturn, 1)] = true := by decide +kernel
theorem and63 (x : Int32) : 0 ≤ (x &&& 63).toInt ∧ (x &&& 63).toInt < 64 := by
  have e : (x &&& 63).toInt = (x.toBitVec &&& 63#32).toInt := rfl
  rw [e]
  have h : (x.toBitVec &&& 63#32).toNat ≤ 63 := by
    rw [BitVec.toNat_and]; exact Nat.and_le_right
  rw [BitVec.toInt_eq_toNat_of_lt (by omega)]
  omega
section LOOP
variable {p : Program} {l : Launch} {e : Env} {s : State} {m : MethodId} {below : List Frame} {meth : Method} {c : Code} {b L : Nat} {xs : Nat → Int32} {D : zD} {xa ya : Nat}
theorem lw_loop (hX : lwX p s m meth c b L xs D) (B : Nat) (hB : B ≤ 1000000) : ∀ (n t : Nat) (H : Heap) (locs : List Loc) (ls : Array Slot) (S : zSt), L ≤ 7 * t + n → t ≤ 600 → lwS ls b xa ya (7 * t) → lwI s D H locs xa ya S →
    lwG p l e s m below meth c b H locs (176 + t) (B + 9 * t) (F0 m 18 ls []) := by
  obtain ⟨hx, hb, hr, hml, hown, hts, hXb, hbl, hlocks, -⟩ := hX.1
  have hL := hX.2.2.2.2
  have hA : ¬ qA0 s b := Nat.not_le.mpr hbl
  obtain ⟨e0, h⟩ := dcL_hd lw_d18
  obtain ⟨e1, h⟩ := dcL_hd h
  obtain ⟨e2, h⟩ := dcL_hd h
  obtain ⟨e3, h⟩ := dcL_hd h
  obtain ⟨e4, h⟩ := dcL_hd h
  obtain ⟨e5, h⟩ := dcL_hd h
  obtain ⟨e6, h⟩ := dcL_hd h
  obtain ⟨e7, h⟩ := dcL_hd h
  obtain ⟨e8, h⟩ := dcL_hd h
  obtain ⟨e9, h⟩ := dcL_hd h
  obtain ⟨e10, h⟩ := dcL_hd h
  obtain ⟨e11, -⟩ := dcL_hd h
  obtain ⟨g0, h⟩ := dcL_hd lw_d2366
  obtain ⟨g1, h⟩ := dcL_hd h
  obtain ⟨g2, h⟩ := dcL_hd h
  obtain ⟨g3, -⟩ := dcL_hd h
  have eL : Int32.ofNat L - 7 = Int32.ofInt ((L : Int) - 7) := by rw [Int32.ofInt_sub]; rfl
  have rL : r32 ((L : Int) - 7) := by unfold r32; omega
  intro n
  induction n with
  | zero =>
    intro t H locs ls S hn ht hls hI
    have hS : va_S (qA0 s) s.heap H locs := by obtain ⟨_, _, _, _, _, _, _, _, _, _, _, _, h⟩ := hI; exact h
    have rt : r32 ((7 * t : Nat) : Int) := by unfold r32; omega
    refine lv_iload_n hx hb e0 rfl (lv_at hls 3 rfl) ?_
    refine lv_aload_n hx hb e1 rfl (lv_at hls 0 rfl) ?_
    refine va_slen hx hb hXb hbl hA hS e2 ?_
    refine lv_bipush (v := 7) hx hb e3 (by decide +kernel) ?_
    refine lv_isub hx hb e4 ?_
    rw [eL]
    refine lv_icmp_gt (tgt := 2372) hx hb e5 (by decide) (fun hc => ?_) (fun hc => ?_)
    · refine lv_iconst (v := 1) hx hb g2 (by decide) ?_
      refine va_forget hS.2.2 ?_
      refine W.widen (k := 600000) (n := 7302250) (by omega) (by omega) ?_
      exact lw_ret hx hb hr hlocks g3
    · exact absurd ((zlt2 rL rt).mpr (by omega)) hc
  | succ n ih =>
    intro t H locs ls S hn ht hls hI
    have hS : va_S (qA0 s) s.heap H locs := by obtain ⟨_, _, _, _, _, _, _, _, _, _, _, _, h⟩ := hI; exact h
    have rt : r32 ((7 * t : Nat) : Int) := by unfold r32; omega
    refine lv_iload_n hx hb e0 rfl (lv_at hls 3 rfl) ?_
    refine lv_aload_n hx hb e1 rfl (lv_at hls 0 rfl) ?_
    refine va_slen hx hb hXb hbl hA hS e2 ?_
    refine lv_bipush (v := 7) hx hb e3 (by decide +kernel) ?_
    refine lv_isub hx hb e4 ?_
    rw [eL]
    refine lv_icmp_gt (tgt := 2372) hx hb e5 (by decide) (fun hc => ?_) (fun hc => ?_)
    · refine lv_iconst (v := 1) hx hb g2 (by decide) ?_
      refine va_forget hS.2.2 ?_
      refine W.widen (k := 600000) (n := 7302250) (by omega) (by omega) ?_
      exact lw_ret hx hb hr hlocks g3
    · have hi : 7 * t + 7 ≤ L := by
        have hc' : ¬ ((L : Int) - 7 < ((7 * t : Nat) : Int)) := fun q => hc ((zlt2 rL rt).mpr q)
        omega
      have next : ∀ (H1 : Heap) (locs1 : List Loc) (S' : zSt), lwI s D H1 locs1 xa ya S' → lwG p l e s m below meth c b H1 locs1 (176 + t + 1) (B + 9 * t + 9) (F0 m 2366 ls []) := fun H1 locs1 S' hI' => by
        have ev : Int32.ofInt ((7 * t : Nat) : Int) + Int32.ofInt 7 = Int32.ofInt ((7 * (t + 1) : Nat) : Int) := ofI_add (7 * t) 7
        refine lv_iinc (v := Int32.ofInt ((7 * (t + 1) : Nat) : Int)) (lv' := [(3, .int (Int32.ofInt ((7 * (t + 1) : Nat) : Int))), (0, .ref b), (1, .ref xa), (2, .ref ya)]) hx hb g0 hls (k := 3) rfl ev (by decide) rfl (fun ls2 hl2 => ?_)
        refine lv_goto (tgt := 18) hx hb g1 (by decide) ?_
        exact ih (t + 1) H1 locs1 ls2 S' (by omega) (by omega) (lv_sub hl2 [1, 2, 3, 0] rfl) hI'
      have hin : vp_in (Int32.ofInt ((7 * t : Nat) : Int)) L := zin rt (by omega) (by omega)
      refine lv_aload_n hx hb e6 rfl (lv_at hls 0 rfl) ?_
      refine lv_iload_n hx hb e7 rfl (lv_at hls 3 rfl) ?_
      refine va_sld hx hb hXb hbl hA hS hin e8 ?_
      refine lv_bipush (v := 63) hx hb e9 (by decide +kernel) ?_
      refine lv_iand hx hb e10 ?_
      obtain ⟨v0, v1⟩ := and63 (xs (Int32.ofInt ((7 * t : Nat) : Int)).toNatClampNeg)
      generalize xs (Int32.ofInt ((7 * t : Nat) : Int)).toNatClampNeg &&& 63 = v at v0 v1 ⊢
      by_cases c57 : v.toInt < 57
      · obtain ⟨off, ho, hto⟩ := tgT_ok ⟨v.toInt.toNat, by omega⟩
        refine lv_tableIn (off := off) (tgt := tgT.getD v.toInt.toNat 0) hx hb e11 (by omega) (by omega) (by rw [Int.sub_zero]; exact ho) hto ?_
        exact lw_sel hX hls hi hI (by omega) next _ (by omega)
      · refine lv_tableOut (tgt := 2366) hx hb e11 (Or.inr (by omega)) (by decide) ?_
        exact W.widen (by omega) (by omega) (next H locs S hI)
end LOOP
