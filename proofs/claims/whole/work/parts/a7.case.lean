/-! A case of the law: both calls, their answers compared. -/
section LAW7
variable {p : Program} {l : Launch} {e : Env} {s : State} {m : MethodId} {below : List Frame} {meth : Method} {c : Code} {b L : Nat} {xs : Nat → Int32} {D : zD} {H : Heap} {locs : List Loc} {cells slots : Nat} {ls : Array Slot} {st : List Value} {pc i xa ya k : Nat}
theorem lw_caseI {k1 k2 i1 i2 n : Nat} {ag : List zAg} {f : Nat → Int} {off : Int} {S : zSt} (hX : lwX p s m meth c b L xs D) (hM1 : lwM k1 i1 6 n) (hM2 : lwM k2 i2 7 n) (hn : ag.length = n) (hf : ∀ j, f j = (xs (i + j)).toInt) (hag : ∀ a ∈ ag, a.2 + 1 ≤ 6 ∨ (a.1 ≤ 1 ∧ a.2 ≤ 6))
    (hdc : dcL pc ((.aload_n 1, 1) :: (agIs ag ++ ((.invokevirtual i1, 3) :: (.aload_n 2, 1) :: (agIs ag ++ ((.invokevirtual i2, 3) :: [(.if_icmp .eq off, 3)]))))) = true) (hoff : ((pc + (1 + (dcN (agIs ag) + (3 + (1 + (dcN (agIs ag) + 3))))) : Nat) : Int) + off = ((2366 : Nat) : Int)) (hls : lwS ls b xa ya i) (hi : i + 7 ≤ L) (hC : lwC k1 k2 (ag.map (agV f)) false)
    (hI : lwI s D H locs xa ya S) (hcap : cells + 1 ≤ 600000 ∧ slots + 9 ≤ 7302250)
    (kk : ∀ (H1 : Heap) (locs1 : List Loc) (S' : zSt), lwI s D H1 locs1 xa ya S' → lwG p l e s m below meth c b H1 locs1 (cells + 1) (slots + 9) (F0 m 2366 ls [])) : lwG p l e s m below meth c b H locs cells slots (F0 m pc ls []) := by
  refine lw_two hX hM1 hM2 hn hf hag hdc hls hi hC hI hcap (fun H1 locs1 r S' hv hI' h => ?_)
  obtain ⟨d, -⟩ := dcL_hd h
  exact lv_icmp_eq (x := Int32.ofInt r) (y := Int32.ofInt r) (tgt := 2366) hX.1.1 hX.1.2.1 d hoff (fun _ => kk H1 locs1 S' hI') (fun q => absurd rfl q)
theorem lg_cmp_self (x : Int64) : lg_cmp x x = 0 := by
  unfold lg_cmp
  rw [if_neg (fun q => absurd (Int64.lt_iff_toInt_lt.mp q) (Int.lt_irrefl _)), if_pos rfl]
theorem lw_caseL {k1 k2 i1 i2 n : Nat} {ag : List zAg} {f : Nat → Int} {off : Int} {S : zSt} (hX : lwX p s m meth c b L xs D) (hM1 : lwM k1 i1 6 n) (hM2 : lwM k2 i2 7 n) (hn : ag.length = n) (hf : ∀ j, f j = (xs (i + j)).toInt) (hag : ∀ a ∈ ag, a.2 + 1 ≤ 6 ∨ (a.1 ≤ 1 ∧ a.2 ≤ 6))
    (hdc : dcL pc ((.aload_n 1, 1) :: (agIs ag ++ ((.invokevirtual i1, 3) :: (.aload_n 2, 1) :: (agIs ag ++ ((.invokevirtual i2, 3) :: [(.lcmp, 1), (.ifCond .eq off, 3)]))))) = true) (hoff : ((pc + (1 + (dcN (agIs ag) + (3 + (1 + (dcN (agIs ag) + 3))))) + 1 : Nat) : Int) + off = ((2366 : Nat) : Int)) (hls : lwS ls b xa ya i) (hi : i + 7 ≤ L) (hC : lwC k1 k2 (ag.map (agV f)) true)
    (hI : lwI s D H locs xa ya S) (hcap : cells + 1 ≤ 600000 ∧ slots + 9 ≤ 7302250)
    (kk : ∀ (H1 : Heap) (locs1 : List Loc) (S' : zSt), lwI s D H1 locs1 xa ya S' → lwG p l e s m below meth c b H1 locs1 (cells + 1) (slots + 9) (F0 m 2366 ls [])) : lwG p l e s m below meth c b H locs cells slots (F0 m pc ls []) := by
  refine lw_two hX hM1 hM2 hn hf hag hdc hls hi hC hI hcap (fun H1 locs1 r S' hv hI' h => ?_)
  obtain ⟨d, h⟩ := dcL_hd h
  obtain ⟨d2, -⟩ := dcL_hd h
  refine W.lcmp (x := Int64.ofInt r) (y := Int64.ofInt r) hX.1.1 hX.1.2.1 d ?_
  rw [lg_cmp_self]
  exact lv_if_eq (x := 0) (tgt := 2366) hX.1.1 hX.1.2.1 d2 hoff (fun _ => kk H1 locs1 S' hI') (fun q => absurd rfl q)
end LAW7
