/-! The law's cases. -/
section CASES
variable {p : Program} {l : Launch} {e : Env} {s : State} {m : MethodId} {below : List Frame} {meth : Method} {c : Code} {b L : Nat} {xs : Nat → Int32} {D : zD} {H : Heap} {locs : List Loc} {cells slots : Nat} {ls : Array Slot} {i xa ya : Nat} {S : zSt} {f : Nat → Int}
theorem qTd (hI : qInv S) : r32 (gL S).2.2.2.2 := by
  obtain ⟨t, e, ht⟩ := hI.1.2.1
  have e2 : (gL S).2.2.2.2 = (t : Int) := e
  rw [e2]; unfold r32; omega
theorem lwc_0 (hf : ∀ j, r32 (f j)) : lwC 160 238 (([] : List zAg).map (agV f)) false := fun S m1 m2 h1 h2 hI hN => by
  obtain ⟨m1', e1, r1⟩ := p_status (v := 0) h1 
  obtain ⟨m2', e2, r2⟩ := w_status (v := 0) h2 
  exact ⟨((gSt S, S)).1, ((gSt S, S)).2, m1', m2', e1, r1, e2, r2, qKe.rf.nx hI⟩
theorem lwk_0 (hX : lwX p s m meth c b L xs D) (hls : lwS ls b xa ya i) (hi : i + 7 ≤ L) (hI : lwI s D H locs xa ya S) (hcap : cells + 1 ≤ 600000 ∧ slots + 9 ≤ 7302250) (kk : ∀ (H1 : Heap) (locs1 : List Loc) (S' : zSt), lwI s D H1 locs1 xa ya S' → lwG p l e s m below meth c b H1 locs1 (cells + 1) (slots + 9) (F0 m 2366 ls [])) : lwG p l e s m below meth c b H locs cells slots (F0 m 276 ls []) :=
  lw_caseI (i1 := 13) (i2 := 17) (ag := []) (f := fun j => (xs (i + j)).toInt) (off := 2082) hX lwm_160 lwm_238 rfl (fun _ => rfl) (by decide) (by decide +kernel) (by decide) hls hi (lwc_0 (fun _ => zr32 _)) hI hcap kk
theorem lwc_1 (hf : ∀ j, r32 (f j)) : lwC 161 239 (([] : List zAg).map (agV f)) true := fun S m1 m2 h1 h2 hI hN => by
  obtain ⟨m1', e1, r1⟩ := p_top (v := 0) h1 
  obtain ⟨m2', e2, r2⟩ := w_top (v := 0) h2 
  exact ⟨(((gFr S).1, S)).1, (((gFr S).1, S)).2, m1', m2', e1, r1, e2, r2, qKe.rf.nx hI⟩
theorem lwk_1 (hX : lwX p s m meth c b L xs D) (hls : lwS ls b xa ya i) (hi : i + 7 ≤ L) (hI : lwI s D H locs xa ya S) (hcap : cells + 1 ≤ 600000 ∧ slots + 9 ≤ 7302250) (kk : ∀ (H1 : Heap) (locs1 : List Loc) (S' : zSt), lwI s D H1 locs1 xa ya S' → lwG p l e s m below meth c b H1 locs1 (cells + 1) (slots + 9) (F0 m 2366 ls [])) : lwG p l e s m below meth c b H locs cells slots (F0 m 289 ls []) :=
  lw_caseL (i1 := 18) (i2 := 22) (ag := []) (f := fun j => (xs (i + j)).toInt) (off := 2068) hX lwm_161 lwm_239 rfl (fun _ => rfl) (by decide) (by decide +kernel) (by decide) hls hi (lwc_1 (fun _ => zr32 _)) hI hcap kk
theorem lwc_2 (hf : ∀ j, r32 (f j)) : lwC 162 240 (([] : List zAg).map (agV f)) true := fun S m1 m2 h1 h2 hI hN => by
  obtain ⟨m1', e1, r1⟩ := p_bottom (v := 0) h1 
  obtain ⟨m2', e2, r2⟩ := w_bottom (v := 0) h2 
  exact ⟨(((gFr S).2, S)).1, (((gFr S).2, S)).2, m1', m2', e1, r1, e2, r2, qKe.rf.nx hI⟩
theorem lwk_2 (hX : lwX p s m meth c b L xs D) (hls : lwS ls b xa ya i) (hi : i + 7 ≤ L) (hI : lwI s D H locs xa ya S) (hcap : cells + 1 ≤ 600000 ∧ slots + 9 ≤ 7302250) (kk : ∀ (H1 : Heap) (locs1 : List Loc) (S' : zSt), lwI s D H1 locs1 xa ya S' → lwG p l e s m below meth c b H1 locs1 (cells + 1) (slots + 9) (F0 m 2366 ls [])) : lwG p l e s m below meth c b H locs cells slots (F0 m 303 ls []) :=
  lw_caseL (i1 := 23) (i2 := 26) (ag := []) (f := fun j => (xs (i + j)).toInt) (off := 2054) hX lwm_162 lwm_240 rfl (fun _ => rfl) (by decide) (by decide +kernel) (by decide) hls hi (lwc_2 (fun _ => zr32 _)) hI hcap kk
theorem lwc_3 (hf : ∀ j, r32 (f j)) : lwC 166 246 (([(0, 1), (0, 2), (0, 3)] : List zAg).map (agV f)) false := fun S m1 m2 h1 h2 hI hN => by
  obtain ⟨m1', e1, r1⟩ := p_tray (v := 0) h1 (f 1) (f 2) (f 3)
  obtain ⟨m2', e2, r2⟩ := w_tray (v := 0) h2 (f 1) (f 2) (f 3)
  exact ⟨(o_tray S (f 1) (f 2) (f 3)).1, (o_tray S (f 1) (f 2) (f 3)).2, m1', m2', e1, r1, e2, r2, (k_tray (f 1) (f 2) (f 3)).nx hI⟩
theorem lwk_3 (hX : lwX p s m meth c b L xs D) (hls : lwS ls b xa ya i) (hi : i + 7 ≤ L) (hI : lwI s D H locs xa ya S) (hcap : cells + 1 ≤ 600000 ∧ slots + 9 ≤ 7302250) (kk : ∀ (H1 : Heap) (locs1 : List Loc) (S' : zSt), lwI s D H1 locs1 xa ya S' → lwG p l e s m below meth c b H1 locs1 (cells + 1) (slots + 9) (F0 m 2366 ls [])) : lwG p l e s m below meth c b H locs cells slots (F0 m 317 ls []) :=
  lw_caseI (i1 := 27) (i2 := 31) (ag := [(0, 1), (0, 2), (0, 3)]) (f := fun j => (xs (i + j)).toInt) (off := 2011) hX lwm_166 lwm_246 rfl (fun _ => rfl) (by decide) (by decide +kernel) (by decide) hls hi (lwc_3 (fun _ => zr32 _)) hI hcap kk
theorem lwc_4 (hf : ∀ j, r32 (f j)) : lwC 168 249 (([(0, 1), (0, 2), (2, 3)] : List zAg).map (agV f)) false := fun S m1 m2 h1 h2 hI hN => by
  obtain ⟨m1', e1, r1⟩ := p_write (v := 0) h1 (f 1) (hf 2) (lgV (f 3) (f 4))
  obtain ⟨m2', e2, r2⟩ := w_write (v := 0) h2 (f 1) (f 2) (lgV (f 3) (f 4))
  exact ⟨(o_write S (f 1) (f 2) (lgV (f 3) (f 4))).1, (o_write S (f 1) (f 2) (lgV (f 3) (f 4))).2, m1', m2', e1, r1, e2, r2, (k_write (f 1) (f 2) (lgV (f 3) (f 4))).nx hI⟩
theorem lwk_4 (hX : lwX p s m meth c b L xs D) (hls : lwS ls b xa ya i) (hi : i + 7 ≤ L) (hI : lwI s D H locs xa ya S) (hcap : cells + 1 ≤ 600000 ∧ slots + 9 ≤ 7302250) (kk : ∀ (H1 : Heap) (locs1 : List Loc) (S' : zSt), lwI s D H1 locs1 xa ya S' → lwG p l e s m below meth c b H1 locs1 (cells + 1) (slots + 9) (F0 m 2366 ls [])) : lwG p l e s m below meth c b H locs cells slots (F0 m 360 ls []) :=
  lw_caseI (i1 := 34) (i2 := 38) (ag := [(0, 1), (0, 2), (2, 3)]) (f := fun j => (xs (i + j)).toInt) (off := 1938) hX lwm_168 lwm_249 rfl (fun _ => rfl) (by decide) (by decide +kernel) (by decide) hls hi (lwc_4 (fun _ => zr32 _)) hI hcap kk
theorem lwc_5 (hf : ∀ j, r32 (f j)) : lwC 170 250 (([(0, 1), (0, 2)] : List zAg).map (agV f)) true := fun S m1 m2 h1 h2 hI hN => by
  obtain ⟨m1', e1, r1⟩ := p_read (v := 0) h1 (f 1) (hf 2)
  obtain ⟨m2', e2, r2⟩ := w_read (v := 0) h2 (f 1) (f 2)
  exact ⟨(o_read S (f 1) (f 2)).1, (o_read S (f 1) (f 2)).2, m1', m2', e1, r1, e2, r2, (k_read (f 1) (f 2)).nx hI⟩
theorem lwk_5 (hX : lwX p s m meth c b L xs D) (hls : lwS ls b xa ya i) (hi : i + 7 ≤ L) (hI : lwI s D H locs xa ya S) (hcap : cells + 1 ≤ 600000 ∧ slots + 9 ≤ 7302250) (kk : ∀ (H1 : Heap) (locs1 : List Loc) (S' : zSt), lwI s D H1 locs1 xa ya S' → lwG p l e s m below meth c b H1 locs1 (cells + 1) (slots + 9) (F0 m 2366 ls [])) : lwG p l e s m below meth c b H locs cells slots (F0 m 433 ls []) :=
  lw_caseL (i1 := 39) (i2 := 43) (ag := [(0, 1), (0, 2)]) (f := fun j => (xs (i + j)).toInt) (off := 1904) hX lwm_170 lwm_250 rfl (fun _ => rfl) (by decide) (by decide +kernel) (by decide) hls hi (lwc_5 (fun _ => zr32 _)) hI hcap kk
theorem lwc_6 (hf : ∀ j, r32 (f j)) : lwC 173 251 (([(0, 1), (0, 2), (0, 3), (0, 4), (0, 5)] : List zAg).map (agV f)) false := fun S m1 m2 h1 h2 hI hN => by
  obtain ⟨m1', e1, r1⟩ := p_pour (v := 0) h1 (f 1) (f 3) (hf 2) (hf 4) (hf 5)
  obtain ⟨m2', e2, r2⟩ := w_pour (v := 0) h2 (f 1) (f 3) (hf 2) (hf 4) (hf 5)
  exact ⟨(o_pour S (f 1) (f 2) (f 3) (f 4) (f 5)).1, (o_pour S (f 1) (f 2) (f 3) (f 4) (f 5)).2, m1', m2', e1, r1, e2, r2, (k_pour (f 1) (f 2) (f 3) (f 4) (f 5)).nx hI⟩
theorem lwk_6 (hX : lwX p s m meth c b L xs D) (hls : lwS ls b xa ya i) (hi : i + 7 ≤ L) (hI : lwI s D H locs xa ya S) (hcap : cells + 1 ≤ 600000 ∧ slots + 9 ≤ 7302250) (kk : ∀ (H1 : Heap) (locs1 : List Loc) (S' : zSt), lwI s D H1 locs1 xa ya S' → lwG p l e s m below meth c b H1 locs1 (cells + 1) (slots + 9) (F0 m 2366 ls [])) : lwG p l e s m below meth c b H locs cells slots (F0 m 467 ls []) :=
  lw_caseI (i1 := 44) (i2 := 48) (ag := [(0, 1), (0, 2), (0, 3), (0, 4), (0, 5)]) (f := fun j => (xs (i + j)).toInt) (off := 1841) hX lwm_173 lwm_251 rfl (fun _ => rfl) (by decide) (by decide +kernel) (by decide) hls hi (lwc_6 (fun _ => zr32 _)) hI hcap kk
theorem lwc_7 (hf : ∀ j, r32 (f j)) : lwC 174 283 (([(0, 1), (0, 2), (0, 3), (0, 4), (0, 5)] : List zAg).map (agV f)) false := fun S m1 m2 h1 h2 hI hN => by
  obtain ⟨m1', e1, r1⟩ := p_feed (v := 0) h1 (f 1) (f 2) (f 3) (f 4) (f 5)
  obtain ⟨m2', e2, r2⟩ := w_feed (v := 0) h2 (f 1) (f 2) (f 3) (f 4) (f 5)
  exact ⟨(o_feed S (f 1) (f 2) (f 3) (f 4) (f 5)).1, (o_feed S (f 1) (f 2) (f 3) (f 4) (f 5)).2, m1', m2', e1, r1, e2, r2, (k_feed (f 1) (f 2) (f 3) (f 4) (f 5)).nx hI⟩
theorem lwk_7 (hX : lwX p s m meth c b L xs D) (hls : lwS ls b xa ya i) (hi : i + 7 ≤ L) (hI : lwI s D H locs xa ya S) (hcap : cells + 1 ≤ 600000 ∧ slots + 9 ≤ 7302250) (kk : ∀ (H1 : Heap) (locs1 : List Loc) (S' : zSt), lwI s D H1 locs1 xa ya S' → lwG p l e s m below meth c b H1 locs1 (cells + 1) (slots + 9) (F0 m 2366 ls [])) : lwG p l e s m below meth c b H locs cells slots (F0 m 530 ls []) :=
  lw_caseI (i1 := 49) (i2 := 53) (ag := [(0, 1), (0, 2), (0, 3), (0, 4), (0, 5)]) (f := fun j => (xs (i + j)).toInt) (off := 1778) hX lwm_174 lwm_283 rfl (fun _ => rfl) (by decide) (by decide +kernel) (by decide) hls hi (lwc_7 (fun _ => zr32 _)) hI hcap kk
theorem lwc_8 (hf : ∀ j, r32 (f j)) : lwC 177 303 (([(0, 1)] : List zAg).map (agV f)) false := fun S m1 m2 h1 h2 hI hN => by
  obtain ⟨m1', e1, r1⟩ := p_slip (v := 0) h1 (f 1)
  obtain ⟨m2', e2, r2⟩ := w_slip (v := 0) h2 (f 1)
  exact ⟨(o_slip S (f 1)).1, (o_slip S (f 1)).2, m1', m2', e1, r1, e2, r2, q_slip hI (f 1)⟩
theorem lwk_8 (hX : lwX p s m meth c b L xs D) (hls : lwS ls b xa ya i) (hi : i + 7 ≤ L) (hI : lwI s D H locs xa ya S) (hcap : cells + 1 ≤ 600000 ∧ slots + 9 ≤ 7302250) (kk : ∀ (H1 : Heap) (locs1 : List Loc) (S' : zSt), lwI s D H1 locs1 xa ya S' → lwG p l e s m below meth c b H1 locs1 (cells + 1) (slots + 9) (F0 m 2366 ls [])) : lwG p l e s m below meth c b H locs cells slots (F0 m 593 ls []) :=
  lw_caseI (i1 := 54) (i2 := 58) (ag := [(0, 1)]) (f := fun j => (xs (i + j)).toInt) (off := 1755) hX lwm_177 lwm_303 rfl (fun _ => rfl) (by decide) (by decide +kernel) (by decide) hls hi (lwc_8 (fun _ => zr32 _)) hI hcap kk
theorem lwc_9 (hf : ∀ j, r32 (f j)) : lwC 178 307 (([(0, 1)] : List zAg).map (agV f)) false := fun S m1 m2 h1 h2 hI hN => by
  obtain ⟨m1', e1, r1⟩ := p_years (v := 0) h1 (f 1)
  obtain ⟨m2', e2, r2⟩ := w_years (v := 0) h2 (f 1)
  exact ⟨(o_years S (f 1)).1, (o_years S (f 1)).2, m1', m2', e1, r1, e2, r2, q_years hI (f 1)⟩
theorem lwk_9 (hX : lwX p s m meth c b L xs D) (hls : lwS ls b xa ya i) (hi : i + 7 ≤ L) (hI : lwI s D H locs xa ya S) (hcap : cells + 1 ≤ 600000 ∧ slots + 9 ≤ 7302250) (kk : ∀ (H1 : Heap) (locs1 : List Loc) (S' : zSt), lwI s D H1 locs1 xa ya S' → lwG p l e s m below meth c b H1 locs1 (cells + 1) (slots + 9) (F0 m 2366 ls [])) : lwG p l e s m below meth c b H locs cells slots (F0 m 616 ls []) :=
  lw_caseI (i1 := 59) (i2 := 62) (ag := [(0, 1)]) (f := fun j => (xs (i + j)).toInt) (off := 1732) hX lwm_178 lwm_307 rfl (fun _ => rfl) (by decide) (by decide +kernel) (by decide) hls hi (lwc_9 (fun _ => zr32 _)) hI hcap kk
theorem lwc_10 (hf : ∀ j, r32 (f j)) : lwC 179 286 (([(0, 1)] : List zAg).map (agV f)) false := fun S m1 m2 h1 h2 hI hN => by
  obtain ⟨m1', e1, r1⟩ := p_fault (v := 0) h1 (f 1)
  obtain ⟨m2', e2, r2⟩ := w_fault (v := 0) h2 (f 1)
  exact ⟨(o_fault S ((f 1))).1, (o_fault S ((f 1))).2, m1', m2', e1, r1, e2, r2, qKe.nx ⟨rfl, rfl, rfl⟩ hI⟩
theorem lwk_10 (hX : lwX p s m meth c b L xs D) (hls : lwS ls b xa ya i) (hi : i + 7 ≤ L) (hI : lwI s D H locs xa ya S) (hcap : cells + 1 ≤ 600000 ∧ slots + 9 ≤ 7302250) (kk : ∀ (H1 : Heap) (locs1 : List Loc) (S' : zSt), lwI s D H1 locs1 xa ya S' → lwG p l e s m below meth c b H1 locs1 (cells + 1) (slots + 9) (F0 m 2366 ls [])) : lwG p l e s m below meth c b H locs cells slots (F0 m 639 ls []) :=
  lw_caseI (i1 := 63) (i2 := 66) (ag := [(0, 1)]) (f := fun j => (xs (i + j)).toInt) (off := 1709) hX lwm_179 lwm_286 rfl (fun _ => rfl) (by decide) (by decide +kernel) (by decide) hls hi (lwc_10 (fun _ => zr32 _)) hI hcap kk
theorem lwc_11 (hf : ∀ j, r32 (f j)) : lwC 180 315 (([(0, 1)] : List zAg).map (agV f)) false := fun S m1 m2 h1 h2 hI hN => by
  obtain ⟨m1', e1, r1⟩ := p_many (v := 0) h1 (f 1)
  obtain ⟨m2', e2, r2⟩ := w_many (v := 0) h2 (f 1)
  exact ⟨(o_many S (f 1)).1, (o_many S (f 1)).2, m1', m2', e1, r1, e2, r2, (k_many (f 1)).nx hI⟩
theorem lwk_11 (hX : lwX p s m meth c b L xs D) (hls : lwS ls b xa ya i) (hi : i + 7 ≤ L) (hI : lwI s D H locs xa ya S) (hcap : cells + 1 ≤ 600000 ∧ slots + 9 ≤ 7302250) (kk : ∀ (H1 : Heap) (locs1 : List Loc) (S' : zSt), lwI s D H1 locs1 xa ya S' → lwG p l e s m below meth c b H1 locs1 (cells + 1) (slots + 9) (F0 m 2366 ls [])) : lwG p l e s m below meth c b H locs cells slots (F0 m 662 ls []) :=
  lw_caseI (i1 := 67) (i2 := 70) (ag := [(0, 1)]) (f := fun j => (xs (i + j)).toInt) (off := 1686) hX lwm_180 lwm_315 rfl (fun _ => rfl) (by decide) (by decide +kernel) (by decide) hls hi (lwc_11 (fun _ => zr32 _)) hI hcap kk
theorem lwc_12 (hf : ∀ j, r32 (f j)) : lwC 181 319 (([(0, 1), (0, 2)] : List zAg).map (agV f)) false := fun S m1 m2 h1 h2 hI hN => by
  obtain ⟨m1', e1, r1⟩ := p_line (v := 0) h1 (f 1) (f 2)
  obtain ⟨m2', e2, r2⟩ := w_line (v := 0) h2 (f 1) (f 2)
  exact ⟨(o_line S (f 1) (f 2)).1, (o_line S (f 1) (f 2)).2, m1', m2', e1, r1, e2, r2, (k_line (f 1) (f 2)).nx hI⟩
theorem lwk_12 (hX : lwX p s m meth c b L xs D) (hls : lwS ls b xa ya i) (hi : i + 7 ≤ L) (hI : lwI s D H locs xa ya S) (hcap : cells + 1 ≤ 600000 ∧ slots + 9 ≤ 7302250) (kk : ∀ (H1 : Heap) (locs1 : List Loc) (S' : zSt), lwI s D H1 locs1 xa ya S' → lwG p l e s m below meth c b H1 locs1 (cells + 1) (slots + 9) (F0 m 2366 ls [])) : lwG p l e s m below meth c b H locs cells slots (F0 m 685 ls []) :=
  lw_caseI (i1 := 71) (i2 := 75) (ag := [(0, 1), (0, 2)]) (f := fun j => (xs (i + j)).toInt) (off := 1653) hX lwm_181 lwm_319 rfl (fun _ => rfl) (by decide) (by decide +kernel) (by decide) hls hi (lwc_12 (fun _ => zr32 _)) hI hcap kk
theorem lwc_13 (hf : ∀ j, r32 (f j)) : lwC 182 321 (([(0, 1)] : List zAg).map (agV f)) false := fun S m1 m2 h1 h2 hI hN => by
  obtain ⟨m1', e1, r1⟩ := p_lineOf (v := 0) h1 (f 1)
  obtain ⟨m2', e2, r2⟩ := w_lineOf (v := 0) h2 (f 1)
  exact ⟨(o_lineOf S (f 1)).1, (o_lineOf S (f 1)).2, m1', m2', e1, r1, e2, r2, (k_lineOf (f 1)).nx hI⟩
theorem lwk_13 (hX : lwX p s m meth c b L xs D) (hls : lwS ls b xa ya i) (hi : i + 7 ≤ L) (hI : lwI s D H locs xa ya S) (hcap : cells + 1 ≤ 600000 ∧ slots + 9 ≤ 7302250) (kk : ∀ (H1 : Heap) (locs1 : List Loc) (S' : zSt), lwI s D H1 locs1 xa ya S' → lwG p l e s m below meth c b H1 locs1 (cells + 1) (slots + 9) (F0 m 2366 ls [])) : lwG p l e s m below meth c b H locs cells slots (F0 m 718 ls []) :=
  lw_caseI (i1 := 76) (i2 := 79) (ag := [(0, 1)]) (f := fun j => (xs (i + j)).toInt) (off := 1630) hX lwm_182 lwm_321 rfl (fun _ => rfl) (by decide) (by decide +kernel) (by decide) hls hi (lwc_13 (fun _ => zr32 _)) hI hcap kk
theorem lwc_14 (hf : ∀ j, r32 (f j)) : lwC 183 322 (([(0, 1), (0, 2), (0, 3)] : List zAg).map (agV f)) false := fun S m1 m2 h1 h2 hI hN => by
  obtain ⟨m1', e1, r1⟩ := p_edit (v := 0) h1 (f 1) (f 2) (f 3)
  obtain ⟨m2', e2, r2⟩ := w_edit (v := 0) h2 (f 1) (f 2) (f 3)
  exact ⟨(o_edit S (f 1) (f 2) (f 3)).1, (o_edit S (f 1) (f 2) (f 3)).2, m1', m2', e1, r1, e2, r2, (k_edit (f 1) (f 2) (f 3)).nx hI⟩
theorem lwk_14 (hX : lwX p s m meth c b L xs D) (hls : lwS ls b xa ya i) (hi : i + 7 ≤ L) (hI : lwI s D H locs xa ya S) (hcap : cells + 1 ≤ 600000 ∧ slots + 9 ≤ 7302250) (kk : ∀ (H1 : Heap) (locs1 : List Loc) (S' : zSt), lwI s D H1 locs1 xa ya S' → lwG p l e s m below meth c b H1 locs1 (cells + 1) (slots + 9) (F0 m 2366 ls [])) : lwG p l e s m below meth c b H locs cells slots (F0 m 741 ls []) :=
  lw_caseI (i1 := 80) (i2 := 84) (ag := [(0, 1), (0, 2), (0, 3)]) (f := fun j => (xs (i + j)).toInt) (off := 1587) hX lwm_183 lwm_322 rfl (fun _ => rfl) (by decide) (by decide +kernel) (by decide) hls hi (lwc_14 (fun _ => zr32 _)) hI hcap kk
theorem lwc_15 (hf : ∀ j, r32 (f j)) : lwC 184 323 (([(0, 1)] : List zAg).map (agV f)) false := fun S m1 m2 h1 h2 hI hN => by
  obtain ⟨m1', e1, r1⟩ := p_placeOf (v := 0) h1 (f 1)
  obtain ⟨m2', e2, r2⟩ := w_placeOf (v := 0) h2 (f 1)
  exact ⟨(o_placeOf S (f 1)).1, (o_placeOf S (f 1)).2, m1', m2', e1, r1, e2, r2, (k_placeOf (f 1)).nx hI⟩
theorem lwk_15 (hX : lwX p s m meth c b L xs D) (hls : lwS ls b xa ya i) (hi : i + 7 ≤ L) (hI : lwI s D H locs xa ya S) (hcap : cells + 1 ≤ 600000 ∧ slots + 9 ≤ 7302250) (kk : ∀ (H1 : Heap) (locs1 : List Loc) (S' : zSt), lwI s D H1 locs1 xa ya S' → lwG p l e s m below meth c b H1 locs1 (cells + 1) (slots + 9) (F0 m 2366 ls [])) : lwG p l e s m below meth c b H locs cells slots (F0 m 784 ls []) :=
  lw_caseI (i1 := 85) (i2 := 88) (ag := [(0, 1)]) (f := fun j => (xs (i + j)).toInt) (off := 1564) hX lwm_184 lwm_323 rfl (fun _ => rfl) (by decide) (by decide +kernel) (by decide) hls hi (lwc_15 (fun _ => zr32 _)) hI hcap kk
theorem lwc_16 (hf : ∀ j, r32 (f j)) : lwC 185 324 (([(0, 1)] : List zAg).map (agV f)) false := fun S m1 m2 h1 h2 hI hN => by
  obtain ⟨m1', e1, r1⟩ := p_length (v := 0) h1 (f 1)
  obtain ⟨m2', e2, r2⟩ := w_length (v := 0) h2 (f 1)
  exact ⟨(o_length S (f 1)).1, (o_length S (f 1)).2, m1', m2', e1, r1, e2, r2, (k_length (f 1)).nx hI⟩
theorem lwk_16 (hX : lwX p s m meth c b L xs D) (hls : lwS ls b xa ya i) (hi : i + 7 ≤ L) (hI : lwI s D H locs xa ya S) (hcap : cells + 1 ≤ 600000 ∧ slots + 9 ≤ 7302250) (kk : ∀ (H1 : Heap) (locs1 : List Loc) (S' : zSt), lwI s D H1 locs1 xa ya S' → lwG p l e s m below meth c b H1 locs1 (cells + 1) (slots + 9) (F0 m 2366 ls [])) : lwG p l e s m below meth c b H locs cells slots (F0 m 807 ls []) :=
  lw_caseI (i1 := 89) (i2 := 92) (ag := [(0, 1)]) (f := fun j => (xs (i + j)).toInt) (off := 1541) hX lwm_185 lwm_324 rfl (fun _ => rfl) (by decide) (by decide +kernel) (by decide) hls hi (lwc_16 (fun _ => zr32 _)) hI hcap kk
theorem lwc_17 (hf : ∀ j, r32 (f j)) : lwC 187 325 (([(0, 1), (0, 2)] : List zAg).map (agV f)) false := fun S m1 m2 h1 h2 hI hN => by
  obtain ⟨m1', e1, r1⟩ := p_says (v := 0) h1 (f 1) (f 2)
  obtain ⟨m2', e2, r2⟩ := w_says (v := 0) h2 (f 1) (f 2)
  exact ⟨(o_says S (f 1) (f 2)).1, (o_says S (f 1) (f 2)).2, m1', m2', e1, r1, e2, r2, (k_says (f 1) (f 2)).nx hI⟩
theorem lwk_17 (hX : lwX p s m meth c b L xs D) (hls : lwS ls b xa ya i) (hi : i + 7 ≤ L) (hI : lwI s D H locs xa ya S) (hcap : cells + 1 ≤ 600000 ∧ slots + 9 ≤ 7302250) (kk : ∀ (H1 : Heap) (locs1 : List Loc) (S' : zSt), lwI s D H1 locs1 xa ya S' → lwG p l e s m below meth c b H1 locs1 (cells + 1) (slots + 9) (F0 m 2366 ls [])) : lwG p l e s m below meth c b H locs cells slots (F0 m 830 ls []) :=
  lw_caseI (i1 := 93) (i2 := 96) (ag := [(0, 1), (0, 2)]) (f := fun j => (xs (i + j)).toInt) (off := 1508) hX lwm_187 lwm_325 rfl (fun _ => rfl) (by decide) (by decide +kernel) (by decide) hls hi (lwc_17 (fun _ => zr32 _)) hI hcap kk
theorem lwc_18 (hf : ∀ j, r32 (f j)) : lwC 189 326 (([(0, 1), (0, 2)] : List zAg).map (agV f)) false := fun S m1 m2 h1 h2 hI hN => by
  obtain ⟨m1', e1, r1⟩ := p_copyRow (v := 0) h1 (f 1) (f 2)
  obtain ⟨m2', e2, r2⟩ := w_copyRow (v := 0) h2 (f 1) (f 2)
  exact ⟨(o_copyRow S (f 1) (f 2)).1, (o_copyRow S (f 1) (f 2)).2, m1', m2', e1, r1, e2, r2, (k_copyRow (f 1) (f 2)).nx hI⟩
theorem lwk_18 (hX : lwX p s m meth c b L xs D) (hls : lwS ls b xa ya i) (hi : i + 7 ≤ L) (hI : lwI s D H locs xa ya S) (hcap : cells + 1 ≤ 600000 ∧ slots + 9 ≤ 7302250) (kk : ∀ (H1 : Heap) (locs1 : List Loc) (S' : zSt), lwI s D H1 locs1 xa ya S' → lwG p l e s m below meth c b H1 locs1 (cells + 1) (slots + 9) (F0 m 2366 ls [])) : lwG p l e s m below meth c b H locs cells slots (F0 m 863 ls []) :=
  lw_caseI (i1 := 97) (i2 := 100) (ag := [(0, 1), (0, 2)]) (f := fun j => (xs (i + j)).toInt) (off := 1475) hX lwm_189 lwm_326 rfl (fun _ => rfl) (by decide) (by decide +kernel) (by decide) hls hi (lwc_18 (fun _ => zr32 _)) hI hcap kk
theorem lwc_19 (hf : ∀ j, r32 (f j)) : lwC 190 346 (([(0, 1)] : List zAg).map (agV f)) false := fun S m1 m2 h1 h2 hI hN => by
  obtain ⟨m1', e1, r1⟩ := p_day (v := 0) h1 (f 1)
  obtain ⟨m2', e2, r2⟩ := w_day (v := 0) h2 (qTd hI) (f 1)
  exact ⟨(o_day S (f 1)).1, (o_day S (f 1)).2, m1', m2', e1, r1, e2, r2, q_day hI (f 1)⟩
theorem lwk_19 (hX : lwX p s m meth c b L xs D) (hls : lwS ls b xa ya i) (hi : i + 7 ≤ L) (hI : lwI s D H locs xa ya S) (hcap : cells + 1 ≤ 600000 ∧ slots + 9 ≤ 7302250) (kk : ∀ (H1 : Heap) (locs1 : List Loc) (S' : zSt), lwI s D H1 locs1 xa ya S' → lwG p l e s m below meth c b H1 locs1 (cells + 1) (slots + 9) (F0 m 2366 ls [])) : lwG p l e s m below meth c b H locs cells slots (F0 m 896 ls []) :=
  lw_caseI (i1 := 101) (i2 := 104) (ag := [(0, 1)]) (f := fun j => (xs (i + j)).toInt) (off := 1452) hX lwm_190 lwm_346 rfl (fun _ => rfl) (by decide) (by decide +kernel) (by decide) hls hi (lwc_19 (fun _ => zr32 _)) hI hcap kk
theorem lwc_20 (hf : ∀ j, r32 (f j)) : lwC 191 349 (([(0, 1), (0, 2)] : List zAg).map (agV f)) false := fun S m1 m2 h1 h2 hI hN => by
  obtain ⟨m1', e1, r1⟩ := p_go (v := 0) h1 (f 1) (f 2)
  obtain ⟨m2', e2, r2⟩ := w_go (v := 0) h2 (f 1) (f 2)
  exact ⟨(o_go S (f 1) (f 2)).1, (o_go S (f 1) (f 2)).2, m1', m2', e1, r1, e2, r2, q_go hI (f 1) (f 2)⟩
theorem lwk_20 (hX : lwX p s m meth c b L xs D) (hls : lwS ls b xa ya i) (hi : i + 7 ≤ L) (hI : lwI s D H locs xa ya S) (hcap : cells + 1 ≤ 600000 ∧ slots + 9 ≤ 7302250) (kk : ∀ (H1 : Heap) (locs1 : List Loc) (S' : zSt), lwI s D H1 locs1 xa ya S' → lwG p l e s m below meth c b H1 locs1 (cells + 1) (slots + 9) (F0 m 2366 ls [])) : lwG p l e s m below meth c b H locs cells slots (F0 m 919 ls []) :=
  lw_caseI (i1 := 105) (i2 := 108) (ag := [(0, 1), (0, 2)]) (f := fun j => (xs (i + j)).toInt) (off := 1419) hX lwm_191 lwm_349 rfl (fun _ => rfl) (by decide) (by decide +kernel) (by decide) hls hi (lwc_20 (fun _ => zr32 _)) hI hcap kk
theorem lwc_21 (hf : ∀ j, r32 (f j)) : lwC 192 351 (([(0, 1), (1, 2)] : List zAg).map (agV f)) false := fun S m1 m2 h1 h2 hI hN => by
  obtain ⟨m1', e1, r1⟩ := p_lose (v := 0) h1 (f 1) (!decide (f 2 = 0))
  obtain ⟨m2', e2, r2⟩ := w_lose (v := 0) h2 (f 1) (!decide (f 2 = 0))
  exact ⟨(o_lose S (f 1) (!decide (f 2 = 0))).1, (o_lose S (f 1) (!decide (f 2 = 0))).2, m1', m2', e1, r1, e2, r2, q_lose hI (f 1) (!decide (f 2 = 0))⟩
theorem lwk_21 (hX : lwX p s m meth c b L xs D) (hls : lwS ls b xa ya i) (hi : i + 7 ≤ L) (hI : lwI s D H locs xa ya S) (hcap : cells + 1 ≤ 600000 ∧ slots + 9 ≤ 7302250) (kk : ∀ (H1 : Heap) (locs1 : List Loc) (S' : zSt), lwI s D H1 locs1 xa ya S' → lwG p l e s m below meth c b H1 locs1 (cells + 1) (slots + 9) (F0 m 2366 ls [])) : lwG p l e s m below meth c b H locs cells slots (F0 m 952 ls []) :=
  lw_caseI (i1 := 109) (i2 := 113) (ag := [(0, 1), (1, 2)]) (f := fun j => (xs (i + j)).toInt) (off := 1370) hX lwm_192 lwm_351 rfl (fun _ => rfl) (by decide) (by decide +kernel) (by decide) hls hi (lwc_21 (fun _ => zr32 _)) hI hcap kk
theorem lwc_22 (hf : ∀ j, r32 (f j)) : lwC 195 352 (([(0, 1), (0, 2), (0, 3)] : List zAg).map (agV f)) false := fun S m1 m2 h1 h2 hI hN => by
  obtain ⟨m1', e1, r1⟩ := p_teach (v := 0) h1 (f 1) (f 2) (f 3)
  obtain ⟨m2', e2, r2⟩ := w_teach (v := 0) h2 (f 1) (f 2) (f 3)
  exact ⟨(o_teach S (f 1) (f 2) (f 3)).1, (o_teach S (f 1) (f 2) (f 3)).2, m1', m2', e1, r1, e2, r2, q_teach hI (f 1) (f 2) (f 3)⟩
theorem lwk_22 (hX : lwX p s m meth c b L xs D) (hls : lwS ls b xa ya i) (hi : i + 7 ≤ L) (hI : lwI s D H locs xa ya S) (hcap : cells + 1 ≤ 600000 ∧ slots + 9 ≤ 7302250) (kk : ∀ (H1 : Heap) (locs1 : List Loc) (S' : zSt), lwI s D H1 locs1 xa ya S' → lwG p l e s m below meth c b H1 locs1 (cells + 1) (slots + 9) (F0 m 2366 ls [])) : lwG p l e s m below meth c b H locs cells slots (F0 m 1001 ls []) :=
  lw_caseI (i1 := 114) (i2 := 117) (ag := [(0, 1), (0, 2), (0, 3)]) (f := fun j => (xs (i + j)).toInt) (off := 1327) hX lwm_195 lwm_352 rfl (fun _ => rfl) (by decide) (by decide +kernel) (by decide) hls hi (lwc_22 (fun _ => zr32 _)) hI hcap kk
theorem lwc_23 (hf : ∀ j, r32 (f j)) : lwC 196 353 (([(0, 1), (0, 2), (0, 3), (0, 4), (1, 5)] : List zAg).map (agV f)) false := fun S m1 m2 h1 h2 hI hN => by
  obtain ⟨m1', e1, r1⟩ := p_amend (v := 0) h1 (f 1) (f 2) (f 3) (f 4) (!decide (f 5 = 0))
  obtain ⟨m2', e2, r2⟩ := w_amend (v := 0) h2 (f 1) (f 2) (f 3) (f 4) (!decide (f 5 = 0))
  exact ⟨(o_amend S (f 1) (f 2) (f 3) (f 4) (!decide (f 5 = 0))).1, (o_amend S (f 1) (f 2) (f 3) (f 4) (!decide (f 5 = 0))).2, m1', m2', e1, r1, e2, r2, q_amend hI (f 1) (f 2) (f 3) (f 4) (!decide (f 5 = 0))⟩
theorem lwk_23 (hX : lwX p s m meth c b L xs D) (hls : lwS ls b xa ya i) (hi : i + 7 ≤ L) (hI : lwI s D H locs xa ya S) (hcap : cells + 1 ≤ 600000 ∧ slots + 9 ≤ 7302250) (kk : ∀ (H1 : Heap) (locs1 : List Loc) (S' : zSt), lwI s D H1 locs1 xa ya S' → lwG p l e s m below meth c b H1 locs1 (cells + 1) (slots + 9) (F0 m 2366 ls [])) : lwG p l e s m below meth c b H locs cells slots (F0 m 1044 ls []) :=
  lw_caseI (i1 := 118) (i2 := 122) (ag := [(0, 1), (0, 2), (0, 3), (0, 4), (1, 5)]) (f := fun j => (xs (i + j)).toInt) (off := 1248) hX lwm_196 lwm_353 rfl (fun _ => rfl) (by decide) (by decide +kernel) (by decide) hls hi (lwc_23 (fun _ => zr32 _)) hI hcap kk
theorem lwc_24 (hf : ∀ j, r32 (f j)) : lwC 197 354 (([(0, 1), (0, 2)] : List zAg).map (agV f)) false := fun S m1 m2 h1 h2 hI hN => by
  obtain ⟨m1', e1, r1⟩ := p_strike (v := 0) h1 (f 1) (f 2)
  obtain ⟨m2', e2, r2⟩ := w_strike (v := 0) h2 (f 1) (f 2)
  exact ⟨(o_strike S (f 1) (f 2)).1, (o_strike S (f 1) (f 2)).2, m1', m2', e1, r1, e2, r2, q_strike hI (f 1) (f 2)⟩
theorem lwk_24 (hX : lwX p s m meth c b L xs D) (hls : lwS ls b xa ya i) (hi : i + 7 ≤ L) (hI : lwI s D H locs xa ya S) (hcap : cells + 1 ≤ 600000 ∧ slots + 9 ≤ 7302250) (kk : ∀ (H1 : Heap) (locs1 : List Loc) (S' : zSt), lwI s D H1 locs1 xa ya S' → lwG p l e s m below meth c b H1 locs1 (cells + 1) (slots + 9) (F0 m 2366 ls [])) : lwG p l e s m below meth c b H locs cells slots (F0 m 1123 ls []) :=
  lw_caseI (i1 := 123) (i2 := 126) (ag := [(0, 1), (0, 2)]) (f := fun j => (xs (i + j)).toInt) (off := 1215) hX lwm_197 lwm_354 rfl (fun _ => rfl) (by decide) (by decide +kernel) (by decide) hls hi (lwc_24 (fun _ => zr32 _)) hI hcap kk
theorem lwc_25 (hf : ∀ j, r32 (f j)) : lwC 198 355 (([(0, 1), (0, 2), (0, 3)] : List zAg).map (agV f)) false := fun S m1 m2 h1 h2 hI hN => by
  obtain ⟨m1', e1, r1⟩ := p_swap (v := 0) h1 (f 1) (f 2) (f 3)
  obtain ⟨m2', e2, r2⟩ := w_swap (v := 0) h2 (f 1) (f 2) (f 3)
  exact ⟨(o_swap S (f 1) (f 2) (f 3)).1, (o_swap S (f 1) (f 2) (f 3)).2, m1', m2', e1, r1, e2, r2, q_swap hI (f 1) (f 2) (f 3)⟩
theorem lwk_25 (hX : lwX p s m meth c b L xs D) (hls : lwS ls b xa ya i) (hi : i + 7 ≤ L) (hI : lwI s D H locs xa ya S) (hcap : cells + 1 ≤ 600000 ∧ slots + 9 ≤ 7302250) (kk : ∀ (H1 : Heap) (locs1 : List Loc) (S' : zSt), lwI s D H1 locs1 xa ya S' → lwG p l e s m below meth c b H1 locs1 (cells + 1) (slots + 9) (F0 m 2366 ls [])) : lwG p l e s m below meth c b H locs cells slots (F0 m 1156 ls []) :=
  lw_caseI (i1 := 127) (i2 := 130) (ag := [(0, 1), (0, 2), (0, 3)]) (f := fun j => (xs (i + j)).toInt) (off := 1172) hX lwm_198 lwm_355 rfl (fun _ => rfl) (by decide) (by decide +kernel) (by decide) hls hi (lwc_25 (fun _ => zr32 _)) hI hcap kk
theorem lwc_26 (hf : ∀ j, r32 (f j)) : lwC 199 356 (([(0, 1)] : List zAg).map (agV f)) false := fun S m1 m2 h1 h2 hI hN => by
  obtain ⟨m1', e1, r1⟩ := p_rule (v := 0) h1 (f 1)
  obtain ⟨m2', e2, r2⟩ := w_rule (v := 0) h2 (f 1)
  exact ⟨(o_rule S (f 1)).1, (o_rule S (f 1)).2, m1', m2', e1, r1, e2, r2, q_rule hI (f 1)⟩
theorem lwk_26 (hX : lwX p s m meth c b L xs D) (hls : lwS ls b xa ya i) (hi : i + 7 ≤ L) (hI : lwI s D H locs xa ya S) (hcap : cells + 1 ≤ 600000 ∧ slots + 9 ≤ 7302250) (kk : ∀ (H1 : Heap) (locs1 : List Loc) (S' : zSt), lwI s D H1 locs1 xa ya S' → lwG p l e s m below meth c b H1 locs1 (cells + 1) (slots + 9) (F0 m 2366 ls [])) : lwG p l e s m below meth c b H locs cells slots (F0 m 1199 ls []) :=
  lw_caseI (i1 := 131) (i2 := 135) (ag := [(0, 1)]) (f := fun j => (xs (i + j)).toInt) (off := 1149) hX lwm_199 lwm_356 rfl (fun _ => rfl) (by decide) (by decide +kernel) (by decide) hls hi (lwc_26 (fun _ => zr32 _)) hI hcap kk
theorem lwc_27 (hf : ∀ j, r32 (f j)) : lwC 200 357 (([(0, 1), (0, 2), (0, 3), (0, 4)] : List zAg).map (agV f)) false := fun S m1 m2 h1 h2 hI hN => by
  obtain ⟨m1', e1, r1⟩ := p_right (v := 0) h1 (f 1) (f 2) (f 3) (f 4)
  obtain ⟨m2', e2, r2⟩ := w_right (v := 0) h2 (f 1) (f 2) (f 3) (f 4)
  exact ⟨(o_right S (f 1) (f 2) (f 3) (f 4)).1, (o_right S (f 1) (f 2) (f 3) (f 4)).2, m1', m2', e1, r1, e2, r2, (k_right (f 1) (f 2) (f 3) (f 4)).nx hI⟩
theorem lwk_27 (hX : lwX p s m meth c b L xs D) (hls : lwS ls b xa ya i) (hi : i + 7 ≤ L) (hI : lwI s D H locs xa ya S) (hcap : cells + 1 ≤ 600000 ∧ slots + 9 ≤ 7302250) (kk : ∀ (H1 : Heap) (locs1 : List Loc) (S' : zSt), lwI s D H1 locs1 xa ya S' → lwG p l e s m below meth c b H1 locs1 (cells + 1) (slots + 9) (F0 m 2366 ls [])) : lwG p l e s m below meth c b H locs cells slots (F0 m 1222 ls []) :=
  lw_caseI (i1 := 136) (i2 := 140) (ag := [(0, 1), (0, 2), (0, 3), (0, 4)]) (f := fun j => (xs (i + j)).toInt) (off := 1096) hX lwm_200 lwm_357 rfl (fun _ => rfl) (by decide) (by decide +kernel) (by decide) hls hi (lwc_27 (fun _ => zr32 _)) hI hcap kk
theorem lwc_28 (hf : ∀ j, r32 (f j)) : lwC 201 358 (([(0, 1), (0, 2), (0, 3)] : List zAg).map (agV f)) false := fun S m1 m2 h1 h2 hI hN => by
  obtain ⟨m1', e1, r1⟩ := p_vain (v := 0) h1 (f 1) (f 2) (f 3)
  obtain ⟨m2', e2, r2⟩ := w_vain (v := 0) h2 (f 1) (f 2) (f 3)
  exact ⟨(o_vain S (f 1) (f 2) (f 3)).1, (o_vain S (f 1) (f 2) (f 3)).2, m1', m2', e1, r1, e2, r2, (k_vain (f 1) (f 2) (f 3)).nx hI⟩
theorem lwk_28 (hX : lwX p s m meth c b L xs D) (hls : lwS ls b xa ya i) (hi : i + 7 ≤ L) (hI : lwI s D H locs xa ya S) (hcap : cells + 1 ≤ 600000 ∧ slots + 9 ≤ 7302250) (kk : ∀ (H1 : Heap) (locs1 : List Loc) (S' : zSt), lwI s D H1 locs1 xa ya S' → lwG p l e s m below meth c b H1 locs1 (cells + 1) (slots + 9) (F0 m 2366 ls [])) : lwG p l e s m below meth c b H locs cells slots (F0 m 1275 ls []) :=
  lw_caseI (i1 := 141) (i2 := 144) (ag := [(0, 1), (0, 2), (0, 3)]) (f := fun j => (xs (i + j)).toInt) (off := 1053) hX lwm_201 lwm_358 rfl (fun _ => rfl) (by decide) (by decide +kernel) (by decide) hls hi (lwc_28 (fun _ => zr32 _)) hI hcap kk
theorem lwc_29 (hf : ∀ j, r32 (f j)) : lwC 202 359 (([(0, 1), (0, 2), (0, 3), (0, 4), (0, 5)] : List zAg).map (agV f)) false := fun S m1 m2 h1 h2 hI hN => by
  obtain ⟨m1', e1, r1⟩ := p_makes (v := 0) h1 (f 1) (f 2) (f 3) (f 4) (f 5)
  obtain ⟨m2', e2, r2⟩ := w_makes (v := 0) h2 (f 1) (f 2) (f 3) (f 4) (f 5)
  exact ⟨(o_makes S (f 1) (f 2) (f 3) (f 4) (f 5)).1, (o_makes S (f 1) (f 2) (f 3) (f 4) (f 5)).2, m1', m2', e1, r1, e2, r2, (k_makes (f 1) (f 2) (f 3) (f 4) (f 5)).nx hI⟩
theorem lwk_29 (hX : lwX p s m meth c b L xs D) (hls : lwS ls b xa ya i) (hi : i + 7 ≤ L) (hI : lwI s D H locs xa ya S) (hcap : cells + 1 ≤ 600000 ∧ slots + 9 ≤ 7302250) (kk : ∀ (H1 : Heap) (locs1 : List Loc) (S' : zSt), lwI s D H1 locs1 xa ya S' → lwG p l e s m below meth c b H1 locs1 (cells + 1) (slots + 9) (F0 m 2366 ls [])) : lwG p l e s m below meth c b H locs cells slots (F0 m 1318 ls []) :=
  lw_caseI (i1 := 145) (i2 := 148) (ag := [(0, 1), (0, 2), (0, 3), (0, 4), (0, 5)]) (f := fun j => (xs (i + j)).toInt) (off := 990) hX lwm_202 lwm_359 rfl (fun _ => rfl) (by decide) (by decide +kernel) (by decide) hls hi (lwc_29 (fun _ => zr32 _)) hI hcap kk
theorem lwc_30 (hf : ∀ j, r32 (f j)) : lwC 203 360 (([(0, 1), (0, 2), (0, 3), (0, 4)] : List zAg).map (agV f)) false := fun S m1 m2 h1 h2 hI hN => by
  obtain ⟨m1', e1, r1⟩ := p_second (v := 0) h1 (f 1) (f 2) (f 3) (f 4)
  obtain ⟨m2', e2, r2⟩ := w_second (v := 0) h2 (f 1) (f 2) (f 3) (f 4)
  exact ⟨(o_second S (f 1) (f 2) (f 3) (f 4)).1, (o_second S (f 1) (f 2) (f 3) (f 4)).2, m1', m2', e1, r1, e2, r2, q_second hI (f 1) (f 2) (f 3) (f 4)⟩
theorem lwk_30 (hX : lwX p s m meth c b L xs D) (hls : lwS ls b xa ya i) (hi : i + 7 ≤ L) (hI : lwI s D H locs xa ya S) (hcap : cells + 1 ≤ 600000 ∧ slots + 9 ≤ 7302250) (kk : ∀ (H1 : Heap) (locs1 : List Loc) (S' : zSt), lwI s D H1 locs1 xa ya S' → lwG p l e s m below meth c b H1 locs1 (cells + 1) (slots + 9) (F0 m 2366 ls [])) : lwG p l e s m below meth c b H locs cells slots (F0 m 1381 ls []) :=
  lw_caseI (i1 := 149) (i2 := 152) (ag := [(0, 1), (0, 2), (0, 3), (0, 4)]) (f := fun j => (xs (i + j)).toInt) (off := 937) hX lwm_203 lwm_360 rfl (fun _ => rfl) (by decide) (by decide +kernel) (by decide) hls hi (lwc_30 (fun _ => zr32 _)) hI hcap kk
theorem lwc_31 (hf : ∀ j, r32 (f j)) : lwC 206 362 (([(0, 1), (0, 2), (0, 3), (0, 4), (0, 5)] : List zAg).map (agV f)) false := fun S m1 m2 h1 h2 hI hN => by
  obtain ⟨m1', e1, r1⟩ := p_chance (v := 0) h1 hI.1.1 (f 1) (f 2) (f 3) (f 4) (f 5)
  obtain ⟨m2', e2, r2⟩ := w_chance (v := 0) h2 hI.1.1 (f 1) (f 2) (f 3) (f 4) (f 5)
  exact ⟨(o_chance S (f 1) (f 2) (f 3) (f 4) (f 5)).1, (o_chance S (f 1) (f 2) (f 3) (f 4) (f 5)).2, m1', m2', e1, r1, e2, r2, (k_chance (f 1) (f 2) (f 3) (f 4) (f 5)).nx hI⟩
theorem lwk_31 (hX : lwX p s m meth c b L xs D) (hls : lwS ls b xa ya i) (hi : i + 7 ≤ L) (hI : lwI s D H locs xa ya S) (hcap : cells + 1 ≤ 600000 ∧ slots + 9 ≤ 7302250) (kk : ∀ (H1 : Heap) (locs1 : List Loc) (S' : zSt), lwI s D H1 locs1 xa ya S' → lwG p l e s m below meth c b H1 locs1 (cells + 1) (slots + 9) (F0 m 2366 ls [])) : lwG p l e s m below meth c b H locs cells slots (F0 m 1434 ls []) :=
  lw_caseI (i1 := 153) (i2 := 156) (ag := [(0, 1), (0, 2), (0, 3), (0, 4), (0, 5)]) (f := fun j => (xs (i + j)).toInt) (off := 874) hX lwm_206 lwm_362 rfl (fun _ => rfl) (by decide) (by decide +kernel) (by decide) hls hi (lwc_31 (fun _ => zr32 _)) hI hcap kk
theorem lwc_32 (hf : ∀ j, r32 (f j)) : lwC 207 364 (([(0, 1), (0, 2), (0, 3)] : List zAg).map (agV f)) false := fun S m1 m2 h1 h2 hI hN => by
  obtain ⟨m1', e1, r1⟩ := p_same (v := 0) h1 (f 1) (f 2) (f 3)
  obtain ⟨m2', e2, r2⟩ := w_same (v := 0) h2 (f 1) (f 2) (f 3)
  exact ⟨(o_same S (f 1) (f 2) (f 3)).1, (o_same S (f 1) (f 2) (f 3)).2, m1', m2', e1, r1, e2, r2, (k_same (f 1) (f 2) (f 3)).nx hI⟩
theorem lwk_32 (hX : lwX p s m meth c b L xs D) (hls : lwS ls b xa ya i) (hi : i + 7 ≤ L) (hI : lwI s D H locs xa ya S) (hcap : cells + 1 ≤ 600000 ∧ slots + 9 ≤ 7302250) (kk : ∀ (H1 : Heap) (locs1 : List Loc) (S' : zSt), lwI s D H1 locs1 xa ya S' → lwG p l e s m below meth c b H1 locs1 (cells + 1) (slots + 9) (F0 m 2366 ls [])) : lwG p l e s m below meth c b H locs cells slots (F0 m 1497 ls []) :=
  lw_caseI (i1 := 157) (i2 := 160) (ag := [(0, 1), (0, 2), (0, 3)]) (f := fun j => (xs (i + j)).toInt) (off := 831) hX lwm_207 lwm_364 rfl (fun _ => rfl) (by decide) (by decide +kernel) (by decide) hls hi (lwc_32 (fun _ => zr32 _)) hI hcap kk
theorem lwc_33 (hf : ∀ j, r32 (f j)) : lwC 208 367 (([(0, 1), (0, 2), (0, 3)] : List zAg).map (agV f)) false := fun S m1 m2 h1 h2 hI hN => by
  obtain ⟨m1', e1, r1⟩ := p_circles (v := 0) h1 (f 1) (f 2) (f 3)
  obtain ⟨m2', e2, r2⟩ := w_circles (v := 0) h2 (f 1) (f 2) (f 3)
  exact ⟨(o_circles S (f 1) (f 2) (f 3)).1, (o_circles S (f 1) (f 2) (f 3)).2, m1', m2', e1, r1, e2, r2, (k_circles (f 1) (f 2) (f 3)).nx hI⟩
theorem lwk_33 (hX : lwX p s m meth c b L xs D) (hls : lwS ls b xa ya i) (hi : i + 7 ≤ L) (hI : lwI s D H locs xa ya S) (hcap : cells + 1 ≤ 600000 ∧ slots + 9 ≤ 7302250) (kk : ∀ (H1 : Heap) (locs1 : List Loc) (S' : zSt), lwI s D H1 locs1 xa ya S' → lwG p l e s m below meth c b H1 locs1 (cells + 1) (slots + 9) (F0 m 2366 ls [])) : lwG p l e s m below meth c b H locs cells slots (F0 m 1540 ls []) :=
  lw_caseI (i1 := 161) (i2 := 164) (ag := [(0, 1), (0, 2), (0, 3)]) (f := fun j => (xs (i + j)).toInt) (off := 788) hX lwm_208 lwm_367 rfl (fun _ => rfl) (by decide) (by decide +kernel) (by decide) hls hi (lwc_33 (fun _ => zr32 _)) hI hcap kk
theorem lwc_34 (hf : ∀ j, r32 (f j)) : lwC 209 368 (([(0, 1), (0, 2)] : List zAg).map (agV f)) false := fun S m1 m2 h1 h2 hI hN => by
  obtain ⟨m1', e1, r1⟩ := p_joined (v := 0) h1 (f 1) (f 2)
  obtain ⟨m2', e2, r2⟩ := w_joined (v := 0) h2 (f 1) (f 2)
  exact ⟨(o_joined S (f 1) (f 2)).1, (o_joined S (f 1) (f 2)).2, m1', m2', e1, r1, e2, r2, (k_joined (f 1) (f 2)).nx hI⟩
theorem lwk_34 (hX : lwX p s m meth c b L xs D) (hls : lwS ls b xa ya i) (hi : i + 7 ≤ L) (hI : lwI s D H locs xa ya S) (hcap : cells + 1 ≤ 600000 ∧ slots + 9 ≤ 7302250) (kk : ∀ (H1 : Heap) (locs1 : List Loc) (S' : zSt), lwI s D H1 locs1 xa ya S' → lwG p l e s m below meth c b H1 locs1 (cells + 1) (slots + 9) (F0 m 2366 ls [])) : lwG p l e s m below meth c b H locs cells slots (F0 m 1583 ls []) :=
  lw_caseI (i1 := 165) (i2 := 168) (ag := [(0, 1), (0, 2)]) (f := fun j => (xs (i + j)).toInt) (off := 755) hX lwm_209 lwm_368 rfl (fun _ => rfl) (by decide) (by decide +kernel) (by decide) hls hi (lwc_34 (fun _ => zr32 _)) hI hcap kk
theorem lwc_35 (hf : ∀ j, r32 (f j)) : lwC 210 370 (([(0, 1), (0, 2)] : List zAg).map (agV f)) false := fun S m1 m2 h1 h2 hI hN => by
  obtain ⟨m1', e1, r1⟩ := p_route (v := 0) h1 (f 1) (f 2)
  obtain ⟨m2', e2, r2⟩ := w_route (v := 0) h2 (f 1) (f 2)
  exact ⟨(o_route S (f 1) (f 2)).1, (o_route S (f 1) (f 2)).2, m1', m2', e1, r1, e2, r2, (k_route (f 1) (f 2)).nx hI⟩
theorem lwk_35 (hX : lwX p s m meth c b L xs D) (hls : lwS ls b xa ya i) (hi : i + 7 ≤ L) (hI : lwI s D H locs xa ya S) (hcap : cells + 1 ≤ 600000 ∧ slots + 9 ≤ 7302250) (kk : ∀ (H1 : Heap) (locs1 : List Loc) (S' : zSt), lwI s D H1 locs1 xa ya S' → lwG p l e s m below meth c b H1 locs1 (cells + 1) (slots + 9) (F0 m 2366 ls [])) : lwG p l e s m below meth c b H locs cells slots (F0 m 1616 ls []) :=
  lw_caseI (i1 := 169) (i2 := 172) (ag := [(0, 1), (0, 2)]) (f := fun j => (xs (i + j)).toInt) (off := 722) hX lwm_210 lwm_370 rfl (fun _ => rfl) (by decide) (by decide +kernel) (by decide) hls hi (lwc_35 (fun _ => zr32 _)) hI hcap kk
theorem lwc_36 (hf : ∀ j, r32 (f j)) : lwC 211 371 (([(0, 1), (0, 2)] : List zAg).map (agV f)) false := fun S m1 m2 h1 h2 hI hN => by
  obtain ⟨m1', e1, r1⟩ := p_routeFirst (v := 0) h1 (f 1) (f 2)
  obtain ⟨m2', e2, r2⟩ := w_routeFirst (v := 0) h2 (f 1) (f 2)
  exact ⟨(o_routeFirst S (f 1) (f 2)).1, (o_routeFirst S (f 1) (f 2)).2, m1', m2', e1, r1, e2, r2, (k_routeFirst (f 1) (f 2)).nx hI⟩
theorem lwk_36 (hX : lwX p s m meth c b L xs D) (hls : lwS ls b xa ya i) (hi : i + 7 ≤ L) (hI : lwI s D H locs xa ya S) (hcap : cells + 1 ≤ 600000 ∧ slots + 9 ≤ 7302250) (kk : ∀ (H1 : Heap) (locs1 : List Loc) (S' : zSt), lwI s D H1 locs1 xa ya S' → lwG p l e s m below meth c b H1 locs1 (cells + 1) (slots + 9) (F0 m 2366 ls [])) : lwG p l e s m below meth c b H locs cells slots (F0 m 1649 ls []) :=
  lw_caseI (i1 := 173) (i2 := 176) (ag := [(0, 1), (0, 2)]) (f := fun j => (xs (i + j)).toInt) (off := 689) hX lwm_211 lwm_371 rfl (fun _ => rfl) (by decide) (by decide +kernel) (by decide) hls hi (lwc_36 (fun _ => zr32 _)) hI hcap kk
theorem lwc_37 (hf : ∀ j, r32 (f j)) : lwC 212 372 (([(0, 1)] : List zAg).map (agV f)) false := fun S m1 m2 h1 h2 hI hN => by
  obtain ⟨m1', e1, r1⟩ := p_reach (v := 0) h1 (f 1)
  obtain ⟨m2', e2, r2⟩ := w_reach (v := 0) h2 (f 1)
  exact ⟨(o_reach S (f 1)).1, (o_reach S (f 1)).2, m1', m2', e1, r1, e2, r2, (k_reach (f 1)).nx hI⟩
theorem lwk_37 (hX : lwX p s m meth c b L xs D) (hls : lwS ls b xa ya i) (hi : i + 7 ≤ L) (hI : lwI s D H locs xa ya S) (hcap : cells + 1 ≤ 600000 ∧ slots + 9 ≤ 7302250) (kk : ∀ (H1 : Heap) (locs1 : List Loc) (S' : zSt), lwI s D H1 locs1 xa ya S' → lwG p l e s m below meth c b H1 locs1 (cells + 1) (slots + 9) (F0 m 2366 ls [])) : lwG p l e s m below meth c b H locs cells slots (F0 m 1682 ls []) :=
  lw_caseI (i1 := 177) (i2 := 180) (ag := [(0, 1)]) (f := fun j => (xs (i + j)).toInt) (off := 666) hX lwm_212 lwm_372 rfl (fun _ => rfl) (by decide) (by decide +kernel) (by decide) hls hi (lwc_37 (fun _ => zr32 _)) hI hcap kk
theorem lwc_38 (hf : ∀ j, r32 (f j)) : lwC 213 374 (([(0, 1), (0, 2)] : List zAg).map (agV f)) false := fun S m1 m2 h1 h2 hI hN => by
  obtain ⟨m1', e1, r1⟩ := p_omitted (v := 0) h1 (f 1) (f 2)
  obtain ⟨m2', e2, r2⟩ := w_omitted (v := 0) h2 (f 1) (f 2)
  exact ⟨(o_omitted S (f 1) (f 2)).1, (o_omitted S (f 1) (f 2)).2, m1', m2', e1, r1, e2, r2, (k_omitted (f 1) (f 2)).nx hI⟩
theorem lwk_38 (hX : lwX p s m meth c b L xs D) (hls : lwS ls b xa ya i) (hi : i + 7 ≤ L) (hI : lwI s D H locs xa ya S) (hcap : cells + 1 ≤ 600000 ∧ slots + 9 ≤ 7302250) (kk : ∀ (H1 : Heap) (locs1 : List Loc) (S' : zSt), lwI s D H1 locs1 xa ya S' → lwG p l e s m below meth c b H1 locs1 (cells + 1) (slots + 9) (F0 m 2366 ls [])) : lwG p l e s m below meth c b H locs cells slots (F0 m 1705 ls []) :=
  lw_caseI (i1 := 181) (i2 := 184) (ag := [(0, 1), (0, 2)]) (f := fun j => (xs (i + j)).toInt) (off := 633) hX lwm_213 lwm_374 rfl (fun _ => rfl) (by decide) (by decide +kernel) (by decide) hls hi (lwc_38 (fun _ => zr32 _)) hI hcap kk
theorem lwc_39 (hf : ∀ j, r32 (f j)) : lwC 214 375 (([(0, 1)] : List zAg).map (agV f)) false := fun S m1 m2 h1 h2 hI hN => by
  obtain ⟨m1', e1, r1⟩ := p_nextOmitted (v := 0) h1 (f 1)
  obtain ⟨m2', e2, r2⟩ := w_nextOmitted (v := 0) h2 (f 1)
  exact ⟨(o_nextOmitted S (f 1)).1, (o_nextOmitted S (f 1)).2, m1', m2', e1, r1, e2, r2, (k_nextOmitted (f 1)).nx hI⟩
theorem lwk_39 (hX : lwX p s m meth c b L xs D) (hls : lwS ls b xa ya i) (hi : i + 7 ≤ L) (hI : lwI s D H locs xa ya S) (hcap : cells + 1 ≤ 600000 ∧ slots + 9 ≤ 7302250) (kk : ∀ (H1 : Heap) (locs1 : List Loc) (S' : zSt), lwI s D H1 locs1 xa ya S' → lwG p l e s m below meth c b H1 locs1 (cells + 1) (slots + 9) (F0 m 2366 ls [])) : lwG p l e s m below meth c b H locs cells slots (F0 m 1738 ls []) :=
  lw_caseI (i1 := 185) (i2 := 188) (ag := [(0, 1)]) (f := fun j => (xs (i + j)).toInt) (off := 610) hX lwm_214 lwm_375 rfl (fun _ => rfl) (by decide) (by decide +kernel) (by decide) hls hi (lwc_39 (fun _ => zr32 _)) hI hcap kk
theorem lwc_40 (hf : ∀ j, r32 (f j)) : lwC 216 379 (([(0, 1)] : List zAg).map (agV f)) false := fun S m1 m2 h1 h2 hI hN => by
  obtain ⟨m1', e1, r1⟩ := p_needs (v := 0) h1 hI.1.2.2.1 (f 1)
  obtain ⟨m2', e2, r2⟩ := w_needs (v := 0) h2 (f 1)
  exact ⟨(o_needs S (f 1)).1, (o_needs S (f 1)).2, m1', m2', e1, r1, e2, r2, (k_needs (f 1)).nx hI⟩
theorem lwk_40 (hX : lwX p s m meth c b L xs D) (hls : lwS ls b xa ya i) (hi : i + 7 ≤ L) (hI : lwI s D H locs xa ya S) (hcap : cells + 1 ≤ 600000 ∧ slots + 9 ≤ 7302250) (kk : ∀ (H1 : Heap) (locs1 : List Loc) (S' : zSt), lwI s D H1 locs1 xa ya S' → lwG p l e s m below meth c b H1 locs1 (cells + 1) (slots + 9) (F0 m 2366 ls [])) : lwG p l e s m below meth c b H locs cells slots (F0 m 1761 ls []) :=
  lw_caseI (i1 := 189) (i2 := 192) (ag := [(0, 1)]) (f := fun j => (xs (i + j)).toInt) (off := 587) hX lwm_216 lwm_379 rfl (fun _ => rfl) (by decide) (by decide +kernel) (by decide) hls hi (lwc_40 (fun _ => zr32 _)) hI hcap kk
theorem lwc_41 (hf : ∀ j, r32 (f j)) : lwC 217 380 (([(0, 1), (0, 2)] : List zAg).map (agV f)) false := fun S m1 m2 h1 h2 hI hN => by
  obtain ⟨m1', e1, r1⟩ := p_needsAt (v := 0) h1 hI.1.2.2.1 (f 1) (f 2)
  obtain ⟨m2', e2, r2⟩ := w_needsAt (v := 0) h2 (f 1) (f 2)
  exact ⟨(o_needsAt S (f 1) (f 2)).1, (o_needsAt S (f 1) (f 2)).2, m1', m2', e1, r1, e2, r2, (k_needsAt (f 1) (f 2)).nx hI⟩
theorem lwk_41 (hX : lwX p s m meth c b L xs D) (hls : lwS ls b xa ya i) (hi : i + 7 ≤ L) (hI : lwI s D H locs xa ya S) (hcap : cells + 1 ≤ 600000 ∧ slots + 9 ≤ 7302250) (kk : ∀ (H1 : Heap) (locs1 : List Loc) (S' : zSt), lwI s D H1 locs1 xa ya S' → lwG p l e s m below meth c b H1 locs1 (cells + 1) (slots + 9) (F0 m 2366 ls [])) : lwG p l e s m below meth c b H locs cells slots (F0 m 1784 ls []) :=
  lw_caseI (i1 := 193) (i2 := 196) (ag := [(0, 1), (0, 2)]) (f := fun j => (xs (i + j)).toInt) (off := 554) hX lwm_217 lwm_380 rfl (fun _ => rfl) (by decide) (by decide +kernel) (by decide) hls hi (lwc_41 (fun _ => zr32 _)) hI hcap kk
theorem lwc_42 (hf : ∀ j, r32 (f j)) : lwC 218 381 (([(0, 1), (0, 2), (0, 3), (0, 4)] : List zAg).map (agV f)) false := fun S m1 m2 h1 h2 hI hN => by
  obtain ⟨m1', e1, r1⟩ := p_texts (v := 0) h1 hI.1.2.2.1 (f 1) (f 2) (f 3) (f 4)
  obtain ⟨m2', e2, r2⟩ := w_texts (v := 0) h2 (f 1) (f 2) (f 3) (f 4)
  exact ⟨(o_texts S (f 1) (f 2) (f 3) (f 4)).1, (o_texts S (f 1) (f 2) (f 3) (f 4)).2, m1', m2', e1, r1, e2, r2, (k_texts (f 1) (f 2) (f 3) (f 4)).nx hI⟩
theorem lwk_42 (hX : lwX p s m meth c b L xs D) (hls : lwS ls b xa ya i) (hi : i + 7 ≤ L) (hI : lwI s D H locs xa ya S) (hcap : cells + 1 ≤ 600000 ∧ slots + 9 ≤ 7302250) (kk : ∀ (H1 : Heap) (locs1 : List Loc) (S' : zSt), lwI s D H1 locs1 xa ya S' → lwG p l e s m below meth c b H1 locs1 (cells + 1) (slots + 9) (F0 m 2366 ls [])) : lwG p l e s m below meth c b H locs cells slots (F0 m 1817 ls []) :=
  lw_caseI (i1 := 197) (i2 := 200) (ag := [(0, 1), (0, 2), (0, 3), (0, 4)]) (f := fun j => (xs (i + j)).toInt) (off := 501) hX lwm_218 lwm_381 rfl (fun _ => rfl) (by decide) (by decide +kernel) (by decide) hls hi (lwc_42 (fun _ => zr32 _)) hI hcap kk
theorem lwc_43 (hf : ∀ j, r32 (f j)) : lwC 221 383 (([(0, 1), (0, 2)] : List zAg).map (agV f)) false := fun S m1 m2 h1 h2 hI hN => by
  obtain ⟨m1', e1, r1⟩ := p_clash (v := 0) h1 (f 1) (f 2)
  obtain ⟨m2', e2, r2⟩ := w_clash (v := 0) h2 (f 1) (f 2)
  exact ⟨(o_clash S (f 1) (f 2)).1, (o_clash S (f 1) (f 2)).2, m1', m2', e1, r1, e2, r2, (k_clash (f 1) (f 2)).nx hI⟩
theorem lwk_43 (hX : lwX p s m meth c b L xs D) (hls : lwS ls b xa ya i) (hi : i + 7 ≤ L) (hI : lwI s D H locs xa ya S) (hcap : cells + 1 ≤ 600000 ∧ slots + 9 ≤ 7302250) (kk : ∀ (H1 : Heap) (locs1 : List Loc) (S' : zSt), lwI s D H1 locs1 xa ya S' → lwG p l e s m below meth c b H1 locs1 (cells + 1) (slots + 9) (F0 m 2366 ls [])) : lwG p l e s m below meth c b H locs cells slots (F0 m 1870 ls []) :=
  lw_caseI (i1 := 201) (i2 := 204) (ag := [(0, 1), (0, 2)]) (f := fun j => (xs (i + j)).toInt) (off := 468) hX lwm_221 lwm_383 rfl (fun _ => rfl) (by decide) (by decide +kernel) (by decide) hls hi (lwc_43 (fun _ => zr32 _)) hI hcap kk
theorem lwc_44 (hf : ∀ j, r32 (f j)) : lwC 222 384 (([(0, 1), (0, 2), (0, 3)] : List zAg).map (agV f)) false := fun S m1 m2 h1 h2 hI hN => by
  obtain ⟨m1', e1, r1⟩ := p_clashAt (v := 0) h1 (f 1) (f 2) (f 3)
  obtain ⟨m2', e2, r2⟩ := w_clashAt (v := 0) h2 (f 1) (f 2) (f 3)
  exact ⟨(o_clashAt S (f 1) (f 2) (f 3)).1, (o_clashAt S (f 1) (f 2) (f 3)).2, m1', m2', e1, r1, e2, r2, (k_clashAt (f 1) (f 2) (f 3)).nx hI⟩
theorem lwk_44 (hX : lwX p s m meth c b L xs D) (hls : lwS ls b xa ya i) (hi : i + 7 ≤ L) (hI : lwI s D H locs xa ya S) (hcap : cells + 1 ≤ 600000 ∧ slots + 9 ≤ 7302250) (kk : ∀ (H1 : Heap) (locs1 : List Loc) (S' : zSt), lwI s D H1 locs1 xa ya S' → lwG p l e s m below meth c b H1 locs1 (cells + 1) (slots + 9) (F0 m 2366 ls [])) : lwG p l e s m below meth c b H locs cells slots (F0 m 1903 ls []) :=
  lw_caseI (i1 := 205) (i2 := 208) (ag := [(0, 1), (0, 2), (0, 3)]) (f := fun j => (xs (i + j)).toInt) (off := 425) hX lwm_222 lwm_384 rfl (fun _ => rfl) (by decide) (by decide +kernel) (by decide) hls hi (lwc_44 (fun _ => zr32 _)) hI hcap kk
theorem lwc_45 (hf : ∀ j, r32 (f j)) : lwC 224 390 (([(0, 1), (0, 2), (0, 3), (0, 4), (0, 5), (0, 6)] : List zAg).map (agV f)) false := fun S m1 m2 h1 h2 hI hN => by
  obtain ⟨m1', e1, r1⟩ := p_game (v := 0) h1 (f 1) (f 2) (f 3) (f 4) (f 5) (f 6)
  obtain ⟨m2', e2, r2⟩ := w_game (v := 0) h2 (f 1) (f 2) (f 3) (f 4) (f 5) (f 6)
  exact ⟨(o_game S (f 1) (f 2) (f 3) (f 4) (f 5) (f 6)).1, (o_game S (f 1) (f 2) (f 3) (f 4) (f 5) (f 6)).2, m1', m2', e1, r1, e2, r2, (k_game (f 1) (f 2) (f 3) (f 4) (f 5) (f 6)).nx hI⟩
theorem lwk_45 (hX : lwX p s m meth c b L xs D) (hls : lwS ls b xa ya i) (hi : i + 7 ≤ L) (hI : lwI s D H locs xa ya S) (hcap : cells + 1 ≤ 600000 ∧ slots + 9 ≤ 7302250) (kk : ∀ (H1 : Heap) (locs1 : List Loc) (S' : zSt), lwI s D H1 locs1 xa ya S' → lwG p l e s m below meth c b H1 locs1 (cells + 1) (slots + 9) (F0 m 2366 ls [])) : lwG p l e s m below meth c b H locs cells slots (F0 m 1946 ls []) :=
  lw_caseI (i1 := 209) (i2 := 213) (ag := [(0, 1), (0, 2), (0, 3), (0, 4), (0, 5), (0, 6)]) (f := fun j => (xs (i + j)).toInt) (off := 350) hX lwm_224 lwm_390 rfl (fun _ => rfl) (by decide) (by decide +kernel) (by decide) hls hi (lwc_45 (fun _ => zr32 _)) hI hcap kk
theorem lwc_46 (hf : ∀ j, r32 (f j)) : lwC 225 391 (([(0, 1), (0, 2), (0, 3), (0, 4), (0, 5), (0, 6)] : List zAg).map (agV f)) false := fun S m1 m2 h1 h2 hI hN => by
  obtain ⟨m1', e1, r1⟩ := p_moveOf (v := 0) h1 (f 1) (f 2) (f 3) (f 4) (f 5) (f 6)
  obtain ⟨m2', e2, r2⟩ := w_moveOf (v := 0) h2 (f 1) (f 2) (f 3) (f 4) (f 5) (f 6)
  exact ⟨(o_moveOf S (f 1) (f 2) (f 3) (f 4) (f 5) (f 6)).1, (o_moveOf S (f 1) (f 2) (f 3) (f 4) (f 5) (f 6)).2, m1', m2', e1, r1, e2, r2, (k_moveOf (f 1) (f 2) (f 3) (f 4) (f 5) (f 6)).nx hI⟩
theorem lwk_46 (hX : lwX p s m meth c b L xs D) (hls : lwS ls b xa ya i) (hi : i + 7 ≤ L) (hI : lwI s D H locs xa ya S) (hcap : cells + 1 ≤ 600000 ∧ slots + 9 ≤ 7302250) (kk : ∀ (H1 : Heap) (locs1 : List Loc) (S' : zSt), lwI s D H1 locs1 xa ya S' → lwG p l e s m below meth c b H1 locs1 (cells + 1) (slots + 9) (F0 m 2366 ls [])) : lwG p l e s m below meth c b H locs cells slots (F0 m 2021 ls []) :=
  lw_caseI (i1 := 214) (i2 := 217) (ag := [(0, 1), (0, 2), (0, 3), (0, 4), (0, 5), (0, 6)]) (f := fun j => (xs (i + j)).toInt) (off := 275) hX lwm_225 lwm_391 rfl (fun _ => rfl) (by decide) (by decide +kernel) (by decide) hls hi (lwc_46 (fun _ => zr32 _)) hI hcap kk
theorem lwc_47 (hf : ∀ j, r32 (f j)) : lwC 227 394 (([(0, 1), (0, 2)] : List zAg).map (agV f)) false := fun S m1 m2 h1 h2 hI hN => by
  obtain ⟨m1', e1, r1⟩ := p_longIn (v := 0) h1 (f 1) (f 2)
  obtain ⟨m2', e2, r2⟩ := w_longIn (v := 0) h2 (f 1) (f 2)
  exact ⟨(o_longIn S (f 1) (f 2)).1, (o_longIn S (f 1) (f 2)).2, m1', m2', e1, r1, e2, r2, (k_longIn (f 1) (f 2)).nx hI⟩
theorem lwk_47 (hX : lwX p s m meth c b L xs D) (hls : lwS ls b xa ya i) (hi : i + 7 ≤ L) (hI : lwI s D H locs xa ya S) (hcap : cells + 1 ≤ 600000 ∧ slots + 9 ≤ 7302250) (kk : ∀ (H1 : Heap) (locs1 : List Loc) (S' : zSt), lwI s D H1 locs1 xa ya S' → lwG p l e s m below meth c b H1 locs1 (cells + 1) (slots + 9) (F0 m 2366 ls [])) : lwG p l e s m below meth c b H locs cells slots (F0 m 2096 ls []) :=
  lw_caseI (i1 := 218) (i2 := 221) (ag := [(0, 1), (0, 2)]) (f := fun j => (xs (i + j)).toInt) (off := 242) hX lwm_227 lwm_394 rfl (fun _ => rfl) (by decide) (by decide +kernel) (by decide) hls hi (lwc_47 (fun _ => zr32 _)) hI hcap kk
theorem lwc_48 (hf : ∀ j, r32 (f j)) : lwC 228 395 (([(0, 1), (0, 2), (0, 3)] : List zAg).map (agV f)) false := fun S m1 m2 h1 h2 hI hN => by
  obtain ⟨m1', e1, r1⟩ := p_sayIn (v := 0) h1 (f 1) (f 2) (f 3)
  obtain ⟨m2', e2, r2⟩ := w_sayIn (v := 0) h2 (f 1) (f 2) (f 3)
  exact ⟨(o_sayIn S (f 1) (f 2) (f 3)).1, (o_sayIn S (f 1) (f 2) (f 3)).2, m1', m2', e1, r1, e2, r2, (k_sayIn (f 1) (f 2) (f 3)).nx hI⟩
theorem lwk_48 (hX : lwX p s m meth c b L xs D) (hls : lwS ls b xa ya i) (hi : i + 7 ≤ L) (hI : lwI s D H locs xa ya S) (hcap : cells + 1 ≤ 600000 ∧ slots + 9 ≤ 7302250) (kk : ∀ (H1 : Heap) (locs1 : List Loc) (S' : zSt), lwI s D H1 locs1 xa ya S' → lwG p l e s m below meth c b H1 locs1 (cells + 1) (slots + 9) (F0 m 2366 ls [])) : lwG p l e s m below meth c b H locs cells slots (F0 m 2129 ls []) :=
  lw_caseI (i1 := 222) (i2 := 225) (ag := [(0, 1), (0, 2), (0, 3)]) (f := fun j => (xs (i + j)).toInt) (off := 199) hX lwm_228 lwm_395 rfl (fun _ => rfl) (by decide) (by decide +kernel) (by decide) hls hi (lwc_48 (fun _ => zr32 _)) hI hcap kk
theorem lwc_49 (hf : ∀ j, r32 (f j)) : lwC 229 396 (([(0, 1), (0, 2)] : List zAg).map (agV f)) false := fun S m1 m2 h1 h2 hI hN => by
  obtain ⟨m1', e1, r1⟩ := p_saysFirst (v := 0) h1 (f 1) (f 2)
  obtain ⟨m2', e2, r2⟩ := w_saysFirst (v := 0) h2 (f 1) (f 2)
  exact ⟨(o_saysFirst S (f 1) (f 2)).1, (o_saysFirst S (f 1) (f 2)).2, m1', m2', e1, r1, e2, r2, (k_saysFirst (f 1) (f 2)).nx hI⟩
theorem lwk_49 (hX : lwX p s m meth c b L xs D) (hls : lwS ls b xa ya i) (hi : i + 7 ≤ L) (hI : lwI s D H locs xa ya S) (hcap : cells + 1 ≤ 600000 ∧ slots + 9 ≤ 7302250) (kk : ∀ (H1 : Heap) (locs1 : List Loc) (S' : zSt), lwI s D H1 locs1 xa ya S' → lwG p l e s m below meth c b H1 locs1 (cells + 1) (slots + 9) (F0 m 2366 ls [])) : lwG p l e s m below meth c b H locs cells slots (F0 m 2172 ls []) :=
  lw_caseI (i1 := 226) (i2 := 229) (ag := [(0, 1), (0, 2)]) (f := fun j => (xs (i + j)).toInt) (off := 166) hX lwm_229 lwm_396 rfl (fun _ => rfl) (by decide) (by decide +kernel) (by decide) hls hi (lwc_49 (fun _ => zr32 _)) hI hcap kk
theorem lwc_50 (hf : ∀ j, r32 (f j)) : lwC 230 397 (([(0, 1)] : List zAg).map (agV f)) false := fun S m1 m2 h1 h2 hI hN => by
  obtain ⟨m1', e1, r1⟩ := p_silentIn (v := 0) h1 (f 1)
  obtain ⟨m2', e2, r2⟩ := w_silentIn (v := 0) h2 (f 1)
  exact ⟨(o_silentIn S (f 1)).1, (o_silentIn S (f 1)).2, m1', m2', e1, r1, e2, r2, (k_silentIn (f 1)).nx hI⟩
theorem lwk_50 (hX : lwX p s m meth c b L xs D) (hls : lwS ls b xa ya i) (hi : i + 7 ≤ L) (hI : lwI s D H locs xa ya S) (hcap : cells + 1 ≤ 600000 ∧ slots + 9 ≤ 7302250) (kk : ∀ (H1 : Heap) (locs1 : List Loc) (S' : zSt), lwI s D H1 locs1 xa ya S' → lwG p l e s m below meth c b H1 locs1 (cells + 1) (slots + 9) (F0 m 2366 ls [])) : lwG p l e s m below meth c b H locs cells slots (F0 m 2205 ls []) :=
  lw_caseI (i1 := 230) (i2 := 233) (ag := [(0, 1)]) (f := fun j => (xs (i + j)).toInt) (off := 143) hX lwm_230 lwm_397 rfl (fun _ => rfl) (by decide) (by decide +kernel) (by decide) hls hi (lwc_50 (fun _ => zr32 _)) hI hcap kk
theorem lwc_51 (hf : ∀ j, r32 (f j)) : lwC 231 398 (([(0, 1), (0, 2)] : List zAg).map (agV f)) false := fun S m1 m2 h1 h2 hI hN => by
  obtain ⟨m1', e1, r1⟩ := p_alikeIn (v := 0) h1 (f 1) (f 2)
  obtain ⟨m2', e2, r2⟩ := w_alikeIn (v := 0) h2 (f 1) (f 2)
  exact ⟨(o_alikeIn S (f 1) (f 2)).1, (o_alikeIn S (f 1) (f 2)).2, m1', m2', e1, r1, e2, r2, (k_alikeIn (f 1) (f 2)).nx hI⟩
theorem lwk_51 (hX : lwX p s m meth c b L xs D) (hls : lwS ls b xa ya i) (hi : i + 7 ≤ L) (hI : lwI s D H locs xa ya S) (hcap : cells + 1 ≤ 600000 ∧ slots + 9 ≤ 7302250) (kk : ∀ (H1 : Heap) (locs1 : List Loc) (S' : zSt), lwI s D H1 locs1 xa ya S' → lwG p l e s m below meth c b H1 locs1 (cells + 1) (slots + 9) (F0 m 2366 ls [])) : lwG p l e s m below meth c b H locs cells slots (F0 m 2228 ls []) :=
  lw_caseI (i1 := 234) (i2 := 237) (ag := [(0, 1), (0, 2)]) (f := fun j => (xs (i + j)).toInt) (off := 110) hX lwm_231 lwm_398 rfl (fun _ => rfl) (by decide) (by decide +kernel) (by decide) hls hi (lwc_51 (fun _ => zr32 _)) hI hcap kk
theorem lwc_52 (hf : ∀ j, r32 (f j)) : lwC 232 408 (([(0, 1)] : List zAg).map (agV f)) false := fun S m1 m2 h1 h2 hI hN => by
  obtain ⟨m1', e1, r1⟩ := p_live (v := 0) h1 hI.1.2.2.2 hI.1.2.1 (f 1)
  obtain ⟨m2', e2, r2⟩ := w_live (v := 0) h2 hI.1.2.2.2 hI.1.2.1 (f 1)
  exact ⟨(o_live S (f 1)).1, (o_live S (f 1)).2, m1', m2', e1, r1, e2, r2, q_live hI (f 1)⟩
theorem lwk_52 (hX : lwX p s m meth c b L xs D) (hls : lwS ls b xa ya i) (hi : i + 7 ≤ L) (hI : lwI s D H locs xa ya S) (hcap : cells + 1 ≤ 600000 ∧ slots + 9 ≤ 7302250) (kk : ∀ (H1 : Heap) (locs1 : List Loc) (S' : zSt), lwI s D H1 locs1 xa ya S' → lwG p l e s m below meth c b H1 locs1 (cells + 1) (slots + 9) (F0 m 2366 ls [])) : lwG p l e s m below meth c b H locs cells slots (F0 m 2261 ls []) :=
  lw_caseI (i1 := 238) (i2 := 241) (ag := [(0, 1)]) (f := fun j => (xs (i + j)).toInt) (off := 87) hX lwm_232 lwm_408 rfl (fun _ => rfl) (by decide) (by decide +kernel) (by decide) hls hi (lwc_52 (fun _ => zr32 _)) hI hcap kk
theorem lwc_53 (hf : ∀ j, r32 (f j)) : lwC 233 409 (([(0, 1)] : List zAg).map (agV f)) false := fun S m1 m2 h1 h2 hI hN => by
  obtain ⟨m1', e1, r1⟩ := p_lived (v := 0) h1 (f 1)
  obtain ⟨m2', e2, r2⟩ := w_lived (v := 0) h2 (f 1)
  exact ⟨(o_lived S (f 1)).1, (o_lived S (f 1)).2, m1', m2', e1, r1, e2, r2, (k_lived (f 1)).nx hI⟩
theorem lwk_53 (hX : lwX p s m meth c b L xs D) (hls : lwS ls b xa ya i) (hi : i + 7 ≤ L) (hI : lwI s D H locs xa ya S) (hcap : cells + 1 ≤ 600000 ∧ slots + 9 ≤ 7302250) (kk : ∀ (H1 : Heap) (locs1 : List Loc) (S' : zSt), lwI s D H1 locs1 xa ya S' → lwG p l e s m below meth c b H1 locs1 (cells + 1) (slots + 9) (F0 m 2366 ls [])) : lwG p l e s m below meth c b H locs cells slots (F0 m 2284 ls []) :=
  lw_caseI (i1 := 242) (i2 := 245) (ag := [(0, 1)]) (f := fun j => (xs (i + j)).toInt) (off := 64) hX lwm_233 lwm_409 rfl (fun _ => rfl) (by decide) (by decide +kernel) (by decide) hls hi (lwc_53 (fun _ => zr32 _)) hI hcap kk
theorem lwc_54 (hf : ∀ j, r32 (f j)) : lwC 234 410 (([(0, 1), (0, 2)] : List zAg).map (agV f)) false := fun S m1 m2 h1 h2 hI hN => by
  obtain ⟨m1', e1, r1⟩ := p_mean (v := 0) h1 hI.1.2.2.2 hI.1.2.1 (f 1) (f 2)
  obtain ⟨m2', e2, r2⟩ := w_mean (v := 0) h2 hI.1.2.2.2 hI.1.2.1 (f 1) (f 2)
  exact ⟨(o_mean S (f 1) (f 2)).1, (o_mean S (f 1) (f 2)).2, m1', m2', e1, r1, e2, r2, (k_mean (f 1) (f 2)).nx hI⟩
theorem lwk_54 (hX : lwX p s m meth c b L xs D) (hls : lwS ls b xa ya i) (hi : i + 7 ≤ L) (hI : lwI s D H locs xa ya S) (hcap : cells + 1 ≤ 600000 ∧ slots + 9 ≤ 7302250) (kk : ∀ (H1 : Heap) (locs1 : List Loc) (S' : zSt), lwI s D H1 locs1 xa ya S' → lwG p l e s m below meth c b H1 locs1 (cells + 1) (slots + 9) (F0 m 2366 ls [])) : lwG p l e s m below meth c b H locs cells slots (F0 m 2307 ls []) :=
  lw_caseI (i1 := 246) (i2 := 250) (ag := [(0, 1), (0, 2)]) (f := fun j => (xs (i + j)).toInt) (off := 31) hX lwm_234 lwm_410 rfl (fun _ => rfl) (by decide) (by decide +kernel) (by decide) hls hi (lwc_54 (fun _ => zr32 _)) hI hcap kk
theorem lwc_55 (hf : ∀ j, r32 (f j)) : lwC 235 411 (([] : List zAg).map (agV f)) false := fun S m1 m2 h1 h2 hI hN => by
  obtain ⟨m1', e1, r1⟩ := p_mark (v := 0) h1 
  obtain ⟨m2', e2, r2⟩ := w_mark (v := 0) h2 
  exact ⟨(o_mark S ).1, (o_mark S ).2, m1', m2', e1, r1, e2, r2, q_mark hI ⟩
theorem lwk_55 (hX : lwX p s m meth c b L xs D) (hls : lwS ls b xa ya i) (hi : i + 7 ≤ L) (hI : lwI s D H locs xa ya S) (hcap : cells + 1 ≤ 600000 ∧ slots + 9 ≤ 7302250) (kk : ∀ (H1 : Heap) (locs1 : List Loc) (S' : zSt), lwI s D H1 locs1 xa ya S' → lwG p l e s m below meth c b H1 locs1 (cells + 1) (slots + 9) (F0 m 2366 ls [])) : lwG p l e s m below meth c b H locs cells slots (F0 m 2340 ls []) :=
  lw_caseI (i1 := 251) (i2 := 254) (ag := []) (f := fun j => (xs (i + j)).toInt) (off := 18) hX lwm_235 lwm_411 rfl (fun _ => rfl) (by decide) (by decide +kernel) (by decide) hls hi (lwc_55 (fun _ => zr32 _)) hI hcap kk
theorem lwc_56 (hf : ∀ j, r32 (f j)) : lwC 236 412 (([] : List zAg).map (agV f)) false := fun S m1 m2 h1 h2 hI hN => by
  obtain ⟨m1', e1, r1⟩ := p_back (v := 0) h1 
  obtain ⟨m2', e2, r2⟩ := w_back (v := 0) h2 
  exact ⟨(o_back S ).1, (o_back S ).2, m1', m2', e1, r1, e2, r2, q_back hI ⟩
theorem lwk_56 (hX : lwX p s m meth c b L xs D) (hls : lwS ls b xa ya i) (hi : i + 7 ≤ L) (hI : lwI s D H locs xa ya S) (hcap : cells + 1 ≤ 600000 ∧ slots + 9 ≤ 7302250) (kk : ∀ (H1 : Heap) (locs1 : List Loc) (S' : zSt), lwI s D H1 locs1 xa ya S' → lwG p l e s m below meth c b H1 locs1 (cells + 1) (slots + 9) (F0 m 2366 ls [])) : lwG p l e s m below meth c b H locs cells slots (F0 m 2353 ls []) :=
  lw_caseI (i1 := 255) (i2 := 258) (ag := []) (f := fun j => (xs (i + j)).toInt) (off := 5) hX lwm_236 lwm_412 rfl (fun _ => rfl) (by decide) (by decide +kernel) (by decide) hls hi (lwc_56 (fun _ => zr32 _)) hI hcap kk
def tgT : List Nat := [276, 289, 303, 317, 360, 433, 467, 530, 593, 616, 639, 662, 685, 718, 741, 784, 807, 830, 863, 896, 919, 952, 1001, 1044, 1123, 1156, 1199, 1222, 1275, 1318, 1381, 1434, 1497, 1540, 1583, 1616, 1649, 1682, 1705, 1738, 1761, 1784, 1817, 1870, 1903, 1946, 2021, 2096, 2129, 2172, 2205, 2228, 2261, 2284, 2307, 2340, 2353]
theorem tgT_ok : ∀ n : Fin 57, ∃ off : Int, (#[243, 256, 270, 284, 327, 400, 434, 497, 560, 583, 606, 629, 652, 685, 708, 751, 774, 797, 830, 863, 886, 919, 968, 1011, 1090, 1123, 1166, 1189, 1242, 1285, 1348, 1401, 1464, 1507, 1550, 1583, 1616, 1649, 1672, 1705, 1728, 1751, 1784, 1837, 1870, 1913, 1988, 2063, 2096, 2139, 2172, 2195, 2228, 2251, 2274, 2307, 2320] : Array Int)[n.val]? = some off ∧ (33 : Int) + off = ((tgT.getD n.val 0 : Nat) : Int) := fun n => by
  have key : ∀ n : Fin 57, (#[243, 256, 270, 284, 327, 400, 434, 497, 560, 583, 606, 629, 652, 685, 708, 751, 774, 797, 830, 863, 886, 919, 968, 1011, 1090, 1123, 1166, 1189, 1242, 1285, 1348, 1401, 1464, 1507, 1550, 1583, 1616, 1649, 1672, 1705, 1728, 1751, 1784, 1837, 1870, 1913, 1988, 2063, 2096, 2139, 2172, 2195, 2228, 2251, 2274, 2307, 2320] : Array Int)[n.val]? = some (((tgT.getD n.val 0 : Nat) : Int) - 33) := by decide +kernel
  exact ⟨_, key n, by omega⟩
theorem lw_sel (hX : lwX p s m meth c b L xs D) (hls : lwS ls b xa ya i) (hi : i + 7 ≤ L) (hI : lwI s D H locs xa ya S) (hcap : cells + 1 ≤ 600000 ∧ slots + 9 ≤ 7302250) (kk : ∀ (H1 : Heap) (locs1 : List Loc) (S' : zSt), lwI s D H1 locs1 xa ya S' → lwG p l e s m below meth c b H1 locs1 (cells + 1) (slots + 9) (F0 m 2366 ls [])) : ∀ n, n < 57 → lwG p l e s m below meth c b H locs cells slots (F0 m (tgT.getD n 0) ls [])
  | 0, _ => lwk_0 hX hls hi hI hcap kk
  | 1, _ => lwk_1 hX hls hi hI hcap kk
  | 2, _ => lwk_2 hX hls hi hI hcap kk
  | 3, _ => lwk_3 hX hls hi hI hcap kk
  | 4, _ => lwk_4 hX hls hi hI hcap kk
  | 5, _ => lwk_5 hX hls hi hI hcap kk
  | 6, _ => lwk_6 hX hls hi hI hcap kk
  | 7, _ => lwk_7 hX hls hi hI hcap kk
  | 8, _ => lwk_8 hX hls hi hI hcap kk
  | 9, _ => lwk_9 hX hls hi hI hcap kk
  | 10, _ => lwk_10 hX hls hi hI hcap kk
  | 11, _ => lwk_11 hX hls hi hI hcap kk
  | 12, _ => lwk_12 hX hls hi hI hcap kk
  | 13, _ => lwk_13 hX hls hi hI hcap kk
  | 14, _ => lwk_14 hX hls hi hI hcap kk
  | 15, _ => lwk_15 hX hls hi hI hcap kk
  | 16, _ => lwk_16 hX hls hi hI hcap kk
  | 17, _ => lwk_17 hX hls hi hI hcap kk
  | 18, _ => lwk_18 hX hls hi hI hcap kk
  | 19, _ => lwk_19 hX hls hi hI hcap kk
  | 20, _ => lwk_20 hX hls hi hI hcap kk
  | 21, _ => lwk_21 hX hls hi hI hcap kk
  | 22, _ => lwk_22 hX hls hi hI hcap kk
  | 23, _ => lwk_23 hX hls hi hI hcap kk
  | 24, _ => lwk_24 hX hls hi hI hcap kk
  | 25, _ => lwk_25 hX hls hi hI hcap kk
  | 26, _ => lwk_26 hX hls hi hI hcap kk
  | 27, _ => lwk_27 hX hls hi hI hcap kk
  | 28, _ => lwk_28 hX hls hi hI hcap kk
  | 29, _ => lwk_29 hX hls hi hI hcap kk
  | 30, _ => lwk_30 hX hls hi hI hcap kk
  | 31, _ => lwk_31 hX hls hi hI hcap kk
  | 32, _ => lwk_32 hX hls hi hI hcap kk
  | 33, _ => lwk_33 hX hls hi hI hcap kk
  | 34, _ => lwk_34 hX hls hi hI hcap kk
  | 35, _ => lwk_35 hX hls hi hI hcap kk
  | 36, _ => lwk_36 hX hls hi hI hcap kk
  | 37, _ => lwk_37 hX hls hi hI hcap kk
  | 38, _ => lwk_38 hX hls hi hI hcap kk
  | 39, _ => lwk_39 hX hls hi hI hcap kk
  | 40, _ => lwk_40 hX hls hi hI hcap kk
  | 41, _ => lwk_41 hX hls hi hI hcap kk
  | 42, _ => lwk_42 hX hls hi hI hcap kk
  | 43, _ => lwk_43 hX hls hi hI hcap kk
  | 44, _ => lwk_44 hX hls hi hI hcap kk
  | 45, _ => lwk_45 hX hls hi hI hcap kk
  | 46, _ => lwk_46 hX hls hi hI hcap kk
  | 47, _ => lwk_47 hX hls hi hI hcap kk
  | 48, _ => lwk_48 hX hls hi hI hcap kk
  | 49, _ => lwk_49 hX hls hi hI hcap kk
  | 50, _ => lwk_50 hX hls hi hI hcap kk
  | 51, _ => lwk_51 hX hls hi hI hcap kk
  | 52, _ => lwk_52 hX hls hi hI hcap kk
  | 53, _ => lwk_53 hX hls hi hI hcap kk
  | 54, _ => lwk_54 hX hls hi hI hcap kk
  | 55, _ => lwk_55 hX hls hi hI hcap kk
  | 56, _ => lwk_56 hX hls hi hI hcap kk
  | n + 57, h => absurd h (by omega)
end CASES
