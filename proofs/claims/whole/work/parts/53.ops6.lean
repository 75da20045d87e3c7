/-! The tape fed, numbers poured. -/
def byF (x s : Int) : Int := Int.bmod (Int.bmod (zshr x s) 256) 256
def by4 (x : Int) : List Int := [byF x 24, byF x 16, byF x 8, byF x 0]
def o_feed (S : zSt) (a b c d e : Int) : Int × zSt := if (gTp S).length + 20 ≤ 900 then ((((gTp S).length + 20 : Nat) : Int), wTp S (((((gTp S ++ by4 a) ++ by4 b) ++ by4 c) ++ by4 d) ++ by4 e)) else (-1, S)
def puL (src dst : List Int) (i j n : Nat) : List Int := (List.range dst.length).map (fun k => if j ≤ k ∧ k < j + n then src.getD (i + (k - j)) 0 else dst.getD k 0)
def o_pour (S : zSt) (t i u j n : Int) : Int × zSt :=
  if yLs (ySt S t) (ySt S u) = 0 then
    (if (gTr S t.toNat).2.1 = (gTr S u.toNat).2.1 then (if n < 0 then oF S 6
      else if (0 ≤ i ∧ i + n ≤ ((gTr S t.toNat).2.2.length : Int)) ∧ (0 ≤ j ∧ j + n ≤ ((gTr S u.toNat).2.2.length : Int)) then oT (wTr S u.toNat ((gTr S u.toNat).1, (gTr S u.toNat).2.1, puL (gTr S t.toNat).2.2 (gTr S u.toNat).2.2 i.toNat j.toNat n.toNat))
      else oF S 4) else oF S 11)
  else oF S (yLs (ySt S t) (ySt S u))
section OPS6
variable {v : Nat} {S : zSt} {m m' : zM}
theorem puL_len (src dst : List Int) (i j n : Nat) : (puL src dst i j n).length = dst.length := by unfold puL; rw [List.length_map, List.length_range]
theorem puL_get (src dst : List Int) (i j n k : Nat) (hk : k < dst.length) : (puL src dst i j n).getD k 0 = if j ≤ k ∧ k < j + n then src.getD (i + (k - j)) 0 else dst.getD k 0 := by
  unfold puL
  rw [List.getD_eq_getElem?_getD, List.getElem?_map, List.getElem?_range hk]
  rfl
/-- the class's tape -/
theorem TpV.push {bs : List Int} {b : Int} (hv : TpV m bs) (h : bs.length < 900) : TpV (zwi (zwi m 3 bs.length b) 2 2 ((bs.length + 1 : Nat) : Int)) (bs ++ [b]) := by
  obtain ⟨h1, h2, h3, h4⟩ := hv
  have hlen : (bs ++ [b]).length = bs.length + 1 := by rw [List.length_append]; rfl
  refine ⟨by rw [zi_wi_s, hlen], by omega, fun i hi => ?_, fun i hi => h4 i hi⟩
  rw [hlen] at hi
  rw [zi_wi_n _ _ (Or.inl (by decide)), List.getD_eq_getElem?_getD]
  by_cases e : i = bs.length
  · subst e; rw [zi_wi_s, List.getElem?_append_right (Nat.le_refl _), Nat.sub_self]; rfl
  · rw [zi_wi_n _ _ (Or.inr e), h3 i (by omega), List.getElem?_append_left (by omega), List.getD_eq_getElem?_getD]
theorem R1.tpw {l : List Int} (hR : R1 S m) (h : Sam m m' 2 4) (hv : TpV m' l) : R1 (wTp S l) m' := by
  obtain ⟨h1, h2, ⟨gtr, gtp, gbl, gmk, glv, gdf⟩⟩ := hR
  have h3 := gmk.1
  exact ⟨h.s1 h1, h.h1 (by omega) h2, fun t ht => h.trV (by omega) (gtr t ht), hv, h.bvC (by omega) gbl, ⟨gmk.1, fun i hi => h.bvC (by omega) (gmk.2 i hi)⟩, fun p hp i hi => by rw [h.i (by omega)]; exact glv p hp i hi, h.dfb (by omega) gdf⟩
theorem s_tadd1 {x s s2 : Int} (hS : S1 m) {bs : List Int} (hv : TpV m bs) (hb : bs.length < 900) (hs : ¬ s < 0) (h2 : zadd s (-8) = s2) : zX zP 137 v 3 [some (.inr (.inr (some 2))), some (.inl x), some (.inl s)] [] m = zX zP 137 v 3 [some (.inr (.inr (some 2))), some (.inl x), some (.inl s2)] [] (zwi (zwi m 3 bs.length (byF x s)) 2 2 ((bs.length + 1 : Nat) : Int)) := by
  obtain ⟨t2, ⟨r0, r1⟩, k3, k4⟩ := hS.2.2.2.2.1
  rw [j_X6_add_3, if_neg hs, if_pos t2, hv.1, if_neg (by omega), if_pos t2, if_pos t2, r0, obind, if_pos (k3.Y (by decide)), k3.L, if_pos (by omega), if_pos t2, obind, if_pos t2, if_pos (k3.A (by omega) (by omega)), Int.toNat_natCast, zT_wi, if_pos t2, if_pos t2]
  show zX zP 137 v 49 _ [] _ = _
  rw [j_X6_add_49, h2, zi_wi_n _ _ (Or.inl (by decide)), hv.1, zadd1 (by omega)]
  rfl
theorem s_tadd (hS : S1 m) {bs : List Int} (hv : TpV m bs) (hb : bs.length + 4 ≤ 900) (x : Int) : ∃ m', zF zP 137 v [(.inr (.inr (some 2))), .inl x] m = some (none, m') ∧ Sam m m' 2 4 ∧ TpV m' (bs ++ by4 x) := by
  have w : ∀ (m : zM) (k : Nat) (b c : Int), Sam m (zwi (zwi m 3 k b) 2 2 c) 2 4 := fun m k b c => (Sam.wi m _ _ (by omega) (by omega)).tr (Sam.wi _ _ _ (by omega) (by omega))
  have l1 : ∀ (bs : List Int) (b : Int), (bs ++ [b]).length = bs.length + 1 := fun bs b => by rw [List.length_append]; rfl
  have v1 := hv.push (b := byF x 24) (by omega)
  have s1 := w m bs.length (byF x 24) ((bs.length + 1 : Nat) : Int)
  have v2 := v1.push (b := byF x 16) (by rw [l1]; omega)
  have s2 := w _ (bs ++ [byF x 24]).length (byF x 16) (((bs ++ [byF x 24]).length + 1 : Nat) : Int) |> s1.tr
  have v3 := v2.push (b := byF x 8) (by rw [l1, l1]; omega)
  have s3 := w _ ((bs ++ [byF x 24]) ++ [byF x 16]).length (byF x 8) ((((bs ++ [byF x 24]) ++ [byF x 16]).length + 1 : Nat) : Int) |> s2.tr
  have v4 := v3.push (b := byF x 0) (by rw [l1, l1, l1]; omega)
  have s4 := w _ (((bs ++ [byF x 24]) ++ [byF x 16]) ++ [byF x 8]).length (byF x 0) (((((bs ++ [byF x 24]) ++ [byF x 16]) ++ [byF x 8]).length + 1 : Nat) : Int) |> s3.tr
  refine ⟨_, ?_, s4, ?_⟩
  · rw [f_X6_add, s_tadd1 hS hv (by omega) (by decide) (show zadd 24 (-8) = 16 by decide), s_tadd1 (s1.s1 hS) v1 (by rw [l1]; omega) (by decide) (show zadd 16 (-8) = 8 by decide), s_tadd1 (s2.s1 hS) v2 (by rw [l1, l1]; omega) (by decide) (show zadd 8 (-8) = 0 by decide), s_tadd1 (s3.s1 hS) v3 (by rw [l1, l1, l1]; omega) (by decide) (show zadd 0 (-8) = -8 by decide), j_X6_add_3, if_pos (by decide), j_X6_add_55]
  · have e : bs ++ by4 x = (((bs ++ [byF x 24]) ++ [byF x 16]) ++ [byF x 8]) ++ [byF x 0] := by simp [by4]
    rw [e]; exact v4
theorem by4_len (x : Int) : (by4 x).length = 4 := rfl
theorem p_feed (hR : R1 S m) (a b c d e : Int) : Ex1 (zF zP 174 v [(.inr (.inr (some 0))), .inl a, .inl b, .inl c, .inl d, .inl e] m) (o_feed S a b c d e) := by
  have hS := hR.1
  have hr1 := hS.2.1.2.1
  obtain ⟨t2, ⟨r0, r1⟩, k3, k4⟩ := hS.2.2.2.2.1
  have hv := hR.2.2.2.1
  have h9 := hv.2.1
  have ez : ∀ _ : Unit, zadd ((gTp S).length : Int) 20 = (((gTp S).length + 20 : Nat) : Int) := fun _ => zadd_nat (k := 20) (by omega)
  unfold o_feed
  rw [f_X10_feed, if_pos hS.1, hr1, obind, if_pos t2, f_X6_hasRoomFor, if_pos t2, if_pos t2, r0, obind, if_pos (k3.Y (by decide)), k3.L, hv.1, ez ()]
  by_cases h : (gTp S).length + 20 ≤ 900
  · rw [if_neg (by omega), j_X6_hasRoomFor_19, if_pos zb1, zC1_s, if_neg (by decide), if_pos h, j_X10_feed_14, if_pos hS.1, hr1, obind, if_pos t2]
    obtain ⟨m1, e1, s1, v1⟩ := s_tadd (v := 0) hS hv (by omega) a
    have S1' := s1.s1 hS
    obtain ⟨m2, e2, s2, v2⟩ := s_tadd (v := 0) S1' v1 (by rw [List.length_append, by4_len]; omega) b
    have S2' := s2.s1 S1'
    obtain ⟨m3, e3, s3, v3⟩ := s_tadd (v := 0) S2' v2 (by rw [List.length_append, List.length_append, by4_len, by4_len]; omega) c
    have S3' := s3.s1 S2'
    obtain ⟨m4, e4, s4, v4⟩ := s_tadd (v := 0) S3' v3 (by rw [List.length_append, List.length_append, List.length_append, by4_len, by4_len, by4_len]; omega) d
    have S4' := s4.s1 S3'
    obtain ⟨m5, e5, s5, v5⟩ := s_tadd (v := 0) S4' v4 (by rw [List.length_append, List.length_append, List.length_append, List.length_append, by4_len, by4_len, by4_len, by4_len]; omega) e
    have S5' := s5.s1 S4'
    have hlen : (((((gTp S ++ by4 a) ++ by4 b) ++ by4 c) ++ by4 d) ++ by4 e).length = (gTp S).length + 20 := by
      rw [List.length_append, List.length_append, List.length_append, List.length_append, List.length_append, by4_len, by4_len, by4_len, by4_len, by4_len]
    rw [e1, zC0_s, if_pos S1'.1, S1'.2.1.2.1, obind, if_pos S1'.2.2.2.2.1.1, e2, zC0_s, if_pos S2'.1, S2'.2.1.2.1, obind, if_pos S2'.2.2.2.2.1.1, e3, zC0_s, if_pos S3'.1, S3'.2.1.2.1, obind, if_pos S3'.2.2.2.2.1.1, e4, zC0_s, if_pos S4'.1, S4'.2.1.2.1, obind, if_pos S4'.2.2.2.2.1.1, e5, zC0_s, if_pos S5'.1, S5'.2.1.2.1, obind, if_pos S5'.2.2.2.2.1.1, v5.1, hlen]
    exact ⟨m5, rfl, hR.tpw ((((s1.tr s2).tr s3).tr s4).tr s5) v5⟩
  · rw [if_pos (by omega), j_X6_hasRoomFor_18, j_X6_hasRoomFor_19, if_pos zb0, zC1_s, if_pos rfl, if_neg h]
    exact ⟨m, rfl, hR⟩
/-- the reference's tape -/
def tpP (b j : Nat) : Prop := (b = 0 ∧ j = 8) ∨ b = 4
def TpM (m : zM) (bs : List Int) : Prop := zi m 0 8 = (bs.length : Int) ∧ bs.length ≤ 900 ∧ ∀ i, i < bs.length → zi m 4 i = bs.getD i 0
theorem R2.tpv (hR : R2 S m) : TpM m (gTp S) := ⟨hR.2.1.2.2.2.1, hR.2.2.2.1.1, hR.2.2.2.1.2⟩
theorem R2.tpw {l : List Int} (hR : R2 S m) (h : Fr tpP m m') (hv : TpM m' l) : R2 (wTp S l) m' := by
  obtain ⟨h1, ⟨a1, a2, a3, a4, a5, a6, a7, a8⟩, ⟨gtr, ⟨t1, t2⟩, gbl, ⟨g1, g3⟩, glv⟩⟩ := hR
  refine ⟨h.s2 h1, ⟨?_, ?_, ?_, hv.1, ?_, ?_, ?_, ?_⟩, fun t ht => h.tvM (by unfold tpP; omega) (by unfold tpP; omega) (fun j _ _ => by unfold tpP; omega) (gtr t ht), ⟨hv.2.1, hv.2.2⟩, h.bvM (fun j _ _ => by unfold tpP; omega) (fun j _ _ => by unfold tpP; omega) gbl, ⟨g1, fun i hi => h.bvM (fun j _ _ => by unfold tpP; omega) (fun j _ _ => by unfold tpP; omega) (g3 i hi)⟩, fun p hp i hi => by rw [h.i (by unfold tpP; omega)]; exact glv p hp i hi⟩
  · rw [h.i (by unfold tpP; omega)]; exact a1
  · rw [h.l (by unfold tpP; omega)]; exact a2
  · rw [h.l (by unfold tpP; omega)]; exact a3
  · rw [h.i (by unfold tpP; omega)]; exact a5
  · rw [h.i (by unfold tpP; omega)]; exact a6
  · rw [h.i (by unfold tpP; omega)]; exact a7
  · exact ⟨by rw [h.i (by unfold tpP; omega)]; exact a8.1, by rw [h.1]; exact a8.2⟩
theorem TpM.push {bs : List Int} {b : Int} (hv : TpM m bs) (h : bs.length < 900) : TpM (zwi (zwi m 4 bs.length b) 0 8 ((bs.length + 1 : Nat) : Int)) (bs ++ [b]) := by
  obtain ⟨h1, h2, h3⟩ := hv
  have hlen : (bs ++ [b]).length = bs.length + 1 := by rw [List.length_append]; rfl
  refine ⟨by rw [zi_wi_s, hlen], by omega, fun i hi => ?_⟩
  rw [hlen] at hi
  rw [zi_wi_n _ _ (Or.inl (by decide)), List.getD_eq_getElem?_getD]
  by_cases e : i = bs.length
  · subst e; rw [zi_wi_s, List.getElem?_append_right (Nat.le_refl _), Nat.sub_self]; rfl
  · rw [zi_wi_n _ _ (Or.inr e), h3 i (by omega), List.getElem?_append_left (by omega), List.getD_eq_getElem?_getD]
theorem m_lay1 {x s s2 q : Int} (hS : S2 m) {bs : List Int} (hv : TpM m bs) (hb : bs.length < 900) (hs : ¬ q < 0) (h1 : zmul 8 q = s) (h2 : zadd q (-1) = s2) : zX zP 282 v 2 [some (.inr (.inr (some 0))), some (.inl x), some (.inl q)] [] m = zX zP 282 v 2 [some (.inr (.inr (some 0))), some (.inl x), some (.inl s2)] [] (zwi (zwi m 4 bs.length (byF x s)) 0 8 ((bs.length + 1 : Nat) : Int)) := by
  rw [j_X11_lay_2, if_neg hs, if_pos hS.1, hS.2.1.1.2.2.2, obind, if_pos hS.1, hv.1, if_pos (hS.2.2.1.2.2.2.A (by omega) (by omega)), Int.toNat_natCast, zT_wi, if_pos hS.1, if_pos hS.1]
  show zX zP 282 v 2 _ [] _ = _
  rw [h2, h1, zi_wi_n _ _ (Or.inl (by decide)), hv.1, zadd1 (by omega)]
  rfl
theorem m_lay (hS : S2 m) {bs : List Int} (hv : TpM m bs) (hb : bs.length + 4 ≤ 900) (x : Int) : ∃ m', zF zP 282 v [(.inr (.inr (some 0))), .inl x] m = some (none, m') ∧ Fr tpP m m' ∧ TpM m' (bs ++ by4 x) := by
  have w : ∀ (m : zM) (k : Nat) (b c : Int), Fr tpP m (zwi (zwi m 4 k b) 0 8 c) := fun m k b c => (Fr.wi m _ (Or.inr rfl)).tr (Fr.wi _ _ (Or.inl ⟨rfl, rfl⟩))
  have l1 : ∀ (bs : List Int) (b : Int), (bs ++ [b]).length = bs.length + 1 := fun bs b => by rw [List.length_append]; rfl
  have v1 := hv.push (b := byF x 24) (by omega)
  have s1 := w m bs.length (byF x 24) ((bs.length + 1 : Nat) : Int)
  have v2 := v1.push (b := byF x 16) (by rw [l1]; omega)
  have s2 := w _ (bs ++ [byF x 24]).length (byF x 16) (((bs ++ [byF x 24]).length + 1 : Nat) : Int) |> s1.tr
  have v3 := v2.push (b := byF x 8) (by rw [l1, l1]; omega)
  have s3 := w _ ((bs ++ [byF x 24]) ++ [byF x 16]).length (byF x 8) ((((bs ++ [byF x 24]) ++ [byF x 16]).length + 1 : Nat) : Int) |> s2.tr
  have v4 := v3.push (b := byF x 0) (by rw [l1, l1, l1]; omega)
  have s4 := w _ (((bs ++ [byF x 24]) ++ [byF x 16]) ++ [byF x 8]).length (byF x 0) (((((bs ++ [byF x 24]) ++ [byF x 16]) ++ [byF x 8]).length + 1 : Nat) : Int) |> s3.tr
  refine ⟨_, ?_, s4, ?_⟩
  · rw [f_X11_lay, m_lay1 hS hv (by omega) (by decide) (show zmul 8 3 = 24 by decide) (show zadd 3 (-1) = 2 by decide), m_lay1 (s1.s2 hS) v1 (by rw [l1]; omega) (by decide) (show zmul 8 2 = 16 by decide) (show zadd 2 (-1) = 1 by decide), m_lay1 (s2.s2 hS) v2 (by rw [l1, l1]; omega) (by decide) (show zmul 8 1 = 8 by decide) (show zadd 1 (-1) = 0 by decide), m_lay1 (s3.s2 hS) v3 (by rw [l1, l1, l1]; omega) (by decide) (show zmul 8 0 = 0 by decide) (show zadd 0 (-1) = -1 by decide), j_X11_lay_2, if_pos (by decide), j_X11_lay_38]
  · have e : bs ++ by4 x = (((bs ++ [byF x 24]) ++ [byF x 16]) ++ [byF x 8]) ++ [byF x 0] := by simp [by4]
    rw [e]; exact v4
theorem w_feed (hR : R2 S m) (a b c d e : Int) : Ex2 (zF zP 283 v [(.inr (.inr (some 0))), .inl a, .inl b, .inl c, .inl d, .inl e] m) (o_feed S a b c d e) := by
  have h0 := hR.th (x := 0)
  unfold o_feed
  rw [f_X11_feed, if_pos hR.1.1, zT_wi, if_pos hR.1.1]
  generalize zwi m 0 1 0 = m0 at h0 ⊢
  have hv := h0.tpv
  have h9 := hv.2.1
  have ez : ∀ _ : Unit, zadd ((gTp S).length : Int) 20 = (((gTp S).length + 20 : Nat) : Int) := fun _ => zadd_nat (k := 20) (by omega)
  rw [hv.1, ez ()]
  by_cases h : (gTp S).length + 20 ≤ 900
  · rw [if_neg (by omega), if_pos h, j_X11_feed_20, if_pos h0.1.1]
    obtain ⟨m1, e1, s1, v1⟩ := m_lay (v := 0) h0.1 hv (by omega) a
    have S1' := s1.s2 h0.1
    obtain ⟨m2, e2, s2, v2⟩ := m_lay (v := 0) S1' v1 (by rw [List.length_append, by4_len]; omega) b
    have S2' := s2.s2 S1'
    obtain ⟨m3, e3, s3, v3⟩ := m_lay (v := 0) S2' v2 (by rw [List.length_append, List.length_append, by4_len, by4_len]; omega) c
    have S3' := s3.s2 S2'
    obtain ⟨m4, e4, s4, v4⟩ := m_lay (v := 0) S3' v3 (by rw [List.length_append, List.length_append, List.length_append, by4_len, by4_len, by4_len]; omega) d
    have S4' := s4.s2 S3'
    obtain ⟨m5, e5, s5, v5⟩ := m_lay (v := 0) S4' v4 (by rw [List.length_append, List.length_append, List.length_append, List.length_append, by4_len, by4_len, by4_len, by4_len]; omega) e
    have S5' := s5.s2 S4'
    have hlen : (((((gTp S ++ by4 a) ++ by4 b) ++ by4 c) ++ by4 d) ++ by4 e).length = (gTp S).length + 20 := by
      rw [List.length_append, List.length_append, List.length_append, List.length_append, List.length_append, by4_len, by4_len, by4_len, by4_len, by4_len]
    rw [e1, zC0_s, if_pos S1'.1, e2, zC0_s, if_pos S2'.1, e3, zC0_s, if_pos S3'.1, e4, zC0_s, if_pos S4'.1, e5, zC0_s, if_pos S5'.1, v5.1, hlen]
    exact ⟨m5, rfl, h0.tpw ((((s1.tr s2).tr s3).tr s4).tr s5) v5⟩
  · rw [if_pos (by omega), if_neg h]
    exact ⟨m0, rfl, h0⟩
/-- pour -/
theorem p_pour (hR : R1 S m) (t u : Int) {i j n : Int} (hi : r32 i) (hj : r32 j) (hn : r32 n) : Ex1 (zF zP 173 v [(.inr (.inr (some 0))), .inl t, .inl i, .inl u, .inl j, .inl n] m) (o_pour S t i u j n) := by
  have hS := hR.1
  unfold o_pour
  rw [f_X10_pour, if_pos hS.1, c_trayStatus hR, zC1_s, if_pos hS.1, c_trayStatus hR, zC1_s, c_lesser, zC1_s, if_pos hS.1]
  by_cases h : yLs (ySt S t) (ySt S u) = 0
  · obtain ⟨ha, hb⟩ := yLs0 (ySt_ge _ _) (ySt_ge _ _) h
    obtain ⟨a, rfl, ha4, hae⟩ := ySt0 ha
    obtain ⟨b, rfl, hb4, hbe⟩ := ySt0 hb
    have Ta := (hS.2.2.2.1 a ha4).2
    have Tb := (hS.2.2.2.1 b hb4).2
    have va := hR.2.2.1 a ha4
    have vb := hR.2.2.1 b hb4
    rw [c_trayAt_t hS ha4, zC3_s, if_pos hS.1, c_trayAt_t hS hb4, zC3_s, if_pos h, if_pos h, j_X10_pour_51, if_pos Ta.1, if_pos Tb.1, va.2.1, vb.2.1, Int.toNat_natCast, Int.toNat_natCast]
    by_cases e : (gTr S a).2.1 = (gTr S b).2.1
    · rw [if_pos e, if_pos e, j_X10_pour_71]
      by_cases e1 : n < 0
      · rw [if_pos e1, if_pos e1, if_pos hS.1]; exact x1_fC hR
      · rw [if_neg e1, if_neg e1, j_X10_pour_83, if_pos Ta.1, s_hasStretch Ta va hi hn, zC1_s]
        have f106 : zX zP 173 v 106 [some (.inr (.inr (some 0))), some (.inl (a : Int)), some (.inl i), some (.inl (b : Int)), some (.inl j), some (.inl n), some (.inl (yLs (ySt S (a : Int)) (ySt S (b : Int)))), some (.inr (.inr (some (67 + 2 * a)))), some (.inr (.inr (some (67 + 2 * b))))] [] m = some (some (.inl 0), zwi m 0 14 4) := by
          rw [j_X10_pour_106, if_pos hS.1, c_refused hS, zC1_s, if_pos zb0]
        by_cases g1 : 0 ≤ i ∧ i + n ≤ ((gTr S a).2.2.length : Int)
        · rw [if_neg (by rw [decide_eq_true g1.1, decide_eq_true (zlt_ge e1), decide_eq_true g1.2]; decide), if_pos Tb.1, s_hasStretch Tb vb hj hn, zC1_s]
          by_cases g2 : 0 ≤ j ∧ j + n ≤ ((gTr S b).2.2.length : Int)
          · have a60 := va.2.2.2.1
            have b60 := vb.2.2.2.1
            obtain ⟨I, rfl⟩ := Int.eq_ofNat_of_zero_le g1.1
            obtain ⟨J, rfl⟩ := Int.eq_ofNat_of_zero_le g2.1
            obtain ⟨N, rfl⟩ := Int.eq_ofNat_of_zero_le (zlt_ge e1)
            have c1 : ((zT m (67 + 2 * a + 1) 10 && zT m (67 + 2 * b + 1) 10) && ((decide (0 ≤ (N : Int)) && (decide (0 ≤ (I : Int)) && decide ((I : Int) + (N : Int) ≤ ((zk m (67 + 2 * a + 1)).2 : Int)))) && ((decide (0 ≤ (J : Int)) && decide ((J : Int) + (N : Int) ≤ ((zk m (67 + 2 * b + 1)).2 : Int))) && decide (zw [] ≤ 8)))) = true := by
              rw [zT_i Ta.2.2.1 Ta.2.2.2, zT_i Tb.2.2.1 Tb.2.2.2, Ta.2.2.L, Tb.2.2.L, decide_eq_true (by omega : (0 : Int) ≤ (N : Int)), decide_eq_true (by omega : (0 : Int) ≤ (I : Int)), decide_eq_true (by omega : (0 : Int) ≤ (J : Int)), decide_eq_true (by omega : (I : Int) + (N : Int) ≤ ((60 : Nat) : Int)), decide_eq_true (by omega : (J : Int) + (N : Int) ≤ ((60 : Nat) : Int))]
              rfl
            rw [if_neg (by rw [decide_eq_true g2.1, decide_eq_true (zlt_ge e1), decide_eq_true g2.2]; decide), j_X10_pour_112, if_pos Ta.1, Ta.2.1, obind, if_pos Tb.1, Tb.2.1, obind, if_pos c1, if_pos ⟨g1, g2⟩]
            simp only [Int.toNat_natCast]
            unfold zLet
            have hs : Sam m (m.1, m.2.1, m.2.2.1, (fun c k => if c = 67 + 2 * b + 1 ∧ J ≤ k ∧ k < J + N then zl m (67 + 2 * a + 1) (I + (k - J)) else zl m c k), m.2.2.2.2) (67 + 2 * b) (69 + 2 * b) := ⟨rfl, rfl, rfl, fun c hc => ⟨rfl, by funext k; exact if_neg (by omega)⟩⟩
            have hx : TrV (m.1, m.2.1, m.2.2.1, (fun c k => if c = 67 + 2 * b + 1 ∧ J ≤ k ∧ k < J + N then zl m (67 + 2 * a + 1) (I + (k - J)) else zl m c k), m.2.2.2.2) (67 + 2 * b) ((gTr S b).1, (gTr S b).2.1, puL (gTr S a).2.2 (gTr S b).2.2 I J N) := by
              obtain ⟨v1, v2, v3, v4, v5, v6⟩ := vb
              refine ⟨v1, v2, by rw [puL_len]; exact v3, by rw [puL_len]; exact v4, v5, fun k hk => ?_⟩
              have hk' : k < (gTr S b).2.2.length := by have : k < (puL (gTr S a).2.2 (gTr S b).2.2 I J N).length := hk; rw [puL_len] at this; exact this
              show (if 67 + 2 * b + 1 = 67 + 2 * b + 1 ∧ J ≤ k ∧ k < J + N then zl m (67 + 2 * a + 1) (I + (k - J)) else zl m (67 + 2 * b + 1) k) = (puL (gTr S a).2.2 (gTr S b).2.2 I J N).getD k 0
              rw [puL_get _ _ _ _ _ _ hk']
              by_cases q : J ≤ k ∧ k < J + N
              · rw [if_pos ⟨rfl, q⟩, if_pos q, va.2.2.2.2.2 _ (by omega)]
              · rw [if_neg (fun w => q w.2), if_neg q, v6 k hk']
            have hR1 := hR.tr hb4 hs hx
            generalize hm : (m.1, m.2.1, m.2.2.1, (fun c k => if c = 67 + 2 * b + 1 ∧ J ≤ k ∧ k < J + N then zl m (67 + 2 * a + 1) (I + (k - J)) else zl m c k), m.2.2.2.2) = mm at hR1 ⊢
            show Ex1 (if zT mm 0 6 = true then _ else _) _
            rw [if_pos hR1.1.1]
            exact x1_tC hR1
          · rw [if_pos (by rw [decide_eq_true (zlt_ge e1), Bool.true_and, ← Bool.decide_and]; exact b01_ne.mpr (decide_eq_false g2)), f106, if_neg (fun q => g2 q.2)]; exact x1_f hR
        · rw [if_pos (by rw [decide_eq_true (zlt_ge e1), Bool.true_and, ← Bool.decide_and]; exact b01_ne.mpr (decide_eq_false g1)), f106, if_neg (fun q => g1 q.1)]; exact x1_f hR
    · rw [if_neg e, if_neg e, if_pos hS.1]; exact x1_fC hR
  · have f44 : ∀ r1 r2, zX zP 173 v 44 [some (.inr (.inr (some 0))), some (.inl t), some (.inl i), some (.inl u), some (.inl j), some (.inl n), some (.inl (yLs (ySt S t) (ySt S u))), some (.inr (.inr r1)), some (.inr (.inr r2))] [] m = some (some (.inl 0), zwi m 0 14 (yLs (ySt S t) (ySt S u))) := fun r1 r2 => by
      rw [j_X10_pour_44, if_pos hS.1, c_refused hS, zC1_s, if_pos zb0]
    rw [if_neg h]
    by_cases ht : inR t 0 3 = true
    · obtain ⟨a, rfl, ha4⟩ := inR3 ht
      rw [c_trayAt_t hS ha4, zC3_s, if_pos hS.1]
      by_cases hu : inR u 0 3 = true
      · obtain ⟨b, rfl, hb4⟩ := inR3 hu
        rw [c_trayAt_t hS hb4, zC3_s, if_neg h, f44]; exact x1_f hR
      · rw [c_trayAt_n hS hu, zC3_n, if_neg h, f44]; exact x1_f hR
    · rw [c_trayAt_n hS ht, zC3_n, if_pos hS.1]
      by_cases hu : inR u 0 3 = true
      · obtain ⟨b, rfl, hb4⟩ := inR3 hu
        rw [c_trayAt_t hS hb4, zC3_s, if_neg h, f44]; exact x1_f hR
      · rw [c_trayAt_n hS hu, zC3_n, if_neg h, f44]; exact x1_f hR
end OPS6
