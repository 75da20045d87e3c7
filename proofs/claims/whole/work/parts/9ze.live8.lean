/-! The class's live(). -/
def li0 (L : zLd) (x : Nat) : zLi := (L, (x, 0, 0, 0, 0, 0), (false, false))
def lvd (A : zAc) (L : zLd) (x : Nat) : zLi := lvA A (nst A) 0 (nst A) (li0 L x)
def lv5o (σ : zLi) : Int × Int × Int × Int × Int := ((σ.2.1.2.2.1 : Int), (σ.2.1.2.2.2.1 : Int), (σ.2.1.2.2.2.2.1 : Int), (σ.2.1.2.2.2.2.2 : Int), b01 σ.2.2.1)
def oLive (S : zSt) (x : Nat) (y : zYr) : Int × zSt := match y with
  | none => oNo S 8
  | some A => oYes (wLv (wL S (lvd A (gL S) x).1) (some (lv5o (lvd A (gL S) x)))) ((lvd A (gL S) x).2.1.2.1 : Int)
def o_live (S : zSt) (x : Int) : Int × zSt := if inR x 0 9999 = true then oLive S x.toNat (gBl S).2 else oNo S 5
def YrOk (B : zBl) : Prop := ∀ A, B.2 = some A → ∃ d, Sg (gSp B.1.2.2.1.length B.1.2.1.length B.1.1.length) A d 0 (nst A) 0 A.1.length
def TdOk (L : zLd) : Prop := ∃ t : Nat, L.2.2.2.2 = (t : Int) ∧ t ≤ 9999
def lvQ (b j : Nat) : Prop := lvF 5 0 60 b j ∨ b = 64
section LIVE8
variable {v : Nat} {m m' : zM} {a : Nat} {L : zLd} {σ : zLi} {A : zAc} {S : zSt} {x2 : Int}
theorem Fr.w2 {P : Nat → Nat → Prop} {b k : Nat} {x : Int} (h : Fr P m m') (hP : P b k) : Fr P m (zwi m' b k x) := h.tr (Fr.wi m' x hP)
/-- LIVING from the beginning -/
theorem c_lbegin (hf : LfS m) (x : Nat) : ∃ m1, zF zP 56 v [(.inr (.inr (some 62))), .inl (x : Int)] m = some (none, m1) ∧ Fr (fun b _ => b = 62) m m1 ∧ (zi m1 62 1 = (x : Int) ∧ zi m1 62 2 = 0 ∧ zi m1 62 3 = 0) ∧ (zi m1 62 4 = 0 ∧ zi m1 62 5 = 0 ∧ zi m1 62 6 = 0) ∧ zi m1 62 7 = 0 := by
  have t := hf.1
  have ne : ∀ (mm : zM) (k j : Nat) (y : Int), j ≠ k → zi (zwi mm 62 k y) 62 j = zi mm 62 j := fun mm k j y h => zi_wi_n _ _ (Or.inr h)
  have p62 : ∀ k : Nat, (fun (b _ : Nat) => b = 62) 62 k := fun _ => rfl
  obtain ⟨m1, h1⟩ : ∃ m1, zwi m 62 1 (x : Int) = m1 := ⟨_, rfl⟩
  obtain ⟨m2, h2⟩ : ∃ m2, zwi m1 62 2 0 = m2 := ⟨_, rfl⟩
  obtain ⟨m3, h3⟩ : ∃ m3, zwi m2 62 3 0 = m3 := ⟨_, rfl⟩
  obtain ⟨m4, h4⟩ : ∃ m4, zwi m3 62 4 0 = m4 := ⟨_, rfl⟩
  obtain ⟨m5, h5⟩ : ∃ m5, zwi m4 62 5 0 = m5 := ⟨_, rfl⟩
  obtain ⟨m6, h6⟩ : ∃ m6, zwi m5 62 6 0 = m6 := ⟨_, rfl⟩
  obtain ⟨m7, h7⟩ : ∃ m7, zwi m6 62 7 0 = m7 := ⟨_, rfl⟩
  have t1 : zT m1 62 1 = true := by rw [← h1, zT_wi]; exact t
  have t2 : zT m2 62 1 = true := by rw [← h2, zT_wi]; exact t1
  have t3 : zT m3 62 1 = true := by rw [← h3, zT_wi]; exact t2
  have t4 : zT m4 62 1 = true := by rw [← h4, zT_wi]; exact t3
  have t5 : zT m5 62 1 = true := by rw [← h5, zT_wi]; exact t4
  have t6 : zT m6 62 1 = true := by rw [← h6, zT_wi]; exact t5
  have n1 := fun j (q : j ≠ 1) => (congrArg (fun z => zi z 62 j) h1).symm.trans (ne m 1 j (x : Int) q)
  have n2 := fun j (q : j ≠ 2) => (congrArg (fun z => zi z 62 j) h2).symm.trans (ne m1 2 j 0 q)
  have n3 := fun j (q : j ≠ 3) => (congrArg (fun z => zi z 62 j) h3).symm.trans (ne m2 3 j 0 q)
  have n4 := fun j (q : j ≠ 4) => (congrArg (fun z => zi z 62 j) h4).symm.trans (ne m3 4 j 0 q)
  have n5 := fun j (q : j ≠ 5) => (congrArg (fun z => zi z 62 j) h5).symm.trans (ne m4 5 j 0 q)
  have n6 := fun j (q : j ≠ 6) => (congrArg (fun z => zi z 62 j) h6).symm.trans (ne m5 6 j 0 q)
  have n7 := fun j (q : j ≠ 7) => (congrArg (fun z => zi z 62 j) h7).symm.trans (ne m6 7 j 0 q)
  have s1 : zi m1 62 1 = (x : Int) := by rw [← h1]; exact zi_wi_s _ _ _ _
  have s2 : zi m2 62 2 = 0 := by rw [← h2]; exact zi_wi_s _ _ _ _
  have s3 : zi m3 62 3 = 0 := by rw [← h3]; exact zi_wi_s _ _ _ _
  have s4 : zi m4 62 4 = 0 := by rw [← h4]; exact zi_wi_s _ _ _ _
  have s5 : zi m5 62 5 = 0 := by rw [← h5]; exact zi_wi_s _ _ _ _
  have s6 : zi m6 62 6 = 0 := by rw [← h6]; exact zi_wi_s _ _ _ _
  have s7 : zi m7 62 7 = 0 := by rw [← h7]; exact zi_wi_s _ _ _ _
  have c1 : Fr (fun b _ => b = 62) m m1 := by rw [← h1]; exact (Fr.rf _ _).w2 (p62 1)
  have c2 : Fr (fun b _ => b = 62) m m2 := by rw [← h2]; exact c1.w2 (p62 2)
  have c3 : Fr (fun b _ => b = 62) m m3 := by rw [← h3]; exact c2.w2 (p62 3)
  have c4 : Fr (fun b _ => b = 62) m m4 := by rw [← h4]; exact c3.w2 (p62 4)
  have c5 : Fr (fun b _ => b = 62) m m5 := by rw [← h5]; exact c4.w2 (p62 5)
  have c6 : Fr (fun b _ => b = 62) m m6 := by rw [← h6]; exact c5.w2 (p62 6)
  have c7 : Fr (fun b _ => b = 62) m m7 := by rw [← h7]; exact c6.w2 (p62 7)
  refine ⟨m7, ?_, c7, ⟨(n7 1 (by decide)).trans ((n6 1 (by decide)).trans ((n5 1 (by decide)).trans ((n4 1 (by decide)).trans ((n3 1 (by decide)).trans ((n2 1 (by decide)).trans s1))))), (n7 2 (by decide)).trans ((n6 2 (by decide)).trans ((n5 2 (by decide)).trans ((n4 2 (by decide)).trans ((n3 2 (by decide)).trans s2)))), (n7 3 (by decide)).trans ((n6 3 (by decide)).trans ((n5 3 (by decide)).trans ((n4 3 (by decide)).trans s3)))⟩, ⟨(n7 4 (by decide)).trans ((n6 4 (by decide)).trans ((n5 4 (by decide)).trans s4)), (n7 5 (by decide)).trans ((n6 5 (by decide)).trans s5), (n7 6 (by decide)).trans s6⟩, s7⟩
  rw [f_X1_begin, if_pos t, h1, if_pos t1, h2, if_pos t2, h3, if_pos t3, h4, if_pos t4, h5, if_pos t5, h6, if_pos t6, h7]
theorem c_fin {P N W : Nat} {τ : zLi} {p' B : Nat} (hp : p' = A.1.length) (hB : B ≤ 50000) (hA60 : A.1.length ≤ 60) (hr : RnC v m a A x2 P N W 0 p' 0 none B τ) : ∃ m', lvX v a x2 0 0 none m = some (none, m') ∧ Fr (lvF a 0 60) m m' ∧ GLi m' a A τ ∧ τ.2.1.2.1 ≤ 300 ∧ LiB 300 τ ∧ szs P N W τ := by
  subst hp
  by_cases c : τ.2.2.2 = true
  · obtain ⟨m2, y1, y2, y3, y4, y5, y6⟩ := hr.2 c
    exact ⟨m2, y1, lvF_mono y3 (Nat.le_refl _) hA60, y2, y4, y5, y6⟩
  · obtain ⟨m2, t2, u2, y1, y2, y3, y4, y5⟩ := hr.1 (bool_f c)
    have ht2 : t2 < 1000000 := by omega
    have hy : YrS m2 (a + 8) := y2.1.1.2.2.2.1
    have y4c : zi m2 (a + 8) 4 = (A.1.length : Int) := (y2.2.2 A rfl).1
    have ex : lvX v a x2 A.1.length t2 u2 m2 = some (none, m2) := by
      show zX zP 70 v 16 _ [] m2 = _
      rw [j_X1_goesThrough_16, if_pos (show (t2 : Int) < 1000000 by omega), if_pos hy.1, y4c, if_neg (by omega), j_X1_goesThrough_111]
    exact ⟨m2, y1.trans ex, lvF_mono y3 (Nat.le_refl _) hA60, y2, y4.2.2.1, y4.2.1.mono y4.2.2.1, y4.2.2.2⟩
theorem li0_ok {x : Nat} (hx : x < 65536) (ht : TdOk L) : RnOk L.2.2.1.length L.2.1.length L.1.length (li0 L x) := by
  refine ⟨rfl, ⟨hx, ⟨?_, ?_, ?_, ?_⟩, ht⟩, ?_, rfl, rfl, rfl⟩
  · exact Nat.zero_le _
  · exact Nat.zero_le _
  · exact Nat.zero_le _
  · exact Nat.zero_le _
  · exact Nat.zero_le _
theorem c_lives (ha : a + 28 ≤ 62) (h : LdS m a) (hf : LfS m) (hL : LdV m a L) (hA : YvC m (a + 8) (some A)) {d x : Nat} (hS : Sg (gSp L.2.2.1.length L.2.1.length L.1.length) A d 0 (nst A) 0 A.1.length) (ht : TdOk L) (hx : x < 65536) :
    ∃ m', zF zP 70 v [(.inr (.inr (some 62))), (.inr (.inr (some a))), .inl (x : Int)] m = some (none, m') ∧ Fr (lvF a 0 60) m m' ∧ GLi m' a A (lvd A L x) ∧ (lvd A L x).2.1.2.1 ≤ 300 ∧ LiB 300 (lvd A L x) ∧ szs L.2.2.1.length L.2.1.length L.1.length (lvd A L x) := by
  have hA60 : A.1.length ≤ 60 := (hA.2 A rfl).2.1
  obtain ⟨m1, be, hw, ⟨e1, e2, e3⟩, ⟨e4, e5, e6⟩, e7⟩ := c_lbegin (v := 0) hf x
  have hs : Sam m m1 62 63 := hw.sam (fun b j q => by have q' : b = 62 := q; omega)
  have hf1 : Fr (lvF a 0 60) m m1 := hw.mono (fun b j q => Or.inl (Or.inr (Or.inr (Or.inr (Or.inr q)))))
  have g : GLi m1 a A (li0 L x) := ⟨⟨hs.Ld h, hs.ldV (by omega) hL, hs.Lf hf, ⟨e1, e2, e3⟩, ⟨e4, e5, e6⟩, e7⟩, hs.yvC (by omega) hA⟩
  have run := c_run (v := v) (x2 := (x : Int)) ha d (nst A) 0 (nst A) 0 A.1.length (li0 L x) m1 0 none hS (by omega) (Nat.le_refl _) g (li0_ok hx ht) (Nat.le_trans (by rw [Nat.zero_add]; exact Nat.mul_le_mul_left 101 (Nat.sub_le 300 _)) (show 101 * 300 ≤ 100000 by decide))
  obtain ⟨m2, r1, r2, r3⟩ := c_fin rfl (show (li0 L x).2.1.2.1 ≤ 50000 from Nat.zero_le _) hA60 run
  have h1 := hs.Ld h
  refine ⟨m2, ?_, hf1.tr r2, r3⟩
  rw [f_X1_goesThrough, if_pos hf.1, be, zC0_s, if_pos h1.1, h1.2.1.2.2.2.2.2.2, obind]
  exact r1
theorem s_told (hf : LfS m) {i : Nat} (hi : i < 5) : zF zP 55 v [(.inr (.inr (some 62))), .inl (i : Int)] m = some (some (.inl (zi m 62 (3 + i))), m) := by
  have t := hf.1
  rcases i with _ | _ | _ | _ | _ | i
  · rw [f_X1_told]
    show zX zP _ v 32 _ [] m = _
    rw [j_X1_told_32, if_pos t]
  · rw [f_X1_told]
    show zX zP _ v 37 _ [] m = _
    rw [j_X1_told_37, if_pos t]
  · rw [f_X1_told]
    show zX zP _ v 42 _ [] m = _
    rw [j_X1_told_42, if_pos t]
  · rw [f_X1_told]
    show zX zP _ v 47 _ [] m = _
    rw [j_X1_told_47, if_pos t]
  · rw [f_X1_told]
    show zX zP _ v 52 _ [] m = _
    rw [j_X1_told_52, if_pos t]
  · omega
theorem R1.lived {L' : zLd} {p : Int × Int × Int × Int × Int} (hR : R1 S m) (h : Fr lvQ m m') (hL : LdV m' 5 L') (hY : YvC m' 13 (gBl S).2) (h64 : ∀ i, i < 5 → zi m' 64 i = lv5 p i) : R1 (wLv (wL S L') (some p)) (zwi m' 0 9 1) := by
  have hs : Sam m m' 5 65 := h.sam (fun b j q => by unfold lvQ lvF lvE at q; omega)
  have hw : Sam m' (zwi m' 0 9 1) 0 1 := Sam.wi m' _ _ (by omega) (by omega)
  obtain ⟨h1, ⟨a1, a2, a3, a4, a5, a6, a7, a8⟩, ⟨gtr, gtp, gbl, gmk, glv, gdf⟩⟩ := hR
  have g : ∀ j, j ≠ 9 → zi (zwi m' 0 9 1) 0 j = zi m 0 j := fun j hj => by rw [zi_wi_n _ _ (Or.inr hj), hs.i (by omega)]
  refine ⟨hw.s1 (hs.s1 h1), ⟨?_, ?_, ?_, ?_, ?_, fun f hf => ⟨?_, ?_⟩, ?_, ?_⟩, fun t ht => hw.trV (by omega) (hs.trV (by omega) (gtr t ht)), hw.tpV (by omega) (hs.tpV (by omega) gtp), hw.bvC (by omega) ⟨hL, hY⟩, ⟨gmk.1, fun i hi => hw.bvC (by omega) (hs.bvC (by omega) (gmk.2 i hi))⟩, fun q hq i hi => ?_, hw.dfb (by omega) (fun i hi => by rw [h.i (by unfold lvQ lvF lvE; omega)]; exact gdf i hi)⟩
  · rw [g 14 (by decide)]; exact a1
  · rw [zl_wi, hs.l (by omega)]; exact a2
  · rw [zl_wi, hs.l (by omega)]; exact a3
  · rw [g 13 (by decide)]; exact a4
  · rw [g 10 (by decide)]; exact a5
  · rw [g 11 (by decide)]; exact (a6 f hf).1
  · rw [g 12 (by decide)]; exact (a6 f hf).2
  · rw [zi_wi_s]; rfl
  · show m'.1 = gN S
    rw [h.1]; exact a8
  · have hq' : p = q := Option.some.inj hq
    rw [hw.i (by omega), ← hq']; exact h64 i hi
theorem p_live (hR : R1 S m) (hy : YrOk (gBl S)) (ht : TdOk (gL S)) (x : Int) : Ex1 (zF zP 232 v [(.inr (.inr (some 0))), .inl x] m) (o_live S x) := by
  have hS := hR.1
  have r2 : zr m 0 2 = some 5 := hS.2.1.2.2.1
  have r5 : zr m 0 5 = some 62 := hS.2.1.2.2.2.2.2.1
  have l5 : LdS m 5 := hS.2.2.2.2.2.2.1
  have r6 : zr m 5 6 = some 13 := l5.2.1.2.2.2.2.2.2
  have y13 : YrS m 13 := l5.2.2.2.1
  have lf : LfS m := hS.2.2.2.2.2.1
  have no : Ex1 (zX zP 232 v 11 [some (.inr (.inr (some 0))), some (.inl x), none] [] m) (oNo S 5) := by
    rw [j_X10_live_11, if_pos hS.1]; exact x1_noC hR
  unfold o_live
  rw [f_X10_live]
  by_cases c0 : x < 0
  · rw [if_pos c0, inR_f.mpr (by omega), if_neg (by decide)]; exact no
  · rw [if_neg c0]
    by_cases c1 : (9999 : Int) < x
    · rw [if_pos c1, inR_f.mpr (by omega), if_neg (by decide)]; exact no
    · obtain ⟨n, rfl⟩ := Int.eq_ofNat_of_zero_le (show 0 ≤ x by omega)
      have hYv : YvC m 13 (gBl S).2 := hR.2.2.2.2.1.2
      have h3 : zi m 13 3 = b01 (gBl S).2.isSome := hYv.1
      rw [if_neg c1, inR_t.mpr (by omega), if_pos rfl, Int.toNat_natCast, j_X10_live_17, if_pos hS.1, r2, obind, if_pos l5.1, r6, obind, if_pos y13.1, h3]
      cases e : (gBl S).2 with
      | none =>
        rw [if_pos (show b01 (none : Option (List Int × List Int × List Int)).isSome = 0 from yb0), if_pos hS.1]
        exact x1_noC hR
      | some A =>
        rw [e] at hYv
        obtain ⟨d, hSg⟩ := hy A e
        obtain ⟨m1, q1, q2, q3, q4, q5, q6⟩ := c_lives (v := 0) (a := 5) (by omega) l5 lf hR.2.2.2.2.1.1 hYv hSg ht (show n < 65536 by omega)
        have s1 : Sam m m1 5 64 := q2.sam (fun b j q => by unfold lvF lvE at q; omega)
        have hS1 := s1.s1 hS
        have k64 : ArS m1 64 9 5 := hS1.2.2.1.2.2.1
        have r64 : zr m1 0 6 = some 64 := hS1.2.1.2.2.2.2.2.2.1
        have loop : ∀ (n' k : Nat) (mm : zM) (u : Int), k + n' = 5 → Fr (fun b _ => b = 64) m1 mm → (∀ i, i < k → zi mm 64 i = zi m1 62 (3 + i)) → ∃ m', zX zP 232 v 51 [some (.inr (.inr (some 0))), some (.inl u), some (.inl (k : Int))] [] mm = zX zP 232 v 80 [some (.inr (.inr (some 0))), some (.inl u), some (.inl 5)] [] m' ∧ Fr (fun b _ => b = 64) m1 m' ∧ ∀ i, i < 5 → zi m' 64 i = zi m1 62 (3 + i) := by
          intro n'
          induction n' with
          | zero =>
            intro k mm u hk hF hz
            have e5 : k = 5 := by omega
            subst e5
            have sm : Sam m1 mm 64 65 := hF.sam (fun b j q => by have q' : b = 64 := q; omega)
            have hSm := sm.s1 hS1
            refine ⟨mm, ?_, hF, hz⟩
            rw [j_X10_live_51, if_pos hSm.1, hSm.2.1.2.2.2.2.2.2.1, obind, if_pos (hSm.2.2.1.2.2.1.Y (by decide)), hSm.2.2.1.2.2.1.L, if_neg (by omega)]; rfl
          | succ n' ih =>
            intro k mm u hk hF hz
            have sm : Sam m1 mm 64 65 := hF.sam (fun b j q => by have q' : b = 64 := q; omega)
            have hSm := sm.s1 hS1
            have hfm : LfS mm := hSm.2.2.2.2.2.1
            have hv : zi mm 62 (3 + k) = zi m1 62 (3 + k) := sm.i (by omega) _
            obtain ⟨m', i1, i2, i3⟩ := ih (k + 1) (zwi mm 64 k (zi m1 62 (3 + k))) u (by omega) (hF.tr (Fr.wi _ _ rfl)) (fun i hi => by
              by_cases z : i = k
              · subst z; exact zi_wi_s _ _ _ _
              · rw [zi_wi_n _ _ (Or.inr z)]; exact hz i (by omega))
            refine ⟨m', ?_, i2, i3⟩
            rw [j_X10_live_51, if_pos hSm.1, hSm.2.1.2.2.2.2.2.2.1, obind, if_pos (hSm.2.2.1.2.2.1.Y (by decide)), hSm.2.2.1.2.2.1.L, if_pos (by omega), if_pos hSm.1, obind, if_pos hSm.1, hSm.2.1.2.2.2.2.2.1, obind, if_pos hfm.1, s_told hfm (by omega), zC1_s, if_pos (hSm.2.2.1.2.2.1.A (by omega) (by omega)), Int.toNat_natCast, zadd1 (by omega), hv]
            exact i1
        obtain ⟨m2, l1, l2, l3⟩ := loop 5 0 m1 (n : Int) rfl (Fr.rf _ _) (fun i hi => absurd hi (Nat.not_lt_zero i))
        have s2 : Sam m1 m2 64 65 := l2.sam (fun b j q => by have q' : b = 64 := q; omega)
        obtain ⟨w1, w2, w3, ⟨g1, g2, g3⟩, ⟨g4, g5, g6⟩, g7⟩ := q3.1
        have hQ : Fr lvQ m m2 := (q2.mono (fun b j q => Or.inl q)).tr (l2.mono (fun b j q => Or.inr q))
        have h64 : ∀ i, i < 5 → zi m2 64 i = lv5 (lv5o (lvd A (gL S) n)) i := fun i hi => by
          rw [l3 i hi]
          rcases i with _ | _ | _ | _ | _ | i
          · exact g3
          · exact g4
          · exact g5
          · exact g6
          · exact g7
          · omega
        have hY2 : YvC m2 13 (gBl S).2 := by rw [e]; exact s2.yvC (by omega) q3.2
        have hR3 := hR.lived hQ (s2.ldV (by omega) w2) hY2 h64
        have d62 : zi (zwi m2 0 9 1) 62 2 = ((lvd A (gL S) n).2.1.2.1 : Int) := by rw [zi_wi_n _ _ (Or.inl (by decide)), s2.i (by omega)]; exact g2
        have hS2 := s2.s1 hS1
        have z0 : ((0 : Nat) : Int) = 0 := rfl
        rw [z0] at l1
        rw [if_neg (show ¬ b01 (some A).isSome = 0 from nb1), j_X10_live_37, if_pos hS.1, r5, obind, if_pos hS.1, r2, obind, if_pos lf.1, q1, zC0_s, l1, j_X10_live_80, if_pos (by rw [hS2.1]; rfl), if_pos hR3.1.1, hR3.1.2.1.2.2.2.2.2.1, obind, if_pos hR3.1.2.2.2.2.2.1.1, if_pos hR3.1.1, d62]
        exact x1_yesC hR3
end LIVE8
