section ZP7
variable {P : Nat → zE} {E : zE} {pc : Nat}
theorem zok2 {v w : zV} {l : List zV} (hl : ∀ x ∈ v :: w :: l, zok x) : ∀ x ∈ l, zok x := zok_t (zok_t hl)

theorem s_idiv : zSi P E pc .idiv 1 z_idiv := by
  intro lv C J K hd hC hJ hK ls st mm out hF
  unfold z_idiv at hF
  split at hF
  · rename_i y x r
    split at hF
    · cases hF
    · rename_i hy0
      refine ⟨(hK _ _ _ _ hF).1, fun p l e s m args below meth c D ρ A n0 s0 H locs lsA hc hp => ?_⟩
      obtain ⟨hL, hst, hls, hH, hS, h1, h2⟩ := hp
      have hx : r32 x := zok_h (zok_t hst)
      have hy : r32 y := zok_h hst
      have e1 : Int32.ofInt x / Int32.ofInt y = Int32.ofInt (zdiv x y) := Int32.toInt_inj.1 (by
      unfold zdiv
      rw [Int32.toInt_div, zT32 hx, zT32 hy, zT32 (r32_i32 _)]; rfl)
      have hr : r32 (zdiv x y) := r32_i32 _
      refine lv_idiv hc.1 hc.2.1 hd (fun q => hy0 ((zeq0 hy).mp q)) ?_
      rw [e1]
      exact (hK _ _ _ _ hF).2 p l e s m args below meth c D ρ A n0 s0 H locs lsA hc ⟨hL, zok_c hr (zok2 hst), hls, hH, hS, h1, h2⟩
  · cases hF
theorem zremI {x y : Int} (hx : r32 x) (hy : r32 y) : Int32.ofInt x - Int32.ofInt x / Int32.ofInt y * Int32.ofInt y = Int32.ofInt (zrem x y) := by
  unfold zrem
  have h := Int.tmod_def x y
  rw [h, Int32.ofInt_sub, Int.mul_comm, Int32.ofInt_mul]
  congr 2
  refine Int32.toInt_inj.1 ?_
  rw [Int32.toInt_div, zT32 hx, zT32 hy, Int32.toInt_ofInt]
theorem zremR {x y : Int} (hx : r32 x) (hy : r32 y) (h : ¬ y = 0) : r32 (zrem x y) := by
  unfold zrem r32 at *
  have h0 := Int.natAbs_tmod x y
  have h1 := Nat.mod_le x.natAbs y.natAbs
  rcases Int.lt_or_le x 0 with q | q
  · have h2 : Int.tmod x y = - Int.tmod (-x) y := by rw [Int.neg_tmod]; omega
    have h4 : 0 ≤ (-x).tmod y := Int.tmod_nonneg _ (by omega)
    omega
  · have h4 : 0 ≤ x.tmod y := Int.tmod_nonneg _ q
    omega
theorem s_irem : zSi P E pc .irem 1 z_irem := by
  intro lv C J K hd hC hJ hK ls st mm out hF
  unfold z_irem at hF
  split at hF
  · rename_i y x r
    split at hF
    · cases hF
    · rename_i hy0
      refine ⟨(hK _ _ _ _ hF).1, fun p l e s m args below meth c D ρ A n0 s0 H locs lsA hc hp => ?_⟩
      obtain ⟨hL, hst, hls, hH, hS, h1, h2⟩ := hp
      have hx : r32 x := zok_h (zok_t hst)
      have hy : r32 y := zok_h hst
      have e1 : Int32.ofInt x - Int32.ofInt x / Int32.ofInt y * Int32.ofInt y = Int32.ofInt (zrem x y) := zremI hx hy
      have hr : r32 (zrem x y) := zremR hx hy hy0
      refine lv_irem hc.1 hc.2.1 hd (fun q => hy0 ((zeq0 hy).mp q)) ?_
      rw [e1]
      exact (hK _ _ _ _ hF).2 p l e s m args below meth c D ρ A n0 s0 H locs lsA hc ⟨hL, zok_c hr (zok2 hst), hls, hH, hS, h1, h2⟩
  · cases hF
theorem s_ldiv : zSi P E pc .ldiv 1 z_ldiv := by
  intro lv C J K hd hC hJ hK ls st mm out hF
  unfold z_ldiv at hF
  split at hF
  · rename_i y x r
    split at hF
    · cases hF
    · rename_i hy0
      refine ⟨(hK _ _ _ _ hF).1, fun p l e s m args below meth c D ρ A n0 s0 H locs lsA hc hp => ?_⟩
      obtain ⟨hL, hst, hls, hH, hS, h1, h2⟩ := hp
      have hx : r64 x := zok_h (zok_t hst)
      have hy : r64 y := zok_h hst
      have e1 : Int64.ofInt x / Int64.ofInt y = Int64.ofInt (zldiv x y) := Int64.toInt_inj.1 (by
      unfold zldiv
      rw [Int64.toInt_div, zT64 hx, zT64 hy, zT64 (r64_i64 _)]; rfl)
      have hr : r64 (zldiv x y) := r64_i64 _
      refine lv_ldiv hc.1 hc.2.1 hd (fun q => hy0 ((zeqL0 hy).mp q)) ?_
      rw [e1]
      exact (hK _ _ _ _ hF).2 p l e s m args below meth c D ρ A n0 s0 H locs lsA hc ⟨hL, zok_c hr (zok2 hst), hls, hH, hS, h1, h2⟩
  · cases hF
theorem zlremI {x y : Int} (hx : r64 x) (hy : r64 y) : Int64.ofInt x - Int64.ofInt x / Int64.ofInt y * Int64.ofInt y = Int64.ofInt (zlrem x y) := by
  unfold zlrem
  have h := Int.tmod_def x y
  rw [h, Int64.ofInt_sub, Int.mul_comm, Int64.ofInt_mul]
  congr 2
  refine Int64.toInt_inj.1 ?_
  rw [Int64.toInt_div, zT64 hx, zT64 hy, Int64.toInt_ofInt]
theorem zlremR {x y : Int} (hx : r64 x) (hy : r64 y) (h : ¬ y = 0) : r64 (zlrem x y) := by
  unfold zlrem r64 at *
  have h0 := Int.natAbs_tmod x y
  have h1 := Nat.mod_le x.natAbs y.natAbs
  rcases Int.lt_or_le x 0 with q | q
  · have h2 : Int.tmod x y = - Int.tmod (-x) y := by rw [Int.neg_tmod]; omega
    have h4 : 0 ≤ (-x).tmod y := Int.tmod_nonneg _ (by omega)
    omega
  · have h4 : 0 ≤ x.tmod y := Int.tmod_nonneg _ q
    omega
theorem s_lrem : zSi P E pc .lrem 1 z_lrem := by
  intro lv C J K hd hC hJ hK ls st mm out hF
  unfold z_lrem at hF
  split at hF
  · rename_i y x r
    split at hF
    · cases hF
    · rename_i hy0
      refine ⟨(hK _ _ _ _ hF).1, fun p l e s m args below meth c D ρ A n0 s0 H locs lsA hc hp => ?_⟩
      obtain ⟨hL, hst, hls, hH, hS, h1, h2⟩ := hp
      have hx : r64 x := zok_h (zok_t hst)
      have hy : r64 y := zok_h hst
      have e1 : Int64.ofInt x - Int64.ofInt x / Int64.ofInt y * Int64.ofInt y = Int64.ofInt (zlrem x y) := zlremI hx hy
      have hr : r64 (zlrem x y) := zlremR hx hy hy0
      refine lv_lrem hc.1 hc.2.1 hd (fun q => hy0 ((zeqL0 hy).mp q)) ?_
      rw [e1]
      exact (hK _ _ _ _ hF).2 p l e s m args below meth c D ρ A n0 s0 H locs lsA hc ⟨hL, zok_c hr (zok2 hst), hls, hH, hS, h1, h2⟩
  · cases hF
theorem s_goto {off : Int} {t : Nat} (ht : (pc : Int) + off = (t : Int)) : zSi P E pc (.goto off) 3 (z_goto t) := by
  intro lv C J K hd hC hJ hK ls st mm out hF
  refine ⟨(hJ t _ _ _ _ hF).1, fun p l e s m args below meth c D ρ A n0 s0 H locs lsA hc hp => ?_⟩
  exact lv_goto hc.1 hc.2.1 hd ht ((hJ t _ _ _ _ hF).2 p l e s m args below meth c D ρ A n0 s0 H locs lsA hc hp)
theorem z_cond_eq {x : Int} (hx : r32 x) : (Int32.ofInt x = 0) ↔ (x = 0) := by
  simp only [← Int32.toInt_inj, Int32.lt_iff_toInt_lt, Int32.le_iff_toInt_le, zT32 hx, Int32.toInt_zero] <;> omega
theorem s_if_eq {off : Int} {t : Nat} (ht : (pc : Int) + off = (t : Int)) : zSi P E pc (.ifCond .eq off) 3 (z_if .eq t) := by
  intro lv C J K hd hC hJ hK ls st mm out hF
  unfold z_if at hF
  split at hF
  · rename_i x r
    dsimp only at hF
    have hG : ((x = 0) → J t ls r mm = some out) ∧ (¬ (x = 0) → K ls r mm = some out) := by
      by_cases q : x = 0
      · rw [if_pos q] at hF
        exact ⟨fun h => by first | exact hF | exact absurd q h, fun h => by first | exact hF | exact absurd q h | exact absurd h (by simp only [q, not_true_eq_false, not_false_eq_true])⟩
      · rw [if_neg q] at hF
        exact ⟨fun h => by first | exact hF | exact absurd h q, fun h => by first | exact hF | exact absurd q h | exact absurd h (by simp only [q, not_false_eq_true, not_true_eq_false])⟩
    refine ⟨?_, fun p l e s m args below meth c D ρ A n0 s0 H locs lsA hc hp => ?_⟩
    · by_cases q : x = 0
      · exact (hJ t _ _ _ _ (hG.1 q)).1
      · exact (hK _ _ _ _ (hG.2 q)).1
    · obtain ⟨hL, hst, hls, hH, hS, h1, h2⟩ := hp
      have hx : r32 x := zok_h hst
      exact lv_if_eq hc.1 hc.2.1 hd ht (fun q => (hJ t _ _ _ _ (hG.1 ((z_cond_eq hx).mp q))).2 p l e s m args below meth c D ρ A n0 s0 H locs lsA hc ⟨hL, zok_t hst, hls, hH, hS, h1, h2⟩)
        (fun q => (hK _ _ _ _ (hG.2 (fun z => q ((z_cond_eq hx).mpr z)))).2 p l e s m args below meth c D ρ A n0 s0 H locs lsA hc ⟨hL, zok_t hst, hls, hH, hS, h1, h2⟩)
  · cases hF
theorem z_cond_ne {x : Int} (hx : r32 x) : (¬ Int32.ofInt x = 0) ↔ (¬ x = 0) := by
  simp only [← Int32.toInt_inj, Int32.lt_iff_toInt_lt, Int32.le_iff_toInt_le, zT32 hx, Int32.toInt_zero] <;> omega
theorem s_if_ne {off : Int} {t : Nat} (ht : (pc : Int) + off = (t : Int)) : zSi P E pc (.ifCond .ne off) 3 (z_if .ne t) := by
  intro lv C J K hd hC hJ hK ls st mm out hF
  unfold z_if at hF
  split at hF
  · rename_i x r
    dsimp only at hF
    have hG : ((¬ x = 0) → J t ls r mm = some out) ∧ (¬ (¬ x = 0) → K ls r mm = some out) := by
      by_cases q : x = 0
      · rw [if_pos q] at hF
        exact ⟨fun h => by first | exact hF | exact absurd q h, fun h => by first | exact hF | exact absurd q h | exact absurd h (by simp only [q, not_true_eq_false, not_false_eq_true])⟩
      · rw [if_neg q] at hF
        exact ⟨fun h => by first | exact hF | exact absurd h q, fun h => by first | exact hF | exact absurd q h | exact absurd h (by simp only [q, not_false_eq_true, not_true_eq_false])⟩
    refine ⟨?_, fun p l e s m args below meth c D ρ A n0 s0 H locs lsA hc hp => ?_⟩
    · by_cases q : ¬ x = 0
      · exact (hJ t _ _ _ _ (hG.1 q)).1
      · exact (hK _ _ _ _ (hG.2 q)).1
    · obtain ⟨hL, hst, hls, hH, hS, h1, h2⟩ := hp
      have hx : r32 x := zok_h hst
      exact lv_if_ne hc.1 hc.2.1 hd ht (fun q => (hJ t _ _ _ _ (hG.1 ((z_cond_ne hx).mp q))).2 p l e s m args below meth c D ρ A n0 s0 H locs lsA hc ⟨hL, zok_t hst, hls, hH, hS, h1, h2⟩)
        (fun q => (hK _ _ _ _ (hG.2 (fun z => (z_cond_ne hx).mpr z q))).2 p l e s m args below meth c D ρ A n0 s0 H locs lsA hc ⟨hL, zok_t hst, hls, hH, hS, h1, h2⟩)
  · cases hF
theorem z_cond_lt {x : Int} (hx : r32 x) : (Int32.ofInt x < 0) ↔ (x < 0) := by
  simp only [← Int32.toInt_inj, Int32.lt_iff_toInt_lt, Int32.le_iff_toInt_le, zT32 hx, Int32.toInt_zero] <;> omega
theorem s_if_lt {off : Int} {t : Nat} (ht : (pc : Int) + off = (t : Int)) : zSi P E pc (.ifCond .lt off) 3 (z_if .lt t) := by
  intro lv C J K hd hC hJ hK ls st mm out hF
  unfold z_if at hF
  split at hF
  · rename_i x r
    dsimp only at hF
    have hG : ((x < 0) → J t ls r mm = some out) ∧ (¬ (x < 0) → K ls r mm = some out) := by
      by_cases q : x < 0
      · rw [if_pos q] at hF
        exact ⟨fun h => by first | exact hF | exact absurd q h, fun h => by first | exact hF | exact absurd q h | exact absurd h (by simp only [q, not_true_eq_false, not_false_eq_true])⟩
      · rw [if_neg q] at hF
        exact ⟨fun h => by first | exact hF | exact absurd h q, fun h => by first | exact hF | exact absurd q h | exact absurd h (by simp only [q, not_false_eq_true, not_true_eq_false])⟩
    refine ⟨?_, fun p l e s m args below meth c D ρ A n0 s0 H locs lsA hc hp => ?_⟩
    · by_cases q : x < 0
      · exact (hJ t _ _ _ _ (hG.1 q)).1
      · exact (hK _ _ _ _ (hG.2 q)).1
    · obtain ⟨hL, hst, hls, hH, hS, h1, h2⟩ := hp
      have hx : r32 x := zok_h hst
      exact lv_if_lt hc.1 hc.2.1 hd ht (fun q => (hJ t _ _ _ _ (hG.1 ((z_cond_lt hx).mp q))).2 p l e s m args below meth c D ρ A n0 s0 H locs lsA hc ⟨hL, zok_t hst, hls, hH, hS, h1, h2⟩)
        (fun q => (hK _ _ _ _ (hG.2 (fun z => q ((z_cond_lt hx).mpr z)))).2 p l e s m args below meth c D ρ A n0 s0 H locs lsA hc ⟨hL, zok_t hst, hls, hH, hS, h1, h2⟩)
  · cases hF
theorem z_cond_ge {x : Int} (hx : r32 x) : (0 ≤ Int32.ofInt x) ↔ (¬ x < 0) := by
  simp only [← Int32.toInt_inj, Int32.lt_iff_toInt_lt, Int32.le_iff_toInt_le, zT32 hx, Int32.toInt_zero] <;> omega
theorem s_if_ge {off : Int} {t : Nat} (ht : (pc : Int) + off = (t : Int)) : zSi P E pc (.ifCond .ge off) 3 (z_if .ge t) := by
  intro lv C J K hd hC hJ hK ls st mm out hF
  unfold z_if at hF
  split at hF
  · rename_i x r
    dsimp only at hF
    have hG : ((¬ x < 0) → J t ls r mm = some out) ∧ (¬ (¬ x < 0) → K ls r mm = some out) := by
      by_cases q : x < 0
      · rw [if_pos q] at hF
        exact ⟨fun h => by first | exact hF | exact absurd q h, fun h => by first | exact hF | exact absurd q h | exact absurd h (by simp only [q, not_true_eq_false, not_false_eq_true])⟩
      · rw [if_neg q] at hF
        exact ⟨fun h => by first | exact hF | exact absurd h q, fun h => by first | exact hF | exact absurd q h | exact absurd h (by simp only [q, not_false_eq_true, not_true_eq_false])⟩
    refine ⟨?_, fun p l e s m args below meth c D ρ A n0 s0 H locs lsA hc hp => ?_⟩
    · by_cases q : ¬ x < 0
      · exact (hJ t _ _ _ _ (hG.1 q)).1
      · exact (hK _ _ _ _ (hG.2 q)).1
    · obtain ⟨hL, hst, hls, hH, hS, h1, h2⟩ := hp
      have hx : r32 x := zok_h hst
      exact lv_if_ge hc.1 hc.2.1 hd ht (fun q => (hJ t _ _ _ _ (hG.1 ((z_cond_ge hx).mp q))).2 p l e s m args below meth c D ρ A n0 s0 H locs lsA hc ⟨hL, zok_t hst, hls, hH, hS, h1, h2⟩)
        (fun q => (hK _ _ _ _ (hG.2 (fun z => q ((z_cond_ge hx).mpr z)))).2 p l e s m args below meth c D ρ A n0 s0 H locs lsA hc ⟨hL, zok_t hst, hls, hH, hS, h1, h2⟩)
  · cases hF
theorem z_cond_gt {x : Int} (hx : r32 x) : (0 < Int32.ofInt x) ↔ (0 < x) := by
  simp only [← Int32.toInt_inj, Int32.lt_iff_toInt_lt, Int32.le_iff_toInt_le, zT32 hx, Int32.toInt_zero] <;> omega
theorem s_if_gt {off : Int} {t : Nat} (ht : (pc : Int) + off = (t : Int)) : zSi P E pc (.ifCond .gt off) 3 (z_if .gt t) := by
  intro lv C J K hd hC hJ hK ls st mm out hF
  unfold z_if at hF
  split at hF
  · rename_i x r
    dsimp only at hF
    have hG : ((0 < x) → J t ls r mm = some out) ∧ (¬ (0 < x) → K ls r mm = some out) := by
      by_cases q : 0 < x
      · rw [if_pos q] at hF
        exact ⟨fun h => by first | exact hF | exact absurd q h, fun h => by first | exact hF | exact absurd q h | exact absurd h (by simp only [q, not_true_eq_false, not_false_eq_true])⟩
      · rw [if_neg q] at hF
        exact ⟨fun h => by first | exact hF | exact absurd h q, fun h => by first | exact hF | exact absurd q h | exact absurd h (by simp only [q, not_false_eq_true, not_true_eq_false])⟩
    refine ⟨?_, fun p l e s m args below meth c D ρ A n0 s0 H locs lsA hc hp => ?_⟩
    · by_cases q : 0 < x
      · exact (hJ t _ _ _ _ (hG.1 q)).1
      · exact (hK _ _ _ _ (hG.2 q)).1
    · obtain ⟨hL, hst, hls, hH, hS, h1, h2⟩ := hp
      have hx : r32 x := zok_h hst
      exact lv_if_gt hc.1 hc.2.1 hd ht (fun q => (hJ t _ _ _ _ (hG.1 ((z_cond_gt hx).mp q))).2 p l e s m args below meth c D ρ A n0 s0 H locs lsA hc ⟨hL, zok_t hst, hls, hH, hS, h1, h2⟩)
        (fun q => (hK _ _ _ _ (hG.2 (fun z => q ((z_cond_gt hx).mpr z)))).2 p l e s m args below meth c D ρ A n0 s0 H locs lsA hc ⟨hL, zok_t hst, hls, hH, hS, h1, h2⟩)
  · cases hF
theorem z_cond_le {x : Int} (hx : r32 x) : (Int32.ofInt x ≤ 0) ↔ (¬ 0 < x) := by
  simp only [← Int32.toInt_inj, Int32.lt_iff_toInt_lt, Int32.le_iff_toInt_le, zT32 hx, Int32.toInt_zero] <;> omega
theorem s_if_le {off : Int} {t : Nat} (ht : (pc : Int) + off = (t : Int)) : zSi P E pc (.ifCond .le off) 3 (z_if .le t) := by
  intro lv C J K hd hC hJ hK ls st mm out hF
  unfold z_if at hF
  split at hF
  · rename_i x r
    dsimp only at hF
    have hG : ((¬ 0 < x) → J t ls r mm = some out) ∧ (¬ (¬ 0 < x) → K ls r mm = some out) := by
      by_cases q : 0 < x
      · rw [if_pos q] at hF
        exact ⟨fun h => by first | exact hF | exact absurd q h, fun h => by first | exact hF | exact absurd q h | exact absurd h (by simp only [q, not_true_eq_false, not_false_eq_true])⟩
      · rw [if_neg q] at hF
        exact ⟨fun h => by first | exact hF | exact absurd h q, fun h => by first | exact hF | exact absurd q h | exact absurd h (by simp only [q, not_false_eq_true, not_true_eq_false])⟩
    refine ⟨?_, fun p l e s m args below meth c D ρ A n0 s0 H locs lsA hc hp => ?_⟩
    · by_cases q : ¬ 0 < x
      · exact (hJ t _ _ _ _ (hG.1 q)).1
      · exact (hK _ _ _ _ (hG.2 q)).1
    · obtain ⟨hL, hst, hls, hH, hS, h1, h2⟩ := hp
      have hx : r32 x := zok_h hst
      exact lv_if_le hc.1 hc.2.1 hd ht (fun q => (hJ t _ _ _ _ (hG.1 ((z_cond_le hx).mp q))).2 p l e s m args below meth c D ρ A n0 s0 H locs lsA hc ⟨hL, zok_t hst, hls, hH, hS, h1, h2⟩)
        (fun q => (hK _ _ _ _ (hG.2 (fun z => q ((z_cond_le hx).mpr z)))).2 p l e s m args below meth c D ρ A n0 s0 H locs lsA hc ⟨hL, zok_t hst, hls, hH, hS, h1, h2⟩)
  · cases hF
theorem z_cmp_eq {x y : Int} (hx : r32 x) (hy : r32 y) : (Int32.ofInt x = Int32.ofInt y) ↔ (x = y) := by
  simp only [← Int32.toInt_inj, Int32.lt_iff_toInt_lt, Int32.le_iff_toInt_le, zT32 hx, zT32 hy] <;> omega
theorem s_icmp_eq {off : Int} {t : Nat} (ht : (pc : Int) + off = (t : Int)) : zSi P E pc (.if_icmp .eq off) 3 (z_icmp .eq t) := by
  intro lv C J K hd hC hJ hK ls st mm out hF
  unfold z_icmp at hF
  split at hF
  · rename_i y x r
    dsimp only at hF
    have hG : ((x = y) → J t ls r mm = some out) ∧ (¬ (x = y) → K ls r mm = some out) := by
      by_cases q : x = y
      · rw [if_pos q] at hF
        exact ⟨fun h => by first | exact hF | exact absurd q h, fun h => by first | exact hF | exact absurd q h | exact absurd h (by simp only [q, not_true_eq_false, not_false_eq_true])⟩
      · rw [if_neg q] at hF
        exact ⟨fun h => by first | exact hF | exact absurd h q, fun h => by first | exact hF | exact absurd q h | exact absurd h (by simp only [q, not_false_eq_true, not_true_eq_false])⟩
    refine ⟨?_, fun p l e s m args below meth c D ρ A n0 s0 H locs lsA hc hp => ?_⟩
    · by_cases q : x = y
      · exact (hJ t _ _ _ _ (hG.1 q)).1
      · exact (hK _ _ _ _ (hG.2 q)).1
    · obtain ⟨hL, hst, hls, hH, hS, h1, h2⟩ := hp
      have hx : r32 x := zok_h (zok_t hst)
      have hy : r32 y := zok_h hst
      exact lv_icmp_eq hc.1 hc.2.1 hd ht (fun q => (hJ t _ _ _ _ (hG.1 ((z_cmp_eq hx hy).mp q))).2 p l e s m args below meth c D ρ A n0 s0 H locs lsA hc ⟨hL, zok2 hst, hls, hH, hS, h1, h2⟩)
        (fun q => (hK _ _ _ _ (hG.2 (fun z => q ((z_cmp_eq hx hy).mpr z)))).2 p l e s m args below meth c D ρ A n0 s0 H locs lsA hc ⟨hL, zok2 hst, hls, hH, hS, h1, h2⟩)
  · cases hF
theorem z_cmp_ne {x y : Int} (hx : r32 x) (hy : r32 y) : (¬ Int32.ofInt x = Int32.ofInt y) ↔ (¬ x = y) := by
  simp only [← Int32.toInt_inj, Int32.lt_iff_toInt_lt, Int32.le_iff_toInt_le, zT32 hx, zT32 hy] <;> omega
theorem s_icmp_ne {off : Int} {t : Nat} (ht : (pc : Int) + off = (t : Int)) : zSi P E pc (.if_icmp .ne off) 3 (z_icmp .ne t) := by
  intro lv C J K hd hC hJ hK ls st mm out hF
  unfold z_icmp at hF
  split at hF
  · rename_i y x r
    dsimp only at hF
    have hG : ((¬ x = y) → J t ls r mm = some out) ∧ (¬ (¬ x = y) → K ls r mm = some out) := by
      by_cases q : x = y
      · rw [if_pos q] at hF
        exact ⟨fun h => by first | exact hF | exact absurd q h, fun h => by first | exact hF | exact absurd q h | exact absurd h (by simp only [q, not_true_eq_false, not_false_eq_true])⟩
      · rw [if_neg q] at hF
        exact ⟨fun h => by first | exact hF | exact absurd h q, fun h => by first | exact hF | exact absurd q h | exact absurd h (by simp only [q, not_false_eq_true, not_true_eq_false])⟩
    refine ⟨?_, fun p l e s m args below meth c D ρ A n0 s0 H locs lsA hc hp => ?_⟩
    · by_cases q : ¬ x = y
      · exact (hJ t _ _ _ _ (hG.1 q)).1
      · exact (hK _ _ _ _ (hG.2 q)).1
    · obtain ⟨hL, hst, hls, hH, hS, h1, h2⟩ := hp
      have hx : r32 x := zok_h (zok_t hst)
      have hy : r32 y := zok_h hst
      exact lv_icmp_ne hc.1 hc.2.1 hd ht (fun q => (hJ t _ _ _ _ (hG.1 ((z_cmp_ne hx hy).mp q))).2 p l e s m args below meth c D ρ A n0 s0 H locs lsA hc ⟨hL, zok2 hst, hls, hH, hS, h1, h2⟩)
        (fun q => (hK _ _ _ _ (hG.2 (fun z => (z_cmp_ne hx hy).mpr z q))).2 p l e s m args below meth c D ρ A n0 s0 H locs lsA hc ⟨hL, zok2 hst, hls, hH, hS, h1, h2⟩)
  · cases hF
theorem z_cmp_lt {x y : Int} (hx : r32 x) (hy : r32 y) : (Int32.ofInt x < Int32.ofInt y) ↔ (x < y) := by
  simp only [← Int32.toInt_inj, Int32.lt_iff_toInt_lt, Int32.le_iff_toInt_le, zT32 hx, zT32 hy] <;> omega
theorem s_icmp_lt {off : Int} {t : Nat} (ht : (pc : Int) + off = (t : Int)) : zSi P E pc (.if_icmp .lt off) 3 (z_icmp .lt t) := by
  intro lv C J K hd hC hJ hK ls st mm out hF
  unfold z_icmp at hF
  split at hF
  · rename_i y x r
    dsimp only at hF
    have hG : ((x < y) → J t ls r mm = some out) ∧ (¬ (x < y) → K ls r mm = some out) := by
      by_cases q : x < y
      · rw [if_pos q] at hF
        exact ⟨fun h => by first | exact hF | exact absurd q h, fun h => by first | exact hF | exact absurd q h | exact absurd h (by simp only [q, not_true_eq_false, not_false_eq_true])⟩
      · rw [if_neg q] at hF
        exact ⟨fun h => by first | exact hF | exact absurd h q, fun h => by first | exact hF | exact absurd q h | exact absurd h (by simp only [q, not_false_eq_true, not_true_eq_false])⟩
    refine ⟨?_, fun p l e s m args below meth c D ρ A n0 s0 H locs lsA hc hp => ?_⟩
    · by_cases q : x < y
      · exact (hJ t _ _ _ _ (hG.1 q)).1
      · exact (hK _ _ _ _ (hG.2 q)).1
    · obtain ⟨hL, hst, hls, hH, hS, h1, h2⟩ := hp
      have hx : r32 x := zok_h (zok_t hst)
      have hy : r32 y := zok_h hst
      exact lv_icmp_lt hc.1 hc.2.1 hd ht (fun q => (hJ t _ _ _ _ (hG.1 ((z_cmp_lt hx hy).mp q))).2 p l e s m args below meth c D ρ A n0 s0 H locs lsA hc ⟨hL, zok2 hst, hls, hH, hS, h1, h2⟩)
        (fun q => (hK _ _ _ _ (hG.2 (fun z => q ((z_cmp_lt hx hy).mpr z)))).2 p l e s m args below meth c D ρ A n0 s0 H locs lsA hc ⟨hL, zok2 hst, hls, hH, hS, h1, h2⟩)
  · cases hF
theorem z_cmp_ge {x y : Int} (hx : r32 x) (hy : r32 y) : (Int32.ofInt y ≤ Int32.ofInt x) ↔ (¬ x < y) := by
  simp only [← Int32.toInt_inj, Int32.lt_iff_toInt_lt, Int32.le_iff_toInt_le, zT32 hx, zT32 hy] <;> omega
theorem s_icmp_ge {off : Int} {t : Nat} (ht : (pc : Int) + off = (t : Int)) : zSi P E pc (.if_icmp .ge off) 3 (z_icmp .ge t) := by
  intro lv C J K hd hC hJ hK ls st mm out hF
  unfold z_icmp at hF
  split at hF
  · rename_i y x r
    dsimp only at hF
    have hG : ((¬ x < y) → J t ls r mm = some out) ∧ (¬ (¬ x < y) → K ls r mm = some out) := by
      by_cases q : x < y
      · rw [if_pos q] at hF
        exact ⟨fun h => by first | exact hF | exact absurd q h, fun h => by first | exact hF | exact absurd q h | exact absurd h (by simp only [q, not_true_eq_false, not_false_eq_true])⟩
      · rw [if_neg q] at hF
        exact ⟨fun h => by first | exact hF | exact absurd h q, fun h => by first | exact hF | exact absurd q h | exact absurd h (by simp only [q, not_false_eq_true, not_true_eq_false])⟩
    refine ⟨?_, fun p l e s m args below meth c D ρ A n0 s0 H locs lsA hc hp => ?_⟩
    · by_cases q : ¬ x < y
      · exact (hJ t _ _ _ _ (hG.1 q)).1
      · exact (hK _ _ _ _ (hG.2 q)).1
    · obtain ⟨hL, hst, hls, hH, hS, h1, h2⟩ := hp
      have hx : r32 x := zok_h (zok_t hst)
      have hy : r32 y := zok_h hst
      exact lv_icmp_ge hc.1 hc.2.1 hd ht (fun q => (hJ t _ _ _ _ (hG.1 ((z_cmp_ge hx hy).mp q))).2 p l e s m args below meth c D ρ A n0 s0 H locs lsA hc ⟨hL, zok2 hst, hls, hH, hS, h1, h2⟩)
        (fun q => (hK _ _ _ _ (hG.2 (fun z => q ((z_cmp_ge hx hy).mpr z)))).2 p l e s m args below meth c D ρ A n0 s0 H locs lsA hc ⟨hL, zok2 hst, hls, hH, hS, h1, h2⟩)
  · cases hF
theorem z_cmp_gt {x y : Int} (hx : r32 x) (hy : r32 y) : (Int32.ofInt y < Int32.ofInt x) ↔ (y < x) := by
  simp only [← Int32.toInt_inj, Int32.lt_iff_toInt_lt, Int32.le_iff_toInt_le, zT32 hx, zT32 hy] <;> omega
theorem s_icmp_gt {off : Int} {t : Nat} (ht : (pc : Int) + off = (t : Int)) : zSi P E pc (.if_icmp .gt off) 3 (z_icmp .gt t) := by
  intro lv C J K hd hC hJ hK ls st mm out hF
  unfold z_icmp at hF
  split at hF
  · rename_i y x r
    dsimp only at hF
    have hG : ((y < x) → J t ls r mm = some out) ∧ (¬ (y < x) → K ls r mm = some out) := by
      by_cases q : y < x
      · rw [if_pos q] at hF
        exact ⟨fun h => by first | exact hF | exact absurd q h, fun h => by first | exact hF | exact absurd q h | exact absurd h (by simp only [q, not_true_eq_false, not_false_eq_true])⟩
      · rw [if_neg q] at hF
        exact ⟨fun h => by first | exact hF | exact absurd h q, fun h => by first | exact hF | exact absurd q h | exact absurd h (by simp only [q, not_false_eq_true, not_true_eq_false])⟩
    refine ⟨?_, fun p l e s m args below meth c D ρ A n0 s0 H locs lsA hc hp => ?_⟩
    · by_cases q : y < x
      · exact (hJ t _ _ _ _ (hG.1 q)).1
      · exact (hK _ _ _ _ (hG.2 q)).1
    · obtain ⟨hL, hst, hls, hH, hS, h1, h2⟩ := hp
      have hx : r32 x := zok_h (zok_t hst)
      have hy : r32 y := zok_h hst
      exact lv_icmp_gt hc.1 hc.2.1 hd ht (fun q => (hJ t _ _ _ _ (hG.1 ((z_cmp_gt hx hy).mp q))).2 p l e s m args below meth c D ρ A n0 s0 H locs lsA hc ⟨hL, zok2 hst, hls, hH, hS, h1, h2⟩)
        (fun q => (hK _ _ _ _ (hG.2 (fun z => q ((z_cmp_gt hx hy).mpr z)))).2 p l e s m args below meth c D ρ A n0 s0 H locs lsA hc ⟨hL, zok2 hst, hls, hH, hS, h1, h2⟩)
  · cases hF
theorem z_cmp_le {x y : Int} (hx : r32 x) (hy : r32 y) : (Int32.ofInt x ≤ Int32.ofInt y) ↔ (¬ y < x) := by
  simp only [← Int32.toInt_inj, Int32.lt_iff_toInt_lt, Int32.le_iff_toInt_le, zT32 hx, zT32 hy] <;> omega
theorem s_icmp_le {off : Int} {t : Nat} (ht : (pc : Int) + off = (t : Int)) : zSi P E pc (.if_icmp .le off) 3 (z_icmp .le t) := by
  intro lv C J K hd hC hJ hK ls st mm out hF
  unfold z_icmp at hF
  split at hF
  · rename_i y x r
    dsimp only at hF
    have hG : ((¬ y < x) → J t ls r mm = some out) ∧ (¬ (¬ y < x) → K ls r mm = some out) := by
      by_cases q : y < x
      · rw [if_pos q] at hF
        exact ⟨fun h => by first | exact hF | exact absurd q h, fun h => by first | exact hF | exact absurd q h | exact absurd h (by simp only [q, not_true_eq_false, not_false_eq_true])⟩
      · rw [if_neg q] at hF
        exact ⟨fun h => by first | exact hF | exact absurd h q, fun h => by first | exact hF | exact absurd q h | exact absurd h (by simp only [q, not_false_eq_true, not_true_eq_false])⟩
    refine ⟨?_, fun p l e s m args below meth c D ρ A n0 s0 H locs lsA hc hp => ?_⟩
    · by_cases q : ¬ y < x
      · exact (hJ t _ _ _ _ (hG.1 q)).1
      · exact (hK _ _ _ _ (hG.2 q)).1
    · obtain ⟨hL, hst, hls, hH, hS, h1, h2⟩ := hp
      have hx : r32 x := zok_h (zok_t hst)
      have hy : r32 y := zok_h hst
      exact lv_icmp_le hc.1 hc.2.1 hd ht (fun q => (hJ t _ _ _ _ (hG.1 ((z_cmp_le hx hy).mp q))).2 p l e s m args below meth c D ρ A n0 s0 H locs lsA hc ⟨hL, zok2 hst, hls, hH, hS, h1, h2⟩)
        (fun q => (hK _ _ _ _ (hG.2 (fun z => q ((z_cmp_le hx hy).mpr z)))).2 p l e s m args below meth c D ρ A n0 s0 H locs lsA hc ⟨hL, zok2 hst, hls, hH, hS, h1, h2⟩)
  · cases hF
theorem s_ifnull {off : Int} {t : Nat} (ht : (pc : Int) + off = (t : Int)) : zSi P E pc (.ifnull off) 3 (z_ifnull t) := by
  intro lv C J K hd hC hJ hK ls st mm out hF
  unfold z_ifnull at hF
  split at hF
  · rename_i q r
    cases q with
    | none =>
      have hF : J t ls r mm = some out := hF
      refine ⟨(hJ t _ _ _ _ hF).1, fun p l e s m args below meth c D ρ A n0 s0 H locs lsA hc hp => ?_⟩
      obtain ⟨hL, hst, hls, hH, hS, h1, h2⟩ := hp
      exact lv_ifnullN hc.1 hc.2.1 hd ht ((hJ t _ _ _ _ hF).2 p l e s m args below meth c D ρ A n0 s0 H locs lsA hc ⟨hL, zok_t hst, hls, hH, hS, h1, h2⟩)
    | some a =>
      have hF : K ls r mm = some out := hF
      refine ⟨(hK _ _ _ _ hF).1, fun p l e s m args below meth c D ρ A n0 s0 H locs lsA hc hp => ?_⟩
      obtain ⟨hL, hst, hls, hH, hS, h1, h2⟩ := hp
      exact lv_ifnull hc.1 hc.2.1 hd ((hK _ _ _ _ hF).2 p l e s m args below meth c D ρ A n0 s0 H locs lsA hc ⟨hL, zok_t hst, hls, hH, hS, h1, h2⟩)
  · cases hF
theorem s_ifnonnull {off : Int} {t : Nat} (ht : (pc : Int) + off = (t : Int)) : zSi P E pc (.ifnonnull off) 3 (z_ifnonnull t) := by
  intro lv C J K hd hC hJ hK ls st mm out hF
  unfold z_ifnonnull at hF
  split at hF
  · rename_i q r
    cases q with
    | none =>
      have hF : K ls r mm = some out := hF
      refine ⟨(hK _ _ _ _ hF).1, fun p l e s m args below meth c D ρ A n0 s0 H locs lsA hc hp => ?_⟩
      obtain ⟨hL, hst, hls, hH, hS, h1, h2⟩ := hp
      exact lv_ifnonnullN hc.1 hc.2.1 hd ((hK _ _ _ _ hF).2 p l e s m args below meth c D ρ A n0 s0 H locs lsA hc ⟨hL, zok_t hst, hls, hH, hS, h1, h2⟩)
    | some a =>
      have hF : J t ls r mm = some out := hF
      refine ⟨(hJ t _ _ _ _ hF).1, fun p l e s m args below meth c D ρ A n0 s0 H locs lsA hc hp => ?_⟩
      obtain ⟨hL, hst, hls, hH, hS, h1, h2⟩ := hp
      exact lv_ifnonnull hc.1 hc.2.1 hd ht ((hJ t _ _ _ _ hF).2 p l e s m args below meth c D ρ A n0 s0 H locs lsA hc ⟨hL, zok_t hst, hls, hH, hS, h1, h2⟩)
  · cases hF
/-- the offsets of a switch, by their targets -/
theorem s_table {d lo hi : Int} {offs : Array Int} {len t : Nat} {ts : List Nat} (hz : (hi - lo + 1).toNat = offs.size) (hl : ts.length = offs.size) (ht : (pc : Int) + d = (t : Int)) (hlh : lo ≤ hi + 1)
    (ho : (List.range offs.size).all (fun j => match offs[j]?, ts[j]? with | some o, some q => decide ((pc : Int) + o = (q : Int)) | _, _ => false) = true) : zSi P E pc (.tableswitch d lo hi offs) len (z_table lo ts t) := by
  intro lv C J K hd hC hJ hK ls st mm out hF
  unfold z_table at hF
  split at hF
  · rename_i x r
    refine ⟨(hJ _ _ _ _ _ hF).1, fun p l e s m args below meth c D ρ A n0 s0 H locs lsA hc hp => ?_⟩
    obtain ⟨hL, hst, hls, hH, hS, h1, h2⟩ := hp
    have hx : r32 x := zok_h hst
    have k := (hJ _ _ _ _ _ hF).2 p l e s m args below meth c D ρ A n0 s0 H locs lsA hc ⟨hL, zok_t hst, hls, hH, hS, h1, h2⟩
    by_cases q : x < lo ∨ hi < x
    · refine lv_tableOut (tgt := t) hc.1 hc.2.1 hd (by rw [zT32 hx]; exact q) ht ?_
      have e1 : zsel x lo ts t = t := by
        unfold zsel
        split
        · rfl
        · rw [List.getD_eq_getElem?_getD, List.getElem?_eq_none (by omega)]; rfl
      rw [e1] at k
      exact k
    · have hj : (x - lo).toNat < offs.size := by omega
      have h3 := List.all_eq_true.mp ho _ (List.mem_range.mpr hj)
      split at h3
      · rename_i o q2 e2 e3
        refine lv_tableIn (off := o) (tgt := q2) hc.1 hc.2.1 hd (by rw [zT32 hx]; omega) (by rw [zT32 hx]; omega) (by rw [zT32 hx]; exact e2) (of_decide_eq_true h3) ?_
        have e1 : zsel x lo ts t = q2 := by
          unfold zsel
          rw [if_neg (by omega), List.getD_eq_getElem?_getD, e3]; rfl
        rw [e1] at k
        exact k
      · cases h3
  · cases hF
theorem s_look {d : Int} {offs : Array (Int × Int)} {len t : Nat} {ts : List (Int × Nat)} (hp : (offs.toList.zip (offs.toList.drop 1)).all (fun (a, next) => a.1 < next.1) = true) (ht : (pc : Int) + d = (t : Int))
    (ho : ∀ x, (pc : Int) + Op.lookupswitch.offset offs.toList d x = (zlk x ts t : Int)) : zSi P E pc (.lookupswitch d offs) len (z_look ts t) := by
  intro lv C J K hd hC hJ hK ls st mm out hF
  unfold z_look at hF
  split at hF
  · rename_i x r
    refine ⟨(hJ _ _ _ _ _ hF).1, fun p l e s m args below meth c D ρ A n0 s0 H locs lsA hc hp2 => ?_⟩
    obtain ⟨hL, hst, hls, hH, hS, h1, h2⟩ := hp2
    have hx : r32 x := zok_h hst
    have k := (hJ _ _ _ _ _ hF).2 p l e s m args below meth c D ρ A n0 s0 H locs lsA hc ⟨hL, zok_t hst, hls, hH, hS, h1, h2⟩
    exact lv_lookup hc.1 hc.2.1 hd hp rfl (by rw [zT32 hx]; exact ho x) k
  · cases hF
/-- ends -/
theorem z_end {D : zD} {ρ : Nat → Nat} {A : Nat → Prop} {s t : State} {H : Heap} {locs : List Loc} {mm : zM} {o : Option zV} {args : Array Value} (hH : zH D ρ A mm H) (hS : va_S A s.heap H locs) (hv : ∀ v, o = some v → zok v) (ht : t.heap = H) : zQ D ρ A (o, mm) args s (.returned (o.map (zW ρ))) t :=
  ⟨rfl, hv, by rw [ht]; exact hH, hS.F ht⟩
theorem s_iret (hr : E.2.2.2.1 = some .int) : zSi P E pc .ireturn 1 z_iret := by
  intro lv C J K hd hC hJ hK ls st mm out hF
  unfold z_iret at hF
  split at hF
  · rename_i x
    cases hF
    refine ⟨zGr.rf _, fun p l e s m args below meth c D ρ A n0 s0 H locs lsA hc hp => ?_⟩
    obtain ⟨hL, hst, hls, hH, hS, h1, h2⟩ := hp
    exact W.iret hc.1 hc.2.1 (hc.2.2.2.1.trans hr) (fun t ht _ => z_end (o := some (.inl x)) hH hS (fun v q => by cases q; exact zok_h hst) ht) hS.2.2 hd hc.2.2.2.2.2.1
  · cases hF
theorem s_zret (hr : E.2.2.2.1 = some .boolean) : zSi P E pc .ireturn 1 z_zret := by
  intro lv C J K hd hC hJ hK ls st mm out hF
  unfold z_zret at hF
  split at hF
  · rename_i x
    split at hF
    · rename_i hb
      cases hF
      refine ⟨zGr.rf _, fun p l e s m args below meth c D ρ A n0 s0 H locs lsA hc hp => ?_⟩
      obtain ⟨hL, hst, hls, hH, hS, h1, h2⟩ := hp
      have hb2 : x = 0 ∨ x = 1 := by simpa [zb] using hb
      exact W.zret (ty := .boolean) hc.1 hc.2.1 (hc.2.2.2.1.trans hr) (by rcases hb2 with rfl | rfl <;> rfl) (fun t ht _ => z_end (o := some (.inl x)) hH hS (fun v q => by cases q; exact zok_h hst) ht) hS.2.2 hd hc.2.2.2.2.2.1
    · cases hF
  · cases hF
theorem s_lret (hr : E.2.2.2.1 = some .long) : zSi P E pc .lreturn 1 z_lret := by
  intro lv C J K hd hC hJ hK ls st mm out hF
  unfold z_lret at hF
  split at hF
  · rename_i x
    cases hF
    refine ⟨zGr.rf _, fun p l e s m args below meth c D ρ A n0 s0 H locs lsA hc hp => ?_⟩
    obtain ⟨hL, hst, hls, hH, hS, h1, h2⟩ := hp
    exact W.lret hc.1 hc.2.1 (hc.2.2.2.1.trans hr) (fun t ht _ => z_end (o := some (.inr (.inl x))) hH hS (fun v q => by cases q; exact zok_h hst) ht) hS.2.2 hd hc.2.2.2.2.2.1
  · cases hF
theorem s_aret {rt : FieldType} (hr : E.2.2.2.1 = some rt) (hrt : (∃ n, rt = .object n) ∨ ∃ t, rt = .array t) : zSi P E pc .areturn 1 z_aret := by
  intro lv C J K hd hC hJ hK ls st mm out hF
  unfold z_aret at hF
  split at hF
  · rename_i x
    cases hF
    refine ⟨zGr.rf _, fun p l e s m args below meth c D ρ A n0 s0 H locs lsA hc hp => ?_⟩
    obtain ⟨hL, hst, hls, hH, hS, h1, h2⟩ := hp
    refine W.aret (v := va_rf (x.map ρ)) hc.1 hc.2.1 (hc.2.2.2.1.trans hr) hrt ?_ (fun t ht _ => z_end (o := some (.inr (.inr x))) hH hS (fun v q => by cases q; exact trivial) ht) hS.2.2 hd hc.2.2.2.2.2.1
    cases x with
    | none => exact Or.inl rfl
    | some a => exact Or.inr ⟨_, rfl⟩
  · cases hF
theorem s_vret (hr : E.2.2.2.1 = none) : zSi P E pc .return_ 1 z_vret := by
  intro lv C J K hd hC hJ hK ls st mm out hF
  unfold z_vret at hF
  split at hF
  · cases hF
    refine ⟨zGr.rf _, fun p l e s m args below meth c D ρ A n0 s0 H locs lsA hc hp => ?_⟩
    obtain ⟨hL, hst, hls, hH, hS, h1, h2⟩ := hp
    exact W.vret hc.1 hc.2.1 (hc.2.2.2.1.trans hr) (fun t ht _ => z_end (o := none) hH hS (fun v q => by cases q) ht) hS.2.2 hd hc.2.2.2.2.2.1
  · cases hF
end ZP7
