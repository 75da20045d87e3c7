/-! LIVING in the class: go, lose, any, what holds. -/
def tHold (o : zOp) (L : zLd) : Bool := if o.1 = 18 then (L.2.1.getD o.2.1 ln0).2.1 else if o.1 = 20 then !decide (ixF (row0 L o.2.1) o.2.2.1 0 = -1) else
  (if o.2.2.1 = 60 then decide ((row0 L o.2.1).length < o.2.2.2) else if o.2.2.1 = 62 then decide (o.2.2.2 < (row0 L o.2.1).length) else decide ((row0 L o.2.1).length = o.2.2.2))
section LIVE3
variable {v : Nat} {m m' : zM} {a : Nat} {L : zLd} {σ : zLi}
theorem zib_shrN {x : Nat} {k i : Nat} (hx : x < 2147483648) (hk : k < 32) : zib (zshr (x : Int) (k : Int)) i = (decide (i < 32) && (x / 2 ^ k).testBit i) := by
  unfold zshr
  rw [zib_toInt, Int32.toBitVec_shiftRight]
  have e3 : (((Int32.ofInt (k : Int) &&& 31).toBitVec).smod 32).toNat = k := by
    have key : ∀ n : Fin 32, (((Int32.ofInt ((n.val : Nat) : Int) &&& 31).toBitVec).smod 32).toNat = n.val := by decide +kernel
    exact key ⟨k, hk⟩
  rw [show (Int32.ofInt (x : Int)).toBitVec.sshiftRight' (((Int32.ofInt (k : Int) &&& 31).toBitVec).smod 32) = (Int32.ofInt (x : Int)).toBitVec.sshiftRight (((Int32.ofInt (k : Int) &&& 31).toBitVec).smod 32).toNat from rfl, e3, BitVec.getLsbD_sshiftRight]
  have hb : ∀ j, (Int32.ofInt (x : Int)).toBitVec.getLsbD j = x.testBit j := fun j => by
    have e := zib_nat x j (by omega)
    unfold zib at e
    rw [← e]
    simp [zof32]
  have hm : (Int32.ofInt (x : Int)).toBitVec.msb = false := by
    rw [BitVec.msb_eq_getLsbD_last, hb]
    exact Nat.testBit_lt_two_pow (by simpa using hx)
  rw [hb, hm, Nat.testBit_div_two_pow]
  by_cases h32 : i < 32
  · by_cases c : k + i < 32
    · rw [if_pos c]
      have : ¬ 32 ≤ i := by omega
      rw [decide_eq_true h32, decide_eq_false this, Bool.true_and, Nat.add_comm]; rfl
    · rw [if_neg c]
      have : ¬ 32 ≤ i := by omega
      rw [decide_eq_true h32, decide_eq_false this, Bool.true_and, Nat.testBit_lt_two_pow (Nat.lt_of_lt_of_le (show x < 2 ^ 31 by simpa using hx) (Nat.pow_le_pow_right (by decide) (by omega)))]; rfl
  · have : 32 ≤ i := by omega
    rw [decide_eq_false h32, decide_eq_true this]; rfl
theorem zshr_nat {x k : Nat} (hx : x < 2147483648) (hk : k < 32) : zshr (x : Int) (k : Int) = ((x / 2 ^ k : Nat) : Int) := by
  have hle : x / 2 ^ k ≤ x := Nat.div_le_self _ _
  refine zib_ext (r32_v _) (r32_nat (by omega)) (fun i hi => ?_)
  rw [zib_shrN hx hk, zib_nat _ _ (by omega), decide_eq_true hi, Bool.true_and]
theorem zand_lo {x n : Nat} (hx : x < 2147483648) (hn : n < 31) : zand (x : Int) ((2 ^ n - 1 : Nat) : Int) = ((x % 2 ^ n : Nat) : Int) := by
  have hle : x % 2 ^ n ≤ x := Nat.mod_le _ _
  have hp : (2 : Nat) ^ n < 2 ^ 31 := Nat.pow_lt_pow_right (by decide) hn
  have hp2 : (2 : Nat) ^ 31 = 2147483648 := by decide
  have hp3 : (2 : Nat) ^ 32 = 4294967296 := by decide
  refine zib_ext (r32_v _) (r32_nat (by omega)) (fun i hi => ?_)
  rw [zib_and, zib_nat _ _ (by omega), zib_nat _ _ (by omega), zib_nat _ _ (by omega), Nat.testBit_mod_two_pow, Nat.testBit_two_pow_sub_one, Bool.and_comm]
theorem opv_dec {o : zOp} (h : oOk o) : zand (opv o) 255 = (o.1 : Int) ∧ zand (zshr (opv o) 8) 255 = (o.2.1 : Int) ∧ zand (zshr (opv o) 16) 255 = (o.2.2.1 : Int) ∧ zand (zshr (opv o) 24) 127 = (o.2.2.2 : Int) := by
  obtain ⟨p, q, r, s⟩ := o
  obtain ⟨hp, hq, hr, hs⟩ := h
  have hp' : p < 256 := hp
  have hq' : q < 256 := hq
  have hr' : r < 256 := hr
  have hs' : s < 128 := hs
  have a0 : ∀ x : Nat, x < 2147483648 → zand (x : Int) 255 = ((x % 256 : Nat) : Int) := fun x hx => zand_lo (n := 8) hx (by decide)
  have a7 : ∀ x : Nat, x < 2147483648 → zand (x : Int) 127 = ((x % 128 : Nat) : Int) := fun x hx => zand_lo (n := 7) hx (by decide)
  have s8 : ∀ x : Nat, x < 2147483648 → zshr (x : Int) 8 = ((x / 256 : Nat) : Int) := fun x hx => zshr_nat (k := 8) hx (by decide)
  have s16 : ∀ x : Nat, x < 2147483648 → zshr (x : Int) 16 = ((x / 65536 : Nat) : Int) := fun x hx => zshr_nat (k := 16) hx (by decide)
  have s24 : ∀ x : Nat, x < 2147483648 → zshr (x : Int) 24 = ((x / 16777216 : Nat) : Int) := fun x hx => zshr_nat (k := 24) hx (by decide)
  show zand ((p + 256 * q + 65536 * r + 16777216 * s : Nat) : Int) 255 = (p : Int) ∧ zand (zshr ((p + 256 * q + 65536 * r + 16777216 * s : Nat) : Int) 8) 255 = (q : Int) ∧ zand (zshr ((p + 256 * q + 65536 * r + 16777216 * s : Nat) : Int) 16) 255 = (r : Int) ∧ zand (zshr ((p + 256 * q + 65536 * r + 16777216 * s : Nat) : Int) 24) 127 = (s : Int)
  rw [s8 _ (by omega), s16 _ (by omega), s24 _ (by omega), a0 _ (by omega), a0 _ (by omega), a0 _ (by omega), a7 _ (by omega)]
  refine ⟨?_, ?_, ?_, ?_⟩ <;> congr 1 <;> omega
theorem LiC.of {σ' : zLi} (h : LiC m a σ) (hs : Sam m m' a 64) (hL : LdV m' a σ'.1) (h7 : ∀ j, 1 ≤ j → j ≤ 7 → zi m' 62 j = zi m 62 j) (e : σ'.2 = σ.2) : LiC m' a σ' := by
  obtain ⟨h1, h2, h3, ⟨g1, g2, g3⟩, ⟨g4, g5, g6⟩, g7⟩ := h
  refine ⟨hs.Ld h1, hL, hs.Lf h3, ?_⟩
  rw [e, h7 1 (by decide) (by decide), h7 2 (by decide) (by decide), h7 3 (by decide) (by decide), h7 4 (by decide) (by decide), h7 5 (by decide) (by decide), h7 6 (by decide) (by decide), h7 7 (by decide) (by decide)]
  exact ⟨⟨g1, g2, g3⟩, ⟨g4, g5, g6⟩, g7⟩
theorem s_go {p x j : Nat} (hp : p < σ.1.2.2.1.length) (hx : x < σ.1.2.1.length) (hj : j ≤ 300) (ha : a + 28 ≤ 62) (h : LiC m a σ) (hB : LiB j σ) : EfC m a (zF zP 62 v [(.inr (.inr (some 62))), (.inr (.inr (some a))), .inl (p : Int), .inl (x : Int)] m) (eGo p x σ) := by
  have h0 := h
  obtain ⟨h1, h2, h3, ⟨g1, g2, g3⟩, ⟨g4, g5, g6⟩, g7⟩ := h
  obtain ⟨b1, ⟨b2, b3, b4, b5⟩, t, bt, bt2⟩ := hB
  have p6 : σ.1.2.2.1.length ≤ 6 := h2.2.2.1.2.1
  obtain ⟨q1, q2, q3, q4, q5⟩ := h2.2.2.1.2.2 p hp
  unfold eGo
  rw [f_X1_personGoes, if_pos h1.1, s_placeAt h1 (by omega), zC1_s, if_pos h1.1, q2, s_areJoined h1 h2 q5 hx, zC1_s]
  by_cases c : ljoin σ.1 (σ.1.2.2.1.getD p ps0).2.1 x = true
  · have hs : Sam m (zwi m (a + 6) p (x : Int)) (a + 6) (a + 7) := Sam.wi m _ _ (by omega) (by omega)
    have hL := h2.stand (p := p) (x := x) hp hx
    have e5 : ∀ _ : Unit, zadd (σ.2.1.2.2.2.2.1 : Int) 1 = ((σ.2.1.2.2.2.2.1 + 1 : Nat) : Int) := fun _ => zadd1 (by omega)
    have s2 : Sam (zwi m (a + 6) p (x : Int)) (zwi (zwi m (a + 6) p (x : Int)) 62 5 ((σ.2.1.2.2.2.2.1 + 1 : Nat) : Int)) 62 63 := Sam.wi _ _ _ (by omega) (by omega)
    have v62 : ∀ j, j ≠ 5 → zi (zwi (zwi m (a + 6) p (x : Int)) 62 5 ((σ.2.1.2.2.2.2.1 + 1 : Nat) : Int)) 62 j = zi m 62 j := fun j hj => by rw [zi_wi_n _ _ (Or.inr hj), hs.i (by omega)]
    have k5 : zi (zwi m (a + 6) p (x : Int)) 62 5 = (σ.2.1.2.2.2.2.1 : Int) := by rw [hs.i (by omega)]; exact g5
    rw [if_pos c, c, if_neg nb1, j_X1_personGoes_15, if_pos h1.1, s_stand h1 (by omega), zC0_s, if_pos (hs.Lf h3).1, if_pos (hs.Lf h3).1, if_pos zb1, k5, e5 ()]
    refine ⟨_, rfl, (Fr.wi m _ (Or.inr (Or.inl rfl))).tr (Fr.wi _ _ (Or.inr (Or.inr (Or.inr (Or.inr rfl))))), s2.Ld (hs.Ld h1), s2.ldV (by omega) hL, s2.Lf (hs.Lf h3), ⟨?_, ?_, ?_⟩, ⟨?_, ?_, ?_⟩, ?_⟩
    · rw [v62 1 (by decide)]; exact g1
    · rw [v62 2 (by decide)]; exact g2
    · rw [v62 3 (by decide)]; exact g3
    · rw [v62 4 (by decide)]; exact g4
    · exact zi_wi_s _ _ _ _
    · rw [v62 6 (by decide)]; exact g6
    · rw [v62 7 (by decide)]; exact g7
  · rw [if_neg c, bool_f c, if_pos yb0, if_pos zb0]
    exact ⟨m, rfl, Fr.rf _ _, h0⟩
theorem s_lo {i : Nat} (b : Bool) (hi : i < σ.1.2.1.length) (ha : a + 28 ≤ 62) (h : LiC m a σ) : EfC m a (zF zP 63 v [(.inr (.inr (some 62))), (.inr (.inr (some a))), .inl (i : Int), .inl (b01 b)] m) (eLo i b σ) := by
  have h0 := h
  obtain ⟨h1, h2, h3, hg⟩ := h
  obtain ⟨i8, d2, hv⟩ := h2.ln h1 hi
  unfold eLo
  rw [f_X1_lineBecomes, if_pos h1.1, s_lineAt h1 i8, zC4_s, if_pos d2.1, hv.2.2.1]
  by_cases c : (σ.1.2.1.getD i ln0).2.1 = b
  · rw [if_pos (b01_inj.mpr c), if_pos c, if_pos zb0]
    exact ⟨m, rfl, Fr.rf _ _, h0⟩
  · have hs : Sam m (zwi m (a + 12 + 2 * i) 3 (b01 b)) (a + 12 + 2 * i) (a + 14 + 2 * i) := Sam.wi m _ _ (by omega) (by omega)
    have hn : ∀ b' j, b' ≠ a + 12 + 2 * i ∨ j ≠ 3 → zi (zwi m (a + 12 + 2 * i) 3 (b01 b)) b' j = zi m b' j := fun b' j q => zi_wi_n _ _ q
    have hL : LdV (zwi m (a + 12 + 2 * i) 3 (b01 b)) a (lnSet σ.1 i ((σ.1.2.1.getD i ln0).1, b, (σ.1.2.1.getD i ln0).2.2)) := by
      refine h2.line hi hs ?_
      unfold LnV at hv ⊢
      rw [hn _ 1 (Or.inr (by decide)), hn _ 2 (Or.inr (by decide)), zi_wi_s]
      refine ⟨hv.1, hv.2.1, rfl, hv.2.2.2.1, hv.2.2.2.2.1, fun k hk => ?_⟩
      rw [hn _ _ (Or.inl (by omega))]; exact hv.2.2.2.2.2 k hk
    rw [if_neg (fun q => c (b01_inj.mp q)), if_neg c, j_X1_lineBecomes_18, if_pos (by rw [d2.1, zb_b01]; rfl), if_pos zb1]
    refine ⟨_, rfl, Fr.wi m _ (Or.inr (Or.inr (Or.inr (Or.inl ⟨by omega, by omega, rfl⟩)))), h0.of (hs.mono (by omega) (by omega)) hL (fun j _ _ => hs.i (by omega) j) rfl⟩
theorem s_draw {k s d : Nat} (hk : 0 < k) (h : LiC m a σ) (hs : σ.2.1.1 = s) (hs2 : s < 65536) (hd : dwN s = d) (ha : a + 28 ≤ 62) : zF zP 64 v [(.inr (.inr (some 62))), .inl (k : Int)] m = some (some (.inl ((d / 8 % k : Nat) : Int)), zwi m 62 1 (d : Int)) ∧ LiC (zwi m 62 1 (d : Int)) a (seL σ d) := by
  obtain ⟨h1, h2, h3, ⟨g1, g2, g3⟩, ⟨g4, g5, g6⟩, g7⟩ := h
  have e1 := dw_eq hs2
  have e2 := dv_eq s k
  rw [hd] at e1 e2
  rw [hs] at g1
  have hw : Sam m (zwi m 62 1 (d : Int)) 62 63 := Sam.wi m _ _ (by omega) (by omega)
  have v62 : ∀ j, j ≠ 1 → zi (zwi m 62 1 (d : Int)) 62 j = zi m 62 j := fun j hj => zi_wi_n _ _ (Or.inr hj)
  refine ⟨?_, hw.Ld h1, hw.ldV (by omega) h2, hw.Lf h3, ⟨zi_wi_s _ _ _ _, ?_, ?_⟩, ⟨?_, ?_, ?_⟩, ?_⟩
  · rw [f_X1_draw, if_pos h3.1, if_neg (by decide), if_pos h3.1, if_pos (by omega), g1, e1, if_pos (hw.Lf h3).1, if_neg (by decide), if_neg (by omega), zi_wi_s, e2, j_X1_draw_36]
  · rw [v62 2 (by decide)]; exact g2
  · rw [v62 3 (by decide)]; exact g3
  · rw [v62 4 (by decide)]; exact g4
  · rw [v62 5 (by decide)]; exact g5
  · rw [v62 6 (by decide)]; exact g6
  · rw [v62 7 (by decide)]; exact g7
theorem s_any {j : Nat} (hj : j ≤ 300) (ha : a + 28 ≤ 62) (h : LiC m a σ) (hB : LiB j σ) : EfC m a (zF zP 65 v [(.inr (.inr (some 62))), (.inr (.inr (some a)))] m) (eAny σ) := by
  have h0 := h
  obtain ⟨h1, h2, h3, hg⟩ := h
  have c10 : zi m a 10 = (σ.1.2.2.1.length : Int) := h2.2.2.1.1
  obtain ⟨d, hd⟩ : ∃ d, dwN σ.2.1.1 = d := ⟨_, rfl⟩
  obtain ⟨e, he⟩ : ∃ e, dwN d = e := ⟨_, rfl⟩
  have hd6 : d < 65536 := by rw [← hd]; exact dwN_lt _
  have he6 : e < 65536 := by rw [← he]; exact dwN_lt _
  unfold eAny
  rw [f_X1_anyGoes, if_pos h1.1, c10, hd, he]
  by_cases c : σ.1.2.2.1.length = 0
  · rw [if_pos (by omega), if_pos c, if_pos zb0]
    exact ⟨m, rfl, Fr.rf _ _, h0⟩
  · have hl : 0 < σ.1.2.1.length := Nat.lt_of_le_of_lt (Nat.zero_le _) (h2.2.2.1.2.2 0 (Nat.pos_of_ne_zero c)).2.2.2.2
    obtain ⟨d1, d2⟩ := s_draw (v := 0) (Nat.pos_of_ne_zero c) h0 rfl hB.1 hd ha
    obtain ⟨e1, e2⟩ := s_draw (v := 0) (σ := seL σ d) hl d2 rfl hd6 he ha
    have c9' : zi (zwi m 62 1 (d : Int)) a 9 = (σ.1.2.1.length : Int) := d2.2.1.2.1.1
    have hB2 : LiB j (seL σ e) := ⟨he6, hB.2⟩
    obtain ⟨p, hp⟩ : ∃ p, d / 8 % σ.1.2.2.1.length = p := ⟨_, rfl⟩
    obtain ⟨x, hx⟩ : ∃ x, e / 8 % σ.1.2.1.length = x := ⟨_, rfl⟩
    have hp2 : p < σ.1.2.2.1.length := by rw [← hp]; exact Nat.mod_lt _ (Nat.pos_of_ne_zero c)
    have hx2 : x < σ.1.2.1.length := by rw [← hx]; exact Nat.mod_lt _ hl
    rw [hp] at d1 ⊢
    rw [hx] at e1 ⊢
    obtain ⟨m', r1, r2, r3⟩ := s_go (v := 0) (σ := seL σ e) (p := p) (x := x) hp2 hx2 hj ha e2 hB2
    rw [if_neg (by omega), if_neg c, j_X1_anyGoes_9, if_pos h1.1, if_pos h3.1, c10, d1, zC1_s, if_pos d2.1.1, if_pos d2.2.2.1.1, c9', e1, zC1_s, if_pos e2.2.2.1.1, r1, zC1_s, if_pos (zb_b01 _)]
    exact ⟨m', rfl, ((Fr.wi m _ (Or.inr (Or.inr (Or.inr (Or.inr rfl))))).tr (Fr.wi _ _ (Or.inr (Or.inr (Or.inr (Or.inr rfl)))))).tr r2, r3⟩
theorem s_holds {o : zOp} (h : LdS m a) (hL : LdV m a L) (ho : oOk o) (hk : (o.1 = 18 ∧ o.2.1 < L.2.1.length) ∨ (o.1 = 20 ∧ o.2.1 < L.2.2.1.length ∧ o.2.2.1 < L.1.length) ∨ (o.1 = 19 ∧ o.2.1 < L.2.2.1.length ∧ (o.2.2.1 = 60 ∨ o.2.2.1 = 61 ∨ o.2.2.1 = 62))) :
    zF zP 68 v [(.inr (.inr (some a))), .inl (opv o)] m = some (some (.inl (b01 (tHold o L))), m) := by
  obtain ⟨d1, d2, d3, d4⟩ := opv_dec ho
  have p6 : L.2.2.1.length ≤ 6 := hL.2.2.1.2.1
  rw [f_X1_holds, f_X8_kindOf, zC1_s, f_X8_firstOf, zC1_s, d1, d2]
  unfold tHold
  rcases hk with ⟨k, hi⟩ | ⟨k, hp, hw⟩ | ⟨k, hp, hs⟩
  · obtain ⟨i8, e2, hv⟩ := hL.ln h hi
    rw [if_pos (by omega), if_pos k, if_pos h.1, s_lineAt h i8, zC4_s, if_pos e2.1, hv.2.2.1, if_pos (zb_b01 _)]
  · obtain ⟨q1, q2⟩ := hL.rowOk hp
    rw [if_neg (by omega), if_neg (by omega), if_pos k, j_X1_holds_25, if_pos (by omega), if_pos h.1, s_rowAt h (by omega), q1, zC2_s, f_X8_secondOf, zC1_s, d3, s_find q2, zC1_s]
    by_cases c : ixF (L.2.2.1.getD o.2.1 ps0).2.2 o.2.2.1 0 = -1
    · have c' : ixF (row0 L o.2.1) o.2.2.1 0 = -1 := c
      rw [if_pos c, j_X1_holds_51, j_X1_holds_52, if_pos zb0, decide_eq_true c']; rfl
    · have c' : ¬ ixF (row0 L o.2.1) o.2.2.1 0 = -1 := c
      rw [if_neg c, j_X1_holds_52, if_pos zb1, decide_eq_false c']; rfl
  · obtain ⟨q1, q2⟩ := hL.rowOk hp
    have q2' : (row0 L o.2.1).length = (L.2.2.1.getD o.2.1 ps0).2.2.length := rfl
    rw [if_neg (by omega), if_neg (by omega), if_neg (by omega), j_X1_holds_25, if_neg (by omega), j_X1_holds_53, if_pos h.1, s_rowAt h (by omega), q1, zC2_s, s_size q2, zC1_s, f_X8_thirdOf, zC1_s, d4, q2']
    have cmp : ∀ (x y : Nat), ∃ z : Int, zF zP 67 0 [.inl (x : Int), .inl (y : Int)] m = some (some (.inl z), m) ∧ (z < 0 ↔ x < y) ∧ (0 < z ↔ y < x) ∧ (z = 0 ↔ x = y) := fun x y => by
      rw [f_J6_compare_7cf53]
      by_cases c1 : x < y
      · exact ⟨-1, by rw [if_pos (by omega), j_J6_compare_7cf53_19], by omega, by omega, by omega⟩
      · by_cases c2 : x = y
        · exact ⟨0, by rw [if_neg (by omega), j_J6_compare_7cf53_9, if_pos (by omega), j_J6_compare_7cf53_19], by omega, by omega, by omega⟩
        · exact ⟨1, by rw [if_neg (by omega), j_J6_compare_7cf53_9, if_neg (by omega), j_J6_compare_7cf53_18, j_J6_compare_7cf53_19], by omega, by omega, by omega⟩
    obtain ⟨z, hz, z1, z2, z3⟩ := cmp (L.2.2.1.getD o.2.1 ps0).2.2.length o.2.2.2
    rw [hz, zC1_s, f_X8_secondOf, zC1_s, d3]
    rcases hs with s | s | s
    · rw [s, show zlk ((60 : Nat) : Int) [(60, 100), (62, 111)] 122 = 100 from rfl, j_X1_holds_100, if_pos rfl]
      by_cases c : z < 0
      · rw [if_pos c, j_X1_holds_110, if_pos zb1, decide_eq_true (z1.mp c)]; rfl
      · rw [if_neg c, j_X1_holds_109, j_X1_holds_110, if_pos zb0, decide_eq_false (fun q => c (z1.mpr q))]; rfl
    · rw [s, show zlk ((61 : Nat) : Int) [(60, 100), (62, 111)] 122 = 122 from rfl, j_X1_holds_122, if_neg (show ¬ (61 : Nat) = 60 by decide), if_neg (show ¬ (61 : Nat) = 62 by decide)]
      by_cases c : z = 0
      · rw [if_pos c, j_X1_holds_132, if_pos zb1, decide_eq_true (z3.mp c)]; rfl
      · rw [if_neg c, j_X1_holds_131, j_X1_holds_132, if_pos zb0, decide_eq_false (fun q => c (z3.mpr q))]; rfl
    · rw [s, show zlk ((62 : Nat) : Int) [(60, 100), (62, 111)] 122 = 111 from rfl, j_X1_holds_111, if_neg (show ¬ (62 : Nat) = 60 by decide), if_pos (show (62 : Nat) = 62 from rfl)]
      by_cases c : 0 < z
      · rw [if_pos c, j_X1_holds_121, if_pos zb1, decide_eq_true (z2.mp c)]; rfl
      · rw [if_neg c, j_X1_holds_120, j_X1_holds_121, if_pos zb0, decide_eq_false (fun q => c (z2.mpr q))]; rfl
end LIVE3
