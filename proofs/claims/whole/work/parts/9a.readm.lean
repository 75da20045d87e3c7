/-! The reference's reading: words, FAULTS, single TOKENS. -/
def w6 (y x : Int) : Int := zlsub (zladd (zlmul y 32) x) 96
def sp6 (x0 x1 x2 x3 x4 x5 : Int) : Int :=
  let a := w6 (zlsub x0 96) x1
  let b := if 0 < x2 then w6 a x2 else a
  let c := if 0 < x3 then w6 b x3 else b
  let d := if 0 < x4 then w6 c x4 else c
  if 0 < x5 then w6 d x5 else d
theorem key_pos {k : Nat} (hk : k < 24) : 0 < zKey.getD k 0 := by
  have key : ∀ k : Fin 24, 0 < zKey.getD k.val 0 := by decide +kernel
  exact key ⟨k, hk⟩
def edW0 (T : zTok) : Int := if isK T 3 = true then 0 else if isK T 6 = true then 1 else if isK T 7 = true then 2 else -1
def stW (T : zTok) : Int := if isK T 12 = true then 0 else if isK T 13 = true then 1 else if isK T 14 = true then 2 else if isK T 15 = true then 3 else if isK T 16 = true then 4 else if isK T 17 = true then 5 else if isK T 21 = true then 6 else if isK T 23 = true then 7 else -1
def teW (T : zTok) : Int := if isK T 18 = true then 0 else if isK T 20 = true then 1 else if isK T 19 = true then 2 else -1
theorem tokAt_W {f : Nat → Nat} {n p : Nat} : TkW (tokAt f n p) := by
  refine ⟨?_, fun h => tokB_k2 _ _ h⟩
  unfold tokAt tokB
  split
  · split
    · show (2 : Nat) ≤ 4; decide
    · split
      · show (if _ then 3 else 1) ≤ 4
        split <;> omega
      · show (if _ then 4 else 1) ≤ 4
        split <;> omega
  · show (0 : Nat) ≤ 4; decide
def GdM (m : zM) (f : Nat → Nat) (n : Nat) (T : zTok) : Prop := TxM m f n ∧ TkM m T ∧ TkW T ∧ zi m 0 12 = 0
def BdM (m : zM) (f : Nat → Nat) (n : Nat) (e : Nat × Nat) : Prop := TxM m f n ∧ zi m 0 12 = (e.1 : Int) ∧ zi m 0 13 = (e.2 : Int) ∧ 0 < e.1
def bdM (m : zM) (e : Nat × Nat) : zM := zwi (zwi m 0 12 (e.1 : Int)) 0 13 (e.2 : Int)
def flP (b j : Nat) : Prop := b = 0 ∧ (j = 12 ∨ j = 13)
section READM
variable {v : Nat} {m m' : zM} {f : Nat → Nat} {n : Nat} {T : zTok} {L : zLd} {S : zSt}
theorem m_spelled (x0 x1 x2 x3 x4 x5 : Int) : zF zP 261 v [.inl x0, .inl x1, .inl x2, .inl x3, .inl x4, .inl x5] m = some (some (.inr (.inl (sp6 x0 x1 x2 x3 x4 x5))), m) := by
  have h117 : ∀ a b : Int, zX zP 261 v 117 [some (.inl x0), some (.inl x1), some (.inl x2), some (.inl x3), some (.inl x4), some (.inl x5), some (.inr (.inl a)), none] [.inr (.inl b)] m = some (some (.inr (.inl b)), m) := fun a b => j_X11_spelled_117 _ _ _ _ _ _ _ _ _
  have h91 : ∀ a b : Int, zX zP 261 v 91 [some (.inl x0), some (.inl x1), some (.inl x2), some (.inl x3), some (.inl x4), some (.inl x5), some (.inr (.inl a)), none] [.inr (.inl b)] m = some (some (.inr (.inl (if 0 < x5 then w6 b x5 else b))), m) := fun a b => by
    rw [j_X11_spelled_91]
    by_cases h : 0 < x5
    · rw [if_pos h, if_pos h, h117]; rfl
    · rw [if_neg h, if_neg h, j_X11_spelled_115, h117]
  have h65 : ∀ a b : Int, zX zP 261 v 65 [some (.inl x0), some (.inl x1), some (.inl x2), some (.inl x3), some (.inl x4), some (.inl x5), some (.inr (.inl a)), none] [.inr (.inl b)] m = some (some (.inr (.inl (if 0 < x5 then w6 (if 0 < x4 then w6 b x4 else b) x5 else (if 0 < x4 then w6 b x4 else b)))), m) := fun a b => by
    rw [j_X11_spelled_65]
    by_cases h : 0 < x4
    · rw [if_pos h, if_pos h, h91]; rfl
    · rw [if_neg h, if_neg h, j_X11_spelled_89, h91]
  have h41 : ∀ a b : Int, zX zP 261 v 41 [some (.inl x0), some (.inl x1), some (.inl x2), some (.inl x3), some (.inl x4), some (.inl x5), some (.inr (.inl a)), none] [.inr (.inl b)] m = some (some (.inr (.inl (if 0 < x5 then w6 (if 0 < x4 then w6 (if 0 < x3 then w6 b x3 else b) x4 else (if 0 < x3 then w6 b x3 else b)) x5 else (if 0 < x4 then w6 (if 0 < x3 then w6 b x3 else b) x4 else (if 0 < x3 then w6 b x3 else b))))), m) := fun a b => by
    rw [j_X11_spelled_41]
    by_cases h : 0 < x3
    · rw [if_pos h, if_pos h, h65]; rfl
    · rw [if_neg h, if_neg h, j_X11_spelled_63, h65]
  rw [f_X11_spelled]
  unfold sp6
  by_cases h : 0 < x2
  · rw [if_pos h, h41]
    show _ = some (some (Sum.inr (Sum.inl (if 0 < x5 then w6 (if 0 < x4 then w6 (if 0 < x3 then w6 (if 0 < x2 then w6 (w6 (zlsub x0 96) x1) x2 else w6 (zlsub x0 96) x1) x3 else (if 0 < x2 then w6 (w6 (zlsub x0 96) x1) x2 else w6 (zlsub x0 96) x1)) x4 else (if 0 < x3 then w6 (if 0 < x2 then w6 (w6 (zlsub x0 96) x1) x2 else w6 (zlsub x0 96) x1) x3 else (if 0 < x2 then w6 (w6 (zlsub x0 96) x1) x2 else w6 (zlsub x0 96) x1))) x5 else _))), m)
    rw [if_pos h]; rfl
  · rw [if_neg h, j_X11_spelled_39, h41]
    show _ = some (some (Sum.inr (Sum.inl (if 0 < x5 then w6 (if 0 < x4 then w6 (if 0 < x3 then w6 (if 0 < x2 then w6 (w6 (zlsub x0 96) x1) x2 else w6 (zlsub x0 96) x1) x3 else (if 0 < x2 then w6 (w6 (zlsub x0 96) x1) x2 else w6 (zlsub x0 96) x1)) x4 else (if 0 < x3 then w6 (if 0 < x2 then w6 (w6 (zlsub x0 96) x1) x2 else w6 (zlsub x0 96) x1) x3 else (if 0 < x2 then w6 (w6 (zlsub x0 96) x1) x2 else w6 (zlsub x0 96) x1))) x5 else _))), m)
    rw [if_neg h]; rfl
theorem isK_k2 (hW : TkW T) (h : T.1 ≠ 2) {k : Nat} (hk : k < 24) : isK T k = false := by
  have := key_pos hk
  unfold isK
  refine decide_eq_false (fun w => ?_)
  rw [hW.2 h] at w
  omega
theorem m_isWord (g : GdM m f n T) {k : Nat} (hk : k < 24) : zF zP 262 v [(.inr (.inr (some 0))), .inr (.inl (zKey.getD k 0))] m = some (some (.inl (b01 (isK T k))), m) := by
  have hp := key_pos hk
  rw [f_X11_isWord, if_pos g.1.t, g.2.1.1]
  by_cases h : T.1 = 2
  · rw [if_pos (kdM_2.mpr h), if_pos g.1.t, (g.2.1.2.2.2.1 h).1]
    by_cases c : isK T k = true
    · have e : (T.2.2.2.1 : Int) = zKey.getD k 0 := of_decide_eq_true c
      rw [c, if_pos (zlcmp_eq.mpr (by rw [if_neg (by omega)]; exact e)), j_X11_isWord_22, if_pos zb1]; rfl
    · have e : ¬ (T.2.2.2.1 : Int) = zKey.getD k 0 := fun w => c (decide_eq_true w)
      rw [bool_f c, if_neg (fun w => by
        have w' := zlcmp_eq.mp w
        by_cases z : T.2.2.2.1 = 0
        · rw [if_pos z] at w'; omega
        · rw [if_neg z] at w'; exact e w'), j_X11_isWord_21, j_X11_isWord_22, if_pos zb0]; rfl
  · rw [if_neg (fun w => h (kdM_2.mp w)), j_X11_isWord_21, j_X11_isWord_22, if_pos zb0, isK_k2 g.2.2.1 h hk]; rfl
theorem m_isWord_any (hx : TxM m f n) (y : Int) : ∃ b : Bool, zF zP 262 v [(.inr (.inr (some 0))), .inr (.inl y)] m = some (some (.inl (b01 b)), m) := by
  rw [f_X11_isWord, if_pos hx.t, if_pos hx.t]
  by_cases h : zi m 0 14 = 1
  · rw [if_pos h]
    by_cases c : zlcmp (zl m 0 19) y = 0
    · exact ⟨true, by rw [if_pos c, j_X11_isWord_22, if_pos zb1]; rfl⟩
    · exact ⟨false, by rw [if_neg c, j_X11_isWord_21, j_X11_isWord_22, if_pos zb0]; rfl⟩
  · exact ⟨false, by rw [if_neg h, j_X11_isWord_21, j_X11_isWord_22, if_pos zb0]; rfl⟩
theorem sp_0 : sp6 111 100 100 115 0 0 = zKey.getD 0 0 := by decide +kernel
theorem sp_1 : sp6 119 111 114 100 0 0 = zKey.getD 1 0 := by decide +kernel
theorem sp_2 : sp6 108 105 110 101 0 0 = zKey.getD 2 0 := by decide +kernel
theorem sp_3 : sp6 102 111 114 0 0 0 = zKey.getD 3 0 := by decide +kernel
theorem sp_4 : sp6 114 101 97 100 0 0 = zKey.getD 4 0 := by decide +kernel
theorem sp_5 : sp6 112 97 115 115 105 109 = zKey.getD 5 0 := by decide +kernel
theorem sp_6 : sp6 100 101 108 101 116 101 = zKey.getD 6 0 := by decide +kernel
theorem sp_7 : sp6 97 102 116 101 114 0 = zKey.getD 7 0 := by decide +kernel
theorem sp_8 : sp6 105 110 115 101 114 116 = zKey.getD 8 0 := by decide +kernel
theorem sp_9 : sp6 112 101 114 115 111 110 = zKey.getD 9 0 := by decide +kernel
theorem sp_10 : sp6 97 116 0 0 0 0 = zKey.getD 10 0 := by decide +kernel
theorem sp_11 : sp6 115 97 121 115 0 0 = zKey.getD 11 0 := by decide +kernel
theorem sp_12 : sp6 100 97 121 0 0 0 = zKey.getD 12 0 := by decide +kernel
theorem sp_13 : sp6 103 111 0 0 0 0 = zKey.getD 13 0 := by decide +kernel
theorem sp_14 : sp6 108 111 115 101 0 0 = zKey.getD 14 0 := by decide +kernel
theorem sp_15 : sp6 102 105 110 100 0 0 = zKey.getD 15 0 := by decide +kernel
theorem sp_16 : sp6 97 110 121 0 0 0 = zKey.getD 16 0 := by decide +kernel
theorem sp_17 : sp6 119 104 101 110 0 0 = zKey.getD 17 0 := by decide +kernel
theorem sp_18 : sp6 108 111 115 116 0 0 = zKey.getD 18 0 := by decide +kernel
theorem sp_19 : sp6 108 111 110 103 0 0 = zKey.getD 19 0 := by decide +kernel
theorem sp_20 : sp6 104 97 115 0 0 0 = zKey.getD 20 0 := by decide +kernel
theorem sp_21 : sp6 108 111 111 112 0 0 = zKey.getD 21 0 := by decide +kernel
theorem sp_22 : sp6 101 110 100 0 0 0 = zKey.getD 22 0 := by decide +kernel
theorem sp_23 : sp6 115 116 111 112 0 0 = zKey.getD 23 0 := by decide +kernel
theorem m_isOdds (g : GdM m f n T) : zF zP 263 v [(.inr (.inr (some 0)))] m = some (some (.inl (b01 (isK T 0))), m) := by
  rw [f_X11_isOdds, m_spelled, zC2_s, sp_0, if_pos g.1.t, m_isWord g (by decide), zC1_s, if_pos (zb_b01 _)]
theorem m_isWordWord (g : GdM m f n T) : zF zP 264 v [(.inr (.inr (some 0)))] m = some (some (.inl (b01 (isK T 1))), m) := by
  rw [f_X11_isWordWord, m_spelled, zC2_s, sp_1, if_pos g.1.t, m_isWord g (by decide), zC1_s, if_pos (zb_b01 _)]
theorem m_isLine (g : GdM m f n T) : zF zP 265 v [(.inr (.inr (some 0)))] m = some (some (.inl (b01 (isK T 2))), m) := by
  rw [f_X11_isLine, m_spelled, zC2_s, sp_2, if_pos g.1.t, m_isWord g (by decide), zC1_s, if_pos (zb_b01 _)]
theorem m_isRead (g : GdM m f n T) : zF zP 266 v [(.inr (.inr (some 0)))] m = some (some (.inl (b01 (isK T 4))), m) := by
  rw [f_X11_isRead, m_spelled, zC2_s, sp_4, if_pos g.1.t, m_isWord g (by decide), zC1_s, if_pos (zb_b01 _)]
theorem m_isPassim (g : GdM m f n T) : zF zP 267 v [(.inr (.inr (some 0)))] m = some (some (.inl (b01 (isK T 5))), m) := by
  rw [f_X11_isPassim, m_spelled, zC2_s, sp_5, if_pos g.1.t, m_isWord g (by decide), zC1_s, if_pos (zb_b01 _)]
theorem m_isInsert (g : GdM m f n T) : zF zP 268 v [(.inr (.inr (some 0)))] m = some (some (.inl (b01 (isK T 8))), m) := by
  rw [f_X11_isInsert, m_spelled, zC2_s, sp_8, if_pos g.1.t, m_isWord g (by decide), zC1_s, if_pos (zb_b01 _)]
theorem m_isPerson (g : GdM m f n T) : zF zP 269 v [(.inr (.inr (some 0)))] m = some (some (.inl (b01 (isK T 9))), m) := by
  rw [f_X11_isPerson, m_spelled, zC2_s, sp_9, if_pos g.1.t, m_isWord g (by decide), zC1_s, if_pos (zb_b01 _)]
theorem m_isAt (g : GdM m f n T) : zF zP 270 v [(.inr (.inr (some 0)))] m = some (some (.inl (b01 (isK T 10))), m) := by
  rw [f_X11_isAt, m_spelled, zC2_s, sp_10, if_pos g.1.t, m_isWord g (by decide), zC1_s, if_pos (zb_b01 _)]
theorem m_isSays (g : GdM m f n T) : zF zP 271 v [(.inr (.inr (some 0)))] m = some (some (.inl (b01 (isK T 11))), m) := by
  rw [f_X11_isSays, m_spelled, zC2_s, sp_11, if_pos g.1.t, m_isWord g (by decide), zC1_s, if_pos (zb_b01 _)]
theorem m_isEnd (g : GdM m f n T) : zF zP 275 v [(.inr (.inr (some 0)))] m = some (some (.inl (b01 (isK T 22))), m) := by
  rw [f_X11_isEnd, m_spelled, zC2_s, sp_22, if_pos g.1.t, m_isWord g (by decide), zC1_s, if_pos (zb_b01 _)]
theorem m_isRead_any (hx : TxM m f n) : ∃ b : Bool, zF zP 266 v [(.inr (.inr (some 0)))] m = some (some (.inl (b01 b)), m) := by
  obtain ⟨b, h⟩ := m_isWord_any (v := 0) hx (zKey.getD 4 0)
  exact ⟨b, by rw [f_X11_isRead, m_spelled, zC2_s, sp_4, if_pos hx.t, h, zC1_s, if_pos (zb_b01 _)]⟩
theorem m_isInsert_any (hx : TxM m f n) : ∃ b : Bool, zF zP 268 v [(.inr (.inr (some 0)))] m = some (some (.inl (b01 b)), m) := by
  obtain ⟨b, h⟩ := m_isWord_any (v := 0) hx (zKey.getD 8 0)
  exact ⟨b, by rw [f_X11_isInsert, m_spelled, zC2_s, sp_8, if_pos hx.t, h, zC1_s, if_pos (zb_b01 _)]⟩
theorem m_isAt_any (hx : TxM m f n) : ∃ b : Bool, zF zP 270 v [(.inr (.inr (some 0)))] m = some (some (.inl (b01 b)), m) := by
  obtain ⟨b, h⟩ := m_isWord_any (v := 0) hx (zKey.getD 10 0)
  exact ⟨b, by rw [f_X11_isAt, m_spelled, zC2_s, sp_10, if_pos hx.t, h, zC1_s, if_pos (zb_b01 _)]⟩
theorem m_isPassim_any (hx : TxM m f n) : ∃ b : Bool, zF zP 267 v [(.inr (.inr (some 0)))] m = some (some (.inl (b01 b)), m) := by
  obtain ⟨b, h⟩ := m_isWord_any (v := 0) hx (zKey.getD 5 0)
  exact ⟨b, by rw [f_X11_isPassim, m_spelled, zC2_s, sp_5, if_pos hx.t, h, zC1_s, if_pos (zb_b01 _)]⟩
theorem m_isSays_any (hx : TxM m f n) : ∃ b : Bool, zF zP 271 v [(.inr (.inr (some 0)))] m = some (some (.inl (b01 b)), m) := by
  obtain ⟨b, h⟩ := m_isWord_any (v := 0) hx (zKey.getD 11 0)
  exact ⟨b, by rw [f_X11_isSays, m_spelled, zC2_s, sp_11, if_pos hx.t, h, zC1_s, if_pos (zb_b01 _)]⟩
theorem m_isEnd_any (hx : TxM m f n) : ∃ b : Bool, zF zP 275 v [(.inr (.inr (some 0)))] m = some (some (.inl (b01 b)), m) := by
  obtain ⟨b, h⟩ := m_isWord_any (v := 0) hx (zKey.getD 22 0)
  exact ⟨b, by rw [f_X11_isEnd, m_spelled, zC2_s, sp_22, if_pos hx.t, h, zC1_s, if_pos (zb_b01 _)]⟩
theorem m_editWord (g : GdM m f n T) : zF zP 272 v [(.inr (.inr (some 0)))] m = some (some (.inl (edW0 T)), m) := by
  unfold edW0
  rw [f_X11_editWord, m_spelled, zC2_s, sp_3, if_pos g.1.t, m_isWord g (by decide), zC1_s]
  by_cases c3 : isK T 3 = true
  · rw [c3, if_neg nb1, if_pos rfl]
  · rw [bool_f c3, if_pos yb0, if_neg (show ¬ false = true by decide)]
    rw [j_X11_editWord_21, m_spelled, zC2_s, sp_6, if_pos g.1.t, m_isWord g (by decide), zC1_s]
    by_cases c6 : isK T 6 = true
    · rw [c6, if_neg nb1, if_pos rfl]
    · rw [bool_f c6, if_pos yb0, if_neg (show ¬ false = true by decide)]
      rw [j_X11_editWord_45, m_spelled, zC2_s, sp_7, if_pos g.1.t, m_isWord g (by decide), zC1_s]
      by_cases c7 : isK T 7 = true
      · rw [c7, if_neg nb1, j_X11_editWord_71, if_pos rfl]
      · rw [bool_f c7, if_pos yb0, if_neg (show ¬ false = true by decide)]
        rw [j_X11_editWord_70, j_X11_editWord_71]
theorem m_stepWord (g : GdM m f n T) : zF zP 273 v [(.inr (.inr (some 0)))] m = some (some (.inl (stW T)), m) := by
  unfold stW
  rw [f_X11_stepWord, m_spelled, zC2_s, sp_12, if_pos g.1.t, m_isWord g (by decide), zC1_s]
  by_cases c12 : isK T 12 = true
  · rw [c12, if_neg nb1, if_pos rfl]
  · rw [bool_f c12, if_pos yb0, if_neg (show ¬ false = true by decide)]
    rw [j_X11_stepWord_21, m_spelled, zC2_s, sp_13, if_pos g.1.t, m_isWord g (by decide), zC1_s]
    by_cases c13 : isK T 13 = true
    · rw [c13, if_neg nb1, if_pos rfl]
    · rw [bool_f c13, if_pos yb0, if_neg (show ¬ false = true by decide)]
      rw [j_X11_stepWord_41, m_spelled, zC2_s, sp_14, if_pos g.1.t, m_isWord g (by decide), zC1_s]
      by_cases c14 : isK T 14 = true
      · rw [c14, if_neg nb1, if_pos rfl]
      · rw [bool_f c14, if_pos yb0, if_neg (show ¬ false = true by decide)]
        rw [j_X11_stepWord_63, m_spelled, zC2_s, sp_15, if_pos g.1.t, m_isWord g (by decide), zC1_s]
        by_cases c15 : isK T 15 = true
        · rw [c15, if_neg nb1, if_pos rfl]
        · rw [bool_f c15, if_pos yb0, if_neg (show ¬ false = true by decide)]
          rw [j_X11_stepWord_85, m_spelled, zC2_s, sp_16, if_pos g.1.t, m_isWord g (by decide), zC1_s]
          by_cases c16 : isK T 16 = true
          · rw [c16, if_neg nb1, if_pos rfl]
          · rw [bool_f c16, if_pos yb0, if_neg (show ¬ false = true by decide)]
            rw [j_X11_stepWord_106, m_spelled, zC2_s, sp_17, if_pos g.1.t, m_isWord g (by decide), zC1_s]
            by_cases c17 : isK T 17 = true
            · rw [c17, if_neg nb1, if_pos rfl]
            · rw [bool_f c17, if_pos yb0, if_neg (show ¬ false = true by decide)]
              rw [j_X11_stepWord_128, m_spelled, zC2_s, sp_21, if_pos g.1.t, m_isWord g (by decide), zC1_s]
              by_cases c21 : isK T 21 = true
              · rw [c21, if_neg nb1, if_pos rfl]
              · rw [bool_f c21, if_pos yb0, if_neg (show ¬ false = true by decide)]
                rw [j_X11_stepWord_151, m_spelled, zC2_s, sp_23, if_pos g.1.t, m_isWord g (by decide), zC1_s]
                by_cases c23 : isK T 23 = true
                · rw [c23, if_neg nb1, j_X11_stepWord_177, if_pos rfl]
                · rw [bool_f c23, if_pos yb0, if_neg (show ¬ false = true by decide)]
                  rw [j_X11_stepWord_176, j_X11_stepWord_177]
theorem m_testWord (g : GdM m f n T) : zF zP 274 v [(.inr (.inr (some 0)))] m = some (some (.inl (teW T)), m) := by
  unfold teW
  rw [f_X11_testWord, m_spelled, zC2_s, sp_18, if_pos g.1.t, m_isWord g (by decide), zC1_s]
  by_cases c18 : isK T 18 = true
  · rw [c18, if_neg nb1, if_pos rfl]
  · rw [bool_f c18, if_pos yb0, if_neg (show ¬ false = true by decide)]
    rw [j_X11_testWord_22, m_spelled, zC2_s, sp_20, if_pos g.1.t, m_isWord g (by decide), zC1_s]
    by_cases c20 : isK T 20 = true
    · rw [c20, if_neg nb1, if_pos rfl]
    · rw [bool_f c20, if_pos yb0, if_neg (show ¬ false = true by decide)]
      rw [j_X11_testWord_43, m_spelled, zC2_s, sp_19, if_pos g.1.t, m_isWord g (by decide), zC1_s]
      by_cases c19 : isK T 19 = true
      · rw [c19, if_neg nb1, j_X11_testWord_68, if_pos rfl]
      · rw [bool_f c19, if_pos yb0, if_neg (show ¬ false = true by decide)]
        rw [j_X11_testWord_67, j_X11_testWord_68]
theorem kept_of {k : Nat} (hk : k < 24) (h : isK T k = true) : b01 (!decide (kwI T.2.2.2.1 = -1)) = 1 := by
  have e := (isK_kw (T := T) hk).mpr h
  rw [decide_eq_false (by omega)]; rfl
theorem edW0_lt : edW0 T < 0 ↔ (isK T 3 = false ∧ isK T 6 = false ∧ isK T 7 = false) := by
  unfold edW0
  cases isK T 3 <;> cases isK T 6 <;> cases isK T 7 <;> decide
theorem stW_lt : stW T < 0 ↔ (isK T 12 = false ∧ isK T 13 = false ∧ isK T 14 = false ∧ isK T 15 = false ∧ isK T 16 = false ∧ isK T 17 = false ∧ isK T 21 = false ∧ isK T 23 = false) := by
  unfold stW
  cases isK T 12 <;> cases isK T 13 <;> cases isK T 14 <;> cases isK T 15 <;> cases isK T 16 <;> cases isK T 17 <;> cases isK T 21 <;> cases isK T 23 <;> decide
theorem teW_lt : teW T < 0 ↔ (isK T 18 = false ∧ isK T 20 = false ∧ isK T 19 = false) := by
  unfold teW
  cases isK T 18 <;> cases isK T 20 <;> cases isK T 19 <;> decide
theorem edW0_ge (h : ¬ edW0 T < 0) : isK T 3 = true ∨ isK T 6 = true ∨ isK T 7 = true := by
  rw [edW0_lt] at h
  cases h3 : isK T 3 <;> cases h6 : isK T 6 <;> cases h7 : isK T 7 <;> simp_all
theorem stW_ge (h : ¬ stW T < 0) : ∃ k, k < 24 ∧ isK T k = true := by
  unfold stW at h
  by_cases c12 : isK T 12 = true
  · exact ⟨12, by decide, c12⟩
  · by_cases c13 : isK T 13 = true
    · exact ⟨13, by decide, c13⟩
    · by_cases c14 : isK T 14 = true
      · exact ⟨14, by decide, c14⟩
      · by_cases c15 : isK T 15 = true
        · exact ⟨15, by decide, c15⟩
        · by_cases c16 : isK T 16 = true
          · exact ⟨16, by decide, c16⟩
          · by_cases c17 : isK T 17 = true
            · exact ⟨17, by decide, c17⟩
            · by_cases c21 : isK T 21 = true
              · exact ⟨21, by decide, c21⟩
              · by_cases c23 : isK T 23 = true
                · exact ⟨23, by decide, c23⟩
                · rw [if_neg c12, if_neg c13, if_neg c14, if_neg c15, if_neg c16, if_neg c17, if_neg c21, if_neg c23] at h
                  exact absurd (by decide) h
theorem teW_ge (h : ¬ teW T < 0) : ∃ k, k < 24 ∧ isK T k = true := by
  unfold teW at h
  by_cases c18 : isK T 18 = true
  · exact ⟨18, by decide, c18⟩
  · by_cases c20 : isK T 20 = true
    · exact ⟨20, by decide, c20⟩
    · by_cases c19 : isK T 19 = true
      · exact ⟨19, by decide, c19⟩
      · rw [if_neg c18, if_neg c20, if_neg c19] at h
        exact absurd (by decide) h
theorem m_isKept (g : GdM m f n T) : zF zP 276 v [(.inr (.inr (some 0)))] m = some (some (.inl (b01 (!decide (kwI T.2.2.2.1 = -1)))), m) := by
  have yes : ∀ k : Nat, k < 24 → isK T k = true → zX zP 276 v 63 [some (.inr (.inr (some 0)))] [] m = some (some (.inl (b01 (!decide (kwI T.2.2.2.1 = -1)))), m) := fun k hk h => by
    rw [j_X11_isKept_63, if_pos zb1, kept_of hk h]
  have yes2 : ∀ k : Nat, k < 24 → isK T k = true → zX zP 276 v 93 [some (.inr (.inr (some 0)))] [] m = some (some (.inl (b01 (!decide (kwI T.2.2.2.1 = -1)))), m) := fun k hk h => by
    rw [j_X11_isKept_93, j_X11_isKept_98, if_pos zb1, kept_of hk h]
  have one : ∀ b : Bool, b = true → ¬ b01 b = 0 := fun b h => by rw [h]; exact nb1
  rw [f_X11_isKept, if_pos g.1.t]
  rw [m_isOdds g, zC1_s]
  by_cases c0 : isK T 0 = true
  · rw [if_neg (one _ c0)]; exact yes 0 (by decide) c0
  · rw [if_pos (b01_ne.mpr (bool_f c0)), if_pos g.1.t]
    rw [m_isWordWord g, zC1_s]
    by_cases c1 : isK T 1 = true
    · rw [if_neg (one _ c1)]; exact yes 1 (by decide) c1
    · rw [if_pos (b01_ne.mpr (bool_f c1)), if_pos g.1.t]
      rw [m_isLine g, zC1_s]
      by_cases c2 : isK T 2 = true
      · rw [if_neg (one _ c2)]; exact yes 2 (by decide) c2
      · rw [if_pos (b01_ne.mpr (bool_f c2)), if_pos g.1.t]
        rw [m_isRead g, zC1_s]
        by_cases c4 : isK T 4 = true
        · rw [if_neg (one _ c4)]; exact yes 4 (by decide) c4
        · rw [if_pos (b01_ne.mpr (bool_f c4)), if_pos g.1.t]
          rw [m_isPassim g, zC1_s]
          by_cases c5 : isK T 5 = true
          · rw [if_neg (one _ c5)]; exact yes 5 (by decide) c5
          · rw [if_pos (b01_ne.mpr (bool_f c5)), if_pos g.1.t]
            rw [m_isInsert g, zC1_s]
            by_cases c8 : isK T 8 = true
            · rw [if_neg (one _ c8)]; exact yes 8 (by decide) c8
            · rw [if_pos (b01_ne.mpr (bool_f c8)), if_pos g.1.t]
              rw [m_isPerson g, zC1_s]
              by_cases c9 : isK T 9 = true
              · rw [if_neg (one _ c9)]; exact yes 9 (by decide) c9
              · rw [if_pos (b01_ne.mpr (bool_f c9)), if_pos g.1.t]
                rw [m_isAt g, zC1_s]
                by_cases c10 : isK T 10 = true
                · rw [if_neg (one _ c10)]; exact yes 10 (by decide) c10
                · rw [if_pos (b01_ne.mpr (bool_f c10)), if_pos g.1.t]
                  rw [m_isSays g, zC1_s]
                  by_cases c11 : isK T 11 = true
                  · rw [if_neg (one _ c11)]; exact yes 11 (by decide) c11
                  · rw [if_pos (b01_ne.mpr (bool_f c11))]
                    rw [j_X11_isKept_65, if_pos g.1.t, m_editWord g, zC1_s]
                    by_cases e1 : edW0 T < 0
                    · rw [if_pos e1, if_pos g.1.t, m_stepWord g, zC1_s]
                      by_cases e2 : stW T < 0
                      · rw [if_pos e2, if_pos g.1.t, m_testWord g, zC1_s]
                        by_cases e3 : teW T < 0
                        · rw [if_pos e3, if_pos g.1.t, m_isEnd g, zC1_s]
                          by_cases c22 : isK T 22 = true
                          · rw [if_neg (one _ c22)]; exact yes2 22 (by decide) c22
                          · have hn : kwI T.2.2.2.1 = -1 := kw_none.mpr (fun k hk w => by
                              have hk2 : isK T k = true := decide_eq_true w
                              obtain ⟨a3, a6, a7⟩ := edW0_lt.mp e1
                              obtain ⟨a12, a13, a14, a15, a16, a17, a21, a23⟩ := stW_lt.mp e2
                              obtain ⟨a18, a20, a19⟩ := teW_lt.mp e3
                              have key : ∀ k : Fin 24, isK T k.val = true → False := by
                                intro ⟨k, hk⟩ w
                                have w' : isK T k = true := w
                                rcases k with _ | _ | _ | _ | _ | _ | _ | _ | _ | _ | _ | _ | _ | _ | _ | _ | _ | _ | _ | _ | _ | _ | _ | _ | k
                                · exact c0 w'
                                · exact c1 w'
                                · exact c2 w'
                                · rw [a3] at w'; cases w'
                                · exact c4 w'
                                · exact c5 w'
                                · rw [a6] at w'; cases w'
                                · rw [a7] at w'; cases w'
                                · exact c8 w'
                                · exact c9 w'
                                · exact c10 w'
                                · exact c11 w'
                                · rw [a12] at w'; cases w'
                                · rw [a13] at w'; cases w'
                                · rw [a14] at w'; cases w'
                                · rw [a15] at w'; cases w'
                                · rw [a16] at w'; cases w'
                                · rw [a17] at w'; cases w'
                                · rw [a18] at w'; cases w'
                                · rw [a19] at w'; cases w'
                                · rw [a20] at w'; cases w'
                                · rw [a21] at w'; cases w'
                                · exact c22 w'
                                · rw [a23] at w'; cases w'
                                · omega
                              exact key ⟨k, hk⟩ hk2)
                            rw [if_pos (b01_ne.mpr (bool_f c22)), j_X11_isKept_97, j_X11_isKept_98, if_pos zb0, decide_eq_true hn]; rfl
                        · obtain ⟨k, hk, h⟩ := teW_ge e3
                          rw [if_neg e3]; exact yes2 k hk h
                      · obtain ⟨k, hk, h⟩ := stW_ge e2
                        rw [if_neg e2]; exact yes2 k hk h
                    · rw [if_neg e1]
                      rcases edW0_ge e1 with h | h | h
                      · exact yes2 3 (by decide) h
                      · exact yes2 6 (by decide) h
                      · exact yes2 7 (by decide) h
theorem m_isName (g : GdM m f n T) : zF zP 277 v [(.inr (.inr (some 0)))] m = some (some (.inl (b01 (isNm T))), m) := by
  rw [f_X11_isName, if_pos g.1.t, g.2.1.1]
  unfold isNm
  by_cases h : T.1 = 2
  · obtain ⟨q1, q2⟩ := g.2.1.2.2.2.1 h
    rw [if_pos (kdM_2.mpr h), if_pos g.1.t, decide_eq_true h, Bool.true_and]
    by_cases c : T.2.2.2.1 = 0
    · rw [if_pos (q2.mpr c), j_X11_isName_28, j_X11_isName_29, if_pos zb0, decide_eq_true c]; rfl
    · rw [if_neg (fun w => c (q2.mp w)), if_pos g.1.t, m_isKept g, zC1_s, decide_eq_false c]
      by_cases k : kwI T.2.2.2.1 = -1
      · rw [decide_eq_true k, if_pos (show b01 (!true) = 0 from rfl), j_X11_isName_29, if_pos zb1]; rfl
      · rw [decide_eq_false k, if_neg (show ¬ b01 (!false) = 0 by decide), j_X11_isName_28, j_X11_isName_29, if_pos zb0]; rfl
  · rw [if_neg (fun w => h (kdM_2.mp w)), j_X11_isName_28, j_X11_isName_29, if_pos zb0, decide_eq_false h]; rfl
end READM
