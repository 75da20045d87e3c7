/-! GAME and MOVE of the reference: its plays. -/
theorem fmF_ne (g : Nat → Int) (best : Int) : ∀ (n k : Nat) {N : Nat}, k + n ≤ N → ¬ fmF g best n k = (N : Int)
  | 0, k, N, h => by
    show ¬ (-1 : Int) = (N : Int)
    omega
  | n + 1, k, N, h => by
    unfold fmF
    by_cases c : g k = best
    · rw [if_pos c]; omega
    · rw [if_neg c]; exact fmF_ne g best n (k + 1) (by omega)
section GAMEP
variable {v : Nat} {S : zSt} {m m' : zM}
theorem b01_d1 {f : Bool} (h : f = true) : ¬ b01 f = 0 := by rw [h]; decide
/-- what is done with what a try gave -/
theorem m_try {f : Bool} {b w x : Int} {k : Nat} {x1 x2 x3 x4 x5 x6 x11 d s1 s2 s3 s4 s5 : Int} {u12 : Option zV} {m1 m2 : zM} (hk : k < 5) (hS : zT m1 0 7 = true) (hf : zF zP 388 v [(.inr (.inr (some 0))), .inl s5, .inl s4, .inl s3, .inl s2, .inl s1, .inl d] m1 = some (some (.inl x), m2)) :
    zX zP 388 (v + 1) 150 [some ((.inr (.inr (some 0)))), some (.inl x1), some (.inl x2), some (.inl x3), some (.inl x4), some (.inl x5), some (.inl x6), some (.inl (b01 f)), some (.inl b), some (.inl w), some (.inl (k : Int)), some (.inl x11), u12] [.inl d, .inl s1, .inl s2, .inl s3, .inl s4, .inl s5, (.inr (.inr (some 0)))] m1
      = zX zP 388 (v + 1) 43 [some ((.inr (.inr (some 0)))), some (.inl x1), some (.inl x2), some (.inl x3), some (.inl x4), some (.inl x5), some (.inl x6), some (.inl (b01 f)), some (.inl (mS f (b, w) x k).1), some (.inl (mS f (b, w) x k).2), some (.inl ((k + 1 : Nat) : Int)), some (.inl x11), some (.inl x)] [] m2 := by
  have e1 : zadd (k : Int) 1 = ((k + 1 : Nat) : Int) := zadd_nat (k := 1) (by omega)
  rw [j_X11_plays_150, if_pos hS, hf, zC1_s]
  unfold mS
  by_cases c : w < 0
  · rw [if_pos c, j_X11_plays_185, j_X11_plays_193, e1, if_pos (show (b, w).2 < 0 from c)]
  · rw [if_neg c, if_neg (show ¬ (b, w).2 < 0 from c)]
    cases f
    · rw [if_pos (show b01 false = 0 from rfl), j_X11_plays_175]
      by_cases c2 : x < b
      · rw [if_pos c2, j_X11_plays_185, j_X11_plays_193, e1, if_pos (show bt false (b, w).1 x = true from (bt_f b x).mpr c2)]
      · rw [if_neg c2, j_X11_plays_193, e1, if_neg (show ¬ bt false (b, w).1 x = true from fun q => c2 ((bt_f b x).mp q))]
    · rw [if_neg (show ¬ b01 true = 0 by decide)]
      by_cases c2 : b < x
      · rw [if_pos c2, j_X11_plays_185, j_X11_plays_193, e1, if_pos (show bt true (b, w).1 x = true from (bt_t b x).mpr c2)]
      · rw [if_neg c2, j_X11_plays_193, e1, if_neg (show ¬ bt true (b, w).1 x = true from fun q => c2 ((bt_t b x).mp q))]
theorem m_plays {i : Nat} (hi : i < (gL S).2.1.length) {x y T : Nat} (hT : T ≤ 4) (hne : x ≠ y) : ∀ (n t u : Nat) (r : List Nat) (m1 : zM), t + n = T → R2 S m1 → TnV m1 t r → u < 2 ^ ((gL S).2.1.getD i ln0).2.2.length → rOk r →
    ∃ m', zF zP 388 (v + n) [(.inr (.inr (some 0))), .inl (i : Int), .inl (x : Int), .inl (y : Int), .inl (t : Int), .inl (T : Int), .inl (u : Int)] m1 = some (some (.inl (gv ((gL S).2.1.getD i ln0).2.2 x y n (decide (t % 2 = 0)) u r)), m') ∧ Fr (glP t) m1 m' ∧
      (t = 0 → 0 < n → zi m' 0 39 = (mS true (mB true u (fun e => gv ((gL S).2.1.getD i ln0).2.2 x y (n - 1) false (u ||| 2 ^ e) (eStep ((gL S).2.1.getD i ln0).2.2 e r)) ((gL S).2.1.getD i ln0).2.2.length 0 (0, -1)) (gv ((gL S).2.1.getD i ln0).2.2 x y (n - 1) false u r) ((gL S).2.1.getD i ln0).2.2.length).2) := by
  intro n
  induction n with
  | zero =>
    intro t u r m1 hn hR ht hu hr
    obtain ⟨m2, f1, f2, f3⟩ := m_takesTurn (v := 0) hR (t := t) (by omega) hr.1 ht
    have hR2 := hR.fr (rowP_scr f2)
    refine ⟨m2, ?_, rowP_gl f2, fun _ h => absurd h (Nat.lt_irrefl 0)⟩
    rw [f_X11_plays, if_pos hR.1.1, f1, zC0_s, if_pos (by omega), if_pos hR2.1.1, m_score hR2 f3 hne, zC1_s]; rfl
  | succ n ih =>
    intro t u r m1 hn hR ht hu hr
    have h8 := hR.l8
    have h4 := (hR.em hi).2.1
    have hE := (hR.em (i := i) hi).2.2
    have hu16 := pw16 h4 hu
    have e13 : ∀ _ : Unit, zadd 13 (i : Int) = ((13 + i : Nat) : Int) := fun _ => zadd_nat (n := 13) (by omega)
    have et : ∀ _ : Unit, zadd (t : Int) 1 = ((t + 1 : Nat) : Int) := fun _ => zadd_nat (k := 1) (by omega)
    have htT : t < T := by omega
    -- one try: a turn is taken, the row made, laid, played on
    have loop : ∀ (f : Bool), f = decide (t % 2 = 0) → ∀ (j k : Nat) (q : Int × Int) (u11 u12 : Option zV) (m2 : zM), k + j = ((gL S).2.1.getD i ln0).2.2.length → Fr (glP t) m1 m2 →
        ∃ m' u11' u12', zX zP 388 (v + n + 1) 43 [some ((.inr (.inr (some 0)))), some (.inl (i : Int)), some (.inl (x : Int)), some (.inl (y : Int)), some (.inl (t : Int)), some (.inl (T : Int)), some (.inl (u : Int)), some (.inl (b01 f)), some (.inl q.1), some (.inl q.2), some (.inl (k : Int)), u11, u12] [] m2
          = zX zP 388 (v + n + 1) 43 [some ((.inr (.inr (some 0)))), some (.inl (i : Int)), some (.inl (x : Int)), some (.inl (y : Int)), some (.inl (t : Int)), some (.inl (T : Int)), some (.inl (u : Int)), some (.inl (b01 f)), some (.inl (mB f u (fun e => gv ((gL S).2.1.getD i ln0).2.2 x y n (!f) (u ||| 2 ^ e) (eStep ((gL S).2.1.getD i ln0).2.2 e r)) j k q).1), some (.inl (mB f u (fun e => gv ((gL S).2.1.getD i ln0).2.2 x y n (!f) (u ||| 2 ^ e) (eStep ((gL S).2.1.getD i ln0).2.2 e r)) j k q).2), some (.inl (((gL S).2.1.getD i ln0).2.2.length : Int)), u11', u12'] [] m' ∧ Fr (glP t) m1 m' := by
      intro f hf j
      induction j with
      | zero =>
        intro k q u11 u12 m2 hk hF
        have ek : k = ((gL S).2.1.getD i ln0).2.2.length := by omega
        exact ⟨m2, u11, u12, by rw [← ek]; rfl, hF⟩
      | succ j ihj =>
        intro k q u11 u12 m2 hk hF
        have hR2 := hR.fr (glP_scr hF)
        have b := sf3 u hu16 k (by omega)
        have hk4 : k < 4 := by omega
        have hkl : k < ((gL S).2.1.getD i ln0).2.2.length := by omega
        have n1 : ¬ (((gL S).2.1.getD i ln0).2.2.length : Int) < (k : Int) := by omega
        have n2 : ¬ (k : Int) = (((gL S).2.1.getD i ln0).2.2.length : Int) := by omega
        have z1 : ∀ _ : Unit, zadd (k : Int) 1 = ((k + 1 : Nat) : Int) := fun _ => zadd_nat (k := 1) (by omega)
        have hA : zA m2 5 9 ((13 + i : Nat) : Int) = true := cA hR2.1 (by omega)
        have hh : hasI (u : Int) (k : Int) = u.testBit k := by
          unfold hasI
          rw [b]
          cases u.testBit k <;> rfl
        unfold mB
        by_cases c : u.testBit k = true
        · obtain ⟨m', u11', u12', g1, g2⟩ := ihj (k + 1) q (some (.inl 0)) u12 m2 (by omega) hF
          refine ⟨m', u11', u12', ?_, g2⟩
          rw [j_X11_plays_43, if_pos hR2.1.1, hR2.1.2.1.2.1.1, obind, e13 (), if_pos hA, Int.toNat_natCast, (hR2.em hi).1, if_neg n1, if_pos hR2.1.1, obind, if_pos hA, (hR2.em hi).1, if_neg n2, j_X11_plays_75, j_X11_plays_76, if_pos rfl, m_has, zC1_s, hh, if_neg (b01_d1 c), j_X11_plays_193, z1 (), if_pos c]
          exact g1
        · obtain ⟨d1, d2, d3, d4⟩ := sf1 _ (by omega) u hu16 hu k hk4 hkl (bool_f c)
          have ht2 : TnV m2 t r := TnV.fr hF hr.1 ht
          obtain ⟨m3, f1, f2, f3⟩ := m_takesTurn (v := 0) hR2 (t := t) (by omega) hr.1 ht2
          have hR3 := hR2.fr (rowP_scr f2)
          obtain ⟨m4, k1, k2, k3, k4⟩ := m_editR (v := 0) hR3 hi hkl f3 hr
          have hR4 := hR3.fr (rowP_scr k2)
          obtain ⟨m5, l1, l2, l3⟩ := m_laysTurn (v := 0) hR4 (t := t + 1) (by omega) k3
          have hR5 := hR4.fr (tnP_scr l2)
          obtain ⟨m6, p1, p2, p3⟩ := ih (t + 1) (u ||| 2 ^ k) (eStep ((gL S).2.1.getD i ln0).2.2 k r) m5 (by omega) hR5 l3 d1 (eStep_ok hE k hr)
          rw [flip2, ← hf] at p1
          have hF6 : Fr (glP t) m1 m6 := (((hF.tr (rowP_gl f2)).tr (rowP_gl k2)).tr (tnP_gl l2)).tr (glP_gl p2)
          have hm := m_try (v := v + n) (f := f) (b := q.1) (w := q.2) (k := k) (x1 := (i : Int)) (x2 := (x : Int)) (x3 := (y : Int)) (x4 := (t : Int)) (x5 := (T : Int)) (x6 := (u : Int)) (x11 := 0) (u12 := u12) (by omega) hR5.1.1 p1
          obtain ⟨m', u11', u12', g1, g2⟩ := ihj (k + 1) (mS f q (gv ((gL S).2.1.getD i ln0).2.2 x y n (!f) (u ||| 2 ^ k) (eStep ((gL S).2.1.getD i ln0).2.2 k r)) k) (some (.inl 0)) (some (.inl (gv ((gL S).2.1.getD i ln0).2.2 x y n (!f) (u ||| 2 ^ k) (eStep ((gL S).2.1.getD i ln0).2.2 k r)))) m6 (by omega) hF6
          refine ⟨m', u11', u12', ?_, g2⟩
          rw [j_X11_plays_43, if_pos hR2.1.1, hR2.1.2.1.2.1.1, obind, e13 (), if_pos hA, Int.toNat_natCast, (hR2.em hi).1, if_neg n1, if_pos hR2.1.1, obind, if_pos hA, (hR2.em hi).1, if_neg n2, j_X11_plays_75, j_X11_plays_76, if_pos rfl, m_has, zC1_s, hh, bool_f c, if_pos (show b01 false = 0 from rfl), j_X11_plays_96, if_pos hR2.1.1, f1, zC0_s, if_pos rfl, if_pos hR3.1.1, k1, zC1_s, j_X11_plays_115, if_pos hR4.1.1, et (), l1, zC0_s, if_pos rfl, j_X11_plays_143, d3]
          refine hm.trans ?_
          exact g1
    obtain ⟨m2, f1, f2, f3⟩ := m_takesTurn (v := 0) hR (t := t) (by omega) hr.1 ht
    have hR2 := hR.fr (rowP_scr f2)
    obtain ⟨m3, u11', u12', g1, g2⟩ := loop (decide (t % 2 = 0)) rfl ((gL S).2.1.getD i ln0).2.2.length 0 (0, -1) none none m2 (Nat.zero_add _) (rowP_gl f2)
    have hR3 := hR.fr (glP_scr g2)
    have ht3 : TnV m3 t r := TnV.fr g2 hr.1 ht
    obtain ⟨m4, k1, k2, k3⟩ := m_takesTurn (v := 0) hR3 (t := t) (by omega) hr.1 ht3
    have hR4 := hR3.fr (rowP_scr k2)
    obtain ⟨m5, l1, l2, l3⟩ := m_laysTurn (v := 0) hR4 (t := t + 1) (by omega) k3
    have hR5 := hR4.fr (tnP_scr l2)
    obtain ⟨m6, p1, p2, p3⟩ := ih (t + 1) u r m5 (by omega) hR5 l3 hu hr
    rw [flip2] at p1
    have hF6 : Fr (glP t) m1 m6 := ((g2.tr (rowP_gl k2)).tr (tnP_gl l2)).tr (glP_gl p2)
    have hR6 := hR.fr (glP_scr hF6)
    have hm := m_try (v := v + n) (f := decide (t % 2 = 0)) (b := (mB (decide (t % 2 = 0)) u (fun e => gv ((gL S).2.1.getD i ln0).2.2 x y n (!decide (t % 2 = 0)) (u ||| 2 ^ e) (eStep ((gL S).2.1.getD i ln0).2.2 e r)) ((gL S).2.1.getD i ln0).2.2.length 0 (0, -1)).1) (w := (mB (decide (t % 2 = 0)) u (fun e => gv ((gL S).2.1.getD i ln0).2.2 x y n (!decide (t % 2 = 0)) (u ||| 2 ^ e) (eStep ((gL S).2.1.getD i ln0).2.2 e r)) ((gL S).2.1.getD i ln0).2.2.length 0 (0, -1)).2) (k := ((gL S).2.1.getD i ln0).2.2.length) (x1 := (i : Int)) (x2 := (x : Int)) (x3 := (y : Int)) (x4 := (t : Int)) (x5 := (T : Int)) (x6 := (u : Int)) (x11 := 1) (u12 := u12') (by omega) hR5.1.1 p1
    have hb := mS_best (decide (t % 2 = 0)) u (fun e => gv ((gL S).2.1.getD i ln0).2.2 x y n (!decide (t % 2 = 0)) (u ||| 2 ^ e) (eStep ((gL S).2.1.getD i ln0).2.2 e r)) (gv ((gL S).2.1.getD i ln0).2.2 x y n (!decide (t % 2 = 0)) u r) ((gL S).2.1.getD i ln0).2.2.length
    have e0 : ((0 : Nat) : Int) = 0 := rfl
    rw [e0] at g1
    have hA3 : zA m3 5 9 ((13 + i : Nat) : Int) = true := cA hR3.1 (by omega)
    have hA6 : zA m6 5 9 ((13 + i : Nat) : Int) = true := cA hR6.1 (by omega)
    have n1 : ¬ (((gL S).2.1.getD i ln0).2.2.length : Int) < (((gL S).2.1.getD i ln0).2.2.length : Int) := Int.lt_irrefl _
    have n3 : (((gL S).2.1.getD i ln0).2.2.length : Int) < ((((gL S).2.1.getD i ln0).2.2.length + 1 : Nat) : Int) := by omega
    have hgv : gv ((gL S).2.1.getD i ln0).2.2 x y (n + 1) (decide (t % 2 = 0)) u r = cB (decide (t % 2 = 0)) u (fun e => gv ((gL S).2.1.getD i ln0).2.2 x y n (!decide (t % 2 = 0)) (u ||| 2 ^ e) (eStep ((gL S).2.1.getD i ln0).2.2 e r)) ((gL S).2.1.getD i ln0).2.2.length 0 (gv ((gL S).2.1.getD i ln0).2.2 x y n (!decide (t % 2 = 0)) u r) := rfl
    have main : zX zP 388 (v + n + 1) 43 [some ((.inr (.inr (some 0)))), some (.inl (i : Int)), some (.inl (x : Int)), some (.inl (y : Int)), some (.inl (t : Int)), some (.inl (T : Int)), some (.inl (u : Int)), some (.inl (b01 (decide (t % 2 = 0)))), some (.inl 0), some (.inl (-1)), some (.inl 0), none, none] [] m2
        = some (some (.inl (gv ((gL S).2.1.getD i ln0).2.2 x y (n + 1) (decide (t % 2 = 0)) u r)), if (t : Int) = 0 then zwi m6 0 39 (mS (decide (t % 2 = 0)) (mB (decide (t % 2 = 0)) u (fun e => gv ((gL S).2.1.getD i ln0).2.2 x y n (!decide (t % 2 = 0)) (u ||| 2 ^ e) (eStep ((gL S).2.1.getD i ln0).2.2 e r)) ((gL S).2.1.getD i ln0).2.2.length 0 (0, -1)) (gv ((gL S).2.1.getD i ln0).2.2 x y n (!decide (t % 2 = 0)) u r) ((gL S).2.1.getD i ln0).2.2.length).2 else m6) := by
      refine g1.trans ?_
      rw [j_X11_plays_43, if_pos hR3.1.1, hR3.1.2.1.2.1.1, obind, e13 (), if_pos hA3, Int.toNat_natCast, (hR3.em hi).1, if_neg n1, if_pos hR3.1.1, obind, if_pos hA3, (hR3.em hi).1, if_pos rfl, j_X11_plays_76, if_neg (by decide), j_X11_plays_96, if_pos hR3.1.1, k1, zC0_s, if_neg (by decide), j_X11_plays_115, if_pos hR4.1.1, et (), l1, zC0_s, if_neg (by decide)]
      refine hm.trans ?_
      rw [j_X11_plays_43, if_pos hR6.1.1, hR6.1.2.1.2.1.1, obind, e13 (), if_pos hA6, Int.toNat_natCast, (hR6.em hi).1, if_pos n3, j_X11_plays_199, hgv, ← hb]
      by_cases c : (t : Int) = 0
      · rw [if_pos c, if_pos c, if_pos hR6.1.1, j_X11_plays_210]
      · rw [if_neg c, if_neg c, j_X11_plays_210]
    refine ⟨if (t : Int) = 0 then zwi m6 0 39 (mS (decide (t % 2 = 0)) (mB (decide (t % 2 = 0)) u (fun e => gv ((gL S).2.1.getD i ln0).2.2 x y n (!decide (t % 2 = 0)) (u ||| 2 ^ e) (eStep ((gL S).2.1.getD i ln0).2.2 e r)) ((gL S).2.1.getD i ln0).2.2.length 0 (0, -1)) (gv ((gL S).2.1.getD i ln0).2.2 x y n (!decide (t % 2 = 0)) u r) ((gL S).2.1.getD i ln0).2.2.length).2 else m6, ?_, ?_, ?_⟩
    · rw [f_X11_plays, if_pos hR.1.1, f1, zC0_s, if_neg (show ¬ (t : Int) = (T : Int) by omega), j_X11_plays_20, if_neg (by decide), zrem2]
      by_cases f : t % 2 = 0
      · rw [if_pos (by omega), j_X11_plays_32]
        rw [decide_eq_true f] at main ⊢
        exact main
      · rw [if_neg (by omega), j_X11_plays_31, j_X11_plays_32]
        rw [decide_eq_false f] at main ⊢
        exact main
    · by_cases c : (t : Int) = 0
      · rw [if_pos c]
        exact hF6.tr (Fr.wi m6 _ (Or.inl ⟨rfl, Or.inr rfl⟩))
      · rw [if_neg c]; exact hF6
    · intro h0 _
      subst h0
      rw [if_pos (show ((0 : Nat) : Int) = 0 from rfl), zi_wi_s]; rfl
theorem m_whyNoGame (hR : R2 S m) (t n x a b T lo : Int) : zF zP 389 v [(.inr (.inr (some 0))), .inl t, .inl n, .inl x, .inl a, .inl b, .inl T, .inl lo] m = some (some (.inl (yGm S t n x a b T lo)), m) := by
  have hS := hR.1
  have tail : ∀ told : Bool, told = (inB x (gL S).2.1.length && (inB a (gL S).1.length && inB b (gL S).1.length)) → zX zP 389 v 36 [some ((.inr (.inr (some 0)))), some (.inl t), some (.inl n), some (.inl x), some (.inl a), some (.inl b), some (.inl T), some (.inl lo), none] [.inl (b01 told), .inl n, .inl t, (.inr (.inr (some 0)))] m = some (some (.inl (yGm S t n x a b T lo)), m) := by
    intro told e
    have hg := yRw_ge S t n told
    rw [j_X11_whyNoGame_36, if_pos hS.1, m_whyNoRow hR, zC1_s]
    unfold yGm
    rw [← e]
    by_cases h : yRw S t n told = 0
    · rw [if_pos h, if_neg (by omega), j_X11_whyNoGame_51]
      by_cases c1 : a = b
      · rw [if_pos c1, if_pos c1, j_X11_whyNoGame_77, j_X11_whyNoGame_78]
      · rw [if_neg c1, if_neg c1, m_isIn, zC1_s]
        by_cases c2 : T < lo
        · rw [if_pos c2, if_pos (b01_ne.mpr (bool_f (fun q => by have := inR_t.mp q; omega))), j_X11_whyNoGame_77, j_X11_whyNoGame_78]
        · rw [if_neg c2]
          by_cases c3 : 4 < T
          · rw [if_pos c3, if_pos (b01_ne.mpr (bool_f (fun q => by have := inR_t.mp q; omega))), j_X11_whyNoGame_77, j_X11_whyNoGame_78]
          · rw [if_neg c3, if_neg (b01_d1 (inR_t.mpr (by omega))), j_X11_whyNoGame_78]
    · rw [if_neg h, if_pos (by omega), j_X11_whyNoGame_78]
  rw [f_X11_whyNoGame, if_pos hS.1, m_isLineAt hR, zC1_s]
  by_cases h1 : inB x (gL S).2.1.length = true
  · rw [h1] at tail ⊢
    rw [if_neg (by decide), if_pos hS.1, m_isWordAt hR, zC1_s]
    by_cases h2 : inB a (gL S).1.length = true
    · rw [h2] at tail ⊢
      rw [if_neg (by decide), if_pos hS.1, m_isWordAt hR, zC1_s]
      by_cases h3 : inB b (gL S).1.length = true
      · rw [h3] at tail ⊢
        rw [if_neg (by decide)]
        exact tail true rfl
      · rw [bool_f h3] at tail ⊢
        rw [if_pos (show b01 false = 0 from rfl), j_X11_whyNoGame_35]
        exact tail false rfl
    · rw [bool_f h2] at tail ⊢
      rw [if_pos (show b01 false = 0 from rfl), j_X11_whyNoGame_35]
      exact tail false rfl
  · rw [bool_f h1] at tail ⊢
    rw [if_pos (show b01 false = 0 from rfl), j_X11_whyNoGame_35]
    exact tail false rfl
theorem yGm_ge (t n x a b T lo : Int) : 0 ≤ yGm S t n x a b T lo := by
  have hg := yRw_ge S t n (inB x (gL S).2.1.length && (inB a (gL S).1.length && inB b (gL S).1.length))
  unfold yGm
  repeat' split
  all_goals omega
theorem m_starts (h0 : R2 (wSt S 0) m) {t n : Int} {i a b T : Nat} (hi : i < (gL S).2.1.length) (hT : T ≤ 4) (hne : a ≠ b) {told : Bool} (h : yRw S t n told = 0) :
    ∃ m1 m2 m', zF zP 338 0 [(.inr (.inr (some 0))), .inl t, .inl n] m = some (none, m1) ∧ zT m1 0 7 = true ∧ zF zP 385 0 [(.inr (.inr (some 0))), .inl 0] m1 = some (none, m2) ∧ zT m2 0 7 = true ∧
      zF zP 388 6 [(.inr (.inr (some 0))), .inl (i : Int), .inl (a : Int), .inl (b : Int), .inl 0, .inl (T : Int), .inl 0] m2 = some (some (.inl (gv ((gL S).2.1.getD i ln0).2.2 a b T true 0 (yRow S t n))), m') ∧ R2 (wSt S 0) m' ∧
      (0 < T → zi m' 0 39 = if gmv ((gL S).2.1.getD i ln0).2.2 a b T (yRow S t n) = -1 then (((gL S).2.1.getD i ln0).2.2.length : Int) else gmv ((gL S).2.1.getD i ln0).2.2 a b T (yRow S t n)) := by
  have h' : yRw (wSt S 0) t n told = 0 := h
  have hok := yRow_ok h0.w16 h'
  obtain ⟨m1, f1, f2, f3⟩ := m_takesRow (v := 0) h0 h'
  have h2 := h0.fr (rowP_scr f2)
  obtain ⟨m2, g1, g2, g3⟩ := m_laysTurn (v := 0) h2 (t := 0) (by omega) f3
  have h3 := h2.fr (tnP_scr g2)
  obtain ⟨m', k1, k2, k3⟩ := m_plays (v := 6 - T) (S := wSt S 0) (i := i) hi (x := a) (y := b) (T := T) hT hne T 0 0 (yRow (wSt S 0) t n) m2 (Nat.zero_add _) h3 g3 (Nat.two_pow_pos _) hok
  rw [show 6 - T + T = 6 by omega] at k1
  refine ⟨m1, m2, m', f1, h2.1.1, g1, h3.1.1, k1, h3.fr (glP_scr k2), fun hpos => ?_⟩
  obtain ⟨T', rfl⟩ : ∃ T', T = T' + 1 := ⟨T - 1, by omega⟩
  have q := k3 rfl hpos
  have ix := mS_ix true (fun e => gv ((gL S).2.1.getD i ln0).2.2 a b T' false (0 ||| 2 ^ e) (eStep ((gL S).2.1.getD i ln0).2.2 e (yRow S t n))) (gv ((gL S).2.1.getD i ln0).2.2 a b T' false 0 (yRow S t n)) ((gL S).2.1.getD i ln0).2.2.length
  have q2 := q.trans ix
  have e : (fun e => gv ((gL S).2.1.getD i ln0).2.2 a b T' false (0 ||| 2 ^ e) (eStep ((gL S).2.1.getD i ln0).2.2 e (yRow S t n))) = (fun e => gv ((gL S).2.1.getD i ln0).2.2 a b T' false (2 ^ e) (eStep ((gL S).2.1.getD i ln0).2.2 e (yRow S t n))) := by
    funext e
    rw [Nat.zero_or]
  have hg : gmv ((gL S).2.1.getD i ln0).2.2 a b (T' + 1) (yRow S t n) = fmF (fun e => gv ((gL S).2.1.getD i ln0).2.2 a b T' false (0 ||| 2 ^ e) (eStep ((gL S).2.1.getD i ln0).2.2 e (yRow S t n))) (cB true 0 (fun e => gv ((gL S).2.1.getD i ln0).2.2 a b T' false (0 ||| 2 ^ e) (eStep ((gL S).2.1.getD i ln0).2.2 e (yRow S t n))) ((gL S).2.1.getD i ln0).2.2.length 0 (gv ((gL S).2.1.getD i ln0).2.2 a b T' false 0 (yRow S t n))) ((gL S).2.1.getD i ln0).2.2.length 0 := by
    have hd : gmv ((gL S).2.1.getD i ln0).2.2 a b (T' + 1) (yRow S t n) = fmF (fun e => gv ((gL S).2.1.getD i ln0).2.2 a b T' false (2 ^ e) (eStep ((gL S).2.1.getD i ln0).2.2 e (yRow S t n))) (cB true 0 (fun e => gv ((gL S).2.1.getD i ln0).2.2 a b T' false (0 ||| 2 ^ e) (eStep ((gL S).2.1.getD i ln0).2.2 e (yRow S t n))) ((gL S).2.1.getD i ln0).2.2.length 0 (gv ((gL S).2.1.getD i ln0).2.2 a b T' false 0 (yRow S t n))) ((gL S).2.1.getD i ln0).2.2.length 0 := rfl
    rw [hd]
    exact congrArg (fun g => fmF g _ _ _) e.symm
  rw [hg]
  exact q2
theorem w_game (hR : R2 S m) (t n x a b T : Int) : Ex2 (zF zP 390 v [(.inr (.inr (some 0))), .inl t, .inl n, .inl x, .inl a, .inl b, .inl T] m) (o_game S t n x a b T) := by
  have h1 := hR.th (x := 0)
  unfold o_game
  rw [f_X11_game, if_pos hR.1.1, zT_wi, if_pos hR.1.1, m_whyNoGame h1, zC1_s, zT_wi, if_pos hR.1.1, zT_wi, zT_wi, if_pos hR.1.1, zi_wi_s]
  by_cases h : yGm S t n x a b T 0 = 0
  · have h0 := hR.pre
    obtain ⟨hr, i, a', b', T', rfl, hi, rfl, rfl, rfl, hT, hlo, hne⟩ := yGm0 h (by omega)
    rw [if_neg (by rw [h]; decide), if_pos h, h]
    generalize zwi (zwi m 0 1 0) 0 0 0 = m0 at h0 ⊢
    obtain ⟨m1, m2, m', f1, f2, f3, f4, f5, f6, f7⟩ := m_starts h0 hi hT hne hr
    rw [j_X11_game_32, if_pos h0.1.1, f1, zC0_s, if_pos f2, f3, zC0_s, if_pos f4, f5, zC1_s, Int.toNat_natCast, Int.toNat_natCast, Int.toNat_natCast, Int.toNat_natCast]
    exact ⟨m', rfl, f6⟩
  · have hg := yGm_ge (S := S) t n x a b T 0
    rw [if_pos (show 0 < yGm S t n x a b T 0 by omega), if_neg h]
    exact ⟨_, rfl, (x2_st0 hR).1⟩
theorem w_moveOf (hR : R2 S m) (t n x a b T : Int) : Ex2 (zF zP 391 v [(.inr (.inr (some 0))), .inl t, .inl n, .inl x, .inl a, .inl b, .inl T] m) (o_moveOf S t n x a b T) := by
  have h1 := hR.th (x := 0)
  unfold o_moveOf
  rw [f_X11_moveOf, if_pos hR.1.1, zT_wi, if_pos hR.1.1, m_whyNoGame h1, zC1_s, zT_wi, if_pos hR.1.1, zT_wi, zT_wi, if_pos hR.1.1, zi_wi_s]
  by_cases h : yGm S t n x a b T 1 = 0
  · have h0 := hR.pre
    have h8 := hR.l8
    obtain ⟨hr, i, a', b', T', rfl, hi, rfl, rfl, rfl, hT, hlo, hne⟩ := yGm0 h (by omega)
    rw [if_neg (by rw [h]; decide), if_pos h, h]
    generalize zwi (zwi m 0 1 0) 0 0 0 = m0 at h0 ⊢
    obtain ⟨m1, m2, m', f1, f2, f3, f4, f5, f6, f7⟩ := m_starts h0 hi hT hne hr
    have f8 := f7 (by omega)
    have e13 : ∀ _ : Unit, zadd 13 (i : Int) = ((13 + i : Nat) : Int) := fun _ => zadd_nat (n := 13) (by omega)
    have em : zi m' 5 (13 + i) = (((gL S).2.1.getD i ln0).2.2.length : Int) := (f6.em (i := i) hi).1
    rw [j_X11_moveOf_32, if_pos h0.1.1, f1, zC0_s, if_pos f2, f3, zC0_s, if_pos f4, f5, zC1_s, if_pos f6.1.1, if_pos f6.1.1, f6.1.2.1.2.1.1, obind, e13 (), if_pos (cA f6.1 (by omega)), Int.toNat_natCast, Int.toNat_natCast, Int.toNat_natCast, Int.toNat_natCast, Int.toNat_natCast, em, f8]
    by_cases c : gmv ((gL S).2.1.getD i ln0).2.2 a' b' T' (yRow S t n) = -1
    · rw [if_pos c, if_pos rfl, if_pos f6.1.1, m_refuse f6.1, zC1_s, j_X11_moveOf_86, if_pos c]
      exact x2_no f6
    · have hlt : ¬ gmv ((gL S).2.1.getD i ln0).2.2 a' b' T' (yRow S t n) = (((gL S).2.1.getD i ln0).2.2.length : Int) := fmF_ne _ _ _ _ (by omega)
      rw [if_neg c, if_neg hlt, j_X11_moveOf_82, if_pos f6.1.1, j_X11_moveOf_86, f8, if_neg c, if_neg c]
      exact x2_yes f6
  · have hg := yGm_ge (S := S) t n x a b T 1
    rw [if_pos (show 0 < yGm S t n x a b T 1 by omega), if_neg h]
    exact ⟨_, rfl, (x2_st0 hR).1⟩
end GAMEP
