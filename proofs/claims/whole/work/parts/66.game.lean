/-! GAME and MOVE of the class. -/
def scF (l : List Nat) (x y : Nat) : Int := zsub (cntF l x 0) (cntF l y 0)
/-- the one whose turn it is wants the second more -/
def bt (f : Bool) (a b : Int) : Bool := if f = true then decide (a < b) else decide (b < a)
def cB (f : Bool) (u : Nat) (g : Nat → Int) : Nat → Nat → Int → Int
  | 0, _, acc => acc
  | n + 1, k, acc => cB f u g n (k + 1) (if u.testBit k = true then acc else (if bt f acc (g k) = true then g k else acc))
def gv (es : List zEd) (x y : Nat) : Nat → Bool → Nat → List Nat → Int
  | 0, _, _, r => scF r x y
  | n + 1, f, u, r => cB f u (fun e => gv es x y n (!f) (u ||| 2 ^ e) (eStep es e r)) es.length 0 (gv es x y n (!f) u r)
def fmF (g : Nat → Int) (best : Int) : Nat → Nat → Int
  | 0, _ => -1
  | n + 1, k => if g k = best then (k : Int) else fmF g best n (k + 1)
def gmv (es : List zEd) (x y T : Nat) (r : List Nat) : Int := fmF (fun e => gv es x y (T - 1) false (2 ^ e) (eStep es e r)) (gv es x y T true 0 r) es.length 0
def yGm (S : zSt) (t n x a b T lo : Int) : Int :=
  if yRw S t n (inB x (gL S).2.1.length && (inB a (gL S).1.length && inB b (gL S).1.length)) = 0 then
    (if a = b then 5 else if T < lo then 5 else if 4 < T then 5 else 0)
  else yRw S t n (inB x (gL S).2.1.length && (inB a (gL S).1.length && inB b (gL S).1.length))
def o_game (S : zSt) (t n x a b T : Int) : Int × zSt :=
  if yGm S t n x a b T 0 = 0 then oYes S (gv ((gL S).2.1.getD x.toNat ln0).2.2 a.toNat b.toNat T.toNat true 0 (yRow S t n)) else oNo S (yGm S t n x a b T 0)
def o_moveOf (S : zSt) (t n x a b T : Int) : Int × zSt :=
  if yGm S t n x a b T 1 = 0 then
    (if gmv ((gL S).2.1.getD x.toNat ln0).2.2 a.toNat b.toNat T.toNat (yRow S t n) = -1 then oNo S 8 else oYes S (gmv ((gL S).2.1.getD x.toNat ln0).2.2 a.toNat b.toNat T.toNat (yRow S t n)))
  else oNo S (yGm S t n x a b T 1)
theorem flip2 (t : Nat) : decide ((t + 1) % 2 = 0) = !decide (t % 2 = 0) := by
  by_cases h : t % 2 = 0
  · rw [decide_eq_true h, decide_eq_false (by omega)]; rfl
  · rw [decide_eq_false h, decide_eq_true (by omega)]; rfl
theorem zrem2 (t : Nat) : zrem (t : Int) 2 = ((t % 2 : Nat) : Int) := rfl
theorem bt_max (a b : Int) : zmax a b = if bt true a b = true then b else a := by
  show (if a < b then b else a) = if decide (a < b) = true then b else a
  by_cases h : a < b
  · rw [if_pos h, if_pos (decide_eq_true h)]
  · rw [if_neg h, if_neg (fun q => h (of_decide_eq_true q))]
theorem bt_min (a b : Int) : zmin a b = if bt false a b = true then b else a := by
  show (if b < a then b else a) = if decide (b < a) = true then b else a
  by_cases h : b < a
  · rw [if_pos h, if_pos (decide_eq_true h)]
  · rw [if_neg h, if_neg (fun q => h (of_decide_eq_true q))]
section GAME
variable {v : Nat} {S : zSt} {m : zM}
theorem s_worth {a : Nat} {num : Int} {lost : Bool} {es : List zEd} (h : LnS m a) (hv : LnV m a num lost es) {x y T : Nat} (hT : T ≤ 4) : ∀ (n t u : Nat) (r : List Nat), t + n = T → u < 2 ^ es.length → rOk r →
    zF zP 94 (v + n) [(.inr (.inr (some a))), .inr (.inl (zrow r)), .inl (u : Int), .inl (t : Int), .inl (T : Int), .inl (x : Int), .inl (y : Int)] m = some (some (.inl (gv es x y n (decide (t % 2 = 0)) u r)), m) := by
  have h4 := hv.2.2.2.1
  have he := hv.2.2.2.2.1
  intro n
  induction n with
  | zero =>
    intro t u r hn hu hr
    rw [f_X4_worth, if_neg (by omega), j_X4_worth_13, s_howOften hr, zC1_s, s_howOften hr, zC1_s]; rfl
  | succ n ih =>
    intro t u r hn hu hr
    have hu16 := pw16 h4 hu
    have et : zadd (t : Int) 1 = ((t + 1 : Nat) : Int) := zadd_nat (k := 1) (by omega)
    have loop : ∀ (j k : Nat) (acc : Int) (u11 u12 u13 : Option zV), k + j = es.length →
        zX zP 94 (v + n + 1) 62 [some ((.inr (.inr (some a)))), some (.inr (.inl (zrow r))), none, some (.inl (u : Int)), some (.inl (t : Int)), some (.inl (T : Int)), some (.inl (x : Int)), some (.inl (y : Int)), some (.inl (b01 (decide (t % 2 = 0)))), some (.inl acc), some (.inl (k : Int)), u11, u12, u13] [] m
          = some (some (.inl (cB (decide (t % 2 = 0)) u (fun e => gv es x y n (!decide (t % 2 = 0)) (u ||| 2 ^ e) (eStep es e r)) j k acc)), m) := by
      intro j
      induction j with
      | zero =>
        intro k acc u11 u12 u13 hk
        rw [j_X4_worth_62, if_pos h.1, hv.2.1, if_neg (by omega), j_X4_worth_146]; rfl
      | succ j ihj =>
        intro k acc u11 u12 u13 hk
        have e1 : zadd (k : Int) 1 = ((k + 1 : Nat) : Int) := zadd_nat (k := 1) (by omega)
        have b := sf3 u hu16 k (by omega)
        rw [j_X4_worth_62, if_pos h.1, hv.2.1, if_pos (by omega), b]
        unfold cB
        by_cases c : u.testBit k = true
        · rw [if_pos c, if_neg (by decide), j_X4_worth_140, e1, ihj (k + 1) acc _ _ _ (by omega), if_pos c]
        · obtain ⟨d1, d2, d3, d4⟩ := sf1 es.length (by omega) u hu16 hu k (by omega) (by omega) (bool_f c)
          rw [if_neg c, if_pos rfl, if_pos h.1, s_editAt h (by omega), zC1_s, hv.2.2.2.2.2 k (by omega), s_doneOrNot (es_ok he k) hr, zC2_s, d3, et]
          show zC1 (zF zP 94 (v + n) [(.inr (.inr (some a))), .inr (.inl (zrow (eStep es k r))), .inl ((u ||| 2 ^ k : Nat) : Int), .inl ((t + 1 : Nat) : Int), .inl (T : Int), .inl (x : Int), .inl (y : Int)] m) _ = _
          rw [ih (t + 1) (u ||| 2 ^ k) (eStep es k r) (by omega) d1 (eStep_ok he k hr), zC1_s, flip2]
          by_cases f : t % 2 = 0
          · rw [decide_eq_true f, if_neg (by decide), j_X4_worth_138, j_X4_worth_140, e1, bt_max]
            rw [decide_eq_true f] at ihj
            rw [ihj (k + 1) _ _ _ _ (by omega), if_neg c]
          · rw [decide_eq_false f, if_pos (show b01 false = 0 from rfl), j_X4_worth_131, j_X4_worth_138, j_X4_worth_140, e1, bt_min]
            rw [decide_eq_false f] at ihj
            rw [ihj (k + 1) _ _ _ _ (by omega), if_neg c]
    have e0 : ((0 : Nat) : Int) = 0 := rfl
    have hl := loop es.length 0 (gv es x y n (!decide (t % 2 = 0)) u r) none none none (Nat.zero_add _)
    rw [e0] at hl
    have hi := ih (t + 1) u r (by omega) hu hr
    rw [flip2] at hi
    rw [f_X4_worth, if_pos (by omega), if_pos (by omega), j_X4_worth_27, if_neg (by decide), zrem2]
    by_cases f : t % 2 = 0
    · rw [if_pos (by omega)]
      rw [decide_eq_true f] at hl hi ⊢
      show zX zP 94 (v + n + 1) 39 _ _ m = _
      rw [j_X4_worth_39, et, hi, zC1_s]
      exact hl
    · rw [if_neg (by omega), j_X4_worth_38]
      rw [decide_eq_false f] at hl hi ⊢
      show zX zP 94 (v + n + 1) 39 _ _ m = _
      rw [j_X4_worth_39, et, hi, zC1_s]
      exact hl
theorem s_gameOf {a : Nat} {num : Int} {lost : Bool} {es : List zEd} (h : LnS m a) (hv : LnV m a num lost es) {x y T : Nat} (hT : T ≤ 4) {r : List Nat} (hr : rOk r) : zF zP 95 v [(.inr (.inr (some a))), .inr (.inl (zrow r)), .inl (T : Int), .inl (x : Int), .inl (y : Int)] m = some (some (.inl (gv es x y T true 0 r)), m) := by
  have hh := s_worth (v := 6 - T) h hv (x := x) (y := y) hT T 0 0 r (Nat.zero_add _) (Nat.two_pow_pos _) hr
  rw [show 6 - T + T = 6 by omega] at hh
  have e0 : ((0 : Nat) : Int) = 0 := rfl
  rw [e0] at hh
  rw [f_X4_gameOf, hh, zC1_s]; rfl
theorem s_firstMove {a : Nat} {num : Int} {lost : Bool} {es : List zEd} (h : LnS m a) (hv : LnV m a num lost es) {x y T : Nat} (hT : T ≤ 4) (hT1 : 1 ≤ T) {r : List Nat} (hr : rOk r) : zF zP 96 v [(.inr (.inr (some a))), .inr (.inl (zrow r)), .inl (T : Int), .inl (x : Int), .inl (y : Int)] m = some (some (.inl (gmv es x y T r)), m) := by
  have h4 := hv.2.2.2.1
  have he := hv.2.2.2.2.1
  have loop : ∀ (j k : Nat) (u8 u9 : Option zV), k + j = es.length →
      zX zP 96 v 15 [some ((.inr (.inr (some a)))), some (.inr (.inl (zrow r))), none, some (.inl (T : Int)), some (.inl (x : Int)), some (.inl (y : Int)), some (.inl (gv es x y T true 0 r)), some (.inl (k : Int)), u8, u9] [] m
        = some (some (.inl (fmF (fun e => gv es x y (T - 1) false (2 ^ e) (eStep es e r)) (gv es x y T true 0 r) j k)), m) := by
    intro j
    induction j with
    | zero =>
      intro k u8 u9 hk
      rw [j_X4_firstMove_15, if_pos h.1, hv.2.1, if_neg (by omega), j_X4_firstMove_66]; rfl
    | succ j ihj =>
      intro k u8 u9 hk
      have e1 : zadd (k : Int) 1 = ((k + 1 : Nat) : Int) := zadd_nat (k := 1) (by omega)
      have hp : 2 ^ k < 2 ^ es.length := Nat.pow_lt_pow_right (by decide) (by omega)
      have hh := s_worth (v := 6 - (T - 1)) h hv (x := x) (y := y) hT (T - 1) 1 (2 ^ k) (eStep es k r) (by omega) hp (eStep_ok he k hr)
      rw [show 6 - (T - 1) + (T - 1) = 6 by omega] at hh
      have e1' : ((1 : Nat) : Int) = 1 := rfl
      rw [e1'] at hh
      rw [j_X4_firstMove_15, if_pos h.1, hv.2.1, if_pos (by omega), if_pos h.1, s_editAt h (by omega), zC1_s, hv.2.2.2.2.2 k (by omega), s_doneOrNot (es_ok he k) hr, zC2_s, zshl1 (by omega)]
      show zC1 (zF zP 94 6 [(.inr (.inr (some a))), .inr (.inl (zrow (eStep es k r))), .inl ((2 ^ k : Nat) : Int), .inl 1, .inl (T : Int), .inl (x : Int), .inl (y : Int)] m) _ = _
      rw [hh, zC1_s]
      unfold fmF
      by_cases c : gv es x y (T - 1) false (2 ^ k) (eStep es k r) = gv es x y T true 0 r
      · rw [if_pos (show gv es x y (T - 1) (decide (1 % 2 = 0)) (2 ^ k) (eStep es k r) = gv es x y T true 0 r from c), if_pos c]
      · rw [if_neg (show ¬ gv es x y (T - 1) (decide (1 % 2 = 0)) (2 ^ k) (eStep es k r) = gv es x y T true 0 r from c), if_neg c, j_X4_firstMove_60, e1]
        exact ihj (k + 1) _ _ (by omega)
  have e0 : ((0 : Nat) : Int) = 0 := rfl
  have hl := loop es.length 0 none none (Nat.zero_add _)
  rw [e0] at hl
  rw [f_X4_firstMove, s_gameOf h hv hT hr, zC1_s]
  exact hl
theorem c_gameStatus (hR : R1 S m) (t n x a b T : Int) : zF zP 223 v [(.inr (.inr (some 0))), .inl t, .inl n, .inl x, .inl a, .inl b, .inl T] m = some (some (.inl (yGm S t n x a b T 0)), m) := by
  have hS := hR.1
  obtain ⟨hl, hv⟩ := hR.ll
  have tail : ∀ told : Bool, told = (inB x (gL S).2.1.length && (inB a (gL S).1.length && inB b (gL S).1.length)) → zX zP 223 v 43 [some ((.inr (.inr (some 0)))), some (.inl t), some (.inl n), some (.inl x), some (.inl a), some (.inl b), some (.inl T), none] [.inl (b01 told), .inl n, .inl t, (.inr (.inr (some 0)))] m = some (some (.inl (yGm S t n x a b T 0)), m) := by
    intro told e
    rw [j_X10_gameStatus_43, if_pos hS.1, c_rowStatus hR, zC1_s, e]
    unfold yGm
    by_cases h : yRw S t n (inB x (gL S).2.1.length && (inB a (gL S).1.length && inB b (gL S).1.length)) = 0
    · rw [if_pos h, if_pos h, h]
      by_cases c1 : a = b
      · rw [if_pos c1, if_pos c1, j_X10_gameStatus_71]
      · rw [if_neg c1, if_neg c1]
        by_cases c2 : T < 0
        · rw [if_pos c2, if_pos c2, j_X10_gameStatus_71]
        · rw [if_neg c2, if_neg c2]
          by_cases c3 : 4 < T
          · rw [if_pos c3, if_pos c3, j_X10_gameStatus_71]
          · rw [if_neg c3, if_neg c3, j_X10_gameStatus_73]
    · rw [if_neg h, if_neg h, j_X10_gameStatus_73]
  rw [f_X10_gameStatus, if_pos hS.1, hR.r2, obind, if_pos hR.t5, s_hasLine hR.t5 hv.2.1.1, zC1_s]
  by_cases h1 : inB x (gL S).2.1.length = true
  · rw [h1] at tail ⊢
    rw [if_neg (by decide), if_pos hS.1, hR.r2, obind, if_pos hR.t5, s_hasWord hR.t5 hv.1.1, zC1_s]
    by_cases h2 : inB a (gL S).1.length = true
    · rw [h2] at tail ⊢
      rw [if_neg (by decide), if_pos hS.1, hR.r2, obind, if_pos hR.t5, s_hasWord hR.t5 hv.1.1, zC1_s]
      by_cases h3 : inB b (gL S).1.length = true
      · rw [h3] at tail ⊢
        rw [if_neg (by decide)]
        exact tail true rfl
      · rw [bool_f h3] at tail ⊢
        rw [if_pos (show b01 false = 0 from rfl), j_X10_gameStatus_42]
        exact tail false rfl
    · rw [bool_f h2] at tail ⊢
      rw [if_pos (show b01 false = 0 from rfl), j_X10_gameStatus_42]
      exact tail false rfl
  · rw [bool_f h1] at tail ⊢
    rw [if_pos (show b01 false = 0 from rfl), j_X10_gameStatus_42]
    exact tail false rfl
theorem yGm0 {t n x a b T lo : Int} (h : yGm S t n x a b T lo = 0) (h0 : 0 ≤ lo) : yRw S t n (inB x (gL S).2.1.length && (inB a (gL S).1.length && inB b (gL S).1.length)) = 0 ∧ ∃ i a' b' T' : Nat, x = (i : Int) ∧ i < (gL S).2.1.length ∧ a = (a' : Int) ∧ b = (b' : Int) ∧ T = (T' : Int) ∧ T' ≤ 4 ∧ lo ≤ (T' : Int) ∧ a' ≠ b' := by
  unfold yGm at h
  by_cases c : yRw S t n (inB x (gL S).2.1.length && (inB a (gL S).1.length && inB b (gL S).1.length)) = 0
  · rw [if_pos c] at h
    refine ⟨c, ?_⟩
    obtain ⟨t', k, q1, q2, q3, q4, q5, q6⟩ := yRw0 c
    rw [Bool.and_eq_true, Bool.and_eq_true] at q5
    obtain ⟨i, rfl, hi⟩ := inB_nat q5.1
    obtain ⟨a', rfl, ha⟩ := inB_nat q5.2.1
    obtain ⟨b', rfl, hb⟩ := inB_nat q5.2.2
    by_cases c1 : (a' : Int) = (b' : Int)
    · rw [if_pos c1] at h; omega
    · rw [if_neg c1] at h
      by_cases c2 : T < lo
      · rw [if_pos c2] at h; omega
      · rw [if_neg c2] at h
        by_cases c3 : 4 < T
        · rw [if_pos c3] at h; omega
        · exact ⟨i, a', b', T.toNat, rfl, hi, rfl, rfl, by omega, by omega, by omega, by omega⟩
  · rw [if_neg c] at h; exact absurd h c
theorem p_game (hR : R1 S m) (t n x a b T : Int) : Ex1 (zF zP 224 v [(.inr (.inr (some 0))), .inl t, .inl n, .inl x, .inl a, .inl b, .inl T] m) (o_game S t n x a b T) := by
  have hS := hR.1
  obtain ⟨hl, hv⟩ := hR.ll
  unfold o_game
  rw [f_X10_game, if_pos hS.1, c_gameStatus hR, zC1_s]
  by_cases h : yGm S t n x a b T 0 = 0
  · obtain ⟨hr, i, a', b', T', rfl, hi, rfl, rfl, rfl, hT, hlo, hne⟩ := yGm0 h (by omega)
    obtain ⟨g1, g2, g3⟩ := hv.ln hl hi
    rw [if_pos h, if_pos h, j_X10_game_27, if_pos hS.1, hR.r2, obind, if_pos hR.t5, s_lineAt hl g1, zC4_s, if_pos hS.1, c_rowIn hR hr, zC2_s, s_gameOf g2 g3 hT (yRow_ok hR.w16 hr), zC1_s, if_pos hS.1, Int.toNat_natCast, Int.toNat_natCast, Int.toNat_natCast, Int.toNat_natCast]
    exact x1_yesC hR
  · rw [if_neg h, if_neg h, if_pos hS.1]; exact x1_noC hR
theorem p_moveOf (hR : R1 S m) (t n x a b T : Int) : Ex1 (zF zP 225 v [(.inr (.inr (some 0))), .inl t, .inl n, .inl x, .inl a, .inl b, .inl T] m) (o_moveOf S t n x a b T) := by
  have hS := hR.1
  obtain ⟨hl, hv⟩ := hR.ll
  have no : ∀ y : Int, ¬ y = 0 → Ex1 (zX zP 225 v 28 [some ((.inr (.inr (some 0)))), some (.inl t), some (.inl n), some (.inl x), some (.inl a), some (.inl b), some (.inl T), some (.inl y), none] [] m) (oNo S y) := fun y hy => by
    rw [j_X10_moveOf_28, if_neg hy, if_pos hS.1]; exact x1_noC hR
  unfold o_moveOf
  rw [f_X10_moveOf, if_pos hS.1, c_gameStatus hR, zC1_s]
  by_cases h : yGm S t n x a b T 1 = 0
  · obtain ⟨hr, i, a', b', T', rfl, hi, rfl, rfl, rfl, hT, hlo, hne⟩ := yGm0 h (by omega)
    have h00 : yGm S t n (i : Int) (a' : Int) (b' : Int) (T' : Int) 0 = 0 := by
      unfold yGm
      rw [if_pos hr, if_neg (by omega), if_neg (by omega), if_neg (by omega)]
    obtain ⟨g1, g2, g3⟩ := hv.ln hl hi
    have hT1 : 1 ≤ T' := by omega
    rw [h00, if_pos rfl, if_pos h, if_neg (show ¬ (T' : Int) = 0 by omega), j_X10_moveOf_28, if_pos rfl, j_X10_moveOf_40, if_pos hS.1, hR.r2, obind, if_pos hR.t5, s_lineAt hl g1, zC4_s, if_pos hS.1, c_rowIn hR hr, zC2_s, s_firstMove g2 g3 hT hT1 (yRow_ok hR.w16 hr), zC1_s, Int.toNat_natCast, Int.toNat_natCast, Int.toNat_natCast, Int.toNat_natCast]
    by_cases c : gmv ((gL S).2.1.getD i ln0).2.2 a' b' T' (yRow S t n) = -1
    · rw [if_pos c, if_pos c, if_pos hS.1, c_no hS, zC1_s, j_X10_moveOf_86]; exact x1_no hR
    · rw [if_neg c, if_neg c, j_X10_moveOf_80, if_pos hS.1, c_yes hS, zC1_s, j_X10_moveOf_86]; exact x1_yes hR
  · rw [if_neg h]
    by_cases c : yGm S t n x a b T 0 = 0
    · obtain ⟨hr, i, a', b', T', rfl, hi, rfl, rfl, rfl, hT, hlo, hne⟩ := yGm0 c (by omega)
      have e5 : yGm S t n (i : Int) (a' : Int) (b' : Int) (T' : Int) 1 = 5 ∧ (T' : Int) = 0 := by
        unfold yGm at h ⊢
        rw [if_pos hr, if_neg (by omega)] at h ⊢
        by_cases c2 : (T' : Int) < 1
        · rw [if_pos c2]; exact ⟨rfl, by omega⟩
        · rw [if_neg c2, if_neg (by omega)] at h; exact absurd rfl h
      rw [if_pos c, if_pos e5.2, e5.1]
      exact no 5 (by decide)
    · have e : yGm S t n x a b T 1 = yGm S t n x a b T 0 := by
        unfold yGm at c ⊢
        by_cases hr : yRw S t n (inB x (gL S).2.1.length && (inB a (gL S).1.length && inB b (gL S).1.length)) = 0
        · rw [if_pos hr] at c ⊢
          rw [if_pos hr]
          by_cases c1 : a = b
          · rw [if_pos c1, if_pos c1]
          · rw [if_neg c1] at c ⊢
            rw [if_neg c1]
            by_cases c2 : T < 0
            · rw [if_pos c2, if_pos (by omega)]
            · rw [if_neg c2] at c ⊢
              by_cases c3 : 4 < T
              · rw [if_pos c3, if_neg (by omega)]
              · rw [if_neg c3] at c; exact absurd rfl c
        · rw [if_neg hr, if_neg hr]
      rw [if_neg c, e]
      exact no _ c
end GAME
