/-! LAND: what is counted and looked up. Loops as plain functions: a set, a sum, a first place, a thing done n times. -/
def setF (f : Nat → Bool) : Nat → Nat → Int → Int
  | 0, _, acc => acc
  | n + 1, k, acc => setF f n (k + 1) (if f k = true then zor acc (zshl 1 (k : Int)) else acc)
def sumF (f : Nat → Int) : Nat → Nat → Int → Int
  | 0, _, acc => acc
  | n + 1, k, acc => sumF f n (k + 1) (zadd acc (f k))
def firstK (f : Nat → Bool) : Nat → Nat → Int
  | 0, _ => -1
  | n + 1, k => if f k = true then (k : Int) else firstK f n (k + 1)
def itr {α : Type} (f : α → α) : Nat → α → α
  | 0, x => x
  | n + 1, x => itr f n (f x)
theorem itr_fix {α : Type} {f : α → α} {x : α} (h : f x = x) : ∀ n, itr f n x = x
  | 0 => rfl
  | n + 1 => by show itr f n (f x) = x; rw [h]; exact itr_fix h n
theorem firstK_of (f : Nat → Bool) : ∀ (n k : Nat), firstK f n k = -1 ∨ ∃ i : Nat, firstK f n k = (i : Int) ∧ k ≤ i ∧ i < k + n ∧ f i = true
  | 0, k => Or.inl rfl
  | n + 1, k => by
    unfold firstK
    by_cases h : f k = true
    · rw [if_pos h]; exact Or.inr ⟨k, rfl, by omega, by omega, h⟩
    · rw [if_neg h]
      rcases firstK_of f n (k + 1) with q | ⟨i, q1, q2, q3, q4⟩
      · exact Or.inl q
      · exact Or.inr ⟨i, q1, by omega, by omega, q4⟩
theorem zadd1 {k : Nat} (h : k < 1000000) : zadd (k : Int) 1 = ((k + 1 : Nat) : Int) := zadd_nat (k := 1) (by omega)
section LAND2
variable {v : Nat} {m : zM} {a : Nat} {L : zLd}
theorem lday_ok {p : Nat} {l : List Nat} (hL : LdV m a L) (hp : p < L.2.2.1.length) (hl : rOk l) : rOk (lday L p l) := by
  obtain ⟨-, ⟨l1, l2, l3⟩, ⟨p1, p2, p3⟩, -, -⟩ := hL
  obtain ⟨q1, q2, q3, q4, q5⟩ := p3 p hp
  unfold lday
  split
  · exact hl
  · exact lput_ok _ _ (l3 _ q5).2.2.2.2.1 hl
theorem s_rowIn_loop {p : Nat} {d : Int} (h : LdS m a) (hL : LdV m a L) (hp : p < L.2.2.1.length) : ∀ (n k : Nat) (l : List Nat) (u6 u7 : Option zV), d = ((k + n : Nat) : Int) → k + n < 1000000 → rOk l →
    zX zP 52 v 9 [some (.inr (.inr (some a))), some (.inl (p : Int)), some (.inl d), some (.inr (.inl (zrow l))), none, some (.inl (k : Int)), u6, u7] [] m = some (some (.inr (.inl (zrow (itr (lday L p) n l)))), m) := by
  intro n
  induction n with
  | zero =>
    intro k l u6 u7 hd hk hl
    rw [j_X0_rowIn_9, if_neg (by omega), j_X0_rowIn_41]; rfl
  | succ n ih =>
    intro k l u6 u7 hd hk hl
    have hl2 := lday_ok hL hp hl
    rw [j_X0_rowIn_9, if_pos (by omega), if_pos h.1, s_rowNextDay h hL hp hl, zC2_s]
    by_cases e : lday L p l = l
    · rw [if_pos (zlcmp_eq.mpr (by rw [e])), itr_fix e]
    · rw [if_neg (fun q => e (zrow_inj hl2 hl (zlcmp_eq.mp q))), j_X0_rowIn_32, zadd1 (by omega), ih (k + 1) _ _ _ (by omega) (by omega) hl2]; rfl
theorem LdV.rowOk {p : Nat} (hL : LdV m a L) (hp : p < L.2.2.1.length) : zl m (a + 7) p = zrow (L.2.2.1.getD p ps0).2.2 ∧ rOk (L.2.2.1.getD p ps0).2.2 := ⟨(hL.2.2.1.2.2 p hp).2.2.1, (hL.2.2.1.2.2 p hp).2.2.2.1⟩
theorem s_rowIn {p d : Nat} (h : LdS m a) (hL : LdV m a L) (hp : p < L.2.2.1.length) (hd : d < 1000000) :
    zF zP 52 v [.inr (.inr (some a)), .inl (p : Int), .inl (d : Int)] m = some (some (.inr (.inl (zrow (itr (lday L p) d (L.2.2.1.getD p ps0).2.2)))), m) := by
  have h6 := hL.2.2.1.2.1
  rw [f_X0_rowIn, if_pos h.1, s_rowAt h (by omega), zC2_s, (hL.rowOk hp).1]
  exact s_rowIn_loop h hL hp d 0 _ _ _ (by omega) (by omega) (hL.rowOk hp).2
theorem LdV.ln {i : Nat} (h : LdS m a) (hL : LdV m a L) (hi : i < L.2.1.length) : i < 8 ∧ LnS m (a + 12 + 2 * i) ∧ LnV m (a + 12 + 2 * i) (L.2.1.getD i ln0).1 (L.2.1.getD i ln0).2.1 (L.2.1.getD i ln0).2.2 := by
  have h8 := hL.2.1.2.1
  exact ⟨by omega, (h.2.2.2.2.2 i (by omega)).2, hL.2.1.2.2 i hi⟩
theorem s_lineNumbered_loop {x : Int} (h : LdS m a) (hL : LdV m a L) : ∀ (n k : Nat), k + n = L.2.1.length →
    zX zP 26 v 2 [some (.inr (.inr (some a))), some (.inl x), some (.inl (k : Int))] [] m = some (some (.inl (firstK (fun i => decide ((L.2.1.getD i ln0).1 = x)) n k)), m) := by
  have hn := hL.2.1.1
  intro n
  induction n with
  | zero =>
    intro k hk
    rw [j_X0_lineNumbered_2, if_pos h.1, hn, if_neg (by omega), j_X0_lineNumbered_30]; rfl
  | succ n ih =>
    intro k hk
    obtain ⟨g1, g2, g3⟩ := LdV.ln h hL (i := k) (by omega)
    rw [j_X0_lineNumbered_2, if_pos h.1, hn, if_pos (by omega), if_pos h.1, s_lineAt h g1, zC4_s, if_pos g2.1, g3.1, firstK]
    by_cases e : (L.2.1.getD k ln0).1 = x
    · rw [if_pos e, if_pos (decide_eq_true e)]
    · rw [if_neg e, if_neg (by rw [decide_eq_true_eq]; exact e), j_X0_lineNumbered_24, zadd1 (by omega), ih (k + 1) (by omega)]
def lnum (L : zLd) (x : Int) : Int := firstK (fun i => decide ((L.2.1.getD i ln0).1 = x)) L.2.1.length 0
theorem s_lineNumbered {x : Int} (h : LdS m a) (hL : LdV m a L) : zF zP 26 v [.inr (.inr (some a)), .inl x] m = some (some (.inl (lnum L x)), m) := by
  rw [f_X0_lineNumbered]
  exact s_lineNumbered_loop h hL _ 0 (by omega)
theorem lnum_of (L : zLd) (x : Int) : lnum L x = -1 ∨ ∃ i : Nat, lnum L x = (i : Int) ∧ i < L.2.1.length ∧ (L.2.1.getD i ln0).1 = x := by
  rcases firstK_of (fun i => decide ((L.2.1.getD i ln0).1 = x)) L.2.1.length 0 with q | ⟨i, q1, q2, q3, q4⟩
  · exact Or.inl q
  · exact Or.inr ⟨i, q1, by omega, of_decide_eq_true q4⟩
def lomits (L : zLd) (x : Int) : Bool := decide (lnum L x = -1) || (L.2.1.getD (lnum L x).toNat ln0).2.1
theorem s_omits {x : Int} (h : LdS m a) (hL : LdV m a L) : zF zP 27 v [.inr (.inr (some a)), .inl x] m = some (some (.inl (b01 (lomits L x))), m) := by
  rw [f_X0_omits, if_pos h.1, s_lineNumbered h hL, zC1_s]
  unfold lomits
  rcases lnum_of L x with q | ⟨i, q1, q2, q3⟩
  · rw [if_pos q, j_X0_omits_22, j_X0_omits_27, q]; rfl
  · obtain ⟨g1, g2, g3⟩ := LdV.ln h hL q2
    rw [q1, if_neg (by omega), if_pos h.1, s_lineAt h g1, zC4_s, if_pos g2.1, g3.2.2.1, Int.toNat_natCast, decide_eq_false (by omega), Bool.false_or]
    by_cases e : (L.2.1.getD i ln0).2.1 = true
    · rw [b01_t e, if_neg (by decide), j_X0_omits_22, j_X0_omits_27]; rfl
    · rw [b01_f e, if_pos rfl, j_X0_omits_26, j_X0_omits_27]; rfl
theorem s_lostLines_loop (h : LdS m a) (hL : LdV m a L) : ∀ (n k : Nat) (acc : Int), k + n = L.2.1.length →
    zX zP 29 v 4 [some (.inr (.inr (some a))), some (.inl acc), some (.inl (k : Int))] [] m = some (some (.inl (setF (fun i => (L.2.1.getD i ln0).2.1) n k acc)), m) := by
  have hn := hL.2.1.1
  intro n
  induction n with
  | zero =>
    intro k acc hk
    rw [j_X0_lostLines_4, if_pos h.1, hn, if_neg (by omega), j_X0_lostLines_35]; rfl
  | succ n ih =>
    intro k acc hk
    obtain ⟨g1, g2, g3⟩ := LdV.ln h hL (i := k) (by omega)
    rw [j_X0_lostLines_4, if_pos h.1, hn, if_pos (by omega), if_pos h.1, s_lineAt h g1, zC4_s, if_pos g2.1, g3.2.2.1, setF]
    by_cases e : (L.2.1.getD k ln0).2.1 = true
    · rw [b01_t e, if_neg (by decide), if_pos e, j_X0_lostLines_29, zadd1 (by omega), ih (k + 1) _ (by omega)]
    · rw [b01_f e, if_pos rfl, if_neg e, j_X0_lostLines_29, zadd1 (by omega), ih (k + 1) _ (by omega)]
theorem s_lostLines (h : LdS m a) (hL : LdV m a L) : zF zP 29 v [.inr (.inr (some a))] m = some (some (.inl (setF (fun i => (L.2.1.getD i ln0).2.1) L.2.1.length 0 0)), m) := by
  rw [f_X0_lostLines]
  exact s_lostLines_loop h hL _ 0 _ (by omega)
theorem s_allEdits_loop (h : LdS m a) (hL : LdV m a L) : ∀ (n k : Nat) (acc : Int), k + n = L.2.1.length →
    zX zP 30 v 4 [some (.inr (.inr (some a))), some (.inl acc), some (.inl (k : Int))] [] m = some (some (.inl (sumF (fun i => ((L.2.1.getD i ln0).2.2.length : Int)) n k acc)), m) := by
  have hn := hL.2.1.1
  intro n
  induction n with
  | zero =>
    intro k acc hk
    rw [j_X0_allEdits_4, if_pos h.1, hn, if_neg (by omega), j_X0_allEdits_29]; rfl
  | succ n ih =>
    intro k acc hk
    obtain ⟨g1, g2, g3⟩ := LdV.ln h hL (i := k) (by omega)
    rw [j_X0_allEdits_4, if_pos h.1, hn, if_pos (by omega), if_pos h.1, s_lineAt h g1, zC4_s, if_pos g2.1, g3.2.1, sumF, zadd1 (by omega), ih (k + 1) _ (by omega)]
theorem s_allEdits (h : LdS m a) (hL : LdV m a L) : zF zP 30 v [.inr (.inr (some a))] m = some (some (.inl (sumF (fun i => ((L.2.1.getD i ln0).2.2.length : Int)) L.2.1.length 0 0)), m) := by
  rw [f_X0_allEdits]
  exact s_allEdits_loop h hL _ 0 _ (by omega)
theorem s_allWordsSaid_loop (h : LdS m a) (hL : LdV m a L) : ∀ (n k : Nat) (acc : Int), k + n = L.2.2.1.length →
    zX zP 32 v 4 [some (.inr (.inr (some a))), some (.inl acc), some (.inl (k : Int))] [] m = some (some (.inl (sumF (fun i => ((L.2.2.1.getD i ps0).2.2.length : Int)) n k acc)), m) := by
  have hn := hL.2.2.1.1
  have h6 := hL.2.2.1.2.1
  intro n
  induction n with
  | zero =>
    intro k acc hk
    rw [j_X0_allWordsSaid_4, if_pos h.1, hn, if_neg (by omega), j_X0_allWordsSaid_29]; rfl
  | succ n ih =>
    intro k acc hk
    obtain ⟨g1, g2⟩ := hL.rowOk (p := k) (by omega)
    rw [j_X0_allWordsSaid_4, if_pos h.1, hn, if_pos (by omega), if_pos h.1, s_rowAt h (by omega), zC2_s, g1, s_size g2, zC1_s, sumF, zadd1 (by omega), ih (k + 1) _ (by omega)]
theorem s_allWordsSaid (h : LdS m a) (hL : LdV m a L) : zF zP 32 v [.inr (.inr (some a))] m = some (some (.inl (sumF (fun i => ((L.2.2.1.getD i ps0).2.2.length : Int)) L.2.2.1.length 0 0)), m) := by
  rw [f_X0_allWordsSaid]
  exact s_allWordsSaid_loop h hL _ 0 _ (by omega)
def lpeople (L : zLd) (x : Int) : Int := setF (fun i => decide (((L.2.2.1.getD i ps0).2.1 : Int) = x)) L.2.2.1.length 0 0
theorem s_peopleAt_loop {x : Int} (h : LdS m a) (hL : LdV m a L) : ∀ (n k : Nat) (acc : Int), k + n = L.2.2.1.length →
    zX zP 33 v 4 [some (.inr (.inr (some a))), some (.inl x), some (.inl acc), some (.inl (k : Int))] [] m = some (some (.inl (setF (fun i => decide (((L.2.2.1.getD i ps0).2.1 : Int) = x)) n k acc)), m) := by
  have hn := hL.2.2.1.1
  have h6 := hL.2.2.1.2.1
  intro n
  induction n with
  | zero =>
    intro k acc hk
    rw [j_X0_peopleAt_4, if_pos h.1, hn, if_neg (by omega), j_X0_peopleAt_33]; rfl
  | succ n ih =>
    intro k acc hk
    have g := (hL.2.2.1.2.2 k (by omega)).2.1
    rw [j_X0_peopleAt_4, if_pos h.1, hn, if_pos (by omega), if_pos h.1, s_placeAt h (by omega), zC1_s, g, setF]
    by_cases e : ((L.2.2.1.getD k ps0).2.1 : Int) = x
    · rw [if_pos e, if_pos (decide_eq_true e), j_X0_peopleAt_27, zadd1 (by omega), ih (k + 1) _ (by omega)]
    · rw [if_neg e, if_neg (by rw [decide_eq_true_eq]; exact e), j_X0_peopleAt_27, zadd1 (by omega), ih (k + 1) _ (by omega)]
theorem s_peopleAt {x : Int} (h : LdS m a) (hL : LdV m a L) : zF zP 33 v [.inr (.inr (some a)), .inl x] m = some (some (.inl (lpeople L x)), m) := by
  rw [f_X0_peopleAt]
  exact s_peopleAt_loop h hL _ 0 _ (by omega)
theorem s_allWords {n : Nat} (h : zT m a 0 = true) (hw : zi m a 8 = (n : Int)) : zF zP 28 v [.inr (.inr (some a))] m = some (some (.inl (zsub (zshl 1 (n : Int)) 1)), m) := by
  rw [f_X0_allWords, if_pos h, hw]
/-- all WORDS in EDITS -/
def wsetE : List zEd → Int → Int
  | [], acc => acc
  | e :: r, acc => wsetE r (if e.1 = 1 then zor acc (zshl 1 (e.2.1 : Int)) else zor (zor acc (zshl 1 (e.2.1 : Int))) (zshl 1 (e.2.2.1 : Int)))
theorem s_wordSet_loop {b : Nat} {num : Int} {lost : Bool} {es : List zEd} (h : LnS m b) (hv : LnV m b num lost es) : ∀ (r : List zEd) (k : Nat) (acc : Int), es.drop k = r →
    zX zP 37 v 4 [some (.inr (.inr (some b))), some (.inl acc), some (.inl (k : Int))] [] m = some (some (.inl (wsetE r acc)), m) := by
  obtain ⟨v1, v2, v3, v4, v5, v6⟩ := hv
  intro r
  induction r with
  | nil =>
    intro k acc hk
    have h1 : es.length ≤ k := List.drop_eq_nil_iff.mp hk
    rw [j_X2_wordSet_4, if_pos h.1, v2, if_neg (by omega), j_X2_wordSet_56]; rfl
  | cons e r ih =>
    intro k acc hk
    obtain ⟨h1, h2, h3⟩ := edrop_cons hk
    have he : eOk e := by rw [← h2]; exact es_ok v5 k
    have ea : zi m (b + 1) k = epk e := by rw [v6 k h1, h2]
    rw [j_X2_wordSet_4, if_pos h.1, v2, if_pos (by omega), if_pos h.1, s_editAt h (by omega), zC1_s, ea, s_wordOf he, zC1_s, if_pos h.1, s_editAt h (by omega), zC1_s, ea, s_kindOf he, zC1_s, wsetE]
    by_cases h0 : e.1 = 1
    · rw [if_pos (by omega), if_pos h0, j_X2_wordSet_50, zadd1 (by omega), ih (k + 1) _ h3]
    · rw [if_neg (by omega), if_neg h0, if_pos h.1, s_editAt h (by omega), zC1_s, ea, s_otherOf he, zC1_s, j_X2_wordSet_50, zadd1 (by omega), ih (k + 1) _ h3]
theorem s_wordSet {b : Nat} {num : Int} {lost : Bool} {es : List zEd} (h : LnS m b) (hv : LnV m b num lost es) : zF zP 37 v [.inr (.inr (some b))] m = some (some (.inl (wsetE es 0)), m) := by
  rw [f_X2_wordSet]
  exact s_wordSet_loop h hv es 0 _ rfl
/-- JOINED -/
def ljoin (L : zLd) (i j : Nat) : Bool := !decide (i = j) && (!(L.2.1.getD i ln0).2.1 && (!(L.2.1.getD j ln0).2.1 && (!decide (zand (wsetE (L.2.1.getD i ln0).2.2 0) (wsetE (L.2.1.getD j ln0).2.2 0) = 0) || decide (zabs (zsub (L.2.1.getD i ln0).1 (L.2.1.getD j ln0).1) = 1))))
theorem s_areJoined {i j : Nat} (h : LdS m a) (hL : LdV m a L) (hi : i < L.2.1.length) (hj : j < L.2.1.length) : zF zP 38 v [.inr (.inr (some a)), .inl (i : Int), .inl (j : Int)] m = some (some (.inl (b01 (ljoin L i j))), m) := by
  obtain ⟨g1, g2, g3⟩ := LdV.ln h hL hi
  obtain ⟨k1, k2, k3⟩ := LdV.ln h hL hj
  rw [f_X0_areJoined, if_pos h.1, s_lineAt h g1, zC4_s, if_pos h.1, s_lineAt h k1, zC4_s]
  unfold ljoin
  by_cases e : i = j
  · rw [if_pos (by omega), j_X0_areJoined_33, decide_eq_true e]; rfl
  · rw [if_neg (by omega), if_pos g2.1, g3.2.2.1, decide_eq_false e, Bool.not_false, Bool.true_and]
    by_cases e1 : (L.2.1.getD i ln0).2.1 = true
    · rw [b01_t e1, if_neg (by decide), j_X0_areJoined_33, e1]; rfl
    · rw [b01_f e1, if_pos rfl, if_pos k2.1, k3.2.2.1]
      rw [show (L.2.1.getD i ln0).2.1 = false by simpa using e1, Bool.not_false, Bool.true_and]
      by_cases e2 : (L.2.1.getD j ln0).2.1 = true
      · rw [b01_t e2, if_neg (by decide), j_X0_areJoined_33, e2]; rfl
      · rw [b01_f e2, if_pos rfl, show (L.2.1.getD j ln0).2.1 = false by simpa using e2, Bool.not_false, Bool.true_and]
        rw [j_X0_areJoined_35, if_pos g2.1, s_wordSet g2 g3, zC1_s, if_pos k2.1, s_wordSet k2 k3, zC1_s]
        by_cases e3 : zand (wsetE (L.2.1.getD i ln0).2.2 0) (wsetE (L.2.1.getD j ln0).2.2 0) = 0
        · rw [if_pos e3, if_pos g2.1, if_pos k2.1, g3.1, k3.1, decide_eq_true e3, Bool.not_true, Bool.false_or]
          by_cases e4 : zabs (zsub (L.2.1.getD i ln0).1 (L.2.1.getD j ln0).1) = 1
          · rw [if_pos e4, j_X0_areJoined_65, j_X0_areJoined_70, decide_eq_true e4]; rfl
          · rw [if_neg e4, j_X0_areJoined_69, j_X0_areJoined_70, decide_eq_false e4]; rfl
        · rw [if_neg e3, j_X0_areJoined_65, j_X0_areJoined_70, decide_eq_false e3]; rfl
end LAND2
