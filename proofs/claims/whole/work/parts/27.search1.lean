/-! More of Line, Rows and Land: all EDITS or none, VAIN, words sought, ways. -/
section SE1
variable {v : Nat} {m : zM} {a b : Nat} {L : zLd} {num : Int} {lost : Bool} {es : List zEd}
theorem s_doneOrNot {e : zEd} {l : List Nat} (he : eOk e) (h : rOk l) : zF zP 72 v [.inr (.inl (zrow l)), .inl (epk e)] m = some (some (.inr (.inl (zrow ((edone e l).getD l)))), m) := by
  rw [f_X2_doneOrNot, s_done he h, zC2_s]
  cases hq : edone e l with
  | none => rw [if_pos (zro_m1.mpr rfl), j_X2_doneOrNot_19]; rfl
  | some r => rw [if_neg (fun q => by have := zro_m1.mp q; cases this), j_X2_doneOrNot_18, j_X2_doneOrNot_19]; rfl
def lall : List zEd → List Nat → Option (List Nat)
  | [], l => some l
  | e :: r, l => match edone e l with
    | none => none
    | some l2 => lall r l2
theorem lall_ok : ∀ (es : List zEd) (l r : List Nat), (∀ e ∈ es, eOk e) → rOk l → lall es l = some r → rOk r
  | [], l, r, _, h, e => by cases e; exact h
  | x :: s, l, r, he, h, e => by
    unfold lall at e
    cases hq : edone x l with
    | none => rw [hq] at e; cases e
    | some l2 =>
      rw [hq] at e
      exact lall_ok s l2 r (fun y hy => he y (List.mem_cons_of_mem _ hy)) (edone_ok (he x List.mem_cons_self) h hq) e
/-- an EDIT of a LINE, read -/
theorem LnV.at {k : Nat} {e : zEd} {r : List zEd} (h : LnS m b) (hv : LnV m b num lost es) (hk : es.drop k = e :: r) : k < es.length ∧ k < 4 ∧ eOk e ∧ es.drop (k + 1) = r ∧ zF zP 6 0 [.inr (.inr (some b)), .inl (k : Int)] m = some (some (.inl (epk e)), m) := by
  obtain ⟨v1, v2, v3, v4, v5, v6⟩ := hv
  obtain ⟨h1, h2, h3⟩ := edrop_cons hk
  exact ⟨h1, by omega, by rw [← h2]; exact es_ok v5 k, h3, by rw [s_editAt h (by omega), v6 k h1, h2]⟩
theorem s_putRightByAll_loop (h : LnS m b) (hv : LnV m b num lost es) (y1 : Int) : ∀ (r : List zEd) (k : Nat) (l : List Nat), es.drop k = r → rOk l →
    zX zP 77 v 5 [some (.inr (.inr (some b))), some (.inr (.inl y1)), none, some (.inr (.inl (zrow l))), none, some (.inl (k : Int))] [] m = some (some (.inr (.inl (zro (lall r l)))), m) := by
  intro r
  induction r with
  | nil =>
    intro k l hk hl
    have h1 : es.length ≤ k := List.drop_eq_nil_iff.mp hk
    rw [j_X2_putRightByAll_5, if_pos h.1, hv.2.1, if_neg (by omega), j_X2_putRightByAll_39]; rfl
  | cons e r ih =>
    intro k l hk hl
    obtain ⟨h1, h4, he, h3, hE⟩ := LnV.at h hv hk
    rw [j_X2_putRightByAll_5, if_pos h.1, hv.2.1, if_pos (by omega), if_neg (fun q => zrow_ne (zlcmp_eq.mp q)), if_pos h.1, hE, zC1_s, s_done he hl, zC2_s, zadd1 (by omega), lall]
    cases hq : edone e l with
    | some l2 => exact ih (k + 1) l2 h3 (edone_ok he hl hq)
    | none =>
      show zX zP 77 v 5 [some (.inr (.inr (some b))), some (.inr (.inl y1)), none, some (.inr (.inl (-1))), none, some (.inl ((k + 1 : Nat) : Int))] [] m = some (some (.inr (.inl (-1))), m)
      rw [j_X2_putRightByAll_5, if_pos h.1, hv.2.1]
      by_cases hc : ((k + 1 : Nat) : Int) < (es.length : Int)
      · rw [if_pos hc, if_pos (zlcmp_eq.mpr rfl), j_X2_putRightByAll_39]
      · rw [if_neg hc, j_X2_putRightByAll_39]
theorem s_putRightByAll {l : List Nat} (h : LnS m b) (hv : LnV m b num lost es) (hl : rOk l) :
    zF zP 77 v [.inr (.inr (some b)), .inr (.inl (zrow l))] m = some (some (.inr (.inl (zro (lall es l)))), m) := by
  rw [f_X2_putRightByAll]
  exact s_putRightByAll_loop h hv _ es 0 l rfl hl
def vainE : List zEd → Nat → Int → List Nat → Int
  | [], _, acc, _ => acc
  | e :: r, k, acc, l => vainE r (k + 1) (if edone e l = none then zor acc (zshl 1 (k : Int)) else acc) ((edone e l).getD l)
theorem s_vainEdits_loop (h : LnS m b) (hv : LnV m b num lost es) (y1 : Int) : ∀ (r : List zEd) (k : Nat) (acc : Int) (l : List Nat) (u7 u8 : Option zV), es.drop k = r → rOk l →
    zX zP 78 v 8 [some (.inr (.inr (some b))), some (.inr (.inl y1)), none, some (.inl acc), some (.inr (.inl (zrow l))), none, some (.inl (k : Int)), u7, u8] [] m = some (some (.inl (vainE r k acc l)), m) := by
  intro r
  induction r with
  | nil =>
    intro k acc l u7 u8 hk hl
    have h1 : es.length ≤ k := List.drop_eq_nil_iff.mp hk
    rw [j_X2_vainEdits_8, if_pos h.1, hv.2.1, if_neg (by omega), j_X2_vainEdits_59]; rfl
  | cons e r ih =>
    intro k acc l u7 u8 hk hl
    obtain ⟨h1, h4, he, h3, hE⟩ := LnV.at h hv hk
    rw [j_X2_vainEdits_8, if_pos h.1, hv.2.1, if_pos (by omega), if_pos h.1, hE, zC1_s, s_done he hl, zC2_s, vainE]
    cases hq : edone e l with
    | none =>
      rw [if_pos (zro_m1.mpr rfl), j_X2_vainEdits_53, zadd1 (by omega), ih (k + 1) _ l _ _ h3 hl, if_pos rfl]; rfl
    | some l2 =>
      rw [if_neg (fun q => by have := zro_m1.mp q; cases this), j_X2_vainEdits_49, j_X2_vainEdits_53, zadd1 (by omega), if_neg (fun q => by cases q)]
      exact ih (k + 1) _ l2 _ _ h3 (edone_ok he hl hq)
theorem s_vainEdits {l : List Nat} (h : LnS m b) (hv : LnV m b num lost es) (hl : rOk l) :
    zF zP 78 v [.inr (.inr (some b)), .inr (.inl (zrow l))] m = some (some (.inl (vainE es 0 0 l)), m) := by
  rw [f_X2_vainEdits]
  exact s_vainEdits_loop h hv _ es 0 0 l _ _ rfl hl
def soughtE : List zEd → Int → Int
  | [], acc => acc
  | e :: r, acc => soughtE r (zor acc (zshl 1 (e.2.1 : Int)))
theorem s_soughtSet_loop (h : LnS m b) (hv : LnV m b num lost es) : ∀ (r : List zEd) (k : Nat) (acc : Int), es.drop k = r →
    zX zP 76 v 4 [some (.inr (.inr (some b))), some (.inl acc), some (.inl (k : Int))] [] m = some (some (.inl (soughtE r acc)), m) := by
  intro r
  induction r with
  | nil =>
    intro k acc hk
    have h1 : es.length ≤ k := List.drop_eq_nil_iff.mp hk
    rw [j_X2_soughtSet_4, if_pos h.1, hv.2.1, if_neg (by omega), j_X2_soughtSet_31]; rfl
  | cons e r ih =>
    intro k acc hk
    obtain ⟨h1, h4, he, h3, hE⟩ := LnV.at h hv hk
    rw [j_X2_soughtSet_4, if_pos h.1, hv.2.1, if_pos (by omega), if_pos h.1, hE, zC1_s, s_wordOf he, zC1_s, zadd1 (by omega), ih (k + 1) _ h3]; rfl
theorem s_soughtSet (h : LnS m b) (hv : LnV m b num lost es) : zF zP 76 v [.inr (.inr (some b))] m = some (some (.inl (soughtE es 0)), m) := by
  rw [f_X2_soughtSet]
  exact s_soughtSet_loop h hv es 0 0 rfl
def cntF : List Nat → Nat → Int → Int
  | [], _, acc => acc
  | x :: r, w, acc => cntF r w (if x = w then zadd acc 1 else acc)
theorem s_howOften_loop {l : List Nat} {w : Nat} (h : rOk l) : ∀ (r : List Nat) (k : Nat) (acc : Int), l.drop k = r →
    zX zP 79 v 5 [some (.inr (.inl (zrow l))), none, some (.inl (w : Int)), some (.inl acc), some (.inl (k : Int))] [] m = some (some (.inl (cntF r w acc)), m) := by
  have hl := h.1
  intro r
  induction r with
  | nil =>
    intro k acc hk
    have h1 : l.length ≤ k := List.drop_eq_nil_iff.mp hk
    rw [j_X3_howOften_5, s_size h, zC1_s, if_neg (by omega), j_X3_howOften_33]; rfl
  | cons x r ih =>
    intro k acc hk
    obtain ⟨h1, h2, h3⟩ := drop_cons hk
    rw [j_X3_howOften_5, s_size h, zC1_s, if_pos (by omega), s_wordAt h (by omega), zC1_s, h2, cntF]
    by_cases e : x = w
    · rw [if_pos (by omega), if_pos e, j_X3_howOften_27, zadd1 (by omega), ih (k + 1) _ h3]
    · rw [if_neg (by omega), if_neg e, j_X3_howOften_27, zadd1 (by omega), ih (k + 1) _ h3]
theorem s_howOften {l : List Nat} {w : Nat} (h : rOk l) : zF zP 79 v [.inr (.inl (zrow l)), .inl (w : Int)] m = some (some (.inl (cntF l w 0)), m) := by
  rw [f_X3_howOften]
  exact s_howOften_loop h l 0 0 rfl
def rsetF : List Nat → Int → Int
  | [], acc => acc
  | x :: r, acc => rsetF r (zor acc (zshl 1 (x : Int)))
theorem s_rwordSet_loop {l : List Nat} (h : rOk l) : ∀ (r : List Nat) (k : Nat) (acc : Int), l.drop k = r →
    zX zP 80 v 4 [some (.inr (.inl (zrow l))), none, some (.inl acc), some (.inl (k : Int))] [] m = some (some (.inl (rsetF r acc)), m) := by
  have hl := h.1
  intro r
  induction r with
  | nil =>
    intro k acc hk
    have h1 : l.length ≤ k := List.drop_eq_nil_iff.mp hk
    rw [j_X3_wordSet_4, s_size h, zC1_s, if_neg (by omega), j_X3_wordSet_28]; rfl
  | cons x r ih =>
    intro k acc hk
    obtain ⟨h1, h2, h3⟩ := drop_cons hk
    rw [j_X3_wordSet_4, s_size h, zC1_s, if_pos (by omega), s_wordAt h (by omega), zC1_s, h2, zadd1 (by omega), ih (k + 1) _ h3]; rfl
theorem s_rwordSet {l : List Nat} (h : rOk l) : zF zP 80 v [.inr (.inl (zrow l))] m = some (some (.inl (rsetF l 0)), m) := by
  rw [f_X3_wordSet]
  exact s_rwordSet_loop h l 0 0 rfl
/-- a set's bit; a set with its neighbours; ways -/
def bitI (x : Int) (i : Nat) : Bool := !decide (zand (zshr x (i : Int)) 1 = 0)
def nbO (L : zLd) (s : Int) : Nat → Nat → Int → Int
  | 0, _, acc => acc
  | n + 1, i, acc => nbO L s n (i + 1) (setF (fun k => bitI s i && ljoin L i k) L.2.1.length 0 acc)
theorem s_nb_in {s : Int} {i : Nat} (h : LdS m a) (hL : LdV m a L) (hi : i < L.2.1.length) : ∀ (n k : Nat) (acc : Int), k + n = L.2.1.length →
    zX zP 39 v 15 [some (.inr (.inr (some a))), some (.inl s), some (.inl acc), some (.inl (i : Int)), some (.inl (k : Int))] [] m =
    zX zP 39 v 55 [some (.inr (.inr (some a))), some (.inl s), some (.inl (setF (fun k => bitI s i && ljoin L i k) n k acc)), some (.inl (i : Int)), some (.inl (L.2.1.length : Int))] [] m := by
  have hn := hL.2.1.1
  have h8 := hL.2.1.2.1
  intro n
  induction n with
  | zero =>
    intro k acc hk
    rw [j_X0_withNeighbours_15, if_pos h.1, hn, if_neg (by omega), show k = L.2.1.length by omega]; rfl
  | succ n ih =>
    intro k acc hk
    rw [j_X0_withNeighbours_15, if_pos h.1, hn, if_pos (by omega), setF]
    by_cases e : zand (zshr s (i : Int)) 1 = 0
    · have e' : ¬ ((bitI s i && ljoin L i k) = true) := by unfold bitI; rw [decide_eq_true e]; exact Bool.noConfusion
      rw [if_pos e, if_neg e', j_X0_withNeighbours_49, zadd1 (by omega), ih (k + 1) _ (by omega)]
    · have e' : (bitI s i && ljoin L i k) = ljoin L i k := by unfold bitI; rw [decide_eq_false e]; rfl
      rw [if_neg e, if_pos h.1, s_areJoined h hL hi (by omega), zC1_s, e']
      by_cases g : ljoin L i k = true
      · rw [b01_t g, if_neg (by decide), if_pos g, j_X0_withNeighbours_49, zadd1 (by omega), ih (k + 1) _ (by omega)]
      · rw [b01_f g, if_pos rfl, if_neg g, j_X0_withNeighbours_49, zadd1 (by omega), ih (k + 1) _ (by omega)]
theorem s_nb_out {s : Int} (h : LdS m a) (hL : LdV m a L) : ∀ (n i : Nat) (acc : Int) (u4 : Option zV), i + n = L.2.1.length →
    zX zP 39 v 4 [some (.inr (.inr (some a))), some (.inl s), some (.inl acc), some (.inl (i : Int)), u4] [] m = some (some (.inl (nbO L s n i acc)), m) := by
  have hn := hL.2.1.1
  have h8 := hL.2.1.2.1
  intro n
  induction n with
  | zero =>
    intro i acc u4 hk
    rw [j_X0_withNeighbours_4, if_pos h.1, hn, if_neg (by omega), j_X0_withNeighbours_61]; rfl
  | succ n ih =>
    intro i acc u4 hk
    rw [j_X0_withNeighbours_4, if_pos h.1, hn, if_pos (by omega)]
    have := s_nb_in (v := v) (s := s) h hL (i := i) (by omega) L.2.1.length 0 acc (by omega)
    rw [show (0 : Int) = ((0 : Nat) : Int) from rfl, this, j_X0_withNeighbours_55, zadd1 (by omega), ih (i + 1) _ _ (by omega)]; rfl
def lnb (L : zLd) (s : Int) : Int := nbO L s L.2.1.length 0 s
theorem s_withNeighbours {s : Int} (h : LdS m a) (hL : LdV m a L) : zF zP 39 v [.inr (.inr (some a)), .inl s] m = some (some (.inl (lnb L s)), m) := by
  rw [f_X0_withNeighbours]
  exact s_nb_out h hL _ 0 s _ (by omega)
theorem s_reached_loop {x : Int} (h : LdS m a) (hL : LdV m a L) : ∀ (n k : Nat) (s : Int), k + n = L.2.1.length →
    zX zP 40 v 6 [some (.inr (.inr (some a))), some (.inl x), some (.inl s), some (.inl (k : Int))] [] m = some (some (.inl (itr (lnb L) n s)), m) := by
  have hn := hL.2.1.1
  have h8 := hL.2.1.2.1
  intro n
  induction n with
  | zero =>
    intro k s hk
    rw [j_X0_reached_6, if_pos h.1, hn, if_neg (by omega), j_X0_reached_26]; rfl
  | succ n ih =>
    intro k s hk
    rw [j_X0_reached_6, if_pos h.1, hn, if_pos (by omega), if_pos h.1, s_withNeighbours h hL, zC1_s, zadd1 (by omega), ih (k + 1) _ (by omega)]; rfl
theorem s_reached {x : Int} (h : LdS m a) (hL : LdV m a L) : zF zP 40 v [.inr (.inr (some a)), .inl x] m = some (some (.inl (itr (lnb L) L.2.1.length (zshl 1 x))), m) := by
  rw [f_X0_reached]
  exact s_reached_loop h hL _ 0 _ (by omega)
def goF (L : zLd) (to : Nat) : Nat → Nat → Int → Int
  | 0, _, _ => -1
  | n + 1, k, s => if bitI s to = true then (k : Int) else goF L to n (k + 1) (lnb L s)
theorem s_goings_loop {x : Int} {to : Nat} (h : LdS m a) (hL : LdV m a L) : ∀ (n k : Nat) (s : Int), k + n = L.2.1.length →
    zX zP 41 v 7 [some (.inr (.inr (some a))), some (.inl x), some (.inl (to : Int)), some (.inl s), some (.inl (k : Int))] [] m = some (some (.inl (goF L to n k s)), m) := by
  have hn := hL.2.1.1
  have h8 := hL.2.1.2.1
  intro n
  induction n with
  | zero =>
    intro k s hk
    rw [j_X0_goings_7, if_pos h.1, hn, if_neg (by omega), j_X0_goings_39]; rfl
  | succ n ih =>
    intro k s hk
    rw [j_X0_goings_7, if_pos h.1, hn, if_pos (by omega), goF]
    by_cases e : zand (zshr s (to : Int)) 1 = 0
    · have e' : ¬ (bitI s to = true) := by unfold bitI; rw [decide_eq_true e]; exact Bool.noConfusion
      rw [if_pos e, if_neg e', j_X0_goings_27, if_pos h.1, s_withNeighbours h hL, zC1_s, zadd1 (by omega), ih (k + 1) _ (by omega)]
    · have e' : bitI s to = true := by unfold bitI; rw [decide_eq_false e]; rfl
      rw [if_neg e, if_pos e']
def lgo (L : zLd) (i to : Nat) : Int := goF L to L.2.1.length 0 (zshl 1 (i : Int))
theorem s_goings {i to : Nat} (h : LdS m a) (hL : LdV m a L) : zF zP 41 v [.inr (.inr (some a)), .inl (i : Int), .inl (to : Int)] m = some (some (.inl (lgo L i to)), m) := by
  rw [f_X0_goings]
  exact s_goings_loop h hL _ 0 _ (by omega)
def lfirst (L : zLd) (i to : Nat) (g : Int) : Int := firstK (fun k => ljoin L i k && decide (lgo L k to = zsub g 1)) L.2.1.length 0
theorem s_firstOfRoute_loop {i to : Nat} {g : Int} (h : LdS m a) (hL : LdV m a L) (hi : i < L.2.1.length) : ∀ (n k : Nat), k + n = L.2.1.length →
    zX zP 42 v 3 [some (.inr (.inr (some a))), some (.inl (i : Int)), some (.inl (to : Int)), some (.inl g), some (.inl (k : Int))] [] m = some (some (.inl (firstK (fun k => ljoin L i k && decide (lgo L k to = zsub g 1)) n k)), m) := by
  have hn := hL.2.1.1
  have h8 := hL.2.1.2.1
  intro n
  induction n with
  | zero =>
    intro k hk
    rw [j_X0_firstOfRoute_3, if_pos h.1, hn, if_neg (by omega), j_X0_firstOfRoute_44]; rfl
  | succ n ih =>
    intro k hk
    rw [j_X0_firstOfRoute_3, if_pos h.1, hn, if_pos (by omega), if_pos h.1, s_areJoined h hL hi (by omega), zC1_s, firstK]
    by_cases e : ljoin L i k = true
    · rw [b01_t e, if_neg (by decide), if_pos h.1, s_goings h hL, zC1_s, e, Bool.true_and]
      by_cases e2 : lgo L k to = zsub g 1
      · rw [if_pos e2, if_pos (decide_eq_true e2)]
      · rw [if_neg e2, if_neg (by rw [decide_eq_true_eq]; exact e2), j_X0_firstOfRoute_38, zadd1 (by omega), ih (k + 1) (by omega)]
    · rw [b01_f e, if_pos rfl, if_neg (by rw [show ljoin L i k = false by simpa using e]; exact Bool.noConfusion), j_X0_firstOfRoute_38, zadd1 (by omega), ih (k + 1) (by omega)]
theorem s_firstOfRoute {i to : Nat} {g : Int} (h : LdS m a) (hL : LdV m a L) (hi : i < L.2.1.length) : zF zP 42 v [.inr (.inr (some a)), .inl (i : Int), .inl (to : Int), .inl g] m = some (some (.inl (lfirst L i to g)), m) := by
  rw [f_X0_firstOfRoute]
  exact s_firstOfRoute_loop h hL hi _ 0 (by omega)
end SE1
