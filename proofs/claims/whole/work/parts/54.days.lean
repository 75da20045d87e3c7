/-! DAYS: what PEOPLE will say, what they say then. -/
def row0 (L : zLd) (p : Nat) : List Nat := (L.2.2.1.getD p ps0).2.2
def inDays (L : zLd) (p n : Nat) : List Nat := itr (lday L p) n (row0 L p)
def sfF (g : List Nat → List Nat) (t : List Nat → Bool) : Nat → Nat → List Nat → Int
  | 0, _, _ => -1
  | n + 1, k, l => if t l = true then (k : Int) else sfF g t n (k + 1) (g l)
def mapP (L : zLd) (f : Nat → List Nat) : zLd := (L.1, L.2.1, (List.range L.2.2.1.length).map (fun i => ((L.2.2.1.getD i ps0).1, (L.2.2.1.getD i ps0).2.1, f i)), L.2.2.2)
theorem mapP_len (L : zLd) (f : Nat → List Nat) : (mapP L f).2.2.1.length = L.2.2.1.length := by unfold mapP; dsimp only; rw [List.length_map, List.length_range]
theorem mapP_get (L : zLd) (f : Nat → List Nat) {i : Nat} (hi : i < L.2.2.1.length) : (mapP L f).2.2.1.getD i ps0 = ((L.2.2.1.getD i ps0).1, (L.2.2.1.getD i ps0).2.1, f i) := by
  unfold mapP
  dsimp only
  rw [List.getD_eq_getElem?_getD, List.getElem?_map, List.getElem?_range hi]
  rfl
theorem ps_ext {a b : List zPs0} (h : a.length = b.length) (h2 : ∀ i, i < a.length → a.getD i ps0 = b.getD i ps0) : a = b := by
  apply List.ext_getElem h
  intro i h3 h4
  have := h2 i h3
  rw [List.getD_eq_getElem?_getD, List.getD_eq_getElem?_getD, List.getElem?_eq_getElem h3, List.getElem?_eq_getElem h4] at this
  exact this
theorem mapP_id {L : zLd} {f : Nat → List Nat} (h : ∀ i, i < L.2.2.1.length → f i = row0 L i) : mapP L f = L := by
  obtain ⟨a, b, c, d⟩ := L
  have : (mapP (a, b, c, d) f).2.2.1 = c := by
    apply ps_ext (mapP_len _ _)
    intro i hi
    rw [mapP_len] at hi
    rw [mapP_get _ _ hi, h i hi]; rfl
  show (a, b, (mapP (a, b, c, d) f).2.2.1, d) = _
  rw [this]
theorem mapP_set (L : zLd) (f : Nat → List Nat) {p : Nat} (hp : p < L.2.2.1.length) (r : List Nat) : psSet (mapP L f) p (((mapP L f).2.2.1.getD p ps0).1, ((mapP L f).2.2.1.getD p ps0).2.1, r) = mapP L (fun i => if i = p then r else f i) := by
  have : (psSet (mapP L f) p (((mapP L f).2.2.1.getD p ps0).1, ((mapP L f).2.2.1.getD p ps0).2.1, r)).2.2.1 = (mapP L (fun i => if i = p then r else f i)).2.2.1 := by
    have e1 : (psSet (mapP L f) p (((mapP L f).2.2.1.getD p ps0).1, ((mapP L f).2.2.1.getD p ps0).2.1, r)).2.2.1 = (mapP L f).2.2.1.set p (((mapP L f).2.2.1.getD p ps0).1, ((mapP L f).2.2.1.getD p ps0).2.1, r) := rfl
    rw [e1]
    apply ps_ext
    · rw [List.length_set, mapP_len, mapP_len]
    · intro i hi
      rw [List.length_set, mapP_len] at hi
      have eR := mapP_get L (fun i => if i = p then r else f i) hi
      have eL := mapP_get L f hi
      have eP := mapP_get L f hp
      rw [getD_set, eR, mapP_len]
      by_cases e : p = i
      · subst e; rw [if_pos ⟨rfl, hi⟩, eP, if_pos rfl]
      · rw [if_neg (fun q => e q.1), eL, if_neg (fun q => e q.symm)]
  show (L.1, L.2.1, (psSet (mapP L f) p (((mapP L f).2.2.1.getD p ps0).1, ((mapP L f).2.2.1.getD p ps0).2.1, r)).2.2.1, L.2.2.2) = _
  rw [this]; rfl
theorem mapP_lday (L : zLd) (f : Nat → List Nat) {p : Nat} (hp : p < L.2.2.1.length) : lday (mapP L f) p = lday L p := by
  funext l
  unfold lday
  rw [mapP_get _ _ hp]; rfl
theorem mapP_row (L : zLd) (f : Nat → List Nat) {p : Nat} (hp : p < L.2.2.1.length) : row0 (mapP L f) p = f p := by unfold row0; rw [mapP_get _ _ hp]
theorem mapP_map (L : zLd) (f g : Nat → List Nat) : mapP (mapP L f) g = mapP L g := by
  have : (mapP (mapP L f) g).2.2.1 = (mapP L g).2.2.1 := by
    apply ps_ext
    · rw [mapP_len, mapP_len, mapP_len]
    · intro i hi
      rw [mapP_len, mapP_len] at hi
      rw [mapP_get _ _ (by rw [mapP_len]; exact hi), mapP_get _ _ hi, mapP_get _ _ hi]
  show (L.1, L.2.1, (mapP (mapP L f) g).2.2.1, L.2.2.2) = _
  rw [this]; rfl
theorem mapP_congr {L : zLd} {f g : Nat → List Nat} (h : ∀ i, i < L.2.2.1.length → f i = g i) : mapP L f = mapP L g := by
  have : (mapP L f).2.2.1 = (mapP L g).2.2.1 := by
    apply ps_ext
    · rw [mapP_len, mapP_len]
    · intro i hi
      rw [mapP_len] at hi
      rw [mapP_get _ _ hi, mapP_get _ _ hi, h i hi]
  show (L.1, L.2.1, (mapP L f).2.2.1, L.2.2.2) = _
  rw [this]; rfl
theorem itr_succ {α : Type} (f : α → α) : ∀ (n : Nat) (x : α), itr f (n + 1) x = f (itr f n x)
  | 0, x => rfl
  | n + 1, x => by
    show itr f (n + 1) (f x) = f (itr f n (f x))
    exact itr_succ f n (f x)
def o_longIn (S : zSt) (p d : Int) : Int × zSt := if inB p (gL S).2.2.1.length = true then (if inR d 0 500 = true then oYes S ((inDays (gL S) p.toNat d.toNat).length : Int) else oNo S 5) else oNo S 2
def o_sayIn (S : zSt) (p d k : Int) : Int × zSt := if inB p (gL S).2.2.1.length = true then (if inR d 0 500 = true then oWd S (inDays (gL S) p.toNat d.toNat) k else oNo S 5) else oNo S 2
def oFd (S : zSt) (x : Int) : Int × zSt := if x = -1 then oNo S 8 else oYes S x
def o_saysFirst (S : zSt) (p w : Int) : Int × zSt := if inB p (gL S).2.2.1.length = true then (if inB w (gL S).1.length = true then oFd S (sfF (lday (gL S) p.toNat) (fun l => !decide (ixF l w.toNat 0 = -1)) 501 0 (row0 (gL S) p.toNat)) else oNo S 2) else oNo S 2
def o_silentIn (S : zSt) (p : Int) : Int × zSt := if inB p (gL S).2.2.1.length = true then oFd S (sfF (lday (gL S) p.toNat) (fun l => decide (l.length = 0)) 501 0 (row0 (gL S) p.toNat)) else oNo S 2
def alF (L : zLd) (p d : Nat) : Nat → Bool := fun q => !decide (q = p) && decide (inDays L q d = inDays L p d)
def o_alikeIn (S : zSt) (p d : Int) : Int × zSt := if inB p (gL S).2.2.1.length = true then (if inR d 0 500 = true then oYes S (setF (alF (gL S) p.toNat d.toNat) (gL S).2.2.1.length 0 0) else oNo S 5) else oNo S 2
def dayL (L : zLd) (n : Nat) : zLd := tdSet (mapP L (fun i => inDays L i n)) (L.2.2.2.2 + (n : Int))
def o_day (S : zSt) (n : Int) : Int × zSt := if inR n 1 99 = true then (if 9999 < zadd (gL S).2.2.2.2 n then oNo S 7 else oYes (wL S (tdSet (mapP (gL S) (fun i => inDays (gL S) i n.toNat)) (zadd (gL S).2.2.2.2 n))) (setF (fun i => !decide (inDays (gL S) i n.toNat = row0 (gL S) i)) (gL S).2.2.1.length 0 0)) else oNo S 5
theorem alF_s (L : zLd) (p d : Nat) : ¬ alF L p d p = true := by unfold alF; rw [decide_eq_true rfl]; exact fun q => absurd (show false = true from q) (by decide)
theorem alF_n {L : zLd} {p d k : Nat} (h : ¬ k = p) : alF L p d k = decide (inDays L k d = inDays L p d) := by unfold alF; rw [decide_eq_false h]; rfl
section DAYS1
variable {v : Nat} {S : zSt} {m m' : zM}
theorem R1.row (hR : R1 S m) {p : Nat} (hp : p < (gL S).2.2.1.length) : rOk (row0 (gL S) p) := (hR.ll.2.rowOk hp).2
theorem itr_ok {a : Nat} {L : zLd} (hL : LdV m a L) {p : Nat} (hp : p < L.2.2.1.length) : ∀ (n : Nat) (l : List Nat), rOk l → rOk (itr (lday L p) n l)
  | 0, l, h => h
  | n + 1, l, h => itr_ok hL hp n _ (lday_ok hL hp h)
theorem inDays_ok {a : Nat} {L : zLd} (hL : LdV m a L) {p : Nat} (hp : p < L.2.2.1.length) (n : Nat) : rOk (inDays L p n) := itr_ok hL hp n _ (hL.rowOk hp).2
theorem s_rowInD {a : Nat} {L : zLd} {p d : Nat} (h : LdS m a) (hL : LdV m a L) (hp : p < L.2.2.1.length) (hd : d < 1000000) : zF zP 52 v [(.inr (.inr (some a))), .inl (p : Int), .inl (d : Int)] m = some (some (.inr (.inl (zrow (inDays L p d)))), m) := s_rowIn h hL hp hd
theorem c_futureStatus (hR : R1 S m) (p d : Int) : zF zP 226 v [(.inr (.inr (some 0))), .inl p, .inl d] m = some (some (.inl (if inB p (gL S).2.2.1.length = true then (if inR d 0 500 = true then 0 else 5) else 2)), m) := by
  obtain ⟨hl, hv⟩ := hR.ll
  rw [f_X10_futureStatus, if_pos hR.1.1, hR.r2, obind, if_pos hR.t5, s_hasPerson hR.t5 hv.2.2.1.1, zC1_s]
  by_cases h : inB p (gL S).2.2.1.length = true
  · rw [if_neg (by rw [h]; decide), if_pos h, j_X10_futureStatus_13]
    by_cases g : inR d 0 500 = true
    · rw [if_pos g]
      rw [inR_t] at g
      rw [if_neg (by omega), if_neg (by omega), j_X10_futureStatus_28, j_X10_futureStatus_29]
    · rw [if_neg g]
      rw [inR_t] at g
      by_cases g0 : d < 0
      · rw [if_pos g0, j_X10_futureStatus_24, j_X10_futureStatus_29]
      · rw [if_neg g0, if_pos (by omega), j_X10_futureStatus_24, j_X10_futureStatus_29]
  · rw [if_pos (b01_ne.mpr (bool_f h)), if_neg h]
theorem p_longIn (hR : R1 S m) (p d : Int) : Ex1 (zF zP 227 v [(.inr (.inr (some 0))), .inl p, .inl d] m) (o_longIn S p d) := by
  obtain ⟨hl, hv⟩ := hR.ll
  unfold o_longIn
  rw [f_X10_longIn, if_pos hR.1.1, c_futureStatus hR, zC1_s]
  by_cases h : inB p (gL S).2.2.1.length = true
  · rw [if_pos h, if_pos h]
    by_cases g : inR d 0 500 = true
    · rw [if_pos g, if_pos g]
      obtain ⟨i, rfl, hi⟩ := inB_nat h
      rw [inR_t] at g
      obtain ⟨n, rfl⟩ := Int.eq_ofNat_of_zero_le g.1
      rw [if_pos rfl, if_pos hR.1.1, hR.r2, obind, if_pos hR.t5, s_rowInD hl hv hi (by omega), zC2_s, s_size (inDays_ok hv hi n), zC1_s, if_pos hR.1.1, c_yes hR.1, zC1_s, j_X10_longIn_35, Int.toNat_natCast, Int.toNat_natCast]
      exact x1_yes hR
    · rw [if_neg g, if_neg g, if_neg (by decide), j_X10_longIn_30, if_pos hR.1.1, c_no hR.1, zC1_s, j_X10_longIn_35]; exact x1_no hR
  · rw [if_neg h, if_neg h, if_neg (by decide), j_X10_longIn_30, if_pos hR.1.1, c_no hR.1, zC1_s, j_X10_longIn_35]; exact x1_no hR
theorem p_sayIn (hR : R1 S m) (p d k : Int) : Ex1 (zF zP 228 v [(.inr (.inr (some 0))), .inl p, .inl d, .inl k] m) (o_sayIn S p d k) := by
  obtain ⟨hl, hv⟩ := hR.ll
  unfold o_sayIn
  rw [f_X10_sayIn, if_pos hR.1.1, c_futureStatus hR, zC1_s]
  by_cases h : inB p (gL S).2.2.1.length = true
  · rw [if_pos h, if_pos h]
    by_cases g : inR d 0 500 = true
    · rw [if_pos g, if_pos g]
      obtain ⟨i, rfl, hi⟩ := inB_nat h
      rw [inR_t] at g
      obtain ⟨n, rfl⟩ := Int.eq_ofNat_of_zero_le g.1
      obtain ⟨m1, e1, e2⟩ := c_wordOrNone (v := 0) hR (inDays_ok hv hi n) k
      rw [if_pos rfl, if_pos hR.1.1, hR.r2, obind, if_pos hR.t5, s_rowInD hl hv hi (by omega), zC2_s, if_pos hR.1.1, Int.toNat_natCast, Int.toNat_natCast]
      show Ex1 (zC1 (zF zP 186 0 [(.inr (.inr (some 0))), .inr (.inl (zrow (inDays (gL S) i n))), .inl k] m) _) _
      rw [e1, zC1_s, j_X10_sayIn_36]
      exact ⟨m1, rfl, e2⟩
    · rw [if_neg g, if_neg g, if_neg (by decide), j_X10_sayIn_30, if_pos hR.1.1, c_no hR.1, zC1_s, j_X10_sayIn_36]; exact x1_no hR
  · rw [if_neg h, if_neg h, if_neg (by decide), j_X10_sayIn_30, if_pos hR.1.1, c_no hR.1, zC1_s, j_X10_sayIn_36]; exact x1_no hR
theorem p_saysFirst_loop (hR : R1 S m) {p w : Nat} (hp : p < (gL S).2.2.1.length) : ∀ (n k : Nat) (l : List Nat), k + n = 501 → rOk l →
    Ex1 (zX zP 229 v 40 [some (.inr (.inr (some 0))), some (.inl (p : Int)), some (.inl (w : Int)), some (.inr (.inl (zrow l))), none, some (.inl (k : Int))] [] m) (oFd S (sfF (lday (gL S) p) (fun l => !decide (ixF l w 0 = -1)) n k l)) := by
  obtain ⟨hl, hv⟩ := hR.ll
  intro n
  induction n with
  | zero =>
    intro k l hk hok
    rw [j_X10_saysFirst_40, if_pos (by omega), j_X10_saysFirst_80, if_pos hR.1.1]
    exact x1_noC hR
  | succ n ih =>
    intro k l hk hok
    rw [j_X10_saysFirst_40, if_neg (by omega), s_find hok, zC1_s, sfF]
    by_cases e : ixF l w 0 = -1
    · rw [if_pos e, j_X10_saysFirst_64, if_pos hR.1.1, hR.r2, obind, if_pos hR.t5, s_rowNextDay hl hv hp hok, zC2_s, zadd1 (by omega), if_neg (by rw [decide_eq_true e]; decide)]
      exact ih (k + 1) _ (by omega) (lday_ok hv hp hok)
    · rw [if_neg e, if_pos hR.1.1, if_pos (by rw [decide_eq_false e]; rfl)]
      unfold oFd
      rw [if_neg (by omega)]
      exact x1_yesC hR
theorem p_saysFirst (hR : R1 S m) (p w : Int) : Ex1 (zF zP 229 v [(.inr (.inr (some 0))), .inl p, .inl w] m) (o_saysFirst S p w) := by
  obtain ⟨hl, hv⟩ := hR.ll
  have h6 := hR.p6
  unfold o_saysFirst
  rw [f_X10_saysFirst, if_pos hR.1.1, hR.r2, obind, if_pos hR.t5, s_hasPerson hR.t5 hv.2.2.1.1, zC1_s]
  by_cases h : inB p (gL S).2.2.1.length = true
  · rw [if_neg (by rw [h]; decide), if_pos h, if_pos hR.1.1, hR.r2, obind, if_pos hR.t5, s_hasWord hR.t5 hv.1.1, zC1_s]
    by_cases g : inB w (gL S).1.length = true
    · obtain ⟨i, rfl, hi⟩ := inB_nat h
      obtain ⟨k, rfl, hk⟩ := inB_nat g
      rw [if_neg (by rw [g]; decide), if_pos g, j_X10_saysFirst_28, if_pos hR.1.1, hR.r2, obind, if_pos hR.t5, s_rowAt hl (by omega), zC2_s, (hv.rowOk hi).1, Int.toNat_natCast, Int.toNat_natCast]
      exact p_saysFirst_loop hR hi 501 0 _ (by omega) (hv.rowOk hi).2
    · rw [if_pos (b01_ne.mpr (bool_f g)), if_neg g, j_X10_saysFirst_22, if_pos hR.1.1]; exact x1_noC hR
  · rw [if_pos (b01_ne.mpr (bool_f h)), if_neg h, j_X10_saysFirst_22, if_pos hR.1.1]; exact x1_noC hR
theorem p_silentIn_loop (hR : R1 S m) {p : Nat} (hp : p < (gL S).2.2.1.length) : ∀ (n k : Nat) (l : List Nat), k + n = 501 → rOk l →
    Ex1 (zX zP 230 v 29 [some (.inr (.inr (some 0))), some (.inl (p : Int)), some (.inr (.inl (zrow l))), none, some (.inl (k : Int))] [] m) (oFd S (sfF (lday (gL S) p) (fun l => decide (l.length = 0)) n k l)) := by
  obtain ⟨hl, hv⟩ := hR.ll
  intro n
  induction n with
  | zero =>
    intro k l hk hok
    rw [j_X10_silentIn_29, if_pos (by omega), j_X10_silentIn_67, if_pos hR.1.1]
    exact x1_noC hR
  | succ n ih =>
    intro k l hk hok
    rw [j_X10_silentIn_29, if_neg (by omega), s_size hok, zC1_s, sfF]
    by_cases e : l.length = 0
    · rw [if_pos (by omega), if_pos hR.1.1, if_pos (decide_eq_true e)]
      unfold oFd
      rw [if_neg (by omega)]
      exact x1_yesC hR
    · rw [if_neg (by omega), j_X10_silentIn_51, if_pos hR.1.1, hR.r2, obind, if_pos hR.t5, s_rowNextDay hl hv hp hok, zC2_s, zadd1 (by omega), if_neg (by rw [decide_eq_false e]; decide)]
      exact ih (k + 1) _ (by omega) (lday_ok hv hp hok)
theorem p_silentIn (hR : R1 S m) (p : Int) : Ex1 (zF zP 230 v [(.inr (.inr (some 0))), .inl p] m) (o_silentIn S p) := by
  obtain ⟨hl, hv⟩ := hR.ll
  have h6 := hR.p6
  unfold o_silentIn
  rw [f_X10_silentIn, if_pos hR.1.1, hR.r2, obind, if_pos hR.t5, s_hasPerson hR.t5 hv.2.2.1.1, zC1_s]
  by_cases h : inB p (gL S).2.2.1.length = true
  · obtain ⟨i, rfl, hi⟩ := inB_nat h
    rw [if_neg (by rw [h]; decide), if_pos h, j_X10_silentIn_17, if_pos hR.1.1, hR.r2, obind, if_pos hR.t5, s_rowAt hl (by omega), zC2_s, (hv.rowOk hi).1, Int.toNat_natCast]
    exact p_silentIn_loop hR hi 501 0 _ (by omega) (hv.rowOk hi).2
  · rw [if_pos (b01_ne.mpr (bool_f h)), if_neg h, if_pos hR.1.1]; exact x1_noC hR
theorem p_alikeIn_loop (hR : R1 S m) {p d : Nat} (hp : p < (gL S).2.2.1.length) (hd : d < 1000000) (x3 : Int) : ∀ (n k : Nat) (acc : Int), k + n = (gL S).2.2.1.length →
    Ex1 (zX zP 231 v 34 [some (.inr (.inr (some 0))), some (.inl (p : Int)), some (.inl (d : Int)), some (.inl x3), some (.inr (.inl (zrow (inDays (gL S) p d)))), none, some (.inl acc), some (.inl (k : Int))] [] m) (oYes S (setF (alF (gL S) p d) n k acc)) := by
  obtain ⟨hl, hv⟩ := hR.ll
  have h6 := hR.p6
  have hn := hv.2.2.1.1
  intro n
  induction n with
  | zero =>
    intro k acc hk
    rw [j_X10_alikeIn_34, if_pos hR.1.1, hR.r2, obind, if_pos hR.t5, hn, if_neg (by omega), j_X10_alikeIn_83, if_pos hR.1.1]
    exact x1_yesC hR
  | succ n ih =>
    intro k acc hk
    rw [j_X10_alikeIn_34, if_pos hR.1.1, hR.r2, obind, if_pos hR.t5, hn, if_pos (by omega), setF]
    by_cases e : k = p
    · rw [if_pos (by omega), j_X10_alikeIn_77, zadd1 (by omega), if_neg (by rw [e]; exact alF_s _ _ _)]
      exact ih (k + 1) acc (by omega)
    · rw [if_neg (by omega), if_pos hR.1.1, obind, if_pos hR.t5, s_rowInD hl hv (show k < (gL S).2.2.1.length by omega) hd, zC2_s]
      by_cases g : inDays (gL S) k d = inDays (gL S) p d
      · rw [if_pos (zlcmp_eq.mpr (by show zrow (inDays (gL S) k d) = _; rw [g])), j_X10_alikeIn_77, zadd1 (by omega), if_pos (by rw [alF_n e]; exact decide_eq_true g)]
        exact ih (k + 1) _ (by omega)
      · rw [if_neg (fun q => g (zrow_inj (inDays_ok hv (by omega) d) (inDays_ok hv hp d) (zlcmp_eq.mp q))), j_X10_alikeIn_77, zadd1 (by omega), if_neg (by rw [alF_n e, decide_eq_false g]; decide)]
        exact ih (k + 1) acc (by omega)
theorem p_alikeIn (hR : R1 S m) (p d : Int) : Ex1 (zF zP 231 v [(.inr (.inr (some 0))), .inl p, .inl d] m) (o_alikeIn S p d) := by
  obtain ⟨hl, hv⟩ := hR.ll
  unfold o_alikeIn
  rw [f_X10_alikeIn, if_pos hR.1.1, c_futureStatus hR, zC1_s]
  by_cases h : inB p (gL S).2.2.1.length = true
  · rw [if_pos h, if_pos h]
    by_cases g : inR d 0 500 = true
    · rw [if_pos g, if_pos g]
      obtain ⟨i, rfl, hi⟩ := inB_nat h
      rw [inR_t] at g
      obtain ⟨n, rfl⟩ := Int.eq_ofNat_of_zero_le g.1
      rw [if_pos rfl, j_X10_alikeIn_17, if_pos hR.1.1, hR.r2, obind, if_pos hR.t5, s_rowInD hl hv hi (by omega), zC2_s, Int.toNat_natCast, Int.toNat_natCast]
      exact p_alikeIn_loop hR hi (by omega) 0 (gL S).2.2.1.length 0 0 (by omega)
    · rw [if_neg g, if_neg g, if_neg (by decide), if_pos hR.1.1]; exact x1_noC hR
  · rw [if_neg h, if_neg h, if_neg (by decide), if_pos hR.1.1]; exact x1_noC hR
/-- day -/
theorem gL_wL (S : zSt) (L : zLd) : gL (wL S L) = L := rfl
theorem wL_wL (S : zSt) (L L' : zLd) : wL (wL S L) L' = wL S L' := rfl
theorem p_day_loop {n : Nat} (hn : n < 1000000) : ∀ (r k : Nat) (acc : Int) (f : Nat → List Nat) (m : zM) (u4 u5 : Option zV), R1 (wL S (mapP (gL S) f)) m → k + r = (gL S).2.2.1.length → (∀ i, f i = if i < k then inDays (gL S) i n else row0 (gL S) i) →
    ∃ (m' : zM) (f' : Option zV × Option zV), zX zP 190 v 43 [some (.inr (.inr (some 0))), some (.inl (n : Int)), some (.inl acc), some (.inl (k : Int)), u4, u5] [] m = zX zP 190 v 101 [some (.inr (.inr (some 0))), some (.inl (n : Int)), some (.inl (setF (fun i => !decide (inDays (gL S) i n = row0 (gL S) i)) r k acc)), some (.inl ((gL S).2.2.1.length : Int)), f'.1, f'.2] [] m' ∧ R1 (wL S (mapP (gL S) (fun i => inDays (gL S) i n))) m' := by
  intro r
  induction r with
  | zero =>
    intro k acc f m u4 u5 hR hk hf
    obtain ⟨hl, hv⟩ := hR.ll
    have hn' := hv.2.2.1.1
    rw [gL_wL, mapP_len] at hn'
    refine ⟨m, (u4, u5), ?_, ?_⟩
    · rw [j_X10_day_43, if_pos hR.1.1, hR.r2, obind, if_pos hR.t5, hn', if_neg (by omega), show k = (gL S).2.2.1.length by omega]; rfl
    · rw [mapP_congr (g := f) (fun i hi => by rw [hf, if_pos (by omega)])]; exact hR
  | succ r ih =>
    intro k acc f m u4 u5 hR hk hf
    obtain ⟨hl, hv⟩ := hR.ll
    have h6 := hR.p6
    rw [gL_wL] at hv h6
    rw [mapP_len] at h6
    have hk' : k < (gL S).2.2.1.length := by omega
    have hkm : k < (mapP (gL S) f).2.2.1.length := by rw [mapP_len]; exact hk'
    have hn' := hv.2.2.1.1
    rw [mapP_len] at hn'
    have er : itr (lday (mapP (gL S) f) k) n ((mapP (gL S) f).2.2.1.getD k ps0).2.2 = inDays (gL S) k n := by
      rw [mapP_lday _ _ hk', mapP_get _ _ hk', hf k, if_neg (by omega)]; rfl
    have hrow : ((mapP (gL S) f).2.2.1.getD k ps0).2.2 = row0 (gL S) k := by rw [mapP_get _ _ hk', hf k, if_neg (by omega)]
    have hok := inDays_ok hv hkm n
    unfold inDays row0 at hok
    rw [er] at hok
    have hro := (hv.rowOk hkm).2
    rw [hrow] at hro
    have hR1 := hR.lnd (Sam.wl m (a := 5 + 7) k (zrow (inDays (gL S) k n)) (lo := 12) (hi := 13) (by omega) (by omega)) (by omega) (by omega) (by omega) (hv.say hkm hok)
    rw [gL_wL, mapP_set _ _ hk', wL_wL] at hR1
    obtain ⟨m', f', e1, e2⟩ := ih (k + 1) (if (!decide (inDays (gL S) k n = row0 (gL S) k)) = true then zor acc (zshl 1 (k : Int)) else acc) (fun i => if i = k then inDays (gL S) k n else f i) _ (some (.inr (.inl (zrow (inDays (gL S) k n))))) none hR1 (by omega) (fun i => by
      by_cases e : i = k
      · subst e; rw [if_pos rfl, if_pos (by omega)]
      · rw [if_neg e, hf i]
        by_cases g : i < k
        · rw [if_pos g, if_pos (by omega)]
        · rw [if_neg g, if_neg (by omega)])
    refine ⟨m', f', ?_, e2⟩
    have hpl : ∀ acc', zX zP 190 v 85 [some (.inr (.inr (some 0))), some (.inl (n : Int)), some (.inl acc'), some (.inl (k : Int)), some (.inr (.inl (zrow (inDays (gL S) k n)))), none] [] m = zX zP 190 v 43 [some (.inr (.inr (some 0))), some (.inl (n : Int)), some (.inl acc'), some (.inl ((k + 1 : Nat) : Int)), some (.inr (.inl (zrow (inDays (gL S) k n)))), none] [] (zwl m 12 k (zrow (inDays (gL S) k n))) := fun acc' => by
      rw [j_X10_day_85, if_pos hR.1.1, hR.r2, obind, if_pos hR.t5, s_say hl (by omega), zC0_s, zadd1 (by omega)]
    rw [j_X10_day_43, if_pos hR.1.1, hR.r2, obind, if_pos hR.t5, hn', if_pos (by omega), if_pos hR.1.1, obind, if_pos hR.t5, s_rowIn hl hv hkm hn, zC2_s, er, if_pos hR.1.1, hR.r2, obind, if_pos hR.t5, s_rowAt hl (by omega), zC2_s, (hv.rowOk hkm).1, hrow, setF]
    by_cases e : inDays (gL S) k n = row0 (gL S) k
    · rw [if_pos (zlcmp_eq.mpr (by rw [e])), hpl]
      rw [if_neg (show ¬ (!decide (inDays (gL S) k n = row0 (gL S) k)) = true by rw [decide_eq_true e]; decide)] at e1 ⊢
      exact e1
    · rw [if_neg (fun q => e (zrow_inj hok hro (zlcmp_eq.mp q))), hpl]
      rw [if_pos (show (!decide (inDays (gL S) k n = row0 (gL S) k)) = true by rw [decide_eq_false e]; rfl)] at e1 ⊢
      exact e1
theorem p_day (hR : R1 S m) (n : Int) : Ex1 (zF zP 190 v [(.inr (.inr (some 0))), .inl n] m) (o_day S n) := by
  obtain ⟨hl, hv⟩ := hR.ll
  unfold o_day
  rw [f_X10_day]
  have f11 : zX zP 190 v 11 [some (.inr (.inr (some 0))), some (.inl n), none, none, none, none] [] m = some (some (.inl (-1)), zwi m 0 14 5) := by
    rw [j_X10_day_11, if_pos hR.1.1, c_no hR.1, zC1_s]
  by_cases h : inR n 1 99 = true
  · rw [if_pos h]
    rw [inR_t] at h
    obtain ⟨N, rfl⟩ := Int.eq_ofNat_of_zero_le (show 0 ≤ n by omega)
    rw [if_neg (by omega), if_neg (by omega), j_X10_day_17, if_pos hR.1.1, hR.r2, obind, if_pos hR.t5, hv.2.2.2.2.1]
    by_cases g : 9999 < zadd (gL S).2.2.2.2 (N : Int)
    · rw [if_pos g, if_pos g, if_pos hR.1.1]; exact x1_noC hR
    · rw [if_neg g, if_neg g, j_X10_day_39, Int.toNat_natCast]
      have h0 : R1 (wL S (mapP (gL S) (fun i => row0 (gL S) i))) m := by rw [mapP_id (fun i _ => rfl)]; exact hR
      obtain ⟨m', f', e1, e2⟩ := p_day_loop (v := v) (S := S) (n := N) (by omega) (gL S).2.2.1.length 0 0 _ m none none h0 (by omega) (fun i => by rw [if_neg (Nat.not_lt_zero i)])
      obtain ⟨hl2, hv2⟩ := e2.ll
      have hR3 := e2.lnd (Sam.wi m' (a := 5) 11 (zadd (gL S).2.2.2.2 (N : Int)) (lo := 5) (hi := 6) (by omega) (by omega)) (by omega) (by omega) (by omega) (hv2.today (x := zadd (gL S).2.2.2.2 (N : Int)))
      have e0 : ((0 : Nat) : Int) = 0 := rfl
      rw [e0] at e1
      rw [e1, j_X10_day_101, if_pos e2.1.1, e2.r2, obind, if_pos e2.t5, if_pos e2.t5, hv2.2.2.2.2.1]
      show Ex1 (if zT (zwi m' 5 11 (zadd (gL S).2.2.2.2 (N : Int))) 0 6 = true then _ else _) _
      rw [if_pos hR3.1.1]
      exact x1_yesC hR3
  · rw [if_neg h]
    rw [inR_t] at h
    by_cases h1 : n < 1
    · rw [if_pos h1, f11]; exact x1_no hR
    · rw [if_neg h1, if_pos (by omega), f11]; exact x1_no hR
end DAYS1
