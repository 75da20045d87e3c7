/-! The class's ROWS and EDITS: its functions as plain ones. -/
theorem zlcmp_eq {x y : Int} : zlcmp x y = 0 ↔ x = y := by
  unfold zlcmp
  constructor
  · intro h
    split at h
    · cases h
    · split at h
      · assumption
      · cases h
  · rintro rfl
    rw [if_neg (by omega), if_pos rfl]
theorem zadd_nat {n : Nat} {k : Nat} (h : n + k < 2147483648) : zadd (n : Int) (k : Int) = ((n + k : Nat) : Int) := by
  unfold zadd i32
  rw [Int.bmod_eq_of_le (by omega) (by omega)]; omega
theorem zadd_of {x y : Int} (h : r32 (x + y)) : zadd x y = x + y := by
  unfold r32 at h
  unfold zadd i32
  rw [Int.bmod_eq_of_le (by omega) (by omega)]
theorem zsub_of {x y : Int} (h : r32 (x - y)) : zsub x y = x - y := by
  unfold r32 at h
  unfold zsub i32
  rw [Int.bmod_eq_of_le (by omega) (by omega)]
/-- the first place from k on -/
def ixF : List Nat → Nat → Nat → Int
  | [], _, _ => -1
  | x :: r, w, k => if x = w then (k : Int) else ixF r w (k + 1)
theorem drop_cons {l r : List Nat} {k x : Nat} (h : l.drop k = x :: r) : k < l.length ∧ l.getD k 0 = x ∧ l.drop (k + 1) = r := by
  have h1 : k < l.length := Nat.not_le.mp fun q => by rw [List.drop_eq_nil_of_le q] at h; cases h
  have h2 := List.drop_eq_getElem_cons h1
  rw [h] at h2
  injection h2 with e1 e2
  refine ⟨h1, ?_, e2.symm⟩
  rw [List.getD_eq_getElem?_getD, List.getElem?_eq_getElem h1, e1]; rfl
theorem s_size {v : Nat} {l : List Nat} (h : rOk l) (m : zM) : zF zP 31 v [.inr (.inl (zrow l))] m = some (some (.inl (l.length : Int)), m) := by
  rw [f_X3_size, zrow_len h]
theorem s_wordAt {v : Nat} {l : List Nat} {k : Nat} (h : rOk l) (hk : k < 8) (m : zM) : zF zP 46 v [.inr (.inl (zrow l)), .inl (k : Int)] m = some (some (.inl ((l.getD k 0 : Nat) : Int)), m) := by
  rw [f_X3_wordAt, zrow_word h k hk]
theorem s_with {v : Nat} {l : List Nat} {k w : Nat} (h : rOk l) (hk : k ≤ l.length) (h8 : k < 8) (hw : w < 16) (m : zM) : zF zP 47 v [.inr (.inl (zrow l)), .inl (k : Int), .inl (w : Int)] m = some (some (.inr (.inl (zrow (rwith l k w)))), m) := by
  have hl := h.1
  have e := zrow_with h hk h8 hw
  have e1 : zadd (k : Int) 1 = ((k + 1 : Nat) : Int) := zadd_nat (k := 1) (by omega)
  have hs := zrow_size h
  rw [f_X3_with]
  by_cases q : k < l.length
  · have e2 : zlmax (zlushr (zrow l) 32) (zadd (k : Int) 1) = zlushr (zrow l) 32 := by
      rw [hs, e1]; unfold zlmax; split <;> omega
    have e3 : 0 < zlcmp (zlushr (zrow l) 32) (k : Int) := by
      rw [hs]; unfold zlcmp; rw [if_pos (by omega)]; decide
    rw [e2] at e
    rw [if_pos e3, j_X3_with_49]
    exact congrArg (fun x => some (some (Sum.inr (Sum.inl x)), m)) e
  · have e2 : zlmax (zlushr (zrow l) 32) (zadd (k : Int) 1) = zadd (k : Int) 1 := by
      rw [hs, e1]; unfold zlmax; split <;> omega
    have e3 : ¬ 0 < zlcmp (zlushr (zrow l) 32) (k : Int) := by
      rw [hs]; unfold zlcmp; rw [if_neg (by omega)]; split <;> decide
    rw [e2] at e
    rw [if_neg e3, j_X3_with_45, j_X3_with_49]
    exact congrArg (fun x => some (some (Sum.inr (Sum.inl x)), m)) e
theorem s_with_some {v : Nat} (y0 x2 x3 : Int) (m : zM) : ∃ y : Int, zF zP 47 v [.inr (.inl y0), .inl x2, .inl x3] m = some (some (.inr (.inl y)), m) := by
  rw [f_X3_with]
  split
  · exact ⟨_, j_X3_with_49 _ _ _ _ _ _ _⟩
  · exact ⟨_, (j_X3_with_45 _ _ _ _ _ _).trans (j_X3_with_49 _ _ _ _ _ _ _)⟩
theorem s_without {v : Nat} {l : List Nat} {k : Nat} (h : rOk l) (hk : k < l.length) (m : zM) : zF zP 48 v [.inr (.inl (zrow l)), .inl (k : Int)] m = some (some (.inr (.inl (zrow (l.eraseIdx k)))), m) := by
  rw [f_X3_without]
  exact congrArg (fun x => some (some (Sum.inr (Sum.inl x)), m)) (zrow_without h hk)
theorem s_inserted {v : Nat} {l : List Nat} {k w : Nat} (h : rOk l) (hk : k ≤ l.length) (h8 : l.length < 8) (hw : w < 16) (m : zM) : zF zP 44 v [.inr (.inl (zrow l)), .inl (k : Int), .inl (w : Int)] m = some (some (.inr (.inl (zrow (l.insertIdx k w)))), m) := by
  rw [f_X3_inserted]
  exact congrArg (fun x => some (some (Sum.inr (Sum.inl x)), m)) (zrow_inserted h hk h8 hw)
theorem s_find_loop {v : Nat} {l : List Nat} {w : Nat} (h : rOk l) (m : zM) : ∀ (r : List Nat) (k : Nat), l.drop k = r →
    zX zP 43 v 9 [some (.inr (.inl (zrow l))), none, some (.inl (w : Int)), some (.inl (l.length : Int)), some (.inl (k : Int))] [] m = some (some (.inl (ixF r w k)), m) := by
  have hl := h.1
  intro r
  induction r with
  | nil =>
    intro k hk
    have h1 : l.length ≤ k := List.drop_eq_nil_iff.mp hk
    rw [j_X3_find_9, if_neg (by omega), j_X3_find_40]; rfl
  | cons x r ih =>
    intro k hk
    obtain ⟨h1, h2, h3⟩ := drop_cons hk
    rw [j_X3_find_9, if_pos (by omega), zrow_lword h k (by omega), h2]
    by_cases e : x = w
    · rw [if_pos (zlcmp_eq.mpr (by omega)), ixF, if_pos e]
    · rw [if_neg (fun q => e (by have := zlcmp_eq.mp q; omega)), ixF, if_neg e, j_X3_find_34]
      have e1 : zadd (k : Int) 1 = ((k + 1 : Nat) : Int) := zadd_nat (k := 1) (by omega)
      rw [e1]
      exact ih (k + 1) h3
theorem s_find {v : Nat} {l : List Nat} {w : Nat} (h : rOk l) (m : zM) : zF zP 43 v [.inr (.inl (zrow l)), .inl (w : Int)] m = some (some (.inl (ixF l w 0)), m) := by
  rw [f_X3_find, zrow_len h]
  exact s_find_loop h m l 0 rfl
theorem ixF_ge : ∀ (l : List Nat) (w k : Nat), ixF l w k = -1 ∨ (k : Int) ≤ ixF l w k
  | [], _, _ => Or.inl rfl
  | x :: r, w, k => by
    unfold ixF
    split
    · exact Or.inr (Int.le_refl _)
    · rcases ixF_ge r w (k + 1) with h | h
      · exact Or.inl h
      · exact Or.inr (by omega)
/-- an EDIT: kind, word, other, passim -/
abbrev zEd : Type := Nat × Nat × Nat × Bool
def eOk (e : zEd) : Prop := e.1 < 3 ∧ e.2.1 < 16 ∧ e.2.2.1 < 16 ∧ (e.1 = 2 → e.2.2.2 = false)
def epk (e : zEd) : Int := ((e.1 + (if e.2.2.2 then 4 else 0) + 16 * e.2.1 + 256 * e.2.2.1 : Nat) : Int)
theorem epk_all : ∀ (k : Fin 3) (w o : Fin 16) (p : Bool), zand (epk (k.val, w.val, o.val, p)) 3 = ((k.val : Nat) : Int) ∧ zand (zshr (epk (k.val, w.val, o.val, p)) 4) 15 = ((w.val : Nat) : Int) ∧
    zand (zshr (epk (k.val, w.val, o.val, p)) 8) 15 = ((o.val : Nat) : Int) ∧ (zand (epk (k.val, w.val, o.val, p)) 4 = 0 ↔ p = false) := by decide +kernel
theorem epk_get {e : zEd} (h : eOk e) : zand (epk e) 3 = ((e.1 : Nat) : Int) ∧ zand (zshr (epk e) 4) 15 = ((e.2.1 : Nat) : Int) ∧
    zand (zshr (epk e) 8) 15 = ((e.2.2.1 : Nat) : Int) ∧ (zand (epk e) 4 = 0 ↔ e.2.2.2 = false) := by
  obtain ⟨k, w, o, p⟩ := e
  exact epk_all ⟨k, h.1⟩ ⟨w, h.2.1⟩ ⟨o, h.2.2.1⟩ p
theorem s_kindOf {v : Nat} {e : zEd} (h : eOk e) (m : zM) : zF zP 35 v [.inl (epk e)] m = some (some (.inl (e.1 : Int)), m) := by
  rw [f_X2_kindOf, (epk_get h).1]
theorem s_wordOf {v : Nat} {e : zEd} (h : eOk e) (m : zM) : zF zP 34 v [.inl (epk e)] m = some (some (.inl (e.2.1 : Int)), m) := by
  rw [f_X2_wordOf, (epk_get h).2.1]
theorem s_otherOf {v : Nat} {e : zEd} (h : eOk e) (m : zM) : zF zP 36 v [.inl (epk e)] m = some (some (.inl (e.2.2.1 : Int)), m) := by
  rw [f_X2_otherOf, (epk_get h).2.2.1]
theorem zC0_s (m : zM) (f : zM → Option zO) : zC0 (some (none, m)) f = f m := rfl
theorem zC1_s (x : Int) (m : zM) (f : Int → zM → Option zO) : zC1 (some (some (.inl x), m)) f = f x m := rfl
theorem zC2_s (x : Int) (m : zM) (f : Int → zM → Option zO) : zC2 (some (some (.inr (.inl x)), m)) f = f x m := rfl
theorem zC3_n (m : zM) (g : zM → Option zO) (f : Nat → zM → Option zO) : zC3 (some (some (.inr (.inr none)), m)) g f = g m := rfl
theorem zC3_s (a : Nat) (m : zM) (g : zM → Option zO) (f : Nat → zM → Option zO) : zC3 (some (some (.inr (.inr (some a))), m)) g f = f a m := rfl
theorem zC4_s (a : Nat) (m : zM) (f : Nat → zM → Option zO) : zC4 (some (some (.inr (.inr (some a))), m)) f = f a m := rfl
def b01 (b : Bool) : Int := if b then 1 else 0
theorem zb_b01 (b : Bool) : zb (b01 b) = true := by cases b <;> rfl
theorem s_isPassim {v : Nat} {e : zEd} (h : eOk e) (m : zM) : zF zP 45 v [.inl (epk e)] m = some (some (.inl (b01 e.2.2.2)), m) := by
  rw [f_X2_isPassim]
  by_cases hp : e.2.2.2 = false
  · rw [if_pos ((epk_get h).2.2.2.mpr hp), j_X2_isPassim_10, j_X2_isPassim_11, hp]; rfl
  · rw [if_neg (fun q => hp ((epk_get h).2.2.2.mp q)), j_X2_isPassim_11]
    rw [show e.2.2.2 = true by simpa using hp]; rfl
/-- what an EDIT does at place k, from the last place down to the first -/
def edW (e : zEd) (l0 : List Nat) (p k : Nat) (made : List Nat) : List Nat :=
  if k = p ∨ (e.2.2.2 = true ∧ l0.getD k 0 = e.2.1) then (if e.1 = 0 then rwith made k e.2.2.1 else made.eraseIdx k) else made
def edL (e : zEd) (l0 : List Nat) (p : Nat) : Nat → List Nat → List Nat
  | 0, made => made
  | n + 1, made => edL e l0 p n (edW e l0 p (p + n) made)
def edone (e : zEd) (l : List Nat) : Option (List Nat) :=
  if ixF l e.2.1 0 = -1 then none
  else if e.1 = 2 then (if l.length < 8 then some (l.insertIdx ((ixF l e.2.1 0).toNat + 1) e.2.2.1) else none)
  else some (edL e l (ixF l e.2.1 0).toNat (l.length - (ixF l e.2.1 0).toNat) l)
def zro : Option (List Nat) → Int
  | some r => zrow r
  | none => -1
theorem edW_ok {e : zEd} {l0 made : List Nat} {p k : Nat} (he : eOk e) (h : rOk made) (hk : k < made.length) : rOk (edW e l0 p k made) ∧ made.length ≤ (edW e l0 p k made).length + 1 := by
  have hl := h.1
  unfold edW
  split
  · split
    · exact ⟨rwith_ok h (by omega) (by omega) he.2.2.1, by rw [rwith_len (by omega)]; omega⟩
    · exact ⟨erase_ok h, by rw [List.length_eraseIdx, if_pos hk]; omega⟩
  · exact ⟨h, by omega⟩
theorem edL_ok {e : zEd} {l0 : List Nat} {p : Nat} (he : eOk e) : ∀ (n : Nat) (made : List Nat), rOk made → p + n ≤ made.length → rOk (edL e l0 p n made)
  | 0, made, h, _ => h
  | n + 1, made, h, hn => by
    obtain ⟨h1, h2⟩ := edW_ok (l0 := l0) (p := p) (k := p + n) he h (by omega)
    exact edL_ok he n _ h1 (by omega)
theorem ixF_lt : ∀ (l : List Nat) (w k : Nat), ixF l w k = -1 ∨ ixF l w k < ((k + l.length : Nat) : Int)
  | [], _, _ => Or.inl rfl
  | x :: r, w, k => by
    unfold ixF
    split
    · exact Or.inr (by simp only [List.length_cons]; omega)
    · rcases ixF_lt r w (k + 1) with h | h
      · exact Or.inl h
      · exact Or.inr (by simp only [List.length_cons]; omega)
theorem ixF_nat {l : List Nat} {w : Nat} (h : ¬ ixF l w 0 = -1) : ∃ p : Nat, ixF l w 0 = (p : Int) ∧ p < l.length := by
  rcases ixF_ge l w 0 with q | q
  · exact absurd q h
  · rcases ixF_lt l w 0 with q2 | q2
    · exact absurd q2 h
    · exact ⟨(ixF l w 0).toNat, by omega, by omega⟩
theorem edone_ok {e : zEd} {l r : List Nat} (he : eOk e) (h : rOk l) (hr : edone e l = some r) : rOk r := by
  unfold edone at hr
  split at hr
  · cases hr
  · rename_i h1
    obtain ⟨p, e1, e2⟩ := ixF_nat h1
    split at hr
    · split at hr
      · injection hr with hr; rw [← hr]; exact insert_ok h (by omega) he.2.2.1
      · cases hr
    · injection hr with hr; rw [← hr, e1]; exact edL_ok he _ _ h (by omega)
theorem s_done_loop {v : Nat} {e : zEd} {l : List Nat} {p : Nat} (he : eOk e) (h : rOk l) (m : zM) : ∀ (n : Nat) (made : List Nat), rOk made → p + n ≤ made.length → p + n ≤ l.length →
    zX zP 49 v 69 [some (.inr (.inl (zrow l))), none, some (.inl (epk e)), some (.inl (e.2.1 : Int)), some (.inl (p : Int)), some (.inr (.inl (zrow made))), none, some (.inl ((p : Int) + (n : Int) - 1))] [] m = some (some (.inr (.inl (zrow (edL e l p n made)))), m) := by
  have hl := h.1
  intro n
  induction n with
  | zero =>
    intro made hm h1 h2
    rw [j_X2_done_69, if_pos (by omega), j_X2_done_136]; rfl
  | succ n ih =>
    intro made hm h1 h2
    have hml := hm.1
    obtain ⟨w1, w2⟩ := edW_ok (l0 := l) (p := p) (k := p + n) he hm (by omega)
    have ex : (p : Int) + ((n + 1 : Nat) : Int) - 1 = ((p + n : Nat) : Int) := by omega
    have e1 : zadd ((p + n : Nat) : Int) (-1) = (p : Int) + (n : Int) - 1 := by
      rw [zadd_of (by unfold r32; omega)]; omega
    have goOn : zX zP 49 v 130 [some (.inr (.inl (zrow l))), none, some (.inl (epk e)), some (.inl (e.2.1 : Int)), some (.inl (p : Int)), some (.inr (.inl (zrow (edW e l p (p + n) made)))), none, some (.inl ((p + n : Nat) : Int))] [] m = some (some (.inr (.inl (zrow (edL e l p (n + 1) made)))), m) := by
      rw [j_X2_done_130, e1, ih _ w1 (by omega) (by omega)]; rfl
    have doIt : edW e l p (p + n) made = (if e.1 = 0 then rwith made (p + n) e.2.2.1 else made.eraseIdx (p + n)) → zX zP 49 v 100 [some (.inr (.inl (zrow l))), none, some (.inl (epk e)), some (.inl (e.2.1 : Int)), some (.inl (p : Int)), some (.inr (.inl (zrow made))), none, some (.inl ((p + n : Nat) : Int))] [] m = some (some (.inr (.inl (zrow (edL e l p (n + 1) made)))), m) := by
      intro hd
      rw [j_X2_done_100, s_kindOf he, zC1_s]
      by_cases h0 : e.1 = 0
      · rw [if_pos (by omega), s_otherOf he, zC1_s, s_with hm (by omega) (by omega) he.2.2.1, zC2_s, j_X2_done_128]
        rw [if_pos h0] at hd
        rw [← hd]; exact goOn
      · rw [if_neg (by omega), j_X2_done_121, s_without hm (by omega), zC2_s, j_X2_done_128]
        rw [if_neg h0] at hd
        rw [← hd]; exact goOn
    rw [ex, j_X2_done_69, if_neg (by omega)]
    by_cases hp : n = 0
    · subst hp
      rw [if_pos (by omega)]
      exact doIt (by unfold edW; rw [if_pos (Or.inl (by omega))])
    · rw [if_neg (by omega), s_isPassim he, zC1_s]
      by_cases hpa : e.2.2.2 = true
      · rw [hpa, show b01 true = 1 from rfl, if_neg (by decide), s_wordAt h (by omega), zC1_s]
        by_cases hw : l.getD (p + n) 0 = e.2.1
        · rw [if_pos (by omega)]
          exact doIt (by unfold edW; rw [if_pos (Or.inr ⟨hpa, hw⟩)])
        · rw [if_neg (by omega)]
          have : edW e l p (p + n) made = made := by unfold edW; rw [if_neg (by rintro (q | q); omega; exact hw q.2)]
          rw [this] at goOn; exact goOn
      · rw [show e.2.2.2 = false by simpa using hpa, show b01 false = 0 from rfl, if_pos rfl]
        have : edW e l p (p + n) made = made := by unfold edW; rw [if_neg (by rintro (q | q); omega; exact hpa q.1)]
        rw [this] at goOn; exact goOn
theorem s_done {v : Nat} {e : zEd} {l : List Nat} (he : eOk e) (h : rOk l) (m : zM) : zF zP 49 v [.inr (.inl (zrow l)), .inl (epk e)] m = some (some (.inr (.inl (zro (edone e l)))), m) := by
  have hl := h.1
  rw [f_X2_done, s_wordOf he, zC1_s, s_find h, zC1_s]
  unfold edone
  by_cases h1 : ixF l e.2.1 0 = -1
  · rw [if_pos h1, if_pos h1]; rfl
  · rw [if_neg h1, if_neg h1, j_X2_done_22, s_kindOf he, zC1_s]
    obtain ⟨p, e1, e2⟩ := ixF_nat h1
    rw [e1, Int.toNat_natCast]
    by_cases h2 : e.1 = 2
    · rw [if_pos (by omega), if_pos h2, s_size h, zC1_s]
      by_cases h3 : l.length < 8
      · have ea : zadd (p : Int) 1 = ((p + 1 : Nat) : Int) := zadd_nat (k := 1) (by omega)
        rw [if_pos (by omega), if_pos h3, s_otherOf he, zC1_s, ea, s_inserted h (by omega) h3 he.2.2.1, zC2_s, j_X2_done_57]; rfl
      · rw [if_neg (by omega), if_neg h3, j_X2_done_54, j_X2_done_57]; rfl
    · rw [if_neg (by omega), if_neg h2, j_X2_done_58, s_size h, zC1_s]
      have ea : zsub ((l.length : Nat) : Int) 1 = (p : Int) + ((l.length - p : Nat) : Int) - 1 := by
        rw [zsub_of (by unfold r32; omega)]; omega
      rw [ea, s_done_loop he h m _ _ h (by omega) (by omega)]; rfl
