/-! The class's shortest CLASH. -/
def fsz (P : List Nat → Bool) (ws : List Nat) : Nat → Nat → Option (List Nat)
  | 0, _ => none
  | n + 1, k => match (rws ws k).find? P with
    | some r => some r
    | none => fsz P ws n (k + 1)
def oz (o : Option (List Nat)) : Int := match o with
  | some c => zrow c
  | none => -1
def clsP (ea eb : List zEd) (c : List Nat) : Bool := !decide (lput eb (lput ea c) = lput ea (lput eb c))
section CLASH2
variable {v : Nat} {m : zM}
theorem s_shortestClash {a b : Nat} {na nb : Int} {la lb : Bool} {ea eb : List zEd} (hA : LnS m a) (hvA : LnV m a na la ea) (hB : LnS m b) (hvB : LnV m b nb lb eb) {s : Nat} (hs : s < 256) :
    zF zP 93 v [(.inr (.inr (some a))), (.inr (.inr (some b))), .inl (s : Int)] m = some (some (.inr (.inl (oz (fsz (clsP ea eb) (wsOf s) 4 0)))), m) := by
  have loop : ∀ (n k : Nat) (u4 u5 u6 u7 : Option zV), k + n = 4 → zX zP 93 v 2 [some ((.inr (.inr (some a)))), some ((.inr (.inr (some b)))), some (.inl (s : Int)), some (.inl (k : Int)), u4, u5, u6, u7] [] m = some (some (.inr (.inl (oz (fsz (clsP ea eb) (wsOf s) n k)))), m) := by
    intro n
    induction n with
    | zero =>
      intro k u4 u5 u6 u7 hk
      rw [j_X4_shortestClash_2, if_pos (by omega), j_X4_shortestClash_78]; rfl
    | succ n ih =>
      intro k u4 u5 u6 u7 hk
      obtain ⟨y, y1, y2, y3⟩ := s_enum (v := 0) (m := m) hs (N := k) (by omega)
      have hl := rws_len (wsOf s) k
      have p : (wsOf s).length ^ k ≤ 8 ^ 3 := Nat.le_trans (Nat.pow_le_pow_left (ws_len s) k) (Nat.pow_le_pow_right (by decide) (by omega))
      obtain ⟨g1, g2⟩ := s_clash_in (v := v) hA hvA hB hvB (s := s) (x3 := (k : Int)) (M := (wsOf s).length ^ k) (Nat.lt_of_le_of_lt p (by decide)) (rws (wsOf s) k) 0 y (by rw [hl, Nat.zero_add]) (fun c r e => y2 c r e) y3
      have e0 : ((0 : Nat) : Int) = 0 := rfl
      rw [e0] at g1 g2
      have ek : zadd (k : Int) 1 = ((k + 1 : Nat) : Int) := zadd_nat (k := 1) (by omega)
      rw [j_X4_shortestClash_2, if_neg (by omega), s_howMany hs (by omega), zC1_s, y1, zC2_s]
      have hfs : fsz (clsP ea eb) (wsOf s) (n + 1) k = match (rws (wsOf s) k).find? (clsP ea eb) with
        | some r => some r
        | none => fsz (clsP ea eb) (wsOf s) n (k + 1) := rfl
      cases hc : (rws (wsOf s) k).find? (clsP ea eb) with
      | some c =>
        rw [hc] at hfs
        rw [hfs]
        exact g1 c hc
      | none =>
        rw [hc] at hfs
        rw [hfs]
        obtain ⟨w4, w5, w6, w7, g3⟩ := g2 hc
        refine g3.trans ?_
        rw [ek]
        exact ih (k + 1) w4 w5 w6 w7 (by omega)
  have e0 : ((0 : Nat) : Int) = 0 := rfl
  have hl := loop 4 0 none none none none rfl
  rw [e0] at hl
  rw [f_X4_shortestClash]
  exact hl
end CLASH2
