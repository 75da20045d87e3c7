/-! The ROW that is next. -/
def nx (s : Int) (f : Nat) : List Nat → Option (List Nat)
  | [] => none
  | w :: r => match nx s f r with
    | some r' => some (w :: r')
    | none => if zand s (zshl (-2) (w : Int)) = 0 then none else some ((ntz (zand s (zshl (-2) (w : Int)))).toNat :: List.replicate r.length f)
theorem nx_app {s : Int} {f : Nat} {r r' : List Nat} (h : nx s f r = some r') : ∀ p : List Nat, nx s f (p ++ r) = some (p ++ r')
  | [] => h
  | w :: p => by
    show nx s f (w :: (p ++ r)) = some (w :: (p ++ r'))
    unfold nx
    rw [nx_app h p]
theorem set_tk {f : Nat} {R : List Nat} : ∀ (l : List Nat) (k : Nat), k < l.length → (l.take (k + 1) ++ R).set k f = l.take k ++ f :: R
  | [], k, h => absurd h (Nat.not_lt_zero k)
  | x :: l, 0, h => rfl
  | x :: l, k + 1, h => by
    show x :: (l.take (k + 1) ++ R).set k f = x :: (l.take k ++ f :: R)
    rw [set_tk l k (by have : k + 1 < l.length + 1 := h; omega)]
theorem ntz_set {s w : Nat} (hs : s < 256) (hw : w < 8) (h : ¬ zand (s : Int) (zshl (-2) (w : Int)) = 0) : ntz (zand (s : Int) (zshl (-2) (w : Int))) = (((ntz (zand (s : Int) (zshl (-2) (w : Int)))).toNat : Nat) : Int) ∧ (ntz (zand (s : Int) (zshl (-2) (w : Int)))).toNat < 16 := by
  have key : ∀ (s : Fin 256) (w : Fin 8), ¬ zand ((s.val : Nat) : Int) (zshl (-2) ((w.val : Nat) : Int)) = 0 → ntz (zand ((s.val : Nat) : Int) (zshl (-2) ((w.val : Nat) : Int))) = (((ntz (zand ((s.val : Nat) : Int) (zshl (-2) ((w.val : Nat) : Int)))).toNat : Nat) : Int) ∧ (ntz (zand ((s.val : Nat) : Int) (zshl (-2) ((w.val : Nat) : Int)))).toNat < 16 := by decide +kernel
  exact key ⟨s, hs⟩ ⟨w, hw⟩ h
section NEXTROW
variable {v : Nat} {m : zM}
theorem s_next {s f : Nat} (hs : s < 256) (hf : ntz (s : Int) = (f : Int)) (hf16 : f < 16) {l : List Nat} (hl : rOk l) (hw : ∀ k, k < l.length → l.getD k 0 < 8) : zF zP 86 v [.inr (.inl (zrow l)), .inl (s : Int)] m = some (some (.inr (.inl (zrow ((nx (s : Int) f l).getD (List.replicate l.length f))))), m) := by
  have h8 := hl.1
  have loop : ∀ (k : Nat) (u6 : Option zV), k ≤ l.length → nx (s : Int) f (l.drop k) = none → rOk (l.take k ++ List.replicate (l.length - k) f) →
      zX zP 86 v 10 [some (.inr (.inl (zrow l))), none, some (.inl (s : Int)), some (.inr (.inl (zrow (l.take k ++ List.replicate (l.length - k) f)))), none, some (.inl ((k : Int) - 1)), u6] [] m = some (some (.inr (.inl (zrow ((nx (s : Int) f l).getD (List.replicate l.length f))))), m) := by
    intro k
    induction k with
    | zero =>
      intro u6 hk hn hok
      have hn' : nx (s : Int) f l = none := hn
      rw [j_X3_next_10, if_pos (by omega), j_X3_next_62, hn']
      rfl
    | succ k ih =>
      intro u6 hk hn hok
      have hkl : k < l.length := by omega
      have e5 : ((k + 1 : Nat) : Int) - 1 = (k : Int) := by omega
      have ed : l.drop k = l.getD k 0 :: l.drop (k + 1) := by
        rw [List.drop_eq_getElem_cons hkl, List.getD_eq_getElem?_getD, List.getElem?_eq_getElem hkl]; rfl
      have hlen : (l.take (k + 1) ++ List.replicate (l.length - (k + 1)) f).length = l.length := by
        rw [List.length_append, List.length_take, List.length_replicate]; omega
      have hrw : ∀ w : Nat, rwith (l.take (k + 1) ++ List.replicate (l.length - (k + 1)) f) k w = l.take k ++ w :: List.replicate (l.length - (k + 1)) f := fun w => by
        unfold rwith
        rw [if_pos (by rw [hlen]; exact hkl), set_tk l k hkl]
      rw [e5, j_X3_next_10, if_neg (by omega), s_wordAt hl (by omega), zC1_s]
      by_cases c : zand (s : Int) (zshl (-2) ((l.getD k 0 : Nat) : Int)) = 0
      · have er : List.replicate (l.length - k) f = f :: List.replicate (l.length - (k + 1)) f := by
          rw [show l.length - k = (l.length - (k + 1)) + 1 by omega]; rfl
        have hnk : nx (s : Int) f (l.drop k) = none := by
          rw [ed]
          unfold nx
          rw [hn]
          show (if zand (s : Int) (zshl (-2) ((l.getD k 0 : Nat) : Int)) = 0 then none else _) = none
          rw [if_pos c]
        have hok' : rOk (l.take k ++ List.replicate (l.length - k) f) := by
          rw [er, ← hrw f]
          exact rwith_ok hok (by rw [hlen]; omega) (by omega) hf16
        have ez : zadd (k : Int) (-1) = (k : Int) - 1 := by rw [zadd_of (by unfold r32; omega)]; omega
        have i1 := ih (some (.inl (zand (s : Int) (zshl (-2) ((l.getD k 0 : Nat) : Int))))) (by omega) hnk hok'
        rw [er] at i1
        rw [if_pos c, j_X3_next_45, s_ntz, zC1_s, hf, s_with hok (by rw [hlen]; omega) (by omega) hf16, zC2_s, hrw f, ez]
        exact i1
      · obtain ⟨q1, q2⟩ := ntz_set hs (hw k hkl) c
        have hnk : nx (s : Int) f (l.drop k) = some ((ntz (zand (s : Int) (zshl (-2) ((l.getD k 0 : Nat) : Int)))).toNat :: List.replicate (l.drop (k + 1)).length f) := by
          rw [ed]
          unfold nx
          rw [hn]
          show (if zand (s : Int) (zshl (-2) ((l.getD k 0 : Nat) : Int)) = 0 then none else some ((ntz (zand (s : Int) (zshl (-2) ((l.getD k 0 : Nat) : Int)))).toNat :: List.replicate (l.drop (k + 1)).length f)) = _
          rw [if_neg c]
        have hnl := nx_app hnk (l.take k)
        rw [List.take_append_drop, List.length_drop] at hnl
        rw [if_neg c, s_ntz, zC1_s, q1, s_with hok (by rw [hlen]; omega) (by omega) q2, zC2_s, hrw, hnl]
        rfl
  have e1 : zsub (l.length : Int) 1 = (l.length : Int) - 1 := zsub_of (by unfold r32; omega)
  have hd : l.take l.length ++ List.replicate (l.length - l.length) f = l := by
    rw [Nat.sub_self, List.take_length]; exact List.append_nil l
  have hh := loop l.length none (Nat.le_refl _) (by rw [List.drop_length]; rfl) (by rw [hd]; exact hl)
  rw [hd] at hh
  rw [f_X3_next, s_size hl, zC1_s, e1]
  exact hh
end NEXTROW
