/-! All ROWS of so many WORDS out of a set, as they come one after another. -/
def fmp : List Nat → List (List Nat) → List (List Nat)
  | [], _ => []
  | w :: ws, L => L.map (List.cons w) ++ fmp ws L
def rws (ws : List Nat) : Nat → List (List Nat)
  | 0 => [[]]
  | n + 1 => fmp ws (rws ws n)
def sqB (s : Int) : List Nat → Bool
  | [] => true
  | w :: r => (match r with
    | [] => decide (zand s (zshl (-2) (w : Int)) = 0)
    | w' :: _ => !decide (zand s (zshl (-2) (w : Int)) = 0) && decide ((ntz (zand s (zshl (-2) (w : Int)))).toNat = w')) && sqB s r
theorem sqB_ws {s : Nat} (hs : s < 256) : sqB (s : Int) (wsOf s) = true := by
  have key : ∀ s : Fin 256, sqB ((s.val : Nat) : Int) (wsOf s.val) = true := by decide +kernel
  exact key ⟨s, hs⟩
def chE (s : Int) (f : Nat) (E : List Nat → Prop) : List (List Nat) → Prop
  | [] => False
  | a :: r => (match r with
    | [] => E a
    | b :: _ => nx s f a = some b ∧ chE s f E r)
section ROWS
variable {s : Int} {f : Nat}
theorem chE_map {E E' : List Nat → Prop} {w : Nat} (hE : ∀ a, E a → E' (w :: a)) : ∀ L : List (List Nat), chE s f E L → chE s f E' (L.map (List.cons w))
  | [], h => h
  | [a], h => hE a h
  | a :: b :: r, h => ⟨nx_app h.1 [w], chE_map hE (b :: r) h.2⟩
theorem chE_app {E E' : List Nat → Prop} {b : List Nat} {B : List (List Nat)} (hB : chE s f E' (b :: B)) (hE : ∀ a, E a → nx s f a = some b) : ∀ A : List (List Nat), chE s f E A → chE s f E' (A ++ b :: B)
  | [], h => h.elim
  | [a], h => ⟨hE a h, hB⟩
  | a :: c :: r, h => ⟨h.1, chE_app hB hE (c :: r) h.2⟩
theorem fmp_ch {n : Nat} {L L' : List (List Nat)} (hL : L = List.replicate n f :: L') (hc : chE s f (fun a => nx s f a = none ∧ a.length = n) L) : ∀ (r : List Nat) (w : Nat), sqB s (w :: r) = true → chE s f (fun a => nx s f a = none ∧ a.length = n + 1) (fmp (w :: r) L) ∧ ∃ L'', fmp (w :: r) L = (w :: List.replicate n f) :: L''
  | [], w, h => by
    have hz : zand s (zshl (-2) (w : Int)) = 0 := of_decide_eq_true (by
      have : (decide (zand s (zshl (-2) (w : Int)) = 0) && true) = true := h
      rw [Bool.and_true] at this
      exact this)
    have e : fmp [w] L = L.map (List.cons w) := by
      show L.map (List.cons w) ++ [] = _
      rw [List.append_nil]
    rw [e]
    have hn : ∀ a, nx s f a = none → nx s f (w :: a) = none := fun a ha => by
      unfold nx
      rw [ha]
      show (if zand s (zshl (-2) (w : Int)) = 0 then none else _) = none
      rw [if_pos hz]
    exact ⟨chE_map (fun a ha => ⟨hn a ha.1, by rw [List.length_cons, ha.2]⟩) L hc, L'.map (List.cons w), by rw [hL]; rfl⟩
  | w' :: r, w, h => by
    have h' : ((!decide (zand s (zshl (-2) (w : Int)) = 0) && decide ((ntz (zand s (zshl (-2) (w : Int)))).toNat = w')) && sqB s (w' :: r)) = true := h
    rw [Bool.and_eq_true, Bool.and_eq_true] at h'
    obtain ⟨⟨q1, q2⟩, q3⟩ := h'
    have q1' : ¬ zand s (zshl (-2) (w : Int)) = 0 := fun e => by rw [decide_eq_true e] at q1; cases q1
    have q2' := of_decide_eq_true q2
    obtain ⟨i1, L'', i2⟩ := fmp_ch hL hc r w' q3
    have e : fmp (w :: w' :: r) L = L.map (List.cons w) ++ fmp (w' :: r) L := rfl
    rw [e]
    refine ⟨?_, ?_⟩
    · rw [i2] at i1 ⊢
      refine chE_app i1 (E := fun a => nx s f a = some (w' :: List.replicate n f)) (fun a ha => ha) _ (chE_map (fun a ha => ?_) L hc)
      unfold nx
      rw [ha.1]
      show (if zand s (zshl (-2) (w : Int)) = 0 then none else some ((ntz (zand s (zshl (-2) (w : Int)))).toNat :: List.replicate a.length f)) = _
      rw [if_neg q1', q2', ha.2]
    · exact ⟨L'.map (List.cons w) ++ fmp (w' :: r) L, by rw [hL]; rfl⟩
theorem rws_ch {r : List Nat} (h : sqB s (f :: r) = true) : ∀ n : Nat, chE s f (fun a => nx s f a = none ∧ a.length = n) (rws (f :: r) n) ∧ ∃ L', rws (f :: r) n = List.replicate n f :: L'
  | 0 => ⟨⟨rfl, rfl⟩, [], rfl⟩
  | n + 1 => by
    obtain ⟨h1, L', h2⟩ := rws_ch h n
    obtain ⟨h3, L'', h4⟩ := fmp_ch h2 h1 r f h
    exact ⟨h3, L'', h4⟩
theorem fmp_len (L : List (List Nat)) : ∀ ws : List Nat, (fmp ws L).length = ws.length * L.length
  | [] => by rw [List.length_nil, Nat.zero_mul]; rfl
  | w :: ws => by
    show (L.map (List.cons w) ++ fmp ws L).length = _
    rw [List.length_append, List.length_map, fmp_len L ws, List.length_cons, Nat.succ_mul, Nat.add_comm]
theorem rws_len (ws : List Nat) : ∀ n : Nat, (rws ws n).length = ws.length ^ n
  | 0 => rfl
  | n + 1 => by
    show (fmp ws (rws ws n)).length = _
    rw [fmp_len, rws_len ws n, Nat.pow_succ, Nat.mul_comm]
theorem fmp_mem {L : List (List Nat)} {x : List Nat} : ∀ ws : List Nat, x ∈ fmp ws L ↔ ∃ w ∈ ws, ∃ a ∈ L, x = w :: a
  | [] => ⟨fun h => (nomatch h), fun ⟨w, h, _⟩ => (nomatch h)⟩
  | w :: ws => by
    show x ∈ L.map (List.cons w) ++ fmp ws L ↔ _
    rw [List.mem_append, List.mem_map, fmp_mem ws]
    constructor
    · rintro (⟨a, h1, h2⟩ | ⟨w', h1, a, h2, h3⟩)
      · exact ⟨w, List.mem_cons_self, a, h1, h2.symm⟩
      · exact ⟨w', List.mem_cons_of_mem _ h1, a, h2, h3⟩
    · rintro ⟨w', h1, a, h2, h3⟩
      rcases List.mem_cons.mp h1 with e | e
      · subst e; exact Or.inl ⟨a, h2, h3.symm⟩
      · exact Or.inr ⟨w', e, a, h2, h3⟩
theorem rws_mem {ws : List Nat} : ∀ (n : Nat) (x : List Nat), x ∈ rws ws n → x.length = n ∧ ∀ w ∈ x, w ∈ ws
  | 0, x, h => by
    have : x = [] := List.mem_singleton.mp h
    subst this; exact ⟨rfl, fun w hw => nomatch hw⟩
  | n + 1, x, h => by
    obtain ⟨w, h1, a, h2, rfl⟩ := (fmp_mem ws).mp h
    obtain ⟨i1, i2⟩ := rws_mem n a h2
    refine ⟨by rw [List.length_cons, i1], fun w' hw => ?_⟩
    rcases List.mem_cons.mp hw with e | e
    · subst e; exact h1
    · exact i2 w' e
end ROWS
