/-! What holds of every state between calls: what some calls ask for. -/
def qBI (B : zBl) : Prop := (0 ≤ B.1.2.2.2.1 ∧ B.1.2.2.2.1 ≤ 16) ∧ TdOk B.1 ∧ eIn B.1 ∧ YrOk B
def qInv (S : zSt) : Prop := qBI (gBl S) ∧ ∀ i, i < (gMk S).length → qBI ((gMk S).getD i bl0)
def qKe (S S' : zSt) : Prop := gBl S' = gBl S ∧ gMk S' = gMk S ∧ gN S' = gN S
/-- what a call makes of a state: the invariant, and at most one array more -/
def qNx (S S' : zSt) : Prop := qInv S' ∧ (gN S' = gN S ∨ gN S' = ((gN S).1 + 1, (gN S).2 + 9))
def qKI (L L' : zLd) : Prop := szL L L' ∧ L'.2.2.2.1 = L.2.2.2.1 ∧ (TdOk L → TdOk L') ∧ ∀ i, i < L.2.1.length → (L'.2.1.getD i ln0).2.2 = (L.2.1.getD i ln0).2.2
section INV
variable {S S' : zSt} {L L' L'' : zLd} {Y : zYr} {A : zAc} {σ : zLi}
theorem qKe.inv (h : qKe S S') (hI : qInv S) : qInv S' := by unfold qInv; rw [h.1, h.2.1]; exact hI
theorem qKe.nx (h : qKe S S') (hI : qInv S) : qNx S S' := ⟨h.inv hI, Or.inl h.2.2⟩
theorem qKe.rf : qKe S S := ⟨rfl, rfl, rfl⟩
theorem qKI.rf : qKI L L := ⟨⟨rfl, rfl, rfl⟩, rfl, fun h => h, fun _ _ => rfl⟩
theorem qKI.tr (h : qKI L L') (h' : qKI L' L'') : qKI L L'' :=
  ⟨⟨h'.1.1.trans h.1.1, h'.1.2.1.trans h.1.2.1, h'.1.2.2.trans h.1.2.2⟩, h'.2.1.trans h.2.1, fun q => h'.2.2.1 (h.2.2.1 q), fun i hi => (h'.2.2.2 i (by rw [h.1.2.1]; exact hi)).trans (h.2.2.2 i hi)⟩
theorem qKI.bi (h : qKI L L') (hB : qBI (L, Y)) : qBI (L', Y) := by
  obtain ⟨⟨s1, s2, s3⟩, h2, h3, h4⟩ := h
  obtain ⟨b1, b2, b3, b4⟩ := hB
  have b1' : 0 ≤ L.2.2.2.1 ∧ L.2.2.2.1 ≤ 16 := b1
  refine ⟨?_, h3 b2, fun i hi e he => ?_, fun A hA => ?_⟩
  · show 0 ≤ L'.2.2.2.1 ∧ L'.2.2.2.1 ≤ 16
    rw [h2]; exact b1'
  · have hi' : i < L'.2.1.length := hi
    have he' : e ∈ (L'.2.1.getD i ln0).2.2 := he
    rw [s2] at hi'
    rw [h4 i hi'] at he'
    show e.2.1 < L'.1.length
    rw [s1]
    exact b3 i hi' e he'
  · show ∃ d, Sg (gSp L'.2.2.1.length L'.2.1.length L'.1.length) A d 0 (nst A) 0 A.1.length
    rw [s1, s2, s3]
    exact b4 A hA
theorem eIn.at (h : eIn L) (i : Nat) : ∀ e ∈ (L.2.1.getD i ln0).2.2, e.2.1 < L.1.length := fun e he => by
  by_cases c : i < L.2.1.length
  · exact h i c e he
  · rw [List.getD_eq_getElem?_getD, List.getElem?_eq_none (by omega)] at he
    exact absurd (show e ∈ ([] : List zEd) from he) List.not_mem_nil
theorem eIn.set (h : eIn L) {i : Nat} {x : zLn} (hx : ∀ e ∈ x.2.2, e.2.1 < L.1.length) : eIn (lnSet L i x) := fun j hj e he => by
  have hj' : j < (L.2.1.set i x).length := hj
  rw [List.length_set] at hj'
  have he' : e ∈ ((L.2.1.set i x).getD j ln0).2.2 := he
  rw [getD_set] at he'
  show e.2.1 < L.1.length
  by_cases c : i = j ∧ j < L.2.1.length
  · rw [if_pos c] at he'; exact hx e he'
  · rw [if_neg c] at he'; exact h j hj' e he'
theorem qBI.ln (hB : qBI (L, Y)) {i : Nat} {x : zLn} (hx : ∀ e ∈ x.2.2, e.2.1 < L.1.length) : qBI (lnSet L i x, Y) := by
  obtain ⟨b1, b2, b3, b4⟩ := hB
  refine ⟨b1, b2, eIn.set b3 hx, fun A hA => ?_⟩
  have e : (lnSet L i x).2.1.length = L.2.1.length := List.length_set
  show ∃ d, Sg (gSp L.2.2.1.length (lnSet L i x).2.1.length L.1.length) A d 0 (nst A) 0 A.1.length
  rw [e]; exact b4 A hA
theorem qKI.ps {p : Nat} {x : zPs0} : qKI L (psSet L p x) := ⟨⟨rfl, rfl, List.length_set⟩, rfl, fun h => h, fun _ _ => rfl⟩
theorem qKI.lo {i : Nat} {b : Bool} : qKI L (lnSet L i ((L.2.1.getD i ln0).1, b, (L.2.1.getD i ln0).2.2)) := by
  refine ⟨⟨rfl, List.length_set, rfl⟩, rfl, fun h => h, fun j hj => ?_⟩
  show ((L.2.1.set i _).getD j ln0).2.2 = _
  rw [getD_set]
  by_cases c : i = j ∧ j < L.2.1.length
  · rw [if_pos c, c.1]
  · rw [if_neg c]
theorem qKI.mp {f : Nat → List Nat} : qKI L (mapP L f) := ⟨⟨rfl, rfl, mapP_len L f⟩, rfl, fun h => h, fun _ _ => rfl⟩
theorem td_add {t d : Nat} (h : t + d ≤ 20000) : zadd (t : Int) (d : Int) = ((t + d : Nat) : Int) := zadd_nat (Nat.lt_of_le_of_lt h (by decide))
theorem qKI.day {d : Nat} (h : ¬ 9999 < L.2.2.2.2 + (d : Int)) : qKI L (dysL L d) := by
  refine ⟨⟨rfl, rfl, mapP_len L _⟩, rfl, fun ⟨t, e, ht⟩ => ⟨t + d, ?_, ?_⟩, fun _ _ => rfl⟩
  · show zadd L.2.2.2.2 (d : Int) = _
    rw [e] at h
    rw [e, td_add (by omega)]
  · rw [e] at h; omega
/-- any state whose block is another one -/
theorem qInv.bl {B : zBl} (hI : qInv S) (hB : qBI B) : qInv (wBl S B) := ⟨hB, hI.2⟩
theorem qInv.nl (hI : qInv S) (h : qBI (L, (gBl S).2)) {x : Int} : qNx S (wSt (wL S L) x) := ⟨⟨h, hI.2⟩, Or.inl rfl⟩
theorem qInv.ki (hI : qInv S) (h : qKI (gL S) L) {x : Int} : qNx S (wSt (wL S L) x) := hI.nl (h.bi hI.1)
theorem qWd {l : List Nat} {k : Int} : qKe S (oWd S l k).2 := by unfold oWd; split <;> exact ⟨rfl, rfl, rfl⟩
theorem qPut {l : List Nat} {x : Int} : qKe S (oPut S l x).2 := by unfold oPut; (repeat' split) <;> exact ⟨rfl, rfl, rfl⟩
theorem qSz {o : Option (List Nat)} : qKe S (oSz S o).2 := by unfold oSz; split <;> exact ⟨rfl, rfl, rfl⟩
theorem qWo {o : Option (List Nat)} {k : Int} : qKe S (oWo S o k).2 := by
  unfold oWo
  split
  · exact qWd
  · exact ⟨rfl, rfl, rfl⟩
theorem qFd {x : Int} : qKe S (oFd S x).2 := by unfold oFd; split <;> exact ⟨rfl, rfl, rfl⟩
theorem qYes {x : Int} : qKe S (oYes S x).2 := ⟨rfl, rfl, rfl⟩
theorem qNo {x : Int} : qKe S (oNo S x).2 := ⟨rfl, rfl, rfl⟩
theorem qF {x : Int} : qKe S (oF S x).2 := ⟨rfl, rfl, rfl⟩
theorem qT : qKe S (oT S).2 := ⟨rfl, rfl, rfl⟩
theorem qTt {t : Nat} {x : zTr} : qKe S (oT (wTr S t x)).2 := ⟨rfl, rfl, rfl⟩
theorem qTfr {x : Int × Int} : qKe S (oT (wFr S x)).2 := ⟨rfl, rfl, rfl⟩
theorem qFrac {a b : Nat} : qKe S (oFrac S a b).2 := by unfold oFrac; exact qTfr
theorem qIte {c : Prop} {_ : Decidable c} {a b : Int × zSt} (h1 : qKe S a.2) (h2 : qKe S b.2) : qKe S (if c then a else b).2 := by split <;> assumption
theorem qIn {c : Prop} {_ : Decidable c} {a b : Int × zSt} (h1 : c → qNx S a.2) (h2 : ¬ c → qNx S b.2) : qNx S (if c then a else b).2 := by
  by_cases h : c
  · rw [if_pos h]; exact h1 h
  · rw [if_neg h]; exact h2 h
end INV
