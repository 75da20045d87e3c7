/-! Names stay where one LIVES. -/
def nmL (L L' : zLd) : Prop := L'.1 = L.1 ∧ L'.2.2.1.length = L.2.2.1.length ∧ ∀ i, i < L.2.2.1.length → (L'.2.2.1.getD i ps0).1 = (L.2.2.1.getD i ps0).1
section MEANM
variable {v : Nat} {m m' : zM} {L L' L'' : zLd} {σ : zLi} {A : zAc} {S : zSt}
theorem nmL.rf (L : zLd) : nmL L L := ⟨rfl, rfl, fun _ _ => rfl⟩
theorem nmL.tr (h : nmL L L') (h' : nmL L' L'') : nmL L L'' := ⟨h'.1.trans h.1, h'.2.1.trans h.2.1, fun i hi => (h'.2.2 i (by rw [h.2.1]; exact hi)).trans (h.2.2 i hi)⟩
theorem nm_dys (L : zLd) (d : Nat) : nmL L (dysL L d) := ⟨rfl, mapP_len _ _, fun i hi => by
  show ((mapP L (fun i => inDays L i d)).2.2.1.getD i ps0).1 = _
  rw [mapP_get _ _ hi]⟩
theorem nm_ps (L : zLd) (p x : Nat) : nmL L (psSet L p ((L.2.2.1.getD p ps0).1, x, (L.2.2.1.getD p ps0).2.2)) := ⟨rfl, List.length_set .., fun i hi => by
  show ((L.2.2.1.set p _).getD i ps0).1 = _
  rw [getD_set]
  by_cases e : p = i
  · subst e; rw [if_pos ⟨rfl, hi⟩]
  · rw [if_neg (fun q => e q.1)]⟩
theorem nm_go (p x : Nat) (σ : zLi) : nmL σ.1 (eGo p x σ).2.1 := by
  unfold eGo
  split
  · exact nm_ps _ _ _
  · exact nmL.rf _
theorem nm_lo (i : Nat) (b : Bool) (σ : zLi) : nmL σ.1 (eLo i b σ).2.1 := by
  unfold eLo
  split
  · exact nmL.rf _
  · exact ⟨rfl, rfl, fun _ _ => rfl⟩
theorem nm_any (σ : zLi) : nmL σ.1 (eAny σ).2.1 := by
  unfold eAny
  split
  · exact nmL.rf _
  · generalize dwN (dwN σ.2.1.1) = e
    exact nm_go _ _ (seL σ e)
theorem nm_X (c : zCe) (σ : zLi) : nmL σ.1 (eX c σ).2.1 := by
  unfold eX
  split
  · unfold eDay
    split
    · exact nmL.rf _
    · exact nm_dys _ _
  · split
    · exact nm_go _ _ _
    · split
      · exact nm_lo _ _ _
      · split
        · exact nm_lo _ _ _
        · exact nm_any _
theorem nm_W {r : Bool × zLi} (h : nmL L r.2.1) : nmL L (eW r).1 := by
  unfold eW
  split
  · exact h
  · exact h
theorem nm_itr {g : zLi → zLi} (hg : ∀ σ, nmL σ.1 (g σ).1) : ∀ (n : Nat) (σ : zLi), nmL σ.1 (itr g n σ).1
  | 0, σ => nmL.rf _
  | n + 1, σ => (hg σ).tr (nm_itr hg n (g σ))
theorem lvA_nm : ∀ (k s e : Nat) (σ : zLi), nmL σ.1 (lvA A k s e σ).1 := by
  intro k
  induction k with
  | zero => intro s e σ; exact nmL.rf _
  | succ k ih =>
    intro s e σ
    unfold lvA
    by_cases c : s < e ∧ σ.2.2.2 = false
    · rw [if_pos c]
      by_cases c3 : σ.2.1.2.1 = 300
      · rw [if_pos c3]; exact ih _ _ (spL σ true)
      · rw [if_neg c3]
        by_cases c5 : (ceT A s).1 < 5
        · rw [if_pos c5]
          have h : nmL σ.1 (eW (eX (ceT A s) (do1 σ))).1 := nm_W (nm_X (ceT A s) (do1 σ))
          exact h.tr (ih _ _ _)
        · rw [if_neg c5]
          by_cases c6 : (ceT A s).1 = 5
          · rw [if_pos c6]
            by_cases ct : tX (ceT A s) σ.1 = true
            · rw [if_pos ct]; exact (ih (s + 1) _ (do1 σ)).tr (ih _ _ _)
            · rw [if_neg ct]; exact ih _ _ (do1 σ)
          · rw [if_neg c6]
            by_cases c7 : (ceT A s).1 = 6
            · rw [if_pos c7]
              have h : nmL σ.1 (itr (lvA A k (s + 1) (ceL A s 8).toNat) (ceT A s).2.1.toNat (do1 σ)).1 := nm_itr (fun τ => ih (s + 1) _ τ) _ (do1 σ)
              exact h.tr (ih _ _ _)
            · rw [if_neg c7]; exact ih _ _ (spL (do1 σ) σ.2.2.1)
    · rw [if_neg c]; exact nmL.rf _
/-- the cells are back -/
theorem R2.back {L' : zLd} {m0 : zM} (h0 : R2 S m0) (hR : R2 (wL S L') m) (hn : nmL (gL S) L') (hf : Fr bl0P m m') (hc : ∀ j, j < 217 → zi m' 5 j = zi m0 5 j) : R2 S m' := by
  have hB : BvM m 0 0 (L', (gBl S).2) := hR.2.2.2.2.1
  have hB0 : BvM m0 0 0 (gBl S) := h0.2.2.2.2.1
  obtain ⟨⟨w1, w2, w3⟩, ⟨l1, l2, l3⟩, ⟨p1, p2, p3⟩, ⟨o1, o2⟩, _⟩ := hB0
  have l2' : (gL S).2.1.length ≤ 8 := l2
  have p2' : (gL S).2.2.1.length ≤ 6 := p2
  have hB' : BvM m' 0 0 (gBl S) := by
    refine ⟨⟨?_, w2, fun i hi => ?_⟩, ⟨?_, l2, fun i hi => ?_⟩, ⟨?_, p2, fun i hi => ⟨?_, (p3 i hi).2⟩⟩, ⟨?_, ?_⟩, hf.yvM (fun j h1 _ => by unfold bl0P; omega) hB.2.2.2.2⟩
    · rw [hc _ (by omega)]; exact w1
    · rw [hf.l (by unfold bl0P; omega)]
      have := hB.1.2.2 i (by
        show i < L'.1.length
        rw [hn.1]; exact hi)
      rw [this]
      show L'.1.getD i 0 = _
      rw [hn.1]
    · rw [hc _ (by omega)]; exact l1
    · have hi' : i < (gL S).2.1.length := hi
      obtain ⟨q1, q2, q3, q4, q5, q6⟩ := l3 i hi
      refine ⟨by rw [hc _ (by omega)]; exact q1, by rw [hc _ (by omega)]; exact q2, q3, by rw [hc _ (by omega)]; exact q4, q5, fun k hk => ?_⟩
      obtain ⟨e1, e2⟩ := cellN_lt (i := i) (k := k) (by omega) (by omega)
      have := q6 k hk
      unfold EdB at this ⊢
      rw [hc _ (by omega), hc _ (by omega), hc _ (by omega), hc _ (by omega)]
      exact this
    · rw [hc _ (by omega)]; exact p1
    · have hi' : i < (gL S).2.2.1.length := hi
      obtain ⟨q1, q2, q3, q4, q5⟩ := (p3 i hi).1
      have q41 := q4.1
      refine ⟨?_, by rw [hc _ (by omega)]; exact q2, by rw [hc _ (by omega)]; exact q3, q4, fun k hk => by rw [hc _ (by omega)]; exact q5 k hk⟩
      rw [hf.l (by unfold bl0P; omega)]
      have := (hB.2.2.1.2.2 i (by
        show i < L'.2.2.1.length
        rw [hn.2.1]; exact hi)).1.1
      rw [this]
      exact hn.2.2 i hi
    · rw [hc _ (by omega)]; exact o1
    · rw [hc _ (by omega)]; exact o2
  exact hR.blk hf hB'
end MEANM
