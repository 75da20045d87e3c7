/-! A LAND's parts changed, in both memories. -/
def lnSet (L : zLd) (i : Nat) (x : zLn) : zLd := (L.1, L.2.1.set i x, L.2.2)
def psSet (L : zLd) (p : Nat) (x : zPs0) : zLd := (L.1, L.2.1, L.2.2.1.set p x, L.2.2.2)
def odSet (L : zLd) (x : Int) : zLd := (L.1, L.2.1, L.2.2.1, x, L.2.2.2.2)
def tdSet (L : zLd) (x : Int) : zLd := (L.1, L.2.1, L.2.2.1, L.2.2.2.1, x)
abbrev wL (S : zSt) (L : zLd) : zSt := wBl S (L, (gBl S).2)
theorem getD_set {α : Type} (l : List α) (i j : Nat) (x d : α) : (l.set i x).getD j d = if i = j ∧ j < l.length then x else l.getD j d := by
  rw [List.getD_eq_getElem?_getD, List.getElem?_set, List.getD_eq_getElem?_getD]
  by_cases h : i = j
  · subst h
    by_cases h2 : i < l.length
    · rw [if_pos rfl, if_pos h2, if_pos ⟨rfl, h2⟩]; rfl
    · rw [if_pos rfl, if_neg h2, if_neg (fun q => h2 q.2), List.getElem?_eq_none (by omega)]
  · rw [if_neg h, if_neg (fun q => h q.1)]
theorem set_set_eq {α : Type} (l : List α) (i : Nat) (x y : α) : (l.set i x).set i y = l.set i y := by simp
section UPD
variable {S : zSt} {m m' : zM} {P : Nat → Nat → Prop} {a : Nat} {L : zLd}
/-- the class -/
theorem LdV.line {i : Nat} {x : zLn} (hL : LdV m a L) (hi : i < L.2.1.length) (h : Sam m m' (a + 12 + 2 * i) (a + 14 + 2 * i)) (hx : LnV m' (a + 12 + 2 * i) x.1 x.2.1 x.2.2) : LdV m' a (lnSet L i x) := by
  obtain ⟨⟨w1, w2, w3⟩, ⟨l1, l2, l3⟩, ⟨p1, p2, p3⟩, o1, o2⟩ := hL
  unfold LdV lnSet
  rw [h.i (by omega), h.i (by omega), h.i (by omega), h.i (by omega), h.i (by omega)]
  refine ⟨⟨w1, w2, fun k hk => by rw [h.l (by omega)]; exact w3 k hk⟩, ⟨by rw [List.length_set]; exact l1, by rw [List.length_set]; exact l2, fun k hk => ?_⟩, ⟨p1, p2, fun k hk => by rw [h.l (by omega), h.i (by omega), h.l (by omega), List.length_set]; exact p3 k hk⟩, o1, o2.1, fun j hj => by
    by_cases e : j = i
    · subst e; rw [hx.2.2.1]; exact zb_b01 _
    · rw [h.i (by omega)]; exact o2.2 j hj⟩
  have hk' : k < L.2.1.length := by rw [List.length_set] at hk; exact hk
  rw [getD_set]
  by_cases e : i = k
  · subst e; rw [if_pos ⟨rfl, hk'⟩]; exact hx
  · rw [if_neg (fun q => e q.1)]; exact h.lnV (by omega) (l3 k hk')
theorem LdV.psn {p : Nat} {x : zPs0} (hL : LdV m a L) (hp : p < L.2.2.1.length) (h : Sam m m' (a + 5) (a + 8)) (hk : ∀ k, k ≠ p → k < 6 → zl m' (a + 5) k = zl m (a + 5) k ∧ zi m' (a + 6) k = zi m (a + 6) k ∧ zl m' (a + 7) k = zl m (a + 7) k)
    (hx : zl m' (a + 5) p = x.1 ∧ zi m' (a + 6) p = (x.2.1 : Int) ∧ zl m' (a + 7) p = zrow x.2.2 ∧ rOk x.2.2 ∧ x.2.1 < L.2.1.length) : LdV m' a (psSet L p x) := by
  obtain ⟨⟨w1, w2, w3⟩, ⟨l1, l2, l3⟩, ⟨p1, p2, p3⟩, o1, o2⟩ := hL
  unfold LdV psSet
  rw [h.i (by omega), h.i (by omega), h.i (by omega), h.i (by omega), h.i (by omega)]
  refine ⟨⟨w1, w2, fun k hk => by rw [h.l (by omega)]; exact w3 k hk⟩, ⟨l1, l2, fun k hk => h.lnV (by omega) (l3 k hk)⟩, ⟨by rw [List.length_set]; exact p1, by rw [List.length_set]; exact p2, fun k hkl => ?_⟩, o1, o2.1, fun j hj => by rw [h.i (by omega)]; exact o2.2 j hj⟩
  have hk' : k < L.2.2.1.length := by rw [List.length_set] at hkl; exact hkl
  rw [getD_set]
  by_cases e : p = k
  · subst e; rw [if_pos ⟨rfl, hk'⟩]; exact hx
  · rw [if_neg (fun q => e q.1), (hk k (fun q => e q.symm) (by omega)).1, (hk k (fun q => e q.symm) (by omega)).2.1, (hk k (fun q => e q.symm) (by omega)).2.2]; exact p3 k hk'
theorem LdV.stand {p x : Nat} (hL : LdV m a L) (hp : p < L.2.2.1.length) (hx : x < L.2.1.length) : LdV (zwi m (a + 6) p (x : Int)) a (psSet L p ((L.2.2.1.getD p ps0).1, x, (L.2.2.1.getD p ps0).2.2)) := by
  have h := hL.2.2.1.2.2 p hp
  refine hL.psn hp (Sam.wi m _ _ (by omega) (by omega)) (fun k hk _ => ⟨rfl, zi_wi_n _ _ (Or.inr hk), rfl⟩) ⟨h.1, zi_wi_s _ _ _ _, h.2.2.1, h.2.2.2.1, hx⟩
theorem LdV.say {p : Nat} {l : List Nat} (hL : LdV m a L) (hp : p < L.2.2.1.length) (hl : rOk l) : LdV (zwl m (a + 7) p (zrow l)) a (psSet L p ((L.2.2.1.getD p ps0).1, (L.2.2.1.getD p ps0).2.1, l)) := by
  have h := hL.2.2.1.2.2 p hp
  refine hL.psn hp (Sam.wl m _ _ (by omega) (by omega)) (fun k hk _ => ⟨zl_wl_off _ _ (Or.inr hk), rfl, zl_wl_off _ _ (Or.inr hk)⟩) ⟨?_, h.2.1, zl_wl_s _ _ _ _, hl, h.2.2.2.2⟩
  rw [zl_wl_off _ _ (Or.inl (by omega))]; exact h.1
theorem LdV.odds {x : Int} (hL : LdV m a L) : LdV (zwi m a 7 x) a (odSet L x) := by
  obtain ⟨⟨w1, w2, w3⟩, ⟨l1, l2, l3⟩, ⟨p1, p2, p3⟩, o1, o2⟩ := hL
  have g : ∀ b j, b ≠ a ∨ j ≠ 7 → zi (zwi m a 7 x) b j = zi m b j := fun b j q => zi_wi_n _ _ q
  unfold LdV odSet LnV
  rw [g a 8 (Or.inr (by decide)), g a 9 (Or.inr (by decide)), g a 10 (Or.inr (by decide)), g a 11 (Or.inr (by decide))]
  refine ⟨⟨w1, w2, w3⟩, ⟨l1, l2, fun k hk => ?_⟩, ⟨p1, p2, fun k hk => ?_⟩, zi_wi_s _ _ _ _, o2.1, fun j hj => by rw [g _ _ (Or.inl (by omega))]; exact o2.2 j hj⟩
  · have := l3 k hk
    unfold LnV at this
    rw [g _ _ (Or.inl (by omega)), g _ _ (Or.inl (by omega)), g _ _ (Or.inl (by omega))]
    exact ⟨this.1, this.2.1, this.2.2.1, this.2.2.2.1, this.2.2.2.2.1, fun j hj => by rw [g _ _ (Or.inl (by omega))]; exact this.2.2.2.2.2 j hj⟩
  · rw [g _ _ (Or.inl (by omega))]; exact p3 k hk
theorem LdV.today {x : Int} (hL : LdV m a L) : LdV (zwi m a 11 x) a (tdSet L x) := by
  obtain ⟨⟨w1, w2, w3⟩, ⟨l1, l2, l3⟩, ⟨p1, p2, p3⟩, o1, o2⟩ := hL
  have g : ∀ b j, b ≠ a ∨ j ≠ 11 → zi (zwi m a 11 x) b j = zi m b j := fun b j q => zi_wi_n _ _ q
  unfold LdV tdSet LnV
  rw [g a 8 (Or.inr (by decide)), g a 9 (Or.inr (by decide)), g a 10 (Or.inr (by decide)), g a 7 (Or.inr (by decide))]
  refine ⟨⟨w1, w2, w3⟩, ⟨l1, l2, fun k hk => ?_⟩, ⟨p1, p2, fun k hk => ?_⟩, o1, zi_wi_s _ _ _ _, fun j hj => by rw [g _ _ (Or.inl (by omega))]; exact o2.2 j hj⟩
  · have := l3 k hk
    unfold LnV at this
    rw [g _ _ (Or.inl (by omega)), g _ _ (Or.inl (by omega)), g _ _ (Or.inl (by omega))]
    exact ⟨this.1, this.2.1, this.2.2.1, this.2.2.2.1, this.2.2.2.2.1, fun j hj => by rw [g _ _ (Or.inl (by omega))]; exact this.2.2.2.2.2 j hj⟩
  · rw [g _ _ (Or.inl (by omega))]; exact p3 k hk
theorem R1.land {B : zBl} (hR : R1 S m) (h : Sam m m' 5 33) (hB : BvC m' 5 B) : R1 (wBl S B) m' := by
  obtain ⟨h1, h2, ⟨gtr, gtp, gbl, gmk, glv, gdf⟩⟩ := hR
  exact ⟨h.s1 h1, h.h1 (by omega) h2, fun t ht => h.trV (by omega) (gtr t ht), h.tpV (by omega) gtp, hB, ⟨gmk.1, fun i hi => h.bvC (by omega) (gmk.2 i hi)⟩, fun p hp i hi => by rw [h.i (by omega)]; exact glv p hp i hi, h.dfb (by omega) gdf⟩
/-- only the LAND but not its YEARS changed -/
theorem R1.lnd {L' : zLd} {lo hi : Nat} (hR : R1 S m) (h : Sam m m' lo hi) (hlo : 5 ≤ lo) (hhi : hi ≤ 33) (hy : hi ≤ 13 ∨ 17 ≤ lo) (hL : LdV m' 5 L') : R1 (wL S L') m' :=
  hR.land (h.mono hlo hhi) ⟨hL, h.yvC (by omega) hR.2.2.2.2.1.2⟩
/-- the reference -/
theorem Fr.mlB {β k : Nat} {x : zLn} (h : Fr P m m') (h1 : ¬ P 5 (β + 5 + k)) (h2 : ¬ P 5 (β + 13 + k)) (h3 : ¬ P 5 (β + 21 + k)) (h4 : ∀ j, β + 29 + 16 * k ≤ j → j < β + 45 + 16 * k → ¬ P 5 j) (hv : MlB m β k x) : MlB m' β k x := by
  obtain ⟨q1, q2, q3, q4, q5, q6⟩ := hv
  unfold MlB
  rw [h.i h1, h.i h2, h.i h3]
  refine ⟨q1, q2, q3, q4, q5, fun j hj => ?_⟩
  have := q6 j hj
  unfold EdB cellN at this ⊢
  rw [h.i (h4 _ (by omega) (by omega)), h.i (h4 _ (by omega) (by omega)), h.i (h4 _ (by omega) (by omega)), h.i (h4 _ (by omega) (by omega))]
  exact this
theorem Fr.psB {β ν k : Nat} {x : zPs0} (h : Fr P m m') (h0 : ¬ P 7 (ν + 8 + k)) (h1 : ¬ P 5 (β + 157 + k)) (h2 : ¬ P 5 (β + 163 + k)) (h4 : ∀ j, β + 169 + 8 * k ≤ j → j < β + 177 + 8 * k → ¬ P 5 j) (hv : PsB m β ν k x) : PsB m' β ν k x := by
  obtain ⟨q1, q2, q3, q4, q5⟩ := hv
  have q8 := q4.1
  unfold PsB
  rw [h.l h0, h.i h1, h.i h2]
  exact ⟨q1, q2, q3, q4, fun j hj => by rw [h.i (h4 _ (by omega) (by omega))]; exact q5 j hj⟩
def lnP (β i b j : Nat) : Prop := b = 5 ∧ (j = β + 5 + i ∨ j = β + 13 + i ∨ j = β + 21 + i ∨ (β + 29 + 16 * i ≤ j ∧ j < β + 45 + 16 * i))
def psP (β i b j : Nat) : Prop := b = 5 ∧ (j = β + 157 + i ∨ j = β + 163 + i ∨ (β + 169 + 8 * i ≤ j ∧ j < β + 177 + 8 * i))
def clP (k b j : Nat) : Prop := b = 5 ∧ j = k
theorem Fr.yvM {β : Nat} {y : zYr} (h : Fr P m m') (h5 : ∀ j, β + 217 ≤ j → j < β + 489 → ¬ P 5 j) (hv : YvM m β y) : YvM m' β y := by
  obtain ⟨y1, y2⟩ := hv
  unfold YvM
  rw [h.i (h5 _ (by omega) (by omega))]
  refine ⟨y1, fun t ht => ?_⟩
  obtain ⟨z1, z2, z3⟩ := y2 t ht
  rw [h.i (h5 _ (by omega) (by omega))]
  exact ⟨z1, z2, fun k hk => by rw [h.i (h5 _ (by omega) (by omega))]; exact z3 k hk⟩
theorem BvM.ln {β ν i : Nat} {B : zBl} {x : zLn} (hv : BvM m β ν B) (hi : i < B.1.2.1.length) (h : Fr (lnP β i) m m') (hx : MlB m' β i x) : BvM m' β ν (lnSet B.1 i x, B.2) := by
  obtain ⟨⟨w1, w2, w3⟩, ⟨l1, l2, l3⟩, ⟨p1, p2, p3⟩, ⟨o1, o2⟩, y⟩ := hv
  unfold BvM lnSet
  dsimp only
  rw [h.i (by unfold lnP; omega), h.i (by unfold lnP; omega), h.i (by unfold lnP; omega), h.i (by unfold lnP; omega), h.i (by unfold lnP; omega)]
  refine ⟨⟨w1, w2, fun k hk => by rw [h.l (by unfold lnP; omega)]; exact w3 k hk⟩, ⟨by rw [List.length_set]; exact l1, by rw [List.length_set]; exact l2, fun k hk => ?_⟩, ⟨p1, p2, fun k hk => ⟨h.psB (by unfold lnP; omega) (by unfold lnP; omega) (by unfold lnP; omega) (fun j _ _ => by unfold lnP; omega) (p3 k hk).1, by rw [List.length_set]; exact (p3 k hk).2⟩⟩, ⟨o1, o2⟩, h.yvM (fun j _ _ => by unfold lnP; omega) y⟩
  have hk' : k < B.1.2.1.length := by rw [List.length_set] at hk; exact hk
  rw [getD_set]
  by_cases e : i = k
  · subst e; rw [if_pos ⟨rfl, hk'⟩]; exact hx
  · rw [if_neg (fun q => e q.1)]; exact h.mlB (by unfold lnP; omega) (by unfold lnP; omega) (by unfold lnP; omega) (fun j _ _ => by unfold lnP; omega) (l3 k hk')
theorem BvM.ps {β ν i : Nat} {B : zBl} {x : zPs0} (hv : BvM m β ν B) (hi : i < B.1.2.2.1.length) (h : Fr (psP β i) m m') (hx : PsB m' β ν i x) (hpl : x.2.1 < B.1.2.1.length) : BvM m' β ν (psSet B.1 i x, B.2) := by
  obtain ⟨⟨w1, w2, w3⟩, ⟨l1, l2, l3⟩, ⟨p1, p2, p3⟩, ⟨o1, o2⟩, y⟩ := hv
  unfold BvM psSet
  dsimp only
  rw [h.i (by unfold psP; omega), h.i (by unfold psP; omega), h.i (by unfold psP; omega), h.i (by unfold psP; omega), h.i (by unfold psP; omega)]
  refine ⟨⟨w1, w2, fun k hk => by rw [h.l (by unfold psP; omega)]; exact w3 k hk⟩, ⟨l1, l2, fun k hk => h.mlB (by unfold psP; omega) (by unfold psP; omega) (by unfold psP; omega) (fun j _ _ => by unfold psP; omega) (l3 k hk)⟩, ⟨by rw [List.length_set]; exact p1, by rw [List.length_set]; exact p2, fun k hk => ?_⟩, ⟨o1, o2⟩, h.yvM (fun j _ _ => by unfold psP; omega) y⟩
  have hk' : k < B.1.2.2.1.length := by rw [List.length_set] at hk; exact hk
  rw [getD_set]
  by_cases e : i = k
  · subst e; rw [if_pos ⟨rfl, hk'⟩]; exact ⟨hx, hpl⟩
  · rw [if_neg (fun q => e q.1)]; exact ⟨h.psB (by unfold psP; omega) (by unfold psP; omega) (by unfold psP; omega) (fun j _ _ => by unfold psP; omega) (p3 k hk').1, (p3 k hk').2⟩
theorem BvM.odds {β ν : Nat} {B : zBl} {x : Int} (hv : BvM m β ν B) : BvM (zwi m 5 (β + 3) x) β ν (odSet B.1 x, B.2) := by
  have h : Fr (clP (β + 3)) m (zwi m 5 (β + 3) x) := Fr.wi m x ⟨rfl, rfl⟩
  obtain ⟨⟨w1, w2, w3⟩, ⟨l1, l2, l3⟩, ⟨p1, p2, p3⟩, ⟨o1, o2⟩, y⟩ := hv
  unfold BvM odSet
  dsimp only
  rw [h.i (by unfold clP; omega), h.i (by unfold clP; omega), h.i (by unfold clP; omega), h.i (j := β + 4) (by unfold clP; omega)]
  exact ⟨⟨w1, w2, fun k hk => by rw [h.l (by unfold clP; omega)]; exact w3 k hk⟩, ⟨l1, l2, fun k hk => h.mlB (by unfold clP; omega) (by unfold clP; omega) (by unfold clP; omega) (fun j _ _ => by unfold clP; omega) (l3 k hk)⟩, ⟨p1, p2, fun k hk => ⟨h.psB (by unfold clP; omega) (by unfold clP; omega) (by unfold clP; omega) (fun j _ _ => by unfold clP; omega) (p3 k hk).1, (p3 k hk).2⟩⟩, ⟨zi_wi_s _ _ _ _, o2⟩, h.yvM (fun j _ _ => by unfold clP; omega) y⟩
theorem BvM.today {β ν : Nat} {B : zBl} {x : Int} (hv : BvM m β ν B) : BvM (zwi m 5 (β + 4) x) β ν (tdSet B.1 x, B.2) := by
  have h : Fr (clP (β + 4)) m (zwi m 5 (β + 4) x) := Fr.wi m x ⟨rfl, rfl⟩
  obtain ⟨⟨w1, w2, w3⟩, ⟨l1, l2, l3⟩, ⟨p1, p2, p3⟩, ⟨o1, o2⟩, y⟩ := hv
  unfold BvM tdSet
  dsimp only
  rw [h.i (by unfold clP; omega), h.i (by unfold clP; omega), h.i (by unfold clP; omega), h.i (j := β + 3) (by unfold clP; omega)]
  exact ⟨⟨w1, w2, fun k hk => by rw [h.l (by unfold clP; omega)]; exact w3 k hk⟩, ⟨l1, l2, fun k hk => h.mlB (by unfold clP; omega) (by unfold clP; omega) (by unfold clP; omega) (fun j _ _ => by unfold clP; omega) (l3 k hk)⟩, ⟨p1, p2, fun k hk => ⟨h.psB (by unfold clP; omega) (by unfold clP; omega) (by unfold clP; omega) (fun j _ _ => by unfold clP; omega) (p3 k hk).1, (p3 k hk).2⟩⟩, ⟨o1, zi_wi_s _ _ _ _⟩, h.yvM (fun j _ _ => by unfold clP; omega) y⟩
/-- places of block 0 -/
def bl0P (b j : Nat) : Prop := b = 5 ∧ j < 217
theorem R2.blk {B : zBl} (hR : R2 S m) (h : Fr bl0P m m') (hB : BvM m' 0 0 B) : R2 (wBl S B) m' := by
  obtain ⟨h1, h2, ⟨gtr, ⟨t1, t2⟩, gbl, ⟨g1, g3⟩, glv⟩⟩ := hR
  exact ⟨h.s2 h1, h.h2 (fun j hj => by unfold bl0P; omega) h2, fun t ht => h.tvM (by unfold bl0P; omega) (by unfold bl0P; omega) (fun j _ _ => by unfold bl0P; omega) (gtr t ht), ⟨t1, fun i hi => by rw [h.i (by unfold bl0P; omega)]; exact t2 i hi⟩, hB, ⟨g1, fun i hi => h.bvM (fun j _ hj => by unfold bl0P; omega) (fun j _ hj => by unfold bl0P; omega) (g3 i hi)⟩, fun p hp i hi => by rw [h.i (by unfold bl0P; omega)]; exact glv p hp i hi⟩
theorem R2.bl (hR : R2 S m) : BvM m 0 0 (gBl S) := hR.2.2.2.2.1
theorem R2.lnw {i : Nat} {x : zLn} (hR : R2 S m) (hi : i < (gL S).2.1.length) (h : Fr (lnP 0 i) m m') (hx : MlB m' 0 i x) : R2 (wL S (lnSet (gL S) i x)) m' := by
  have h8 := hR.l8
  exact hR.blk (h.mono (fun b j q => by unfold lnP at q; unfold bl0P; omega)) (hR.bl.ln hi h hx)
theorem R2.psw {i : Nat} {x : zPs0} (hR : R2 S m) (hi : i < (gL S).2.2.1.length) (h : Fr (psP 0 i) m m') (hx : PsB m' 0 0 i x) (hpl : x.2.1 < (gL S).2.1.length) : R2 (wL S (psSet (gL S) i x)) m' := by
  have h8 := hR.p6
  exact hR.blk (h.mono (fun b j q => by unfold psP at q; unfold bl0P; omega)) (hR.bl.ps hi h hx hpl)
end UPD
