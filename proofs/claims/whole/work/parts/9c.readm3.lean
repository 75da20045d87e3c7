/-! The reference reads an EDIT. -/
def rmP (b j : Nat) : Prop := (b = 0 ∧ 12 ≤ j ∧ j ≤ 19) ∨ (b = 5 ∧ 1956 ≤ j) ∨ (b = 7 ∧ 56 ≤ j)
def wrP (b j : Nat) : Prop := (b = 5 ∧ 1956 ≤ j) ∨ (b = 7 ∧ 56 ≤ j)
def PeM (m : zM) (L : zLd) (nu : Int) (es : List zEd) : Prop := BvM m 1956 56 (L, none) ∧ MlB m 1956 L.2.1.length (nu, false, es) ∧ (∀ i, L.2.1.length < i → i < 8 → zi m 5 (1969 + i) = 0 ∧ zi m 5 (1977 + i) = 0 ∧ ∀ k, k < 4 → zi m 5 (1958 + cellN i k) = 0) ∧ ∀ k, es.length ≤ k → k < 4 → zi m 5 (1958 + cellN L.2.1.length k) = 0
def edP (w l b j : Nat) : Prop := tmP b j ∨ (b = 5 ∧ (j = w ∨ j = w + 1 ∨ j = w + 2 ∨ j = w + 3 ∨ j = 1969 + l))
section READM3
variable {v : Nat} {m m' : zM} {f : Nat → Nat} {n : Nat} {T : zTok} {L : zLd} {e : Nat × Nat}
theorem BvM.keep {P : Nat → Nat → Prop} {β ν : Nat} {B : zBl} (hv : BvM m β ν B) (h : Fr P m m') (hc : ∀ j, β ≤ j → j < β + 5 → ¬ P 5 j)
    (hl : ∀ i, i < B.1.2.1.length → ¬ P 5 (β + 5 + i) ∧ ¬ P 5 (β + 13 + i) ∧ ¬ P 5 (β + 21 + i) ∧ ∀ j, β + 29 + 16 * i ≤ j → j < β + 45 + 16 * i → ¬ P 5 j)
    (hp : ∀ i, i < B.1.2.2.1.length → ¬ P 7 (ν + 8 + i) ∧ ¬ P 5 (β + 157 + i) ∧ ¬ P 5 (β + 163 + i) ∧ ∀ j, β + 169 + 8 * i ≤ j → j < β + 177 + 8 * i → ¬ P 5 j)
    (hn : ∀ i, i < B.1.1.length → ¬ P 7 (ν + i)) (hy : ∀ j, β + 217 ≤ j → j < β + 489 → ¬ P 5 j) : BvM m' β ν B := by
  obtain ⟨⟨w1, w2, w3⟩, ⟨l1, l2, l3⟩, ⟨p1, p2, p3⟩, ⟨o1, o2⟩, hyr⟩ := hv
  refine ⟨⟨?_, w2, fun i hi => ?_⟩, ⟨?_, l2, fun i hi => ?_⟩, ⟨?_, p2, fun i hi => ⟨?_, (p3 i hi).2⟩⟩, ⟨?_, ?_⟩, h.yvM hy hyr⟩
  · rw [h.i (hc _ (by omega) (by omega))]; exact w1
  · rw [h.l (hn i hi)]; exact w3 i hi
  · rw [h.i (hc _ (by omega) (by omega))]; exact l1
  · obtain ⟨q1, q2, q3, q4⟩ := hl i hi
    exact h.mlB q1 q2 q3 q4 (l3 i hi)
  · rw [h.i (hc _ (by omega) (by omega))]; exact p1
  · obtain ⟨q1, q2, q3, q4⟩ := hp i hi
    exact h.psB q1 q2 q3 q4 (p3 i hi).1
  · rw [h.i (hc _ (by omega) (by omega))]; exact o1
  · rw [h.i (hc _ (by omega) (by omega))]; exact o2
theorem tm_rm (h : Fr tmP m m') : Fr rmP m m' := h.mono (fun b j q => by unfold tmP at q; unfold rmP; omega)
theorem fl_rm (h : Fr flP m m') : Fr rmP m m' := h.mono (fun b j q => by unfold flP at q; unfold rmP; omega)
theorem wr_rm (h : Fr wrP m m') : Fr rmP m m' := h.mono (fun b j q => by unfold wrP at q; unfold rmP; omega)
theorem GdM.wr (g : GdM m f n T) (h : Fr wrP m m') : GdM m' f n T := by
  obtain ⟨hx, ⟨k1, k2, k3, k4, k5⟩, hW, hb⟩ := g
  have z : ∀ j, zi m' 0 j = zi m 0 j := fun j => h.i (by unfold wrP; omega)
  have zl' : ∀ j, zl m' 0 j = zl m 0 j := fun j => h.l (by unfold wrP; omega)
  refine ⟨hx.fr h (by unfold wrP; omega) (fun j => by unfold wrP; omega), ⟨by rw [z]; exact k1, by rw [z]; exact k2, by rw [z]; exact k3, fun q => by rw [zl', z]; exact k4 q, fun q => by rw [z]; exact k5 q⟩, hW, by rw [z]; exact hb⟩
theorem BdM.wr (b : BdM m f n e) (h : Fr wrP m m') : BdM m' f n e := by
  have z : ∀ j, zi m' 0 j = zi m 0 j := fun j => h.i (by unfold wrP; omega)
  exact ⟨b.1.fr h (by unfold wrP; omega) (fun j => by unfold wrP; omega), by rw [z]; exact b.2.1, by rw [z]; exact b.2.2.1, b.2.2.2⟩
theorem BuNm {B : zBl} (h : BvM m 1956 56 B) : NmV m 4 B.1 := BvM.nm (b := 4) h
theorem m_ed199 (hx : TxM m f n) {l : Nat} (hl : l < 8) {x2 : Nat} (h2 : x2 < 5) {u3 u4 u5 : Int} {u6 : Option zV} : zX zP 297 v 199 [some (.inr (.inr (some 0))), some (.inl (l : Int)), some (.inl (x2 : Int)), some (.inl u3), some (.inl u4), some (.inl u5), u6] [] m = some (none, zwi m 5 (1969 + l) ((x2 + 1 : Nat) : Int)) := by
  have e1 : ∀ _ : Unit, zadd 1969 (l : Int) = ((1969 + l : Nat) : Int) := fun _ => zadd_nat (n := 1969) (by omega)
  rw [j_X11_readEdit_199, if_pos hx.t, hx.1.2.1.2.1.1, obind, e1 (), if_pos (A5 hx.1 (by omega) (by omega)), Int.toNat_natCast, zadd1 (by omega)]
theorem m_edw (hS : S2 m) {w : Nat} (h : w + 3 < 2445) : (zA m 5 9 (w : Int) = true ∧ zA m 5 9 ((w + 1 : Nat) : Int) = true ∧ zA m 5 9 ((w + 2 : Nat) : Int) = true ∧ zA m 5 9 ((w + 3 : Nat) : Int) = true) ∧ (zadd (w : Int) 1 = ((w + 1 : Nat) : Int) ∧ zadd (w : Int) 2 = ((w + 2 : Nat) : Int) ∧ zadd (w : Int) 3 = ((w + 3 : Nat) : Int)) :=
  ⟨⟨A5 hS (by omega) (by omega), A5 hS (by omega) (by omega), A5 hS (by omega) (by omega), A5 hS (by omega) (by omega)⟩, zadd_nat (k := 1) (by omega), zadd_nat (k := 2) (by omega), zadd_nat (k := 3) (by omega)⟩
/-- the three cells written -/
def m3w (m : zM) (w : Nat) (k a : Int) : zM := zwi (zwi (zwi m 5 w k) 5 (w + 1) a) 5 (w + 3) 0
theorem m3w_fr {w : Nat} (hw : 1956 ≤ w) (k a : Int) : Fr wrP m (m3w m w k a) := ((Fr.wi m _ (Or.inl ⟨rfl, by omega⟩)).tr (Fr.wi _ _ (Or.inl ⟨rfl, by omega⟩))).tr (Fr.wi _ _ (Or.inl ⟨rfl, by omega⟩))
theorem m_ed139 (hx : TxM m f n) {w : Nat} (hw : w + 3 < 2445) {l x2 k a : Int} {u6 : Option zV} (y : Option zO)
    (hB : ¬ zi m 0 12 = 0 → zX zP 297 v 199 [some (.inr (.inr (some 0))), some (.inl l), some (.inl x2), some (.inl (w : Int)), some (.inl k), some (.inl a), u6] [] (m3w m w k a) = y)
    (hG : zi m 0 12 = 0 → (if k = 2 then zX zP 297 v 199 [some (.inr (.inr (some 0))), some (.inl l), some (.inl x2), some (.inl (w : Int)), some (.inl k), some (.inl a), u6] [] (m3w m w k a) else zC1 (zF zP 267 0 [(.inr (.inr (some 0)))] (m3w m w k a)) (fun c5 m4 => if c5 = 0 then zX zP 297 v 199 [some (.inr (.inr (some 0))), some (.inl l), some (.inl x2), some (.inl (w : Int)), some (.inl k), some (.inl a), u6] [] m4 else if zT m4 0 7 = true then (zr m4 0 20).bind (fun b6 => if zA m4 b6 9 (zadd (w : Int) 3) = true then if zT (zwi m4 b6 (Int.toNat (zadd (w : Int) 3)) 1) 0 7 = true then zC0 (zF zP 259 0 [(.inr (.inr (some 0)))] (zwi m4 b6 (Int.toNat (zadd (w : Int) 3)) 1)) (fun m7 => zX zP 297 v 199 [some (.inr (.inr (some 0))), some (.inl l), some (.inl x2), some (.inl (w : Int)), some (.inl k), some (.inl a), u6] [] m7) else none else none) else none)) = y) :
    zX zP 297 v 139 [some (.inr (.inr (some 0))), some (.inl l), some (.inl x2), some (.inl (w : Int)), some (.inl k), some (.inl a), u6] [] m = y := by
  obtain ⟨⟨a0, a1, a2, a3⟩, e1, e2, e3⟩ := m_edw hx.1 hw
  have r20 := hx.1.2.1.2.1.1
  have t := hx.t
  have n12 : zi (m3w m w k a) 0 12 = zi m 0 12 := by
    unfold m3w
    rw [zi_wi_n _ _ (Or.inl (by decide)), zi_wi_n _ _ (Or.inl (by decide)), zi_wi_n _ _ (Or.inl (by decide))]
  rw [j_X11_readEdit_139, if_pos t, r20, obind, if_pos a0, zT_wi, if_pos t, Int.toNat_natCast]
  show (zr m 0 20).bind _ = _
  rw [r20, obind, e1, zA_wi, if_pos a1, zT_wi, zT_wi, if_pos t, Int.toNat_natCast]
  show (zr m 0 20).bind _ = _
  rw [r20, obind, e3, zA_wi, zA_wi, if_pos a3, zT_wi, zT_wi, zT_wi, if_pos t, Int.toNat_natCast]
  show (if zi (m3w m w k a) 0 12 = 0 then (if k = 2 then _ else if zT m 0 7 = true then zC1 (zF zP 267 0 [(.inr (.inr (some 0)))] (m3w m w k a)) _ else none) else zX zP 297 v 199 _ [] (m3w m w k a)) = _
  rw [n12]
  by_cases c : zi m 0 12 = 0
  · rw [if_pos c, if_pos t]
    have hg := hG c
    rw [e3] at hg
    exact hg
  · rw [if_neg c]; exact hB c
theorem m_ed139B (b : BdM m f n e) {w l x2 : Nat} (hw : 1956 ≤ w) (hw2 : w + 3 < 2445) (hl : l < 8) (h2 : x2 < 5) {k a : Int} {u6 : Option zV} : ∃ m', zX zP 297 v 139 [some (.inr (.inr (some 0))), some (.inl (l : Int)), some (.inl (x2 : Int)), some (.inl (w : Int)), some (.inl k), some (.inl a), u6] [] m = some (none, m') ∧ Fr wrP m m' ∧ BdM m' f n e := by
  have h3 := m3w_fr (m := m) hw k a
  have b3 := b.wr h3
  have h4 : Fr wrP (m3w m w k a) (zwi (m3w m w k a) 5 (1969 + l) ((x2 + 1 : Nat) : Int)) := Fr.wi _ _ (Or.inl ⟨rfl, by omega⟩)
  refine ⟨_, m_ed139 b.1 hw2 _ (fun _ => m_ed199 b3.1 hl h2) (fun c => ?_), h3.tr h4, b3.wr h4⟩
  have := b.2.2.2
  have := b.2.1
  omega
theorem m_ed124B (b : BdM m f n e) {w l x2 : Nat} (hw : 1956 ≤ w) (hw2 : w + 3 < 2445) (hl : l < 8) (h2 : x2 < 5) {k a x6 : Int} : ∃ m', zX zP 297 v 124 [some (.inr (.inr (some 0))), some (.inl (l : Int)), some (.inl (x2 : Int)), some (.inl (w : Int)), some (.inl k), some (.inl a), some (.inl x6)] [] m = some (none, m') ∧ Fr wrP m m' ∧ BdM m' f n e := by
  obtain ⟨⟨a0, a1, a2, a3⟩, e1, e2, e3⟩ := m_edw b.1.1 hw2
  have h4 : Fr wrP m (zwi m 5 (w + 2) x6) := Fr.wi m _ (Or.inl ⟨rfl, by omega⟩)
  obtain ⟨m', f1, f2, f3⟩ := m_ed139B (v := v) (b.wr h4) hw hw2 hl h2 (k := k) (a := a) (u6 := some (.inl x6))
  refine ⟨m', ?_, h4.tr f2, f3⟩
  rw [j_X11_readEdit_124, if_pos b.1.t, m_mustB b, zC0_s, if_pos b.1.t, b.1.1.2.1.2.1.1, obind, e2, if_pos a2, Int.toNat_natCast]
  exact f1
theorem m_ed85B (b : BdM m f n e) {w l x2 : Nat} (hw : 1956 ≤ w) (hw2 : w + 3 < 2445) (hl : l < 8) (h2 : x2 < 5) {k a y : Int} : ∃ m', zX zP 297 v 85 [some (.inr (.inr (some 0))), some (.inl (l : Int)), some (.inl (x2 : Int)), some (.inl (w : Int)), some (.inl k), some (.inl a), none] [.inl y, (.inr (.inr (some 0)))] m = some (none, m') ∧ Fr wrP m m' ∧ BdM m' f n e := by
  obtain ⟨m', f1, f2, f3⟩ := m_ed124B (v := v) b hw hw2 hl h2 (k := k) (a := a) (x6 := 0)
  have := b.2.2.2
  refine ⟨m', ?_, f2, f3⟩
  rw [j_X11_readEdit_85, if_pos b.1.t, m_mustB b, zC0_s, if_pos b.1.t, m_toldB b, zC1_s, if_pos b.1.t, b.2.1, if_neg (by omega)]
  exact f1
/-- all cells of an EDIT written, PASSIM read -/
theorem m_ed139G (g : GdM m f n T) (hR : TkR n T) {w l x2 k a o : Nat} (hw : 1956 ≤ w) (hw2 : w + 3 < 1956 + 157) (hl : l < 8) (h2 : x2 < 5) (hwl : 1969 + l < w) {u6 : Option zV} : ∃ m', zX zP 297 v 139 [some (.inr (.inr (some 0))), some (.inl (l : Int)), some (.inl (x2 : Int)), some (.inl (w : Int)), some (.inl (k : Int)), some (.inl (a : Int)), u6] [] m = some (none, m') ∧ Fr (edP w l) m m' ∧ GdM m' f n (pasE f n T k a o).1 ∧ zi m' 5 w = (k : Int) ∧ zi m' 5 (w + 1) = (a : Int) ∧ zi m' 5 (w + 2) = zi m 5 (w + 2) ∧ zi m' 5 (w + 3) = b01 (pasE f n T k a o).2.2.2.2 ∧ zi m' 5 (1969 + l) = ((x2 + 1 : Nat) : Int) := by
  have hw3 : w + 3 < 2445 := by omega
  obtain ⟨⟨a0, a1, a2, a3⟩, e1, e2, e3⟩ := m_edw g.1.1 hw3
  have h3 := m3w_fr (m := m) hw (k : Int) (a : Int)
  have g3 := g.wr h3
  have h3e : Fr (edP w l) m (m3w m w (k : Int) (a : Int)) := ((Fr.wi m _ (Or.inr ⟨rfl, by omega⟩)).tr (Fr.wi _ _ (Or.inr ⟨rfl, by omega⟩))).tr (Fr.wi _ _ (Or.inr ⟨rfl, by omega⟩))
  have c0 : zi (m3w m w (k : Int) (a : Int)) 5 w = (k : Int) := by unfold m3w; rw [zi_wi_n _ _ (Or.inr (by omega)), zi_wi_n _ _ (Or.inr (by omega)), zi_wi_s]
  have c1 : zi (m3w m w (k : Int) (a : Int)) 5 (w + 1) = (a : Int) := by unfold m3w; rw [zi_wi_n _ _ (Or.inr (by omega)), zi_wi_s]
  have c2 : zi (m3w m w (k : Int) (a : Int)) 5 (w + 2) = zi m 5 (w + 2) := by unfold m3w; rw [zi_wi_n _ _ (Or.inr (by omega)), zi_wi_n _ _ (Or.inr (by omega)), zi_wi_n _ _ (Or.inr (by omega))]
  have c3 : zi (m3w m w (k : Int) (a : Int)) 5 (w + 3) = 0 := by unfold m3w; exact zi_wi_s _ _ _ _
  have g12 := g.2.2.2
  -- from a memory behind PASSIM
  have fin : ∀ (m4 : zM) (T' : zTok) (p : Bool), Fr (edP w l) m m4 → GdM m4 f n T' → zi m4 5 w = (k : Int) → zi m4 5 (w + 1) = (a : Int) → zi m4 5 (w + 2) = zi m 5 (w + 2) → zi m4 5 (w + 3) = b01 p → ∃ m', zX zP 297 v 199 [some (.inr (.inr (some 0))), some (.inl (l : Int)), some (.inl (x2 : Int)), some (.inl (w : Int)), some (.inl (k : Int)), some (.inl (a : Int)), u6] [] m4 = some (none, m') ∧ Fr (edP w l) m m' ∧ GdM m' f n T' ∧ zi m' 5 w = (k : Int) ∧ zi m' 5 (w + 1) = (a : Int) ∧ zi m' 5 (w + 2) = zi m 5 (w + 2) ∧ zi m' 5 (w + 3) = b01 p ∧ zi m' 5 (1969 + l) = ((x2 + 1 : Nat) : Int) := by
    intro m4 T' p hF g4 q0 q1 q2 q3
    have h5 : Fr wrP m4 (zwi m4 5 (1969 + l) ((x2 + 1 : Nat) : Int)) := Fr.wi _ _ (Or.inl ⟨rfl, by omega⟩)
    refine ⟨_, m_ed199 g4.1 hl h2, hF.tr (Fr.wi _ _ (Or.inr ⟨rfl, by omega⟩)), g4.wr h5, ?_, ?_, ?_, ?_, zi_wi_s _ _ _ _⟩
    · rw [zi_wi_n _ _ (Or.inr (by omega))]; exact q0
    · rw [zi_wi_n _ _ (Or.inr (by omega))]; exact q1
    · rw [zi_wi_n _ _ (Or.inr (by omega))]; exact q2
    · rw [zi_wi_n _ _ (Or.inr (by omega))]; exact q3
  by_cases hk2 : k = 2
  · obtain ⟨m', f1, f2⟩ := fin _ T false h3e g3 c0 c1 c2 c3
    refine ⟨m', m_ed139 g.1 hw3 _ (fun c => absurd g12 c) (fun _ => ?_), ?_⟩
    · rw [if_pos (show (k : Int) = 2 by omega)]; exact f1
    · unfold pasE
      rw [if_neg (by rw [decide_eq_true hk2, Bool.not_true, Bool.false_and]; decide)]
      exact f2
  · by_cases c5 : isK T 5 = true
    · have h4 : Fr wrP (m3w m w (k : Int) (a : Int)) (zwi (m3w m w (k : Int) (a : Int)) 5 (w + 3) 1) := Fr.wi _ _ (Or.inl ⟨rfl, by omega⟩)
      have h4e : Fr (edP w l) (m3w m w (k : Int) (a : Int)) (zwi (m3w m w (k : Int) (a : Int)) 5 (w + 3) 1) := Fr.wi _ _ (Or.inr ⟨rfl, by omega⟩)
      have g4 := g3.wr h4
      obtain ⟨m5, x1, x2', x3⟩ := m_adv (v := 0) g4 hR
      have hx5 : Fr (edP w l) (zwi (m3w m w (k : Int) (a : Int)) 5 (w + 3) 1) m5 := x2'.mono (fun b j q => Or.inl q)
      obtain ⟨m', f1, f2⟩ := fin m5 (nxT f n T) true ((h3e.tr h4e).tr hx5) x3 (by rw [x2'.i (by unfold tmP; omega), zi_wi_n _ _ (Or.inr (by omega))]; exact c0) (by rw [x2'.i (by unfold tmP; omega), zi_wi_n _ _ (Or.inr (by omega))]; exact c1) (by rw [x2'.i (by unfold tmP; omega), zi_wi_n _ _ (Or.inr (by omega))]; exact c2) (by rw [x2'.i (by unfold tmP; omega), zi_wi_s]; rfl)
      have a3' : zA (m3w m w (k : Int) (a : Int)) 5 9 ((w + 3 : Nat) : Int) = true := (m_edw g3.1.1 hw3).1.2.2.2
      refine ⟨m', m_ed139 g.1 hw3 _ (fun c => absurd g12 c) (fun _ => ?_), ?_⟩
      · rw [if_neg (show ¬ (k : Int) = 2 by omega), m_isPassim g3, zC1_s, c5, if_neg nb1, if_pos g3.1.t, g3.1.1.2.1.2.1.1, obind, e3, if_pos a3', Int.toNat_natCast, zT_wi, if_pos g3.1.t, x1, zC0_s]
        exact f1
      · unfold pasE
        rw [if_pos (by rw [decide_eq_false hk2, c5]; rfl)]
        exact f2
    · obtain ⟨m', f1, f2⟩ := fin _ T false h3e g3 c0 c1 c2 c3
      refine ⟨m', m_ed139 g.1 hw3 _ (fun c => absurd g12 c) (fun _ => ?_), ?_⟩
      · rw [if_neg (show ¬ (k : Int) = 2 by omega), m_isPassim g3, zC1_s, bool_f c5, if_pos yb0]
        exact f1
      · unfold pasE
        rw [if_neg (by rw [bool_f c5, Bool.and_false]; decide)]
        exact f2
theorem m_ed124G (g : GdM m f n T) (hR : TkR n T) {w l x2 k a o : Nat} (hw : 1956 ≤ w) (hw2 : w + 3 < 1956 + 157) (hl : l < 8) (h2 : x2 < 5) (hwl : 1969 + l < w) : ∃ m', zX zP 297 v 124 [some (.inr (.inr (some 0))), some (.inl (l : Int)), some (.inl (x2 : Int)), some (.inl (w : Int)), some (.inl (k : Int)), some (.inl (a : Int)), some (.inl (o : Int))] [] m = some (none, m') ∧ Fr (edP w l) m m' ∧ GdM m' f n (pasE f n (nxT f n T) k a o).1 ∧ zi m' 5 w = (k : Int) ∧ zi m' 5 (w + 1) = (a : Int) ∧ zi m' 5 (w + 2) = (o : Int) ∧ zi m' 5 (w + 3) = b01 (pasE f n (nxT f n T) k a o).2.2.2.2 ∧ zi m' 5 (1969 + l) = ((x2 + 1 : Nat) : Int) := by
  obtain ⟨m1, x1, x2', x3⟩ := m_mustT (v := 0) g hR
  have hw3 : w + 3 < 2445 := by omega
  obtain ⟨⟨a0, a1, a2, a3⟩, e1, e2, e3⟩ := m_edw x3.1.1 hw3
  have h4 : Fr wrP m1 (zwi m1 5 (w + 2) (o : Int)) := Fr.wi m1 _ (Or.inl ⟨rfl, by omega⟩)
  obtain ⟨m', f1, f2, f3, f4, f5, f6, f7⟩ := m_ed139G (v := v) (x3.wr h4) (nxT_R hR) (w := w) (l := l) (x2 := x2) (k := k) (a := a) (o := o) hw hw2 hl h2 hwl (u6 := some (.inl (o : Int)))
  refine ⟨m', ?_, ((x2'.mono (fun b j q => Or.inl q)).tr (Fr.wi _ _ (Or.inr ⟨rfl, by omega⟩))).tr f2, f3, f4, f5, by rw [f6, zi_wi_s], f7⟩
  rw [j_X11_readEdit_124, if_pos g.1.t, x1, zC0_s, if_pos x3.1.t, x3.1.1.2.1.2.1.1, obind, e2, if_pos a2, Int.toNat_natCast]
  exact f1
end READM3
