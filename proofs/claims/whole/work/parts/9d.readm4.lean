/-! The reference reads an EDIT: the whole. -/
section READM4
variable {v : Nat} {m m' : zM} {f : Nat → Nat} {n : Nat} {T : zTok} {L : zLd} {e : Nat × Nat}
theorem edP_ok {w l : Nat} (h : Fr (edP w l) m m') (hw : 1956 ≤ w) : Fr rmP m m' := h.mono (fun b j q => by unfold edP tmP at q; unfold rmP; omega)
theorem PeM.upd {nu : Int} {es : List zEd} {x : zEd} {w l : Nat} (hP : PeM m L nu es) (hl : l = L.2.1.length) (h8 : l < 8) (h4 : es.length < 4) (hw : w = 1956 + cellN l es.length) (h : Fr (edP w l) m m') (hx : eOk x) (c0 : zi m' 5 w = (x.1 : Int)) (c1 : zi m' 5 (w + 1) = (x.2.1 : Int)) (c2 : zi m' 5 (w + 2) = (x.2.2.1 : Int)) (c3 : zi m' 5 (w + 3) = b01 x.2.2.2) (cn : zi m' 5 (1969 + l) = ((es.length + 1 : Nat) : Int)) : PeM m' L nu (es ++ [x]) := by
  obtain ⟨p1, ⟨q1, q2, q3, q4, q5, q6⟩, p3, p4⟩ := hP
  have l8 := p1.2.1.2.1
  have hc : ∀ i k, cellN i k = 29 + 16 * i + 4 * k := fun _ _ => rfl
  have hno : ∀ j, (j < w ∨ w + 3 < j) → j ≠ 1969 + l → ¬ edP w l 5 j := fun j z1 z2 => by unfold edP tmP; omega
  have hno7 : ∀ j, ¬ edP w l 7 j := fun j => by unfold edP tmP; omega
  rw [hc] at hw
  have hlen : (es ++ [x]).length = es.length + 1 := by rw [List.length_append]; rfl
  subst hl
  refine ⟨p1.keep h (fun j z1 z2 => hno j (by omega) (by omega)) (fun i hi => ?_) (fun i hi => ?_) (fun i _ => hno7 _) (fun j z1 z2 => hno j (by omega) (by omega)), ⟨?_, ?_, ?_, ?_, fun y hy => ?_, fun k hk => ?_⟩, fun i z1 z2 => ⟨?_, ?_, fun k hk => ?_⟩, fun k z1 z2 => ?_⟩
  · have hi' : i < L.2.1.length := hi
    exact ⟨hno _ (by omega) (by omega), hno _ (by omega) (by omega), hno _ (by omega) (by omega), fun j z1 z2 => hno j (by omega) (by omega)⟩
  · have h6 : L.2.2.1.length ≤ 6 := p1.2.2.1.2.1
    have hi' : i < L.2.2.1.length := hi
    exact ⟨hno7 _, hno _ (by omega) (by omega), hno _ (by omega) (by omega), fun j z1 z2 => hno j (by omega) (by omega)⟩
  · rw [h.i (hno _ (by omega) (by omega))]; exact q1
  · rw [show 1956 + 13 + L.2.1.length = 1969 + L.2.1.length by omega, cn]
    show _ = (((es ++ [x]).length : Nat) : Int)
    rw [hlen]
  · show (es ++ [x]).length ≤ 4
    rw [hlen]; exact h4
  · rw [h.i (hno _ (by omega) (by omega))]; exact q4
  · rcases List.mem_append.mp hy with z | z
    · exact q5 y z
    · rw [List.mem_singleton.mp z]; exact hx
  · have hk' : k < es.length + 1 := by
      have z : k < (es ++ [x]).length := hk
      rw [hlen] at z; exact z
    show EdB m' 1956 L.2.1.length k ((es ++ [x]).getD k e00)
    unfold EdB
    rw [hc]
    by_cases z : k = es.length
    · subst z
      rw [getD_app_r, show 1956 + (29 + 16 * L.2.1.length + 4 * es.length) = w by omega]
      exact ⟨c0, c1, c2, c3⟩
    · rw [getD_app_l (by omega), h.i (hno _ (by omega) (by omega)), h.i (hno _ (by omega) (by omega)), h.i (hno _ (by omega) (by omega)), h.i (hno _ (by omega) (by omega))]
      exact q6 k (show k < es.length by omega)
  · rw [h.i (hno _ (by omega) (by omega))]; exact (p3 i z1 z2).1
  · rw [h.i (hno _ (by omega) (by omega))]; exact (p3 i z1 z2).2.1
  · have := hc i k
    rw [h.i (hno _ (by omega) (by omega))]; exact (p3 i z1 z2).2.2 k hk
  · have := hc L.2.1.length k
    rw [hlen] at z1
    rw [h.i (hno _ (by omega) (by omega))]; exact p4 k (by omega) z2
theorem edW0_K (h : isEd T = true) : edW0 T = (edK T : Int) := by
  unfold edW0 edK
  unfold isEd at h
  by_cases c3 : isK T 3 = true
  · rw [if_pos c3, if_pos c3]; rfl
  · rw [if_neg c3, if_neg c3]
    by_cases c6 : isK T 6 = true
    · rw [if_pos c6, if_pos c6]; rfl
    · rw [if_neg c6, if_neg c6]
      by_cases c7 : isK T 7 = true
      · rw [if_pos c7]; rfl
      · rw [bool_f c3, bool_f c6, bool_f c7] at h; exact absurd h (by decide)
theorem pasE_2 (f : Nat → Nat) (n : Nat) (T : zTok) (k w o : Nat) : (pasE f n T k w o).2.1 = k ∧ (pasE f n T k w o).2.2.1 = w ∧ (pasE f n T k w o).2.2.2.1 = o := by
  unfold pasE
  split <;> exact ⟨rfl, rfl, rfl⟩
theorem PeM.fr {nu : Int} {es : List zEd} {P : Nat → Nat → Prop} (hP : PeM m L nu es) (h : Fr P m m') (h5 : ∀ j, ¬ P 5 j) (h7 : ∀ j, ¬ P 7 j) : PeM m' L nu es :=
  ⟨h.bvM (fun j _ _ => h5 j) (fun j _ _ => h7 j) hP.1, h.mlB (h5 _) (h5 _) (h5 _) (fun j _ _ => h5 j) hP.2.1, fun i z1 z2 => ⟨by rw [h.i (h5 _)]; exact (hP.2.2.1 i z1 z2).1, by rw [h.i (h5 _)]; exact (hP.2.2.1 i z1 z2).2.1, fun k hk => by rw [h.i (h5 _)]; exact (hP.2.2.1 i z1 z2).2.2 k hk⟩, fun k z1 z2 => by rw [h.i (h5 _)]; exact hP.2.2.2 k z1 z2⟩
theorem m_rEdt (g : GdM m f n T) (hR : TkR n T) {nu : Int} {es : List zEd} (hP : PeM m L nu es) (h8 : L.2.1.length < 8) (hE : isEd T = true) :
    (es.length = 4 → ∃ m', zF zP 297 v [(.inr (.inr (some 0))), .inl (L.2.1.length : Int)] m = some (none, m') ∧ Fr rmP m m' ∧ BdM m' f n (6, T.2.1)) ∧
    (es.length < 4 → (∀ e, rEdt L f n T = .inl e → ∃ m', zF zP 297 v [(.inr (.inr (some 0))), .inl (L.2.1.length : Int)] m = some (none, m') ∧ Fr rmP m m' ∧ BdM m' f n e) ∧
      (∀ q, rEdt L f n T = .inr q → ∃ m', zF zP 297 v [(.inr (.inr (some 0))), .inl (L.2.1.length : Int)] m = some (none, m') ∧ Fr rmP m m' ∧ GdM m' f n q.1 ∧ PeM m' L nu (es ++ [q.2]))) := by
  have hcnt : zi m 5 (1969 + L.2.1.length) = (es.length : Int) := hP.2.1.2.1
  have e1969 : ∀ _ : Unit, zadd 1969 (L.2.1.length : Int) = ((1969 + L.2.1.length : Nat) : Int) := fun _ => zadd_nat (n := 1969) (by omega)
  have hS := g.1.1
  have st : zF zP 297 v [(.inr (.inr (some 0))), .inl (L.2.1.length : Int)] m = if (es.length : Int) = 4 then (if zT m 0 7 = true then if zT m 0 7 = true then zC0 (zF zP 278 0 [(.inr (.inr (some 0))), .inl 6, .inl (zi m 0 15)] m) (fun m2 => zX zP 297 v 26 [some (.inr (.inr (some 0))), some (.inl (L.2.1.length : Int)), some (.inl (es.length : Int)), none, none, none, none] [] m2) else none else none) else zX zP 297 v 26 [some (.inr (.inr (some 0))), some (.inl (L.2.1.length : Int)), some (.inl (es.length : Int)), none, none, none, none] [] m := by
    rw [f_X11_readEdit, if_pos g.1.t, hS.2.1.2.1.1, obind, e1969 (), if_pos (A5 hS (by omega) (by omega)), Int.toNat_natCast, hcnt]
  rw [st]
  refine ⟨fun h4 => ?_, fun h4 => ?_⟩
  · have hf : zF zP 278 0 [(.inr (.inr (some 0))), .inl 6, .inl (T.2.1 : Int)] m = some (none, bdM m (6, T.2.1)) := m_failG g 6 T.2.1
    have b := g.bd (e := (6, T.2.1)) (Nat.succ_pos 5)
    rw [if_pos (by omega), if_pos g.1.t, if_pos g.1.t, g.2.1.2.1, hf, zC0_s, j_X11_readEdit_26, if_pos b.1.t, b.2.1, if_pos (show (0 : Int) < ((6 : Nat) : Int) by decide)]
    exact ⟨_, rfl, fl_rm (bdM_fr m _), b⟩
  · obtain ⟨w, hw⟩ : ∃ w, w = 1956 + cellN L.2.1.length es.length := ⟨_, rfl⟩
    have hwv : w = 1956 + (29 + 16 * L.2.1.length + 4 * es.length) := hw
    have ew : ∀ _ : Unit, zadd 1956 (cellN L.2.1.length es.length : Int) = (w : Int) := fun _ => by rw [hw]; exact zadd_nat (n := 1956) (by unfold cellN; omega)
    have hw1 : 1956 ≤ w := by omega
    have hw2 : w + 3 < 1956 + 157 := by omega
    have hw3 : w + 3 < 2445 := by omega
    have hwl : 1969 + L.2.1.length < w := by omega
    have h5 : es.length < 5 := by omega
    obtain ⟨m1, a1, a2, a3⟩ := m_adv (v := 0) g hR
    have hR1 := nxT_R (f := f) hR
    have hP1 : PeM m1 L nu es := hP.fr a2 (fun j => by unfold tmP; omega) (fun j => by unfold tmP; omega)
    have rw1 : RdM m1 f n (zF zP 291 0 [(.inr (.inr (some 0))), .inl 4, .inl 0] m1) (fun x : Nat => (x : Int)) (rWrd L f n (nxT f n T)) := m_rWrd a3 hR1 (b := 4) (by decide) (BuNm hP1.1)
    have hlt := edK_lt T
    have go : (if (es.length : Int) = 4 then (if zT m 0 7 = true then if zT m 0 7 = true then zC0 (zF zP 278 0 [(.inr (.inr (some 0))), .inl 6, .inl (zi m 0 15)] m) (fun m2 => zX zP 297 v 26 [some (.inr (.inr (some 0))), some (.inl (L.2.1.length : Int)), some (.inl (es.length : Int)), none, none, none, none] [] m2) else none else none) else zX zP 297 v 26 [some (.inr (.inr (some 0))), some (.inl (L.2.1.length : Int)), some (.inl (es.length : Int)), none, none, none, none] [] m) = zC1 (zF zP 291 0 [(.inr (.inr (some 0))), .inl 4, .inl 0] m1) (fun c7 m6 => if (edK T : Int) = 1 then zX zP 297 v 139 [some (.inr (.inr (some 0))), some (.inl (L.2.1.length : Int)), some (.inl (es.length : Int)), some (.inl (w : Int)), some (.inl (edK T : Int)), some (.inl c7), none] [] m6 else if (edK T : Int) = 0 then if zT m6 0 7 = true then zC1 (zF zP 266 0 [(.inr (.inr (some 0)))] m6) (fun c9 m8 => zX zP 297 v 85 [some (.inr (.inr (some 0))), some (.inl (L.2.1.length : Int)), some (.inl (es.length : Int)), some (.inl (w : Int)), some (.inl (edK T : Int)), some (.inl c7), none] [.inl c9, (.inr (.inr (some 0)))] m8) else none else zX zP 297 v 81 [some (.inr (.inr (some 0))), some (.inl (L.2.1.length : Int)), some (.inl (es.length : Int)), some (.inl (w : Int)), some (.inl (edK T : Int)), some (.inl c7), none] [(.inr (.inr (some 0)))] m6) := by
      rw [if_neg (by omega), j_X11_readEdit_26, if_pos g.1.t, g.2.2.2, if_neg (by decide), j_X11_readEdit_34, m_cell h8 h4, zC1_s, if_pos g.1.t, m_editWord g, zC1_s, edW0_K hE, if_pos g.1.t, a1, zC0_s, if_pos a3.1.t, ew ()]
    rw [go]
    unfold rEdt
    cases e1 : rWrd L f n (nxT f n T) with
    | inl e =>
      rw [e1] at rw1
      obtain ⟨w1, w2⟩ := rw1
      have b := a3.bd (e := e) w2
      have hF : Fr rmP m (bdM m1 e) := (tm_rm a2).tr (fl_rm (bdM_fr m1 e))
      rw [w1, zC1_s]
      refine ⟨fun e' h => ?_, fun q h => (nomatch h)⟩
      have h' : e = e' := Sum.inl.inj h
      rw [← h']
      by_cases c1 : (edK T : Int) = 1
      · obtain ⟨m', f1, f2, f3⟩ := m_ed139B (v := v) b hw1 hw3 h8 h5 (k := (edK T : Int)) (a := 0) (u6 := none)
        rw [if_pos c1]
        exact ⟨m', f1, hF.tr (wr_rm f2), f3⟩
      · rw [if_neg c1]
        by_cases c0 : (edK T : Int) = 0
        · obtain ⟨y, hy⟩ := m_isRead_any (v := 0) b.1
          obtain ⟨m', f1, f2, f3⟩ := m_ed85B (v := v) b hw1 hw3 h8 h5 (k := (edK T : Int)) (a := 0) (y := b01 y)
          rw [if_pos c0, if_pos b.1.t, hy, zC1_s]
          exact ⟨m', f1, hF.tr (wr_rm f2), f3⟩
        · obtain ⟨y, hy⟩ := m_isInsert_any (v := 0) b.1
          obtain ⟨m', f1, f2, f3⟩ := m_ed85B (v := v) b hw1 hw3 h8 h5 (k := (edK T : Int)) (a := 0) (y := b01 y)
          rw [if_neg c0, j_X11_readEdit_81, if_pos b.1.t, hy, zC1_s]
          exact ⟨m', f1, hF.tr (wr_rm f2), f3⟩
    | inr q =>
      rw [e1] at rw1
      obtain ⟨m2, b1, b2, b3⟩ := rw1
      have b1' : zF zP 291 0 [(.inr (.inr (some 0))), .inl 4, .inl 0] m1 = some (some (.inl (q.2 : Int)), m2) := b1
      have hR2 := (pg_wrd (L := L) (f := f) hR1 q e1).1
      have hq := rWrd_lt e1
      have hW8 : L.1.length ≤ 8 := hP.1.1.2.1
      have hP2 : PeM m2 L nu es := hP1.fr b2 (fun j => by unfold tmP; omega) (fun j => by unfold tmP; omega)
      have hF2 : Fr rmP m m2 := (tm_rm a2).tr (tm_rm b2)
      rw [b1', zC1_s]
      show (∀ e, (if edK T = 1 then .inr (pasE f n q.1 1 q.2 0) else match rKey f n q.1 (if edK T = 0 then 4 else 8) with
        | .inl e => .inl e
        | .inr q2 => if (decide (edK T = 0) && sameW L q2.1 q.2) = true then .inl (5, q2.1.2.1) else match rWrd L f n q2.1 with
          | .inl e => .inl e
          | .inr q3 => .inr (pasE f n q3.1 (edK T) q.2 q3.2)) = Sum.inl e → _) ∧ (∀ q', (if edK T = 1 then .inr (pasE f n q.1 1 q.2 0) else match rKey f n q.1 (if edK T = 0 then 4 else 8) with
        | .inl e => .inl e
        | .inr q2 => if (decide (edK T = 0) && sameW L q2.1 q.2) = true then .inl (5, q2.1.2.1) else match rWrd L f n q2.1 with
          | .inl e => .inl e
          | .inr q3 => .inr (pasE f n q3.1 (edK T) q.2 q3.2)) = Sum.inr q' → _)
      by_cases c1 : edK T = 1
      · have c1' : (edK T : Int) = 1 := by omega
        obtain ⟨m', f1, f2, f3, f4, f5, f6, f7, f8⟩ := m_ed139G (v := v) b3 hR2 (w := w) (l := L.2.1.length) (x2 := es.length) (k := 1) (a := q.2) (o := 0) hw1 hw2 h8 h5 hwl (u6 := none)
        obtain ⟨z1, z2, z3⟩ := pasE_2 f n q.1 1 q.2 0
        rw [if_pos c1, if_pos c1', c1']
        refine ⟨fun e h => (nomatch h), fun q' h => ?_⟩
        have h' : pasE f n q.1 1 q.2 0 = q' := Sum.inr.inj h
        rw [← h']
        have hok : eOk (pasE f n q.1 1 q.2 0).2 := (rEdt_ok (L := L) (f := f) (n := n) (T := T) (q := pasE f n q.1 1 q.2 0) (by omega) (by
          unfold rEdt
          rw [e1]
          show ((if edK T = 1 then .inr (pasE f n q.1 1 q.2 0) else _ : zRd zEd)) = _
          rw [if_pos c1])).1
        refine ⟨m', f1, hF2.tr (edP_ok f2 hw1), f3, hP2.upd rfl h8 h4 hw f2 hok (by rw [f4, z1]) (by rw [f5, z2]) ?_ f7 f8⟩
        rw [f6, z3, hwv]
        have := hP2.2.2.2 es.length (Nat.le_refl _) h4
        rw [show 1956 + (29 + 16 * L.2.1.length + 4 * es.length) + 2 = 1958 + cellN L.2.1.length es.length by unfold cellN; omega]
        exact this
      · have c1' : ¬ (edK T : Int) = 1 := by omega
        have hkey : (if (edK T : Int) = 0 then if zT m2 0 7 = true then zC1 (zF zP 266 0 [(.inr (.inr (some 0)))] m2) (fun c9 m8 => zX zP 297 v 85 [some (.inr (.inr (some 0))), some (.inl (L.2.1.length : Int)), some (.inl (es.length : Int)), some (.inl (w : Int)), some (.inl (edK T : Int)), some (.inl (q.2 : Int)), none] [.inl c9, (.inr (.inr (some 0)))] m8) else none else zX zP 297 v 81 [some (.inr (.inr (some 0))), some (.inl (L.2.1.length : Int)), some (.inl (es.length : Int)), some (.inl (w : Int)), some (.inl (edK T : Int)), some (.inl (q.2 : Int)), none] [(.inr (.inr (some 0)))] m2) = zX zP 297 v 85 [some (.inr (.inr (some 0))), some (.inl (L.2.1.length : Int)), some (.inl (es.length : Int)), some (.inl (w : Int)), some (.inl (edK T : Int)), some (.inl (q.2 : Int)), none] [.inl (b01 (isK q.1 (if edK T = 0 then 4 else 8))), (.inr (.inr (some 0)))] m2 := by
          by_cases c0 : edK T = 0
          · rw [if_pos (by omega), if_pos c0, if_pos b3.1.t, m_isRead b3, zC1_s]
          · rw [if_neg (by omega), if_neg c0, j_X11_readEdit_81, if_pos b3.1.t, m_isInsert b3, zC1_s]
        rw [if_neg c1, if_neg c1', hkey]
        unfold rKey
        by_cases ck : isK q.1 (if edK T = 0 then 4 else 8) = true
        · obtain ⟨m3, d1, d2, d3⟩ := m_mustT (v := 0) b3 hR2
          have hR3 := nxT_R (f := f) hR2
          have hP3 : PeM m3 L nu es := hP2.fr d2 (fun j => by unfold tmP; omega) (fun j => by unfold tmP; omega)
          have hF3 : Fr rmP m m3 := hF2.tr (tm_rm d2)
          obtain ⟨t1, t2⟩ := m_toldW (v := 0) d3 (b := 4) (by decide) (BuNm hP3.1)
          rw [if_pos ck, ck]
          show (∀ e, (if (decide (edK T = 0) && sameW L (nxT f n q.1) q.2) = true then .inl (5, (nxT f n q.1).2.1) else match rWrd L f n (nxT f n q.1) with
            | .inl e => .inl e
            | .inr q3 => .inr (pasE f n q3.1 (edK T) q.2 q3.2)) = Sum.inl e → _) ∧ (∀ q', (if (decide (edK T = 0) && sameW L (nxT f n q.1) q.2) = true then .inl (5, (nxT f n q.1).2.1) else match rWrd L f n (nxT f n q.1) with
            | .inl e => .inl e
            | .inr q3 => .inr (pasE f n q3.1 (edK T) q.2 q3.2)) = Sum.inr q' → _)
          have e85 : zX zP 297 v 85 [some (.inr (.inr (some 0))), some (.inl (L.2.1.length : Int)), some (.inl (es.length : Int)), some (.inl (w : Int)), some (.inl (edK T : Int)), some (.inl (q.2 : Int)), none] [.inl (b01 true), (.inr (.inr (some 0)))] m2 = zC1 (zF zP 290 0 [(.inr (.inr (some 0))), .inl 4, .inl 0] m3) (fun c3 m2 => if zT m2 0 7 = true then if (zi m2 0 12) = 0 then if (edK T : Int) = 0 then if (q.2 : Int) = c3 then if zT m2 0 7 = true then if zT m2 0 7 = true then zC0 (zF zP 278 0 [(.inr (.inr (some 0))), .inl 5, .inl (zi m2 0 15)] m2) (fun m4 => zX zP 297 v 124 [some (.inr (.inr (some 0))), some (.inl (L.2.1.length : Int)), some (.inl (es.length : Int)), some (.inl (w : Int)), some (.inl (edK T : Int)), some (.inl (q.2 : Int)), some (.inl c3)] [] m4) else none else none else zX zP 297 v 124 [some (.inr (.inr (some 0))), some (.inl (L.2.1.length : Int)), some (.inl (es.length : Int)), some (.inl (w : Int)), some (.inl (edK T : Int)), some (.inl (q.2 : Int)), some (.inl c3)] [] m2 else zX zP 297 v 124 [some (.inr (.inr (some 0))), some (.inl (L.2.1.length : Int)), some (.inl (es.length : Int)), some (.inl (w : Int)), some (.inl (edK T : Int)), some (.inl (q.2 : Int)), some (.inl c3)] [] m2 else zX zP 297 v 124 [some (.inr (.inr (some 0))), some (.inl (L.2.1.length : Int)), some (.inl (es.length : Int)), some (.inl (w : Int)), some (.inl (edK T : Int)), some (.inl (q.2 : Int)), some (.inl c3)] [] m2 else none) := by
            have d1' : zF zP 280 0 [(.inr (.inr (some 0))), .inl (b01 true)] m2 = some (none, m3) := d1
            rw [j_X11_readEdit_85, if_pos b3.1.t, d1', zC0_s, if_pos d3.1.t]
          rw [e85]
          cases e3 : sWrd L (nxT f n q.1) with
          | inl e =>
            obtain ⟨y1, y2⟩ := t1 e e3
            have b := d3.bd (e := e) y2
            have hs : sameW L (nxT f n q.1) q.2 = false := by unfold sameW; rw [e3]
            obtain ⟨m', f1, f2, f3⟩ := m_ed124B (v := v) b hw1 hw3 h8 h5 (k := (edK T : Int)) (a := (q.2 : Int)) (x6 := 0)
            have y1' : zF zP 290 0 [(.inr (.inr (some 0))), .inl 4, .inl 0] m3 = some (some (.inl 0), bdM m3 e) := y1
            have bne : ¬ zi (bdM m3 e) 0 12 = 0 := by rw [b.2.1]; omega
            rw [y1', zC1_s, if_pos b.1.t, if_neg bne, hs, Bool.and_false, if_neg (show ¬ false = true by decide), rWrd_s, e3]
            refine ⟨fun e' h => ?_, fun q h => (nomatch h)⟩
            have h' : e = e' := Sum.inl.inj h
            rw [← h']
            exact ⟨m', f1, (hF3.tr (fl_rm (bdM_fr m3 e))).tr (wr_rm f2), f3⟩
          | inr x =>
            have hs : sameW L (nxT f n q.1) q.2 = decide (x.2 = q.2) := by unfold sameW; rw [e3]
            have hx := sWrd_lt (q := x) e3
            have y1' : zF zP 290 0 [(.inr (.inr (some 0))), .inl 4, .inl 0] m3 = some (some (.inl (x.2 : Int)), m3) := t2 x e3
            rw [y1', zC1_s, if_pos d3.1.t, d3.2.2.2, if_pos rfl, hs, rWrd_s, e3]
            have good : ¬ (edK T = 0 ∧ x.2 = q.2) → (∀ e, (Sum.inr (pasE f n (nxT f n (nxT f n q.1)) (edK T) q.2 x.2) : zRd zEd) = Sum.inl e → ∃ m', zX zP 297 v 124 [some (.inr (.inr (some 0))), some (.inl (L.2.1.length : Int)), some (.inl (es.length : Int)), some (.inl (w : Int)), some (.inl (edK T : Int)), some (.inl (q.2 : Int)), some (.inl (x.2 : Int))] [] m3 = some (none, m') ∧ Fr rmP m m' ∧ BdM m' f n e) ∧ (∀ q', (Sum.inr (pasE f n (nxT f n (nxT f n q.1)) (edK T) q.2 x.2) : zRd zEd) = Sum.inr q' → ∃ m', zX zP 297 v 124 [some (.inr (.inr (some 0))), some (.inl (L.2.1.length : Int)), some (.inl (es.length : Int)), some (.inl (w : Int)), some (.inl (edK T : Int)), some (.inl (q.2 : Int)), some (.inl (x.2 : Int))] [] m3 = some (none, m') ∧ Fr rmP m m' ∧ GdM m' f n q'.1 ∧ PeM m' L nu (es ++ [q'.2])) := by
              intro hne
              obtain ⟨m', f1, f2, f3, f4, f5, f6, f7, f8⟩ := m_ed124G (v := v) d3 hR3 (w := w) (l := L.2.1.length) (x2 := es.length) (k := edK T) (a := q.2) (o := x.2) hw1 hw2 h8 h5 hwl
              obtain ⟨z1, z2, z3⟩ := pasE_2 f n (nxT f n (nxT f n q.1)) (edK T) q.2 x.2
              refine ⟨fun e h => (nomatch h), fun q' h => ?_⟩
              have h' : pasE f n (nxT f n (nxT f n q.1)) (edK T) q.2 x.2 = q' := Sum.inr.inj h
              rw [← h']
              have hok : eOk (pasE f n (nxT f n (nxT f n q.1)) (edK T) q.2 x.2).2 := (rEdt_ok (L := L) (f := f) (n := n) (T := T) (q := pasE f n (nxT f n (nxT f n q.1)) (edK T) q.2 x.2) (by omega) (by
                have hsb : ¬ (decide (edK T = 0) && sameW L (nxT f n q.1) q.2) = true := fun w => by
                  rw [hs, Bool.and_eq_true] at w
                  exact hne ⟨of_decide_eq_true w.1, of_decide_eq_true w.2⟩
                unfold rEdt rKey
                rw [e1]
                show ((if edK T = 1 then _ else match (if isK q.1 (if edK T = 0 then 4 else 8) = true then .inr (nxT f n q.1, ()) else .inl (kMis q.1) : zRd Unit) with
                  | .inl e => .inl e
                  | .inr q2 => if (decide (edK T = 0) && sameW L q2.1 q.2) = true then .inl (5, q2.1.2.1) else match rWrd L f n q2.1 with
                    | .inl e => .inl e
                    | .inr q3 => .inr (pasE f n q3.1 (edK T) q.2 q3.2) : zRd zEd)) = _
                rw [if_neg c1, if_pos ck]
                show ((if (decide (edK T = 0) && sameW L (nxT f n q.1) q.2) = true then .inl (5, (nxT f n q.1).2.1) else match rWrd L f n (nxT f n q.1) with
                    | .inl e => .inl e
                    | .inr q3 => .inr (pasE f n q3.1 (edK T) q.2 q3.2) : zRd zEd)) = _
                rw [if_neg hsb, rWrd_s, e3]; rfl)).1
              exact ⟨m', f1, hF3.tr (edP_ok f2 hw1), f3, hP3.upd rfl h8 h4 hw f2 hok (by rw [f4, z1]) (by rw [f5, z2]) (by rw [f6, z3]) f7 f8⟩
            by_cases c0 : edK T = 0
            · rw [if_pos (show (edK T : Int) = 0 by omega), decide_eq_true c0, Bool.true_and]
              by_cases cx : x.2 = q.2
              · have hf : zF zP 278 0 [(.inr (.inr (some 0))), .inl 5, .inl ((nxT f n q.1).2.1 : Int)] m3 = some (none, bdM m3 (5, (nxT f n q.1).2.1)) := m_failG d3 5 (nxT f n q.1).2.1
                have b := d3.bd (e := (5, (nxT f n q.1).2.1)) (Nat.succ_pos 4)
                obtain ⟨m', f1, f2, f3⟩ := m_ed124B (v := v) b hw1 hw3 h8 h5 (k := (edK T : Int)) (a := (q.2 : Int)) (x6 := (x.2 : Int))
                rw [if_pos (show (q.2 : Int) = (x.2 : Int) by omega), if_pos d3.1.t, if_pos d3.1.t, d3.2.1.2.1, hf, zC0_s, decide_eq_true cx, if_pos rfl]
                refine ⟨fun e' h => ?_, fun q h => (nomatch h)⟩
                have h' : (5, (nxT f n q.1).2.1) = e' := Sum.inl.inj h
                rw [← h']
                exact ⟨m', f1, (hF3.tr (fl_rm (bdM_fr m3 _))).tr (wr_rm f2), f3⟩
              · rw [if_neg (show ¬ (q.2 : Int) = (x.2 : Int) by omega), decide_eq_false cx, if_neg (show ¬ false = true by decide)]
                exact good (fun z => cx z.2)
            · rw [if_neg (show ¬ (edK T : Int) = 0 by omega), decide_eq_false c0, Bool.false_and, if_neg (show ¬ false = true by decide)]
              exact good (fun z => c0 z.1)
        · have bp := kMis_pos q.1
          have b := b3.bd (e := kMis q.1) bp
          obtain ⟨m', f1, f2, f3⟩ := m_ed124B (v := v) b hw1 hw3 h8 h5 (k := (edK T : Int)) (a := (q.2 : Int)) (x6 := 0)
          have bne : ¬ zi (bdM m2 (kMis q.1)) 0 12 = 0 := by rw [b.2.1]; omega
          rw [if_neg ck, bool_f ck]
          have mf : zF zP 280 0 [(.inr (.inr (some 0))), .inl (b01 false)] m2 = some (none, bdM m2 (kMis q.1)) := m_mustF b3
          rw [j_X11_readEdit_85, if_pos b3.1.t, mf, zC0_s, if_pos b.1.t, m_toldB b, zC1_s, if_pos b.1.t, if_neg bne]
          refine ⟨fun e' h => ?_, fun q h => (nomatch h)⟩
          have h' : kMis q.1 = e' := Sum.inl.inj h
          rw [← h']
          exact ⟨m', f1, (hF2.tr (fl_rm (bdM_fr m2 _))).tr (wr_rm f2), f3⟩
end READM4
