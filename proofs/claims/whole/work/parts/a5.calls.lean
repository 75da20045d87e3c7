/-! The law's calls: one of the class, the same of the reference; both worlds stand behind them. -/
def lwM (k idx cI n : Nat) : Prop := zWc (zP k) ∧ Cond.methodLink R_law idx (zP k).1 ∈ zAll ∧ Cond.instanceMethod (zP k).1 ∈ zAll ∧
  (∃ r : vw_C, zCl[cI]? = some r ∧ Cond.selects r.1 (zP k).1 (zP k).1 ∈ zAll) ∧ (parseMethodDescriptor (zP k).1.desc).map (fun d => d.parameters.length) = some n ∧ zmu (zP k) 0 ≤ 1000
/-- both worlds: the state, the class's picture of it and the reference's, apart from each other -/
def lwI (s : State) (D : zD) (H : Heap) (locs : List Loc) (xa ya : Nat) (S : zSt) : Prop := ∃ (m1 m2 : zM) (ρ1 ρ2 : Nat → Nat), R1 S m1 ∧ R2 S m2 ∧ qInv S ∧ gN S = (159, 0) ∧ qW D ρ1 m1 159 H ∧ qW D ρ2 m2 17 H ∧
  (∀ a b, a < 159 → b < 17 → ρ1 a ≠ ρ2 b) ∧ (ρ1 0 = xa ∧ ρ2 0 = ya) ∧ va_S (qA0 s) s.heap H locs
def lwV (lg : Bool) (r : Int) : zV := if lg = true then .inr (.inl r) else .inl r
def lwU (lg : Bool) (r : Int) : Value := if lg = true then .long (Int64.ofInt r) else .int (Int32.ofInt r)
/-- a call of both: one answer, one state -/
def lwC (k1 k2 : Nat) (as : List zV) (lg : Bool) : Prop := ∀ (S : zSt) (m1 m2 : zM), R1 S m1 → R2 S m2 → qInv S → gN S = (159, 0) →
  ∃ (r : Int) (S' : zSt) (m1' m2' : zM), zF zP k1 0 (.inr (.inr (some 0)) :: as) m1 = some (some (lwV lg r), m1') ∧ R1 S' m1' ∧ zF zP k2 0 (.inr (.inr (some 0)) :: as) m2 = some (some (lwV lg r), m2') ∧ R2 S' m2' ∧ qNx S S'
section LAWC
variable {p : Program} {l : Launch} {e : Env} {s : State} {m : MethodId} {below : List Frame} {meth : Method} {c : Code} {b L : Nat} {xs : Nat → Int32} {D : zD} {H : Heap} {locs : List Loc} {cells slots : Nat} {ls : Array Slot} {st : List Value} {pc i xa ya k : Nat}
theorem lwVU (lg : Bool) (r : Int) (ρ : Nat → Nat) : zW ρ (lwV lg r) = lwU lg r := by unfold lwV lwU; split <;> rfl
theorem lw_go {A : Nat → Prop} {mc ms : Nat} {rest : List Value} {ρ : Nat → Nat} {o : zO} {a : Array Value} {st0 : List Value}
    (hr : va_Run p l e room_1 s m #[Value.ref b] below meth c H locs cells slots mc ms (F0 m pc ls st0) rest (zQ D ρ A o a) A) (hS : va_S (qA0 s) s.heap H locs) (hA : ∀ q, A q → qA0 s q)
    (kk : ∀ (H1 : Heap) (locs1 : List Loc), (∀ v, o.1 = some v → zok v) → zH D ρ A o.2 H1 → H.size ≤ H1.size → (∀ q : Nat, q < H.size → ¬ A q → H1[q]? = H[q]?) → va_S (qA0 s) s.heap H1 locs1 → lwG p l e s m below meth c b H1 locs1 (cells + mc) (slots + ms) (F0 m (pc + 3) ls ((o.1.map (zW ρ)).toList ++ rest))) :
    lwG p l e s m below meth c b H locs cells slots (F0 m pc ls st0) := by
  intro T hT X
  obtain ⟨v, st₀, t, T', LL, h0, X', hL, e1, e2, ⟨hv, hok, hH, hz, hk⟩, stp⟩ := hr T hT X
  cases hv
  rw [h0] at hz hk
  obtain ⟨t2, a1, b1⟩ := kk T'.heap (locs ++ LL) hok (by rw [e1]; exact hH) (by rw [e1]; exact hz) (fun q h1 h2 => by rw [e1]; exact hk q h1 h2)
    ⟨Nat.le_trans hS.1 (by rw [e1]; exact hz), fun q h1 h2 => by rw [e1, hk q (Nat.lt_of_lt_of_le h1 hS.1) (fun z => h2 (hA q z))]; exact hS.2.1 q h1 h2, fun q hq => by
      rcases List.mem_append.mp hq with h | h
      · exact hS.2.2 q h
      · exact hA _ (hL q h)⟩ T' rfl X'
  exact ⟨t2, stp t2 a1, b1⟩
theorem lw_inv {idx cI n N N2 : Nat} {mm m2 m' : zM} {ρ ρ2 : Nat → Nat} {ag : List zAg} {f : Nat → Int} {v : zV} (hX : lwX p s m meth c b L xs D) (hM : lwM k idx cI n) (hn : ag.length = n) (hf : ∀ j, r32 (f j)) (hd : decode code pc = .ok (.invokevirtual idx, 3)) (hl : ls.size = 4)
    (hW : qW D ρ mm N H) (hcd : qCd mm N) (hN : zn mm = N) (hNS : 0 < N ∧ N < 1000) (hT : zT mm 0 cI = true) (hF : zF zP k 0 (.inr (.inr (some 0)) :: ag.map (agV f)) mm = some (some v, m')) (hst : (st.map fun v => v.category).sum ≤ 8)
    (hW2 : qW D ρ2 m2 N2 H) (hdis : ∀ a b, a < N → b < N2 → ρ a ≠ ρ2 b) (hS : va_S (qA0 s) s.heap H locs) (hcap : cells + (zn m' - N) ≤ 600000 ∧ slots + (zs m' - zs mm) ≤ 7302250)
    (kk : ∀ (H1 : Heap) (locs1 : List Loc) (ρ' : Nat → Nat), zok v → (∀ a, a < N → ρ' a = ρ a) → qW D ρ' m' N H1 → qW D ρ2 m2 N2 H1 → va_S (qA0 s) s.heap H1 locs1 → lwG p l e s m below meth c b H1 locs1 (cells + (zn m' - N)) (slots + (zs m' - zs mm)) (F0 m (pc + 3) ls (zW ρ' v :: st))) :
    lwG p l e s m below meth c b H locs cells slots (F0 m pc ls ((ag.map (agW f)).reverse ++ .ref (ρ 0) :: st)) := by
  subst hN
  obtain ⟨⟨hx, hb, -, hml, hown, hts, hXb, hbl, -, -⟩, hKs, hD1, hD2, hL⟩ := hX
  obtain ⟨hwc, hlink, hin, ⟨r, hc, hse⟩, hsg, hmu⟩ := hM
  have h0 : D.2.2.2.1.size ≤ H.size := by rw [hD1]; exact hS.1
  have hAA : ∀ q : Nat, D.2.2.2.1.size ≤ q → D.2.2.2.2 q := fun q hq => by rw [hD2]; rw [hD1] at hq; exact hq
  have hk0 : ∀ q : Nat, q < D.2.2.2.1.size → ¬ D.2.2.2.2 q → H[q]? = D.2.2.2.1[q]? := fun q h1 h2 => by rw [hD1] at h1 ⊢; rw [hD2] at h2; exact hS.2.1 q h1 h2
  have hH := hW.toH hcd rfl (Nat.lt_trans hNS.2 (by decide)) h0 hAA hk0
  have hA0 : ∀ q, qA ρ (zn mm) H.size q → qA0 s q := fun q hq => by
    rcases hq with ⟨a, ha, e⟩ | hq
    · have := hW.2.2.1 a ha
      rw [hD2, e] at this; exact this
    · exact Nat.le_trans hS.1 hq
  have hokA : ∀ w ∈ (.inr (.inr (some 0)) :: ag.map (agV f) : List zV), zok w := fun w hw => by
    rcases List.mem_cons.mp hw with q | q
    · rw [q]; exact trivial
    · obtain ⟨a, -, e⟩ := List.mem_map.mp q
      rw [← e]; exact agV_ok f hf a
  obtain ⟨hG, hMet⟩ := zF_met zPok hF hokA
  have hMet := hMet l D (qRe D ρ (zn mm) H.size) (qA ρ (zn mm) H.size)
  have hGn : zn mm ≤ zn m' := hG.1
  have e0 : qRe D ρ (zn mm) H.size 0 = ρ 0 := qRe_lt hNS.1
  have hlt : ∀ a, a < zn mm → qRe D ρ (zn mm) H.size a = ρ a := fun a ha => qRe_lt ha
  generalize qRe D ρ (zn mm) H.size = ρ' at hH hMet e0 hlt
  have eW : (ag.map (agV f)).map (zW ρ') = ag.map (agW f) := by
    rw [List.map_map]
    exact List.map_congr_left (fun a _ => agVW f ρ' a)
  have hargs : ∀ w ∈ [Cond.code (zP k).1 (zP k).2.1 (zP k).2.2.1 (zP k).2.2.2.1], ∀ (a' : Array Value) (U : State), s.WarmedH U.vm → w.before a' U = true := fun w hw a' U hWa => by
    rw [List.mem_singleton.mp hw]
    exact zAll_warm hwc.1 hWa (zKs_word hKs hwc.1 (a := #[]))
  obtain ⟨cellB, q1, q2, q3, -⟩ := zAt_obj (hH.1 0 hNS.1) (zT_lt hT).2 hc
  have hpre : PreV s H r.1 (ρ' 0) (zPc D ρ' (qA ρ (zn mm) H.size) (.inr (.inr (some 0)) :: ag.map (agV f)) mm) ((ag.map (agV f)).map (zW ρ')) :=
    ⟨zPc_blind, ⟨cellB, q1, by rw [q3]; rfl, by rw [q2]; exact (hKs.1 cI r hc).2.1⟩, fun U hU hWa => ⟨rfl, by rw [hU]; exact hH, zKs_warm hWa hKs, by rw [hU]; exact fun q hq => Or.inr hq⟩⟩
  have hrm : zmu (zP k) 0 + 1 ≤ 2048 ∧ 8 + ((zP k).2.2.1 + 11) + 60 * zmu (zP k) 0 ≤ 84000 := by
    have h41 := hwc.2.2.2
    omega
  have hsg' : ∀ sig, parseMethodDescriptor (zP k).1.desc = some sig → ((ag.map (agV f)).map (zW ρ')).length = sig.parameters.length := fun sig q => by
    rw [q] at hsg
    have h1 : sig.parameters.length = n := Option.some.inj hsg
    rw [List.length_map, List.length_map, hn, h1]
  have key : va_Run p l e room_1 s m #[Value.ref b] below meth c H locs cells slots (zn m' - zn mm) (zs m' - zs mm) (F0 m pc ls ((ag.map (agW f)).reverse ++ .ref (ρ 0) :: st)) st (zQ D ρ' (qA ρ (zn mm) H.size) (some v, m') (Value.ref (ρ' 0) :: (ag.map (agV f)).map (zW ρ')).toArray) (qA ρ (zn mm) H.size) :=
    va_runV (C := r.1) (b := ρ' 0) (As := (ag.map (agV f)).map (zW ρ')) (own := R_law) (cc := code) (nL := 4) ⟨hx, hb, hml, hown, fun w hw => zKs_word (a := #[Value.ref b]) hKs hw⟩ hMet ⟨⟨rfl, rfl, hrm.1, hrm.2, hargs, List.mem_singleton.mpr rfl, zKs_word hKs hwc.1, zKs_word hKs hwc.2.1, hwc.2.2.1, hsg', zKs_word hKs hlink⟩, zKs_word hKs hin, zKs_word hKs hse⟩ hpre rfl rfl hl (by rw [eW, e0]) (lv_room hst) hd hcap
  refine lw_go key hS hA0 (fun H1 locs1 hv hH1 hz hq hS1 => ?_)
  refine kk H1 locs1 ρ' (hv v rfl) hlt (qW.of hH1 hGn) (hW2.keep (fun a ha => hq _ (hW2.lt ha) (fun w => ?_))) hS1
  rcases w with ⟨a', ha', e⟩ | w
  · exact hdis a' a ha' ha e
  · exact absurd (hW2.lt ha) (Nat.not_lt.mpr w)
/-- the same call of both -/
theorem lw_two {k1 k2 i1 i2 n : Nat} {ag : List zAg} {f : Nat → Int} {lg : Bool} {tl : List (Instr × Nat)} {S : zSt} (hX : lwX p s m meth c b L xs D) (hM1 : lwM k1 i1 6 n) (hM2 : lwM k2 i2 7 n) (hn : ag.length = n) (hf : ∀ j, f j = (xs (i + j)).toInt) (hag : ∀ a ∈ ag, a.2 + 1 ≤ 6 ∨ (a.1 ≤ 1 ∧ a.2 ≤ 6))
    (hdc : dcL pc ((.aload_n 1, 1) :: (agIs ag ++ ((.invokevirtual i1, 3) :: (.aload_n 2, 1) :: (agIs ag ++ ((.invokevirtual i2, 3) :: tl))))) = true) (hls : lwS ls b xa ya i) (hi : i + 7 ≤ L) (hC : lwC k1 k2 (ag.map (agV f)) lg)
    (hI : lwI s D H locs xa ya S) (hcap : cells + 1 ≤ 600000 ∧ slots + 9 ≤ 7302250)
    (kk : ∀ (H1 : Heap) (locs1 : List Loc) (r : Int) (S' : zSt), zok (lwV lg r) → lwI s D H1 locs1 xa ya S' → dcL (pc + (1 + (dcN (agIs ag) + (3 + (1 + (dcN (agIs ag) + 3)))))) tl = true → lwG p l e s m below meth c b H1 locs1 (cells + 1) (slots + 9) (F0 m (pc + (1 + (dcN (agIs ag) + (3 + (1 + (dcN (agIs ag) + 3)))))) ls [lwU lg r, lwU lg r])) :
    lwG p l e s m below meth c b H locs cells slots (F0 m pc ls []) := by
  have hx := hX.1.1
  have hb := hX.1.2.1
  have hf32 : ∀ j, r32 (f j) := fun j => by rw [hf]; exact zr32 _
  have hargs : ∀ (ag : List zAg) {pc : Nat} {rest : List (Instr × Nat)} {st : List Value} {H : Heap} {locs : List Loc} {cells slots : Nat}, (∀ a ∈ ag, a.2 + 1 ≤ 6 ∨ (a.1 ≤ 1 ∧ a.2 ≤ 6)) → dcL pc (agIs ag ++ rest) = true → va_S (qA0 s) s.heap H locs →
      (dcL (pc + dcN (agIs ag)) rest = true → lwG p l e s m below meth c b H locs cells slots (F0 m (pc + dcN (agIs ag)) ls ((ag.map (agW f)).reverse ++ st))) → lwG p l e s m below meth c b H locs cells slots (F0 m pc ls st) := by
    intro ag
    induction ag with
    | nil => intro pc rest st H locs cells slots _ h _ k0; exact k0 h
    | cons a r ih =>
      intro pc rest st H locs cells slots ha h hS k0
      have h' : dcL pc (agI a ++ (agIs r ++ rest)) = true := by rw [← List.append_assoc]; exact h
      obtain ⟨h1, h2⟩ := dcL_app h'
      refine lw_a hf h1 (ha a List.mem_cons_self) hX hS hls hi ?_
      refine ih (fun x hx => ha x (List.mem_cons_of_mem _ hx)) h2 hS (fun h3 => ?_)
      have e1 : dcN (agIs (a :: r)) = dcN (agI a) + dcN (agIs r) := dcN_app (agI a) (agIs r)
      rw [e1, ← Nat.add_assoc, List.map_cons, List.reverse_cons, List.append_assoc] at k0
      exact k0 h3
  obtain ⟨m1, m2, ρ1, ρ2, hR1, hR2, hInv, hN, hW1, hW2, hdis, ⟨ex, ey⟩, hS⟩ := hI
  obtain ⟨r, S', m1', m2', hF1, hR1', hF2, hR2', hInv', hN'⟩ := hC S m1 m2 hR1 hR2 hInv hN
  have z1 : m1.1 = (159, 0) := (hR1.2.1.2.2.2.2.2.2.2).trans hN
  have z2 : m2.1 = (17, 0) := hR2.2.1.2.2.2.2.2.2.2.2
  have z1' : m1'.1 = gN S' := hR1'.2.1.2.2.2.2.2.2.2
  have z2' : m2'.1 = (17, 0) := hR2'.2.1.2.2.2.2.2.2.2.2
  have n1 : zn m1 = 159 := congrArg Prod.fst z1
  have s1 : zs m1 = 0 := congrArg Prod.snd z1
  have n2 : zn m2 = 17 := congrArg Prod.fst z2
  have s2 : zs m2 = 0 := congrArg Prod.snd z2
  have n2' : zn m2' = 17 := congrArg Prod.fst z2'
  have s2' : zs m2' = 0 := congrArg Prod.snd z2'
  have n1' : (159 ≤ zn m1' ∧ zn m1' ≤ 160) ∧ zs m1' ≤ 9 := by
    rcases hN' with q | q
    · rw [q, hN] at z1'
      have a1 : zn m1' = 159 := congrArg Prod.fst z1'
      have a2 : zs m1' = 0 := congrArg Prod.snd z1'
      omega
    · rw [q, hN] at z1'
      have a1 : zn m1' = 160 := congrArg Prod.fst z1'
      have a2 : zs m1' = 9 := congrArg Prod.snd z1'
      omega
  obtain ⟨d0, h⟩ := dcL_hd hdc
  refine lv_aload_n hx hb d0 rfl (lv_at hls 1 rfl) ?_
  refine hargs ag hag h hS (fun h => ?_)
  obtain ⟨d1, h⟩ := dcL_hd h
  obtain ⟨d2, h⟩ := dcL_hd h
  rw [← ex]
  refine lw_inv (st := []) hX hM1 hn hf32 d1 hls.1 hW1 hR1.1.cd n1 ⟨by decide, by decide⟩ hR1.1.1 hF1 (by decide) hW2 hdis hS (by omega) (fun H1 locs1 ρ1' hv hρ hW1' hW2' hS1 => ?_)
  rw [lwVU]
  refine W.widen (k := cells + 1) (n := slots + 9) (by omega) (by omega) ?_
  refine lv_aload_n hx hb d2 rfl (lv_at hls 2 rfl) ?_
  refine hargs ag hag h hS1 (fun h => ?_)
  obtain ⟨d3, h⟩ := dcL_hd h
  rw [← ey]
  have hdis' : ∀ b a, b < 17 → a < 159 → ρ2 b ≠ ρ1' a := fun b a hb ha q => hdis a b ha hb (by rw [← hρ a ha, ← q])
  refine lw_inv (st := [lwU lg r]) hX hM2 hn hf32 d3 hls.1 hW2' hR2.1.cd n2 ⟨by decide, by decide⟩ hR2.1.1 hF2 (by cases lg <;> exact Nat.le_of_ble_eq_true rfl) hW1' hdis' hS1 (by omega) (fun H2 locs2 ρ2' hv2 hρ2 hW2'' hW1'' hS2 => ?_)
  rw [lwVU]
  refine W.widen (k := cells + 1) (n := slots + 9) (by omega) (by omega) ?_
  have hpc : pc + 1 + dcN (agIs ag) + 3 + 1 + dcN (agIs ag) + 3 = pc + (1 + (dcN (agIs ag) + (3 + (1 + (dcN (agIs ag) + 3))))) := by omega
  rw [hpc] at h ⊢
  refine kk H2 locs2 r (wN S' (159, 0)) hv ⟨qTr m1' 159, m2', ρ1', ρ2', hR1'.trim (by omega), hR2'.wn, hInv', rfl, hW1''.tr, hW2'', fun a b ha hb q => hdis' b a hb ha ?_, ⟨?_, ?_⟩, hS2⟩ h
  · rw [← hρ2 b hb, q]
  · exact (hρ 0 (by decide)).trans ex
  · exact (hρ2 0 (by decide)).trans ey
end LAWC
