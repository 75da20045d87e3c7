/-! The one String: zSPEC is the constant, zSPEC + 1 its bytes, zSPEC + 2 what its checks name. -/
def zTbi (k : Nat) : Int := (zTb.getD k 0).toInt
def z_ldcS : zI := fun _ _ _ K ls st m => K ls (.inr (.inr (some zSPEC)) :: st) m
def z_gst1 : zI := fun _ _ _ K ls st m => K ls (.inl 1 :: st) m
def z_gsf : zI := fun _ _ _ K ls st m => K ls (.inr (.inr (some (zSPEC + 2))) :: st) m
def z_sgv : zI := fun _ _ _ K ls st m => match st with
  | .inr (.inr (some a)) :: r => if a = zSPEC then K ls (.inr (.inr (some (zSPEC + 1))) :: r) m else none
  | _ => none
def z_sgc : zI := fun _ _ _ K ls st m => match st with
  | .inr (.inr (some a)) :: r => if a = zSPEC then K ls (.inl 0 :: r) m else none
  | _ => none
def z_slen : zI := fun _ _ _ K ls st m => match st with
  | .inr (.inr (some a)) :: r => if a = zSPEC + 1 then K ls (.inl 120 :: r) m else none
  | _ => none
def z_sbald : zI := fun _ _ _ K ls st m => match st with
  | .inl x :: .inr (.inr (some a)) :: r => if a = zSPEC + 1 ∧ 0 ≤ x ∧ x < 120 then K ls (.inl (zTbi x.toNat) :: r) m else none
  | _ => none
def z_i2c : zI := fun _ _ _ K ls st m => match st with
  | .inl x :: r => if 0 ≤ x ∧ x < 128 then K ls (.inl x :: r) m else none
  | _ => none
def z_cret : zI := fun _ _ _ _ _ st m => match st with
  | [.inl x] => if 0 ≤ x ∧ x < 128 then some (some (.inl x), m) else none
  | _ => none
def z_0ret : zI := fun _ _ _ _ _ st m => match st with
  | [.inl x] => if x = 0 then some (some (.inl x), m) else none
  | _ => none
def z_none : zI := fun _ _ _ _ _ _ _ => none
def zrvS : List zV → Bool
  | .inr (.inr (some a)) :: _ => decide (a = zSPEC)
  | _ => false
def z_callS (k md l n t : Nat) : zI := fun lv C _ K ls st m => if zcl n st then (if zrvS (st.take n).reverse then zlev md l lv (fun j => zret t (C k j (st.take n).reverse m) K ls (st.drop n)) else none) else none
theorem sh_ldcS : zShape (z_ldcS) := by
  intro lv ls st m
  unfold z_ldcS
  repeat' split
  all_goals first | (exact Or.inl ⟨_, fun _ _ _ => rfl⟩; done) | (exact Or.inr (Or.inl ⟨_, _, _, _, fun _ _ _ => rfl⟩); done) | (exact Or.inr (Or.inr (Or.inl ⟨_, _, _, fun _ _ _ => rfl⟩)); done)
theorem sh_gst1 : zShape (z_gst1) := by
  intro lv ls st m
  unfold z_gst1
  repeat' split
  all_goals first | (exact Or.inl ⟨_, fun _ _ _ => rfl⟩; done) | (exact Or.inr (Or.inl ⟨_, _, _, _, fun _ _ _ => rfl⟩); done) | (exact Or.inr (Or.inr (Or.inl ⟨_, _, _, fun _ _ _ => rfl⟩)); done)
theorem sh_gsf : zShape (z_gsf) := by
  intro lv ls st m
  unfold z_gsf
  repeat' split
  all_goals first | (exact Or.inl ⟨_, fun _ _ _ => rfl⟩; done) | (exact Or.inr (Or.inl ⟨_, _, _, _, fun _ _ _ => rfl⟩); done) | (exact Or.inr (Or.inr (Or.inl ⟨_, _, _, fun _ _ _ => rfl⟩)); done)
theorem sh_sgv : zShape (z_sgv) := by
  intro lv ls st m
  unfold z_sgv
  repeat' split
  all_goals first | (exact Or.inl ⟨_, fun _ _ _ => rfl⟩; done) | (exact Or.inr (Or.inl ⟨_, _, _, _, fun _ _ _ => rfl⟩); done) | (exact Or.inr (Or.inr (Or.inl ⟨_, _, _, fun _ _ _ => rfl⟩)); done)
theorem sh_sgc : zShape (z_sgc) := by
  intro lv ls st m
  unfold z_sgc
  repeat' split
  all_goals first | (exact Or.inl ⟨_, fun _ _ _ => rfl⟩; done) | (exact Or.inr (Or.inl ⟨_, _, _, _, fun _ _ _ => rfl⟩); done) | (exact Or.inr (Or.inr (Or.inl ⟨_, _, _, fun _ _ _ => rfl⟩)); done)
theorem sh_slen : zShape (z_slen) := by
  intro lv ls st m
  unfold z_slen
  repeat' split
  all_goals first | (exact Or.inl ⟨_, fun _ _ _ => rfl⟩; done) | (exact Or.inr (Or.inl ⟨_, _, _, _, fun _ _ _ => rfl⟩); done) | (exact Or.inr (Or.inr (Or.inl ⟨_, _, _, fun _ _ _ => rfl⟩)); done)
theorem sh_sbald : zShape (z_sbald) := by
  intro lv ls st m
  unfold z_sbald
  repeat' split
  all_goals first | (exact Or.inl ⟨_, fun _ _ _ => rfl⟩; done) | (exact Or.inr (Or.inl ⟨_, _, _, _, fun _ _ _ => rfl⟩); done) | (exact Or.inr (Or.inr (Or.inl ⟨_, _, _, fun _ _ _ => rfl⟩)); done)
theorem sh_i2c : zShape (z_i2c) := by
  intro lv ls st m
  unfold z_i2c
  repeat' split
  all_goals first | (exact Or.inl ⟨_, fun _ _ _ => rfl⟩; done) | (exact Or.inr (Or.inl ⟨_, _, _, _, fun _ _ _ => rfl⟩); done) | (exact Or.inr (Or.inr (Or.inl ⟨_, _, _, fun _ _ _ => rfl⟩)); done)
theorem sh_cret : zShape (z_cret) := by
  intro lv ls st m
  unfold z_cret
  repeat' split
  all_goals first | (exact Or.inl ⟨_, fun _ _ _ => rfl⟩; done) | (exact Or.inr (Or.inl ⟨_, _, _, _, fun _ _ _ => rfl⟩); done) | (exact Or.inr (Or.inr (Or.inl ⟨_, _, _, fun _ _ _ => rfl⟩)); done)
theorem sh_0ret : zShape (z_0ret) := by
  intro lv ls st m
  unfold z_0ret
  repeat' split
  all_goals first | (exact Or.inl ⟨_, fun _ _ _ => rfl⟩; done) | (exact Or.inr (Or.inl ⟨_, _, _, _, fun _ _ _ => rfl⟩); done) | (exact Or.inr (Or.inr (Or.inl ⟨_, _, _, fun _ _ _ => rfl⟩)); done)
theorem sh_none : zShape (z_none) := by
  intro lv ls st m
  unfold z_none
  repeat' split
  all_goals first | (exact Or.inl ⟨_, fun _ _ _ => rfl⟩; done) | (exact Or.inr (Or.inl ⟨_, _, _, _, fun _ _ _ => rfl⟩); done) | (exact Or.inr (Or.inr (Or.inl ⟨_, _, _, fun _ _ _ => rfl⟩)); done)
theorem sh_callS (k md l n t : Nat) : zShape (z_callS k md l n t) := by
  intro lv ls st m
  unfold z_callS
  split
  · split
    · rcases sh_lev (md := md) (l := l) (lv := lv) (m := m) (k := k) (t := t) (as := (st.take n).reverse) (r := st.drop n) (ls := ls) with ⟨r, h⟩ | ⟨k', j, as', t', ls', r', h⟩
      · exact Or.inl ⟨r, fun C J K => h C J K⟩
      · exact Or.inr (Or.inr (Or.inr ⟨k', j, as', t', ls', r', fun C J K => h C J K⟩))
    · exact Or.inl ⟨_, fun _ _ _ => rfl⟩
  · exact Or.inl ⟨_, fun _ _ _ => rfl⟩
section ZP14
variable {P : Nat → zE} {E : zE} {pc : Nat}
theorem zS_of {b : List Int32} {n a v : Nat} {A : Nat → Prop} {U : State} {H : Heap} (h : vk_S 1 [n] [b] (fun _ => a) (fun _ => v) A U H) :
    va_O "java/lang/String" a A U H ∧ va_OF "java/lang/String" "code\x72" "B" (.int 0) a A U H ∧ va_OF "java/lang/String" "value" "[B" (.ref v) a A U H ∧ va_T .byte v n (fun j => .int (b.getD j 0)) A U H := h.1 0 (by decide)
theorem zS_key {D : zD} {ρ : Nat → Nat} {A : Nat → Prop} {s : State} {m : zM} {H : Heap} (hK : zKs D s) (hH : zH D ρ A m H) :
    vk_R "ErrataLand$Tape" 19 zTx (ρ zSPEC) s ∧ (va_O "java/lang/String" (ρ zSPEC) D.2.2.2.2 s H ∧ va_OF "java/lang/String" "code\x72" "B" (.int 0) (ρ zSPEC) D.2.2.2.2 s H ∧ va_OF "java/lang/String" "value" "[B" (.ref (ρ (zSPEC + 1))) (ρ zSPEC) D.2.2.2.2 s H ∧ va_T .byte (ρ (zSPEC + 1)) 120 (fun j => .int (zTb.getD j 0)) D.2.2.2.2 s H) ∧
    va_Z "java/lang/String" "COMPACT_STRINGS" "Z" (.int 1) D.2.2.2.2 s H ∧ va_Zq "jdk/internal/util/Preconditions" "SIOOBE_FORMATTE\x52" "Ljava/util/function/BiFunction;" D.2.2.2.2 s H := by
  obtain ⟨e0, e1, e2⟩ := hH.2.2.2.2.2.2.2.2.1.2
  have hq := hH.2.2.2.2.2.2.2.2.2.2
  obtain ⟨h1, h2, h3, h4⟩ := hK.2.2.2
  rw [e0, e1]
  exact ⟨h1, zS_of (h2.kept hq), h3.kept hq, h4.kept hq⟩
theorem zS_obj {D : zD} {ρ : Nat → Nat} {A : Nat → Prop} {s : State} {m : zM} {H : Heap} (hK : zKs D s) (hH : zH D ρ A m H) : ∃ cell : Cell, H[ρ zSPEC]? = some cell ∧ cell.vm.isStatics = false ∧ s.vm.findClass "java/lang/String" = some cell.cls := by
  obtain ⟨cell, h1, h2, h3, -⟩ := (zS_key hK hH).2.1.1
  exact ⟨cell, h1, h2, h3⟩
theorem zrvS_of {as : List zV} (h : zrvS as = true) : ∃ as', as = .inr (.inr (some zSPEC)) :: as' := by
  unfold zrvS at h
  split at h
  · exact ⟨_, by rw [of_decide_eq_true h]⟩
  · cases h
theorem s_none {i : Instr} {n : Nat} : zSi P E pc i n z_none := fun lv C J K hd hC hJ hK ls st mm out hF => by cases hF
theorem s_ldcS (hcls : E.1.cls = "ErrataLand$Tape") : zSi P E pc (.ldc 19) 2 z_ldcS := by
  intro lv C J K hd hC hJ hK ls st mm out hF
  unfold z_ldcS at hF
  refine ⟨(hK _ _ _ _ hF).1, fun p l e s m args below meth cd D ρ A n0 s0 H locs lsA hx hp => ?_⟩
  obtain ⟨hL, hst, hls, hH, hS, h1, h2⟩ := hp
  refine va_ldcS hx.1 hx.2.1 (hcls ▸ hx.2.2.2.2.1) (zS_key hx.2.2.2.2.2.2.2.2 hH).1 hd ?_
  exact (hK _ _ _ _ hF).2 p l e s m args below meth cd D ρ A n0 s0 H locs lsA hx ⟨hL, zok_c trivial hst, hls, hH, hS, h1, h2⟩
theorem zS_gets {C n d : String} {i : Nat} {l : Launch} {e : Env} {p : Program} {R : Room} {s : State} {m : MethodId} {args : Array Value} {below : List Frame} {meth : Method} {cd : Code} {D : zD} {A : Nat → Prop} {H : Heap} {locs : List Loc} {lsA : Array Slot} {st : List Value} {cells slots : Nat} {Q : State → Prop} {w : Value}
    (hx : zCx E p s m meth cd D A) (hZ : va_Z C n d w D.2.2.2.2 s H) (hlink : (Cond.fieldLink E.1.cls i C n d) ∈ zAll) (hd : decode E.2.1 pc = .ok (.getstatic i, 3))
    (kk : W p l e R s m args below meth cd H locs cells slots Q (F0 m (pc + 3) lsA (w :: st))) : W p l e R s m args below meth cd H locs cells slots Q (F0 m pc lsA st) := by
  obtain ⟨cf, kf, fi, f, a, cell, h1, h2, h3, h4, h5, h6, h7, h8⟩ := hZ
  exact W.gets hx.1 hx.2.1 hx.2.2.2.2.1 (zKs_word (a := args) hx.2.2.2.2.2.2.2.2 hlink) h1 h2 h3 h4 h5 (fun e => by rw [e] at h6; cases h6) h7 rfl hd kk
theorem s_gst1 (hw : (Cond.fieldLink E.1.cls 38 "java/lang/String" "COMPACT_STRINGS" "Z") ∈ zAll) : zSi P E pc (.getstatic 38) 3 z_gst1 := by
  intro lv C J K hd hC hJ hK ls st mm out hF
  unfold z_gst1 at hF
  refine ⟨(hK _ _ _ _ hF).1, fun p l e s m args below meth cd D ρ A n0 s0 H locs lsA hx hp => ?_⟩
  obtain ⟨hL, hst, hls, hH, hS, h1, h2⟩ := hp
  refine zS_gets hx (zS_key hx.2.2.2.2.2.2.2.2 hH).2.2.1 hw hd ?_
  exact (hK _ _ _ _ hF).2 p l e s m args below meth cd D ρ A n0 s0 H locs lsA hx ⟨hL, zok_c (show r32 1 from q32 rfl) hst, hls, hH, hS, h1, h2⟩
theorem s_sgv (hw : (Cond.fieldLink E.1.cls 9 "java/lang/String" "value" "[B") ∈ zAll) : zSi P E pc (.getfield 9) 3 z_sgv := by
  intro lv C J K hd hC hJ hK ls st mm out hF
  unfold z_sgv at hF
  split at hF
  · split at hF
    · rename_i ha
      subst ha
      refine ⟨(hK _ _ _ _ hF).1, fun p l e s m args below meth cd D ρ A n0 s0 H locs lsA hx hp => ?_⟩
      obtain ⟨hL, hst, hls, hH, hS, h1, h2⟩ := hp
      obtain ⟨cf, k, fi, f, cell, g1, g2, g3, g4, g5, g6⟩ := (zS_key hx.2.2.2.2.2.2.2.2 hH).2.1.2.2.1
      refine W.getf hx.1 hx.2.1 hx.2.2.2.2.1 (zKs_word (a := args) hx.2.2.2.2.2.2.2.2 hw) g1 g2 g3 g4 g5 rfl rfl hd ?_
      exact (hK _ _ _ _ hF).2 p l e s m args below meth cd D ρ A n0 s0 H locs lsA hx ⟨hL, zok_c trivial (zok_t hst), hls, hH, hS, h1, h2⟩
    · cases hF
  · cases hF
theorem s_sgc (hw : (Cond.fieldLink E.1.cls 15 "java/lang/String" "code\x72" "B") ∈ zAll) : zSi P E pc (.getfield 15) 3 z_sgc := by
  intro lv C J K hd hC hJ hK ls st mm out hF
  unfold z_sgc at hF
  split at hF
  · split at hF
    · rename_i ha
      subst ha
      refine ⟨(hK _ _ _ _ hF).1, fun p l e s m args below meth cd D ρ A n0 s0 H locs lsA hx hp => ?_⟩
      obtain ⟨hL, hst, hls, hH, hS, h1, h2⟩ := hp
      obtain ⟨cf, k, fi, f, cell, g1, g2, g3, g4, g5, g6⟩ := (zS_key hx.2.2.2.2.2.2.2.2 hH).2.1.2.1
      refine W.getf hx.1 hx.2.1 hx.2.2.2.2.1 (zKs_word (a := args) hx.2.2.2.2.2.2.2.2 hw) g1 g2 g3 g4 g5 rfl rfl hd ?_
      exact (hK _ _ _ _ hF).2 p l e s m args below meth cd D ρ A n0 s0 H locs lsA hx ⟨hL, zok_c (show r32 0 from q32 rfl) (zok_t hst), hls, hH, hS, h1, h2⟩
    · cases hF
  · cases hF
theorem s_slen : zSi P E pc .arraylength 1 z_slen := by
  intro lv C J K hd hC hJ hK ls st mm out hF
  unfold z_slen at hF
  split at hF
  · split at hF
    · rename_i ha
      subst ha
      refine ⟨(hK _ _ _ _ hF).1, fun p l e s m args below meth cd D ρ A n0 s0 H locs lsA hx hp => ?_⟩
      obtain ⟨hL, hst, hls, hH, hS, h1, h2⟩ := hp
      obtain ⟨cell, g1, g2, g3, g4, g5, g6, g7⟩ := (zS_key hx.2.2.2.2.2.2.2.2 hH).2.1.2.2.2
      refine W.alen (n := Int32.ofInt 120) hx.1 hx.2.1 g1 g2 (by rw [g5]; rfl) rfl rfl hd ?_
      exact (hK _ _ _ _ hF).2 p l e s m args below meth cd D ρ A n0 s0 H locs lsA hx ⟨hL, zok_c (show r32 120 from q32 rfl) (zok_t hst), hls, hH, hS, h1, h2⟩
    · cases hF
  · cases hF
theorem zTb_all : ∀ k, k < 120 → zTb.getD k 0 = Int32.ofInt (zTbi k) ∧ r32 (zTbi k) := by
  intro k _
  unfold zTbi
  refine ⟨by rw [Int32.ofInt_toInt], ?_⟩
  have h1 := Int32.toInt_lt (zTb.getD k 0)
  have h2 := Int32.le_toInt (zTb.getD k 0)
  unfold r32
  omega
theorem s_sbald : zSi P E pc .baload 1 z_sbald := by
  intro lv C J K hd hC hJ hK ls st mm out hF
  unfold z_sbald at hF
  split at hF
  · rename_i x a r
    split at hF
    · rename_i ha
      obtain ⟨rfl, hx0, hx1⟩ := ha
      refine ⟨(hK _ _ _ _ hF).1, fun p l e s m args below meth cd D ρ A n0 s0 H locs lsA hx hp => ?_⟩
      obtain ⟨hL, hst, hls, hH, hS, h1, h2⟩ := hp
      obtain ⟨cell, g1, g2, g3, g4, g5, g6, g7⟩ := (zS_key hx.2.2.2.2.2.2.2.2 hH).2.1.2.2.2
      have hr : r32 x := by unfold r32; omega
      have hto : (Int32.ofInt x).toNatClampNeg = x.toNat := by
        show (Int32.ofInt x).toInt.toNat = x.toNat
        rw [zT32 hr]
      have hlt : x.toNat < 120 := by omega
      have hnn : ¬ (Int32.ofInt x < 0 ∨ cell.slots.size ≤ (Int32.ofInt x).toNatClampNeg) := by
        rintro (q | q)
        · have := Int32.lt_iff_toInt_lt.mp q
          rw [zT32 hr] at this
          have h0 : (0 : Int32).toInt = 0 := rfl
          omega
        · rw [hto] at q
          omega
      refine W.bald (v := .int (Int32.ofInt (zTbi x.toNat))) hx.1 hx.2.1 g1 g2 g3 hnn (by rw [hto, g6 _ hlt]; exact congrArg (fun v => some (Value.int v)) (zTb_all _ hlt).1) rfl rfl hd ?_
      exact (hK _ _ _ _ hF).2 p l e s m args below meth cd D ρ A n0 s0 H locs lsA hx ⟨hL, zok_c (zTb_all _ hlt).2 (zok_t (zok_t hst)), hls, hH, hS, h1, h2⟩
    · cases hF
  · cases hF
theorem z128 : ∀ x : Int, 0 ≤ x → x < 128 → narrow .char (.int (Int32.ofInt x)) = .int (Int32.ofInt x) ∧ ((Int32.ofInt x).toUInt32 % 65536).toInt32 = Int32.ofInt x := by
  intro x h0 h1
  have key : ∀ n : Fin 128, narrow .char (.int (Int32.ofInt (n.val : Int))) = .int (Int32.ofInt (n.val : Int)) ∧ ((Int32.ofInt (n.val : Int)).toUInt32 % 65536).toInt32 = Int32.ofInt (n.val : Int) := by decide +kernel
  have h := key ⟨x.toNat, by omega⟩
  have e : ((⟨x.toNat, by omega⟩ : Fin 128).val : Int) = x := by show (x.toNat : Int) = x; omega
  rw [e] at h
  exact h
theorem s_i2c : zSi P E pc .i2c 1 z_i2c := by
  intro lv C J K hd hC hJ hK ls st mm out hF
  unfold z_i2c at hF
  split at hF
  · rename_i x r
    split at hF
    · rename_i ha
      refine ⟨(hK _ _ _ _ hF).1, fun p l e s m args below meth cd D ρ A n0 s0 H locs lsA hx hp => ?_⟩
      obtain ⟨hL, hst, hls, hH, hS, h1, h2⟩ := hp
      refine lv_i2c hx.1 hx.2.1 hd (v := Int32.ofInt x) (z128 x ha.1 ha.2).2 ?_
      exact (hK _ _ _ _ hF).2 p l e s m args below meth cd D ρ A n0 s0 H locs lsA hx ⟨hL, hst, hls, hH, hS, h1, h2⟩
    · cases hF
  · cases hF
theorem s_cret (hr : E.2.2.2.1 = some .char) : zSi P E pc .ireturn 1 z_cret := by
  intro lv C J K hd hC hJ hK ls st mm out hF
  unfold z_cret at hF
  split at hF
  · rename_i x
    split at hF
    · rename_i hb
      cases hF
      refine ⟨zGr.rf _, fun p l e s m args below meth c D ρ A n0 s0 H locs lsA hc hp => ?_⟩
      obtain ⟨hL, hst, hls, hH, hS, h1, h2⟩ := hp
      exact W.zret (ty := .char) hc.1 hc.2.1 (hc.2.2.2.1.trans hr) (z128 x hb.1 hb.2).1 (fun t ht _ => z_end (o := some (.inl x)) hH hS (fun v q => by cases q; exact zok_h hst) ht) hS.2.2 hd hc.2.2.2.2.2.1
    · cases hF
  · cases hF
theorem s_0ret (hr : E.2.2.2.1 = some .byte) : zSi P E pc .ireturn 1 z_0ret := by
  intro lv C J K hd hC hJ hK ls st mm out hF
  unfold z_0ret at hF
  split at hF
  · rename_i x
    split at hF
    · rename_i hb
      subst hb
      cases hF
      refine ⟨zGr.rf _, fun p l e s m args below meth c D ρ A n0 s0 H locs lsA hc hp => ?_⟩
      obtain ⟨hL, hst, hls, hH, hS, h1, h2⟩ := hp
      exact W.zret (ty := .byte) hc.1 hc.2.1 (hc.2.2.2.1.trans hr) rfl (fun t ht _ => z_end (o := some (.inl 0)) hH hS (fun v q => by cases q; exact zok_h hst) ht) hS.2.2 hd hc.2.2.2.2.2.1
    · cases hF
  · cases hF
theorem s_callS {k md l n t i : Nat} {X : zE} (hX : P k = X) (hcls : "java/lang/String" = X.1.cls) (hwc : zWc X) (hlv : zLv X.2.2.2.2.1 E.2.2.2.2.1 md l) (hml : zMl E.1.cls i X.1) (hin : Cond.instanceMethod X.1 ∈ zAll) (hse : Cond.selects "java/lang/String" X.1 X.1 ∈ zAll) (hsg : (parseMethodDescriptor X.1.desc).map (fun d => d.parameters.length + 1) = some n) : zSi P E pc (.invokevirtual i) 3 (z_callS k md l n t) := by
  subst hX
  intro lv C J K hd hC hJ hK ls st mm out hF
  unfold z_callS at hF
  split at hF
  · rename_i hcc
    split at hF
    · rename_i hrv
      obtain ⟨c1, c2⟩ := zcl_of hcc
      obtain ⟨as', has⟩ := zrvS_of hrv
      obtain ⟨j, hj, hmu⟩ := zlev_of hF hlv
      obtain ⟨v, m', hCo, hKo⟩ := zret_of hj
      obtain ⟨hG, hM⟩ := hC _ _ _ _ _ hCo
      have hG2 := (hK _ _ _ _ hKo).1
      refine ⟨hG.tr hG2, fun p lL e s m args below meth cd D ρ A n0 s0 H locs lsA hx hp => ?_⟩
      obtain ⟨hL, hok, hls, hH, hS, h1, h2⟩ := hp
      have hKs := hx.2.2.2.2.2.2.2.2
      have hG1n : zn mm ≤ zn m' := hG.1
      have hG1s : zs mm ≤ zs m' := hG.2
      have hG2n : zn m' ≤ zn out.2 := hG2.1
      have hG2s : zs m' ≤ zs out.2 := hG2.2
      have hMet := hM hmu (zin_take hok) lL D ρ A
      rw [has] at hMet
      have hargs : ∀ w ∈ [Cond.code (P k).1 (P k).2.1 (P k).2.2.1 (P k).2.2.2.1], ∀ (a' : Array Value) (U : State), s.WarmedH U.vm → w.before a' U = true := fun w hw a' U hW => by
        rw [List.mem_singleton.mp hw]
        exact zAll_warm hwc.1 hW (zKs_word hKs hwc.1 (a := #[]))
      have hl0 : (st.take n).reverse.length = n := by rw [List.length_reverse, List.length_take]; omega
      have hlen : (as'.map (zW ρ)).length + 1 = n := by rw [List.length_map, ← hl0, has]; rfl
      obtain ⟨cellB, q1, q2, q3⟩ := zS_obj hKs hH
      have hpre : PreV s H "java/lang/String" (ρ zSPEC) (zPc D ρ A (.inr (.inr (some zSPEC)) :: as') mm) (as'.map (zW ρ)) := ⟨zPc_blind, ⟨cellB, q1, q2, q3⟩, fun U hU hW => ⟨rfl, by rw [hU]; exact hH, zKs_warm hW hKs, by rw [hU]; exact fun q hq => hx.2.2.2.2.2.2.2.1 q (Nat.le_trans hS.1 hq)⟩⟩
      have hrm : (zRoom (zmu (P k) j) (zn m' - zn mm) (zs m' - zs mm)).frames + 1 ≤ (zRoom (zmu E lv) (zn out.2 - n0) (zs out.2 - s0)).frames ∧ 8 + ((P k).2.2.1 + 11) + (zRoom (zmu (P k) j) (zn m' - zn mm) (zs m' - zs mm)).locals ≤ (zRoom (zmu E lv) (zn out.2 - n0) (zs out.2 - s0)).locals := by
        have h41 := hwc.2.2.2
        have hmu' : zmu (P k) j < zmu E lv := hmu
        show zmu (P k) j + 1 ≤ zmu E lv ∧ 8 + ((P k).2.2.1 + 11) + 60 * zmu (P k) j ≤ 60 * zmu E lv
        omega
      have hstk : st.map (zW ρ) = (as'.map (zW ρ)).reverse ++ .ref (ρ zSPEC) :: (st.drop n).map (zW ρ) := by
        rw [zargs_eq st n ρ, has, List.map_cons, List.reverse_cons, List.append_assoc]
        rfl
      have hsg' : ∀ sig, parseMethodDescriptor (P k).1.desc = some sig → (as'.map (zW ρ)).length = sig.parameters.length := fun sig q => by
        rw [q] at hsg
        have := Option.some.inj hsg
        dsimp only at this
        omega
      have key : va_Run p lL e (zRoom (zmu E lv) (zn out.2 - n0) (zs out.2 - s0)) s m args below meth cd H locs (zn mm - n0) (zs mm - s0) (zn m' - zn mm) (zs m' - zs mm) (F0 m pc lsA (st.map (zW ρ))) ((st.drop n).map (zW ρ)) (zQ D ρ A (v, m') (Value.ref (ρ zSPEC) :: as'.map (zW ρ)).toArray) A := by
        have hcap : zn mm - n0 + (zn m' - zn mm) ≤ (zRoom (zmu E lv) (zn out.2 - n0) (zs out.2 - s0)).cells ∧ zs mm - s0 + (zs m' - zs mm) ≤ (zRoom (zmu E lv) (zn out.2 - n0) (zs out.2 - s0)).slots := by
          show zn mm - n0 + (zn m' - zn mm) ≤ zn out.2 - n0 ∧ zs mm - s0 + (zs m' - zs mm) ≤ zs out.2 - s0
          omega
        rcases hml with hml | ⟨hh, hml⟩
        · exact va_runV (C := "java/lang/String") (b := ρ zSPEC) (As := as'.map (zW ρ)) ⟨hx.1, hx.2.1, hx.2.2.1, hx.2.2.2.2.1, fun w hw => zKs_word (a := args) hKs hw⟩ hMet ⟨⟨rfl, rfl, hrm.1, hrm.2, hargs, List.mem_singleton.mpr rfl, zKs_word hKs hwc.1, zKs_word hKs hwc.2.1, hwc.2.2.1, hsg', zKs_word hKs hml⟩, zKs_word hKs hin, zKs_word hKs hse⟩ hpre rfl rfl hL.1 hstk (lv_room (by rw [zw_cat]; exact c2)) hd hcap
        · exact va_runVN (C := "java/lang/String") (b := ρ zSPEC) (As := as'.map (zW ρ)) ⟨hx.1, hx.2.1, hx.2.2.1, hx.2.2.2.2.1, fun w hw => zKs_word (a := args) hKs hw⟩ hMet ⟨⟨⟨rfl, rfl, hrm.1, hrm.2, hargs, List.mem_singleton.mpr rfl⟩, zKs_word hKs hwc.1, zKs_word hKs hwc.2.1, hwc.2.2.1, hsg', zKs_word hKs hml⟩, zKs_word hKs hin, zKs_word hKs hse⟩ hpre rfl rfl hL.1 hstk (lv_room (by rw [zw_cat]; exact c2)) hd hcap
      refine zcall_go key hS (fun H1 locs1 hv hH1 hS1 => ?_)
      have kk := (hK _ _ _ _ hKo).2 p lL e s m args below meth cd D ρ A n0 s0 H1 locs1 lsA hx ⟨hL, ?_, hls, hH1, hS1, by omega, by omega⟩
      · rw [show zn m' - n0 = zn mm - n0 + (zn m' - zn mm) by omega, show zs m' - s0 = zs mm - s0 + (zs m' - zs mm) by omega] at kk
        have e1 : (v.toList ++ st.drop n).map (zW ρ) = (v.map (zW ρ)).toList ++ (st.drop n).map (zW ρ) := by
          rw [List.map_append]
          cases v <;> rfl
        rw [e1] at kk
        exact kk
      · intro w hw
        rcases List.mem_append.mp hw with q | q
        · cases v with
          | none => cases q
          | some v0 => rw [List.mem_singleton.mp q]; exact hv _ rfl
        · exact zin_drop hok w q
    · cases hF
  · cases hF
end ZP14
