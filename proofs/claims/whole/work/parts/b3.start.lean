/-! The law's entry: the tables' facts, both constructors, then the loop. -/
theorem zv_162 : (Jvm.Cond.instantiable "ErrataLand" 17) ∈ zAll := zWm 162 (by decide +kernel) rfl
theorem zv_1430 : (Jvm.Cond.instantiable "ErrataLandModel" 50) ∈ zAll := zWm 1430 (by decide +kernel) rfl
theorem zv_161 : (Jvm.Cond.classLink "ErrataLandLaw" 7 "ErrataLand") ∈ zAll := zWm 161 (by decide +kernel) rfl
theorem zv_1429 : (Jvm.Cond.classLink "ErrataLandLaw" 10 "ErrataLandModel") ∈ zAll := zWm 1429 (by decide +kernel) rfl
theorem zv_163 : (Jvm.Cond.methodLink "ErrataLandLaw" 9 ⟨"ErrataLand", "<init>", "()V"⟩) ∈ zAll := zWm 163 (by decide +kernel) rfl
theorem zv_1431 : (Jvm.Cond.methodLink "ErrataLandLaw" 12 ⟨"ErrataLandModel", "<init>", "()V"⟩) ∈ zAll := zWm 1431 (by decide +kernel) rfl
theorem zv_164 : (Jvm.Cond.instanceMethod ⟨"ErrataLand", "<init>", "()V"⟩) ∈ zAll := zWm 164 (by decide +kernel) rfl
theorem zv_1432 : (Jvm.Cond.instanceMethod ⟨"ErrataLandModel", "<init>", "()V"⟩) ∈ zAll := zWm 1432 (by decide +kernel) rfl
theorem zx_177 : (Jvm.Cond.stringRef "ErrataLand$Tape" 19 zTx) ∈ lw_tbl := List.mem_of_getElem? (i := 177) (by decide +kernel)
theorem zx_187 : (Jvm.Cond.laysStatic "java/lang/String" "COMPACT_STRINGS" "Z") ∈ lw_tbl := List.mem_of_getElem? (i := 187) (by decide +kernel)
theorem zx_203 : (Jvm.Cond.laysStatic "jdk/internal/util/Preconditions" "SIOOBE_FORMATTE\x52" "Ljava/util/function/BiFunction;") ∈ lw_tbl := List.mem_of_getElem? (i := 203) (by decide +kernel)
def zTm : Term := Term.string "ErrataLand$Tape" 19
def zGv : List Jvm.Cond := flatC (Jvm.Cond.and given_1 narrow_1)
theorem zg_4 : Cond.eq (.static "java/lang/String" "COMPACT_STRINGS" "Z") (.int 1) ∈ zGv := List.mem_of_getElem? (i := 4) (by decide +kernel)
theorem zg_5 : Cond.isRef (.static "jdk/internal/util/Preconditions" "SIOOBE_FORMATTE\x52" "Ljava/util/function/BiFunction;") ∈ zGv := List.mem_of_getElem? (i := 5) (by decide +kernel)
theorem zg_33 : Cond.exactly zTm "java/lang/String" ∈ zGv := List.mem_of_getElem? (i := 33) (by decide +kernel)
theorem zg_34 : Cond.eq (.field zTm "java/lang/String" "code\x72" "B") (.int 0) ∈ zGv := List.mem_of_getElem? (i := 34) (by decide +kernel)
theorem zg_35 : Cond.arrayOf (.field zTm "java/lang/String" "value" "[B") .byte ∈ zGv := List.mem_of_getElem? (i := 35) (by decide +kernel)
theorem zg_36 : Cond.eq (.length (.field zTm "java/lang/String" "value" "[B")) (.int (Int32.ofNat 120)) ∈ zGv := List.mem_of_getElem? (i := 36) (by decide +kernel)
theorem zg_el (j : Nat) (hj : j < 120) : Cond.eq (.elem (.field zTm "java/lang/String" "value" "[B") (.int (Int32.ofNat j))) (.int (zTb.getD j 0)) ∈ zGv := by
  have key : ∀ j : Fin 120, zGv[37 + j.val]? = some (Cond.eq (.elem (.field zTm "java/lang/String" "value" "[B") (.int (Int32.ofNat j.val))) (.int (zTb.getD j.val 0))) := by decide +kernel
  exact List.mem_of_getElem? (key ⟨j, hj⟩)
theorem getD_one {α : Type} (x d : α) : ([x] : List α).getD 0 d = x := rfl
section START
variable {p : Program} {l : Launch} {e : Env} {s : State} {m : MethodId} {below : List Frame} {meth : Method} {c : Code} {b L : Nat} {xs : Nat → Int32}
theorem arr_prim {ty : FieldType} {A : Array Value} (hw : (Cond.arrayClass ty).before A s = true) : ∃ cA : ClassId, ArrOfT s cA ty ∧ s.vm.findClass ("[" ++ ty.toString) = some cA := by
  obtain ⟨cA, k, comp, h1, h2, h3⟩ := Cond.arrayClass_spec hw
  exact ⟨cA, fun n z => ⟨(fun k h => by cases h), k, h2, comp, h3⟩, h1⟩
theorem arr_obj {C : String} {A : Array Value} (hw : (Cond.arrayOver (.object C)).before A s = true) : ∃ cA : ClassId, ArrOfT s cA (.object C) ∧ va_RA s cA (.object C) := by
  obtain ⟨comp, cA, k, h1, h2, h3, h4, h5⟩ := Cond.arrayOver_spec hw
  exact ⟨cA, fun n z => ⟨(fun k h => by cases h), k, h3, comp, h4⟩, k, comp, h3, h4, h1, h5⟩
theorem lw_D (C0 : lw_At p s m meth c b L xs) : ∃ D : zD, zKs D s ∧ D.2.2.2.1 = s.heap ∧ D.2.2.2.2 = qA0 s := by
  obtain ⟨hx, hb, hr, hml, hown, hts, hX, hbl, hlocks, hgv⟩ := C0
  have hz : ∀ w ∈ zAll, w.before #[Value.ref b] s = true := fun w hw => hts w (List.mem_filter.mp hw).1
  have hg := flat_of_before _ hgv
  have hA : ∀ a : Nat, a < s.heap.size → ¬ qA0 s a := fun a ha => Nat.not_le.mpr ha
  have k1 : ∀ c : Nat, ∃ q : ClassId × (Nat → Nat), ∀ r : vw_C, zCl[c]? = some r → u_Kn s r.1 r.2.1 r.2.2 q.1 q.2 := by
    intro c
    have go : ∀ r : vw_C, zCl[c]? = some r → Cond.instantiable r.1 r.2.2 ∈ zAll → ∃ q : ClassId × (Nat → Nat), ∀ r : vw_C, zCl[c]? = some r → u_Kn s r.1 r.2.1 r.2.2 q.1 q.2 := fun r hr hi => by
      obtain ⟨cC, iS, h⟩ := u_known (T := r.2.1) (N := r.2.2) hz (zCok_all c r hr).1 (hz _ hi)
      exact ⟨(cC, iS), fun r' hr' => by rw [hr] at hr'; cases hr'; exact h⟩
    match c with
    | 0 => exact go _ rfl zw_278
    | 1 => exact go _ rfl zw_399
    | 2 => exact go _ rfl zw_285
    | 3 => exact go _ rfl zw_172
    | 4 => exact go _ rfl zw_430
    | 5 => exact go _ rfl zw_313
    | 6 => exact go _ rfl zv_162
    | 7 => exact go _ rfl zv_1430
    | c + 8 => exact ⟨(0, fun _ => 0), fun r h => by simp [zCl] at h⟩
  have k2 : ∀ t : Nat, ∃ cA : ClassId, ∀ ty, zTy t = some ty → ArrOfT s cA ty ∧ va_RA s cA ty := by
    intro t
    match t with
    | 8 => obtain ⟨cA, h⟩ := arr_prim (hz _ zw_275); exact ⟨cA, fun ty q => by cases q; exact h⟩
    | 9 => obtain ⟨cA, h⟩ := arr_prim (hz _ zw_311); exact ⟨cA, fun ty q => by cases q; exact h⟩
    | 10 => obtain ⟨cA, h⟩ := arr_prim (hz _ zw_276); exact ⟨cA, fun ty q => by cases q; exact h⟩
    | 11 => obtain ⟨cA, h⟩ := arr_obj (hz _ zw_397); exact ⟨cA, fun ty q => by cases q; exact h⟩
    | 12 => obtain ⟨cA, h⟩ := arr_obj (hz _ zw_284); exact ⟨cA, fun ty q => by cases q; exact h⟩
    | 13 => obtain ⟨cA, h⟩ := arr_obj (hz _ zw_170); exact ⟨cA, fun ty q => by cases q; exact h⟩
    | 0 | 1 | 2 | 3 | 4 | 5 | 6 | 7 => exact ⟨0, fun ty q => nomatch q⟩
    | t + 14 => exact ⟨0, fun ty q => nomatch q⟩
  obtain ⟨f1, h1⟩ := Classical.axiomOfChoice k1
  obtain ⟨f2, h2⟩ := Classical.axiomOfChoice k2
  obtain ⟨adK, adV, hS, hev⟩ := vk_Sof (args := #[Value.ref b]) (s := s) (N := 1) (tm := fun _ => zTm) (len := [120]) (byt := [zTb]) (A := qA0 s)
    (fun i hi => by rw [show i = 0 by omega]; decide) (fun i _ => hg _ zg_33) (fun i _ => hg _ zg_34) (fun i _ => hg _ zg_35) (fun i hi => by rw [show i = 0 by omega]; exact hg _ zg_36)
    (fun i hi j hj => by
      have e : i = 0 := by omega
      subst e
      have hj' : j < 120 := hj
      have h := hg _ (zg_el j hj')
      have e2 : ([zTb] : List (List Int32)).getD 0 [] = zTb := getD_one zTb []
      rw [e2]; exact h) (fun i j hi hj hij => absurd (show i = j by omega) hij) hA
  have hZ1 := va_Zof (A := qA0 s) (hts _ zx_187) (hz _ zw_144) (va_eqi (hg _ zg_4)) hA
  have hZ2 := va_Zqof (A := qA0 s) (hts _ zx_203) (hz _ zw_146) (hg _ zg_5) hA
  refine ⟨(fun c => (f1 c).1, fun c => if c = 100 then (fun j => if j = 0 then adK 0 else if j = 1 then adV 0 else 0) else (f1 c).2, f2, s.heap, qA0 s), ⟨fun c r hr => ?_, h2, fun w hw => zAll_warm hw (State.WarmedH.refl s) (hz w hw), ?_⟩, rfl, rfl⟩
  · have h8 := zkd8 hr
    have e1 : (if c = 100 then (fun j => if j = 0 then adK 0 else if j = 1 then adV 0 else 0) else (f1 c).2) = (f1 c).2 := if_neg (by omega)
    show u_Kn s r.1 r.2.1 r.2.2 (f1 c).1 (if c = 100 then (fun j => if j = 0 then adK 0 else if j = 1 then adV 0 else 0) else (f1 c).2)
    rw [e1]
    exact h1 c r hr
  · refine ⟨vk_R.of (hts _ zx_177) (hev 0 (by decide)), ⟨fun i hi => ?_, fun i j hi hj _ => by omega⟩, hZ1, hZ2⟩
    have e : i = 0 := by omega
    subst e
    exact hS.1 0 (by decide)
end START
