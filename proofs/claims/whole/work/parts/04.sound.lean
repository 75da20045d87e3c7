/-! What the small machine does, the machine does: the picture of a heap, what a point of a method's run is, and each instruction. -/
/-- ranges and numbers -/
theorem r32_i32 (x : Int) : r32 (i32 x) := by
  unfold r32 i32
  have h1 := Int.le_bmod (x := x) (m := 4294967296) (by decide)
  have h2 := Int.bmod_lt (x := x) (m := 4294967296) (by decide)
  omega
theorem r64_i64 (x : Int) : r64 (i64 x) := by
  unfold r64 i64
  have h1 := Int.le_bmod (x := x) (m := 18446744073709551616) (by decide)
  have h2 := Int.bmod_lt (x := x) (m := 18446744073709551616) (by decide)
  omega
theorem i32_id {x : Int} (h : r32 x) : i32 x = x := by
  unfold i32; exact Int.bmod_eq_of_le (by unfold r32 at h; omega) (by unfold r32 at h; omega)
theorem i64_id {x : Int} (h : r64 x) : i64 x = x := by
  unfold i64; exact Int.bmod_eq_of_le (by unfold r64 at h; omega) (by unfold r64 at h; omega)
theorem zT32 {x : Int} (h : r32 x) : (Int32.ofInt x).toInt = x := Int32.toInt_ofInt_of_le (by unfold r32 at h; omega) (by unfold r32 at h; omega)
theorem zT64 {x : Int} (h : r64 x) : (Int64.ofInt x).toInt = x := Int64.toInt_ofInt_of_le (by unfold r64 at h; omega) (by unfold r64 at h; omega)
theorem zr32 (x : Int32) : r32 x.toInt := ⟨by have := x.le_toInt; omega, by have := x.toInt_lt; omega⟩
theorem zr64 (x : Int64) : r64 x.toInt := ⟨by have := x.le_toInt; omega, by have := x.toInt_lt; omega⟩
theorem zO32 (x : Int32) : Int32.ofInt x.toInt = x := Int32.ofInt_toInt x
theorem zO64 (x : Int64) : Int64.ofInt x.toInt = x := Int64.ofInt_toInt x
theorem zOi32 (x : Int) : Int32.ofInt (i32 x) = Int32.ofInt x := Int32.toInt_inj.1 (by
  rw [zT32 (r32_i32 x), Int32.toInt_ofInt]; rfl)
theorem zOi64 (x : Int) : Int64.ofInt (i64 x) = Int64.ofInt x := Int64.toInt_inj.1 (by
  rw [zT64 (r64_i64 x), Int64.toInt_ofInt]; rfl)
theorem zcn {x : Int} (h : r32 x) (h0 : 0 ≤ x) : (Int32.ofInt x).toNatClampNeg = x.toNat := by
  show (Int32.ofInt x).toInt.toNat = x.toNat
  rw [zT32 h]
theorem zin {x : Int} {n : Nat} (h : r32 x) (h0 : 0 ≤ x) (h1 : x < (n : Int)) : ¬ (Int32.ofInt x < 0 ∨ n ≤ (Int32.ofInt x).toNatClampNeg) := by
  rw [zcn h h0, Int32.lt_iff_toInt_lt, zT32 h, Int32.toInt_zero]
  omega
theorem zlt0 {x : Int} (h : r32 x) : Int32.ofInt x < 0 ↔ x < 0 := by rw [Int32.lt_iff_toInt_lt, zT32 h, Int32.toInt_zero]
theorem zeq0 {x : Int} (h : r32 x) : Int32.ofInt x = 0 ↔ x = 0 := by rw [← Int32.toInt_inj, zT32 h, Int32.toInt_zero]
theorem zle0 {x : Int} (h : r32 x) : Int32.ofInt x ≤ 0 ↔ x ≤ 0 := by rw [Int32.le_iff_toInt_le, zT32 h, Int32.toInt_zero]
theorem zlt2 {x y : Int} (h : r32 x) (h' : r32 y) : Int32.ofInt x < Int32.ofInt y ↔ x < y := by rw [Int32.lt_iff_toInt_lt, zT32 h, zT32 h']
theorem zle2 {x y : Int} (h : r32 x) (h' : r32 y) : Int32.ofInt x ≤ Int32.ofInt y ↔ x ≤ y := by rw [Int32.le_iff_toInt_le, zT32 h, zT32 h']
theorem zeq2 {x y : Int} (h : r32 x) (h' : r32 y) : Int32.ofInt x = Int32.ofInt y ↔ x = y := by rw [← Int32.toInt_inj, zT32 h, zT32 h']
theorem zeqL0 {x : Int} (h : r64 x) : Int64.ofInt x = 0 ↔ x = 0 := by rw [← Int64.toInt_inj, zT64 h, Int64.toInt_zero]
/-- kinds of arrays; a class's field's type -/
def zTy : Nat → Option FieldType
  | 8 => some .byte
  | 9 => some .int
  | 10 => some .long
  | 11 => some (.object "ErrataLand$Land")
  | 12 => some (.object "ErrataLand$Line")
  | 13 => some (.object "ErrataLand$Tray")
  | _ => none
def zFt (c : Nat) : Nat → FieldType := match c with
  | 0 => tyX0
  | 1 => tyX1
  | 2 => tyX2
  | 3 => tyX6
  | 4 => tyX7
  | 5 => tyX8
  | 6 => tyX10
  | _ => tyX11
/-- classes' numbers, fields' slots, arrays' classes; the first heap, and what may change of it -/
abbrev zD : Type := (Nat → ClassId) × (Nat → Nat → Nat) × (Nat → ClassId) × Heap × (Nat → Prop)
/-- the one String constant: its text, its bytes -/
def zTx : String := "odds word line for read passim delete after insert person at says day go lose find any when lost long has loop end stop "
def zTb : List Int32 := zTx.toList.map fun c => Int32.ofNat c.toNat
def zStr (D : zD) (U : State) : Prop := vk_R "ErrataLand$Tape" 19 zTx (D.2.1 100 0) U ∧ vk_S 1 [120] [zTb] (fun _ => D.2.1 100 0) (fun _ => D.2.1 100 1) D.2.2.2.2 U D.2.2.2.1 ∧
  va_Z "java/lang/String" "COMPACT_STRINGS" "Z" (.int 1) D.2.2.2.2 U D.2.2.2.1 ∧ va_Zq "jdk/internal/util/Preconditions" "SIOOBE_FORMATTE\x52" "Ljava/util/function/BiFunction;" D.2.2.2.2 U D.2.2.2.1
theorem zStr_warm {D : zD} {s U : State} (hW : s.WarmedH U.vm) (h : zStr D s) : zStr D U := by
  obtain ⟨h1, h2, h3, h4⟩ := h
  exact ⟨h1.warm hW, h2.moved hW.alike, h3.moved hW.alike, h4.moved hW.alike⟩
def zW (ρ : Nat → Nat) : zV → Value
  | .inl x => .int (Int32.ofInt x)
  | .inr (.inl x) => .long (Int64.ofInt x)
  | .inr (.inr r) => va_rf (r.map ρ)
def zFv (ρ : Nat → Nat) (m : zM) (a c k : Nat) : Value := match zFt c k with
  | .long => .long (Int64.ofInt (zl m a k))
  | .object _ => va_rf ((zr m a k).map ρ)
  | .array _ => va_rf ((zr m a k).map ρ)
  | _ => .int (Int32.ofInt (zi m a k))
def zAv (ρ : Nat → Nat) (m : zM) (a t k : Nat) : Value := if t = 10 then .long (Int64.ofInt (zl m a k)) else if 11 ≤ t then va_rf ((zr m a k).map ρ) else .int (Int32.ofInt (zi m a k))
def zAt (D : zD) (ρ : Nat → Nat) (m : zM) (a : Nat) (H : Heap) : Prop :=
  if (zk m a).1 < 8 then ∃ r : vw_C, zCl[(zk m a).1]? = some r ∧ t_OB (ρ a) (D.1 (zk m a).1) r.2.2 (D.2.1 (zk m a).1) H (zFv ρ m a (zk m a).1)
  else (∃ ty, zTy (zk m a).1 = some ty) ∧ H[ρ a]? = some (arrV (D.2.2.1 (zk m a).1) (zk m a).2 (zAv ρ m a (zk m a).1))
def zH (D : zD) (ρ : Nat → Nat) (A : Nat → Prop) (m : zM) (H : Heap) : Prop :=
  (∀ a, a < zn m → zAt D ρ m a H) ∧ (∀ a b, a < zn m → b < zn m → ρ a = ρ b → a = b) ∧ (∀ a, a < zn m → A (ρ a)) ∧
  (∀ j, zn m + j < zSPEC → ρ (zn m + j) = H.size + j) ∧ (∀ a k, r32 (zi m a k)) ∧ (∀ a k, r64 (zl m a k)) ∧ (∀ a, (zk m a).2 < 2147483648) ∧ zn m < zSPEC ∧ ((∀ q, A q → D.2.2.2.2 q) ∧ ρ zSPEC = D.2.1 100 0 ∧ ρ (zSPEC + 1) = D.2.1 100 1 ∧ ρ (zSPEC + 2) = D.2.1 100 2) ∧ D.2.2.2.1.size ≤ H.size ∧ ∀ q : Nat, q < D.2.2.2.1.size → ¬ D.2.2.2.2 q → H[q]? = D.2.2.2.1[q]?
def zKs (D : zD) (U : State) : Prop :=
  (∀ (c : Nat) (q : vw_C), zCl[c]? = some q → u_Kn U q.1 q.2.1 q.2.2 (D.1 c) (D.2.1 c)) ∧ (∀ t ty, zTy t = some ty → ArrOfT U (D.2.2.1 t) ty ∧ va_RA U (D.2.2.1 t) ty) ∧ (∀ w ∈ zAll, w.before #[] U = true) ∧ zStr D U
theorem zAll_warm {w : Cond} (h : w ∈ zAll) {s U : State} (hW : s.WarmedH U.vm) {a a' : Array Value} (hb : w.before a s = true) : w.before a' U = true := by
  have hg : zGood w = true := (List.mem_filter.mp h).2
  cases w
  case fieldLinkNest => exact va_Nw.use rfl (va_Nw.warmF hW (va_Nw.of rfl hb))
  case methodLinkNest => exact va_Nw.use rfl (va_Nw.warmM hW (va_Nw.of rfl hb))
  case arrayOver ty =>
    cases ty
    case object C => exact va_AO.use (va_AO.moved hW.alike (va_AO.of hb))
    all_goals cases hg
  all_goals exact word_at hW (good_of_word hg) hb
theorem zKs_warm {D : zD} {s U : State} (hW : s.WarmedH U.vm) (h : zKs D s) : zKs D U :=
  ⟨fun c q hq => u_Kn_moved hW.alike (h.1 c q hq), fun t ty ht => ⟨arrOfT_moved hW.alike (h.2.1 t ty ht).1, (h.2.1 t ty ht).2.moved hW.alike⟩, fun w hw => zAll_warm hw hW (h.2.2.1 w hw), zStr_warm hW h.2.2.2⟩
theorem zKs_word {D : zD} {s : State} (h : zKs D s) {w : Cond} (hw : w ∈ zAll) {a : Array Value} : w.before a s = true := zAll_warm hw (State.WarmedH.refl s) (h.2.2.1 w hw)
