/-! A SMALL MACHINE of my own: ints and longs are integers, addresses are places in a row of cells, a call is a function; 'zRun' runs a method's blocks with fuel. What it does the machine does (parts behind this one). -/
abbrev zV : Type := Int ⊕ Int ⊕ Option Nat
abbrev zM : Type := (Nat × Nat) × (Nat → Nat × Nat) × (Nat → Nat → Int) × (Nat → Nat → Int) × (Nat → Nat → Option Nat)
abbrev zLo : Type := List (Option zV)
abbrev zO : Type := Option zV × zM
abbrev zK : Type := zLo → List zV → zM → Option zO
abbrev zC : Type := Nat → Nat → List zV → zM → Option zO
abbrev zI : Type := Nat → zC → (Nat → zK) → zK → zK
abbrev zBlk : Type := List (Instr × Nat × zI)
/-- a method: name, code, locals, what it gives, its depth, its blocks, or what it does as a whole -/
abbrev zE : Type := MethodName × ByteArray × Nat × Option FieldType × Nat × (Nat → Option zBlk) × Option (List zV → zM → Option zO)
/-- how many cells, how many slots in all -/
def zn (m : zM) : Nat := m.1.1
def zs (m : zM) : Nat := m.1.2
/-- a cell's kind and (of an array) its length; its ints, its longs, its references -/
def zk (m : zM) (a : Nat) : Nat × Nat := m.2.1 a
def zi (m : zM) (a k : Nat) : Int := m.2.2.1 a k
def zl (m : zM) (a k : Nat) : Int := m.2.2.2.1 a k
def zr (m : zM) (a k : Nat) : Option Nat := m.2.2.2.2 a k
def z2 {α : Type} (f : Nat → Nat → α) (a k : Nat) (x : α) : Nat → Nat → α := fun b j => if b = a ∧ j = k then x else f b j
def zwi (m : zM) (a k : Nat) (x : Int) : zM := (m.1, m.2.1, z2 m.2.2.1 a k x, m.2.2.2.1, m.2.2.2.2)
def zwl (m : zM) (a k : Nat) (x : Int) : zM := (m.1, m.2.1, m.2.2.1, z2 m.2.2.2.1 a k x, m.2.2.2.2)
def zwr (m : zM) (a k : Nat) (x : Option Nat) : zM := (m.1, m.2.1, m.2.2.1, m.2.2.2.1, z2 m.2.2.2.2 a k x)
def zpush (m : zM) (t len size : Nat) : zM :=
  ((m.1.1 + 1, m.1.2 + size), (fun a => if a = m.1.1 then (t, len) else m.2.1 a), (fun a k => if a = m.1.1 then 0 else m.2.2.1 a k),
    (fun a k => if a = m.1.1 then 0 else m.2.2.2.1 a k), (fun a k => if a = m.1.1 then none else m.2.2.2.2 a k))
/-- a is a cell of kind t; and x a place in it; a is an array -/
def zT (m : zM) (a t : Nat) : Bool := decide (a < zn m) && decide ((zk m a).1 = t)
def zA (m : zM) (a t : Nat) (x : Int) : Bool := zT m a t && (decide (0 ≤ x) && decide (x < ((zk m a).2 : Int)))
def zY (m : zM) (a : Nat) : Bool := decide (a < zn m) && (decide (8 ≤ (zk m a).1) && decide ((zk m a).1 < 14))
def zb (x : Int) : Bool := decide (x = 0) || decide (x = 1)
def zSPEC : Nat := 1000000
/-- ranges -/
def r32 (x : Int) : Prop := -2147483648 ≤ x ∧ x < 2147483648
def r64 (x : Int) : Prop := -9223372036854775808 ≤ x ∧ x < 9223372036854775808
def i32 (x : Int) : Int := Int.bmod x 4294967296
def i64 (x : Int) : Int := Int.bmod x 18446744073709551616
def zok : zV → Prop
  | .inl x => r32 x
  | .inr (.inl x) => r64 x
  | .inr (.inr _) => True
/-- arithmetic -/
def zadd (x y : Int) : Int := i32 (x + y)
def zsub (x y : Int) : Int := i32 (x - y)
def zmul (x y : Int) : Int := i32 (x * y)
def zdiv (x y : Int) : Int := i32 (Int.tdiv x y)
def zrem (x y : Int) : Int := Int.tmod x y
def zand (x y : Int) : Int := (Int32.ofInt x &&& Int32.ofInt y).toInt
def zor (x y : Int) : Int := (Int32.ofInt x ||| Int32.ofInt y).toInt
def zxor (x y : Int) : Int := (Int32.ofInt x ^^^ Int32.ofInt y).toInt
def zshl (x y : Int) : Int := (Int32.ofInt x <<< (Int32.ofInt y &&& 31)).toInt
def zshr (x y : Int) : Int := (Int32.ofInt x >>> (Int32.ofInt y &&& 31)).toInt
def zushr (x y : Int) : Int := ((Int32.ofInt x).toUInt32 >>> ((Int32.ofInt y).toUInt32 &&& Int32.toUInt32 31)).toInt32.toInt
def zladd (x y : Int) : Int := i64 (x + y)
def zlsub (x y : Int) : Int := i64 (x - y)
def zlmul (x y : Int) : Int := i64 (x * y)
def zldiv (x y : Int) : Int := i64 (Int.tdiv x y)
def zlrem (x y : Int) : Int := Int.tmod x y
def zland (x y : Int) : Int := (Int64.ofInt x &&& Int64.ofInt y).toInt
def zlor (x y : Int) : Int := (Int64.ofInt x ||| Int64.ofInt y).toInt
def zlxor (x y : Int) : Int := (Int64.ofInt x ^^^ Int64.ofInt y).toInt
def zlshl (x y : Int) : Int := (Int64.ofInt x <<< ((Int32.ofInt y).toInt64 &&& 63)).toInt
def zlushr (x y : Int) : Int := ((Int64.ofInt x).toUInt64 >>> ((Int32.ofInt y).toInt64.toUInt64 &&& Int64.toUInt64 63)).toInt64.toInt
def zlcmp (x y : Int) : Int := if y < x then 1 else if x = y then 0 else -1
def zneg (x : Int) : Int := i32 (-x)
def zlneg (x : Int) : Int := i64 (-x)
/-- weight of the stack under a call; words of arguments; locals at a method's entry -/
def zw : List zV → Nat
  | [] => 0
  | .inr (.inl _) :: r => zw r + 2
  | .inl _ :: r => zw r + 1
  | .inr (.inr _) :: r => zw r + 1
def zEnt : List zV → Nat → zLo
  | [], n => List.replicate n none
  | .inr (.inl x) :: r, n => some (.inr (.inl x)) :: none :: zEnt r (n - 2)
  | .inl x :: r, n => some (.inl x) :: zEnt r (n - 1)
  | .inr (.inr x) :: r, n => some (.inr (.inr x)) :: zEnt r (n - 1)
/-- where a switch goes -/
def zsel (x lo : Int) (ts : List Nat) (d : Nat) : Nat := if x < lo then d else ts.getD (x - lo).toNat d
def zlk (x : Int) : List (Int × Nat) → Nat → Nat
  | [], d => d
  | (k, t) :: r, d => if k = x then t else zlk x r d
/-- what comes back from a call -/
def zC0 (o : Option zO) (f : zM → Option zO) : Option zO := match o with
  | some (none, m) => f m
  | _ => none
def zC1 (o : Option zO) (f : Int → zM → Option zO) : Option zO := match o with
  | some (some (.inl x), m) => f x m
  | _ => none
def zC2 (o : Option zO) (f : Int → zM → Option zO) : Option zO := match o with
  | some (some (.inr (.inl x)), m) => f x m
  | _ => none
def zC3 (o : Option zO) (g : zM → Option zO) (f : Nat → zM → Option zO) : Option zO := match o with
  | some (some (.inr (.inr none)), m) => g m
  | some (some (.inr (.inr (some a))), m) => f a m
  | _ => none
def zC4 (o : Option zO) (f : Nat → zM → Option zO) : Option zO := match o with
  | some (some (.inr (.inr (some a))), m) => f a m
  | _ => none
/-! instructions -/
def zPure (f : zLo → List zV → Option (zLo × List zV)) : zI := fun _ _ _ K ls st m => match f ls st with
  | some (a, b) => K a b m
  | none => none
def zf_const (x : Int) : zLo → List zV → Option (zLo × List zV) := fun ls st => some (ls, .inl x :: st)
def zf_lconst (x : Int) : zLo → List zV → Option (zLo × List zV) := fun ls st => some (ls, .inr (.inl x) :: st)
def zf_null : zLo → List zV → Option (zLo × List zV) := fun ls st => some (ls, .inr (.inr none) :: st)
def zf_iload (k : Nat) : zLo → List zV → Option (zLo × List zV) := fun ls st => match ls[k]? with
  | some (some (.inl x)) => some (ls, .inl x :: st)
  | _ => none
def zf_lload (k : Nat) : zLo → List zV → Option (zLo × List zV) := fun ls st => match ls[k]?, ls[k + 1]? with
  | some (some (.inr (.inl x))), some none => some (ls, .inr (.inl x) :: st)
  | _, _ => none
def zf_aload (k : Nat) : zLo → List zV → Option (zLo × List zV) := fun ls st => match ls[k]? with
  | some (some (.inr (.inr x))) => some (ls, .inr (.inr x) :: st)
  | _ => none
def zf_istore (k : Nat) : zLo → List zV → Option (zLo × List zV) := fun ls st => match st with
  | .inl x :: r => some (ls.set k (some (.inl x)), r)
  | _ => none
def zf_lstore (k : Nat) : zLo → List zV → Option (zLo × List zV) := fun ls st => match st with
  | .inr (.inl x) :: r => some ((ls.set k (some (.inr (.inl x)))).set (k + 1) none, r)
  | _ => none
def zf_astore (k : Nat) : zLo → List zV → Option (zLo × List zV) := fun ls st => match st with
  | .inr (.inr x) :: r => some (ls.set k (some (.inr (.inr x))), r)
  | _ => none
def zf_iinc (k : Nat) (d : Int) : zLo → List zV → Option (zLo × List zV) := fun ls st => match ls[k]? with
  | some (some (.inl x)) => some (ls.set k (some (.inl (zadd x d))), st)
  | _ => none
def zf_ii (op : Int → Int → Int) : zLo → List zV → Option (zLo × List zV) := fun ls st => match st with
  | .inl y :: .inl x :: r => some (ls, .inl (op x y) :: r)
  | _ => none
def zf_ll (op : Int → Int → Int) : zLo → List zV → Option (zLo × List zV) := fun ls st => match st with
  | .inr (.inl y) :: .inr (.inl x) :: r => some (ls, .inr (.inl (op x y)) :: r)
  | _ => none
def zf_li (op : Int → Int → Int) : zLo → List zV → Option (zLo × List zV) := fun ls st => match st with
  | .inl y :: .inr (.inl x) :: r => some (ls, .inr (.inl (op x y)) :: r)
  | _ => none
def zf_lcmp : zLo → List zV → Option (zLo × List zV) := fun ls st => match st with
  | .inr (.inl y) :: .inr (.inl x) :: r => some (ls, .inl (zlcmp x y) :: r)
  | _ => none
def zf_i1 (op : Int → Int) : zLo → List zV → Option (zLo × List zV) := fun ls st => match st with
  | .inl x :: r => some (ls, .inl (op x) :: r)
  | _ => none
def zf_l1 (op : Int → Int) : zLo → List zV → Option (zLo × List zV) := fun ls st => match st with
  | .inr (.inl x) :: r => some (ls, .inr (.inl (op x)) :: r)
  | _ => none
def zf_i2l : zLo → List zV → Option (zLo × List zV) := fun ls st => match st with
  | .inl x :: r => some (ls, .inr (.inl x) :: r)
  | _ => none
def zf_l2i : zLo → List zV → Option (zLo × List zV) := fun ls st => match st with
  | .inr (.inl x) :: r => some (ls, .inl (i32 x) :: r)
  | _ => none
def zf_dup : zLo → List zV → Option (zLo × List zV) := fun ls st => match st with
  | .inl x :: r => some (ls, .inl x :: .inl x :: r)
  | .inr (.inr x) :: r => some (ls, .inr (.inr x) :: .inr (.inr x) :: r)
  | _ => none
def zf_pop : zLo → List zV → Option (zLo × List zV) := fun ls st => match st with
  | .inl _ :: r => some (ls, r)
  | .inr (.inr _) :: r => some (ls, r)
  | _ => none
def zf_dup2 : zLo → List zV → Option (zLo × List zV) := fun ls st => match st with
  | .inl x :: .inr (.inr y) :: r => some (ls, .inl x :: .inr (.inr y) :: .inl x :: .inr (.inr y) :: r)
  | _ => none
def zf_dup_x1 : zLo → List zV → Option (zLo × List zV) := fun ls st => match st with
  | .inl x :: .inr (.inr y) :: r => some (ls, .inl x :: .inr (.inr y) :: .inl x :: r)
  | _ => none
/-- division: the divisor is looked at -/
def z_idiv : zI := fun _ _ _ K ls st m => match st with
  | .inl y :: .inl x :: r => if y = 0 then none else K ls (.inl (zdiv x y) :: r) m
  | _ => none
def z_irem : zI := fun _ _ _ K ls st m => match st with
  | .inl y :: .inl x :: r => if y = 0 then none else K ls (.inl (zrem x y) :: r) m
  | _ => none
def z_ldiv : zI := fun _ _ _ K ls st m => match st with
  | .inr (.inl y) :: .inr (.inl x) :: r => if y = 0 then none else K ls (.inr (.inl (zldiv x y)) :: r) m
  | _ => none
def z_lrem : zI := fun _ _ _ K ls st m => match st with
  | .inr (.inl y) :: .inr (.inl x) :: r => if y = 0 then none else K ls (.inr (.inl (zlrem x y)) :: r) m
  | _ => none
/-- branches -/
def z_if (c : ClassFile.Cond) (t : Nat) : zI := fun _ _ J K ls st m => match st with
  | .inl x :: r => (match c with
    | .eq => if x = 0 then J t ls r m else K ls r m
    | .ne => if x = 0 then K ls r m else J t ls r m
    | .lt => if x < 0 then J t ls r m else K ls r m
    | .ge => if x < 0 then K ls r m else J t ls r m
    | .gt => if 0 < x then J t ls r m else K ls r m
    | .le => if 0 < x then K ls r m else J t ls r m)
  | _ => none
def z_icmp (c : ClassFile.Cond) (t : Nat) : zI := fun _ _ J K ls st m => match st with
  | .inl y :: .inl x :: r => (match c with
    | .eq => if x = y then J t ls r m else K ls r m
    | .ne => if x = y then K ls r m else J t ls r m
    | .lt => if x < y then J t ls r m else K ls r m
    | .ge => if x < y then K ls r m else J t ls r m
    | .gt => if y < x then J t ls r m else K ls r m
    | .le => if y < x then K ls r m else J t ls r m)
  | _ => none
def zN {α : Type} (r : Option Nat) (x : α) (y : Nat → α) : α := match r with
  | none => x
  | some a => y a
def z_ifnull (t : Nat) : zI := fun _ _ J K ls st m => match st with
  | .inr (.inr q) :: r => zN q (J t ls r m) (fun _ => K ls r m)
  | _ => none
def z_ifnonnull (t : Nat) : zI := fun _ _ J K ls st m => match st with
  | .inr (.inr q) :: r => zN q (K ls r m) (fun _ => J t ls r m)
  | _ => none
def z_goto (t : Nat) : zI := fun _ _ J _ ls st m => J t ls st m
def z_table (lo : Int) (ts : List Nat) (d : Nat) : zI := fun _ _ J _ ls st m => match st with
  | .inl x :: r => J (zsel x lo ts d) ls r m
  | _ => none
def z_look (ps : List (Int × Nat)) (d : Nat) : zI := fun _ _ J _ ls st m => match st with
  | .inl x :: r => J (zlk x ps d) ls r m
  | _ => none
/-- fields: kind c, place k -/
def z_geti (c k : Nat) : zI := fun _ _ _ K ls st m => match st with
  | .inr (.inr (some a)) :: r => if zT m a c then K ls (.inl (zi m a k) :: r) m else none
  | _ => none
def z_getl (c k : Nat) : zI := fun _ _ _ K ls st m => match st with
  | .inr (.inr (some a)) :: r => if zT m a c then K ls (.inr (.inl (zl m a k)) :: r) m else none
  | _ => none
def z_getr (c k : Nat) : zI := fun _ _ _ K ls st m => match st with
  | .inr (.inr (some a)) :: r => if zT m a c then (zr m a k).bind (fun b => K ls (.inr (.inr (some b)) :: r) m) else none
  | _ => none
def z_puti (c k : Nat) : zI := fun _ _ _ K ls st m => match st with
  | .inl x :: .inr (.inr (some a)) :: r => if zT m a c then K ls r (zwi m a k x) else none
  | _ => none
def z_putz (c k : Nat) : zI := fun _ _ _ K ls st m => match st with
  | .inl x :: .inr (.inr (some a)) :: r => if zT m a c && zb x then K ls r (zwi m a k x) else none
  | _ => none
def z_putl (c k : Nat) : zI := fun _ _ _ K ls st m => match st with
  | .inr (.inl x) :: .inr (.inr (some a)) :: r => if zT m a c then K ls r (zwl m a k x) else none
  | _ => none
def z_putr (c k : Nat) : zI := fun _ _ _ K ls st m => match st with
  | .inr (.inr (some b)) :: .inr (.inr (some a)) :: r => if zT m a c then K ls r (zwr m a k (some b)) else none
  | _ => none
/-- arrays: kinds 8 byte, 9 int, 10 long, 11 .. references -/
def z_iald : zI := fun _ _ _ K ls st m => match st with
  | .inl x :: .inr (.inr (some a)) :: r => if zA m a 9 x then K ls (.inl (zi m a x.toNat) :: r) m else none
  | _ => none
def z_bald : zI := fun _ _ _ K ls st m => match st with
  | .inl x :: .inr (.inr (some a)) :: r => if zA m a 8 x then K ls (.inl (zi m a x.toNat) :: r) m else none
  | _ => none
def z_lald : zI := fun _ _ _ K ls st m => match st with
  | .inl x :: .inr (.inr (some a)) :: r => if zA m a 10 x then K ls (.inr (.inl (zl m a x.toNat)) :: r) m else none
  | _ => none
def z_aald (t : Nat) : zI := fun _ _ _ K ls st m => match st with
  | .inl x :: .inr (.inr (some a)) :: r => if zA m a t x then (zr m a x.toNat).bind (fun b => K ls (.inr (.inr (some b)) :: r) m) else none
  | _ => none
def z_iast : zI := fun _ _ _ K ls st m => match st with
  | .inl v :: .inl x :: .inr (.inr (some a)) :: r => if zA m a 9 x then K ls r (zwi m a x.toNat v) else none
  | _ => none
def z_bast : zI := fun _ _ _ K ls st m => match st with
  | .inl v :: .inl x :: .inr (.inr (some a)) :: r => if zA m a 8 x then K ls r (zwi m a x.toNat (Int.bmod v 256)) else none
  | _ => none
def z_last : zI := fun _ _ _ K ls st m => match st with
  | .inr (.inl v) :: .inl x :: .inr (.inr (some a)) :: r => if zA m a 10 x then K ls r (zwl m a x.toNat v) else none
  | _ => none
/-- an array of kind t takes objects of kind c -/
def z_aast (t c : Nat) : zI := fun _ _ _ K ls st m => match st with
  | .inr (.inr (some v)) :: .inl x :: .inr (.inr (some a)) :: r => if zA m a t x && zT m v c then K ls r (zwr m a x.toNat (some v)) else none
  | _ => none
def z_alen : zI := fun _ _ _ K ls st m => match st with
  | .inr (.inr (some a)) :: r => if zY m a then K ls (.inl ((zk m a).2 : Int) :: r) m else none
  | _ => none
/-- a new object of kind c, of k slots; a new array of kind t -/
def z_new (c k : Nat) : zI := fun _ _ _ K ls st m => if zn m + 1 < zSPEC then K ls (.inr (.inr (some (zn m))) :: st) (zpush m c 0 k) else none
def z_newa (t : Nat) : zI := fun _ _ _ K ls st m => match st with
  | .inl x :: r => if decide (0 ≤ x) && (decide (x < 100000) && decide (zn m + 1 < zSPEC)) then K ls (.inr (.inr (some (zn m))) :: r) (zpush m t x.toNat x.toNat) else none
  | _ => none
/-- calls: of method k at level l with n arguments -/
def zcl (n : Nat) (st : List zV) : Bool := decide (n ≤ st.length) && decide (zw (st.drop n) ≤ 8)
/-- the receiver is of kind c -/
def zrv (m : zM) (c : Nat) : List zV → Bool
  | .inr (.inr (some a)) :: _ => zT m a c
  | _ => false
def zret (t : Nat) (o : Option zO) (K : zLo → List zV → zM → Option zO) (ls : zLo) (r : List zV) : Option zO := match t with
  | 0 => zC0 o (fun m => K ls r m)
  | 1 => zC1 o (fun x m => K ls (.inl x :: r) m)
  | 2 => zC2 o (fun x m => K ls (.inr (.inl x) :: r) m)
  | 3 => zC3 o (fun m => K ls (.inr (.inr none) :: r) m) (fun a m => K ls (.inr (.inr (some a)) :: r) m)
  | _ => zC4 o (fun a m => K ls (.inr (.inr (some a)) :: r) m)
def zlev (md l lv : Nat) (f : Nat → Option zO) : Option zO := match md with
  | 0 => f l
  | 1 => f lv
  | _ => match lv with
    | 0 => none
    | j + 1 => f j
/-- static and special calls; md 0: at level l, 1: at this level, 2: a level less -/
def z_calls (k md l n t : Nat) : zI := fun lv C _ K ls st m => if zcl n st then zlev md l lv (fun j => zret t (C k j (st.take n).reverse m) K ls (st.drop n)) else none
/-- virtual calls: the receiver's kind is looked at -/
def z_callv (c k md l n t : Nat) : zI := fun lv C _ K ls st m => if zcl n st then (if zrv m c (st.take n).reverse then zlev md l lv (fun j => zret t (C k j (st.take n).reverse m) K ls (st.drop n)) else none) else none
/-- Object's constructor -/
def z_obj : zI := fun _ _ _ K ls st m => match st with
  | .inr (.inr (some _)) :: r => if zw r ≤ 8 then K ls r m else none
  | _ => none
/-- java.lang.Math's own -/
def zmax (x y : Int) : Int := if x < y then y else x
def zmin (x y : Int) : Int := if y < x then y else x
def zabs (x : Int) : Int := if 0 ≤ x then x else i32 (0 - x)
def zlmax (x y : Int) : Int := if y < x then x else y
def zlabs (x : Int) : Int := if 0 < x then x else i64 (-x)
def z_mi2 (op : Int → Int → Int) : zI := fun _ _ _ K ls st m => match st with
  | .inl y :: .inl x :: r => if zw r ≤ 8 then K ls (.inl (op x y) :: r) m else none
  | _ => none
def z_mi1 (op : Int → Int) : zI := fun _ _ _ K ls st m => match st with
  | .inl x :: r => if zw r ≤ 8 then K ls (.inl (op x) :: r) m else none
  | _ => none
def z_ml2 (op : Int → Int → Int) : zI := fun _ _ _ K ls st m => match st with
  | .inr (.inl y) :: .inr (.inl x) :: r => if zw r ≤ 8 then K ls (.inr (.inl (op x y)) :: r) m else none
  | _ => none
def z_ml1 (op : Int → Int) : zI := fun _ _ _ K ls st m => match st with
  | .inr (.inl x) :: r => if zw r ≤ 8 then K ls (.inr (.inl (op x)) :: r) m else none
  | _ => none
/-- ends -/
def z_iret : zI := fun _ _ _ _ _ st m => match st with
  | [.inl x] => some (some (.inl x), m)
  | _ => none
def z_zret : zI := fun _ _ _ _ _ st m => match st with
  | [.inl x] => if zb x then some (some (.inl x), m) else none
  | _ => none
def z_lret : zI := fun _ _ _ _ _ st m => match st with
  | [.inr (.inl x)] => some (some (.inr (.inl x)), m)
  | _ => none
def z_aret : zI := fun _ _ _ _ _ st m => match st with
  | [.inr (.inr x)] => some (some (.inr (.inr x)), m)
  | _ => none
def z_vret : zI := fun _ _ _ _ _ st m => match st with
  | [] => some (none, m)
  | _ => none
/-- System.arraycopy over arrays of longs -/
def z_cpyl : zI := fun _ _ _ K ls st m => match st with
  | .inl n :: .inl j :: .inr (.inr (some b)) :: .inl i :: .inr (.inr (some a)) :: r =>
    if (zT m a 10 && zT m b 10) && ((decide (0 ≤ n) && (decide (0 ≤ i) && decide (i + n ≤ ((zk m a).2 : Int)))) && ((decide (0 ≤ j) && decide (j + n ≤ ((zk m b).2 : Int))) && decide (zw r ≤ 8))) then
      K ls r (m.1, m.2.1, m.2.2.1, (fun c k => if c = b ∧ j.toNat ≤ k ∧ k < j.toNat + n.toNat then zl m a (i.toNat + (k - j.toNat)) else zl m c k), m.2.2.2.2)
    else none
  | _ => none
/-- a block from pc on -/
def zBk (lv : Nat) (C : zC) (J : Nat → zK) : Nat → zBlk → zK
  | pc, [] => J pc
  | pc, (_, n, x) :: r => x lv C J (zBk lv C J (pc + n) r)
def zmu (E : zE) (lv : Nat) : Nat := E.2.2.2.2.1 + 2 * lv
section ZR
variable (P : Nat → zE)
/-- words that arguments take -/
def zaw : List zV → Nat
  | [] => 0
  | .inr (.inl _) :: r => zaw r + 2
  | .inl _ :: r => zaw r + 1
  | .inr (.inr _) :: r => zaw r + 1
def zGo (R : Nat → Nat → Nat → zK) : zC := fun k l as m => match (P k).2.2.2.2.2.2 with
  | some g => g as m
  | none => if zaw as ≤ (P k).2.2.1 then R k l 0 (zEnt as (P k).2.2.1) [] m else none
def zRun : Nat → Nat → Nat → Nat → zK
  | 0, _, _, _ => fun _ _ _ => none
  | f + 1, k, lv, pc => fun ls st m => match (P k).2.2.2.2.2.1 pc with
    | some b => zBk lv (zGo P (zRun f)) (fun q => zRun f k lv q) pc b ls st m
    | none => none
end ZR
