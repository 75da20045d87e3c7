/-! The constructors: run once, by the kernel; both worlds begin as the state's picture. -/
def m00 : zM := ((0, 0), (fun _ => (0, 0)), (fun _ _ => 0), (fun _ _ => 0), (fun _ _ => none))
def S00 : zSt := ((0, 0, 1), (fun _ => (false, 0, [])), [], none, bl0, [], none, (159, 0))
def kAr (m : zM) (b t n : Nat) : Bool := decide (b < zn m) && decide (zk m b = (t, n))
def kR (m : zM) (a k b : Nat) : Bool := decide (zr m a k = some b)
def kI (m : zM) (a k : Nat) (x : Int) : Bool := decide (zi m a k = x)
def kL (m : zM) (a k : Nat) (x : Int) : Bool := decide (zl m a k = x)
def kAll (n : Nat) (f : Nat → Bool) : Bool := match n with
  | 0 => true
  | k + 1 => f k && kAll k f
def kLn (m : zM) (a : Nat) : Bool := zT m a 2 && (kR m a 0 (a + 1) && kAr m (a + 1) 9 4)
def kYr (m : zM) (a : Nat) : Bool := zT m a 5 && ((kR m a 0 (a + 1) && (kR m a 1 (a + 2) && kR m a 2 (a + 3))) && (kAr m (a + 1) 9 60 && (kAr m (a + 2) 9 60 && kAr m (a + 3) 9 3)))
def kTr (m : zM) (a : Nat) : Bool := zT m a 4 && (kR m a 0 (a + 1) && kAr m (a + 1) 10 60)
def kLd (m : zM) (a : Nat) : Bool := zT m a 0 && ((kR m a 0 (a + 1) && (kR m a 1 (a + 2) && (kR m a 2 (a + 3) && (kR m a 3 (a + 5) && (kR m a 4 (a + 6) && (kR m a 5 (a + 7) && kR m a 6 (a + 8))))))) &&
  ((kAr m (a + 1) 10 8 && (kAr m (a + 2) 12 8 && (kAr m (a + 5) 10 6 && (kAr m (a + 6) 9 6 && kAr m (a + 7) 10 6)))) && (kYr m (a + 8) && (kLn m (a + 3) && kAll 8 (fun i => kR m (a + 2) i (a + 12 + 2 * i) && kLn m (a + 12 + 2 * i))))))
def kS1 (m : zM) : Bool := zT m 0 6 && ((kR m 0 0 1 && (kR m 0 1 2 && (kR m 0 2 5 && (kR m 0 3 33 && (kR m 0 4 61 && (kR m 0 5 62 && (kR m 0 6 64 && (kR m 0 7 65 && kR m 0 8 66)))))))) &&
  ((kAr m 1 13 4 && (kAr m 61 11 3 && (kAr m 64 9 5 && (kAr m 65 10 501 && kAr m 66 9 9)))) && (kAll 4 (fun t => kR m 1 t (67 + 2 * t) && kTr m (67 + 2 * t)) &&
    ((zT m 2 3 && ((kR m 2 0 3 && kR m 2 1 4) && (kAr m 3 8 900 && kAr m 4 10 24))) && ((zT m 62 1 && (kR m 62 0 63 && kAr m 63 9 60)) && (kLd m 5 && (kLd m 33 && kAll 3 (fun i => kR m 61 i (75 + 28 * i) && kLd m (75 + 28 * i)))))))))
def kV1 (m : zM) : Bool := (kI m 0 14 0 && (kL m 0 15 0 && (kL m 0 16 1 && (kI m 0 13 0 && (kI m 0 10 0 && kI m 0 9 0))))) && (kAll 4 (fun t => kI m (67 + 2 * t) 1 0 && (kI m (67 + 2 * t) 2 0 && kI m (67 + 2 * t) 3 0)) &&
  ((kI m 2 2 0 && kAll 24 (fun i => kL m 4 i (zKey.getD i 0))) && (((kI m 5 8 0 && (kI m 5 9 0 && kI m 5 10 0)) && (kI m 5 7 2 && (kI m 5 11 0 && (kAll 8 (fun i => zb (zi m (17 + 2 * i) 3)) && kI m 13 3 0)))) && kAll 8 (fun i => zb (zi m (45 + 2 * i) 3)))))
def kRun1 (o : Option zO) : Bool := match o with
  | some (none, m) => (decide (zn m = 159) && decide (zs m ≤ 100000)) && (kS1 (qTr m 159) && kV1 (qTr m 159))
  | _ => false
def kRun2 (o : Option zO) : Bool := match o with
  | some (none, m) => (decide (zn m = 17) && decide (zs m ≤ 100000)) && ((zT (qTr m 17) 0 7 && (
      ((kR m 0 4 1 && (kR m 0 5 2 && (kR m 0 6 3 && kR m 0 7 4))) && (kR m 0 20 5 && (kR m 0 21 6 && (kR m 0 22 7 && kR m 0 26 8)))) && ((kR m 0 28 9 && (kR m 0 29 10 && (kR m 0 32 11 && kR m 0 33 12))) && (kR m 0 34 13 && (kR m 0 35 14 && (kR m 0 38 15 && kR m 0 40 16)))))) &&
      ((((kAr (qTr m 17) 1 9 4 && (kAr (qTr m 17) 2 9 4 && (kAr (qTr m 17) 3 10 240 && kAr (qTr m 17) 4 8 900))) && (kAr (qTr m 17) 5 9 2445 && (kAr (qTr m 17) 6 9 217 && (kAr (qTr m 17) 7 10 70 && kAr (qTr m 17) 8 9 8)))) && ((kAr (qTr m 17) 9 9 8 && (kAr (qTr m 17) 10 9 8 && (kAr (qTr m 17) 11 9 54 && kAr (qTr m 17) 12 9 81))) && (kAr (qTr m 17) 13 9 4509 && (kAr (qTr m 17) 14 9 8 && (kAr (qTr m 17) 15 9 45 && kAr (qTr m 17) 16 9 5))))) &&
      (((kI m 0 0 0 && (kL m 0 2 0 && (kL m 0 3 1 && kI m 0 8 0))) && (kI m 0 10 (-1) && (kI m 0 11 (-1) && (kI m 0 23 0 && kI m 0 41 0)))) && (kAll 4 (fun t => kI m 1 t 0 && kI m 2 t (-1)) && ((kI m 5 0 0 && (kI m 5 1 0 && kI m 5 2 0)) && (kI m 5 3 2 && (kI m 5 4 0 && kI m 5 217 0)))))))
  | _ => false
section CTOR
variable {m : zM} {a : Nat}
theorem kAll_of : ∀ {n : Nat} {f : Nat → Bool}, kAll n f = true → ∀ i, i < n → f i = true
  | 0, f, _, i, hi => absurd hi (Nat.not_lt_zero i)
  | n + 1, f, h, i, hi => by
    unfold kAll at h
    rw [Bool.and_eq_true] at h
    by_cases e : i = n
    · rw [e]; exact h.1
    · exact kAll_of h.2 i (by omega)
theorem kAr_of {b t n : Nat} (h : kAr m b t n = true) : ArS m b t n := by
  unfold kAr at h
  rw [Bool.and_eq_true, decide_eq_true_eq, decide_eq_true_eq] at h
  exact h
theorem kR_of {k b : Nat} (h : kR m a k b = true) : zr m a k = some b := of_decide_eq_true h
theorem kI_of {k : Nat} {x : Int} (h : kI m a k x = true) : zi m a k = x := of_decide_eq_true h
theorem kL_of {k : Nat} {x : Int} (h : kL m a k x = true) : zl m a k = x := of_decide_eq_true h
theorem kLn_of (h : kLn m a = true) : LnS m a := by
  unfold kLn at h
  simp only [Bool.and_eq_true] at h
  obtain ⟨h1, h2, h3⟩ := h
  have h3 := kAr_of h3
  exact ⟨h1, kR_of h2, h3.1, h3.2⟩
theorem kYr_of (h : kYr m a = true) : YrS m a := by
  unfold kYr at h
  simp only [Bool.and_eq_true] at h
  obtain ⟨h1, ⟨r0, r1, r2⟩, k1, k2, k3⟩ := h
  exact ⟨h1, ⟨kR_of r0, kR_of r1, kR_of r2⟩, kAr_of k1, kAr_of k2, kAr_of k3⟩
theorem kTr_of (h : kTr m a = true) : TrS m a := by
  unfold kTr at h
  simp only [Bool.and_eq_true] at h
  obtain ⟨h1, h2, h3⟩ := h
  exact ⟨h1, kR_of h2, kAr_of h3⟩
theorem kLd_of (h : kLd m a = true) : LdS m a := by
  unfold kLd at h
  simp only [Bool.and_eq_true] at h
  obtain ⟨h1, ⟨r0, r1, r2, r3, r4, r5, r6⟩, ⟨k1, k2, k5, k6, k7⟩, hy, hn, hl⟩ := h
  refine ⟨h1, ⟨kR_of r0, kR_of r1, kR_of r2, kR_of r3, kR_of r4, kR_of r5, kR_of r6⟩, ⟨kAr_of k1, kAr_of k2, kAr_of k5, kAr_of k6, kAr_of k7⟩, kYr_of hy, kLn_of hn, fun i hi => ?_⟩
  have q := kAll_of hl i hi
  rw [Bool.and_eq_true] at q
  exact ⟨kR_of q.1, kLn_of q.2⟩
theorem kS1_of (h : kS1 m = true) : S1 m := by
  unfold kS1 at h
  simp only [Bool.and_eq_true] at h
  obtain ⟨t0, ⟨r0, r1, r2, r3, r4, r5, r6, r7, r8⟩, ⟨k1, k61, k64, k65, k66⟩, tt, ⟨p1, ⟨p2, p3⟩, p4, p5⟩, ⟨f1, f2, f3⟩, l5, l33, lm⟩ := h
  refine ⟨t0, ⟨kR_of r0, kR_of r1, kR_of r2, kR_of r3, kR_of r4, kR_of r5, kR_of r6, kR_of r7, kR_of r8⟩, ⟨kAr_of k1, kAr_of k61, kAr_of k64, kAr_of k65, kAr_of k66⟩, fun t ht => ?_, ⟨p1, ⟨kR_of p2, kR_of p3⟩, kAr_of p4, kAr_of p5⟩, ⟨f1, kR_of f2, kAr_of f3⟩, kLd_of l5, kLd_of l33, fun i hi => ?_⟩
  · have q := kAll_of tt t ht
    rw [Bool.and_eq_true] at q
    exact ⟨kR_of q.1, kTr_of q.2⟩
  · have q := kAll_of lm i hi
    rw [Bool.and_eq_true] at q
    exact ⟨kR_of q.1, kLd_of q.2⟩
theorem kV1_of (h1 : kS1 m = true) (h : kV1 m = true) (hn : m.1 = (159, 0)) : R1 S00 m := by
  unfold kV1 at h
  simp only [Bool.and_eq_true] at h
  obtain ⟨⟨a1, a2, a3, a4, a5, a6⟩, tt, ⟨p1, p2⟩, ⟨⟨l1, l2, l3⟩, l4, l5, l6, l7⟩, df⟩ := h
  refine ⟨kS1_of h1, ⟨kI_of a1, kL_of a2, kL_of a3, kI_of a4, kI_of a5, fun f hf => (nomatch hf), kI_of a6, hn⟩, fun t ht => ?_, ⟨kI_of p1, Nat.zero_le _, fun i hi => absurd hi (Nat.not_lt_zero i), fun i hi => kL_of (kAll_of p2 i hi)⟩,
    ⟨⟨⟨kI_of l1, Nat.zero_le _, fun i hi => absurd hi (Nat.not_lt_zero i)⟩, ⟨kI_of l2, Nat.zero_le _, fun i hi => absurd hi (Nat.not_lt_zero i)⟩, ⟨kI_of l3, Nat.zero_le _, fun i hi => absurd hi (Nat.not_lt_zero i)⟩, kI_of l4, kI_of l5, fun i hi => kAll_of l6 i hi⟩, kI_of l7, fun t ht => (nomatch ht)⟩,
    ⟨Nat.zero_le _, fun i hi => absurd hi (Nat.not_lt_zero i)⟩, ⟨fun p hp => (nomatch hp), fun i hi => kAll_of df i hi⟩⟩
  have q := kAll_of tt t ht
  simp only [Bool.and_eq_true] at q
  exact ⟨kI_of q.1, kI_of q.2.1, kI_of q.2.2, Nat.zero_le _, ⟨Int.le_refl _, (show (0 : Int) < 4 from by decide)⟩, fun i hi => absurd hi (Nat.not_lt_zero i)⟩
theorem kRun1_of {o : Option zO} (h : kRun1 o = true) : ∃ m, o = some (none, m) ∧ zn m = 159 ∧ zs m ≤ 100000 ∧ R1 S00 (qTr m 159) := by
  unfold kRun1 at h
  split at h
  · rename_i m
    simp only [Bool.and_eq_true, decide_eq_true_eq] at h
    exact ⟨m, rfl, h.1.1, h.1.2, kV1_of h.2.1 h.2.2 rfl⟩
  · cases h
theorem kRun2_of {o : Option zO} (h : kRun2 o = true) : ∃ m, o = some (none, m) ∧ zn m = 17 ∧ zs m ≤ 100000 ∧ R2 S00 (qTr m 17) := by
  unfold kRun2 at h
  split at h
  · rename_i m
    simp only [Bool.and_eq_true, decide_eq_true_eq] at h
    obtain ⟨⟨n1, n2⟩, ⟨t0, ⟨⟨r4, r5, r6, r7⟩, r20, r21, r22, r26⟩, ⟨r28, r29, r32, r33⟩, r34, r35, r38, r40⟩, ⟨⟨⟨k1, k2, k3, k4⟩, k5, k6, k7, k8⟩, ⟨k9, k10, k11, k12⟩, k13, k14, k15, k16⟩, ⟨⟨a1, a2, a3, a4⟩, a5, a6, a7, a8⟩, tt, ⟨l1, l2, l3⟩, l4, l5, l6⟩ := h
    refine ⟨m, rfl, n1, n2, ⟨t0, ⟨⟨kR_of r4, kR_of r5, kR_of r6, kR_of r7⟩, ⟨kR_of r20, kR_of r21, kR_of r22, kR_of r26⟩, ⟨kR_of r28, kR_of r29, kR_of r32, kR_of r33⟩, kR_of r34, kR_of r35, kR_of r38, kR_of r40⟩, ⟨kAr_of k1, kAr_of k2, kAr_of k3, kAr_of k4⟩, ⟨kAr_of k5, kAr_of k6, kAr_of k7, kAr_of k8⟩, ⟨kAr_of k9, kAr_of k10, kAr_of k11, kAr_of k12⟩, kAr_of k13, kAr_of k14, kAr_of k15, kAr_of k16⟩,
      ⟨kI_of a1, kL_of a2, kL_of a3, kI_of a4, kI_of a5, kI_of a6, kI_of a7, kI_of a8, rfl⟩, fun t ht => ?_, ⟨Nat.zero_le _, fun i hi => absurd hi (Nat.not_lt_zero i)⟩,
      ⟨⟨kI_of l1, Nat.zero_le _, fun i hi => absurd hi (Nat.not_lt_zero i)⟩, ⟨kI_of l2, Nat.zero_le _, fun i hi => absurd hi (Nat.not_lt_zero i)⟩, ⟨kI_of l3, Nat.zero_le _, fun i hi => absurd hi (Nat.not_lt_zero i)⟩, ⟨kI_of l4, kI_of l5⟩, kI_of l6, fun t ht => (nomatch ht)⟩, ⟨Nat.zero_le _, fun i hi => absurd hi (Nat.not_lt_zero i)⟩, fun p hp => (nomatch hp)⟩
    have q := kAll_of tt t ht
    simp only [Bool.and_eq_true] at q
    exact ⟨kI_of q.1, kI_of q.2, Nat.zero_le _, ⟨Int.le_refl _, (show (0 : Int) < 4 from by decide)⟩, fun e => absurd (show false = true from e) (by decide)⟩
  · cases h
theorem zF_run {f k v : Nat} {as : List zV} {m : zM} {o : zO} (h : zGo zP (zRun zP f) k v as m = some o) : zF zP k v as m = some o := zGo_le (fun k l q => zX_of zPsh_ok) _ _ _ _ _ h
end CTOR
