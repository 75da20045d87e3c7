/-! Ways from LINE to LINE, in both. -/
section ROUTES
variable {v : Nat} {S : zSt} {m m' : zM}
theorem zand_comm (x y : Int) : zand x y = zand y x := by
  refine zib_ext (r32_v _) (r32_v _) (fun i _ => ?_)
  rw [zib_and, zib_and, Bool.and_comm]
theorem zabs1 {x y : Int} : zabs (zsub x y) = 1 ↔ zabs (zsub y x) = 1 := by
  have key : ∀ x y : Int, zabs (zsub x y) = 1 → zabs (zsub y x) = 1 := fun x y h => by
    have hr : r32 (zsub x y) := by
      unfold zsub i32 r32
      have h1 := Int.bmod_lt (x := x - y) (m := 4294967296) (by decide)
      have h2 := Int.le_bmod (x := x - y) (m := 4294967296) (by decide)
      omega
    have hs : zsub x y = 1 ∨ zsub x y = -1 := by
      unfold zabs at h
      split at h
      · exact Or.inl h
      · unfold i32 at h
        unfold r32 at hr
        by_cases e : zsub x y = -2147483648
        · rw [e] at h; exact absurd h (by decide)
        · rw [Int.bmod_eq_of_le (by omega) (by omega)] at h; exact Or.inr (by omega)
    have e : zsub y x = i32 (0 - zsub x y) := by
      unfold zsub i32
      rw [Int.sub_bmod_bmod]
      congr 1; omega
    rw [e]
    rcases hs with h | h <;> rw [h] <;> decide
  exact ⟨key x y, key y x⟩
theorem ljoin_sym (L : zLd) (i j : Nat) : ljoin L i j = ljoin L j i := by
  unfold ljoin
  rw [zand_comm (wsetE (L.2.1.getD i ln0).2.2 0), show decide (i = j) = decide (j = i) from decide_eq_decide.mpr ⟨Eq.symm, Eq.symm⟩, show decide (zabs (zsub (L.2.1.getD i ln0).1 (L.2.1.getD j ln0).1) = 1) = decide (zabs (zsub (L.2.1.getD j ln0).1 (L.2.1.getD i ln0).1) = 1) from decide_eq_decide.mpr zabs1]
  cases (L.2.1.getD i ln0).2.1 <;> cases (L.2.1.getD j ln0).2.1 <;> rfl
/-- sets of the class, bit by bit -/
theorem zib_nbO (L : zLd) (s : Int) (h8 : L.2.1.length ≤ 8) : ∀ (n i : Nat) (acc : Int) (l : Nat), i + n ≤ 8 → l < L.2.1.length → (zib (nbO L s n i acc) l = true ↔ (zib acc l = true ∨ ∃ k, i ≤ k ∧ k < i + n ∧ zib s k = true ∧ ljoin L k l = true))
  | 0, i, acc, l, _, _ => by
    show zib acc l = true ↔ _
    constructor
    · exact Or.inl
    · rintro (h | ⟨k, h1, h2, _⟩)
      · exact h
      · omega
  | n + 1, i, acc, l, hi, hl => by
    unfold nbO
    rw [zib_nbO L s h8 n (i + 1) _ l (by omega) hl, zib_setF _ _ _ _ _ (by omega) (by omega)]
    have e1 : decide (0 ≤ l) = true := decide_eq_true (Nat.zero_le l)
    have e2 : decide (l < 0 + L.2.1.length) = true := decide_eq_true (by omega)
    rw [e1, e2, Bool.true_and, Bool.true_and, Bool.or_eq_true, Bool.and_eq_true, bitI_eq _ (by omega)]
    constructor
    · rintro ((h | ⟨h1, h2⟩) | ⟨k, h1, h2, h3, h4⟩)
      · exact Or.inl h
      · exact Or.inr ⟨i, by omega, by omega, h1, h2⟩
      · exact Or.inr ⟨k, by omega, by omega, h3, h4⟩
    · rintro (h | ⟨k, h1, h2, h3, h4⟩)
      · exact Or.inl (Or.inl h)
      · by_cases e : k = i
        · rw [e] at h3 h4; exact Or.inl (Or.inr ⟨h3, h4⟩)
        · exact Or.inr ⟨k, by omega, by omega, h3, h4⟩
def lball (L : zLd) (i t l : Nat) : Bool := bal (ljoin L) L.2.1.length i t l
theorem zib_lnb {L : zLd} (h8 : L.2.1.length ≤ 8) {s : Int} {i t : Nat} (hs : ∀ l, l < L.2.1.length → (zib s l = true ↔ lball L i t l = true)) : ∀ l, l < L.2.1.length → (zib (lnb L s) l = true ↔ lball L i (t + 1) l = true) := by
  intro l hl
  unfold lnb lball
  rw [zib_nbO L s h8 _ _ _ _ (by omega) hl, bal_s]
  constructor
  · rintro (h | ⟨k, h1, h2, h3, h4⟩)
    · exact Or.inl ((hs l hl).mp h)
    · exact Or.inr ⟨k, by omega, (hs k (by omega)).mp h3, h4⟩
  · rintro (h | ⟨k, h1, h2, h3⟩)
    · exact Or.inl ((hs l hl).mpr h)
    · exact Or.inr ⟨k, by omega, by omega, (hs k h1).mpr h2, h3⟩
theorem zib_one0 {i l : Nat} (hi : i < 32) (hl : l < 32) (L : zLd) : zib (zshl 1 (i : Int)) l = true ↔ lball L i 0 l = true := by
  rw [zib_shl1 hi hl]
  exact Iff.rfl
theorem zib_itr {L : zLd} (h8 : L.2.1.length ≤ 8) {i : Nat} : ∀ (n t : Nat) (s : Int), (∀ l, l < L.2.1.length → (zib s l = true ↔ lball L i t l = true)) → ∀ l, l < L.2.1.length → (zib (itr (lnb L) n s) l = true ↔ lball L i (t + n) l = true)
  | 0, t, s, h, l, hl => h l hl
  | n + 1, t, s, h, l, hl => by
    show zib (itr (lnb L) n (lnb L s)) l = true ↔ _
    rw [zib_itr h8 n (t + 1) _ (zib_lnb h8 h) l hl, show t + 1 + n = t + (n + 1) by omega]
theorem goF_dis {L : zLd} (h8 : L.2.1.length ≤ 8) {i to : Nat} (hto : to < L.2.1.length) : ∀ (n t : Nat) (s : Int), (∀ l, l < L.2.1.length → (zib s l = true ↔ lball L i t l = true)) → goF L to n t s = dis (ljoin L) L.2.1.length i to n t
  | 0, t, s, h => rfl
  | n + 1, t, s, h => by
    unfold goF dis
    rw [bitI_eq _ (by omega)]
    by_cases e : zib s to = true
    · rw [if_pos e, if_pos (show bal (ljoin L) L.2.1.length i t to = true from (h to hto).mp e)]
    · rw [if_neg e, if_neg (show ¬ bal (ljoin L) L.2.1.length i t to = true from fun q => e ((h to hto).mpr q)), goF_dis h8 hto n (t + 1) _ (zib_lnb h8 h)]
def ldis (L : zLd) (i l : Nat) : Int := dis (ljoin L) L.2.1.length i l L.2.1.length 0
theorem lgo_dis {L : zLd} (h8 : L.2.1.length ≤ 8) {i to : Nat} (hi : i < L.2.1.length) (hto : to < L.2.1.length) : lgo L i to = ldis L i to := by
  unfold lgo ldis
  exact goF_dis h8 hto _ 0 _ (fun l hl => zib_one0 (by omega) (by omega) L)
theorem ldis_of {L : zLd} {i l : Nat} (hi : i < L.2.1.length) (hl : l < L.2.1.length) : (ldis L i l = -1 ∧ ∀ s, ¬ lball L i s l = true) ∨ (∃ d, ldis L i l = ((d : Nat) : Int) ∧ d < L.2.1.length ∧ lball L i d l = true ∧ ∀ s, s < d → ¬ lball L i s l = true) := by
  rcases dis_of (J := ljoin L) (n := L.2.1.length) (i := i) (l := l) L.2.1.length 0 with ⟨h1, h2⟩ | ⟨d, h1, h2, h3, h4, h5⟩
  · refine Or.inl ⟨h1, fun s q => h2 (L.2.1.length - 1) (by omega) (by omega) (bal_last hi hl q)⟩
  · exact Or.inr ⟨d, h1, by omega, h4, fun s q => h5 s (by omega) q⟩
theorem ldis_sym {L : zLd} {i l : Nat} (hi : i < L.2.1.length) (hl : l < L.2.1.length) : ldis L i l = ldis L l i := by
  have sy : ∀ a b t, a < L.2.1.length → b < L.2.1.length → lball L a t b = true → lball L b t a = true := fun a b t ha hb h => bal_sym (fun x y _ _ => ljoin_sym L x y) t a b ha hb h
  rcases ldis_of hi hl with ⟨h1, h2⟩ | ⟨d, h1, h2, h3, h4⟩
  · rcases ldis_of hl hi with ⟨g1, g2⟩ | ⟨e, g1, g2, g3, g4⟩
    · rw [h1, g1]
    · exact absurd (sy l i e hl hi g3) (h2 e)
  · rcases ldis_of hl hi with ⟨g1, g2⟩ | ⟨e, g1, g2, g3, g4⟩
    · exact absurd (sy i l d hi hl h3) (g2 d)
    · have q1 : ¬ d < e := fun q => g4 d q (sy i l d hi hl h3)
      have q2 : ¬ e < d := fun q => h4 e q (sy l i e hl hi g3)
      rw [h1, g1, show d = e by omega]
/-- the line before on the way -/
theorem ldis_pred {L : zLd} {k l d : Nat} (hk : k < L.2.1.length) (hl : l < L.2.1.length) (h : ldis L k l = ((d + 1 : Nat) : Int)) : ∃ i, i < L.2.1.length ∧ ljoin L l i = true ∧ ldis L k i = ((d : Nat) : Int) := by
  rcases ldis_of hk hl with ⟨h1, h2⟩ | ⟨e, h1, h2, h3, h4⟩
  · rw [h1] at h; omega
  · have he : e = d + 1 := by rw [h1] at h; omega
    subst he
    rcases bal_s.mp h3 with q | ⟨i, hi, q1, q2⟩
    · exact absurd q (h4 d (by omega))
    · refine ⟨i, hi, by rw [ljoin_sym]; exact q2, ?_⟩
      rcases ldis_of hk hi with ⟨g1, g2⟩ | ⟨e, g1, g2, g3, g4⟩
      · exact absurd q1 (g2 d)
      · have w1 : ¬ d < e := fun w => g4 d w q1
        have w2 : ¬ e < d := fun w => h4 (e + 1) (by omega) (bal_s.mpr (Or.inr ⟨i, hi, g3, q2⟩))
        rw [g1, show e = d by omega]
def o_joined (S : zSt) (x y : Int) : Int × zSt := if inB x (gL S).2.1.length = true then (if inB y (gL S).2.1.length = true then (if x = y then oNo S 9 else oYes S (b01 (ljoin (gL S) x.toNat y.toNat))) else oNo S 2) else oNo S 2
def o_route (S : zSt) (x y : Int) : Int × zSt := if inB x (gL S).2.1.length = true then (if inB y (gL S).2.1.length = true then (if ldis (gL S) x.toNat y.toNat = -1 then oNo S 8 else oYes S (ldis (gL S) x.toNat y.toNat)) else oNo S 2) else oNo S 2
def rfF (L : zLd) (i to : Nat) : Int := firstK (fun k => ljoin L i k && decide (ldis L to k = ldis L to i - 1)) L.2.1.length 0
def o_routeFirst (S : zSt) (x y : Int) : Int × zSt := if inB x (gL S).2.1.length = true then (if inB y (gL S).2.1.length = true then (if ldis (gL S) x.toNat y.toNat = -1 then oNo S 8 else if x = y then oNo S 9 else oYes S (rfF (gL S) x.toNat y.toNat)) else oNo S 2) else oNo S 2
def o_reach (S : zSt) (x : Int) : Int × zSt := if inB x (gL S).2.1.length = true then oYes S (setF (fun l => !decide (ldis (gL S) x.toNat l = -1)) (gL S).2.1.length 0 0) else oNo S 2
theorem p_joined (hR : R1 S m) (x y : Int) : Ex1 (zF zP 209 v [(.inr (.inr (some 0))), .inl x, .inl y] m) (o_joined S x y) := by
  have hS := hR.1
  obtain ⟨hl, hv⟩ := hR.ll
  unfold o_joined
  rw [f_X10_joined, if_pos hS.1, hR.r2, obind, if_pos hR.t5, s_hasLine hR.t5 hv.2.1.1, zC1_s]
  by_cases h : inB x (gL S).2.1.length = true
  · rw [if_neg (by rw [h]; decide), if_pos h, if_pos hS.1, hR.r2, obind, if_pos hR.t5, s_hasLine hR.t5 hv.2.1.1, zC1_s]
    by_cases g : inB y (gL S).2.1.length = true
    · obtain ⟨i, rfl, hi⟩ := inB_nat h
      obtain ⟨j, rfl, hj⟩ := inB_nat g
      rw [if_neg (by rw [g]; decide), if_pos g, j_X10_joined_28]
      by_cases e : (i : Int) = (j : Int)
      · rw [if_pos e, if_pos e, if_pos hS.1]; exact x1_noC hR
      · rw [if_neg e, if_neg e, j_X10_joined_40, if_pos hS.1, hR.r2, obind, if_pos hR.t5, s_areJoined hl hv hi hj, zC1_s, Int.toNat_natCast, Int.toNat_natCast]
        by_cases q : ljoin (gL S) i j = true
        · rw [if_neg (by rw [q]; decide), j_X10_joined_58, if_pos hS.1, q]; exact x1_yesC hR
        · rw [if_pos (b01_ne.mpr (bool_f q)), j_X10_joined_57, j_X10_joined_58, if_pos hS.1, bool_f q]; exact x1_yesC hR
    · rw [if_pos (b01_ne.mpr (bool_f g)), if_neg g, j_X10_joined_22, if_pos hS.1]; exact x1_noC hR
  · rw [if_pos (b01_ne.mpr (bool_f h)), if_neg h, j_X10_joined_22, if_pos hS.1]; exact x1_noC hR
theorem p_route (hR : R1 S m) (x y : Int) : Ex1 (zF zP 210 v [(.inr (.inr (some 0))), .inl x, .inl y] m) (o_route S x y) := by
  have hS := hR.1
  obtain ⟨hl, hv⟩ := hR.ll
  have h8 := hR.l8
  unfold o_route
  rw [f_X10_route, if_pos hS.1, hR.r2, obind, if_pos hR.t5, s_hasLine hR.t5 hv.2.1.1, zC1_s]
  by_cases h : inB x (gL S).2.1.length = true
  · rw [if_neg (by rw [h]; decide), if_pos h, if_pos hS.1, hR.r2, obind, if_pos hR.t5, s_hasLine hR.t5 hv.2.1.1, zC1_s]
    by_cases g : inB y (gL S).2.1.length = true
    · obtain ⟨i, rfl, hi⟩ := inB_nat h
      obtain ⟨j, rfl, hj⟩ := inB_nat g
      rw [if_neg (by rw [g]; decide), if_pos g, j_X10_route_28, if_pos hS.1, hR.r2, obind, if_pos hR.t5, s_goings hl hv, zC1_s, Int.toNat_natCast, Int.toNat_natCast, lgo_dis h8 hi hj]
      by_cases e : ldis (gL S) i j = -1
      · rw [if_pos e, if_pos e, if_pos hS.1, c_no hS, zC1_s, j_X10_route_57]; exact x1_no hR
      · rw [if_neg e, if_neg e, j_X10_route_52, if_pos hS.1, c_yes hS, zC1_s, j_X10_route_57]; exact x1_yes hR
    · rw [if_pos (b01_ne.mpr (bool_f g)), if_neg g, j_X10_route_22, if_pos hS.1]; exact x1_noC hR
  · rw [if_pos (b01_ne.mpr (bool_f h)), if_neg h, j_X10_route_22, if_pos hS.1]; exact x1_noC hR
theorem ldis_self {L : zLd} {i : Nat} (hi : i < L.2.1.length) : ldis L i i = 0 := by
  rcases ldis_of hi hi with ⟨h1, h2⟩ | ⟨d, h1, h2, h3, h4⟩
  · exact absurd (bal_0.mpr rfl) (h2 0)
  · have : ¬ 0 < d := fun q => h4 0 q (bal_0.mpr rfl)
    rw [h1]; omega
theorem ldis_0 {L : zLd} {i l : Nat} (hi : i < L.2.1.length) (hl : l < L.2.1.length) (h : ldis L i l = 0) : i = l := by
  rcases ldis_of hi hl with ⟨h1, h2⟩ | ⟨d, h1, h2, h3, h4⟩
  · rw [h1] at h; omega
  · have hd : d = 0 := by rw [h1] at h; omega
    subst hd
    exact (bal_0.mp h3).symm
theorem ldis_ge {L : zLd} {i l : Nat} (hi : i < L.2.1.length) (hl : l < L.2.1.length) (h : ¬ ldis L i l = -1) : ∃ d : Nat, ldis L i l = (d : Int) ∧ d < L.2.1.length := by
  rcases ldis_of hi hl with ⟨h1, h2⟩ | ⟨d, h1, h2, h3, h4⟩
  · exact absurd h1 h
  · exact ⟨d, h1, h2⟩
theorem firstK_congr {f g : Nat → Bool} : ∀ (n k : Nat), (∀ i, k ≤ i → i < k + n → f i = g i) → firstK f n k = firstK g n k
  | 0, k, _ => rfl
  | n + 1, k, h => by
    unfold firstK
    rw [h k (Nat.le_refl _) (by omega), firstK_congr n (k + 1) (fun i h1 h2 => h i (by omega) (by omega))]
theorem p_routeFirst (hR : R1 S m) (x y : Int) : Ex1 (zF zP 211 v [(.inr (.inr (some 0))), .inl x, .inl y] m) (o_routeFirst S x y) := by
  have hS := hR.1
  obtain ⟨hl, hv⟩ := hR.ll
  have h8 := hR.l8
  unfold o_routeFirst
  rw [f_X10_routeFirst, if_pos hS.1, hR.r2, obind, if_pos hR.t5, s_hasLine hR.t5 hv.2.1.1, zC1_s]
  by_cases h : inB x (gL S).2.1.length = true
  · rw [if_neg (by rw [h]; decide), if_pos h, if_pos hS.1, hR.r2, obind, if_pos hR.t5, s_hasLine hR.t5 hv.2.1.1, zC1_s]
    by_cases g : inB y (gL S).2.1.length = true
    · obtain ⟨i, rfl, hi⟩ := inB_nat h
      obtain ⟨j, rfl, hj⟩ := inB_nat g
      rw [if_neg (by rw [g]; decide), if_pos g, j_X10_routeFirst_28, if_pos hS.1, hR.r2, obind, if_pos hR.t5, s_goings hl hv, zC1_s, Int.toNat_natCast, Int.toNat_natCast, lgo_dis h8 hi hj]
      by_cases e : ldis (gL S) i j = -1
      · rw [if_pos e, if_pos e, if_pos hS.1]; exact x1_noC hR
      · rw [if_neg e, if_neg e, j_X10_routeFirst_50]
        by_cases q : (i : Int) = (j : Int)
        · have hij : i = j := by omega
          subst hij
          rw [if_pos (ldis_self hi), if_pos rfl, if_pos hS.1, c_no hS, zC1_s, j_X10_routeFirst_77]; exact x1_no hR
        · rw [if_neg (fun w => q (by rw [ldis_0 hi hj w])), if_neg q, j_X10_routeFirst_63, if_pos hS.1, hR.r2, obind, if_pos hR.t5, s_firstOfRoute hl hv hi, zC1_s, if_pos hS.1, c_yes hS, zC1_s, j_X10_routeFirst_77]
          obtain ⟨d, hd, hd8⟩ := ldis_ge hi hj e
          have e3 : lfirst (gL S) i j (ldis (gL S) i j) = rfF (gL S) i j := by
            unfold lfirst rfF
            refine firstK_congr _ _ (fun k _ hk => ?_)
            rw [lgo_dis h8 (by omega) hj, ldis_sym (i := k) (by omega) hj, ldis_sym hj hi, hd, show zsub ((d : Nat) : Int) 1 = (d : Int) - 1 from zsub_of (by unfold r32; omega)]
          rw [e3]; exact x1_yes hR
    · rw [if_pos (b01_ne.mpr (bool_f g)), if_neg g, j_X10_routeFirst_22, if_pos hS.1]; exact x1_noC hR
  · rw [if_pos (b01_ne.mpr (bool_f h)), if_neg h, j_X10_routeFirst_22, if_pos hS.1]; exact x1_noC hR
theorem r32_nbO (L : zLd) (s : Int) : ∀ (n i : Nat) (acc : Int), r32 acc → r32 (nbO L s n i acc)
  | 0, i, acc, h => h
  | n + 1, i, acc, h => by
    unfold nbO
    exact r32_nbO L s n (i + 1) _ (r32_setF _ _ _ _ h)
theorem zib_hi (L : zLd) (s : Int) (h8 : L.2.1.length ≤ 8) : ∀ (n i : Nat) (acc : Int) (l : Nat), L.2.1.length ≤ l → l < 32 → zib (nbO L s n i acc) l = zib acc l
  | 0, i, acc, l, _, _ => rfl
  | n + 1, i, acc, l, hl, h32 => by
    unfold nbO
    rw [zib_hi L s h8 n (i + 1) _ l hl h32, zib_setF _ _ _ _ _ (by omega) h32, decide_eq_false (show ¬ l < 0 + L.2.1.length by omega), Bool.false_and, Bool.and_false, Bool.or_false]
theorem zib_itr_hi (L : zLd) (h8 : L.2.1.length ≤ 8) : ∀ (n : Nat) (s : Int) (l : Nat), L.2.1.length ≤ l → l < 32 → zib (itr (lnb L) n s) l = zib s l
  | 0, s, l, _, _ => rfl
  | n + 1, s, l, hl, h32 => by
    show zib (itr (lnb L) n (lnb L s)) l = _
    rw [zib_itr_hi L h8 n _ l hl h32]
    exact zib_hi L s h8 _ _ _ l hl h32
theorem r32_itr (L : zLd) : ∀ (n : Nat) (s : Int), r32 s → r32 (itr (lnb L) n s)
  | 0, s, h => h
  | n + 1, s, h => r32_itr L n _ (r32_nbO L s _ _ _ h)
theorem reached_set {L : zLd} (h8 : L.2.1.length ≤ 8) {i : Nat} (hi : i < L.2.1.length) : itr (lnb L) L.2.1.length (zshl 1 (i : Int)) = setF (fun l => !decide (ldis L i l = -1)) L.2.1.length 0 0 := by
  refine zib_ext (r32_itr L _ _ (r32_v _)) (r32_setF _ _ _ _ r32_0) (fun l hl => ?_)
  rw [zib_setF _ _ _ _ _ (by omega) hl, show (0 : Int) = ((0 : Nat) : Int) from rfl, zib_nat 0 l (by decide), Nat.zero_testBit, Bool.false_or]
  by_cases g : l < L.2.1.length
  · rw [decide_eq_true (Nat.zero_le l), decide_eq_true (show l < 0 + L.2.1.length by omega), Bool.true_and, Bool.true_and]
    have key := zib_itr h8 (i := i) L.2.1.length 0 (zshl 1 (i : Int)) (fun l hl => zib_one0 (by omega) (by omega) L) l g
    rw [Nat.zero_add] at key
    rcases ldis_of hi g with ⟨h1, h2⟩ | ⟨d, h1, h2, h3, h4⟩
    · rw [decide_eq_true h1]
      exact bool_f (fun q => h2 _ (key.mp q))
    · rw [decide_eq_false (by rw [h1]; omega)]
      exact key.mpr (bal_mono (by omega) h3)
  · rw [decide_eq_false (show ¬ l < 0 + L.2.1.length by omega), Bool.false_and, Bool.and_false, zib_itr_hi L h8 _ _ l (by omega) hl, zib_shl1 (by omega) hl]
    exact decide_eq_false (by omega)
theorem p_reach (hR : R1 S m) (x : Int) : Ex1 (zF zP 212 v [(.inr (.inr (some 0))), .inl x] m) (o_reach S x) := by
  have hS := hR.1
  obtain ⟨hl, hv⟩ := hR.ll
  have h8 := hR.l8
  unfold o_reach
  rw [f_X10_reach, if_pos hS.1, hR.r2, obind, if_pos hR.t5, s_hasLine hR.t5 hv.2.1.1, zC1_s]
  by_cases h : inB x (gL S).2.1.length = true
  · obtain ⟨i, rfl, hi⟩ := inB_nat h
    rw [if_neg (by rw [h]; decide), if_pos h, if_pos hS.1, hR.r2, obind, if_pos hR.t5, s_reached hl hv, zC1_s, if_pos hS.1, c_yes hS, zC1_s, j_X10_reach_31, reached_set h8 hi, Int.toNat_natCast]; exact x1_yes hR
  · rw [if_pos (b01_ne.mpr (bool_f h)), if_neg h, j_X10_reach_26, if_pos hS.1, c_no hS, zC1_s, j_X10_reach_31]; exact x1_no hR
end ROUTES
