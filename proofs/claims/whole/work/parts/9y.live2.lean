/-! LIVING: what a STEP does; plain, and in the class (any LAND). -/
/-- LAND; seed, done, without effect, days, gone, said; over, stop -/
abbrev zLi : Type := zLd × (Nat × Nat × Nat × Nat × Nat × Nat) × (Bool × Bool)
def dwN (s : Nat) : Nat := (s * 2971 + 10771) % 65536
def wo1 (σ : zLi) : zLi := (σ.1, (σ.2.1.1, σ.2.1.2.1, σ.2.1.2.2.1 + 1, σ.2.1.2.2.2), σ.2.2)
def do1 (σ : zLi) : zLi := (σ.1, (σ.2.1.1, σ.2.1.2.1 + 1, σ.2.1.2.2), σ.2.2)
def seL (σ : zLi) (s : Nat) : zLi := (σ.1, (s, σ.2.1.2), σ.2.2)
def ldL (σ : zLi) (L : zLd) : zLi := (L, σ.2)
def eDay (d : Nat) (σ : zLi) : Bool × zLi := if 9999 < σ.1.2.2.2.2 + (d : Int) then (false, σ) else
  (true, (dysL σ.1 d, (σ.2.1.1, σ.2.1.2.1, σ.2.1.2.2.1, σ.2.1.2.2.2.1 + d, σ.2.1.2.2.2.2.1, σ.2.1.2.2.2.2.2 + mvs σ.1 d 0), σ.2.2))
def eGo (p x : Nat) (σ : zLi) : Bool × zLi := if ljoin σ.1 (σ.1.2.2.1.getD p ps0).2.1 x = true then
  (true, (psSet σ.1 p ((σ.1.2.2.1.getD p ps0).1, x, (σ.1.2.2.1.getD p ps0).2.2), (σ.2.1.1, σ.2.1.2.1, σ.2.1.2.2.1, σ.2.1.2.2.2.1, σ.2.1.2.2.2.2.1 + 1, σ.2.1.2.2.2.2.2), σ.2.2)) else (false, σ)
def eLo (i : Nat) (b : Bool) (σ : zLi) : Bool × zLi := if (σ.1.2.1.getD i ln0).2.1 = b then (false, σ) else (true, ldL σ (lnSet σ.1 i ((σ.1.2.1.getD i ln0).1, b, (σ.1.2.1.getD i ln0).2.2)))
def eAny (σ : zLi) : Bool × zLi := if σ.1.2.2.1.length = 0 then (false, σ) else
  eGo (dwN σ.2.1.1 / 8 % σ.1.2.2.1.length) (dwN (dwN σ.2.1.1) / 8 % σ.1.2.1.length) (seL σ (dwN (dwN σ.2.1.1)))
/-- what grows, at most; today -/
def LiB (j : Nat) (σ : zLi) : Prop := σ.2.1.1 < 65536 ∧ (σ.2.1.2.2.1 ≤ j ∧ σ.2.1.2.2.2.1 ≤ 20 * j ∧ σ.2.1.2.2.2.2.1 ≤ j ∧ σ.2.1.2.2.2.2.2 ≤ 120 * j) ∧ ∃ t : Nat, σ.1.2.2.2.2 = (t : Int) ∧ t ≤ 9999
def szL (L L' : zLd) : Prop := L'.1 = L.1 ∧ L'.2.1.length = L.2.1.length ∧ L'.2.2.1.length = L.2.2.1.length
def lvE (a b j : Nat) : Prop := (b = a ∧ j = 11) ∨ b = a + 6 ∨ b = a + 7 ∨ (a + 12 ≤ b ∧ b < a + 28 ∧ j = 3) ∨ b = 62
def LiC (m : zM) (a : Nat) (σ : zLi) : Prop := LdS m a ∧ LdV m a σ.1 ∧ LfS m ∧ (zi m 62 1 = (σ.2.1.1 : Int) ∧ zi m 62 2 = (σ.2.1.2.1 : Int) ∧ zi m 62 3 = (σ.2.1.2.2.1 : Int)) ∧ (zi m 62 4 = (σ.2.1.2.2.2.1 : Int) ∧ zi m 62 5 = (σ.2.1.2.2.2.2.1 : Int) ∧ zi m 62 6 = (σ.2.1.2.2.2.2.2 : Int)) ∧ zi m 62 7 = b01 σ.2.2.1
def EfC (m : zM) (a : Nat) (out : Option zO) (r : Bool × zLi) : Prop := ∃ m', out = some (some (.inl (b01 r.1)), m') ∧ Fr (lvE a) m m' ∧ LiC m' a r.2
section LIVE2
variable {v : Nat} {m m' : zM} {a : Nat} {L : zLd} {σ : zLi}
theorem lvE_s (h : Fr (lvE a) m m') (ha : a + 28 ≤ 62) : Sam m m' a 64 := h.sam (fun b j q => by unfold lvE at q; omega)
theorem Sam.Lf {lo hi : Nat} (h : Sam m m' lo hi) (hs : LfS m) : LfS m' := by
  unfold LfS
  rw [h.T, h.r]
  exact ⟨hs.1, hs.2.1, h.Ar hs.2.2⟩
theorem dwN_lt (s : Nat) : dwN s < 65536 := Nat.mod_lt _ (by decide)
theorem zrem_nat (a b : Nat) : zrem (a : Int) (b : Int) = ((a % b : Nat) : Int) := rfl
theorem dw_eq {s : Nat} (h : s < 65536) : zrem (zadd (zmul (s : Int) 2971) 10771) 65536 = (dwN s : Int) := by
  have e1 : zmul (s : Int) 2971 = ((s * 2971 : Nat) : Int) := zmul_nat (k := 2971) (by omega)
  have e2 : zadd ((s * 2971 : Nat) : Int) 10771 = ((s * 2971 + 10771 : Nat) : Int) := zadd_nat (k := 10771) (by omega)
  rw [e1, e2]; exact zrem_nat _ 65536
theorem dv_eq (s k : Nat) : zrem (zdiv (dwN s : Int) 8) (k : Int) = ((dwN s / 8 % k : Nat) : Int) := by
  have h := dwN_lt s
  have e : zdiv (dwN s : Int) 8 = ((dwN s / 8 : Nat) : Int) := zdiv_nat (W := 8) (by omega)
  rw [e]; exact zrem_nat _ _
theorem szL.rf (L : zLd) : szL L L := ⟨rfl, rfl, rfl⟩
theorem szL.tr {L L' L'' : zLd} (h : szL L L') (h' : szL L' L'') : szL L L'' := ⟨h'.1.trans h.1, h'.2.1.trans h.2.1, h'.2.2.trans h.2.2⟩
theorem sz_dys (L : zLd) (d : Nat) : szL L (dysL L d) := ⟨rfl, rfl, mapP_len _ _⟩
theorem mvd_le (L : zLd) : mvd L ≤ L.2.2.1.length := cnF_le _ _ _
theorem mvs_le (L : zLd) (h6 : L.2.2.1.length ≤ 6) : ∀ (n k : Nat), mvs L n k ≤ 6 * n
  | 0, k => Nat.zero_le _
  | n + 1, k => by
    unfold mvs
    have h1 := mvs_le L h6 n (k + 1)
    have h2 := mvd_le (mapP L (fun i => inDays L i k))
    rw [mapP_len] at h2
    omega
/-- DAYS -/
theorem s_days_loop {d : Nat} (hd : d ≤ 20) (ha : a + 28 ≤ 62) (L : zLd) (T : Int) : ∀ (n k s : Nat) (u : Option zV) (m : zM), k + n = d → s + 6 * n < 1000000 → LdS m a → LfS m → LdV m a (tdSet (mapP L (fun i => inDays L i k)) T) → zi m 62 6 = (s : Int) →
    ∃ m', zX zP 60 v 36 [some ((.inr (.inr (some 62)))), some ((.inr (.inr (some a)))), some (.inl (d : Int)), some (.inl (k : Int)), u] [] m = some (some (.inl 1), m') ∧ Fr (fun b j => b = a + 7 ∨ (b = 62 ∧ j = 6)) m m' ∧ LdV m' a (tdSet (mapP L (fun i => inDays L i d)) T) ∧ zi m' 62 6 = ((s + mvs L n k : Nat) : Int) := by
  intro n
  induction n with
  | zero =>
    intro k s u m hk hs h hf hL h6
    have e : k = d := by omega
    subst e
    refine ⟨m, ?_, Fr.rf _ _, hL, h6⟩
    rw [j_X1_daysGo_36, if_neg (by omega), j_X1_daysGo_71, if_pos zb1]
  | succ n ih =>
    intro k s u m hk hs h hf hL h6
    obtain ⟨m1, f1, f2, f3⟩ := s_putAll (v := 0) h hL
    have hp6 : (mapP L (fun i => inDays L i k)).2.2.1.length ≤ 6 := hL.2.2.1.2.1
    have hmv := mvd_le (mapP L (fun i => inDays L i k))
    have e1 : mapP (tdSet (mapP L (fun i => inDays L i k)) T) (fun i => lday (tdSet (mapP L (fun i => inDays L i k)) T) i (row0 (tdSet (mapP L (fun i => inDays L i k)) T) i)) = tdSet (mapP L (fun i => inDays L i (k + 1))) T := by
      have e2 : mapP (tdSet (mapP L (fun i => inDays L i k)) T) (fun i => lday (tdSet (mapP L (fun i => inDays L i k)) T) i (row0 (tdSet (mapP L (fun i => inDays L i k)) T) i)) = tdSet (mapP (mapP L (fun i => inDays L i k)) (fun i => lday (mapP L (fun i => inDays L i k)) i (row0 (mapP L (fun i => inDays L i k)) i))) T := rfl
      rw [e2, mapP_map]
      congr 1
      refine mapP_congr (fun i hi => ?_)
      rw [mapP_lday _ _ hi, mapP_row _ _ hi]
      exact (itr_succ _ _ _).symm
    rw [e1] at f3
    have g6 : zi m1 62 6 = (s : Int) := by rw [f2.i (by omega)]; exact h6
    have hmd : mvd (tdSet (mapP L (fun i => inDays L i k)) T) = mvd (mapP L (fun i => inDays L i k)) := rfl
    rw [hmd] at f1
    have ea : ∀ _ : Unit, zadd (s : Int) (mvd (mapP L (fun i => inDays L i k)) : Int) = ((s + mvd (mapP L (fun i => inDays L i k)) : Nat) : Int) := fun _ => zadd_nat (by omega)
    have hw : Sam m1 (zwi m1 62 6 ((s + mvd (mapP L (fun i => inDays L i k)) : Nat) : Int)) 62 63 := Sam.wi m1 _ _ (by omega) (by omega)
    have hF : Fr (fun b j => b = a + 7 ∨ (b = 62 ∧ j = 6)) m (zwi m1 62 6 ((s + mvd (mapP L (fun i => inDays L i k)) : Nat) : Int)) := (f2.fr (fun b j q1 q2 => Or.inl (by omega))).tr (Fr.wi m1 _ (Or.inr ⟨rfl, rfl⟩))
    have hL2 := hw.ldV (by omega) f3
    have hS2 := hw.Ld (f2.Ld h)
    have hf2 := hw.Lf (f2.Lf hf)
    have st : zX zP 60 v 36 [some ((.inr (.inr (some 62)))), some ((.inr (.inr (some a)))), some (.inl (d : Int)), some (.inl (k : Int)), u] [] m = (if (mvd (mapP L (fun i => inDays L i k)) : Int) = 0 then some (some (.inl 1), zwi m1 62 6 ((s + mvd (mapP L (fun i => inDays L i k)) : Nat) : Int)) else zX zP 60 v 36 [some ((.inr (.inr (some 62)))), some ((.inr (.inr (some a)))), some (.inl (d : Int)), some (.inl ((k + 1 : Nat) : Int)), some (.inl (mvd (mapP L (fun i => inDays L i k)) : Int))] [] (zwi m1 62 6 ((s + mvd (mapP L (fun i => inDays L i k)) : Nat) : Int))) := by
      rw [j_X1_daysGo_36, if_pos (by omega), if_pos h.1, f1, zC1_s, if_pos (f2.Lf hf).1, if_pos (f2.Lf hf).1, g6, ea (), if_pos zb1, j_X1_daysGo_65, zadd1 (by omega)]
    rw [st]
    by_cases c : mvd (mapP L (fun i => inDays L i k)) = 0
    · rw [if_pos (by omega)]
      refine ⟨_, rfl, hF, ?_, ?_⟩
      · have e2 := mvd_fix c (n + 1)
        have e3 := mvd_fix c 1
        rw [show n + 1 + k = d by omega] at e2
        rw [show 1 + k = k + 1 by omega] at e3
        rw [e3] at hL2; rw [e2]; exact hL2
      · have e4 := mvs_0 c (n + 1) 0
        rw [Nat.zero_add] at e4
        rw [zi_wi_s, e4, c]
    · rw [if_neg (by omega)]
      obtain ⟨m', i1, i2, i3, i4⟩ := ih (k + 1) (s + mvd (mapP L (fun i => inDays L i k))) (some (.inl (mvd (mapP L (fun i => inDays L i k)) : Int))) _ (by omega) (by omega) hS2 hf2 hL2 (zi_wi_s _ _ _ _)
      refine ⟨m', i1, hF.tr i2, i3, ?_⟩
      rw [i4]
      show _ = ((s + (mvd (mapP L (fun i => inDays L i k)) + mvs L n (k + 1)) : Nat) : Int)
      rw [Nat.add_assoc]
theorem s_days {d j : Nat} (hd : d ≤ 20) (hj : j ≤ 300) (ha : a + 28 ≤ 62) (h : LiC m a σ) (hB : LiB j σ) : EfC m a (zF zP 60 v [(.inr (.inr (some 62))), (.inr (.inr (some a))), .inl (d : Int)] m) (eDay d σ) := by
  obtain ⟨h1, h2, h3, ⟨g1, g2, g3⟩, ⟨g4, g5, g6⟩, g7⟩ := h
  obtain ⟨b1, ⟨b2, b3, b4, b5⟩, t, bt, bt2⟩ := hB
  have h11 : zi m a 11 = (t : Int) := by rw [h2.2.2.2.2.1]; exact bt
  have et : ∀ _ : Unit, zadd (t : Int) (d : Int) = ((t + d : Nat) : Int) := fun _ => zadd_nat (by omega)
  unfold eDay
  rw [f_X1_daysGo, if_pos h1.1, h11, et (), bt]
  by_cases c : 9999 < (t : Int) + (d : Int)
  · rw [if_pos (by omega), if_pos c, if_pos zb0]
    exact ⟨m, rfl, Fr.rf _ _, h1, h2, h3, ⟨g1, g2, g3⟩, ⟨g4, g5, g6⟩, g7⟩
  · have ey : ∀ _ : Unit, zadd (σ.2.1.2.2.2.1 : Int) (d : Int) = ((σ.2.1.2.2.2.1 + d : Nat) : Int) := fun _ => zadd_nat (by omega)
    have s1 : Sam m (zwi m a 11 ((t + d : Nat) : Int)) a (a + 1) := Sam.wi m _ _ (by omega) (by omega)
    have L1 : LdV (zwi m a 11 ((t + d : Nat) : Int)) a (tdSet σ.1 ((t + d : Nat) : Int)) := h2.today
    have s2 : Sam (zwi m a 11 ((t + d : Nat) : Int)) (zwi (zwi m a 11 ((t + d : Nat) : Int)) 62 4 ((σ.2.1.2.2.2.1 + d : Nat) : Int)) 62 63 := Sam.wi _ _ _ (by omega) (by omega)
    have k4 : zi (zwi m a 11 ((t + d : Nat) : Int)) 62 4 = (σ.2.1.2.2.2.1 : Int) := by rw [s1.i (by omega)]; exact g4
    have hF2 : Fr (lvE a) m (zwi (zwi m a 11 ((t + d : Nat) : Int)) 62 4 ((σ.2.1.2.2.2.1 + d : Nat) : Int)) := (Fr.wi m _ (Or.inl ⟨rfl, rfl⟩)).tr (Fr.wi _ _ (Or.inr (Or.inr (Or.inr (Or.inr rfl)))))
    have v62 : ∀ j, j ≠ 4 → zi (zwi (zwi m a 11 ((t + d : Nat) : Int)) 62 4 ((σ.2.1.2.2.2.1 + d : Nat) : Int)) 62 j = zi m 62 j := fun j hj => by rw [zi_wi_n _ _ (Or.inr hj), s1.i (by omega)]
    have w4 : zi (zwi (zwi m a 11 ((t + d : Nat) : Int)) 62 4 ((σ.2.1.2.2.2.1 + d : Nat) : Int)) 62 4 = ((σ.2.1.2.2.2.1 + d : Nat) : Int) := zi_wi_s _ _ _ _
    have st : zX zP 60 v 14 [some ((.inr (.inr (some 62)))), some ((.inr (.inr (some a)))), some (.inl (d : Int)), none, none] [] m = zX zP 60 v 36 [some ((.inr (.inr (some 62)))), some ((.inr (.inr (some a)))), some (.inl (d : Int)), some (.inl ((0 : Nat) : Int)), none] [] (zwi (zwi m a 11 ((t + d : Nat) : Int)) 62 4 ((σ.2.1.2.2.2.1 + d : Nat) : Int)) := by
      rw [j_X1_daysGo_14, if_pos h1.1, if_pos h1.1, h11, et (), if_pos (by rw [s1.T]; exact h3.1), if_pos (by rw [s1.T]; exact h3.1), k4, ey ()]; rfl
    have e0 : tdSet (mapP σ.1 (fun i => inDays σ.1 i 0)) ((t + d : Nat) : Int) = tdSet σ.1 ((t + d : Nat) : Int) := by
      rw [mapP_id (L := σ.1) (f := fun i => inDays σ.1 i 0) (fun i _ => rfl)]
    obtain ⟨m', i1, i2, i3, i4⟩ := s_days_loop (v := v) hd ha σ.1 ((t + d : Nat) : Int) d 0 σ.2.1.2.2.2.2.2 none _ (by omega) (by omega) (s2.Ld (s1.Ld h1)) (s2.Lf (s1.Lf h3)) (by rw [e0]; exact s2.ldV (by omega) L1) (by rw [v62 6 (by decide)]; exact g6)
    have hF3 := hF2.tr (i2.mono (fun b j q => by
      have q' : b = a + 7 ∨ (b = 62 ∧ j = 6) := q
      unfold lvE; omega))
    have hs3 := lvE_s hF3 ha
    rw [if_neg (by omega), if_neg c, st, i1]
    have nb : ∀ j, j ≠ 6 → ¬ ((62 : Nat) = a + 7 ∨ ((62 : Nat) = 62 ∧ j = 6)) := fun j hj q => by omega
    refine ⟨m', rfl, hF3, hs3.Ld h1, ?_, hs3.Lf h3, ⟨?_, ?_, ?_⟩, ⟨?_, ?_, i4⟩, ?_⟩
    · show LdV m' a (dysL σ.1 d)
      unfold dysL
      rw [bt, et ()]; exact i3
    · rw [i2.i (nb 1 (by decide)), v62 1 (by decide)]; exact g1
    · rw [i2.i (nb 2 (by decide)), v62 2 (by decide)]; exact g2
    · rw [i2.i (nb 3 (by decide)), v62 3 (by decide)]; exact g3
    · rw [i2.i (nb 4 (by decide))]; exact w4
    · rw [i2.i (nb 5 (by decide)), v62 5 (by decide)]; exact g5
    · rw [i2.i (nb 7 (by decide)), v62 7 (by decide)]; exact g7
end LIVE2
