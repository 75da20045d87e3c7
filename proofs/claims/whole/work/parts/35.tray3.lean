/-! TRAYS of the class: a ROW put first. -/
section TRAY3
variable {v : Nat} {m : zM} {a : Nat} {t : zTr} {l : List Nat}
theorem zcut_w {s : Int} {w : Nat} (hw : w < 16) : zcut s (w : Int) = (w : Int) := by
  have e : i32 (w : Int) = (w : Int) := i32_nat (by omega)
  unfold zcut
  rw [e]
  split
  · exact Int.bmod_eq_of_le (by omega) (by omega)
  · split
    · exact Int.bmod_eq_of_le (by omega) (by omega)
    · split <;> rfl
def putF : List Nat → Nat → List Int → List Int
  | [], _, ns => ns
  | w :: r, k, ns => putF r (k + 1) (ns.set k (w : Int))
theorem s_putFirst_loop (hl : rOk l) : ∀ (r : List Nat) (k : Nat) (m : zM) (t : zTr), TrS m a → TrV m a t → l.length ≤ t.2.2.length → l.drop k = r →
    ∃ m', zX zP 148 v 2 [some (.inr (.inr (some a))), some (.inr (.inl (zrow l))), none, some (.inl (k : Int))] [] m = some (none, m') ∧ Sam m m' a (a + 2) ∧ TrV m' a (t.1, t.2.1, putF r k t.2.2) := by
  have h8 := hl.1
  intro r
  induction r with
  | nil =>
    intro k m t h hv hn hk
    have h1 : l.length ≤ k := List.drop_eq_nil_iff.mp hk
    exact ⟨m, by rw [j_X7_putFirst_2, s_size hl, zC1_s, if_neg (by omega), j_X7_putFirst_27], Sam.rf _ _ _, hv⟩
  | cons x r ih =>
    intro k m t h hv hn hk
    obtain ⟨h1, h2, h3⟩ := drop_cons hk
    have hx : x < 16 := by rw [← h2]; exact getD_lt hl.2 k
    have hs : Sam m (zwl m (a + 1) k (x : Int)) a (a + 2) := Sam.wl m k _ (by omega) (by omega)
    obtain ⟨m', e1, e2, e3⟩ := ih (k + 1) (zwl m (a + 1) k (x : Int)) (t.1, t.2.1, t.2.2.set k (x : Int)) (hs.Tr h) (hv.put (by omega)) (by show l.length ≤ (t.2.2.set k (x : Int)).length; rw [List.length_set]; exact hn) h3
    refine ⟨m', ?_, hs.tr e2, e3⟩
    rw [j_X7_putFirst_2, s_size hl, zC1_s, if_pos (by omega), s_wordAt hl (by omega), zC1_s, h2, if_pos h.1, s_put h hv (by omega), zC0_s, zcut_w hx, zadd1 (by omega)]
    exact e1
theorem s_putFirst (hl : rOk l) (h : TrS m a) (hv : TrV m a t) (hn : l.length ≤ t.2.2.length) :
    ∃ m', zF zP 148 v [.inr (.inr (some a)), .inr (.inl (zrow l))] m = some (none, m') ∧ Sam m m' a (a + 2) ∧ TrV m' a (t.1, t.2.1, putF l 0 t.2.2) := by
  rw [f_X7_putFirst]
  exact s_putFirst_loop hl l 0 m t h hv hn rfl
end TRAY3
