/-! The reference's live(): it runs. -/
section LIVE14
variable {B : Nat → Int} {v : Nat} {m m' : zM} {S : zSt} {A : zAc}
theorem m_lives (hA : (gBl S).2 = some A) (hR : R2 S m) {d x : Nat} (hS : Sg (gSp (gL S).2.2.1.length (gL S).2.1.length (gL S).1.length) A d 0 (nst A) 0 A.1.length) (ht : TdOk (gL S)) (hx : x < 65536) :
    ∃ m', zF zP 407 v [(.inr (.inr (some 0))), .inl (x : Int)] m = some (none, m') ∧ LiM (fun j => zi m 6 j) m' S (lvd A (gL S) x) ∧ (lvd A (gL S) x).2.1.2.1 ≤ 300 ∧ LiB 300 (lvd A (gL S) x) ∧ szs (gL S).2.2.1.length (gL S).2.1.length (gL S).1.length (lvd A (gL S) x) := by
  have t := hR.1.1
  have ne : ∀ (mm : zM) (k j : Nat) (y : Int), j ≠ k → zi (zwi mm 0 k y) 0 j = zi mm 0 j := fun mm k j y h => zi_wi_n _ _ (Or.inr h)
  obtain ⟨m1, h1⟩ : ∃ m1, zwi m 0 43 (x : Int) = m1 := ⟨_, rfl⟩
  obtain ⟨m2, h2⟩ : ∃ m2, zwi m1 0 44 0 = m2 := ⟨_, rfl⟩
  obtain ⟨m3, h3⟩ : ∃ m3, zwi m2 0 45 0 = m3 := ⟨_, rfl⟩
  obtain ⟨m4, h4⟩ : ∃ m4, zwi m3 0 46 0 = m4 := ⟨_, rfl⟩
  obtain ⟨m5, h5⟩ : ∃ m5, zwi m4 0 47 0 = m5 := ⟨_, rfl⟩
  obtain ⟨m6, h6⟩ : ∃ m6, zwi m5 0 48 0 = m6 := ⟨_, rfl⟩
  obtain ⟨m7, h7⟩ : ∃ m7, zwi m6 0 49 0 = m7 := ⟨_, rfl⟩
  obtain ⟨m8, h8⟩ : ∃ m8, zwi m7 0 42 0 = m8 := ⟨_, rfl⟩
  have R1 : R2 S m1 := by rw [← h1]; exact hR.s0 (by decide) (by decide)
  have R2' : R2 S m2 := by rw [← h2]; exact R1.s0 (by decide) (by decide)
  have R3 : R2 S m3 := by rw [← h3]; exact R2'.s0 (by decide) (by decide)
  have R4 : R2 S m4 := by rw [← h4]; exact R3.s0 (by decide) (by decide)
  have R5 : R2 S m5 := by rw [← h5]; exact R4.s0 (by decide) (by decide)
  have R6 : R2 S m6 := by rw [← h6]; exact R5.s0 (by decide) (by decide)
  have R7 : R2 S m7 := by rw [← h7]; exact R6.s0 (by decide) (by decide)
  have R8 : R2 S m8 := by rw [← h8]; exact R7.s0 (by decide) (by decide)
  have n2 := fun j (q : j ≠ 44) => (congrArg (fun z => zi z 0 j) h2).symm.trans (ne m1 44 j 0 q)
  have n3 := fun j (q : j ≠ 45) => (congrArg (fun z => zi z 0 j) h3).symm.trans (ne m2 45 j 0 q)
  have n4 := fun j (q : j ≠ 46) => (congrArg (fun z => zi z 0 j) h4).symm.trans (ne m3 46 j 0 q)
  have n5 := fun j (q : j ≠ 47) => (congrArg (fun z => zi z 0 j) h5).symm.trans (ne m4 47 j 0 q)
  have n6 := fun j (q : j ≠ 48) => (congrArg (fun z => zi z 0 j) h6).symm.trans (ne m5 48 j 0 q)
  have n7 := fun j (q : j ≠ 49) => (congrArg (fun z => zi z 0 j) h7).symm.trans (ne m6 49 j 0 q)
  have n8 := fun j (q : j ≠ 42) => (congrArg (fun z => zi z 0 j) h8).symm.trans (ne m7 42 j 0 q)
  have s1 : zi m1 0 43 = (x : Int) := by rw [← h1]; exact zi_wi_s _ _ _ _
  have s2 : zi m2 0 44 = 0 := by rw [← h2]; exact zi_wi_s _ _ _ _
  have s3 : zi m3 0 45 = 0 := by rw [← h3]; exact zi_wi_s _ _ _ _
  have s4 : zi m4 0 46 = 0 := by rw [← h4]; exact zi_wi_s _ _ _ _
  have s5 : zi m5 0 47 = 0 := by rw [← h5]; exact zi_wi_s _ _ _ _
  have s6 : zi m6 0 48 = 0 := by rw [← h6]; exact zi_wi_s _ _ _ _
  have s7 : zi m7 0 49 = 0 := by rw [← h7]; exact zi_wi_s _ _ _ _
  have s8 : zi m8 0 42 = 0 := by rw [← h8]; exact zi_wi_s _ _ _ _
  have e6 : ∀ j, zi m8 6 j = zi m 6 j := fun j => by rw [← h8, ← h7, ← h6, ← h5, ← h4, ← h3, ← h2, ← h1, zi_wi_n _ _ (Or.inl (by decide)), zi_wi_n _ _ (Or.inl (by decide)), zi_wi_n _ _ (Or.inl (by decide)), zi_wi_n _ _ (Or.inl (by decide)), zi_wi_n _ _ (Or.inl (by decide)), zi_wi_n _ _ (Or.inl (by decide)), zi_wi_n _ _ (Or.inl (by decide)), zi_wi_n _ _ (Or.inl (by decide))]
  have g : LiM (fun j => zi m 6 j) m8 S (li0 (gL S) x) := by
    refine ⟨R8, ⟨?_, ?_, ?_⟩, ⟨?_, ?_, ?_⟩, ?_, s8, fun j => e6 j⟩
    · exact (n8 43 (by decide)).trans ((n7 43 (by decide)).trans ((n6 43 (by decide)).trans ((n5 43 (by decide)).trans ((n4 43 (by decide)).trans ((n3 43 (by decide)).trans ((n2 43 (by decide)).trans s1))))))
    · exact (n8 44 (by decide)).trans ((n7 44 (by decide)).trans ((n6 44 (by decide)).trans ((n5 44 (by decide)).trans ((n4 44 (by decide)).trans ((n3 44 (by decide)).trans s2)))))
    · exact (n8 45 (by decide)).trans ((n7 45 (by decide)).trans ((n6 45 (by decide)).trans ((n5 45 (by decide)).trans ((n4 45 (by decide)).trans s3))))
    · exact (n8 46 (by decide)).trans ((n7 46 (by decide)).trans ((n6 46 (by decide)).trans ((n5 46 (by decide)).trans s4)))
    · exact (n8 47 (by decide)).trans ((n7 47 (by decide)).trans ((n6 47 (by decide)).trans s5))
    · exact (n8 48 (by decide)).trans ((n7 48 (by decide)).trans s6)
    · exact (n8 49 (by decide)).trans s7
  have hY : YvM m8 0 (gBl S).2 := R8.2.2.2.2.1.2.2.2.2
  obtain ⟨y1, y2, y3⟩ := hY.2 A hA
  have y218 : zi m8 5 (Int.toNat 218) = (nst A : Int) := y1
  have hn : nst A ≤ 30 := by unfold nst; omega
  obtain ⟨m9, q1, q2, q3, q4⟩ := m_run (S := S) hA d (nst A) 40 0 (nst A) 0 A.1.length (li0 (gL S) x) m8 0 hS (by omega) (by omega) (Nat.le_refl _) g (li0_ok hx ht)
  refine ⟨m9, ?_, q2, q4⟩
  have st : zF zP 405 40 [(.inr (.inr (some 0))), .inl 0, .inl (nst A : Int)] m8 = some (none, m9) := by
    rw [f_X11_doAll]; exact q1
  rw [f_X11_runsYears, if_pos t, h1, if_pos R1.1.1, h2, if_pos R2'.1.1, h3, if_pos R3.1.1, h4, if_pos R4.1.1, h5, if_pos R5.1.1, h6, if_pos R6.1.1, h7, if_pos (by rw [R7.1.1]; rfl), h8]
  dsimp only [zLet]
  rw [if_pos R8.1.1, R8.1.2.1.2.1.1, obind, if_pos (A5 R8.1 (by omega) (by omega)), if_pos R8.1.1, y218, st, zC0_s]
end LIVE14
