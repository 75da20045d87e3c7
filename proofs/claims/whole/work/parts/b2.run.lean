/-! The constructors, run. -/
set_option maxRecDepth 1000000 in
theorem run2_ok : kRun2 (zGo zP (zRun zP 60) 237 0 [.inr (.inr (some 0))] (zpush m00 7 0 50)) = true := by decide +kernel
set_option maxRecDepth 1000000 in
theorem run1_ok : kRun1 (zGo zP (zRun zP 700) 159 0 [.inr (.inr (some 0))] (zpush m00 6 0 17)) = true := by decide +kernel
theorem c_new1 : ∃ m, zF zP 159 0 [.inr (.inr (some 0))] (zpush m00 6 0 17) = some (none, m) ∧ zn m = 159 ∧ zs m ≤ 100000 ∧ R1 S00 (qTr m 159) := by
  obtain ⟨m, e, h⟩ := kRun1_of run1_ok
  exact ⟨m, zF_run e, h⟩
theorem c_new2 : ∃ m, zF zP 237 0 [.inr (.inr (some 0))] (zpush m00 7 0 50) = some (none, m) ∧ zn m = 17 ∧ zs m ≤ 100000 ∧ R2 S00 (qTr m 17) := by
  obtain ⟨m, e, h⟩ := kRun2_of run2_ok
  exact ⟨m, zF_run e, h⟩
theorem qInv00 : qInv S00 := ⟨⟨⟨by decide, by decide⟩, ⟨0, rfl, Nat.zero_le _⟩, fun i hi => absurd hi (Nat.not_lt_zero i), fun A hA => nomatch hA⟩, fun i hi => absurd hi (Nat.not_lt_zero i)⟩
