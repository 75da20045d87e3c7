/-! Each call keeps the invariant. -/
section INV2
variable {S S' : zSt} {L L' L'' : zLd} {Y : zYr} {A : zAc} {σ : zLi}
theorem k_tray (t s n : Int) : qKe S (o_tray S t s n).2 := by
  unfold o_tray
  exact (qIte (qIte (qIte qF (qIte qF qTt)) qF) qF)
theorem k_write (t p y : Int) : qKe S (o_write S t p y).2 := by
  unfold o_write
  exact (qIte qTt qF)
theorem k_read (t p : Int) : qKe S (o_read S t p).2 := by
  unfold o_read
  exact (qIte qYes qNo)
theorem k_pour (t i u j n : Int) : qKe S (o_pour S t i u j n).2 := by
  unfold o_pour
  exact (qIte (qIte (qIte qF (qIte qTt qF)) qF) qF)
theorem k_feed (a b c d e : Int) : qKe S (o_feed S a b c d e).2 := by
  unfold o_feed
  exact (qIte ⟨rfl, rfl, rfl⟩ ⟨rfl, rfl, rfl⟩)
theorem k_many (x : Int) : qKe S (o_many S x).2 := by
  unfold o_many
  exact (qIte qYes (qIte qYes (qIte qYes (qIte qYes (qIte qYes (qIte qYes (qIte qYes (qIte qYes qNo))))))))
theorem k_line (x w : Int) : qKe S (o_line S x w).2 := by
  unfold o_line
  exact (qIte (qIte qYes (qIte qYes (qIte qYes (qIte qYes (qIte qYes qNo))))) qNo)
theorem k_lineOf (x : Int) : qKe S (o_lineOf S x).2 := by
  unfold o_lineOf
  exact (qIte (qIte qNo qYes) qNo)
theorem k_edit (x y w : Int) : qKe S (o_edit S x y w).2 := by
  unfold o_edit
  exact (qIte (qIte qYes (qIte qYes (qIte (qIte qNo qYes) (qIte qYes qNo)))) qNo)
theorem k_placeOf (x : Int) : qKe S (o_placeOf S x).2 := by
  unfold o_placeOf
  exact (qIte qYes qNo)
theorem k_length (x : Int) : qKe S (o_length S x).2 := by
  unfold o_length
  exact (qIte qYes qNo)
theorem k_says (x k : Int) : qKe S (o_says S x k).2 := by
  unfold o_says
  exact (qIte qWd qNo)
theorem k_copyRow (x t : Int) : qKe S (o_copyRow S x t).2 := by
  unfold o_copyRow
  exact (qIte (qIte qPut qNo) qNo)
theorem k_right (t n x u : Int) : qKe S (o_right S t n x u).2 := by
  unfold o_right
  exact (qIte qPut qNo)
theorem k_vain (t n x : Int) : qKe S (o_vain S t n x).2 := by
  unfold o_vain
  exact (qIte qYes qNo)
theorem k_makes (t n x u k : Int) : qKe S (o_makes S t n x u k).2 := by
  unfold o_makes
  exact (qIte qYes qNo)
theorem k_chance (t n x u k : Int) : qKe S (o_chance S t n x u k).2 := by
  unfold o_chance
  exact (qIte qFrac qF)
theorem k_same (t n x : Int) : qKe S (o_same S t n x).2 := by
  unfold o_same
  exact (qIte qYes qNo)
theorem k_circles (t n x : Int) : qKe S (o_circles S t n x).2 := by
  unfold o_circles
  exact (qIte (qIte qNo qYes) qNo)
theorem k_joined (x y : Int) : qKe S (o_joined S x y).2 := by
  unfold o_joined
  exact (qIte (qIte (qIte qNo qYes) qNo) qNo)
theorem k_route (x y : Int) : qKe S (o_route S x y).2 := by
  unfold o_route
  exact (qIte (qIte (qIte qNo qYes) qNo) qNo)
theorem k_routeFirst (x y : Int) : qKe S (o_routeFirst S x y).2 := by
  unfold o_routeFirst
  exact (qIte (qIte (qIte qNo (qIte qNo qYes)) qNo) qNo)
theorem k_reach (x : Int) : qKe S (o_reach S x).2 := by
  unfold o_reach
  exact (qIte qYes qNo)
theorem k_omitted (x y : Int) : qKe S (o_omitted S x y).2 := by
  unfold o_omitted
  exact (qIte qYes qNo)
theorem k_nextOmitted (x : Int) : qKe S (o_nextOmitted S x).2 := by
  unfold o_nextOmitted
  exact (qIte qFd qNo)
theorem k_needs (x : Int) : qKe S (o_needs S x).2 := by
  unfold o_needs
  exact (qIte qSz qNo)
theorem k_needsAt (x k : Int) : qKe S (o_needsAt S x k).2 := by
  unfold o_needsAt
  exact (qIte qWo qNo)
theorem k_texts (t n x k : Int) : qKe S (o_texts S t n x k).2 := by
  unfold o_texts
  exact (qIte qYes qNo)
theorem k_clash (x y : Int) : qKe S (o_clash S x y).2 := by
  unfold o_clash
  exact (qIte (qIte qNo qSz) qNo)
theorem k_clashAt (x y k : Int) : qKe S (o_clashAt S x y k).2 := by
  unfold o_clashAt
  exact (qIte (qIte qNo qWo) qNo)
theorem k_game (t n x a b T : Int) : qKe S (o_game S t n x a b T).2 := by
  unfold o_game
  exact (qIte qYes qNo)
theorem k_moveOf (t n x a b T : Int) : qKe S (o_moveOf S t n x a b T).2 := by
  unfold o_moveOf
  exact (qIte (qIte qNo qYes) qNo)
theorem k_longIn (p d : Int) : qKe S (o_longIn S p d).2 := by
  unfold o_longIn
  exact (qIte (qIte qYes qNo) qNo)
theorem k_sayIn (p d k : Int) : qKe S (o_sayIn S p d k).2 := by
  unfold o_sayIn
  exact (qIte (qIte qWd qNo) qNo)
theorem k_saysFirst (p w : Int) : qKe S (o_saysFirst S p w).2 := by
  unfold o_saysFirst
  exact (qIte (qIte qFd qNo) qNo)
theorem k_silentIn (p : Int) : qKe S (o_silentIn S p).2 := by
  unfold o_silentIn
  exact (qIte qFd qNo)
theorem k_alikeIn (p d : Int) : qKe S (o_alikeIn S p d).2 := by
  unfold o_alikeIn
  exact (qIte (qIte qYes qNo) qNo)
theorem k_lived (x : Int) : qKe S (o_lived S x).2 := by
  unfold o_lived
  refine qIte ?_ qNo
  split
  · exact qNo
  · exact qYes
theorem k_mean (x y : Int) : qKe S (o_mean S x y).2 := by
  unfold o_mean
  refine qIte ?_ qF
  unfold oMean
  split
  · exact qF
  · exact qFrac
theorem q_second (hI : qInv S) (t n to k : Int) : qNx S (o_second S t n to k).2 := by
  unfold o_second
  exact qIn (fun _ => qYes.nx hI) (fun _ => qNo.nx hI)
theorem q_go (hI : qInv S) (p x : Int) : qNx S (o_go S p x).2 := by
  unfold o_go
  exact qIn (fun _ => qIn (fun _ => qIn (fun _ => hI.ki qKI.ps) (fun _ => qNo.nx hI)) (fun _ => qNo.nx hI)) (fun _ => qNo.nx hI)
theorem q_lose (hI : qInv S) (x : Int) (is : Bool) : qNx S (o_lose S x is).2 := by
  unfold o_lose
  exact qIn (fun _ => qIn (fun _ => qF.nx hI) (fun _ => hI.ki qKI.lo)) (fun _ => qF.nx hI)
theorem q_teach (hI : qInv S) (p t n : Int) : qNx S (o_teach S p t n).2 := by
  unfold o_teach
  exact qIn (fun _ => hI.ki qKI.ps) (fun _ => qNo.nx hI)
theorem q_rule (hI : qInv S) (x : Int) : qNx S (o_rule S x).2 := by
  unfold o_rule
  refine qIn (fun c => ?_) (fun _ => qF.nx hI)
  rw [inR_t] at c
  exact hI.nl (L := odSet (gL S) x) ⟨c, hI.1.2.1, hI.1.2.2.1, hI.1.2.2.2⟩
theorem q_day (hI : qInv S) (n : Int) : qNx S (o_day S n).2 := by
  unfold o_day
  refine qIn (fun c => ?_) (fun _ => qNo.nx hI)
  rw [inR_t] at c
  obtain ⟨d, rfl⟩ := Int.eq_ofNat_of_zero_le (show 0 ≤ n by omega)
  refine qIn (fun _ => qNo.nx hI) (fun c2 => ?_)
  obtain ⟨t, e, ht⟩ := hI.1.2.1
  have e' : (gL S).2.2.2.2 = (t : Int) := e
  refine hI.ki (qKI.day (d := d) ?_)
  rw [e', td_add (by omega)] at c2
  rw [e']; omega
theorem q_amend (hI : qInv S) (x kd a b : Int) (p : Bool) : qNx S (o_amend S x kd a b p).2 := by
  unfold o_amend
  refine qIn (fun c => ?_) (fun _ => qNo.nx hI)
  refine qIn (fun _ => ?_) (fun _ => qNo.nx hI)
  refine qIn (fun _ => qNo.nx hI) (fun _ => ?_)
  refine hI.nl (qBI.ln (L := gL S) hI.1 (fun e he => ?_))
  rw [Bool.and_eq_true, Bool.and_eq_true, inB_t, inB_t] at c
  rcases List.mem_append.mp he with h | h
  · exact eIn.at hI.1.2.2.1 x.toNat e h
  · rw [List.mem_singleton.mp h]
    show a.toNat < (gL S).1.length
    omega
theorem q_strike (hI : qInv S) (x y : Int) : qNx S (o_strike S x y).2 := by
  unfold o_strike
  refine qIn (fun c => ?_) (fun _ => qNo.nx hI)
  exact hI.nl (qBI.ln (L := gL S) hI.1 (fun e he => eIn.at hI.1.2.2.1 x.toNat e (List.mem_of_mem_eraseIdx he)))
theorem q_swap (hI : qInv S) (x y z : Int) : qNx S (o_swap S x y z).2 := by
  unfold o_swap
  refine qIn (fun c => ?_) (fun _ => qF.nx hI)
  refine qIn (fun c2 => ?_) (fun _ => qF.nx hI)
  refine qIn (fun _ => qF.nx hI) (fun _ => ?_)
  rw [Bool.and_eq_true, inB_t, inB_t] at c c2
  have h0 := eIn.at hI.1.2.2.1 x.toNat
  have hy : y.toNat < ((gL S).2.1.getD x.toNat ln0).2.2.length := by omega
  have hz : z.toNat < ((gL S).2.1.getD x.toNat ln0).2.2.length := by omega
  refine hI.nl (qBI.ln (L := gL S) hI.1 (fun e he => ?_))
  rcases List.mem_or_eq_of_mem_set he with h | h
  · rcases List.mem_or_eq_of_mem_set h with h | h
    · exact h0 e h
    · rw [h]; exact h0 _ (getD_mem_or _ _ _ hz)
  · rw [h]; exact h0 _ (getD_mem_or _ _ _ hy)
theorem rPrt_w8 {od : Bool} {f : Nat → Nat} {n : Nat} {T : zTok} {q : zTok × zLd} (hW : L.1.length ≤ 8) (hq : rPrt L od f n T = .inr q) : q.2.1.length ≤ 8 := by
  unfold rPrt rOdd rWdP rLne rPsn at hq
  have k1 : ∀ x : Int, ¬ L.1.length = 8 → (L.1 ++ [x]).length ≤ 8 := fun x h => by
    rw [List.length_append]
    show L.1.length + 1 ≤ 8
    omega
  repeat' split at hq
  all_goals first
    | (cases hq; done)
    | (cases hq; exact hW)
    | (cases hq; exact k1 _ (by assumption))
theorem rSlp_ok {f : Nat → Nat} {n : Nat} : ∀ (k : Nat) (L : zLd) (od : Bool) (T : zTok) (q : zTok × zLd), L.1.length ≤ 8 → SlOk L → rSlp f n k L od T = .inr q → SlOk q.2
  | 0, L, od, T, q, _, h, hq => by
    have e : (T, L) = q := Sum.inr.inj hq
    rw [← e]; exact h
  | k + 1, L, od, T, q, hW, h, hq => by
    unfold rSlp at hq
    split at hq
    · have e : (T, L) = q := Sum.inr.inj hq
      rw [← e]; exact h
    · split at hq
      · cases hq
      · rename_i q1 e1
        split at hq
        · cases hq
        · exact rSlp_ok k _ _ _ q (rPrt_w8 hW e1) (rPrt_ok hW h e1) hq
theorem q_slip (hI : qInv S) (x : Int) : qNx S (o_slip S x).2 := by
  unfold o_slip
  refine qIn (fun c => ?_) (fun _ => qNo.nx hI)
  have hL0 : SlOk L00 := ⟨fun i hi => absurd hi (Nat.not_lt_zero i), fun i hi => absurd hi (Nat.not_lt_zero i), ⟨by decide, by decide⟩, rfl⟩
  unfold oRead
  split
  · exact qKe.nx ⟨rfl, rfl, rfl⟩ hI
  · rename_i q e1
    have hq := rSlp_ok _ _ _ _ q (Nat.zero_le _) hL0 e1
    exact ⟨⟨⟨hq.2.2.1, ⟨0, hq.2.2.2, Nat.zero_le _⟩, hq.2.1, fun A hA => nomatch hA⟩, hI.2⟩, Or.inl rfl⟩
theorem q_years (hI : qInv S) (x : Int) : qNx S (o_years S x).2 := by
  unfold o_years
  refine qIn (fun c => ?_) (fun _ => qNo.nx hI)
  unfold oYrs
  split
  · exact qKe.nx ⟨rfl, rfl, rfl⟩ hI
  · rename_i q e1
    refine ⟨⟨⟨hI.1.1, hI.1.2.1, hI.1.2.2.1, fun A hA => ?_⟩, hI.2⟩, Or.inl rfl⟩
    have e : q.2 = A := Option.some.inj hA
    rw [← e]
    exact (rYrs_wf e1).2
theorem eGo_ki {p x : Nat} : qKI σ.1 (eGo p x σ).2.1 := by
  unfold eGo
  split
  · exact qKI.ps
  · exact qKI.rf
theorem eGo_seL {p x n : Nat} : qKI σ.1 (eGo p x (seL σ n)).2.1 := eGo_ki (σ := seL σ n)
theorem eX_ki (c : zCe) : qKI σ.1 (eX c σ).2.1 := by
  unfold eX
  split
  · unfold eDay
    split
    · exact qKI.rf
    · rename_i h2
      exact qKI.day h2
  · split
    · exact eGo_ki
    · split
      · unfold eLo
        split
        · exact qKI.rf
        · exact qKI.lo
      · split
        · unfold eLo
          split
          · exact qKI.rf
          · exact qKI.lo
        · unfold eAny
          split
          · exact qKI.rf
          · exact eGo_seL
theorem eW_ki (r : Bool × zLi) : (eW r).1 = r.2.1 := by unfold eW; split <;> rfl
theorem itr_ki {g : zLi → zLi} (hg : ∀ y, qKI y.1 (g y).1) : ∀ (n : Nat) (x : zLi), qKI x.1 (itr g n x).1
  | 0, x => qKI.rf
  | n + 1, x => (hg x).tr (itr_ki hg n (g x))
theorem lvA_ki : ∀ (k s e : Nat) (σ : zLi), qKI σ.1 (lvA A k s e σ).1
  | 0, s, e, σ => qKI.rf
  | k + 1, s, e, σ => by
    have ih := fun s e σ => lvA_ki k s e σ
    have hX : qKI σ.1 (eW (eX (ceT A s) (do1 σ))).1 := by
      rw [eW_ki]; exact eX_ki (σ := do1 σ) _
    unfold lvA
    split
    · refine qKI.tr ?_ (ih _ _ _)
      split
      · exact qKI.rf
      · split
        · exact hX
        · split
          · split
            · exact ih _ _ (do1 σ)
            · exact qKI.rf
          · split
            · exact itr_ki (fun y => ih _ _ y) _ (do1 σ)
            · exact qKI.rf
    · exact qKI.rf
theorem q_live (hI : qInv S) (x : Int) : qNx S (o_live S x).2 := by
  unfold o_live
  refine qIn (fun _ => ?_) (fun _ => qNo.nx hI)
  unfold oLive
  split
  · exact qNo.nx hI
  · rename_i A e
    exact ⟨⟨(lvA_ki (A := A) (nst A) 0 (nst A) (li0 (gL S) x.toNat)).bi hI.1, hI.2⟩, Or.inl rfl⟩
theorem q_mark (hI : qInv S) : qNx S (o_mark S).2 := by
  unfold o_mark
  refine qIn (fun c => ?_) (fun _ => qNo.nx hI)
  refine ⟨⟨hI.1, fun i hi => ?_⟩, Or.inl rfl⟩
  have hi' : i < (gMk S ++ [gBl S]).length := hi
  rw [List.length_append] at hi'
  have hi2 : i < (gMk S).length + 1 := hi'
  show qBI ((gMk S ++ [gBl S]).getD i bl0)
  by_cases w : i = (gMk S).length
  · rw [w, getD_app_r]; exact hI.1
  · rw [getD_app_l (by omega)]; exact hI.2 i (by omega)
theorem q_back (hI : qInv S) : qNx S (o_back S).2 := by
  unfold o_back
  refine qIn (fun _ => qNo.nx hI) (fun c => ?_)
  refine ⟨⟨hI.2 ((gMk S).length - 1) (by omega), fun i hi => ?_⟩, Or.inl rfl⟩
  have hi' : i < ((gMk S).take ((gMk S).length - 1)).length := hi
  rw [List.length_take] at hi'
  show qBI (((gMk S).take ((gMk S).length - 1)).getD i bl0)
  rw [getD_take (by omega)]
  exact hI.2 i (by omega)
end INV2
