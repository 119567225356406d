/-! mean: one reader, one minute -/
theorem nSum_wt {c : Nat} (hc : c ≤ 10) (N : Nat) : nSum (fun D => sWt c D N) (2 ^ N) = 10 ^ N := by
  have e := prodsum (fun _ b => if b = true then c else 10 - c) N
  have e2 : prodN (fun _ => (if false = true then c else 10 - c) + (if true = true then c else 10 - c)) N = 10 ^ N := by
    rw [← prodN_const]
    exact prodN_congr N (fun _ _ => by rw [if_neg (by decide), if_pos rfl]; omega)
  exact e.trans e2
theorem cntR_congr {R S : Nat → Bool} : ∀ k : Nat, (∀ i, i < k → R i = S i) → cntR R k = cntR S k := fun k h => nSum_congr k (fun i hi => by rw [h i hi])
theorem dark_sum {g : Nat → Int} (hV : sV g) {N r c : Nat} (hN : g 24 = N) (hr : (r : Int) < g 33) (hc : c ≤ 10) (m : Int) : ∃ e : Nat, e + sCh g r m N = N ∧ nSum (fun D => sWt c D N * (if sLook g (sD D) r m = -4 then 1 else 0)) (2 ^ N) = c ^ sCh g r m N * 10 ^ e := by
  by_cases z : sCough g r m
  · refine ⟨N, by unfold sCh; rw [if_pos z]; rfl, ?_⟩
    have e : ∀ D, (if sLook g (sD D) r m = -4 then 1 else 0) = 1 := fun D => if_pos ((look_none hV hr m).2 (Or.inl z))
    rw [show sCh g r m N = 0 by unfold sCh; rw [if_pos z], Nat.pow_zero, Nat.one_mul, ← nSum_wt hc N]
    exact nSum_congr _ (fun D _ => by rw [e D, Nat.mul_one])
  · obtain ⟨R, hR⟩ : ∃ R : Nat → Bool, R = fun v => decide (sCand g (sD 0) r m v) && decide (v < N) := ⟨_, rfl⟩
    have RN : R N = false := by rw [hR]; show (_ && decide (N < N)) = false; rw [decide_eq_false (show ¬ N < N by omega), Bool.and_false]
    have ec : sCh g r m N = cntR R N := by
      unfold sCh
      rw [if_neg z]
      refine cntR_congr N (fun i hi => ?_)
      rw [hR]
      show _ = (_ && decide (i < N))
      rw [decide_eq_true hi, Bool.and_true]
    obtain ⟨e, e1, e2⟩ := hL_prod (c := c) RN N
    rw [if_neg (by omega)] at e1 e2
    rw [ec]
    refine ⟨e, by omega, ?_⟩
    rw [Nat.one_mul] at e2
    rw [← e2, ← prodN_congr N (fun v _ => hL_sum (R := R) hc v), ← prodsum (hL c N R) N]
    refine nSum_congr _ (fun D _ => ?_)
    rw [← wt_ok]
    congr 1
    have key : sLook g (sD D) r m = -4 ↔ okL N R D N = true := by
      rw [look_none hV hr m, okL_iff]
      constructor
      · intro h v hv
        have h2 := h.resolve_left z v (by omega)
        unfold okV
        rw [if_neg (by omega)]
        cases hd : sD D v with
        | true => exact Bool.or_true _
        | false =>
          rw [Bool.or_false]
          have n0 : ¬ sCand g (sD 0) r m v := fun y => h2 ⟨y.1, ⟨y.2.1.1, hd⟩, y.2.2⟩
          have : R v = false := by rw [hR]; show (decide (sCand g (sD 0) r m v) && _) = false; rw [decide_eq_false n0, Bool.false_and]
          rw [this]; rfl
      · intro h
        right
        intro v hv y
        have := h v (by omega)
        unfold okV at this
        have y2 : sCand g (sD 0) r m v := ⟨y.1, ⟨y.2.1.1, sD_0 v⟩, y.2.2⟩
        have t2 : R v = true := by rw [hR]; show (decide (sCand g (sD 0) r m v) && decide (v < N)) = true; rw [decide_eq_true y2, decide_eq_true (show v < N by omega)]; rfl
        rw [if_neg (by omega), t2, y.2.1.2] at this
        exact absurd this (by decide)
    by_cases q : sLook g (sD D) r m = -4
    · rw [if_pos q, if_pos (key.1 q)]
    · rw [if_neg q, if_neg (fun k => q (key.2 k))]
