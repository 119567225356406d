/-! mean: the choices of a reader at a minute -/
def sCh (g : Nat → Int) (r : Nat) (m : Int) (N : Nat) : Nat := if sCough g r m then 0 else cntR (fun v => decide (sCand g (sD 0) r m v)) N
theorem cntR_b (R : Nat → Bool) : ∀ k : Nat, cntR R k ≤ k := by
  intro k
  induction k with
  | zero => exact Nat.le_refl _
  | succ k ih =>
    have ec : cntR R (k + 1) = cntR R k + (if R k = true then 1 else 0) := rfl
    rw [ec]; split <;> omega
theorem cChoices {σ : rp_S} {g : Nat → Int} (hS : SH σ g (sD 0)) (hV : sV g) {N r : Nat} (hN : g 24 = N) (hr : (r : Int) < g 33) {m : Int} (hm : 0 ≤ m) (hm2 : m < 80) : fX3_choicesOf σ (rI r) (rI m) = some (rI (sCh g r m N : Nat)) := by
  have v1 := hV.1
  obtain ⟨R, hR⟩ : ∃ R : Nat → Bool, R = fun v => decide (sCand g (sD 0) r m v) := ⟨_, rfl⟩
  have loop : ∀ (k v f : Nat), k < f → v + k = N → fX3_choicesOf_16 σ f (rI r) (rI m) (rI (cntR R v : Nat)) (rI (v : Int)) = some (rI (cntR R N : Nat)) := by
    intro k
    induction k with
    | zero =>
      intro v f hf hv
      obtain ⟨f, rfl⟩ : ∃ q, f = q + 1 := ⟨f - 1, by omega⟩
      have e : v = N := by omega
      subst e
      rw [fX3_choicesOf_16, hS.1.1, hN, if_pos (by rw [rI_le (by omega) (by omega) (by omega) (by omega)]; omega)]
    | succ k ih =>
      intro v f hf hv
      obtain ⟨f, rfl⟩ : ∃ q, f = q + 1 := ⟨f - 1, by omega⟩
      have e := ih (v + 1) f (by omega) (by omega)
      have ec : cntR R (v + 1) = cntR R v + (if R v = true then 1 else 0) := rfl
      rw [ec] at e
      rw [fX3_choicesOf_16, hS.1.1, hN, if_neg (by rw [rI_le (by omega) (by omega) (by omega) (by omega)]; omega), cUp hS hV (by omega) hm hm2, ob, cReach hS hV hr (by omega), ob]
      unfold fX3_choicesOf_51
      simp only [rb_0, iI_s]
      by_cases z : sUp g (sD 0) v m
      · rw [if_neg (fun y => y z)]
        by_cases z2 : sFar g r v ≤ sWide g v
        · rw [if_neg (fun y => y z2)]
          have : R v = true := by rw [hR]; exact decide_eq_true ⟨z2, z⟩
          rw [if_pos this] at e; exact e
        · rw [if_pos z2]
          have : ¬ R v = true := by rw [hR]; intro y; exact z2 (of_decide_eq_true y).1
          rw [if_neg this, Nat.add_zero] at e; exact e
      · rw [if_pos z]
        have : ¬ R v = true := by rw [hR]; intro y; exact z (of_decide_eq_true y).2
        rw [if_neg this, Nat.add_zero] at e; exact e
  unfold fX3_choicesOf sCh
  rw [cCough hS hV hr hm hm2, ob, ← hR]
  simp only [rb_0]
  by_cases z : sCough g r m
  · rw [if_neg (fun y => y z), if_pos z]; rfl
  · rw [if_pos z, if_neg z]
    exact loop N 0 1000 (by omega) (by omega)
