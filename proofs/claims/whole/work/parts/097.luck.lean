/-! luck: the product -/
def hL (c w : Nat) (R : Nat → Bool) (v : Nat) (b : Bool) : Nat := if v = w then (if b = true then 0 else 10 - c) else if R v = true then (if b = true then c else 0) else (if b = true then c else 10 - c)
def cntR (R : Nat → Bool) : Nat → Nat := nSum (fun v => if R v = true then 1 else 0)
theorem hL_sum {c w : Nat} {R : Nat → Bool} (hc : c ≤ 10) (v : Nat) : hL c w R v false + hL c w R v true = if v = w then 10 - c else if R v = true then c else 10 := by
  unfold hL
  by_cases z : v = w
  · rw [if_pos z, if_pos z, if_pos z, if_neg (by decide), if_pos rfl]; rfl
  · rw [if_neg z, if_neg z, if_neg z]
    by_cases z2 : R v = true
    · rw [if_pos z2, if_pos z2, if_pos z2, if_neg (by decide), if_pos rfl]; omega
    · rw [if_neg z2, if_neg z2, if_neg z2, if_neg (by decide), if_pos rfl]; omega
theorem hL_prod {c w : Nat} {R : Nat → Bool} (hR : R w = false) : ∀ k : Nat, ∃ e : Nat, e + cntR R k + (if w < k then 1 else 0) = k ∧ prodN (fun v => if v = w then 10 - c else if R v = true then c else 10) k = (if w < k then 10 - c else 1) * c ^ cntR R k * 10 ^ e := by
  intro k
  induction k with
  | zero => exact ⟨0, by rw [if_neg (by omega)]; rfl, by rw [if_neg (by omega)]; rfl⟩
  | succ k ih =>
    obtain ⟨e, e1, e2⟩ := ih
    have ec : cntR R (k + 1) = cntR R k + (if R k = true then 1 else 0) := rfl
    rw [prodN, e2, ec]
    by_cases z : k = w
    · subst z
      refine ⟨e, ?_, ?_⟩
      · rw [hR]; rw [if_neg (by omega)] at e1; rw [if_neg (by decide), if_pos (by omega)]; omega
      · rw [hR, if_neg (show ¬ k < k by omega), if_pos (show k = k from rfl), if_pos (show k < k + 1 by omega), if_neg (show ¬ (false = true) by decide), Nat.add_zero, Nat.one_mul]
        simp only [Nat.mul_comm, Nat.mul_left_comm]
    · rw [if_neg z]
      by_cases z2 : R k = true
      · refine ⟨e, ?_, ?_⟩
        · rw [if_pos z2]
          by_cases z3 : w < k
          · rw [if_pos z3] at e1; rw [if_pos (by omega)]; omega
          · rw [if_neg z3] at e1; rw [if_neg (by omega)]; omega
        · rw [if_pos z2, if_pos z2, Nat.pow_succ]
          by_cases z3 : w < k
          · rw [if_pos z3, if_pos (show w < k + 1 by omega)]
            simp only [Nat.mul_assoc, Nat.mul_comm, Nat.mul_left_comm]
          · rw [if_neg z3, if_neg (show ¬ w < k + 1 by omega)]
            simp only [Nat.mul_assoc, Nat.mul_comm, Nat.mul_left_comm]
      · refine ⟨e + 1, ?_, ?_⟩
        · rw [if_neg z2]
          by_cases z3 : w < k
          · rw [if_pos z3] at e1; rw [if_pos (by omega)]; omega
          · rw [if_neg z3] at e1; rw [if_neg (by omega)]; omega
        · rw [if_neg z2, if_neg z2, Nat.pow_succ]
          by_cases z3 : w < k
          · rw [if_pos z3, if_pos (show w < k + 1 by omega), Nat.mul_assoc, Nat.add_zero]
          · rw [if_neg z3, if_neg (show ¬ w < k + 1 by omega), Nat.mul_assoc, Nat.add_zero]
/-- a set of damp works lets him read it whole -/
def okV (w : Nat) (R : Nat → Bool) (D v : Nat) : Bool := if v = w then !sD D v else (!R v || sD D v)
def okL (w : Nat) (R : Nat → Bool) (D : Nat) : Nat → Bool
  | 0 => true
  | k + 1 => okL w R D k && okV w R D k
theorem wt_ok (c w : Nat) (R : Nat → Bool) (D : Nat) : ∀ k : Nat, sWt c D k * (if okL w R D k = true then 1 else 0) = prodN (fun v => hL c w R v (sD D v)) k := by
  intro k
  induction k with
  | zero => rfl
  | succ k ih =>
    have es : sWt c D (k + 1) = sWt c D k * (if sD D k = true then c else 10 - c) := rfl
    have eo : okL w R D (k + 1) = (okL w R D k && okV w R D k) := rfl
    rw [prodN, ← ih, es, eo]
    have eh : hL c w R k (sD D k) = (if sD D k = true then c else 10 - c) * (if okV w R D k = true then 1 else 0) := by
      unfold hL okV
      by_cases z : k = w
      · rw [if_pos z, if_pos z]; cases sD D k <;> simp
      · rw [if_neg z, if_neg z]; cases sD D k <;> cases R k <;> simp
    rw [eh]
    cases okL w R D k <;> cases okV w R D k <;> simp
theorem okL_iff (w : Nat) (R : Nat → Bool) (D : Nat) : ∀ k : Nat, okL w R D k = true ↔ ∀ v, v < k → okV w R D v = true := by
  intro k
  induction k with
  | zero => exact ⟨fun _ v hv => by omega, fun _ => rfl⟩
  | succ k ih =>
    have eo : okL w R D (k + 1) = (okL w R D k && okV w R D k) := rfl
    rw [eo, Bool.and_eq_true, ih]
    constructor
    · intro h v hv
      by_cases z : v = k
      · subst z; exact h.2
      · exact h.1 v (by omega)
    · intro h; exact ⟨fun v hv => h v (by omega), h k (by omega)⟩
