/-! sums over the sets of damp works -/
def nSum (f : Nat → Nat) : Nat → Nat
  | 0 => 0
  | k + 1 => nSum f k + f k
def prodN (f : Nat → Nat) : Nat → Nat
  | 0 => 1
  | k + 1 => prodN f k * f k
theorem nSum_congr {f h : Nat → Nat} : ∀ k : Nat, (∀ i, i < k → f i = h i) → nSum f k = nSum h k := by
  intro k
  induction k with
  | zero => intro _; rfl
  | succ k ih => intro q; rw [nSum, nSum, ih (fun i hi => q i (by omega)), q k (by omega)]
theorem prodN_congr {f h : Nat → Nat} : ∀ k : Nat, (∀ i, i < k → f i = h i) → prodN f k = prodN h k := by
  intro k
  induction k with
  | zero => intro _; rfl
  | succ k ih => intro q; rw [prodN, prodN, ih (fun i hi => q i (by omega)), q k (by omega)]
theorem nSum_mul (f : Nat → Nat) (c : Nat) : ∀ k : Nat, nSum (fun i => f i * c) k = nSum f k * c := by
  intro k
  induction k with
  | zero => rw [nSum, nSum, Nat.zero_mul]
  | succ k ih => rw [nSum, nSum, ih, Nat.add_mul]
theorem nSum_add (f h : Nat → Nat) : ∀ k : Nat, nSum (fun i => f i + h i) k = nSum f k + nSum h k := by
  intro k
  induction k with
  | zero => rfl
  | succ k ih => rw [nSum, nSum, nSum, ih]; omega
theorem nSum_split (f : Nat → Nat) (a : Nat) : ∀ b : Nat, nSum f (a + b) = nSum f a + nSum (fun i => f (a + i)) b := by
  intro b
  induction b with
  | zero => rfl
  | succ b ih => rw [← Nat.add_assoc, nSum, nSum, ih, Nat.add_assoc]
theorem sD_top {N D : Nat} (h : D < 2 ^ N) : sD D N = false := by
  unfold sD; rw [Nat.div_eq_of_lt h]; rfl
theorem sD_top1 {N D : Nat} (h : D < 2 ^ N) : sD (2 ^ N + D) N = true := by
  unfold sD; rw [Nat.add_comm, Nat.add_div_right _ (Nat.two_pow_pos N), Nat.div_eq_of_lt h]; rfl
theorem sD_low {N D w : Nat} (h : w < N) : sD (2 ^ N + D) w = sD D w := by
  unfold sD
  rw [Nat.add_comm, show 2 ^ N = 2 ^ w * (2 * 2 ^ (N - w - 1)) by rw [← Nat.pow_succ', ← Nat.pow_add]; congr 1; omega, Nat.add_mul_div_left _ _ (Nat.two_pow_pos w), Nat.add_mul_mod_self_left]
theorem prodsum (h : Nat → Bool → Nat) : ∀ N : Nat, nSum (fun D => prodN (fun w => h w (sD D w)) N) (2 ^ N) = prodN (fun w => h w false + h w true) N := by
  intro N
  induction N with
  | zero => rfl
  | succ N ih =>
    have e1 : nSum (fun D => prodN (fun w => h w (sD D w)) (N + 1)) (2 ^ N) = nSum (fun D => prodN (fun w => h w (sD D w)) N) (2 ^ N) * h N false := by
      rw [← nSum_mul]
      refine nSum_congr _ (fun D hD => ?_)
      show prodN _ (N + 1) = _
      rw [prodN, sD_top hD]
    have e2 : nSum (fun D => prodN (fun w => h w (sD (2 ^ N + D) w)) (N + 1)) (2 ^ N) = nSum (fun D => prodN (fun w => h w (sD D w)) N) (2 ^ N) * h N true := by
      rw [← nSum_mul]
      refine nSum_congr _ (fun D hD => ?_)
      show prodN _ (N + 1) = _
      rw [prodN, sD_top1 hD]
      congr 1
      exact prodN_congr N (fun w hw => by rw [sD_low hw])
    rw [Nat.pow_succ, Nat.mul_two, nSum_split, e1, e2, ih, prodN, Nat.mul_add]
theorem prodN_const (c : Nat) : ∀ k : Nat, prodN (fun _ => c) k = c ^ k := by
  intro k
  induction k with
  | zero => rfl
  | succ k ih => rw [prodN, ih, Nat.pow_succ]
theorem cPower {c : Nat} (hc : c ≤ 10) {k : Nat} (hk : k ≤ 7) : fX6_power (rJ (c : Int)) (rI (k : Int)) = some (rJ ((c ^ k : Nat) : Int)) := by
  have loop : ∀ (t i f : Nat), t < f → i + t = k → fX6_power_5 f (rJ (c : Int)) (rI (k : Int)) (rJ ((c ^ i : Nat) : Int)) (rI (i : Int)) = some (rJ ((c ^ k : Nat) : Int)) := by
    intro t
    induction t with
    | zero =>
      intro i f hf hi
      obtain ⟨f, rfl⟩ : ∃ q, f = q + 1 := ⟨f - 1, by omega⟩
      have e : i = k := by omega
      subst e
      rw [fX6_power_5, if_pos (by rw [rI_le (by omega) (by omega) (by omega) (by omega)]; omega)]
    | succ t ih =>
      intro i f hf hi
      obtain ⟨f, rfl⟩ : ∃ q, f = q + 1 := ⟨f - 1, by omega⟩
      have e := ih (i + 1) f (by omega) (by omega)
      rw [Nat.pow_succ, Int.natCast_mul] at e
      rw [fX6_power_5, if_neg (by rw [rI_le (by omega) (by omega) (by omega) (by omega)]; omega), rJ_mul, iI_s]
      exact e
  unfold fX6_power
  exact loop k 0 1000 (by omega) (by omega)
/-- the weight of a set of damp works -/
def sWt (c : Nat) (D : Nat) : Nat → Nat := prodN (fun w => if sD D w = true then c else 10 - c)
theorem sWt_b {c : Nat} (hc : c ≤ 10) (D : Nat) : ∀ k, sWt c D k ≤ 10 ^ k := by
  intro k
  induction k with
  | zero => exact Nat.le_refl _
  | succ k ih =>
    unfold sWt at ih ⊢
    rw [prodN, Nat.pow_succ]
    exact Nat.mul_le_mul ih (by split <;> omega)
