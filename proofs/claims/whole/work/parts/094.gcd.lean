/-! lowest terms -/
theorem rJ_mul (a b : Int) : rJ a * rJ b = rJ (a * b) := (Int64.ofInt_mul a b).symm
theorem rJ_sub (a b : Int) : rJ a - rJ b = rJ (a - b) := (Int64.ofInt_sub a b).symm
theorem rJ_div {a b : Int} (h1 : 0 ≤ a) (h2 : a < 9223372036854775808) (h3 : 0 < b) (h4 : b < 9223372036854775808) : rJ a / rJ b = rJ (a / b) := by
  rw [← Int64.toInt_inj, Int64.toInt_div_of_ne_left, rJ_toInt (by omega) h2, rJ_toInt (by omega) h4, rJ_toInt, Int.tdiv_eq_ediv_of_nonneg h1]
  · have := Int.ediv_nonneg h1 (Int.le_of_lt h3); omega
  · have := Int.ediv_le_self b h1; omega
  · intro q
    have := congrArg Int64.toInt q
    rw [rJ_toInt (by omega) h2] at this
    have e : Int64.minValue.toInt = -9223372036854775808 := by decide
    rw [e] at this
    omega
theorem rJ_ne0 {b : Int} (h3 : 0 < b) (h4 : b < 9223372036854775808) : ¬ rJ b = 0 := by
  intro q
  have := congrArg Int64.toInt q
  rw [rJ_toInt (by omega) h4] at this
  have e : (0 : Int64).toInt = 0 := by decide
  rw [e] at this
  omega
theorem ldiv_ok {a b : Nat} (h2 : a < 4611686018427387904) (h3 : 0 < b) (h4 : b < 4611686018427387904) : rq_ldiv (rJ (a : Int)) (rJ (b : Int)) = some (rJ ((a / b : Nat) : Int)) := by
  unfold rq_ldiv
  rw [if_neg (rJ_ne0 (by omega) (by omega)), rJ_div (by omega) (by omega) (by omega) (by omega)]
  rfl
theorem lrem_ok {a b : Nat} (h2 : a < 4611686018427387904) (h3 : 0 < b) (h4 : b < 4611686018427387904) : rq_lrem (rJ (a : Int)) (rJ (b : Int)) = some (rJ ((a % b : Nat) : Int)) := by
  unfold rq_lrem
  rw [if_neg (rJ_ne0 (by omega) (by omega)), rJ_div (by omega) (by omega) (by omega) (by omega), rJ_mul, rJ_sub]
  congr 2
  have := Int.mul_ediv_add_emod (a : Int) (b : Int)
  rw [Int.natCast_emod, Int.mul_comm]
  omega
theorem gs (a b : Nat) : Nat.gcd a b = Nat.gcd b (a % b) := by rw [Nat.gcd_comm a b, Nat.gcd_rec b a, Nat.gcd_comm]
theorem half {b c : Nat} (h : 0 < c) (h2 : c < b) : 2 * (b % c) < b := by
  have a1 := Nat.mod_lt b h
  have a2 := Nat.div_add_mod b c
  have a3 : 0 < b / c := Nat.div_pos (by omega) h
  have a4 : c ≤ c * (b / c) := Nat.le_mul_of_pos_right c a3
  omega
theorem cGcd : ∀ (k a b s f : Nat), a < 4611686018427387904 → b < 4611686018427387904 → b < 2 ^ k → s + 2 * k < 99 → 2 * k + 2 < f → fX6_greatestDivisor_9 f (rJ (a : Int)) (rJ (b : Int)) (rI (s : Int)) = some (rJ ((Nat.gcd a b : Nat) : Int)) := by
  have stop : ∀ (a s f : Nat), s < 100 → fX6_greatestDivisor_9 (f + 1) (rJ (a : Int)) (rJ ((0 : Nat) : Int)) (rI (s : Int)) = some (rJ ((Nat.gcd a 0 : Nat) : Int)) := by
    intro a s f hs
    rw [fX6_greatestDivisor_9, if_neg (by rw [rI_le (by omega) (by omega) (by omega) (by omega)]; omega), if_pos (show lg_cmp (rJ ((0 : Nat) : Int)) (rJ 0) = 0 from by decide), Nat.gcd_zero_right]
  have step : ∀ (a b s f : Nat), s < 100 → a < 4611686018427387904 → 0 < b → b < 4611686018427387904 → fX6_greatestDivisor_9 (f + 1) (rJ (a : Int)) (rJ (b : Int)) (rI (s : Int)) = fX6_greatestDivisor_9 f (rJ (b : Int)) (rJ ((a % b : Nat) : Int)) (rI ((s + 1 : Nat) : Int)) := by
    intro a b s f hs ha hb hb2
    rw [fX6_greatestDivisor_9, if_neg (by rw [rI_le (by omega) (by omega) (by omega) (by omega)]; omega), if_neg (by rw [cmp_eq0 (by omega) (by omega) (by omega) (by omega)]; omega), lrem_ok ha hb hb2, ob, iI_s]
  intro k
  induction k with
  | zero =>
    intro a b s f ha hb2 hb hs hf
    obtain ⟨f, rfl⟩ : ∃ q, f = q + 1 := ⟨f - 1, by omega⟩
    have e : b = 0 := by omega
    subst e
    exact stop a s f (by omega)
  | succ k ih =>
    intro a b s f ha hb2 hb hs hf
    obtain ⟨f, rfl⟩ : ∃ q, f = q + 3 := ⟨f - 3, by omega⟩
    by_cases z : b = 0
    · subst z; exact stop a s (f + 2) (by omega)
    · rw [step a b s (f + 2) (by omega) ha (by omega) hb2, gs a b]
      have m1 := Nat.mod_lt a (show 0 < b by omega)
      by_cases z2 : a % b = 0
      · rw [z2]; exact stop b (s + 1) (f + 1) (by omega)
      · rw [step b (a % b) (s + 1) (f + 1) (by omega) hb2 (by omega) (by omega), gs b (a % b)]
        have m2 := half (show 0 < a % b by omega) m1
        have e2 : 2 ^ (k + 1) = 2 * 2 ^ k := by rw [Nat.pow_succ, Nat.mul_comm]
        exact ih (a % b) (b % (a % b)) (s + 1 + 1) (f + 1) (by omega) (by omega) (by omega) (by omega) (by omega)
theorem mGcd (x y : Int64) (v : Int32) : ∀ (k a b f : Nat), a < 4611686018427387904 → b < 4611686018427387904 → b < 2 ^ k → 2 * k + 2 < f → fX7_lowest_6 f x y v (rJ (a : Int)) (rJ (b : Int)) = if v = 0 then fX7_lowest_41 (rJ ((Nat.gcd a b : Nat) : Int)) x else fX7_lowest_41 (rJ ((Nat.gcd a b : Nat) : Int)) y := by
  have stop : ∀ (a f : Nat), fX7_lowest_6 (f + 1) x y v (rJ (a : Int)) (rJ ((0 : Nat) : Int)) = if v = 0 then fX7_lowest_41 (rJ ((Nat.gcd a 0 : Nat) : Int)) x else fX7_lowest_41 (rJ ((Nat.gcd a 0 : Nat) : Int)) y := by
    intro a f
    rw [fX7_lowest_6, if_pos (show lg_cmp (rJ ((0 : Nat) : Int)) (rJ 0) = 0 from by decide), Nat.gcd_zero_right]
  have step : ∀ (a b f : Nat), a < 4611686018427387904 → 0 < b → b < 4611686018427387904 → fX7_lowest_6 (f + 1) x y v (rJ (a : Int)) (rJ (b : Int)) = fX7_lowest_6 f x y v (rJ (b : Int)) (rJ ((a % b : Nat) : Int)) := by
    intro a b f ha hb hb2
    rw [fX7_lowest_6, if_neg (by rw [cmp_eq0 (by omega) (by omega) (by omega) (by omega)]; omega), lrem_ok ha hb hb2, ob]
  intro k
  induction k with
  | zero =>
    intro a b f ha hb2 hb hf
    obtain ⟨f, rfl⟩ : ∃ q, f = q + 1 := ⟨f - 1, by omega⟩
    have e : b = 0 := by omega
    subst e
    exact stop a f
  | succ k ih =>
    intro a b f ha hb2 hb hf
    obtain ⟨f, rfl⟩ : ∃ q, f = q + 3 := ⟨f - 3, by omega⟩
    by_cases z : b = 0
    · subst z; exact stop a (f + 2)
    · rw [step a b (f + 2) ha (by omega) hb2, gs a b]
      have m1 := Nat.mod_lt a (show 0 < b by omega)
      by_cases z2 : a % b = 0
      · rw [z2]; exact stop b (f + 1)
      · rw [step b (a % b) (f + 1) hb2 (by omega) (by omega), gs b (a % b)]
        have m2 := half (show 0 < a % b by omega) m1
        have e2 : 2 ^ (k + 1) = 2 * 2 ^ k := by rw [Nat.pow_succ, Nat.mul_comm]
        exact ih (a % b) (b % (a % b)) (f + 1) (by omega) (by omega) (by omega) (by omega)
theorem cPart {a b : Nat} (ha : a < 4611686018427387904) (hb : 0 < b) (hb2 : b < 2 ^ 40) (v : Int32) : fX6_partOf (rJ (a : Int)) (rJ (b : Int)) v = some (if v = 0 then rJ ((a / Nat.gcd a b : Nat) : Int) else rJ ((b / Nat.gcd a b : Nat) : Int)) := by
  have g1 := Nat.gcd_pos_of_pos_right a hb
  have g2 := Nat.le_of_dvd hb (Nat.gcd_dvd_right a b)
  have hb3 : b < 4611686018427387904 := by omega
  have e := cGcd 40 a b 0 1000 ha hb3 hb2 (by omega) (by omega)
  unfold fX6_partOf fX6_greatestDivisor
  have e' : fX6_greatestDivisor_9 1000 (rJ (a : Int)) (rJ (b : Int)) (rI 0) = some (rJ ((Nat.gcd a b : Nat) : Int)) := e
  obtain ⟨d, hd⟩ : ∃ d, d = Nat.gcd a b := ⟨_, rfl⟩
  rw [← hd] at e' g1 g2 ⊢
  have c : 0 ≤ lg_cmp (rJ (d : Int)) (rJ 1) := by
    rw [cmp_ok (by omega) (by omega) (by omega) (by omega)]
    by_cases z : (1 : Int) < d
    · rw [if_pos z]; decide
    · rw [if_neg z, if_pos (by omega)]; decide
  rw [e', ob, if_pos c, ldiv_ok ha g1 (by omega), ob, ldiv_ok hb3 g1 (by omega), ob]
  by_cases z : v = 0
  · rw [if_pos z, if_pos z]
  · rw [if_neg z, if_neg z]
theorem mPart {a b : Nat} (ha : a < 4611686018427387904) (hb : 0 < b) (hb2 : b < 2 ^ 40) (v : Int32) : fX7_lowest (rJ (a : Int)) (rJ (b : Int)) v = some (if v = 0 then rJ ((a / Nat.gcd a b : Nat) : Int) else rJ ((b / Nat.gcd a b : Nat) : Int)) := by
  have g1 := Nat.gcd_pos_of_pos_right a hb
  have g2 := Nat.le_of_dvd hb (Nat.gcd_dvd_right a b)
  have hb3 : b < 4611686018427387904 := by omega
  have e := mGcd (rJ (a : Int)) (rJ (b : Int)) v 40 a b 1000 ha hb3 hb2 (by omega)
  unfold fX7_lowest
  refine Eq.trans e ?_
  unfold fX7_lowest_41
  obtain ⟨d, hd⟩ : ∃ d, d = Nat.gcd a b := ⟨_, rfl⟩
  rw [← hd] at g1 g2 ⊢
  rw [ldiv_ok ha g1 (by omega), ob, ldiv_ok hb3 g1 (by omega), ob]
  by_cases z : v = 0
  · rw [if_pos z, if_pos z]
  · rw [if_neg z, if_neg z]
/-- the same part of the same whole -/
theorem part_scale {a b t : Nat} (ht : 0 < t) : a * t / Nat.gcd (a * t) (b * t) = a / Nat.gcd a b ∧ b * t / Nat.gcd (a * t) (b * t) = b / Nat.gcd a b := by
  rw [Nat.gcd_mul_right]
  exact ⟨Nat.mul_div_mul_right _ _ ht, Nat.mul_div_mul_right _ _ ht⟩
