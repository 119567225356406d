/-! NUMBERS: every int is rI of its value -/
theorem rI_toInt {z : Int} (h1 : -2147483648 ≤ z) (h2 : z < 2147483648) : (rI z).toInt = z := Int32.toInt_ofInt_of_le (by omega) (by omega)
theorem rI_of (x : Int32) : x = rI x.toInt := (Int32.ofInt_toInt x).symm
theorem i32_b (x : Int32) : -2147483648 ≤ x.toInt ∧ x.toInt < 2147483648 := ⟨by have := Int32.le_toInt x; omega, by have := Int32.toInt_lt x; omega⟩
theorem rI_add (a b : Int) : rI a + rI b = rI (a + b) := (Int32.ofInt_add a b).symm
theorem rI_sub (a b : Int) : rI a - rI b = rI (a - b) := (Int32.ofInt_sub a b).symm
theorem rI_mul (a b : Int) : rI a * rI b = rI (a * b) := (Int32.ofInt_mul a b).symm
theorem rI_neg (a : Int) : -rI a = rI (-a) := (Int32.ofInt_neg a).symm
theorem rI_0 : (0 : Int32) = rI 0 := rfl
theorem rI_lt {a b : Int} (h1 : -2147483648 ≤ a) (h2 : a < 2147483648) (h3 : -2147483648 ≤ b) (h4 : b < 2147483648) : (rI a < rI b) ↔ a < b := by rw [Int32.lt_iff_toInt_lt, rI_toInt h1 h2, rI_toInt h3 h4]
theorem rI_le {a b : Int} (h1 : -2147483648 ≤ a) (h2 : a < 2147483648) (h3 : -2147483648 ≤ b) (h4 : b < 2147483648) : (rI a ≤ rI b) ↔ a ≤ b := by rw [Int32.le_iff_toInt_le, rI_toInt h1 h2, rI_toInt h3 h4]
theorem rI_eq {a b : Int} (h1 : -2147483648 ≤ a) (h2 : a < 2147483648) (h3 : -2147483648 ≤ b) (h4 : b < 2147483648) : (rI a = rI b) ↔ a = b := by rw [← Int32.toInt_inj, rI_toInt h1 h2, rI_toInt h3 h4]
theorem rI_eq0 {a : Int} (h1 : -2147483648 ≤ a) (h2 : a < 2147483648) : (rI a = 0) ↔ a = 0 := by rw [rI_0]; exact rI_eq h1 h2 (by omega) (by omega)
theorem rI_lt0 {a : Int} (h1 : -2147483648 ≤ a) (h2 : a < 2147483648) : (rI a < 0) ↔ a < 0 := by rw [rI_0]; exact rI_lt h1 h2 (by omega) (by omega)
theorem rI_le0 {a : Int} (h1 : -2147483648 ≤ a) (h2 : a < 2147483648) : (rI a ≤ 0) ↔ a ≤ 0 := by rw [rI_0]; exact rI_le h1 h2 (by omega) (by omega)
theorem rI_ge0 {a : Int} (h1 : -2147483648 ≤ a) (h2 : a < 2147483648) : (0 ≤ rI a) ↔ 0 ≤ a := by rw [rI_0]; exact rI_le (by omega) (by omega) h1 h2
theorem rI_gt0 {a : Int} (h1 : -2147483648 ≤ a) (h2 : a < 2147483648) : (0 < rI a) ↔ 0 < a := by rw [rI_0]; exact rI_lt (by omega) (by omega) h1 h2
theorem rI_inj {a b : Int} (h1 : -2147483648 ≤ a) (h2 : a < 2147483648) (h3 : -2147483648 ≤ b) (h4 : b < 2147483648) (h : rI a = rI b) : a = b := (rI_eq h1 h2 h3 h4).mp h
/-- yes and no -/
theorem rb_0 {P : Prop} [Decidable P] : ((if P then rI 1 else rI 0) = 0) ↔ ¬ P := by
  by_cases h : P
  · rw [if_pos h]; exact ⟨fun q => absurd q (by decide), fun q => absurd h q⟩
  · rw [if_neg h]; exact ⟨fun _ => h, fun _ => rfl⟩
theorem rd_ok {σ : rp_S} {a n : Nat} {z : Int} (h1 : 0 ≤ z) (h2 : z < n) (h3 : z < 2147483648) : rq_rd σ a n (rI z) = some (σ a z.toNat) := by
  unfold rq_rd
  rw [rI_toInt (by omega) h3, if_pos ⟨h1, h2⟩]
theorem wr_ok {σ : rp_S} {a n : Nat} {z : Int} {x : Int32} (h1 : 0 ≤ z) (h2 : z < n) (h3 : z < 2147483648) : rq_wr σ a n (rI z) x = some (rp_up σ a z.toNat x) := by
  unfold rq_wr
  rw [rI_toInt (by omega) h3, if_pos ⟨h1, h2⟩]
theorem td_ok {i : Nat} {z : Int} (h1 : 0 ≤ z) (h2 : z < (rp_tab i).length) (h3 : z < 2147483648) : rq_td i (rI z) = some ((rp_tab i).getD z.toNat 0) := by
  unfold rq_td
  rw [rI_toInt (by omega) h3, if_pos ⟨h1, h2⟩]
theorem up_at (σ : rp_S) (a k : Nat) (v : Int32) (b j : Nat) : rp_up σ a k v b j = if b = a ∧ j = k then v else σ b j := by
  unfold rp_up
  by_cases h : b = a
  · subst h; by_cases h2 : j = k <;> simp [h2]
  · simp [h]
theorem up_ne {σ : rp_S} {a k : Nat} {v : Int32} {b : Nat} (h : b ≠ a) : rp_up σ a k v b = σ b := by
  unfold rp_up; rw [if_neg h]
theorem up_eq {σ : rp_S} {a k : Nat} {v : Int32} : rp_up σ a k v a k = v := by simp [up_at]
theorem up_nj {σ : rp_S} {a k : Nat} {v : Int32} {b j : Nat} (h : j ≠ k) : rp_up σ a k v b j = σ b j := by simp [up_at, h]
theorem cp_ne {σ : rp_S} {a b n c : Nat} (h : c ≠ b) : rp_cp σ a b n c = σ c := by
  unfold rp_cp; rw [if_neg h]
theorem cp_at {σ : rp_S} {a b n j : Nat} (h : j < n) : rp_cp σ a b n b j = σ a j := by
  unfold rp_cp; rw [if_pos rfl, if_pos h]
/-- divisions that go down -/
theorem rI_div {a b : Int} (h1 : 0 ≤ a) (h2 : a < 2147483648) (h3 : 0 < b) (h4 : b < 2147483648) : rI a / rI b = rI (a / b) := by
  rw [← Int32.toInt_inj, Int32.toInt_div_of_ne_left, rI_toInt (by omega) h2, rI_toInt (by omega) h4, rI_toInt, Int.tdiv_eq_ediv_of_nonneg h1]
  · have := Int.ediv_nonneg h1 (Int.le_of_lt h3); omega
  · have := Int.ediv_le_self b h1; omega
  · intro q
    have := congrArg Int32.toInt q
    rw [rI_toInt (by omega) h2] at this
    have h5 : Int32.minValue.toInt = -2147483648 := by decide
    omega
theorem rI_rem {a b : Int} (h1 : 0 ≤ a) (h2 : a < 2147483648) (h3 : 0 < b) (h4 : b < 2147483648) : rI a - rI a / rI b * rI b = rI (a % b) := by
  rw [rI_div h1 h2 h3 h4, rI_mul, rI_sub]
  congr 1
  have := Int.mul_ediv_add_emod a b
  rw [Int.mul_comm] at this
  omega
theorem irem_ok {a b : Int} (h1 : 0 ≤ a) (h2 : a < 2147483648) (h3 : 0 < b) (h4 : b < 2147483648) : rq_irem (rI a) (rI b) = some (rI (a % b)) := by
  unfold rq_irem
  rw [if_neg, rI_rem h1 h2 h3 h4]
  rw [rI_eq0 (by omega) h4]; omega
theorem idiv_ok {a b : Int} (h1 : 0 ≤ a) (h2 : a < 2147483648) (h3 : 0 < b) (h4 : b < 2147483648) : rq_idiv (rI a) (rI b) = some (rI (a / b)) := by
  unfold rq_idiv
  rw [if_neg, rI_div h1 h2 h3 h4]
  rw [rI_eq0 (by omega) h4]; omega
theorem max_ok {a b : Int} (h1 : -2147483648 ≤ a) (h2 : a < 2147483648) (h3 : -2147483648 ≤ b) (h4 : b < 2147483648) : rq_max (rI a) (rI b) = rI (if a < b then b else a) := by
  unfold rq_max
  by_cases h : a < b
  · rw [if_pos ((rI_lt h1 h2 h3 h4).mpr h), if_pos h]
  · rw [if_neg (fun q => h ((rI_lt h1 h2 h3 h4).mp q)), if_neg h]
theorem min_ok {a b : Int} (h1 : -2147483648 ≤ a) (h2 : a < 2147483648) (h3 : -2147483648 ≤ b) (h4 : b < 2147483648) : rq_min (rI a) (rI b) = rI (if b < a then b else a) := by
  unfold rq_min
  by_cases h : b < a
  · rw [if_pos ((rI_lt h3 h4 h1 h2).mpr h), if_pos h]
  · rw [if_neg (fun q => h ((rI_lt h3 h4 h1 h2).mp q)), if_neg h]
theorem abs_ok {a : Int} (h1 : -2147483648 ≤ a) (h2 : a < 2147483648) : rq_abs (rI a) = rI (if 0 ≤ a then a else 0 - a) := by
  unfold rq_abs
  by_cases h : 0 ≤ a
  · rw [if_pos ((rI_ge0 h1 h2).mpr h), if_pos h]
  · rw [if_neg (fun q => h ((rI_ge0 h1 h2).mp q)), if_neg h, rI_0, rI_sub]
/-! longs -/
theorem rJ_toInt {z : Int} (h1 : -9223372036854775808 ≤ z) (h2 : z < 9223372036854775808) : (rJ z).toInt = z := Int64.toInt_ofInt_of_le (by omega) (by omega)
theorem rJ_of (x : Int64) : x = rJ x.toInt := (Int64.ofInt_toInt x).symm
theorem rI_J {z : Int} (h1 : -2147483648 ≤ z) (h2 : z < 2147483648) : (rI z).toInt64 = rJ z := by
  rw [← Int64.toInt_inj, Int32.toInt_toInt64, rI_toInt h1 h2, rJ_toInt (by omega) (by omega)]
theorem cmp_ok {a b : Int} (h1 : -9223372036854775808 ≤ a) (h2 : a < 9223372036854775808) (h3 : -9223372036854775808 ≤ b) (h4 : b < 9223372036854775808) : lg_cmp (rJ a) (rJ b) = if b < a then 1 else if a = b then 0 else -1 := by
  have e1 : (rJ b < rJ a) ↔ b < a := by rw [Int64.lt_iff_toInt_lt, rJ_toInt h1 h2, rJ_toInt h3 h4]
  have e2 : (rJ a = rJ b) ↔ a = b := by rw [← Int64.toInt_inj, rJ_toInt h1 h2, rJ_toInt h3 h4]
  unfold lg_cmp
  simp only [e1, e2]
theorem cmp_lt0 {a b : Int} (h1 : -9223372036854775808 ≤ a) (h2 : a < 9223372036854775808) (h3 : -9223372036854775808 ≤ b) (h4 : b < 9223372036854775808) : (lg_cmp (rJ a) (rJ b) < 0) ↔ a < b := by
  rw [cmp_ok h1 h2 h3 h4]
  by_cases h : b < a
  · rw [if_pos h]; exact ⟨fun q => absurd q (by decide), fun q => by omega⟩
  · rw [if_neg h]
    by_cases h5 : a = b
    · rw [if_pos h5]; exact ⟨fun q => absurd q (by decide), fun q => by omega⟩
    · rw [if_neg h5]; exact ⟨fun _ => by omega, fun _ => by decide⟩
theorem cmp_gt0 {a b : Int} (h1 : -9223372036854775808 ≤ a) (h2 : a < 9223372036854775808) (h3 : -9223372036854775808 ≤ b) (h4 : b < 9223372036854775808) : (0 < lg_cmp (rJ a) (rJ b)) ↔ b < a := by
  rw [cmp_ok h1 h2 h3 h4]
  by_cases h : b < a
  · rw [if_pos h]; exact ⟨fun _ => h, fun _ => by decide⟩
  · rw [if_neg h]
    by_cases h5 : a = b
    · rw [if_pos h5]; exact ⟨fun q => absurd q (by decide), fun q => by omega⟩
    · rw [if_neg h5]; exact ⟨fun q => absurd q (by decide), fun q => by omega⟩
theorem cmp_eq0 {a b : Int} (h1 : -9223372036854775808 ≤ a) (h2 : a < 9223372036854775808) (h3 : -9223372036854775808 ≤ b) (h4 : b < 9223372036854775808) : (lg_cmp (rJ a) (rJ b) = 0) ↔ a = b := by
  rw [cmp_ok h1 h2 h3 h4]
  by_cases h : b < a
  · rw [if_pos h]; exact ⟨fun q => absurd q (by decide), fun q => by omega⟩
  · rw [if_neg h]
    by_cases h5 : a = b
    · rw [if_pos h5]; exact ⟨fun _ => h5, fun _ => rfl⟩
    · rw [if_neg h5]; exact ⟨fun q => absurd q (by decide), fun q => by omega⟩
theorem ob {α β : Type} (a : α) (f : α → Option β) : (some a).bind f = f a := by
  cases h : f a <;> simp [h]
/-! the small ones -/
theorem within_ok (v a b : Int32) : fX6_within v a b = some (if a.toInt ≤ v.toInt ∧ v.toInt ≤ b.toInt then rI 1 else rI 0) := by
  unfold fX6_within
  simp only [Int32.lt_iff_toInt_lt]
  by_cases h1 : v.toInt < a.toInt
  · rw [if_pos h1, if_neg (by omega)]
  · rw [if_neg h1]
    by_cases h2 : b.toInt < v.toInt
    · rw [if_pos h2, if_neg (by omega)]
    · rw [if_neg h2, if_pos (by omega)]
theorem in_ok {v a b : Int} (h1 : -9223372036854775808 ≤ v) (h2 : v < 9223372036854775808) (h3 : -9223372036854775808 ≤ a) (h4 : a < 9223372036854775808) (h5 : -9223372036854775808 ≤ b) (h6 : b < 9223372036854775808) : fX7_in (rJ v) (rJ a) (rJ b) = some (if a ≤ v ∧ v ≤ b then rI 1 else rI 0) := by
  unfold fX7_in
  simp only [cmp_lt0 h1 h2 h3 h4, cmp_gt0 h1 h2 h5 h6]
  by_cases q1 : v < a
  · rw [if_pos q1, if_neg (by omega)]
  · rw [if_neg q1]
    by_cases q2 : b < v
    · rw [if_pos q2, if_neg (by omega)]
    · rw [if_neg q2, if_pos (by omega)]
theorem inI_ok (v : Int32) {a b : Int} (h3 : -9223372036854775808 ≤ a) (h4 : a < 9223372036854775808) (h5 : -9223372036854775808 ≤ b) (h6 : b < 9223372036854775808) : fX7_in v.toInt64 (rJ a) (rJ b) = some (if a ≤ v.toInt ∧ v.toInt ≤ b then rI 1 else rI 0) := by
  have hb := i32_b v
  have e : v.toInt64 = rJ v.toInt := by rw [← Int64.toInt_inj, Int32.toInt_toInt64, rJ_toInt (by omega) (by omega)]
  rw [e]; exact in_ok (by omega) (by omega) h3 h4 h5 h6
