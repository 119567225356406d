/-! SUMS AND BITS of a night -/
theorem or_bit : ∀ w : Nat, w < 12 → ∀ b : Nat, b < 2 ^ w → (rI (b : Int)) ||| ((rI 1) <<< ((rI (w : Int)) &&& 31)) = rI ((b + 2 ^ w : Nat) : Int) := by decide +kernel
theorem or_0 (x : Int32) : x ||| rI 0 = x := by
  have : rI 0 = 0 := rfl
  rw [this]; exact Int32.or_zero
/-- the bits of those that are so -/
def sBits (P : Nat → Bool) : Nat → Nat
  | 0 => 0
  | k + 1 => sBits P k + (if P k then 2 ^ k else 0)
theorem sBits_b (P : Nat → Bool) : ∀ k : Nat, sBits P k < 2 ^ k := by
  intro k
  induction k with
  | zero => rw [sBits]; decide
  | succ k ih => rw [sBits, Nat.pow_succ]; split <;> omega
theorem or_yes {P : Nat → Bool} {k : Nat} (hk : k < 12) (h : P k = true) : (rI (sBits P k : Nat)) ||| ((rI 1) <<< ((rI (k : Int)) &&& 31)) = rI (sBits P (k + 1) : Nat) := by
  rw [or_bit k hk _ (sBits_b P k), sBits, if_pos h]
theorem or_no {P : Nat → Bool} {k : Nat} (h : P k = false) : sBits P (k + 1) = sBits P k := by
  rw [sBits, if_neg (by rw [h]; decide), Nat.add_zero]
/-- sums -/
def sSum (F : Nat → Int) : Nat → Int
  | 0 => 0
  | k + 1 => sSum F k + F k
theorem sSum_b {F : Nat → Int} {B : Int} (h : ∀ k, 0 ≤ F k ∧ F k ≤ B) : ∀ k : Nat, 0 ≤ sSum F k ∧ sSum F k ≤ B * k := by
  intro k
  induction k with
  | zero => rw [sSum]; omega
  | succ k ih =>
    have := h k
    rw [sSum]
    have e : B * ((k + 1 : Nat) : Int) = B * k + B := by rw [show ((k + 1 : Nat) : Int) = (k : Int) + 1 from rfl, Int.mul_add, Int.mul_one]
    omega
theorem sSum_congr {F G : Nat → Int} : ∀ k : Nat, (∀ i, i < k → F i = G i) → sSum F k = sSum G k := by
  intro k
  induction k with
  | zero => intro _; rfl
  | succ k ih => intro h; rw [sSum, sSum, ih (fun i hi => h i (by omega)), h k (by omega)]
theorem sSum_add (F G : Nat → Int) : ∀ k : Nat, sSum (fun i => F i + G i) k = sSum F k + sSum G k := by
  intro k
  induction k with
  | zero => rfl
  | succ k ih => rw [sSum, sSum, sSum, ih]; omega
theorem sSum_swap (F : Nat → Nat → Int) (n : Nat) : ∀ k : Nat, sSum (fun i => sSum (F i) n) k = sSum (fun j => sSum (fun i => F i j) k) n := by
  intro k
  induction k with
  | zero =>
    rw [sSum]
    have : ∀ n : Nat, sSum (fun j => sSum (fun i => F i j) 0) n = 0 := by
      intro n
      induction n with
      | zero => rfl
      | succ n ih => rw [sSum, ih, sSum]; rfl
    rw [this]
  | succ k ih =>
    rw [sSum, ih, ← sSum_add]
    exact sSum_congr n (fun j _ => rfl)
theorem sSum_zero {F : Nat → Int} : ∀ k : Nat, (∀ i, i < k → F i = 0) → sSum F k = 0 := by
  intro k
  induction k with
  | zero => intro _; rfl
  | succ k ih => intro h; rw [sSum, ih (fun i hi => h i (by omega)), h k (by omega)]; rfl
theorem sSum_ext {F : Nat → Int} {a : Nat} (h : ∀ i, a ≤ i → F i = 0) : ∀ k : Nat, sSum F (a + k) = sSum F a := by
  intro k
  induction k with
  | zero => rfl
  | succ k ih => rw [show a + (k + 1) = (a + k) + 1 from rfl, sSum, ih, h _ (by omega), Int.add_zero]
theorem sCnt_sum (g : Nat → Int) (d : Nat → Bool) (r w : Nat) : ∀ n : Nat, sCnt g d r w n = sSum (fun m => if sLook g d r m = w then 1 else 0) n := by
  intro n
  induction n with
  | zero => rfl
  | succ n ih => rw [sCnt, sSum, ih]
theorem sHit_sum (g : Nat → Int) (d : Nat → Bool) (m : Int) : ∀ k : Nat, sHit g d m k = sSum (fun r => if sLook g d r m = -4 then 0 else 1) k := by
  intro k
  induction k with
  | zero => rfl
  | succ k ih => rw [sHit, sSum, ih]
theorem sMin_sum (g : Nat → Int) (d : Nat → Bool) : ∀ n : Nat, sMin g d n = sSum (fun m => sHit g d m (g 33).toNat) n := by
  intro n
  induction n with
  | zero => rfl
  | succ n ih => rw [sMin, sSum, ih]
theorem sWr_sum (g : Nat → Int) (d : Nat → Bool) (r : Nat) : ∀ k : Nat, sWr g d r k = sSum (fun w => if sWhole g d r w then 1 else 0) k := by
  intro n
  induction n with
  | zero => rfl
  | succ n ih => rw [sWr, sSum, ih]
theorem sWs_sum (g : Nat → Int) (d : Nat → Bool) : ∀ k : Nat, sWs g d k = sSum (fun r => sWr g d r (g 24).toNat) k := by
  intro n
  induction n with
  | zero => rfl
  | succ n ih => rw [sWs, sSum, ih]
theorem one_of {x : Int} : ∀ W : Nat, (x = -4 ∨ (0 ≤ x ∧ x < W)) → sSum (fun w : Nat => if x = (w : Int) then 1 else 0) W = if x = -4 then 0 else 1 := by
  intro W
  induction W with
  | zero => intro h; rw [sSum, if_pos (by omega)]
  | succ W ih =>
    intro h
    rw [sSum]
    by_cases q : x = (W : Int)
    · rw [if_pos q, if_neg (by omega), sSum_zero W (fun i hi => if_neg (by omega))]; rfl
    · rw [if_neg q, Int.add_zero]
      exact ih (by omega)
/-- a reader's minutes are those in which he looks at any -/
theorem min_r {g : Nat → Int} (hV : sV g) (d : Nat → Bool) (r : Nat) : sSum (fun w => sRead g d r w) (g 24).toNat = sSum (fun m : Nat => if sLook g d r m = -4 then 0 else 1) 80 := by
  have v1 := hV.1
  have e1 : sSum (fun w => sRead g d r w) (g 24).toNat = sSum (fun w => sSum (fun m : Nat => if sLook g d r m = (w : Int) then 1 else 0) 80) (g 24).toNat := sSum_congr _ (fun w _ => sCnt_sum g d r w 80)
  rw [e1, sSum_swap]
  refine sSum_congr 80 (fun m _ => one_of _ ?_)
  have := sLook_b d r m v1.1
  omega
theorem read_out {g : Nat → Int} (hV : sV g) (d : Nat → Bool) (r w : Nat) (h : g 24 ≤ w) : sRead g d r w = 0 := by
  unfold sRead
  rw [sCnt_sum]
  refine sSum_zero 80 (fun m _ => if_neg ?_)
  have := sLook_b d r m hV.1.1
  omega
theorem min_all {g : Nat → Int} (hV : sV g) (d : Nat → Bool) : sSum (fun r => sSum (fun w => sRead g d r w) (g 24).toNat) (g 33).toNat = sMin g d 80 := by
  have e1 : sSum (fun r => sSum (fun w => sRead g d r w) (g 24).toNat) (g 33).toNat = sSum (fun r => sSum (fun m : Nat => if sLook g d r m = -4 then 0 else 1) 80) (g 33).toNat := sSum_congr _ (fun r _ => min_r hV d r)
  rw [e1, sSum_swap, sMin_sum]
  exact sSum_congr 80 (fun m _ => (sHit_sum g d m _).symm)
section SUQ
variable {σ : rp_S} {g : Nat → Int} {d : Nat → Bool}
theorem cMinOf (hS : SH σ g d) (hV : sV g) {r : Nat} (hr : (r : Int) < g 33) : fX3_minutesOf σ (rI r) = some (rI (sSum (fun w => sRead g d r w) (g 24).toNat)) := by
  have v1 := hV.1
  have loop : ∀ (k w n : Nat), k < n → (w : Int) + k = g 24 → fX3_minutesOf_4 σ n (rI r) (rI (sSum (fun w => sRead g d r w) w)) (rI w) = some (rI (sSum (fun w => sRead g d r w) (g 24).toNat)) := by
    intro k
    induction k with
    | zero =>
      intro w n hn hw
      obtain ⟨n, rfl⟩ : ∃ q, n = q + 1 := ⟨n - 1, by omega⟩
      rw [fX3_minutesOf_4, hS.1.1, if_pos (by rw [rI_le (by omega) (by omega) (by omega) (by omega)]; omega), show (g 24).toNat = w by omega]
    | succ k ih =>
      intro w n hn hw
      obtain ⟨n, rfl⟩ : ∃ q, n = q + 1 := ⟨n - 1, by omega⟩
      rw [fX3_minutesOf_4, hS.1.1, if_neg (by rw [rI_le (by omega) (by omega) (by omega) (by omega)]; omega), cMinAt hS hV hr (by omega), ob, rI_add, iI_s]
      exact ih (w + 1) n (by omega) (by omega)
  unfold fX3_minutesOf
  exact loop (g 24).toNat 0 1000 (by omega) (by omega)
theorem cMinBy (hS : SH σ g d) (hV : sV g) {w : Nat} (hw : (w : Int) < g 24) : fX3_minutesByAll σ (rI w) = some (rI (sSum (fun r => sRead g d r w) (g 33).toNat)) := by
  have v1 := hV.2.1
  have loop : ∀ (k r n : Nat), k < n → (r : Int) + k = g 33 → fX3_minutesByAll_4 σ n (rI w) (rI (sSum (fun r => sRead g d r w) r)) (rI r) = some (rI (sSum (fun r => sRead g d r w) (g 33).toNat)) := by
    intro k
    induction k with
    | zero =>
      intro r n hn hr
      obtain ⟨n, rfl⟩ : ∃ q, n = q + 1 := ⟨n - 1, by omega⟩
      rw [fX3_minutesByAll_4, hS.1.2.1, if_pos (by rw [rI_le (by omega) (by omega) (by omega) (by omega)]; omega), show (g 33).toNat = r by omega]
    | succ k ih =>
      intro r n hn hr
      obtain ⟨n, rfl⟩ : ∃ q, n = q + 1 := ⟨n - 1, by omega⟩
      rw [fX3_minutesByAll_4, hS.1.2.1, if_neg (by rw [rI_le (by omega) (by omega) (by omega) (by omega)]; omega), cMinAt hS hV (by omega) hw, ob, rI_add, iI_s]
      exact ih (r + 1) n (by omega) (by omega)
  unfold fX3_minutesByAll
  exact loop (g 33).toNat 0 1000 (by omega) (by omega)
theorem cMinAll (hS : SH σ g d) (hV : sV g) : fX3_minutesOfAll σ = some (rI (sMin g d 80)) := by
  have v1 := hV.1
  have v2 := hV.2.1
  have inner : ∀ (k4 : Int32 → Int32 → Option Int32) (r : Nat), (r : Int) < g 33 → ∀ (k w n : Nat) (c : Int), k < n → (w : Int) + k = g 24 → fX3_minutesOfAll_17 σ k4 n (rI (c + sSum (fun w => sRead g d r w) w)) (rI r) (rI w) = k4 (rI (c + sSum (fun w => sRead g d r w) (g 24).toNat)) (rI ((r + 1 : Nat) : Int)) := by
    intro k4 r hr k
    induction k with
    | zero =>
      intro w n c hn hw
      obtain ⟨n, rfl⟩ : ∃ q, n = q + 1 := ⟨n - 1, by omega⟩
      rw [fX3_minutesOfAll_17, hS.1.1, if_pos (by rw [rI_le (by omega) (by omega) (by omega) (by omega)]; omega), show (g 24).toNat = w by omega, iI_s]
    | succ k ih =>
      intro w n c hn hw
      obtain ⟨n, rfl⟩ : ∃ q, n = q + 1 := ⟨n - 1, by omega⟩
      rw [fX3_minutesOfAll_17, hS.1.1, if_neg (by rw [rI_le (by omega) (by omega) (by omega) (by omega)]; omega), cMinAt hS hV hr (by omega), ob, rI_add, iI_s, Int.add_assoc]
      exact ih (w + 1) n c (by omega) (by omega)
  have outer : ∀ (k r n : Nat), k < n → (r : Int) + k = g 33 → fX3_minutesOfAll_4 σ n (rI (sSum (fun r => sSum (fun w => sRead g d r w) (g 24).toNat) r)) (rI r) = some (rI (sSum (fun r => sSum (fun w => sRead g d r w) (g 24).toNat) (g 33).toNat)) := by
    intro k
    induction k with
    | zero =>
      intro r n hn hr
      obtain ⟨n, rfl⟩ : ∃ q, n = q + 1 := ⟨n - 1, by omega⟩
      rw [fX3_minutesOfAll_4, hS.1.2.1, if_pos (by rw [rI_le (by omega) (by omega) (by omega) (by omega)]; omega), show (g 33).toNat = r by omega]
    | succ k ih =>
      intro r n hn hr
      obtain ⟨n, rfl⟩ : ∃ q, n = q + 1 := ⟨n - 1, by omega⟩
      rw [fX3_minutesOfAll_4, hS.1.2.1, if_neg (by rw [rI_le (by omega) (by omega) (by omega) (by omega)]; omega)]
      have e := inner (fun v1 v2 => fX3_minutesOfAll_4 σ n v1 v2) r (by omega) (g 24).toNat 0 1000 (sSum (fun r => sSum (fun w => sRead g d r w) (g 24).toNat) r) (by omega) (by omega)
      rw [sSum.eq_1 (fun w => sRead g d r w), Int.add_zero, show rI ((0 : Nat) : Int) = rI 0 from rfl] at e
      rw [e]
      exact ih (r + 1) n (by omega) (by omega)
  unfold fX3_minutesOfAll
  rw [← min_all hV d]
  exact outer (g 33).toNat 0 1000 (by omega) (by omega)
theorem cWhAll (hS : SH σ g d) (hV : sV g) : fX3_wholesOfAll σ = some (rI (sWs g d (g 33).toNat)) := by
  have v1 := hV.1
  have v2 := hV.2.1
  have inner : ∀ (k4 : Int32 → Int32 → Option Int32) (r : Nat), (r : Int) < g 33 → ∀ (k w n : Nat) (c : Int), k < n → (w : Int) + k = g 24 → fX3_wholesOfAll_17 σ k4 n (rI (c + sWr g d r w)) (rI r) (rI w) = k4 (rI (c + sWr g d r (g 24).toNat)) (rI ((r + 1 : Nat) : Int)) := by
    intro k4 r hr k
    induction k with
    | zero =>
      intro w n c hn hw
      obtain ⟨n, rfl⟩ : ∃ q, n = q + 1 := ⟨n - 1, by omega⟩
      rw [fX3_wholesOfAll_17, hS.1.1, if_pos (by rw [rI_le (by omega) (by omega) (by omega) (by omega)]; omega), show (g 24).toNat = w by omega, iI_s]
    | succ k ih =>
      intro w n c hn hw
      obtain ⟨n, rfl⟩ : ∃ q, n = q + 1 := ⟨n - 1, by omega⟩
      have e := ih (w + 1) n c (by omega) (by omega)
      rw [sWr] at e
      rw [fX3_wholesOfAll_17, hS.1.1, if_neg (by rw [rI_le (by omega) (by omega) (by omega) (by omega)]; omega), cWhole hS hV hr (by omega), ob]
      unfold fX3_wholesOfAll_40
      simp only [rb_0, iI_s]
      by_cases q : sWhole g d r w
      · rw [if_pos q] at e
        rw [if_neg (fun z => z q), rI_add, Int.add_assoc]
        exact e
      · rw [if_neg q, Int.add_zero] at e
        rw [if_pos q]
        exact e
  have outer : ∀ (k r n : Nat), k < n → (r : Int) + k = g 33 → fX3_wholesOfAll_4 σ n (rI (sWs g d r)) (rI r) = some (rI (sWs g d (g 33).toNat)) := by
    intro k
    induction k with
    | zero =>
      intro r n hn hr
      obtain ⟨n, rfl⟩ : ∃ q, n = q + 1 := ⟨n - 1, by omega⟩
      rw [fX3_wholesOfAll_4, hS.1.2.1, if_pos (by rw [rI_le (by omega) (by omega) (by omega) (by omega)]; omega), show (g 33).toNat = r by omega]
    | succ k ih =>
      intro r n hn hr
      obtain ⟨n, rfl⟩ : ∃ q, n = q + 1 := ⟨n - 1, by omega⟩
      rw [fX3_wholesOfAll_4, hS.1.2.1, if_neg (by rw [rI_le (by omega) (by omega) (by omega) (by omega)]; omega)]
      have e := inner (fun v1 v2 => fX3_wholesOfAll_4 σ n v1 v2) r (by omega) (g 24).toNat 0 1000 (sWs g d r) (by omega) (by omega)
      rw [sWr.eq_1, Int.add_zero, show rI ((0 : Nat) : Int) = rI 0 from rfl] at e
      rw [e]
      exact ih (r + 1) n (by omega) (by omega)
  unfold fX3_wholesOfAll
  exact outer (g 33).toNat 0 1000 (by omega) (by omega)
theorem cWorksWh (hS : SH σ g d) (hV : sV g) {r : Nat} (hr : (r : Int) < g 33) : fX3_worksWhole σ (rI r) = some (rI (sBits (fun w => decide (sWhole g d r w)) (g 24).toNat : Nat)) := by
  have v1 := hV.1
  have loop : ∀ (k w n : Nat), k < n → (w : Int) + k = g 24 → fX3_worksWhole_4 σ n (rI r) (rI (sBits (fun w => decide (sWhole g d r w)) w : Nat)) (rI w) = some (rI (sBits (fun w => decide (sWhole g d r w)) (g 24).toNat : Nat)) := by
    intro k
    induction k with
    | zero =>
      intro w n hn hw
      obtain ⟨n, rfl⟩ : ∃ q, n = q + 1 := ⟨n - 1, by omega⟩
      rw [fX3_worksWhole_4, hS.1.1, if_pos (by rw [rI_le (by omega) (by omega) (by omega) (by omega)]; omega), show (g 24).toNat = w by omega]
    | succ k ih =>
      intro w n hn hw
      obtain ⟨n, rfl⟩ : ∃ q, n = q + 1 := ⟨n - 1, by omega⟩
      rw [fX3_worksWhole_4, hS.1.1, if_neg (by rw [rI_le (by omega) (by omega) (by omega) (by omega)]; omega), cWhole hS hV hr (by omega), ob]
      unfold fX3_worksWhole_30
      simp only [rb_0, iI_s]
      have e := ih (w + 1) n (by omega) (by omega)
      by_cases q : sWhole g d r w
      · rw [if_neg (fun z => z q), or_yes (by omega) (decide_eq_true q)]
        exact e
      · rw [if_pos q]
        rw [or_no (decide_eq_false q)] at e
        exact e
  unfold fX3_worksWhole
  exact loop (g 24).toNat 0 1000 (by omega) (by omega)
theorem cReadersWh (hS : SH σ g d) (hV : sV g) {w : Nat} (hw : (w : Int) < g 24) : fX3_readersWhole σ (rI w) = some (rI (sBits (fun r => decide (sWhole g d r w)) (g 33).toNat : Nat)) := by
  have v1 := hV.2.1
  have loop : ∀ (k r n : Nat), k < n → (r : Int) + k = g 33 → fX3_readersWhole_4 σ n (rI w) (rI (sBits (fun r => decide (sWhole g d r w)) r : Nat)) (rI r) = some (rI (sBits (fun r => decide (sWhole g d r w)) (g 33).toNat : Nat)) := by
    intro k
    induction k with
    | zero =>
      intro r n hn hr
      obtain ⟨n, rfl⟩ : ∃ q, n = q + 1 := ⟨n - 1, by omega⟩
      rw [fX3_readersWhole_4, hS.1.2.1, if_pos (by rw [rI_le (by omega) (by omega) (by omega) (by omega)]; omega), show (g 33).toNat = r by omega]
    | succ k ih =>
      intro r n hn hr
      obtain ⟨n, rfl⟩ : ∃ q, n = q + 1 := ⟨n - 1, by omega⟩
      rw [fX3_readersWhole_4, hS.1.2.1, if_neg (by rw [rI_le (by omega) (by omega) (by omega) (by omega)]; omega), cWhole hS hV (by omega) hw, ob]
      unfold fX3_readersWhole_30
      simp only [rb_0, iI_s]
      have e := ih (r + 1) n (by omega) (by omega)
      by_cases q : sWhole g d r w
      · rw [if_neg (fun z => z q), or_yes (by omega) (decide_eq_true q)]
        exact e
      · rw [if_pos q]
        rw [or_no (decide_eq_false q)] at e
        exact e
  unfold fX3_readersWhole
  exact loop (g 33).toNat 0 1000 (by omega) (by omega)
theorem cIsRead (hS : SH σ g d) (hV : sV g) {m : Int} (hm : 0 ≤ m) (hm2 : m < 80) : fX3_isRead σ (rI m) = some (if sHit g d m (g 33).toNat = 0 then rI 0 else rI 1) := by
  have v1 := hV.2.1
  have mono : ∀ k j : Nat, sHit g d m k ≤ sHit g d m (k + j) := by
    intro k j
    induction j with
    | zero => exact Int.le_refl _
    | succ j ih => rw [show k + (j + 1) = (k + j) + 1 from rfl, sHit]; split <;> omega
  have loop : ∀ (k r n : Nat), k < n → (r : Int) + k = g 33 → sHit g d m r = 0 → fX3_isRead_2 σ n (rI m) (rI r) = some (if sHit g d m (g 33).toNat = 0 then rI 0 else rI 1) := by
    intro k
    induction k with
    | zero =>
      intro r n hn hr h0
      obtain ⟨n, rfl⟩ : ∃ q, n = q + 1 := ⟨n - 1, by omega⟩
      rw [fX3_isRead_2, hS.1.2.1, if_pos (by rw [rI_le (by omega) (by omega) (by omega) (by omega)]; omega), show (g 33).toNat = r by omega, if_pos h0]
    | succ k ih =>
      intro r n hn hr h0
      obtain ⟨n, rfl⟩ : ∃ q, n = q + 1 := ⟨n - 1, by omega⟩
      have bl := sLook_b d r m hV.1.1
      have v0 := hV.1
      rw [fX3_isRead_2, hS.1.2.1, if_neg (by rw [rI_le (by omega) (by omega) (by omega) (by omega)]; omega), cLook hS hV (by omega) hm hm2, ob, iI_s]
      simp (disch := omega) only [rI_lt0]
      by_cases q : sLook g d r m = -4
      · rw [if_pos (by omega)]
        exact ih (r + 1) n (by omega) (by omega) (by rw [sHit, h0, if_pos q]; rfl)
      · rw [if_neg (by omega), if_neg]
        have e : sHit g d m (r + 1) = 1 := by rw [sHit, h0, if_neg q]; rfl
        have := mono (r + 1) ((g 33).toNat - (r + 1))
        rw [show r + 1 + ((g 33).toNat - (r + 1)) = (g 33).toNat by omega] at this
        omega
  unfold fX3_isRead
  exact loop (g 33).toNat 0 1000 (by omega) (by omega) rfl
/-- how many look at it in a minute -/
def sLks (g : Nat → Int) (d : Nat → Bool) (w : Nat) (m : Int) : Int := sSum (fun r => if sLook g d r m = w then 1 else 0) (g 33).toNat
theorem sLks_b {g : Nat → Int} (hV : sV g) (d : Nat → Bool) (w : Nat) (m : Int) : 0 ≤ sLks g d w m ∧ sLks g d w m ≤ 4 := by
  have v1 := hV.2.1
  have := sSum_b (F := fun r => if sLook g d r m = w then 1 else 0) (B := 1) (fun k => by split <;> omega) (g 33).toNat
  unfold sLks
  omega
theorem cLookers (hS : SH σ g d) (hV : sV g) {w : Nat} (hw : (w : Int) < g 24) {m : Int} (hm : 0 ≤ m) (hm2 : m < 80) : fX3_lookersAt σ (rI w) (rI m) = some (rI (sLks g d w m)) := by
  have v0 := hV.1
  have v1 := hV.2.1
  have loop : ∀ (k r n : Nat), k < n → (r : Int) + k = g 33 → fX3_lookersAt_5 σ n (rI w) (rI m) (rI (sSum (fun r => if sLook g d r m = w then 1 else 0) r)) (rI r) = some (rI (sLks g d w m)) := by
    intro k
    induction k with
    | zero =>
      intro r n hn hr
      obtain ⟨n, rfl⟩ : ∃ q, n = q + 1 := ⟨n - 1, by omega⟩
      rw [fX3_lookersAt_5, hS.1.2.1, if_pos (by rw [rI_le (by omega) (by omega) (by omega) (by omega)]; omega), sLks, show (g 33).toNat = r by omega]
    | succ k ih =>
      intro r n hn hr
      obtain ⟨n, rfl⟩ : ∃ q, n = q + 1 := ⟨n - 1, by omega⟩
      have bl := sLook_b d r m hV.1.1
      have e := ih (r + 1) n (by omega) (by omega)
      rw [sSum] at e
      rw [fX3_lookersAt_5, hS.1.2.1, if_neg (by rw [rI_le (by omega) (by omega) (by omega) (by omega)]; omega), cLook hS hV (by omega) hm hm2, ob]
      unfold fX3_lookersAt_31
      simp (disch := omega) only [rI_eq]
      simp only [iI_s]
      by_cases q : sLook g d r m = w
      · rw [if_pos q] at e ⊢
        rw [rI_add]
        exact e
      · rw [if_neg q, Int.add_zero] at e
        rw [if_neg q]
        exact e
  unfold fX3_lookersAt
  exact loop (g 33).toNat 0 1000 (by omega) (by omega)
end SUQ
/-! the same of the reference -/
section MOS
variable {σ : rp_S} {p : Int} {g : Nat → Int} {D : Nat}
theorem mMinOf {d : Nat → Bool} (hV : sV g) (hB : NB σ g d) {r : Nat} (hr : (r : Int) < g 33) : fX7_minutesOf σ (rI r) = some (rI (sSum (fun w => sRead g d r w) (g 24).toNat)) := by
  have v1 := hV.1
  have v2 := hV.2.1
  have loop : ∀ (k w n : Nat), k < n → w + k = 6 → fX7_minutesOf_4 σ n (rI r) (rI (sSum (fun w => sRead g d r w) w)) (rI w) = some (rI (sSum (fun w => sRead g d r w) 6)) := by
    intro k
    induction k with
    | zero =>
      intro w n hn hw
      obtain ⟨n, rfl⟩ : ∃ q, n = q + 1 := ⟨n - 1, by omega⟩
      rw [fX7_minutesOf_4, if_pos (by rw [rI_le (by omega) (by omega) (by omega) (by omega)]; omega), show w = 6 by omega]
    | succ k ih =>
      intro w n hn hw
      obtain ⟨n, rfl⟩ : ∃ q, n = q + 1 := ⟨n - 1, by omega⟩
      rw [fX7_minutesOf_4, if_neg (by rw [rI_le (by omega) (by omega) (by omega) (by omega)]; omega), rd6 (by omega) (by omega), ob, hB.1 r w (by omega) (by omega), if_pos hr, rI_add, iI_s]
      exact ih (w + 1) n (by omega) (by omega)
  unfold fX7_minutesOf
  have e := loop 6 0 1000 (by omega) (by omega)
  have e2 := sSum_ext (F := fun w => sRead g d r w) (a := (g 24).toNat) (fun i hi => read_out hV d r i (by omega)) (6 - (g 24).toNat)
  rw [show (g 24).toNat + (6 - (g 24).toNat) = 6 by omega] at e2
  rw [← e2]
  exact e
theorem mWholeBy (hP : PG σ p g) (hV : sV g) (hD : σ 28 14 = rI D) (hD2 : D < 64) (hB : NB σ g (sD D)) {w : Nat} (hw : (w : Int) < g 24) : fX7_wholeBy σ (rI p) (rI w) = some (rI (sBits (fun r => decide (sWhole g (sD D) r w)) (g 33).toNat : Nat)) := by
  have v1 := hV.2.1
  have loop : ∀ (k r n : Nat), k < n → (r : Int) + k = g 33 → fX7_wholeBy_5 σ n (rI p) (rI w) (rI (sBits (fun r => decide (sWhole g (sD D) r w)) r : Nat)) (rI r) = some (rI (sBits (fun r => decide (sWhole g (sD D) r w)) (g 33).toNat : Nat)) := by
    intro k
    induction k with
    | zero =>
      intro r n hn hr
      obtain ⟨n, rfl⟩ : ∃ q, n = q + 1 := ⟨n - 1, by omega⟩
      rw [fX7_wholeBy_5, rdP_33 hP, ob, if_pos (by rw [rI_le (by omega) (by omega) (by omega) (by omega)]; omega), show (g 33).toNat = r by omega]
    | succ k ih =>
      intro r n hn hr
      obtain ⟨n, rfl⟩ : ∃ q, n = q + 1 := ⟨n - 1, by omega⟩
      rw [fX7_wholeBy_5, rdP_33 hP, ob, if_neg (by rw [rI_le (by omega) (by omega) (by omega) (by omega)]; omega), mWhole hP hV hD hD2 hB (by omega) hw, ob]
      unfold fX7_wholeBy_39
      simp only [rb_0, iI_s]
      have e := ih (r + 1) n (by omega) (by omega)
      by_cases q : sWhole g (sD D) r w
      · rw [if_neg (fun z => z q), or_yes (by omega) (decide_eq_true q)]
        exact e
      · rw [if_pos q, or_0]
        rw [or_no (decide_eq_false q)] at e
        exact e
  unfold fX7_wholeBy
  exact loop (g 33).toNat 0 1000 (by omega) (by omega)
end MOS
