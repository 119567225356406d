/-! read -/
theorem rJ_add (a b : Int) : rJ a + rJ b = rJ (a + b) := (Int64.ofInt_add a b).symm
theorem rem4 : ∀ m : Nat, m < 40 → rI (m : Int) - rI (m : Int) / rI 4 * rI 4 = rI ((m % 4 : Nat) : Int) := by decide +kernel
/-- the run over the fours: what is answered, what the tear is, the page -/
def sRun (F : Nat → Int) (A : Nat → (Nat → Int) → Int × (Nat → Int)) (g0 : Nat → Int) (T0 : Int32) : Nat → Nat → (Nat → Int) → Int × Int32 × (Nat → Int)
  | 0, i, gc => (i, rI 0, gc)
  | t + 1, i, gc => if F i = 0 then (if 0 ≤ (A i gc).1 then sRun F A g0 T0 t (i + 1) (A i gc).2 else (-20 - i, T0, g0)) else (i, rI (F i), gc)
def sExt (g gc : Nat → Int) : Prop := (∀ w k : Nat, (w : Int) < g 24 → k < 4 → gc (6 * k + w) = g (6 * k + w)) ∧ (∀ j : Nat, 25 ≤ j → j < 36 → gc j = g j) ∧ g 24 ≤ gc 24
theorem sExt.rf (g : Nat → Int) : sExt g g := ⟨fun _ _ _ _ => rfl, fun _ _ _ => rfl, Int.le_refl _⟩
theorem sExt.add {g gc : Nat → Int} (h : sExt g gc) (hV : sV gc) (hg : sV g) (z1 z2 z3 z4 : Int) : sExt g (sAdd gc z1 z2 z3 z4).2 := by
  by_cases q : fit4 z1 z2 z3 z4
  · by_cases q5 : gc 24 < 6
    · rw [sAdd_ok q q5]
      have v1 := hV.1
      have w1 := hg.1
      have w3 := h.2.2
      obtain ⟨n, hn⟩ : ∃ n : Nat, gc 24 = n := ⟨(gc 24).toNat, by omega⟩
      rw [show (gc 24).toNat = n by omega]
      refine ⟨fun w k hw hk => ?_, fun j h1 h2 => ?_, ?_⟩
      · show gU _ _ _ _ = _
        rw [gU_ne (by omega), gU_ne (by omega), gU_ne (by omega), gU_ne (by omega), gU_ne (by omega)]
        exact h.1 w k hw hk
      · show gU _ _ _ _ = _
        rw [gU_ne (by omega), gU_ne (by omega), gU_ne (by omega), gU_ne (by omega), gU_ne (by omega)]
        exact h.2.1 j h1 h2
      · have e : gW gc n z1 z2 z3 z4 24 = ((n + 1 : Nat) : Int) := by unfold gW; rw [gU_eq]
        show g 24 ≤ gW gc n z1 z2 z3 z4 24
        rw [e]; omega
    · rw [sAdd_full q q5]; exact h
  · rw [sAdd_no q]; exact h
theorem sAdd_neg {g : Nat → Int} (hV : sV g) {z1 z2 z3 z4 : Int} (h : ¬ 0 ≤ (sAdd g z1 z2 z3 z4).1) : (sAdd g z1 z2 z3 z4).2 = g := by
  by_cases q : fit4 z1 z2 z3 z4
  · by_cases q5 : g 24 < 6
    · rw [sAdd_ok q q5] at h
      have v1 := hV.1
      exact absurd (show 0 ≤ g 24 + 1 by omega) h
    · rw [sAdd_full q q5]
  · rw [sAdd_no q]
theorem sAdd_b {g : Nat → Int} (hV : sV g) (z1 z2 z3 z4 : Int) : -3 ≤ (sAdd g z1 z2 z3 z4).1 ∧ (sAdd g z1 z2 z3 z4).1 ≤ 7 := by
  have v1 := hV.1
  by_cases q : fit4 z1 z2 z3 z4
  · by_cases q5 : g 24 < 6
    · rw [sAdd_ok q q5]; show -3 ≤ g 24 + 1 ∧ g 24 + 1 ≤ 7; omega
    · rw [sAdd_full q q5]; show (-3 : Int) ≤ -3 ∧ (-3 : Int) ≤ 7; omega
  · rw [sAdd_no q]; show (-3 : Int) ≤ -1 ∧ (-1 : Int) ≤ 7; omega
theorem NT.reset {σ : rp_S} {g gc : Nat → Int} (h : NT σ 1 gc) (hx : sExt g gc) (hg : sV g) : NT (rp_up σ 1 2 (rI (g 24))) 1 g := by
  obtain ⟨n1, n2, n3, n4, n5, n6⟩ := h
  obtain ⟨x1, x2, x3⟩ := hx
  have v1 := hg.1
  have v2 := hg.2.1
  unfold NT
  rw [up_eq, up_nj (by omega), up_nj (by omega), up_nj (by omega), up_ne (by omega), up_ne (by omega), ← x2 33 (by omega) (by omega), ← x2 34 (by omega) (by omega), ← x2 35 (by omega) (by omega)]
  refine ⟨rfl, n2, n3, n4, fun w k q1 q2 => ?_, fun r k q1 q2 => ?_⟩
  · rw [n5 w k (by omega) q2, x1 w k q1 q2]
  · rw [n6 r k q1 q2, x2 _ (by omega) (by have := x2 33 (by omega) (by omega); omega)]
theorem iRest.rd {σ τ : rp_S} (h : iRest σ) (qb : ∀ b : Nat, 4 ≤ b → b ≠ 28 → b ≠ 29 → τ b = σ b) (q0 : ∀ j : Nat, j ≠ 9 → τ 0 j = σ 0 j) (q28 : ∀ j : Nat, j ≠ 26 → τ 28 j = σ 28 j) (q29 : ∀ j : Nat, 36 ≤ j → j < 108 → τ 29 j = σ 29 j) (qt : τ 0 9 = τ 28 26) : iRest τ := by
  obtain ⟨a1, a2, a3, a4, a5, a6, a7⟩ := h
  refine ⟨a1.kept ?_ (q28 _ (by omega)) ?_ ?_, a2.kept ?_ (q28 _ (by omega)) ?_ ?_ ?_, a3.kept ?_ (q0 _ (by omega)) (fun b h1 h2 => qb b (by omega) (by omega) (by omega)) q29, a4.kept ?_ (fun b h1 h2 => qb b (by omega) (by omega) (by omega)) (fun b h1 h2 => qb b (by omega) (by omega) (by omega)), a5.kept ?_ ?_ (q28 _ (by omega)), qt, ?_⟩
  · rw [qb 13 (by omega) (by omega) (by omega)]
  · exact qb 14 (by omega) (by omega) (by omega)
  · exact qb 31 (by omega) (by omega) (by omega)
  · rw [qb 15 (by omega) (by omega) (by omega)]
  · exact qb 16 (by omega) (by omega) (by omega)
  · exact qb 17 (by omega) (by omega) (by omega)
  · exact qb 35 (by omega) (by omega) (by omega)
  · exact qb 37 (by omega) (by omega) (by omega)
  · rw [qb 18 (by omega) (by omega) (by omega)]
  · exact qb 32 (by omega) (by omega) (by omega)
  · exact qb 33 (by omega) (by omega) (by omega)
  · rw [qb 13 (by omega) (by omega) (by omega), q28 5 (by omega)]; exact a7
/-! the reference's steps, a cell at a time -/
theorem rStop {n : Nat} {ν : rp_S} {a b x y f z m : Int32} (hf : ¬ f = 0) : fX7_read_55 (n + 1) ν a b x y f z m = fX7_read_214 ν f z := by
  rw [fX7_read_55]
  by_cases q : rI 4 * y ≤ m
  · rw [if_pos q]
  · rw [if_neg q, if_neg hf]
theorem rCell {n k : Nat} {ν : rp_S} {la : Int} {c m : Nat} {X sz : Int} {b z : Int32} (hk : k < 4) (hm : m < 4 * c) (hc : c ≤ 10) (h38 : ν 38 k = rI la) (h39 : ν 39 k = rI sz) (hsz : 0 ≤ sz ∧ sz ≤ 40) (hX : -2147483648 ≤ X ∧ X < 2147483648) (f : Int) (hf : f = if rI la = rI (-4) then 1 else if rI la = b then (if 0 ≤ X + m ∧ X + m ≤ sz - 1 then 0 else 2) else 3) : fX7_read_55 (n + 1) ν (rI k) b (rI X) (rI c) (rI 0) z (rI m) = fX7_read_125 (fun σ v1 v2 v3 v4 v5 v6 v7 => fX7_read_55 n σ v1 v2 v3 v4 v5 v6 v7) ν (rI k) b (rI X) (rI c) z (rI m) (rI f) := by
  subst hf
  rw [fX7_read_55, if_neg (by rw [rI_mul, rI_le (by omega) (by omega) (by omega) (by omega)]; omega), if_pos (show rI 0 = 0 from rfl), rd_n hk (by omega), ob, h38]
  by_cases q : rI la = rI (-4)
  · rw [if_pos q, if_pos q]
  · rw [if_neg q, if_neg q, ob]
    by_cases q2 : rI la = b
    · rw [if_pos q2, if_pos q2, rd_n hk (by omega), ob, h39, rI_sub, i64 (z := X) (by omega) (by omega), i64 (z := (m : Int)) (by omega) (by omega), i64 (z := sz - 1) (by omega) (by omega), rJ_add, in_ok (by omega) (by omega) (by omega) (by omega) (by omega) (by omega), ob]
      simp only [rb_0]
      by_cases q3 : 0 ≤ X + m ∧ X + m ≤ sz - 1
      · rw [if_neg (fun z => z q3), if_pos q3]
      · rw [if_pos q3, if_neg q3]
    · rw [if_neg q2, if_neg q2]
theorem rBad {n : Nat} {ν : rp_S} {a b x y z m : Int32} {f : Int} (hf : ¬ rI f = 0) : fX7_read_125 (fun σ v1 v2 v3 v4 v5 v6 v7 => fX7_read_55 (n + 1) σ v1 v2 v3 v4 v5 v6 v7) ν a b x y z m (rI f) = fX7_read_214 ν (rI f) z := by
  unfold fX7_read_125 fX7_read_208
  rw [if_neg hf]
  exact rStop hf
theorem rGood {n : Nat} {ν : rp_S} {a b x y z : Int32} {m : Nat} (hm : m < 40) (h3 : m % 4 ≠ 3) : fX7_read_125 (fun σ v1 v2 v3 v4 v5 v6 v7 => fX7_read_55 n σ v1 v2 v3 v4 v5 v6 v7) ν a b x y z (rI m) (rI 0) = fX7_read_55 n ν a b x y (rI 0) z (rI ((m + 1 : Nat) : Int)) := by
  unfold fX7_read_125 fX7_read_208
  rw [if_pos (show rI 0 = 0 from rfl), rem4 m hm, if_neg (by rw [rI_eq (by omega) (by omega) (by omega) (by omega)]; omega), iI_s]
theorem rFour {n k : Nat} {ν : rp_S} {la : Int} {c i : Nat} {X sz : Int} {b z : Int32} (hk : k < 4) (hi : i < c) (hc : c ≤ 10) (h38 : ν 38 k = rI la) (h39 : ν 39 k = rI sz) (hsz : 0 ≤ sz ∧ sz ≤ 40) (hX : -2147483648 ≤ X ∧ X < 2147483648) (f : Int) (hf : f = if rI la = rI (-4) then 1 else if rI la = b then (if 0 ≤ X + 4 * i ∧ X + 4 * i ≤ sz - 4 then 0 else 2) else 3) : fX7_read_55 (n + 5) ν (rI k) b (rI X) (rI c) (rI 0) z (rI ((4 * i : Nat) : Int)) = if f = 0 then fX7_read_125 (fun σ v1 v2 v3 v4 v5 v6 v7 => fX7_read_55 (n + 1) σ v1 v2 v3 v4 v5 v6 v7) ν (rI k) b (rI X) (rI c) z (rI ((4 * i + 3 : Nat) : Int)) (rI 0) else fX7_read_214 ν (rI f) z := by
  have cell := fun (n m : Nat) (hm : m < 4 * c) => rCell (n := n) (z := z) (b := b) hk hm hc h38 h39 hsz hX _ rfl
  by_cases q : rI la = rI (-4)
  · rw [if_pos q] at hf
    subst hf
    rw [if_neg (by omega), cell (n + 4) (4 * i) (by omega), if_pos q]
    exact rBad (by decide)
  · rw [if_neg q] at hf
    by_cases q2 : rI la = b
    · rw [if_pos q2] at hf
      have cell2 := fun (n m : Nat) (hm : m < 4 * c) => (cell n m hm).trans (by rw [if_neg q, if_pos q2])
      have step : ∀ (n m : Nat), m < 4 * c → ¬ (0 ≤ X + m ∧ X + m ≤ sz - 1) → fX7_read_55 (n + 2) ν (rI k) b (rI X) (rI c) (rI 0) z (rI (m : Int)) = fX7_read_214 ν (rI 2) z := fun n m hm hq => by
        rw [cell (n + 1) m hm, if_neg q, if_pos q2, if_neg hq]
        exact rBad (by decide)
      have good : ∀ (n m : Nat), m < 4 * c → m % 4 ≠ 3 → (0 ≤ X + m ∧ X + m ≤ sz - 1) → fX7_read_55 (n + 1) ν (rI k) b (rI X) (rI c) (rI 0) z (rI (m : Int)) = fX7_read_55 n ν (rI k) b (rI X) (rI c) (rI 0) z (rI ((m + 1 : Nat) : Int)) := fun n m hm h3 hq => by
        rw [cell n m hm, if_neg q, if_pos q2, if_pos hq]
        exact rGood (by omega) h3
      by_cases c0 : 0 ≤ X + (4 * i : Nat) ∧ X + (4 * i : Nat) ≤ sz - 1
      · rw [good (n + 4) (4 * i) (by omega) (by omega) c0]
        by_cases c1 : 0 ≤ X + (4 * i + 1 : Nat) ∧ X + (4 * i + 1 : Nat) ≤ sz - 1
        · rw [good (n + 3) (4 * i + 1) (by omega) (by omega) c1]
          by_cases c2 : 0 ≤ X + (4 * i + 2 : Nat) ∧ X + (4 * i + 2 : Nat) ≤ sz - 1
          · rw [good (n + 2) (4 * i + 2) (by omega) (by omega) c2]
            by_cases c3 : 0 ≤ X + (4 * i + 3 : Nat) ∧ X + (4 * i + 3 : Nat) ≤ sz - 1
            · rw [if_pos (by omega)] at hf
              rw [if_pos hf, cell (n + 1) (4 * i + 3) (by omega), if_neg q, if_pos q2, if_pos c3]
            · rw [if_neg (by omega)] at hf
              rw [if_neg (by omega), hf, step n (4 * i + 3) (by omega) c3]
          · rw [if_neg (by omega)] at hf
            rw [if_neg (by omega), hf, step (n + 1) (4 * i + 2) (by omega) c2]
        · rw [if_neg (by omega)] at hf
          rw [if_neg (by omega), hf, step (n + 2) (4 * i + 1) (by omega) c1]
      · rw [if_neg (by omega)] at hf
        rw [if_neg (by omega), hf, step (n + 3) (4 * i) (by omega) c0]
    · rw [if_neg q2] at hf
      subst hf
      rw [if_neg (by omega), cell (n + 4) (4 * i) (by omega), if_neg q, if_neg q2]
      exact rBad (by decide)
theorem rCell0 {n k : Nat} {ν : rp_S} {c i : Nat} {x b z : Int32} (hk : k < 4) (hi : i < c) (hc : c ≤ 10) (h38 : ν 38 k = rI (-4)) : fX7_read_55 (n + 5) ν (rI k) b x (rI c) (rI 0) z (rI ((4 * i : Nat) : Int)) = fX7_read_214 ν (rI 1) z := by
  rw [fX7_read_55, if_neg (by rw [rI_mul, rI_le (by omega) (by omega) (by omega) (by omega)]; omega), if_pos (show rI 0 = 0 from rfl), rd_n hk (by omega), ob, h38, if_pos rfl]
  exact rBad (by decide)
theorem op_read {σ : rp_S} (h : Inv σ) (u v x y : Int32) : OpW (fX6_read σ u v x y) (fun τ => fX7_read τ u v x y) := by
  obtain ⟨g, hp, hr⟩ := id h
  obtain ⟨hP, hV, hN⟩ := id hp
  have v1 := hV.1
  by_cases q : 0 ≤ u.toInt ∧ u.toInt ≤ 3
  · by_cases q2 : 0 ≤ v.toInt ∧ v.toInt ≤ 2
    · by_cases q3 : 0 ≤ y.toInt ∧ y.toInt ≤ 10
      · obtain ⟨k, rfl, hk2⟩ := toN q.1
        obtain ⟨lb, rfl, hlb⟩ := toN q2.1
        obtain ⟨c, rfl, hc2⟩ := toN q3.1
        have hk : k < 4 := by omega
        obtain ⟨X, hX⟩ : ∃ X, X = x.toInt := ⟨_, rfl⟩
        have eX : x = rI X := by rw [hX]; exact rI_of x
        have xb := i32_b x
        rw [← hX] at xb
        subst eX
        obtain ⟨L, l1, l2, l3⟩ := hr.2.2.2.1
        obtain ⟨la, sz, hsz, s38, s39, hbit, s20, s21, lab, scell⟩ : ∃ la sz : Int, (0 ≤ sz ∧ sz ≤ 40) ∧ σ 38 k = rI la ∧ (la ≠ -4 → σ 39 k = rI sz) ∧ (L / 2 ^ k % 2 = 0 ↔ la = -4) ∧ (la ≠ -4 → σ 20 k = rI la) ∧ (la ≠ -4 → σ 21 k = rI sz) ∧ (-4 ≤ la ∧ la < 3) ∧ (la ≠ -4 → ∀ j : Nat, (j : Int) < sz → σ 19 (40 * k + j) = σ 40 (40 * k + j)) := by
          rcases l3 k hk with ⟨o1, o2⟩ | ⟨o1, la, sz, o2, o3, o4, o5, o6, o7, o8⟩
          · exact ⟨-4, 0, by omega, o2, fun z => absurd rfl z, ⟨fun _ => rfl, fun _ => o1⟩, fun z => absurd rfl z, fun z => absurd rfl z, by omega, fun z => absurd rfl z⟩
          · exact ⟨la, sz, by omega, o5, fun _ => o7, by omega, fun _ => o4, fun _ => o6, by omega, fun _ j hj => o8 j (by omega)⟩
        obtain ⟨F, hF⟩ : ∃ F : Nat → Int, F = fun (i : Nat) => (if rI la = rI (-4) then 1 else if rI la = rI lb then (if 0 ≤ X + 4 * (i : Int) ∧ X + 4 * (i : Int) ≤ sz - 4 then 0 else 2) else 3 : Int) := ⟨_, rfl⟩
        obtain ⟨C, hC⟩ : ∃ C : Int → Int, C = fun z => (σ 19 (40 * k + z.toNat)).toInt := ⟨_, rfl⟩
        have Cb : ∀ z, -2147483648 ≤ C z ∧ C z < 2147483648 := fun z => by rw [hC]; exact i32_b _
        obtain ⟨A, hA⟩ : ∃ A : Nat → (Nat → Int) → Int × (Nat → Int), A = fun (i : Nat) gc => sAdd gc (C (X + 4 * (i : Int) + 0)) (C (X + 4 * (i : Int) + 1)) (C (X + 4 * (i : Int) + 2)) (C (X + 4 * (i : Int) + 3)) := ⟨_, rfl⟩
        have la4 : rI la = rI (-4) ↔ la = -4 := rI_eq (by omega) (by omega) (by omega) (by omega)
        have f0 : ∀ i : Nat, F i = 0 → la ≠ -4 ∧ rI la = rI lb ∧ 0 ≤ X + 4 * i ∧ X + 4 * i ≤ sz - 4 := by
          intro i hi
          rw [hF] at hi
          have hi' : (if rI la = rI (-4) then 1 else if rI la = rI lb then (if 0 ≤ X + 4 * i ∧ X + 4 * i ≤ sz - 4 then 0 else 2) else 3 : Int) = 0 := hi
          by_cases z1 : rI la = rI (-4)
          · rw [if_pos z1] at hi'; omega
          · rw [if_neg z1] at hi'
            by_cases z2 : rI la = rI lb
            · rw [if_pos z2] at hi'
              by_cases z3 : 0 ≤ X + 4 * i ∧ X + 4 * i ≤ sz - 4
              · exact ⟨fun z => z1 (la4.2 z), z2, z3.1, z3.2⟩
              · rw [if_neg z3] at hi'; omega
            · rw [if_neg z2] at hi'; omega
        have Fb : ∀ i, 0 ≤ F i ∧ F i ≤ 3 := by
          intro i
          rw [hF]
          show (0 : Int) ≤ (if rI la = rI (-4) then 1 else if rI la = rI lb then (if 0 ≤ X + 4 * i ∧ X + 4 * i ≤ sz - 4 then 0 else 2) else 3) ∧ (if rI la = rI (-4) then 1 else if rI la = rI lb then (if 0 ≤ X + 4 * i ∧ X + 4 * i ≤ sz - 4 then 0 else 2) else 3) ≤ (3 : Int)
          split
          · omega
          · split
            · split <;> omega
            · omega
        have Fn : ∀ i, (rI (F i) = 0) ↔ F i = 0 := fun i => by have := Fb i; rw [rI_0]; exact rI_eq (by omega) (by omega) (by omega) (by omega)
        have Ab : ∀ i gc, sV gc → -3 ≤ (A i gc).1 ∧ (A i gc).1 ≤ 7 := fun i gc hg => by rw [hA]; exact sAdd_b hg _ _ _ _
        have Av : ∀ i gc, sV gc → sV (A i gc).2 := fun i gc hg => by rw [hA]; exact hg.add _ _ _ _
        have An : ∀ i gc, sV gc → ¬ 0 ≤ (A i gc).1 → (A i gc).2 = gc := fun i gc hg hn => by rw [hA] at hn ⊢; exact sAdd_neg hg hn
        have Ax : ∀ i gc, sV gc → sExt g gc → sExt g (A i gc).2 := fun i gc hg hx => by rw [hA]; exact hx.add hg hV _ _ _ _
        obtain ⟨T0, hT0⟩ : ∃ T0, T0 = σ 0 9 := ⟨_, rfl⟩
        have fo : ∀ (ρ : rp_S) (i : Nat), KF σ ρ → X + 4 * i < 2147483648 → fX2_faultOf ρ (rI k) (rI lb) (rI X + rI 4 * rI i) (rI 4) = some (rI (F i)) := by
          intro ρ i hK hb
          unfold fX2_faultOf
          rw [cNothing (by rw [hK 18 (by omega) (by omega) (by omega)]; exact l2) l1 hk, ob, rd_n hk (by omega), ob, rd_n hk (by omega), ob, hK 20 (by omega) (by omega) (by omega), hK 21 (by omega) (by omega) (by omega), rI_mul, rI_add]
          simp only [rb_0]
          rw [hF]
          by_cases z1 : la = -4
          · rw [if_neg (fun z => z (hbit.2 z1))]
            show some (rI 1) = some (rI (if rI la = rI (-4) then 1 else _))
            rw [if_pos (la4.2 z1)]
          · rw [if_pos (fun z => z1 (hbit.1 z)), s20 z1, s21 z1, rI_sub]
            show _ = some (rI (if rI la = rI (-4) then 1 else if rI la = rI lb then (if 0 ≤ X + 4 * i ∧ X + 4 * i ≤ sz - 4 then 0 else 2) else 3))
            rw [if_neg (fun z => z1 (la4.1 z))]
            by_cases z2 : rI la = rI lb
            · rw [if_pos z2, if_pos z2, inAB _ (by omega) (by omega) (by omega) (by omega), rI_toInt (by omega) (by omega), ob]
              simp only [rb_0]
              by_cases z3 : 0 ≤ X + 4 * i ∧ X + 4 * i ≤ sz - 4
              · rw [if_neg (fun z => z z3), if_pos z3]
              · rw [if_pos z3, if_neg z3]
            · rw [if_neg z2, if_neg z2]
        have cat : ∀ (ρ : rp_S) (z d : Int), KF σ ρ → 0 ≤ z → 0 ≤ d → z + d < 40 → fX2_at ρ (rI k) (rI z + rI d) = some (rI (C (z + d))) := by
          intro ρ z d hK h0 h1 h2
          unfold fX2_at
          rw [rI_mul, rI_add, rI_add, rd_ok (by omega) (by omega) (by omega), ob, hK 19 (by omega) (by omega) (by omega), hC, rI_toI, show ((k : Int) * 40 + (z + d)).toNat = 40 * k + (z + d).toNat by omega]
        have cl : ∀ (t i n : Nat) (ρ : rp_S) (gc : Nat → Int), t < n → i + t = c → KF σ ρ → NT ρ 1 gc → sV gc → sExt g gc → X + 4 * i < 2147483648 →
            ∃ ρ', (∀ b : Nat, 4 ≤ b → ρ' b = σ b) ∧ (∀ j : Nat, j ≠ 9 → ρ' 0 j = σ 0 j) ∧ ρ' 0 9 = (sRun F A g T0 t i gc).2.1 ∧ NT ρ' 1 (sRun F A g T0 t i gc).2.2 ∧ fX6_read_49 n ρ (rI k) (rI lb) (rI X) (rI c) (rI (g 24)) (rI 0) (rI i) (rI i) = some (rI (sRun F A g T0 t i gc).1, ρ') := by
          intro t
          induction t with
          | zero =>
            intro i n ρ gc hn hi hK hT hX hE hB
            obtain ⟨n, rfl⟩ : ∃ q, n = q + 1 := ⟨n - 1, by omega⟩
            rw [fX6_read_49, if_pos (by rw [rI_le (by omega) (by omega) (by omega) (by omega)]; omega)]
            unfold fX6_read_122
            rw [ob]
            exact ⟨rp_up ρ 0 9 (rI 0), fun b hb => by rw [up_ne (by omega)]; exact hK b (by omega) (by omega) (by omega), fun j hj => by rw [up_nj hj, hK 0 (by omega) (by omega) (by omega)], up_eq, hT.kept (up_ne (by omega)) (up_ne (by omega)) (up_ne (by omega)), rfl⟩
          | succ t ih =>
            intro i n ρ gc hn hi hK hT hX hE hB
            obtain ⟨n, rfl⟩ : ∃ q, n = q + 1 := ⟨n - 1, by omega⟩
            rw [fX6_read_49, if_neg (by rw [rI_le (by omega) (by omega) (by omega) (by omega)]; omega), if_pos (show rI 0 = 0 from rfl), fo ρ i hK hB, ob]
            simp only [Fn]
            rw [sRun]
            by_cases z : F i = 0
            · obtain ⟨y1, y2, y3, y4⟩ := f0 i z
              rw [if_pos z, if_pos z]
              obtain ⟨ρ2, k1, k2, k3⟩ := cAdd hT hX (C (X + 4 * i + 0)) (C (X + 4 * i + 1)) (C (X + 4 * i + 2)) (C (X + 4 * i + 3)) (Cb _) (Cb _) (Cb _) (Cb _)
              have eA : sAdd gc (C (X + 4 * i + 0)) (C (X + 4 * i + 1)) (C (X + 4 * i + 2)) (C (X + 4 * i + 3)) = A i gc := by rw [hA]
              rw [eA] at k2 k3
              have as : fX6_addFromSheet ρ (rI k) (rI X + rI 4 * rI i) = some (rI (A i gc).1, ρ2) := by
                unfold fX6_addFromSheet
                rw [rI_mul, rI_add X, cat ρ _ _ hK (by omega) (by omega) (by omega), ob, cat ρ _ _ hK (by omega) (by omega) (by omega), ob, cat ρ _ _ hK (by omega) (by omega) (by omega), ob, cat ρ _ _ hK (by omega) (by omega) (by omega), ob, k3, ob]
              have b := Ab i gc hX
              rw [as, ob]
              simp (disch := omega) only [rI_ge0]
              by_cases z2 : 0 ≤ (A i gc).1
              · rw [if_pos z2, if_pos z2]
                unfold fX6_read_116
                rw [iI_s, z]
                exact ih (i + 1) n ρ2 (A i gc).2 (by omega) (by omega) (hK.tr k1) k2 (Av i gc hX) (Ax i gc hX hE) (by omega)
              · rw [if_neg z2, if_neg z2, ob, rI_sub]
                rw [An i gc hX z2] at k2
                have kk := hK.tr k1
                refine ⟨rp_up ρ2 1 2 (rI (g 24)), fun b hb => by rw [up_ne (by omega)]; exact kk b (by omega) (by omega) (by omega), fun j hj => by rw [up_ne (by omega), kk 0 (by omega) (by omega) (by omega)], by rw [up_ne (by omega), kk 0 (by omega) (by omega) (by omega), ← hT0], k2.reset hE hV, rfl⟩
            · rw [if_neg z, if_neg z]
              unfold fX6_read_116
              obtain ⟨n, rfl⟩ : ∃ q, n = q + 1 := ⟨n - 1, by omega⟩
              have e : fX6_read_49 (n + 1) ρ (rI k) (rI lb) (rI X) (rI c) (rI (g 24)) (rI (F i)) (rI i) (rI i + rI 1) = fX6_read_122 ρ (rI (F i)) (rI i) := by
                rw [fX6_read_49]
                by_cases y : rI c ≤ rI i + rI 1
                · rw [if_pos y]
                · rw [if_neg y, if_neg (fun k => z ((Fn i).1 k))]
              simp only [e]
              unfold fX6_read_122
              rw [ob]
              exact ⟨rp_up ρ 0 9 (rI (F i)), fun b hb => by rw [up_ne (by omega)]; exact hK b (by omega) (by omega) (by omega), fun j hj => by rw [up_nj hj, hK 0 (by omega) (by omega) (by omega)], up_eq, hT.kept (up_ne (by omega)) (up_ne (by omega)) (up_ne (by omega)), rfl⟩
        obtain ⟨ρ, r1, r2, r3, r4, r5⟩ := cl c 0 1000 σ g (by omega) (by omega) (KF.rf σ) hN hV (sExt.rf g) (by omega)
        have hP1 : PG ρ 0 g := hP.kept (fun j _ _ => by rw [r1 29 (by omega)])
        obtain ⟨μ, m1, m2, m3, m4⟩ := mCopies (q := 108) hP1 (by omega) (by omega) (by omega)
        have m5 : PG μ 0 g := hP1.kept (fun j z1 z2 => m2 j (by omega))
        have mat : ∀ (ν : rp_S) (z : Int) (e : Int32), ν 40 = ρ 40 → la ≠ -4 → 0 ≤ z → z < sz → e = rI (40 * (k : Int) + z) → rq_rd ν 40 160 e = some (rI (C z)) := by
          intro ν z e h40 h0 h1 h2 he
          have := scell h0 z.toNat (by omega)
          rw [he, rd_ok (by omega) (by omega) (by omega), h40, r1 40 (by omega), hC, rI_toI, show (40 * (k : Int) + z).toNat = 40 * k + z.toNat by omega, ← this]
        have ml : ∀ (t i n : Nat) (ν : rp_S) (gc : Nat → Int), 4 * t + 4 < n → i + t = c → (∀ b, b ≠ 29 → ν b = ρ b) → (∀ j : Nat, 36 ≤ j → j < 108 → ν 29 j = ρ 29 j) → PG ν 0 gc → PG ν 108 g → sV gc →
            ∃ ν', (∀ b, b ≠ 28 → b ≠ 29 → ν' b = ρ b) ∧ (∀ j : Nat, j ≠ 26 → ν' 28 j = ρ 28 j) ∧ (∀ j : Nat, 36 ≤ j → j < 108 → ν' 29 j = ρ 29 j) ∧ ν' 28 26 = (sRun F A g T0 t i gc).2.1 ∧ PG ν' 0 (sRun F A g T0 t i gc).2.2 ∧ sV (sRun F A g T0 t i gc).2.2 ∧ fX7_read_55 n ν (rI k) (rI lb) (rI X) (rI c) (rI 0) (rI i) (rI ((4 * i : Nat) : Int)) = some (rI (sRun F A g T0 t i gc).1, ν') := by
          intro t
          induction t with
          | zero =>
            intro i n ν gc hn hi hb h29 hQ hR hX
            obtain ⟨n, rfl⟩ : ∃ q, n = q + 1 := ⟨n - 1, by omega⟩
            rw [fX7_read_55, if_pos (by rw [rI_mul, rI_le (by omega) (by omega) (by omega) (by omega)]; omega)]
            unfold fX7_read_214
            rw [ob]
            exact ⟨rp_up ν 28 26 (rI 0), fun b z1 z2 => by rw [up_ne z1]; exact hb b z2, fun j hj => by rw [up_nj hj, hb 28 (by omega)], fun j z1 z2 => by rw [up_ne (by omega)]; exact h29 j z1 z2, up_eq, hQ.kept (fun j _ _ => by rw [up_ne (by omega)]), hX, rfl⟩
          | succ t ih =>
            intro i n ν gc hn hi hb h29 hQ hR hX
            obtain ⟨n, rfl⟩ : ∃ q, n = q + 5 := ⟨n - 5, by omega⟩
            have k38 : ν 38 k = rI la := by rw [hb 38 (by omega), r1 38 (by omega)]; exact s38
            have four : fX7_read_55 (n + 5) ν (rI k) (rI lb) (rI X) (rI c) (rI 0) (rI i) (rI ((4 * i : Nat) : Int)) = if F i = 0 then fX7_read_125 (fun σ v1 v2 v3 v4 v5 v6 v7 => fX7_read_55 (n + 1) σ v1 v2 v3 v4 v5 v6 v7) ν (rI k) (rI lb) (rI X) (rI c) (rI i) (rI ((4 * i + 3 : Nat) : Int)) (rI 0) else fX7_read_214 ν (rI (F i)) (rI i) := by
              by_cases z : la = -4
              · have e : F i = 1 := by rw [hF]; exact if_pos (la4.2 z)
                rw [if_neg (by omega), e, rCell0 hk (by omega) (by omega) (by rw [k38, z])]
              · exact rFour hk (by omega) (by omega) k38 (by rw [hb 39 (by omega), r1 39 (by omega)]; exact s39 z) hsz xb (F i) (by rw [hF])
            rw [four, sRun]
            by_cases z : F i = 0
            · obtain ⟨y1, y2, y3, y4⟩ := f0 i z
              rw [if_pos z, if_pos z]
              obtain ⟨ν2, k1, k2, k3⟩ := mAdd hQ hX (C (X + 4 * i + 0)) (C (X + 4 * i + 1)) (C (X + 4 * i + 2)) (C (X + 4 * i + 3)) (Cb _) (Cb _) (Cb _) (Cb _)
              have eA : sAdd gc (C (X + 4 * i + 0)) (C (X + 4 * i + 1)) (C (X + 4 * i + 2)) (C (X + 4 * i + 3)) = A i gc := by rw [hA]
              rw [eA] at k2 k3
              have b := Ab i gc hX
              have h40 : ν 40 = ρ 40 := hb 40 (by omega)
              have b2 : ∀ b, b ≠ 29 → ν2 b = ρ b := fun b hb2 => by rw [k1.1 b hb2, hb b hb2]
              have b3 : ∀ j : Nat, 36 ≤ j → j < 108 → ν2 29 j = ρ 29 j := fun j z1 z2 => by rw [k1.2 j z1, h29 j z1 z2]
              have b4 : PG ν2 108 g := hR.kept (fun j z1 z2 => k1.2 j (by omega))
              unfold fX7_read_125
              rw [if_pos (show rI 0 = 0 from rfl), rem4 _ (by omega), if_pos (show rI (((4 * i + 3) % 4 : Nat) : Int) = rI 3 from by rw [show (4 * i + 3) % 4 = 3 by omega]; rfl)]
              rw [mat ν (X + 4 * i + 0) _ h40 y1 (by omega) (by omega) (by rw [rI_mul, rI_add, rI_add, rI_sub]; congr 1; omega), ob, mat ν (X + 4 * i + 1) _ h40 y1 (by omega) (by omega) (by rw [rI_mul, rI_add, rI_add, rI_sub]; congr 1; omega), ob, mat ν (X + 4 * i + 2) _ h40 y1 (by omega) (by omega) (by rw [rI_mul, rI_add, rI_add, rI_sub]; congr 1; omega), ob, mat ν (X + 4 * i + 3) _ h40 y1 (by omega) (by omega) (by rw [rI_mul, rI_add, rI_add]; congr 1; omega), ob, k3, ob]
              simp (disch := omega) only [rI_ge0]
              by_cases z2 : 0 ≤ (A i gc).1
              · rw [if_pos z2, if_pos z2]
                unfold fX7_read_208
                rw [iI_s, iI_s]
                exact ih (i + 1) (n + 1) ν2 (A i gc).2 (by omega) (by omega) b2 b3 k2 b4 (Av i gc hX)
              · rw [if_neg z2, if_neg z2, rI_sub]
                obtain ⟨ν3, w1, w2, w3, w4⟩ := mCopies (q := 0) b4 (by omega) (by omega) (by omega)
                rw [w4, ob]
                refine ⟨ν3, fun b z1 z2 => by rw [w1 b z2]; exact b2 b z2, fun j _ => by rw [w1 28 (by omega), b2 28 (by omega)], fun j z1 z2 => by rw [w2 j (by omega)]; exact b3 j z1 z2, ?_, w3, hV, rfl⟩
                rw [w1 28 (by omega), b2 28 (by omega), r1 28 (by omega), ← hr.2.2.2.2.2.1, ← hT0]
            · rw [if_neg z, if_neg z]
              unfold fX7_read_214
              rw [ob]
              exact ⟨rp_up ν 28 26 (rI (F i)), fun b z1 z2 => by rw [up_ne z1]; exact hb b z2, fun j hj => by rw [up_nj hj, hb 28 (by omega)], fun j z1 z2 => by rw [up_ne (by omega)]; exact h29 j z1 z2, up_eq, hQ.kept (fun j _ _ => by rw [up_ne (by omega)]), hX, rfl⟩
        obtain ⟨ν, n1, n2, n3, n4, n5, n6, n7⟩ := ml c 0 1000 μ g (by omega) (by omega) m1 (fun j z1 z2 => m2 j (by omega)) m5 m3 hV
        refine ⟨rI (sRun F A g T0 c 0 g).1, ρ, ν, ?_, ?_, ⟨(sRun F A g T0 c 0 g).2.2, ⟨n5, n6, r4.kept (n1 1 (by omega) (by omega)) (n1 2 (by omega) (by omega)) (n1 3 (by omega) (by omega))⟩, hr.rd (fun b z1 z2 z3 => by rw [n1 b z2 z3]; exact r1 b z1) (fun j hj => by rw [n1 0 (by omega) (by omega)]; exact r2 j hj) (fun j hj => by rw [n2 j hj, r1 28 (by omega)]) (fun j z1 z2 => by rw [n3 j z1 z2, r1 29 (by omega)]) (by rw [n1 0 (by omega) (by omega), r3, n4])⟩⟩
        · unfold fX6_read
          rw [in9 _ (by omega) (by omega), in9 _ (by omega) (by omega), in9 _ (by omega) (by omega)]
          simp only [ob, rb_0]
          rw [if_neg (fun z => z q), if_neg (fun z => z q2), if_neg (fun z => z q3), hN.1]
          exact r5
        · show fX7_read _ _ _ _ _ = _
          unfold fX7_read
          rw [in7 _ (by omega) (by omega), in7 _ (by omega) (by omega), in7 _ (by omega) (by omega)]
          simp only [ob, rb_0]
          rw [if_neg (fun z => z q), if_neg (fun z => z q2), if_neg (fun z => z q3), m4, ob]
          exact n7
      · refine ⟨rI (-1), σ, σ, ?_, ?_, h⟩
        · unfold fX6_read
          rw [in9 _ (by omega) (by omega), in9 _ (by omega) (by omega), in9 _ (by omega) (by omega)]
          simp only [ob, rb_0]
          rw [if_neg (fun z => z q), if_neg (fun z => z q2), if_pos q3]
        · show fX7_read _ _ _ _ _ = _
          unfold fX7_read
          rw [in7 _ (by omega) (by omega), in7 _ (by omega) (by omega), in7 _ (by omega) (by omega)]
          simp only [ob, rb_0]
          rw [if_neg (fun z => z q), if_neg (fun z => z q2), if_pos q3]
    · refine ⟨rI (-1), σ, σ, ?_, ?_, h⟩
      · unfold fX6_read
        rw [in9 _ (by omega) (by omega), in9 _ (by omega) (by omega)]
        simp only [ob, rb_0]
        rw [if_neg (fun z => z q), if_pos q2]
      · show fX7_read _ _ _ _ _ = _
        unfold fX7_read
        rw [in7 _ (by omega) (by omega), in7 _ (by omega) (by omega)]
        simp only [ob, rb_0]
        rw [if_neg (fun z => z q), if_pos q2]
  · refine ⟨rI (-1), σ, σ, ?_, ?_, h⟩
    · unfold fX6_read
      rw [in9 _ (by omega) (by omega)]
      simp only [ob, rb_0]
      rw [if_pos q]
    · show fX7_read _ _ _ _ _ = _
      unfold fX7_read
      rw [in7 _ (by omega) (by omega)]
      simp only [ob, rb_0]
      rw [if_pos q]
