/-! the reference's sum over the sets of damp works -/
theorem rI_pow7 : ∀ w : Nat, w < 7 → rI 1 <<< (rI (w : Int) &&& 31) = rI ((2 ^ w : Nat) : Int) := by decide +kernel
theorem bit6 : ∀ D : Nat, D < 64 → ∀ w : Nat, w < 6 → ((rI (D : Int) >>> (rI (w : Int) &&& 31)) &&& rI 1 = rI 1 ↔ sD D w = true) := by decide +kernel
theorem two6 : ∀ N : Nat, N < 7 → 1 ≤ 2 ^ N ∧ 2 ^ N ≤ 64 := by decide
theorem ten6 : ∀ N : Nat, N < 7 → 1 ≤ 10 ^ N ∧ 10 ^ N ≤ 1000000 := by decide
theorem cmp_le0 {a b : Int} (h1 : -9223372036854775808 ≤ a) (h2 : a < 9223372036854775808) (h3 : -9223372036854775808 ≤ b) (h4 : b < 9223372036854775808) : (lg_cmp (rJ a) (rJ b) ≤ 0) ↔ a ≤ b := by
  rw [← Int32.not_lt, cmp_gt0 h1 h2 h3 h4]
  omega
def DF (σ τ : rp_S) : Prop := (∀ b, b ≠ 28 → b ≠ 34 → τ b = σ b) ∧ ∀ j : Nat, j ≠ 14 → j ≠ 16 → j ≠ 17 → j ≠ 18 → τ 28 j = σ 28 j
theorem DF.pg {σ τ : rp_S} {g : Nat → Int} (h : DF σ τ) (hP : PG σ 0 g) : PG τ 0 g := hP.kept (fun j _ _ => by rw [h.1 29 (by omega) (by omega)])
theorem mByDamp {ρ : rp_S} {g : Nat → Int} (hP : PG ρ 0 g) (hV : sV g) (h14 : ρ 28 14 = rI 0) {N c : Nat} (hN : g 24 = N) (hc : c ≤ 10) (u v x : Int32) (φ : Nat → Nat) (hφb : ∀ D, φ D ≤ 320)
    (hφ : ∀ (ν : rp_S) (D : Nat) (K : Int32 → Option (Int64 × rp_S)), D < 64 → PG ν 0 g → ν 28 14 = rI (D : Int) → NB ν g (sD D) → (if u = rI (-4) then K (ν 28 16) else (fX7_isWhole ν (rI 0) u v).bind fun x8 => if x8 = 0 then K (rI 0) else K (rI 1)) = K (rI (φ D : Int))) :
    ∃ ν, MF ρ ν ∧ fX7_byDamp ρ (rI c) u v x = (fX7_lowest (rJ ((nSum (fun D => sWt c D N * φ D) (2 ^ N) : Nat) : Int)) (rJ ((10 ^ N : Nat) : Int)) x).bind fun y => some (y, ν) := by
  have v1 := hV.1
  have n6 : N < 7 := by omega
  have t6 := two6 N n6
  have q6 := ten6 N n6
  have wt : ∀ (k38 : rp_S → Int32 → Int32 → Int32 → Int32 → Int64 → Int64 → Int32 → Option (Int64 × rp_S)) (D : Nat) (s t : Int64) (ν : rp_S), D < 64 → DF ρ ν → ∀ (k w f : Nat), k < f → w + k = N →
      fX7_byDamp_58 k38 f ν (rI c) u v x s t (rI (D : Int)) (rJ ((sWt c D w : Nat) : Int)) (rI (w : Int)) = fX7_byDamp_58 k38 1 ν (rI c) u v x s t (rI (D : Int)) (rJ ((sWt c D N : Nat) : Int)) (rI (N : Int)) := by
    intro k38 D s t ν hD hF k
    induction k with
    | zero =>
      intro w f hf hw
      obtain ⟨f, rfl⟩ : ∃ q, f = q + 1 := ⟨f - 1, by omega⟩
      have e : w = N := by omega
      subst e
      have le : rI (g 24) ≤ rI (w : Int) := by rw [hN, rI_le (by omega) (by omega) (by omega) (by omega)]; omega
      rw [fX7_byDamp_58, fX7_byDamp_58, rd24 (hF.pg hP)]
      simp only [ob, if_pos le]
    | succ k ih =>
      intro w f hf hw
      obtain ⟨f, rfl⟩ : ∃ q, f = q + 1 := ⟨f - 1, by omega⟩
      have e := ih (w + 1) f (by omega) (by omega)
      rw [← e, fX7_byDamp_58, rd24 (hF.pg hP), ob, hN, if_neg (by rw [rI_le (by omega) (by omega) (by omega) (by omega)]; omega)]
      unfold fX7_byDamp_93
      simp only [bit6 D hD w (by omega), iI_s]
      have es : sWt c D (w + 1) = sWt c D w * (if sD D w = true then c else 10 - c) := rfl
      rw [es, Int.natCast_mul, ← rJ_mul]
      by_cases z : sD D w = true
      · rw [if_pos z, if_pos z, i64 (z := (c : Int)) (by omega) (by omega)]
      · rw [if_neg z, if_neg z, rI_sub, i64 (z := 10 - (c : Int)) (by omega) (by omega), show ((10 - c : Nat) : Int) = 10 - (c : Int) by omega]
  have body : ∀ (k38 : rp_S → Int32 → Int32 → Int32 → Int32 → Int64 → Int64 → Int32 → Option (Int64 × rp_S)) (D S : Nat) (t : Int64) (ν : rp_S), D < 64 → DF ρ ν →
      ∃ ν', DF ρ ν' ∧ fX7_byDamp_58 k38 1000 ν (rI c) u v x (rJ (S : Int)) t (rI (D : Int)) (rJ 1) (rI 0) = k38 ν' (rI c) u v x (rJ ((S + sWt c D N * φ D : Nat) : Int)) t (rI ((D + 1 : Nat) : Int)) := by
    intro k38 D S t ν hD hF
    have e := wt k38 D (rJ (S : Int)) t ν hD hF N 0 1000 (by omega) (by omega)
    have e' : fX7_byDamp_58 k38 1000 ν (rI c) u v x (rJ (S : Int)) t (rI (D : Int)) (rJ 1) (rI 0) = fX7_byDamp_58 k38 1 ν (rI c) u v x (rJ (S : Int)) t (rI (D : Int)) (rJ ((sWt c D N : Nat) : Int)) (rI (N : Int)) := e
    have wb := sWt_b hc D N
    have hφD := hφb D
    rw [e', fX7_byDamp_58, rd24 (hF.pg hP), ob, hN, if_pos (by rw [rI_le (by omega) (by omega) (by omega) (by omega)]; omega)]
    simp only [cmp_le0 (a := ((sWt c D N : Nat) : Int)) (b := 0) (by omega) (by omega) (by omega) (by omega)]
    by_cases z : ((sWt c D N : Nat) : Int) ≤ 0
    · refine ⟨ν, hF, ?_⟩
      rw [if_pos z, show sWt c D N = 0 by omega, Nat.zero_mul, Nat.add_zero]
      unfold fX7_byDamp_157
      rw [iI_s]
    · rw [if_neg z, ob]
      have hQ : PG (rp_up ν 28 14 (rI (D : Int))) 0 g := (hF.pg hP).kept (fun j _ _ => by rw [up_ne (by omega)])
      obtain ⟨ν1, t1, t2, t3, t4⟩ := mNight (D := D) hQ hV up_eq hD
      have hF2 : DF ρ ν1 := ⟨fun b z1 z2 => by rw [t1.1 b z1 z2, up_ne z1]; exact hF.1 b z1 z2, fun j z0 z1 z2 z3 => by rw [t1.2 j z1 z2 z3, up_nj z0]; exact hF.2 j z0 z1 z2 z3⟩
      have d14 : ν1 28 14 = rI (D : Int) := by rw [t1.2 14 (by omega) (by omega) (by omega), up_eq]
      refine ⟨ν1, hF2, ?_⟩
      rw [t4, ob, hφ ν1 D (fun s => fX7_byDamp_152 k38 ν1 (rI c) u v x t (rI (D : Int)) s (rJ ((sWt c D N : Nat) : Int)) (rJ (S : Int))) hD (hF2.pg hP) d14 t2]
      unfold fX7_byDamp_152 fX7_byDamp_157
      rw [i64 (z := (φ D : Int)) (by omega) (by omega), rJ_mul, rJ_add, iI_s, show ((S + sWt c D N * φ D : Nat) : Int) = (S : Int) + ((sWt c D N : Nat) : Int) * (φ D : Int) from by rw [Int.natCast_add, Int.natCast_mul]]
  have outer : ∀ (k D f : Nat) (ν : rp_S), k < f → D + k = 2 ^ N → DF ρ ν →
      ∃ ν', DF ρ ν' ∧ fX7_byDamp_38 f ν (rI c) u v x (rJ ((nSum (fun D => sWt c D N * φ D) D : Nat) : Int)) (rJ ((10 ^ N : Nat) : Int)) (rI (D : Int)) = (fX7_lowest (rJ ((nSum (fun D => sWt c D N * φ D) (2 ^ N) : Nat) : Int)) (rJ ((10 ^ N : Nat) : Int)) x).bind fun y => some (y, rp_up ν' 28 14 (rI 0)) := by
    intro k
    induction k with
    | zero =>
      intro D f ν hf hD hF
      obtain ⟨f, rfl⟩ : ∃ q, f = q + 1 := ⟨f - 1, by omega⟩
      have e : D = 2 ^ N := by omega
      rw [fX7_byDamp_38, rd24 (hF.pg hP), ob, hN, rI_pow7 N n6, if_pos (by rw [rI_le (by omega) (by omega) (by omega) (by omega)]; omega), ob, e]
      exact ⟨ν, hF, rfl⟩
    | succ k ih =>
      intro D f ν hf hD hF
      obtain ⟨f, rfl⟩ : ∃ q, f = q + 1 := ⟨f - 1, by omega⟩
      obtain ⟨ν1, b1, b2⟩ := body (fun σ v1 v2 v3 v4 v5 v7 v9 => fX7_byDamp_38 f σ v1 v2 v3 v4 v5 v7 v9) D (nSum (fun D => sWt c D N * φ D) D) (rJ ((10 ^ N : Nat) : Int)) ν (by omega) hF
      obtain ⟨ν2, c1, c2⟩ := ih (D + 1) f ν1 (by omega) (by omega) b1
      refine ⟨ν2, c1, ?_⟩
      rw [fX7_byDamp_38, rd24 (hF.pg hP), ob, hN, rI_pow7 N n6, if_neg (by rw [rI_le (by omega) (by omega) (by omega) (by omega)]; omega)]
      rw [nSum] at c2
      exact b2.trans c2
  have tens : ∀ (k i f : Nat), k < f → i + k = N → fX7_byDamp_9 f ρ (rI c) u v x (rJ 0) (rJ ((10 ^ i : Nat) : Int)) (rI (i : Int)) = fX7_byDamp_38 1000 ρ (rI c) u v x (rJ 0) (rJ ((10 ^ N : Nat) : Int)) (rI 0) := by
    intro k
    induction k with
    | zero =>
      intro i f hf hi
      obtain ⟨f, rfl⟩ : ∃ q, f = q + 1 := ⟨f - 1, by omega⟩
      have e : i = N := by omega
      subst e
      rw [fX7_byDamp_9, rd24 hP, ob, hN, if_pos (by rw [rI_le (by omega) (by omega) (by omega) (by omega)]; omega)]
    | succ k ih =>
      intro i f hf hi
      obtain ⟨f, rfl⟩ : ∃ q, f = q + 1 := ⟨f - 1, by omega⟩
      have e := ih (i + 1) f (by omega) (by omega)
      rw [Nat.pow_succ, Int.natCast_mul, ← rJ_mul] at e
      rw [fX7_byDamp_9, rd24 hP, ob, hN, if_neg (by rw [rI_le (by omega) (by omega) (by omega) (by omega)]; omega), iI_s]
      exact e
  obtain ⟨ν, o1, o2⟩ := outer (2 ^ N) 0 1000 ρ (by omega) (by omega) ⟨fun _ _ _ => rfl, fun _ _ _ _ _ => rfl⟩
  refine ⟨rp_up ν 28 14 (rI 0), ⟨fun b z1 z2 z3 => by rw [up_ne z1]; exact o1.1 b z1 z3, fun j hj => by rw [up_ne (by omega), o1.1 29 (by omega) (by omega)], fun j z1 z2 z3 => ?_⟩, ?_⟩
  · by_cases z : j = 14
    · subst z; rw [up_eq]; exact h14.symm
    · rw [up_nj z]; exact o1.2 j z z1 z2 z3
  · unfold fX7_byDamp
    exact (tens N 0 1000 (by omega) (by omega)).trans o2
