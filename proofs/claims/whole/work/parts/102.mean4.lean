/-! mean: the operation -/
def nCl (g : Nat → Int) (c N r m : Nat) : Nat := 1000000 - c ^ sCh g r (m : Nat) N * 10 ^ (6 - sCh g r (m : Nat) N)
theorem nSum_add2 {f h q : Nat → Nat} (k : Nat) (e : ∀ i, i < k → f i + h i = q i) : nSum f k + nSum h k = nSum q k := by
  rw [← nSum_add]; exact nSum_congr k e
theorem sCh_b (g : Nat → Int) (r : Nat) (m : Int) (N : Nat) : sCh g r m N ≤ N := by
  unfold sCh
  by_cases z : sCough g r m
  · rw [if_pos z]; omega
  · rw [if_neg z]; exact cntR_b _ N
theorem pow_mix {c x : Nat} (hc : c ≤ 10) (hx : x ≤ 6) : c ^ x * 10 ^ (6 - x) ≤ 1000000 := by
  have a := Nat.mul_le_mul_right (10 ^ (6 - x)) (Nat.pow_le_pow_left hc x)
  rw [← Nat.pow_add, show x + (6 - x) = 6 by omega] at a
  exact a
theorem lit_sum {g : Nat → Int} (hV : sV g) {N r c : Nat} (hN : g 24 = N) (hr : (r : Int) < g 33) (hc : c ≤ 10) (m : Nat) : nSum (fun D => (if sLook g (sD D) r (m : Nat) = -4 then 0 else 1) * sWt c D N) (2 ^ N) * 10 ^ (6 - N) = nCl g c N r m := by
  have v1 := hV.1
  obtain ⟨e, e1, e2⟩ := dark_sum hV hN hr hc (m : Int)
  have e3 := nSum_add2 (f := fun D => (if sLook g (sD D) r (m : Nat) = -4 then 0 else 1) * sWt c D N) (h := fun D => sWt c D N * (if sLook g (sD D) r (m : Nat) = -4 then 1 else 0)) (q := fun D => sWt c D N) (2 ^ N) (fun D _ => by
    by_cases z : sLook g (sD D) r (m : Nat) = -4
    · simp only [if_pos z]; rw [Nat.zero_mul, Nat.mul_one, Nat.zero_add]
    · simp only [if_neg z]; rw [Nat.one_mul, Nat.mul_zero, Nat.add_zero])
  rw [e2, nSum_wt hc N] at e3
  obtain ⟨A, hA⟩ : ∃ A, A = nSum (fun D => (if sLook g (sD D) r (m : Nat) = -4 then 0 else 1) * sWt c D N) (2 ^ N) := ⟨_, rfl⟩
  rw [← hA] at e3 ⊢
  have e4 : (A + c ^ sCh g r (m : Nat) N * 10 ^ e) * 10 ^ (6 - N) = 10 ^ N * 10 ^ (6 - N) := by rw [e3]
  rw [← Nat.pow_add, show N + (6 - N) = 6 by omega, Nat.add_mul, Nat.mul_assoc, ← Nat.pow_add, show e + (6 - N) = 6 - sCh g r (m : Nat) N by omega] at e4
  unfold nCl
  omega
theorem tot_sum {g : Nat → Int} (hV : sV g) {N c : Nat} (hN : g 24 = N) (hc : c ≤ 10) : nSum (fun D => sWt c D N * nHit g (sD D)) (2 ^ N) * 10 ^ (6 - N) = nSum (fun r => nSum (fun m => nCl g c N r m) 80) (g 33).toNat := by
  have v2 := hV.2.1
  have s1 : nSum (fun D => sWt c D N * nHit g (sD D)) (2 ^ N) = nSum (fun D => nSum (fun r => nSum (fun m => (if sLook g (sD D) r (m : Nat) = -4 then 0 else 1) * sWt c D N) 80) (g 33).toNat) (2 ^ N) := by
    refine nSum_congr _ (fun D _ => ?_)
    unfold nHit
    rw [Nat.mul_comm, ← nSum_mul]
    exact nSum_congr _ (fun r _ => (nSum_mul _ _ _).symm)
  rw [s1, nSum_swap, ← nSum_mul]
  refine nSum_congr _ (fun r hr => ?_)
  show nSum (fun D => nSum (fun m => (if sLook g (sD D) r (m : Nat) = -4 then 0 else 1) * sWt c D N) 80) (2 ^ N) * 10 ^ (6 - N) = _
  rw [nSum_swap, ← nSum_mul]
  refine nSum_congr _ (fun m _ => ?_)
  exact lit_sum hV hN (by omega) hc m
theorem nSum_le {f : Nat → Nat} {B : Nat} (h : ∀ i, f i ≤ B) : ∀ k : Nat, nSum f k ≤ k * B := by
  intro k
  induction k with
  | zero => rw [nSum]; omega
  | succ k ih =>
    have := h k
    rw [nSum, Nat.add_mul, Nat.one_mul]; omega
theorem cMean {τ : rp_S} {g : Nat → Int} (hS : SH τ g (sD 0)) (hN1 : NT τ 1 g) (hV : sV g) {N c : Nat} (hN : g 24 = N) (hc : c ≤ 10) (y : Int32) : fX6_mean_49 1000 τ (rI c) y (rJ 1000000) (rJ 0) (rI 0) = (fX6_partOf (rJ ((nSum (fun r => nSum (fun m => nCl g c N r m) 80) (g 33).toNat : Nat) : Int)) (rJ 1000000) y).bind fun x => some (x, τ) := by
  have v1 := hV.1
  have v2 := hV.2.1
  have inner : ∀ (k49 : rp_S → Int32 → Int32 → Int64 → Int64 → Int32 → Option (Int64 × rp_S)) (r : Nat), (r : Int) < g 33 → ∀ (k m f S : Nat), k < f → m + k = 80 → fX6_mean_64 k49 f τ (rI c) y (rJ 1000000) (rJ ((S + nSum (fun m => nCl g c N r m) m : Nat) : Int)) (rI r) (rI (m : Int)) = k49 τ (rI c) y (rJ 1000000) (rJ ((S + nSum (fun m => nCl g c N r m) 80 : Nat) : Int)) (rI ((r + 1 : Nat) : Int)) := by
    intro k49 r hr k
    induction k with
    | zero =>
      intro m f S hf hm
      obtain ⟨f, rfl⟩ : ∃ q, f = q + 1 := ⟨f - 1, by omega⟩
      have e : m = 80 := by omega
      rw [fX6_mean_64, if_pos (by rw [rI_le (by omega) (by omega) (by omega) (by omega)]; omega), iI_s, e]
    | succ k ih =>
      intro m f S hf hm
      obtain ⟨f, rfl⟩ : ∃ q, f = q + 1 := ⟨f - 1, by omega⟩
      have e := ih (m + 1) f S (by omega) (by omega)
      have xb := sCh_b g r (m : Int) N
      have xm := pow_mix (c := c) (x := sCh g r (m : Int) N) hc (by omega)
      have p10 : fX6_power (rJ 10) (rI ((6 - sCh g r (m : Int) N : Nat) : Int)) = some (rJ ((10 ^ (6 - sCh g r (m : Int) N) : Nat) : Int)) := cPower (c := 10) (by omega) (by omega)
      rw [fX6_mean_64, if_neg (by rw [rI_le (by omega) (by omega) (by omega) (by omega)]; omega), cChoices hS hV hN hr (by omega) (by omega), ob, i64 (z := (c : Int)) (by omega) (by omega), cPower hc (by omega), ob, rI_sub, show (6 : Int) - ((sCh g r (m : Int) N : Nat) : Int) = ((6 - sCh g r (m : Int) N : Nat) : Int) by omega, p10, ob, rJ_mul, rJ_sub, rJ_add, iI_s, ← e]
      have ec : nSum (fun m => nCl g c N r m) (m + 1) = nSum (fun m => nCl g c N r m) m + nCl g c N r m := rfl
      have ed : ((nCl g c N r m : Nat) : Int) = 1000000 - ((c ^ sCh g r (m : Int) N : Nat) : Int) * ((10 ^ (6 - sCh g r (m : Int) N) : Nat) : Int) := by
        unfold nCl
        rw [← Int.natCast_mul]
        omega
      rw [ec, ← ed, ← Nat.add_assoc, Int.natCast_add (S + _) _]
  have outer : ∀ (k r f : Nat), k < f → r + k = (g 33).toNat → fX6_mean_49 f τ (rI c) y (rJ 1000000) (rJ ((nSum (fun r => nSum (fun m => nCl g c N r m) 80) r : Nat) : Int)) (rI r) = (fX6_partOf (rJ ((nSum (fun r => nSum (fun m => nCl g c N r m) 80) (g 33).toNat : Nat) : Int)) (rJ 1000000) y).bind fun x => some (x, τ) := by
    intro k
    induction k with
    | zero =>
      intro r f hf hr
      obtain ⟨f, rfl⟩ : ∃ q, f = q + 1 := ⟨f - 1, by omega⟩
      have e : r = (g 33).toNat := by omega
      rw [fX6_mean_49, hN1.2.1, if_pos (by rw [rI_le (by omega) (by omega) (by omega) (by omega)]; omega), e]
    | succ k ih =>
      intro r f hf hr
      obtain ⟨f, rfl⟩ : ∃ q, f = q + 1 := ⟨f - 1, by omega⟩
      rw [fX6_mean_49, hN1.2.1, if_neg (by rw [rI_le (by omega) (by omega) (by omega) (by omega)]; omega)]
      have e := inner (fun σ v1 v2 v3 v5 v7 => fX6_mean_49 f σ v1 v2 v3 v5 v7) r (by omega) 80 0 1000 (nSum (fun r => nSum (fun m => nCl g c N r m) 80) r) (by omega) (by omega)
      have e2 := ih (r + 1) f (by omega) (by omega)
      exact e.trans e2
  exact outer (g 33).toNat 0 1000 (by omega) (by omega)
theorem op_mean {σ : rp_S} (h : Inv σ) (u v : Int32) : OpL (fX6_mean σ u v) (fun τ => fX7_mean τ u v) := by
  obtain ⟨g, hp, hr⟩ := id h
  obtain ⟨hP, hV, hN⟩ := id hp
  have v1 := hV.1
  have v2 := hV.2.1
  by_cases q1 : 0 ≤ u.toInt ∧ u.toInt ≤ 10
  · by_cases q2 : 0 ≤ v.toInt ∧ v.toInt ≤ 1
    · obtain ⟨c, rfl, hc2⟩ := toN q1.1
      have hc : c ≤ 10 := by omega
      obtain ⟨N, hN24⟩ : ∃ N : Nat, g 24 = N := ⟨(g 24).toNat, by omega⟩
      have q6 := ten6 N (by omega)
      have q7 := ten6 (6 - N) (by omega)
      obtain ⟨τ, a1, a2, a3⟩ := cBegin hN hV
      have hp' := hp.q a1.q
      have hr' := hr.q a1.q
      obtain ⟨φ, hφ⟩ : ∃ φ : Nat → Nat, φ = fun D => nHit g (sD D) := ⟨_, rfl⟩
      have hφb : ∀ D, φ D ≤ 320 := fun D => by
        have b1 := sMin_b (g := g) (sD D) (by omega) 80
        have b2 := sMin_n (g := g) (sD D)
        rw [hφ]
        show nHit g (sD D) ≤ 320
        omega
      obtain ⟨ν, n1, n2⟩ := mByDamp hp'.1 hV hr'.2.2.2.2.1.2.2 hN24 hc (rI (-4)) (rI 0) v φ hφb (by
        intro ν D K hD hQ d14 hB
        rw [if_pos rfl, hB.2.1, sMin_n, hφ])
      have ts := tot_sum hV hN24 hc
      obtain ⟨a, ha⟩ : ∃ a, a = nSum (fun D => sWt c D N * nHit g (sD D)) (2 ^ N) := ⟨_, rfl⟩
      obtain ⟨T, hT⟩ : ∃ T, T = nSum (fun r => nSum (fun m => nCl g c N r m) 80) (g 33).toNat := ⟨_, rfl⟩
      rw [← ha, ← hT] at ts
      have Tb : T ≤ 4 * (80 * 1000000) := by
        rw [hT]
        have b1 : ∀ r, nSum (fun m => nCl g c N r m) 80 ≤ 80 * 1000000 := fun r => nSum_le (fun m => by unfold nCl; omega) 80
        exact Nat.le_trans (nSum_le b1 _) (Nat.mul_le_mul_right _ (by omega))
      have ab : a ≤ a * 10 ^ (6 - N) := Nat.le_mul_of_pos_right a (by omega)
      have tt : 10 ^ N * 10 ^ (6 - N) = 1000000 := by rw [← Nat.pow_add, show N + (6 - N) = 6 by omega]
      have ps := part_scale (a := a) (b := 10 ^ N) (t := 10 ^ (6 - N)) (by omega)
      rw [ts, tt] at ps
      refine ⟨if v = 0 then rJ ((a / Nat.gcd a (10 ^ N) : Nat) : Int) else rJ ((10 ^ N / Nat.gcd a (10 ^ N) : Nat) : Int), τ, ν, ?_, ?_, h.q (a1.q.tr n1.q)⟩
      · unfold fX6_mean
        have p6 : fX6_power (rJ 10) (rI 6) = some (rJ 1000000) := cPower (c := 10) (k := 6) (by omega) (by omega)
        have pt : fX6_partOf (rJ (T : Int)) (rJ 1000000) v = some (if v = 0 then rJ ((T / Nat.gcd T 1000000 : Nat) : Int) else rJ ((1000000 / Nat.gcd T 1000000 : Nat) : Int)) := cPart (a := T) (b := 1000000) (by omega) (by omega) (by omega) v
        rw [in9 _ (by omega) (by omega), in9 _ (by omega) (by omega)]
        simp only [ob, rb_0]
        rw [if_neg (fun z => z q1), if_neg (fun z => z q2), a3, ob, p6, ob, cMean a2 hp'.2.2 hV hN24 hc v, ← hT, pt, ob, ps.1, ps.2]
      · show fX7_mean _ _ _ = _
        unfold fX7_mean
        have en : nSum (fun D => sWt c D N * φ D) (2 ^ N) = a := by rw [ha, hφ]
        rw [in7 _ (by omega) (by omega), in7 _ (by omega) (by omega)]
        simp only [ob, rb_0]
        rw [if_neg (fun z => z q1), if_neg (fun z => z q2), n2, en, mPart (by omega) (by omega) (by omega), ob, ob]
    · refine ⟨rJ (-1), σ, σ, ?_, ?_, h⟩
      · unfold fX6_mean fX6_mean_19
        rw [in9 _ (by omega) (by omega), in9 _ (by omega) (by omega)]
        simp only [ob, rb_0]
        rw [if_neg (fun z => z q1), if_pos q2]
      · show fX7_mean _ _ _ = _
        unfold fX7_mean fX7_mean_34
        rw [in7 _ (by omega) (by omega), in7 _ (by omega) (by omega)]
        simp only [ob, rb_0]
        rw [if_neg (fun z => z q1), if_pos q2]
  · refine ⟨rJ (-1), σ, σ, ?_, ?_, h⟩
    · unfold fX6_mean fX6_mean_19
      rw [in9 _ (by omega) (by omega)]
      simp only [ob, rb_0]
      rw [if_pos q1]
    · show fX7_mean _ _ _ = _
      unfold fX7_mean fX7_mean_34
      rw [in7 _ (by omega) (by omega)]
      simp only [ob, rb_0]
      rw [if_pos q1]
