/-! luck: the operation -/
abbrev OpL (c : Option (Int64 × rp_S)) (m : rp_S → Option (Int64 × rp_S)) : Prop := ∃ (r : Int64) (σ1 σ2 : rp_S), c = some (r, σ1) ∧ m σ1 = some (r, σ2) ∧ Inv σ2
theorem sRc_cnt (g : Nat → Int) (r w : Nat) : ∀ k : Nat, sRc g (sD 0) r w k = ((cntR (fun v => decide (sRiv g (sD 0) r w v)) k : Nat) : Int) := by
  intro k
  induction k with
  | zero => rfl
  | succ k ih =>
    have ec : cntR (fun v => decide (sRiv g (sD 0) r w v)) (k + 1) = cntR (fun v => decide (sRiv g (sD 0) r w v)) k + (if decide (sRiv g (sD 0) r w k) = true then 1 else 0) := rfl
    rw [sRc, ih, ec]
    by_cases z : sRiv g (sD 0) r w k
    · rw [if_pos z, if_pos (decide_eq_true z)]; omega
    · rw [if_neg z, if_neg (by rw [decide_eq_false z]; decide)]; omega
theorem whole_ok {g : Nat → Int} (hV : sV g) {N r w : Nat} (hN : g 24 = N) (hr : (r : Int) < g 33) (hw : (w : Int) < g 24) (hA : sGoes g (sD 0) w ∧ sAlone g r w) (D : Nat) : sWhole g (sD D) r w ↔ okL w (fun v => decide (sRiv g (sD 0) r w v)) D N = true := by
  rw [whole_iff hV hr hw, okL_iff]
  constructor
  · intro ⟨h1, h2, h3⟩ v hv
    unfold okV
    by_cases z : v = w
    · subst z; rw [if_pos rfl, h1.2]; rfl
    · rw [if_neg z]
      cases hd : sD D v with
      | true => exact Bool.or_true _
      | false =>
        rw [Bool.or_false]
        have : ¬ sRiv g (sD 0) r w v := fun y => h3 v (by omega) ⟨y.1, ⟨y.2.1.1, hd⟩, y.2.2⟩
        show (!(decide (sRiv g (sD 0) r w v))) = true
        rw [decide_eq_false this]; rfl
  · intro h
    refine ⟨⟨hA.1.1, ?_⟩, hA.2, fun v hv y => ?_⟩
    · have := h w (by omega)
      unfold okV at this
      rw [if_pos rfl] at this
      cases hd : sD D w with
      | true => rw [hd] at this; exact absurd this (by decide)
      | false => rfl
    · have := h v (by omega)
      unfold okV at this
      have y2 : sRiv g (sD 0) r w v := ⟨y.1, ⟨y.2.1.1, sD_0 v⟩, y.2.2⟩
      rw [if_neg y.1] at this
      have t2 : (!(decide (sRiv g (sD 0) r w v)) || sD D v) = true := this
      rw [decide_eq_true y2, y.2.1.2] at t2
      exact absurd t2 (by decide)
theorem op_luck {σ : rp_S} (h : Inv σ) (u v x y : Int32) : OpL (fX6_luck σ u v x y) (fun τ => fX7_luck τ u v x y) := by
  obtain ⟨g, hp, hr⟩ := id h
  obtain ⟨hP, hV, hN⟩ := id hp
  have v1 := hV.1
  have v2 := hV.2.1
  by_cases q1 : 0 ≤ u.toInt ∧ u.toInt ≤ 10
  · by_cases q2 : 0 ≤ v.toInt ∧ v.toInt ≤ g 33 - 1
    · by_cases q3 : 0 ≤ x.toInt ∧ x.toInt ≤ g 24 - 1
      · by_cases q4 : 0 ≤ y.toInt ∧ y.toInt ≤ 1
        · obtain ⟨c, rfl, hc2⟩ := toN q1.1
          obtain ⟨r, rfl, hr2⟩ := toN q2.1
          obtain ⟨w, rfl, hw2⟩ := toN q3.1
          have hc : c ≤ 10 := by omega
          have hr33 : (r : Int) < g 33 := by omega
          have hw : (w : Int) < g 24 := by omega
          obtain ⟨N, hN24⟩ : ∃ N : Nat, g 24 = N := ⟨(g 24).toNat, by omega⟩
          have q6 := ten6 N (by omega)
          obtain ⟨τ, a1, a2, a3⟩ := cBegin hN hV
          have hp' := hp.q a1.q
          have hr' := hr.q a1.q
          obtain ⟨φ, hφ⟩ : ∃ φ : Nat → Nat, φ = fun D => if sWhole g (sD D) r w then 1 else 0 := ⟨_, rfl⟩
          obtain ⟨ν, n1, n2⟩ := mByDamp hp'.1 hV hr'.2.2.2.2.1.2.2 hN24 hc (rI r) (rI w) y φ (fun D => by rw [hφ]; show (if sWhole g (sD D) r w then 1 else 0) ≤ 320; split <;> omega) (by
            intro ν D K hD hQ d14 hB
            rw [if_neg (by rw [rI_eq (by omega) (by omega) (by omega) (by omega)]; omega), mWhole hQ hV d14 hD hB hr33 hw, ob, hφ]
            simp only [rb_0]
            by_cases z : sWhole g (sD D) r w
            · rw [if_neg (fun k => k z), if_pos z]; rfl
            · rw [if_pos z, if_neg z]; rfl)
          obtain ⟨a, b, e, hb, ha, hsum, hcl⟩ : ∃ a b e : Nat, (0 < b ∧ b * 10 ^ e = 10 ^ N) ∧ a ≤ 10000000 ∧ nSum (fun D => sWt c D N * φ D) (2 ^ N) = a * 10 ^ e ∧ fX6_luck σ (rI c) (rI r) (rI w) y = (fX6_partOf (rJ (a : Int)) (rJ (b : Int)) y).bind fun x => some (x, τ) := by
            have start : ∀ o : Option (Int64 × rp_S), ((fX3_isWholeAlone τ (rI r) (rI w)).bind fun x6 => (if x6 = 0 then ((fX6_partOf (rJ 0) (rJ 1) y).bind fun x11 => (some (x11, τ))) else ((fX3_rivalsOf τ (rI r) (rI w)).bind fun x7 => ((fX6_power ((rI c).toInt64) x7).bind fun x8 => ((fX6_power (rJ 10) (x7 + (rI 1))).bind fun x9 => ((fX6_partOf (((rI 10) - rI c).toInt64 * x8) x9 y).bind fun x10 => (some (x10, τ)))))))) = o → fX6_luck σ (rI c) (rI r) (rI w) y = o := by
              intro o ho
              unfold fX6_luck
              rw [in9 _ (by omega) (by omega), cHasR hN hV, cHasW hN hV, in9 _ (by omega) (by omega)]
              simp only [ob, rb_0]
              rw [if_neg (fun z => z q1), if_neg (fun z => z q2), if_neg (fun z => z q3), if_neg (fun z => z q4), a3, ob]
              exact ho
            by_cases hA : sGoes g (sD 0) w ∧ sAlone g r w
            · have hK := sRc_cnt g r w N
              have hKb := sRc_b g (sD 0) r w N
              obtain ⟨R, hR⟩ : ∃ R : Nat → Bool, R = fun v => decide (sRiv g (sD 0) r w v) := ⟨_, rfl⟩
              rw [← hR] at hK
              have Rw : R w = false := by rw [hR]; exact decide_eq_false (fun z => z.1 rfl)
              obtain ⟨e, e1, e2⟩ := hL_prod (c := c) Rw N
              rw [if_pos (by omega)] at e1 e2
              have k10 := ten6 (cntR R N) (by omega)
              have kc : c ^ cntR R N ≤ 10 ^ cntR R N := Nat.pow_le_pow_left hc _
              refine ⟨(10 - c) * c ^ cntR R N, 10 ^ (cntR R N + 1), e, ⟨Nat.pow_pos (by omega), by rw [← Nat.pow_add]; congr 1; omega⟩, ?_, ?_, ?_⟩
              · exact Nat.le_trans (Nat.mul_le_mul (show 10 - c ≤ 10 by omega) (Nat.le_trans kc k10.2)) (by omega)
              · rw [← e2, ← prodN_congr N (fun v _ => hL_sum (R := R) hc v), ← prodsum (hL c w R) N]
                refine nSum_congr _ (fun D _ => ?_)
                rw [← wt_ok, hφ]
                congr 1
                have := whole_ok hV hN24 hr33 hw hA D
                rw [← hR] at this
                by_cases z : sWhole g (sD D) r w
                · rw [if_pos (this.1 z)]; exact if_pos z
                · rw [if_neg (fun k => z (this.2 k))]; exact if_neg z
              · apply start
                rw [cAlone a2 hV hr33 hw, ob]
                simp only [rb_0]
                rw [if_neg (fun z => z hA), cRivals a2 hV hr33 hw hA.1 hA.2.1, ob, show (g 24).toNat = N by omega, hK, i64 (z := (c : Int)) (by omega) (by omega), cPower hc (by omega), ob, iI_s]
                have p10 : fX6_power (rJ 10) (rI ((cntR R N + 1 : Nat) : Int)) = some (rJ ((10 ^ (cntR R N + 1) : Nat) : Int)) := cPower (c := 10) (by omega) (by omega)
                rw [p10, ob, rI_sub, i64 (z := 10 - (c : Int)) (by omega) (by omega), rJ_mul, show (10 - (c : Int)) * ((c ^ cntR R N : Nat) : Int) = (((10 - c) * c ^ cntR R N : Nat) : Int) from by rw [Int.natCast_mul, show ((10 - c : Nat) : Int) = 10 - (c : Int) by omega]]
            · refine ⟨0, 1, N, ⟨by omega, Nat.one_mul _⟩, by omega, ?_, ?_⟩
              · rw [Nat.zero_mul]
                have : ∀ k, nSum (fun D => sWt c D N * φ D) k = 0 := by
                  intro k
                  induction k with
                  | zero => rfl
                  | succ k ih =>
                    have z : φ k = 0 := by
                      rw [hφ]
                      refine if_neg (fun z => hA ?_)
                      obtain ⟨z1, z2, z3⟩ := (whole_iff hV hr33 hw).1 z
                      exact ⟨⟨z1.1, sD_0 w⟩, z2⟩
                    rw [nSum, ih, z, Nat.mul_zero]
                exact this _
              · apply start
                rw [cAlone a2 hV hr33 hw, ob]
                simp only [rb_0]
                rw [if_pos hA]
                rfl
          have hb40 : b < 2 ^ 40 := by
            have : b ≤ b * 10 ^ e := Nat.le_mul_of_pos_right b (Nat.pow_pos (by omega))
            omega
          have e10 : 10 ^ e ≤ 1000000 := by
            have : 10 ^ e ≤ b * 10 ^ e := Nat.le_mul_of_pos_left _ hb.1
            omega
          have hs : a * 10 ^ e ≤ 10000000 * 1000000 := Nat.mul_le_mul ha e10
          have ps := part_scale (a := a) (b := b) (t := 10 ^ e) (Nat.pow_pos (by omega))
          refine ⟨if y = 0 then rJ ((a / Nat.gcd a b : Nat) : Int) else rJ ((b / Nat.gcd a b : Nat) : Int), τ, ν, ?_, ?_, h.q (a1.q.tr n1.q)⟩
          · rw [hcl, cPart (by omega) hb.1 hb40, ob]
          · show fX7_luck _ _ _ _ _ = _
            unfold fX7_luck
            rw [in7 _ (by omega) (by omega), mHasR hp'.1 hV, mHasW hp'.1 hV, in7 _ (by omega) (by omega)]
            simp only [ob, rb_0]
            rw [if_neg (fun z => z q1), if_neg (fun z => z q2), if_neg (fun z => z q3), if_neg (fun z => z q4), n2, hsum, ← hb.2, mPart (by omega) (by omega) (by omega), ob, ob, ps.1, ps.2]
        · refine ⟨rJ (-1), σ, σ, ?_, ?_, h⟩
          · unfold fX6_luck fX6_luck_42
            rw [in9 _ (by omega) (by omega), cHasR hN hV, cHasW hN hV, in9 _ (by omega) (by omega)]
            simp only [ob, rb_0]
            rw [if_neg (fun z => z q1), if_neg (fun z => z q2), if_neg (fun z => z q3), if_pos q4]
          · show fX7_luck _ _ _ _ _ = _
            unfold fX7_luck fX7_luck_51
            rw [in7 _ (by omega) (by omega), mHasR hP hV, mHasW hP hV, in7 _ (by omega) (by omega)]
            simp only [ob, rb_0]
            rw [if_neg (fun z => z q1), if_neg (fun z => z q2), if_neg (fun z => z q3), if_pos q4]
      · refine ⟨rJ (-1), σ, σ, ?_, ?_, h⟩
        · unfold fX6_luck fX6_luck_42
          rw [in9 _ (by omega) (by omega), cHasR hN hV, cHasW hN hV]
          simp only [ob, rb_0]
          rw [if_neg (fun z => z q1), if_neg (fun z => z q2), if_pos q3]
        · show fX7_luck _ _ _ _ _ = _
          unfold fX7_luck fX7_luck_51
          rw [in7 _ (by omega) (by omega), mHasR hP hV, mHasW hP hV]
          simp only [ob, rb_0]
          rw [if_neg (fun z => z q1), if_neg (fun z => z q2), if_pos q3]
    · refine ⟨rJ (-1), σ, σ, ?_, ?_, h⟩
      · unfold fX6_luck fX6_luck_42
        rw [in9 _ (by omega) (by omega), cHasR hN hV]
        simp only [ob, rb_0]
        rw [if_neg (fun z => z q1), if_pos q2]
      · show fX7_luck _ _ _ _ _ = _
        unfold fX7_luck fX7_luck_51
        rw [in7 _ (by omega) (by omega), mHasR hP hV]
        simp only [ob, rb_0]
        rw [if_neg (fun z => z q1), if_pos q2]
  · refine ⟨rJ (-1), σ, σ, ?_, ?_, h⟩
    · unfold fX6_luck fX6_luck_42
      rw [in9 _ (by omega) (by omega)]
      simp only [ob, rb_0]
      rw [if_pos q1]
    · show fX7_luck _ _ _ _ _ = _
      unfold fX7_luck fX7_luck_51
      rw [in7 _ (by omega) (by omega)]
      simp only [ob, rb_0]
      rw [if_pos q1]
