/-! drift -/
theorem and_b (y : Int32) : 0 ≤ (y &&& rI 32767).toInt ∧ (y &&& rI 32767).toInt ≤ 32767 := by
  have e : (y &&& rI 32767).toBitVec = y.toBitVec &&& 32767#32 := by rw [Int32.toBitVec_and]; rfl
  have n : (y.toBitVec &&& 32767#32).toNat ≤ 32767 := by rw [BitVec.toNat_and]; exact Nat.and_le_right
  rw [← Int32.toInt_toBitVec, e, BitVec.toInt_eq_toNat_of_lt (by omega)]
  omega
def dN (s : Int32) : Int32 := s * rI 1103515245 + rI 12345
def dB (s : Int32) : Int := ((dN s >>> (rI 16 &&& 31)) &&& rI 32767).toInt
theorem dB_b (s : Int32) : 0 ≤ dB s ∧ dB s ≤ 32767 := and_b _
theorem dB_e (s : Int32) : ((s * rI 1103515245 + rI 12345) >>> (rI 16 &&& 31)) &&& rI 32767 = rI (dB s) := by unfold dB dN; exact rI_of _
def gD (g : Nat → Int) (s : Int32) : Nat → Int := gU (gU g 34 (dB s % 9 - 4)) 35 (dB s / 16 % 10)
theorem wB {B : Int} (h : 0 ≤ B ∧ B ≤ 32767) : -4 ≤ B % 9 - 4 ∧ B % 9 - 4 ≤ 4 := by omega
theorem wD {B : Int} (h : 0 ≤ B ∧ B ≤ 32767) : 0 ≤ B / 16 % 10 ∧ B / 16 % 10 ≤ 9 := by omega
theorem wE (B : Int) : B % 9 = B % 9 - 4 + 4 := by omega
theorem d9 {B : Int} (h0 : 0 ≤ B) (h1 : B ≤ 32767) : rI B - rI B / rI 9 * rI 9 = rI (B % 9) := rI_rem h0 (by omega) (by omega) (by omega)
theorem d10 {B : Int} (h0 : 0 ≤ B) (h1 : B ≤ 32767) : rI B / rI 16 - rI B / rI 16 / rI 10 * rI 10 = rI (B / 16 % 10) := by
  rw [rI_div h0 (by omega) (by omega) (by omega)]
  exact rI_rem (by omega) (by omega) (by omega) (by omega)
/-- a sum over the seeds that follow a seed -/
def sDrift (F : Int32 → Int) : Nat → Int32 → Int
  | 0, _ => 0
  | t + 1, s => F s + sDrift F t (dN s)
theorem op_drift {σ : rp_S} (h : Inv σ) (u v x : Int32) : OpW (fX6_drift σ u v x) (fun τ => fX7_drift τ u v x) := by
  obtain ⟨g, hp, hr⟩ := id h
  obtain ⟨hP, hV, hN⟩ := id hp
  have v1 := hV.1
  have v2 := hV.2.1
  by_cases q : 1 ≤ v.toInt ∧ v.toInt ≤ 60
  · by_cases q2 : 0 ≤ x.toInt ∧ x.toInt ≤ 1
    · obtain ⟨c, rfl, hc2⟩ := toN (v := v) (by omega)
      have gV : ∀ s, sV (gU g 34 (dB s % 9 - 4)) ∧ sV (gD g s) := fun s => by
        have h1 := hV.setB (wB (dB_b s))
        exact ⟨h1, h1.setD (wD (dB_b s))⟩
      obtain ⟨τ, a1, a2, a3⟩ := cBegin hN hV
      have cl : ∀ (t i n : Nat) (ρ : rp_S) (s : Int32) (acc : Int) (gc : Nat → Int), t < n → i + t = c → CF σ ρ → NT ρ 5 gc → sV gc → (∃ a b, gc = gU (gU g 34 a) 35 b) →
          ∃ ρ', CF σ ρ' ∧ fX6_drift_41 n ρ (rI c) x s (rI acc) (rI i) = some (rI (acc + (if x = 0 then sDrift (fun s => sWs (gD g s) (sD 0) (g 33).toNat) t s else sDrift (fun s => sMin (gD g s) (sD 0) 80) t s)), ρ') := by
        intro t
        induction t with
        | zero =>
          intro i n ρ s acc gc hn hi hC hT hX hG
          obtain ⟨n, rfl⟩ : ∃ q, n = q + 1 := ⟨n - 1, by omega⟩
          rw [fX6_drift_41, if_pos (by rw [rI_le (by omega) (by omega) (by omega) (by omega)]; omega), sDrift, sDrift, ite_self, Int.add_zero]
          exact ⟨ρ, hC, rfl⟩
        | succ t ih =>
          intro i n ρ s acc gc hn hi hC hT hX hG
          obtain ⟨n, rfl⟩ : ∃ q, n = q + 1 := ⟨n - 1, by omega⟩
          obtain ⟨ga, gb, hG⟩ := hG
          have t1 := hT.setB hX (wE (dB s))
          have hX1 : sV (gU gc 34 (dB s % 9 - 4)) := hX.setB (wB (dB_b s))
          have t2 := t1.setD hX1 (dB s / 16 % 10)
          have eg : gU (gU gc 34 (dB s % 9 - 4)) 35 (dB s / 16 % 10) = gD g s := by
            rw [hG]
            funext j
            unfold gD
            rw [gU_at, gU_at, gU_at, gU_at, gU_at, gU_at]
            by_cases z : j = 35
            · rw [if_pos z, if_pos z]
            · rw [if_neg z, if_neg z, if_neg z]
              by_cases z2 : j = 34
              · rw [if_pos z2, if_pos z2]
              · rw [if_neg z2, if_neg z2, if_neg z2]
          rw [eg] at t2
          obtain ⟨ρ2, s1, s2, s3⟩ := cSettle t2 (gV s).2
          have e33 : gD g s 33 = g 33 := by unfold gD; rw [gU_ne (by omega), gU_ne (by omega)]
          have w1 := cWhAll s2 (gV s).2
          rw [e33] at w1
          have w2 := cMinAll s2 (gV s).2
          have c2 : CF σ ρ2 := ((hC.u (by omega) (by omega)).u (by omega) (by omega)).tr s1.c
          rw [fX6_drift_41, if_neg (by rw [rI_le (by omega) (by omega) (by omega) (by omega)]; omega), dB_e, d9 (dB_b s).1 (dB_b s).2, d10 (dB_b s).1 (dB_b s).2, ob, ob, s3, ob]
          unfold fX6_drift_133
          rw [w1, ob, w2, ob, rI_add acc, rI_add acc, iI_s]
          by_cases z : x = 0
          · rw [if_pos z, if_pos z]
            obtain ⟨ρ', y1, y2⟩ := ih (i + 1) n ρ2 (dN s) (acc + sWs (gD g s) (sD 0) (g 33).toNat) (gD g s) (by omega) (by omega) c2 s2.1 (gV s).2 ⟨_, _, rfl⟩
            rw [if_pos z] at y2
            refine ⟨ρ', y1, ?_⟩
            rw [sDrift, ← Int.add_assoc]
            exact y2
          · rw [if_neg z, if_neg z]
            obtain ⟨ρ', y1, y2⟩ := ih (i + 1) n ρ2 (dN s) (acc + sMin (gD g s) (sD 0) 80) (gD g s) (by omega) (by omega) c2 s2.1 (gV s).2 ⟨_, _, rfl⟩
            rw [if_neg z] at y2
            refine ⟨ρ', y1, ?_⟩
            rw [sDrift, ← Int.add_assoc]
            exact y2
      obtain ⟨ρ, g1, g2⟩ := cl c 0 1000 τ u 0 g (by omega) (by omega) a1 a2.1 hV ⟨g 34, g 35, by rw [gU_id, gU_id]⟩
      have hp' := hp.q g1.q
      have hr' := hr.q g1.q
      obtain ⟨μ, m1, m2, m3⟩ := mTried hp'.1
      have ml : ∀ (t i n : Nat) (ν : rp_S) (s : Int32) (a b : Int) (gc : Nat → Int), t < n → i + t = c → MF ρ ν → PG ν 144 gc → (∃ a b, gc = gU (gU g 34 a) 35 b) →
          ∃ ν', MF ρ ν' ∧ fX7_drift_44 n ν (rI c) x s (rI a) (rI b) (rI i) = some ((if x = 0 then rI (a + sDrift (fun s => sWs (gD g s) (sD 0) (g 33).toNat) t s) else rI (b + sDrift (fun s => sMin (gD g s) (sD 0) 80) t s)), ν') := by
        intro t
        induction t with
        | zero =>
          intro i n ν s a b gc hn hi hM hQ hG
          obtain ⟨n, rfl⟩ : ∃ q, n = q + 1 := ⟨n - 1, by omega⟩
          rw [fX7_drift_44, if_pos (by rw [rI_le (by omega) (by omega) (by omega) (by omega)]; omega), sDrift, sDrift, Int.add_zero, Int.add_zero]
          refine ⟨ν, hM, ?_⟩
          by_cases z : x = 0
          · rw [if_pos z, if_pos z]
          · rw [if_neg z, if_neg z]
        | succ t ih =>
          intro i n ν s a b gc hn hi hM hQ hG
          obtain ⟨n, rfl⟩ : ∃ q, n = q + 1 := ⟨n - 1, by omega⟩
          obtain ⟨ga, gb, hG⟩ := hG
          have hD : ν 28 14 = rI 0 := by rw [hM.2.2 14 (by omega) (by omega) (by omega)]; exact hr'.2.2.2.2.1.2.2
          have h1 := hQ.set (j := 34) (by omega) (dB s % 9 - 4)
          have h1' : PG (rp_up ν 29 (178 : Int).toNat (rI (dB s % 9 - 4))) 144 (gU (gU gc 34 (dB s % 9 - 4)) 35 ((gU gc 34 (dB s % 9 - 4)) 35)) := by rw [gU_id]; exact h1
          have eg : gU (gU gc 34 (dB s % 9 - 4)) 35 (dB s / 16 % 10) = gD g s := by
            rw [hG]
            funext j
            unfold gD
            rw [gU_at, gU_at, gU_at, gU_at, gU_at, gU_at]
            by_cases z : j = 35
            · rw [if_pos z, if_pos z]
            · rw [if_neg z, if_neg z, if_neg z]
              by_cases z2 : j = 34
              · rw [if_pos z2, if_pos z2]
              · rw [if_neg z2, if_neg z2, if_neg z2]
          have fM : MF ν (rp_up ν 29 (178 : Int).toNat (rI (dB s % 9 - 4))) := ⟨fun b z1 z2 z3 => up_ne z2, fun j hj => up_nj (show j ≠ 178 by omega), fun j z1 z2 z3 => by rw [up_ne (by omega)]⟩
          obtain ⟨ν2, t1, t2, t3, t4, t5, t6⟩ := mTry (j := 35) (v := dB s / 16 % 10) h1' (by omega) (by rw [eg]; exact (gV s).2) (by rw [up_ne (by omega)]; exact hD)
          have t6' : fX7_nightOn (rp_up (rp_up ν 29 (178 : Int).toNat (rI (dB s % 9 - 4))) 29 (179 : Int).toNat (rI (dB s / 16 % 10))) (rI 144) = some ν2 := t6
          rw [eg] at t2 t4 t5
          have e33 : gD g s 33 = g 33 := by unfold gD; rw [gU_ne (by omega), gU_ne (by omega)]
          rw [e33] at t5
          rw [fX7_drift_44, if_neg (by rw [rI_le (by omega) (by omega) (by omega) (by omega)]; omega), dB_e, d9 (dB_b s).1 (dB_b s).2, d10 (dB_b s).1 (dB_b s).2, rI_sub, wr_ok (by omega) (by omega) (by omega), ob, wr_ok (by omega) (by omega) (by omega), ob, t6', ob, t5, t4.2.1, rI_add a, rI_add b, iI_s]
          obtain ⟨ν', y1, y2⟩ := ih (i + 1) n ν2 (dN s) (a + sWs (gD g s) (sD 0) (g 33).toNat) (b + sMin (gD g s) (sD 0) 80) (gD g s) (by omega) (by omega) ((hM.tr fM).tr t1) t2 ⟨_, _, rfl⟩
          refine ⟨ν', y1, ?_⟩
          rw [sDrift, sDrift, ← Int.add_assoc, ← Int.add_assoc]
          exact y2
      obtain ⟨ν, n1, n2⟩ := ml c 0 1000 μ u 0 0 g (by omega) (by omega) m1 m2 ⟨g 34, g 35, by rw [gU_id, gU_id]⟩
      refine ⟨rI (0 + (if x = 0 then sDrift (fun s => sWs (gD g s) (sD 0) (g 33).toNat) c u else sDrift (fun s => sMin (gD g s) (sD 0) 80) c u)), ρ, ν, ?_, ?_, h.q (g1.q.tr n1.q)⟩
      · unfold fX6_drift
        rw [inAB _ (by omega) (by omega) (by omega) (by omega), in9 _ (by omega) (by omega)]
        simp only [ob, rb_0]
        rw [if_neg (fun z => z q), if_neg (fun z => z q2), a3, ob]
        exact g2
      · show fX7_drift _ _ _ _ = _
        unfold fX7_drift
        rw [inI_ok _ (by omega) (by omega) (by omega) (by omega), in7 _ (by omega) (by omega)]
        simp only [ob, rb_0]
        rw [if_neg (fun z => z q), if_neg (fun z => z q2), m3, ob]
        refine Eq.trans n2 ?_
        by_cases z : x = 0
        · rw [if_pos z, if_pos z]
        · rw [if_neg z, if_neg z]
    · refine ⟨rI (-1), σ, σ, ?_, ?_, h⟩
      · unfold fX6_drift
        rw [inAB _ (by omega) (by omega) (by omega) (by omega), in9 _ (by omega) (by omega)]
        simp only [ob, rb_0]
        rw [if_neg (fun z => z q), if_pos q2]
      · show fX7_drift _ _ _ _ = _
        unfold fX7_drift
        rw [inI_ok _ (by omega) (by omega) (by omega) (by omega), in7 _ (by omega) (by omega)]
        simp only [ob, rb_0]
        rw [if_neg (fun z => z q), if_pos q2]
  · refine ⟨rI (-1), σ, σ, ?_, ?_, h⟩
    · unfold fX6_drift
      rw [inAB _ (by omega) (by omega) (by omega) (by omega)]
      simp only [ob, rb_0]
      rw [if_pos q]
    · show fX7_drift _ _ _ _ = _
      unfold fX7_drift
      rw [inI_ok _ (by omega) (by omega) (by omega) (by omega)]
      simp only [ob, rb_0]
      rw [if_pos q]
