/-! see, forget, keep, back -/
theorem bit_set : ∀ b0 : Nat, b0 < 2 → ∀ b1 : Nat, b1 < 2 → rI ((b0 + 2 * b1 : Nat) : Int) ||| (rI 1 <<< (rI 0 &&& 31)) = rI ((1 + 2 * b1 : Nat) : Int) ∧ rI ((b0 + 2 * b1 : Nat) : Int) ||| (rI 1 <<< (rI 1 &&& 31)) = rI ((b0 + 2 * 1 : Nat) : Int) := by decide +kernel
theorem bit_get : ∀ b0 : Nat, b0 < 2 → ∀ b1 : Nat, b1 < 2 → (rI ((b0 + 2 * b1 : Nat) : Int) >>> (rI 0 &&& 31)) &&& rI 1 = rI (b0 : Int) ∧ (rI ((b0 + 2 * b1 : Nat) : Int) >>> (rI 1 &&& 31)) &&& rI 1 = rI (b1 : Int) := by decide +kernel
section OPS
variable {σ : rp_S}
theorem op_see (h : Inv σ) (u v : Int32) : OpW (fX6_see σ u v) (fun τ => fX7_see τ u v) := by
  obtain ⟨g, hp, ht, hs, hi, hsh, hc, hto, hfa⟩ := id h
  obtain ⟨hP, hV, hN⟩ := id hp
  obtain ⟨n, n1, n2, n3, n4⟩ := id hs
  have v1 := hV.1
  by_cases q : 0 ≤ u.toInt ∧ u.toInt ≤ g 24 - 1
  · by_cases q2 : 0 ≤ v.toInt ∧ v.toInt ≤ 11
    · obtain ⟨w, rfl, hw2⟩ := toN q.1
      obtain ⟨p, rfl, hp2⟩ := toN q2.1
      by_cases q3 : n < 6
      · have i1 : ∀ (j : Nat) (x : Int32) (ρ : rp_S), ρ 15 2 = rI n → rp_up ρ 16 j x 15 2 = rI n := fun j x ρ h => by rw [up_ne (by omega)]; exact h
        have i2 : ∀ (j : Nat) (x : Int32) (ρ : rp_S), ρ 15 2 = rI n → rp_up ρ 17 j x 15 2 = rI n := fun j x ρ h => by rw [up_ne (by omega)]; exact h
        obtain ⟨σ1, hσ1⟩ : ∃ σ1, σ1 = rp_up (rp_up (rp_up σ 16 n (rI w)) 17 n (rI p)) 15 2 (rI ((n + 1 : Nat) : Int)) := ⟨_, rfl⟩
        have k3 : σ1 28 20 = rI n := by rw [hσ1, up_ne (by omega), up_ne (by omega), up_ne (by omega)]; exact n3
        have P1 : PG σ1 0 g := hP.kept (fun j _ _ => by rw [hσ1, up_ne (by omega), up_ne (by omega), up_ne (by omega)])
        have i3 : ∀ (j : Nat) (x : Int32) (ρ : rp_S), ρ 28 20 = rI n → rp_up ρ 35 j x 28 20 = rI n := fun j x ρ h => by rw [up_ne (by omega)]; exact h
        refine ⟨rI ((n + 1 : Nat) : Int), σ1, rp_up (rp_up (rp_up σ1 35 (2 * n) (rI w)) 35 (2 * n + 1) (rI p)) 28 20 (rI ((n + 1 : Nat) : Int)), ?_, ?_, ⟨g, hp.kept ?_ ?_ ?_ ?_, ht.kept ?_ ?_ ?_ ?_, ⟨n + 1, by omega, ?_, up_eq, ?_⟩, hi.kept ?_ ?_ ?_ ?_, hsh.kept ?_ ?_ ?_, hc.kept ?_ ?_ ?_, ?_, ?_⟩⟩
        · unfold fX6_see fX4_add
          rw [cHasW hN hV, in9 _ (by omega) (by omega)]
          simp only [ob, rb_0]
          rw [if_neg (fun z => z q), if_neg (fun z => z q2), n2, if_pos (by rw [rI_lt (by omega) (by omega) (by omega) (by omega)]; omega), wr_n q3 (by omega), ob, i1 _ _ _ n2, wr_n q3 (by omega), ob, i2 _ _ _ (i1 _ _ _ n2), ob, iI_s, up_eq, hσ1]
        · show fX7_see _ _ _ = _
          unfold fX7_see
          have w1 : ∀ (ρ : rp_S) (x : Int32), rq_wr ρ 35 12 (rI 2 * rI n) x = some (rp_up ρ 35 (2 * n) x) := fun ρ x => by rw [rI_mul, wr_ok (by omega) (by omega) (by omega)]; congr 2
          have w2 : ∀ (ρ : rp_S) (x : Int32), rq_wr ρ 35 12 (rI 2 * rI n + rI 1) x = some (rp_up ρ 35 (2 * n + 1) x) := fun ρ x => by rw [rI_mul, rI_add, wr_ok (by omega) (by omega) (by omega)]; congr 2
          rw [mHasW P1 hV, isPlc]
          simp only [ob, rb_0]
          rw [if_neg (fun z => z q), if_neg (fun z => z q2), k3, if_neg (by rw [rI_eq (by omega) (by omega) (by omega) (by omega)]; omega), w1, ob, i3 _ _ _ k3, w2, ob, i3 _ _ _ (i3 _ _ _ k3), iI_s, up_eq]
        rotate_left 8
        · rw [hσ1]; simp (disch := omega) only [up_ne, up_nj, up_eq]
        · intro i hi
          rw [hσ1]
          by_cases z : i = n
          · subst z
            refine ⟨w, p, by omega, by omega, ?_, ?_, ?_, ?_⟩ <;> simp (disch := omega) only [up_ne, up_nj, up_eq]
          · obtain ⟨x, y, x1, x2, x3, x4, x5, x6⟩ := n4 i (by omega)
            refine ⟨x, y, x1, x2, ?_, ?_, ?_, ?_⟩ <;> simp (disch := omega) only [up_ne, up_nj] <;> assumption
        all_goals rw [hσ1]
        all_goals first | (intros; simp (disch := omega) only [up_ne, up_nj]; done) | (simp (disch := omega) only [up_ne, up_nj]; assumption) | assumption
      · refine ⟨rI (-3), σ, σ, ?_, ?_, h⟩
        · unfold fX6_see
          rw [cHasW hN hV, in9 _ (by omega) (by omega)]
          simp only [ob, rb_0]
          rw [if_neg (fun z => z q), if_neg (fun z => z q2), n2, if_neg (by rw [rI_lt (by omega) (by omega) (by omega) (by omega)]; omega)]
        · show fX7_see _ _ _ = _
          unfold fX7_see
          rw [mHasW hP hV, isPlc]
          simp only [ob, rb_0]
          rw [if_neg (fun z => z q), if_neg (fun z => z q2), n3, if_pos (by rw [rI_eq (by omega) (by omega) (by omega) (by omega)]; omega)]
    · refine ⟨rI (-1), σ, σ, ?_, ?_, h⟩
      · unfold fX6_see
        rw [cHasW hN hV, in9 _ (by omega) (by omega)]
        simp only [ob, rb_0]
        rw [if_neg (fun z => z q), if_pos q2]
      · show fX7_see _ _ _ = _
        unfold fX7_see
        rw [mHasW hP hV, isPlc]
        simp only [ob, rb_0]
        rw [if_neg (fun z => z q), if_pos q2]
  · refine ⟨rI (-1), σ, σ, ?_, ?_, h⟩
    · unfold fX6_see
      rw [cHasW hN hV]
      simp only [ob, rb_0]
      rw [if_pos q]
    · show fX7_see _ _ _ = _
      unfold fX7_see
      rw [mHasW hP hV]
      simp only [ob, rb_0]
      rw [if_pos q]
theorem op_forget (h : Inv σ) (v : Int32) : OpW (fX6_forget σ v) (fun τ => fX7_forget τ v) := by
  obtain ⟨g, hp, ht, hs, hi, hsh, hc, hto, hfa⟩ := id h
  obtain ⟨n, n1, n2, n3, n4⟩ := id hs
  by_cases q : 0 ≤ v.toInt ∧ v.toInt ≤ (n : Int)
  · obtain ⟨c, rfl, hc2⟩ := toN q.1
    refine ⟨rI (n : Int), rp_up σ 15 2 (rI c), rp_up (rp_up σ 15 2 (rI c)) 28 20 (rI c), ?_, ?_, ⟨g, hp.kept ?_ ?_ ?_ ?_, ht.kept ?_ ?_ ?_ ?_, ⟨c, by omega, by rw [up_ne (by omega), up_eq], up_eq, ?_⟩, hi.kept ?_ ?_ ?_ ?_, hsh.kept ?_ ?_ ?_, hc.kept ?_ ?_ ?_, ?_, ?_⟩⟩
    · unfold fX6_forget
      rw [n2, in9 _ (by omega) (by omega)]
      simp only [ob, rb_0]
      rw [if_neg (fun z => z q)]
    · show fX7_forget _ _ = _
      unfold fX7_forget
      rw [up_ne (by omega), n3, i64 (z := (n : Int)) (by omega) (by omega), in7 _ (by omega) (by omega)]
      simp only [ob, rb_0]
      rw [if_neg (fun z => z q)]
    rotate_left 8
    · intro i hi
      obtain ⟨x, y, x1, x2, x3, x4, x5, x6⟩ := n4 i (by omega)
      refine ⟨x, y, x1, x2, ?_, ?_, ?_, ?_⟩ <;> simp (disch := omega) only [up_ne, up_nj] <;> assumption
    all_goals first | (intros; simp (disch := omega) only [up_ne, up_nj]; done) | (simp (disch := omega) only [up_ne, up_nj]; assumption) | assumption
  · refine ⟨rI (-1), σ, σ, ?_, ?_, h⟩
    · unfold fX6_forget
      rw [n2, in9 _ (by omega) (by omega)]
      simp only [ob, rb_0]
      rw [if_pos q]
    · show fX7_forget _ _ = _
      unfold fX7_forget
      rw [n3, i64 (z := (n : Int)) (by omega) (by omega), in7 _ (by omega) (by omega)]
      simp only [ob, rb_0]
      rw [if_pos q]
theorem op_keep0 (h : Inv σ) : OpW (fX6_keep σ (rI 0)) (fun τ => fX7_keep τ (rI 0)) := by
  obtain ⟨g, hp, ht, hs, hi, hsh, hc, hto, hfa⟩ := id h
  obtain ⟨hP, hV, hN⟩ := id hp
  obtain ⟨b0, b1, c0, c1, d0, d1, d2, i0, i1⟩ := id hi
  obtain ⟨τ, t1, t2, t3⟩ := cBecome (a := 22) (b := 1) hN hV (by omega)
  obtain ⟨σ1, hσ1⟩ : ∃ σ1, σ1 = rp_up τ 0 8 (rI ((1 + 2 * b1 : Nat) : Int)) := ⟨_, rfl⟩
  have s1 : ∀ b, b ≠ 0 → b ≠ 22 → b ≠ 22 + 1 → b ≠ 22 + 2 → σ1 b = σ b := fun b z0 z1 z2 z3 => by rw [hσ1, up_ne z0, t1 b z1 z2 z3]
  have s0 : ∀ j, j ≠ 8 → σ1 0 j = σ 0 j := fun j hj => by rw [hσ1, up_nj hj, t1 0 (by omega) (by omega) (by omega)]
  have P1 : PG σ1 0 g := hP.kept (fun j _ _ => by rw [s1 29 (by omega) (by omega) (by omega) (by omega)])
  obtain ⟨μ, m1, m2, m3, m4⟩ := mCopies (q := 36) P1 (by omega) (by omega) (by omega)
  have f : ∀ b, b ≠ 0 → b ≠ 22 → b ≠ 22 + 1 → b ≠ 22 + 2 → b ≠ 29 → b ≠ 37 → rp_up μ 37 0 (rI 1) b = σ b := fun b z0 z1 z2 z3 z4 z5 => by rw [up_ne z5, m1 b z4, s1 b z0 z1 z2 z3]
  have f0 : ∀ j, j ≠ 8 → rp_up μ 37 0 (rI 1) 0 j = σ 0 j := fun j hj => by rw [up_ne (by omega), m1 0 (by omega), s0 j hj]
  have f29 : ∀ j : Nat, (j : Int) < 36 ∨ (36 : Int) + 36 ≤ j → rp_up μ 37 0 (rI 1) 29 j = σ 29 j := fun j hj => by rw [up_ne (by omega), m2 j hj, s1 29 (by omega) (by omega) (by omega) (by omega)]
  have e37 : σ1 37 = σ 37 := s1 37 (by omega) (by omega) (by omega) (by omega)
  have fa : ∀ b, b = 22 ∨ b = 22 + 1 ∨ b = 22 + 2 → rp_up μ 37 0 (rI 1) b = τ b := fun b z => by rw [up_ne (by omega), m1 b (by omega), hσ1, up_ne (by omega)]
  have nw : iOne (rp_up μ 37 0 (rI 1)) 22 36 := ⟨g, m3.kept (fun j _ _ => by rw [up_ne (by omega)]), hV, t2.kept (fa _ (by omega)) (fa _ (by omega)) (fa _ (by omega))⟩
  refine ⟨rI (b0 : Int), σ1, rp_up μ 37 0 (rI 1), ?_, ?_, ⟨g, hp.kept (fun j hj => f29 j (by omega)) (f 1 (by omega) (by omega) (by omega) (by omega) (by omega) (by omega)) (f 2 (by omega) (by omega) (by omega) (by omega) (by omega) (by omega)) (f 3 (by omega) (by omega) (by omega) (by omega) (by omega) (by omega)), ht.kept ?_ ?_ ?_ ?_, hs.kept ?_ ?_ ?_ ?_ ?_, ?_, hsh.kept ?_ (fun b h1 h2 => f b (by omega) (by omega) (by omega) (by omega) (by omega) (by omega)) (fun b h1 h2 => f b (by omega) (by omega) (by omega) (by omega) (by omega) (by omega)), hc.kept ?_ ?_ ?_, ?_, ?_⟩⟩
  · unfold fX6_keep fX6_imageOf
    rw [in9 _ (by omega) (by omega), rI_toInt (by omega) (by omega)]
    simp only [ob, rb_0]
    rw [if_neg (by omega), if_pos (show rI 0 = 0 from rfl), ob, t3, ob, t1 0 (by omega) (by omega) (by omega), d2, (bit_set b0 (by omega) b1 (by omega)).1, (bit_get b0 (by omega) b1 (by omega)).1, hσ1]
  · show fX7_keep _ _ = _
    unfold fX7_keep
    rw [in7 _ (by omega) (by omega), rI_toInt (by omega) (by omega)]
    simp only [ob, rb_0]
    have m4' : fX7_copies σ1 (rI 0) (rI 36 * (rI 0 + rI 1)) = some μ := m4
    have r1 : rq_rd μ 37 2 (rI 0) = some (rI (b0 : Int)) := by rw [rd_ok (by omega) (by omega) (by omega), m1 37 (by omega), e37]; exact congrArg some d0
    rw [if_neg (by omega), m4', ob, r1, ob]
    unfold fX7_keep_37
    rw [wr_ok (by omega) (by omega) (by omega), ob, show vp_nar .boolean (rI 1) = rI 1 from by decide]
    have hb : b0 = 0 ∨ b0 = 1 := by omega
    rcases hb with rfl | rfl
    · rw [if_pos (by decide)]; rfl
    · rw [if_neg (by decide)]; rfl
  · rw [f 13 (by omega) (by omega) (by omega) (by omega) (by omega) (by omega)]
  · rw [f 28 (by omega) (by omega) (by omega) (by omega) (by omega) (by omega)]
  · exact f 14 (by omega) (by omega) (by omega) (by omega) (by omega) (by omega)
  · exact f 31 (by omega) (by omega) (by omega) (by omega) (by omega) (by omega)
  · rw [f 15 (by omega) (by omega) (by omega) (by omega) (by omega) (by omega)]
  · rw [f 28 (by omega) (by omega) (by omega) (by omega) (by omega) (by omega)]
  · exact f 16 (by omega) (by omega) (by omega) (by omega) (by omega) (by omega)
  · exact f 17 (by omega) (by omega) (by omega) (by omega) (by omega) (by omega)
  · exact f 35 (by omega) (by omega) (by omega) (by omega) (by omega) (by omega)
  · refine ⟨1, b1, by omega, c1, up_eq, by rw [up_nj (by omega), m1 37 (by omega), e37]; exact d1, by rw [up_ne (by omega), m1 0 (by omega), hσ1, up_eq], fun _ => nw, fun z => (i1 z).kept (fun j z1 z2 => f29 j (by omega)) (f _ (by omega) (by omega) (by omega) (by omega) (by omega) (by omega)) (f _ (by omega) (by omega) (by omega) (by omega) (by omega) (by omega)) (f _ (by omega) (by omega) (by omega) (by omega) (by omega) (by omega))⟩
  · rw [f 18 (by omega) (by omega) (by omega) (by omega) (by omega) (by omega)]
  · exact f 32 (by omega) (by omega) (by omega) (by omega) (by omega) (by omega)
  · exact f 33 (by omega) (by omega) (by omega) (by omega) (by omega) (by omega)
  · rw [f 28 (by omega) (by omega) (by omega) (by omega) (by omega) (by omega)]
  · rw [f0 9 (by omega), f 28 (by omega) (by omega) (by omega) (by omega) (by omega) (by omega)]; exact hto
  · rw [f 13 (by omega) (by omega) (by omega) (by omega) (by omega) (by omega), f 28 (by omega) (by omega) (by omega) (by omega) (by omega) (by omega)]; exact hfa
theorem op_keep1 (h : Inv σ) : OpW (fX6_keep σ (rI 1)) (fun τ => fX7_keep τ (rI 1)) := by
  obtain ⟨g, hp, ht, hs, hi, hsh, hc, hto, hfa⟩ := id h
  obtain ⟨hP, hV, hN⟩ := id hp
  obtain ⟨b0, b1, c0, c1, d0, d1, d2, i0, i1⟩ := id hi
  obtain ⟨τ, t1, t2, t3⟩ := cBecome (a := 25) (b := 1) hN hV (by omega)
  obtain ⟨σ1, hσ1⟩ : ∃ σ1, σ1 = rp_up τ 0 8 (rI ((b0 + 2 * 1 : Nat) : Int)) := ⟨_, rfl⟩
  have s1 : ∀ b, b ≠ 0 → b ≠ 25 → b ≠ 25 + 1 → b ≠ 25 + 2 → σ1 b = σ b := fun b z0 z1 z2 z3 => by rw [hσ1, up_ne z0, t1 b z1 z2 z3]
  have s0 : ∀ j, j ≠ 8 → σ1 0 j = σ 0 j := fun j hj => by rw [hσ1, up_nj hj, t1 0 (by omega) (by omega) (by omega)]
  have P1 : PG σ1 0 g := hP.kept (fun j _ _ => by rw [s1 29 (by omega) (by omega) (by omega) (by omega)])
  obtain ⟨μ, m1, m2, m3, m4⟩ := mCopies (q := 72) P1 (by omega) (by omega) (by omega)
  have f : ∀ b, b ≠ 0 → b ≠ 25 → b ≠ 25 + 1 → b ≠ 25 + 2 → b ≠ 29 → b ≠ 37 → rp_up μ 37 1 (rI 1) b = σ b := fun b z0 z1 z2 z3 z4 z5 => by rw [up_ne z5, m1 b z4, s1 b z0 z1 z2 z3]
  have f0 : ∀ j, j ≠ 8 → rp_up μ 37 1 (rI 1) 0 j = σ 0 j := fun j hj => by rw [up_ne (by omega), m1 0 (by omega), s0 j hj]
  have f29 : ∀ j : Nat, (j : Int) < 72 ∨ (72 : Int) + 36 ≤ j → rp_up μ 37 1 (rI 1) 29 j = σ 29 j := fun j hj => by rw [up_ne (by omega), m2 j hj, s1 29 (by omega) (by omega) (by omega) (by omega)]
  have e37 : σ1 37 = σ 37 := s1 37 (by omega) (by omega) (by omega) (by omega)
  have fa : ∀ b, b = 25 ∨ b = 25 + 1 ∨ b = 25 + 2 → rp_up μ 37 1 (rI 1) b = τ b := fun b z => by rw [up_ne (by omega), m1 b (by omega), hσ1, up_ne (by omega)]
  have nw : iOne (rp_up μ 37 1 (rI 1)) 25 72 := ⟨g, m3.kept (fun j _ _ => by rw [up_ne (by omega)]), hV, t2.kept (fa _ (by omega)) (fa _ (by omega)) (fa _ (by omega))⟩
  refine ⟨rI (b1 : Int), σ1, rp_up μ 37 1 (rI 1), ?_, ?_, ⟨g, hp.kept (fun j hj => f29 j (by omega)) (f 1 (by omega) (by omega) (by omega) (by omega) (by omega) (by omega)) (f 2 (by omega) (by omega) (by omega) (by omega) (by omega) (by omega)) (f 3 (by omega) (by omega) (by omega) (by omega) (by omega) (by omega)), ht.kept ?_ ?_ ?_ ?_, hs.kept ?_ ?_ ?_ ?_ ?_, ?_, hsh.kept ?_ (fun b h1 h2 => f b (by omega) (by omega) (by omega) (by omega) (by omega) (by omega)) (fun b h1 h2 => f b (by omega) (by omega) (by omega) (by omega) (by omega) (by omega)), hc.kept ?_ ?_ ?_, ?_, ?_⟩⟩
  · unfold fX6_keep fX6_imageOf
    rw [in9 _ (by omega) (by omega), rI_toInt (by omega) (by omega)]
    simp only [ob, rb_0]
    rw [if_neg (by omega), if_neg (show ¬ rI 1 = 0 by decide), ob, t3, ob, t1 0 (by omega) (by omega) (by omega), d2, (bit_set b0 (by omega) b1 (by omega)).2, (bit_get b0 (by omega) b1 (by omega)).2, hσ1]
  · show fX7_keep _ _ = _
    unfold fX7_keep
    rw [in7 _ (by omega) (by omega), rI_toInt (by omega) (by omega)]
    simp only [ob, rb_0]
    have m4' : fX7_copies σ1 (rI 0) (rI 36 * (rI 1 + rI 1)) = some μ := m4
    have r1 : rq_rd μ 37 2 (rI 1) = some (rI (b1 : Int)) := by rw [rd_ok (by omega) (by omega) (by omega), m1 37 (by omega), e37]; exact congrArg some d1
    rw [if_neg (by omega), m4', ob, r1, ob]
    unfold fX7_keep_37
    rw [wr_ok (by omega) (by omega) (by omega), ob, show vp_nar .boolean (rI 1) = rI 1 from by decide]
    have hb : b1 = 0 ∨ b1 = 1 := by omega
    rcases hb with rfl | rfl
    · rw [if_pos (by decide)]; rfl
    · rw [if_neg (by decide)]; rfl
  · rw [f 13 (by omega) (by omega) (by omega) (by omega) (by omega) (by omega)]
  · rw [f 28 (by omega) (by omega) (by omega) (by omega) (by omega) (by omega)]
  · exact f 14 (by omega) (by omega) (by omega) (by omega) (by omega) (by omega)
  · exact f 31 (by omega) (by omega) (by omega) (by omega) (by omega) (by omega)
  · rw [f 15 (by omega) (by omega) (by omega) (by omega) (by omega) (by omega)]
  · rw [f 28 (by omega) (by omega) (by omega) (by omega) (by omega) (by omega)]
  · exact f 16 (by omega) (by omega) (by omega) (by omega) (by omega) (by omega)
  · exact f 17 (by omega) (by omega) (by omega) (by omega) (by omega) (by omega)
  · exact f 35 (by omega) (by omega) (by omega) (by omega) (by omega) (by omega)
  · refine ⟨b0, 1, c0, by omega, by rw [up_nj (by omega), m1 37 (by omega), e37]; exact d0, up_eq, by rw [up_ne (by omega), m1 0 (by omega), hσ1, up_eq], fun z => (i0 z).kept (fun j z1 z2 => f29 j (by omega)) (f _ (by omega) (by omega) (by omega) (by omega) (by omega) (by omega)) (f _ (by omega) (by omega) (by omega) (by omega) (by omega) (by omega)) (f _ (by omega) (by omega) (by omega) (by omega) (by omega) (by omega)), fun _ => nw⟩
  · rw [f 18 (by omega) (by omega) (by omega) (by omega) (by omega) (by omega)]
  · exact f 32 (by omega) (by omega) (by omega) (by omega) (by omega) (by omega)
  · exact f 33 (by omega) (by omega) (by omega) (by omega) (by omega) (by omega)
  · rw [f 28 (by omega) (by omega) (by omega) (by omega) (by omega) (by omega)]
  · rw [f0 9 (by omega), f 28 (by omega) (by omega) (by omega) (by omega) (by omega) (by omega)]; exact hto
  · rw [f 13 (by omega) (by omega) (by omega) (by omega) (by omega) (by omega), f 28 (by omega) (by omega) (by omega) (by omega) (by omega) (by omega)]; exact hfa
theorem op_keep (h : Inv σ) (v : Int32) : OpW (fX6_keep σ v) (fun τ => fX7_keep τ v) := by
  by_cases q : 0 ≤ v.toInt ∧ v.toInt ≤ 1
  · have e : v.toInt = 0 ∨ v.toInt = 1 := by omega
    rcases e with e | e
    · rw [rI_is e]; exact op_keep0 h
    · rw [rI_is e]; exact op_keep1 h
  · refine ⟨rI (-1), σ, σ, ?_, ?_, h⟩
    · unfold fX6_keep
      rw [in9 _ (by omega) (by omega)]
      simp only [ob, rb_0]
      rw [if_pos q]
    · show fX7_keep _ _ = _
      unfold fX7_keep
      rw [in7 _ (by omega) (by omega)]
      simp only [ob, rb_0]
      rw [if_pos q]
theorem op_back0 (h : Inv σ) : OpW (fX6_back σ (rI 0)) (fun τ => fX7_back τ (rI 0)) := by
  obtain ⟨g, hp, hr⟩ := id h
  obtain ⟨hP, hV, hN⟩ := id hp
  obtain ⟨b0, b1, c0, c1, d0, d1, d2, i0, i1⟩ := id hr.2.2.1
  have hb : b0 = 0 ∨ b0 = 1 := by omega
  have r1 : ∀ μ : rp_S, μ 37 = σ 37 → rq_rd μ 37 2 (rI 0) = some (rI (b0 : Int)) := fun μ e => by rw [rd_ok (by omega) (by omega) (by omega), e]; exact congrArg some d0
  rcases hb with hb | hb
  · refine ⟨rI (-2), σ, σ, ?_, ?_, h⟩
    · unfold fX6_back
      rw [in9 _ (by omega) (by omega), rI_toInt (by omega) (by omega), d2, (bit_get b0 (by omega) b1 (by omega)).1, hb]
      simp only [ob, rb_0]
      rw [if_neg (by omega), if_pos (by decide)]
    · show fX7_back _ _ = _
      unfold fX7_back
      rw [in7 _ (by omega) (by omega), rI_toInt (by omega) (by omega), r1 σ rfl, hb]
      simp only [ob, rb_0]
      rw [if_neg (by omega), if_pos (by decide)]
  · obtain ⟨g', P', V', N'⟩ := i0 hb
    obtain ⟨τ, t1, t2, t3⟩ := cBecome (a := 1) (b := 22) N' V' (by omega)
    have k1 : KF σ τ := fun b z1 z2 z3 => t1 b z1 z2 z3
    obtain ⟨μ, m1, m2, m3, m4⟩ := mCopies (q := 0) (k1.pg P') (by omega) (by omega) (by omega)
    have p1 : PF τ μ := ⟨m1, fun j hj => m2 j (by omega)⟩
    have m4' : fX7_copies τ (rI 36 * (rI 0 + rI 1)) (rI 0) = some μ := m4
    refine ⟨rI (g' 24), τ, μ, ?_, ?_, updI hr k1 p1 t2 m3 V'⟩
    · unfold fX6_back fX6_imageOf
      rw [in9 _ (by omega) (by omega), rI_toInt (by omega) (by omega), d2, (bit_get b0 (by omega) b1 (by omega)).1, hb]
      simp only [ob, rb_0]
      rw [if_neg (by omega), if_neg (by decide), if_pos (show rI 0 = 0 from rfl), ob, t3, ob, t2.1]
    · show fX7_back _ _ = _
      unfold fX7_back
      rw [in7 _ (by omega) (by omega), rI_toInt (by omega) (by omega), r1 τ (k1 37 (by omega) (by omega) (by omega)), hb]
      simp only [ob, rb_0]
      rw [if_neg (by omega), if_neg (by decide), m4', ob, rd24 m3, ob]
theorem op_back1 (h : Inv σ) : OpW (fX6_back σ (rI 1)) (fun τ => fX7_back τ (rI 1)) := by
  obtain ⟨g, hp, hr⟩ := id h
  obtain ⟨hP, hV, hN⟩ := id hp
  obtain ⟨b0, b1, c0, c1, d0, d1, d2, i0, i1⟩ := id hr.2.2.1
  have hb : b1 = 0 ∨ b1 = 1 := by omega
  have r1 : ∀ μ : rp_S, μ 37 = σ 37 → rq_rd μ 37 2 (rI 1) = some (rI (b1 : Int)) := fun μ e => by rw [rd_ok (by omega) (by omega) (by omega), e]; exact congrArg some d1
  rcases hb with hb | hb
  · refine ⟨rI (-2), σ, σ, ?_, ?_, h⟩
    · unfold fX6_back
      rw [in9 _ (by omega) (by omega), rI_toInt (by omega) (by omega), d2, (bit_get b0 (by omega) b1 (by omega)).2, hb]
      simp only [ob, rb_0]
      rw [if_neg (by omega), if_pos (by decide)]
    · show fX7_back _ _ = _
      unfold fX7_back
      rw [in7 _ (by omega) (by omega), rI_toInt (by omega) (by omega), r1 σ rfl, hb]
      simp only [ob, rb_0]
      rw [if_neg (by omega), if_pos (by decide)]
  · obtain ⟨g', P', V', N'⟩ := i1 hb
    obtain ⟨τ, t1, t2, t3⟩ := cBecome (a := 1) (b := 25) N' V' (by omega)
    have k1 : KF σ τ := fun b z1 z2 z3 => t1 b z1 z2 z3
    obtain ⟨μ, m1, m2, m3, m4⟩ := mCopies (q := 0) (k1.pg P') (by omega) (by omega) (by omega)
    have p1 : PF τ μ := ⟨m1, fun j hj => m2 j (by omega)⟩
    have m4' : fX7_copies τ (rI 36 * (rI 1 + rI 1)) (rI 0) = some μ := m4
    refine ⟨rI (g' 24), τ, μ, ?_, ?_, updI hr k1 p1 t2 m3 V'⟩
    · unfold fX6_back fX6_imageOf
      rw [in9 _ (by omega) (by omega), rI_toInt (by omega) (by omega), d2, (bit_get b0 (by omega) b1 (by omega)).2, hb]
      simp only [ob, rb_0]
      rw [if_neg (by omega), if_neg (by decide), if_neg (show ¬ rI 1 = 0 by decide), ob, t3, ob, t2.1]
    · show fX7_back _ _ = _
      unfold fX7_back
      rw [in7 _ (by omega) (by omega), rI_toInt (by omega) (by omega), r1 τ (k1 37 (by omega) (by omega) (by omega)), hb]
      simp only [ob, rb_0]
      rw [if_neg (by omega), if_neg (by decide), m4', ob, rd24 m3, ob]
theorem op_back (h : Inv σ) (v : Int32) : OpW (fX6_back σ v) (fun τ => fX7_back τ v) := by
  by_cases q : 0 ≤ v.toInt ∧ v.toInt ≤ 1
  · have e : v.toInt = 0 ∨ v.toInt = 1 := by omega
    rcases e with e | e
    · rw [rI_is e]; exact op_back0 h
    · rw [rI_is e]; exact op_back1 h
  · refine ⟨rI (-1), σ, σ, ?_, ?_, h⟩
    · unfold fX6_back
      rw [in9 _ (by omega) (by omega)]
      simp only [ob, rb_0]
      rw [if_pos q]
    · show fX7_back _ _ = _
      unfold fX7_back
      rw [in7 _ (by omega) (by omega)]
      simp only [ob, rb_0]
      rw [if_pos q]
end OPS
