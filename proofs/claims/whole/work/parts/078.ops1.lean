/-! THE CALLS, one by one: class and reference answer alike, and the invariant stays -/
section OPS
variable {σ : rp_S}
theorem in9 (v : Int32) {b : Int} (hb : 0 ≤ b) (hb2 : b < 1000) : fX6_within v (rI 0) (rI b) = some (if 0 ≤ v.toInt ∧ v.toInt ≤ b then rI 1 else rI 0) := by
  rw [within_ok, rI_toInt (by omega) (by omega), rI_toInt (by omega) (by omega)]
theorem in7 (v : Int32) {b : Int} (hb : 0 ≤ b) (hb2 : b < 1000) : fX7_in v.toInt64 (rJ 0) (rJ b) = some (if 0 ≤ v.toInt ∧ v.toInt ≤ b then rI 1 else rI 0) := inI_ok v (by omega) (by omega) (by omega) (by omega)
theorem op_feed (h : Inv σ) (v : Int32) : OpW (fX6_feed σ v) (fun τ => fX7_feed τ v) := by
  obtain ⟨g, hp, ht, hs, hi, hsh, hc, hto, hfa⟩ := h
  obtain ⟨n, n1, n2, n3, n4⟩ := id ht
  by_cases q : 0 ≤ v.toInt ∧ v.toInt ≤ 127
  · obtain ⟨c, rfl, hc2⟩ := toN q.1
    by_cases q2 : n < 160
    · refine ⟨rI ((n + 1 : Nat) : Int), rp_up (rp_up σ 14 n (rI c)) 13 1 (rI ((n + 1 : Nat) : Int)), rp_up (rp_up (rp_up (rp_up σ 14 n (rI c)) 13 1 (rI ((n + 1 : Nat) : Int))) 31 n (rI c)) 28 4 (rI ((n + 1 : Nat) : Int)), ?_, ?_, ⟨g, hp.kept ?_ ?_ ?_ ?_, ⟨n + 1, by omega, ?_, ?_, ?_⟩, hs.kept ?_ ?_ ?_ ?_ ?_, hi.kept ?_ ?_ ?_ ?_, hsh.kept ?_ ?_ ?_, hc.kept ?_ ?_ ?_, ?_, ?_⟩⟩
      · unfold fX6_feed
        simp only [in9 (rI c) (b := 127) (by omega) (by omega), ob, rb_0, n2]
        rw [if_neg (fun z => z q), if_pos (by rw [rI_lt (by omega) (by omega) (by omega) (by omega)]; omega), wr_n q2 (by omega), vv_byte (by omega), ob]
        simp (disch := omega) only [up_eq, up_ne, n2, iI_s]
      · show fX7_feed _ _ = _
        unfold fX7_feed
        simp only [in7 (rI c) (b := 127) (by omega) (by omega), ob, rb_0]
        rw [if_neg (fun z => z q), show rp_up (rp_up σ 14 n (rI c)) 13 1 (rI ((n + 1 : Nat) : Int)) 28 4 = rI n from by rw [up_ne (by omega), up_ne (by omega), n3], if_neg (by rw [rI_eq (by omega) (by omega) (by omega) (by omega)]; omega), wr_n q2 (by omega), ob, up_eq, up_ne (by omega), up_ne (by omega), up_ne (by omega), n3, iI_s]
      rotate_left 4
      · simp (disch := omega) only [up_ne, up_nj, up_eq]
      · rw [up_eq]
      · intro i hi
        by_cases z : i = n
        · subst z
          exact ⟨c, by omega, by simp (disch := omega) only [up_ne, up_eq], by simp (disch := omega) only [up_ne, up_eq]⟩
        · obtain ⟨x, x1, x2, x3⟩ := n4 i (by omega)
          exact ⟨x, x1, by simp (disch := omega) only [up_ne, up_nj]; exact x2, by simp (disch := omega) only [up_ne, up_nj]; exact x3⟩
      all_goals first | (intros; simp (disch := omega) only [up_ne, up_nj]; done) | (simp (disch := omega) only [up_ne, up_nj]; assumption) | assumption
    · refine ⟨rI (-3), σ, σ, ?_, ?_, ⟨g, hp, ht, hs, hi, hsh, hc, hto, hfa⟩⟩
      · unfold fX6_feed
        simp only [in9 (rI c) (b := 127) (by omega) (by omega), ob, rb_0, n2]
        rw [if_neg (fun z => z q), if_neg (by rw [rI_lt (by omega) (by omega) (by omega) (by omega)]; omega)]
      · show fX7_feed _ _ = _
        unfold fX7_feed
        simp only [in7 (rI c) (b := 127) (by omega) (by omega), ob, rb_0, n3]
        rw [if_neg (fun z => z q), if_pos (by rw [rI_eq (by omega) (by omega) (by omega) (by omega)]; omega)]
  · refine ⟨rI (-1), σ, σ, ?_, ?_, ⟨g, hp, ht, hs, hi, hsh, hc, hto, hfa⟩⟩
    · unfold fX6_feed
      simp only [in9 v (b := 127) (by omega) (by omega), ob, rb_0]
      rw [if_pos q]
    · show fX7_feed _ _ = _
      unfold fX7_feed
      simp only [in7 v (b := 127) (by omega) (by omega), ob, rb_0]
      rw [if_pos q]
theorem op_end (h : Inv σ) (v : Int32) : OpW (fX6_end σ v) (fun τ => fX7_end τ v) := by
  obtain ⟨g, hp, ht, hs, hi, hsh, hc, hto, hfa⟩ := h
  obtain ⟨n, n1, n2, n3, n4⟩ := id ht
  by_cases q : 0 ≤ v.toInt ∧ v.toInt ≤ (n : Int)
  · obtain ⟨c, rfl, hc2⟩ := toN q.1
    refine ⟨rI n, rp_up σ 13 1 (rI c), rp_up (rp_up σ 13 1 (rI c)) 28 4 (rI c), ?_, ?_, ⟨g, hp.kept ?_ ?_ ?_ ?_, ⟨c, by omega, ?_, ?_, ?_⟩, hs.kept ?_ ?_ ?_ ?_ ?_, hi.kept ?_ ?_ ?_ ?_, hsh.kept ?_ ?_ ?_, hc.kept ?_ ?_ ?_, ?_, ?_⟩⟩
    · unfold fX6_end
      simp only [n2, in9 (rI c) (b := (n : Int)) (by omega) (by omega), ob, rb_0]
      rw [if_neg (fun z => z q)]
    · show fX7_end _ _ = _
      unfold fX7_end
      rw [up_ne (by omega), n3, i64 (z := (n : Int)) (by omega) (by omega), in7 (rI c) (b := (n : Int)) (by omega) (by omega)]
      simp only [ob, rb_0]
      rw [if_neg (fun z => z q)]
    rotate_left 4
    · simp (disch := omega) only [up_ne, up_nj, up_eq]
    · rw [up_eq]
    · intro i hi
      obtain ⟨x, x1, x2, x3⟩ := n4 i (by omega)
      exact ⟨x, x1, by simp (disch := omega) only [up_ne, up_nj]; exact x2, by simp (disch := omega) only [up_ne, up_nj]; exact x3⟩
    all_goals first | (intros; simp (disch := omega) only [up_ne, up_nj]; done) | (simp (disch := omega) only [up_ne, up_nj]; assumption) | assumption
  · refine ⟨rI (-1), σ, σ, ?_, ?_, ⟨g, hp, ht, hs, hi, hsh, hc, hto, hfa⟩⟩
    · unfold fX6_end
      simp only [n2, in9 v (b := (n : Int)) (by omega) (by omega), ob, rb_0]
      rw [if_pos q]
    · show fX7_end _ _ = _
      unfold fX7_end
      rw [n3, i64 (z := (n : Int)) (by omega) (by omega), in7 v (b := (n : Int)) (by omega) (by omega)]
      simp only [ob, rb_0]
      rw [if_pos q]
theorem op_fault (h : Inv σ) : ∃ r, fX6_fault σ = some r ∧ fX7_fault σ = some r := by
  obtain ⟨g, hp, ht, hs, hi, hsh, hc, hto, hfa⟩ := h
  exact ⟨σ 13 2, rfl, by unfold fX7_fault; rw [hfa]⟩
theorem op_torn (h : Inv σ) : ∃ r, fX6_torn σ = some r ∧ fX7_torn σ = some r := by
  obtain ⟨g, hp, ht, hs, hi, hsh, hc, hto, hfa⟩ := h
  exact ⟨σ 0 9, rfl, by unfold fX7_torn; rw [hto]⟩
/-- a question: both sides seen at once -/
theorem ask2 {g : Nat → Int} (hp : iPage σ g) (hr : iRest σ) : ∃ τ τ2, CF σ τ ∧ SH τ g (sD 0) ∧ fX3_begin σ 1 = some τ ∧ NF τ τ2 ∧ PG τ2 0 g ∧ τ2 28 14 = rI ((0 : Nat) : Int) ∧ NB τ2 g (sD 0) ∧ τ2 28 18 = rI (sWs g (sD 0) (g 33).toNat) ∧ fX7_nightOn τ (rI 0) = some τ2 := by
  obtain ⟨τ, a1, a2, a3⟩ := cBegin hp.2.2 hp.2.1
  have hp' := hp.q a1.q
  have hr' := hr.q a1.q
  obtain ⟨τ2, b1, b2, b3, b4⟩ := mNight (D := 0) hp'.1 hp.2.1 hr'.2.2.2.2.1.2.2 (by omega)
  exact ⟨τ, τ2, a1, a2, a3, b1, b1.pg hp'.1, by rw [b1.2 14 (by omega) (by omega) (by omega)]; exact hr'.2.2.2.2.1.2.2, b2, b3, b4⟩
theorem nightOnly {g : Nat → Int} (hp : iPage σ g) (hr : iRest σ) : ∃ τ2, NF σ τ2 ∧ PG τ2 0 g ∧ τ2 28 14 = rI ((0 : Nat) : Int) ∧ NB τ2 g (sD 0) ∧ τ2 28 18 = rI (sWs g (sD 0) (g 33).toNat) ∧ fX7_nightOn σ (rI 0) = some τ2 := by
  obtain ⟨τ2, b1, b2, b3, b4⟩ := mNight (D := 0) hp.1 hp.2.1 hr.2.2.2.2.1.2.2 (by omega)
  exact ⟨τ2, b1, b1.pg hp.1, by rw [b1.2 14 (by omega) (by omega) (by omega)]; exact hr.2.2.2.2.1.2.2, b2, b3, b4⟩
theorem op_rule (h : Inv σ) (v : Int32) : OpW (fX6_rule σ v) (fun τ => fX7_rule τ v) := by
  obtain ⟨g, hp, hr⟩ := id h
  obtain ⟨hP, hV, hN⟩ := id hp
  obtain ⟨τ, τ2, a1, a2, a3, b1, bP, bD, b2, b3, b4⟩ := ask2 hp hr
  obtain ⟨ρ, c1, cP, cD, c2, c3, c4⟩ := nightOnly hp hr
  have iv1 : Inv τ2 := h.q (a1.q.tr b1.q)
  have iv2 : Inv ρ := h.q c1.q
  by_cases q0 : v = rI 0
  · exact ⟨rI (g 24), σ, ρ, by unfold fX6_rule; rw [if_pos q0, hN.1], by show fX7_rule _ _ = _; unfold fX7_rule; rw [c4, ob, if_pos q0, rd24 cP, ob], iv2⟩
  by_cases q1 : v = rI 1
  · exact ⟨rI (g 33), σ, ρ, by unfold fX6_rule; rw [if_neg q0, if_pos q1, hN.2.1], by show fX7_rule _ _ = _; unfold fX7_rule; rw [c4, ob, if_neg q0, if_pos q1, rd33 cP, ob], iv2⟩
  by_cases q2 : v = rI 2
  · exact ⟨rI (g 34 + 4), σ, ρ, by unfold fX6_rule; rw [if_neg q0, if_neg q1, if_pos q2, hN.2.2.1], by show fX7_rule _ _ = _; unfold fX7_rule; rw [c4, ob, if_neg q0, if_neg q1, if_pos q2, rd34 cP, ob, rI_add], iv2⟩
  by_cases q3 : v = rI 3
  · exact ⟨rI (g 35), σ, ρ, by unfold fX6_rule; rw [if_neg q0, if_neg q1, if_neg q2, if_pos q3, hN.2.2.2.1], by show fX7_rule _ _ = _; unfold fX7_rule; rw [c4, ob, if_neg q0, if_neg q1, if_neg q2, if_pos q3, rd35 cP, ob], iv2⟩
  by_cases q4 : v = rI 4
  · exact ⟨rI (sMin g (sD 0) 80), τ, τ2, by unfold fX6_rule; rw [if_neg q0, if_neg q1, if_neg q2, if_neg q3, if_pos q4, a3, ob, cMinAll a2 hV, ob], by show fX7_rule _ _ = _; unfold fX7_rule; rw [b4, ob, if_neg q0, if_neg q1, if_neg q2, if_neg q3, if_pos q4, b2.2.1], iv1⟩
  by_cases q5 : v = rI 5
  · exact ⟨rI (sWs g (sD 0) (g 33).toNat), τ, τ2, by unfold fX6_rule; rw [if_neg q0, if_neg q1, if_neg q2, if_neg q3, if_neg q4, if_pos q5, a3, ob, cWhAll a2 hV, ob], by show fX7_rule _ _ = _; unfold fX7_rule; rw [b4, ob, if_neg q0, if_neg q1, if_neg q2, if_neg q3, if_neg q4, if_pos q5, b3], iv1⟩
  · exact ⟨rI (-1), σ, ρ, by unfold fX6_rule; rw [if_neg q0, if_neg q1, if_neg q2, if_neg q3, if_neg q4, if_neg q5], by show fX7_rule _ _ = _; unfold fX7_rule; rw [c4, ob, if_neg q0, if_neg q1, if_neg q2, if_neg q3, if_neg q4, if_neg q5], iv2⟩
theorem rI_ne {x : Int32} {n : Int} (h1 : -2147483648 ≤ n) (h2 : n < 2147483648) (h : x.toInt ≠ n) : ¬ x = rI n := fun q => h (by rw [q, rI_toInt h1 h2])
theorem rI_is {x : Int32} {n : Int} (h : x.toInt = n) : x = rI n := by rw [← h]; exact rI_of x
theorem op_work (h : Inv σ) (u v : Int32) : OpW (fX6_work σ u v) (fun τ => fX7_work τ u v) := by
  obtain ⟨g, hp, hr⟩ := id h
  obtain ⟨hP, hV, hN⟩ := id hp
  obtain ⟨τ, τ2, a1, a2, a3, b1, bP, bD, b2, b3, b4⟩ := ask2 hp hr
  have iv1 : Inv τ2 := h.q (a1.q.tr b1.q)
  by_cases q : 0 ≤ u.toInt ∧ u.toInt ≤ g 24 - 1
  · obtain ⟨w, rfl, hw2⟩ := toN q.1
    have hw : (w : Int) < g 24 := by omega
    have v1 := hV.1
    have c0 : fX6_work σ (rI w) v = (fX6_within v (rI 0) (rI 3)).bind (fun x2 => if x2 = 0 then (if v = rI 4 then some (rI (sLast g w), σ) else if v = rI 5 then some (rI (sWide g w), σ) else if v = rI 6 then some (rI (sBurst g w), σ) else if v = rI 7 then some (rI (sStick g w), σ) else if v = rI 8 then some (rI (sBits (fun r => decide (sWhole g (sD 0) r w)) (g 33).toNat : Nat), τ) else some (rI (-1), σ)) else (fX1_ofWork σ 1 (rI w) v).bind fun x9 => some (x9, σ)) := by
      unfold fX6_work
      rw [cHasW hN hV]
      simp only [ob, rb_0]
      rw [if_neg (fun z => z q)]
      simp only [cLast hN hV hw, cWide hN hV hw, cBurst hN hV hw, cStick hN hV hw, a3, ob, cReadersWh a2 hV hw]
    have m0 : ∀ ρ : rp_S, PG ρ 0 g → fX7_work ρ (rI w) v = (if v = rI 0 then fX7_work_60 ρ (rI w) v else if v = rI 1 then fX7_work_60 ρ (rI w) v else if v = rI 2 then fX7_work_60 ρ (rI w) v else if v = rI 3 then fX7_work_60 ρ (rI w) v else if v = rI 4 then some (rI (sLast g w), ρ) else if v = rI 5 then some (rI (sWide g w), ρ) else if v = rI 6 then some (rI (sBurst g w), ρ) else if v = rI 7 then some (rI (sStick g w), ρ) else if v = rI 8 then (fX7_nightOn ρ (rI 0)).bind fun σ7 => (fX7_wholeBy σ7 (rI 0) (rI w)).bind fun x8 => some (x8, σ7) else some (rI (-1), ρ)) := by
      intro ρ hρ
      unfold fX7_work
      rw [mHasW hρ hV]
      simp only [ob, rb_0]
      rw [if_neg (fun z => z q)]
      simp only [mLast hρ hV hw, mWide hρ hV hw, mBurst hρ hV hw, mStick hρ hV hw, ob]
    by_cases k3 : 0 ≤ v.toInt ∧ v.toInt ≤ 3
    · obtain ⟨k, rfl, hk2⟩ := toN k3.1
      have hk : k < 4 := by omega
      have e60 : fX7_work_60 σ (rI w) (rI k) = some (rI (g (6 * k + w)), σ) := by
        unfold fX7_work_60
        rw [rI_mul, rI_add, rd0 hP (6 * k + w) (by omega) (by omega), ob]
      refine ⟨rI (g (6 * k + w)), σ, σ, ?_, ?_, h⟩
      · rw [c0, in9 _ (by omega) (by omega), ob]
        simp only [rb_0]
        rw [if_neg (fun z => z k3), cOf hN hV hw hk, ob]
      · show fX7_work _ _ _ = _
        rw [m0 σ hP, e60]
        by_cases z0 : (rI (k : Int)) = rI 0
        · rw [if_pos z0]
        · rw [if_neg z0]
          by_cases z1 : (rI (k : Int)) = rI 1
          · rw [if_pos z1]
          · rw [if_neg z1]
            by_cases z2 : (rI (k : Int)) = rI 2
            · rw [if_pos z2]
            · rw [if_neg z2]
              rw [rI_eq (by omega) (by omega) (by omega) (by omega)] at z0 z1 z2
              rw [if_pos (by rw [rI_eq (by omega) (by omega) (by omega) (by omega)]; omega)]
    · have n0 : ¬ v = rI 0 := fun z => k3 (by rw [z]; decide)
      have n1 : ¬ v = rI 1 := fun z => k3 (by rw [z]; decide)
      have n2 : ¬ v = rI 2 := fun z => k3 (by rw [z]; decide)
      have n3 : ¬ v = rI 3 := fun z => k3 (by rw [z]; decide)
      have c1 := c0
      rw [in9 _ (by omega) (by omega), ob] at c1
      simp only [rb_0] at c1
      rw [if_pos k3] at c1
      have m1 : ∀ ρ : rp_S, PG ρ 0 g → _ := fun ρ hρ => by
        have := m0 ρ hρ
        rw [if_neg n0, if_neg n1, if_neg n2, if_neg n3] at this
        exact this
      by_cases z4 : v = rI 4
      · rw [if_pos z4] at c1
        exact ⟨_, _, _, c1, by show fX7_work _ _ _ = _; rw [m1 σ hP, if_pos z4], h⟩
      rw [if_neg z4] at c1
      by_cases z5 : v = rI 5
      · rw [if_pos z5] at c1
        exact ⟨_, _, _, c1, by show fX7_work _ _ _ = _; rw [m1 σ hP, if_neg z4, if_pos z5], h⟩
      rw [if_neg z5] at c1
      by_cases z6 : v = rI 6
      · rw [if_pos z6] at c1
        exact ⟨_, _, _, c1, by show fX7_work _ _ _ = _; rw [m1 σ hP, if_neg z4, if_neg z5, if_pos z6], h⟩
      rw [if_neg z6] at c1
      by_cases z7 : v = rI 7
      · rw [if_pos z7] at c1
        exact ⟨_, _, _, c1, by show fX7_work _ _ _ = _; rw [m1 σ hP, if_neg z4, if_neg z5, if_neg z6, if_pos z7], h⟩
      rw [if_neg z7] at c1
      by_cases z8 : v = rI 8
      · rw [if_pos z8] at c1
        exact ⟨_, _, τ2, c1, by show fX7_work _ _ _ = _; rw [m1 τ (hp.q a1.q).1, if_neg z4, if_neg z5, if_neg z6, if_neg z7, if_pos z8, b4, ob, mWholeBy bP hV bD (by omega) b2 hw, ob], iv1⟩
      · rw [if_neg z8] at c1
        exact ⟨_, _, _, c1, by show fX7_work _ _ _ = _; rw [m1 σ hP, if_neg z4, if_neg z5, if_neg z6, if_neg z7, if_neg z8], h⟩
  · refine ⟨rI (-1), σ, σ, ?_, ?_, h⟩
    · unfold fX6_work
      rw [cHasW hN hV]
      simp only [ob, rb_0]
      rw [if_pos q]
    · show fX7_work _ _ _ = _
      unfold fX7_work
      rw [mHasW hP hV]
      simp only [ob, rb_0]
      rw [if_pos q]
theorem op_reads (h : Inv σ) (u v : Int32) : OpW (fX6_reads σ u v) (fun τ => fX7_reads τ u v) := by
  obtain ⟨g, hp, hr⟩ := id h
  obtain ⟨hP, hV, hN⟩ := id hp
  obtain ⟨τ, τ2, a1, a2, a3, b1, bP, bD, b2, b3, b4⟩ := ask2 hp hr
  by_cases q : 0 ≤ u.toInt ∧ u.toInt ≤ g 33 - 1
  · by_cases q2 : 0 ≤ v.toInt ∧ v.toInt ≤ g 24 - 1
    · obtain ⟨r, rfl, hr2⟩ := toN q.1
      obtain ⟨w, rfl, hw2⟩ := toN q2.1
      have v1 := hV.1
      have v2 := hV.2.1
      refine ⟨rI (sRead g (sD 0) r w), τ, τ2, ?_, ?_, h.q (a1.q.tr b1.q)⟩
      · unfold fX6_reads
        rw [cHasR hN hV, cHasW hN hV]
        simp only [ob, rb_0]
        rw [if_neg (fun z => z q), if_neg (fun z => z q2), a3, ob, cMinAt a2 hV (by omega) (by omega), ob]
      · show fX7_reads _ _ _ = _
        unfold fX7_reads
        rw [mHasR (hp.q a1.q).1 hV, mHasW (hp.q a1.q).1 hV]
        simp only [ob, rb_0]
        rw [if_neg (fun z => z q), if_neg (fun z => z q2), b4, ob, rd6 (by omega) (by omega), ob, b2.1 r w (by omega) (by omega), if_pos (by omega)]
    · refine ⟨rI (-1), σ, σ, ?_, ?_, h⟩
      · unfold fX6_reads
        rw [cHasR hN hV, cHasW hN hV]
        simp only [ob, rb_0]
        rw [if_neg (fun z => z q), if_pos q2]
      · show fX7_reads _ _ _ = _
        unfold fX7_reads
        rw [mHasR hP hV, mHasW hP hV]
        simp only [ob, rb_0]
        rw [if_neg (fun z => z q), if_pos q2]
  · refine ⟨rI (-1), σ, σ, ?_, ?_, h⟩
    · unfold fX6_reads
      rw [cHasR hN hV]
      simp only [ob, rb_0]
      rw [if_pos q]
    · show fX7_reads _ _ _ = _
      unfold fX7_reads
      rw [mHasR hP hV]
      simp only [ob, rb_0]
      rw [if_pos q]
theorem isMin (v : Int32) : fX7_isMinute v = some (if 0 ≤ v.toInt ∧ v.toInt ≤ 79 then rI 1 else rI 0) := by
  unfold fX7_isMinute
  rw [in7 v (by omega) (by omega), ob, nar_b]
theorem isPlc (v : Int32) : fX7_isPlace v = some (if 0 ≤ v.toInt ∧ v.toInt ≤ 11 then rI 1 else rI 0) := by
  unfold fX7_isPlace
  rw [in7 v (by omega) (by omega), ob, nar_b]
theorem op_looks (h : Inv σ) (u v : Int32) : OpR (fX6_looks σ u v) (fun τ => fX7_looks τ u v) := by
  obtain ⟨g, hp, hr⟩ := id h
  obtain ⟨hP, hV, hN⟩ := id hp
  obtain ⟨τ, a1, a2, a3⟩ := cBegin hN hV
  have hp' := hp.q a1.q
  have hr' := hr.q a1.q
  by_cases q : 0 ≤ u.toInt ∧ u.toInt ≤ g 33 - 1
  · by_cases q2 : 0 ≤ v.toInt ∧ v.toInt ≤ 79
    · obtain ⟨r, rfl, hr2⟩ := toN q.1
      obtain ⟨m, rfl, hm2⟩ := toN q2.1
      refine ⟨rI (sLook g (sD 0) r m), τ, ?_, ?_, h.q a1.q⟩
      · unfold fX6_looks
        rw [cHasR hN hV, in9 _ (by omega) (by omega)]
        simp only [ob, rb_0]
        rw [if_neg (fun z => z q), if_neg (fun z => z q2), a3, ob, cLook a2 hV (by omega) (by omega) (by omega), ob]
      · show fX7_looks _ _ _ = _
        unfold fX7_looks
        rw [mHasR hp'.1 hV, isMin]
        simp only [ob, rb_0]
        rw [if_neg (fun z => z q), if_neg (fun z => z q2), mLook (D := 0) hp'.1 hV hr'.2.2.2.2.1.2.2 (by omega) (by omega) (by omega) (by omega), ob]
    · refine ⟨rI (-1), σ, ?_, ?_, h⟩
      · unfold fX6_looks
        rw [cHasR hN hV, in9 _ (by omega) (by omega)]
        simp only [ob, rb_0]
        rw [if_neg (fun z => z q), if_pos q2]
      · show fX7_looks _ _ _ = _
        unfold fX7_looks
        rw [mHasR hP hV, isMin]
        simp only [ob, rb_0]
        rw [if_neg (fun z => z q), if_pos q2]
  · refine ⟨rI (-1), σ, ?_, ?_, h⟩
    · unfold fX6_looks
      rw [cHasR hN hV]
      simp only [ob, rb_0]
      rw [if_pos q]
    · show fX7_looks _ _ _ = _
      unfold fX7_looks
      rw [mHasR hP hV]
      simp only [ob, rb_0]
      rw [if_pos q]
theorem op_dark (h : Inv σ) : OpW (fX6_dark σ) (fun τ => fX7_dark τ) := by
  obtain ⟨g, hp, hr⟩ := id h
  obtain ⟨hP, hV, hN⟩ := id hp
  obtain ⟨τ, τ2, a1, a2, a3, b1, bP, bD, b2, b3, b4⟩ := ask2 hp hr
  have loop : ∀ (k m n : Nat), k < n → m + k = 80 → fX6_dark_15 n τ (rI (sDark g (sD 0) m)) (rI m) = some (rI (sDark g (sD 0) 80), τ) := by
    intro k
    induction k with
    | zero =>
      intro m n hn hm
      obtain ⟨n, rfl⟩ : ∃ q, n = q + 1 := ⟨n - 1, by omega⟩
      rw [fX6_dark_15, if_pos (by rw [rI_le (by omega) (by omega) (by omega) (by omega)]; omega), show m = 80 by omega]
    | succ k ih =>
      intro m n hn hm
      obtain ⟨n, rfl⟩ : ∃ q, n = q + 1 := ⟨n - 1, by omega⟩
      have e := ih (m + 1) n (by omega) (by omega)
      rw [sDark] at e
      rw [fX6_dark_15, if_neg (by rw [rI_le (by omega) (by omega) (by omega) (by omega)]; omega), cIsRead a2 hV (by omega) (by omega), ob]
      unfold fX6_dark_35
      simp only [iI_s]
      by_cases q : sHit g (sD 0) m (g 33).toNat = 0
      · rw [if_pos q] at e
        rw [if_pos q, if_pos (by decide), rI_add]
        exact e
      · rw [if_neg q, Int.add_zero] at e
        rw [if_neg q, if_neg (by decide)]
        exact e
  refine ⟨rI (sDark g (sD 0) 80), τ, τ2, ?_, ?_, h.q (a1.q.tr b1.q)⟩
  · unfold fX6_dark
    rw [a3, ob]
    exact loop 80 0 1000 (by omega) (by omega)
  · show fX7_dark _ = _
    unfold fX7_dark
    rw [b4, ob, b2.2.2]
end OPS
