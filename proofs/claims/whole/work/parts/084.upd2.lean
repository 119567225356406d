/-! alter, move, blow, damp, burn, leave, write, come -/
theorem rI_toI (v : Int32) : rI v.toInt = v := (rI_of v).symm
theorem mPuts0 {σ : rp_S} {x : Int32} (z y u : Int32) (h : x = 0) : fX7_puts σ x z y u = some (rI (-1), σ) := by
  unfold fX7_puts; rw [if_pos h]
theorem mPuts {σ : rp_S} {g : Nat → Int} (hP : PG σ 0 g) {j : Nat} (hj : j < 36) {x : Int32} (hx : ¬ x = 0) (v u z : Int) (hz : z = j) : fX7_puts σ x (rI z) (rI v) (rI u) = some (rI (g j + u), rp_up σ 29 j (rI (v - u))) := by
  unfold fX7_puts
  rw [if_neg hx, rd0 hP j hj hz, ob, rI_sub, wr0 hz hj, ob, rI_add]
section OPS
variable {σ : rp_S}
theorem op_alter (h : Inv σ) (u v x : Int32) : OpW (fX6_alter σ u v x) (fun τ => fX7_alter τ u v x) := by
  obtain ⟨g, hp, hr⟩ := id h
  obtain ⟨hP, hV, hN⟩ := id hp
  have v1 := hV.1
  by_cases q : 0 ≤ u.toInt ∧ u.toInt ≤ g 24 - 1
  · by_cases q2 : 0 ≤ v.toInt ∧ v.toInt ≤ 3
    · obtain ⟨w, rfl, hw2⟩ := toN q.1
      obtain ⟨k, rfl, hk2⟩ := toN q2.1
      have hw : (w : Int) < g 24 := by omega
      by_cases q3 : fitW k x.toInt
      · obtain ⟨X, hX⟩ : ∃ X, X = x.toInt := ⟨_, rfl⟩
        have eX : x = rI X := by rw [hX]; exact rI_of x
        rw [← hX] at q3
        subst eX
        have k1 : KF σ (rp_up σ (1 + 1) (4 * w + k) (rI X)) := (KF.rf σ).up (by omega) (by omega)
        have p1 := k1.pg hP
        refine ⟨rI (g (6 * k + w)), rp_up σ (1 + 1) (4 * w + k) (rI X), rp_up (rp_up σ (1 + 1) (4 * w + k) (rI X)) 29 (6 * k + w) (rI (X - 0)), ?_, ?_, updI hr k1 ((PF.rf _).up (by omega)) (hN.setW hV (by omega) (by omega) X) ((by rw [Int.sub_zero]; exact p1.set0 (by omega) X)) (hV.setW (by omega) q3)⟩
        · unfold fX6_alter
          rw [cHasW hN hV, ob, fitsW σ _ k (by omega), ← hX]
          simp only [ob, rb_0]
          rw [if_neg (fun z => z q), if_neg (fun z => z q3), cOf hN hV hw (by omega), ob, cSetW (by omega) (by omega), ob]
        · show fX7_alter _ _ _ _ = _
          have hN1 := hN.setW hV (w := w) (k := k) (by omega) (by omega) X
          unfold fX7_alter
          rw [mHasW p1 hV, ob, goodW _ k (by omega), ← hX]
          simp only [ob, rb_0]
          rw [if_neg (fun z => z q), if_neg (fun z => z q3)]
          unfold fX7_alter_22
          have e := mPuts p1 (j := 6 * k + w) (by omega) (x := rI 1) (by decide) X 0 (6 * (k : Int) + w) (by omega)
          rw [rI_mul, rI_add, e, ob, Int.add_zero]
      · refine ⟨rI (-1), σ, σ, ?_, ?_, h⟩
        · unfold fX6_alter
          rw [cHasW hN hV, ob, fitsW σ _ k (by omega)]
          simp only [ob, rb_0]
          rw [if_neg (fun z => z q), if_pos q3]
        · show fX7_alter _ _ _ _ = _
          unfold fX7_alter
          rw [mHasW hP hV, ob, goodW _ k (by omega)]
          simp only [ob, rb_0]
          rw [if_neg (fun z => z q), if_pos q3]
          unfold fX7_alter_21 fX7_alter_22
          rw [mPuts0 _ _ _ (by decide), ob]
    · refine ⟨rI (-1), σ, σ, ?_, ?_, h⟩
      · unfold fX6_alter
        rw [cHasW hN hV, ob, fitsW_no σ _ q2]
        simp only [ob, rb_0]
        rw [if_neg (fun z => z q), if_pos (by decide)]
      · show fX7_alter _ _ _ _ = _
        unfold fX7_alter
        rw [mHasW hP hV, ob, goodW_no _ q2]
        simp only [ob, rb_0]
        rw [if_neg (fun z => z q), if_pos (by decide)]
        unfold fX7_alter_21 fX7_alter_22
        rw [mPuts0 _ _ _ (by decide), ob]
  · refine ⟨rI (-1), σ, σ, ?_, ?_, h⟩
    · unfold fX6_alter
      rw [cHasW hN hV, ob]
      simp only [rb_0]
      rw [if_pos q]
    · show fX7_alter _ _ _ _ = _
      unfold fX7_alter
      rw [mHasW hP hV, ob]
      simp only [rb_0]
      rw [if_pos q]
      unfold fX7_alter_21 fX7_alter_22
      rw [mPuts0 _ _ _ (by decide), ob]
/-- whether a reader's value fits, as the reference asks it -/
theorem mMove (τ : rp_S) (u v x : Int32) : fX7_move τ u v x = fX7_move_33 τ u v x (if (v = rI 0 ∧ 0 ≤ x.toInt ∧ x.toInt ≤ 11) ∨ (v = rI 1 ∧ 0 ≤ x.toInt ∧ x.toInt ≤ 9) then rI 1 else rI 0) := by
  unfold fX7_move
  by_cases z : v = 0
  · have z' : v = rI 0 := z
    have z2 : ¬ v = rI 1 := by rw [z]; decide
    rw [if_pos z, isPlc, ob]
    by_cases y : 0 ≤ x.toInt ∧ x.toInt ≤ 11
    · rw [if_pos y, if_pos (Or.inl ⟨z', y⟩)]
    · rw [if_neg y, if_neg (fun k => k.elim (fun k => y k.2) (fun k => z2 k.1))]
  · have z' : ¬ v = rI 0 := z
    rw [if_neg z]
    by_cases z2 : v = rI 1
    · rw [if_pos z2, in7 _ (by omega) (by omega), ob]
      simp only [rb_0]
      by_cases y : 0 ≤ x.toInt ∧ x.toInt ≤ 9
      · rw [if_neg (fun k => k y), if_pos (Or.inr ⟨z2, y⟩)]
      · rw [if_pos y, if_neg (fun k => k.elim (fun k => z' k.1) (fun k => y k.2))]
        rfl
    · rw [if_neg z2, if_neg (fun k => k.elim (fun k => z' k.1) (fun k => z2 k.1))]
      rfl
theorem op_move (h : Inv σ) (u v x : Int32) : OpW (fX6_move σ u v x) (fun τ => fX7_move τ u v x) := by
  obtain ⟨g, hp, hr⟩ := id h
  obtain ⟨hP, hV, hN⟩ := id hp
  have v2 := hV.2.1
  by_cases q : 0 ≤ u.toInt ∧ u.toInt ≤ g 33 - 1
  · by_cases q2 : 0 ≤ v.toInt ∧ v.toInt ≤ 1
    · obtain ⟨r, rfl, hw2⟩ := toN q.1
      obtain ⟨k, rfl, hk2⟩ := toN q2.1
      have hw : (r : Int) < g 33 := by omega
      have eq : ((rI (k : Int) = rI 0 ∧ 0 ≤ x.toInt ∧ x.toInt ≤ 11) ∨ (rI (k : Int) = rI 1 ∧ 0 ≤ x.toInt ∧ x.toInt ≤ 9)) ↔ fitR k x.toInt := by
        rw [rI_eq (by omega) (by omega) (by omega) (by omega), rI_eq (by omega) (by omega) (by omega) (by omega)]
        omega
      by_cases q3 : fitR k x.toInt
      · obtain ⟨X, hX⟩ : ∃ X, X = x.toInt := ⟨_, rfl⟩
        have eX : x = rI X := by rw [hX]; exact rI_of x
        have q3' := eq.2 q3
        rw [← hX] at q3
        subst eX
        have k1 : KF σ (rp_up σ (1 + 2) (2 * r + k) (rI X)) := (KF.rf σ).up (by omega) (by omega)
        have p1 := k1.pg hP
        refine ⟨rI (g (25 + 4 * k + r)), rp_up σ (1 + 2) (2 * r + k) (rI X), rp_up (rp_up σ (1 + 2) (2 * r + k) (rI X)) 29 (25 + 4 * k + r) (rI (X - 0)), ?_, ?_, updI hr k1 ((PF.rf _).up (by omega)) (hN.setR hV (by omega) (by omega) X) ((by rw [Int.sub_zero]; exact p1.set0 (by omega) X)) (hV.setR (by omega) q3)⟩
        · unfold fX6_move
          rw [cHasR hN hV, ob, fitsR σ _ k (by omega), ← hX]
          simp only [ob, rb_0]
          rw [if_neg (fun z => z q), if_neg (fun z => z q3), cRd hN hV hw (by omega), ob, cSetR (by omega) (by omega), ob]
        · show fX7_move _ _ _ _ = _
          rw [mMove, if_pos q3']
          unfold fX7_move_33
          rw [mHasR p1 hV, ob]
          simp only [rb_0]
          rw [if_neg (fun z => z q), if_neg (by decide)]
          unfold fX7_move_54
          have e := mPuts p1 (j := 25 + 4 * k + r) (by omega) (x := rI 1) (by decide) X 0 (25 + 4 * (k : Int) + r) (by omega)
          rw [rI_mul, rI_add, rI_add, e, ob, Int.add_zero]
      · refine ⟨rI (-1), σ, σ, ?_, ?_, h⟩
        · unfold fX6_move
          rw [cHasR hN hV, ob, fitsR σ _ k (by omega)]
          simp only [ob, rb_0]
          rw [if_neg (fun z => z q), if_pos q3]
        · show fX7_move _ _ _ _ = _
          rw [mMove, if_neg (fun z => q3 (eq.1 z))]
          unfold fX7_move_33
          rw [mHasR hP hV, ob]
          simp only [rb_0]
          rw [if_neg (fun z => z q), if_pos (by decide)]
          unfold fX7_move_53 fX7_move_54
          rw [mPuts0 _ _ _ (by decide), ob]
    · refine ⟨rI (-1), σ, σ, ?_, ?_, h⟩
      · unfold fX6_move
        rw [cHasR hN hV, ob, fitsR_no σ _ q2]
        simp only [ob, rb_0]
        rw [if_neg (fun z => z q), if_pos (by decide)]
      · show fX7_move _ _ _ _ = _
        rw [mMove, if_neg (fun z => z.elim (fun z => rI_ne (n := 0) (by omega) (by omega) (by omega) z.1) (fun z => rI_ne (n := 1) (by omega) (by omega) (by omega) z.1))]
        unfold fX7_move_33
        rw [mHasR hP hV, ob]
        simp only [rb_0]
        rw [if_neg (fun z => z q), if_pos (by decide)]
        unfold fX7_move_53 fX7_move_54
        rw [mPuts0 _ _ _ (by decide), ob]
  · refine ⟨rI (-1), σ, σ, ?_, ?_, h⟩
    · unfold fX6_move
      rw [cHasR hN hV, ob]
      simp only [rb_0]
      rw [if_pos q]
    · show fX7_move _ _ _ _ = _
      rw [mMove]
      unfold fX7_move_33
      rw [mHasR hP hV, ob]
      simp only [rb_0]
      rw [if_pos q]
      unfold fX7_move_53 fX7_move_54
      rw [mPuts0 _ _ _ (by decide), ob]
theorem op_blow (h : Inv σ) (v : Int32) : OpW (fX6_blow σ v) (fun τ => fX7_blow τ v) := by
  obtain ⟨g, hp, hr⟩ := id h
  obtain ⟨hP, hV, hN⟩ := id hp
  by_cases q : 0 ≤ v.toInt ∧ v.toInt ≤ 8
  · obtain ⟨X, hX⟩ : ∃ X, X = v.toInt := ⟨_, rfl⟩
    have eX : v = rI X := by rw [hX]; exact rI_of v
    rw [← hX] at q
    subst eX
    have k1 : KF σ (rp_up σ 1 4 (rI X)) := (KF.rf σ).up (by omega) (by omega)
    have p1 := k1.pg hP
    refine ⟨rI (g 34 + 4), rp_up σ 1 4 (rI X), rp_up (rp_up σ 1 4 (rI X)) 29 34 (rI (X - 4)), ?_, ?_, updI hr k1 ((PF.rf _).up (by omega)) (hN.setB hV (v := X - 4) (by omega)) (p1.set0 (by omega) (X - 4)) (hV.setB (by omega))⟩
    · unfold fX6_blow
      rw [in9 _ (by omega) (by omega), ← hX]
      simp only [ob, rb_0]
      rw [if_neg (fun z => z q), hN.2.2.1]
    · show fX7_blow _ _ = _
      unfold fX7_blow
      have e := mPuts p1 (j := 34) (by omega) (x := rI 1) (by decide) X 4 34 rfl
      rw [in7 _ (by omega) (by omega), ← hX, ob, if_pos q, e, ob]
  · refine ⟨rI (-1), σ, σ, ?_, ?_, h⟩
    · unfold fX6_blow
      rw [in9 _ (by omega) (by omega)]
      simp only [ob, rb_0]
      rw [if_pos q]
    · show fX7_blow _ _ = _
      unfold fX7_blow
      rw [in7 _ (by omega) (by omega), ob, if_neg q, mPuts0 _ _ _ (by decide), ob]
theorem op_damp (h : Inv σ) (v : Int32) : OpW (fX6_damp σ v) (fun τ => fX7_damp τ v) := by
  obtain ⟨g, hp, hr⟩ := id h
  obtain ⟨hP, hV, hN⟩ := id hp
  by_cases q : 0 ≤ v.toInt ∧ v.toInt ≤ 9
  · obtain ⟨X, hX⟩ : ∃ X, X = v.toInt := ⟨_, rfl⟩
    have eX : v = rI X := by rw [hX]; exact rI_of v
    rw [← hX] at q
    subst eX
    have k1 : KF σ (rp_up σ 1 5 (rI X)) := (KF.rf σ).up (by omega) (by omega)
    have p1 := k1.pg hP
    refine ⟨rI (g 35 + 0), rp_up σ 1 5 (rI X), rp_up (rp_up σ 1 5 (rI X)) 29 35 (rI (X - 0)), ?_, ?_, updI hr k1 ((PF.rf _).up (by omega)) (hN.setD hV X) (by rw [Int.sub_zero]; exact p1.set0 (by omega) X) (hV.setD (by omega))⟩
    · unfold fX6_damp
      rw [in9 _ (by omega) (by omega), ← hX]
      simp only [ob, rb_0]
      rw [if_neg (fun z => z q), hN.2.2.2.1, Int.add_zero]
    · show fX7_damp _ _ = _
      unfold fX7_damp
      have e := mPuts p1 (j := 35) (by omega) (x := rI 1) (by decide) X 0 35 rfl
      rw [in7 _ (by omega) (by omega), ← hX, ob, if_pos q, e, ob]
  · refine ⟨rI (-1), σ, σ, ?_, ?_, h⟩
    · unfold fX6_damp
      rw [in9 _ (by omega) (by omega)]
      simp only [ob, rb_0]
      rw [if_pos q]
    · show fX7_damp _ _ = _
      unfold fX7_damp
      rw [in7 _ (by omega) (by omega), ob, if_neg q, mPuts0 _ _ _ (by decide), ob]
theorem op_burn (h : Inv σ) (v : Int32) : OpW (fX6_burn σ v) (fun τ => fX7_burn τ v) := by
  obtain ⟨g, hp, hr⟩ := id h
  obtain ⟨hP, hV, hN⟩ := id hp
  have v1 := hV.1
  by_cases q : 0 ≤ v.toInt ∧ v.toInt ≤ g 24
  · obtain ⟨X, hX⟩ : ∃ X, X = v.toInt := ⟨_, rfl⟩
    have eX : v = rI X := by rw [hX]; exact rI_of v
    rw [← hX] at q
    subst eX
    have k1 : KF σ (rp_up σ 1 2 (rI X)) := (KF.rf σ).up (by omega) (by omega)
    have p1 := k1.pg hP
    refine ⟨rI (g 24 + 0), rp_up σ 1 2 (rI X), rp_up (rp_up σ 1 2 (rI X)) 29 24 (rI (X - 0)), ?_, ?_, updI hr k1 ((PF.rf _).up (by omega)) (hN.setN (fun w k q1 q2 => hN.2.2.2.2.1 w k (by omega) q2) (by omega)) (by rw [Int.sub_zero]; exact p1.set0 (by omega) X) (hV.setN (by omega) (by omega) (fun w hw => hV.rowW (by omega)))⟩
    · unfold fX6_burn
      rw [hN.1, in9 _ (by omega) (by omega), ← hX]
      simp only [ob, rb_0]
      rw [if_neg (fun z => z q), Int.add_zero]
    · show fX7_burn _ _ = _
      unfold fX7_burn
      have e := mPuts p1 (j := 24) (by omega) (x := rI 1) (by decide) X 0 24 rfl
      rw [rd24 p1, ob, i64 (z := g 24) (by omega) (by omega), in7 _ (by omega) (by omega), ← hX, ob, if_pos q, e, ob]
  · refine ⟨rI (-1), σ, σ, ?_, ?_, h⟩
    · unfold fX6_burn
      rw [hN.1, in9 _ (by omega) (by omega)]
      simp only [ob, rb_0]
      rw [if_pos q]
    · show fX7_burn _ _ = _
      unfold fX7_burn
      rw [rd24 hP, ob, i64 (z := g 24) (by omega) (by omega), in7 _ (by omega) (by omega), ob, if_neg q, mPuts0 _ _ _ (by decide), ob]
theorem op_leave (h : Inv σ) (v : Int32) : OpW (fX6_leave σ v) (fun τ => fX7_leave τ v) := by
  obtain ⟨g, hp, hr⟩ := id h
  obtain ⟨hP, hV, hN⟩ := id hp
  have v1 := hV.2.1
  by_cases q : 0 ≤ v.toInt ∧ v.toInt ≤ g 33
  · obtain ⟨X, hX⟩ : ∃ X, X = v.toInt := ⟨_, rfl⟩
    have eX : v = rI X := by rw [hX]; exact rI_of v
    rw [← hX] at q
    subst eX
    have k1 : KF σ (rp_up σ 1 3 (rI X)) := (KF.rf σ).up (by omega) (by omega)
    have p1 := k1.pg hP
    refine ⟨rI (g 33 + 0), rp_up σ 1 3 (rI X), rp_up (rp_up σ 1 3 (rI X)) 29 33 (rI (X - 0)), ?_, ?_, updI hr k1 ((PF.rf _).up (by omega)) (hN.setM hV (fun w k q1 q2 => hN.2.2.2.2.2 w k (by omega) q2) (by omega)) (by rw [Int.sub_zero]; exact p1.set0 (by omega) X) (hV.setM (by omega) (by omega) (fun w hw => hV.rowR (by omega)))⟩
    · unfold fX6_leave
      rw [hN.2.1, in9 _ (by omega) (by omega), ← hX]
      simp only [ob, rb_0]
      rw [if_neg (fun z => z q), Int.add_zero]
    · show fX7_leave _ _ = _
      unfold fX7_leave
      have e := mPuts p1 (j := 33) (by omega) (x := rI 1) (by decide) X 0 33 rfl
      rw [rd33 p1, ob, i64 (z := g 33) (by omega) (by omega), in7 _ (by omega) (by omega), ← hX, ob, if_pos q, e, ob]
  · refine ⟨rI (-1), σ, σ, ?_, ?_, h⟩
    · unfold fX6_leave
      rw [hN.2.1, in9 _ (by omega) (by omega)]
      simp only [ob, rb_0]
      rw [if_pos q]
    · show fX7_leave _ _ = _
      unfold fX7_leave
      rw [rd33 hP, ob, i64 (z := g 33) (by omega) (by omega), in7 _ (by omega) (by omega), ob, if_neg q, mPuts0 _ _ _ (by decide), ob]
end OPS
