/-! write, come -/
abbrev fit4 (z1 z2 z3 z4 : Int) : Prop := fitW 0 z1 ∧ fitW 1 z2 ∧ fitW 2 z3 ∧ fitW 3 z4
abbrev gW (g : Nat → Int) (n : Nat) (z1 z2 z3 z4 : Int) : Nat → Int := gU (gU (gU (gU (gU g (6 * 0 + n) z1) (6 * 1 + n) z2) (6 * 2 + n) z3) (6 * 3 + n) z4) 24 ((n + 1 : Nat) : Int)
def sAdd (g : Nat → Int) (z1 z2 z3 z4 : Int) : Int × (Nat → Int) := if fit4 z1 z2 z3 z4 then (if g 24 < 6 then (g 24 + 1, gW g (g 24).toNat z1 z2 z3 z4) else (-3, g)) else (-1, g)
theorem sAdd_no {g : Nat → Int} {z1 z2 z3 z4 : Int} (q : ¬ fit4 z1 z2 z3 z4) : sAdd g z1 z2 z3 z4 = (-1, g) := by
  unfold sAdd; rw [if_neg q]
theorem sAdd_full {g : Nat → Int} {z1 z2 z3 z4 : Int} (q : fit4 z1 z2 z3 z4) (q5 : ¬ g 24 < 6) : sAdd g z1 z2 z3 z4 = (-3, g) := by
  unfold sAdd; rw [if_pos q, if_neg q5]
theorem sAdd_ok {g : Nat → Int} {z1 z2 z3 z4 : Int} (q : fit4 z1 z2 z3 z4) (q5 : g 24 < 6) : sAdd g z1 z2 z3 z4 = (g 24 + 1, gW g (g 24).toNat z1 z2 z3 z4) := by
  unfold sAdd; rw [if_pos q, if_pos q5]
theorem sV.row4 {g : Nat → Int} (h : sV g) {n : Nat} (hn : n < 6) {z1 z2 z3 z4 : Int} (q : fit4 z1 z2 z3 z4) : sV (gU g (6 * 0 + n) z1) ∧ sV (gU (gU g (6 * 0 + n) z1) (6 * 1 + n) z2) ∧ sV (gU (gU (gU g (6 * 0 + n) z1) (6 * 1 + n) z2) (6 * 2 + n) z3) ∧ sV (gU (gU (gU (gU g (6 * 0 + n) z1) (6 * 1 + n) z2) (6 * 2 + n) z3) (6 * 3 + n) z4) := by
  have h1 := h.setW hn q.1
  have h2 := h1.setW hn q.2.1
  have h3 := h2.setW hn q.2.2.1
  have h4 := h3.setW hn q.2.2.2
  exact ⟨h1, h2, h3, h4⟩
theorem sV.add {g : Nat → Int} (h : sV g) (z1 z2 z3 z4 : Int) : sV (sAdd g z1 z2 z3 z4).2 := by
  unfold sAdd
  by_cases q : fit4 z1 z2 z3 z4
  · rw [if_pos q]
    by_cases q2 : g 24 < 6
    · rw [if_pos q2]
      have v1 := h.1
      obtain ⟨n, hn⟩ : ∃ n : Nat, g 24 = n := ⟨(g 24).toNat, by omega⟩
      have en : (g 24).toNat = n := by omega
      show sV (gW g (g 24).toNat z1 z2 z3 z4)
      rw [en]
      obtain ⟨h1, h2, h3, h4⟩ := h.row4 (n := n) (by omega) q
      refine h4.setN (by omega) (by omega) (fun w hw => ?_)
      by_cases e : w = n
      · subst e
        rw [gU_eq, gU_ne (by omega), gU_ne (by omega), gU_ne (by omega), gU_eq, gU_ne (by omega), gU_ne (by omega), gU_eq, gU_ne (by omega), gU_eq]
        exact q
      · refine h4.rowW ?_
        rw [gU_ne (by omega), gU_ne (by omega), gU_ne (by omega), gU_ne (by omega)]
        omega
    · rw [if_neg q2]; exact h
  · rw [if_neg q]; exact h
theorem cAdd {σ : rp_S} {g : Nat → Int} (hN : NT σ 1 g) (hV : sV g) (z1 z2 z3 z4 : Int) (b1 : -2147483648 ≤ z1 ∧ z1 < 2147483648) (b2 : -2147483648 ≤ z2 ∧ z2 < 2147483648) (b3 : -2147483648 ≤ z3 ∧ z3 < 2147483648) (b4 : -2147483648 ≤ z4 ∧ z4 < 2147483648) : ∃ τ, KF σ τ ∧ NT τ 1 (sAdd g z1 z2 z3 z4).2 ∧ fX1_addWork σ 1 (rI z1) (rI z2) (rI z3) (rI z4) = some (rI (sAdd g z1 z2 z3 z4).1, τ) := by
  have v1 := hV.1
  have e1 : (rI z1).toInt = z1 := rI_toInt b1.1 b1.2
  have e2 : (rI z2).toInt = z2 := rI_toInt b2.1 b2.2
  have e3 : (rI z3).toInt = z3 := rI_toInt b3.1 b3.2
  have e4 : (rI z4).toInt = z4 := rI_toInt b4.1 b4.2
  have f1 : fX6_fitsWork σ (rI 0) (rI z1) = some (if fitW 0 z1 then rI 1 else rI 0) := by have := fitsW σ (rI z1) 0 (by omega); rw [e1] at this; exact this
  have f2 : fX6_fitsWork σ (rI 1) (rI z2) = some (if fitW 1 z2 then rI 1 else rI 0) := by have := fitsW σ (rI z2) 1 (by omega); rw [e2] at this; exact this
  have f3 : fX6_fitsWork σ (rI 2) (rI z3) = some (if fitW 2 z3 then rI 1 else rI 0) := by have := fitsW σ (rI z3) 2 (by omega); rw [e3] at this; exact this
  have f4 : fX6_fitsWork σ (rI 3) (rI z4) = some (if fitW 3 z4 then rI 1 else rI 0) := by have := fitsW σ (rI z4) 3 (by omega); rw [e4] at this; exact this
  unfold fX1_addWork
  rw [f1, f2, f3, f4]
  simp only [ob, rb_0]
  by_cases q1 : fitW 0 z1
  · by_cases q2 : fitW 1 z2
    · by_cases q3 : fitW 2 z3
      · by_cases q4 : fitW 3 z4
        · have q : fit4 z1 z2 z3 z4 := ⟨q1, q2, q3, q4⟩
          rw [if_neg (fun z => z q1), if_neg (fun z => z q2), if_neg (fun z => z q3), if_neg (fun z => z q4), hN.1]
          by_cases q5 : g 24 < 6
          · obtain ⟨n, hn⟩ : ∃ n : Nat, g 24 = n := ⟨(g 24).toNat, by omega⟩
            have en : (g 24).toNat = n := by omega
            rw [sAdd_ok q q5, if_pos (by rw [rI_lt (by omega) (by omega) (by omega) (by omega)]; omega), en, hn]
            obtain ⟨h1, h2, h3, h4⟩ := hV.row4 (n := n) (by omega) q
            have t1 := hN.setW hV (w := n) (k := 0) (by omega) (by omega) z1
            have t2 := t1.setW h1 (w := n) (k := 1) (by omega) (by omega) z2
            have t3 := t2.setW h2 (w := n) (k := 2) (by omega) (by omega) z3
            have t4 := t3.setW h3 (w := n) (k := 3) (by omega) (by omega) z4
            have w0 : ∀ (ρ : rp_S) (x : Int32), fX1_setWork ρ 1 (rI n) (rI 0) x = some (rp_up ρ (1 + 1) (4 * n + 0) x) := fun ρ x => cSetW (k := 0) (by omega) (by omega)
            have w1 : ∀ (ρ : rp_S) (x : Int32), fX1_setWork ρ 1 (rI n) (rI 1) x = some (rp_up ρ (1 + 1) (4 * n + 1) x) := fun ρ x => cSetW (k := 1) (by omega) (by omega)
            have w2 : ∀ (ρ : rp_S) (x : Int32), fX1_setWork ρ 1 (rI n) (rI 2) x = some (rp_up ρ (1 + 1) (4 * n + 2) x) := fun ρ x => cSetW (k := 2) (by omega) (by omega)
            have w3 : ∀ (ρ : rp_S) (x : Int32), fX1_setWork ρ 1 (rI n) (rI 3) x = some (rp_up ρ (1 + 1) (4 * n + 3) x) := fun ρ x => cSetW (k := 3) (by omega) (by omega)
            have i1 : ∀ (j : Nat) (x : Int32) (ρ : rp_S), ρ 1 2 = rI n → rp_up ρ (1 + 1) j x 1 2 = rI n := fun j x ρ h => by rw [up_ne (by omega)]; exact h
            have i0 : σ 1 2 = rI n := by rw [hN.1, hn]
            refine ⟨rp_up (rp_up (rp_up (rp_up (rp_up σ (1 + 1) (4 * n + 0) (rI z1)) (1 + 1) (4 * n + 1) (rI z2)) (1 + 1) (4 * n + 2) (rI z3)) (1 + 1) (4 * n + 3) (rI z4)) 1 2 (rI ((n + 1 : Nat) : Int)), (((((KF.rf σ).up (by omega) (by omega)).up (by omega) (by omega)).up (by omega) (by omega)).up (by omega) (by omega)).up (by omega) (by omega), ?_, ?_⟩
            · refine t4.setN (fun w k q1 q2 => ?_) (by omega)
              by_cases e : w = n
              · subst e
                have hk2 : k = 0 ∨ k = 1 ∨ k = 2 ∨ k = 3 := by omega
                rcases hk2 with rfl | rfl | rfl | rfl
                · rw [gU_ne (by omega), gU_ne (by omega), gU_ne (by omega), gU_eq, up_nj (by omega), up_nj (by omega), up_nj (by omega), up_eq]
                · rw [gU_ne (by omega), gU_ne (by omega), gU_eq, up_nj (by omega), up_nj (by omega), up_eq]
                · rw [gU_ne (by omega), gU_eq, up_nj (by omega), up_eq]
                · rw [gU_eq, up_eq]
              · refine t4.2.2.2.2.1 w k ?_ q2
                rw [gU_ne (by omega), gU_ne (by omega), gU_ne (by omega), gU_ne (by omega)]
                omega
            · rw [w0, ob, i1 _ _ _ i0, w1, ob, i1 _ _ _ (i1 _ _ _ i0), w2, ob, i1 _ _ _ (i1 _ _ _ (i1 _ _ _ i0)), w3, ob, i1 _ _ _ (i1 _ _ _ (i1 _ _ _ (i1 _ _ _ i0))), iI_s, up_eq]
              rfl
          · rw [sAdd_full q q5, if_neg (by rw [rI_lt (by omega) (by omega) (by omega) (by omega)]; omega)]
            exact ⟨σ, KF.rf σ, hN, rfl⟩
        · rw [sAdd_no (fun z => q4 z.2.2.2), if_neg (fun z => z q1), if_neg (fun z => z q2), if_neg (fun z => z q3), if_pos q4]
          exact ⟨σ, KF.rf σ, hN, rfl⟩
      · rw [sAdd_no (fun z => q3 z.2.2.1), if_neg (fun z => z q1), if_neg (fun z => z q2), if_pos q3]
        exact ⟨σ, KF.rf σ, hN, rfl⟩
    · rw [sAdd_no (fun z => q2 z.2.1), if_neg (fun z => z q1), if_pos q2]
      exact ⟨σ, KF.rf σ, hN, rfl⟩
  · rw [sAdd_no (fun z => q1 z.1), if_pos q1]
    exact ⟨σ, KF.rf σ, hN, rfl⟩
theorem mAdd {σ : rp_S} {g : Nat → Int} (hP : PG σ 0 g) (hV : sV g) (z1 z2 z3 z4 : Int) (b1 : -2147483648 ≤ z1 ∧ z1 < 2147483648) (b2 : -2147483648 ≤ z2 ∧ z2 < 2147483648) (b3 : -2147483648 ≤ z3 ∧ z3 < 2147483648) (b4 : -2147483648 ≤ z4 ∧ z4 < 2147483648) : ∃ τ, PF σ τ ∧ PG τ 0 (sAdd g z1 z2 z3 z4).2 ∧ fX7_writes σ (rI z1) (rI z2) (rI z3) (rI z4) = some (rI (sAdd g z1 z2 z3 z4).1, τ) := by
  have v1 := hV.1
  have e1 : (rI z1).toInt = z1 := rI_toInt b1.1 b1.2
  have e2 : (rI z2).toInt = z2 := rI_toInt b2.1 b2.2
  have e3 : (rI z3).toInt = z3 := rI_toInt b3.1 b3.2
  have e4 : (rI z4).toInt = z4 := rI_toInt b4.1 b4.2
  have f1 : fX7_isGood (rI 0) (rI z1) = some (if fitW 0 z1 then rI 1 else rI 0) := by have := goodW (rI z1) 0 (by omega); rw [e1] at this; exact this
  have f2 : fX7_isGood (rI 1) (rI z2) = some (if fitW 1 z2 then rI 1 else rI 0) := by have := goodW (rI z2) 1 (by omega); rw [e2] at this; exact this
  have f3 : fX7_isGood (rI 2) (rI z3) = some (if fitW 2 z3 then rI 1 else rI 0) := by have := goodW (rI z3) 2 (by omega); rw [e3] at this; exact this
  have f4 : fX7_isGood (rI 3) (rI z4) = some (if fitW 3 z4 then rI 1 else rI 0) := by have := goodW (rI z4) 3 (by omega); rw [e4] at this; exact this
  unfold fX7_writes
  rw [f1, f2, f3, f4]
  simp only [ob, rb_0]
  by_cases q1 : fitW 0 z1
  · by_cases q2 : fitW 1 z2
    · by_cases q3 : fitW 2 z3
      · by_cases q4 : fitW 3 z4
        · have q : fit4 z1 z2 z3 z4 := ⟨q1, q2, q3, q4⟩
          rw [if_neg (fun z => z q1), if_neg (fun z => z q2), if_neg (fun z => z q3), if_neg (fun z => z q4), rd24 hP, ob]
          by_cases q5 : g 24 < 6
          · obtain ⟨n, hn⟩ : ∃ n : Nat, g 24 = n := ⟨(g 24).toNat, by omega⟩
            have en : (g 24).toNat = n := by omega
            rw [sAdd_ok q q5, if_neg (by rw [rI_eq (by omega) (by omega) (by omega) (by omega)]; omega), en, hn]
            have t1 := hP.set0 (j := 6 * 0 + n) (by omega) z1
            have t2 := t1.set0 (j := 6 * 1 + n) (by omega) z2
            have t3 := t2.set0 (j := 6 * 2 + n) (by omega) z3
            have t4 := t3.set0 (j := 6 * 3 + n) (by omega) z4
            have t5 := t4.set0 (j := 24) (by omega) ((n + 1 : Nat) : Int)
            have w0 : ∀ (ρ : rp_S) (x : Int32), rq_wr ρ 29 180 (rI n) x = some (rp_up ρ 29 (6 * 0 + n) x) := fun ρ x => wr0 (by omega) (by omega)
            have w1 : ∀ (ρ : rp_S) (x : Int32), rq_wr ρ 29 180 (rI 6 + rI n) x = some (rp_up ρ 29 (6 * 1 + n) x) := fun ρ x => by rw [rI_add]; exact wr0 (by omega) (by omega)
            have w2 : ∀ (ρ : rp_S) (x : Int32), rq_wr ρ 29 180 (rI 12 + rI n) x = some (rp_up ρ 29 (6 * 2 + n) x) := fun ρ x => by rw [rI_add]; exact wr0 (by omega) (by omega)
            have w3 : ∀ (ρ : rp_S) (x : Int32), rq_wr ρ 29 180 (rI 18 + rI n) x = some (rp_up ρ 29 (6 * 3 + n) x) := fun ρ x => by rw [rI_add]; exact wr0 (by omega) (by omega)
            have w4 : ∀ (ρ : rp_S) (x : Int32), rq_wr ρ 29 180 (rI 24) x = some (rp_up ρ 29 24 x) := fun ρ x => wr0 rfl (by omega)
            have r1 := rd24 t4
            rw [gU_ne (by omega), gU_ne (by omega), gU_ne (by omega), gU_ne (by omega), hn] at r1
            have r2 := rd24 t5
            rw [gU_eq] at r2
            refine ⟨_, ?_, t5, ?_⟩
            · exact (((((PF.rf σ).up (by omega)).up (by omega)).up (by omega)).up (by omega)).up (by omega)
            · rw [w0, ob, w1, ob, w2, ob, w3, ob, r1, ob, iI_s, w4, ob, r2, ob]
              rfl
          · rw [sAdd_full q q5, if_pos (by rw [rI_eq (by omega) (by omega) (by omega) (by omega)]; omega)]
            exact ⟨σ, PF.rf σ, hP, rfl⟩
        · rw [sAdd_no (fun z => q4 z.2.2.2), if_neg (fun z => z q1), if_neg (fun z => z q2), if_neg (fun z => z q3), if_pos q4]
          exact ⟨σ, PF.rf σ, hP, rfl⟩
      · rw [sAdd_no (fun z => q3 z.2.2.1), if_neg (fun z => z q1), if_neg (fun z => z q2), if_pos q3]
        exact ⟨σ, PF.rf σ, hP, rfl⟩
    · rw [sAdd_no (fun z => q2 z.2.1), if_neg (fun z => z q1), if_pos q2]
      exact ⟨σ, PF.rf σ, hP, rfl⟩
  · rw [sAdd_no (fun z => q1 z.1), if_pos q1]
    exact ⟨σ, PF.rf σ, hP, rfl⟩
theorem op_write {σ : rp_S} (h : Inv σ) (x y z t : Int32) : OpW (fX6_write σ x y z t) (fun τ => fX7_write τ x y z t) := by
  obtain ⟨g, hp, hr⟩ := id h
  obtain ⟨hP, hV, hN⟩ := id hp
  obtain ⟨σ1, k1, k2, k3⟩ := cAdd hN hV x.toInt y.toInt z.toInt t.toInt (i32_b x) (i32_b y) (i32_b z) (i32_b t)
  obtain ⟨σ2, p1, p2, p3⟩ := mAdd (k1.pg hP) hV x.toInt y.toInt z.toInt t.toInt (i32_b x) (i32_b y) (i32_b z) (i32_b t)
  rw [rI_toI, rI_toI, rI_toI, rI_toI] at k3 p3
  refine ⟨rI (sAdd g x.toInt y.toInt z.toInt t.toInt).1, σ1, σ2, ?_, ?_, updI hr k1 p1 k2 p2 (hV.add _ _ _ _)⟩
  · unfold fX6_write
    rw [k3, ob]
  · show fX7_write _ _ _ _ _ = _
    unfold fX7_write
    rw [p3, ob]
theorem op_come {σ : rp_S} (h : Inv σ) (x y : Int32) : OpW (fX6_come σ x y) (fun τ => fX7_come τ x y) := by
  obtain ⟨g, hp, hr⟩ := id h
  obtain ⟨hP, hV, hN⟩ := id hp
  have v1 := hV.1
  have v2 := hV.2.1
  have f1 : fX6_fitsReader σ (rI 0) x = some (if fitR 0 x.toInt then rI 1 else rI 0) := fitsR σ x 0 (by omega)
  have f2 : fX6_fitsReader σ (rI 1) y = some (if fitR 1 y.toInt then rI 1 else rI 0) := fitsR σ y 1 (by omega)
  by_cases q1 : 0 ≤ x.toInt ∧ x.toInt ≤ 11
  · have q1' : fitR 0 x.toInt := by omega
    by_cases q2 : 0 ≤ y.toInt ∧ y.toInt ≤ 9
    · have q2' : fitR 1 y.toInt := by omega
      by_cases q5 : g 33 < 4
      · obtain ⟨n, hn⟩ : ∃ n : Nat, g 33 = n := ⟨(g 33).toNat, by omega⟩
        obtain ⟨X, hX⟩ : ∃ X, X = x.toInt := ⟨_, rfl⟩
        have eX : x = rI X := by rw [hX]; exact rI_of x
        obtain ⟨Y, hY⟩ : ∃ Y, Y = y.toInt := ⟨_, rfl⟩
        have eY : y = rI Y := by rw [hY]; exact rI_of y
        rw [← hX] at q1' f1 q1
        rw [← hY] at q2' f2 q2
        have h1 := hV.setR (r := n) (k := 0) (by omega) q1'
        have h2 := h1.setR (r := n) (k := 1) (by omega) q2'
        have t1 := hN.setR hV (r := n) (k := 0) (by omega) (by omega) X
        have t2 := t1.setR h1 (r := n) (k := 1) (by omega) (by omega) Y
        have k1 : KF σ (rp_up (rp_up (rp_up σ (1 + 2) (2 * n + 0) (rI X)) (1 + 2) (2 * n + 1) (rI Y)) 1 3 (rI ((n + 1 : Nat) : Int))) := (((KF.rf σ).up (by omega) (by omega)).up (by omega) (by omega)).up (by omega) (by omega)
        have hP1 := k1.pg hP
        have s1 := hP1.set0 (j := 25 + 4 * 0 + n) (by omega) X
        have s2 := s1.set0 (j := 25 + 4 * 1 + n) (by omega) Y
        have s3 := s2.set0 (j := 33) (by omega) ((n + 1 : Nat) : Int)
        have w0 : ∀ (ρ : rp_S) (x : Int32), rq_wr ρ 29 180 (rI 25 + rI n) x = some (rp_up ρ 29 (25 + 4 * 0 + n) x) := fun ρ x => by rw [rI_add]; exact wr0 (by omega) (by omega)
        have w1 : ∀ (ρ : rp_S) (x : Int32), rq_wr ρ 29 180 (rI 29 + rI n) x = some (rp_up ρ 29 (25 + 4 * 1 + n) x) := fun ρ x => by rw [rI_add]; exact wr0 (by omega) (by omega)
        have w4 : ∀ (ρ : rp_S) (x : Int32), rq_wr ρ 29 180 (rI 33) x = some (rp_up ρ 29 33 x) := fun ρ x => wr0 rfl (by omega)
        have r1 := rd33 s2
        rw [gU_ne (by omega), gU_ne (by omega), hn] at r1
        have r2 := rd33 s3
        rw [gU_eq] at r2
        have c0 : ∀ (ρ : rp_S) (x : Int32), fX1_setReader ρ 1 (rI n) (rI 0) x = some (rp_up ρ (1 + 2) (2 * n + 0) x) := fun ρ x => cSetR (k := 0) (by omega) (by omega)
        have c1 : ∀ (ρ : rp_S) (x : Int32), fX1_setReader ρ 1 (rI n) (rI 1) x = some (rp_up ρ (1 + 2) (2 * n + 1) x) := fun ρ x => cSetR (k := 1) (by omega) (by omega)
        have i1 : ∀ (j : Nat) (x : Int32) (ρ : rp_S), ρ 1 3 = rI n → rp_up ρ (1 + 2) j x 1 3 = rI n := fun j x ρ h => by rw [up_ne (by omega)]; exact h
        have i0 : σ 1 3 = rI n := by rw [hN.2.1, hn]
        refine ⟨rI ((n + 1 : Nat) : Int), rp_up (rp_up (rp_up σ (1 + 2) (2 * n + 0) (rI X)) (1 + 2) (2 * n + 1) (rI Y)) 1 3 (rI ((n + 1 : Nat) : Int)), rp_up (rp_up (rp_up (rp_up (rp_up (rp_up σ (1 + 2) (2 * n + 0) (rI X)) (1 + 2) (2 * n + 1) (rI Y)) 1 3 (rI ((n + 1 : Nat) : Int))) 29 (25 + 4 * 0 + n) (rI X)) 29 (25 + 4 * 1 + n) (rI Y)) 29 33 (rI ((n + 1 : Nat) : Int)), ?_, ?_, updI hr k1 ((((PF.rf _).up (by omega)).up (by omega)).up (by omega)) (t2.setM h2 ?_ (by omega)) s3 (h2.setM (by omega) (by omega) ?_)⟩
        · unfold fX6_come fX1_addReader
          rw [f1, f2]
          simp only [ob, rb_0]
          rw [if_neg (fun z => z q1'), if_neg (fun z => z q2'), i0, if_pos (by rw [rI_lt (by omega) (by omega) (by omega) (by omega)]; omega), c0, ob, i1 _ _ _ i0, c1, ob, i1 _ _ _ (i1 _ _ _ i0), iI_s, up_eq, eX, eY, ob]
        · show fX7_come _ _ _ = _
          unfold fX7_come
          rw [isPlc, in7 _ (by omega) (by omega), ← hX, ← hY]
          simp only [ob, rb_0]
          rw [if_neg (fun z => z q1), if_neg (fun z => z q2), rd33 hP1, ob, hn, if_neg (by rw [rI_eq (by omega) (by omega) (by omega) (by omega)]; omega), eX, eY, w0, ob, w1, ob, r1, ob, iI_s, w4, ob, r2, ob]
        · intro r k z1 z2
          by_cases e : r = n
          · subst e
            have hk2 : k = 0 ∨ k = 1 := by omega
            rcases hk2 with rfl | rfl
            · rw [gU_ne (by omega), gU_eq, up_nj (by omega), up_eq]
            · rw [gU_eq, up_eq]
          · refine t2.2.2.2.2.2 r k ?_ z2
            rw [gU_ne (by omega), gU_ne (by omega)]
            omega
        · intro r hr
          by_cases e : r = n
          · subst e
            rw [gU_eq, gU_ne (by omega), gU_eq]
            exact ⟨q1', q2'⟩
          · refine h2.rowR ?_
            rw [gU_ne (by omega), gU_ne (by omega)]
            omega
      · refine ⟨rI (-3), σ, σ, ?_, ?_, h⟩
        · unfold fX6_come fX1_addReader
          rw [f1, f2]
          simp only [ob, rb_0]
          rw [if_neg (fun z => z q1'), if_neg (fun z => z q2'), hN.2.1, if_neg (by rw [rI_lt (by omega) (by omega) (by omega) (by omega)]; omega), ob]
        · show fX7_come _ _ _ = _
          unfold fX7_come
          rw [isPlc, in7 _ (by omega) (by omega)]
          simp only [ob, rb_0]
          rw [if_neg (fun z => z q1), if_neg (fun z => z q2), rd33 hP, ob, if_pos (by rw [rI_eq (by omega) (by omega) (by omega) (by omega)]; omega)]
    · refine ⟨rI (-1), σ, σ, ?_, ?_, h⟩
      · unfold fX6_come fX1_addReader
        rw [f1, f2]
        simp only [ob, rb_0]
        rw [if_neg (fun z => z q1'), if_pos (by omega), ob]
      · show fX7_come _ _ _ = _
        unfold fX7_come
        rw [isPlc, in7 _ (by omega) (by omega)]
        simp only [ob, rb_0]
        rw [if_neg (fun z => z q1), if_pos q2]
  · refine ⟨rI (-1), σ, σ, ?_, ?_, h⟩
    · unfold fX6_come fX1_addReader
      rw [f1]
      simp only [ob, rb_0]
      rw [if_pos (by omega), ob]
    · show fX7_come _ _ _ = _
      unfold fX7_come
      rw [isPlc]
      simp only [ob, rb_0]
      rw [if_pos q1]
