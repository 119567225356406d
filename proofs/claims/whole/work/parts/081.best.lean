/-! stand, kind, need, dry, lose, swap -/
theorem gU_last {g : Nat → Int} {j w : Nat} {v : Int} (hw : w < 6) (hj : 24 ≤ j) : sLast (gU g j v) w = sLast g w := by
  unfold sLast; rw [gU_ne (by omega), gU_ne (by omega)]
theorem gU_wide {g : Nat → Int} {j w : Nat} {v : Int} (hw : w < 6) (hj : 24 ≤ j) : sWide (gU g j v) w = sWide g w := by
  unfold sWide; rw [gU_ne (by omega), gU_ne (by omega)]
theorem gU_burst {g : Nat → Int} {j w : Nat} {v : Int} (hw : w < 6) (hj : 24 ≤ j) (hj2 : j ≠ 34) : sBurst (gU g j v) w = sBurst g w := by
  unfold sBurst; rw [gU_ne (by omega), gU_ne (by omega)]
theorem SH.setR {σ : rp_S} {g : Nat → Int} {d : Nat → Bool} {r : Nat} (h : SH σ g d) (hV : sV g) (hr : r < 4) (v : Int) : SH (rp_up σ 7 (2 * r + 0) (rI v)) (gU g (25 + 4 * 0 + r) v) d := by
  refine ⟨h.1.setR (k := 0) hV hr (by omega) v, fun w hw => ?_⟩
  have v1 := hV.1
  rw [gU_ne (show 24 ≠ 25 + 4 * 0 + r by omega)] at hw
  obtain ⟨e1, e2, e3, e4⟩ := h.2 w hw
  rw [up_ne (by omega), up_ne (by omega), up_ne (by omega), up_ne (by omega), gU_last (by omega) (by omega), gU_wide (by omega) (by omega), gU_burst (by omega) (by omega) (by omega), gU_ne (show 12 + w ≠ 25 + 4 * 0 + r by omega)]
  refine ⟨e1, ?_, e3, e4⟩
  unfold sGoes
  rw [gU_ne (show 35 ≠ 25 + 4 * 0 + r by omega), gU_ne (show 18 + w ≠ 25 + 4 * 0 + r by omega)]
  exact e2
/-- the best's label stays small -/
theorem sBw_i (F : Nat → Int) : ∀ k, sBw F (fun m => m) (-4) (-1) k = -4 ∨ (0 ≤ sBw F (fun m => m) (-4) (-1) k ∧ sBw F (fun m => m) (-4) (-1) k < k + 1) := by
  intro k
  induction k with
  | zero => left; rfl
  | succ k ih => rw [sBw]; split <;> omega
theorem sBw_p {F : Nat → Int} (h : 0 ≤ F 0) : ∀ k, 0 ≤ sBw F (fun m => m) (-4) (-1) (k + 1) := by
  intro k
  induction k with
  | zero => rw [sBw, sBa, if_pos (by omega)]; omega
  | succ k ih => rw [sBw]; split <;> omega
section OPS
variable {σ : rp_S}
theorem op_stand (h : Inv σ) (u v : Int32) : OpW (fX6_stand σ u v) (fun τ => fX7_stand τ u v) := by
  obtain ⟨g, hp, hr⟩ := id h
  obtain ⟨hP, hV, hN⟩ := id hp
  have v1 := hV.1
  have v2 := hV.2.1
  by_cases q : 0 ≤ u.toInt ∧ u.toInt ≤ g 33 - 1
  · by_cases q2 : 0 ≤ v.toInt ∧ v.toInt ≤ 1
    · obtain ⟨r, rfl, hr2⟩ := toN q.1
      have hr33 : (r : Int) < g 33 := by omega
      have hr4 : r < 4 := by omega
      obtain ⟨gm, hgm⟩ : ∃ gm : Nat → Nat → Int, gm = fun (m : Nat) => gU g (25 + 4 * 0 + r) (m : Int) := ⟨_, rfl⟩
      obtain ⟨F, hF⟩ : ∃ F : Nat → Int, F = fun m => sSum (fun w => sRead (gm m) (sD 0) r w) (g 24).toNat := ⟨_, rfl⟩
      have bF : ∀ k, (0 : Int) ≤ F k ∧ F k ≤ 480 := fun k => by
        rw [hF]
        have := sSum_b (F := fun w => sRead (gm k) (sD 0) r w) (B := 80) (fun w => sRead_b _ _ _ _) (g 24).toNat
        show (0 : Int) ≤ sSum _ _ ∧ sSum _ _ ≤ 480
        omega
      have e33 : ∀ m, (gm m) 33 = g 33 := fun m => by rw [hgm]; exact gU_ne (by omega)
      have e24 : ∀ m, (gm m) 24 = g 24 := fun m => by rw [hgm]; exact gU_ne (by omega)
      have gV : ∀ m : Nat, m < 12 → sV (gm m) := fun m hm => by rw [hgm]; exact hV.setR hr4 (by omega)
      obtain ⟨τ, a1, a2, a3⟩ := cBegin hN hV
      obtain ⟨τ1, f1, f2, f3⟩ := cAbove τ (-1)
      have ab := fun k => sBa_b (F := F) (a0 := -1) (lo := -1) (hi := 480) (by omega) (fun k => by have := bF k; omega) k
      have cl : ∀ (k m n : Nat) (ρ : rp_S) (x : Int), k < n → m + k = 12 → CF σ ρ → SH ρ (gU g (25 + 4 * 0 + r) x) (sD 0) → sV (gU g (25 + 4 * 0 + r) x) → BS ρ (sBw F (fun m => m) (-4) (-1) m) (sBa F (-1) m) →
          ∃ ρ', CF σ ρ' ∧ fX6_stand_43 n ρ (rI r) v (rI m) = some (sAns (sBw F (fun m => m) (-4) (-1) 12) (sBa F (-1) 12) v, ρ') := by
        intro k
        induction k with
        | zero =>
          intro m n ρ x hn hm hC hT hX hS
          obtain ⟨n, rfl⟩ : ∃ q, n = q + 1 := ⟨n - 1, by omega⟩
          have e : m = 12 := by omega
          subst e
          have := sBw_i F 12
          rw [fX6_stand_43, if_pos (by decide), cAnswer hS (by omega) (by omega), ob]
          exact ⟨ρ, hC, rfl⟩
        | succ k ih =>
          intro m n ρ x hn hm hC hT hX hS
          obtain ⟨n, rfl⟩ : ∃ q, n = q + 1 := ⟨n - 1, by omega⟩
          have b1 := ab m
          have b2 := bF m
          have t3 := hT.setR hX hr4 (m : Int)
          rw [gU_gU] at t3
          have t3' : SH (rp_up ρ 7 (2 * r + 0) (rI m)) (gm m) (sD 0) := by rw [hgm]; exact t3
          have t4' : fX1_setReader ρ 5 (rI r) (rI 0) (rI m) = some (rp_up ρ 7 (2 * r + 0) (rI m)) := cSetR (k := 0) hr4 (by omega)
          have r1 := cMinOf t3' (gV m (by omega)) (r := r) (by rw [e33]; exact hr33)
          rw [e24] at r1
          have BS2 : BS (rp_up ρ 7 (2 * r + 0) (rI m)) (sBw F (fun m => m) (-4) (-1) m) (sBa F (-1) m) := by unfold BS; rw [up_ne (by omega)]; exact hS
          obtain ⟨ρ3, g1, g2, g3⟩ := cOffer (c := (m : Int)) (f := F m) BS2 (by omega) (by omega) (by omega) (by omega)
          have eF : rI (sSum (fun w => sRead (gm m) (sD 0) r w) (g 24).toNat) = rI (F m) := by rw [hF]
          rw [fX6_stand_43, if_neg (by rw [rI_le (by omega) (by omega) (by omega) (by omega)]; omega), t4', ob, r1, ob, eF, g3, ob, iI_s]
          refine ih (m + 1) n ρ3 (m : Int) (by omega) (by omega) ((hC.u (by omega) (by omega)).tr g1.c) (g1.sh t3) ?_ ?_
          · have := gV m (by omega); rw [hgm] at this; exact this
          · rw [sBw, sBa]; exact g2
      obtain ⟨ρ, g1, g2⟩ := cl 12 0 1000 τ1 (g (25 + 4 * 0 + r)) (by omega) (by omega) (a1.tr f1.c) (by rw [gU_id]; exact f1.sh a2) (by rw [gU_id]; exact hV) f2
      have hp' := hp.q g1.q
      have hr' := hr.q g1.q
      obtain ⟨μ, m1, m2, m3⟩ := mTried hp'.1
      have ml : ∀ (k m n : Nat) (ν : rp_S) (x : Int), k < n → m + k = 12 → MF ρ ν → PG ν 144 (gU g (25 + 4 * 0 + r) x) →
          ∃ ν', MF ρ ν' ∧ fX7_stand_36 n ν (rI r) v (rI (sBa F (-1) m)) (rI (sBw F (fun m => m) 0 (-1) m)) (rI m) = some ((if v = 0 then rI (sBw F (fun m => m) 0 (-1) 12) else rI (sBa F (-1) 12)), ν') := by
        intro k
        induction k with
        | zero =>
          intro m n ν x hn hm hM hQ
          obtain ⟨n, rfl⟩ : ∃ q, n = q + 1 := ⟨n - 1, by omega⟩
          have e : m = 12 := by omega
          subst e
          rw [fX7_stand_36, if_pos (by decide)]
          refine ⟨ν, hM, ?_⟩
          by_cases z : v = 0
          · rw [if_pos z, if_pos z]
          · rw [if_neg z, if_neg z]
        | succ k ih =>
          intro m n ν x hn hm hM hQ
          obtain ⟨n, rfl⟩ : ∃ q, n = q + 1 := ⟨n - 1, by omega⟩
          have hD : ν 28 14 = rI 0 := by rw [hM.2.2 14 (by omega) (by omega) (by omega)]; exact hr'.2.2.2.2.1.2.2
          obtain ⟨ν2, t1, t2, t3, t4, t5, t6⟩ := mTry (j := 25 + 4 * 0 + r) (v := (m : Int)) hQ (by omega) (gV m (by omega) |> fun z => by rw [hgm] at z; exact z) hD
          have b1 := ab m
          have b2 := bF m
          have t4' : NB ν2 (gm m) (sD 0) := by rw [hgm]; exact t4
          have r1 := mMinOf (gV m (by omega)) t4' (r := r) (by rw [e33]; exact hr33)
          rw [e24] at r1
          have eF : rI (sSum (fun w => sRead (gm m) (sD 0) r w) (g 24).toNat) = rI (F m) := by rw [hF]
          have e := ih (m + 1) n ν2 (m : Int) (by omega) (by omega) (hM.tr t1) t2
          rw [sBw, sBa] at e
          rw [fX7_stand_36, if_neg (by rw [rI_le (by omega) (by omega) (by omega) (by omega)]; omega), wr144 (j := 25 + 4 * 0 + r) (by omega) (by omega), ob, t6, ob, r1, ob, eF]
          unfold fX7_stand_82 fX7_stand_96
          simp (disch := omega) only [rI_le]
          simp only [iI_s]
          by_cases z : F m ≤ sBa F (-1) m
          · rw [if_pos z, if_pos z]
            rw [if_neg (by omega), if_neg (by omega)] at e
            exact e
          · rw [if_neg z, if_neg z]
            rw [if_pos (by omega), if_pos (by omega)] at e
            exact e
      obtain ⟨ν, n1, n2⟩ := ml 12 0 1000 μ (g (25 + 4 * 0 + r)) (by omega) (by omega) m1 (by rw [gU_id]; exact m2)
      have ew : sBw F (fun m => m) 0 (-1) 12 = sBw F (fun m => m) (-4) (-1) 12 := sBw_any (by have := bF 0; omega) 11
      refine ⟨sAns (sBw F (fun m => m) (-4) (-1) 12) (sBa F (-1) 12) v, ρ, ν, ?_, ?_, h.q (g1.q.tr n1.q)⟩
      · unfold fX6_stand
        rw [cHasR hN hV, in9 _ (by omega) (by omega)]
        simp only [ob, rb_0]
        rw [if_neg (fun z => z q), if_neg (fun z => z q2), a3, ob, f3, ob]
        exact g2
      · show fX7_stand _ _ _ = _
        unfold fX7_stand
        rw [mHasR hp'.1 hV, in7 _ (by omega) (by omega)]
        simp only [ob, rb_0]
        rw [if_neg (fun z => z q), if_neg (fun z => z q2), m3, ob, sAns_pos (sBw_p (bF 0).1 11), ← ew]
        exact n2
    · refine ⟨rI (-1), σ, σ, ?_, ?_, h⟩
      · unfold fX6_stand
        rw [cHasR hN hV, in9 _ (by omega) (by omega)]
        simp only [ob, rb_0]
        rw [if_neg (fun z => z q), if_pos q2]
      · show fX7_stand _ _ _ = _
        unfold fX7_stand
        rw [mHasR hP hV, in7 _ (by omega) (by omega)]
        simp only [ob, rb_0]
        rw [if_neg (fun z => z q), if_pos q2]
  · refine ⟨rI (-1), σ, σ, ?_, ?_, h⟩
    · unfold fX6_stand
      rw [cHasR hN hV]
      simp only [ob, rb_0]
      rw [if_pos q]
    · show fX7_stand _ _ _ = _
      unfold fX7_stand
      rw [mHasR hP hV]
      simp only [ob, rb_0]
      rw [if_pos q]
theorem op_kind (h : Inv σ) (u v : Int32) : OpW (fX6_kind σ u v) (fun τ => fX7_kind τ u v) := by
  obtain ⟨g, hp, hr⟩ := id h
  obtain ⟨hP, hV, hN⟩ := id hp
  have v1 := hV.1
  have v2 := hV.2.1
  by_cases q : 0 ≤ u.toInt ∧ u.toInt ≤ g 24 - 1
  · by_cases q2 : 0 ≤ v.toInt ∧ v.toInt ≤ 1
    · obtain ⟨w, rfl, hw2⟩ := toN q.1
      have hw : (w : Int) < g 24 := by omega
      have hw6 : w < 6 := by omega
      obtain ⟨gm, hgm⟩ : ∃ gm : Nat → Nat → Int, gm = fun (m : Nat) => gU g (6 * 0 + w) (m : Int) := ⟨_, rfl⟩
      obtain ⟨F, hF⟩ : ∃ F : Nat → Int, F = fun m => sSum (fun r => sRead (gm m) (sD 0) r w) (g 33).toNat := ⟨_, rfl⟩
      have bF : ∀ k, (0 : Int) ≤ F k ∧ F k ≤ 480 := fun k => by
        rw [hF]
        have := sSum_b (F := fun r => sRead (gm k) (sD 0) r w) (B := 80) (fun r => sRead_b _ _ _ _) (g 33).toNat
        show (0 : Int) ≤ sSum _ _ ∧ sSum _ _ ≤ 480
        omega
      have e33 : ∀ m, (gm m) 33 = g 33 := fun m => by rw [hgm]; exact gU_ne (by omega)
      have e24 : ∀ m, (gm m) 24 = g 24 := fun m => by rw [hgm]; exact gU_ne (by omega)
      have gV : ∀ m : Nat, m < 4 → sV (gm m) := fun m hm => by rw [hgm]; exact hV.setW hw6 (by omega)
      obtain ⟨τ, a1, a2, a3⟩ := cBegin hN hV
      obtain ⟨τ1, f1, f2, f3⟩ := cAbove τ (-1)
      have ab := fun k => sBa_b (F := F) (a0 := -1) (lo := -1) (hi := 480) (by omega) (fun k => by have := bF k; omega) k
      have cl : ∀ (k m n : Nat) (ρ : rp_S) (x : Int), k < n → m + k = 4 → CF σ ρ → NT ρ 5 (gU g (6 * 0 + w) x) → sV (gU g (6 * 0 + w) x) → BS ρ (sBw F (fun m => m) (-4) (-1) m) (sBa F (-1) m) →
          ∃ ρ', CF σ ρ' ∧ fX6_kind_43 n ρ (rI w) v (rI m) = some (sAns (sBw F (fun m => m) (-4) (-1) 4) (sBa F (-1) 4) v, ρ') := by
        intro k
        induction k with
        | zero =>
          intro m n ρ x hn hm hC hT hX hS
          obtain ⟨n, rfl⟩ : ∃ q, n = q + 1 := ⟨n - 1, by omega⟩
          have e : m = 4 := by omega
          subst e
          have := sBw_i F 4
          rw [fX6_kind_43, if_pos (by decide), cAnswer hS (by omega) (by omega), ob]
          exact ⟨ρ, hC, rfl⟩
        | succ k ih =>
          intro m n ρ x hn hm hC hT hX hS
          obtain ⟨n, rfl⟩ : ∃ q, n = q + 1 := ⟨n - 1, by omega⟩
          obtain ⟨ρ1, ρ2, t1, t2, t3, t4, t5⟩ := cTryW (v := (m : Int)) hT hX hV hw6 (by omega)
          have b1 := ab m
          have b2 := bF m
          have t3' : SH ρ2 (gm m) (sD 0) := by rw [hgm]; exact t3
          have t4' : fX1_setWork ρ 5 (rI w) (rI 0) (rI m) = some ρ1 := t4
          have r1 := cMinBy t3' (gV m (by omega)) (w := w) (by rw [e24]; exact hw)
          rw [e33] at r1
          have BS2 : BS ρ2 (sBw F (fun m => m) (-4) (-1) m) (sBa F (-1) m) := by unfold BS; rw [t2]; exact hS
          obtain ⟨ρ3, g1, g2, g3⟩ := cOffer (c := (m : Int)) (f := F m) BS2 (by omega) (by omega) (by omega) (by omega)
          have eF : rI (sSum (fun r => sRead (gm m) (sD 0) r w) (g 33).toNat) = rI (F m) := by rw [hF]
          rw [fX6_kind_43, if_neg (by rw [rI_le (by omega) (by omega) (by omega) (by omega)]; omega), t4', ob, t5, ob, r1, ob, eF, g3, ob, iI_s]
          refine ih (m + 1) n ρ3 (m : Int) (by omega) (by omega) ((hC.tr t1).tr g1.c) ?_ ?_ ?_
          · exact (g1.sh t3).1
          · have := gV m (by omega); rw [hgm] at this; exact this
          · rw [sBw, sBa]; exact g2
      obtain ⟨ρ, g1, g2⟩ := cl 4 0 1000 τ1 (g (6 * 0 + w)) (by omega) (by omega) (a1.tr f1.c) (by rw [gU_id]; exact (f1.sh a2).1) (by rw [gU_id]; exact hV) f2
      have hp' := hp.q g1.q
      have hr' := hr.q g1.q
      obtain ⟨μ, m1, m2, m3⟩ := mTried hp'.1
      have inner : ∀ (k36 : rp_S → Int32 → Int32 → Int32 → Int32 → Int32 → Option (Int32 × rp_S)) (ν : rp_S) (G : Nat → Int) (x y z : Int32), PG ν 0 g → NB ν G (sD 0) → G 33 = g 33 → ∀ (k r n : Nat), k < n → (r : Int) + k = g 33 →
          fX7_kind_67 k36 n ν (rI w) v x y z (rI (sSum (fun r => sRead G (sD 0) r w) r)) (rI r) = (if rI (sSum (fun r => sRead G (sD 0) r w) (g 33).toNat) ≤ x then fX7_kind_115 k36 ν (rI w) v x z (rI (sSum (fun r => sRead G (sD 0) r w) (g 33).toNat)) y else fX7_kind_115 k36 ν (rI w) v x z (rI (sSum (fun r => sRead G (sD 0) r w) (g 33).toNat)) z) := by
        intro k36 ν G x y z hν hB hG k
        induction k with
        | zero =>
          intro r n hn hr
          obtain ⟨n, rfl⟩ : ∃ q, n = q + 1 := ⟨n - 1, by omega⟩
          rw [fX7_kind_67, rd33 hν, ob, if_pos (by rw [rI_le (by omega) (by omega) (by omega) (by omega)]; omega), show (g 33).toNat = r by omega]
        | succ k ih =>
          intro r n hn hr
          obtain ⟨n, rfl⟩ : ∃ q, n = q + 1 := ⟨n - 1, by omega⟩
          rw [fX7_kind_67, rd33 hν, ob, if_neg (by rw [rI_le (by omega) (by omega) (by omega) (by omega)]; omega), rd6 (by omega) hw6, ob, hB.1 r w (by omega) hw6, if_pos (by omega), rI_add, iI_s]
          exact ih (r + 1) n (by omega) (by omega)
      have ml : ∀ (k m n : Nat) (ν : rp_S) (x : Int), k < n → m + k = 4 → MF ρ ν → PG ν 144 (gU g (6 * 0 + w) x) →
          ∃ ν', MF ρ ν' ∧ fX7_kind_36 n ν (rI w) v (rI (sBa F (-1) m)) (rI (sBw F (fun m => m) 0 (-1) m)) (rI m) = some ((if v = 0 then rI (sBw F (fun m => m) 0 (-1) 4) else rI (sBa F (-1) 4)), ν') := by
        intro k
        induction k with
        | zero =>
          intro m n ν x hn hm hM hQ
          obtain ⟨n, rfl⟩ : ∃ q, n = q + 1 := ⟨n - 1, by omega⟩
          have e : m = 4 := by omega
          subst e
          rw [fX7_kind_36, if_pos (by decide)]
          refine ⟨ν, hM, ?_⟩
          by_cases z : v = 0
          · rw [if_pos z, if_pos z]
          · rw [if_neg z, if_neg z]
        | succ k ih =>
          intro m n ν x hn hm hM hQ
          obtain ⟨n, rfl⟩ : ∃ q, n = q + 1 := ⟨n - 1, by omega⟩
          have hD : ν 28 14 = rI 0 := by rw [hM.2.2 14 (by omega) (by omega) (by omega)]; exact hr'.2.2.2.2.1.2.2
          obtain ⟨ν2, t1, t2, t3, t4, t5, t6⟩ := mTry (j := 6 * 0 + w) (v := (m : Int)) hQ (by omega) (gV m (by omega) |> fun z => by rw [hgm] at z; exact z) hD
          have b1 := ab m
          have b2 := bF m
          have t4' : NB ν2 (gm m) (sD 0) := by rw [hgm]; exact t4
          have eF : rI (sSum (fun r => sRead (gm m) (sD 0) r w) (g 33).toNat) = rI (F m) := by rw [hF]
          have e := ih (m + 1) n ν2 (m : Int) (by omega) (by omega) (hM.tr t1) t2
          rw [sBw, sBa] at e
          have e2 := inner (fun σ v1 v2 v3 v4 v5 => fX7_kind_36 n σ v1 v2 v3 v4 v5) ν2 (gm m) (rI (sBa F (-1) m)) (rI (sBw F (fun m => m) 0 (-1) m)) (rI m) ((hM.tr t1).pg hp'.1) t4' (e33 m) (g 33).toNat 0 1000 (by omega) (by omega)
          rw [sSum.eq_1 (fun r => sRead (gm m) (sD 0) r w), show rI ((0 : Nat) : Int) = rI 0 from rfl] at e2
          rw [fX7_kind_36, if_neg (by rw [rI_le (by omega) (by omega) (by omega) (by omega)]; omega), wr144 (j := 6 * 0 + w) (by omega) (by omega), ob, t6, ob, e2, eF]
          unfold fX7_kind_115 fX7_kind_129
          simp (disch := omega) only [rI_le]
          simp only [iI_s]
          by_cases z : F m ≤ sBa F (-1) m
          · rw [if_pos z, if_pos z]
            rw [if_neg (by omega), if_neg (by omega)] at e
            exact e
          · rw [if_neg z, if_neg z]
            rw [if_pos (by omega), if_pos (by omega)] at e
            exact e
      obtain ⟨ν, n1, n2⟩ := ml 4 0 1000 μ (g (6 * 0 + w)) (by omega) (by omega) m1 (by rw [gU_id]; exact m2)
      have ew : sBw F (fun m => m) 0 (-1) 4 = sBw F (fun m => m) (-4) (-1) 4 := sBw_any (by have := bF 0; omega) 3
      refine ⟨sAns (sBw F (fun m => m) (-4) (-1) 4) (sBa F (-1) 4) v, ρ, ν, ?_, ?_, h.q (g1.q.tr n1.q)⟩
      · unfold fX6_kind
        rw [cHasW hN hV, in9 _ (by omega) (by omega)]
        simp only [ob, rb_0]
        rw [if_neg (fun z => z q), if_neg (fun z => z q2), a3, ob, f3, ob]
        exact g2
      · show fX7_kind _ _ _ = _
        unfold fX7_kind
        rw [mHasW hp'.1 hV, in7 _ (by omega) (by omega)]
        simp only [ob, rb_0]
        rw [if_neg (fun z => z q), if_neg (fun z => z q2), m3, ob, sAns_pos (sBw_p (bF 0).1 3), ← ew]
        exact n2
    · refine ⟨rI (-1), σ, σ, ?_, ?_, h⟩
      · unfold fX6_kind
        rw [cHasW hN hV, in9 _ (by omega) (by omega)]
        simp only [ob, rb_0]
        rw [if_neg (fun z => z q), if_pos q2]
      · show fX7_kind _ _ _ = _
        unfold fX7_kind
        rw [mHasW hP hV, in7 _ (by omega) (by omega)]
        simp only [ob, rb_0]
        rw [if_neg (fun z => z q), if_pos q2]
  · refine ⟨rI (-1), σ, σ, ?_, ?_, h⟩
    · unfold fX6_kind
      rw [cHasW hN hV]
      simp only [ob, rb_0]
      rw [if_pos q]
    · show fX7_kind _ _ _ = _
      unfold fX7_kind
      rw [mHasW hP hV]
      simp only [ob, rb_0]
      rw [if_pos q]
/-- the first of k from v on that is so -/
def sFst (P : Nat → Prop) [DecidablePred P] : Nat → Nat → Int
  | 0, _ => -4
  | k + 1, v => if P v then v else sFst P k (v + 1)
theorem op_need (h : Inv σ) (u v : Int32) : OpW (fX6_need σ u v) (fun τ => fX7_need τ u v) := by
  obtain ⟨g, hp, hr⟩ := id h
  obtain ⟨hP, hV, hN⟩ := id hp
  have v1 := hV.1
  have v2 := hV.2.1
  by_cases q : 0 ≤ u.toInt ∧ u.toInt ≤ g 24 - 1
  · by_cases q2 : 0 ≤ v.toInt ∧ v.toInt ≤ g 33 - 1
    · obtain ⟨w, rfl, hw2⟩ := toN q.1
      obtain ⟨r, rfl, hr2⟩ := toN q2.1
      have hw : (w : Int) < g 24 := by omega
      have hw6 : w < 6 := by omega
      obtain ⟨gm, hgm⟩ : ∃ gm : Nat → Nat → Int, gm = fun (m : Nat) => gU g (6 * 3 + w) (m : Int) := ⟨_, rfl⟩
      have e33 : ∀ m, (gm m) 33 = g 33 := fun m => by rw [hgm]; exact gU_ne (by omega)
      have e24 : ∀ m, (gm m) 24 = g 24 := fun m => by rw [hgm]; exact gU_ne (by omega)
      have gV : ∀ m : Nat, 1 ≤ m → m < 10 → sV (gm m) := fun m hm hm2 => by rw [hgm]; exact hV.setW hw6 (by omega)
      obtain ⟨τ, a1, a2, a3⟩ := cBegin hN hV
      have cl : ∀ (k m n : Nat) (ρ : rp_S) (x : Int), k < n → 1 ≤ m → m + k = 10 → CF σ ρ → NT ρ 5 (gU g (6 * 3 + w) x) → sV (gU g (6 * 3 + w) x) →
          ∃ ρ', CF σ ρ' ∧ fX6_need_41 n ρ (rI w) (rI r) (rI m) = some (rI (sFst (fun m => sWhole (gm m) (sD 0) r w) k m), ρ') := by
        intro k
        induction k with
        | zero =>
          intro m n ρ x hn h1 hm hC hT hX
          obtain ⟨n, rfl⟩ : ∃ q, n = q + 1 := ⟨n - 1, by omega⟩
          have e : m = 10 := by omega
          subst e
          rw [fX6_need_41, td_ok (by omega) (by decide) (by omega), ob, if_pos (by decide)]
          exact ⟨ρ, hC, rfl⟩
        | succ k ih =>
          intro m n ρ x hn h1 hm hC hT hX
          obtain ⟨n, rfl⟩ : ∃ q, n = q + 1 := ⟨n - 1, by omega⟩
          obtain ⟨ρ1, ρ2, t1, t2, t3, t4, t5⟩ := cTryW (v := (m : Int)) hT hX hV hw6 (by omega)
          have t3' : SH ρ2 (gm m) (sD 0) := by rw [hgm]; exact t3
          have t4' : fX1_setWork ρ 5 (rI w) (rI 3) (rI m) = some ρ1 := t4
          rw [fX6_need_41, td_ok (by omega) (by decide) (by omega), ob, if_neg (by rw [show (rp_tab 1).getD (3 : Int).toNat 0 = rI 9 from by decide, rI_lt (by omega) (by omega) (by omega) (by omega)]; omega), t4', ob, t5, ob, cWhole t3' (gV m h1 (by omega)) (by rw [e33]; omega) (by rw [e24]; exact hw), ob, iI_s, sFst]
          simp only [rb_0]
          by_cases z : sWhole (gm m) (sD 0) r w
          · rw [if_neg (fun y => y z), if_pos z]
            exact ⟨ρ2, hC.tr t1, rfl⟩
          · rw [if_pos z, if_neg z]
            refine ih (m + 1) n ρ2 (m : Int) (by omega) (by omega) (by omega) (hC.tr t1) t3.1 ?_
            have := gV m h1 (by omega); rw [hgm] at this; exact this
      obtain ⟨ρ, g1, g2⟩ := cl 9 1 1000 τ (g (6 * 3 + w)) (by omega) (by omega) (by omega) a1 (by rw [gU_id]; exact a2.1) (by rw [gU_id]; exact hV)
      have hp' := hp.q g1.q
      have hr' := hr.q g1.q
      obtain ⟨μ, m1, m2, m3⟩ := mTried hp'.1
      have ml : ∀ (k m n : Nat) (ν : rp_S) (x : Int), k < n → 1 ≤ m → m + k = 10 → MF ρ ν → PG ν 144 (gU g (6 * 3 + w) x) →
          ∃ ν', MF ρ ν' ∧ fX7_need_28 n ν (rI w) (rI r) (rI m) = some (rI (sFst (fun m => sWhole (gm m) (sD 0) r w) k m), ν') := by
        intro k
        induction k with
        | zero =>
          intro m n ν x hn h1 hm hM hQ
          obtain ⟨n, rfl⟩ : ∃ q, n = q + 1 := ⟨n - 1, by omega⟩
          have e : m = 10 := by omega
          subst e
          rw [fX7_need_28, if_pos (by decide)]
          exact ⟨ν, hM, rfl⟩
        | succ k ih =>
          intro m n ν x hn h1 hm hM hQ
          obtain ⟨n, rfl⟩ : ∃ q, n = q + 1 := ⟨n - 1, by omega⟩
          have hD : ν 28 14 = rI 0 := by rw [hM.2.2 14 (by omega) (by omega) (by omega)]; exact hr'.2.2.2.2.1.2.2
          obtain ⟨ν2, t1, t2, t3, t4, t5, t6⟩ := mTry (j := 6 * 3 + w) (v := (m : Int)) hQ (by omega) (gV m h1 (by omega) |> fun z => by rw [hgm] at z; exact z) hD
          have t2' : PG ν2 144 (gm m) := by rw [hgm]; exact t2
          have t4' : NB ν2 (gm m) (sD 0) := by rw [hgm]; exact t4
          rw [fX7_need_28, if_neg (by rw [rI_lt (by omega) (by omega) (by omega) (by omega)]; omega), wr144 (j := 6 * 3 + w) (by omega) (by omega), ob, t6, ob, mWhole t2' (gV m h1 (by omega)) t3 (by omega) t4' (by rw [e33]; omega) (by rw [e24]; exact hw), ob, iI_s, sFst]
          simp only [rb_0]
          by_cases z : sWhole (gm m) (sD 0) r w
          · rw [if_neg (fun y => y z), if_pos z]
            exact ⟨ν2, hM.tr t1, rfl⟩
          · rw [if_pos z, if_neg z]
            exact ih (m + 1) n ν2 (m : Int) (by omega) (by omega) (by omega) (hM.tr t1) t2
      obtain ⟨ν, n1, n2⟩ := ml 9 1 1000 μ (g (6 * 3 + w)) (by omega) (by omega) (by omega) m1 (by rw [gU_id]; exact m2)
      refine ⟨rI (sFst (fun m => sWhole (gm m) (sD 0) r w) 9 1), ρ, ν, ?_, ?_, h.q (g1.q.tr n1.q)⟩
      · unfold fX6_need
        rw [cHasW hN hV, cHasR hN hV]
        simp only [ob, rb_0]
        rw [if_neg (fun z => z q), if_neg (fun z => z q2), a3, ob, td_ok (by omega) (by decide) (by omega), ob]
        exact g2
      · show fX7_need _ _ _ = _
        unfold fX7_need
        rw [mHasW hp'.1 hV, mHasR hp'.1 hV]
        simp only [ob, rb_0]
        rw [if_neg (fun z => z q), if_neg (fun z => z q2), m3, ob]
        exact n2
    · refine ⟨rI (-1), σ, σ, ?_, ?_, h⟩
      · unfold fX6_need
        rw [cHasW hN hV, cHasR hN hV]
        simp only [ob, rb_0]
        rw [if_neg (fun z => z q), if_pos q2]
      · show fX7_need _ _ _ = _
        unfold fX7_need
        rw [mHasW hP hV, mHasR hP hV]
        simp only [ob, rb_0]
        rw [if_neg (fun z => z q), if_pos q2]
  · refine ⟨rI (-1), σ, σ, ?_, ?_, h⟩
    · unfold fX6_need
      rw [cHasW hN hV]
      simp only [ob, rb_0]
      rw [if_pos q]
    · show fX7_need _ _ _ = _
      unfold fX7_need
      rw [mHasW hP hV]
      simp only [ob, rb_0]
      rw [if_pos q]
end OPS
