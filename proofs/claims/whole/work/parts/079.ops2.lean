/-! reader, sky, first, peak -/
def BS (σ : rp_S) (w a : Int) : Prop := σ 12 0 = rI w ∧ σ 12 1 = rI a
def BF (σ τ : rp_S) : Prop := ∀ b : Nat, b ≠ 12 → τ b = σ b
theorem BF.sh {σ τ : rp_S} {g : Nat → Int} {d : Nat → Bool} (h : BF σ τ) (hS : SH σ g d) : SH τ g d := by
  refine ⟨hS.1.kept (h 5 (by omega)) (h 6 (by omega)) (h 7 (by omega)), fun w hw => ?_⟩
  rw [h 8 (by omega), h 9 (by omega), h 10 (by omega), h 11 (by omega)]
  exact hS.2 w hw
theorem BF.c {σ τ : rp_S} (h : BF σ τ) : CF σ τ := fun b hb => h b (by omega)
theorem cAbove (σ : rp_S) (a : Int) : ∃ τ, BF σ τ ∧ BS τ (-4) a ∧ fX0_beginAbove σ (rI a) = some τ := by
  unfold fX0_beginAbove
  simp only [ob]
  exact ⟨_, fun b hb => by rw [up_ne hb, up_ne hb], ⟨by rw [up_nj (by omega), up_eq], up_eq⟩, rfl⟩
theorem cOffer {σ : rp_S} {w a c f : Int} (h : BS σ w a) (h1 : -1000000 ≤ a) (h2 : a ≤ 1000000) (h3 : -1000000 ≤ f) (h4 : f ≤ 1000000) : ∃ τ, BF σ τ ∧ BS τ (if a < f then c else w) (if a < f then f else a) ∧ fX0_offer σ (rI c) (rI f) = some τ := by
  unfold fX0_offer
  rw [h.2]
  by_cases q : a < f
  · rw [if_pos q, if_pos q, if_neg (by rw [rI_le (by omega) (by omega) (by omega) (by omega)]; omega)]
    simp only [ob]
    exact ⟨_, fun b hb => by rw [up_ne hb, up_ne hb], ⟨by rw [up_nj (by omega), up_eq], up_eq⟩, rfl⟩
  · rw [if_neg q, if_neg q, if_pos (by rw [rI_le (by omega) (by omega) (by omega) (by omega)]; omega)]
    exact ⟨σ, fun _ _ => rfl, h, rfl⟩
def sAns (w a : Int) (v : Int32) : Int32 := if w < 0 then rI w else if v = 0 then rI w else rI a
theorem cAnswer {σ : rp_S} {w a : Int} (h : BS σ w a) (h1 : -1000000 ≤ w) (h2 : w ≤ 1000000) (v : Int32) : fX0_answer σ v = some (sAns w a v) := by
  unfold fX0_answer fX0_answer_11 sAns
  rw [h.1, h.2]
  simp (disch := omega) only [rI_lt0]
  by_cases q : w < 0
  · rw [if_pos q, if_pos q]
  · rw [if_neg q, if_neg q]
    by_cases q2 : v = 0
    · rw [if_pos q2, if_pos q2]
    · rw [if_neg q2, if_neg q2]
theorem mAns {w a : Int} (h : w = -4 ∨ (0 ≤ w ∧ w ≤ 1000000)) (v : Int32) : (if rI w = rI (-4) then some (rI w) else if v = 0 then some (rI w) else some (rI a)) = some (sAns w a v) := by
  unfold sAns
  simp (disch := omega) only [rI_eq]
  by_cases z : w = -4
  · rw [if_pos z, if_pos (show w < 0 by omega)]
  · rw [if_neg z, if_neg (show ¬ w < 0 by omega)]
    by_cases z2 : v = 0
    · rw [if_pos z2, if_pos z2]
    · rw [if_neg z2, if_neg z2]
/-- the best of k, the first of several, above a bar -/
def sBa (F : Nat → Int) (a0 : Int) : Nat → Int
  | 0 => a0
  | k + 1 => if sBa F a0 k < F k then F k else sBa F a0 k
def sBw (F lab : Nat → Int) (w0 a0 : Int) : Nat → Int
  | 0 => w0
  | k + 1 => if sBa F a0 k < F k then lab k else sBw F lab w0 a0 k
theorem sBa_b {F : Nat → Int} {a0 lo hi : Int} (h0 : lo ≤ a0 ∧ a0 ≤ hi) (h : ∀ k, lo ≤ F k ∧ F k ≤ hi) : ∀ k, lo ≤ sBa F a0 k ∧ sBa F a0 k ≤ hi := by
  intro k
  induction k with
  | zero => exact h0
  | succ k ih => rw [sBa]; have := h k; split <;> omega
theorem sBw_b {F lab : Nat → Int} {w0 a0 hi : Int} (h0 : w0 = -4 ∨ (0 ≤ w0 ∧ w0 ≤ hi)) (h : ∀ k, 0 ≤ lab k ∧ lab k ≤ hi) : ∀ k, sBw F lab w0 a0 k = -4 ∨ (0 ≤ sBw F lab w0 a0 k ∧ sBw F lab w0 a0 k ≤ hi) := by
  intro k
  induction k with
  | zero => exact h0
  | succ k ih => rw [sBw]; have := h k; split <;> omega
theorem sBw_any {F lab : Nat → Int} {w0 w1 a0 : Int} (h : a0 < F 0) : ∀ k, sBw F lab w0 a0 (k + 1) = sBw F lab w1 a0 (k + 1) := by
  intro k
  induction k with
  | zero => rw [sBw, sBa, if_pos h]; rw [sBw, sBa, if_pos h]
  | succ k ih => rw [sBw, ih, ← sBw]
theorem sBa_mono (F : Nat → Int) (a0 : Int) : ∀ k, a0 ≤ sBa F a0 k := by
  intro k
  induction k with
  | zero => exact Int.le_refl _
  | succ k ih => rw [sBa]; split <;> omega
theorem inAB (v : Int32) {a b : Int} (h1 : -1000 ≤ a) (h2 : a < 1000) (h3 : -1000 ≤ b) (h4 : b < 1000) : fX6_within v (rI a) (rI b) = some (if a ≤ v.toInt ∧ v.toInt ≤ b then rI 1 else rI 0) := by
  rw [within_ok, rI_toInt (by omega) (by omega), rI_toInt (by omega) (by omega)]
section OPS
variable {σ : rp_S}
theorem op_first (h : Inv σ) (u : Int32) : OpR (fX6_first σ u) (fun τ => fX7_first τ u) := by
  obtain ⟨g, hp, hr⟩ := id h
  obtain ⟨hP, hV, hN⟩ := id hp
  obtain ⟨τ, a1, a2, a3⟩ := cBegin hN hV
  have hp' := hp.q a1.q
  have hr' := hr.q a1.q
  by_cases q : 0 ≤ u.toInt ∧ u.toInt ≤ g 33 - 1
  · obtain ⟨r, rfl, hr2⟩ := toN q.1
    have loop : ∀ (k m n : Nat), k < n → m + k = 80 → ∃ x, fX6_first_26 n τ (rI r) (rI m) = some (x, τ) ∧ fX7_first_12 τ n (rI r) (rI m) = some x := by
      intro k
      induction k with
      | zero =>
        intro m n hn hm
        obtain ⟨n, rfl⟩ : ∃ q, n = q + 1 := ⟨n - 1, by omega⟩
        rw [fX6_first_26, fX7_first_12, if_pos (by rw [rI_le (by omega) (by omega) (by omega) (by omega)]; omega), if_pos (by rw [rI_le (by omega) (by omega) (by omega) (by omega)]; omega)]
        exact ⟨_, rfl, rfl⟩
      | succ k ih =>
        intro m n hn hm
        obtain ⟨n, rfl⟩ : ∃ q, n = q + 1 := ⟨n - 1, by omega⟩
        have bl := sLook_b (sD 0) r m hV.1.1
        have v1 := hV.1
        rw [fX6_first_26, fX7_first_12, if_neg (by rw [rI_le (by omega) (by omega) (by omega) (by omega)]; omega), if_neg (by rw [rI_le (by omega) (by omega) (by omega) (by omega)]; omega), cLook a2 hV (by omega) (by omega) (by omega), ob, mLook (D := 0) hp'.1 hV hr'.2.2.2.2.1.2.2 (by omega) (by omega) (by omega) (by omega), ob]
        simp (disch := omega) only [rI_lt0, rI_eq]
        rw [iI_s]
        by_cases z : sLook g (sD 0) r m = -4
        · rw [if_pos (by omega), if_pos z]
          exact ih (m + 1) n (by omega) (by omega)
        · rw [if_neg (by omega), if_neg z]
          exact ⟨_, rfl, rfl⟩
    obtain ⟨x, x1, x2⟩ := loop 80 0 1000 (by omega) (by omega)
    refine ⟨x, τ, ?_, ?_, h.q a1.q⟩
    · unfold fX6_first
      rw [cHasR hN hV]
      simp only [ob, rb_0]
      rw [if_neg (fun z => z q), a3, ob]
      exact x1
    · show fX7_first _ _ = _
      unfold fX7_first
      rw [mHasR hp'.1 hV]
      simp only [ob, rb_0]
      rw [if_neg (fun z => z q)]
      exact x2
  · refine ⟨rI (-1), σ, ?_, ?_, h⟩
    · unfold fX6_first
      rw [cHasR hN hV]
      simp only [ob, rb_0]
      rw [if_pos q]
    · show fX7_first _ _ = _
      unfold fX7_first
      rw [mHasR hP hV]
      simp only [ob, rb_0]
      rw [if_pos q]
theorem op_sky (h : Inv σ) (u : Int32) : OpR (fX6_sky σ u) (fun τ => fX7_sky τ u) := by
  obtain ⟨g, hp, hr⟩ := id h
  obtain ⟨hP, hV, hN⟩ := id hp
  obtain ⟨τ, a1, a2, a3⟩ := cBegin hN hV
  have hp' := hp.q a1.q
  have hr' := hr.q a1.q
  have v1 := hV.1
  by_cases q : 0 ≤ u.toInt ∧ u.toInt ≤ 79
  · obtain ⟨m, rfl, hm2⟩ := toN q.1
    have loop : ∀ (k w n : Nat) (x : Int32), k < n → (w : Int) + k = g 24 → ∃ y, fX6_sky_27 n τ (rI m) x (rI w) = some (y, τ) ∧ fX7_sky_13 τ n (rI m) x (rI w) = some y := by
      intro k
      induction k with
      | zero =>
        intro w n x hn hw
        obtain ⟨n, rfl⟩ : ∃ q, n = q + 1 := ⟨n - 1, by omega⟩
        rw [fX6_sky_27, fX7_sky_13, hp'.2.2.1, rd24 hp'.1, ob, if_pos (by rw [rI_le (by omega) (by omega) (by omega) (by omega)]; omega), if_pos (by rw [rI_le (by omega) (by omega) (by omega) (by omega)]; omega)]
        exact ⟨_, rfl, rfl⟩
      | succ k ih =>
        intro w n x hn hw
        obtain ⟨n, rfl⟩ : ∃ q, n = q + 1 := ⟨n - 1, by omega⟩
        rw [fX6_sky_27, fX7_sky_13, hp'.2.2.1, rd24 hp'.1, ob, if_neg (by rw [rI_le (by omega) (by omega) (by omega) (by omega)]; omega), if_neg (by rw [rI_le (by omega) (by omega) (by omega) (by omega)]; omega), cUp a2 hV (by omega) (by omega) (by omega), ob, mUp (D := 0) hp'.1 hV hr'.2.2.2.2.1.2.2 (by omega) (by omega) (by omega) (by omega), ob]
        unfold fX6_sky_56 fX7_sky_42
        simp only [rb_0, iI_s, or_0]
        by_cases z : sUp g (sD 0) w m
        · rw [if_neg (fun y => y z), if_neg (fun y => y z)]
          exact ih (w + 1) n _ (by omega) (by omega)
        · rw [if_pos z, if_pos z]
          exact ih (w + 1) n _ (by omega) (by omega)
    obtain ⟨x, x1, x2⟩ := loop (g 24).toNat 0 1000 (rI 0) (by omega) (by omega)
    refine ⟨x, τ, ?_, ?_, h.q a1.q⟩
    · unfold fX6_sky
      rw [in9 _ (by omega) (by omega)]
      simp only [ob, rb_0]
      rw [if_neg (fun z => z q), a3, ob]
      exact x1
    · show fX7_sky _ _ = _
      unfold fX7_sky
      rw [isMin]
      simp only [ob, rb_0]
      rw [if_neg (fun z => z q)]
      exact x2
  · refine ⟨rI (-1), σ, ?_, ?_, h⟩
    · unfold fX6_sky
      rw [in9 _ (by omega) (by omega)]
      simp only [ob, rb_0]
      rw [if_pos q]
    · show fX7_sky _ _ = _
      unfold fX7_sky
      rw [isMin]
      simp only [ob, rb_0]
      rw [if_pos q]
theorem op_reader (h : Inv σ) (u v : Int32) : OpW (fX6_reader σ u v) (fun τ => fX7_reader τ u v) := by
  obtain ⟨g, hp, hr⟩ := id h
  obtain ⟨hP, hV, hN⟩ := id hp
  obtain ⟨τ, τ2, a1, a2, a3, b1, bP, bD, b2, b3, b4⟩ := ask2 hp hr
  obtain ⟨ρ, c1, cP, cD, c2, c3, c4⟩ := nightOnly hp hr
  have v1 := hV.1
  have v2 := hV.2.1
  by_cases q : 0 ≤ u.toInt ∧ u.toInt ≤ g 33 - 1
  · obtain ⟨r, rfl, hr2⟩ := toN q.1
    have loop : ∀ (ρ : rp_S), PG ρ 0 g → ρ 28 14 = rI ((0 : Nat) : Int) → NB ρ g (sD 0) → ∀ (k w n : Nat), k < n → (w : Int) + k = g 24 →
        fX7_reader_32 n ρ (rI r) v (rI (sBits (fun w => decide (sWhole g (sD 0) r w)) w : Nat)) (rI w) = (if rI 2 ≤ v then (if v = rI 2 then some (rI (sBits (fun w => decide (sWhole g (sD 0) r w)) (g 24).toNat : Nat), ρ) else (fX7_minutesOf ρ (rI r)).bind fun x5 => some (x5, ρ)) else (rq_rd ρ 29 180 (((rI 25) + ((rI 4) * v)) + rI r)).bind fun x6 => some (x6, ρ)) := by
      intro ρ hρ hd hb k
      induction k with
      | zero =>
        intro w n hn hw
        obtain ⟨n, rfl⟩ : ∃ q, n = q + 1 := ⟨n - 1, by omega⟩
        rw [fX7_reader_32, rd24 hρ, ob, if_pos (by rw [rI_le (by omega) (by omega) (by omega) (by omega)]; omega), show (g 24).toNat = w by omega]
      | succ k ih =>
        intro w n hn hw
        obtain ⟨n, rfl⟩ : ∃ q, n = q + 1 := ⟨n - 1, by omega⟩
        rw [fX7_reader_32, rd24 hρ, ob, if_neg (by rw [rI_le (by omega) (by omega) (by omega) (by omega)]; omega), mWhole hρ hV hd (by omega) hb (by omega) (by omega), ob]
        unfold fX7_reader_64
        simp only [rb_0, iI_s]
        have e := ih (w + 1) n (by omega) (by omega)
        by_cases z : sWhole g (sD 0) r w
        · rw [if_neg (fun y => y z), or_yes (by omega) (decide_eq_true z)]
          exact e
        · rw [if_pos z, or_0]
          rw [or_no (decide_eq_false z)] at e
          exact e
    have mr : ∀ (x y : rp_S), PG x 0 g → fX7_nightOn x (rI 0) = some y → PG y 0 g → y 28 14 = rI ((0 : Nat) : Int) → NB y g (sD 0) → (0 ≤ v.toInt ∧ v.toInt ≤ 3) →
        fX7_reader x (rI r) v = (if rI 2 ≤ v then (if v = rI 2 then some (rI (sBits (fun w => decide (sWhole g (sD 0) r w)) (g 24).toNat : Nat), y) else (fX7_minutesOf y (rI r)).bind fun x5 => some (x5, y)) else (rq_rd y 29 180 (((rI 25) + ((rI 4) * v)) + rI r)).bind fun x6 => some (x6, y)) := by
      intro x y hx hxy hy hd hb hv
      unfold fX7_reader
      rw [mHasR hx hV, in7 v (by omega) (by omega)]
      simp only [ob, rb_0]
      rw [if_neg (fun z => z q), if_neg (fun z => z hv), hxy, ob]
      exact loop y hy hd hb (g 24).toNat 0 1000 (by omega) (by omega)
    by_cases k1 : 0 ≤ v.toInt ∧ v.toInt ≤ 1
    · obtain ⟨k, rfl, hk2⟩ := toN k1.1
      refine ⟨rI (g (25 + 4 * k + r)), σ, ρ, ?_, ?_, h.q c1.q⟩
      · unfold fX6_reader
        rw [cHasR hN hV, in9 _ (by omega) (by omega)]
        simp only [ob, rb_0]
        rw [if_neg (fun z => z q), if_neg (fun z => z k1), cRd hN hV (by omega) (by omega), ob]
      · show fX7_reader _ _ _ = _
        rw [mr σ ρ hP c4 cP cD c2 (by omega), if_neg (by rw [rI_le (by omega) (by omega) (by omega) (by omega)]; omega), rI_mul, rI_add, rI_add, rd0 cP (25 + 4 * k + r) (by omega) (by omega), ob]
    · by_cases k3 : 2 ≤ v.toInt ∧ v.toInt ≤ 3
      · have cr : fX6_reader σ (rI r) v = (if v = rI 2 then some (rI (sBits (fun w => decide (sWhole g (sD 0) r w)) (g 24).toNat : Nat), τ) else some (rI (sSum (fun w => sRead g (sD 0) r w) (g 24).toNat), τ)) := by
          unfold fX6_reader
          rw [cHasR hN hV, in9 _ (by omega) (by omega), inAB v (a := 2) (b := 3) (by omega) (by omega) (by omega) (by omega)]
          simp only [ob, rb_0]
          rw [if_neg (fun z => z q), if_pos k1, if_neg (fun z => z k3), a3, ob, cWorksWh a2 hV (by omega), ob, cMinOf a2 hV (by omega), ob]
        have ml := mr τ τ2 (hp.q a1.q).1 b4 bP bD b2 (by omega)
        rw [if_pos (by rw [rI_of v, rI_le (by omega) (by omega) (by omega) (by omega)]; omega), mMinOf hV b2 (by omega), ob] at ml
        by_cases z : v = rI 2
        · rw [if_pos z] at cr ml
          exact ⟨_, _, _, cr, ml, h.q (a1.q.tr b1.q)⟩
        · rw [if_neg z] at cr ml
          exact ⟨_, _, _, cr, ml, h.q (a1.q.tr b1.q)⟩
      · refine ⟨rI (-1), σ, σ, ?_, ?_, h⟩
        · unfold fX6_reader
          rw [cHasR hN hV, in9 _ (by omega) (by omega), inAB v (a := 2) (b := 3) (by omega) (by omega) (by omega) (by omega)]
          simp only [ob, rb_0]
          rw [if_neg (fun z => z q), if_pos k1, if_pos k3]
        · show fX7_reader _ _ _ = _
          unfold fX7_reader
          rw [mHasR hP hV, in7 v (by omega) (by omega)]
          simp only [ob, rb_0]
          rw [if_neg (fun z => z q), if_pos (by omega)]
  · refine ⟨rI (-1), σ, σ, ?_, ?_, h⟩
    · unfold fX6_reader
      rw [cHasR hN hV]
      simp only [ob, rb_0]
      rw [if_pos q]
    · show fX7_reader _ _ _ = _
      unfold fX7_reader
      rw [mHasR hP hV]
      simp only [ob, rb_0]
      rw [if_pos q]
theorem op_peak (h : Inv σ) (u v : Int32) : OpR (fX6_peak σ u v) (fun τ => fX7_peak τ u v) := by
  obtain ⟨g, hp, hr⟩ := id h
  obtain ⟨hP, hV, hN⟩ := id hp
  have v1 := hV.1
  have v2 := hV.2.1
  by_cases q : 0 ≤ u.toInt ∧ u.toInt ≤ g 24 - 1
  · by_cases q2 : 0 ≤ v.toInt ∧ v.toInt ≤ 1
    · obtain ⟨w, rfl, hw2⟩ := toN q.1
      have hw : (w : Int) < g 24 := by omega
      obtain ⟨τ, a1, a2, a3⟩ := cBegin hN hV
      obtain ⟨τ1, f1, f2, f3⟩ := cAbove τ 0
      have bF : ∀ k : Nat, (0 : Int) ≤ (fun m : Nat => sLks g (sD 0) w m) k ∧ (fun m : Nat => sLks g (sD 0) w m) k ≤ 4 := fun k => sLks_b hV _ _ _
      have cl : ∀ (k m n : Nat) (ρ : rp_S), k < n → m + k = 80 → BF τ ρ → BS ρ (sBw (fun m : Nat => sLks g (sD 0) w m) (fun m => m) (-4) 0 m) (sBa (fun m : Nat => sLks g (sD 0) w m) 0 m) →
          ∃ ρ', BF τ ρ' ∧ fX6_peak_43 n ρ (rI w) v (rI m) = some ((sAns (sBw (fun m : Nat => sLks g (sD 0) w m) (fun m => m) (-4) 0 80) (sBa (fun m : Nat => sLks g (sD 0) w m) 0 80) v), ρ') := by
        intro k
        induction k with
        | zero =>
          intro m n ρ hn hm hB hS
          obtain ⟨n, rfl⟩ : ∃ q, n = q + 1 := ⟨n - 1, by omega⟩
          have e : m = 80 := by omega
          subst e
          have b := sBw_b (F := fun m : Nat => sLks g (sD 0) w m) (lab := fun m => m) (w0 := -4) (a0 := 0) (hi := 1000) (Or.inl rfl)
          have hb : ∀ k, sBw (fun m : Nat => sLks g (sD 0) w m) (fun m => m) (-4) 0 k = -4 ∨ (0 ≤ sBw (fun m : Nat => sLks g (sD 0) w m) (fun m => m) (-4) 0 k ∧ sBw (fun m : Nat => sLks g (sD 0) w m) (fun m => m) (-4) 0 k < k + 1) := by
            intro k
            induction k with
            | zero => left; rfl
            | succ k ih => rw [sBw]; split <;> omega
          have := hb 80
          rw [fX6_peak_43, if_pos (by rw [rI_le (by omega) (by omega) (by omega) (by omega)]; omega), cAnswer hS (by omega) (by omega), ob]
          exact ⟨ρ, hB, rfl⟩
        | succ k ih =>
          intro m n ρ hn hm hB hS
          obtain ⟨n, rfl⟩ : ∃ q, n = q + 1 := ⟨n - 1, by omega⟩
          have b1 := sLks_b hV (sD 0) w m
          have b2 := sBa_b (F := fun m : Nat => sLks g (sD 0) w m) (a0 := 0) (lo := 0) (hi := 4) (by omega) bF m
          rw [fX6_peak_43, if_neg (by rw [rI_le (by omega) (by omega) (by omega) (by omega)]; omega), cLookers (hB.sh a2) hV hw (by omega) (by omega), ob]
          obtain ⟨ρ1, g1, g2, g3⟩ := cOffer (c := (m : Int)) (f := sLks g (sD 0) w m) hS (by omega) (by omega) (by omega) (by omega)
          rw [g3, ob, iI_s]
          refine ih (m + 1) n ρ1 (by omega) (by omega) (fun b hb => (g1 b hb).trans (hB b hb)) ?_
          rw [sBw, sBa]
          exact g2
      obtain ⟨ρ, g1, g2⟩ := cl 80 0 1000 τ1 (by omega) (by omega) f1 f2
      have cf : CF σ ρ := a1.tr g1.c
      have hp' := hp.q cf.q
      have hr' := hr.q cf.q
      refine ⟨sAns (sBw (fun m : Nat => sLks g (sD 0) w m) (fun m => m) (-4) 0 80) (sBa (fun m : Nat => sLks g (sD 0) w m) 0 80) v, ρ, ?_, ?_, h.q cf.q⟩
      · unfold fX6_peak
        rw [cHasW hN hV, in9 _ (by omega) (by omega)]
        simp only [ob, rb_0]
        rw [if_neg (fun z => z q), if_neg (fun z => z q2), a3, ob]
        have f3' : fX0_beginAbove τ (rI 0) = some τ1 := f3
        rw [f3', ob]
        exact g2
      · show fX7_peak _ _ _ = _
        have inner : ∀ (k29 : Int32 → Int32 → Int32 → Int32 → Int32 → Option Int32) (m : Nat) (x y : Int32), m < 80 → ∀ (k r n : Nat), k < n → (r : Int) + k = g 33 →
            fX7_peak_42 ρ k29 n (rI w) v x y (rI m) (rI (sSum (fun r => if sLook g (sD 0) r m = w then 1 else 0) r)) (rI r) = (if rI (sLks g (sD 0) w m) ≤ x then fX7_peak_96 ρ k29 (rI w) v x (rI m) (rI (sLks g (sD 0) w m)) y else fX7_peak_96 ρ k29 (rI w) v x (rI m) (rI (sLks g (sD 0) w m)) (rI m)) := by
          intro k29 m x y hm k
          induction k with
          | zero =>
            intro r n hn hr
            obtain ⟨n, rfl⟩ : ∃ q, n = q + 1 := ⟨n - 1, by omega⟩
            rw [fX7_peak_42, rd33 hp'.1, ob, if_pos (by rw [rI_le (by omega) (by omega) (by omega) (by omega)]; omega), sLks, show (g 33).toNat = r by omega]
          | succ k ih =>
            intro r n hn hr
            obtain ⟨n, rfl⟩ : ∃ q, n = q + 1 := ⟨n - 1, by omega⟩
            have bl := sLook_b (sD 0) r m hV.1.1
            have e := ih (r + 1) n (by omega) (by omega)
            rw [sSum] at e
            rw [fX7_peak_42, rd33 hp'.1, ob, if_neg (by rw [rI_le (by omega) (by omega) (by omega) (by omega)]; omega), mLook (D := 0) hp'.1 hV hr'.2.2.2.2.1.2.2 (by omega) (by omega) (by omega) (by omega), ob]
            unfold fX7_peak_74
            simp (disch := omega) only [rI_eq]
            simp only [iI_s, rI_add]
            by_cases z : sLook g (sD 0) r m = w
            · rw [if_pos z] at e ⊢
              exact e
            · rw [if_neg z] at e ⊢
              exact e
        have outer : ∀ (k m n : Nat), k < n → m + k = 80 → fX7_peak_29 ρ n (rI w) v (rI (sBa (fun m : Nat => sLks g (sD 0) w m) 0 m)) (rI (sBw (fun m : Nat => sLks g (sD 0) w m) (fun m => m) (-4) 0 m)) (rI m) = some (sAns (sBw (fun m : Nat => sLks g (sD 0) w m) (fun m => m) (-4) 0 80) (sBa (fun m : Nat => sLks g (sD 0) w m) 0 80) v) := by
          intro k
          induction k with
          | zero =>
            intro m n hn hm
            obtain ⟨n, rfl⟩ : ∃ q, n = q + 1 := ⟨n - 1, by omega⟩
            have e : m = 80 := by omega
            subst e
            have hb : ∀ k, sBw (fun m : Nat => sLks g (sD 0) w m) (fun m => m) (-4) 0 k = -4 ∨ (0 ≤ sBw (fun m : Nat => sLks g (sD 0) w m) (fun m => m) (-4) 0 k ∧ sBw (fun m : Nat => sLks g (sD 0) w m) (fun m => m) (-4) 0 k < k + 1) := by
              intro k
              induction k with
              | zero => left; rfl
              | succ k ih => rw [sBw]; split <;> omega
            have := hb 80
            rw [fX7_peak_29, if_pos (by rw [rI_le (by omega) (by omega) (by omega) (by omega)]; omega)]
            exact mAns (by omega) v
          | succ k ih =>
            intro m n hn hm
            obtain ⟨n, rfl⟩ : ∃ q, n = q + 1 := ⟨n - 1, by omega⟩
            have b1 := sLks_b hV (sD 0) w m
            have b2 := sBa_b (F := fun m : Nat => sLks g (sD 0) w m) (a0 := 0) (lo := 0) (hi := 4) (by omega) bF m
            have e := ih (m + 1) n (by omega) (by omega)
            rw [sBw, sBa] at e
            have e2 := inner (fun v1 v2 v3 v4 v5 => fX7_peak_29 ρ n v1 v2 v3 v4 v5) m (rI (sBa (fun m : Nat => sLks g (sD 0) w m) 0 m)) (rI (sBw (fun m : Nat => sLks g (sD 0) w m) (fun m => m) (-4) 0 m)) (by omega) (g 33).toNat 0 1000 (by omega) (by omega)
            rw [fX7_peak_29, if_neg (by rw [rI_le (by omega) (by omega) (by omega) (by omega)]; omega)]
            refine Eq.trans e2 ?_
            unfold fX7_peak_96 fX7_peak_110
            simp (disch := omega) only [rI_le]
            simp only [iI_s]
            by_cases z : sLks g (sD 0) w m ≤ sBa (fun m : Nat => sLks g (sD 0) w m) 0 m
            · rw [if_pos z, if_pos z]
              rw [if_neg (by omega), if_neg (by omega)] at e
              exact e
            · rw [if_neg z, if_neg z]
              rw [if_pos (by omega), if_pos (by omega)] at e
              exact e
        unfold fX7_peak
        rw [mHasW hp'.1 hV, in7 _ (by omega) (by omega)]
        simp only [ob, rb_0]
        rw [if_neg (fun z => z q), if_neg (fun z => z q2)]
        exact outer 80 0 1000 (by omega) (by omega)
    · refine ⟨rI (-1), σ, ?_, ?_, h⟩
      · unfold fX6_peak
        rw [cHasW hN hV, in9 _ (by omega) (by omega)]
        simp only [ob, rb_0]
        rw [if_neg (fun z => z q), if_pos q2]
      · show fX7_peak _ _ _ = _
        unfold fX7_peak
        rw [mHasW hP hV, in7 _ (by omega) (by omega)]
        simp only [ob, rb_0]
        rw [if_neg (fun z => z q), if_pos q2]
  · refine ⟨rI (-1), σ, ?_, ?_, h⟩
    · unfold fX6_peak
      rw [cHasW hN hV]
      simp only [ob, rb_0]
      rw [if_pos q]
    · show fX7_peak _ _ _ = _
      unfold fX7_peak
      rw [mHasW hP hV]
      simp only [ob, rb_0]
      rw [if_pos q]
end OPS
