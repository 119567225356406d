/-! dry, lose, swap -/
def sDry (f : Nat → Int) : Nat → Int
  | 0 => -4
  | k + 1 => if f k ≤ 0 then sDry f k else k
theorem iI_p (w : Nat) : rI ((w + 1 : Nat) : Int) + rI (-1) = rI (w : Int) := by rw [rI_add, show ((w + 1 : Nat) : Int) + -1 = (w : Int) by omega]
theorem sBw_c {F lab : Nat → Int} {w0 a0 hi : Int} (h0 : w0 = -4 ∨ (0 ≤ w0 ∧ w0 ≤ hi)) : ∀ k, (∀ i, i < k → 0 ≤ lab i ∧ lab i ≤ hi) → sBw F lab w0 a0 k = -4 ∨ (0 ≤ sBw F lab w0 a0 k ∧ sBw F lab w0 a0 k ≤ hi) := by
  intro k
  induction k with
  | zero => intro _; exact h0
  | succ k ih =>
    intro h
    rw [sBw]
    have := h k (by omega)
    have := ih (fun i hi => h i (by omega))
    split <;> omega
theorem mAnsP {w a : Int} (h : w = -4 ∨ (0 ≤ w ∧ w ≤ 1000000)) (v : Int32) (ν : rp_S) : (if rI w = rI (-4) then some (rI w, ν) else if v = 0 then some (rI w, ν) else some (rI a, ν)) = some (sAns w a v, ν) := by
  unfold sAns
  simp (disch := omega) only [rI_eq]
  by_cases z : w = -4
  · rw [if_pos z, if_pos (show w < 0 by omega)]
  · rw [if_neg z, if_neg (show ¬ w < 0 by omega)]
    by_cases z2 : v = 0
    · rw [if_pos z2, if_pos z2]
    · rw [if_neg z2, if_neg z2]
theorem sD_pow : ∀ w : Nat, w < 6 → ∀ w' : Nat, w' < 6 → sD (2 ^ w) w' = decide (w' = w) := by decide +kernel
theorem rI_pow : ∀ w : Nat, w < 6 → rI 1 <<< (rI (w : Int) &&& 31) = rI ((2 ^ w : Nat) : Int) := by decide +kernel
theorem two64 : ∀ w : Nat, w < 6 → 2 ^ w < 64 := by decide
theorem cOut {τ : rp_S} {g : Nat → Int} (hS : SH τ g (sD 0)) (hV : sV g) {w : Nat} (hw : (w : Int) < g 24) : ∃ ρ, (∀ b : Nat, b ≠ 9 → ρ b = τ b) ∧ SH ρ g (sD (2 ^ w)) ∧ fX3_putOut τ (rI w) = some ρ := by
  have v1 := hV.1
  unfold fX3_putOut
  rw [rd_n (by omega) (by omega), ob, wr_n (by omega) (by omega), ob]
  refine ⟨rp_up τ 9 w (τ 8 w), fun b hb => up_ne hb, ⟨hS.1.kept (up_ne (by omega)) (up_ne (by omega)) (up_ne (by omega)), fun w' hw' => ?_⟩, rfl⟩
  obtain ⟨a1, a2, a3, a4⟩ := hS.2 w' hw'
  rw [up_ne (show (8 : Nat) ≠ 9 by omega), up_ne (show (10 : Nat) ≠ 9 by omega), up_ne (show (11 : Nat) ≠ 9 by omega)]
  refine ⟨a1, ?_, a3, a4⟩
  have e1 := sD_pow w (by omega) w' (by omega)
  by_cases z : w' = w
  · subst z
    rw [up_eq, a1, if_neg (by intro h; have := h.2; rw [e1] at this; simp at this), Int.add_zero]
  · rw [up_nj z, a2]
    have e2 : sD (2 ^ w) w' = sD 0 w' := by rw [e1, sD_0]; exact decide_eq_false z
    unfold sGoes
    rw [e2]
abbrev gS (g : Nat → Int) (a b : Nat) : Nat → Int := gU (gU g (6 * 2 + a) (g (6 * 2 + b))) (6 * 2 + b) (g (6 * 2 + a))
theorem fit2 {g : Nat → Int} (hV : sV g) {w : Nat} (hw : (w : Int) < g 24) : fitW 2 (g (6 * 2 + w)) := by
  obtain ⟨v1, v2, v3, v4, v5, v6⟩ := hV
  obtain ⟨a1, a2, a3, a4⟩ := v5 w hw
  have e : g (6 * 2 + w) = g (12 + w) := rfl
  omega
theorem sV.swap {g : Nat → Int} (hV : sV g) {a b : Nat} (ha : (a : Int) < g 24) (hb : (b : Int) < g 24) : sV (gU g (6 * 2 + a) (g (6 * 2 + b))) ∧ sV (gS g a b) := by
  have v1 := hV.1
  have h1 := hV.setW (w := a) (by omega) (fit2 hV hb)
  exact ⟨h1, h1.setW (w := b) (by omega) (fit2 hV ha)⟩
theorem cSwap {σ : rp_S} {g : Nat → Int} (hN : NT σ 1 g) (hV : sV g) {a b : Nat} (ha : (a : Int) < g 24) (hb : (b : Int) < g 24) : ∃ τ, CF σ τ ∧ τ 12 = σ 12 ∧ fX6_minutesIfSwapped σ (rI a) (rI b) = some (rI (sMin (gS g a b) (sD 0) 80), τ) := by
  have v1 := hV.1
  obtain ⟨τ1, h1, h2, h3⟩ := cBecome (a := 5) (b := 1) hN hV (by omega)
  have n1 : NT τ1 1 g := hN.kept (h1 1 (by omega) (by omega) (by omega)) (h1 2 (by omega) (by omega) (by omega)) (h1 3 (by omega) (by omega) (by omega))
  obtain ⟨s1, s2⟩ := hV.swap ha hb
  have k1 := h2.setW hV (w := a) (k := 2) (by omega) (by omega) (g (6 * 2 + b))
  have k2 := k1.setW s1 (w := b) (k := 2) (by omega) (by omega) (g (6 * 2 + a))
  obtain ⟨τ, a1, a2, a3⟩ := cSettle k2 s2
  have n2 : NT (rp_up τ1 (5 + 1) (4 * a + 2) (rI (g (6 * 2 + b)))) 1 g := n1.kept (up_ne (by omega)) (up_ne (by omega)) (up_ne (by omega))
  have o1 : fX1_ofWork τ1 1 (rI b) (rI 2) = some (rI (g (6 * 2 + b))) := cOf (k := 2) n1 hV hb (by omega)
  have o2 : fX1_ofWork (rp_up τ1 (5 + 1) (4 * a + 2) (rI (g (6 * 2 + b)))) 1 (rI a) (rI 2) = some (rI (g (6 * 2 + a))) := cOf (k := 2) n2 hV ha (by omega)
  have w1 : ∀ (τ : rp_S) (x : Int32), fX1_setWork τ 5 (rI a) (rI 2) x = some (rp_up τ (5 + 1) (4 * a + 2) x) := fun τ x => cSetW (k := 2) (by omega) (by omega)
  have w2 : ∀ (τ : rp_S) (x : Int32), fX1_setWork τ 5 (rI b) (rI 2) x = some (rp_up τ (5 + 1) (4 * b + 2) x) := fun τ x => cSetW (k := 2) (by omega) (by omega)
  refine ⟨τ, fun c hc => ?_, ?_, ?_⟩
  · rw [a1 c (by omega) (by omega) (by omega) (by omega), up_ne (by omega), up_ne (by omega)]
    exact h1 c (by omega) (by omega) (by omega)
  · rw [a1 12 (by omega) (by omega) (by omega) (by omega), up_ne (by omega), up_ne (by omega)]
    exact h1 12 (by omega) (by omega) (by omega)
  · unfold fX6_minutesIfSwapped
    rw [h3, ob, o1, ob, w1, ob, o2, ob, w2, ob, a3, ob, cMinAll a2 s2, ob]
theorem mSwap {σ : rp_S} {g : Nat → Int} (hP : PG σ 0 g) (hV : sV g) (hD : σ 28 14 = rI 0) {a b : Nat} (ha : (a : Int) < g 24) (hb : (b : Int) < g 24) : ∃ τ1 τ2 x1 τ3 x2 τ4, MF σ τ4 ∧ τ4 28 16 = rI (sMin (gS g a b) (sD 0) 80) ∧ fX7_copies σ (rI 0) (rI 144) = some τ1 ∧ rq_rd τ1 29 180 (rI 12 + rI b) = some x1 ∧ rq_wr τ1 29 180 (rI 156 + rI a) x1 = some τ2 ∧ rq_rd τ2 29 180 (rI 12 + rI a) = some x2 ∧ rq_wr τ2 29 180 (rI 156 + rI b) x2 = some τ3 ∧ fX7_nightOn τ3 (rI 144) = some τ4 := by
  have v1 := hV.1
  obtain ⟨τ1, m1, m2, m3⟩ := mTried hP
  obtain ⟨s1, s2⟩ := hV.swap ha hb
  have q1 := m1.pg hP
  have h1 := m2.set (j := 6 * 2 + a) (by omega) (g (6 * 2 + b))
  rw [show ((144 : Int) + ((6 * 2 + a : Nat) : Int)).toNat = 144 + (6 * 2 + a) by omega] at h1
  have f1 : MF σ (rp_up τ1 29 (144 + (6 * 2 + a)) (rI (g (6 * 2 + b)))) := ⟨fun b h1 h2 h3 => by rw [up_ne h2]; exact m1.1 b h1 h2 h3, fun j hj => by rw [up_nj (by omega)]; exact m1.2.1 j hj, fun j h1 h2 h3 => by rw [up_ne (by omega)]; exact m1.2.2 j h1 h2 h3⟩
  have q2 := f1.pg hP
  have h1' : PG (rp_up τ1 29 (144 + (6 * 2 + a)) (rI (g (6 * 2 + b)))) 144 (gU (gU g (6 * 2 + a) (g (6 * 2 + b))) (6 * 2 + b) ((gU g (6 * 2 + a) (g (6 * 2 + b))) (6 * 2 + b))) := by rw [gU_id]; exact h1
  obtain ⟨τ4, t1, t2, t3, t4, t5, t6⟩ := mTry (j := 6 * 2 + b) (v := g (6 * 2 + a)) h1' (by omega) s2 (by rw [f1.2.2 14 (by omega) (by omega) (by omega)]; exact hD)
  refine ⟨τ1, rp_up τ1 29 (144 + (6 * 2 + a)) (rI (g (6 * 2 + b))), rI (g (6 * 2 + b)), rp_up (rp_up τ1 29 (144 + (6 * 2 + a)) (rI (g (6 * 2 + b)))) 29 (144 + (6 * 2 + b)) (rI (g (6 * 2 + a))), rI (g (6 * 2 + a)), τ4, f1.tr t1, t4.2.1, m3, ?_, ?_, ?_, ?_, t6⟩
  · rw [rI_add]; exact rdP q1 (6 * 2 + b) (by omega) (by omega)
  · exact wr144 (by omega) (by omega)
  · rw [rI_add]; exact rdP q2 (6 * 2 + a) (by omega) (by omega)
  · exact wr144 (by omega) (by omega)
/-- the best of the pairs: which, amount -/
def sPr (F : Nat → Nat → Int) (N : Nat) (A : Int) : Nat → Int × Int
  | 0 => (-4, A)
  | a + 1 => (sBw (fun i => F a (a + 1 + i)) (fun i => 10 * (a : Int) + ((a + 1 + i : Nat) : Int)) (sPr F N A a).1 (sPr F N A a).2 (N - (a + 1)), sBa (fun i => F a (a + 1 + i)) (sPr F N A a).2 (N - (a + 1)))
theorem sPr_b {F : Nat → Nat → Int} {N : Nat} {A hi : Int} (hN : N ≤ 6) (hA : 0 ≤ A ∧ A ≤ hi) (h : ∀ a b, 0 ≤ F a b ∧ F a b ≤ hi) : ∀ a : Nat, a ≤ N → ((sPr F N A a).1 = -4 ∨ (0 ≤ (sPr F N A a).1 ∧ (sPr F N A a).1 ≤ 1000)) ∧ 0 ≤ (sPr F N A a).2 ∧ (sPr F N A a).2 ≤ hi := by
  intro a
  induction a with
  | zero => intro _; exact ⟨Or.inl rfl, hA⟩
  | succ a ih =>
    intro ha
    obtain ⟨i1, i2⟩ := ih (by omega)
    rw [sPr]
    exact ⟨sBw_c i1 _ (fun i hi => by show (0 : Int) ≤ 10 * (a : Int) + ((a + 1 + i : Nat) : Int) ∧ 10 * (a : Int) + ((a + 1 + i : Nat) : Int) ≤ 1000; omega), sBa_b i2 (fun k => h _ _) _⟩
section OPS
variable {σ : rp_S}
theorem op_dry (h : Inv σ) (u : Int32) : OpW (fX6_dry σ u) (fun τ => fX7_dry τ u) := by
  obtain ⟨g, hp, hr⟩ := id h
  obtain ⟨hP, hV, hN⟩ := id hp
  have v1 := hV.1
  have v2 := hV.2.1
  by_cases q : 0 ≤ u.toInt ∧ u.toInt ≤ g 33 - 1
  · obtain ⟨r, rfl, hr2⟩ := toN q.1
    have hr33 : (r : Int) < g 33 := by omega
    obtain ⟨gm, hgm⟩ : ∃ gm : Nat → Nat → Int, gm = fun (m : Nat) => gU g 35 (m : Int) := ⟨_, rfl⟩
    obtain ⟨F, hF⟩ : ∃ F : Nat → Int, F = fun m => sSum (fun w => sRead (gm m) (sD 0) r w) (g 24).toNat := ⟨_, rfl⟩
    have bF : ∀ k, (0 : Int) ≤ F k ∧ F k ≤ 480 := fun k => by
      rw [hF]
      have := sSum_b (F := fun w => sRead (gm k) (sD 0) r w) (B := 80) (fun w => sRead_b _ _ _ _) (g 24).toNat
      show (0 : Int) ≤ sSum _ _ ∧ sSum _ _ ≤ 480
      omega
    have e33 : ∀ m, (gm m) 33 = g 33 := fun m => by rw [hgm]; exact gU_ne (by omega)
    have e24 : ∀ m, (gm m) 24 = g 24 := fun m => by rw [hgm]; exact gU_ne (by omega)
    have gV : ∀ m : Nat, m < 10 → sV (gm m) := fun m hm => by rw [hgm]; exact hV.setD (by omega)
    obtain ⟨τ, a1, a2, a3⟩ := cBegin hN hV
    have cl : ∀ (k n : Nat) (ρ : rp_S) (x : Int), k < n → k ≤ 10 → CF σ ρ → NT ρ 5 (gU g 35 x) → sV (gU g 35 x) →
        ∃ ρ', CF σ ρ' ∧ fX6_dry_27 n ρ (rI r) (rI ((k : Int) - 1)) = some (rI (sDry F k), ρ') := by
      intro k
      induction k with
      | zero =>
        intro n ρ x hn _ hC hT hX
        obtain ⟨n, rfl⟩ : ∃ q, n = q + 1 := ⟨n - 1, by omega⟩
        rw [fX6_dry_27, if_pos (by decide)]
        exact ⟨ρ, hC, rfl⟩
      | succ k ih =>
        intro n ρ x hn hk hC hT hX
        obtain ⟨n, rfl⟩ : ∃ q, n = q + 1 := ⟨n - 1, by omega⟩
        have h1 := hT.setD hX (k : Int)
        rw [gU_gU] at h1
        have g0 := gV k (by omega)
        rw [hgm] at g0
        obtain ⟨ρ2, b1, b2, b3⟩ := cSettle h1 g0
        have t3' : SH ρ2 (gm k) (sD 0) := by rw [hgm]; exact b2
        have r1 := cMinOf t3' (gV k (by omega)) (r := r) (by rw [e33]; exact hr33)
        rw [e24] at r1
        have eF : rI (sSum (fun w => sRead (gm k) (sD 0) r w) (g 24).toNat) = rI (F k) := by rw [hF]
        have c2 : CF σ ρ2 := (hC.u (a := 5) (j := 5) (x := rI (k : Int)) (by omega) (by omega)).tr b1.c
        have b := bF k
        rw [fX6_dry_27, show ((k + 1 : Nat) : Int) - 1 = (k : Int) by omega, if_neg (by rw [rI_lt0 (by omega) (by omega)]; omega), ob, b3, ob, r1, ob, eF, sDry]
        simp (disch := omega) only [rI_le0]
        by_cases z : F k ≤ 0
        · rw [if_pos z, if_pos z, rI_add]
          exact ih n ρ2 (k : Int) (by omega) (by omega) c2 b2.1 g0
        · rw [if_neg z, if_neg z]
          exact ⟨ρ2, c2, rfl⟩
    obtain ⟨ρ, g1, g2⟩ := cl 10 1000 τ (g 35) (by omega) (by omega) a1 (by rw [gU_id]; exact a2.1) (by rw [gU_id]; exact hV)
    have hp' := hp.q g1.q
    have hr' := hr.q g1.q
    obtain ⟨μ, m1, m2, m3⟩ := mTried hp'.1
    have ml : ∀ (k n : Nat) (ν : rp_S) (x : Int), k < n → k ≤ 10 → MF ρ ν → PG ν 144 (gU g 35 x) →
        ∃ ν', MF ρ ν' ∧ fX7_dry_21 n ν (rI r) (rI ((k : Int) - 1)) = some (rI (sDry F k), ν') := by
      intro k
      induction k with
      | zero =>
        intro n ν x hn _ hM hQ
        obtain ⟨n, rfl⟩ : ∃ q, n = q + 1 := ⟨n - 1, by omega⟩
        rw [fX7_dry_21, if_pos (by decide)]
        exact ⟨ν, hM, rfl⟩
      | succ k ih =>
        intro n ν x hn hk hM hQ
        obtain ⟨n, rfl⟩ : ∃ q, n = q + 1 := ⟨n - 1, by omega⟩
        have hD : ν 28 14 = rI 0 := by rw [hM.2.2 14 (by omega) (by omega) (by omega)]; exact hr'.2.2.2.2.1.2.2
        have g0 := gV k (by omega)
        rw [hgm] at g0
        obtain ⟨ν2, t1, t2, t3, t4, t5, t6⟩ := mTry (j := 35) (v := (k : Int)) hQ (by omega) g0 hD
        have t4' : NB ν2 (gm k) (sD 0) := by rw [hgm]; exact t4
        have r1 := mMinOf (gV k (by omega)) t4' (r := r) (by rw [e33]; exact hr33)
        rw [e24] at r1
        have eF : rI (sSum (fun w => sRead (gm k) (sD 0) r w) (g 24).toNat) = rI (F k) := by rw [hF]
        have b := bF k
        have t6' : fX7_nightOn (rp_up ν 29 (179 : Int).toNat (rI (k : Int))) (rI 144) = some ν2 := t6
        rw [fX7_dry_21, show ((k + 1 : Nat) : Int) - 1 = (k : Int) by omega, if_neg (by rw [rI_lt0 (by omega) (by omega)]; omega), wr_ok (by omega) (by omega) (by omega), ob, t6', ob, r1, ob, eF, sDry]
        simp (disch := omega) only [rI_le0]
        by_cases z : F k ≤ 0
        · rw [if_pos z, if_pos z, rI_add]
          exact ih n ν2 (k : Int) (by omega) (by omega) (hM.tr t1) t2
        · rw [if_neg z, if_neg z]
          exact ⟨ν2, hM.tr t1, rfl⟩
    obtain ⟨ν, n1, n2⟩ := ml 10 1000 μ (g 35) (by omega) (by omega) m1 (by rw [gU_id]; exact m2)
    refine ⟨rI (sDry F 10), ρ, ν, ?_, ?_, h.q (g1.q.tr n1.q)⟩
    · unfold fX6_dry
      rw [cHasR hN hV]
      simp only [ob, rb_0]
      rw [if_neg (fun z => z q), a3, ob]
      exact g2
    · show fX7_dry _ _ = _
      unfold fX7_dry
      rw [mHasR hp'.1 hV]
      simp only [ob, rb_0]
      rw [if_neg (fun z => z q), m3, ob]
      exact n2
  · refine ⟨rI (-1), σ, σ, ?_, ?_, h⟩
    · unfold fX6_dry
      rw [cHasR hN hV]
      simp only [ob, rb_0]
      rw [if_pos q]
    · show fX7_dry _ _ = _
      unfold fX7_dry
      rw [mHasR hP hV]
      simp only [ob, rb_0]
      rw [if_pos q]
theorem op_lose (h : Inv σ) (v : Int32) : OpW (fX6_lose σ v) (fun τ => fX7_lose τ v) := by
  obtain ⟨g, hp, hr⟩ := id h
  obtain ⟨hP, hV, hN⟩ := id hp
  have v1 := hV.1
  have v2 := hV.2.1
  by_cases q : 0 ≤ v.toInt ∧ v.toInt ≤ 1
  · obtain ⟨F, hF⟩ : ∃ F : Nat → Int, F = fun w => sWs g (sD (2 ^ w)) (g 33).toNat := ⟨_, rfl⟩
    obtain ⟨A, hA⟩ : ∃ A : Int, A = sWs g (sD 0) (g 33).toNat := ⟨_, rfl⟩
    have bF : ∀ k, (0 : Int) ≤ F k ∧ F k ≤ 24 := fun k => by
      rw [hF]
      have := sWs_b (g := g) (sD (2 ^ k)) (by omega) (g 33).toNat
      show (0 : Int) ≤ sWs _ _ _ ∧ sWs _ _ _ ≤ 24
      omega
    have bA : (0 : Int) ≤ A ∧ A ≤ 24 := by
      rw [hA]
      have := sWs_b (g := g) (sD 0) (by omega) (g 33).toNat
      omega
    have ab := fun k => sBa_b (F := F) (a0 := A) (lo := 0) (hi := 24) (by omega) bF k
    obtain ⟨N, hN24⟩ : ∃ N : Nat, g 24 = N := ⟨(g 24).toNat, by omega⟩
    have wb : ∀ k, k ≤ 6 → _ := fun k hk => sBw_c (F := F) (lab := fun m => m) (w0 := -4) (a0 := A) (hi := 6) (Or.inl rfl) k (fun i hi => by show (0 : Int) ≤ (i : Int) ∧ (i : Int) ≤ 6; omega)
    obtain ⟨τ, a1, a2, a3⟩ := cBegin hN hV
    obtain ⟨τ1, f1, f2, f3⟩ := cAbove τ A
    have cl : ∀ (k m n : Nat) (ρ : rp_S), k < n → m + k = N → CF σ ρ → NT ρ 5 g → BS ρ (sBw F (fun m => m) (-4) A m) (sBa F A m) →
        ∃ ρ', CF σ ρ' ∧ fX6_lose_38 n ρ v (rI m) = some (sAns (sBw F (fun m => m) (-4) A N) (sBa F A N) v, ρ') := by
      intro k
      induction k with
      | zero =>
        intro m n ρ hn hm hC hT hS
        obtain ⟨n, rfl⟩ : ∃ q, n = q + 1 := ⟨n - 1, by omega⟩
        have e : m = N := by omega
        subst e
        have := wb m (by omega)
        have e2 : ρ 1 2 = rI (g 24) := by rw [hC 1 (by omega)]; exact hN.1
        rw [fX6_lose_38, e2, hN24, if_pos (by rw [rI_le (by omega) (by omega) (by omega) (by omega)]; omega), cAnswer hS (by omega) (by omega), ob]
        exact ⟨ρ, hC, rfl⟩
      | succ k ih =>
        intro m n ρ hn hm hC hT hS
        obtain ⟨n, rfl⟩ : ∃ q, n = q + 1 := ⟨n - 1, by omega⟩
        have b1 := ab m
        have b2 := bF m
        have e2 : ρ 1 2 = rI (g 24) := by rw [hC 1 (by omega)]; exact hN.1
        obtain ⟨ρ1, s1, s2, s3⟩ := cSettle hT hV
        obtain ⟨ρ2, o1, o2, o3⟩ := cOut s2 hV (w := m) (by omega)
        have BS2 : BS ρ2 (sBw F (fun m => m) (-4) A m) (sBa F A m) := by unfold BS; rw [o1 12 (by omega), s1 12 (by omega) (by omega) (by omega) (by omega)]; exact hS
        obtain ⟨ρ3, g1, g2, g3⟩ := cOffer (c := (m : Int)) (f := F m) BS2 (by omega) (by omega) (by omega) (by omega)
        have eF : rI (sWs g (sD (2 ^ m)) (g 33).toNat) = rI (F m) := by rw [hF]
        rw [fX6_lose_38, e2, hN24, if_neg (by rw [rI_le (by omega) (by omega) (by omega) (by omega)]; omega), s3, ob, o3, ob, cWhAll o2 hV, ob, eF, g3, ob, iI_s]
        have c2 : CF ρ1 ρ2 := fun b hb => o1 b (by omega)
        refine ih (m + 1) n ρ3 (by omega) (by omega) (((hC.tr s1.c).tr c2).tr g1.c) (g1.sh o2).1 ?_
        rw [sBw, sBa]; exact g2
    obtain ⟨ρ, g1, g2⟩ := cl N 0 1000 τ1 (by omega) (by omega) (a1.tr f1.c) (f1.sh a2).1 f2
    have hp' := hp.q g1.q
    have hr' := hr.q g1.q
    have hD0 : ρ 28 14 = rI 0 := hr'.2.2.2.2.1.2.2
    obtain ⟨μ, m1, m2, m3, m4, m5, m6⟩ := nightOnly hp' hr'
    have ml : ∀ (k m n : Nat) (ν : rp_S), k < n → m + k = N → MF ρ ν →
        ∃ ν', MF ρ ν' ∧ fX7_lose_28 n ν v (rI (sBa F A m)) (rI (sBw F (fun m => m) (-4) A m)) (rI m) = some (sAns (sBw F (fun m => m) (-4) A N) (sBa F A N) v, ν') := by
      intro k
      induction k with
      | zero =>
        intro m n ν hn hm hM
        obtain ⟨n, rfl⟩ : ∃ q, n = q + 1 := ⟨n - 1, by omega⟩
        have e : m = N := by omega
        subst e
        have := wb m (by omega)
        have hQ := hM.pg hp'.1
        rw [fX7_lose_28, rd24 hQ, ob, hN24, if_pos (by rw [rI_le (by omega) (by omega) (by omega) (by omega)]; omega)]
        exact ⟨ν, hM, mAnsP (by omega) v ν⟩
      | succ k ih =>
        intro m n ν hn hm hM
        obtain ⟨n, rfl⟩ : ∃ q, n = q + 1 := ⟨n - 1, by omega⟩
        have hQ := hM.pg hp'.1
        have b1 := ab m
        have b2 := bF m
        have hQ2 : PG (rp_up ν 28 14 (rI ((2 ^ m : Nat) : Int))) 0 g := hQ.kept (fun j _ _ => by rw [up_ne (by omega)])
        obtain ⟨ν1, t1, t2, t3, t4⟩ := mNight (D := 2 ^ m) hQ2 hV up_eq (two64 m (by omega))
        have hM2 : MF ρ (rp_up ν1 28 14 (rI 0)) := by
          refine ⟨fun b h1 h2 h3 => ?_, fun j hj => ?_, fun j h1 h2 h3 => ?_⟩
          · rw [up_ne h1, t1.1 b h1 h3, up_ne h1]; exact hM.1 b h1 h2 h3
          · rw [up_ne (by omega), t1.1 29 (by omega) (by omega), up_ne (by omega)]; exact hM.2.1 j hj
          · by_cases z : j = 14
            · subst z; rw [up_eq]; exact hD0.symm
            · rw [up_nj z, t1.2 j h1 h2 h3, up_nj z]; exact hM.2.2 j h1 h2 h3
        have e18 : rp_up ν1 28 14 (rI 0) 28 18 = rI (F m) := by rw [up_nj (by omega), t3, hF]
        have e := ih (m + 1) n (rp_up ν1 28 14 (rI 0)) (by omega) (by omega) hM2
        rw [sBw, sBa] at e
        rw [fX7_lose_28, rd24 hQ, ob, hN24, if_neg (by rw [rI_le (by omega) (by omega) (by omega) (by omega)]; omega), ob, rI_pow m (by omega), t4, ob, ob]
        unfold fX7_lose_72 fX7_lose_89
        simp only [e18, iI_s]
        simp (disch := omega) only [rI_le]
        by_cases z : F m ≤ sBa F A m
        · rw [if_pos z, if_pos z]
          rw [if_neg (by omega), if_neg (by omega)] at e
          exact e
        · rw [if_neg z, if_neg z]
          rw [if_pos (by omega), if_pos (by omega)] at e
          exact e
    obtain ⟨ν, n1, n2⟩ := ml N 0 1000 μ (by omega) (by omega) m1.m
    refine ⟨sAns (sBw F (fun m => m) (-4) A N) (sBa F A N) v, ρ, ν, ?_, ?_, h.q (g1.q.tr n1.q)⟩
    · unfold fX6_lose
      rw [in9 _ (by omega) (by omega)]
      simp only [ob, rb_0]
      rw [if_neg (fun z => z q), a3, ob, cWhAll a2 hV, ob, ← hA, f3, ob]
      exact g2
    · show fX7_lose _ _ = _
      unfold fX7_lose
      rw [in7 _ (by omega) (by omega)]
      simp only [ob, rb_0]
      rw [if_neg (fun z => z q), m6, ob, m5, ← hA]
      exact n2
  · refine ⟨rI (-1), σ, σ, ?_, ?_, h⟩
    · unfold fX6_lose
      rw [in9 _ (by omega) (by omega)]
      simp only [ob, rb_0]
      rw [if_pos q]
    · show fX7_lose _ _ = _
      unfold fX7_lose
      rw [in7 _ (by omega) (by omega)]
      simp only [ob, rb_0]
      rw [if_pos q]
theorem op_swap (h : Inv σ) (v : Int32) : OpW (fX6_swap σ v) (fun τ => fX7_swap τ v) := by
  obtain ⟨g, hp, hr⟩ := id h
  obtain ⟨hP, hV, hN⟩ := id hp
  have v1 := hV.1
  have v2 := hV.2.1
  by_cases q : 0 ≤ v.toInt ∧ v.toInt ≤ 1
  · obtain ⟨F, hF⟩ : ∃ F : Nat → Nat → Int, F = fun a b => if a < 6 ∧ b < 6 then sMin (gS g a b) (sD 0) 80 else 0 := ⟨_, rfl⟩
    obtain ⟨A, hA⟩ : ∃ A : Int, A = sMin g (sD 0) 80 := ⟨_, rfl⟩
    have bF : ∀ a b, (0 : Int) ≤ F a b ∧ F a b ≤ 320 := fun a b => by
      rw [hF]
      show (0 : Int) ≤ (if a < 6 ∧ b < 6 then sMin (gS g a b) (sD 0) 80 else 0) ∧ (if a < 6 ∧ b < 6 then sMin (gS g a b) (sD 0) 80 else 0) ≤ 320
      split
      · have e33 : gS g a b 33 ≤ 4 := by
          show gU _ _ _ 33 ≤ 4
          rw [gU_ne (by omega), gU_ne (by omega)]; omega
        have := sMin_b (g := gS g a b) (sD 0) e33 80
        omega
      · omega
    have eF6 : ∀ a b, a < 6 → b < 6 → sMin (gS g a b) (sD 0) 80 = F a b := fun a b h1 h2 => by rw [hF]; exact (if_pos ⟨h1, h2⟩).symm
    have bA : (0 : Int) ≤ A ∧ A ≤ 320 := by
      rw [hA]
      have := sMin_b (g := g) (sD 0) (by omega) 80
      omega
    obtain ⟨N, hN24⟩ : ∃ N : Nat, g 24 = N := ⟨(g 24).toNat, by omega⟩
    have pb := sPr_b (F := F) (N := N) (by omega) bA bF
    obtain ⟨τ, a1, a2, a3⟩ := cBegin hN hV
    obtain ⟨τ1, f1, f2, f3⟩ := cAbove τ A
    have ci : ∀ (k38 : rp_S → Int32 → Int32 → Option (Int32 × rp_S)) (a : Nat) (w0 a0 : Int), a < N → 0 ≤ a0 ∧ a0 ≤ 320 → ∀ (k i n : Nat) (ρ : rp_S), k < n → a + 1 + i + k = N → CF σ ρ → BS ρ (sBw (fun i => F a (a + 1 + i)) (fun i => 10 * (a : Int) + ((a + 1 + i : Nat) : Int)) w0 a0 i) (sBa (fun i => F a (a + 1 + i)) a0 i) →
        ∃ ρ', CF σ ρ' ∧ BS ρ' (sBw (fun i => F a (a + 1 + i)) (fun i => 10 * (a : Int) + ((a + 1 + i : Nat) : Int)) w0 a0 (N - (a + 1))) (sBa (fun i => F a (a + 1 + i)) a0 (N - (a + 1))) ∧ fX6_swap_53 k38 n ρ v (rI a) (rI ((a + 1 + i : Nat) : Int)) = k38 ρ' v (rI ((a + 1 : Nat) : Int)) := by
      intro k38 a w0 a0 ha h0 k
      have ab := fun k => sBa_b (F := fun i => F a (a + 1 + i)) (a0 := a0) (lo := 0) (hi := 320) h0 (fun i => bF _ _) k
      induction k with
      | zero =>
        intro i n ρ hn hi hC hS
        obtain ⟨n, rfl⟩ : ∃ q, n = q + 1 := ⟨n - 1, by omega⟩
        have e2 : ρ 1 2 = rI (g 24) := by rw [hC 1 (by omega)]; exact hN.1
        have e : i = N - (a + 1) := by omega
        subst e
        rw [fX6_swap_53, e2, hN24, if_pos (by rw [rI_le (by omega) (by omega) (by omega) (by omega)]; omega), iI_s]
        exact ⟨ρ, hC, hS, rfl⟩
      | succ k ih =>
        intro i n ρ hn hi hC hS
        obtain ⟨n, rfl⟩ : ∃ q, n = q + 1 := ⟨n - 1, by omega⟩
        have e2 : ρ 1 2 = rI (g 24) := by rw [hC 1 (by omega)]; exact hN.1
        have b1 := ab i
        have b2 := bF a (a + 1 + i)
        obtain ⟨ρ1, s1, s2, s3⟩ := cSwap (σ := ρ) (a := a) (b := a + 1 + i) (hN.kept (hC 1 (by omega)) (hC 2 (by omega)) (hC 3 (by omega))) hV (by omega) (by omega)
        have BS2 : BS ρ1 (sBw (fun i => F a (a + 1 + i)) (fun i => 10 * (a : Int) + ((a + 1 + i : Nat) : Int)) w0 a0 i) (sBa (fun i => F a (a + 1 + i)) a0 i) := by unfold BS; rw [s2]; exact hS
        obtain ⟨ρ3, g1, g2, g3⟩ := cOffer (c := 10 * (a : Int) + ((a + 1 + i : Nat) : Int)) (f := F a (a + 1 + i)) BS2 (by omega) (by omega) (by omega) (by omega)
        have eF : rI (sMin (gS g a (a + 1 + i)) (sD 0) 80) = rI (F a (a + 1 + i)) := by rw [eF6 _ _ (by omega) (by omega)]
        rw [fX6_swap_53, e2, hN24, if_neg (by rw [rI_le (by omega) (by omega) (by omega) (by omega)]; omega), s3, ob, eF, rI_mul, rI_add, g3, ob, iI_s]
        refine ih (i + 1) n ρ3 (by omega) (by omega) ((hC.tr s1).tr g1.c) ?_
        rw [sBw, sBa]; exact g2
    have co : ∀ (k a n : Nat) (ρ : rp_S), k < n → a + k = N → CF σ ρ → BS ρ (sPr F N A a).1 (sPr F N A a).2 →
        ∃ ρ', CF σ ρ' ∧ fX6_swap_38 n ρ v (rI a) = some (sAns (sPr F N A N).1 (sPr F N A N).2 v, ρ') := by
      intro k
      induction k with
      | zero =>
        intro a n ρ hn ha hC hS
        obtain ⟨n, rfl⟩ : ∃ q, n = q + 1 := ⟨n - 1, by omega⟩
        have e2 : ρ 1 2 = rI (g 24) := by rw [hC 1 (by omega)]; exact hN.1
        have e : a = N := by omega
        subst e
        have := pb a (by omega)
        rw [fX6_swap_38, e2, hN24, if_pos (by rw [rI_le (by omega) (by omega) (by omega) (by omega)]; omega), cAnswer hS (by omega) (by omega), ob]
        exact ⟨ρ, hC, rfl⟩
      | succ k ih =>
        intro a n ρ hn ha hC hS
        obtain ⟨n, rfl⟩ : ∃ q, n = q + 1 := ⟨n - 1, by omega⟩
        have e2 : ρ 1 2 = rI (g 24) := by rw [hC 1 (by omega)]; exact hN.1
        have := pb a (by omega)
        obtain ⟨ρ1, c1, c2, c3⟩ := ci (fun σ v1 v2 => fX6_swap_38 n σ v1 v2) a (sPr F N A a).1 (sPr F N A a).2 (by omega) (by omega) (N - (a + 1)) 0 1000 ρ (by omega) (by omega) hC hS
        obtain ⟨ρ2, d1, d2⟩ := ih (a + 1) n ρ1 (by omega) (by omega) c1 (by rw [sPr]; exact c2)
        refine ⟨ρ2, d1, ?_⟩
        rw [fX6_swap_38, e2, hN24, if_neg (by rw [rI_le (by omega) (by omega) (by omega) (by omega)]; omega), iI_s]
        exact c3.trans d2
    obtain ⟨ρ, g1, g2⟩ := co N 0 1000 τ1 (by omega) (by omega) (a1.tr f1.c) f2
    have hp' := hp.q g1.q
    have hr' := hr.q g1.q
    have hD0 : ρ 28 14 = rI 0 := hr'.2.2.2.2.1.2.2
    obtain ⟨μ, m1, m2, m3, m4, m5, m6⟩ := nightOnly hp' hr'
    have mi : ∀ (k28 : rp_S → Int32 → Int32 → Int32 → Int32 → Option (Int32 × rp_S)) (a : Nat) (w0 a0 : Int), a < N → 0 ≤ a0 ∧ a0 ≤ 320 → ∀ (k i n : Nat) (ν : rp_S), k < n → a + 1 + i + k = N → MF ρ ν →
        ∃ ν', MF ρ ν' ∧ fX7_swap_46 k28 n ν v (rI (sBa (fun i => F a (a + 1 + i)) a0 i)) (rI (sBw (fun i => F a (a + 1 + i)) (fun i => 10 * (a : Int) + ((a + 1 + i : Nat) : Int)) w0 a0 i)) (rI a) (rI ((a + 1 + i : Nat) : Int)) = k28 ν' v (rI (sBa (fun i => F a (a + 1 + i)) a0 (N - (a + 1)))) (rI (sBw (fun i => F a (a + 1 + i)) (fun i => 10 * (a : Int) + ((a + 1 + i : Nat) : Int)) w0 a0 (N - (a + 1)))) (rI ((a + 1 : Nat) : Int)) := by
      intro k28 a w0 a0 ha h0 k
      have ab := fun k => sBa_b (F := fun i => F a (a + 1 + i)) (a0 := a0) (lo := 0) (hi := 320) h0 (fun i => bF _ _) k
      induction k with
      | zero =>
        intro i n ν hn hi hM
        obtain ⟨n, rfl⟩ : ∃ q, n = q + 1 := ⟨n - 1, by omega⟩
        have e : i = N - (a + 1) := by omega
        subst e
        rw [fX7_swap_46, rd24 (hM.pg hp'.1), ob, hN24, if_pos (by rw [rI_le (by omega) (by omega) (by omega) (by omega)]; omega), iI_s]
        exact ⟨ν, hM, rfl⟩
      | succ k ih =>
        intro i n ν hn hi hM
        obtain ⟨n, rfl⟩ : ∃ q, n = q + 1 := ⟨n - 1, by omega⟩
        have b1 := ab i
        have b2 := bF a (a + 1 + i)
        obtain ⟨τ1, τ2, x1, τ3, x2, τ4, z1, z2, z3, z4, z5, z6, z7, z8⟩ := mSwap (a := a) (b := a + 1 + i) (hM.pg hp'.1) hV (by rw [hM.2.2 14 (by omega) (by omega) (by omega)]; exact hD0) (by omega) (by omega)
        have e16 : τ4 28 16 = rI (F a (a + 1 + i)) := by rw [z2, eF6 _ _ (by omega) (by omega)]
        obtain ⟨ν', e1, e⟩ := ih (i + 1) n τ4 (by omega) (by omega) (hM.tr z1)
        refine ⟨ν', e1, ?_⟩
        rw [sBw, sBa] at e
        rw [fX7_swap_46, rd24 (hM.pg hp'.1), ob, hN24, if_neg (by rw [rI_le (by omega) (by omega) (by omega) (by omega)]; omega), z3, ob, z4, ob, z5, ob, z6, ob, z7, ob, z8, ob]
        unfold fX7_swap_135 fX7_swap_152
        simp only [e16, iI_s, rI_mul, rI_add (10 * (a : Int))]
        simp (disch := omega) only [rI_le]
        by_cases z : F a (a + 1 + i) ≤ sBa (fun i => F a (a + 1 + i)) a0 i
        · rw [if_pos z, if_pos z]
          rw [if_neg (by omega), if_neg (by omega)] at e
          exact e
        · rw [if_neg z, if_neg z]
          rw [if_pos (by omega), if_pos (by omega)] at e
          exact e
    have mo : ∀ (k a n : Nat) (ν : rp_S), k < n → a + k = N → MF ρ ν →
        ∃ ν', MF ρ ν' ∧ fX7_swap_28 n ν v (rI (sPr F N A a).2) (rI (sPr F N A a).1) (rI a) = some (sAns (sPr F N A N).1 (sPr F N A N).2 v, ν') := by
      intro k
      induction k with
      | zero =>
        intro a n ν hn ha hM
        obtain ⟨n, rfl⟩ : ∃ q, n = q + 1 := ⟨n - 1, by omega⟩
        have e : a = N := by omega
        subst e
        have := pb a (by omega)
        rw [fX7_swap_28, rd24 (hM.pg hp'.1), ob, hN24, if_pos (by rw [rI_le (by omega) (by omega) (by omega) (by omega)]; omega)]
        exact ⟨ν, hM, mAnsP (by omega) v ν⟩
      | succ k ih =>
        intro a n ν hn ha hM
        obtain ⟨n, rfl⟩ : ∃ q, n = q + 1 := ⟨n - 1, by omega⟩
        have := pb a (by omega)
        obtain ⟨ν1, c1, c3⟩ := mi (fun σ v1 v2 v3 v4 => fX7_swap_28 n σ v1 v2 v3 v4) a (sPr F N A a).1 (sPr F N A a).2 (by omega) (by omega) (N - (a + 1)) 0 1000 ν (by omega) (by omega) hM
        obtain ⟨ν2, d1, d2⟩ := ih (a + 1) n ν1 (by omega) (by omega) c1
        refine ⟨ν2, d1, ?_⟩
        rw [sPr] at d2
        rw [fX7_swap_28, rd24 (hM.pg hp'.1), ob, hN24, if_neg (by rw [rI_le (by omega) (by omega) (by omega) (by omega)]; omega), iI_s]
        exact c3.trans d2
    obtain ⟨ν, n1, n2⟩ := mo N 0 1000 μ (by omega) (by omega) m1.m
    refine ⟨sAns (sPr F N A N).1 (sPr F N A N).2 v, ρ, ν, ?_, ?_, h.q (g1.q.tr n1.q)⟩
    · unfold fX6_swap
      rw [in9 _ (by omega) (by omega)]
      simp only [ob, rb_0]
      rw [if_neg (fun z => z q), a3, ob, cMinAll a2 hV, ob, ← hA, f3, ob]
      exact g2
    · show fX7_swap _ _ = _
      unfold fX7_swap
      rw [in7 _ (by omega) (by omega)]
      simp only [ob, rb_0]
      rw [if_neg (fun z => z q), m6, ob, m4.2.1, ← hA]
      exact n2
  · refine ⟨rI (-1), σ, σ, ?_, ?_, h⟩
    · unfold fX6_swap
      rw [in9 _ (by omega) (by omega)]
      simp only [ob, rb_0]
      rw [if_pos q]
    · show fX7_swap _ _ = _
      unfold fX7_swap
      rw [in7 _ (by omega) (by omega)]
      simp only [ob, rb_0]
      rw [if_pos q]
end OPS
