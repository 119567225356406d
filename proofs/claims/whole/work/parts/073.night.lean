/-! THE REFERENCE'S NIGHT, looked through -/
def sHit (g : Nat → Int) (d : Nat → Bool) (m : Int) : Nat → Int
  | 0 => 0
  | k + 1 => sHit g d m k + (if sLook g d k m = -4 then 0 else 1)
def sMin (g : Nat → Int) (d : Nat → Bool) : Nat → Int
  | 0 => 0
  | n + 1 => sMin g d n + sHit g d n (g 33).toNat
def sDark (g : Nat → Int) (d : Nat → Bool) : Nat → Int
  | 0 => 0
  | n + 1 => sDark g d n + (if sHit g d n (g 33).toNat = 0 then 1 else 0)
def sWr (g : Nat → Int) (d : Nat → Bool) (r : Nat) : Nat → Int
  | 0 => 0
  | k + 1 => sWr g d r k + (if sWhole g d r k then 1 else 0)
def sWs (g : Nat → Int) (d : Nat → Bool) : Nat → Int
  | 0 => 0
  | k + 1 => sWs g d k + sWr g d k (g 24).toNat
theorem sHit_b (g : Nat → Int) (d : Nat → Bool) (m : Int) : ∀ k : Nat, 0 ≤ sHit g d m k ∧ sHit g d m k ≤ k := by
  intro k
  induction k with
  | zero => rw [sHit]; omega
  | succ k ih => rw [sHit]; split <;> omega
theorem sMin_b {g : Nat → Int} (d : Nat → Bool) (h : g 33 ≤ 4) : ∀ n : Nat, 0 ≤ sMin g d n ∧ sMin g d n ≤ 4 * n := by
  intro n
  induction n with
  | zero => rw [sMin]; omega
  | succ n ih =>
    have := sHit_b g d n (g 33).toNat
    rw [sMin]; omega
theorem sDark_b (g : Nat → Int) (d : Nat → Bool) : ∀ n : Nat, 0 ≤ sDark g d n ∧ sDark g d n ≤ n := by
  intro n
  induction n with
  | zero => rw [sDark]; omega
  | succ n ih => rw [sDark]; split <;> omega
theorem sWr_b (g : Nat → Int) (d : Nat → Bool) (r : Nat) : ∀ k : Nat, 0 ≤ sWr g d r k ∧ sWr g d r k ≤ k := by
  intro k
  induction k with
  | zero => rw [sWr]; omega
  | succ k ih => rw [sWr]; split <;> omega
theorem sWs_b {g : Nat → Int} (d : Nat → Bool) (h : g 24 ≤ 6) : ∀ k : Nat, 0 ≤ sWs g d k ∧ sWs g d k ≤ 6 * k := by
  intro k
  induction k with
  | zero => rw [sWs]; omega
  | succ k ih =>
    have := sWr_b g d k (g 24).toNat
    rw [sWs]; omega
theorem rd6 {σ : rp_S} {r w : Nat} (hr : r < 4) (hw : w < 6) : rq_rd σ 34 24 (rI 6 * rI r + rI w) = some (σ 34 (6 * r + w)) := by
  rw [rI_mul, rI_add, rd_ok (by omega) (by omega) (by omega)]
  congr 2
theorem wr6 {σ : rp_S} {r w : Nat} {x : Int32} (hr : r < 4) (hw : w < 6) : rq_wr σ 34 24 (rI 6 * rI r + rI w) x = some (rp_up σ 34 (6 * r + w) x) := by
  rw [rI_mul, rI_add, wr_ok (by omega) (by omega) (by omega)]
  congr 2
/-- what stays -/
def NF (σ τ : rp_S) : Prop := (∀ b, b ≠ 28 → b ≠ 34 → τ b = σ b) ∧ ∀ j, j ≠ 16 → j ≠ 17 → j ≠ 18 → τ 28 j = σ 28 j
theorem NF.pg {σ τ : rp_S} {p : Int} {g : Nat → Int} (h : NF σ τ) (hP : PG σ p g) : PG τ p g := by
  obtain ⟨a, b, c⟩ := hP
  exact ⟨a, b, fun i hi => by rw [h.1 29 (by omega) (by omega)]; exact c i hi⟩
theorem NF.rf (σ : rp_S) : NF σ σ := ⟨fun _ _ _ => rfl, fun _ _ _ _ => rfl⟩
theorem NF.tr {σ τ ρ : rp_S} (h : NF σ τ) (k : NF τ ρ) : NF σ ρ := ⟨fun b h1 h2 => (k.1 b h1 h2).trans (h.1 b h1 h2), fun j h1 h2 h3 => (k.2 j h1 h2 h3).trans (h.2 j h1 h2 h3)⟩
theorem NF.u34 {σ τ : rp_S} {j : Nat} {x : Int32} (h : NF σ τ) : NF σ (rp_up τ 34 j x) := ⟨fun b h1 h2 => by rw [up_ne h2]; exact h.1 b h1 h2, fun j h1 h2 h3 => by rw [up_ne (by omega)]; exact h.2 j h1 h2 h3⟩
theorem NF.u28 {σ τ : rp_S} {j : Nat} {x : Int32} (hj : j = 16 ∨ j = 17 ∨ j = 18) (h : NF σ τ) : NF σ (rp_up τ 28 j x) := ⟨fun b h1 h2 => by rw [up_ne h1]; exact h.1 b h1 h2, fun i h1 h2 h3 => by rw [up_nj (by omega)]; exact h.2 i h1 h2 h3⟩
/-- the night so far: m minutes, and r readers of the next -/
def NI (σ τ : rp_S) (g : Nat → Int) (d : Nat → Bool) (m r : Nat) : Prop := NF σ τ ∧ (∀ r' w : Nat, r' < 4 → w < 6 → τ 34 (6 * r' + w) = rI (if (r' : Int) < g 33 then sCnt g d r' w (if r' < r then m + 1 else m) else 0)) ∧
  τ 28 16 = rI (sMin g d m + sHit g d m r) ∧ τ 28 17 = rI (sDark g d m) ∧ τ 28 18 = rI 0
section MOD
variable {σ : rp_S} {p : Int} {g : Nat → Int} {D : Nat}
theorem mN52 (hP : PG σ p g) (hV : sV g) (hD : σ 28 14 = rI D) (hD2 : D < 64) {m : Nat} (hm : m < 80) (k38 : rp_S → Int32 → Int32 → Option rp_S) : ∀ (k r n : Nat) (τ : rp_S), k < n → (r : Int) + k = g 33 → NI σ τ g (sD D) m r →
    ∃ τ', NI σ τ' g (sD D) (m + 1) 0 ∧ fX7_nightOn_52 k38 n τ (rI p) (rI m) (rI (sMin g (sD D) m)) (rI r) = k38 τ' (rI p) (rI ((m + 1 : Nat) : Int)) := by
  obtain ⟨v1, v2, v3, v4, v5, v6⟩ := id hV
  have bm := sMin_b (sD D) v2.2 m
  have bd := sDark_b g (sD D) m
  intro k
  induction k with
  | zero =>
    intro r n τ hn hr hI
    obtain ⟨n, rfl⟩ : ∃ q, n = q + 1 := ⟨n - 1, by omega⟩
    obtain ⟨hF, h1, h2, h3, h4⟩ := hI
    have hP' := hF.pg hP
    have er : (g 33).toNat = r := by omega
    have bh := sHit_b g (sD D) m r
    rw [fX7_nightOn_52, rdP_33 hP', ob, if_pos (by rw [rI_le (by omega) (by omega) (by omega) (by omega)]; omega), h2]
    unfold fX7_nightOn_134
    simp only [h3, rI_add, ob]
    simp (disch := omega) only [rI_eq]
    have e34 : ∀ (x : Int32) (r' w : Nat), r' < 4 → w < 6 → rp_up τ 28 17 x 34 (6 * r' + w) = rI (if (r' : Int) < g 33 then sCnt g (sD D) r' w (if r' < 0 then m + 1 + 1 else m + 1) else 0) := by
      intro x r' w q1 q2
      rw [up_ne (by omega), h1 r' w q1 q2]
      by_cases q3 : (r' : Int) < g 33
      · rw [if_pos q3, if_pos q3, if_pos (by omega), if_neg (by omega)]
      · rw [if_neg q3, if_neg q3]
    by_cases q : sMin g (sD D) m + sHit g (sD D) m r = sMin g (sD D) m
    · rw [if_pos q]
      refine ⟨rp_up τ 28 17 (rI (sDark g (sD D) m + 1)), ⟨hF.u28 (Or.inr (Or.inl rfl)), e34 _, ?_, ?_, ?_⟩, rfl⟩
      · rw [up_nj (by omega), h2, sMin, sHit, er, Int.add_zero]
      · rw [up_eq, sDark, er, if_pos (by omega)]
      · rw [up_nj (by omega), h4]
    · rw [if_neg q]
      refine ⟨rp_up τ 28 17 (rI (sDark g (sD D) m + 0)), ⟨hF.u28 (Or.inr (Or.inl rfl)), e34 _, ?_, ?_, ?_⟩, rfl⟩
      · rw [up_nj (by omega), h2, sMin, sHit, er, Int.add_zero]
      · rw [up_eq, sDark, er, if_neg (by omega)]
      · rw [up_nj (by omega), h4]
  | succ k ih =>
    intro r n τ hn hr hI
    obtain ⟨n, rfl⟩ : ∃ q, n = q + 1 := ⟨n - 1, by omega⟩
    obtain ⟨hF, h1, h2, h3, h4⟩ := hI
    have hP' := hF.pg hP
    have hD' : τ 28 14 = rI D := by rw [hF.2 14 (by omega) (by omega) (by omega)]; exact hD
    have hr33 : (r : Int) < g 33 := by omega
    have bh := sHit_b g (sD D) m r
    have bl := sLook_b (sD D) r m v1.1
    rw [fX7_nightOn_52, rdP_33 hP', ob, if_neg (by rw [rI_le (by omega) (by omega) (by omega) (by omega)]; omega), mLook hP' hV hD' hD2 hr33 (by omega) (by omega), ob]
    unfold fX7_nightOn_110
    simp (disch := omega) only [rI_eq]
    simp only [iI_s]
    by_cases q : sLook g (sD D) r m = -4
    · rw [if_pos q]
      refine ih (r + 1) n τ (by omega) (by omega) ⟨hF, ?_, ?_, h3, h4⟩
      · intro r' w q1 q2
        rw [h1 r' w q1 q2]
        by_cases q3 : (r' : Int) < g 33
        · rw [if_pos q3, if_pos q3]
          by_cases q4 : r' = r
          · subst q4
            rw [if_neg (by omega), if_pos (by omega), sCnt, if_neg (by omega), Int.add_zero]
          · by_cases q5 : r' < r
            · rw [if_pos q5, if_pos (by omega)]
            · rw [if_neg q5, if_neg (by omega)]
        · rw [if_neg q3, if_neg q3]
      · rw [h2, sHit, if_pos q, Int.add_zero]
    · rw [if_neg q]
      obtain ⟨w0, hw0⟩ : ∃ w0 : Nat, sLook g (sD D) r m = w0 := ⟨(sLook g (sD D) r m).toNat, by omega⟩
      have hw6 : w0 < 6 := by omega
      rw [hw0, rd6 (by omega) hw6, ob, wr6 (by omega) hw6, ob, ob]
      have bc := sCnt_b g (sD D) r w0 m
      refine ih (r + 1) n _ (by omega) (by omega) ⟨(hF.u34).u28 (Or.inl rfl), ?_, ?_, ?_, ?_⟩
      · intro r' w q1 q2
        rw [up_ne (by omega), up_at]
        by_cases q3 : (r' : Int) < g 33
        · rw [if_pos q3]
          by_cases q4 : r' = r
          · subst q4
            rw [if_pos (show r' < r' + 1 by omega), sCnt, hw0]
            by_cases q6 : w = w0
            · subst q6
              rw [if_pos ⟨rfl, rfl⟩, h1 r' w q1 q2, if_pos q3, if_neg (by omega), rI_add, if_pos rfl]
            · rw [if_neg (fun z => q6 (by omega)), h1 r' w q1 q2, if_pos q3, if_neg (by omega), if_neg (by omega), Int.add_zero]
          · rw [if_neg (fun z => q4 (by omega)), h1 r' w q1 q2, if_pos q3]
            by_cases q5 : r' < r
            · rw [if_pos q5, if_pos (by omega)]
            · rw [if_neg q5, if_neg (by omega)]
        · rw [if_neg q3, if_neg (fun z => q3 (by omega)), h1 r' w q1 q2, if_neg q3]
      · rw [up_eq, up_ne (by omega), h2, rI_add, sHit, if_neg q, Int.add_assoc]
      · rw [up_nj (by omega), up_ne (by omega), h3]
      · rw [up_nj (by omega), up_ne (by omega), h4]
theorem mN38 (hP : PG σ p g) (hV : sV g) (hD : σ 28 14 = rI D) (hD2 : D < 64) : ∀ (k m n : Nat) (τ : rp_S), k < n → m + k = 80 → NI σ τ g (sD D) m 0 →
    ∃ τ', NI σ τ' g (sD D) 80 0 ∧ fX7_nightOn_38 n τ (rI p) (rI m) = fX7_nightOn_146 1000 τ' (rI p) (rI 0) := by
  intro k
  induction k with
  | zero =>
    intro m n τ hn hm hI
    obtain ⟨n, rfl⟩ : ∃ q, n = q + 1 := ⟨n - 1, by omega⟩
    have : m = 80 := by omega
    subst this
    rw [fX7_nightOn_38, if_pos (by rw [rI_le (by omega) (by omega) (by omega) (by omega)]; omega)]
    exact ⟨τ, hI, rfl⟩
  | succ k ih =>
    intro m n τ hn hm hI
    obtain ⟨n, rfl⟩ : ∃ q, n = q + 1 := ⟨n - 1, by omega⟩
    rw [fX7_nightOn_38, if_neg (by rw [rI_le (by omega) (by omega) (by omega) (by omega)]; omega)]
    have e16 : τ 28 16 = rI (sMin g (sD D) m) := by rw [hI.2.2.1, sHit, Int.add_zero]
    obtain ⟨τ1, hI1, e1⟩ := mN52 hP hV hD hD2 (m := m) (by omega) (fun σ v1 v2 => fX7_nightOn_38 n σ v1 v2) (g 33).toNat 0 1000 τ (by have := hV.2.1; omega) (by have := hV.2.1; omega) hI
    obtain ⟨τ2, hI2, e2⟩ := ih (m + 1) n τ1 (by omega) (by omega) hI1
    refine ⟨τ2, hI2, ?_⟩
    rw [e16, ← e2]
    exact e1
theorem mN17 : ∀ (k j n : Nat) (τ : rp_S), k < n → j + k = 24 → NF σ τ → (∀ i, i < j → τ 34 i = rI 0) → τ 28 16 = rI 0 → τ 28 17 = rI 0 → τ 28 18 = rI 0 →
    ∃ τ', NF σ τ' ∧ (∀ i, i < 24 → τ' 34 i = rI 0) ∧ τ' 28 16 = rI 0 ∧ τ' 28 17 = rI 0 ∧ τ' 28 18 = rI 0 ∧ fX7_nightOn_17 n τ (rI p) (rI j) = fX7_nightOn_38 1000 τ' (rI p) (rI 0) := by
  intro k
  induction k with
  | zero =>
    intro j n τ hn hj hF h1 h2 h3 h4
    obtain ⟨n, rfl⟩ : ∃ q, n = q + 1 := ⟨n - 1, by omega⟩
    have : j = 24 := by omega
    subst this
    rw [fX7_nightOn_17, if_pos (by rw [rI_le (by omega) (by omega) (by omega) (by omega)]; omega)]
    exact ⟨τ, hF, h1, h2, h3, h4, rfl⟩
  | succ k ih =>
    intro j n τ hn hj hF h1 h2 h3 h4
    obtain ⟨n, rfl⟩ : ∃ q, n = q + 1 := ⟨n - 1, by omega⟩
    rw [fX7_nightOn_17, if_neg (by rw [rI_le (by omega) (by omega) (by omega) (by omega)]; omega), wr_ok (by omega) (by omega) (by omega), ob, iI_s]
    refine ih (j + 1) n _ (by omega) (by omega) hF.u34 ?_ (by rw [up_ne (by omega)]; exact h2) (by rw [up_ne (by omega)]; exact h3) (by rw [up_ne (by omega)]; exact h4)
    intro i hi
    rw [up_at]
    by_cases q : i = j
    · rw [if_pos ⟨rfl, by omega⟩]
    · rw [if_neg (fun z => q (by omega))]
      exact h1 i (by omega)
/-- behind a night: what was read -/
def NB (τ : rp_S) (g : Nat → Int) (d : Nat → Bool) : Prop := (∀ r w : Nat, r < 4 → w < 6 → τ 34 (6 * r + w) = rI (if (r : Int) < g 33 then sRead g d r w else 0)) ∧ τ 28 16 = rI (sMin g d 80) ∧ τ 28 17 = rI (sDark g d 80)
theorem mWhole {τ : rp_S} (hP : PG τ p g) (hV : sV g) (hD : τ 28 14 = rI D) (hD2 : D < 64) (hB : NB τ g (sD D)) {r w : Nat} (hr : (r : Int) < g 33) (hw : (w : Int) < g 24) : fX7_isWhole τ (rI p) (rI r) (rI w) = some (if sWhole g (sD D) r w then rI 1 else rI 0) := by
  have hl := mLast hP hV hw
  have hg := mGoes hP hV hD hD2 hw
  obtain ⟨v1, v2, v3, v4, v5, v6⟩ := hV
  obtain ⟨a1, a2, a3, a4⟩ := v5 w hw
  have b1 := sLast_b a4.1 a4.2
  have b2 := sRead_b g (sD D) r w
  unfold fX7_isWhole
  rw [hl, ob, hg, ob, rd6 (by omega) (by omega), ob, hB.1 r w (by omega) (by omega), if_pos hr]
  simp (disch := omega) only [rb_0, rI_le0, rI_eq]
  by_cases q1 : sGoes g (sD D) w
  · rw [if_neg (fun z => z q1)]
    by_cases q2 : sLast g w ≤ 0
    · rw [if_pos q2, if_neg (fun z => by have := z.2.1; omega)]
    · rw [if_neg q2]
      by_cases q3 : sRead g (sD D) r w = sLast g w
      · rw [if_pos q3, if_pos ⟨q1, by omega, q3⟩]
      · rw [if_neg q3, if_neg (fun z => q3 z.2.2)]
  · rw [if_pos q1, if_neg (fun z => q1 z.1)]
theorem NB.u18 {τ : rp_S} {d : Nat → Bool} {x : Int32} (h : NB τ g d) : NB (rp_up τ 28 18 x) g d := ⟨fun r w h1 h2 => by rw [up_ne (by omega)]; exact h.1 r w h1 h2, by rw [up_nj (by omega)]; exact h.2.1, by rw [up_nj (by omega)]; exact h.2.2⟩
theorem mN161 (hP : PG σ p g) (hV : sV g) (hD : σ 28 14 = rI D) (hD2 : D < 64) {r : Nat} (hr : (r : Int) < g 33) (k146 : rp_S → Int32 → Int32 → Option rp_S) (c : Int) (hc : 0 ≤ c) (hc2 : c ≤ 100) : ∀ (k w n : Nat) (τ : rp_S), k < n → (w : Int) + k = g 24 → NF σ τ → NB τ g (sD D) → τ 28 18 = rI (c + sWr g (sD D) r w) →
    ∃ τ', NF σ τ' ∧ NB τ' g (sD D) ∧ τ' 28 18 = rI (c + sWr g (sD D) r (g 24).toNat) ∧ fX7_nightOn_161 k146 n τ (rI p) (rI r) (rI w) = k146 τ' (rI p) (rI ((r + 1 : Nat) : Int)) := by
  obtain ⟨v1, v2, v3, v4, v5, v6⟩ := id hV
  intro k
  induction k with
  | zero =>
    intro w n τ hn hw hF hB h
    obtain ⟨n, rfl⟩ : ∃ q, n = q + 1 := ⟨n - 1, by omega⟩
    rw [fX7_nightOn_161, rdP_24 (hF.pg hP), ob, if_pos (by rw [rI_le (by omega) (by omega) (by omega) (by omega)]; omega), iI_s]
    exact ⟨τ, hF, hB, by rw [h, show (g 24).toNat = w by omega], rfl⟩
  | succ k ih =>
    intro w n τ hn hw hF hB h
    obtain ⟨n, rfl⟩ : ∃ q, n = q + 1 := ⟨n - 1, by omega⟩
    have hD' : τ 28 14 = rI D := by rw [hF.2 14 (by omega) (by omega) (by omega)]; exact hD
    rw [fX7_nightOn_161, rdP_24 (hF.pg hP), ob, if_neg (by rw [rI_le (by omega) (by omega) (by omega) (by omega)]; omega), mWhole (hF.pg hP) hV hD' hD2 hB hr (by omega), ob]
    simp only [rb_0]
    unfold fX7_nightOn_194
    simp only [h, rI_add, ob, iI_s]
    by_cases q : sWhole g (sD D) r w
    · rw [if_neg (fun z => z q)]
      exact ih (w + 1) n _ (by omega) (by omega) (hF.u28 (Or.inr (Or.inr rfl))) hB.u18 (by rw [up_eq, sWr, if_pos q, Int.add_assoc])
    · rw [if_pos q]
      exact ih (w + 1) n _ (by omega) (by omega) (hF.u28 (Or.inr (Or.inr rfl))) hB.u18 (by rw [up_eq, sWr, if_neg q, Int.add_assoc])
theorem mN146 (hP : PG σ p g) (hV : sV g) (hD : σ 28 14 = rI D) (hD2 : D < 64) : ∀ (k r n : Nat) (τ : rp_S), k < n → (r : Int) + k = g 33 → NF σ τ → NB τ g (sD D) → τ 28 18 = rI (sWs g (sD D) r) →
    ∃ τ', NF σ τ' ∧ NB τ' g (sD D) ∧ τ' 28 18 = rI (sWs g (sD D) (g 33).toNat) ∧ fX7_nightOn_146 n τ (rI p) (rI r) = some τ' := by
  obtain ⟨v1, v2, v3, v4, v5, v6⟩ := id hV
  intro k
  induction k with
  | zero =>
    intro r n τ hn hr hF hB h
    obtain ⟨n, rfl⟩ : ∃ q, n = q + 1 := ⟨n - 1, by omega⟩
    rw [fX7_nightOn_146, rdP_33 (hF.pg hP), ob, if_pos (by rw [rI_le (by omega) (by omega) (by omega) (by omega)]; omega)]
    exact ⟨τ, hF, hB, by rw [h, show (g 33).toNat = r by omega], rfl⟩
  | succ k ih =>
    intro r n τ hn hr hF hB h
    obtain ⟨n, rfl⟩ : ∃ q, n = q + 1 := ⟨n - 1, by omega⟩
    have bs := sWs_b (sD D) v1.2 r
    rw [fX7_nightOn_146, rdP_33 (hF.pg hP), ob, if_neg (by rw [rI_le (by omega) (by omega) (by omega) (by omega)]; omega)]
    obtain ⟨τ1, hF1, hB1, h1, e1⟩ := mN161 hP hV hD hD2 (r := r) (by omega) (fun σ v1 v2 => fX7_nightOn_146 n σ v1 v2) (sWs g (sD D) r) bs.1 (by omega) (g 24).toNat 0 1000 τ (by omega) (by omega) hF hB (by rw [h, sWr, Int.add_zero])
    obtain ⟨τ2, hF2, hB2, h2, e2⟩ := ih (r + 1) n τ1 (by omega) (by omega) hF1 hB1 (by rw [h1, sWs])
    refine ⟨τ2, hF2, hB2, h2, ?_⟩
    rw [← e2]
    exact e1
theorem mNight (hP : PG σ p g) (hV : sV g) (hD : σ 28 14 = rI D) (hD2 : D < 64) : ∃ τ, NF σ τ ∧ NB τ g (sD D) ∧ τ 28 18 = rI (sWs g (sD D) (g 33).toNat) ∧ fX7_nightOn σ (rI p) = some τ := by
  unfold fX7_nightOn
  simp only [ob]
  obtain ⟨τ1, hF1, h1, h2, h3, h4, e1⟩ := mN17 (σ := σ) (p := p) 24 0 1000 (rp_up (rp_up (rp_up σ 28 16 (rI 0)) 28 17 (rI 0)) 28 18 (rI 0)) (by omega) (by omega) ((((NF.rf σ).u28 (Or.inl rfl)).u28 (Or.inr (Or.inl rfl))).u28 (Or.inr (Or.inr rfl))) (fun i hi => by omega) (by rw [up_nj (by omega), up_nj (by omega), up_eq]) (by rw [up_nj (by omega), up_eq]) up_eq
  have hI : NI σ τ1 g (sD D) 0 0 := ⟨hF1, fun r' w q1 q2 => by rw [h1 _ (by omega), if_neg (Nat.not_lt_zero r'), sCnt, ite_self], by rw [h2, sMin, sHit]; rfl, by rw [h3, sDark], h4⟩
  obtain ⟨τ2, hI2, e2⟩ := mN38 hP hV hD hD2 80 0 1000 τ1 (by omega) (by omega) hI
  obtain ⟨hF2, a1, a2, a3, a4⟩ := hI2
  have hB2 : NB τ2 g (sD D) := ⟨fun r w q1 q2 => by rw [a1 r w q1 q2, if_neg (Nat.not_lt_zero r), sRead], by rw [a2, sHit, Int.add_zero], a3⟩
  obtain ⟨τ3, hF3, hB3, h6, e3⟩ := mN146 hP hV hD hD2 (g 33).toNat 0 1000 τ2 (by have := hV.2.1; omega) (by have := hV.2.1; omega) hF2 hB2 (by rw [a4, sWs])
  refine ⟨τ3, hF3, hB3, h6, ?_⟩
  rw [show rI ((0 : Nat) : Int) = rI 0 from rfl] at e1 e2 e3
  rw [← e3, ← e2, ← e1]
end MOD
