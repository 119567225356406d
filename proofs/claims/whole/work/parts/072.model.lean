/-! THE REFERENCE'S NIGHT, on a page of its numbers -/
def PG (σ : rp_S) (p : Int) (g : Nat → Int) : Prop := 0 ≤ p ∧ p ≤ 144 ∧ ∀ i : Nat, i < 36 → σ 29 (p + i).toNat = rI (g i)
theorem rdP {σ : rp_S} {p z : Int} {g : Nat → Int} (hP : PG σ p g) (i : Nat) (hi : i < 36) (hz : z = p + i) : rq_rd σ 29 180 (rI z) = some (rI (g i)) := by
  obtain ⟨h1, h2, h3⟩ := hP
  rw [rd_ok (by omega) (by omega) (by omega), hz, h3 i hi]
theorem rdP_w {σ : rp_S} {p : Int} {g : Nat → Int} {w : Nat} (hP : PG σ p g) (hw : w < 6) : rq_rd σ 29 180 (rI p + rI w) = some (rI (g w)) := by rw [rI_add]; exact rdP hP w (by omega) rfl
theorem rdP_6 {σ : rp_S} {p : Int} {g : Nat → Int} {w : Nat} (hP : PG σ p g) (hw : w < 6) : rq_rd σ 29 180 (rI p + rI 6 + rI w) = some (rI (g (6 + w))) := by rw [rI_add, rI_add]; exact rdP hP (6 + w) (by omega) (by omega)
theorem rdP_12 {σ : rp_S} {p : Int} {g : Nat → Int} {w : Nat} (hP : PG σ p g) (hw : w < 6) : rq_rd σ 29 180 (rI p + rI 12 + rI w) = some (rI (g (12 + w))) := by rw [rI_add, rI_add]; exact rdP hP (12 + w) (by omega) (by omega)
theorem rdP_18 {σ : rp_S} {p : Int} {g : Nat → Int} {w : Nat} (hP : PG σ p g) (hw : w < 6) : rq_rd σ 29 180 (rI p + rI 18 + rI w) = some (rI (g (18 + w))) := by rw [rI_add, rI_add]; exact rdP hP (18 + w) (by omega) (by omega)
theorem rdP_25 {σ : rp_S} {p : Int} {g : Nat → Int} {r : Nat} (hP : PG σ p g) (hr : r < 4) : rq_rd σ 29 180 (rI p + rI 25 + rI r) = some (rI (g (25 + r))) := by rw [rI_add, rI_add]; exact rdP hP (25 + r) (by omega) (by omega)
theorem rdP_29 {σ : rp_S} {p : Int} {g : Nat → Int} {r : Nat} (hP : PG σ p g) (hr : r < 4) : rq_rd σ 29 180 (rI p + rI 29 + rI r) = some (rI (g (29 + r))) := by rw [rI_add, rI_add]; exact rdP hP (29 + r) (by omega) (by omega)
theorem rdP_24 {σ : rp_S} {p : Int} {g : Nat → Int} (hP : PG σ p g) : rq_rd σ 29 180 (rI p + rI 24) = some (rI (g 24)) := by rw [rI_add]; exact rdP hP 24 (by omega) rfl
theorem rdP_33 {σ : rp_S} {p : Int} {g : Nat → Int} (hP : PG σ p g) : rq_rd σ 29 180 (rI p + rI 33) = some (rI (g 33)) := by rw [rI_add]; exact rdP hP 33 (by omega) rfl
theorem rdP_34 {σ : rp_S} {p : Int} {g : Nat → Int} (hP : PG σ p g) : rq_rd σ 29 180 (rI p + rI 34) = some (rI (g 34)) := by rw [rI_add]; exact rdP hP 34 (by omega) rfl
theorem rdP_35 {σ : rp_S} {p : Int} {g : Nat → Int} (hP : PG σ p g) : rq_rd σ 29 180 (rI p + rI 35) = some (rI (g 35)) := by rw [rI_add]; exact rdP hP 35 (by omega) rfl
section MOD
variable {σ : rp_S} {p : Int} {g : Nat → Int} {D : Nat}
theorem mLast (hP : PG σ p g) (hV : sV g) {w : Nat} (hw : (w : Int) < g 24) : fX7_lastsOn σ (rI p) (rI w) = some (rI (sLast g w)) := by
  obtain ⟨v1, v2, v3, v4, v5, v6⟩ := hV
  obtain ⟨a1, a2, a3, a4⟩ := v5 w hw
  have w6 : w < 6 := by omega
  unfold fX7_lastsOn sLast
  simp only [rdP_w hP w6, rdP_18 hP w6, ob]
  simp (disch := omega) only [rI_eq0, rI_eq, rI_mul, rI_div, rI_add]
  repeat' split
  all_goals rfl
theorem mWide (hP : PG σ p g) (hV : sV g) {w : Nat} (hw : (w : Int) < g 24) : fX7_wideOn σ (rI p) (rI w) = some (rI (sWide g w)) := by
  obtain ⟨v1, v2, v3, v4, v5, v6⟩ := hV
  obtain ⟨a1, a2, a3, a4⟩ := v5 w hw
  have w6 : w < 6 := by omega
  unfold fX7_wideOn sWide
  simp only [rdP_w hP w6, rdP_18 hP w6, ob]
  simp (disch := omega) only [rI_eq0, rI_eq, rI_mul, rI_div, rI_add]
  repeat' split
  all_goals rfl
theorem mShore {z : Int} (h1 : -1000 ≤ z) (h2 : z ≤ 1000) : fX7_shore (rI z) = some (rI (sShore z)) := by
  unfold fX7_shore sShore
  simp (disch := omega) only [rI_ge0, rI_lt]
  repeat' split
  all_goals rfl
theorem mBurst (hP : PG σ p g) (hV : sV g) {w : Nat} (hw : (w : Int) < g 24) : fX7_burstOn σ (rI p) (rI w) = some (rI (sBurst g w)) := by
  obtain ⟨v1, v2, v3, v4, v5, v6⟩ := hV
  obtain ⟨a1, a2, a3, a4⟩ := v5 w hw
  have w6 : w < 6 := by omega
  unfold fX7_burstOn sBurst
  simp only [rdP_6 hP w6, rdP_34 hP, ob]
  rw [rI_add, mShore (by omega) (by omega)]
  rfl
theorem mStick (hP : PG σ p g) (hV : sV g) {w : Nat} (hw : (w : Int) < g 24) : fX7_stickOn σ (rI p) (rI w) = some (rI (sStick g w)) := by
  have hl := mLast hP hV hw
  have hb := mBurst hP hV hw
  obtain ⟨v1, v2, v3, v4, v5, v6⟩ := hV
  obtain ⟨a1, a2, a3, a4⟩ := v5 w hw
  have w6 : w < 6 := by omega
  have b1 := sLast_b a4.1 a4.2
  have b2 := sFly_b v3.1 v3.2 b1.1 b1.2
  have b3 := sBurst_b g w
  have b4 : -(g 34) * sLast g w = -(g 34 * sLast g w) := Int.neg_mul _ _
  unfold fX7_stickOn sStick
  simp only [rdP_34 hP, ob]
  simp (disch := omega) only [rI_ge0]
  unfold sFly at b2 ⊢
  by_cases h : 0 ≤ g 34
  · rw [if_pos h] at b2 ⊢
    rw [if_pos h]
    have c0 : 0 ≤ g 34 * sLast g w := Int.mul_nonneg h b1.1
    unfold fX7_stickOn_20
    simp only [hl, hb, ob]
    simp (disch := omega) only [rI_ge0, rI_mul, rI_div]
    rw [if_pos h]
    unfold fX7_stickOn_49
    rw [rI_add, mShore (by omega) (by omega)]
    rfl
  · rw [if_neg h] at b2 ⊢
    rw [if_neg h]
    have c0 : 0 ≤ -(g 34) * sLast g w := Int.mul_nonneg (by omega) b1.1
    unfold fX7_stickOn_20
    simp only [hl, hb, ob]
    simp (disch := omega) only [rI_ge0, rI_neg, rI_mul, rI_div]
    rw [if_neg h]
    unfold fX7_stickOn_49
    rw [rI_add, mShore (by omega) (by omega)]
    rfl
theorem mGoes (hP : PG σ p g) (hV : sV g) (hD : σ 28 14 = rI D) (hD2 : D < 64) {w : Nat} (hw : (w : Int) < g 24) : fX7_goesUp σ (rI p) (rI w) = some (if sGoes g (sD D) w then rI 1 else rI 0) := by
  obtain ⟨v1, v2, v3, v4, v5, v6⟩ := hV
  obtain ⟨a1, a2, a3, a4⟩ := v5 w hw
  have w6 : w < 6 := by omega
  unfold fX7_goesUp
  simp only [rdP_18 hP w6, rdP_35 hP, ob, hD, sD_bit D hD2 w w6]
  simp (disch := omega) only [rI_le]
  by_cases h1 : g (18 + w) ≤ g 35
  · rw [if_pos h1, if_neg (fun q => by have := q.1; omega)]
  · rw [if_neg h1]
    by_cases h2 : sD D w = false
    · rw [if_pos h2, if_pos ⟨by omega, h2⟩]
    · rw [if_neg h2, if_neg (fun q => h2 q.2)]
theorem mUp (hP : PG σ p g) (hV : sV g) (hD : σ 28 14 = rI D) (hD2 : D < 64) {w : Nat} (hw : (w : Int) < g 24) {m : Int} (hm : 0 ≤ m) (hm2 : m < 80) : fX7_isUp σ (rI p) (rI w) (rI m) = some (if sUp g (sD D) w m then rI 1 else rI 0) := by
  have hl := mLast hP hV hw
  have hg := mGoes hP hV hD hD2 hw
  obtain ⟨v1, v2, v3, v4, v5, v6⟩ := hV
  obtain ⟨a1, a2, a3, a4⟩ := v5 w hw
  have w6 : w < 6 := by omega
  have b1 := sLast_b a4.1 a4.2
  unfold fX7_isUp
  simp only [hg, ob, rb_0, rdP_12 hP w6, hl]
  rw [rI_add, rI_sub, rI_J (by omega) (by omega), rI_J (by omega) (by omega), rI_J (by omega) (by omega), in_ok (by omega) (by omega) (by omega) (by omega) (by omega) (by omega)]
  simp only [ob, rb_0]
  by_cases h1 : sGoes g (sD D) w
  · rw [if_neg (fun q => q h1)]
    by_cases h2 : g (12 + w) ≤ m ∧ m ≤ g (12 + w) + sLast g w - 1
    · rw [if_neg (fun q => q h2), if_pos ⟨h1, h2⟩]
    · rw [if_pos h2, if_neg (fun q => h2 q.2)]
  · rw [if_pos h1, if_neg (fun q => h1 q.1)]
theorem mApart {a b : Int} (h1 : 0 ≤ a) (h2 : a ≤ 11) (h3 : 0 ≤ b) (h4 : b ≤ 11) : fX7_apart (rI a) (rI b) = some (rI (if a ≤ b then b - a else a - b)) := by
  unfold fX7_apart
  simp (disch := omega) only [rI_le, rI_sub]
  split <;> rfl
theorem iI_s (w : Nat) : rI (w : Int) + rI 1 = rI ((w + 1 : Nat) : Int) := by rw [rI_add]; rfl
theorem mLk (hP : PG σ p g) (hV : sV g) (hD : σ 28 14 = rI D) (hD2 : D < 64) {r : Nat} (hr : (r : Int) < g 33) {m : Int} (hm : 0 ≤ m) (hm2 : m < 80) : ∀ (k w : Nat) (b near : Int) (n : Nat), k < n → (w : Int) + k = g 24 → 0 ≤ near → near ≤ 12 → fX7_looksOn_39 σ n (rI p) (rI r) (rI m) (rI b) (rI near) (rI w) = some (rI (sLk g (sD D) r m k w b near)) := by
  have hVV := hV
  obtain ⟨v1, v2, v3, v4, v5, v6⟩ := hV
  obtain ⟨r1, r2⟩ := v6 r hr
  intro k
  induction k with
  | zero =>
    intro w b near n hn hw h1 h2
    obtain ⟨n, rfl⟩ : ∃ q, n = q + 1 := ⟨n - 1, by omega⟩
    rw [fX7_looksOn_39, rdP_24 hP, ob, if_pos]
    · rfl
    · rw [rI_le (by omega) (by omega) (by omega) (by omega)]; omega
  | succ k ih =>
    intro w b near n hn hw h1 h2
    obtain ⟨n, rfl⟩ : ∃ q, n = q + 1 := ⟨n - 1, by omega⟩
    have hw24 : (w : Int) < g 24 := by omega
    have c1 := sBurst_b g w
    have c2 := sFar_b (w := w) r1.1 r1.2
    have c3 := sWide_b (v5 w hw24).2.2.2.1 (v5 w hw24).2.2.2.2
    rw [fX7_looksOn_39, rdP_24 hP, ob, if_neg (by rw [rI_le (by omega) (by omega) (by omega) (by omega)]; omega), mBurst hP hVV hw24, ob, rdP_25 hP (by omega), ob, mApart c1.1 c1.2 r1.1 r1.2, ob]
    rw [show (if sBurst g w ≤ g (25 + r) then g (25 + r) - sBurst g w else sBurst g w - g (25 + r)) = sFar g r w from rfl]
    rw [mWide hP hVV hw24, ob, mUp hP hVV hD hD2 hw24 hm hm2, ob, sLk]
    simp (disch := omega) only [rI_le, rI_lt, rb_0]
    unfold fX7_looksOn_114
    simp only [iI_s]
    by_cases q1 : near ≤ sFar g r w
    · rw [if_pos q1, if_neg (fun q => by have := q.1; omega)]
      exact ih (w + 1) b near n (by omega) (by omega) h1 h2
    · rw [if_neg q1]
      by_cases q2 : sWide g w < sFar g r w
      · rw [if_pos q2, if_neg (fun q => by have := q.2.1; omega)]
        exact ih (w + 1) b near n (by omega) (by omega) h1 h2
      · rw [if_neg q2]
        by_cases q3 : sUp g (sD D) w m
        · rw [if_neg (fun q => q q3), if_pos ⟨by omega, by omega, q3⟩]
          exact ih (w + 1) w (sFar g r w) n (by omega) (by omega) c2.1 (by omega)
        · rw [if_pos q3, if_neg (fun q => q3 q.2.2)]
          exact ih (w + 1) b near n (by omega) (by omega) h1 h2
theorem mLook (hP : PG σ p g) (hV : sV g) (hD : σ 28 14 = rI D) (hD2 : D < 64) {r : Nat} (hr : (r : Int) < g 33) {m : Int} (hm : 0 ≤ m) (hm2 : m < 80) : fX7_looksOn σ (rI p) (rI r) (rI m) = some (rI (sLook g (sD D) r m)) := by
  have hk := mLk hP hV hD hD2 hr hm hm2 (g 24).toNat 0 (-4) 12 1000 (by have := hV.1; omega) (by have := hV.1; omega) (by omega) (by omega)
  obtain ⟨v1, v2, v3, v4, v5, v6⟩ := hV
  obtain ⟨r1, r2⟩ := v6 r hr
  unfold fX7_looksOn fX7_looksOn_28 sLook
  rw [rdP_29 hP (by omega), ob]
  simp (disch := omega) only [rI_le0]
  by_cases h1 : g (29 + r) ≤ 0
  · rw [if_pos h1, if_neg (fun q => by have := q.1; omega)]
    exact hk
  · rw [if_neg h1, irem_ok hm (by omega) (by omega) (by omega), ob]
    have e1 : 0 ≤ m % g (29 + r) := Int.emod_nonneg _ (by omega)
    have e2 : m % g (29 + r) < g (29 + r) := Int.emod_lt_of_pos _ (by omega)
    simp (disch := omega) only [rI_eq0]
    by_cases h2 : m % g (29 + r) = 0
    · rw [if_pos h2, if_pos ⟨by omega, h2⟩]
    · rw [if_neg h2, if_neg (fun q => h2 q.2)]
      exact hk
end MOD
