/-! THE CLASS'S NIGHT at a cell, as a page -/
def NT (σ : rp_S) (a : Nat) (g : Nat → Int) : Prop := σ a 2 = rI (g 24) ∧ σ a 3 = rI (g 33) ∧ σ a 4 = rI (g 34 + 4) ∧ σ a 5 = rI (g 35) ∧ (∀ w k : Nat, (w : Int) < g 24 → k < 4 → σ (a + 1) (4 * w + k) = rI (g (6 * k + w))) ∧ ∀ r k : Nat, (r : Int) < g 33 → k < 2 → σ (a + 2) (2 * r + k) = rI (g (25 + 4 * k + r))
theorem NT.kept {σ τ : rp_S} {a : Nat} {g : Nat → Int} (h : NT σ a g) (h0 : τ a = σ a) (h1 : τ (a + 1) = σ (a + 1)) (h2 : τ (a + 2) = σ (a + 2)) : NT τ a g := by
  obtain ⟨a1, a2, a3, a4, a5, a6⟩ := h
  exact ⟨by rw [h0]; exact a1, by rw [h0]; exact a2, by rw [h0]; exact a3, by rw [h0]; exact a4, fun w k q1 q2 => by rw [h1]; exact a5 w k q1 q2, fun r k q1 q2 => by rw [h2]; exact a6 r k q1 q2⟩
section CLA
variable {σ : rp_S} {a : Nat} {g : Nat → Int}
theorem cOf (hN : NT σ a g) (hV : sV g) {w k : Nat} (hw : (w : Int) < g 24) (hk : k < 4) : fX1_ofWork σ a (rI w) (rI k) = some (rI (g (6 * k + w))) := by
  unfold fX1_ofWork
  have := hV.1
  rw [rI_mul, rI_add, rd_ok (by omega) (by omega) (by omega), ob, ← hN.2.2.2.2.1 w k hw hk]
  congr 3
  omega
theorem cOf0 (hN : NT σ a g) (hV : sV g) {w : Nat} (hw : (w : Int) < g 24) : fX1_ofWork σ a (rI w) (rI 0) = some (rI (g w)) := by
  have := cOf hN hV hw (k := 0) (by omega)
  simpa using this
theorem cOf1 (hN : NT σ a g) (hV : sV g) {w : Nat} (hw : (w : Int) < g 24) : fX1_ofWork σ a (rI w) (rI 1) = some (rI (g (6 + w))) := cOf hN hV hw (k := 1) (by omega)
theorem cOf2 (hN : NT σ a g) (hV : sV g) {w : Nat} (hw : (w : Int) < g 24) : fX1_ofWork σ a (rI w) (rI 2) = some (rI (g (12 + w))) := cOf hN hV hw (k := 2) (by omega)
theorem cOf3 (hN : NT σ a g) (hV : sV g) {w : Nat} (hw : (w : Int) < g 24) : fX1_ofWork σ a (rI w) (rI 3) = some (rI (g (18 + w))) := cOf hN hV hw (k := 3) (by omega)
theorem cRd (hN : NT σ a g) (hV : sV g) {r k : Nat} (hr : (r : Int) < g 33) (hk : k < 2) : fX1_ofReader σ a (rI r) (rI k) = some (rI (g (25 + 4 * k + r))) := by
  unfold fX1_ofReader
  have := hV.2.1
  rw [rI_mul, rI_add, rd_ok (by omega) (by omega) (by omega), ob, ← hN.2.2.2.2.2 r k hr hk]
  congr 3
  omega
theorem cRd0 (hN : NT σ a g) (hV : sV g) {r : Nat} (hr : (r : Int) < g 33) : fX1_ofReader σ a (rI r) (rI 0) = some (rI (g (25 + r))) := cRd hN hV hr (k := 0) (by omega)
theorem cRd1 (hN : NT σ a g) (hV : sV g) {r : Nat} (hr : (r : Int) < g 33) : fX1_ofReader σ a (rI r) (rI 1) = some (rI (g (29 + r))) := cRd hN hV hr (k := 1) (by omega)
theorem cLast (hN : NT σ a g) (hV : sV g) {w : Nat} (hw : (w : Int) < g 24) : fX1_lastsOf σ a (rI w) = some (rI (sLast g w)) := by
  obtain ⟨a1, a2, a3, a4⟩ := hV.2.2.2.2.1 w hw
  unfold fX1_lastsOf sLast
  simp only [cOf3 hN hV hw, cOf0 hN hV hw, ob]
  simp (disch := omega) only [rI_eq, rI_mul, rI_div, rI_add]
  have e : g (18 + w) / 2 + 1 = 1 + g (18 + w) / 2 := by omega
  rw [e]
  repeat' split
  all_goals rfl
theorem cWide (hN : NT σ a g) (hV : sV g) {w : Nat} (hw : (w : Int) < g 24) : fX1_wideOf σ a (rI w) = some (rI (sWide g w)) := by
  obtain ⟨a1, a2, a3, a4⟩ := hV.2.2.2.2.1 w hw
  unfold fX1_wideOf sWide
  simp only [cOf3 hN hV hw, cOf0 hN hV hw, ob]
  simp (disch := omega) only [rI_eq, rI_mul, rI_div, rI_add]
  repeat' split
  all_goals first | rfl | (exfalso; omega)
theorem cGoes (hN : NT σ a g) (hV : sV g) {w : Nat} (hw : (w : Int) < g 24) : fX1_goesUp σ a (rI w) = some (if g 35 < g (18 + w) then rI 1 else rI 0) := by
  obtain ⟨a1, a2, a3, a4⟩ := hV.2.2.2.2.1 w hw
  have := hV.2.2.2.1
  unfold fX1_goesUp
  simp only [cOf3 hN hV hw, ob, hN.2.2.2.1]
  simp (disch := omega) only [rI_le]
  by_cases h : g (18 + w) ≤ g 35
  · rw [if_pos h, if_neg (by omega)]
  · rw [if_neg h, if_pos (by omega)]
theorem cClamp {z : Int} (h1 : -1000 ≤ z) (h2 : z ≤ 1000) : fX6_clampToDyke (rI z) = some (rI (sShore z)) := by
  unfold fX6_clampToDyke sShore
  rw [min_ok (by omega) (by omega) (by omega) (by omega), max_ok (by omega) (by omega) (by split <;> omega) (by split <;> omega)]
  congr 2
  repeat' split
  all_goals omega
theorem cBurst (hN : NT σ a g) (hV : sV g) {w : Nat} (hw : (w : Int) < g 24) : fX1_burstOf σ a (rI w) = some (rI (sBurst g w)) := by
  obtain ⟨a1, a2, a3, a4⟩ := hV.2.2.2.2.1 w hw
  have := hV.2.2.1
  unfold fX1_burstOf sBurst
  rw [cOf1 hN hV hw, ob, hN.2.2.1, rI_add, rI_sub, cClamp (by omega) (by omega), ob, show g (6 + w) + (g 34 + 4) - 4 = g (6 + w) + g 34 by omega]
theorem rI_tdiv4 {z : Int} (h1 : -1000 ≤ z) (h2 : z ≤ 1000) : rI z / rI 4 = rI (if 0 ≤ z then z / 4 else -((-z) / 4)) := by
  rw [← Int32.toInt_inj, Int32.toInt_div_of_ne_right _ _ (by decide), rI_toInt (by omega) (by omega), rI_toInt (by omega) (by omega), rI_toInt (by split <;> omega) (by split <;> omega)]
  by_cases h : 0 ≤ z
  · rw [if_pos h, Int.tdiv_eq_ediv_of_nonneg h]
  · rw [if_neg h]
    have e : z = -(-z) := by omega
    conv => lhs; rw [e, Int.neg_tdiv, Int.tdiv_eq_ediv_of_nonneg (by omega)]
theorem cStick (hN : NT σ a g) (hV : sV g) {w : Nat} (hw : (w : Int) < g 24) : fX1_stickOf σ a (rI w) = some (rI (sStick g w)) := by
  obtain ⟨a1, a2, a3, a4⟩ := hV.2.2.2.2.1 w hw
  have v3 := hV.2.2.1
  have b1 := sLast_b a4.1 a4.2
  have b2 := sFly_b v3.1 v3.2 b1.1 b1.2
  have b3 := sBurst_b g w
  unfold fX1_stickOf sStick
  rw [cBurst hN hV hw, ob, cLast hN hV hw, ob, hN.2.2.1, rI_sub, rI_mul, show g 34 + 4 - 4 = g 34 by omega, rI_tdiv4 (by omega) (by omega), rI_add]
  have e : (if 0 ≤ g 34 * sLast g w then g 34 * sLast g w / 4 else -(-(g 34 * sLast g w) / 4)) = sFly g w := by
    unfold sFly
    rw [Int.neg_mul]
    by_cases h : 0 ≤ g 34
    · rw [if_pos (Int.mul_nonneg h b1.1), if_pos h]
    · rw [if_neg h]
      by_cases h2 : 0 ≤ g 34 * sLast g w
      · rw [if_pos h2]
        have : g 34 * sLast g w ≤ 0 := Int.mul_nonpos_of_nonpos_of_nonneg (by omega) b1.1
        omega
      · rw [if_neg h2]
  rw [e, cClamp (by omega) (by omega), ob]
end CLA
/-! what is seen of a night -/
def SH (σ : rp_S) (g : Nat → Int) (d : Nat → Bool) : Prop := NT σ 5 g ∧ ∀ w : Nat, (w : Int) < g 24 → σ 8 w = rI (g (12 + w)) ∧ σ 9 w = rI (g (12 + w) + (if sGoes g d w then sLast g w else 0)) ∧ σ 10 w = rI (sBurst g w) ∧ σ 11 w = rI (sWide g w)
section SHO
variable {σ : rp_S} {g : Nat → Int} {d : Nat → Bool}
theorem rd_n {σ : rp_S} {a n w : Nat} (h : w < n) (hn : n < 1000) : rq_rd σ a n (rI w) = some (σ a w) := by
  rw [rd_ok (by omega) (by omega) (by omega)]; rfl
theorem wr_n {σ : rp_S} {a n w : Nat} {x : Int32} (h : w < n) (hn : n < 1000) : rq_wr σ a n (rI w) x = some (rp_up σ a w x) := by
  rw [wr_ok (by omega) (by omega) (by omega)]; rfl
theorem cUp (hS : SH σ g d) (hV : sV g) {w : Nat} (hw : (w : Int) < g 24) {m : Int} (hm : 0 ≤ m) (hm2 : m < 80) : fX3_isUp σ (rI w) (rI m) = some (if sUp g d w m then rI 1 else rI 0) := by
  obtain ⟨a1, a2, a3, a4⟩ := hV.2.2.2.2.1 w hw
  have v1 := hV.1
  have b1 := sLast_b a4.1 a4.2
  obtain ⟨e1, e2, e3, e4⟩ := hS.2 w hw
  unfold fX3_isUp
  rw [rd_n (by omega) (by omega), ob, rd_n (by omega) (by omega), ob, e1, e2]
  by_cases h1 : sGoes g d w
  · rw [if_pos h1]
    simp (disch := omega) only [rI_lt, rI_le]
    by_cases h2 : m < g (12 + w)
    · rw [if_pos h2, if_neg (fun q => by have := q.2.1; omega)]
    · rw [if_neg h2]
      by_cases h3 : g (12 + w) + sLast g w ≤ m
      · rw [if_pos h3, if_neg (fun q => by have := q.2.2; omega)]
      · rw [if_neg h3, if_pos ⟨h1, by omega, by omega⟩]
  · rw [if_neg h1]
    simp (disch := omega) only [rI_lt, rI_le]
    rw [if_neg (fun q : sUp g d w m => h1 q.1)]
    by_cases h2 : m < g (12 + w)
    · rw [if_pos h2]
    · rw [if_neg h2, if_pos (by omega)]
theorem far_abs {r w : Nat} (h : 0 ≤ g (25 + r)) (h2 : g (25 + r) ≤ 11) : rq_abs (rI (sBurst g w) - rI (g (25 + r))) = rI (sFar g r w) := by
  have b := sBurst_b g w
  rw [rI_sub, abs_ok (by omega) (by omega)]
  congr 1
  unfold sFar
  repeat' split
  all_goals omega
theorem cCough (hS : SH σ g d) (hV : sV g) {r : Nat} (hr : (r : Int) < g 33) {m : Int} (hm : 0 ≤ m) (hm2 : m < 80) : fX3_coughsAt σ (rI r) (rI m) = some (if sCough g r m then rI 1 else rI 0) := by
  obtain ⟨r1, r2⟩ := hV.2.2.2.2.2 r hr
  unfold fX3_coughsAt
  rw [cRd1 hS.1 hV hr, ob]
  simp (disch := omega) only [rI_le0]
  by_cases h1 : g (29 + r) ≤ 0
  · rw [if_pos h1, if_neg (fun q => by have := q.1; omega)]
  · have e1 : 0 ≤ m % g (29 + r) := Int.emod_nonneg _ (by omega)
    have e2 : m % g (29 + r) < g (29 + r) := Int.emod_lt_of_pos _ (by omega)
    rw [if_neg h1, irem_ok hm (by omega) (by omega) (by omega), ob]
    simp (disch := omega) only [rI_eq0]
    by_cases h2 : m % g (29 + r) = 0
    · rw [if_pos h2, if_pos ⟨by omega, h2⟩]
    · rw [if_neg h2, if_neg (fun q => h2 q.2)]
theorem cLk (hS : SH σ g d) (hV : sV g) {r : Nat} (hr : (r : Int) < g 33) {m : Int} (hm : 0 ≤ m) (hm2 : m < 80) : ∀ (k w : Nat) (b near : Int) (n : Nat), k < n → (w : Int) + k = g 24 → 0 ≤ near → near ≤ 12 → fX3_lookedAt_33 σ n (rI m) (rI (g (25 + r))) (rI b) (rI near) (rI w) = some (rI (sLk g d r m k w b near)) := by
  obtain ⟨v1, v2, v3, v4, v5, v6⟩ := id hV
  obtain ⟨r1, r2⟩ := v6 r hr
  intro k
  induction k with
  | zero =>
    intro w b near n hn hw h1 h2
    obtain ⟨n, rfl⟩ : ∃ q, n = q + 1 := ⟨n - 1, by omega⟩
    rw [fX3_lookedAt_33, hS.1.1, if_pos (by rw [rI_le (by omega) (by omega) (by omega) (by omega)]; omega)]
    rfl
  | succ k ih =>
    intro w b near n hn hw h1 h2
    obtain ⟨n, rfl⟩ : ∃ q, n = q + 1 := ⟨n - 1, by omega⟩
    have hw24 : (w : Int) < g 24 := by omega
    obtain ⟨e1, e2, e3, e4⟩ := hS.2 w hw24
    have c2 := sFar_b (w := w) r1.1 r1.2
    have c3 := sWide_b (v5 w hw24).2.2.2.1 (v5 w hw24).2.2.2.2
    rw [fX3_lookedAt_33, hS.1.1, if_neg (by rw [rI_le (by omega) (by omega) (by omega) (by omega)]; omega), rd_n (by omega) (by omega), ob, cUp hS hV hw24 hm hm2, ob, rd_n (by omega) (by omega), ob, e3, e4, far_abs r1.1 r1.2, sLk]
    simp (disch := omega) only [rI_le, rI_lt, rb_0]
    unfold fX3_lookedAt_96
    simp only [iI_s]
    by_cases q3 : sUp g d w m
    · rw [if_neg (fun q => q q3)]
      by_cases q2 : sWide g w < sFar g r w
      · rw [if_pos q2, if_neg (fun q => by have := q.2.1; omega)]
        exact ih (w + 1) b near n (by omega) (by omega) h1 h2
      · rw [if_neg q2]
        by_cases q1 : near ≤ sFar g r w
        · rw [if_pos q1, if_neg (fun q => by have := q.1; omega)]
          exact ih (w + 1) b near n (by omega) (by omega) h1 h2
        · rw [if_neg q1, if_pos ⟨by omega, by omega, q3⟩]
          exact ih (w + 1) w (sFar g r w) n (by omega) (by omega) c2.1 (by omega)
    · rw [if_pos q3, if_neg (fun q => q3 q.2.2)]
      exact ih (w + 1) b near n (by omega) (by omega) h1 h2
theorem cLook (hS : SH σ g d) (hV : sV g) {r : Nat} (hr : (r : Int) < g 33) {m : Int} (hm : 0 ≤ m) (hm2 : m < 80) : fX3_lookedAt σ (rI r) (rI m) = some (rI (sLook g d r m)) := by
  have hk := cLk hS hV hr hm hm2 (g 24).toNat 0 (-4) 12 1000 (by have := hV.1; omega) (by have := hV.1; omega) (by omega) (by omega)
  rw [show rI ((0 : Nat) : Int) = rI 0 from rfl] at hk
  unfold fX3_lookedAt sLook
  rw [cCough hS hV hr hm hm2, ob, cRd0 hS.1 hV hr, ob]
  simp only [rb_0]
  by_cases h : sCough g r m
  · rw [if_neg (fun q => q h), if_pos h]
  · rw [if_pos h, if_neg h]
    exact hk
/-! settling -/
def SF (σ τ : rp_S) : Prop := ∀ b, b ≠ 8 → b ≠ 9 → b ≠ 10 → b ≠ 11 → τ b = σ b
theorem SF.nt {σ τ : rp_S} (h : SF σ τ) (hN : NT σ 5 g) : NT τ 5 g := hN.kept (h 5 (by omega) (by omega) (by omega) (by omega)) (h 6 (by omega) (by omega) (by omega) (by omega)) (h 7 (by omega) (by omega) (by omega) (by omega))
theorem SF.u {σ τ : rp_S} {a j : Nat} {x : Int32} (ha : a = 8 ∨ a = 9 ∨ a = 10 ∨ a = 11) (h : SF σ τ) : SF σ (rp_up τ a j x) := fun b h1 h2 h3 h4 => by rw [up_ne (by omega)]; exact h b h1 h2 h3 h4
theorem cSettle2 (hN : NT σ 5 g) (hV : sV g) : ∀ (k w n : Nat) (τ : rp_S), k < n → (w : Int) + k = g 24 → SF σ τ → (∀ w' : Nat, w' < w → τ 8 w' = rI (g (12 + w')) ∧ τ 9 w' = rI (g (12 + w') + (if sGoes g (sD 0) w' then sLast g w' else 0)) ∧ τ 10 w' = rI (sBurst g w') ∧ τ 11 w' = rI (sWide g w')) →
    ∃ τ', SF σ τ' ∧ SH τ' g (sD 0) ∧ fX3_settle_2 n τ (rI w) = some τ' := by
  obtain ⟨v1, v2, v3, v4, v5, v6⟩ := id hV
  intro k
  induction k with
  | zero =>
    intro w n τ hn hw hF h
    obtain ⟨n, rfl⟩ : ∃ q, n = q + 1 := ⟨n - 1, by omega⟩
    rw [fX3_settle_2, (hF.nt hN).1, if_pos (by rw [rI_le (by omega) (by omega) (by omega) (by omega)]; omega)]
    exact ⟨τ, hF, ⟨hF.nt hN, fun w' hw' => h w' (by omega)⟩, rfl⟩
  | succ k ih =>
    intro w n τ hn hw hF h
    obtain ⟨n, rfl⟩ : ∃ q, n = q + 1 := ⟨n - 1, by omega⟩
    have hw24 : (w : Int) < g 24 := by omega
    have b1 := sLast_b (v5 w hw24).2.2.2.1 (v5 w hw24).2.2.2.2
    have hF1 : SF σ (rp_up τ 8 w (rI (g (12 + w)))) := hF.u (Or.inl rfl)
    have hN1 := hF1.nt hN
    rw [fX3_settle_2, (hF.nt hN).1, if_neg (by rw [rI_le (by omega) (by omega) (by omega) (by omega)]; omega), cOf2 (hF.nt hN) hV hw24, ob, wr_n (by omega) (by omega), ob, rd_n (by omega) (by omega), ob, up_eq, cGoes hN1 hV hw24, ob, cLast hN1 hV hw24, ob]
    simp only [rb_0]
    have step : ∀ z : Int, z = (if sGoes g (sD 0) w then sLast g w else 0) → ∃ τ', SF σ τ' ∧ SH τ' g (sD 0) ∧ fX3_settle_62 (fun σ v1 => fX3_settle_2 n σ v1) (rp_up τ 8 w (rI (g (12 + w)))) (rI w) (rI z) (rI (g (12 + w))) (rI w) = some τ' := by
      intro z hz
      unfold fX3_settle_62
      have hF2 : SF σ (rp_up (rp_up τ 8 w (rI (g (12 + w)))) 9 w (rI (g (12 + w) + z))) := hF1.u (by omega)
      have hF3 : SF σ (rp_up (rp_up (rp_up τ 8 w (rI (g (12 + w)))) 9 w (rI (g (12 + w) + z))) 10 w (rI (sBurst g w))) := hF2.u (by omega)
      rw [rI_add, wr_n (by omega) (by omega), ob, cBurst (hF2.nt hN) hV hw24, ob, wr_n (by omega) (by omega), ob, cWide (hF3.nt hN) hV hw24, ob, wr_n (by omega) (by omega), ob]
      simp only [iI_s]
      refine ih (w + 1) n _ (by omega) (by omega) (hF3.u (by omega)) ?_
      intro w' hw'
      by_cases q : w' = w
      · subst q
        refine ⟨?_, ?_, ?_, ?_⟩
        · rw [up_ne (by omega), up_ne (by omega), up_ne (by omega), up_eq]
        · rw [up_ne (by omega), up_ne (by omega), up_eq, hz]
        · rw [up_ne (by omega), up_eq]
        · rw [up_eq]
      · obtain ⟨f1, f2, f3, f4⟩ := h w' (by omega)
        refine ⟨?_, ?_, ?_, ?_⟩
        · rw [up_nj q, up_nj q, up_nj q, up_nj q, f1]
        · rw [up_nj q, up_nj q, up_nj q, up_nj q, f2]
        · rw [up_nj q, up_nj q, up_nj q, up_nj q, f3]
        · rw [up_nj q, up_nj q, up_nj q, up_nj q, f4]
    by_cases q : g 35 < g (18 + w)
    · rw [if_neg (fun z => z q)]
      exact step _ (by rw [if_pos ⟨q, sD_0 w⟩])
    · rw [if_pos q]
      exact step _ (by rw [if_neg (fun z => q z.1)])
theorem cSettle (hN : NT σ 5 g) (hV : sV g) : ∃ τ, SF σ τ ∧ SH τ g (sD 0) ∧ fX3_settle σ = some τ := by
  have := hV.1
  obtain ⟨τ, h1, h2, h3⟩ := cSettle2 hN hV (g 24).toNat 0 1000 σ (by omega) (by omega) (fun _ _ _ _ _ => rfl) (fun w' h => absurd h (Nat.not_lt_zero w'))
  refine ⟨τ, h1, h2, ?_⟩
  unfold fX3_settle
  rw [← h3]
  rfl
end SHO
