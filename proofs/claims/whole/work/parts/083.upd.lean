/-! what changes the told page -/
def KF (σ τ : rp_S) : Prop := ∀ b : Nat, b ≠ 1 → b ≠ 2 → b ≠ 3 → τ b = σ b
def PF (σ τ : rp_S) : Prop := (∀ b : Nat, b ≠ 29 → τ b = σ b) ∧ ∀ j : Nat, 36 ≤ j → τ 29 j = σ 29 j
def UF (σ τ : rp_S) : Prop := (∀ b : Nat, b ≠ 1 → b ≠ 2 → b ≠ 3 → b ≠ 29 → τ b = σ b) ∧ ∀ j : Nat, 36 ≤ j → τ 29 j = σ 29 j
theorem KF.rf (σ : rp_S) : KF σ σ := fun _ _ _ _ => rfl
theorem PF.rf (σ : rp_S) : PF σ σ := ⟨fun _ _ => rfl, fun _ _ => rfl⟩
theorem KF.tr {σ τ ρ : rp_S} (h : KF σ τ) (k : KF τ ρ) : KF σ ρ := fun b h1 h2 h3 => (k b h1 h2 h3).trans (h b h1 h2 h3)
theorem PF.tr {σ τ ρ : rp_S} (h : PF σ τ) (k : PF τ ρ) : PF σ ρ := ⟨fun b h1 => (k.1 b h1).trans (h.1 b h1), fun j hj => (k.2 j hj).trans (h.2 j hj)⟩
theorem UF.tr {σ τ ρ : rp_S} (h : UF σ τ) (k : UF τ ρ) : UF σ ρ := ⟨fun b h1 h2 h3 h4 => (k.1 b h1 h2 h3 h4).trans (h.1 b h1 h2 h3 h4), fun j hj => (k.2 j hj).trans (h.2 j hj)⟩
theorem KF.u {σ τ : rp_S} (h : KF σ τ) : UF σ τ := ⟨fun b h1 h2 h3 _ => h b h1 h2 h3, fun j _ => by rw [h 29 (by omega) (by omega) (by omega)]⟩
theorem PF.u {σ τ : rp_S} (h : PF σ τ) : UF σ τ := ⟨fun b _ _ _ h4 => h.1 b h4, h.2⟩
theorem KF.up {σ τ : rp_S} {a j : Nat} {x : Int32} (h : KF σ τ) (h1 : 1 ≤ a) (h3 : a ≤ 3) : KF σ (rp_up τ a j x) := fun b q1 q2 q3 => by rw [up_ne (by omega)]; exact h b q1 q2 q3
theorem PF.up {σ τ : rp_S} {j : Nat} {x : Int32} (h : PF σ τ) (hj : j < 36) : PF σ (rp_up τ 29 j x) := ⟨fun b hb => by rw [up_ne hb]; exact h.1 b hb, fun i hi => by rw [up_nj (by omega)]; exact h.2 i hi⟩
theorem KF.pg {σ τ : rp_S} {p : Int} {g : Nat → Int} (h : KF σ τ) (hP : PG σ p g) : PG τ p g := hP.kept (fun j _ _ => by rw [h 29 (by omega) (by omega) (by omega)])
theorem PF.nt {σ τ : rp_S} {g : Nat → Int} (h : PF σ τ) (hN : NT σ 1 g) : NT τ 1 g := hN.kept (h.1 1 (by omega)) (h.1 2 (by omega)) (h.1 3 (by omega))
theorem iRest.u {σ τ : rp_S} (h : iRest σ) (q : UF σ τ) : iRest τ := by
  obtain ⟨a1, a2, a3, a4, a5, a6, a7⟩ := h
  have qb : ∀ b : Nat, b = 0 ∨ 4 ≤ b → b ≠ 29 → τ b = σ b := fun b h1 h2 => q.1 b (by omega) (by omega) (by omega) h2
  refine ⟨a1.kept ?_ ?_ ?_ ?_, a2.kept ?_ ?_ ?_ ?_ ?_, a3.kept ?_ ?_ (fun b h1 h2 => qb b (by omega) (by omega)) (fun j h1 h2 => q.2 j h1), a4.kept ?_ (fun b h1 h2 => qb b (by omega) (by omega)) (fun b h1 h2 => qb b (by omega) (by omega)), a5.kept ?_ ?_ ?_, ?_, ?_⟩
  · rw [qb 13 (by omega) (by omega)]
  · rw [qb 28 (by omega) (by omega)]
  · exact qb 14 (by omega) (by omega)
  · exact qb 31 (by omega) (by omega)
  · rw [qb 15 (by omega) (by omega)]
  · rw [qb 28 (by omega) (by omega)]
  · exact qb 16 (by omega) (by omega)
  · exact qb 17 (by omega) (by omega)
  · exact qb 35 (by omega) (by omega)
  · exact qb 37 (by omega) (by omega)
  · rw [qb 0 (by omega) (by omega)]
  · rw [qb 18 (by omega) (by omega)]
  · exact qb 32 (by omega) (by omega)
  · exact qb 33 (by omega) (by omega)
  · rw [qb 28 (by omega) (by omega)]
  · rw [qb 0 (by omega) (by omega), qb 28 (by omega) (by omega)]; exact a6
  · rw [qb 13 (by omega) (by omega), qb 28 (by omega) (by omega)]; exact a7
theorem updI {σ σ1 σ2 : rp_S} {g : Nat → Int} (h : iRest σ) (k : KF σ σ1) (p : PF σ1 σ2) (hN : NT σ1 1 g) (hP : PG σ2 0 g) (hV : sV g) : Inv σ2 := ⟨g, ⟨hP, hV, p.nt hN⟩, h.u (k.u.tr p.u)⟩
theorem PG.set0 {σ : rp_S} {g : Nat → Int} (h : PG σ 0 g) {j : Nat} (hj : j < 36) (v : Int) : PG (rp_up σ 29 j (rI v)) 0 (gU g j v) := by
  have := h.set hj v
  rw [show ((0 : Int) + (j : Int)).toNat = j by omega] at this
  exact this
theorem wr0 {σ : rp_S} {z : Int} {j : Nat} {x : Int32} (h : z = j) (hj : j < 36) : rq_wr σ 29 180 (rI z) x = some (rp_up σ 29 j x) := by
  subst h
  exact wr_n (by omega) (by omega)
theorem fitsW (σ : rp_S) (v : Int32) : ∀ k : Nat, k < 4 → fX6_fitsWork σ (rI (k : Int)) v = some (if fitW k v.toInt then rI 1 else rI 0) := by
  intro k hk
  have hk2 : k = 0 ∨ k = 1 ∨ k = 2 ∨ k = 3 := by omega
  unfold fX6_fitsWork
  rcases hk2 with rfl | rfl | rfl | rfl
  · rw [show fX6_within (rI ((0 : Nat) : Int)) (rI 0) (rI 3) = some (rI 1) from by decide, ob, if_neg (by decide), show rq_td 0 (rI ((0 : Nat) : Int)) = some (rI 0) from by decide, ob, show rq_td 1 (rI ((0 : Nat) : Int)) = some (rI 3) from by decide, ob, inAB v (by omega) (by omega) (by omega) (by omega), ob]
    simp only [rb_0]
    by_cases q : 0 ≤ v.toInt ∧ v.toInt ≤ 3
    · rw [if_neg (fun z => z q), if_pos (by omega)]
    · rw [if_pos q, if_neg (by omega)]
  · rw [show fX6_within (rI ((1 : Nat) : Int)) (rI 0) (rI 3) = some (rI 1) from by decide, ob, if_neg (by decide), show rq_td 0 (rI ((1 : Nat) : Int)) = some (rI 0) from by decide, ob, show rq_td 1 (rI ((1 : Nat) : Int)) = some (rI 11) from by decide, ob, inAB v (by omega) (by omega) (by omega) (by omega), ob]
    simp only [rb_0]
    by_cases q : 0 ≤ v.toInt ∧ v.toInt ≤ 11
    · rw [if_neg (fun z => z q), if_pos (by omega)]
    · rw [if_pos q, if_neg (by omega)]
  · rw [show fX6_within (rI ((2 : Nat) : Int)) (rI 0) (rI 3) = some (rI 1) from by decide, ob, if_neg (by decide), show rq_td 0 (rI ((2 : Nat) : Int)) = some (rI 0) from by decide, ob, show rq_td 1 (rI ((2 : Nat) : Int)) = some (rI 59) from by decide, ob, inAB v (by omega) (by omega) (by omega) (by omega), ob]
    simp only [rb_0]
    by_cases q : 0 ≤ v.toInt ∧ v.toInt ≤ 59
    · rw [if_neg (fun z => z q), if_pos (by omega)]
    · rw [if_pos q, if_neg (by omega)]
  · rw [show fX6_within (rI ((3 : Nat) : Int)) (rI 0) (rI 3) = some (rI 1) from by decide, ob, if_neg (by decide), show rq_td 0 (rI ((3 : Nat) : Int)) = some (rI 1) from by decide, ob, show rq_td 1 (rI ((3 : Nat) : Int)) = some (rI 9) from by decide, ob, inAB v (by omega) (by omega) (by omega) (by omega), ob]
    simp only [rb_0]
    by_cases q : 1 ≤ v.toInt ∧ v.toInt ≤ 9
    · rw [if_neg (fun z => z q), if_pos (by omega)]
    · rw [if_pos q, if_neg (by omega)]
theorem goodW (v : Int32) : ∀ k : Nat, k < 4 → fX7_isGood (rI (k : Int)) v = some (if fitW k v.toInt then rI 1 else rI 0) := by
  intro k hk
  have hk2 : k = 0 ∨ k = 1 ∨ k = 2 ∨ k = 3 := by omega
  unfold fX7_isGood
  rcases hk2 with rfl | rfl | rfl | rfl
  · rw [if_pos (by decide), in7 v (by omega) (by omega), ob, nar_b]
    by_cases q : 0 ≤ v.toInt ∧ v.toInt ≤ 3
    · rw [if_pos q, if_pos (by omega)]
    · rw [if_neg q, if_neg (by omega)]
  · rw [if_neg (by decide), if_pos (by decide), isPlc, ob, nar_b]
    by_cases q : 0 ≤ v.toInt ∧ v.toInt ≤ 11
    · rw [if_pos q, if_pos (by omega)]
    · rw [if_neg q, if_neg (by omega)]
  · rw [if_neg (by decide), if_neg (by decide), if_pos (by decide), in7 v (by omega) (by omega), ob, nar_b]
    by_cases q : 0 ≤ v.toInt ∧ v.toInt ≤ 59
    · rw [if_pos q, if_pos (by omega)]
    · rw [if_neg q, if_neg (by omega)]
  · rw [if_neg (by decide), if_neg (by decide), if_neg (by decide), if_pos (by decide), inI_ok v (by omega) (by omega) (by omega) (by omega), ob]
    simp only [rb_0]
    by_cases q : 1 ≤ v.toInt ∧ v.toInt ≤ 9
    · rw [if_neg (fun z => z q), if_pos (by omega)]
    · rw [if_pos q, if_neg (by omega)]
theorem fitsW_no (σ : rp_S) {u : Int32} (v : Int32) (h : ¬ (0 ≤ u.toInt ∧ u.toInt ≤ 3)) : fX6_fitsWork σ u v = some (rI 0) := by
  unfold fX6_fitsWork
  rw [in9 u (by omega) (by omega), ob]
  simp only [rb_0]
  rw [if_pos h]
theorem goodW_no {u : Int32} (v : Int32) (h : ¬ (0 ≤ u.toInt ∧ u.toInt ≤ 3)) : fX7_isGood u v = some (rI 0) := by
  unfold fX7_isGood
  rw [if_neg (show ¬ u = 0 from rI_ne (n := 0) (by omega) (by omega) (by omega)), if_neg (rI_ne (n := 1) (by omega) (by omega) (by omega)), if_neg (rI_ne (n := 2) (by omega) (by omega) (by omega)), if_neg (rI_ne (n := 3) (by omega) (by omega) (by omega))]
theorem fitsR (σ : rp_S) (v : Int32) : ∀ k : Nat, k < 2 → fX6_fitsReader σ (rI (k : Int)) v = some (if fitR k v.toInt then rI 1 else rI 0) := by
  intro k hk
  have hk2 : k = 0 ∨ k = 1 := by omega
  unfold fX6_fitsReader
  rcases hk2 with rfl | rfl
  · rw [show fX6_within (rI ((0 : Nat) : Int)) (rI 0) (rI 1) = some (rI 1) from by decide, ob, if_neg (by decide), show rq_td 2 (rI ((0 : Nat) : Int)) = some (rI 11) from by decide, ob, inAB v (by omega) (by omega) (by omega) (by omega), ob]
    simp only [rb_0]
    by_cases q : 0 ≤ v.toInt ∧ v.toInt ≤ 11
    · rw [if_neg (fun z => z q), if_pos (by omega)]
    · rw [if_pos q, if_neg (by omega)]
  · rw [show fX6_within (rI ((1 : Nat) : Int)) (rI 0) (rI 1) = some (rI 1) from by decide, ob, if_neg (by decide), show rq_td 2 (rI ((1 : Nat) : Int)) = some (rI 9) from by decide, ob, inAB v (by omega) (by omega) (by omega) (by omega), ob]
    simp only [rb_0]
    by_cases q : 0 ≤ v.toInt ∧ v.toInt ≤ 9
    · rw [if_neg (fun z => z q), if_pos (by omega)]
    · rw [if_pos q, if_neg (by omega)]
theorem fitsR_no (σ : rp_S) {u : Int32} (v : Int32) (h : ¬ (0 ≤ u.toInt ∧ u.toInt ≤ 1)) : fX6_fitsReader σ u v = some (rI 0) := by
  unfold fX6_fitsReader
  rw [in9 u (by omega) (by omega), ob]
  simp only [rb_0]
  rw [if_pos h]
/-! one more row -/
theorem NT.setN {σ : rp_S} {a : Nat} {g : Nat → Int} (h : NT σ a g) {v : Int} (hv : ∀ w k : Nat, (w : Int) < v → k < 4 → σ (a + 1) (4 * w + k) = rI (g (6 * k + w))) (h6 : v ≤ 6) : NT (rp_up σ a 2 (rI v)) a (gU g 24 v) := by
  obtain ⟨n1, n2, n3, n4, n5, n6⟩ := h
  have e33 : gU g 24 v 33 = g 33 := gU_ne (by omega)
  have e34 : gU g 24 v 34 = g 34 := gU_ne (by omega)
  have e35 : gU g 24 v 35 = g 35 := gU_ne (by omega)
  unfold NT
  rw [gU_eq, e33, e34, e35, up_eq, up_nj (by omega), up_nj (by omega), up_nj (by omega), up_ne (by omega), up_ne (by omega)]
  exact ⟨rfl, n2, n3, n4, fun w k q1 q2 => by rw [gU_ne (by omega)]; exact hv w k q1 q2, fun r k q1 q2 => by rw [gU_ne (by omega)]; exact n6 r k q1 q2⟩
theorem NT.setM {σ : rp_S} {a : Nat} {g : Nat → Int} (h : NT σ a g) (hV : sV g) {v : Int} (hv : ∀ r k : Nat, (r : Int) < v → k < 2 → σ (a + 2) (2 * r + k) = rI (g (25 + 4 * k + r))) (h6 : v ≤ 4) : NT (rp_up σ a 3 (rI v)) a (gU g 33 v) := by
  obtain ⟨n1, n2, n3, n4, n5, n6⟩ := h
  have v1 := hV.1
  have e24 : gU g 33 v 24 = g 24 := gU_ne (by omega)
  have e34 : gU g 33 v 34 = g 34 := gU_ne (by omega)
  have e35 : gU g 33 v 35 = g 35 := gU_ne (by omega)
  unfold NT
  rw [gU_eq, e24, e34, e35, up_eq, up_nj (by omega), up_nj (by omega), up_nj (by omega), up_ne (by omega), up_ne (by omega)]
  exact ⟨n1, rfl, n3, n4, fun w k q1 q2 => by rw [gU_ne (by omega)]; exact n5 w k q1 q2, fun r k q1 q2 => by rw [gU_ne (by omega)]; exact hv r k q1 q2⟩
theorem sV.setN {g : Nat → Int} (h : sV g) {v : Int} (h0 : 0 ≤ v) (h6 : v ≤ 6) (hv : ∀ w : Nat, (w : Int) < v → fitW 0 (g (6 * 0 + w)) ∧ fitW 1 (g (6 * 1 + w)) ∧ fitW 2 (g (6 * 2 + w)) ∧ fitW 3 (g (6 * 3 + w))) : sV (gU g 24 v) := by
  obtain ⟨v1, v2, v3, v4, v5, v6⟩ := h
  have e33 : gU g 24 v 33 = g 33 := gU_ne (by omega)
  have e34 : gU g 24 v 34 = g 34 := gU_ne (by omega)
  have e35 : gU g 24 v 35 = g 35 := gU_ne (by omega)
  unfold sV
  rw [gU_eq, e33, e34, e35]
  refine ⟨⟨h0, h6⟩, v2, v3, v4, fun w hw => ?_, fun r hr => ?_⟩
  · rw [gU_ne (by omega), gU_ne (by omega), gU_ne (by omega), gU_ne (by omega)]
    obtain ⟨a1, a2, a3, a4⟩ := hv w hw
    rw [show 6 * 0 + w = w by omega] at a1
    have a2' : fitW 1 (g (6 + w)) := a2
    have a3' : fitW 2 (g (12 + w)) := a3
    have a4' : fitW 3 (g (18 + w)) := a4
    omega
  · rw [gU_ne (by omega), gU_ne (by omega)]
    exact v6 r hr
theorem sV.setM {g : Nat → Int} (h : sV g) {v : Int} (h0 : 0 ≤ v) (h6 : v ≤ 4) (hv : ∀ r : Nat, (r : Int) < v → fitR 0 (g (25 + 4 * 0 + r)) ∧ fitR 1 (g (25 + 4 * 1 + r))) : sV (gU g 33 v) := by
  obtain ⟨v1, v2, v3, v4, v5, v6⟩ := h
  have e24 : gU g 33 v 24 = g 24 := gU_ne (by omega)
  have e34 : gU g 33 v 34 = g 34 := gU_ne (by omega)
  have e35 : gU g 33 v 35 = g 35 := gU_ne (by omega)
  unfold sV
  rw [gU_eq, e24, e34, e35]
  refine ⟨v1, ⟨h0, h6⟩, v3, v4, fun w hw => ?_, fun r hr => ?_⟩
  · rw [gU_ne (by omega), gU_ne (by omega), gU_ne (by omega), gU_ne (by omega)]
    exact v5 w hw
  · rw [gU_ne (by omega), gU_ne (by omega)]
    obtain ⟨a1, a2⟩ := hv r hr
    have a1' : fitR 0 (g (25 + r)) := a1
    have a2' : fitR 1 (g (29 + r)) := a2
    omega
theorem sV.rowW {g : Nat → Int} (h : sV g) {w : Nat} (hw : (w : Int) < g 24) : fitW 0 (g (6 * 0 + w)) ∧ fitW 1 (g (6 * 1 + w)) ∧ fitW 2 (g (6 * 2 + w)) ∧ fitW 3 (g (6 * 3 + w)) := by
  obtain ⟨a1, a2, a3, a4⟩ := h.2.2.2.2.1 w hw
  rw [show 6 * 0 + w = w by omega]
  have e1 : g (6 * 1 + w) = g (6 + w) := rfl
  have e2 : g (6 * 2 + w) = g (12 + w) := rfl
  have e3 : g (6 * 3 + w) = g (18 + w) := rfl
  omega
theorem sV.rowR {g : Nat → Int} (h : sV g) {r : Nat} (hr : (r : Int) < g 33) : fitR 0 (g (25 + 4 * 0 + r)) ∧ fitR 1 (g (25 + 4 * 1 + r)) := by
  obtain ⟨a1, a2⟩ := h.2.2.2.2.2 r hr
  have e1 : g (25 + 4 * 0 + r) = g (25 + r) := rfl
  have e2 : g (25 + 4 * 1 + r) = g (29 + r) := rfl
  omega
