/-! winds -/
def WF (σ τ : rp_S) : Prop := (∀ b, b ≠ 28 → b ≠ 29 → b ≠ 34 → b ≠ 36 → τ b = σ b) ∧ (∀ j : Nat, j < 144 → τ 29 j = σ 29 j) ∧ ∀ j : Nat, j ≠ 16 → j ≠ 17 → j ≠ 18 → τ 28 j = σ 28 j
theorem WF.q {σ τ : rp_S} (h : WF σ τ) : QF σ τ := ⟨fun b _ h1 h2 h3 h4 => h.1 b h1 h2 h3 h4, fun j hj => h.2.1 j (by omega), h.2.2⟩
theorem WF.tr {σ τ ρ : rp_S} (h : WF σ τ) (k : WF τ ρ) : WF σ ρ := ⟨fun b h1 h2 h3 h4 => (k.1 b h1 h2 h3 h4).trans (h.1 b h1 h2 h3 h4), fun j hj => (k.2.1 j hj).trans (h.2.1 j hj), fun j h1 h2 h3 => (k.2.2 j h1 h2 h3).trans (h.2.2 j h1 h2 h3)⟩
theorem WF.pg {σ τ : rp_S} {g : Nat → Int} (h : WF σ τ) (hP : PG σ 0 g) : PG τ 0 g := hP.kept (fun j _ q => h.2.1 j (by omega))
theorem MF.w {σ τ : rp_S} (h : MF σ τ) : WF σ τ := ⟨fun b h1 h2 h3 _ => h.1 b h1 h2 h3, h.2.1, h.2.2⟩
/-- the page in a wind -/
abbrev gB (g : Nat → Int) (m : Nat) : Nat → Int := gU g 34 ((m : Int) - 4)
theorem gB_V {g : Nat → Int} (hV : sV g) {m : Nat} (hm : m < 9) : sV (gB g m) := hV.setB (by omega)
def sWd (g : Nat → Int) (W P : Nat → Nat) (n : Nat) : Nat → Bool := fun m => sAg (gB g m) W P n 0
theorem cWinds {σ : rp_S} {g : Nat → Int} {n : Nat} {W P : Nat → Nat} (hN : NT σ 1 g) (hV : sV g) (hS : SN σ n W P) : ∃ τ, CF σ τ ∧ fX6_winds σ = some (rI (sBits (sWd g W P n) 9 : Nat), τ) := by
  obtain ⟨τ1, h1, h2, h3⟩ := cBecome (a := 5) (b := 1) hN hV (by omega)
  have c1 : CF σ τ1 := fun b hb => h1 b (by omega) (by omega) (by omega)
  have loop : ∀ (t m f : Nat) (ρ : rp_S) (x : Int), t < f → m + t = 9 → CF σ ρ → NT ρ 5 (gU g 34 x) → sV (gU g 34 x) → ∃ ρ', CF σ ρ' ∧ fX6_winds_20 f ρ (rI (sBits (sWd g W P n) m : Nat)) (rI m) = some (rI (sBits (sWd g W P n) 9 : Nat), ρ') := by
    intro t
    induction t with
    | zero =>
      intro m f ρ x hf2 hm hC hT hX
      obtain ⟨f, rfl⟩ : ∃ q, f = q + 1 := ⟨f - 1, by omega⟩
      have e : m = 9 := by omega
      subst e
      rw [fX6_winds_20, if_pos (by decide)]
      exact ⟨ρ, hC, rfl⟩
    | succ t ih =>
      intro m f ρ x hf2 hm hC hT hX
      obtain ⟨f, rfl⟩ : ∃ q, f = q + 1 := ⟨f - 1, by omega⟩
      have t1 := hT.setB hX (v := (m : Int) - 4) (x := (m : Int)) (by omega)
      rw [gU_gU] at t1
      have gv := gB_V hV (m := m) (by omega)
      have c2 : CF σ (rp_up ρ 5 4 (rI (m : Int))) := hC.u (by omega) (by omega)
      have ag := cAgree t1 gv (hS.q c2.q)
      have st := or_step (P := sWd g W P n) (k := m) (by omega)
      have eQ : sAg (gB g m) W P n 0 = sWd g W P n m := rfl
      rw [eQ] at ag
      rw [fX6_winds_20, if_neg (by rw [rI_le (by omega) (by omega) (by omega) (by omega)]; omega), ob, ag, ob]
      unfold fX6_winds_48
      simp only [rb_0, iI_s]
      have e := ih (m + 1) f (rp_up ρ 5 4 (rI (m : Int))) ((m : Int) - 4) (by omega) (by omega) c2 t1 gv
      rw [← st] at e
      by_cases z : sWd g W P n m = true
      · rw [if_neg (fun y => y z)]; rw [if_pos z] at e; exact e
      · rw [if_pos z]; rw [if_neg z, or_0] at e; exact e
  obtain ⟨ρ, g1, g2⟩ := loop 9 0 1000 τ1 (g 34) (by omega) (by omega) c1 (by rw [gU_id]; exact h2) (by rw [gU_id]; exact hV)
  refine ⟨ρ, g1, ?_⟩
  unfold fX6_winds
  rw [h3, ob]
  exact g2
theorem mWinds {σ : rp_S} {g : Nat → Int} {n : Nat} {W P : Nat → Nat} (hP : PG σ 0 g) (hV : sV g) (hS : SN σ n W P) : ∃ τ, WF σ τ ∧ (∀ m w : Nat, m < 9 → (w : Int) < g 24 → τ 36 (6 * m + w) = rI (sStick (gB g m) w)) ∧ fX7_windsNow σ = some (rI (sBits (sWd g W P n) 9 : Nat), τ) := by
  have v1 := hV.1
  obtain ⟨μ, m1, m2, m3⟩ := mTried hP
  have inner : ∀ (k12 : rp_S → Int32 → Int32 → Option (Int32 × rp_S)) (m : Nat) (b : Int32), m < 9 → ∀ (t w f : Nat) (ν : rp_S), t < f → (w : Int) + t = g 24 → WF σ ν → PG ν 144 (gB g m) → (∀ m' w' : Nat, m' < m → (w' : Int) < g 24 → ν 36 (6 * m' + w') = rI (sStick (gB g m') w')) → (∀ w' : Nat, w' < w → ν 36 (6 * m + w') = rI (sStick (gB g m) w')) →
      ∃ ν', WF σ ν' ∧ PG ν' 144 (gB g m) ∧ (∀ m' w' : Nat, m' < m + 1 → (w' : Int) < g 24 → ν' 36 (6 * m' + w') = rI (sStick (gB g m') w')) ∧ fX7_windsNow_51 k12 f ν b (rI m) (rI w) = k12 ν' b (rI ((m + 1 : Nat) : Int)) := by
    intro k12 m b hm t
    induction t with
    | zero =>
      intro w f ν hf hw hM hQ h1 h2
      obtain ⟨f, rfl⟩ : ∃ q, f = q + 1 := ⟨f - 1, by omega⟩
      rw [fX7_windsNow_51, rd24 (hM.pg hP), ob, if_pos (by rw [rI_le (by omega) (by omega) (by omega) (by omega)]; omega), iI_s]
      refine ⟨ν, hM, hQ, fun m' w' z1 z2 => ?_, rfl⟩
      by_cases z : m' = m
      · subst z; exact h2 w' (by omega)
      · exact h1 m' w' (by omega) z2
    | succ t ih =>
      intro w f ν hf hw hM hQ h1 h2
      obtain ⟨f, rfl⟩ : ∃ q, f = q + 1 := ⟨f - 1, by omega⟩
      have e24 : gB g m 24 = g 24 := gU_ne (by omega)
      have ms := mStick hQ (gB_V hV hm) (w := w) (by rw [e24]; omega)
      have w1 : rq_wr ν 36 54 (rI 6 * rI m + rI w) (rI (sStick (gB g m) w)) = some (rp_up ν 36 (6 * m + w) (rI (sStick (gB g m) w))) := by
        rw [rI_mul, rI_add, wr_ok (by omega) (by omega) (by omega), show ((6 : Int) * m + w).toNat = 6 * m + w by omega]
      rw [fX7_windsNow_51, rd24 (hM.pg hP), ob, if_neg (by rw [rI_le (by omega) (by omega) (by omega) (by omega)]; omega), ms, ob, w1, ob, iI_s]
      refine ih (w + 1) f _ (by omega) (by omega) ⟨fun b z1 z2 z3 z4 => by rw [up_ne z4]; exact hM.1 b z1 z2 z3 z4, fun j hj => by rw [up_ne (by omega)]; exact hM.2.1 j hj, fun j z1 z2 z3 => by rw [up_ne (by omega)]; exact hM.2.2 j z1 z2 z3⟩ (hQ.kept (fun j _ _ => by rw [up_ne (by omega)])) (fun m' w' z1 z2 => by rw [up_nj (by omega)]; exact h1 m' w' z1 z2) (fun w' hw' => ?_)
      by_cases z : w' = w
      · subst z; rw [up_eq]
      · rw [up_nj (by omega)]; exact h2 w' (by omega)
  have outer : ∀ (t m f : Nat) (ν : rp_S) (x : Int), t < f → m + t = 9 → WF σ ν → PG ν 144 (gU g 34 x) → (∀ m' w' : Nat, m' < m → (w' : Int) < g 24 → ν 36 (6 * m' + w') = rI (sStick (gB g m') w')) →
      ∃ ν', WF σ ν' ∧ (∀ m' w' : Nat, m' < 9 → (w' : Int) < g 24 → ν' 36 (6 * m' + w') = rI (sStick (gB g m') w')) ∧ fX7_windsNow_12 f ν (rI (sBits (sWd g W P n) m : Nat)) (rI m) = some (rI (sBits (sWd g W P n) 9 : Nat), ν') := by
    intro t
    induction t with
    | zero =>
      intro m f ν x hf hm hM hQ h1
      obtain ⟨f, rfl⟩ : ∃ q, f = q + 1 := ⟨f - 1, by omega⟩
      have e : m = 9 := by omega
      subst e
      rw [fX7_windsNow_12, if_pos (by decide)]
      exact ⟨ν, hM, h1, rfl⟩
    | succ t ih =>
      intro m f ν x hf hm hM hQ h1
      obtain ⟨f, rfl⟩ : ∃ q, f = q + 1 := ⟨f - 1, by omega⟩
      have q1 := hQ.set (j := 34) (by omega) ((m : Int) - 4)
      rw [gU_gU] at q1
      have q1' : PG (rp_up ν 29 (178 : Int).toNat (rI ((m : Int) - 4))) 144 (gB g m) := q1
      have fM : WF σ (rp_up ν 29 (178 : Int).toNat (rI ((m : Int) - 4))) := ⟨fun b z1 z2 z3 z4 => by rw [up_ne z2]; exact hM.1 b z1 z2 z3 z4, fun j hj => (up_nj (show j ≠ 178 by omega)).trans (hM.2.1 j hj), fun j z1 z2 z3 => by rw [up_ne (by omega)]; exact hM.2.2 j z1 z2 z3⟩
      have ag := mAgree (fM.pg hP) hV q1' (gB_V hV (by omega)) (gU_ne (by omega)) (hS.q fM.q)
      have eQ : sAg (gB g m) W P n 0 = sWd g W P n m := rfl
      rw [eQ] at ag
      have st := or_step (P := sWd g W P n) (k := m) (by omega)
      obtain ⟨ν2, i1, i2, i3, i4⟩ := inner (fun σ v1 v2 => fX7_windsNow_12 f σ v1 v2) m (rI (sBits (sWd g W P n) (m + 1) : Nat)) (by omega) (g 24).toNat 0 1000 _ (by omega) (by omega) fM q1' (fun m' w' z1 z2 => by rw [up_ne (by omega)]; exact h1 m' w' z1 z2) (fun w' hw' => by omega)
      obtain ⟨ν3, j1, j2, j3⟩ := ih (m + 1) f ν2 ((m : Int) - 4) (by omega) (by omega) i1 i2 i3
      refine ⟨ν3, j1, j2, ?_⟩
      rw [← st] at i4
      rw [fX7_windsNow_12, if_neg (by rw [rI_lt (by omega) (by omega) (by omega) (by omega)]; omega), rI_sub, wr_ok (by omega) (by omega) (by omega), ob, ag, ob]
      unfold fX7_windsNow_47
      simp only [rb_0]
      rw [← st] at j3
      by_cases z : sWd g W P n m = true
      · rw [if_neg (fun y => y z)]; rw [if_pos z] at i4 j3; exact i4.trans j3
      · rw [if_pos z]; rw [if_neg z] at i4 j3; exact i4.trans j3
  obtain ⟨ν, n1, n2, n3⟩ := outer 9 0 1000 μ (g 34) (by omega) (by omega) m1.w (by rw [gU_id]; exact m2) (fun m' w' z1 z2 => by omega)
  refine ⟨ν, n1, n2, ?_⟩
  unfold fX7_windsNow
  rw [m3, ob]
  exact n3
theorem op_winds {σ : rp_S} (h : Inv σ) : OpW (fX6_winds σ) (fun τ => fX7_winds τ) := by
  obtain ⟨g, hp, hr⟩ := id h
  obtain ⟨hP, hV, hN⟩ := id hp
  obtain ⟨n, W, P, hS⟩ := hr.2.1.sn
  obtain ⟨ρ, g1, g2⟩ := cWinds hN hV hS
  have hp' := hp.q g1.q
  obtain ⟨ν, n1, n2, n3⟩ := mWinds hp'.1 hV (hS.q g1.q)
  refine ⟨rI (sBits (sWd g W P n) 9 : Nat), ρ, ν, g2, ?_, h.q (g1.q.tr n1.q)⟩
  show fX7_winds _ = _
  unfold fX7_winds
  rw [n3, ob]
