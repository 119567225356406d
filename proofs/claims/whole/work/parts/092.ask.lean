/-! ask -/
theorem bit9 : ∀ B : Nat, B < 512 → ∀ m : Nat, m < 9 → (rI (B : Int) >>> (rI (m : Int) &&& 31)) &&& rI 1 = rI ((B / 2 ^ m % 2 : Nat) : Int) := by decide +kernel
theorem sBits_at (P : Nat → Bool) : ∀ k m : Nat, m < k → sBits P k / 2 ^ m % 2 = if P m = true then 1 else 0 := by
  intro k
  induction k with
  | zero => intro m hm; omega
  | succ k ih =>
    intro m hm
    rw [sBits]
    have b := sBits_b P k
    by_cases z : m = k
    · subst z
      cases h : P m with
      | true =>
        rw [if_pos rfl, if_pos rfl, Nat.add_div_right _ (Nat.two_pow_pos m), Nat.div_eq_of_lt b]
      | false =>
        rw [if_neg (by decide), if_neg (by decide), Nat.add_zero, Nat.div_eq_of_lt b]
    · have e := ih m (by omega)
      cases h : P k with
      | true =>
        rw [if_pos rfl, show 2 ^ k = 2 ^ m * (2 * 2 ^ (k - m - 1)) by rw [← Nat.pow_succ', ← Nat.pow_add]; congr 1; omega, Nat.add_mul_div_left _ _ (Nat.two_pow_pos m), Nat.add_mul_mod_self_left]
        exact e
      | false => rw [if_neg (by decide), Nat.add_zero]; exact e
theorem bit_is {Q : Nat → Bool} {m : Nat} (hm : m < 9) : ((rI (sBits Q 9 : Nat) >>> (rI (m : Int) &&& 31)) &&& rI 1 = rI 1) ↔ Q m = true := by
  rw [bit9 _ (sBits_512 Q (by omega)) m hm, sBits_at Q 9 m hm]
  by_cases z : Q m = true
  · rw [if_pos z]; exact ⟨fun _ => z, fun _ => rfl⟩
  · rw [if_neg z]; exact ⟨fun y => absurd y (by decide), fun y => absurd y z⟩
def sMax (F : Nat → Int) : Nat → Int
  | 0 => 0
  | k + 1 => if sMax F k ≤ F k then F k else sMax F k
theorem sMax_ge (F : Nat → Int) : ∀ k i : Nat, i < k → F i ≤ sMax F k := by
  intro k
  induction k with
  | zero => intro i hi; omega
  | succ k ih =>
    intro i hi
    rw [sMax]
    by_cases z : i = k
    · subst z; split <;> omega
    · have := ih i (by omega); split <;> omega
theorem sMax_0 (F : Nat → Int) : ∀ k : Nat, 0 ≤ sMax F k := by
  intro k
  induction k with
  | zero => exact Int.le_refl _
  | succ k ih => rw [sMax]; split <;> omega
theorem sMax_le {F : Nat → Int} {c : Int} (h0 : 0 ≤ c) : ∀ k : Nat, (∀ i, i < k → F i ≤ c) → sMax F k ≤ c := by
  intro k
  induction k with
  | zero => intro _; exact h0
  | succ k ih =>
    intro h
    have := ih (fun i hi => h i (by omega))
    have := h k (by omega)
    rw [sMax]; split <;> omega
/-- in how many of the winds told a work's stick comes down at a place -/
def sDrop (Q : Nat → Bool) (s : Nat → Int) (p : Int) : Nat → Int := sSum (fun m => if Q m = true ∧ s m = p then 1 else 0)
theorem sDrop_b (Q : Nat → Bool) (s : Nat → Int) (p : Int) : ∀ k, 0 ≤ sDrop Q s p k ∧ sDrop Q s p k ≤ k := by
  intro k
  induction k with
  | zero => unfold sDrop; rw [sSum]; omega
  | succ k ih => unfold sDrop at ih ⊢; rw [sSum]; split <;> omega
theorem sDrop_pos {Q : Nat → Bool} {s : Nat → Int} {p : Int} : ∀ k, 0 < sDrop Q s p k → ∃ m, m < k ∧ Q m = true ∧ s m = p := by
  intro k
  induction k with
  | zero => unfold sDrop; rw [sSum]; intro h; omega
  | succ k ih =>
    intro h
    by_cases z : Q k = true ∧ s k = p
    · exact ⟨k, by omega, z.1, z.2⟩
    · unfold sDrop at h ih
      rw [sSum, if_neg z, Int.add_zero] at h
      obtain ⟨m, m1, m2⟩ := ih h
      exact ⟨m, by omega, m2⟩
theorem sMax_two (Q : Nat → Bool) (s : Nat → Int) (hs : ∀ m, m < 9 → 0 ≤ s m ∧ s m ≤ 11) : sMax (fun p => sDrop Q s (p : Nat) 9) 12 = sMax (fun m => if Q m = true then sDrop Q s (s m) 9 else 0) 9 := by
  apply Int.le_antisymm
  · refine sMax_le (sMax_0 _ _) 12 (fun p hp => ?_)
    show sDrop Q s (p : Nat) 9 ≤ _
    have b := sDrop_b Q s (p : Nat) 9
    by_cases z : 0 < sDrop Q s (p : Nat) 9
    · obtain ⟨m, m1, m2, m3⟩ := sDrop_pos 9 z
      have := sMax_ge (fun m => if Q m = true then sDrop Q s (s m) 9 else 0) 9 m m1
      simp only [if_pos m2, m3] at this
      exact this
    · have := sMax_0 (fun m => if Q m = true then sDrop Q s (s m) 9 else 0) 9
      omega
  · refine sMax_le (sMax_0 _ _) 9 (fun m hm => ?_)
    show (if Q m = true then sDrop Q s (s m) 9 else 0) ≤ _
    by_cases z : Q m = true
    · rw [if_pos z]
      obtain ⟨b1, b2⟩ := hs m hm
      have := sMax_ge (fun p => sDrop Q s (p : Nat) 9) 12 (s m).toNat (by omega)
      simp only [show (((s m).toNat : Nat) : Int) = s m by omega] at this
      exact this
    · rw [if_neg z]; exact sMax_0 _ _
theorem cDrop {σ : rp_S} {g : Nat → Int} {Q : Nat → Bool} (hV : sV g) {w p : Nat} (hw : (w : Int) < g 24) (hp : p < 12) (x0 : Int) (hN : NT σ 5 (gU g 34 x0)) (hX0 : sV (gU g 34 x0)) : ∃ τ x, (∀ b, b ≠ 5 → τ b = σ b) ∧ NT τ 5 (gU g 34 x) ∧ sV (gU g 34 x) ∧ fX6_windsThatDrop σ 5 (rI w) (rI p) (rI (sBits Q 9 : Nat)) = some (rI (sDrop Q (fun m => sStick (gB g m) w) (p : Nat) 9), τ) := by
  have loop : ∀ (t m f : Nat) (ρ : rp_S) (x : Int), t < f → m + t = 9 → (∀ b, b ≠ 5 → ρ b = σ b) → NT ρ 5 (gU g 34 x) → sV (gU g 34 x) → ∃ ρ' x', (∀ b, b ≠ 5 → ρ' b = σ b) ∧ NT ρ' 5 (gU g 34 x') ∧ sV (gU g 34 x') ∧ fX6_windsThatDrop_6 5 f ρ (rI w) (rI p) (rI (sBits Q 9 : Nat)) (rI (sDrop Q (fun m => sStick (gB g m) w) (p : Nat) m)) (rI m) = some (rI (sDrop Q (fun m => sStick (gB g m) w) (p : Nat) 9), ρ') := by
    intro t
    induction t with
    | zero =>
      intro m f ρ x hf hm hC hT hX
      obtain ⟨f, rfl⟩ : ∃ q, f = q + 1 := ⟨f - 1, by omega⟩
      have e : m = 9 := by omega
      subst e
      rw [fX6_windsThatDrop_6, if_pos (by decide)]
      exact ⟨ρ, x, hC, hT, hX, rfl⟩
    | succ t ih =>
      intro m f ρ x hf hm hC hT hX
      obtain ⟨f, rfl⟩ : ∃ q, f = q + 1 := ⟨f - 1, by omega⟩
      have t1 := hT.setB hX (v := (m : Int) - 4) (x := (m : Int)) (by omega)
      rw [gU_gU] at t1
      have gv := gB_V hV (m := m) (by omega)
      have e24 : gB g m 24 = g 24 := gU_ne (by omega)
      have cs : fX1_stickOf (rp_up ρ 5 4 (rI (m : Int))) 5 (rI w) = some (rI (sStick (gB g m) w)) := cStick t1 gv (by show (w : Int) < gB g m 24; rw [e24]; exact hw)
      have sb := sStick_b (gB g m) w
      have e := ih (m + 1) f (rp_up ρ 5 4 (rI (m : Int))) ((m : Int) - 4) (by omega) (by omega) (fun b hb => by rw [up_ne hb]; exact hC b hb) t1 gv
      unfold sDrop at e ⊢
      rw [sSum] at e
      rw [fX6_windsThatDrop_6, if_neg (by rw [rI_le (by omega) (by omega) (by omega) (by omega)]; omega), ob, cs, ob]
      unfold fX6_windsThatDrop_41
      simp only [bit_is (Q := Q) (show m < 9 by omega), iI_s]
      simp (disch := omega) only [rI_eq]
      simp only [rI_add]
      by_cases z : Q m = true
      · rw [if_pos z]
        by_cases z2 : sStick (gB g m) w = (p : Int)
        · rw [if_pos z2]; rw [if_pos ⟨z, z2⟩] at e; exact e
        · rw [if_neg z2]; rw [if_neg (fun y => z2 y.2), Int.add_zero] at e; exact e
      · rw [if_neg z]; rw [if_neg (fun y => z y.1), Int.add_zero] at e; exact e
  unfold fX6_windsThatDrop
  exact loop 9 0 1000 σ x0 (by omega) (by omega) (fun _ _ => rfl) hN hX0
theorem rq_max2 {a b : Int} (h1 : 0 ≤ a) (h2 : a < 1000) (h3 : 0 ≤ b) (h4 : b < 1000) : rq_max (rI a) (rI b) = rI (if a ≤ b then b else a) := by
  rw [max_ok (by omega) (by omega) (by omega) (by omega)]
  congr 1
  by_cases z : a < b
  · rw [if_pos z, if_pos (by omega)]
  · rw [if_neg z]
    by_cases z2 : a ≤ b
    · rw [if_pos z2]; omega
    · rw [if_neg z2]
def sWst (g : Nat → Int) (Q : Nat → Bool) (w : Nat) : Int := sMax (fun p => sDrop Q (fun m => sStick (gB g m) w) (p : Nat) 9) 12
theorem sWst_b (g : Nat → Int) (Q : Nat → Bool) (w : Nat) : 0 ≤ sWst g Q w ∧ sWst g Q w ≤ 9 := ⟨sMax_0 _ _, sMax_le (by omega) _ (fun i _ => by have := sDrop_b Q (fun m => sStick (gB g m) w) (i : Nat) 9; show sDrop _ _ _ _ ≤ 9; omega)⟩
theorem cWorst {σ : rp_S} {g : Nat → Int} {Q : Nat → Bool} (hN : NT σ 1 g) (hV : sV g) {w : Nat} (hw : (w : Int) < g 24) : ∃ τ, CF σ τ ∧ τ 12 = σ 12 ∧ fX6_windsLeftAtWorst σ (rI w) (rI (sBits Q 9 : Nat)) = some (rI (sWst g Q w), τ) := by
  obtain ⟨τ1, h1, h2, h3⟩ := cBecome (a := 5) (b := 1) hN hV (by omega)
  obtain ⟨D, hD⟩ : ∃ D : Nat → Int, D = fun p => sDrop Q (fun m => sStick (gB g m) w) (p : Nat) 9 := ⟨_, rfl⟩
  have Db : ∀ p, 0 ≤ D p ∧ D p ≤ 9 := fun p => by rw [hD]; exact sDrop_b _ _ _ 9
  have loop : ∀ (t p f : Nat) (ρ : rp_S) (x : Int), t < f → p + t = 12 → CF τ1 ρ → ρ 12 = τ1 12 → NT ρ 5 (gU g 34 x) → sV (gU g 34 x) → ∃ ρ', CF τ1 ρ' ∧ ρ' 12 = τ1 12 ∧ fX6_windsLeftAtWorst_19 f ρ (rI w) (rI (sBits Q 9 : Nat)) (rI (sMax D p)) (rI p) = some (rI (sMax D 12), ρ') := by
    intro t
    induction t with
    | zero =>
      intro p f ρ x hf hp hC h12 hT hX
      obtain ⟨f, rfl⟩ : ∃ q, f = q + 1 := ⟨f - 1, by omega⟩
      have e : p = 12 := by omega
      subst e
      rw [fX6_windsLeftAtWorst_19, if_pos (by decide)]
      exact ⟨ρ, hC, h12, rfl⟩
    | succ t ih =>
      intro p f ρ x hf hp hC h12 hT hX
      obtain ⟨f, rfl⟩ : ∃ q, f = q + 1 := ⟨f - 1, by omega⟩
      obtain ⟨ρ2, x2, d1, d2, d3, d4⟩ := cDrop (Q := Q) hV hw (p := p) (by omega) x hT hX
      have eD : sDrop Q (fun m => sStick (gB g m) w) (p : Nat) 9 = D p := by rw [hD]
      rw [eD] at d4
      have b1 := Db p
      have b2 := sMax_0 D p
      have b3 := sMax_le (F := D) (c := 9) (by omega) p (fun i _ => (Db i).2)
      have e := ih (p + 1) f ρ2 x2 (by omega) (by omega) (fun b hb => by rw [d1 b (by omega)]; exact hC b hb) (by rw [d1 12 (by omega)]; exact h12) d2 d3
      rw [sMax] at e
      rw [fX6_windsLeftAtWorst_19, if_neg (by rw [rI_le (by omega) (by omega) (by omega) (by omega)]; omega), d4, ob, rq_max2 b2 (by omega) b1.1 (by omega), iI_s]
      exact e
  obtain ⟨ρ, g1, g2, g3⟩ := loop 12 0 1000 τ1 (g 34) (by omega) (by omega) (fun _ _ => rfl) rfl (by rw [gU_id]; exact h2) (by rw [gU_id]; exact hV)
  refine ⟨ρ, fun b hb => by rw [g1 b hb]; exact h1 b (by omega) (by omega) (by omega), by rw [g2]; exact h1 12 (by omega) (by omega) (by omega), ?_⟩
  unfold fX6_windsLeftAtWorst sWst
  rw [h3, ob, ← hD]
  exact g3
