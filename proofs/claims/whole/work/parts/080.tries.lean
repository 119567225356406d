/-! A PAGE WITH ONE NUMBER CHANGED -/
def gU (g : Nat → Int) (j : Nat) (v : Int) : Nat → Int := fun i => if i = j then v else g i
theorem gU_at (g : Nat → Int) (j : Nat) (v : Int) (i : Nat) : gU g j v i = if i = j then v else g i := rfl
theorem gU_eq (g : Nat → Int) (j : Nat) (v : Int) : gU g j v j = v := by rw [gU_at, if_pos rfl]
theorem gU_ne {g : Nat → Int} {j : Nat} {v : Int} {i : Nat} (h : i ≠ j) : gU g j v i = g i := by rw [gU_at, if_neg h]
theorem gU_gU (g : Nat → Int) (j : Nat) (u v : Int) : gU (gU g j u) j v = gU g j v := by
  funext i
  rw [gU_at, gU_at, gU_at]
  split <;> rfl
theorem gU_id (g : Nat → Int) (j : Nat) : gU g j (g j) = g := by
  funext i
  rw [gU_at]
  split
  · next h => rw [h]
  · rfl
theorem PG.set {σ : rp_S} {p : Int} {g : Nat → Int} (h : PG σ p g) {j : Nat} (hj : j < 36) (v : Int) : PG (rp_up σ 29 (p + j).toNat (rI v)) p (gU g j v) := by
  obtain ⟨a, b, c⟩ := h
  refine ⟨a, b, fun i hi => ?_⟩
  rw [up_at, gU_at]
  by_cases q : i = j
  · subst q; rw [if_pos ⟨rfl, rfl⟩, if_pos rfl]
  · rw [if_neg (fun z => q (by omega)), if_neg q]
    exact c i hi
theorem NT.setW {σ : rp_S} {a : Nat} {g : Nat → Int} (h : NT σ a g) (hV : sV g) {w k : Nat} (hw : w < 6) (hk : k < 4) (v : Int) : NT (rp_up σ (a + 1) (4 * w + k) (rI v)) a (gU g (6 * k + w) v) := by
  obtain ⟨n1, n2, n3, n4, n5, n6⟩ := h
  have v1 := hV.1
  have v2 := hV.2.1
  have e24 : gU g (6 * k + w) v 24 = g 24 := gU_ne (by omega)
  have e33 : gU g (6 * k + w) v 33 = g 33 := gU_ne (by omega)
  have e34 : gU g (6 * k + w) v 34 = g 34 := gU_ne (by omega)
  have e35 : gU g (6 * k + w) v 35 = g 35 := gU_ne (by omega)
  unfold NT
  rw [e24, e33, e34, e35, up_ne (show a ≠ a + 1 by omega)]
  refine ⟨n1, n2, n3, n4, fun w' k' q1 q2 => ?_, fun r' k' q1 q2 => ?_⟩
  · rw [up_at, gU_at]
    by_cases q : w' = w ∧ k' = k
    · obtain ⟨rfl, rfl⟩ := q
      rw [if_pos ⟨rfl, rfl⟩, if_pos rfl]
    · rw [if_neg (fun z => q (by omega)), if_neg (fun z => q (by omega))]
      exact n5 w' k' q1 q2
  · rw [gU_ne (by omega), up_ne (show a + 2 ≠ a + 1 by omega)]
    exact n6 r' k' q1 q2
theorem NT.setR {σ : rp_S} {a : Nat} {g : Nat → Int} (h : NT σ a g) (hV : sV g) {r k : Nat} (hr : r < 4) (hk : k < 2) (v : Int) : NT (rp_up σ (a + 2) (2 * r + k) (rI v)) a (gU g (25 + 4 * k + r) v) := by
  obtain ⟨n1, n2, n3, n4, n5, n6⟩ := h
  have v1 := hV.1
  have v2 := hV.2.1
  have e24 : gU g (25 + 4 * k + r) v 24 = g 24 := gU_ne (by omega)
  have e33 : gU g (25 + 4 * k + r) v 33 = g 33 := gU_ne (by omega)
  have e34 : gU g (25 + 4 * k + r) v 34 = g 34 := gU_ne (by omega)
  have e35 : gU g (25 + 4 * k + r) v 35 = g 35 := gU_ne (by omega)
  unfold NT
  rw [e24, e33, e34, e35, up_ne (by omega), up_ne (by omega)]
  refine ⟨n1, n2, n3, n4, fun w' k' q1 q2 => ?_, fun r' k' q1 q2 => ?_⟩
  · rw [gU_ne (by omega)]
    exact n5 w' k' q1 q2
  · rw [up_at, gU_at]
    by_cases q : r' = r ∧ k' = k
    · obtain ⟨rfl, rfl⟩ := q
      rw [if_pos ⟨rfl, rfl⟩, if_pos rfl]
    · rw [if_neg (fun z => q (by omega)), if_neg (fun z => q (by omega))]
      exact n6 r' k' q1 q2
theorem NT.setD {σ : rp_S} {a : Nat} {g : Nat → Int} (h : NT σ a g) (hV : sV g) (v : Int) : NT (rp_up σ a 5 (rI v)) a (gU g 35 v) := by
  obtain ⟨n1, n2, n3, n4, n5, n6⟩ := h
  have v1 := hV.1
  have v2 := hV.2.1
  have e24 : gU g 35 v 24 = g 24 := gU_ne (by omega)
  have e33 : gU g 35 v 33 = g 33 := gU_ne (by omega)
  have e34 : gU g 35 v 34 = g 34 := gU_ne (by omega)
  unfold NT
  rw [e24, e33, e34, gU_eq, up_nj (by omega), up_nj (by omega), up_nj (by omega), up_eq, up_ne (by omega), up_ne (by omega)]
  refine ⟨n1, n2, n3, rfl, fun w' k' q1 q2 => ?_, fun r' k' q1 q2 => ?_⟩
  · rw [gU_ne (by omega)]
    exact n5 w' k' q1 q2
  · rw [gU_ne (by omega)]
    exact n6 r' k' q1 q2
theorem NT.setB {σ : rp_S} {a : Nat} {g : Nat → Int} (h : NT σ a g) (hV : sV g) {v x : Int} (hx : x = v + 4) : NT (rp_up σ a 4 (rI x)) a (gU g 34 v) := by
  obtain ⟨n1, n2, n3, n4, n5, n6⟩ := h
  subst hx
  have v1 := hV.1
  have v2 := hV.2.1
  have e24 : gU g 34 v 24 = g 24 := gU_ne (by omega)
  have e33 : gU g 34 v 33 = g 33 := gU_ne (by omega)
  have e35 : gU g 34 v 35 = g 35 := gU_ne (by omega)
  unfold NT
  rw [e24, e33, e35, gU_eq, up_nj (by omega), up_nj (by omega), up_eq, up_nj (by omega), up_ne (by omega), up_ne (by omega)]
  refine ⟨n1, n2, rfl, n4, fun w' k' q1 q2 => ?_, fun r' k' q1 q2 => ?_⟩
  · rw [gU_ne (by omega)]
    exact n5 w' k' q1 q2
  · rw [gU_ne (by omega)]
    exact n6 r' k' q1 q2
theorem cSetW {σ : rp_S} {a w k : Nat} {x : Int32} (hw : w < 6) (hk : k < 4) : fX1_setWork σ a (rI w) (rI k) x = some (rp_up σ (a + 1) (4 * w + k) x) := by
  unfold fX1_setWork
  rw [rI_mul, rI_add, wr_ok (by omega) (by omega) (by omega), ob]
  congr 2
  omega
theorem cSetR {σ : rp_S} {a r k : Nat} {x : Int32} (hr : r < 4) (hk : k < 2) : fX1_setReader σ a (rI r) (rI k) x = some (rp_up σ (a + 2) (2 * r + k) x) := by
  unfold fX1_setReader
  rw [rI_mul, rI_add, wr_ok (by omega) (by omega) (by omega), ob]
  congr 2
  omega
/-- a number of a work that fits -/
abbrev fitW (k : Nat) (v : Int) : Prop := (k = 0 ∧ 0 ≤ v ∧ v ≤ 3) ∨ (k = 1 ∧ 0 ≤ v ∧ v ≤ 11) ∨ (k = 2 ∧ 0 ≤ v ∧ v ≤ 59) ∨ (k = 3 ∧ 1 ≤ v ∧ v ≤ 9)
theorem sV.setW {g : Nat → Int} (h : sV g) {w k : Nat} (hw : w < 6) {v : Int} (hv : fitW k v) : sV (gU g (6 * k + w) v) := by
  obtain ⟨v1, v2, v3, v4, v5, v6⟩ := h
  have hk : k < 4 := by omega
  have e24 : gU g (6 * k + w) v 24 = g 24 := gU_ne (by omega)
  have e33 : gU g (6 * k + w) v 33 = g 33 := gU_ne (by omega)
  have e34 : gU g (6 * k + w) v 34 = g 34 := gU_ne (by omega)
  have e35 : gU g (6 * k + w) v 35 = g 35 := gU_ne (by omega)
  unfold sV
  rw [e24, e33, e34, e35]
  refine ⟨v1, v2, v3, v4, fun w' hw' => ?_, fun r' hr' => ?_⟩
  · obtain ⟨a1, a2, a3, a4⟩ := v5 w' hw'
    rw [gU_at, gU_at, gU_at, gU_at]
    refine ⟨?_, ?_, ?_, ?_⟩ <;> (split <;> omega)
  · rw [gU_ne (by omega), gU_ne (by omega)]
    exact v6 r' hr'
abbrev fitR (k : Nat) (v : Int) : Prop := (k = 0 ∧ 0 ≤ v ∧ v ≤ 11) ∨ (k = 1 ∧ 0 ≤ v ∧ v ≤ 9)
theorem sV.setR {g : Nat → Int} (h : sV g) {r k : Nat} (hr : r < 4) {v : Int} (hv : fitR k v) : sV (gU g (25 + 4 * k + r) v) := by
  obtain ⟨v1, v2, v3, v4, v5, v6⟩ := h
  have hk : k < 2 := by omega
  have e24 : gU g (25 + 4 * k + r) v 24 = g 24 := gU_ne (by omega)
  have e33 : gU g (25 + 4 * k + r) v 33 = g 33 := gU_ne (by omega)
  have e34 : gU g (25 + 4 * k + r) v 34 = g 34 := gU_ne (by omega)
  have e35 : gU g (25 + 4 * k + r) v 35 = g 35 := gU_ne (by omega)
  unfold sV
  rw [e24, e33, e34, e35]
  refine ⟨v1, v2, v3, v4, fun w' hw' => ?_, fun r' hr' => ?_⟩
  · rw [gU_ne (by omega), gU_ne (by omega), gU_ne (by omega), gU_ne (by omega)]
    exact v5 w' hw'
  · obtain ⟨a1, a2⟩ := v6 r' hr'
    rw [gU_at, gU_at]
    refine ⟨?_, ?_⟩ <;> (split <;> omega)
theorem sV.setD {g : Nat → Int} (h : sV g) {v : Int} (hv : 0 ≤ v ∧ v ≤ 9) : sV (gU g 35 v) := by
  obtain ⟨v1, v2, v3, v4, v5, v6⟩ := h
  have e24 : gU g 35 v 24 = g 24 := gU_ne (by omega)
  have e33 : gU g 35 v 33 = g 33 := gU_ne (by omega)
  have e34 : gU g 35 v 34 = g 34 := gU_ne (by omega)
  unfold sV
  rw [e24, e33, e34, gU_eq]
  refine ⟨v1, v2, v3, hv, fun w' hw' => ?_, fun r' hr' => ?_⟩
  · rw [gU_ne (by omega), gU_ne (by omega), gU_ne (by omega), gU_ne (by omega)]
    exact v5 w' hw'
  · rw [gU_ne (by omega), gU_ne (by omega)]
    exact v6 r' hr'
theorem sV.setB {g : Nat → Int} (h : sV g) {v : Int} (hv : -4 ≤ v ∧ v ≤ 4) : sV (gU g 34 v) := by
  obtain ⟨v1, v2, v3, v4, v5, v6⟩ := h
  have e24 : gU g 34 v 24 = g 24 := gU_ne (by omega)
  have e33 : gU g 34 v 33 = g 33 := gU_ne (by omega)
  have e35 : gU g 34 v 35 = g 35 := gU_ne (by omega)
  unfold sV
  rw [e24, e33, e35, gU_eq]
  refine ⟨v1, v2, hv, v4, fun w' hw' => ?_, fun r' hr' => ?_⟩
  · rw [gU_ne (by omega), gU_ne (by omega), gU_ne (by omega), gU_ne (by omega)]
    exact v5 w' hw'
  · rw [gU_ne (by omega), gU_ne (by omega)]
    exact v6 r' hr'
/-! tries: the class on its own night, the reference on its page 144 -/
theorem cTryW {σ : rp_S} {g : Nat → Int} {w k : Nat} {u v : Int} (hN : NT σ 5 (gU g (6 * k + w) u)) (hV : sV (gU g (6 * k + w) u)) (hg : sV g) (hw : w < 6) (hv : fitW k v) : ∃ τ1 τ, CF σ τ ∧ τ 12 = σ 12 ∧ SH τ (gU g (6 * k + w) v) (sD 0) ∧ fX1_setWork σ 5 (rI w) (rI k) (rI v) = some τ1 ∧ fX3_settle τ1 = some τ := by
  have h1 := hN.setW hV hw (k := k) (by omega) v
  rw [gU_gU] at h1
  obtain ⟨τ, a1, a2, a3⟩ := cSettle h1 (hg.setW hw hv)
  refine ⟨_, τ, fun b hb => ?_, ?_, a2, cSetW hw (by omega), a3⟩
  · rw [a1 b (by omega) (by omega) (by omega) (by omega), up_ne (by omega)]
  · rw [a1 12 (by omega) (by omega) (by omega) (by omega), up_ne (by omega)]
/-- what a try of the reference touches -/
def MF (σ τ : rp_S) : Prop := (∀ b, b ≠ 28 → b ≠ 29 → b ≠ 34 → τ b = σ b) ∧ (∀ j : Nat, j < 144 → τ 29 j = σ 29 j) ∧ ∀ j : Nat, j ≠ 16 → j ≠ 17 → j ≠ 18 → τ 28 j = σ 28 j
theorem MF.q {σ τ : rp_S} (h : MF σ τ) : QF σ τ := ⟨fun b _ h1 h2 h3 _ => h.1 b h1 h2 h3, fun j hj => h.2.1 j (by omega), h.2.2⟩
theorem MF.tr {σ τ ρ : rp_S} (h : MF σ τ) (k : MF τ ρ) : MF σ ρ := ⟨fun b h1 h2 h3 => (k.1 b h1 h2 h3).trans (h.1 b h1 h2 h3), fun j hj => (k.2.1 j hj).trans (h.2.1 j hj), fun j h1 h2 h3 => (k.2.2 j h1 h2 h3).trans (h.2.2 j h1 h2 h3)⟩
theorem MF.rf (σ : rp_S) : MF σ σ := ⟨fun _ _ _ _ => rfl, fun _ _ => rfl, fun _ _ _ _ => rfl⟩
theorem NF.m {σ τ : rp_S} (h : NF σ τ) : MF σ τ := ⟨fun b h1 _ h3 => h.1 b h1 h3, fun j _ => by rw [h.1 29 (by omega) (by omega)], h.2⟩
theorem MF.pg {σ τ : rp_S} {g : Nat → Int} (h : MF σ τ) (hP : PG σ 0 g) : PG τ 0 g := hP.kept (fun j _ q => h.2.1 j (by omega))
theorem mTried {σ : rp_S} {g : Nat → Int} (hP : PG σ 0 g) : ∃ τ, MF σ τ ∧ PG τ 144 g ∧ fX7_copies σ (rI 0) (rI 144) = some τ := by
  obtain ⟨τ, a1, a2, a3, a4⟩ := mCopies (q := 144) hP (by omega) (by omega) (by omega)
  exact ⟨τ, ⟨fun b _ h2 _ => a1 b h2, fun j hj => a2 j (by omega), fun j _ _ _ => by rw [a1 28 (by omega)]⟩, a3, a4⟩
theorem mTry {σ : rp_S} {g : Nat → Int} {j : Nat} {u v : Int} (hP : PG σ 144 (gU g j u)) (hj : j < 36) (hV : sV (gU g j v)) (hD : σ 28 14 = rI 0) : ∃ τ, MF σ τ ∧ PG τ 144 (gU g j v) ∧ τ 28 14 = rI ((0 : Nat) : Int) ∧ NB τ (gU g j v) (sD 0) ∧ τ 28 18 = rI (sWs (gU g j v) (sD 0) ((gU g j v) 33).toNat) ∧ fX7_nightOn (rp_up σ 29 (144 + j) (rI v)) (rI 144) = some τ := by
  have h1 := hP.set hj v
  rw [gU_gU, show ((144 : Int) + (j : Int)).toNat = 144 + j by omega] at h1
  have hD1 : rp_up σ 29 (144 + j) (rI v) 28 14 = rI ((0 : Nat) : Int) := by rw [up_ne (by omega)]; exact hD
  obtain ⟨τ, a1, a2, a3, a4⟩ := mNight (D := 0) h1 hV hD1 (by omega)
  refine ⟨τ, ⟨fun b h1 h2 h3 => ?_, fun i hi => ?_, fun i h1 h2 h3 => ?_⟩, a1.pg h1, ?_, a2, a3, a4⟩
  · rw [a1.1 b h1 h3, up_ne h2]
  · rw [a1.1 29 (by omega) (by omega), up_nj (by omega)]
  · rw [a1.2 i h1 h2 h3, up_ne (by omega)]
  · rw [a1.2 14 (by omega) (by omega) (by omega)]; exact hD1
theorem wr144 {σ : rp_S} {c : Int} {w j : Nat} {x : Int32} (h : c + w = 144 + j) (hj : j < 36) : rq_wr σ 29 180 (rI c + rI w) x = some (rp_up σ 29 (144 + j) x) := by
  rw [rI_add, wr_ok (by omega) (by omega) (by omega)]
  congr 2
  omega
/-- how many bits -/
def pc9 (b : Nat) : Nat := b % 2 + b / 2 % 2 + b / 4 % 2 + b / 8 % 2 + b / 16 % 2 + b / 32 % 2 + b / 64 % 2 + b / 128 % 2 + b / 256 % 2
theorem bc_ok : ∀ b : Nat, b < 512 → fJ6_bitCount_0f7a4 (rI (b : Int)) = some (rI (pc9 b : Nat)) := by decide +kernel
theorem bo_ok : ∀ b : Nat, b < 512 → fX7_bitsOf (rI (b : Int)) = some (rI (pc9 b : Nat)) := by decide +kernel
theorem pc9_b (b : Nat) : pc9 b ≤ 9 := by unfold pc9; omega
theorem sBits_512 (P : Nat → Bool) {k : Nat} (h : k ≤ 9) : sBits P k < 512 := by
  have := sBits_b P k
  have : 2 ^ k ≤ 2 ^ 9 := Nat.pow_le_pow_right (by omega) h
  omega
section OPS
variable {σ : rp_S}
/-- bad numbers: both say so -/
theorem sAns_pos {w a : Int} (h : 0 ≤ w) (v : Int32) : sAns w a v = if v = 0 then rI w else rI a := by
  unfold sAns; rw [if_neg (by omega)]
theorem op_when (h : Inv σ) (u v : Int32) : OpW (fX6_when σ u v) (fun τ => fX7_when τ u v) := by
  obtain ⟨g, hp, hr⟩ := id h
  obtain ⟨hP, hV, hN⟩ := id hp
  have v1 := hV.1
  have v2 := hV.2.1
  by_cases q : 0 ≤ u.toInt ∧ u.toInt ≤ g 24 - 1
  · by_cases q2 : 0 ≤ v.toInt ∧ v.toInt ≤ 1
    · obtain ⟨w, rfl, hw2⟩ := toN q.1
      have hw : (w : Int) < g 24 := by omega
      have hw6 : w < 6 := by omega
      obtain ⟨gm, hgm⟩ : ∃ gm : Nat → Nat → Int, gm = fun (m : Nat) => gU g (6 * 2 + w) (m : Int) := ⟨_, rfl⟩
      obtain ⟨F, hF⟩ : ∃ F : Nat → Int, F = fun m => ((pc9 (sBits (fun r => decide (sWhole (gm m) (sD 0) r w)) (g 33).toNat) : Nat) : Int) := ⟨_, rfl⟩
      have bF : ∀ k, (0 : Int) ≤ F k ∧ F k ≤ 9 := fun k => by
        rw [hF]
        have := pc9_b (sBits (fun r => decide (sWhole (gm k) (sD 0) r w)) (g 33).toNat)
        show (0 : Int) ≤ ((pc9 _ : Nat) : Int) ∧ ((pc9 _ : Nat) : Int) ≤ 9
        omega
      have e33 : ∀ m, (gm m) 33 = g 33 := fun m => by rw [hgm]; exact gU_ne (by omega)
      have e24 : ∀ m, (gm m) 24 = g 24 := fun m => by rw [hgm]; exact gU_ne (by omega)
      have gV : ∀ m : Nat, m < 60 → sV (gm m) := fun m hm => by rw [hgm]; exact hV.setW hw6 (by omega)
      obtain ⟨τ, a1, a2, a3⟩ := cBegin hN hV
      obtain ⟨τ1, f1, f2, f3⟩ := cAbove τ (-1)
      have wb : ∀ k, sBw F (fun m => m) (-4) (-1) k = -4 ∨ (0 ≤ sBw F (fun m => m) (-4) (-1) k ∧ sBw F (fun m => m) (-4) (-1) k < k + 1) := by
        intro k
        induction k with
        | zero => left; rfl
        | succ k ih => rw [sBw]; split <;> omega
      have wp : ∀ k, 0 ≤ sBw F (fun m => m) (-4) (-1) (k + 1) := by
        intro k
        induction k with
        | zero => rw [sBw, sBa, if_pos (by have := bF 0; omega)]; omega
        | succ k ih => rw [sBw]; split <;> omega
      have ab := fun k => sBa_b (F := F) (a0 := -1) (lo := -1) (hi := 9) (by omega) (fun k => by have := bF k; omega) k
      have cl : ∀ (k m n : Nat) (ρ : rp_S) (x : Int), k < n → m + k = 60 → CF σ ρ → NT ρ 5 (gU g (6 * 2 + w) x) → sV (gU g (6 * 2 + w) x) → BS ρ (sBw F (fun m => m) (-4) (-1) m) (sBa F (-1) m) →
          ∃ ρ', CF σ ρ' ∧ fX6_when_43 n ρ (rI w) v (rI m) = some (sAns (sBw F (fun m => m) (-4) (-1) 60) (sBa F (-1) 60) v, ρ') := by
        intro k
        induction k with
        | zero =>
          intro m n ρ x hn hm hC hT hX hS
          obtain ⟨n, rfl⟩ : ∃ q, n = q + 1 := ⟨n - 1, by omega⟩
          have e : m = 60 := by omega
          subst e
          have := wb 60
          rw [fX6_when_43, td_ok (by omega) (by decide) (by omega), ob, if_pos (by decide), cAnswer hS (by omega) (by omega), ob]
          exact ⟨ρ, hC, rfl⟩
        | succ k ih =>
          intro m n ρ x hn hm hC hT hX hS
          obtain ⟨n, rfl⟩ : ∃ q, n = q + 1 := ⟨n - 1, by omega⟩
          obtain ⟨ρ1, ρ2, t1, t2, t3, t4, t5⟩ := cTryW (v := (m : Int)) hT hX hV hw6 (by omega)
          have b1 := ab m
          have b2 := bF m
          have t3' : SH ρ2 (gm m) (sD 0) := by rw [hgm]; exact t3
          have t4' : fX1_setWork ρ 5 (rI w) (rI 2) (rI m) = some ρ1 := t4
          have r1 := cReadersWh t3' (gV m (by omega)) (w := w) (by rw [e24]; exact hw)
          rw [e33] at r1
          have BS2 : BS ρ2 (sBw F (fun m => m) (-4) (-1) m) (sBa F (-1) m) := by unfold BS; rw [t2]; exact hS
          obtain ⟨ρ3, g1, g2, g3⟩ := cOffer (c := (m : Int)) (f := F m) BS2 (by omega) (by omega) (by omega) (by omega)
          have eF : rI (pc9 (sBits (fun r => decide (sWhole (gm m) (sD 0) r w)) (g 33).toNat) : Nat) = rI (F m) := by rw [hF]
          rw [fX6_when_43, td_ok (by omega) (by decide) (by omega), ob, if_neg (by rw [show (rp_tab 1).getD (2 : Int).toNat 0 = rI 59 from by decide, rI_lt (by omega) (by omega) (by omega) (by omega)]; omega), t4', ob, t5, ob, r1, ob, bc_ok _ (sBits_512 _ (by omega)), ob, eF, g3, ob, iI_s]
          refine ih (m + 1) n ρ3 (m : Int) (by omega) (by omega) ((hC.tr t1).tr g1.c) ?_ ?_ ?_
          · exact (g1.sh t3).1
          · have := gV m (by omega); rw [hgm] at this; exact this
          · rw [sBw, sBa]; exact g2
      obtain ⟨ρ, g1, g2⟩ := cl 60 0 1000 τ1 (g (6 * 2 + w)) (by omega) (by omega) (a1.tr f1.c) (by rw [gU_id]; exact (f1.sh a2).1) (by rw [gU_id]; exact hV) f2
      have hp' := hp.q g1.q
      have hr' := hr.q g1.q
      obtain ⟨μ, m1, m2, m3⟩ := mTried hp'.1
      have ml : ∀ (k m n : Nat) (ν : rp_S) (x : Int), k < n → m + k = 60 → MF ρ ν → PG ν 144 (gU g (12 + w) x) →
          ∃ ν', MF ρ ν' ∧ fX7_when_36 n ν (rI w) v (rI (sBa F (-1) m)) (rI (sBw F (fun m => m) 0 (-1) m)) (rI m) = some ((if v = 0 then rI (sBw F (fun m => m) 0 (-1) 60) else rI (sBa F (-1) 60)), ν') := by
        intro k
        induction k with
        | zero =>
          intro m n ν x hn hm hM hQ
          obtain ⟨n, rfl⟩ : ∃ q, n = q + 1 := ⟨n - 1, by omega⟩
          have e : m = 60 := by omega
          subst e
          rw [fX7_when_36, if_pos (by decide)]
          refine ⟨ν, hM, ?_⟩
          by_cases z : v = 0
          · rw [if_pos z, if_pos z]
          · rw [if_neg z, if_neg z]
        | succ k ih =>
          intro m n ν x hn hm hM hQ
          obtain ⟨n, rfl⟩ : ∃ q, n = q + 1 := ⟨n - 1, by omega⟩
          have hD : ν 28 14 = rI 0 := by rw [hM.2.2 14 (by omega) (by omega) (by omega)]; exact hr'.2.2.2.2.1.2.2
          obtain ⟨ν2, t1, t2, t3, t4, t5, t6⟩ := mTry (j := 12 + w) (v := (m : Int)) hQ (by omega) (gV m (by omega) |> fun z => by rw [hgm] at z; exact z) hD
          have b1 := ab m
          have b2 := bF m
          have t2' : PG ν2 144 (gm m) := by rw [hgm]; exact t2
          have t4' : NB ν2 (gm m) (sD 0) := by rw [hgm]; exact t4
          have r1 := mWholeBy t2' (gV m (by omega)) t3 (by omega) t4' (w := w) (by rw [e24]; exact hw)
          rw [e33] at r1
          have eF : rI (pc9 (sBits (fun r => decide (sWhole (gm m) (sD 0) r w)) (g 33).toNat) : Nat) = rI (F m) := by rw [hF]
          have e := ih (m + 1) n ν2 (m : Int) (by omega) (by omega) (hM.tr t1) t2
          rw [sBw, sBa] at e
          rw [fX7_when_36, if_neg (by rw [rI_lt (by omega) (by omega) (by omega) (by omega)]; omega), wr144 (j := 12 + w) (by omega) (by omega), ob, t6, ob, r1, ob, bo_ok _ (sBits_512 _ (by omega)), ob, eF]
          unfold fX7_when_88 fX7_when_102
          simp (disch := omega) only [rI_le]
          simp only [iI_s]
          by_cases z : F m ≤ sBa F (-1) m
          · rw [if_pos z, if_pos z]
            rw [if_neg (by omega), if_neg (by omega)] at e
            exact e
          · rw [if_neg z, if_neg z]
            rw [if_pos (by omega), if_pos (by omega)] at e
            exact e
      obtain ⟨ν, n1, n2⟩ := ml 60 0 1000 μ (g (12 + w)) (by omega) (by omega) m1 (by rw [gU_id]; exact m2)
      have ew : sBw F (fun m => m) 0 (-1) 60 = sBw F (fun m => m) (-4) (-1) 60 := sBw_any (by have := bF 0; omega) 59
      refine ⟨sAns (sBw F (fun m => m) (-4) (-1) 60) (sBa F (-1) 60) v, ρ, ν, ?_, ?_, h.q (g1.q.tr n1.q)⟩
      · unfold fX6_when
        rw [cHasW hN hV, in9 _ (by omega) (by omega)]
        simp only [ob, rb_0]
        rw [if_neg (fun z => z q), if_neg (fun z => z q2), a3, ob, f3, ob]
        exact g2
      · show fX7_when _ _ _ = _
        unfold fX7_when
        rw [mHasW hp'.1 hV, in7 _ (by omega) (by omega)]
        simp only [ob, rb_0]
        rw [if_neg (fun z => z q), if_neg (fun z => z q2), m3, ob, sAns_pos (wp 59), ← ew]
        exact n2
    · refine ⟨rI (-1), σ, σ, ?_, ?_, h⟩
      · unfold fX6_when
        rw [cHasW hN hV, in9 _ (by omega) (by omega)]
        simp only [ob, rb_0]
        rw [if_neg (fun z => z q), if_pos q2]
      · show fX7_when _ _ _ = _
        unfold fX7_when
        rw [mHasW hP hV, in7 _ (by omega) (by omega)]
        simp only [ob, rb_0]
        rw [if_neg (fun z => z q), if_pos q2]
  · refine ⟨rI (-1), σ, σ, ?_, ?_, h⟩
    · unfold fX6_when
      rw [cHasW hN hV]
      simp only [ob, rb_0]
      rw [if_pos q]
    · show fX7_when _ _ _ = _
      unfold fX7_when
      rw [mHasW hP hV]
      simp only [ob, rb_0]
      rw [if_pos q]
end OPS
