/-! THE PAGE: kinds 0.., places 6.., minutes 12.., powers 18.., works 24, readers' places 25.., coughs 29.., readers 33, blow 34, damp 35 -/
def sLast (g : Nat → Int) (w : Nat) : Int := if g w = 0 then g (18 + w) else if g w = 1 then 2 * g (18 + w) else if g w = 2 then 1 + g (18 + w) / 2 else g (18 + w) / 2
def sWide (g : Nat → Int) (w : Nat) : Int := if g w = 1 then g (18 + w) / 2 else if g w = 3 then g (18 + w) + 2 else g (18 + w)
def sShore (p : Int) : Int := if 0 ≤ p then (if p < 12 then p else 11) else 0
def sBurst (g : Nat → Int) (w : Nat) : Int := sShore (g (6 + w) + g 34)
def sFly (g : Nat → Int) (w : Nat) : Int := if 0 ≤ g 34 then g 34 * sLast g w / 4 else -((-(g 34)) * sLast g w / 4)
def sStick (g : Nat → Int) (w : Nat) : Int := sShore (sBurst g w + sFly g w)
abbrev sGoes (g : Nat → Int) (d : Nat → Bool) (w : Nat) : Prop := g 35 < g (18 + w) ∧ d w = false
abbrev sUp (g : Nat → Int) (d : Nat → Bool) (w : Nat) (m : Int) : Prop := sGoes g d w ∧ g (12 + w) ≤ m ∧ m ≤ g (12 + w) + sLast g w - 1
def sFar (g : Nat → Int) (r w : Nat) : Int := if sBurst g w ≤ g (25 + r) then g (25 + r) - sBurst g w else sBurst g w - g (25 + r)
abbrev sCough (g : Nat → Int) (r : Nat) (m : Int) : Prop := 0 < g (29 + r) ∧ m % g (29 + r) = 0
/-- what a reader looks at, of k works from w on, the nearest so far b, near off -/
def sLk (g : Nat → Int) (d : Nat → Bool) (r : Nat) (m : Int) : Nat → Nat → Int → Int → Int
  | 0, _, b, _ => b
  | k + 1, w, b, near => if sFar g r w < near ∧ sFar g r w ≤ sWide g w ∧ sUp g d w m then sLk g d r m k (w + 1) w (sFar g r w) else sLk g d r m k (w + 1) b near
def sLook (g : Nat → Int) (d : Nat → Bool) (r : Nat) (m : Int) : Int := if sCough g r m then -4 else sLk g d r m (g 24).toNat 0 (-4) 12
/-- in how many of the first n minutes he looks at it -/
def sCnt (g : Nat → Int) (d : Nat → Bool) (r w : Nat) : Nat → Int
  | 0 => 0
  | n + 1 => sCnt g d r w n + (if sLook g d r n = w then 1 else 0)
def sRead (g : Nat → Int) (d : Nat → Bool) (r w : Nat) : Int := sCnt g d r w 80
abbrev sWhole (g : Nat → Int) (d : Nat → Bool) (r w : Nat) : Prop := sGoes g d w ∧ 0 < sLast g w ∧ sRead g d r w = sLast g w
abbrev sV (g : Nat → Int) : Prop := (0 ≤ g 24 ∧ g 24 ≤ 6) ∧ (0 ≤ g 33 ∧ g 33 ≤ 4) ∧ (-4 ≤ g 34 ∧ g 34 ≤ 4) ∧ (0 ≤ g 35 ∧ g 35 ≤ 9) ∧
  (∀ w : Nat, (w : Int) < g 24 → (0 ≤ g w ∧ g w ≤ 3) ∧ (0 ≤ g (6 + w) ∧ g (6 + w) ≤ 11) ∧ (0 ≤ g (12 + w) ∧ g (12 + w) ≤ 59) ∧ 1 ≤ g (18 + w) ∧ g (18 + w) ≤ 9) ∧
  ∀ r : Nat, (r : Int) < g 33 → (0 ≤ g (25 + r) ∧ g (25 + r) ≤ 11) ∧ 0 ≤ g (29 + r) ∧ g (29 + r) ≤ 9
theorem sShore_b (p : Int) : 0 ≤ sShore p ∧ sShore p ≤ 11 := by unfold sShore; split <;> (try split) <;> omega
theorem sBurst_b (g : Nat → Int) (w : Nat) : 0 ≤ sBurst g w ∧ sBurst g w ≤ 11 := sShore_b _
theorem sStick_b (g : Nat → Int) (w : Nat) : 0 ≤ sStick g w ∧ sStick g w ≤ 11 := sShore_b _
theorem sLast_b {g : Nat → Int} {w : Nat} (h1 : 1 ≤ g (18 + w)) (h2 : g (18 + w) ≤ 9) : 0 ≤ sLast g w ∧ sLast g w ≤ 18 := by
  unfold sLast; split <;> (try split) <;> (try split) <;> omega
theorem sWide_b {g : Nat → Int} {w : Nat} (h1 : 1 ≤ g (18 + w)) (h2 : g (18 + w) ≤ 9) : 0 ≤ sWide g w ∧ sWide g w ≤ 11 := by
  unfold sWide; split <;> (try split) <;> omega
theorem sFar_b {g : Nat → Int} {r w : Nat} (h1 : 0 ≤ g (25 + r)) (h2 : g (25 + r) ≤ 11) : 0 ≤ sFar g r w ∧ sFar g r w ≤ 11 := by
  have := sBurst_b g w
  unfold sFar; split <;> omega
theorem sFly_b {g : Nat → Int} {w : Nat} (h0 : -4 ≤ g 34) (h0' : g 34 ≤ 4) (h1 : 0 ≤ sLast g w) (h2 : sLast g w ≤ 18) : -18 ≤ sFly g w ∧ sFly g w ≤ 18 ∧ -72 ≤ g 34 * sLast g w ∧ g 34 * sLast g w ≤ 72 := by
  have a1 : g 34 * sLast g w ≤ 4 * sLast g w := Int.mul_le_mul_of_nonneg_right h0' h1
  have a2 : (-4) * sLast g w ≤ g 34 * sLast g w := Int.mul_le_mul_of_nonneg_right h0 h1
  have a3 : -(g 34) * sLast g w = -(g 34 * sLast g w) := Int.neg_mul _ _
  unfold sFly
  rw [a3]
  split <;> omega
theorem sLk_b (g : Nat → Int) (d : Nat → Bool) (r : Nat) (m : Int) : ∀ (k w : Nat) (b near : Int), (b = -4 ∨ (0 ≤ b ∧ b < w)) → (sLk g d r m k w b near = -4 ∨ (0 ≤ sLk g d r m k w b near ∧ sLk g d r m k w b near < (w + k : Nat))) := by
  intro k
  induction k with
  | zero => intro w b near h; rw [sLk]; simpa using h
  | succ k ih =>
    intro w b near h
    rw [sLk]
    split
    · have := ih (w + 1) w (sFar g r w) (by omega)
      omega
    · have := ih (w + 1) b near (by omega)
      omega
theorem sLook_b {g : Nat → Int} (d : Nat → Bool) (r : Nat) (m : Int) (h : 0 ≤ g 24) : sLook g d r m = -4 ∨ (0 ≤ sLook g d r m ∧ sLook g d r m < g 24) := by
  unfold sLook
  split
  · exact Or.inl rfl
  · have := sLk_b g d r m (g 24).toNat 0 (-4) 12 (Or.inl rfl)
    omega
theorem sCnt_b (g : Nat → Int) (d : Nat → Bool) (r w : Nat) : ∀ n : Nat, 0 ≤ sCnt g d r w n ∧ sCnt g d r w n ≤ n := by
  intro n
  induction n with
  | zero => rw [sCnt]; omega
  | succ n ih => rw [sCnt]; split <;> omega
theorem sRead_b (g : Nat → Int) (d : Nat → Bool) (r w : Nat) : 0 ≤ sRead g d r w ∧ sRead g d r w ≤ 80 := sCnt_b g d r w 80
/-- damp ones by the bits of a number -/
def sD (D : Nat) (w : Nat) : Bool := decide (D / 2 ^ w % 2 = 1)
theorem sD_bit : ∀ D : Nat, D < 64 → ∀ w : Nat, w < 6 → ((((rI (D : Int)) >>> ((rI (w : Int)) &&& 31)) &&& (rI 1)) = 0 ↔ sD D w = false) := by decide +kernel
theorem sD_0 (w : Nat) : sD 0 w = false := by simp [sD]
