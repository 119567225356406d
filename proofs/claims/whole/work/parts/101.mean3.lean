/-! mean: the sums -/
theorem nSum_swap (f : Nat → Nat → Nat) (A : Nat) : ∀ B : Nat, nSum (fun i => nSum (fun j => f i j) B) A = nSum (fun j => nSum (fun i => f i j) A) B := by
  intro B
  induction B with
  | zero =>
    have : ∀ A, nSum (fun i => nSum (fun j => f i j) 0) A = 0 := by
      intro A
      induction A with
      | zero => rfl
      | succ A ih => rw [nSum, ih]; rfl
    exact this A
  | succ B ih =>
    have e : nSum (fun i => nSum (fun j => f i j) (B + 1)) A = nSum (fun i => nSum (fun j => f i j) B + f i B) A := rfl
    rw [e, nSum_add, ih]
    rfl
theorem sSum_n (F : Nat → Int) (f : Nat → Nat) : ∀ k : Nat, (∀ i, i < k → F i = (f i : Int)) → sSum F k = ((nSum f k : Nat) : Int) := by
  intro k
  induction k with
  | zero => intro _; rfl
  | succ k ih => intro h; rw [sSum, ih (fun i hi => h i (by omega)), h k (by omega), nSum, Int.natCast_add]
def nHit (g : Nat → Int) (d : Nat → Bool) : Nat := nSum (fun r => nSum (fun m => if sLook g d r (m : Nat) = -4 then 0 else 1) 80) (g 33).toNat
theorem sMin_n {g : Nat → Int} (d : Nat → Bool) : sMin g d 80 = ((nHit g d : Nat) : Int) := by
  rw [sMin_sum]
  unfold nHit
  rw [← nSum_swap (fun m r => if sLook g d r (m : Nat) = -4 then 0 else 1) 80]
  refine sSum_n _ _ 80 (fun m _ => ?_)
  show sHit g d (m : Nat) (g 33).toNat = _
  rw [sHit_sum]
  refine sSum_n _ _ _ (fun r _ => ?_)
  show (if sLook g d r (m : Nat) = -4 then 0 else 1 : Int) = ((if sLook g d r (m : Nat) = -4 then 0 else 1 : Nat) : Int)
  split <;> rfl
