/-! THE INVARIANT between the class's cells and the reference's -/
def iPage (σ : rp_S) (g : Nat → Int) : Prop := PG σ 0 g ∧ sV g ∧ NT σ 1 g
def iTape (σ : rp_S) : Prop := ∃ n : Nat, n ≤ 160 ∧ σ 13 1 = rI n ∧ σ 28 4 = rI n ∧ ∀ i : Nat, i < n → ∃ c : Nat, c < 128 ∧ σ 14 i = rI c ∧ σ 31 i = rI c
def iSeen (σ : rp_S) : Prop := ∃ n : Nat, n ≤ 6 ∧ σ 15 2 = rI n ∧ σ 28 20 = rI n ∧ ∀ i : Nat, i < n → ∃ w p : Nat, w < 6 ∧ p < 12 ∧ σ 16 i = rI w ∧ σ 35 (2 * i) = rI w ∧ σ 17 i = rI p ∧ σ 35 (2 * i + 1) = rI p
def iOne (σ : rp_S) (a : Nat) (p : Int) : Prop := ∃ g : Nat → Int, PG σ p g ∧ sV g ∧ NT σ a g
def iImg (σ : rp_S) : Prop := ∃ b0 b1 : Nat, b0 ≤ 1 ∧ b1 ≤ 1 ∧ σ 37 0 = rI b0 ∧ σ 37 1 = rI b1 ∧ σ 0 8 = rI ((b0 + 2 * b1 : Nat) : Int) ∧ (b0 = 1 → iOne σ 22 36) ∧ (b1 = 1 → iOne σ 25 72)
def iSheet (σ : rp_S) : Prop := ∃ L : Nat, L < 16 ∧ σ 18 3 = rI L ∧ ∀ k : Nat, k < 4 → (L / 2 ^ k % 2 = 0 ∧ σ 38 k = rI (-4)) ∨ (L / 2 ^ k % 2 = 1 ∧ ∃ la sz : Nat, la < 3 ∧ sz ≤ 40 ∧ σ 20 k = rI la ∧ σ 38 k = rI la ∧ σ 21 k = rI sz ∧ σ 39 k = rI sz ∧ ∀ i : Nat, i < sz → σ 19 (40 * k + i) = σ 40 (40 * k + i))
def cEnds : List Int := [0, 4, 9, 17, 22, 28, 32, 36]
def cLetters : List Int := [115, 116, 97, 114, 119, 104, 101, 101, 108, 102, 111, 117, 110, 116, 97, 105, 110, 115, 113, 117, 105, 98, 114, 101, 97, 100, 101, 114, 119, 105, 110, 100, 100, 97, 109, 112]
def iConst (σ : rp_S) : Prop := (∀ i : Nat, i < 8 → σ 32 i = rI (cEnds.getD i 0)) ∧ (∀ i : Nat, i < 36 → σ 33 i = rI (cLetters.getD i 0)) ∧ σ 28 14 = rI 0
def iRest (σ : rp_S) : Prop := iTape σ ∧ iSeen σ ∧ iImg σ ∧ iSheet σ ∧ iConst σ ∧ σ 0 9 = σ 28 26 ∧ σ 13 2 = σ 28 5
def Inv (σ : rp_S) : Prop := ∃ g : Nat → Int, iPage σ g ∧ iRest σ
theorem PG.kept {σ τ : rp_S} {p : Int} {g : Nat → Int} (h : PG σ p g) (k : ∀ j : Nat, p.toNat ≤ j → j < p.toNat + 36 → τ 29 j = σ 29 j) : PG τ p g := by
  obtain ⟨a, b, c⟩ := h
  exact ⟨a, b, fun i hi => by rw [k _ (by omega) (by omega)]; exact c i hi⟩
theorem iPage.kept {σ τ : rp_S} {g : Nat → Int} (h : iPage σ g) (k : ∀ j : Nat, j < 36 → τ 29 j = σ 29 j) (h1 : τ 1 = σ 1) (h2 : τ 2 = σ 2) (h3 : τ 3 = σ 3) : iPage τ g := ⟨h.1.kept (fun j _ q => k j (by omega)), h.2.1, h.2.2.kept h1 h2 h3⟩
theorem iTape.kept {σ τ : rp_S} (h : iTape σ) (h1 : τ 13 1 = σ 13 1) (h2 : τ 28 4 = σ 28 4) (h3 : τ 14 = σ 14) (h4 : τ 31 = σ 31) : iTape τ := by
  unfold iTape; rw [h1, h2, h3, h4]; exact h
theorem iSeen.kept {σ τ : rp_S} (h : iSeen σ) (h1 : τ 15 2 = σ 15 2) (h2 : τ 28 20 = σ 28 20) (h3 : τ 16 = σ 16) (h4 : τ 17 = σ 17) (h5 : τ 35 = σ 35) : iSeen τ := by
  unfold iSeen; rw [h1, h2, h3, h4, h5]; exact h
theorem iOne.kept {σ τ : rp_S} {a : Nat} {p : Int} (h : iOne σ a p) (k : ∀ j : Nat, p.toNat ≤ j → j < p.toNat + 36 → τ 29 j = σ 29 j) (h1 : τ a = σ a) (h2 : τ (a + 1) = σ (a + 1)) (h3 : τ (a + 2) = σ (a + 2)) : iOne τ a p := by
  obtain ⟨g, a1, a2, a3⟩ := h
  exact ⟨g, a1.kept k, a2, a3.kept h1 h2 h3⟩
theorem iImg.kept {σ τ : rp_S} (h : iImg σ) (h1 : τ 37 = σ 37) (h2 : τ 0 8 = σ 0 8) (h3 : ∀ b, 22 ≤ b → b ≤ 27 → τ b = σ b) (k : ∀ j : Nat, 36 ≤ j → j < 108 → τ 29 j = σ 29 j) : iImg τ := by
  obtain ⟨b0, b1, q1, q2, q3, q4, q5, q6, q7⟩ := h
  exact ⟨b0, b1, q1, q2, by rw [h1]; exact q3, by rw [h1]; exact q4, by rw [h2]; exact q5, fun z => (q6 z).kept (fun j z1 z2 => k j (by omega) (by omega)) (h3 22 (by omega) (by omega)) (h3 23 (by omega) (by omega)) (h3 24 (by omega) (by omega)), fun z => (q7 z).kept (fun j z1 z2 => k j (by omega) (by omega)) (h3 25 (by omega) (by omega)) (h3 26 (by omega) (by omega)) (h3 27 (by omega) (by omega))⟩
theorem iSheet.kept {σ τ : rp_S} (h : iSheet σ) (h1 : τ 18 3 = σ 18 3) (h2 : ∀ b, 19 ≤ b → b ≤ 21 → τ b = σ b) (h3 : ∀ b, 38 ≤ b → b ≤ 40 → τ b = σ b) : iSheet τ := by
  unfold iSheet
  rw [h1, h2 19 (by omega) (by omega), h2 20 (by omega) (by omega), h2 21 (by omega) (by omega), h3 38 (by omega) (by omega), h3 39 (by omega) (by omega), h3 40 (by omega) (by omega)]
  exact h
theorem iConst.kept {σ τ : rp_S} (h : iConst σ) (h1 : τ 32 = σ 32) (h2 : τ 33 = σ 33) (h3 : τ 28 14 = σ 28 14) : iConst τ := by
  unfold iConst; rw [h1, h2, h3]; exact h
/-- what a question may touch -/
def QF (σ τ : rp_S) : Prop := (∀ b : Nat, b < 5 ∨ 12 < b → b ≠ 28 → b ≠ 29 → b ≠ 34 → b ≠ 36 → τ b = σ b) ∧ (∀ j : Nat, j < 108 → τ 29 j = σ 29 j) ∧ ∀ j : Nat, j ≠ 16 → j ≠ 17 → j ≠ 18 → τ 28 j = σ 28 j
theorem QF.rf (σ : rp_S) : QF σ σ := ⟨fun _ _ _ _ _ _ => rfl, fun _ _ => rfl, fun _ _ _ _ => rfl⟩
theorem QF.tr {σ τ ρ : rp_S} (h : QF σ τ) (k : QF τ ρ) : QF σ ρ := ⟨fun b h0 h1 h2 h3 h4 => (k.1 b h0 h1 h2 h3 h4).trans (h.1 b h0 h1 h2 h3 h4), fun j hj => (k.2.1 j hj).trans (h.2.1 j hj), fun j h1 h2 h3 => (k.2.2 j h1 h2 h3).trans (h.2.2 j h1 h2 h3)⟩
theorem iRest.q {σ τ : rp_S} (h : iRest σ) (q : QF σ τ) : iRest τ := by
  obtain ⟨a1, a2, a3, a4, a5, a6, a7⟩ := h
  have qb : ∀ b : Nat, b < 5 ∨ 12 < b → b ≠ 28 → b ≠ 29 → b ≠ 34 → b ≠ 36 → τ b = σ b := q.1
  refine ⟨a1.kept ?_ ?_ ?_ ?_, a2.kept ?_ ?_ ?_ ?_ ?_, a3.kept ?_ ?_ (fun b h1 h2 => qb b (by omega) (by omega) (by omega) (by omega) (by omega)) (fun j h1 h2 => q.2.1 j h2), a4.kept ?_ (fun b h1 h2 => qb b (by omega) (by omega) (by omega) (by omega) (by omega)) (fun b h1 h2 => qb b (by omega) (by omega) (by omega) (by omega) (by omega)), a5.kept ?_ ?_ ?_, ?_, ?_⟩
  · rw [qb 13 (by omega) (by omega) (by omega) (by omega) (by omega)]
  · exact q.2.2 4 (by omega) (by omega) (by omega)
  · exact qb 14 (by omega) (by omega) (by omega) (by omega) (by omega)
  · exact qb 31 (by omega) (by omega) (by omega) (by omega) (by omega)
  · rw [qb 15 (by omega) (by omega) (by omega) (by omega) (by omega)]
  · exact q.2.2 20 (by omega) (by omega) (by omega)
  · exact qb 16 (by omega) (by omega) (by omega) (by omega) (by omega)
  · exact qb 17 (by omega) (by omega) (by omega) (by omega) (by omega)
  · exact qb 35 (by omega) (by omega) (by omega) (by omega) (by omega)
  · exact qb 37 (by omega) (by omega) (by omega) (by omega) (by omega)
  · rw [qb 0 (by omega) (by omega) (by omega) (by omega) (by omega)]
  · rw [qb 18 (by omega) (by omega) (by omega) (by omega) (by omega)]
  · exact qb 32 (by omega) (by omega) (by omega) (by omega) (by omega)
  · exact qb 33 (by omega) (by omega) (by omega) (by omega) (by omega)
  · exact q.2.2 14 (by omega) (by omega) (by omega)
  · rw [qb 0 (by omega) (by omega) (by omega) (by omega) (by omega), q.2.2 26 (by omega) (by omega) (by omega)]; exact a6
  · rw [qb 13 (by omega) (by omega) (by omega) (by omega) (by omega), q.2.2 5 (by omega) (by omega) (by omega)]; exact a7
theorem iPage.q {σ τ : rp_S} {g : Nat → Int} (h : iPage σ g) (q : QF σ τ) : iPage τ g := h.kept (fun j hj => q.2.1 j (by omega)) (q.1 1 (by omega) (by omega) (by omega) (by omega) (by omega)) (q.1 2 (by omega) (by omega) (by omega) (by omega) (by omega)) (q.1 3 (by omega) (by omega) (by omega) (by omega) (by omega))
theorem Inv.q {σ τ : rp_S} (h : Inv σ) (q : QF σ τ) : Inv τ := by
  obtain ⟨g, a, b⟩ := h
  exact ⟨g, a.q q, b.q q⟩
theorem NF.q {σ τ : rp_S} (h : NF σ τ) : QF σ τ := ⟨fun b _ h1 _ h3 _ => h.1 b h1 h3, fun j _ => by rw [h.1 29 (by omega) (by omega)], h.2⟩
/-- the class's part of a question -/
def CF (σ τ : rp_S) : Prop := ∀ b : Nat, b < 5 ∨ 12 < b → τ b = σ b
theorem CF.q {σ τ : rp_S} (h : CF σ τ) : QF σ τ := ⟨fun b h0 _ _ _ _ => h b h0, fun j _ => by rw [h 29 (by omega)], fun j _ _ _ => by rw [h 28 (by omega)]⟩
theorem CF.tr {σ τ ρ : rp_S} (h : CF σ τ) (k : CF τ ρ) : CF σ ρ := fun b hb => (k b hb).trans (h b hb)
theorem SF.c {σ τ : rp_S} (h : SF σ τ) : CF σ τ := fun b hb => h b (by omega) (by omega) (by omega) (by omega)
theorem CF.u {σ τ : rp_S} {a j : Nat} {x : Int32} (h : CF σ τ) (ha : 5 ≤ a) (ha2 : a ≤ 12) : CF σ (rp_up τ a j x) := fun b hb => by rw [up_ne (by omega)]; exact h b hb
/-! a night becomes another -/
theorem cBecome {σ : rp_S} {a b : Nat} {g : Nat → Int} (hN : NT σ b g) (hV : sV g) (hne : b + 2 < a ∨ a + 2 < b) : ∃ τ, (∀ c, c ≠ a → c ≠ a + 1 → c ≠ a + 2 → τ c = σ c) ∧ NT τ a g ∧ fX1_become σ a b = some τ := by
  obtain ⟨v1, v2, v3, v4, v5, v6⟩ := hV
  obtain ⟨n1, n2, n3, n4, n5, n6⟩ := hN
  unfold fX1_become
  simp only [ob]
  refine ⟨_, ?_, ?_, rfl⟩
  · intro c h1 h2 h3
    rw [up_ne h1, up_ne h1, up_ne h1, up_ne h1, cp_ne h3, cp_ne h2]
  · have e0 : ∀ (τ : rp_S) (j : Nat) (x : Int32) (c : Nat), c ≠ a → rp_up τ a j x c = τ c := fun τ j x c h => up_ne h
    refine ⟨?_, ?_, ?_, ?_, fun w k hw hk => ?_, fun r k hr hk => ?_⟩
    · rw [up_nj (by omega), up_nj (by omega), up_nj (by omega), up_eq, cp_ne (by omega), cp_ne (by omega)]; exact n1
    · rw [up_nj (by omega), up_nj (by omega), up_eq, up_ne (by omega), cp_ne (by omega), cp_ne (by omega)]; exact n2
    · rw [up_nj (by omega), up_eq, up_ne (by omega), up_ne (by omega), cp_ne (by omega), cp_ne (by omega)]; exact n3
    · rw [up_eq, up_ne (by omega), up_ne (by omega), up_ne (by omega), cp_ne (by omega), cp_ne (by omega)]; exact n4
    · rw [up_ne (by omega), up_ne (by omega), up_ne (by omega), up_ne (by omega), cp_ne (by omega), cp_at (by omega)]; exact n5 w k hw hk
    · rw [up_ne (by omega), up_ne (by omega), up_ne (by omega), up_ne (by omega), cp_at (by omega), cp_ne (by omega)]; exact n6 r k hr hk
theorem cBegin {σ : rp_S} {g : Nat → Int} (hN : NT σ 1 g) (hV : sV g) : ∃ τ, CF σ τ ∧ SH τ g (sD 0) ∧ fX3_begin σ 1 = some τ := by
  obtain ⟨τ1, h1, h2, h3⟩ := cBecome (a := 5) (b := 1) hN hV (by omega)
  obtain ⟨τ2, k1, k2, k3⟩ := cSettle h2 hV
  refine ⟨τ2, fun b hb => ?_, k2, ?_⟩
  · rw [k1 b (by omega) (by omega) (by omega) (by omega)]
    exact h1 b (by omega) (by omega) (by omega)
  · unfold fX3_begin
    rw [h3, ob, k3, ob]
/-! pages are copied -/
theorem mCopies {σ : rp_S} {p q : Int} {g : Nat → Int} (hP : PG σ p g) (hq : 0 ≤ q) (hq2 : q ≤ 144) (hne : p + 36 ≤ q ∨ q + 36 ≤ p) : ∃ τ, (∀ b, b ≠ 29 → τ b = σ b) ∧ (∀ j : Nat, (j : Int) < q ∨ q + 36 ≤ j → τ 29 j = σ 29 j) ∧ PG τ q g ∧ fX7_copies σ (rI p) (rI q) = some τ := by
  obtain ⟨p1, p2, p3⟩ := id hP
  have loop : ∀ (k i n : Nat) (τ : rp_S), k < n → i + k = 36 → (∀ b, b ≠ 29 → τ b = σ b) → (∀ j : Nat, (j : Int) < q ∨ q + 36 ≤ j → τ 29 j = σ 29 j) → (∀ j : Nat, j < i → τ 29 (q + j).toNat = rI (g j)) →
      ∃ τ', (∀ b, b ≠ 29 → τ' b = σ b) ∧ (∀ j : Nat, (j : Int) < q ∨ q + 36 ≤ j → τ' 29 j = σ 29 j) ∧ PG τ' q g ∧ fX7_copies_2 n τ (rI p) (rI q) (rI i) = some τ' := by
    intro k
    induction k with
    | zero =>
      intro i n τ hn hi h1 h2 h3
      obtain ⟨n, rfl⟩ : ∃ q, n = q + 1 := ⟨n - 1, by omega⟩
      rw [fX7_copies_2, if_pos (by rw [rI_le (by omega) (by omega) (by omega) (by omega)]; omega)]
      exact ⟨τ, h1, h2, ⟨hq, hq2, fun j hj => h3 j (by omega)⟩, rfl⟩
    | succ k ih =>
      intro i n τ hn hi h1 h2 h3
      obtain ⟨n, rfl⟩ : ∃ q, n = q + 1 := ⟨n - 1, by omega⟩
      rw [fX7_copies_2, if_neg (by rw [rI_le (by omega) (by omega) (by omega) (by omega)]; omega), rI_add, rd_ok (by omega) (by omega) (by omega), ob, rI_add, wr_ok (by omega) (by omega) (by omega), ob, iI_s]
      have e : τ 29 (p + (i : Int)).toNat = rI (g i) := by rw [h2 _ (by omega)]; exact p3 i (by omega)
      rw [e]
      refine ih (i + 1) n _ (by omega) (by omega) (fun b hb => by rw [up_ne hb]; exact h1 b hb) (fun j hj => by rw [up_nj (by omega)]; exact h2 j hj) (fun j hj => ?_)
      rw [up_at]
      by_cases z : j = i
      · subst z; rw [if_pos ⟨rfl, rfl⟩]
      · rw [if_neg (fun y => z (by omega))]
        exact h3 j (by omega)
  unfold fX7_copies
  exact loop 36 0 1000 σ (by omega) (by omega) (fun _ _ => rfl) (fun _ _ => rfl) (fun j h => absurd h (Nat.not_lt_zero j))
/-! whether there is such a work, such a reader -/
theorem nar_b {P : Prop} [Decidable P] : vp_nar .boolean (if P then rI 1 else rI 0) = if P then rI 1 else rI 0 := by
  by_cases h : P
  · rw [if_pos h]; decide
  · rw [if_neg h]; decide
section HAS
variable {σ : rp_S} {g : Nat → Int}
theorem cHasW {a : Nat} (hN : NT σ a g) (hV : sV g) (v : Int32) : fX1_hasWork σ a v = some (if 0 ≤ v.toInt ∧ v.toInt ≤ g 24 - 1 then rI 1 else rI 0) := by
  have := hV.1
  unfold fX1_hasWork
  rw [hN.1, rI_sub, within_ok, rI_toInt (by omega) (by omega), rI_toInt (by omega) (by omega), ob, nar_b]
theorem cHasR {a : Nat} (hN : NT σ a g) (hV : sV g) (v : Int32) : fX1_hasReader σ a v = some (if 0 ≤ v.toInt ∧ v.toInt ≤ g 33 - 1 then rI 1 else rI 0) := by
  have := hV.2.1
  unfold fX1_hasReader
  rw [hN.2.1, rI_sub, within_ok, rI_toInt (by omega) (by omega), rI_toInt (by omega) (by omega), ob, nar_b]
theorem i64 {z : Int} (h1 : -2147483648 ≤ z) (h2 : z < 2147483648) : (rI z).toInt64 = rJ z := rI_J h1 h2
theorem rd0 (hP : PG σ 0 g) (i : Nat) (hi : i < 36) {z : Int} (hz : z = i) : rq_rd σ 29 180 (rI z) = some (rI (g i)) := rdP hP i hi (by omega)
theorem rd24 (hP : PG σ 0 g) : rq_rd σ 29 180 (rI 24) = some (rI (g 24)) := rd0 hP 24 (by omega) rfl
theorem rd33 (hP : PG σ 0 g) : rq_rd σ 29 180 (rI 33) = some (rI (g 33)) := rd0 hP 33 (by omega) rfl
theorem rd34 (hP : PG σ 0 g) : rq_rd σ 29 180 (rI 34) = some (rI (g 34)) := rd0 hP 34 (by omega) rfl
theorem rd35 (hP : PG σ 0 g) : rq_rd σ 29 180 (rI 35) = some (rI (g 35)) := rd0 hP 35 (by omega) rfl
theorem mHasW (hP : PG σ 0 g) (hV : sV g) (v : Int32) : fX7_isWork σ v = some (if 0 ≤ v.toInt ∧ v.toInt ≤ g 24 - 1 then rI 1 else rI 0) := by
  have := hV.1
  unfold fX7_isWork
  rw [rd24 hP, ob, rI_sub, i64 (by omega) (by omega), inI_ok v (by omega) (by omega) (by omega) (by omega), ob, nar_b]
theorem mHasR (hP : PG σ 0 g) (hV : sV g) (v : Int32) : fX7_isReader σ v = some (if 0 ≤ v.toInt ∧ v.toInt ≤ g 33 - 1 then rI 1 else rI 0) := by
  have := hV.2.1
  unfold fX7_isReader
  rw [rd33 hP, ob, rI_sub, i64 (by omega) (by omega), inI_ok v (by omega) (by omega) (by omega) (by omega), ob, nar_b]
theorem toN {v : Int32} (h : 0 ≤ v.toInt) : ∃ k : Nat, v = rI k ∧ v.toInt = k := ⟨v.toInt.toNat, by rw [show ((v.toInt.toNat : Nat) : Int) = v.toInt by omega]; exact rI_of v, by omega⟩
end HAS
abbrev OpW (c : Option (Int32 × rp_S)) (m : rp_S → Option (Int32 × rp_S)) : Prop := ∃ (r : Int32) (σ1 σ2 : rp_S), c = some (r, σ1) ∧ m σ1 = some (r, σ2) ∧ Inv σ2
abbrev OpR (c : Option (Int32 × rp_S)) (m : rp_S → Option Int32) : Prop := ∃ (r : Int32) (σ1 : rp_S), c = some (r, σ1) ∧ m σ1 = some r ∧ Inv σ1
/-! feed, end, fault, torn -/
theorem vv_byte {c : Nat} (h : c < 128) : vp_nar .byte ((rI (c : Int)).toInt8.toInt32) = rI c := by
  have : ∀ c : Nat, c < 128 → vp_nar .byte ((rI (c : Int)).toInt8.toInt32) = rI c := by decide +kernel
  exact this c h
