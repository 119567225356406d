/-! kinds, froms -/
def SN (σ : rp_S) (n : Nat) (W P : Nat → Nat) : Prop := n ≤ 6 ∧ σ 15 2 = rI n ∧ σ 28 20 = rI n ∧ ∀ i : Nat, i < n → W i < 6 ∧ P i < 12 ∧ σ 16 i = rI (W i) ∧ σ 35 (2 * i) = rI (W i) ∧ σ 17 i = rI (P i) ∧ σ 35 (2 * i + 1) = rI (P i)
theorem iSeen.sn {σ : rp_S} (h : iSeen σ) : ∃ n W P, SN σ n W P := by
  obtain ⟨n, n1, n2, n3, n4⟩ := h
  refine ⟨n, fun i => (σ 16 i).toInt.toNat, fun i => (σ 17 i).toInt.toNat, n1, n2, n3, fun i hi => ?_⟩
  obtain ⟨w, p, a1, a2, a3, a4, a5, a6⟩ := n4 i hi
  have e1 : (σ 16 i).toInt.toNat = w := by rw [a3, rI_toInt (by omega) (by omega)]; omega
  have e2 : (σ 17 i).toInt.toNat = p := by rw [a5, rI_toInt (by omega) (by omega)]; omega
  show (σ 16 i).toInt.toNat < 6 ∧ (σ 17 i).toInt.toNat < 12 ∧ σ 16 i = rI ((σ 16 i).toInt.toNat : Nat) ∧ σ 35 (2 * i) = rI ((σ 16 i).toInt.toNat : Nat) ∧ σ 17 i = rI ((σ 17 i).toInt.toNat : Nat) ∧ σ 35 (2 * i + 1) = rI ((σ 17 i).toInt.toNat : Nat)
  rw [e1, e2]
  exact ⟨a1, a2, a3, a4, a5, a6⟩
theorem SN.q {σ τ : rp_S} {n : Nat} {W P : Nat → Nat} (h : SN σ n W P) (q : QF σ τ) : SN τ n W P := by
  obtain ⟨a1, a2, a3, a4⟩ := h
  unfold SN
  rw [q.1 15 (by omega) (by omega) (by omega) (by omega) (by omega), q.1 16 (by omega) (by omega) (by omega) (by omega) (by omega), q.1 17 (by omega) (by omega) (by omega) (by omega) (by omega), q.1 35 (by omega) (by omega) (by omega) (by omega) (by omega), q.2.2 20 (by omega) (by omega) (by omega)]
  exact ⟨a1, a2, a3, a4⟩
def sOk (g : Nat → Int) (W P : Nat → Nat) (i : Nat) : Bool := decide ((W i : Int) < g 24 ∧ sStick g (W i) = (P i : Int))
def sAg (g : Nat → Int) (W P : Nat → Nat) : Nat → Nat → Bool
  | 0, _ => true
  | k + 1, i => sOk g W P i && sAg g W P k (i + 1)
theorem cAgree {σ : rp_S} {g : Nat → Int} {n : Nat} {W P : Nat → Nat} (hN : NT σ 5 g) (hV : sV g) (hS : SN σ n W P) : fX4_agreeWith σ 5 = some (if sAg g W P n 0 = true then rI 1 else rI 0) := by
  obtain ⟨s1, s2, s3, s4⟩ := hS
  have v1 := hV.1
  have loop : ∀ (k i f : Nat), k < f → i + k = n → fX4_agreeWith_2 5 σ f (rI i) = some (if sAg g W P k i = true then rI 1 else rI 0) := by
    intro k
    induction k with
    | zero =>
      intro i f hf hi
      obtain ⟨f, rfl⟩ : ∃ q, f = q + 1 := ⟨f - 1, by omega⟩
      rw [fX4_agreeWith_2, s2, if_pos (by rw [rI_le (by omega) (by omega) (by omega) (by omega)]; omega), sAg, if_pos rfl]
    | succ k ih =>
      intro i f hf hi
      obtain ⟨f, rfl⟩ : ∃ q, f = q + 1 := ⟨f - 1, by omega⟩
      obtain ⟨b1, b2, b3, b4, b5, b6⟩ := s4 i (by omega)
      rw [fX4_agreeWith_2, s2, if_neg (by rw [rI_le (by omega) (by omega) (by omega) (by omega)]; omega), rd_n (by omega) (by omega), ob, b3, cHasW hN hV, ob, rI_toInt (by omega) (by omega), sAg]
      simp only [rb_0]
      by_cases z : (W i : Int) < g 24
      · rw [if_neg (by omega), ob, cStick hN hV z, ob, rd_n (by omega) (by omega), ob, b5]
        have sb := sStick_b g (W i)
        simp (disch := omega) only [rI_eq]
        by_cases z2 : sStick g (W i) = (P i : Int)
        · rw [if_pos z2, iI_s, ih (i + 1) f (by omega) (by omega), show sOk g W P i = true from decide_eq_true ⟨z, z2⟩, Bool.true_and]
        · rw [if_neg z2, show sOk g W P i = false from decide_eq_false (fun y => z2 y.2), Bool.false_and, if_neg (by decide)]
      · rw [if_pos (by omega), show sOk g W P i = false from decide_eq_false (fun y => z y.1), Bool.false_and, if_neg (by decide)]
  unfold fX4_agreeWith
  exact loop n 0 1000 (by omega) (by omega)
theorem mAgree {σ : rp_S} {g g0 : Nat → Int} {n : Nat} {W P : Nat → Nat} (hP : PG σ 0 g0) (hV0 : sV g0) (hQ : PG σ 144 g) (hV : sV g) (e24 : g 24 = g0 24) (hS : SN σ n W P) : fX7_isAsSeen σ (rI 144) = some (if sAg g W P n 0 = true then rI 1 else rI 0) := by
  obtain ⟨s1, s2, s3, s4⟩ := hS
  have v1 := hV.1
  have no : ∀ (k i f : Nat), k < f → i + k = n → fX7_isAsSeen_4 σ f (rI 144) (rI 0) (rI i) = some (rI 0) := by
    intro k
    induction k with
    | zero =>
      intro i f hf hi
      obtain ⟨f, rfl⟩ : ∃ q, f = q + 1 := ⟨f - 1, by omega⟩
      rw [fX7_isAsSeen_4, s3, if_pos (by rw [rI_le (by omega) (by omega) (by omega) (by omega)]; omega)]
      decide
    | succ k ih =>
      intro i f hf hi
      obtain ⟨f, rfl⟩ : ∃ q, f = q + 1 := ⟨f - 1, by omega⟩
      rw [fX7_isAsSeen_4, s3, if_neg (by rw [rI_le (by omega) (by omega) (by omega) (by omega)]; omega), if_pos (show rI 0 = 0 from rfl)]
      unfold fX7_isAsSeen_61 fX7_isAsSeen_62
      rw [iI_s]
      exact ih (i + 1) f (by omega) (by omega)
  have loop : ∀ (k i f : Nat), k < f → i + k = n → fX7_isAsSeen_4 σ f (rI 144) (rI 1) (rI i) = some (if sAg g W P k i = true then rI 1 else rI 0) := by
    intro k
    induction k with
    | zero =>
      intro i f hf hi
      obtain ⟨f, rfl⟩ : ∃ q, f = q + 1 := ⟨f - 1, by omega⟩
      rw [fX7_isAsSeen_4, s3, if_pos (by rw [rI_le (by omega) (by omega) (by omega) (by omega)]; omega), sAg, if_pos rfl]
      decide
    | succ k ih =>
      intro i f hf hi
      obtain ⟨f, rfl⟩ : ∃ q, f = q + 1 := ⟨f - 1, by omega⟩
      obtain ⟨b1, b2, b3, b4, b5, b6⟩ := s4 i (by omega)
      have r1 : rq_rd σ 35 12 (rI 2 * rI i) = some (rI (W i)) := by rw [rI_mul, rd_ok (by omega) (by omega) (by omega), show ((2 : Int) * i).toNat = 2 * i by omega, b4]
      have r2 : rq_rd σ 35 12 (rI 2 * rI i + rI 1) = some (rI (P i)) := by rw [rI_mul, rI_add, rd_ok (by omega) (by omega) (by omega), show ((2 : Int) * i + 1).toNat = 2 * i + 1 by omega, b6]
      have st : ∀ b : Bool, fX7_isAsSeen_62 σ (fun v1 v2 v3 => fX7_isAsSeen_4 σ f v1 v2 v3) (rI 144) (rI i) (if b = true then rI 1 else rI 0) = some (if (b && sAg g W P k (i + 1)) = true then rI 1 else rI 0) := by
        intro b
        unfold fX7_isAsSeen_62
        rw [iI_s]
        cases b with
        | true => rw [if_pos rfl, Bool.true_and]; exact ih (i + 1) f (by omega) (by omega)
        | false => rw [if_neg (by decide), Bool.false_and, if_neg (by decide)]; exact no k (i + 1) f (by omega) (by omega)
      rw [fX7_isAsSeen_4, s3, if_neg (by rw [rI_le (by omega) (by omega) (by omega) (by omega)]; omega), if_neg (by decide), r1, ob, mHasW hP hV0, ob, rI_toInt (by omega) (by omega), sAg, r2, ob]
      simp only [rb_0]
      unfold fX7_isAsSeen_61
      by_cases z : (W i : Int) < g 24
      · rw [if_neg (by omega), mStick hQ hV z, ob, ob]
        have sb := sStick_b g (W i)
        simp (disch := omega) only [rI_eq]
        by_cases z2 : sStick g (W i) = (P i : Int)
        · rw [if_pos z2, show sOk g W P i = true from decide_eq_true ⟨z, z2⟩]
          exact st true
        · rw [if_neg z2, show sOk g W P i = false from decide_eq_false (fun y => z2 y.2)]
          exact st false
      · rw [if_pos (by omega), show sOk g W P i = false from decide_eq_false (fun y => z y.1)]
        exact st false
  unfold fX7_isAsSeen
  exact loop n 0 1000 (by omega) (by omega)
theorem or_step {P : Nat → Bool} {k : Nat} (hk : k < 12) : rI (sBits P k : Nat) ||| (if P k = true then rI 1 <<< (rI (k : Int) &&& 31) else rI 0) = rI (sBits P (k + 1) : Nat) := by
  cases h : P k with
  | true => rw [if_pos rfl]; exact or_yes hk h
  | false => rw [if_neg (by decide), or_0, or_no h]
theorem cVals {σ : rp_S} {g : Nat → Int} {n w k M : Nat} {W P : Nat → Nat} (hN : NT σ 1 g) (hV : sV g) (hS : SN σ n W P) (hw : w < 6) (hk : k < 4) (hM : M ≤ 12) (hM1 : 1 ≤ M) (ht : rq_td 1 (rI (k : Int)) = some (rI ((M : Int) - 1))) (hf : ∀ m : Nat, m < M → fitW k m) : ∃ τ, CF σ τ ∧ fX6_valuesAsSeen σ (rI w) (rI k) = some (rI (sBits (fun m => sAg (gU g (6 * k + w) (m : Nat)) W P n 0) M : Nat), τ) := by
  obtain ⟨Q, hQ⟩ : ∃ Q : Nat → Bool, Q = fun m : Nat => sAg (gU g (6 * k + w) (m : Nat)) W P n 0 := ⟨_, rfl⟩
  rw [← hQ]
  obtain ⟨τ1, h1, h2, h3⟩ := cBecome (a := 5) (b := 1) hN hV (by omega)
  have c1 : CF σ τ1 := fun b hb => h1 b (by omega) (by omega) (by omega)
  have loop : ∀ (t m f : Nat) (ρ : rp_S) (x : Int), t < f → m + t = M → CF σ ρ → NT ρ 5 (gU g (6 * k + w) x) → sV (gU g (6 * k + w) x) → ∃ ρ', CF σ ρ' ∧ fX6_valuesAsSeen_22 f ρ (rI w) (rI k) (rI (sBits Q m : Nat)) (rI m) = some (rI (sBits Q M : Nat), ρ') := by
    intro t
    induction t with
    | zero =>
      intro m f ρ x hf2 hm hC hT hX
      obtain ⟨f, rfl⟩ : ∃ q, f = q + 1 := ⟨f - 1, by omega⟩
      have e : m = M := by omega
      subst e
      rw [fX6_valuesAsSeen_22, ht, ob, if_pos (by rw [rI_lt (by omega) (by omega) (by omega) (by omega)]; omega)]
      exact ⟨ρ, hC, rfl⟩
    | succ t ih =>
      intro m f ρ x hf2 hm hC hT hX
      obtain ⟨f, rfl⟩ : ∃ q, f = q + 1 := ⟨f - 1, by omega⟩
      have t1 := hT.setW hX hw hk (m : Int)
      rw [gU_gU] at t1
      have gv := hV.setW hw (hf m (by omega))
      have c2 : CF σ (rp_up ρ (5 + 1) (4 * w + k) (rI (m : Int))) := hC.u (by omega) (by omega)
      have ag := cAgree t1 gv (hS.q c2.q)
      have st := or_step (P := Q) (k := m) (by omega)
      have eQ : sAg (gU g (6 * k + w) (m : Int)) W P n 0 = Q m := by rw [hQ]
      rw [eQ] at ag
      rw [fX6_valuesAsSeen_22, ht, ob, if_neg (by rw [rI_lt (by omega) (by omega) (by omega) (by omega)]; omega), cSetW hw hk, ob, ag, ob]
      unfold fX6_valuesAsSeen_60
      simp only [rb_0, iI_s]
      have e := ih (m + 1) f (rp_up ρ (5 + 1) (4 * w + k) (rI (m : Int))) (m : Int) (by omega) (by omega) c2 t1 gv
      rw [← st] at e
      by_cases z : Q m = true
      · rw [if_neg (fun y => y z)]; rw [if_pos z] at e; exact e
      · rw [if_pos z]; rw [if_neg z, or_0] at e; exact e
  obtain ⟨ρ, g1, g2⟩ := loop M 0 1000 τ1 (g (6 * k + w)) (by omega) (by omega) c1 (by rw [gU_id]; exact h2) (by rw [gU_id]; exact hV)
  refine ⟨ρ, g1, ?_⟩
  unfold fX6_valuesAsSeen
  rw [h3, ob]
  exact g2
section OPS
variable {σ : rp_S}
theorem op_kinds (h : Inv σ) (u : Int32) : OpW (fX6_kinds σ u) (fun τ => fX7_kinds τ u) := by
  obtain ⟨g, hp, hr⟩ := id h
  obtain ⟨hP, hV, hN⟩ := id hp
  obtain ⟨n, W, P, hS⟩ := hr.2.1.sn
  have v1 := hV.1
  by_cases q : 0 ≤ u.toInt ∧ u.toInt ≤ g 24 - 1
  · obtain ⟨w, rfl, hw2⟩ := toN q.1
    have hw6 : w < 6 := by omega
    obtain ⟨ρ, g1, g2⟩ := cVals (k := 0) (M := 4) hN hV hS hw6 (by omega) (by omega) (by omega) (by decide) (fun m hm => by omega)
    obtain ⟨Q, hQ⟩ : ∃ Q : Nat → Bool, Q = fun m : Nat => sAg (gU g (6 * 0 + w) (m : Nat)) W P n 0 := ⟨_, rfl⟩
    rw [← hQ] at g2
    have hp' := hp.q g1.q
    obtain ⟨μ, m1, m2, m3⟩ := mTried hp'.1
    have ml : ∀ (t m f : Nat) (ν : rp_S) (x : Int), t < f → m + t = 4 → MF ρ ν → PG ν 144 (gU g (6 * 0 + w) x) → ∃ ν', MF ρ ν' ∧ fX7_kinds_22 f ν (rI w) (rI (sBits Q m : Nat)) (rI m) = some (rI (sBits Q 4 : Nat), ν') := by
      intro t
      induction t with
      | zero =>
        intro m f ν x hf hm hM hQ2
        obtain ⟨f, rfl⟩ : ∃ q, f = q + 1 := ⟨f - 1, by omega⟩
        have e : m = 4 := by omega
        subst e
        rw [fX7_kinds_22, if_pos (by decide)]
        exact ⟨ν, hM, rfl⟩
      | succ t ih =>
        intro m f ν x hf hm hM hQ2
        obtain ⟨f, rfl⟩ : ∃ q, f = q + 1 := ⟨f - 1, by omega⟩
        have h1 := hQ2.set (j := 6 * 0 + w) (by omega) (m : Int)
        rw [gU_gU, show ((144 : Int) + ((6 * 0 + w : Nat) : Int)).toNat = 144 + (6 * 0 + w) by omega] at h1
        have fM : MF ν (rp_up ν 29 (144 + (6 * 0 + w)) (rI (m : Int))) := ⟨fun b z1 z2 z3 => up_ne z2, fun j hj => up_nj (by omega), fun j z1 z2 z3 => by rw [up_ne (by omega)]⟩
        have gv := hV.setW (w := w) (k := 0) hw6 (v := (m : Int)) (by omega)
        have fM2 := hM.tr fM
        have ag := mAgree (fM2.pg hp'.1) hV h1 gv (gU_ne (by omega)) ((hS.q g1.q).q fM2.q)
        have eQ : sAg (gU g (6 * 0 + w) (m : Int)) W P n 0 = Q m := by rw [hQ]
        rw [eQ] at ag
        have st := or_step (P := Q) (k := m) (by omega)
        have e := ih (m + 1) f (rp_up ν 29 (144 + (6 * 0 + w)) (rI (m : Int))) (m : Int) (by omega) (by omega) fM2 h1
        rw [← st] at e
        rw [fX7_kinds_22, if_neg (by rw [rI_le (by omega) (by omega) (by omega) (by omega)]; omega), wr144 (j := 6 * 0 + w) (by omega) (by omega), ob, ag, ob]
        unfold fX7_kinds_56
        simp only [rb_0, iI_s]
        by_cases z : Q m = true
        · rw [if_neg (fun y => y z)]; rw [if_pos z] at e; exact e
        · rw [if_pos z]; rw [if_neg z] at e; exact e
    obtain ⟨ν, n1, n2⟩ := ml 4 0 1000 μ (g (6 * 0 + w)) (by omega) (by omega) m1 (by rw [gU_id]; exact m2)
    refine ⟨rI (sBits Q 4 : Nat), ρ, ν, ?_, ?_, h.q (g1.q.tr n1.q)⟩
    · unfold fX6_kinds
      rw [cHasW hN hV]
      simp only [ob, rb_0]
      have g2' : fX6_valuesAsSeen σ (rI w) (rI 0) = some (rI (sBits Q 4 : Nat), ρ) := g2
      rw [if_neg (fun z => z q), g2', ob]
    · show fX7_kinds _ _ = _
      unfold fX7_kinds
      rw [mHasW hp'.1 hV]
      simp only [ob, rb_0]
      rw [if_neg (fun z => z q), m3, ob]
      exact n2
  · refine ⟨rI (-1), σ, σ, ?_, ?_, h⟩
    · unfold fX6_kinds
      rw [cHasW hN hV]
      simp only [ob, rb_0]
      rw [if_pos q]
    · show fX7_kinds _ _ = _
      unfold fX7_kinds
      rw [mHasW hP hV]
      simp only [ob, rb_0]
      rw [if_pos q]
theorem op_froms (h : Inv σ) (u : Int32) : OpW (fX6_froms σ u) (fun τ => fX7_froms τ u) := by
  obtain ⟨g, hp, hr⟩ := id h
  obtain ⟨hP, hV, hN⟩ := id hp
  obtain ⟨n, W, P, hS⟩ := hr.2.1.sn
  have v1 := hV.1
  by_cases q : 0 ≤ u.toInt ∧ u.toInt ≤ g 24 - 1
  · obtain ⟨w, rfl, hw2⟩ := toN q.1
    have hw6 : w < 6 := by omega
    obtain ⟨ρ, g1, g2⟩ := cVals (k := 1) (M := 12) hN hV hS hw6 (by omega) (by omega) (by omega) (by decide) (fun m hm => by omega)
    obtain ⟨Q, hQ⟩ : ∃ Q : Nat → Bool, Q = fun m : Nat => sAg (gU g (6 * 1 + w) (m : Nat)) W P n 0 := ⟨_, rfl⟩
    rw [← hQ] at g2
    have hp' := hp.q g1.q
    obtain ⟨μ, m1, m2, m3⟩ := mTried hp'.1
    have ml : ∀ (t m f : Nat) (ν : rp_S) (x : Int), t < f → m + t = 12 → MF ρ ν → PG ν 144 (gU g (6 * 1 + w) x) → ∃ ν', MF ρ ν' ∧ fX7_froms_22 f ν (rI w) (rI (sBits Q m : Nat)) (rI m) = some (rI (sBits Q 12 : Nat), ν') := by
      intro t
      induction t with
      | zero =>
        intro m f ν x hf hm hM hQ2
        obtain ⟨f, rfl⟩ : ∃ q, f = q + 1 := ⟨f - 1, by omega⟩
        have e : m = 12 := by omega
        subst e
        rw [fX7_froms_22, if_pos (by decide)]
        exact ⟨ν, hM, rfl⟩
      | succ t ih =>
        intro m f ν x hf hm hM hQ2
        obtain ⟨f, rfl⟩ : ∃ q, f = q + 1 := ⟨f - 1, by omega⟩
        have h1 := hQ2.set (j := 6 * 1 + w) (by omega) (m : Int)
        rw [gU_gU, show ((144 : Int) + ((6 * 1 + w : Nat) : Int)).toNat = 144 + (6 * 1 + w) by omega] at h1
        have fM : MF ν (rp_up ν 29 (144 + (6 * 1 + w)) (rI (m : Int))) := ⟨fun b z1 z2 z3 => up_ne z2, fun j hj => up_nj (by omega), fun j z1 z2 z3 => by rw [up_ne (by omega)]⟩
        have gv := hV.setW (w := w) (k := 1) hw6 (v := (m : Int)) (by omega)
        have fM2 := hM.tr fM
        have ag := mAgree (fM2.pg hp'.1) hV h1 gv (gU_ne (by omega)) ((hS.q g1.q).q fM2.q)
        have eQ : sAg (gU g (6 * 1 + w) (m : Int)) W P n 0 = Q m := by rw [hQ]
        rw [eQ] at ag
        have st := or_step (P := Q) (k := m) (by omega)
        have e := ih (m + 1) f (rp_up ν 29 (144 + (6 * 1 + w)) (rI (m : Int))) (m : Int) (by omega) (by omega) fM2 h1
        rw [← st] at e
        rw [fX7_froms_22, if_neg (by rw [rI_le (by omega) (by omega) (by omega) (by omega)]; omega), wr144 (j := 6 * 1 + w) (by omega) (by omega), ob, ag, ob]
        unfold fX7_froms_57
        simp only [rb_0, iI_s]
        by_cases z : Q m = true
        · rw [if_neg (fun y => y z)]; rw [if_pos z] at e; exact e
        · rw [if_pos z]; rw [if_neg z] at e; exact e
    obtain ⟨ν, n1, n2⟩ := ml 12 0 1000 μ (g (6 * 1 + w)) (by omega) (by omega) m1 (by rw [gU_id]; exact m2)
    refine ⟨rI (sBits Q 12 : Nat), ρ, ν, ?_, ?_, h.q (g1.q.tr n1.q)⟩
    · unfold fX6_froms
      rw [cHasW hN hV]
      simp only [ob, rb_0]
      have g2' : fX6_valuesAsSeen σ (rI w) (rI 1) = some (rI (sBits Q 12 : Nat), ρ) := g2
      rw [if_neg (fun z => z q), g2', ob]
    · show fX7_froms _ _ = _
      unfold fX7_froms
      rw [mHasW hp'.1 hV]
      simp only [ob, rb_0]
      rw [if_neg (fun z => z q), m3, ob]
      exact n2
  · refine ⟨rI (-1), σ, σ, ?_, ?_, h⟩
    · unfold fX6_froms
      rw [cHasW hN hV]
      simp only [ob, rb_0]
      rw [if_pos q]
    · show fX7_froms _ _ = _
      unfold fX7_froms
      rw [mHasW hP hV]
      simp only [ob, rb_0]
      rw [if_pos q]
end OPS
