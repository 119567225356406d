/-! ask: the operation -/
section ASK
variable {ν : rp_S} {g : Nat → Int} {Q : Nat → Bool} {w : Nat}
theorem rd36 (h36 : ∀ m w : Nat, m < 9 → (w : Int) < g 24 → ν 36 (6 * m + w) = rI (sStick (gB g m) w)) (h6 : g 24 ≤ 6) (hw : (w : Int) < g 24) {m : Nat} (hm : m < 9) : rq_rd ν 36 54 (rI 6 * rI m + rI w) = some (rI (sStick (gB g m) w)) := by
  rw [rI_mul, rI_add, rd_ok (by omega) (by omega) (by omega), show ((6 : Int) * m + w).toNat = 6 * m + w by omega, h36 m w hm hw]
theorem mAsk60 (h36 : ∀ m w : Nat, m < 9 → (w : Int) < g 24 → ν 36 (6 * m + w) = rI (sStick (gB g m) w)) (h6 : g 24 ≤ 6) (hw : (w : Int) < g 24) {m : Nat} (hm : m < 9) (hq : Q m = true) (k29 : rp_S → Int32 → Int32 → Int32 → Int32 → Int32 → Option (Int32 × rp_S)) (k47 : rp_S → Int32 → Int32 → Int32 → Int32 → Int32 → Int32 → Int32 → Option (Int32 × rp_S)) (v a b c : Int32) : ∀ (t i f : Nat), t < f → i + t = 9 → fX7_ask_60 k29 k47 f ν v (rI (sBits Q 9 : Nat)) a b (rI w) c (rI m) (rI (sDrop Q (fun m => sStick (gB g m) w) (sStick (gB g m) w) i)) (rI i) = fX7_ask_132 k29 k47 ν v (rI (sBits Q 9 : Nat)) a b (rI w) c (rI m) (rI (sDrop Q (fun m => sStick (gB g m) w) (sStick (gB g m) w) 9)) := by
  intro t
  induction t with
  | zero =>
    intro i f hf hi
    obtain ⟨f, rfl⟩ : ∃ q, f = q + 1 := ⟨f - 1, by omega⟩
    have e : i = 9 := by omega
    subst e
    rw [fX7_ask_60, if_pos (by decide)]
  | succ t ih =>
    intro i f hf hi
    obtain ⟨f, rfl⟩ : ∃ q, f = q + 1 := ⟨f - 1, by omega⟩
    have e := ih (i + 1) f (by omega) (by omega)
    rw [← e]
    have sb := sStick_b (gB g m) w
    have sb2 := sStick_b (gB g i) w
    rw [fX7_ask_60, if_neg (by rw [rI_lt (by omega) (by omega) (by omega) (by omega)]; omega), rd36 h36 h6 hw hm, ob, rd36 h36 h6 hw (show i < 9 by omega), ob]
    unfold fX7_ask_122 fX7_ask_123
    simp only [bit_is (Q := Q) hm, bit_is (Q := Q) (show i < 9 by omega), iI_s]
    simp (disch := omega) only [rI_eq]
    rw [if_pos hq]
    have es : sDrop Q (fun m => sStick (gB g m) w) (sStick (gB g m) w) (i + 1) = sDrop Q (fun m => sStick (gB g m) w) (sStick (gB g m) w) i + (if Q i = true ∧ sStick (gB g i) w = sStick (gB g m) w then 1 else 0) := by unfold sDrop; rw [sSum]
    rw [es]
    simp only [rI_add]
    by_cases z : Q i = true
    · rw [if_pos z]
      by_cases z2 : sStick (gB g m) w = sStick (gB g i) w
      · rw [if_pos z2, if_pos ⟨z, z2.symm⟩]
      · rw [if_neg z2, if_neg (fun y => z2 y.2.symm)]
    · rw [if_neg z, if_neg (fun y => z y.1)]
def sG (g : Nat → Int) (Q : Nat → Bool) (w : Nat) : Nat → Int := fun m => if Q m = true then sDrop Q (fun m => sStick (gB g m) w) (sStick (gB g m) w) 9 else 0
theorem sG_b (g : Nat → Int) (Q : Nat → Bool) (w m : Nat) : 0 ≤ sG g Q w m ∧ sG g Q w m ≤ 9 := by
  unfold sG
  have := sDrop_b Q (fun m => sStick (gB g m) w) (sStick (gB g m) w) 9
  split <;> omega
theorem sG_e (g : Nat → Int) (Q : Nat → Bool) (w : Nat) : sMax (sG g Q w) 9 = sWst g Q w := (sMax_two Q (fun m => sStick (gB g m) w) (fun m _ => sStick_b (gB g m) w)).symm
theorem mAsk47 (h36 : ∀ m w : Nat, m < 9 → (w : Int) < g 24 → ν 36 (6 * m + w) = rI (sStick (gB g m) w)) (h6 : g 24 ≤ 6) (hw : (w : Int) < g 24) (k29 : rp_S → Int32 → Int32 → Int32 → Int32 → Int32 → Option (Int32 × rp_S)) (v a b : Int32) : ∀ (t m f : Nat), t < f → m + t = 9 → fX7_ask_47 k29 f ν v (rI (sBits Q 9 : Nat)) a b (rI w) (rI (sMax (sG g Q w) m)) (rI m) = if a ≤ rI (sMax (sG g Q w) 9) then fX7_ask_167 k29 ν v (rI (sBits Q 9 : Nat)) a (rI w) (rI (sMax (sG g Q w) 9)) b else fX7_ask_167 k29 ν v (rI (sBits Q 9 : Nat)) a (rI w) (rI (sMax (sG g Q w) 9)) (rI w) := by
  intro t
  induction t with
  | zero =>
    intro m f hf hm
    obtain ⟨f, rfl⟩ : ∃ q, f = q + 1 := ⟨f - 1, by omega⟩
    have e : m = 9 := by omega
    subst e
    rw [fX7_ask_47, if_pos (by decide)]
  | succ t ih =>
    intro m f hf hm
    obtain ⟨f, rfl⟩ : ∃ q, f = q + 1 := ⟨f - 1, by omega⟩
    have e := ih (m + 1) f (by omega) (by omega)
    have gb := sG_b g Q w m
    have mb := sMax_0 (sG g Q w) m
    have mb2 := sMax_le (F := sG g Q w) (c := 9) (by omega) m (fun i _ => (sG_b g Q w i).2)
    rw [← e]
    have tail : fX7_ask_132 k29 (fun σ v1 v2 v3 v4 v5 v6 v7 => fX7_ask_47 k29 f σ v1 v2 v3 v4 v5 v6 v7) ν v (rI (sBits Q 9 : Nat)) a b (rI w) (rI (sMax (sG g Q w) m)) (rI m) (rI (sG g Q w m)) = fX7_ask_47 k29 f ν v (rI (sBits Q 9 : Nat)) a b (rI w) (rI (sMax (sG g Q w) (m + 1))) (rI ((m + 1 : Nat) : Int)) := by
      unfold fX7_ask_132 fX7_ask_146
      rw [sMax]
      simp (disch := omega) only [rI_le]
      simp only [iI_s]
      by_cases z : sG g Q w m ≤ sMax (sG g Q w) m
      · rw [if_pos z]
        by_cases z2 : sMax (sG g Q w) m ≤ sG g Q w m
        · rw [if_pos z2, show sMax (sG g Q w) m = sG g Q w m by omega]
        · rw [if_neg z2]
      · rw [if_neg z, if_pos (by omega)]
    rw [← tail, fX7_ask_47, if_neg (by rw [rI_lt (by omega) (by omega) (by omega) (by omega)]; omega)]
    by_cases z : Q m = true
    · have e2 := mAsk60 (Q := Q) h36 h6 hw (m := m) (by omega) z k29 (fun σ v1 v2 v3 v4 v5 v6 v7 => fX7_ask_47 k29 f σ v1 v2 v3 v4 v5 v6 v7) v a b (rI (sMax (sG g Q w) m)) 9 0 1000 (by omega) (by omega)
      have e3 : sG g Q w m = sDrop Q (fun m => sStick (gB g m) w) (sStick (gB g m) w) 9 := by unfold sG; exact if_pos z
      rw [e3]
      exact e2
    · have e3 : sG g Q w m = 0 := by unfold sG; exact if_neg z
      rw [e3, show (1000 : Nat) = 999 + 1 from rfl, fX7_ask_60, if_neg (by decide)]
      simp only [bit_is (Q := Q) (show m < 9 by omega)]
      rw [if_neg z]
end ASK
theorem op_ask {σ : rp_S} (h : Inv σ) (v : Int32) : OpW (fX6_ask σ v) (fun τ => fX7_ask τ v) := by
  obtain ⟨g, hp, hr⟩ := id h
  obtain ⟨hP, hV, hN⟩ := id hp
  have v1 := hV.1
  obtain ⟨n, W, P, hS⟩ := hr.2.1.sn
  by_cases q : 0 ≤ v.toInt ∧ v.toInt ≤ 1
  · obtain ⟨τ, a1, a2⟩ := cWinds hN hV hS
    obtain ⟨Q, hQ⟩ : ∃ Q, Q = sWd g W P n := ⟨_, rfl⟩
    rw [← hQ] at a2
    obtain ⟨C, hC⟩ : ∃ C : Int, C = ((pc9 (sBits Q 9) : Nat) : Int) := ⟨_, rfl⟩
    have Cb : 0 ≤ C ∧ C ≤ 9 := by have := pc9_b (sBits Q 9); omega
    obtain ⟨F, hF⟩ : ∃ F : Nat → Int, F = fun w => C - sWst g Q w := ⟨_, rfl⟩
    have bF : ∀ k, (-9 : Int) ≤ F k ∧ F k ≤ 9 := fun k => by rw [hF]; have := sWst_b g Q k; show -9 ≤ C - sWst g Q k ∧ C - sWst g Q k ≤ 9; omega
    have ab := fun k => sBa_b (F := F) (a0 := 0) (lo := -9) (hi := 9) (by omega) bF k
    obtain ⟨N, hN24⟩ : ∃ N : Nat, g 24 = N := ⟨(g 24).toNat, by omega⟩
    have wb : ∀ k, k ≤ 6 → _ := fun k hk => sBw_c (F := F) (lab := fun m => m) (w0 := -4) (a0 := 0) (hi := 6) (Or.inl rfl) k (fun i hi => by show (0 : Int) ≤ (i : Int) ∧ (i : Int) ≤ 6; omega)
    obtain ⟨τ1, f1, f2, f3⟩ := cAbove τ 0
    have cl : ∀ (k m f : Nat) (ρ : rp_S), k < f → m + k = N → CF σ ρ → BS ρ (sBw F (fun m => m) (-4) 0 m) (sBa F 0 m) →
        ∃ ρ', CF σ ρ' ∧ fX6_ask_32 f ρ v (rI (sBits Q 9 : Nat)) (rI C) (rI m) = some (sAns (sBw F (fun m => m) (-4) 0 N) (C - sBa F 0 N) v, ρ') := by
      intro k
      induction k with
      | zero =>
        intro m f ρ hf hm hK hB
        obtain ⟨f, rfl⟩ : ∃ q, f = q + 1 := ⟨f - 1, by omega⟩
        have e : m = N := by omega
        subst e
        have w0 := wb m (by omega)
        have e2 : ρ 1 2 = rI (g 24) := by rw [hK 1 (by omega)]; exact hN.1
        refine ⟨ρ, hK, ?_⟩
        rw [fX6_ask_32, e2, hN24, if_pos (by rw [rI_le (by omega) (by omega) (by omega) (by omega)]; omega), hB.1, hB.2]
        unfold fX6_ask_82 sAns
        rw [hB.1, rI_sub]
        simp (disch := omega) only [rI_lt0]
        by_cases z : sBw F (fun m => m) (-4) 0 m < 0
        · rw [if_pos z, if_pos z]
        · rw [if_neg z, if_neg z]
          by_cases z2 : v = 0
          · rw [if_pos z2, if_pos z2]
          · rw [if_neg z2, if_neg z2]
      | succ k ih =>
        intro m f ρ hf hm hK hB
        obtain ⟨f, rfl⟩ : ∃ q, f = q + 1 := ⟨f - 1, by omega⟩
        have b1 := ab m
        have b2 := bF m
        have e2 : ρ 1 2 = rI (g 24) := by rw [hK 1 (by omega)]; exact hN.1
        obtain ⟨ρ1, s1, s2, s3⟩ := cWorst (σ := ρ) (Q := Q) (w := m) (hN.kept (hK 1 (by omega)) (hK 2 (by omega)) (hK 3 (by omega))) hV (by omega)
        have BS2 : BS ρ1 (sBw F (fun m => m) (-4) 0 m) (sBa F 0 m) := by unfold BS; rw [s2]; exact hB
        obtain ⟨ρ3, g1, g2, g3⟩ := cOffer (c := (m : Int)) (f := F m) BS2 (by omega) (by omega) (by omega) (by omega)
        have eF : C - sWst g Q m = F m := by rw [hF]
        rw [fX6_ask_32, e2, hN24, if_neg (by rw [rI_le (by omega) (by omega) (by omega) (by omega)]; omega), s3, ob, rI_sub, eF, g3, ob, iI_s]
        refine ih (m + 1) f ρ3 (by omega) (by omega) ((hK.tr s1).tr g1.c) ?_
        rw [sBw, sBa]; exact g2
    obtain ⟨ρ, g1, g2⟩ := cl N 0 1000 τ1 (by omega) (by omega) (a1.tr f1.c) f2
    have hp' := hp.q g1.q
    obtain ⟨μ, m1, m2, m3⟩ := mWinds hp'.1 hV (hS.q g1.q)
    rw [← hQ] at m3
    have P0 : PG μ 0 g := m1.pg hp'.1
    have ml : ∀ (k m f : Nat), k < f → m + k = N → fX7_ask_29 f μ v (rI (sBits Q 9 : Nat)) (rI (C - sBa F 0 m)) (rI (sBw F (fun m => m) (-4) 0 m)) (rI m) = some (sAns (sBw F (fun m => m) (-4) 0 N) (C - sBa F 0 N) v, μ) := by
      intro k
      induction k with
      | zero =>
        intro m f hf hm
        obtain ⟨f, rfl⟩ : ∃ q, f = q + 1 := ⟨f - 1, by omega⟩
        have e : m = N := by omega
        subst e
        have w0 := wb m (by omega)
        rw [fX7_ask_29, rd24 P0, ob, hN24, if_pos (by rw [rI_le (by omega) (by omega) (by omega) (by omega)]; omega)]
        exact mAnsP (by omega) v μ
      | succ k ih =>
        intro m f hf hm
        obtain ⟨f, rfl⟩ : ∃ q, f = q + 1 := ⟨f - 1, by omega⟩
        have b1 := ab m
        have b2 := bF m
        have sb := sWst_b g Q m
        have e := ih (m + 1) f (by omega) (by omega)
        rw [sBw, sBa] at e
        have e2 := mAsk47 (Q := Q) (w := m) m2 (by omega) (by omega) (fun σ v1 v2 v3 v4 v5 => fX7_ask_29 f σ v1 v2 v3 v4 v5) v (rI (C - sBa F 0 m)) (rI (sBw F (fun m => m) (-4) 0 m)) 9 0 1000 (by omega) (by omega)
        rw [sG_e] at e2
        rw [fX7_ask_29, rd24 P0, ob, hN24, if_neg (by rw [rI_le (by omega) (by omega) (by omega) (by omega)]; omega)]
        refine Eq.trans e2 ?_
        unfold fX7_ask_167 fX7_ask_181
        simp (disch := omega) only [rI_le]
        simp only [iI_s]
        have eF : C - sWst g Q m = F m := by rw [hF]
        by_cases z : C - sBa F 0 m ≤ sWst g Q m
        · rw [if_pos z, if_pos z]
          rw [if_neg (by omega), if_neg (by omega)] at e
          exact e
        · rw [if_neg z, if_neg z]
          rw [if_pos (by omega), if_pos (by omega), show C - F m = sWst g Q m by omega] at e
          exact e
    have n2 := ml N 0 1000 (by omega) (by omega)
    rw [sBa, sBw, Int.sub_zero] at n2
    refine ⟨sAns (sBw F (fun m => m) (-4) 0 N) (C - sBa F 0 N) v, ρ, μ, ?_, ?_, h.q (g1.q.tr m1.q)⟩
    · unfold fX6_ask
      rw [in9 _ (by omega) (by omega)]
      simp only [ob, rb_0]
      rw [if_neg (fun z => z q), a2, ob, bc_ok _ (sBits_512 Q (by omega)), ob, ← hC]
      have f3' : fX0_beginAbove τ (rI 0) = some τ1 := f3
      rw [f3', ob]
      exact g2
    · show fX7_ask _ _ = _
      unfold fX7_ask
      rw [in7 _ (by omega) (by omega)]
      simp only [ob, rb_0]
      rw [if_neg (fun z => z q), m3, ob, bo_ok _ (sBits_512 Q (by omega)), ob, ← hC]
      exact n2
  · refine ⟨rI (-1), σ, σ, ?_, ?_, h⟩
    · unfold fX6_ask
      rw [in9 _ (by omega) (by omega)]
      simp only [ob, rb_0]
      rw [if_pos q]
    · show fX7_ask _ _ = _
      unfold fX7_ask
      rw [in7 _ (by omega) (by omega)]
      simp only [ob, rb_0]
      rw [if_pos q]
