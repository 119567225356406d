/-! the law: its loop -/
theorem and63 (x : Int32) : 0 ≤ (x &&& rI 63).toInt ∧ (x &&& rI 63).toInt < 64 := by
  obtain ⟨j, hj, e⟩ := pk_andE x (m := 63) 6 (by decide)
  have e' : x &&& rI 63 = nI j := e
  have en : nI j = rI (j : Int) := rfl
  rw [e', en, rI_toInt (by omega) (by omega)]
  omega
set_option maxRecDepth 100000 in
theorem law_sw {E : rp_E} {b L : Nat} {xs : Nat → Int32} {i : Nat} {σ : rp_S} (hi : i + 5 ≤ L) (hL : L ≤ 320) (hI : Inv σ) (nx : ∀ τ : rp_S, Inv τ → rp_R E (lw_K E b L xs) mL_law 1498 (lwv E b (rI (i : Int))) [] τ lw_h (some ())) (x : Int32) (hx : 0 ≤ x.toInt) : rp_R E (lw_K E b L xs) mL_law 32 (lwv E b (rI (i : Int))) [.int x] σ lw_h (some ()) := by
  obtain ⟨z, hz⟩ : ∃ z : Int, x.toInt = z := ⟨_, rfl⟩
  by_cases c0 : z = 0
  · exact rp_tswIn (tgt := 224) 0 (by rw [hz, c0]) dL_law_32 (by decide) (by decide) rfl (by decide) (lawc_0 hi hL hI nx)
  by_cases c1 : z = 1
  · exact rp_tswIn (tgt := 247) 1 (by rw [hz, c1]) dL_law_32 (by decide) (by decide) rfl (by decide) (lawc_1 hi hL hI nx)
  by_cases c2 : z = 2
  · exact rp_tswIn (tgt := 270) 2 (by rw [hz, c2]) dL_law_32 (by decide) (by decide) rfl (by decide) (lawc_2 hi hL hI nx)
  by_cases c3 : z = 3
  · exact rp_tswIn (tgt := 283) 3 (by rw [hz, c3]) dL_law_32 (by decide) (by decide) rfl (by decide) (lawc_3 hi hL hI nx)
  by_cases c4 : z = 4
  · exact rp_tswIn (tgt := 296) 4 (by rw [hz, c4]) dL_law_32 (by decide) (by decide) rfl (by decide) (lawc_4 hi hL hI nx)
  by_cases c5 : z = 5
  · exact rp_tswIn (tgt := 319) 5 (by rw [hz, c5]) dL_law_32 (by decide) (by decide) rfl (by decide) (lawc_5 hi hL hI nx)
  by_cases c6 : z = 6
  · exact rp_tswIn (tgt := 352) 6 (by rw [hz, c6]) dL_law_32 (by decide) (by decide) rfl (by decide) (lawc_6 hi hL hI nx)
  by_cases c7 : z = 7
  · exact rp_tswIn (tgt := 385) 7 (by rw [hz, c7]) dL_law_32 (by decide) (by decide) rfl (by decide) (lawc_7 hi hL hI nx)
  by_cases c8 : z = 8
  · exact rp_tswIn (tgt := 418) 8 (by rw [hz, c8]) dL_law_32 (by decide) (by decide) rfl (by decide) (lawc_8 hi hL hI nx)
  by_cases c9 : z = 9
  · exact rp_tswIn (tgt := 451) 9 (by rw [hz, c9]) dL_law_32 (by decide) (by decide) rfl (by decide) (lawc_9 hi hL hI nx)
  by_cases c10 : z = 10
  · exact rp_tswIn (tgt := 474) 10 (by rw [hz, c10]) dL_law_32 (by decide) (by decide) rfl (by decide) (lawc_10 hi hL hI nx)
  by_cases c11 : z = 11
  · exact rp_tswIn (tgt := 517) 11 (by rw [hz, c11]) dL_law_32 (by decide) (by decide) rfl (by decide) (lawc_11 hi hL hI nx)
  by_cases c12 : z = 12
  · exact rp_tswIn (tgt := 560) 12 (by rw [hz, c12]) dL_law_32 (by decide) (by decide) rfl (by decide) (lawc_12 hi hL hI nx)
  by_cases c13 : z = 13
  · exact rp_tswIn (tgt := 583) 13 (by rw [hz, c13]) dL_law_32 (by decide) (by decide) rfl (by decide) (lawc_13 hi hL hI nx)
  by_cases c14 : z = 14
  · exact rp_tswIn (tgt := 606) 14 (by rw [hz, c14]) dL_law_32 (by decide) (by decide) rfl (by decide) (lawc_14 hi hL hI nx)
  by_cases c15 : z = 15
  · exact rp_tswIn (tgt := 659) 15 (by rw [hz, c15]) dL_law_32 (by decide) (by decide) rfl (by decide) (lawc_15 hi hL hI nx)
  by_cases c16 : z = 16
  · exact rp_tswIn (tgt := 692) 16 (by rw [hz, c16]) dL_law_32 (by decide) (by decide) rfl (by decide) (lawc_16 hi hL hI nx)
  by_cases c17 : z = 17
  · exact rp_tswIn (tgt := 715) 17 (by rw [hz, c17]) dL_law_32 (by decide) (by decide) rfl (by decide) (lawc_17 hi hL hI nx)
  by_cases c18 : z = 18
  · exact rp_tswIn (tgt := 738) 18 (by rw [hz, c18]) dL_law_32 (by decide) (by decide) rfl (by decide) (lawc_18 hi hL hI nx)
  by_cases c19 : z = 19
  · exact rp_tswIn (tgt := 761) 19 (by rw [hz, c19]) dL_law_32 (by decide) (by decide) rfl (by decide) (lawc_19 hi hL hI nx)
  by_cases c20 : z = 20
  · exact rp_tswIn (tgt := 774) 20 (by rw [hz, c20]) dL_law_32 (by decide) (by decide) rfl (by decide) (lawc_20 hi hL hI nx)
  by_cases c21 : z = 21
  · exact rp_tswIn (tgt := 807) 21 (by rw [hz, c21]) dL_law_32 (by decide) (by decide) rfl (by decide) (lawc_21 hi hL hI nx)
  by_cases c22 : z = 22
  · exact rp_tswIn (tgt := 840) 22 (by rw [hz, c22]) dL_law_32 (by decide) (by decide) rfl (by decide) (lawc_22 hi hL hI nx)
  by_cases c23 : z = 23
  · exact rp_tswIn (tgt := 873) 23 (by rw [hz, c23]) dL_law_32 (by decide) (by decide) rfl (by decide) (lawc_23 hi hL hI nx)
  by_cases c24 : z = 24
  · exact rp_tswIn (tgt := 896) 24 (by rw [hz, c24]) dL_law_32 (by decide) (by decide) rfl (by decide) (lawc_24 hi hL hI nx)
  by_cases c25 : z = 25
  · exact rp_tswIn (tgt := 919) 25 (by rw [hz, c25]) dL_law_32 (by decide) (by decide) rfl (by decide) (lawc_25 hi hL hI nx)
  by_cases c26 : z = 26
  · exact rp_tswIn (tgt := 952) 26 (by rw [hz, c26]) dL_law_32 (by decide) (by decide) rfl (by decide) (lawc_26 hi hL hI nx)
  by_cases c27 : z = 27
  · exact rp_tswIn (tgt := 975) 27 (by rw [hz, c27]) dL_law_32 (by decide) (by decide) rfl (by decide) (lawc_27 hi hL hI nx)
  by_cases c28 : z = 28
  · exact rp_tswIn (tgt := 1008) 28 (by rw [hz, c28]) dL_law_32 (by decide) (by decide) rfl (by decide) (lawc_28 hi hL hI nx)
  by_cases c29 : z = 29
  · exact rp_tswIn (tgt := 1062) 29 (by rw [hz, c29]) dL_law_32 (by decide) (by decide) rfl (by decide) (lawc_29 hi hL hI nx)
  by_cases c30 : z = 30
  · exact rp_tswIn (tgt := 1096) 30 (by rw [hz, c30]) dL_law_32 (by decide) (by decide) rfl (by decide) (lawc_30 hi hL hI nx)
  by_cases c31 : z = 31
  · exact rp_tswIn (tgt := 1129) 31 (by rw [hz, c31]) dL_law_32 (by decide) (by decide) rfl (by decide) (lawc_31 hi hL hI nx)
  by_cases c32 : z = 32
  · exact rp_tswIn (tgt := 1152) 32 (by rw [hz, c32]) dL_law_32 (by decide) (by decide) rfl (by decide) (lawc_32 hi hL hI nx)
  by_cases c33 : z = 33
  · exact rp_tswIn (tgt := 1165) 33 (by rw [hz, c33]) dL_law_32 (by decide) (by decide) rfl (by decide) (lawc_33 hi hL hI nx)
  by_cases c34 : z = 34
  · exact rp_tswIn (tgt := 1188) 34 (by rw [hz, c34]) dL_law_32 (by decide) (by decide) rfl (by decide) (lawc_34 hi hL hI nx)
  by_cases c35 : z = 35
  · exact rp_tswIn (tgt := 1211) 35 (by rw [hz, c35]) dL_law_32 (by decide) (by decide) rfl (by decide) (lawc_35 hi hL hI nx)
  by_cases c36 : z = 36
  · exact rp_tswIn (tgt := 1234) 36 (by rw [hz, c36]) dL_law_32 (by decide) (by decide) rfl (by decide) (lawc_36 hi hL hI nx)
  by_cases c37 : z = 37
  · exact rp_tswIn (tgt := 1277) 37 (by rw [hz, c37]) dL_law_32 (by decide) (by decide) rfl (by decide) (lawc_37 hi hL hI nx)
  by_cases c38 : z = 38
  · exact rp_tswIn (tgt := 1300) 38 (by rw [hz, c38]) dL_law_32 (by decide) (by decide) rfl (by decide) (lawc_38 hi hL hI nx)
  by_cases c39 : z = 39
  · exact rp_tswIn (tgt := 1323) 39 (by rw [hz, c39]) dL_law_32 (by decide) (by decide) rfl (by decide) (lawc_39 hi hL hI nx)
  by_cases c40 : z = 40
  · exact rp_tswIn (tgt := 1366) 40 (by rw [hz, c40]) dL_law_32 (by decide) (by decide) rfl (by decide) (lawc_40 hi hL hI nx)
  by_cases c41 : z = 41
  · exact rp_tswIn (tgt := 1409) 41 (by rw [hz, c41]) dL_law_32 (by decide) (by decide) rfl (by decide) (lawc_41 hi hL hI nx)
  by_cases c42 : z = 42
  · exact rp_tswIn (tgt := 1462) 42 (by rw [hz, c42]) dL_law_32 (by decide) (by decide) rfl (by decide) (lawc_42 hi hL hI nx)
  by_cases c43 : z = 43
  · exact rp_tswIn (tgt := 1475) 43 (by rw [hz, c43]) dL_law_32 (by decide) (by decide) rfl (by decide) (lawc_43 hi hL hI nx)
  exact rp_tswOut (tgt := 1498) dL_law_32 (by omega) (by decide) (nx σ hI)
set_option maxRecDepth 100000 in
theorem law_loop {E : rp_E} {b L : Nat} {xs : Nat → Int32} (hL : L ≤ 320) : ∀ (n i : Nat) (σ : rp_S), L < i + n → i ≤ L + 5 → Inv σ → rp_R E (lw_K E b L xs) mL_law 18 (lwv E b (rI (i : Int))) [] σ lw_h (some ()) := by
  intro n
  induction n with
  | zero =>
    intro i σ h1 h2 hI
    have fin : rp_R E (lw_K E b L xs) mL_law 1504 (lwv E b (rI (i : Int))) [] σ lw_h (some ()) := rp_iconst dL_law_1504 (lw_end dL_law_1505)
    refine rp_iload_n (x := rI (i : Int)) dL_law_18 rfl ?_
    refine rp_aload_n (x := b) dL_law_19 rfl ?_
    refine lw_slen dL_law_20 ?_
    refine rp_iconst dL_law_21 ?_
    refine rp_isub dL_law_22 ?_
    have c : Int32.ofNat L - rI 5 < rI (i : Int) := by
      rw [show Int32.ofNat L = rI (L : Int) from rfl, rI_sub, rI_lt (by omega) (by omega) (by omega) (by omega)]; omega
    have e : (some () : Option Unit) = if Int32.ofNat L - rI 5 < rI (i : Int) then some () else none := by rw [if_pos c]
    rw [e]
    exact rp_icmp_gt (tgt := 1504) dL_law_23 (by decide) fin rp_none
  | succ n ih =>
    intro i σ h1 h2 hI
    have fin : rp_R E (lw_K E b L xs) mL_law 1504 (lwv E b (rI (i : Int))) [] σ lw_h (some ()) := rp_iconst dL_law_1504 (lw_end dL_law_1505)
    refine rp_iload_n (x := rI (i : Int)) dL_law_18 rfl ?_
    refine rp_aload_n (x := b) dL_law_19 rfl ?_
    refine lw_slen dL_law_20 ?_
    refine rp_iconst dL_law_21 ?_
    refine rp_isub dL_law_22 ?_
    by_cases hi : i + 5 ≤ L
    · have c : ¬ Int32.ofNat L - rI 5 < rI (i : Int) := by
        rw [show Int32.ofNat L = rI (L : Int) from rfl, rI_sub, rI_lt (by omega) (by omega) (by omega) (by omega)]; omega
      have e : (some () : Option Unit) = if Int32.ofNat L - rI 5 < rI (i : Int) then none else some () := by rw [if_neg c]
      rw [e]
      refine rp_icmp_gt (tgt := 1504) dL_law_23 (by decide) rp_none ?_
      refine rp_aload_n (x := b) dL_law_26 rfl ?_
      refine rp_iload_n (x := rI (i : Int)) dL_law_27 rfl ?_
      have hin : vp_in (rI (i : Int)) L := by
        rw [vp_in_iff, rI_toInt (by omega) (by omega)]; omega
      refine lw_sld hin dL_law_28 ?_
      refine rp_bipush dL_law_29 (by decide) ?_
      refine rp_iand dL_law_31 ?_
      refine law_sw hi hL hI (fun τ hτ => ?_) _ (and63 _).1
      refine rp_iinc (x := rI (i : Int)) dL_law_1498 rfl (by decide) rfl ?_
      refine rp_goto (tgt := 18) dL_law_1501 (by decide) ?_
      have e5 : rI (i : Int) + Int32.ofInt 5 = rI ((i + 5 : Nat) : Int) := by
        show rI (i : Int) + rI 5 = _
        rw [rI_add]; rfl
      rw [e5]
      exact ih (i + 5) τ (by omega) (by omega) hτ
    · have c : Int32.ofNat L - rI 5 < rI (i : Int) := by
        rw [show Int32.ofNat L = rI (L : Int) from rfl, rI_sub, rI_lt (by omega) (by omega) (by omega) (by omega)]; omega
      have e : (some () : Option Unit) = if Int32.ofNat L - rI 5 < rI (i : Int) then some () else none := by rw [if_pos c]
      rw [e]
      exact rp_icmp_gt (tgt := 1504) dL_law_23 (by decide) fin rp_none
