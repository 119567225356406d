/-! text: the reference's lines -/
theorem told_or : ∀ T : Nat, T < 128 → ∀ k : Nat, k < 7 → (rI (T : Int)) ||| ((rI 1) <<< ((rI (k : Int)) &&& 31)) = rI ((T ||| 2 ^ k : Nat) : Int) ∧ T ||| 2 ^ k < 128 ∧ (T ||| 2 ^ k) / 32 % 2 = (if k = 5 then 1 else T / 32 % 2) ∧ (T ||| 2 ^ k) / 64 % 2 = (if k = 6 then 1 else T / 64 % 2) := by decide +kernel
theorem told_at : ∀ T : Nat, T < 128 → ((((rI (T : Int)) >>> ((rI 5) &&& 31)) &&& (rI 1)) = rI 1 ↔ T / 32 % 2 = 1) ∧ ((((rI (T : Int)) >>> ((rI 6) &&& 31)) &&& (rI 1)) = rI 1 ↔ T / 64 % 2 = 1) := by decide +kernel
theorem wr30 {σ : rp_S} {z : Int} {j : Nat} {x : Int32} (h : z = j) (hj : j < 36) : rq_wr σ 30 36 (rI z) x = some (rp_up σ 30 j x) := by
  subst h
  exact wr_n (by omega) (by omega)
theorem rd30 {σ : rp_S} {z : Int} {j : Nat} (h : z = j) (hj : j < 36) : rq_rd σ 30 36 (rI z) = some (σ 30 j) := by
  subst h
  exact rd_n (by omega) (by omega)
section MLN
variable {n : Nat} {tp : Nat → Nat}
theorem TM.w {σ : rp_S} (h : TM σ n tp) {j : Nat} {x : Int32} : TM (rp_up σ 30 j x) n tp := ⟨h.1, by rw [up_ne (by omega)]; exact h.2.1, fun i hi => by rw [up_ne (by omega)]; exact h.2.2 i hi⟩
theorem MS.w {σ : rp_S} {s : pS} (h : MS σ s) {j : Nat} {x : Int32} : MS (rp_up σ 30 j x) s := h.kept (up_ne (by omega))
theorem mMoreW {ρ : rp_S} {q : pS} {g : Nat → Int} {k N : Nat} (hI : pI n q) (hT : TM ρ n tp) (hM : MS ρ q) (hP : MPg ρ g) (hN : g 24 = N) (hN6 : N < 6) (hk : k < 4) :
    ∃ τ, FM ρ τ ∧ τ 28 2 = ρ 28 2 ∧ MS τ (pTok n tp (pNum 1 9 (pTok n tp (pNum 0 59 (pTok n tp (pNum 0 11 q)))))) ∧ ((pNum 1 9 (pTok n tp (pNum 0 59 (pTok n tp (pNum 0 11 q))))).1 = 0 → MPg τ (gW g N k (pNum 0 11 q).2.2.2.2 (pNum 0 59 (pTok n tp (pNum 0 11 q))).2.2.2.2 (pNum 1 9 (pTok n tp (pNum 0 59 (pTok n tp (pNum 0 11 q))))).2.2.2.2)) ∧ fX7_readMore ρ (rI (k : Int)) = some τ := by
  obtain ⟨x1, ρ2, a1, a2, a3, a4⟩ := mNum hI (hT.w (j := 6 * 0 + N) (x := rI (k : Int))) hM.w (lo := 0) (hi := 11) (by omega) (by omega) (by omega) (by omega)
  have I1 : pI n (pTok n tp (pNum 0 11 q)) := pTok_I (pNum_I hI)
  have T1 := hT.w (j := 6 * 0 + N) (x := rI (k : Int)) |>.f a1
  obtain ⟨x2, ρ4, b1, b2, b3, b4⟩ := mNum I1 (T1.w (j := 6 * 1 + N) (x := x1)) a2.w (lo := 0) (hi := 59) (by omega) (by omega) (by omega) (by omega)
  have I2 : pI n (pTok n tp (pNum 0 59 (pTok n tp (pNum 0 11 q)))) := pTok_I (pNum_I I1)
  have T2 := T1.w (j := 6 * 1 + N) (x := x1) |>.f b1
  obtain ⟨x3, ρ6, c1, c2, c3, c4⟩ := mNum I2 (T2.w (j := 6 * 2 + N) (x := x2)) b2.w (lo := 1) (hi := 9) (by omega) (by omega) (by omega) (by omega)
  have r0 : ρ 30 24 = rI (N : Int) := by rw [hP 24 (by omega), hN]
  have r6 : rp_up ρ6 30 (6 * 3 + N) x3 30 24 = rI (N : Int) := by
    rw [up_nj (by omega), c1.1 30 (by omega), up_nj (by omega), b1.1 30 (by omega), up_nj (by omega), a1.1 30 (by omega), up_nj (by omega)]; exact r0
  refine ⟨rp_up (rp_up ρ6 30 (6 * 3 + N) x3) 30 24 (rI ((N + 1 : Nat) : Int)), ?_, ?_, c2.w.w, fun z => ?_, ?_⟩
  · have w1 : FM ρ ρ2 := ((FM.rf ρ).w (j := 6 * 0 + N) (x := rI (k : Int))).tr a1.m
    have w2 : FM ρ ρ4 := (w1.w (j := 6 * 1 + N) (x := x1)).tr b1.m
    have w3 : FM ρ ρ6 := (w2.w (j := 6 * 2 + N) (x := x2)).tr c1.m
    exact w3.w.w
  · rw [up_ne (by omega), up_ne (by omega), c1.2 2 (by omega), up_ne (by omega), b1.2 2 (by omega), up_ne (by omega), a1.2 2 (by omega), up_ne (by omega)]
  · have z3 := (pNum_0 z)
    have z2 : (pNum 0 59 (pTok n tp (pNum 0 11 q))).1 = 0 := pTok_0 z3.2.1
    have z1 : (pNum 0 11 q).1 = 0 := pTok_0 (pNum_0 z2).2.1
    have m1 : MPg ρ2 (gU g (6 * 0 + N) (k : Int)) := (hP.set (j := 6 * 0 + N) (k : Int)).kept (a1.1 30 (by omega))
    have m2 := (m1.set (j := 6 * 1 + N) (pNum 0 11 q).2.2.2.2)
    rw [← a3 z1] at m2
    have m3 := (m2.kept (τ := ρ4) (b1.1 30 (by omega))).set (j := 6 * 2 + N) (pNum 0 59 (pTok n tp (pNum 0 11 q))).2.2.2.2
    rw [← b3 z2] at m3
    have m4 := (m3.kept (τ := ρ6) (c1.1 30 (by omega))).set (j := 6 * 3 + N) (pNum 1 9 (pTok n tp (pNum 0 59 (pTok n tp (pNum 0 11 q))))).2.2.2.2
    rw [← c3 z] at m4
    exact m4.set (j := 24) ((N + 1 : Nat) : Int)
  · unfold fX7_readMore
    have w4 : rq_wr (rp_up ρ6 30 (6 * 3 + N) x3) 30 36 (rI 24) (rI ((N + 1 : Nat) : Int)) = some (rp_up (rp_up ρ6 30 (6 * 3 + N) x3) 30 24 (rI ((N + 1 : Nat) : Int))) := wr30 rfl (by omega)
    have d4 : ∀ υ : rp_S, rq_rd υ 30 36 (rI 24) = some (υ 30 24) := fun υ => rd30 rfl (by omega)
    rw [if_neg (by rw [rI_lt (by omega) (by omega) (by omega) (by omega)]; omega), d4, ob, r0, wr30 (j := 6 * 0 + N) (by omega) (by omega), ob, a4, ob, rI_add, wr30 (j := 6 * 1 + N) (by omega) (by omega), ob, b4, ob, rI_add, wr30 (j := 6 * 2 + N) (by omega) (by omega), ob, c4, ob, rI_add, wr30 (j := 6 * 3 + N) (by omega) (by omega), ob, d4, ob, r6, iI_s, w4, ob]
theorem mMoreR {ρ : rp_S} {q : pS} {g : Nat → Int} {N : Nat} (hI : pI n q) (hT : TM ρ n tp) (hM : MS ρ q) (hP : MPg ρ g) (hN : g 33 = N) (hN6 : N < 4) :
    ∃ τ, FM ρ τ ∧ τ 28 2 = ρ 28 2 ∧ MS τ (pTok n tp (pNum 0 9 (pTok n tp (pNum 0 11 q)))) ∧ ((pNum 0 9 (pTok n tp (pNum 0 11 q))).1 = 0 → MPg τ (gR g N (pNum 0 11 q).2.2.2.2 (pNum 0 9 (pTok n tp (pNum 0 11 q))).2.2.2.2)) ∧ fX7_readMore ρ (rI 4) = some τ := by
  obtain ⟨x1, ρ2, a1, a2, a3, a4⟩ := mNum hI hT hM (lo := 0) (hi := 11) (by omega) (by omega) (by omega) (by omega)
  have I1 : pI n (pTok n tp (pNum 0 11 q)) := pTok_I (pNum_I hI)
  have T1 := hT.f a1
  obtain ⟨x2, ρ4, b1, b2, b3, b4⟩ := mNum I1 (T1.w (j := 25 + 4 * 0 + N) (x := x1)) a2.w (lo := 0) (hi := 9) (by omega) (by omega) (by omega) (by omega)
  have r0 : ρ 30 33 = rI (N : Int) := by rw [hP 33 (by omega), hN]
  have r6 : rp_up ρ4 30 (25 + 4 * 1 + N) x2 30 33 = rI (N : Int) := by
    rw [up_nj (by omega), b1.1 30 (by omega), up_nj (by omega), a1.1 30 (by omega)]; exact r0
  refine ⟨rp_up (rp_up ρ4 30 (25 + 4 * 1 + N) x2) 30 33 (rI ((N + 1 : Nat) : Int)), ?_, ?_, b2.w.w, fun z => ?_, ?_⟩
  · have w2 : FM ρ ρ4 := (a1.m.w (j := 25 + 4 * 0 + N) (x := x1)).tr b1.m
    exact w2.w.w
  · rw [up_ne (by omega), up_ne (by omega), b1.2 2 (by omega), up_ne (by omega), a1.2 2 (by omega)]
  · have z1 : (pNum 0 11 q).1 = 0 := pTok_0 (pNum_0 z).2.1
    have m1 : MPg ρ2 g := hP.kept (a1.1 30 (by omega))
    have m2 := (m1.set (j := 25 + 4 * 0 + N) (pNum 0 11 q).2.2.2.2)
    rw [← a3 z1] at m2
    have m3 := (m2.kept (τ := ρ4) (b1.1 30 (by omega))).set (j := 25 + 4 * 1 + N) (pNum 0 9 (pTok n tp (pNum 0 11 q))).2.2.2.2
    rw [← b3 z] at m3
    exact m3.set (j := 33) ((N + 1 : Nat) : Int)
  · unfold fX7_readMore
    have w4 : rq_wr (rp_up ρ4 30 (25 + 4 * 1 + N) x2) 30 36 (rI 33) (rI ((N + 1 : Nat) : Int)) = some (rp_up (rp_up ρ4 30 (25 + 4 * 1 + N) x2) 30 33 (rI ((N + 1 : Nat) : Int))) := wr30 rfl (by omega)
    have d4 : ∀ υ : rp_S, rq_rd υ 30 36 (rI 33) = some (υ 30 33) := fun υ => rd30 rfl (by omega)
    rw [if_pos (by decide), if_pos rfl, d4, ob, r0, a4, ob, rI_add, wr30 (j := 25 + 4 * 0 + N) (by omega) (by omega), ob, b4, ob, rI_add, wr30 (j := 25 + 4 * 1 + N) (by omega) (by omega), ob, d4, ob, r6, iI_s, w4, ob]
theorem mMoreB {ρ : rp_S} {q : pS} {g : Nat → Int} (hI : pI n q) (hT : TM ρ n tp) (hM : MS ρ q) (hP : MPg ρ g) :
    ∃ τ, FM ρ τ ∧ τ 28 2 = ρ 28 2 ∧ MS τ (pTok n tp (pNum 0 8 q)) ∧ ((pNum 0 8 q).1 = 0 → MPg τ (gU g 34 ((pNum 0 8 q).2.2.2.2 - 4))) ∧ fX7_readMore ρ (rI 5) = some τ := by
  obtain ⟨x1, ρ2, a1, a2, a3, a4⟩ := mNum hI hT hM (lo := 0) (hi := 8) (by omega) (by omega) (by omega) (by omega)
  refine ⟨rp_up ρ2 30 34 (x1 - rI 4), a1.m.w, ?_, a2.w, fun z => ?_, ?_⟩
  · rw [up_ne (by omega), a1.2 2 (by omega)]
  · have m1 : MPg ρ2 g := hP.kept (a1.1 30 (by omega))
    have m2 := (m1.set (j := 34) ((pNum 0 8 q).2.2.2.2 - 4))
    rw [← rI_sub, ← a3 z] at m2
    exact m2
  · unfold fX7_readMore
    have w4 : rq_wr ρ2 30 36 (rI 34) (x1 - rI 4) = some (rp_up ρ2 30 34 (x1 - rI 4)) := wr30 rfl (by omega)
    rw [if_pos (by decide), if_neg (by decide), if_pos rfl, a4, ob, w4, ob]
theorem mMoreD {ρ : rp_S} {q : pS} {g : Nat → Int} (hI : pI n q) (hT : TM ρ n tp) (hM : MS ρ q) (hP : MPg ρ g) :
    ∃ τ, FM ρ τ ∧ τ 28 2 = ρ 28 2 ∧ MS τ (pTok n tp (pNum 0 9 q)) ∧ ((pNum 0 9 q).1 = 0 → MPg τ (gU g 35 ((pNum 0 9 q).2.2.2.2))) ∧ fX7_readMore ρ (rI 6) = some τ := by
  obtain ⟨x1, ρ2, a1, a2, a3, a4⟩ := mNum hI hT hM (lo := 0) (hi := 9) (by omega) (by omega) (by omega) (by omega)
  refine ⟨rp_up ρ2 30 35 x1, a1.m.w, ?_, a2.w, fun z => ?_, ?_⟩
  · rw [up_ne (by omega), a1.2 2 (by omega)]
  · have m1 : MPg ρ2 g := hP.kept (a1.1 30 (by omega))
    have m2 := (m1.set (j := 35) ((pNum 0 9 q).2.2.2.2))
    rw [← a3 z] at m2
    exact m2
  · unfold fX7_readMore
    have w4 : rq_wr ρ2 30 36 (rI 35) x1 = some (rp_up ρ2 30 35 x1) := wr30 rfl (by omega)
    rw [if_pos (by decide), if_neg (by decide), if_neg (by decide), a4, ob, w4, ob]
/-- a line from where its name has been taken; Y: what its numbers make of the tokens -/
theorem m83 {ρ : rp_S} {s0 Y : pS} {g g' : Nat → Int} {T k : Nat} (hI : pI n s0) (hT : TM ρ n tp) (hM : MS ρ s0) (hT2 : ρ 28 2 = rI (T : Int)) (hTb : T < 128) (hk : k < 7) (hP : MPg ρ g) (hX : (pTok n tp s0).1 ≠ 0 → Y = pTok n tp s0) (hYI : pI n Y)
    (more : ∀ ρ' : rp_S, TM ρ' n tp → MS ρ' (pTok n tp s0) → (pTok n tp s0).1 = 0 → MPg ρ' g → ∃ ρ'', FM ρ' ρ'' ∧ ρ'' 28 2 = ρ' 28 2 ∧ MS ρ'' (pTok n tp Y) ∧ (Y.1 = 0 → MPg ρ'' g') ∧ fX7_readMore ρ' (rI (k : Int)) = some ρ'') :
    ∃ τ, FM ρ τ ∧ MS τ (pTok n tp (pEnd n tp Y)) ∧ τ 28 2 = rI ((T ||| 2 ^ k : Nat) : Int) ∧ ((pTok n tp (pEnd n tp Y)).1 = 0 → MPg τ g') ∧ fX7_readLine_83 ρ (rI (k : Int)) = some τ := by
  obtain ⟨ρ1, hρ1⟩ : ∃ ρ1, ρ1 = rp_up ρ 28 2 (rI ((T ||| 2 ^ k : Nat) : Int)) := ⟨_, rfl⟩
  have f1 : FM ρ ρ1 := by
    rw [hρ1]
    exact ⟨fun b h1 _ => up_ne h1, fun j h1 _ => up_nj h1⟩
  have M1 : MS ρ1 s0 := by
    rw [hρ1]
    obtain ⟨a, b, c⟩ := hM
    refine ⟨?_, fun z => ?_, fun z => ?_⟩
    · rw [up_nj (by omega)]; exact a
    · rw [up_nj (by omega)]; exact b z
    · rw [up_nj (by omega), up_nj (by omega), up_nj (by omega), up_nj (by omega)]; exact c z
  have P1 : MPg ρ1 g := hP.kept (by rw [hρ1, up_ne (by omega)])
  have e2 : ρ1 28 2 = rI ((T ||| 2 ^ k : Nat) : Int) := by rw [hρ1, up_eq]
  obtain ⟨ρ2, a1, a2, a3⟩ := mTok hI (hT.m f1) M1
  have I2 := pTok_I (tp := tp) hI
  have i5 := I2.2.2.2.1
  have e3 : ρ2 28 2 = rI ((T ||| 2 ^ k : Nat) : Int) := by rw [a1.2 2 (by omega)]; exact e2
  unfold fX7_readLine_83
  rw [ob, hT2, (told_or T hTb k hk).1, ← hρ1, a3, ob, a2.1]
  by_cases z : (pTok n tp s0).1 = 0
  · rw [if_pos (show rI ((pTok n tp s0).1 : Int) ≤ 0 from by rw [rI_le0 (by omega) (by omega)]; omega)]
    obtain ⟨ρ3, b1, b2, b3, b4, b5⟩ := more ρ2 ((hT.m f1).f a1) a2 z (P1.kept (a1.1 30 (by omega)))
    obtain ⟨ρ4, c1, c2, c3⟩ := mSign (pTok_I (tp := tp) hYI) (((hT.m f1).f a1).m b1) b3
    rw [b5, ob]
    refine ⟨ρ4, ((f1.tr a1.m).tr b1).tr c1.m, c2, ?_, fun y => ?_, c3⟩
    · rw [c1.2 2 (by omega), b2, e3]
    · have y1 : (pEnd n tp Y).1 = 0 := pTok_0 y
      exact (b4 (end_0 y1)).kept (c1.1 30 (by omega))
  · rw [if_neg (show ¬ rI ((pTok n tp s0).1 : Int) ≤ 0 from by rw [rI_le0 (by omega) (by omega)]; omega)]
    have e4 : pTok n tp (pEnd n tp Y) = pTok n tp s0 := by
      unfold pEnd
      rw [hX z, pTok_z z, pSign_z z, pTok_z z]
    refine ⟨ρ2, f1.tr a1.m, by rw [e4]; exact a2, e3, fun y => ?_, rfl⟩
    rw [e4] at y
    exact absurd y z
end MLN
