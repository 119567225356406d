/-! text: both at a line -/
section TXL
variable {n : Nat} {tp : Nat → Nat}
theorem CL.any {σ : rp_S} {s : pS} {g g' : Nat → Int} {wt dt wt' dt' : Nat} (h : CL σ s g wt dt) (z : s.1 ≠ 0) : CL σ s g' wt' dt' := ⟨h.1, fun y => absurd y z⟩
theorem CL.tok {σ : rp_S} {s : pS} {g : Nat → Int} {wt dt : Nat} (hI : pI n s) (hT : TC σ n tp) (h : CL σ s g wt dt) : ∃ τ, FC σ τ ∧ CL τ (pTok n tp s) g wt dt ∧ fX5_takeToken σ = some τ := by
  obtain ⟨τ, t1, t2, t3⟩ := cTok hI hT h.1
  refine ⟨τ, t1.c, ⟨t2, fun z => ?_⟩, t3⟩
  obtain ⟨a, b, c⟩ := h.2 (pTok_0 z)
  refine ⟨a.f13 t1, ?_, ?_⟩
  · rw [t1.2 7 (by omega) (by omega) (by omega) (by omega) (by omega)]; exact b
  · rw [t1.2 8 (by omega) (by omega) (by omega) (by omega) (by omega)]; exact c
def LN (n : Nat) (σ τ : rp_S) (s : pS) (oc om : Option rp_S) : Prop := ∃ (σ' τ' : rp_S) (s' : pS) (g' : Nat → Int) (wt' dt' : Nat), (wt' ≤ 1 ∧ dt' ≤ 1) ∧ FC σ σ' ∧ FM τ τ' ∧ pI n s' ∧ CL σ' s' g' wt' dt' ∧ ML τ' s' g' wt' dt' ∧ sV g' ∧ (s'.1 = 0 → s.2.2.1 < s'.2.2.1) ∧ oc = some σ' ∧ om = some τ'
theorem LN_mk {σ τ σ1 τ' : rp_S} {s Y : pS} {g g' : Nat → Int} {T wt' dt' : Nat} {om : Option rp_S} (hw : wt' ≤ 1) (hd : dt' ≤ 1) (hT : TC σ n tp) (hY : pI n Y) (f1 : FC σ σ1) (c1 : CL σ1 (pEnd n tp Y) g' wt' dt') (f2 : FM τ τ') (m1 : MS τ' (pTok n tp (pEnd n tp Y))) (m2 : τ' 28 2 = rI (T : Int)) (hT2 : T < 128) (b5 : T / 32 % 2 = wt') (b6 : T / 64 % 2 = dt') (m3 : (pTok n tp (pEnd n tp Y)).1 = 0 → MPg τ' g') (hV : sV g) (hV' : (pEnd n tp Y).1 = 0 → sV g') (hb : s.2.2.2.1 ≤ Y.2.2.2.1) (hp : s.2.2.1 < s.2.2.2.1) (ho : om = some τ') : LN n σ τ s (fX5_takeToken σ1) om := by
  obtain ⟨σ', t1, t2, t3⟩ := c1.tok (pEnd_I hY) (hT.c f1)
  have hI := pTok_I (tp := tp) (pEnd_I (tp := tp) hY)
  by_cases z : (pTok n tp (pEnd n tp Y)).1 = 0
  · have z1 := pTok_0 z
    have p1 := pTok_p (tp := tp) (pEnd_I (tp := tp) hY) z1
    have p2 := end_m (tp := tp) hY
    exact ⟨σ', τ', _, g', wt', dt', ⟨hw, hd⟩, f1.tr t1, f2, hI, t2, ⟨m1, fun y => ⟨m3 y, T, hT2, m2, b5, b6⟩⟩, hV' z1, fun _ => by omega, t3, ho⟩
  · exact ⟨σ', τ', _, g, wt', dt', ⟨hw, hd⟩, f1.tr t1, f2, hI, t2.any z, ⟨m1, fun y => absurd y z⟩, hV, fun y => absurd y z, t3, ho⟩
theorem line {σ τ : rp_S} {s : pS} {g : Nat → Int} {wt dt : Nat} (hw : wt ≤ 1) (hd : dt ≤ 1) (hI : pI n s) (h0 : s.1 = 0) (ht : s.2.1 ≠ 0) (hT : TC σ n tp) (hT' : TM τ n tp) (hC : iConst τ) (hc : CL σ s g wt dt) (hm : ML τ s g wt dt) (hV : sV g) : LN n σ τ s ((fX5_takeLine σ 5).bind fun σ7 => fX5_takeToken σ7) (fX7_readLine τ) := by
  obtain ⟨i1, i2, i3, i4, i5, i6, i7⟩ := id hI
  have hp := i6 ht
  have v1 := hV.1
  have v2 := hV.2.1
  obtain ⟨e3, e5, e6⟩ := hc.1.2.2 h0
  obtain ⟨hP, T, hTb, hT2, b5, b6⟩ := hm.2 h0
  obtain ⟨e10, e9, e8, e11⟩ := hm.1.2.2 h0
  obtain ⟨K, hK⟩ : ∃ K : Int, K = if s.2.1 = 1 then wNf tp s.2.2.1 s.2.2.2.1 7 0 else -4 := ⟨_, rfl⟩
  have Kb : K = -4 ∨ (0 ≤ K ∧ K < 7) := by
    rw [hK]
    by_cases z : s.2.1 = 1
    · rw [if_pos z]
      have := wNf_b tp s.2.2.1 s.2.2.2.1 7 0
      omega
    · rw [if_neg z]; exact Or.inl rfl
  have cl : fX5_takeLine σ 5 = fX5_takeLine_17 5 σ (rI K) := by
    unfold fX5_takeLine
    rw [e3, hK]
    by_cases z : s.2.1 = 1
    · rw [if_pos z, if_pos (show rI (s.2.1 : Int) = rI 1 from by rw [z]; rfl), cName hT i2 i3 hc.1.2.1 e5, ob]
    · rw [if_neg z, if_neg (show ¬ rI (s.2.1 : Int) = rI 1 from by rw [rI_eq (by omega) (by omega) (by omega) (by omega)]; omega)]
  have ml : fX7_nameHere τ = some (rI K) := by
    rw [hK]
    by_cases z : s.2.1 = 1
    · rw [if_pos z]
      exact mName hT' hC i2 i3 e8 e9 (by rw [e10, z]; rfl)
    · rw [if_neg z]
      exact mNoName (by rw [e10, rI_eq (by omega) (by omega) (by omega) (by omega)]; omega)
  have inK : fX7_in (rI K).toInt64 (rJ 0) (rJ 6) = some (if 0 ≤ K ∧ K ≤ 6 then rI 1 else rI 0) := by
    rw [in7 _ (by omega) (by omega), rI_toInt (by omega) (by omega)]
  unfold fX7_readLine
  rw [cl, ml, ob, inK, ob]
  simp only [rb_0]
  by_cases zK : K = -4
  · obtain ⟨υ, u1, u2, u3⟩ := cBlame hc.1 (c := 2) i4 (by omega)
    have u3' : fX5_blame σ (rI 2) = some υ := u3
    obtain ⟨ω, w1, w2, w3⟩ := mFails hm.1 (c := 2) i4 (by omega)
    have w3' : fX7_fails τ (rI 2) = some ω := w3
    have IF := pFail_I (c := 2) (by omega) (by omega) hI
    obtain ⟨υ', x1, x2, x3⟩ := cTok IF (hT.f u1) u2
    have nz : (pFail 2 s).1 ≠ 0 := pFail_f (by omega)
    rw [pTok_z nz] at x2
    unfold fX5_takeLine_17
    rw [zK, if_neg (by decide), u3', ob, ob, x3, if_pos (by omega), w3', ob]
    exact ⟨υ', ω, pFail 2 s, g, wt, dt, ⟨hw, hd⟩, u1.c.tr x1.c, w1.m, IF, ⟨x2, fun y => absurd y nz⟩, ⟨w2, fun y => absurd y nz⟩, hV, fun y => absurd y nz, rfl, rfl⟩
  · obtain ⟨k, rfl⟩ : ∃ k : Nat, K = k := ⟨K.toNat, by omega⟩
    have hk : k < 7 := by omega
    have to := told_or T hTb k hk
    rw [if_neg (fun y => y (by omega))]
    unfold fX5_takeLine_17
    rw [if_pos (show 0 ≤ rI (k : Int) from by rw [rI_ge0 (by omega) (by omega)]; omega)]
    have go61 : ∀ ρ : rp_S, k < 5 → fX7_readLine_61 ρ (rI (k : Int)) = fX7_readLine_83 ρ (rI (k : Int)) := by
      intro ρ h5
      unfold fX7_readLine_61
      rw [if_pos (by rw [rI_lt (by omega) (by omega) (by omega) (by omega)]; omega)]
    by_cases k4 : k < 4
    · rw [if_neg (show ¬ rI 4 ≤ rI (k : Int) from by rw [rI_le (by omega) (by omega) (by omega) (by omega)]; omega), if_neg (show ¬ rI 3 < rI (k : Int) from by rw [rI_lt (by omega) (by omega) (by omega) (by omega)]; omega)]
      obtain ⟨σ1, c1, c2, c3⟩ := cWork (k := k) hI hT hc h0 hV k4
      rw [c3, ob, ob, show rq_rd τ 30 36 (rI 24) = some (τ 30 24) from rd30 rfl (by omega), ob, hP 24 (by omega)]
      have go : ∀ (ρ : rp_S) (s0 : pS), pI n s0 → F28 τ ρ → MS ρ s0 → (s0.1 = 0 → g 24 < 6) → s0.2 = s.2 → CL σ1 (pEnd n tp (pA3 n tp s0)) (gW g (g 24).toNat k (pA1 n tp s0).2.2.2.2 (pA2 n tp s0).2.2.2.2 (pA3 n tp s0).2.2.2.2) wt dt → LN n σ τ s (fX5_takeToken σ1) (fX7_readLine_83 ρ (rI (k : Int))) := by
        intro ρ s0 J F M g6 hs2 hcl
        obtain ⟨τ', a1, a2, a3, a4, a5⟩ := m83 (Y := pA3 n tp s0) (g := g) (g' := gW g (g 24).toNat k (pA1 n tp s0).2.2.2.2 (pA2 n tp s0).2.2.2.2 (pA3 n tp s0).2.2.2.2) J (hT'.f F) M (by rw [F.2 2 (by omega)]; exact hT2) hTb hk (hP.kept (F.1 30 (by omega))) (fun z => by unfold pA3 pA2 pA1; rw [pNum_z z, pTok_z z, pNum_z z, pTok_z z, pNum_z z]) (pA3_I J) (fun ρ' t1 t2 t3 t4 => by
          have gg := g6 (pTok_0 t3)
          exact mMoreW (N := (g 24).toNat) (pTok_I J) t1 t2 t4 (by omega) (by omega) k4)
        refine LN_mk (tp := tp) (T := T ||| 2 ^ k) hw hd hT (pA3_I J) c1 hcl (F.m.tr a1) a2 a3 to.2.1 ?_ ?_ a4 hV (fun z => ?_) ?_ hp a5
        · rw [to.2.2.1, if_neg (by omega)]; exact b5
        · rw [to.2.2.2, if_neg (by omega)]; exact b6
        · have z3 := end_0 z
          have z2 : (pA2 n tp s0).1 = 0 := num_0 z3
          have z1 : (pA1 n tp s0).1 = 0 := num_0 z2
          have z0 : s0.1 = 0 := num_0 z1
          have gg := g6 z0
          have u1 : 0 ≤ (pA1 n tp s0).2.2.2.2 ∧ (pA1 n tp s0).2.2.2.2 ≤ 11 := num_v z1
          have u2 : 0 ≤ (pA2 n tp s0).2.2.2.2 ∧ (pA2 n tp s0).2.2.2.2 ≤ 59 := num_v z2
          have u3 : 1 ≤ (pA3 n tp s0).2.2.2.2 ∧ (pA3 n tp s0).2.2.2.2 ≤ 9 := num_v z3
          exact hV.addW (n := (g 24).toNat) (by omega) (by omega) (by omega)
        · have y1 : s0.2.2.2.1 ≤ (pA1 n tp s0).2.2.2.1 := num_m J
          have y2 : (pA1 n tp s0).2.2.2.1 ≤ (pA2 n tp s0).2.2.2.1 := num_m (pA1_I J)
          have y3 : (pA2 n tp s0).2.2.2.1 ≤ (pA3 n tp s0).2.2.2.1 := num_m (pA2_I J)
          rw [hs2] at y1
          omega
      by_cases z6 : g 24 < 6
      · simp only [if_pos z6] at c2
        rw [if_neg (show ¬ rI (g 24) = rI 6 from by rw [rI_eq (by omega) (by omega) (by omega) (by omega)]; omega)]
        unfold fX7_readLine_40
        rw [if_neg (show ¬ rI (k : Int) = rI 4 from by rw [rI_eq (by omega) (by omega) (by omega) (by omega)]; omega), go61 τ (by omega)]
        exact go τ s hI (F28.rf τ) hm.1 (fun _ => z6) rfl c2
      · simp only [if_neg z6] at c2
        rw [if_pos (show rI (g 24) = rI 6 from by rw [rI_eq (by omega) (by omega) (by omega) (by omega)]; omega)]
        unfold fX7_readLine_56
        obtain ⟨ω, w1, w2, w3⟩ := mFails hm.1 (c := 5) i4 (by omega)
        have w3' : fX7_fails τ (rI 5) = some ω := w3
        rw [w3', ob, go61 ω (by omega)]
        exact go ω _ (pFail_I (by omega) (by omega) hI) w1 w2 (fun y => absurd y (pFail_f (by omega))) (pFail_2 _ _) c2
    · rw [if_pos (show rI 4 ≤ rI (k : Int) from by rw [rI_le (by omega) (by omega) (by omega) (by omega)]; omega), if_pos (show rI 3 < rI (k : Int) from by rw [rI_lt (by omega) (by omega) (by omega) (by omega)]; omega)]
      have k3 : k = 4 ∨ k = 5 ∨ k = 6 := by omega
      rcases k3 with rfl | rfl | rfl
      · rw [if_pos (show rI ((4 : Nat) : Int) = rI 4 from rfl)]
        obtain ⟨σ1, c1, c2, c3⟩ := cReader hI hT hc h0 hV
        rw [c3, ob, ob]
        unfold fX7_readLine_40
        rw [if_pos (show rI ((4 : Nat) : Int) = rI 4 from rfl), show rq_rd τ 30 36 (rI 33) = some (τ 30 33) from rd30 rfl (by omega), ob, hP 33 (by omega)]
        have go : ∀ (ρ : rp_S) (s0 : pS), pI n s0 → F28 τ ρ → MS ρ s0 → (s0.1 = 0 → g 33 < 4) → s0.2 = s.2 → CL σ1 (pEnd n tp (pR2 n tp s0)) (gR g (g 33).toNat (pA1 n tp s0).2.2.2.2 (pR2 n tp s0).2.2.2.2) wt dt → LN n σ τ s (fX5_takeToken σ1) (fX7_readLine_83 ρ (rI ((4 : Nat) : Int))) := by
          intro ρ s0 J F M g6 hs2 hcl
          obtain ⟨τ', a1, a2, a3, a4, a5⟩ := m83 (Y := pR2 n tp s0) (g := g) (g' := gR g (g 33).toNat (pA1 n tp s0).2.2.2.2 (pR2 n tp s0).2.2.2.2) J (hT'.f F) M (by rw [F.2 2 (by omega)]; exact hT2) hTb hk (hP.kept (F.1 30 (by omega))) (fun z => by unfold pR2 pA1; rw [pNum_z z, pTok_z z, pNum_z z]) (pR2_I J) (fun ρ' t1 t2 t3 t4 => by
            have gg := g6 (pTok_0 t3)
            exact mMoreR (N := (g 33).toNat) (pTok_I J) t1 t2 t4 (by omega) (by omega))
          refine LN_mk (tp := tp) (T := T ||| 2 ^ 4) hw hd hT (pR2_I J) c1 hcl (F.m.tr a1) a2 a3 to.2.1 ?_ ?_ a4 hV (fun z => ?_) ?_ hp a5
          · rw [to.2.2.1, if_neg (by omega)]; exact b5
          · rw [to.2.2.2, if_neg (by omega)]; exact b6
          · have z2 := end_0 z
            have z1 : (pA1 n tp s0).1 = 0 := num_0 z2
            have z0 : s0.1 = 0 := num_0 z1
            have gg := g6 z0
            have u1 : 0 ≤ (pA1 n tp s0).2.2.2.2 ∧ (pA1 n tp s0).2.2.2.2 ≤ 11 := num_v z1
            have u2 : 0 ≤ (pR2 n tp s0).2.2.2.2 ∧ (pR2 n tp s0).2.2.2.2 ≤ 9 := num_v z2
            exact hV.addR (n := (g 33).toNat) (by omega) (by omega) (by omega) (by omega)
          · have y1 : s0.2.2.2.1 ≤ (pA1 n tp s0).2.2.2.1 := num_m J
            have y2 : (pA1 n tp s0).2.2.2.1 ≤ (pR2 n tp s0).2.2.2.1 := num_m (pA1_I J)
            rw [hs2] at y1
            omega
        by_cases z6 : g 33 < 4
        · simp only [if_pos z6] at c2
          rw [if_neg (show ¬ rI (g 33) = rI 4 from by rw [rI_eq (by omega) (by omega) (by omega) (by omega)]; omega), go61 τ (by omega)]
          exact go τ s hI (F28.rf τ) hm.1 (fun _ => z6) rfl c2
        · simp only [if_neg z6] at c2
          rw [if_pos (show rI (g 33) = rI 4 from by rw [rI_eq (by omega) (by omega) (by omega) (by omega)]; omega)]
          unfold fX7_readLine_56
          obtain ⟨ω, w1, w2, w3⟩ := mFails hm.1 (c := 5) i4 (by omega)
          have w3' : fX7_fails τ (rI 5) = some ω := w3
          rw [w3', ob, go61 ω (by omega)]
          exact go ω _ (pFail_I (by omega) (by omega) hI) w1 w2 (fun y => absurd y (pFail_f (by omega))) (pFail_2 _ _) c2
      · rw [if_neg (show ¬ rI ((5 : Nat) : Int) = rI 4 from by decide), if_pos (show rI ((5 : Nat) : Int) = rI 5 from rfl)]
        obtain ⟨σ1, c1, c2, c3⟩ := cWind hw hI hT hc h0 hV
        rw [c3, ob, ob]
        unfold fX7_readLine_40 fX7_readLine_61
        rw [if_neg (show ¬ rI ((5 : Nat) : Int) = rI 4 from by decide), if_neg (show ¬ rI ((5 : Nat) : Int) < rI 5 from by decide), hT2]
        have ta : ((((rI (T : Int)) >>> ((rI ((5 : Nat) : Int)) &&& 31)) &&& (rI 1)) = rI 1 ↔ T / 32 % 2 = 1) := (told_at T hTb).1
        have go : ∀ (ρ : rp_S) (s0 : pS), pI n s0 → F28 τ ρ → MS ρ s0 → s0.2 = s.2 → CL σ1 (pEnd n tp (pB1 8 n tp s0)) (gU g 34 ((pB1 8 n tp s0).2.2.2.2 - 4)) 1 dt → LN n σ τ s (fX5_takeToken σ1) (fX7_readLine_83 ρ (rI ((5 : Nat) : Int))) := by
          intro ρ s0 J F M hs2 hcl
          obtain ⟨τ', a1, a2, a3, a4, a5⟩ := m83 (Y := pB1 8 n tp s0) (g := g) (g' := gU g 34 ((pB1 8 n tp s0).2.2.2.2 - 4)) J (hT'.f F) M (by rw [F.2 2 (by omega)]; exact hT2) hTb hk (hP.kept (F.1 30 (by omega))) (fun z => by unfold pB1; rw [pNum_z z]) (pB1_I J) (fun ρ' t1 t2 t3 t4 => mMoreB (pTok_I J) t1 t2 t4)
          refine LN_mk (tp := tp) (T := T ||| 2 ^ 5) (by omega) hd hT (pB1_I J) c1 hcl (F.m.tr a1) a2 a3 to.2.1 ?_ ?_ a4 hV (fun z => ?_) ?_ hp a5
          · rw [to.2.2.1, if_pos rfl]
          · rw [to.2.2.2, if_neg (by omega)]; exact b6
          · have z1 : (pB1 8 n tp s0).1 = 0 := end_0 z
            have u1 : 0 ≤ (pB1 8 n tp s0).2.2.2.2 ∧ (pB1 8 n tp s0).2.2.2.2 ≤ 8 := num_v z1
            exact hV.setB (by omega)
          · have y1 : s0.2.2.2.1 ≤ (pB1 8 n tp s0).2.2.2.1 := num_m J
            rw [hs2] at y1
            omega
        by_cases z6 : wt = 0
        · simp only [if_pos z6] at c2
          rw [if_neg (fun y => by have := ta.mp y; omega)]
          exact go τ s hI (F28.rf τ) hm.1 rfl c2
        · simp only [if_neg z6] at c2
          rw [if_pos (ta.mpr (by omega))]
          obtain ⟨ω, w1, w2, w3⟩ := mFails hm.1 (c := 4) i4 (by omega)
          have w3' : fX7_fails τ (rI 4) = some ω := w3
          rw [w3', ob]
          exact go ω _ (pFail_I (by omega) (by omega) hI) w1 w2 (pFail_2 _ _) c2
      · rw [if_neg (show ¬ rI ((6 : Nat) : Int) = rI 4 from by decide), if_neg (show ¬ rI ((6 : Nat) : Int) = rI 5 from by decide)]
        obtain ⟨σ1, c1, c2, c3⟩ := cDamp hd hI hT hc h0 hV
        rw [c3, ob, ob]
        unfold fX7_readLine_40 fX7_readLine_61
        rw [if_neg (show ¬ rI ((6 : Nat) : Int) = rI 4 from by decide), if_neg (show ¬ rI ((6 : Nat) : Int) < rI 5 from by decide), hT2]
        have ta : ((((rI (T : Int)) >>> ((rI ((6 : Nat) : Int)) &&& 31)) &&& (rI 1)) = rI 1 ↔ T / 64 % 2 = 1) := (told_at T hTb).2
        have go : ∀ (ρ : rp_S) (s0 : pS), pI n s0 → F28 τ ρ → MS ρ s0 → s0.2 = s.2 → CL σ1 (pEnd n tp (pB1 9 n tp s0)) (gU g 35 ((pB1 9 n tp s0).2.2.2.2)) wt 1 → LN n σ τ s (fX5_takeToken σ1) (fX7_readLine_83 ρ (rI ((6 : Nat) : Int))) := by
          intro ρ s0 J F M hs2 hcl
          obtain ⟨τ', a1, a2, a3, a4, a5⟩ := m83 (Y := pB1 9 n tp s0) (g := g) (g' := gU g 35 ((pB1 9 n tp s0).2.2.2.2)) J (hT'.f F) M (by rw [F.2 2 (by omega)]; exact hT2) hTb hk (hP.kept (F.1 30 (by omega))) (fun z => by unfold pB1; rw [pNum_z z]) (pB1_I J) (fun ρ' t1 t2 t3 t4 => mMoreD (pTok_I J) t1 t2 t4)
          refine LN_mk (tp := tp) (T := T ||| 2 ^ 6) hw (by omega) hT (pB1_I J) c1 hcl (F.m.tr a1) a2 a3 to.2.1 ?_ ?_ a4 hV (fun z => ?_) ?_ hp a5
          · rw [to.2.2.1, if_neg (by omega)]; exact b5
          · rw [to.2.2.2, if_pos rfl]
          · have z1 : (pB1 9 n tp s0).1 = 0 := end_0 z
            have u1 : 0 ≤ (pB1 9 n tp s0).2.2.2.2 ∧ (pB1 9 n tp s0).2.2.2.2 ≤ 9 := num_v z1
            exact hV.setD (by omega)
          · have y1 : s0.2.2.2.1 ≤ (pB1 9 n tp s0).2.2.2.1 := num_m J
            rw [hs2] at y1
            omega
        by_cases z6 : dt = 0
        · simp only [if_pos z6] at c2
          rw [if_neg (fun y => by have := ta.mp y; omega)]
          exact go τ s hI (F28.rf τ) hm.1 rfl c2
        · simp only [if_neg z6] at c2
          rw [if_pos (ta.mpr (by omega))]
          obtain ⟨ω, w1, w2, w3⟩ := mFails hm.1 (c := 4) i4 (by omega)
          have w3' : fX7_fails τ (rI 4) = some ω := w3
          rw [w3', ob]
          exact go ω _ (pFail_I (by omega) (by omega) hI) w1 w2 (pFail_2 _ _) c2
end TXL
