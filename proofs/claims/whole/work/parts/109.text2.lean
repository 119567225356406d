/-! text: the operation -/
section TXT
variable {n : Nat} {tp : Nat → Nat}
theorem iConst.m {σ τ : rp_S} (h : iConst σ) (k : FM σ τ) : iConst τ := h.kept (k.1 32 (by omega) (by omega)) (k.1 33 (by omega) (by omega)) (k.2 14 (by omega) (by omega))
theorem tloop : ∀ (m v f1 f2 : Nat) (σ τ : rp_S) (s : pS) (g : Nat → Int) (wt dt : Nat), m < f1 → m < f2 → (s.1 = 0 → n < s.2.2.1 + m) → (s.1 = 0 → v ≤ s.2.2.1) → wt ≤ 1 → dt ≤ 1 → pI n s → TC σ n tp → TM τ n tp → iConst τ → CL σ s g wt dt → ML τ s g wt dt → sV g →
    ∃ (v' : Nat) (σ' τ' : rp_S) (s' : pS) (g' : Nat → Int) (wt' dt' : Nat), FC σ σ' ∧ FM τ τ' ∧ pI n s' ∧ CL σ' s' g' wt' dt' ∧ ML τ' s' g' wt' dt' ∧ sV g' ∧ fX5_tellTo_30 5 f1 σ (rI (v : Int)) = some (rI (v' : Int), σ') ∧ fX7_text_42 f2 τ (rI (v : Int)) = fX7_text_66 τ' (rI (v' : Int)) := by
  intro m
  induction m with
  | zero =>
    intro v f1 f2 σ τ s g wt dt h1 h2 hm hv hw hd hI hT hT' hC hc hM hV
    obtain ⟨f1, rfl⟩ : ∃ q, f1 = q + 1 := ⟨f1 - 1, by omega⟩
    obtain ⟨f2, rfl⟩ : ∃ q, f2 = q + 1 := ⟨f2 - 1, by omega⟩
    have z : s.1 ≠ 0 := fun y => by have := hm y; have := hI.1; omega
    have i4 := hI.2.2.2.1
    refine ⟨v, σ, τ, s, g, wt, dt, FC.rf σ, FM.rf τ, hI, hc, hM, hV, ?_, ?_⟩
    · rw [fX5_tellTo_30, hc.1.1, if_neg (by rw [rI_eq0 (by omega) (by omega)]; omega)]
    · rw [fX7_text_42, hM.1.1, if_neg (by rw [rI_eq0 (by omega) (by omega)]; omega)]
  | succ m ih =>
    intro v f1 f2 σ τ s g wt dt h1 h2 hm hv hw hd hI hT hT' hC hc hM hV
    obtain ⟨f1, rfl⟩ : ∃ q, f1 = q + 1 := ⟨f1 - 1, by omega⟩
    obtain ⟨f2, rfl⟩ : ∃ q, f2 = q + 1 := ⟨f2 - 1, by omega⟩
    obtain ⟨i1, i2, i3, i4, i5, i6, i7⟩ := id hI
    have hn := hT.1
    by_cases z : s.1 = 0
    · obtain ⟨e3, e5, e6⟩ := hc.1.2.2 z
      obtain ⟨e10, e9, e8, e11⟩ := hM.1.2.2 z
      by_cases ht : s.2.1 = 0
      · refine ⟨v, σ, τ, s, g, wt, dt, FC.rf σ, FM.rf τ, hI, hc, hM, hV, ?_, ?_⟩
        · rw [fX5_tellTo_30, hc.1.1, if_pos (by rw [rI_eq0 (by omega) (by omega)]; omega), e3, if_pos (by rw [rI_eq0 (by omega) (by omega)]; omega)]
        · rw [fX7_text_42, hM.1.1, if_pos (by rw [rI_eq0 (by omega) (by omega)]; omega), e10, if_pos (by rw [rI_eq0 (by omega) (by omega)]; omega)]
      · have hp := i6 ht
        have hv' := hv z
        have hm' := hm z
        obtain ⟨σ1, τ1, s1, g1, wt1, dt1, ⟨w1, d1⟩, a1, a2, a3, a4, a5, a6, a7, a8, a9⟩ := line hw hd hI z ht hT hT' hC hc hM hV
        obtain ⟨v', σ2, τ2, s2, g2, wt2, dt2, b1, b2, b3, b4, b5, b6, b7, b8⟩ := ih (v + 1) f1 f2 σ1 τ1 s1 g1 wt1 dt1 (by omega) (by omega) (fun y => by have := a7 y; omega) (fun y => by have := a7 y; omega) w1 d1 a3 (hT.c a1) (hT'.m a2) (hC.m a2) a4 a5 a6
        refine ⟨v', σ2, τ2, s2, g2, wt2, dt2, a1.tr b1, a2.tr b2, b3, b4, b5, b6, ?_, ?_⟩
        · rw [fX5_tellTo_30, hc.1.1, if_pos (by rw [rI_eq0 (by omega) (by omega)]; omega), e3, if_neg (by rw [rI_eq0 (by omega) (by omega)]; omega), if_neg (by rw [rI_le (by omega) (by omega) (by omega) (by omega)]; omega), iI_s]
          have e : ∀ o : Option rp_S, (o.bind fun σ7 => fX5_takeToken σ7) = some σ1 → (o.bind fun σ7 => (fX5_takeToken σ7).bind fun σ8 => fX5_tellTo_30 5 f1 σ8 (rI ((v + 1 : Nat) : Int))) = some (rI (v' : Int), σ2) := by
            intro o ho
            cases o with
            | none => cases ho
            | some q =>
              rw [ob] at ho
              rw [ob, ho, ob]
              exact b7
          exact e _ a8
        · rw [fX7_text_42, hM.1.1, if_pos (by rw [rI_eq0 (by omega) (by omega)]; omega), e10, if_neg (by rw [rI_eq0 (by omega) (by omega)]; omega), a9, ob, iI_s]
          exact b8
    · refine ⟨v, σ, τ, s, g, wt, dt, FC.rf σ, FM.rf τ, hI, hc, hM, hV, ?_, ?_⟩
      · rw [fX5_tellTo_30, hc.1.1, if_neg (by rw [rI_eq0 (by omega) (by omega)]; omega)]
      · rw [fX7_text_42, hM.1.1, if_neg (by rw [rI_eq0 (by omega) (by omega)]; omega)]
theorem m19 (v : Int32) : ∀ (k i f : Nat) (τ : rp_S), k < f → i + k = 36 → (∀ j, j < i → τ 30 j = rI 0) → ∃ τ', (∀ b, b ≠ 30 → τ' b = τ b) ∧ (∀ j, j < 36 → τ' 30 j = rI 0) ∧ fX7_text_19 f τ v (rI (i : Int)) = (fX7_step τ').bind fun σ4 => fX7_text_42 1000 σ4 v := by
  intro k
  induction k with
  | zero =>
    intro i f τ hf hi h
    obtain ⟨f, rfl⟩ : ∃ q, f = q + 1 := ⟨f - 1, by omega⟩
    refine ⟨τ, fun _ _ => rfl, fun j hj => h j (by omega), ?_⟩
    rw [fX7_text_19, if_pos (by rw [rI_le (by omega) (by omega) (by omega) (by omega)]; omega)]
  | succ k ih =>
    intro i f τ hf hi h
    obtain ⟨f, rfl⟩ : ∃ q, f = q + 1 := ⟨f - 1, by omega⟩
    obtain ⟨τ', t1, t2, t3⟩ := ih (i + 1) f (rp_up τ 30 i (rI 0)) (by omega) (by omega) (fun j hj => by
      by_cases z : j = i
      · subst z; rw [up_eq]
      · rw [up_nj z]; exact h j (by omega))
    refine ⟨τ', fun b hb => by rw [t1 b hb, up_ne hb], t2, ?_⟩
    rw [fX7_text_19, if_neg (by rw [rI_le (by omega) (by omega) (by omega) (by omega)]; omega), wr30 (j := i) rfl (by omega), ob, iI_s]
    exact t3
theorem m96 (v : Int32) {g : Nat → Int} : ∀ (k i f : Nat) (τ : rp_S), k < f → i + k = 36 → MPg τ g → (∀ j, j < i → τ 29 j = rI (g j)) → ∃ τ', (∀ b, b ≠ 29 → τ' b = τ b) ∧ (∀ j, 36 ≤ j → τ' 29 j = τ 29 j) ∧ PG τ' 0 g ∧ fX7_text_96 f τ v (rI (i : Int)) = some (v, rp_up (rp_up (rp_up τ' 28 20 (rI 0)) 37 0 (rI 0)) 37 1 (rI 0)) := by
  intro k
  induction k with
  | zero =>
    intro i f τ hf hi hP h
    obtain ⟨f, rfl⟩ : ∃ q, f = q + 1 := ⟨f - 1, by omega⟩
    refine ⟨τ, fun _ _ => rfl, fun _ _ => rfl, ⟨by omega, by omega, fun j hj => ?_⟩, ?_⟩
    · rw [show ((0 : Int) + (j : Int)).toNat = j by omega]; exact h j (by omega)
    · have w0 : ∀ (ρ : rp_S) (x : Int32), rq_wr ρ 37 2 (rI 0) x = some (rp_up ρ 37 0 x) := fun ρ x => wr_n (w := 0) (by omega) (by omega)
      have w1 : ∀ (ρ : rp_S) (x : Int32), rq_wr ρ 37 2 (rI 1) x = some (rp_up ρ 37 1 x) := fun ρ x => wr_n (w := 1) (by omega) (by omega)
      rw [fX7_text_96, if_pos (by rw [rI_le (by omega) (by omega) (by omega) (by omega)]; omega), ob, show vp_nar .boolean (rI 0) = rI 0 from by decide, w0, ob, w1, ob]
  | succ k ih =>
    intro i f τ hf hi hP h
    obtain ⟨f, rfl⟩ : ∃ q, f = q + 1 := ⟨f - 1, by omega⟩
    obtain ⟨τ', t1, t2, t3, t4⟩ := ih (i + 1) f (rp_up τ 29 i (rI (g i))) (by omega) (by omega) (hP.kept (up_ne (by omega))) (fun j hj => by
      by_cases z : j = i
      · subst z; rw [up_eq]
      · rw [up_nj z]; exact h j (by omega))
    refine ⟨τ', fun b hb => by rw [t1 b hb, up_ne hb], fun j hj => by rw [t2 j hj, up_nj (by omega)], t3, ?_⟩
    rw [fX7_text_96, if_neg (by rw [rI_le (by omega) (by omega) (by omega) (by omega)]; omega), rd30 (j := i) rfl (by omega), ob, hP i (by omega), wr_n (by omega) (by omega), ob, iI_s]
    exact t4
def g0 : Nat → Int := fun _ => 0
theorem sV_g0 : sV g0 := by
  have e : ∀ i, g0 i = 0 := fun _ => rfl
  unfold sV
  rw [e, e, e, e]
  exact ⟨by omega, by omega, by omega, by omega, fun w hw => by omega, fun r hr => by omega⟩
/-- what a text leaves -/
def TG1 (σ σ' τ τ' : rp_S) : Prop := ∃ g : Nat → Int, sV g ∧ NT σ' 1 g ∧ PG τ' 0 g ∧ σ' 15 2 = rI 0 ∧ σ' 0 8 = rI 0 ∧ τ' 28 20 = rI 0 ∧ τ' 37 0 = rI 0 ∧ τ' 37 1 = rI 0 ∧ σ' 13 2 = rI 0 ∧ τ' 28 5 = rI 0
def TG2 (σ σ' τ τ' : rp_S) : Prop := σ' 13 2 = τ' 28 5 ∧ σ' 0 = σ 0 ∧ σ' 1 = σ 1 ∧ σ' 2 = σ 2 ∧ σ' 3 = σ 3 ∧ σ' 15 = σ 15 ∧ τ' 29 = τ 29 ∧ τ' 37 = τ 37 ∧ τ' 28 20 = τ 28 20
def TGc (σ σ' : rp_S) : Prop := (∀ b : Nat, b ≠ 0 → b ≠ 1 → b ≠ 2 → b ≠ 3 → b ≠ 5 → b ≠ 6 → b ≠ 7 → b ≠ 13 → b ≠ 15 → σ' b = σ b) ∧ σ' 0 9 = σ 0 9 ∧ σ' 13 1 = rI 0
def TGm (τ τ' : rp_S) : Prop := (∀ b : Nat, b ≠ 28 → b ≠ 29 → b ≠ 30 → b ≠ 37 → τ' b = τ b) ∧ (∀ j : Nat, 36 ≤ j → τ' 29 j = τ 29 j) ∧ τ' 28 4 = rI 0 ∧ τ' 28 14 = τ 28 14 ∧ τ' 28 26 = τ 28 26
theorem txt {σ τ : rp_S} (hT : TC σ n tp) (hT' : TM τ n tp) (hC : iConst τ) : ∃ (r : Int32) (σ' τ' : rp_S), fX6_text σ = some (r, σ') ∧ fX7_text τ = some (r, τ') ∧ TGc σ σ' ∧ TGm τ τ' ∧ (TG1 σ σ' τ τ' ∨ TG2 σ σ' τ τ') := by
  have hn := hT.1
  -- the class begins
  obtain ⟨σ5, hσ5⟩ : ∃ σ5, σ5 = rp_up (rp_up (rp_up (rp_up (rp_up (rp_up (rp_up (rp_up σ 5 2 (rI 0)) 5 3 (rI 0)) 5 4 (rI 4)) 5 5 (rI 0)) 13 2 (rI 0)) 13 5 (rI 0)) 13 7 (rI 0)) 13 8 (rI 0) := ⟨_, rfl⟩
  have fc5 : FC σ σ5 := by
    rw [hσ5]
    refine ⟨fun b h5 _ _ h13 => ?_, ?_⟩
    · rw [up_ne h13, up_ne h13, up_ne h13, up_ne h13, up_ne h5, up_ne h5, up_ne h5, up_ne h5]
    · rw [up_nj (by omega), up_nj (by omega), up_nj (by omega), up_nj (by omega), up_ne (by omega), up_ne (by omega), up_ne (by omega), up_ne (by omega)]
  have N5 : NT σ5 5 g0 := by
    rw [hσ5]
    refine ⟨?_, ?_, ?_, ?_, fun w k hw _ => absurd hw (by show ¬ ((w : Int) < 0); omega), fun w k hw _ => absurd hw (by show ¬ ((w : Int) < 0); omega)⟩
    · rw [up_ne (by omega), up_ne (by omega), up_ne (by omega), up_ne (by omega), up_nj (by omega), up_nj (by omega), up_nj (by omega), up_eq]; rfl
    · rw [up_ne (by omega), up_ne (by omega), up_ne (by omega), up_ne (by omega), up_nj (by omega), up_nj (by omega), up_eq]; rfl
    · rw [up_ne (by omega), up_ne (by omega), up_ne (by omega), up_ne (by omega), up_nj (by omega), up_eq]; rfl
    · rw [up_ne (by omega), up_ne (by omega), up_ne (by omega), up_ne (by omega), up_eq]; rfl
  have s2 : σ5 13 2 = rI 0 := by rw [hσ5, up_nj (by omega), up_nj (by omega), up_nj (by omega), up_eq]
  have s5 : σ5 13 5 = rI ((0 : Nat) : Int) := by rw [hσ5, up_nj (by omega), up_nj (by omega), up_eq]; rfl
  have s7 : σ5 13 7 = rI ((0 : Nat) : Int) := by rw [hσ5, up_nj (by omega), up_eq]; rfl
  have s8 : σ5 13 8 = rI ((0 : Nat) : Int) := by rw [hσ5, up_eq]; rfl
  obtain ⟨σ6, a1, a2, a3⟩ := cTok0 (b := 0) (by omega) (hT.c fc5) s5 s2
  -- the reference begins
  obtain ⟨τ3, hτ3⟩ : ∃ τ3, τ3 = rp_up (rp_up (rp_up τ 28 6 (rI 0)) 28 8 (rI 0)) 28 2 (rI 0) := ⟨_, rfl⟩
  obtain ⟨τ4, b1, b2, b3⟩ := m19 (rI 0) 36 0 1000 τ3 (by omega) (by omega) (fun j hj => absurd hj (by omega))
  have fm3 : FM τ τ3 := by
    rw [hτ3]
    exact ⟨fun b h1 _ => by rw [up_ne h1, up_ne h1, up_ne h1], fun j h1 h2 => by rw [up_nj h1, up_nj (by omega), up_nj (by omega)]⟩
  have fm4 : FM τ τ4 := fm3.tr ⟨fun b _ h2 => b1 b h2, fun j _ _ => by rw [b1 28 (by omega)]⟩
  have t6 : τ4 28 6 = rI 0 := by rw [b1 28 (by omega), hτ3, up_nj (by omega), up_nj (by omega), up_eq]
  have t8 : τ4 28 8 = rI ((0 : Nat) : Int) := by rw [b1 28 (by omega), hτ3, up_nj (by omega), up_eq]; rfl
  have t2 : τ4 28 2 = rI ((0 : Nat) : Int) := by rw [b1 28 (by omega), hτ3, up_eq]; rfl
  obtain ⟨τ5, c1, c2, c3⟩ := mTok0 (b := 0) (by omega) (hT'.m fm4) t8 t6
  obtain ⟨s, hs⟩ : ∃ s, s = pTk n tp (scn (qR n tp 32 32) (n - 0) 0) := ⟨_, rfl⟩
  rw [← hs] at a2 c2
  have hI : pI n s := by
    rw [hs]
    have := scn_ge (qR n tp 32 32) (n - 0) 0
    exact (pTk_I (by omega)).1
  have cl : CL σ6 s g0 0 0 := ⟨a2, fun _ => ⟨N5.f13 a1, by rw [a1.2 7 (by omega) (by omega) (by omega) (by omega) (by omega)]; exact s7, by rw [a1.2 8 (by omega) (by omega) (by omega) (by omega) (by omega)]; exact s8⟩⟩
  have P4 : MPg τ4 g0 := fun i hi => b2 i hi
  have ml : ML τ5 s g0 0 0 := ⟨c2, fun _ => ⟨P4.kept (c1.1 30 (by omega)), 0, by omega, by rw [c1.2 2 (by omega)]; exact t2, by omega, by omega⟩⟩
  obtain ⟨v', σ7, τ7, s', g', wt', dt', d1, d2, d3, d4, d5, d6, d7, d8⟩ := tloop 161 0 1000 1000 σ6 τ5 s g0 0 0 (by omega) (by omega) (fun _ => by omega) (fun _ => by omega) (by omega) (by omega) hI ((hT.c fc5).f a1) ((hT'.m fm4).f c1) ((hC.m fm4).m c1.m) cl ml sV_g0
  have FCa : FC σ σ7 := (fc5.tr a1.c).tr d1
  have FMa : FM τ τ7 := (fm4.tr c1.m).tr d2
  have i4 := d3.2.2.2.1
  have ctell : fX5_tellTo σ 5 = some (rI (v' : Int), σ7) := by
    unfold fX5_tellTo fX1_clear
    simp only [ob]
    rw [← hσ5, a3, ob]
    exact d7
  have mtell : fX7_text τ = fX7_text_66 τ7 (rI (v' : Int)) := by
    unfold fX7_text
    simp only [ob]
    rw [← hτ3]
    refine b3.trans ?_
    rw [c3, ob]
    exact d8
  have e13 : (rp_up σ7 13 1 (rI 0)) 13 2 = rI (s'.1 : Int) := by rw [up_nj (by omega)]; exact d4.1.1
  have e28 : (rp_up (rp_up τ7 28 4 (rI 0)) 28 5 (rI (s'.1 : Int))) 28 6 = rI (s'.1 : Int) := by rw [up_nj (by omega), up_nj (by omega)]; exact d5.1.1
  by_cases z : s'.1 = 0
  · obtain ⟨N7, _, _⟩ := d4.2 z
    obtain ⟨P7, _⟩ := d5.2 z
    have N8 : NT (rp_up σ7 13 1 (rI 0)) 5 g' := N7.kept (up_ne (by omega)) (up_ne (by omega)) (up_ne (by omega))
    obtain ⟨σ8, f1, f2, f3⟩ := cBecome (a := 1) (b := 5) N8 d6 (by omega)
    obtain ⟨τ8, h1, h2, h3, h4⟩ := m96 (rI (v' : Int)) (g := g') 36 0 1000 (rp_up (rp_up τ7 28 4 (rI 0)) 28 5 (rI (s'.1 : Int))) (by omega) (by omega) (P7.kept (by rw [up_ne (by omega), up_ne (by omega)])) (fun j hj => absurd hj (by omega))
    refine ⟨rI (v' : Int), rp_up (rp_up σ8 15 2 (rI 0)) 0 8 (rI 0), rp_up (rp_up (rp_up τ8 28 20 (rI 0)) 37 0 (rI 0)) 37 1 (rI 0), ?_, ?_, ⟨?_, ?_, ?_⟩, ⟨?_, ?_, ?_, ?_, ?_⟩, Or.inl ⟨g', d6, ?_, ?_, ?_, ?_, ?_, ?_, ?_, ?_, ?_⟩⟩
    · unfold fX6_text
      rw [ctell, ob, ob, e13, if_pos (by rw [rI_eq0 (by omega) (by omega)]; omega), f3, ob, ob, ob]
    · rw [mtell]
      unfold fX7_text_66
      rw [ob, ob, show rp_up τ7 28 4 (rI 0) 28 6 = rI (s'.1 : Int) from by rw [up_nj (by omega)]; exact d5.1.1, e28, if_pos (by rw [rI_le0 (by omega) (by omega)]; omega)]
      exact h4
    · intro b b0 b1 b2 b3 b5 b6 b7 b13 b15
      rw [up_ne b0, up_ne b15, f1 b b1 b2 b3, up_ne b13, FCa.1 b b5 b6 b7 b13]
    · rw [up_nj (by omega), up_ne (by omega), f1 0 (by omega) (by omega) (by omega), up_ne (by omega), FCa.1 0 (by omega) (by omega) (by omega) (by omega)]
    · rw [up_ne (by omega), up_ne (by omega), f1 13 (by omega) (by omega) (by omega), up_eq]
    · intro b b28 b29 b30 b37
      rw [up_ne b37, up_ne b37, up_ne b28, h1 b b29, up_ne b28, up_ne b28, FMa.1 b b28 b30]
    · intro j hj
      rw [up_ne (by omega), up_ne (by omega), up_ne (by omega), h2 j hj, up_ne (by omega), up_ne (by omega), FMa.1 29 (by omega) (by omega)]
    · rw [up_ne (by omega), up_ne (by omega), up_nj (by omega), h1 28 (by omega), up_nj (by omega), up_eq]
    · rw [up_ne (by omega), up_ne (by omega), up_nj (by omega), h1 28 (by omega), up_nj (by omega), up_nj (by omega), FMa.2 14 (by omega) (by omega)]
    · rw [up_ne (by omega), up_ne (by omega), up_nj (by omega), h1 28 (by omega), up_nj (by omega), up_nj (by omega), FMa.2 26 (by omega) (by omega)]
    · exact f2.kept (by rw [up_ne (by omega), up_ne (by omega)]) (by rw [up_ne (by omega), up_ne (by omega)]) (by rw [up_ne (by omega), up_ne (by omega)])
    · exact h3.kept (fun j _ _ => by rw [up_ne (by omega), up_ne (by omega), up_ne (by omega)])
    · rw [up_ne (by omega), up_eq]
    · rw [up_eq]
    · rw [up_ne (by omega), up_ne (by omega), up_eq]
    · rw [up_nj (by omega), up_eq]
    · rw [up_eq]
    · rw [up_ne (by omega), up_ne (by omega), f1 13 (by omega) (by omega) (by omega), e13, z]; rfl
    · rw [up_ne (by omega), up_ne (by omega), up_nj (by omega), h1 28 (by omega), up_eq, z]; rfl
  · refine ⟨rI (-10) - rI (s'.2.2.1 : Int), rp_up σ7 13 1 (rI 0), rp_up (rp_up τ7 28 4 (rI 0)) 28 5 (rI (s'.1 : Int)), ?_, ?_, ⟨?_, ?_, ?_⟩, ⟨?_, ?_, ?_, ?_, ?_⟩, Or.inr ⟨?_, ?_, ?_, ?_, ?_, ?_, ?_, ?_, ?_⟩⟩
    · unfold fX6_text
      rw [ctell, ob, ob, e13, if_neg (by rw [rI_eq0 (by omega) (by omega)]; omega)]
      show some (rI (-10) - rp_up σ7 13 1 (rI 0) 13 4, rp_up σ7 13 1 (rI 0)) = _
      rw [up_nj (by omega), d4.1.2.1]
    · rw [mtell]
      unfold fX7_text_66
      rw [ob, ob, show rp_up τ7 28 4 (rI 0) 28 6 = rI (s'.1 : Int) from by rw [up_nj (by omega)]; exact d5.1.1, e28, if_neg (by rw [rI_le0 (by omega) (by omega)]; omega), up_nj (by omega), up_nj (by omega), d5.1.2.1 z]
    · intro b b0 b1 b2 b3 b5 b6 b7 b13 b15
      rw [up_ne b13, FCa.1 b b5 b6 b7 b13]
    · rw [up_ne (by omega), FCa.1 0 (by omega) (by omega) (by omega) (by omega)]
    · rw [up_eq]
    · intro b b28 b29 b30 b37
      rw [up_ne b28, up_ne b28, FMa.1 b b28 b30]
    · intro j hj
      rw [up_ne (by omega), up_ne (by omega), FMa.1 29 (by omega) (by omega)]
    · rw [up_nj (by omega), up_eq]
    · rw [up_nj (by omega), up_nj (by omega), FMa.2 14 (by omega) (by omega)]
    · rw [up_nj (by omega), up_nj (by omega), FMa.2 26 (by omega) (by omega)]
    · rw [e13, up_eq]
    · rw [up_ne (by omega), FCa.1 0 (by omega) (by omega) (by omega) (by omega)]
    · rw [up_ne (by omega), FCa.1 1 (by omega) (by omega) (by omega) (by omega)]
    · rw [up_ne (by omega), FCa.1 2 (by omega) (by omega) (by omega) (by omega)]
    · rw [up_ne (by omega), FCa.1 3 (by omega) (by omega) (by omega) (by omega)]
    · rw [up_ne (by omega), FCa.1 15 (by omega) (by omega) (by omega) (by omega)]
    · rw [up_ne (by omega), up_ne (by omega), FMa.1 29 (by omega) (by omega)]
    · rw [up_ne (by omega), up_ne (by omega), FMa.1 37 (by omega) (by omega)]
    · rw [up_nj (by omega), up_nj (by omega), FMa.2 20 (by omega) (by omega)]
end TXT
theorem op_text {σ : rp_S} (h : Inv σ) : OpW (fX6_text σ) (fun τ => fX7_text τ) := by
  obtain ⟨g, hp, ht, hs, hi, hsh, hc, hto, hfa⟩ := id h
  obtain ⟨n, n1, n2, n3, n4⟩ := id ht
  obtain ⟨tp, htp⟩ : ∃ tp : Nat → Nat, tp = fun i => (σ 14 i).toInt.toNat := ⟨_, rfl⟩
  have tpc : ∀ i : Nat, i < n → tp i < 128 ∧ σ 14 i = rI (tp i) ∧ σ 31 i = rI (tp i) := by
    intro i hi
    obtain ⟨c, c1, c2, c3⟩ := n4 i hi
    have e : tp i = c := by
      rw [htp]
      show (σ 14 i).toInt.toNat = c
      rw [c2, rI_toInt (by omega) (by omega)]; omega
    rw [e]; exact ⟨c1, c2, c3⟩
  have hT : TC σ n tp := ⟨n1, n2, fun i hi => ⟨(tpc i hi).1, (tpc i hi).2.1⟩⟩
  have hT0 : TM σ n tp := ⟨n1, n3, fun i hi => ⟨(tpc i hi).1, (tpc i hi).2.2⟩⟩
  obtain ⟨r0, σ1, τ0, a1, _, a3, _, _⟩ := txt hT hT0 hc
  have q28 : σ1 28 = σ 28 := a3.1 28 (by omega) (by omega) (by omega) (by omega) (by omega) (by omega) (by omega) (by omega) (by omega)
  have q31 : σ1 31 = σ 31 := a3.1 31 (by omega) (by omega) (by omega) (by omega) (by omega) (by omega) (by omega) (by omega) (by omega)
  have hT1 : TM σ1 n tp := ⟨n1, by rw [q28]; exact n3, fun i hi => by rw [q31]; exact ⟨(tpc i hi).1, (tpc i hi).2.2⟩⟩
  have hc1 : iConst σ1 := hc.kept (a3.1 32 (by omega) (by omega) (by omega) (by omega) (by omega) (by omega) (by omega) (by omega) (by omega)) (a3.1 33 (by omega) (by omega) (by omega) (by omega) (by omega) (by omega) (by omega) (by omega) (by omega)) (by rw [q28])
  obtain ⟨r, σ1', τ, b1, b2, b3, b4, b5⟩ := txt hT hT1 hc1
  rw [a1] at b1
  have e1 := Option.some.inj b1
  have er : r0 = r := congrArg Prod.fst e1
  have es : σ1 = σ1' := congrArg Prod.snd e1
  subst er
  subst es
  refine ⟨r0, σ1, τ, a1, b2, ?_⟩
  have cb : ∀ b : Nat, b ≠ 0 → b ≠ 1 → b ≠ 2 → b ≠ 3 → b ≠ 5 → b ≠ 6 → b ≠ 7 → b ≠ 13 → b ≠ 15 → b ≠ 28 → b ≠ 29 → b ≠ 30 → b ≠ 37 → τ b = σ b := by
    intro b h0 h1 h2 h3 h5 h6 h7 h13 h15 h28 h29 h30 h37
    rw [b4.1 b h28 h29 h30 h37, b3.1 b h0 h1 h2 h3 h5 h6 h7 h13 h15]
  have q29 : ∀ j : Nat, 36 ≤ j → τ 29 j = σ 29 j := fun j hj => by
    rw [b4.2.1 j hj, b3.1 29 (by omega) (by omega) (by omega) (by omega) (by omega) (by omega) (by omega) (by omega) (by omega)]
  have T' : iTape τ := ⟨0, by omega, by rw [b4.1 13 (by omega) (by omega) (by omega) (by omega), b3.2.2]; rfl, by rw [b4.2.2.1]; rfl, fun i hi => absurd hi (by omega)⟩
  have S' : iSheet τ := hsh.kept (by rw [cb 18 (by omega) (by omega) (by omega) (by omega) (by omega) (by omega) (by omega) (by omega) (by omega) (by omega) (by omega) (by omega) (by omega)]) (fun b z1 z2 => cb b (by omega) (by omega) (by omega) (by omega) (by omega) (by omega) (by omega) (by omega) (by omega) (by omega) (by omega) (by omega) (by omega)) (fun b z1 z2 => cb b (by omega) (by omega) (by omega) (by omega) (by omega) (by omega) (by omega) (by omega) (by omega) (by omega) (by omega) (by omega) (by omega))
  have C' : iConst τ := hc.kept (cb 32 (by omega) (by omega) (by omega) (by omega) (by omega) (by omega) (by omega) (by omega) (by omega) (by omega) (by omega) (by omega) (by omega)) (cb 33 (by omega) (by omega) (by omega) (by omega) (by omega) (by omega) (by omega) (by omega) (by omega) (by omega) (by omega) (by omega) (by omega)) (by rw [b4.2.2.2.1, q28])
  have O' : τ 0 9 = τ 28 26 := by rw [b4.1 0 (by omega) (by omega) (by omega) (by omega), b3.2.1, b4.2.2.2.2, q28]; exact hto
  rcases b5 with ⟨g', z1, z2, z3, z4, z5, z6, z7, z8, z9, z10⟩ | ⟨z1, z2, z3, z4, z5, z6, z7, z8, z9⟩
  · refine ⟨g', ⟨z3, z1, z2.kept (b4.1 1 (by omega) (by omega) (by omega) (by omega)) (b4.1 2 (by omega) (by omega) (by omega) (by omega)) (b4.1 3 (by omega) (by omega) (by omega) (by omega))⟩, T', ⟨0, by omega, ?_, ?_, fun i hi => absurd hi (by omega)⟩, ⟨0, 0, by omega, by omega, ?_, ?_, ?_, fun y => absurd y (by omega), fun y => absurd y (by omega)⟩, S', C', O', ?_⟩
    · rw [b4.1 15 (by omega) (by omega) (by omega) (by omega), z4]; rfl
    · rw [z6]; rfl
    · rw [z7]; rfl
    · rw [z8]; rfl
    · rw [b4.1 0 (by omega) (by omega) (by omega) (by omega), z5]; rfl
    · rw [b4.1 13 (by omega) (by omega) (by omega) (by omega), z9, z10]
  · have y29 : τ 29 = σ 29 := by rw [z7, b3.1 29 (by omega) (by omega) (by omega) (by omega) (by omega) (by omega) (by omega) (by omega) (by omega)]
    have y37 : τ 37 = σ 37 := by rw [z8, b3.1 37 (by omega) (by omega) (by omega) (by omega) (by omega) (by omega) (by omega) (by omega) (by omega)]
    have y0 : τ 0 = σ 0 := by rw [b4.1 0 (by omega) (by omega) (by omega) (by omega), z2]
    have y1 : τ 1 = σ 1 := by rw [b4.1 1 (by omega) (by omega) (by omega) (by omega), z3]
    have y2 : τ 2 = σ 2 := by rw [b4.1 2 (by omega) (by omega) (by omega) (by omega), z4]
    have y3 : τ 3 = σ 3 := by rw [b4.1 3 (by omega) (by omega) (by omega) (by omega), z5]
    have y15 : τ 15 = σ 15 := by rw [b4.1 15 (by omega) (by omega) (by omega) (by omega), z6]
    refine ⟨g, hp.kept (fun j _ => by rw [y29]) y1 y2 y3, T', hs.kept (by rw [y15]) ?_ ?_ ?_ ?_, hi.kept y37 (by rw [y0]) (fun b z1 z2 => cb b (by omega) (by omega) (by omega) (by omega) (by omega) (by omega) (by omega) (by omega) (by omega) (by omega) (by omega) (by omega) (by omega)) (fun j _ _ => by rw [y29]), S', C', O', ?_⟩
    · rw [z9, q28]
    · exact cb 16 (by omega) (by omega) (by omega) (by omega) (by omega) (by omega) (by omega) (by omega) (by omega) (by omega) (by omega) (by omega) (by omega)
    · exact cb 17 (by omega) (by omega) (by omega) (by omega) (by omega) (by omega) (by omega) (by omega) (by omega) (by omega) (by omega) (by omega) (by omega)
    · exact cb 35 (by omega) (by omega) (by omega) (by omega) (by omega) (by omega) (by omega) (by omega) (by omega) (by omega) (by omega) (by omega) (by omega)
    · rw [b4.1 13 (by omega) (by omega) (by omega) (by omega), z1]
