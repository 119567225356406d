/-! text: a line -/
theorem pFail_2 (c : Nat) (s : pS) : (pFail c s).2 = s.2 := by unfold pFail; split <;> rfl
theorem pNum_2 (lo hi : Int) (s : pS) : (pNum lo hi s).2 = s.2 := by
  unfold pNum
  split
  · split
    · rfl
    · exact pFail_2 _ _
  · exact pFail_2 _ _
theorem pSign_2 (s : pS) : (pSign s).2 = s.2 := by
  unfold pSign
  split
  · rfl
  · exact pFail_2 _ _
theorem pTok_m {n : Nat} {tp : Nat → Nat} {s : pS} (h : pI n s) : s.2.2.2.1 ≤ (pTok n tp s).2.2.2.1 := by
  by_cases z : s.1 = 0
  · have a := pTok_p (tp := tp) h z
    have b := (pTok_I (tp := tp) h).2.2.1
    omega
  · rw [pTok_z z]; omega
def MPg (σ : rp_S) (g : Nat → Int) : Prop := ∀ i : Nat, i < 36 → σ 30 i = rI (g i)
theorem MPg.set {σ : rp_S} {g : Nat → Int} (h : MPg σ g) {j : Nat} (v : Int) : MPg (rp_up σ 30 j (rI v)) (gU g j v) := by
  intro i hi
  rw [up_at, gU_at]
  by_cases q : i = j
  · subst q; rw [if_pos ⟨rfl, rfl⟩, if_pos rfl]
  · rw [if_neg (fun z => q z.2), if_neg q]; exact h i hi
theorem MPg.kept {σ τ : rp_S} {g : Nat → Int} (h : MPg σ g) (k : τ 30 = σ 30) : MPg τ g := fun i hi => by rw [k]; exact h i hi
def FC (σ τ : rp_S) : Prop := (∀ b : Nat, b ≠ 5 → b ≠ 6 → b ≠ 7 → b ≠ 13 → τ b = σ b) ∧ τ 13 1 = σ 13 1
theorem FC.rf (σ : rp_S) : FC σ σ := ⟨fun _ _ _ _ _ => rfl, rfl⟩
theorem FC.tr {σ τ ρ : rp_S} (h : FC σ τ) (k : FC τ ρ) : FC σ ρ := ⟨fun b h1 h2 h3 h4 => (k.1 b h1 h2 h3 h4).trans (h.1 b h1 h2 h3 h4), k.2.trans h.2⟩
theorem F13.c {σ τ : rp_S} (h : F13 σ τ) : FC σ τ := ⟨fun b _ _ _ h4 => h.1 b h4, h.2 1 (by omega) (by omega) (by omega) (by omega) (by omega)⟩
theorem TC.c {σ τ : rp_S} {n : Nat} {tp : Nat → Nat} (h : TC σ n tp) (k : FC σ τ) : TC τ n tp := ⟨h.1, by rw [k.2]; exact h.2.1, fun i hi => by rw [k.1 14 (by omega) (by omega) (by omega) (by omega)]; exact h.2.2 i hi⟩
def FM (σ τ : rp_S) : Prop := (∀ b : Nat, b ≠ 28 → b ≠ 30 → τ b = σ b) ∧ ∀ j : Nat, j ≠ 2 → j < 6 ∨ 11 < j → τ 28 j = σ 28 j
theorem FM.rf (σ : rp_S) : FM σ σ := ⟨fun _ _ _ => rfl, fun _ _ _ => rfl⟩
theorem FM.tr {σ τ ρ : rp_S} (h : FM σ τ) (k : FM τ ρ) : FM σ ρ := ⟨fun b h1 h2 => (k.1 b h1 h2).trans (h.1 b h1 h2), fun j h1 h2 => (k.2 j h1 h2).trans (h.2 j h1 h2)⟩
theorem F28.m {σ τ : rp_S} (h : F28 σ τ) : FM σ τ := ⟨fun b h1 _ => h.1 b h1, fun j _ hj => h.2 j hj⟩
theorem FM.w {σ τ : rp_S} {j : Nat} {x : Int32} (h : FM σ τ) : FM σ (rp_up τ 30 j x) := ⟨fun b h1 h2 => by rw [up_ne h2]; exact h.1 b h1 h2, fun i h1 h2 => by rw [up_ne (by omega)]; exact h.2 i h1 h2⟩
theorem TM.m {σ τ : rp_S} {n : Nat} {tp : Nat → Nat} (h : TM σ n tp) (k : FM σ τ) : TM τ n tp := ⟨h.1, by rw [k.2 4 (by omega) (by omega)]; exact h.2.1, fun i hi => by rw [k.1 31 (by omega) (by omega)]; exact h.2.2 i hi⟩
theorem CS.kept {σ τ : rp_S} {s : pS} (h : CS σ s) (k : τ 13 = σ 13) : CS τ s := by unfold CS; rw [k]; exact h
theorem MS.kept {σ τ : rp_S} {s : pS} (h : MS σ s) (k : τ 28 = σ 28) : MS τ s := by unfold MS; rw [k]; exact h
def CL (σ : rp_S) (s : pS) (g : Nat → Int) (wt dt : Nat) : Prop := CS σ s ∧ (s.1 = 0 → NT σ 5 g ∧ σ 13 7 = rI (wt : Int) ∧ σ 13 8 = rI (dt : Int))
def ML (σ : rp_S) (s : pS) (g : Nat → Int) (wt dt : Nat) : Prop := MS σ s ∧ (s.1 = 0 → MPg σ g ∧ ∃ T : Nat, T < 128 ∧ σ 28 2 = rI (T : Int) ∧ T / 32 % 2 = wt ∧ T / 64 % 2 = dt)
theorem NT.f13 {σ τ : rp_S} {g : Nat → Int} (h : NT σ 5 g) (k : F13 σ τ) : NT τ 5 g := h.kept (k.1 5 (by omega)) (k.1 6 (by omega)) (k.1 7 (by omega))
/-! one more work, one more reader, of the read page -/
theorem cAdd5 {σ : rp_S} {g : Nat → Int} (hN : NT σ 5 g) (hV : sV g) {n : Nat} (hn : g 24 = n) (n6 : n < 6) {z1 z2 z3 z4 : Int} (q : fit4 z1 z2 z3 z4) : ∃ τ, (∀ b : Nat, b ≠ 5 → b ≠ 6 → τ b = σ b) ∧ NT τ 5 (gW g n z1 z2 z3 z4) ∧ fX1_addWork σ 5 (rI z1) (rI z2) (rI z3) (rI z4) = some (rI ((n + 1 : Nat) : Int), τ) := by
  have v1 := hV.1
  obtain ⟨q1, q2, q3, q4⟩ := id q
  have e1 : (rI z1).toInt = z1 := rI_toInt (by omega) (by omega)
  have e2 : (rI z2).toInt = z2 := rI_toInt (by omega) (by omega)
  have e3 : (rI z3).toInt = z3 := rI_toInt (by omega) (by omega)
  have e4 : (rI z4).toInt = z4 := rI_toInt (by omega) (by omega)
  have f1 : fX6_fitsWork σ (rI 0) (rI z1) = some (if fitW 0 z1 then rI 1 else rI 0) := by have := fitsW σ (rI z1) 0 (by omega); rw [e1] at this; exact this
  have f2 : fX6_fitsWork σ (rI 1) (rI z2) = some (if fitW 1 z2 then rI 1 else rI 0) := by have := fitsW σ (rI z2) 1 (by omega); rw [e2] at this; exact this
  have f3 : fX6_fitsWork σ (rI 2) (rI z3) = some (if fitW 2 z3 then rI 1 else rI 0) := by have := fitsW σ (rI z3) 2 (by omega); rw [e3] at this; exact this
  have f4 : fX6_fitsWork σ (rI 3) (rI z4) = some (if fitW 3 z4 then rI 1 else rI 0) := by have := fitsW σ (rI z4) 3 (by omega); rw [e4] at this; exact this
  unfold fX1_addWork
  rw [f1, f2, f3, f4]
  simp only [ob, rb_0]
  rw [if_neg (fun z => z q1), if_neg (fun z => z q2), if_neg (fun z => z q3), if_neg (fun z => z q4), hN.1]
  rw [if_pos (by rw [rI_lt (by omega) (by omega) (by omega) (by omega)]; omega), hn]
  obtain ⟨h1, h2, h3, h4⟩ := hV.row4 (n := n) (by omega) q
  have t1 := hN.setW hV (w := n) (k := 0) (by omega) (by omega) z1
  have t2 := t1.setW h1 (w := n) (k := 1) (by omega) (by omega) z2
  have t3 := t2.setW h2 (w := n) (k := 2) (by omega) (by omega) z3
  have t4 := t3.setW h3 (w := n) (k := 3) (by omega) (by omega) z4
  have w0 : ∀ (ρ : rp_S) (x : Int32), fX1_setWork ρ 5 (rI n) (rI 0) x = some (rp_up ρ (5 + 1) (4 * n + 0) x) := fun ρ x => cSetW (k := 0) (by omega) (by omega)
  have w1 : ∀ (ρ : rp_S) (x : Int32), fX1_setWork ρ 5 (rI n) (rI 1) x = some (rp_up ρ (5 + 1) (4 * n + 1) x) := fun ρ x => cSetW (k := 1) (by omega) (by omega)
  have w2 : ∀ (ρ : rp_S) (x : Int32), fX1_setWork ρ 5 (rI n) (rI 2) x = some (rp_up ρ (5 + 1) (4 * n + 2) x) := fun ρ x => cSetW (k := 2) (by omega) (by omega)
  have w3 : ∀ (ρ : rp_S) (x : Int32), fX1_setWork ρ 5 (rI n) (rI 3) x = some (rp_up ρ (5 + 1) (4 * n + 3) x) := fun ρ x => cSetW (k := 3) (by omega) (by omega)
  have i1 : ∀ (j : Nat) (x : Int32) (ρ : rp_S), ρ 5 2 = rI n → rp_up ρ (5 + 1) j x 5 2 = rI n := fun j x ρ h => by rw [up_ne (by omega)]; exact h
  have i0 : σ 5 2 = rI n := by rw [hN.1, hn]
  refine ⟨rp_up (rp_up (rp_up (rp_up (rp_up σ (5 + 1) (4 * n + 0) (rI z1)) (5 + 1) (4 * n + 1) (rI z2)) (5 + 1) (4 * n + 2) (rI z3)) (5 + 1) (4 * n + 3) (rI z4)) 5 2 (rI ((n + 1 : Nat) : Int)), ?_, ?_, ?_⟩
  · intro b b5 b6
    rw [up_ne b5, up_ne (by omega), up_ne (by omega), up_ne (by omega), up_ne (by omega)]
  · refine t4.setN (fun w k q1 q2 => ?_) (by omega)
    by_cases e : w = n
    · subst e
      have hk2 : k = 0 ∨ k = 1 ∨ k = 2 ∨ k = 3 := by omega
      rcases hk2 with rfl | rfl | rfl | rfl
      · rw [gU_ne (by omega), gU_ne (by omega), gU_ne (by omega), gU_eq, up_nj (by omega), up_nj (by omega), up_nj (by omega), up_eq]
      · rw [gU_ne (by omega), gU_ne (by omega), gU_eq, up_nj (by omega), up_nj (by omega), up_eq]
      · rw [gU_ne (by omega), gU_eq, up_nj (by omega), up_eq]
      · rw [gU_eq, up_eq]
    · refine t4.2.2.2.2.1 w k ?_ q2
      rw [gU_ne (by omega), gU_ne (by omega), gU_ne (by omega), gU_ne (by omega)]
      omega
  · rw [w0, ob, i1 _ _ _ i0, w1, ob, i1 _ _ _ (i1 _ _ _ i0), w2, ob, i1 _ _ _ (i1 _ _ _ (i1 _ _ _ i0)), w3, ob, i1 _ _ _ (i1 _ _ _ (i1 _ _ _ (i1 _ _ _ i0))), iI_s, up_eq]
abbrev gR (g : Nat → Int) (n : Nat) (z1 z2 : Int) : Nat → Int := gU (gU (gU g (25 + 4 * 0 + n) z1) (25 + 4 * 1 + n) z2) 33 ((n + 1 : Nat) : Int)
theorem sV.addR {g : Nat → Int} (hV : sV g) {n : Nat} (hn : g 33 = n) (n6 : n < 4) {z1 z2 : Int} (q1 : fitR 0 z1) (q2 : fitR 1 z2) : sV (gR g n z1 z2) := by
  have h1 := hV.setR (r := n) (k := 0) (by omega) q1
  have h2 := h1.setR (r := n) (k := 1) (by omega) q2
  refine h2.setM (by omega) (by omega) (fun r hr => ?_)
  by_cases e : r = n
  · subst e
    rw [gU_eq, gU_ne (by omega), gU_eq]
    exact ⟨q1, q2⟩
  · refine h2.rowR ?_
    rw [gU_ne (by omega), gU_ne (by omega)]
    omega
theorem sV.addW {g : Nat → Int} (h : sV g) {n : Nat} (hn : g 24 = n) (n6 : n < 6) {z1 z2 z3 z4 : Int} (q : fit4 z1 z2 z3 z4) : sV (gW g n z1 z2 z3 z4) := by
  have e := h.add z1 z2 z3 z4
  rw [sAdd_ok q (by omega)] at e
  have en : (g 24).toNat = n := by omega
  have e' : sV (gW g (g 24).toNat z1 z2 z3 z4) := e
  rw [en] at e'
  exact e'
theorem cAddR5 {σ : rp_S} {g : Nat → Int} (hN : NT σ 5 g) (hV : sV g) {n : Nat} (hn : g 33 = n) (n4 : n < 4) {X Y : Int} (q1' : fitR 0 X) (q2' : fitR 1 Y) : ∃ τ, (∀ b : Nat, b ≠ 5 → b ≠ 7 → τ b = σ b) ∧ NT τ 5 (gR g n X Y) ∧ fX1_addReader σ 5 (rI X) (rI Y) = some (rI ((n + 1 : Nat) : Int), τ) := by
  have v2 := hV.2.1
  have e1 : (rI X).toInt = X := rI_toInt (by omega) (by omega)
  have e2 : (rI Y).toInt = Y := rI_toInt (by omega) (by omega)
  have f1 : fX6_fitsReader σ (rI 0) (rI X) = some (if fitR 0 X then rI 1 else rI 0) := by have := fitsR σ (rI X) 0 (by omega); rw [e1] at this; exact this
  have f2 : fX6_fitsReader σ (rI 1) (rI Y) = some (if fitR 1 Y then rI 1 else rI 0) := by have := fitsR σ (rI Y) 1 (by omega); rw [e2] at this; exact this
  have h1 := hV.setR (r := n) (k := 0) (by omega) q1'
  have h2 := h1.setR (r := n) (k := 1) (by omega) q2'
  have t1 := hN.setR hV (r := n) (k := 0) (by omega) (by omega) X
  have t2 := t1.setR h1 (r := n) (k := 1) (by omega) (by omega) Y
  have c0 : ∀ (ρ : rp_S) (x : Int32), fX1_setReader ρ 5 (rI n) (rI 0) x = some (rp_up ρ (5 + 2) (2 * n + 0) x) := fun ρ x => cSetR (k := 0) (by omega) (by omega)
  have c1 : ∀ (ρ : rp_S) (x : Int32), fX1_setReader ρ 5 (rI n) (rI 1) x = some (rp_up ρ (5 + 2) (2 * n + 1) x) := fun ρ x => cSetR (k := 1) (by omega) (by omega)
  have i1 : ∀ (j : Nat) (x : Int32) (ρ : rp_S), ρ 5 3 = rI n → rp_up ρ (5 + 2) j x 5 3 = rI n := fun j x ρ h => by rw [up_ne (by omega)]; exact h
  have i0 : σ 5 3 = rI n := by rw [hN.2.1, hn]
  refine ⟨rp_up (rp_up (rp_up σ (5 + 2) (2 * n + 0) (rI X)) (5 + 2) (2 * n + 1) (rI Y)) 5 3 (rI ((n + 1 : Nat) : Int)), ?_, t2.setM h2 ?_ (by omega), ?_⟩
  · intro b b5 b7
    rw [up_ne b5, up_ne (by omega), up_ne (by omega)]
  · intro r k z1 z2
    by_cases e : r = n
    · subst e
      have hk2 : k = 0 ∨ k = 1 := by omega
      rcases hk2 with rfl | rfl
      · rw [gU_ne (by omega), gU_eq, up_nj (by omega), up_eq]
      · rw [gU_eq, up_eq]
    · refine t2.2.2.2.2.2 r k ?_ z2
      rw [gU_ne (by omega), gU_ne (by omega)]
      omega
  · unfold fX1_addReader
    rw [f1, f2]
    simp only [ob, rb_0]
    rw [if_neg (fun z => z q1'), if_neg (fun z => z q2'), i0, if_pos (by rw [rI_lt (by omega) (by omega) (by omega) (by omega)]; omega), c0, ob, i1 _ _ _ i0, c1, ob, i1 _ _ _ (i1 _ _ _ i0), iI_s, up_eq]
/-! what a line makes of the tokens -/
def pA1 (n : Nat) (tp : Nat → Nat) (s : pS) : pS := pNum 0 11 (pTok n tp s)
def pA2 (n : Nat) (tp : Nat → Nat) (s : pS) : pS := pNum 0 59 (pTok n tp (pA1 n tp s))
def pA3 (n : Nat) (tp : Nat → Nat) (s : pS) : pS := pNum 1 9 (pTok n tp (pA2 n tp s))
def pR2 (n : Nat) (tp : Nat → Nat) (s : pS) : pS := pNum 0 9 (pTok n tp (pA1 n tp s))
def pB1 (hi : Int) (n : Nat) (tp : Nat → Nat) (s : pS) : pS := pNum 0 hi (pTok n tp s)
def pEnd (n : Nat) (tp : Nat → Nat) (s : pS) : pS := pSign (pTok n tp s)
section CLN
variable {n : Nat} {tp : Nat → Nat}
theorem pA1_I {s : pS} (h : pI n s) : pI n (pA1 n tp s) := pNum_I (pTok_I h)
theorem pA2_I {s : pS} (h : pI n s) : pI n (pA2 n tp s) := pNum_I (pTok_I (pA1_I h))
theorem pA3_I {s : pS} (h : pI n s) : pI n (pA3 n tp s) := pNum_I (pTok_I (pA2_I h))
theorem pR2_I {s : pS} (h : pI n s) : pI n (pR2 n tp s) := pNum_I (pTok_I (pA1_I h))
theorem pB1_I {hi : Int} {s : pS} (h : pI n s) : pI n (pB1 hi n tp s) := pNum_I (pTok_I h)
theorem pEnd_I {s : pS} (h : pI n s) : pI n (pEnd n tp s) := pSign_I (pTok_I h)
theorem num_m {lo hi : Int} {s : pS} (h : pI n s) : s.2.2.2.1 ≤ (pNum lo hi (pTok n tp s)).2.2.2.1 := by
  rw [pNum_2]; exact pTok_m h
theorem end_m {s : pS} (h : pI n s) : s.2.2.2.1 ≤ (pEnd n tp s).2.2.2.1 := by
  unfold pEnd; rw [pSign_2]; exact pTok_m h
theorem end_0 {s : pS} (h : (pEnd n tp s).1 = 0) : s.1 = 0 := pTok_0 (pSign_0 h).2
theorem num_0 {lo hi : Int} {s : pS} (h : (pNum lo hi (pTok n tp s)).1 = 0) : s.1 = 0 := pTok_0 (pNum_0 h).2.1
theorem num_v {lo hi : Int} {s : pS} (h : (pNum lo hi s).1 = 0) : lo ≤ (pNum lo hi s).2.2.2.2 ∧ (pNum lo hi s).2.2.2.2 ≤ hi := by
  obtain ⟨a, b, c, d⟩ := pNum_0 h
  rw [a]; exact d
theorem cWork {σ : rp_S} {s : pS} {g : Nat → Int} {wt dt k : Nat} (hI : pI n s) (hT : TC σ n tp) (h : CL σ s g wt dt) (h0 : s.1 = 0) (hV : sV g) (hk : k < 4) : ∃ τ, FC σ τ ∧ CL τ (pEnd n tp (pA3 n tp (if g 24 < 6 then s else pFail 5 s))) (gW g (g 24).toNat k (pA1 n tp (if g 24 < 6 then s else pFail 5 s)).2.2.2.2 (pA2 n tp (if g 24 < 6 then s else pFail 5 s)).2.2.2.2 (pA3 n tp (if g 24 < 6 then s else pFail 5 s)).2.2.2.2) wt dt ∧ fX5_takeWork σ 5 (rI (k : Int)) = some τ := by
  have v1 := hV.1
  obtain ⟨hN, h7, h8⟩ := h.2 h0
  have body : ∀ (ρ : rp_S) (q : pS), pI n q → TC ρ n tp → F13 σ ρ → CS ρ q → (q.1 = 0 → g 24 < 6) → ∃ τ, FC σ τ ∧ CL τ (pEnd n tp (pA3 n tp q)) (gW g (g 24).toNat k (pA1 n tp q).2.2.2.2 (pA2 n tp q).2.2.2.2 (pA3 n tp q).2.2.2.2) wt dt ∧ fX5_takeWork_14 5 ρ (rI (k : Int)) = some τ := by
    intro ρ q qI qT qF qC q6
    obtain ⟨x1, ρ1, a1, a2, a3, a4⟩ := cNum qI qT qC (lo := 0) (hi := 11) (by omega) (by omega) (by omega) (by omega)
    have I1 : pI n (pA1 n tp q) := pA1_I qI
    have T1 := qT.f a1
    obtain ⟨x2, ρ2, b1, b2, b3, b4⟩ := cNum I1 T1 a2 (lo := 0) (hi := 59) (by omega) (by omega) (by omega) (by omega)
    have I2 : pI n (pA2 n tp q) := pA2_I qI
    have T2 := T1.f b1
    obtain ⟨x3, ρ3, c1, c2, c3, c4⟩ := cNum I2 T2 b2 (lo := 1) (hi := 9) (by omega) (by omega) (by omega) (by omega)
    have I3 : pI n (pA3 n tp q) := pA3_I qI
    have T3 := T2.f c1
    obtain ⟨ρ4, d1, d2, d3⟩ := cSign I3 T3 c2
    have I4 : pI n (pEnd n tp (pA3 n tp q)) := pEnd_I I3
    have F := ((((qF.tr a1).tr b1).tr c1).tr d1)
    have i5 := I4.2.2.2.1
    unfold fX5_takeWork_14
    rw [show rq_td 0 (rI 1) = some (rI 0) from by decide, show rq_td 1 (rI 1) = some (rI 11) from by decide, show rq_td 0 (rI 2) = some (rI 0) from by decide, show rq_td 1 (rI 2) = some (rI 59) from by decide, show rq_td 0 (rI 3) = some (rI 1) from by decide, show rq_td 1 (rI 3) = some (rI 9) from by decide]
    simp only [ob, a4, b4, c4, d3]
    have e2 : ρ4 13 2 = rI ((pEnd n tp (pA3 n tp q)).1 : Int) := d2.1
    rw [e2]
    by_cases z : (pEnd n tp (pA3 n tp q)).1 = 0
    · rw [if_pos (by rw [rI_eq0 (by omega) (by omega)]; omega)]
      have z3 := end_0 z
      have z2 : (pA2 n tp q).1 = 0 := num_0 z3
      have z1 : (pA1 n tp q).1 = 0 := num_0 z2
      have z0 : q.1 = 0 := num_0 z1
      have u1 : 0 ≤ (pA1 n tp q).2.2.2.2 ∧ (pA1 n tp q).2.2.2.2 ≤ 11 := num_v z1
      have u2 : 0 ≤ (pA2 n tp q).2.2.2.2 ∧ (pA2 n tp q).2.2.2.2 ≤ 59 := num_v z2
      have u3 : 1 ≤ (pA3 n tp q).2.2.2.2 ∧ (pA3 n tp q).2.2.2.2 ≤ 9 := num_v z3
      have y1 : x1 = rI (pA1 n tp q).2.2.2.2 := a3 z1
      have y2 : x2 = rI (pA2 n tp q).2.2.2.2 := b3 z2
      have y3 : x3 = rI (pA3 n tp q).2.2.2.2 := c3 z3
      have g6 := q6 z0
      obtain ⟨τ, t1, t2, t3⟩ := cAdd5 (hN.f13 F) hV (n := (g 24).toNat) (by omega) (by omega) (z1 := (k : Int)) (z2 := (pA1 n tp q).2.2.2.2) (z3 := (pA2 n tp q).2.2.2.2) (z4 := (pA3 n tp q).2.2.2.2) (by omega)
      rw [y1, y2, y3, t3, ob]
      refine ⟨τ, F.c.tr ⟨fun b b5 b6 _ _ => t1 b b5 b6, by rw [t1 13 (by omega) (by omega)]⟩, ⟨d2.kept (t1 13 (by omega) (by omega)), fun _ => ⟨t2, ?_, ?_⟩⟩, rfl⟩
      · rw [t1 13 (by omega) (by omega), F.2 7 (by omega) (by omega) (by omega) (by omega) (by omega)]; exact h7
      · rw [t1 13 (by omega) (by omega), F.2 8 (by omega) (by omega) (by omega) (by omega) (by omega)]; exact h8
    · rw [if_neg (by rw [rI_eq0 (by omega) (by omega)]; omega)]
      exact ⟨ρ4, F.c, ⟨d2, fun y => absurd y z⟩, rfl⟩
  unfold fX5_takeWork
  rw [hN.1]
  by_cases z : g 24 < 6
  · simp only [if_pos z]
    rw [if_pos (by rw [rI_lt (by omega) (by omega) (by omega) (by omega)]; omega)]
    exact body σ s hI hT (F13.rf σ) h.1 (fun _ => z)
  · simp only [if_neg z]
    rw [if_neg (by rw [rI_lt (by omega) (by omega) (by omega) (by omega)]; omega)]
    obtain ⟨υ, u1, u2, u3⟩ := cBlame h.1 (c := 5) hI.2.2.2.1 (by omega)
    have u3' : fX5_blame σ (rI 5) = some υ := u3
    rw [u3', ob]
    exact body υ _ (pFail_I (by omega) (by omega) hI) (hT.f u1) u1 u2 (fun y => absurd y (pFail_f (by omega)))
theorem cReader {σ : rp_S} {s : pS} {g : Nat → Int} {wt dt : Nat} (hI : pI n s) (hT : TC σ n tp) (h : CL σ s g wt dt) (h0 : s.1 = 0) (hV : sV g) : ∃ τ, FC σ τ ∧ CL τ (pEnd n tp (pR2 n tp (if g 33 < 4 then s else pFail 5 s))) (gR g (g 33).toNat (pA1 n tp (if g 33 < 4 then s else pFail 5 s)).2.2.2.2 (pR2 n tp (if g 33 < 4 then s else pFail 5 s)).2.2.2.2) wt dt ∧ fX5_takeReader σ 5 = some τ := by
  have v1 := hV.2.1
  obtain ⟨hN, h7, h8⟩ := h.2 h0
  have body : ∀ (ρ : rp_S) (q : pS), pI n q → TC ρ n tp → F13 σ ρ → CS ρ q → (q.1 = 0 → g 33 < 4) → ∃ τ, FC σ τ ∧ CL τ (pEnd n tp (pR2 n tp q)) (gR g (g 33).toNat (pA1 n tp q).2.2.2.2 (pR2 n tp q).2.2.2.2) wt dt ∧ fX5_takeReader_13 5 ρ = some τ := by
    intro ρ q qI qT qF qC q6
    obtain ⟨x1, ρ1, a1, a2, a3, a4⟩ := cNum qI qT qC (lo := 0) (hi := 11) (by omega) (by omega) (by omega) (by omega)
    have I1 : pI n (pA1 n tp q) := pA1_I qI
    have T1 := qT.f a1
    obtain ⟨x2, ρ2, b1, b2, b3, b4⟩ := cNum I1 T1 a2 (lo := 0) (hi := 9) (by omega) (by omega) (by omega) (by omega)
    have I2 : pI n (pR2 n tp q) := pR2_I qI
    have T2 := T1.f b1
    obtain ⟨ρ4, d1, d2, d3⟩ := cSign I2 T2 b2
    have I4 : pI n (pEnd n tp (pR2 n tp q)) := pEnd_I I2
    have F := (((qF.tr a1).tr b1).tr d1)
    have i5 := I4.2.2.2.1
    unfold fX5_takeReader_13
    rw [show rq_td 2 (rI 0) = some (rI 11) from by decide, show rq_td 2 (rI 1) = some (rI 9) from by decide]
    simp only [ob, a4, b4, d3]
    have e2 : ρ4 13 2 = rI ((pEnd n tp (pR2 n tp q)).1 : Int) := d2.1
    rw [e2]
    by_cases z : (pEnd n tp (pR2 n tp q)).1 = 0
    · rw [if_pos (by rw [rI_eq0 (by omega) (by omega)]; omega)]
      have z2 := end_0 z
      have z1 : (pA1 n tp q).1 = 0 := num_0 z2
      have z0 : q.1 = 0 := num_0 z1
      have u1 : 0 ≤ (pA1 n tp q).2.2.2.2 ∧ (pA1 n tp q).2.2.2.2 ≤ 11 := num_v z1
      have u2 : 0 ≤ (pR2 n tp q).2.2.2.2 ∧ (pR2 n tp q).2.2.2.2 ≤ 9 := num_v z2
      have y1 : x1 = rI (pA1 n tp q).2.2.2.2 := a3 z1
      have y2 : x2 = rI (pR2 n tp q).2.2.2.2 := b3 z2
      have g6 := q6 z0
      obtain ⟨τ, t1, t2, t3⟩ := cAddR5 (hN.f13 F) hV (n := (g 33).toNat) (by omega) (by omega) (X := (pA1 n tp q).2.2.2.2) (Y := (pR2 n tp q).2.2.2.2) (by omega) (by omega)
      rw [y1, y2, t3, ob]
      refine ⟨τ, F.c.tr ⟨fun b b5 _ b7 _ => t1 b b5 b7, by rw [t1 13 (by omega) (by omega)]⟩, ⟨d2.kept (t1 13 (by omega) (by omega)), fun _ => ⟨t2, ?_, ?_⟩⟩, rfl⟩
      · rw [t1 13 (by omega) (by omega), F.2 7 (by omega) (by omega) (by omega) (by omega) (by omega)]; exact h7
      · rw [t1 13 (by omega) (by omega), F.2 8 (by omega) (by omega) (by omega) (by omega) (by omega)]; exact h8
    · rw [if_neg (by rw [rI_eq0 (by omega) (by omega)]; omega)]
      exact ⟨ρ4, F.c, ⟨d2, fun y => absurd y z⟩, rfl⟩
  unfold fX5_takeReader
  rw [hN.2.1]
  by_cases z : g 33 < 4
  · simp only [if_pos z]
    rw [if_pos (by rw [rI_lt (by omega) (by omega) (by omega) (by omega)]; omega)]
    exact body σ s hI hT (F13.rf σ) h.1 (fun _ => z)
  · simp only [if_neg z]
    rw [if_neg (by rw [rI_lt (by omega) (by omega) (by omega) (by omega)]; omega)]
    obtain ⟨υ, u1, u2, u3⟩ := cBlame h.1 (c := 5) hI.2.2.2.1 (by omega)
    have u3' : fX5_blame σ (rI 5) = some υ := u3
    rw [u3', ob]
    exact body υ _ (pFail_I (by omega) (by omega) hI) (hT.f u1) u1 u2 (fun y => absurd y (pFail_f (by omega)))
theorem CS.u {σ : rp_S} {s : pS} (h : CS σ s) {j : Nat} {x : Int32} (hj : 7 ≤ j) : CS (rp_up σ 13 j x) s := by
  obtain ⟨a, b, c⟩ := h
  refine ⟨?_, ?_, fun z => ?_⟩
  · rw [up_nj (by omega)]; exact a
  · rw [up_nj (by omega)]; exact b
  · rw [up_nj (by omega), up_nj (by omega), up_nj (by omega)]; exact c z
theorem TC.u {σ : rp_S} (h : TC σ n tp) {j : Nat} {x : Int32} (hj : 7 ≤ j) : TC (rp_up σ 13 j x) n tp := ⟨h.1, by rw [up_nj (by omega)]; exact h.2.1, fun i hi => by rw [up_ne (by omega)]; exact h.2.2 i hi⟩
theorem cWind {σ : rp_S} {s : pS} {g : Nat → Int} {wt dt : Nat} (hw : wt ≤ 1) (hI : pI n s) (hT : TC σ n tp) (h : CL σ s g wt dt) (h0 : s.1 = 0) (hV : sV g) : ∃ τ, FC σ τ ∧ CL τ (pEnd n tp (pB1 8 n tp (if wt = 0 then s else pFail 4 s))) (gU g 34 ((pB1 8 n tp (if wt = 0 then s else pFail 4 s)).2.2.2.2 - 4)) 1 dt ∧ fX5_takeWind σ 5 = some τ := by
  obtain ⟨hN, h7, h8⟩ := h.2 h0
  have body : ∀ (ρ : rp_S) (q : pS), pI n q → TC ρ n tp → F13 σ ρ → CS ρ q → ∃ τ, FC σ τ ∧ CL τ (pEnd n tp (pB1 8 n tp q)) (gU g 34 ((pB1 8 n tp q).2.2.2.2 - 4)) 1 dt ∧ fX5_takeWind_12 5 ρ = some τ := by
    intro ρ q qI qT qF qC
    obtain ⟨x1, ρ1, a1, a2, a3, a4⟩ := cNum qI (qT.u (j := 7) (x := rI 1) (by omega)) (qC.u (j := 7) (x := rI 1) (by omega)) (lo := 0) (hi := 8) (by omega) (by omega) (by omega) (by omega)
    have I1 : pI n (pB1 8 n tp q) := pB1_I qI
    have T1 : TC ρ1 n tp := (qT.u (j := 7) (x := rI 1) (by omega)).f a1
    have T2 : TC (rp_up ρ1 5 4 x1) n tp := ⟨T1.1, by rw [up_ne (by omega)]; exact T1.2.1, fun i hi => by rw [up_ne (by omega)]; exact T1.2.2 i hi⟩
    obtain ⟨ρ4, d1, d2, d3⟩ := cSign I1 T2 (CS.kept (τ := rp_up ρ1 5 4 x1) a2 (up_ne (by omega)))
    have fa : FC σ (rp_up ρ 13 7 (rI 1)) := ⟨fun b h1 h2 h3 h4 => by rw [up_ne h4]; exact qF.1 b h4, by rw [up_nj (by omega)]; exact qF.2 1 (by omega) (by omega) (by omega) (by omega) (by omega)⟩
    have fb : FC ρ1 (rp_up ρ1 5 4 x1) := ⟨fun b h1 _ _ _ => up_ne h1, by rw [up_ne (by omega)]⟩
    unfold fX5_takeWind_12
    simp only [ob, a4, d3]
    refine ⟨ρ4, ((fa.tr a1.c).tr fb).tr d1.c, ⟨d2, fun z => ?_⟩, rfl⟩
    have z1 : (pB1 8 n tp q).1 = 0 := end_0 z
    have u1 : 0 ≤ (pB1 8 n tp q).2.2.2.2 ∧ (pB1 8 n tp q).2.2.2.2 ≤ 8 := num_v z1
    have y1 : x1 = rI (pB1 8 n tp q).2.2.2.2 := a3 z1
    have N1 : NT ρ1 5 g := (hN.f13 qF).kept (by rw [a1.1 5 (by omega), up_ne (by omega)]) (by rw [a1.1 6 (by omega), up_ne (by omega)]) (by rw [a1.1 7 (by omega), up_ne (by omega)])
    have N2 := N1.setB hV (v := (pB1 8 n tp q).2.2.2.2 - 4) (x := (pB1 8 n tp q).2.2.2.2) (by omega)
    rw [← y1] at N2
    refine ⟨N2.f13 d1, ?_, ?_⟩
    · rw [d1.2 7 (by omega) (by omega) (by omega) (by omega) (by omega), up_ne (by omega), a1.2 7 (by omega) (by omega) (by omega) (by omega) (by omega), up_eq]; rfl
    · rw [d1.2 8 (by omega) (by omega) (by omega) (by omega) (by omega), up_ne (by omega), a1.2 8 (by omega) (by omega) (by omega) (by omega) (by omega), up_nj (by omega), qF.2 8 (by omega) (by omega) (by omega) (by omega) (by omega)]; exact h8
  unfold fX5_takeWind
  rw [h7]
  by_cases z : wt = 0
  · simp only [if_pos z]
    rw [if_pos (by rw [rI_eq0 (by omega) (by omega)]; omega)]
    exact body σ s hI hT (F13.rf σ) h.1
  · simp only [if_neg z]
    rw [if_neg (by rw [rI_eq0 (by omega) (by omega)]; omega)]
    obtain ⟨υ, u1, u2, u3⟩ := cBlame h.1 (c := 4) hI.2.2.2.1 (by omega)
    have u3' : fX5_blame σ (rI 4) = some υ := u3
    rw [u3', ob]
    exact body υ _ (pFail_I (by omega) (by omega) hI) (hT.f u1) u1 u2
theorem cDamp {σ : rp_S} {s : pS} {g : Nat → Int} {wt dt : Nat} (hw : dt ≤ 1) (hI : pI n s) (hT : TC σ n tp) (h : CL σ s g wt dt) (h0 : s.1 = 0) (hV : sV g) : ∃ τ, FC σ τ ∧ CL τ (pEnd n tp (pB1 9 n tp (if dt = 0 then s else pFail 4 s))) (gU g 35 ((pB1 9 n tp (if dt = 0 then s else pFail 4 s)).2.2.2.2)) wt 1 ∧ fX5_takeDamp σ 5 = some τ := by
  obtain ⟨hN, h7, h8⟩ := h.2 h0
  have body : ∀ (ρ : rp_S) (q : pS), pI n q → TC ρ n tp → F13 σ ρ → CS ρ q → ∃ τ, FC σ τ ∧ CL τ (pEnd n tp (pB1 9 n tp q)) (gU g 35 ((pB1 9 n tp q).2.2.2.2)) wt 1 ∧ fX5_takeDamp_12 5 ρ = some τ := by
    intro ρ q qI qT qF qC
    obtain ⟨x1, ρ1, a1, a2, a3, a4⟩ := cNum qI (qT.u (j := 8) (x := rI 1) (by omega)) (qC.u (j := 8) (x := rI 1) (by omega)) (lo := 0) (hi := 9) (by omega) (by omega) (by omega) (by omega)
    have I1 : pI n (pB1 9 n tp q) := pB1_I qI
    have T1 : TC ρ1 n tp := (qT.u (j := 8) (x := rI 1) (by omega)).f a1
    have T2 : TC (rp_up ρ1 5 5 x1) n tp := ⟨T1.1, by rw [up_ne (by omega)]; exact T1.2.1, fun i hi => by rw [up_ne (by omega)]; exact T1.2.2 i hi⟩
    obtain ⟨ρ4, d1, d2, d3⟩ := cSign I1 T2 (CS.kept (τ := rp_up ρ1 5 5 x1) a2 (up_ne (by omega)))
    have fa : FC σ (rp_up ρ 13 8 (rI 1)) := ⟨fun b h1 h2 h3 h4 => by rw [up_ne h4]; exact qF.1 b h4, by rw [up_nj (by omega)]; exact qF.2 1 (by omega) (by omega) (by omega) (by omega) (by omega)⟩
    have fb : FC ρ1 (rp_up ρ1 5 5 x1) := ⟨fun b h1 _ _ _ => up_ne h1, by rw [up_ne (by omega)]⟩
    unfold fX5_takeDamp_12
    simp only [ob, a4, d3]
    refine ⟨ρ4, ((fa.tr a1.c).tr fb).tr d1.c, ⟨d2, fun z => ?_⟩, rfl⟩
    have z1 : (pB1 9 n tp q).1 = 0 := end_0 z
    have y1 : x1 = rI (pB1 9 n tp q).2.2.2.2 := a3 z1
    have N1 : NT ρ1 5 g := (hN.f13 qF).kept (by rw [a1.1 5 (by omega), up_ne (by omega)]) (by rw [a1.1 6 (by omega), up_ne (by omega)]) (by rw [a1.1 7 (by omega), up_ne (by omega)])
    have N2 := N1.setD hV ((pB1 9 n tp q).2.2.2.2)
    rw [← y1] at N2
    refine ⟨N2.f13 d1, ?_, ?_⟩
    · rw [d1.2 7 (by omega) (by omega) (by omega) (by omega) (by omega), up_ne (by omega), a1.2 7 (by omega) (by omega) (by omega) (by omega) (by omega), up_nj (by omega), qF.2 7 (by omega) (by omega) (by omega) (by omega) (by omega)]; exact h7
    · rw [d1.2 8 (by omega) (by omega) (by omega) (by omega) (by omega), up_ne (by omega), a1.2 8 (by omega) (by omega) (by omega) (by omega) (by omega), up_eq]; rfl
  unfold fX5_takeDamp
  rw [h8]
  by_cases z : dt = 0
  · simp only [if_pos z]
    rw [if_pos (by rw [rI_eq0 (by omega) (by omega)]; omega)]
    exact body σ s hI hT (F13.rf σ) h.1
  · simp only [if_neg z]
    rw [if_neg (by rw [rI_eq0 (by omega) (by omega)]; omega)]
    obtain ⟨υ, u1, u2, u3⟩ := cBlame h.1 (c := 4) hI.2.2.2.1 (by omega)
    have u3' : fX5_blame σ (rI 4) = some υ := u3
    rw [u3', ob]
    exact body υ _ (pFail_I (by omega) (by omega) hI) (hT.f u1) u1 u2
end CLN
