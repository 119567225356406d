/-! text: the tape's tokens, as numbers: fault, kind, place, what is behind, value -/
abbrev pS : Type := Nat × Nat × Nat × Nat × Int
def scn (Q : Nat → Bool) : Nat → Nat → Nat
  | 0, b => b
  | k + 1, b => if Q b = true then scn Q k (b + 1) else b
def qR (n : Nat) (tp : Nat → Nat) (lo hi : Nat) (i : Nat) : Bool := decide (i < n ∧ lo ≤ tp i ∧ tp i ≤ hi)
def pV (tp : Nat → Nat) (p : Nat) : Nat → Int
  | 0 => 0
  | k + 1 => 10 * pV tp p k + (tp (p + k) : Int) - 48
def pTk (n : Nat) (tp : Nat → Nat) (p : Nat) : pS :=
  if p < n then
    (if 97 ≤ tp p ∧ tp p ≤ 122 then (0, 1, p, scn (qR n tp 97 122) (n - p) p, 0)
     else if 48 ≤ tp p ∧ tp p ≤ 57 then
       (if scn (qR n tp 48 57) (n - p) p - p ≤ 2 then (0, 2, p, scn (qR n tp 48 57) (n - p) p, pV tp p (scn (qR n tp 48 57) (n - p) p - p)) else (1, 2, p, scn (qR n tp 48 57) (n - p) p, 0))
     else if tp p = 59 then (0, 3, p, p + 1, 0) else (1, 3, p, p + 1, 0))
  else (0, 0, p, p, 0)
def pTok (n : Nat) (tp : Nat → Nat) (s : pS) : pS := if s.1 = 0 then pTk n tp (scn (qR n tp 32 32) (n - s.2.2.2.1) s.2.2.2.1) else s
def pFail (c : Nat) (s : pS) : pS := if s.1 = 0 then (c, s.2) else s
def pNum (lo hi : Int) (s : pS) : pS := if s.2.1 = 2 then (if lo ≤ s.2.2.2.2 ∧ s.2.2.2.2 ≤ hi then s else pFail 3 s) else pFail 2 s
def pSign (s : pS) : pS := if s.2.1 = 3 then s else pFail 2 s
theorem scn_ge (Q : Nat → Bool) : ∀ k b : Nat, b ≤ scn Q k b ∧ scn Q k b ≤ b + k := by
  intro k
  induction k with
  | zero => intro b; rw [scn]; omega
  | succ k ih =>
    intro b
    have := ih (b + 1)
    rw [scn]; split <;> omega
theorem scn_in (Q : Nat → Bool) : ∀ k b i : Nat, b ≤ i → i < scn Q k b → Q i = true := by
  intro k
  induction k with
  | zero => intro b i h1 h2; rw [scn] at h2; omega
  | succ k ih =>
    intro b i h1 h2
    rw [scn] at h2
    by_cases z : Q b = true
    · rw [if_pos z] at h2
      by_cases e : i = b
      · rw [e]; exact z
      · exact ih (b + 1) i (by omega) h2
    · rw [if_neg z] at h2; omega
theorem scn_out (Q : Nat → Bool) : ∀ k b : Nat, scn Q k b < b + k → ¬ Q (scn Q k b) = true := by
  intro k
  induction k with
  | zero => intro b h; rw [scn] at h; omega
  | succ k ih =>
    intro b h
    rw [scn] at h ⊢
    by_cases z : Q b = true
    · rw [if_pos z] at h ⊢
      exact ih (b + 1) (by omega)
    · rw [if_neg z]; exact z
theorem qR_iff {n : Nat} {tp : Nat → Nat} {lo hi i : Nat} : qR n tp lo hi i = true ↔ i < n ∧ lo ≤ tp i ∧ tp i ≤ hi := by
  unfold qR; exact decide_eq_true_iff
/-- what holds of a token -/
def pI (n : Nat) (s : pS) : Prop := s.2.2.1 ≤ n ∧ s.2.2.2.1 ≤ n ∧ s.2.2.1 ≤ s.2.2.2.1 ∧ s.1 ≤ 5 ∧ s.2.1 ≤ 3 ∧ (s.2.1 ≠ 0 → s.2.2.1 < s.2.2.2.1) ∧ (s.1 = 0 → s.2.1 = 2 → 0 ≤ s.2.2.2.2 ∧ s.2.2.2.2 ≤ 99)
theorem pV_b {n : Nat} {tp : Nat → Nat} {p : Nat} : ∀ k : Nat, k ≤ 2 → (∀ i, p ≤ i → i < p + k → qR n tp 48 57 i = true) → 0 ≤ pV tp p k ∧ pV tp p k ≤ 99 := by
  intro k hk h
  have d : ∀ i, i < k → 48 ≤ tp (p + i) ∧ tp (p + i) ≤ 57 := fun i hi => (qR_iff.mp (h (p + i) (by omega) (by omega))).2
  have hk2 : k = 0 ∨ k = 1 ∨ k = 2 := by omega
  rcases hk2 with rfl | rfl | rfl
  · rw [pV]; omega
  · have := d 0 (by omega)
    rw [pV, pV]; omega
  · have d0 := d 0 (by omega)
    have d1 := d 1 (by omega)
    rw [pV, pV, pV]; omega
theorem pTk_I {n : Nat} {tp : Nat → Nat} {p : Nat} (h : p ≤ n) : pI n (pTk n tp p) ∧ (pTk n tp p).2.2.1 = p := by
  unfold pTk
  by_cases z : p < n
  · rw [if_pos z]
    by_cases z1 : 97 ≤ tp p ∧ tp p ≤ 122
    · rw [if_pos z1]
      have a := scn_ge (qR n tp 97 122) (n - p) p
      have b := scn_out (qR n tp 97 122) (n - p) p
      have c : scn (qR n tp 97 122) (n - p) p ≠ p := fun y => by
        rw [y] at b; exact b (by omega) (qR_iff.mpr ⟨z, z1⟩)
      refine ⟨⟨?_, ?_, ?_, ?_, ?_, ?_, ?_⟩, rfl⟩
      · exact h
      · show scn (qR n tp 97 122) (n - p) p ≤ n; omega
      · exact a.1
      · show 0 ≤ 5; omega
      · show 1 ≤ 3; omega
      · intro _; show p < scn (qR n tp 97 122) (n - p) p; omega
      · intro _ y; exact absurd y (by show ¬ (1 = 2); omega)
    · rw [if_neg z1]
      by_cases z2 : 48 ≤ tp p ∧ tp p ≤ 57
      · rw [if_pos z2]
        have a := scn_ge (qR n tp 48 57) (n - p) p
        have b := scn_out (qR n tp 48 57) (n - p) p
        have i := scn_in (qR n tp 48 57) (n - p) p
        have c : scn (qR n tp 48 57) (n - p) p ≠ p := fun y => by
          rw [y] at b; exact b (by omega) (qR_iff.mpr ⟨z, z2⟩)
        obtain ⟨e, he⟩ : ∃ e, e = scn (qR n tp 48 57) (n - p) p := ⟨_, rfl⟩
        rw [← he] at a b c i ⊢
        by_cases z3 : e - p ≤ 2
        · rw [if_pos z3]
          have v := pV_b (n := n) (tp := tp) (p := p) (e - p) z3 (fun j h1 h2 => i j h1 (by omega))
          refine ⟨⟨?_, ?_, ?_, ?_, ?_, ?_, ?_⟩, rfl⟩
          · exact h
          · show e ≤ n; omega
          · exact a.1
          · show 0 ≤ 5; omega
          · show 2 ≤ 3; omega
          · intro _; show p < e; omega
          · intro _ _; exact v
        · rw [if_neg z3]
          refine ⟨⟨?_, ?_, ?_, ?_, ?_, ?_, ?_⟩, rfl⟩
          · exact h
          · show e ≤ n; omega
          · exact a.1
          · show 1 ≤ 5; omega
          · show 2 ≤ 3; omega
          · intro _; show p < e; omega
          · intro y; exact absurd y (by show ¬ (1 = 0); omega)
      · rw [if_neg z2]
        by_cases z3 : tp p = 59
        · rw [if_pos z3]
          refine ⟨⟨?_, ?_, ?_, ?_, ?_, ?_, ?_⟩, rfl⟩
          · exact h
          · show p + 1 ≤ n; omega
          · show p ≤ p + 1; omega
          · show 0 ≤ 5; omega
          · show 3 ≤ 3; omega
          · intro _; show p < p + 1; omega
          · intro _ y; exact absurd y (by show ¬ (3 = 2); omega)
        · rw [if_neg z3]
          refine ⟨⟨?_, ?_, ?_, ?_, ?_, ?_, ?_⟩, rfl⟩
          · exact h
          · show p + 1 ≤ n; omega
          · show p ≤ p + 1; omega
          · show 1 ≤ 5; omega
          · show 3 ≤ 3; omega
          · intro _; show p < p + 1; omega
          · intro y; exact absurd y (by show ¬ (1 = 0); omega)
  · rw [if_neg z]
    refine ⟨⟨?_, ?_, ?_, ?_, ?_, ?_, ?_⟩, rfl⟩
    · exact h
    · exact h
    · show p ≤ p; omega
    · show 0 ≤ 5; omega
    · show 0 ≤ 3; omega
    · intro y; exact absurd rfl y
    · intro _ y; exact absurd y (by show ¬ (0 = 2); omega)
theorem pFail_I {n c : Nat} {s : pS} (hc : 1 ≤ c) (hc5 : c ≤ 5) (h : pI n s) : pI n (pFail c s) := by
  unfold pFail
  by_cases z : s.1 = 0
  · rw [if_pos z]
    obtain ⟨a1, a2, a3, a4, a5, a6, a7⟩ := h
    exact ⟨a1, a2, a3, hc5, a5, a6, fun y => absurd y (by show ¬ (c = 0); omega)⟩
  · rw [if_neg z]; exact h
theorem pNum_I {n : Nat} {lo hi : Int} {s : pS} (h : pI n s) : pI n (pNum lo hi s) := by
  unfold pNum
  by_cases z : s.2.1 = 2
  · rw [if_pos z]
    by_cases z2 : lo ≤ s.2.2.2.2 ∧ s.2.2.2.2 ≤ hi
    · rw [if_pos z2]; exact h
    · rw [if_neg z2]; exact pFail_I (by omega) (by omega) h
  · rw [if_neg z]; exact pFail_I (by omega) (by omega) h
theorem pSign_I {n : Nat} {s : pS} (h : pI n s) : pI n (pSign s) := by
  unfold pSign
  by_cases z : s.2.1 = 3
  · rw [if_pos z]; exact h
  · rw [if_neg z]; exact pFail_I (by omega) (by omega) h
theorem pTok_I {n : Nat} {tp : Nat → Nat} {s : pS} (h : pI n s) : pI n (pTok n tp s) := by
  unfold pTok
  by_cases z : s.1 = 0
  · rw [if_pos z]
    have a := scn_ge (qR n tp 32 32) (n - s.2.2.2.1) s.2.2.2.1
    have := h.2.1
    exact (pTk_I (by omega)).1
  · rw [if_neg z]; exact h
theorem pTok_p {n : Nat} {tp : Nat → Nat} {s : pS} (h : pI n s) (z : s.1 = 0) : s.2.2.2.1 ≤ (pTok n tp s).2.2.1 := by
  unfold pTok
  rw [if_pos z]
  have a := scn_ge (qR n tp 32 32) (n - s.2.2.2.1) s.2.2.2.1
  have := h.2.1
  rw [(pTk_I (by omega)).2]
  exact a.1
theorem pFail_f {c : Nat} {s : pS} (hc : 1 ≤ c) : (pFail c s).1 ≠ 0 := by
  unfold pFail
  by_cases z : s.1 = 0
  · rw [if_pos z]; show c ≠ 0; omega
  · rw [if_neg z]; exact z
theorem pFail_z {c : Nat} {s : pS} (h : s.1 ≠ 0) : pFail c s = s := by unfold pFail; rw [if_neg h]
theorem pNum_z {lo hi : Int} {s : pS} (h : s.1 ≠ 0) : pNum lo hi s = s := by
  unfold pNum; rw [pFail_z h, pFail_z h]; split <;> (try split) <;> rfl
theorem pSign_z {s : pS} (h : s.1 ≠ 0) : pSign s = s := by
  unfold pSign; rw [pFail_z h]; split <;> rfl
theorem pTok_z {n : Nat} {tp : Nat → Nat} {s : pS} (h : s.1 ≠ 0) : pTok n tp s = s := by
  unfold pTok; rw [if_neg h]
theorem pNum_0 {lo hi : Int} {s : pS} (h : (pNum lo hi s).1 = 0) : pNum lo hi s = s ∧ s.1 = 0 ∧ s.2.1 = 2 ∧ lo ≤ s.2.2.2.2 ∧ s.2.2.2.2 ≤ hi := by
  unfold pNum at h ⊢
  by_cases z : s.2.1 = 2
  · rw [if_pos z] at h ⊢
    by_cases z2 : lo ≤ s.2.2.2.2 ∧ s.2.2.2.2 ≤ hi
    · rw [if_pos z2] at h ⊢; exact ⟨rfl, h, z, z2⟩
    · rw [if_neg z2] at h; exact absurd h (pFail_f (by omega))
  · rw [if_neg z] at h; exact absurd h (pFail_f (by omega))
theorem pSign_0 {s : pS} (h : (pSign s).1 = 0) : pSign s = s ∧ s.1 = 0 := by
  unfold pSign at h ⊢
  by_cases z : s.2.1 = 3
  · rw [if_pos z] at h ⊢; exact ⟨rfl, h⟩
  · rw [if_neg z] at h; exact absurd h (pFail_f (by omega))
theorem pTok_0 {n : Nat} {tp : Nat → Nat} {s : pS} (h : (pTok n tp s).1 = 0) : s.1 = 0 := by
  by_cases z : s.1 = 0
  · exact z
  · rw [pTok_z z] at h; exact absurd h z
/-! the class's tokens -/
def TC (σ : rp_S) (n : Nat) (tp : Nat → Nat) : Prop := n ≤ 160 ∧ σ 13 1 = rI n ∧ ∀ i : Nat, i < n → tp i < 128 ∧ σ 14 i = rI (tp i)
def F13 (σ τ : rp_S) : Prop := (∀ b : Nat, b ≠ 13 → τ b = σ b) ∧ ∀ j : Nat, j ≠ 2 → j ≠ 3 → j ≠ 4 → j ≠ 5 → j ≠ 6 → τ 13 j = σ 13 j
theorem F13.rf (σ : rp_S) : F13 σ σ := ⟨fun _ _ => rfl, fun _ _ _ _ _ _ => rfl⟩
theorem F13.tr {σ τ ρ : rp_S} (h : F13 σ τ) (k : F13 τ ρ) : F13 σ ρ := ⟨fun b hb => (k.1 b hb).trans (h.1 b hb), fun j h2 h3 h4 h5 h6 => (k.2 j h2 h3 h4 h5 h6).trans (h.2 j h2 h3 h4 h5 h6)⟩
theorem F13.up {σ τ : rp_S} {j : Nat} {x : Int32} (h : F13 σ τ) (h1 : 2 ≤ j) (h2 : j ≤ 6) : F13 σ (rp_up τ 13 j x) := ⟨fun b hb => by rw [up_ne hb]; exact h.1 b hb, fun i h2 h3 h4 h5 h6 => by rw [up_nj (by omega)]; exact h.2 i h2 h3 h4 h5 h6⟩
theorem TC.f {σ τ : rp_S} {n : Nat} {tp : Nat → Nat} (h : TC σ n tp) (k : F13 σ τ) : TC τ n tp := ⟨h.1, by rw [k.2 1 (by omega) (by omega) (by omega) (by omega) (by omega)]; exact h.2.1, fun i hi => by rw [k.1 14 (by omega)]; exact h.2.2 i hi⟩
theorem TC.rd {σ : rp_S} {n : Nat} {tp : Nat → Nat} (h : TC σ n tp) {i : Nat} (hi : i < n) : rq_rd σ 14 160 (rI (i : Int)) = some (rI (tp i)) := by
  have := h.1
  rw [rd_n (by omega) (by omega), (h.2.2 i hi).2]
def CS (σ : rp_S) (s : pS) : Prop := σ 13 2 = rI (s.1 : Int) ∧ σ 13 4 = rI (s.2.2.1 : Int) ∧ (s.1 = 0 → σ 13 3 = rI (s.2.1 : Int) ∧ σ 13 5 = rI (s.2.2.2.1 : Int) ∧ (s.2.1 = 2 → σ 13 6 = rI s.2.2.2.2))
theorem cLet {c : Nat} (h : c < 128) : fX5_isLetter (rI (c : Int)) = some (if 97 ≤ c ∧ c ≤ 122 then rI 1 else rI 0) := by
  unfold fX5_isLetter
  simp (disch := omega) only [rI_lt]
  by_cases z : (c : Int) < 97
  · rw [if_pos z, if_neg (by omega)]
  · rw [if_neg z]
    by_cases z2 : (122 : Int) < c
    · rw [if_pos z2, if_neg (by omega)]
    · rw [if_neg z2, if_pos (by omega)]
theorem cFig {c : Nat} (h : c < 128) : fX5_isFigure (rI (c : Int)) = some (if 48 ≤ c ∧ c ≤ 57 then rI 1 else rI 0) := by
  unfold fX5_isFigure
  simp (disch := omega) only [rI_lt]
  by_cases z : (c : Int) < 48
  · rw [if_pos z, if_neg (by omega)]
  · rw [if_neg z]
    by_cases z2 : (57 : Int) < c
    · rw [if_pos z2, if_neg (by omega)]
    · rw [if_neg z2, if_pos (by omega)]
theorem cBlame {σ : rp_S} {s : pS} (h : CS σ s) {c : Nat} (hs : s.1 ≤ 5) (hc : 1 ≤ c) : ∃ τ, F13 σ τ ∧ CS τ (pFail c s) ∧ fX5_blame σ (rI (c : Int)) = some τ := by
  obtain ⟨a, b, d⟩ := id h
  unfold fX5_blame pFail
  rw [a]
  by_cases z : s.1 = 0
  · rw [if_pos z, if_pos (by rw [rI_eq0 (by omega) (by omega)]; omega)]
    refine ⟨rp_up σ 13 2 (rI (c : Int)), (F13.rf σ).up (by omega) (by omega), ⟨?_, ?_, ?_⟩, rfl⟩
    · rw [up_eq]
    · rw [up_nj (by omega)]; exact b
    · intro y; exact absurd y (by show ¬ (c = 0); omega)
  · rw [if_neg z, if_neg (by rw [rI_eq0 (by omega) (by omega)]; omega)]
    exact ⟨σ, F13.rf σ, h, rfl⟩
section CTK
variable {n : Nat} {tp : Nat → Nat}
theorem cLetters_run : ∀ (k b f : Nat) (σ : rp_S), k < f → b + k = n → TC σ n tp → σ 13 5 = rI (b : Int) → ∃ τ, F13 σ τ ∧ τ 13 5 = rI (scn (qR n tp 97 122) k b : Nat) ∧ (∀ j, j ≠ 5 → τ 13 j = σ 13 j) ∧ fX5_takeToken_93 f σ = some τ := by
  intro k
  induction k with
  | zero =>
    intro b f σ hf hb hT h5
    obtain ⟨f, rfl⟩ : ∃ q, f = q + 1 := ⟨f - 1, by omega⟩
    have := hT.1
    refine ⟨σ, F13.rf σ, h5, fun _ _ => rfl, ?_⟩
    rw [fX5_takeToken_93, hT.2.1, h5, if_pos (by rw [rI_le (by omega) (by omega) (by omega) (by omega)]; omega)]
  | succ k ih =>
    intro b f σ hf hb hT h5
    obtain ⟨f, rfl⟩ : ∃ q, f = q + 1 := ⟨f - 1, by omega⟩
    have := hT.1
    have hc := (hT.2.2 b (by omega)).1
    rw [fX5_takeToken_93, hT.2.1, h5, if_neg (by rw [rI_le (by omega) (by omega) (by omega) (by omega)]; omega), hT.rd (by omega), ob, cLet hc, ob, scn]
    simp only [rb_0]
    by_cases z : 97 ≤ tp b ∧ tp b ≤ 122
    · rw [if_pos (show qR n tp 97 122 b = true from qR_iff.mpr ⟨by omega, z⟩), if_neg (fun y => y z), ob, iI_s]
      have kf : F13 σ (rp_up σ 13 5 (rI ((b + 1 : Nat) : Int))) := (F13.rf σ).up (by omega) (by omega)
      obtain ⟨τ, t1, t2, t3, t4⟩ := ih (b + 1) f _ (by omega) (by omega) (hT.f kf) up_eq
      exact ⟨τ, kf.tr t1, t2, fun j hj => by rw [t3 j hj, up_nj hj], t4⟩
    · rw [if_neg (show ¬ qR n tp 97 122 b = true from fun y => z (qR_iff.mp y).2), if_pos z]
      exact ⟨σ, F13.rf σ, h5, fun _ _ => rfl, rfl⟩
theorem cFig_run : ∀ (k p q f : Nat) (σ : rp_S), k < f → p + q + k = n → TC σ n tp → σ 13 5 = rI ((p + q : Nat) : Int) → σ 13 6 = rI (pV tp p q) → ∃ τ, F13 σ τ ∧ τ 13 5 = rI (scn (qR n tp 48 57) k (p + q) : Nat) ∧ τ 13 6 = rI (pV tp p (scn (qR n tp 48 57) k (p + q) - p)) ∧ (∀ j, j ≠ 5 → j ≠ 6 → τ 13 j = σ 13 j) ∧ fX5_takeToken_157 f σ = fX5_takeToken_220 τ := by
  intro k
  induction k with
  | zero =>
    intro p q f σ hf hb hT h5 h6
    obtain ⟨f, rfl⟩ : ∃ q, f = q + 1 := ⟨f - 1, by omega⟩
    have := hT.1
    refine ⟨σ, F13.rf σ, h5, ?_, fun _ _ _ => rfl, ?_⟩
    · rw [scn, h6, Nat.add_sub_cancel_left]
    · rw [fX5_takeToken_157, hT.2.1, h5, if_pos (by rw [rI_le (by omega) (by omega) (by omega) (by omega)]; omega)]
  | succ k ih =>
    intro p q f σ hf hb hT h5 h6
    obtain ⟨f, rfl⟩ : ∃ q, f = q + 1 := ⟨f - 1, by omega⟩
    have := hT.1
    have hc := (hT.2.2 (p + q) (by omega)).1
    rw [fX5_takeToken_157, hT.2.1, h5, if_neg (by rw [rI_le (by omega) (by omega) (by omega) (by omega)]; omega), hT.rd (by omega), ob, cFig hc, ob, scn]
    simp only [rb_0]
    by_cases z : 48 ≤ tp (p + q) ∧ tp (p + q) ≤ 57
    · simp only [if_pos (show qR n tp 48 57 (p + q) = true from qR_iff.mpr ⟨by omega, z⟩)]
      rw [if_neg (fun y => y z), ob, ob, ob, up_nj (by omega), h5, iI_s, h6, rI_mul, rI_add, rI_sub]
      have kf : F13 σ (rp_up (rp_up σ 13 6 (rI (10 * pV tp p q + (tp (p + q) : Int) - 48))) 13 5 (rI ((p + q + 1 : Nat) : Int))) := ((F13.rf σ).up (by omega) (by omega)).up (by omega) (by omega)
      obtain ⟨τ, t1, t2, t2', t3, t4⟩ := ih p (q + 1) f _ (by omega) (by omega) (hT.f kf) up_eq (by rw [up_nj (by omega), up_eq, pV])
      exact ⟨τ, kf.tr t1, t2, t2', fun j hj hj6 => by rw [t3 j hj hj6, up_nj hj, up_nj hj6], t4⟩
    · simp only [if_neg (show ¬ qR n tp 48 57 (p + q) = true from fun y => z (qR_iff.mp y).2)]
      rw [if_pos z]
      exact ⟨σ, F13.rf σ, h5, by rw [h6, Nat.add_sub_cancel_left], fun _ _ _ => rfl, rfl⟩
theorem cSkip_run : ∀ (k b f : Nat) (σ : rp_S), k < f → b + k = n → TC σ n tp → σ 13 5 = rI (b : Int) → ∃ τ, F13 σ τ ∧ τ 13 5 = rI (scn (qR n tp 32 32) k b : Nat) ∧ (∀ j, j ≠ 5 → τ 13 j = σ 13 j) ∧ fX5_takeToken_8 f σ = fX5_takeToken_46 τ := by
  intro k
  induction k with
  | zero =>
    intro b f σ hf hb hT h5
    obtain ⟨f, rfl⟩ : ∃ q, f = q + 1 := ⟨f - 1, by omega⟩
    have := hT.1
    refine ⟨σ, F13.rf σ, h5, fun _ _ => rfl, ?_⟩
    rw [fX5_takeToken_8, hT.2.1, h5, if_pos (by rw [rI_le (by omega) (by omega) (by omega) (by omega)]; omega)]
  | succ k ih =>
    intro b f σ hf hb hT h5
    obtain ⟨f, rfl⟩ : ∃ q, f = q + 1 := ⟨f - 1, by omega⟩
    have := hT.1
    have hc := (hT.2.2 b (by omega)).1
    rw [fX5_takeToken_8, hT.2.1, h5, if_neg (by rw [rI_le (by omega) (by omega) (by omega) (by omega)]; omega), hT.rd (by omega), ob, scn]
    simp only [rI_eq (a := (tp b : Int)) (b := 32) (by omega) (by omega) (by omega) (by omega)]
    by_cases z : (tp b : Int) = 32
    · rw [if_pos (show qR n tp 32 32 b = true from qR_iff.mpr ⟨by omega, by omega, by omega⟩), if_pos z, ob, iI_s]
      have kf : F13 σ (rp_up σ 13 5 (rI ((b + 1 : Nat) : Int))) := (F13.rf σ).up (by omega) (by omega)
      obtain ⟨τ, t1, t2, t3, t4⟩ := ih (b + 1) f _ (by omega) (by omega) (hT.f kf) up_eq
      exact ⟨τ, kf.tr t1, t2, fun j hj => by rw [t3 j hj, up_nj hj], t4⟩
    · rw [if_neg (show ¬ qR n tp 32 32 b = true from fun y => z (by have := (qR_iff.mp y).2; omega)), if_neg z]
      exact ⟨σ, F13.rf σ, h5, fun _ _ => rfl, rfl⟩
theorem cTok46 {σ : rp_S} {p : Nat} (hp : p ≤ n) (hT : TC σ n tp) (h5 : σ 13 5 = rI (p : Int)) (h2 : σ 13 2 = rI 0) : ∃ τ, F13 σ τ ∧ CS τ (pTk n tp p) ∧ fX5_takeToken_46 σ = some τ := by
  have hn := hT.1
  obtain ⟨ρ, hρ⟩ : ∃ ρ, ρ = rp_up σ 13 4 (rI (p : Int)) := ⟨_, rfl⟩
  have f1 : F13 σ ρ := by rw [hρ]; exact (F13.rf σ).up (by omega) (by omega)
  have r4 : ρ 13 4 = rI (p : Int) := by rw [hρ, up_eq]
  have r5 : ρ 13 5 = rI (p : Int) := by rw [hρ, up_nj (by omega)]; exact h5
  have r2 : ρ 13 2 = rI 0 := by rw [hρ, up_nj (by omega)]; exact h2
  have T1 := hT.f f1
  unfold fX5_takeToken_46 pTk
  rw [ob, h5, ← hρ, r4, T1.2.1]
  by_cases z : p < n
  · have hc := (hT.2.2 p z).1
    rw [if_pos z, if_pos (show rI (p : Int) < rI (n : Int) from by rw [rI_lt (by omega) (by omega) (by omega) (by omega)]; omega)]
    simp only [T1.rd z, ob, cLet hc, cFig hc, rb_0]
    by_cases z1 : 97 ≤ tp p ∧ tp p ≤ 122
    · rw [if_pos z1, if_neg (fun y => y z1)]
      have f2 : F13 ρ (rp_up ρ 13 3 (rI 1)) := (F13.rf ρ).up (by omega) (by omega)
      obtain ⟨τ, t1, t2, t3, t4⟩ := cLetters_run (n := n) (tp := tp) (n - p) p 1000 _ (by omega) (by omega) (T1.f f2) (by rw [up_nj (by omega)]; exact r5)
      refine ⟨τ, (f1.tr f2).tr t1, ⟨?_, ?_, fun _ => ⟨?_, t2, fun y => absurd y (by show ¬ (1 = 2); omega)⟩⟩, t4⟩
      · rw [t3 2 (by omega), up_nj (by omega)]; exact r2
      · rw [t3 4 (by omega), up_nj (by omega)]; exact r4
      · rw [t3 3 (by omega), up_eq]; rfl
    · rw [if_neg z1, if_pos z1]
      by_cases z2 : 48 ≤ tp p ∧ tp p ≤ 57
      · rw [if_pos z2, if_neg (show ¬ ¬ (48 ≤ tp p ∧ tp p ≤ 57) from fun y => y z2)]
        have f2 : F13 ρ (rp_up (rp_up ρ 13 3 (rI 2)) 13 6 (rI 0)) := ((F13.rf ρ).up (by omega) (by omega)).up (by omega) (by omega)
        obtain ⟨τ, t1, t2, t2', t3, t4⟩ := cFig_run (n := n) (tp := tp) (n - p) p 0 1000 _ (by omega) (by omega) (T1.f f2) (by rw [up_nj (by omega), up_nj (by omega)]; exact r5) (by rw [up_eq]; rfl)
        have e4 : τ 13 4 = rI (p : Int) := by rw [t3 4 (by omega) (by omega), up_nj (by omega), up_nj (by omega)]; exact r4
        have e2 : τ 13 2 = rI 0 := by rw [t3 2 (by omega) (by omega), up_nj (by omega), up_nj (by omega)]; exact r2
        have e3 : τ 13 3 = rI 2 := by rw [t3 3 (by omega) (by omega), up_nj (by omega), up_eq]
        have a := scn_ge (qR n tp 48 57) (n - p) p
        rw [Nat.add_zero] at t2 t2'
        rw [t4]
        unfold fX5_takeToken_220
        rw [t2, e4, rI_sub]
        by_cases z3 : scn (qR n tp 48 57) (n - p) p - p ≤ 2
        · rw [if_pos z3, if_pos (by rw [rI_le (by omega) (by omega) (by omega) (by omega)]; omega)]
          exact ⟨τ, (f1.tr f2).tr t1, ⟨e2, e4, fun _ => ⟨e3, t2, fun _ => t2'⟩⟩, rfl⟩
        · rw [if_neg z3, if_neg (by rw [rI_le (by omega) (by omega) (by omega) (by omega)]; omega)]
          have hq : CS τ (0, 2, p, scn (qR n tp 48 57) (n - p) p, pV tp p (scn (qR n tp 48 57) (n - p) p - p)) := ⟨e2, e4, fun _ => ⟨e3, t2, fun _ => t2'⟩⟩
          obtain ⟨υ, u1, u2, u3⟩ := cBlame hq (c := 1) (by show 0 ≤ 5; omega) (by omega)
          have u3' : fX5_blame τ (rI 1) = some υ := u3
          rw [u3', ob]
          exact ⟨υ, ((f1.tr f2).tr t1).tr u1, ⟨u2.1, u2.2.1, fun y => absurd y (by show ¬ (1 = 0); omega)⟩, rfl⟩
      · rw [if_neg z2, if_pos z2]
        by_cases z3 : tp p = 59
        · rw [if_pos z3, if_pos (by rw [rI_eq (by omega) (by omega) (by omega) (by omega)]; omega), up_nj (by omega), r5, iI_s]
          refine ⟨_, (f1.up (by omega) (by omega)).up (by omega) (by omega), ⟨?_, ?_, fun _ => ⟨?_, ?_, fun y => absurd y (by show ¬ (3 = 2); omega)⟩⟩, rfl⟩
          · rw [up_nj (by omega), up_nj (by omega)]; exact r2
          · rw [up_nj (by omega), up_nj (by omega)]; exact r4
          · rw [up_nj (by omega), up_eq]; rfl
          · rw [up_eq]
        · rw [if_neg z3, if_neg (by rw [rI_eq (by omega) (by omega) (by omega) (by omega)]; omega)]
          unfold fX5_blame
          rw [r2, if_pos (by decide), ob, ob]
          refine ⟨_, f1.up (by omega) (by omega), ⟨?_, ?_, fun y => absurd y (by show ¬ (1 = 0); omega)⟩, rfl⟩
          · rw [up_eq]; rfl
          · rw [up_nj (by omega)]; exact r4
  · rw [if_neg z, if_neg (show ¬ rI (p : Int) < rI (n : Int) from by rw [rI_lt (by omega) (by omega) (by omega) (by omega)]; omega), ob]
    refine ⟨_, f1.up (by omega) (by omega), ⟨?_, ?_, fun _ => ⟨?_, ?_, fun y => absurd y (by show ¬ (0 = 2); omega)⟩⟩, rfl⟩
    · rw [up_nj (by omega)]; exact r2
    · rw [up_nj (by omega)]; exact r4
    · rw [up_eq]; rfl
    · rw [up_nj (by omega)]; exact r5
theorem cTok0 {σ : rp_S} {b : Nat} (hb : b ≤ n) (hT : TC σ n tp) (h5 : σ 13 5 = rI (b : Int)) (h2 : σ 13 2 = rI 0) : ∃ τ, F13 σ τ ∧ CS τ (pTk n tp (scn (qR n tp 32 32) (n - b) b)) ∧ fX5_takeToken σ = some τ := by
  have hn := hT.1
  obtain ⟨τ, t1, t2, t3, t4⟩ := cSkip_run (n := n) (tp := tp) (n - b) b 1000 σ (by omega) (by omega) hT h5
  have a := scn_ge (qR n tp 32 32) (n - b) b
  obtain ⟨ρ, u1, u2, u3⟩ := cTok46 (p := scn (qR n tp 32 32) (n - b) b) (by omega) (hT.f t1) t2 (by rw [t3 2 (by omega)]; exact h2)
  refine ⟨ρ, t1.tr u1, u2, ?_⟩
  unfold fX5_takeToken
  rw [h2, if_pos (by decide), t4, u3]
theorem cTok {σ : rp_S} {s : pS} (hI : pI n s) (hT : TC σ n tp) (h : CS σ s) : ∃ τ, F13 σ τ ∧ CS τ (pTok n tp s) ∧ fX5_takeToken σ = some τ := by
  by_cases z : s.1 = 0
  · unfold pTok
    rw [if_pos z]
    exact cTok0 hI.2.1 hT (h.2.2 z).2.1 (by rw [h.1, z]; rfl)
  · rw [pTok_z z]
    refine ⟨σ, F13.rf σ, h, ?_⟩
    have := hI.2.2.2.1
    unfold fX5_takeToken
    rw [h.1, if_neg (by rw [rI_eq0 (by omega) (by omega)]; omega)]
theorem cNum {σ : rp_S} {s : pS} (hI : pI n s) (hT : TC σ n tp) (h : CS σ s) {lo hi : Int} (hlo : 0 ≤ lo) (hlo2 : lo ≤ 1000) (hhi : 0 ≤ hi) (hhi2 : hi ≤ 1000) : ∃ (x : Int32) (τ : rp_S), F13 σ τ ∧ CS τ (pNum lo hi (pTok n tp s)) ∧ ((pNum lo hi (pTok n tp s)).1 = 0 → x = rI (pNum lo hi (pTok n tp s)).2.2.2.2) ∧ fX5_takeNumber σ (rI lo) (rI hi) = some (x, τ) := by
  obtain ⟨τ, t1, t2, t3⟩ := cTok hI hT h
  have hI2 := pTok_I (tp := tp) hI
  obtain ⟨q, hq⟩ : ∃ q, q = pTok n tp s := ⟨_, rfl⟩
  rw [← hq] at t2 hI2 ⊢
  obtain ⟨i1, i2, i3, i4, i5, i6, i7⟩ := id hI2
  unfold fX5_takeNumber fX5_takeNumber_37
  rw [t3, ob]
  by_cases z : q.1 = 0
  · obtain ⟨e3, e5, e6⟩ := t2.2.2 z
    rw [e3]
    unfold pNum
    by_cases z2 : q.2.1 = 2
    · have hv := i7 z z2
      rw [if_pos z2, if_pos (show rI (q.2.1 : Int) = rI 2 from by rw [z2]; rfl), e6 z2, within_ok, rI_toInt (by omega) (by omega), rI_toInt (by omega) (by omega), rI_toInt (by omega) (by omega), ob]
      simp only [rb_0]
      by_cases z3 : lo ≤ q.2.2.2.2 ∧ q.2.2.2.2 ≤ hi
      · rw [if_pos z3, if_neg (fun y => y z3)]
        exact ⟨_, τ, t1, t2, fun _ => rfl, rfl⟩
      · rw [if_neg z3, if_pos z3]
        obtain ⟨υ, u1, u2, u3⟩ := cBlame t2 (c := 3) i4 (by omega)
        have u3' : fX5_blame τ (rI 3) = some υ := u3
        rw [u3', ob]
        exact ⟨_, υ, t1.tr u1, u2, fun y => absurd y (pFail_f (by omega)), rfl⟩
    · rw [if_neg z2, if_neg (by rw [rI_eq (by omega) (by omega) (by omega) (by omega)]; omega)]
      obtain ⟨υ, u1, u2, u3⟩ := cBlame t2 (c := 2) i4 (by omega)
      have u3' : fX5_blame τ (rI 2) = some υ := u3
      rw [u3', ob]
      exact ⟨_, υ, t1.tr u1, u2, fun y => absurd y (pFail_f (by omega)), rfl⟩
  · have bl : ∀ c : Int32, fX5_blame τ c = some τ := fun c => by
      unfold fX5_blame
      rw [t2.1, if_neg (by rw [rI_eq0 (by omega) (by omega)]; omega)]
    rw [pNum_z z]
    simp only [bl, ob, within_ok]
    refine ⟨τ 13 6, τ, t1, t2, fun y => absurd y z, ?_⟩
    by_cases y1 : τ 13 3 = rI 2
    · rw [if_pos y1]
      split <;> rfl
    · rw [if_neg y1]
theorem cSign {σ : rp_S} {s : pS} (hI : pI n s) (hT : TC σ n tp) (h : CS σ s) : ∃ τ, F13 σ τ ∧ CS τ (pSign (pTok n tp s)) ∧ fX5_takeSign σ = some τ := by
  obtain ⟨τ, t1, t2, t3⟩ := cTok hI hT h
  have hI2 := pTok_I (tp := tp) hI
  obtain ⟨q, hq⟩ : ∃ q, q = pTok n tp s := ⟨_, rfl⟩
  rw [← hq] at t2 hI2 ⊢
  obtain ⟨i1, i2, i3, i4, i5, i6, i7⟩ := id hI2
  unfold fX5_takeSign
  rw [t3, ob]
  by_cases z : q.1 = 0
  · obtain ⟨e3, e5, e6⟩ := t2.2.2 z
    rw [e3]
    unfold pSign
    by_cases z2 : q.2.1 = 3
    · rw [if_pos z2, if_pos (by rw [rI_eq (by omega) (by omega) (by omega) (by omega)]; omega)]
      exact ⟨τ, t1, t2, rfl⟩
    · rw [if_neg z2, if_neg (by rw [rI_eq (by omega) (by omega) (by omega) (by omega)]; omega)]
      obtain ⟨υ, u1, u2, u3⟩ := cBlame t2 (c := 2) i4 (by omega)
      have u3' : fX5_blame τ (rI 2) = some υ := u3
      rw [u3', ob]
      exact ⟨υ, t1.tr u1, u2, rfl⟩
  · have bl : ∀ c : Int32, fX5_blame τ c = some τ := fun c => by
      unfold fX5_blame
      rw [t2.1, if_neg (by rw [rI_eq0 (by omega) (by omega)]; omega)]
    rw [pSign_z z, bl, ob]
    exact ⟨τ, t1, t2, by split <;> rfl⟩
end CTK
