/-! text: the reference's tokens -/
def TM (σ : rp_S) (n : Nat) (tp : Nat → Nat) : Prop := n ≤ 160 ∧ σ 28 4 = rI n ∧ ∀ i : Nat, i < n → tp i < 128 ∧ σ 31 i = rI (tp i)
def F28 (σ τ : rp_S) : Prop := (∀ b : Nat, b ≠ 28 → τ b = σ b) ∧ ∀ j : Nat, j < 6 ∨ 11 < j → τ 28 j = σ 28 j
theorem F28.rf (σ : rp_S) : F28 σ σ := ⟨fun _ _ => rfl, fun _ _ => rfl⟩
theorem F28.tr {σ τ ρ : rp_S} (h : F28 σ τ) (k : F28 τ ρ) : F28 σ ρ := ⟨fun b hb => (k.1 b hb).trans (h.1 b hb), fun j hj => (k.2 j hj).trans (h.2 j hj)⟩
theorem F28.up {σ τ : rp_S} {j : Nat} {x : Int32} (h : F28 σ τ) (h1 : 6 ≤ j) (h2 : j ≤ 11) : F28 σ (rp_up τ 28 j x) := ⟨fun b hb => by rw [up_ne hb]; exact h.1 b hb, fun i hi => by rw [up_nj (by omega)]; exact h.2 i hi⟩
theorem TM.f {σ τ : rp_S} {n : Nat} {tp : Nat → Nat} (h : TM σ n tp) (k : F28 σ τ) : TM τ n tp := ⟨h.1, by rw [k.2 4 (by omega)]; exact h.2.1, fun i hi => by rw [k.1 31 (by omega)]; exact h.2.2 i hi⟩
def tb (n : Nat) (tp : Nat → Nat) (i : Nat) : Int := if i < n then (tp i : Int) else -4
theorem TM.at {σ : rp_S} {n : Nat} {tp : Nat → Nat} (h : TM σ n tp) {i : Nat} (hi : i ≤ 1000) : fX7_byteAt σ (rI (i : Int)) = some (rI (tb n tp i)) := by
  have := h.1
  unfold fX7_byteAt tb
  rw [h.2.1]
  by_cases z : i < n
  · rw [if_neg (show ¬ rI (n : Int) ≤ rI (i : Int) from by rw [rI_le (by omega) (by omega) (by omega) (by omega)]; omega), if_pos z, rd_n (by omega) (by omega), (h.2.2 i z).2, ob]
  · rw [if_pos (show rI (n : Int) ≤ rI (i : Int) from by rw [rI_le (by omega) (by omega) (by omega) (by omega)]; omega), if_neg z]
theorem TM.b {σ : rp_S} {n : Nat} {tp : Nat → Nat} (h : TM σ n tp) (i : Nat) : -4 ≤ tb n tp i ∧ tb n tp i < 128 := by
  unfold tb
  by_cases z : i < n
  · rw [if_pos z]; have := (h.2.2 i z).1; omega
  · rw [if_neg z]; omega
theorem TM.inr {σ : rp_S} {n : Nat} {tp : Nat → Nat} (h : TM σ n tp) (i : Nat) {lo hi : Nat} (hhi : hi < 1000) (hlo : lo ≤ hi) : fX7_in (rI (tb n tp i)).toInt64 (rJ (lo : Int)) (rJ (hi : Int)) = some (if qR n tp lo hi i = true then rI 1 else rI 0) := by
  have hb := h.b i
  rw [inI_ok _ (by omega) (by omega) (by omega) (by omega), rI_toInt (by omega) (by omega)]
  by_cases z : qR n tp lo hi i = true
  · have := qR_iff.mp z
    rw [if_pos z, if_pos]
    unfold tb
    rw [if_pos this.1]; omega
  · rw [if_neg z, if_neg]
    intro y
    unfold tb at y
    by_cases z2 : i < n
    · rw [if_pos z2] at y; exact z (qR_iff.mpr ⟨z2, by omega, by omega⟩)
    · rw [if_neg z2] at y; omega
def MS (σ : rp_S) (s : pS) : Prop := σ 28 6 = rI (s.1 : Int) ∧ (s.1 ≠ 0 → σ 28 7 = rI (s.2.2.1 : Int)) ∧ (s.1 = 0 → σ 28 10 = rI (s.2.1 : Int) ∧ σ 28 9 = rI (s.2.2.1 : Int) ∧ σ 28 8 = rI (s.2.2.2.1 : Int) ∧ (s.2.1 = 2 → σ 28 11 = rI s.2.2.2.2))
theorem mFails {σ : rp_S} {s : pS} (h : MS σ s) {c : Nat} (hs : s.1 ≤ 5) (hc : 1 ≤ c) : ∃ τ, F28 σ τ ∧ MS τ (pFail c s) ∧ fX7_fails σ (rI (c : Int)) = some τ := by
  obtain ⟨a, b, d⟩ := id h
  unfold fX7_fails pFail
  rw [a]
  by_cases z : s.1 = 0
  · rw [if_pos z, if_pos (show rI (s.1 : Int) = 0 from by rw [rI_eq0 (by omega) (by omega)]; omega), ob, ob]
    refine ⟨_, ((F28.rf σ).up (by omega) (by omega)).up (by omega) (by omega), ⟨?_, fun _ => ?_, ?_⟩, rfl⟩
    · rw [up_nj (by omega), up_eq]
    · rw [up_eq, up_nj (by omega)]; exact (d z).2.1
    · intro y; exact absurd y (by show ¬ (c = 0); omega)
  · rw [if_neg z, if_neg (show ¬ rI (s.1 : Int) = 0 from by rw [rI_eq0 (by omega) (by omega)]; omega)]
    exact ⟨σ, F28.rf σ, h, rfl⟩
section MTK
variable {n : Nat} {tp : Nat → Nat}
theorem mLet_run : ∀ (k b f : Nat) (σ : rp_S), k < f → b + k = n → TM σ n tp → σ 28 8 = rI (b : Int) → ∃ τ, F28 σ τ ∧ τ 28 8 = rI (scn (qR n tp 97 122) k b : Nat) ∧ τ 28 10 = rI 1 ∧ (∀ j, j ≠ 8 → j ≠ 10 → τ 28 j = σ 28 j) ∧ fX7_step_84 f σ = some τ := by
  intro k
  induction k with
  | zero =>
    intro b f σ hf hb hT h8
    obtain ⟨f, rfl⟩ : ∃ q, f = q + 1 := ⟨f - 1, by omega⟩
    have := hT.1
    have nq : ¬ qR n tp 97 122 b = true := fun y => by have := (qR_iff.mp y).1; omega
    have e : fX7_in (rI (tb n tp b)).toInt64 (rJ 97) (rJ 122) = some (if qR n tp 97 122 b = true then rI 1 else rI 0) := hT.inr b (lo := 97) (hi := 122) (by omega) (by omega)
    refine ⟨rp_up σ 28 10 (rI 1), (F28.rf σ).up (by omega) (by omega), ?_, up_eq, fun j _ h10 => up_nj h10, ?_⟩
    · rw [up_nj (by omega)]; exact h8
    · rw [fX7_step_84, h8, hT.at (by omega), ob, e, ob]
      simp only [rb_0]
      rw [if_pos nq, ob]
  | succ k ih =>
    intro b f σ hf hb hT h8
    obtain ⟨f, rfl⟩ : ∃ q, f = q + 1 := ⟨f - 1, by omega⟩
    have := hT.1
    have e : fX7_in (rI (tb n tp b)).toInt64 (rJ 97) (rJ 122) = some (if qR n tp 97 122 b = true then rI 1 else rI 0) := hT.inr b (lo := 97) (hi := 122) (by omega) (by omega)
    rw [fX7_step_84, h8, hT.at (by omega), ob, e, ob, scn]
    simp only [rb_0]
    by_cases z : qR n tp 97 122 b = true
    · rw [if_pos z, if_neg (fun y => y z), ob, iI_s]
      have kf : F28 σ (rp_up σ 28 8 (rI ((b + 1 : Nat) : Int))) := (F28.rf σ).up (by omega) (by omega)
      obtain ⟨τ, t1, t2, t2', t3, t4⟩ := ih (b + 1) f _ (by omega) (by omega) (hT.f kf) up_eq
      exact ⟨τ, kf.tr t1, t2, t2', fun j hj h10 => by rw [t3 j hj h10, up_nj hj], t4⟩
    · rw [if_neg z, if_pos z, ob]
      exact ⟨rp_up σ 28 10 (rI 1), (F28.rf σ).up (by omega) (by omega), by rw [up_nj (by omega)]; exact h8, up_eq, fun j _ h10 => up_nj h10, rfl⟩
def mn2 (q : Nat) : Nat := if q < 2 then q else 2
theorem mFig_end {σ : rp_S} {e p : Nat} (hp : p ≤ e) (he : e ≤ 160) (h8 : σ 28 8 = rI (e : Int)) (h9 : σ 28 9 = rI (p : Int)) (h6 : σ 28 6 = rI 0) (h11 : σ 28 11 = rI (pV tp p (mn2 (e - p)))) :
    ∃ τ, F28 σ τ ∧ MS τ (if e - p ≤ 2 then (0, 2, p, e, pV tp p (e - p)) else (1, 2, p, e, 0)) ∧ ((some (rp_up σ 28 10 (rI 2))).bind fun σ12 => if (σ12 28 8) - (σ12 28 9) ≤ rI 2 then some σ12 else (fX7_fails σ12 (rI 1)).bind fun σ13 => some σ13) = some τ := by
  have f1 : F28 σ (rp_up σ 28 10 (rI 2)) := (F28.rf σ).up (by omega) (by omega)
  rw [ob, up_nj (by omega), up_nj (by omega), h8, h9, rI_sub]
  by_cases z : e - p ≤ 2
  · rw [if_pos z, if_pos (show rI ((e : Int) - (p : Int)) ≤ rI 2 from by rw [rI_le (by omega) (by omega) (by omega) (by omega)]; omega)]
    refine ⟨_, f1, ⟨?_, fun y => absurd rfl y, fun _ => ⟨?_, ?_, ?_, fun _ => ?_⟩⟩, rfl⟩
    · rw [up_nj (by omega)]; exact h6
    · rw [up_eq]; rfl
    · rw [up_nj (by omega)]; exact h9
    · rw [up_nj (by omega)]; exact h8
    · rw [up_nj (by omega), h11]
      have : mn2 (e - p) = e - p := by unfold mn2; split <;> omega
      rw [this]
  · rw [if_neg z, if_neg (show ¬ rI ((e : Int) - (p : Int)) ≤ rI 2 from by rw [rI_le (by omega) (by omega) (by omega) (by omega)]; omega)]
    unfold fX7_fails
    rw [up_nj (by omega), h6, if_pos (by decide), ob, ob, ob]
    refine ⟨_, (f1.up (by omega) (by omega)).up (by omega) (by omega), ⟨?_, fun _ => ?_, fun y => absurd y (by show ¬ (1 = 0); omega)⟩, rfl⟩
    · rw [up_nj (by omega), up_eq]; rfl
    · rw [up_eq, up_nj (by omega), up_nj (by omega)]; exact h9
theorem mFig_run : ∀ (k p q f : Nat) (σ : rp_S), k < f → p + q + k = n → TM σ n tp → σ 28 8 = rI ((p + q : Nat) : Int) → σ 28 9 = rI (p : Int) → σ 28 6 = rI 0 → σ 28 11 = rI (pV tp p (mn2 q)) →
    ∃ τ, F28 σ τ ∧ MS τ (if scn (qR n tp 48 57) k (p + q) - p ≤ 2 then (0, 2, p, scn (qR n tp 48 57) k (p + q), pV tp p (scn (qR n tp 48 57) k (p + q) - p)) else (1, 2, p, scn (qR n tp 48 57) k (p + q), 0)) ∧ fX7_step_140 f σ = some τ := by
  intro k
  induction k with
  | zero =>
    intro p q f σ hf hb hT h8 h9 h6 h11
    obtain ⟨f, rfl⟩ : ∃ q, f = q + 1 := ⟨f - 1, by omega⟩
    have := hT.1
    have nq : ¬ qR n tp 48 57 (p + q) = true := fun y => by have := (qR_iff.mp y).1; omega
    have e : fX7_in (rI (tb n tp (p + q))).toInt64 (rJ 48) (rJ 57) = some (if qR n tp 48 57 (p + q) = true then rI 1 else rI 0) := hT.inr (p + q) (lo := 48) (hi := 57) (by omega) (by omega)
    obtain ⟨τ, t1, t2, t3⟩ := mFig_end (tp := tp) (e := p + q) (p := p) (by omega) (by omega) h8 h9 h6 (by rw [Nat.add_sub_cancel_left]; exact h11)
    refine ⟨τ, t1, by rw [scn]; exact t2, ?_⟩
    rw [fX7_step_140, h8, hT.at (by omega), ob, e, ob]
    simp only [rb_0]
    rw [if_pos nq]
    exact t3
  | succ k ih =>
    intro p q f σ hf hb hT h8 h9 h6 h11
    obtain ⟨f, rfl⟩ : ∃ q, f = q + 1 := ⟨f - 1, by omega⟩
    have := hT.1
    have e : fX7_in (rI (tb n tp (p + q))).toInt64 (rJ 48) (rJ 57) = some (if qR n tp 48 57 (p + q) = true then rI 1 else rI 0) := hT.inr (p + q) (lo := 48) (hi := 57) (by omega) (by omega)
    rw [fX7_step_140, h8, hT.at (by omega), ob, e, ob, scn]
    simp only [rb_0]
    by_cases z : qR n tp 48 57 (p + q) = true
    · simp only [if_pos z]
      rw [if_neg (show ¬ ¬ qR n tp 48 57 (p + q) = true from fun y => y z), h9, rI_sub]
      unfold fX7_step_201
      have kf : ∀ x : Int32, F28 σ (rp_up (rp_up σ 28 11 x) 28 8 (rI ((p + q + 1 : Nat) : Int))) := fun x => ((F28.rf σ).up (by omega) (by omega)).up (by omega) (by omega)
      have goOn : ∀ x : Int32, x = rI (pV tp p (mn2 (q + 1))) → ∃ τ, F28 σ τ ∧ MS τ (if scn (qR n tp 48 57) k (p + q + 1) - p ≤ 2 then (0, 2, p, scn (qR n tp 48 57) k (p + q + 1), pV tp p (scn (qR n tp 48 57) k (p + q + 1) - p)) else (1, 2, p, scn (qR n tp 48 57) k (p + q + 1), 0)) ∧ ((some (rp_up σ 28 11 x)).bind fun σ14 => ((some (rp_up σ14 28 8 ((σ14 28 8) + (rI 1)))).bind fun σ15 => fX7_step_140 f σ15)) = some τ := by
        intro x hx
        obtain ⟨τ, t1, t2, t3⟩ := ih p (q + 1) f _ (by omega) (by omega) (hT.f (kf x)) up_eq (by rw [up_nj (by omega), up_nj (by omega)]; exact h9) (by rw [up_nj (by omega), up_nj (by omega)]; exact h6) (by rw [up_nj (by omega), up_eq]; exact hx)
        refine ⟨τ, (kf x).tr t1, t2, ?_⟩
        rw [ob, up_nj (by omega), h8, iI_s, ob]
        exact t3
      by_cases z2 : 2 ≤ q
      · rw [if_pos (show rI 2 ≤ rI (((p + q : Nat) : Int) - (p : Int)) from by rw [rI_le (by omega) (by omega) (by omega) (by omega)]; omega)]
        refine goOn _ ?_
        rw [h11]
        have a1 : mn2 q = 2 := by unfold mn2; split <;> omega
        have a2 : mn2 (q + 1) = 2 := by unfold mn2; split <;> omega
        rw [a1, a2]
      · rw [if_neg (show ¬ rI 2 ≤ rI (((p + q : Nat) : Int) - (p : Int)) from by rw [rI_le (by omega) (by omega) (by omega) (by omega)]; omega), ob]
        refine goOn _ ?_
        have a1 : mn2 q = q := by unfold mn2; split <;> omega
        have a2 : mn2 (q + 1) = q + 1 := by unfold mn2; split <;> omega
        rw [h11, a1, a2, rI_mul, rI_add, rI_sub, pV]
        have : tb n tp (p + q) = (tp (p + q) : Int) := by unfold tb; rw [if_pos (qR_iff.mp z).1]
        rw [this]
    · simp only [if_neg z]
      obtain ⟨τ, t1, t2, t3⟩ := mFig_end (tp := tp) (e := p + q) (p := p) (by omega) (by omega) h8 h9 h6 (by rw [Nat.add_sub_cancel_left]; exact h11)
      refine ⟨τ, t1, t2, ?_⟩
      rw [if_pos z]
      exact t3
/-- the reference, where the blanks end -/
def mAt (σ : rp_S) : Option rp_S :=
    ((some (rp_up σ 28 9 (σ 28 8))).bind fun σ2 =>
    ((fX7_byteAt σ2 (σ2 28 8)).bind fun x3 =>
    ((some (rp_up σ2 28 11 (rI 0))).bind fun σ4 =>
    (if x3 = (rI (-4)) then
    ((some (rp_up σ4 28 10 (rI 0))).bind fun σ21 =>
    (some σ21))
  else
    ((fX7_in (x3.toInt64) (rJ 97) (rJ 122)).bind fun x5 =>
    (if x5 = 0 then
    ((fX7_in (x3.toInt64) (rJ 48) (rJ 57)).bind fun x6 =>
    (if x6 = 0 then
    ((some (rp_up σ4 28 10 (rI 3))).bind fun σ7 =>
    ((some (rp_up σ7 28 8 ((σ7 28 8) + (rI 1)))).bind fun σ8 =>
    (if x3 = (rI 59) then
    (some σ8)
  else
    ((fX7_fails σ8 (rI 1)).bind fun σ9 =>
    (some σ9)))))
  else
    (fX7_step_140 1000 σ4)))
  else
    (fX7_step_84 1000 σ4)))))))
theorem mSkip_run : ∀ (k b f : Nat) (σ : rp_S), k < f → b + k = n → TM σ n tp → σ 28 8 = rI (b : Int) → ∃ τ, F28 σ τ ∧ τ 28 8 = rI (scn (qR n tp 32 32) k b : Nat) ∧ (∀ j, j ≠ 8 → τ 28 j = σ 28 j) ∧ fX7_step_8 f σ = mAt τ := by
  have bl : ∀ (σ : rp_S) (b : Nat), TM σ n tp → ((rI (tb n tp b) = rI 32) ↔ qR n tp 32 32 b = true) := by
    intro σ b hT
    have hb := hT.b b
    rw [rI_eq (by omega) (by omega) (by omega) (by omega), qR_iff]
    unfold tb
    by_cases z : b < n
    · rw [if_pos z]; omega
    · rw [if_neg z]; omega
  intro k
  induction k with
  | zero =>
    intro b f σ hf hb hT h8
    obtain ⟨f, rfl⟩ : ∃ q, f = q + 1 := ⟨f - 1, by omega⟩
    have := hT.1
    refine ⟨σ, F28.rf σ, h8, fun _ _ => rfl, ?_⟩
    rw [fX7_step_8, h8, hT.at (by omega), ob, if_neg (fun y => by have := (qR_iff.mp ((bl σ b hT).mp y)).1; omega)]
    unfold mAt
    rw [h8]
  | succ k ih =>
    intro b f σ hf hb hT h8
    obtain ⟨f, rfl⟩ : ∃ q, f = q + 1 := ⟨f - 1, by omega⟩
    have := hT.1
    rw [fX7_step_8, h8, hT.at (by omega), ob, scn]
    by_cases z : qR n tp 32 32 b = true
    · rw [if_pos z, if_pos ((bl σ b hT).mpr z), ob, iI_s]
      have kf : F28 σ (rp_up σ 28 8 (rI ((b + 1 : Nat) : Int))) := (F28.rf σ).up (by omega) (by omega)
      obtain ⟨τ, t1, t2, t3, t4⟩ := ih (b + 1) f _ (by omega) (by omega) (hT.f kf) up_eq
      exact ⟨τ, kf.tr t1, t2, fun j hj => by rw [t3 j hj, up_nj hj], t4⟩
    · rw [if_neg z, if_neg (fun y => z ((bl σ b hT).mp y))]
      refine ⟨σ, F28.rf σ, h8, fun _ _ => rfl, ?_⟩
      unfold mAt
      rw [h8]
theorem mAt_ok {σ : rp_S} {p : Nat} (hp : p ≤ n) (hT : TM σ n tp) (h8 : σ 28 8 = rI (p : Int)) (h6 : σ 28 6 = rI 0) : ∃ τ, F28 σ τ ∧ MS τ (pTk n tp p) ∧ mAt σ = some τ := by
  have hn := hT.1
  obtain ⟨ρ, hρ⟩ : ∃ ρ, ρ = rp_up (rp_up σ 28 9 (rI (p : Int))) 28 11 (rI 0) := ⟨_, rfl⟩
  have f0 : F28 σ (rp_up σ 28 9 (rI (p : Int))) := (F28.rf σ).up (by omega) (by omega)
  have f1 : F28 σ ρ := by rw [hρ]; exact f0.up (by omega) (by omega)
  have r9 : ρ 28 9 = rI (p : Int) := by rw [hρ, up_nj (by omega), up_eq]
  have r8 : ρ 28 8 = rI (p : Int) := by rw [hρ, up_nj (by omega), up_nj (by omega)]; exact h8
  have r6 : ρ 28 6 = rI 0 := by rw [hρ, up_nj (by omega), up_nj (by omega)]; exact h6
  have r11 : ρ 28 11 = rI 0 := by rw [hρ, up_eq]
  have T1 := hT.f f1
  have hb := hT.b p
  have e1 : fX7_in (rI (tb n tp p)).toInt64 (rJ 97) (rJ 122) = some (if qR n tp 97 122 p = true then rI 1 else rI 0) := hT.inr p (lo := 97) (hi := 122) (by omega) (by omega)
  have e2 : fX7_in (rI (tb n tp p)).toInt64 (rJ 48) (rJ 57) = some (if qR n tp 48 57 p = true then rI 1 else rI 0) := hT.inr p (lo := 48) (hi := 57) (by omega) (by omega)
  unfold mAt pTk
  rw [ob, h8, up_nj (by omega), h8, (hT.f f0).at (by omega), ob, ob, ← hρ, e1, e2]
  simp only [ob, rb_0]
  by_cases z : p < n
  · have et : tb n tp p = (tp p : Int) := by unfold tb; rw [if_pos z]
    rw [if_pos z, if_neg (show ¬ rI (tb n tp p) = rI (-4) from by rw [rI_eq (by omega) (by omega) (by omega) (by omega)]; omega)]
    by_cases z1 : 97 ≤ tp p ∧ tp p ≤ 122
    · rw [if_pos z1, if_neg (fun y => y (qR_iff.mpr ⟨z, z1⟩))]
      obtain ⟨τ, t1, t2, t2', t3, t4⟩ := mLet_run (n := n) (tp := tp) (n - p) p 1000 ρ (by omega) (by omega) T1 r8
      refine ⟨τ, f1.tr t1, ⟨?_, fun y => absurd rfl y, fun _ => ⟨t2', ?_, t2, fun y => absurd y (by show ¬ (1 = 2); omega)⟩⟩, t4⟩
      · rw [t3 6 (by omega) (by omega)]; exact r6
      · rw [t3 9 (by omega) (by omega)]; exact r9
    · rw [if_neg z1, if_pos (show ¬ qR n tp 97 122 p = true from fun y => z1 (qR_iff.mp y).2)]
      by_cases z2 : 48 ≤ tp p ∧ tp p ≤ 57
      · rw [if_pos z2, if_neg (show ¬ ¬ qR n tp 48 57 p = true from fun y => y (qR_iff.mpr ⟨z, z2⟩))]
        obtain ⟨τ, t1, t2, t3⟩ := mFig_run (n := n) (tp := tp) (n - p) p 0 1000 ρ (by omega) (by omega) T1 r8 r9 r6 r11
        exact ⟨τ, f1.tr t1, t2, t3⟩
      · rw [if_neg z2, if_pos (show ¬ qR n tp 48 57 p = true from fun y => z2 (qR_iff.mp y).2), up_nj (by omega), r8, iI_s]
        have f2 : F28 σ (rp_up (rp_up ρ 28 10 (rI 3)) 28 8 (rI ((p + 1 : Nat) : Int))) := (f1.up (by omega) (by omega)).up (by omega) (by omega)
        by_cases z3 : tp p = 59
        · rw [if_pos z3, if_pos (show rI (tb n tp p) = rI 59 from by rw [et, z3]; rfl)]
          refine ⟨_, f2, ⟨?_, fun y => absurd rfl y, fun _ => ⟨?_, ?_, up_eq, fun y => absurd y (by show ¬ (3 = 2); omega)⟩⟩, rfl⟩
          · rw [up_nj (by omega), up_nj (by omega)]; exact r6
          · rw [up_nj (by omega), up_eq]; rfl
          · rw [up_nj (by omega), up_nj (by omega)]; exact r9
        · rw [if_neg z3, if_neg (show ¬ rI (tb n tp p) = rI 59 from by rw [rI_eq (by omega) (by omega) (by omega) (by omega)]; omega)]
          unfold fX7_fails
          rw [up_nj (by omega), up_nj (by omega), r6, if_pos (by decide), ob, ob, ob]
          refine ⟨_, (f2.up (by omega) (by omega)).up (by omega) (by omega), ⟨?_, fun _ => ?_, fun y => absurd y (by show ¬ (1 = 0); omega)⟩, rfl⟩
          · rw [up_nj (by omega), up_eq]; rfl
          · rw [up_eq, up_nj (by omega), up_nj (by omega), up_nj (by omega)]; exact r9
  · have et : tb n tp p = -4 := by unfold tb; rw [if_neg z]
    rw [if_neg z, if_pos (show rI (tb n tp p) = rI (-4) from by rw [et])]
    refine ⟨_, f1.up (by omega) (by omega), ⟨?_, fun y => absurd rfl y, fun _ => ⟨?_, ?_, ?_, fun y => absurd y (by show ¬ (0 = 2); omega)⟩⟩, rfl⟩
    · rw [up_nj (by omega)]; exact r6
    · rw [up_eq]; rfl
    · rw [up_nj (by omega)]; exact r9
    · rw [up_nj (by omega)]; exact r8
theorem mTok0 {σ : rp_S} {b : Nat} (hb : b ≤ n) (hT : TM σ n tp) (h8 : σ 28 8 = rI (b : Int)) (h6 : σ 28 6 = rI 0) : ∃ τ, F28 σ τ ∧ MS τ (pTk n tp (scn (qR n tp 32 32) (n - b) b)) ∧ fX7_step σ = some τ := by
  have hn := hT.1
  obtain ⟨τ, t1, t2, t3, t4⟩ := mSkip_run (n := n) (tp := tp) (n - b) b 1000 σ (by omega) (by omega) hT h8
  have a := scn_ge (qR n tp 32 32) (n - b) b
  obtain ⟨ρ, u1, u2, u3⟩ := mAt_ok (p := scn (qR n tp 32 32) (n - b) b) (by omega) (hT.f t1) t2 (by rw [t3 6 (by omega)]; exact h6)
  refine ⟨ρ, t1.tr u1, u2, ?_⟩
  unfold fX7_step
  rw [h6, if_pos (by decide), t4, u3]
theorem mTok {σ : rp_S} {s : pS} (hI : pI n s) (hT : TM σ n tp) (h : MS σ s) : ∃ τ, F28 σ τ ∧ MS τ (pTok n tp s) ∧ fX7_step σ = some τ := by
  by_cases z : s.1 = 0
  · unfold pTok
    rw [if_pos z]
    exact mTok0 hI.2.1 hT (h.2.2 z).2.2.1 (by rw [h.1, z]; rfl)
  · rw [pTok_z z]
    refine ⟨σ, F28.rf σ, h, ?_⟩
    have := hI.2.2.2.1
    unfold fX7_step
    rw [h.1, if_neg (by rw [rI_le0 (by omega) (by omega)]; omega)]
theorem mNum {σ : rp_S} {s : pS} (hI : pI n s) (hT : TM σ n tp) (h : MS σ s) {lo hi : Int} (hlo : 0 ≤ lo) (hlo2 : lo ≤ 1000) (hhi : 0 ≤ hi) (hhi2 : hi ≤ 1000) : ∃ (x : Int32) (τ : rp_S), F28 σ τ ∧ MS τ (pTok n tp (pNum lo hi s)) ∧ ((pNum lo hi s).1 = 0 → x = rI (pNum lo hi s).2.2.2.2) ∧ fX7_number σ (rI lo) (rI hi) = some (x, τ) := by
  obtain ⟨i1, i2, i3, i4, i5, i6, i7⟩ := id hI
  have end_ : ∀ (ρ : rp_S) (q : pS) (x : Int32), pI n q → TM ρ n tp → F28 σ ρ → MS ρ q → ∃ τ, F28 σ τ ∧ MS τ (pTok n tp q) ∧ fX7_number_62 ρ x = some (x, τ) := by
    intro ρ q x hq hTq hF hM
    obtain ⟨τ, t1, t2, t3⟩ := mTok hq hTq hM
    refine ⟨τ, hF.tr t1, t2, ?_⟩
    unfold fX7_number_62
    rw [t3, ob]
  have bad : ∀ (ρ : rp_S) (q : pS), pI n q → TM ρ n tp → F28 σ ρ → MS ρ q → q.1 ≠ 0 → ∃ τ, F28 σ τ ∧ MS τ (pTok n tp q) ∧ fX7_number_47 ρ (rI lo) = some (rI lo, τ) := by
    intro ρ q hq hTq hF hM hz
    have := hq.2.2.2.1
    unfold fX7_number_47
    rw [hM.1, if_neg (show ¬ rI (q.1 : Int) = 0 from by rw [rI_eq0 (by omega) (by omega)]; omega)]
    exact end_ ρ q _ hq hTq hF hM
  have bad20 : ∀ (ρ : rp_S) (q : pS), pI n q → TM ρ n tp → F28 σ ρ → MS ρ q → q.1 ≠ 0 → ∃ τ, F28 σ τ ∧ MS τ (pTok n tp q) ∧ fX7_number_20 ρ (rI lo) (rI hi) = some (rI lo, τ) := by
    intro ρ q hq hTq hF hM hz
    have := hq.2.2.2.1
    unfold fX7_number_20
    rw [hM.1, if_neg (show ¬ rI (q.1 : Int) = 0 from by rw [rI_eq0 (by omega) (by omega)]; omega)]
    exact bad ρ q hq hTq hF hM hz
  unfold fX7_number
  rw [h.1]
  by_cases z : s.1 = 0
  · obtain ⟨e10, e9, e8, e11⟩ := h.2.2 z
    rw [if_pos (show rI (s.1 : Int) = 0 from by rw [rI_eq0 (by omega) (by omega)]; omega), e10]
    unfold pNum
    by_cases z2 : s.2.1 = 2
    · have hv := i7 z z2
      rw [if_pos z2, if_pos (show rI (s.2.1 : Int) = rI 2 from by rw [z2]; rfl)]
      unfold fX7_number_20
      rw [h.1, if_pos (show rI (s.1 : Int) = 0 from by rw [rI_eq0 (by omega) (by omega)]; omega), e11 z2, i64 (z := lo) (by omega) (by omega), i64 (z := hi) (by omega) (by omega), inI_ok _ (by omega) (by omega) (by omega) (by omega), rI_toInt (by omega) (by omega), ob]
      simp only [rb_0]
      by_cases z3 : lo ≤ s.2.2.2.2 ∧ s.2.2.2.2 ≤ hi
      · rw [if_pos z3, if_neg (fun y => y z3)]
        unfold fX7_number_47
        rw [h.1, if_pos (show rI (s.1 : Int) = 0 from by rw [rI_eq0 (by omega) (by omega)]; omega), e11 z2]
        obtain ⟨τ, t1, t2, t3⟩ := end_ σ s (rI s.2.2.2.2) hI hT (F28.rf σ) h
        exact ⟨_, τ, t1, t2, fun _ => rfl, t3⟩
      · rw [if_neg z3, if_pos z3]
        obtain ⟨υ, u1, u2, u3⟩ := mFails h (c := 3) i4 (by omega)
        have u3' : fX7_fails σ (rI 3) = some υ := u3
        rw [u3', ob]
        obtain ⟨τ, t1, t2, t3⟩ := bad υ _ (pFail_I (by omega) (by omega) hI) (hT.f u1) u1 u2 (pFail_f (by omega))
        exact ⟨_, τ, t1, t2, fun y => absurd y (pFail_f (by omega)), t3⟩
    · rw [if_neg z2, if_neg (show ¬ rI (s.2.1 : Int) = rI 2 from by rw [rI_eq (by omega) (by omega) (by omega) (by omega)]; omega)]
      obtain ⟨υ, u1, u2, u3⟩ := mFails h (c := 2) i4 (by omega)
      have u3' : fX7_fails σ (rI 2) = some υ := u3
      rw [u3', ob]
      obtain ⟨τ, t1, t2, t3⟩ := bad20 υ _ (pFail_I (by omega) (by omega) hI) (hT.f u1) u1 u2 (pFail_f (by omega))
      exact ⟨_, τ, t1, t2, fun y => absurd y (pFail_f (by omega)), t3⟩
  · rw [pNum_z z, if_neg (show ¬ rI (s.1 : Int) = 0 from by rw [rI_eq0 (by omega) (by omega)]; omega)]
    obtain ⟨τ, t1, t2, t3⟩ := bad20 σ s hI hT (F28.rf σ) h z
    exact ⟨_, τ, t1, t2, fun y => absurd y z, t3⟩
/-- the reference behind a line's numbers -/
def mTail (σ5 : rp_S) : Option rp_S := (if (σ5 28 6) = 0 then
    (if (σ5 28 10) = (rI 3) then
    (fX7_readLine_132 σ5)
  else
    ((fX7_fails σ5 (rI 2)).bind fun σ7 =>
    (fX7_readLine_132 σ7)))
  else
    (fX7_readLine_132 σ5))
theorem mSign {σ : rp_S} {s : pS} (hI : pI n s) (hT : TM σ n tp) (h : MS σ s) : ∃ τ, F28 σ τ ∧ MS τ (pTok n tp (pSign s)) ∧ mTail σ = some τ := by
  obtain ⟨i1, i2, i3, i4, i5, i6, i7⟩ := id hI
  have end_ : ∀ (ρ : rp_S) (q : pS), pI n q → TM ρ n tp → F28 σ ρ → MS ρ q → ∃ τ, F28 σ τ ∧ MS τ (pTok n tp q) ∧ fX7_readLine_132 ρ = some τ := by
    intro ρ q hq hTq hF hM
    obtain ⟨τ, t1, t2, t3⟩ := mTok hq hTq hM
    refine ⟨τ, hF.tr t1, t2, ?_⟩
    unfold fX7_readLine_132
    rw [t3, ob]
  unfold mTail
  rw [h.1]
  by_cases z : s.1 = 0
  · obtain ⟨e10, e9, e8, e11⟩ := h.2.2 z
    rw [if_pos (show rI (s.1 : Int) = 0 from by rw [rI_eq0 (by omega) (by omega)]; omega), e10]
    unfold pSign
    by_cases z2 : s.2.1 = 3
    · rw [if_pos z2, if_pos (show rI (s.2.1 : Int) = rI 3 from by rw [z2]; rfl)]
      exact end_ σ s hI hT (F28.rf σ) h
    · rw [if_neg z2, if_neg (show ¬ rI (s.2.1 : Int) = rI 3 from by rw [rI_eq (by omega) (by omega) (by omega) (by omega)]; omega)]
      obtain ⟨υ, u1, u2, u3⟩ := mFails h (c := 2) i4 (by omega)
      have u3' : fX7_fails σ (rI 2) = some υ := u3
      rw [u3', ob]
      exact end_ υ _ (pFail_I (by omega) (by omega) hI) (hT.f u1) u1 u2
  · rw [pSign_z z, if_neg (show ¬ rI (s.1 : Int) = 0 from by rw [rI_eq0 (by omega) (by omega)]; omega)]
    exact end_ σ s hI hT (F28.rf σ) h
end MTK
