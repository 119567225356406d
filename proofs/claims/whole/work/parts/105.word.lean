/-! text: the names -/
def wn (w : Nat) : Nat := rp_sl.getD w 0
def wl (w i : Nat) : Int := cLetters.getD ((cEnds.getD w 0).toNat + i) 0
abbrev WI (tp : Nat → Nat) (p b w : Nat) : Prop := b = p + wn w ∧ ∀ i, i < wn w → (tp (p + i) : Int) = wl w i
def wNf (tp : Nat → Nat) (p b : Nat) : Nat → Nat → Int
  | 0, _ => -4
  | k + 1, w => if WI tp p b w then (w : Int) else wNf tp p b k (w + 1)
theorem wn_b : ∀ w : Nat, w < 7 → 4 ≤ wn w ∧ wn w ≤ 8 := by decide
theorem wl_b : ∀ w : Nat, w < 7 → ∀ i : Nat, i < 8 → 0 ≤ wl w i ∧ wl w i ≤ 122 := by decide +kernel
theorem cLen : ∀ w : Nat, w < 7 → fJ0_length_8abf5 w = some (rI (wn w : Int)) := by decide +kernel
theorem cChar : ∀ w : Nat, w < 7 → ∀ i : Nat, i < 8 → i < wn w → fJ0_charAt_5068e w (rI (i : Int)) = some (rI (wl w i)) := by decide +kernel
theorem mEnds : ∀ w : Nat, w < 7 → cEnds.getD (w + 1) 0 - cEnds.getD w 0 = (wn w : Int) ∧ 0 ≤ cEnds.getD w 0 ∧ cEnds.getD w 0 + (wn w : Int) ≤ 36 ∧ 0 ≤ cEnds.getD (w + 1) 0 ∧ cEnds.getD (w + 1) 0 ≤ 36 := by decide +kernel
section WRD
variable {n : Nat} {tp : Nat → Nat}
theorem cWord {σ : rp_S} {p b : Nat} (hT : TC σ n tp) (hb : b ≤ n) (hp : p ≤ b) (h4 : σ 13 4 = rI (p : Int)) (h5 : σ 13 5 = rI (b : Int)) {w : Nat} (hw : w < 7) : fX5_isWord σ w = some (if WI tp p b w then rI 1 else rI 0) := by
  have hn := hT.1
  have hl := wn_b w hw
  have loop : b = p + wn w → ∀ (k i f : Nat), k < f → i + k = wn w → fX5_isWord_20 w σ f (rI (i : Int)) = some (if ∀ j, j < wn w → i ≤ j → (tp (p + j) : Int) = wl w j then rI 1 else rI 0) := by
    intro hbp k
    induction k with
    | zero =>
      intro i f hf hi
      obtain ⟨f, rfl⟩ : ∃ q, f = q + 1 := ⟨f - 1, by omega⟩
      rw [fX5_isWord_20, cLen w hw, ob, if_pos (show rI (wn w : Int) ≤ rI (i : Int) from by rw [rI_le (by omega) (by omega) (by omega) (by omega)]; omega), if_pos (fun j h1 h2 => by omega)]
    | succ k ih =>
      intro i f hf hi
      obtain ⟨f, rfl⟩ : ∃ q, f = q + 1 := ⟨f - 1, by omega⟩
      have hc := (hT.2.2 (p + i) (by omega)).1
      have hwl := wl_b w hw i (by omega)
      rw [fX5_isWord_20, cLen w hw, ob, if_neg (show ¬ rI (wn w : Int) ≤ rI (i : Int) from by rw [rI_le (by omega) (by omega) (by omega) (by omega)]; omega), h4, rI_add, show (p : Int) + (i : Int) = ((p + i : Nat) : Int) from by omega, hT.rd (by omega), ob, cChar w hw i (by omega) (by omega), ob, iI_s]
      by_cases z : (tp (p + i) : Int) = wl w i
      · rw [if_pos (show rI (tp (p + i) : Int) = rI (wl w i) from by rw [z]), ih (i + 1) f (by omega) (by omega)]
        congr 1
        by_cases z2 : ∀ j, j < wn w → i + 1 ≤ j → (tp (p + j) : Int) = wl w j
        · rw [if_pos z2, if_pos]
          intro j h1 h2
          by_cases e : j = i
          · rw [e]; exact z
          · exact z2 j h1 (by omega)
        · rw [if_neg z2, if_neg]
          intro y
          exact z2 (fun j h1 h2 => y j h1 (by omega))
      · rw [if_neg (show ¬ rI (tp (p + i) : Int) = rI (wl w i) from by rw [rI_eq (by omega) (by omega) (by omega) (by omega)]; exact z), if_neg]
        intro y
        exact z (y i (by omega) (by omega))
  unfold fX5_isWord
  rw [cLen w hw, ob, h4, h5, rI_sub]
  by_cases z : b = p + wn w
  · rw [if_pos (show rI ((b : Int) - (p : Int)) = rI (wn w : Int) from by rw [rI_eq (by omega) (by omega) (by omega) (by omega)]; omega)]
    have e := loop z (wn w) 0 1000 (by omega) (by omega)
    have e' : fX5_isWord_20 w σ 1000 (rI 0) = _ := e
    rw [e']
    congr 1
    by_cases z2 : ∀ j, j < wn w → 0 ≤ j → (tp (p + j) : Int) = wl w j
    · rw [if_pos z2, if_pos ⟨z, fun i hi => z2 i hi (by omega)⟩]
    · rw [if_neg z2, if_neg (fun y => z2 (fun j hj _ => y.2 j hj))]
  · rw [if_neg (show ¬ rI ((b : Int) - (p : Int)) = rI (wn w : Int) from by rw [rI_eq (by omega) (by omega) (by omega) (by omega)]; omega), if_neg (fun y => z y.1)]
theorem cName {σ : rp_S} {p b : Nat} (hT : TC σ n tp) (hb : b ≤ n) (hp : p ≤ b) (h4 : σ 13 4 = rI (p : Int)) (h5 : σ 13 5 = rI (b : Int)) : fX5_wordRead σ = some (rI (wNf tp p b 7 0)) := by
  unfold fX5_wordRead
  rw [cWord hT hb hp h4 h5 (w := 0) (by omega), cWord hT hb hp h4 h5 (w := 1) (by omega), cWord hT hb hp h4 h5 (w := 2) (by omega), cWord hT hb hp h4 h5 (w := 3) (by omega), cWord hT hb hp h4 h5 (w := 4) (by omega), cWord hT hb hp h4 h5 (w := 5) (by omega), cWord hT hb hp h4 h5 (w := 6) (by omega)]
  simp only [ob, rb_0]
  rw [wNf]
  by_cases z0 : WI tp p b 0
  · rw [if_pos z0, if_neg (fun y => y z0)]; rfl
  rw [if_neg z0, if_pos z0, wNf]
  by_cases z1 : WI tp p b 1
  · rw [if_pos z1, if_neg (fun y => y z1)]; rfl
  rw [if_neg z1, if_pos z1, wNf]
  by_cases z2 : WI tp p b 2
  · rw [if_pos z2, if_neg (fun y => y z2)]; rfl
  rw [if_neg z2, if_pos z2, wNf]
  by_cases z3 : WI tp p b 3
  · rw [if_pos z3, if_neg (fun y => y z3)]; rfl
  rw [if_neg z3, if_pos z3, wNf]
  by_cases z4 : WI tp p b 4
  · rw [if_pos z4, if_neg (fun y => y z4)]; rfl
  rw [if_neg z4, if_pos z4, wNf]
  by_cases z5 : WI tp p b 5
  · rw [if_pos z5, if_neg (fun y => y z5)]; rfl
  rw [if_neg z5, if_pos z5, wNf]
  by_cases z6 : WI tp p b 6
  · rw [if_pos z6, if_neg (fun y => y z6)]; rfl
  rw [if_neg z6, if_pos z6, wNf]
theorem mName {σ : rp_S} {p b : Nat} (hT : TM σ n tp) (hC : iConst σ) (hb : b ≤ n) (hp : p ≤ b) (h8 : σ 28 8 = rI (b : Int)) (h9 : σ 28 9 = rI (p : Int)) (h10 : σ 28 10 = rI 1) : fX7_nameHere σ = some (rI (wNf tp p b 7 0)) := by
  have hn := hT.1
  have inner : ∀ (k2 : Int32 → Option Int32) (w : Nat), w < 7 → b = p + wn w → ∀ (k i f : Nat), k < f → i + k = wn w → fX7_nameHere_51 σ k2 f (rI (w : Int)) (rI 1) (rI (i : Int)) = if ∀ j, j < wn w → i ≤ j → (tp (p + j) : Int) = wl w j then some (rI (w : Int)) else k2 (rI ((w + 1 : Nat) : Int)) := by
    intro k2 w hw hbp k
    have hl := wn_b w hw
    have he := mEnds w hw
    induction k with
    | zero =>
      intro i f hf hi
      obtain ⟨f, rfl⟩ : ∃ q, f = q + 1 := ⟨f - 1, by omega⟩
      rw [fX7_nameHere_51, if_neg (by decide), h8, h9, rI_sub, if_pos (show rI ((b : Int) - (p : Int)) ≤ rI (i : Int) from by rw [rI_le (by omega) (by omega) (by omega) (by omega)]; omega), if_pos (fun j h1 h2 => by omega)]
      unfold fX7_nameHere_106
      rw [if_neg (by decide)]
    | succ k ih =>
      intro i f hf hi
      obtain ⟨f, rfl⟩ : ∃ q, f = q + 1 := ⟨f - 1, by omega⟩
      have hwl := wl_b w hw i (by omega)
      have hc := (hT.2.2 (p + i) (by omega)).1
      have et : tb n tp (p + i) = (tp (p + i) : Int) := by unfold tb; rw [if_pos (by omega)]
      have r1 : rq_rd σ 32 8 (rI (w : Int)) = some (rI (cEnds.getD w 0)) := by rw [rd_n (by omega) (by omega), hC.1 w (by omega)]
      have r2 : rq_rd σ 33 36 (rI (cEnds.getD w 0 + (i : Int))) = some (rI (wl w i)) := by
        rw [show cEnds.getD w 0 + (i : Int) = (((cEnds.getD w 0).toNat + i : Nat) : Int) from by omega, rd_n (by omega) (by omega), hC.2.1 _ (by omega)]
        rfl
      rw [fX7_nameHere_51, if_neg (by decide), h8, h9, rI_sub, if_neg (show ¬ rI ((b : Int) - (p : Int)) ≤ rI (i : Int) from by rw [rI_le (by omega) (by omega) (by omega) (by omega)]; omega), rI_add, show (p : Int) + (i : Int) = ((p + i : Nat) : Int) from by omega, hT.at (by omega), ob, r1, ob, rI_add, r2, ob, et]
      unfold fX7_nameHere_99
      rw [iI_s]
      by_cases z : (tp (p + i) : Int) = wl w i
      · rw [if_pos (show rI (tp (p + i) : Int) = rI (wl w i) from by rw [z])]
        refine (ih (i + 1) f (by omega) (by omega)).trans ?_
        by_cases z2 : ∀ j, j < wn w → i + 1 ≤ j → (tp (p + j) : Int) = wl w j
        · rw [if_pos z2, if_pos]
          intro j h1 h2
          by_cases e : j = i
          · rw [e]; exact z
          · exact z2 j h1 (by omega)
        · rw [if_neg z2, if_neg]
          intro y
          exact z2 (fun j h1 h2 => y j h1 (by omega))
      · rw [if_neg (show ¬ rI (tp (p + i) : Int) = rI (wl w i) from by rw [rI_eq (by omega) (by omega) (by omega) (by omega)]; exact z), if_neg (show ¬ ∀ j, j < wn w → i ≤ j → (tp (p + j) : Int) = wl w j from fun y => z (y i (by omega) (by omega)))]
        obtain ⟨f, rfl⟩ : ∃ q, f = q + 1 := ⟨f - 1, by omega⟩
        show fX7_nameHere_51 σ k2 (f + 1) (rI (w : Int)) (rI 0) _ = _
        rw [fX7_nameHere_51, if_pos (by decide)]
        unfold fX7_nameHere_106
        rw [if_pos (by decide), iI_s]
  have outer : ∀ (k w f : Nat), k < f → w + k = 7 → fX7_nameHere_2 σ f (rI (w : Int)) = some (rI (wNf tp p b k w)) := by
    intro k
    induction k with
    | zero =>
      intro w f hf hw
      obtain ⟨f, rfl⟩ : ∃ q, f = q + 1 := ⟨f - 1, by omega⟩
      rw [fX7_nameHere_2, if_pos (show rI 7 ≤ rI (w : Int) from by rw [rI_le (by omega) (by omega) (by omega) (by omega)]; omega), wNf]
    | succ k ih =>
      intro w f hf hw
      obtain ⟨f, rfl⟩ : ∃ q, f = q + 1 := ⟨f - 1, by omega⟩
      have hl := wn_b w (by omega)
      have he := mEnds w (by omega)
      have r1 : rq_rd σ 32 8 (rI (w : Int)) = some (rI (cEnds.getD w 0)) := by rw [rd_n (by omega) (by omega), hC.1 w (by omega)]
      have r2 : rq_rd σ 32 8 (rI ((w + 1 : Nat) : Int)) = some (rI (cEnds.getD (w + 1) 0)) := by rw [rd_n (by omega) (by omega), hC.1 (w + 1) (by omega)]
      have nxt := ih (w + 1) f (by omega) (by omega)
      rw [fX7_nameHere_2, if_neg (show ¬ rI 7 ≤ rI (w : Int) from by rw [rI_le (by omega) (by omega) (by omega) (by omega)]; omega), if_pos h10, iI_s, r2, ob, r1, ob, h8, h9, rI_sub, rI_sub, he.1, wNf]
      unfold fX7_nameHere_48
      by_cases z : b = p + wn w
      · rw [if_pos (show rI ((b : Int) - (p : Int)) = rI (wn w : Int) from by rw [rI_eq (by omega) (by omega) (by omega) (by omega)]; omega)]
        refine (inner (fun v1 => fX7_nameHere_2 σ f v1) w (by omega) z (wn w) 0 1000 (by omega) (by omega)).trans ?_
        by_cases z2 : ∀ j, j < wn w → 0 ≤ j → (tp (p + j) : Int) = wl w j
        · rw [if_pos z2, if_pos (show WI tp p b w from ⟨z, fun i hi => z2 i hi (by omega)⟩)]
        · rw [if_neg z2, if_neg (show ¬ WI tp p b w from fun y => z2 (fun j hj _ => y.2 j hj))]
          exact nxt
      · rw [if_neg (show ¬ rI ((b : Int) - (p : Int)) = rI (wn w : Int) from by rw [rI_eq (by omega) (by omega) (by omega) (by omega)]; omega), if_neg (show ¬ WI tp p b w from fun y => z y.1)]
        have e : ∀ (k2 : Int32 → Option Int32) (g : Nat), fX7_nameHere_51 σ k2 (g + 1) (rI (w : Int)) (rI 0) (rI 0) = k2 (rI ((w + 1 : Nat) : Int)) := by
          intro k2 g
          rw [fX7_nameHere_51, if_pos (by decide)]
          unfold fX7_nameHere_106
          rw [if_pos (by decide), iI_s]
        exact (e _ 999).trans nxt
  unfold fX7_nameHere
  exact outer 7 0 1000 (by omega) (by omega)
theorem mNoName {σ : rp_S} (h10 : ¬ σ 28 10 = rI 1) : fX7_nameHere σ = some (rI (-4)) := by
  have e : ∀ f : Nat, fX7_nameHere_2 σ (f + 1) (rI 0) = some (rI (-4)) := by
    intro f
    rw [fX7_nameHere_2, if_neg (by decide), if_neg h10]
  unfold fX7_nameHere
  exact e 999
theorem wNf_b (tp : Nat → Nat) (p b : Nat) : ∀ k w : Nat, wNf tp p b k w = -4 ∨ (0 ≤ wNf tp p b k w ∧ wNf tp p b k w < (w + k : Nat)) := by
  intro k
  induction k with
  | zero => intro w; rw [wNf]; exact Or.inl rfl
  | succ k ih =>
    intro w
    rw [wNf]
    by_cases z : WI tp p b w
    · rw [if_pos z]; right; omega
    · rw [if_neg z]
      rcases ih (w + 1) with h | h
      · exact Or.inl h
      · right; omega
end WRD
