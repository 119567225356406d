/-! WHO LOOKS AT WHAT: the nearest that can be looked at, the first of several -/
abbrev sCand (g : Nat → Int) (d : Nat → Bool) (r : Nat) (m : Int) (w : Nat) : Prop := sFar g r w ≤ sWide g w ∧ sUp g d w m
theorem sLk_c (g : Nat → Int) (d : Nat → Bool) (r : Nat) (m : Int) : ∀ (k w : Nat) (b near : Int),
    (sLk g d r m k w b near = b ∧ ∀ v, w ≤ v → v < w + k → sCand g d r m v → near ≤ sFar g r v) ∨
    (∃ u, w ≤ u ∧ u < w + k ∧ sLk g d r m k w b near = u ∧ sCand g d r m u ∧ sFar g r u < near ∧ ∀ v, w ≤ v → v < w + k → sCand g d r m v → sFar g r u < sFar g r v ∨ (sFar g r u = sFar g r v ∧ u ≤ v)) := by
  intro k
  induction k with
  | zero => intro w b near; left; exact ⟨rfl, fun v h1 h2 => by omega⟩
  | succ k ih =>
    intro w b near
    rw [sLk]
    by_cases c : sFar g r w < near ∧ sFar g r w ≤ sWide g w ∧ sUp g d w m
    · rw [if_pos c]
      right
      rcases ih (w + 1) w (sFar g r w) with ⟨e, h⟩ | ⟨u, h1, h2, e, h3, h4, h5⟩
      · refine ⟨w, by omega, by omega, e, ⟨c.2.1, c.2.2⟩, c.1, fun v q1 q2 q3 => ?_⟩
        by_cases z : v = w
        · subst z; right; exact ⟨rfl, by omega⟩
        · have := h v (by omega) (by omega) q3
          by_cases z2 : sFar g r w = sFar g r v
          · right; exact ⟨z2, q1⟩
          · left; omega
      · refine ⟨u, by omega, by omega, e, h3, by have := c.1; omega, fun v q1 q2 q3 => ?_⟩
        by_cases z : v = w
        · subst z; left; exact h4
        · exact h5 v (by omega) (by omega) q3
    · rw [if_neg c]
      have cw : sCand g d r m w → near ≤ sFar g r w := fun q => by
        by_cases z : sFar g r w < near
        · exact absurd ⟨z, q.1, q.2⟩ c
        · omega
      rcases ih (w + 1) b near with ⟨e, h⟩ | ⟨u, h1, h2, e, h3, h4, h5⟩
      · left
        refine ⟨e, fun v q1 q2 q3 => ?_⟩
        by_cases z : v = w
        · subst z; exact cw q3
        · exact h v (by omega) (by omega) q3
      · right
        refine ⟨u, by omega, by omega, e, h3, h4, fun v q1 q2 q3 => ?_⟩
        by_cases z : v = w
        · subst z
          have := cw q3
          left; omega
        · exact h5 v (by omega) (by omega) q3
section LOO
variable {g : Nat → Int} {d : Nat → Bool}
theorem look_none (hV : sV g) {r : Nat} (hr : (r : Int) < g 33) (m : Int) : sLook g d r m = -4 ↔ (sCough g r m ∨ ∀ v : Nat, (v : Int) < g 24 → ¬ sCand g d r m v) := by
  obtain ⟨r1, r2⟩ := hV.2.2.2.2.2 r hr
  unfold sLook
  by_cases c : sCough g r m
  · rw [if_pos c]; exact ⟨fun _ => Or.inl c, fun _ => rfl⟩
  · rw [if_neg c]
    rcases sLk_c g d r m (g 24).toNat 0 (-4) 12 with ⟨e, h⟩ | ⟨u, h1, h2, e, h3, h4, h5⟩
    · rw [e]
      refine ⟨fun _ => Or.inr fun v hv q => ?_, fun _ => rfl⟩
      have := h v (by omega) (by omega) q
      have := sFar_b (w := v) r1.1 r1.2
      omega
    · rw [e]
      refine ⟨fun q => by omega, fun q => ?_⟩
      rcases q with q | q
      · exact absurd q c
      · exact absurd h3 (q u (by omega))
theorem look_some (hV : sV g) {r : Nat} (hr : (r : Int) < g 33) (m : Int) (w : Nat) : sLook g d r m = w ↔ (¬ sCough g r m ∧ (w : Int) < g 24 ∧ sCand g d r m w ∧ ∀ v : Nat, (v : Int) < g 24 → sCand g d r m v → sFar g r w < sFar g r v ∨ (sFar g r w = sFar g r v ∧ w ≤ v)) := by
  obtain ⟨r1, r2⟩ := hV.2.2.2.2.2 r hr
  unfold sLook
  by_cases c : sCough g r m
  · rw [if_pos c]; exact ⟨fun q => by omega, fun q => absurd c q.1⟩
  · rw [if_neg c]
    rcases sLk_c g d r m (g 24).toNat 0 (-4) 12 with ⟨e, h⟩ | ⟨u, h1, h2, e, h3, h4, h5⟩
    · rw [e]
      refine ⟨fun q => by omega, fun q => ?_⟩
      have := h w (by omega) (by omega) q.2.2.1
      have := sFar_b (w := w) r1.1 r1.2
      omega
    · rw [e]
      constructor
      · intro q
        have : u = w := by omega
        subst this
        exact ⟨c, by omega, h3, fun v hv q3 => h5 v (by omega) (by omega) q3⟩
      · intro q
        have a1 := h5 w (by omega) (by omega) q.2.2.1
        have a2 := q.2.2.2 u (by omega) h3
        omega
theorem look_up (hV : sV g) {r : Nat} (hr : (r : Int) < g 33) {m : Int} {w : Nat} (h : sLook g d r m = w) : sUp g d w m := ((look_some hV hr m w).mp h).2.2.1.2
theorem cnt_lo (hV : sV g) {r w : Nat} (hr : (r : Int) < g 33) : ∀ n : Nat, (n : Int) ≤ g (12 + w) → sCnt g d r w n = 0 := by
  intro n
  induction n with
  | zero => intro _; rfl
  | succ n ih =>
    intro h
    rw [sCnt, ih (by omega), if_neg (fun q => by have := (look_up hV hr q).2.1; omega)]
    rfl
theorem cnt_hi (hV : sV g) {r w s : Nat} (hr : (r : Int) < g 33) (hs : g (12 + w) + sLast g w ≤ s) : ∀ k : Nat, sCnt g d r w (s + k) = sCnt g d r w s := by
  intro k
  induction k with
  | zero => rfl
  | succ k ih =>
    rw [show s + (k + 1) = (s + k) + 1 from rfl, sCnt, ih, if_neg (fun q => by have := (look_up hV hr q).2.2; omega), Int.add_zero]
theorem cnt_all {r w s : Nat} (hs : sCnt g d r w s = 0) : ∀ j : Nat, sCnt g d r w (s + j) ≤ j ∧ (sCnt g d r w (s + j) = j ↔ ∀ i : Nat, i < j → sLook g d r ((s + i : Nat) : Int) = w) := by
  intro j
  induction j with
  | zero => exact ⟨by rw [Nat.add_zero, hs]; omega, ⟨fun _ i h => by omega, fun _ => by rw [Nat.add_zero, hs]; rfl⟩⟩
  | succ j ih =>
    rw [show s + (j + 1) = (s + j) + 1 from rfl, sCnt]
    by_cases q : sLook g d r ((s + j : Nat) : Int) = w
    · rw [if_pos q]
      refine ⟨by omega, ⟨fun h i hi => ?_, fun h => ?_⟩⟩
      · by_cases z : i = j
        · subst z; exact q
        · exact ih.2.mp (by omega) i (by omega)
      · have := ih.2.mpr (fun i hi => h i (by omega))
        omega
    · rw [if_neg q]
      refine ⟨by omega, ⟨fun h => by omega, fun h => absurd (h j (by omega)) q⟩⟩
theorem read_all (hV : sV g) {r w : Nat} (hr : (r : Int) < g 33) (hw : (w : Int) < g 24) : sRead g d r w = sLast g w ↔ ∀ m : Int, g (12 + w) ≤ m → m < g (12 + w) + sLast g w → sLook g d r m = w := by
  obtain ⟨a1, a2, a3, a4⟩ := hV.2.2.2.2.1 w hw
  have b1 := sLast_b a4.1 a4.2
  obtain ⟨s, hs⟩ : ∃ s : Nat, g (12 + w) = s := ⟨(g (12 + w)).toNat, by omega⟩
  obtain ⟨j, hj⟩ : ∃ j : Nat, sLast g w = j := ⟨(sLast g w).toNat, by omega⟩
  have e0 : sCnt g d r w s = 0 := cnt_lo hV hr s (by omega)
  have e1 : sRead g d r w = sCnt g d r w (s + j) := by
    have := cnt_hi hV (d := d) hr (s := s + j) (w := w) (by omega) (80 - (s + j))
    rw [show s + j + (80 - (s + j)) = 80 by omega] at this
    exact this
  rw [e1, hj, (cnt_all e0 j).2]
  constructor
  · intro h m h1 h2
    have := h (m - s).toNat (by omega)
    rwa [show ((s + (m - s).toNat : Nat) : Int) = m by omega] at this
  · intro h i hi
    exact h _ (by omega) (by omega)
/-- one that draws a reader off -/
abbrev sRiv (g : Nat → Int) (d : Nat → Bool) (r w v : Nat) : Prop := v ≠ w ∧ sGoes g d v ∧ g (12 + v) < g (12 + w) + sLast g w ∧ g (12 + w) < g (12 + v) + sLast g v ∧ 0 < sLast g v ∧ sFar g r v ≤ sWide g v ∧ (sFar g r v < sFar g r w ∨ (sFar g r v = sFar g r w ∧ v < w))
abbrev sAlone (g : Nat → Int) (r w : Nat) : Prop := 0 < sLast g w ∧ sFar g r w ≤ sWide g w ∧ ∀ m : Nat, m < 80 → g (12 + w) ≤ m → (m : Int) < g (12 + w) + sLast g w → ¬ sCough g r m
theorem whole_iff (hV : sV g) {r w : Nat} (hr : (r : Int) < g 33) (hw : (w : Int) < g 24) : sWhole g d r w ↔ (sGoes g d w ∧ sAlone g r w ∧ ∀ v : Nat, (v : Int) < g 24 → ¬ sRiv g d r w v) := by
  obtain ⟨a1, a2, a3, a4⟩ := hV.2.2.2.2.1 w hw
  have b1 := sLast_b a4.1 a4.2
  constructor
  · intro ⟨h1, h2, h3⟩
    have ha := (read_all hV hr hw).mp h3
    have hl := (look_some (d := d) hV hr (g (12 + w)) w).mp (ha _ (by omega) (by omega))
    refine ⟨h1, ⟨h2, hl.2.2.1.1, fun m q0 q1 q2 => ((look_some hV hr m w).mp (ha m q1 q2)).1⟩, fun v hv q => ?_⟩
    obtain ⟨q1, q2, q3, q4, q4', q5, q6⟩ := q
    by_cases z : g (12 + w) ≤ g (12 + v)
    · have := ((look_some (d := d) hV hr (g (12 + v)) w).mp (ha _ z q3)).2.2.2 v hv ⟨q5, q2, by omega, by omega⟩
      omega
    · have := hl.2.2.2 v hv ⟨q5, q2, by omega, by omega⟩
      omega
  · intro ⟨h1, ⟨h2, h3, h4⟩, h5⟩
    refine ⟨h1, h2, (read_all hV hr hw).mpr fun m q1 q2 => (look_some hV hr m w).mpr ⟨?_, hw, ⟨h3, h1, q1, by omega⟩, fun v hv q => ?_⟩⟩
    · have := h4 m.toNat (by omega) (by omega) (by omega)
      rwa [show ((m.toNat : Nat) : Int) = m by omega] at this
    · obtain ⟨c1, c2, c3, c4⟩ := q
      by_cases z : v = w
      · subst z; right; exact ⟨rfl, by omega⟩
      · by_cases y : sFar g r w < sFar g r v ∨ (sFar g r w = sFar g r v ∧ w ≤ v)
        · exact y
        · refine absurd ⟨z, c2, ?_, ?_, ?_, c1, ?_⟩ (h5 v hv)
          · omega
          · omega
          · omega
          · omega
end LOO
/-! the class's questions of a night -/
section SHQ
variable {σ : rp_S} {g : Nat → Int} {d : Nat → Bool}
theorem cMinAt (hS : SH σ g d) (hV : sV g) {r w : Nat} (hr : (r : Int) < g 33) (hw : (w : Int) < g 24) : fX3_minutesAt σ (rI r) (rI w) = some (rI (sRead g d r w)) := by
  obtain ⟨a1, a2, a3, a4⟩ := hV.2.2.2.2.1 w hw
  have v1 := hV.1
  have b1 := sLast_b a4.1 a4.2
  obtain ⟨e1, e2, e3, e4⟩ := hS.2 w hw
  obtain ⟨s, hs⟩ : ∃ s : Nat, g (12 + w) = s := ⟨(g (12 + w)).toNat, by omega⟩
  obtain ⟨l, hl⟩ : ∃ l : Nat, (if sGoes g d w then sLast g w else 0) = l := ⟨(if sGoes g d w then sLast g w else 0).toNat, by split <;> omega⟩
  have hl2 : l ≤ 18 := by have : (if sGoes g d w then sLast g w else 0) ≤ 18 := by split <;> omega
                          omega
  have lk : ∀ m : Int, sLook g d r m = w → g (12 + w) ≤ m ∧ m < g (12 + w) + l := fun m q => by
    have u := look_up hV hr q
    rw [if_pos u.1] at hl
    have := u.2
    omega
  have hi : ∀ k : Nat, sCnt g d r w (s + l + k) = sCnt g d r w (s + l) := by
    intro k
    induction k with
    | zero => rfl
    | succ k ih => rw [show s + l + (k + 1) = (s + l + k) + 1 from rfl, sCnt, ih, if_neg (fun q => by have := lk _ q; omega), Int.add_zero]
  have loop : ∀ (k i n : Nat), k < n → i + k = l → fX3_minutesAt_10 σ n (rI r) (rI w) (rI (sCnt g d r w (s + i))) (rI ((s + i : Nat) : Int)) = some (rI (sCnt g d r w (s + l))) := by
    intro k
    induction k with
    | zero =>
      intro i n hn hi
      obtain ⟨n, rfl⟩ : ∃ q, n = q + 1 := ⟨n - 1, by omega⟩
      rw [fX3_minutesAt_10, rd_n (by omega) (by omega), ob, e2, hl, if_pos (by rw [rI_le (by omega) (by omega) (by omega) (by omega)]; omega), show i = l by omega]
    | succ k ih =>
      intro i n hn hi
      obtain ⟨n, rfl⟩ : ∃ q, n = q + 1 := ⟨n - 1, by omega⟩
      have bl := sLook_b d r ((s + i : Nat) : Int) v1.1
      rw [fX3_minutesAt_10, rd_n (by omega) (by omega), ob, e2, hl, if_neg (by rw [rI_le (by omega) (by omega) (by omega) (by omega)]; omega), cLook hS hV hr (by omega) (by omega), ob]
      unfold fX3_minutesAt_35
      simp (disch := omega) only [rI_eq]
      simp only [iI_s]
      have e := ih (i + 1) n (by omega) (by omega)
      rw [show s + (i + 1) = (s + i) + 1 from rfl] at e
      rw [sCnt] at e
      by_cases q : sLook g d r ((s + i : Nat) : Int) = w
      · rw [if_pos q] at e ⊢
        rw [rI_add]
        exact e
      · rw [if_neg q, Int.add_zero] at e
        rw [if_neg q]
        exact e
  unfold fX3_minutesAt
  rw [rd_n (by omega) (by omega), ob, e1, hs]
  have e0 : sCnt g d r w s = 0 := cnt_lo hV hr s (by omega)
  have e := loop l 0 1000 (by omega) (by omega)
  rw [Nat.add_zero, e0] at e
  rw [e]
  have := hi (80 - (s + l))
  rw [show s + l + (80 - (s + l)) = 80 by omega] at this
  rw [← this]
  rfl
theorem cDist (hS : SH σ g d) (hV : sV g) {r w : Nat} (hr : (r : Int) < g 33) (hw : (w : Int) < g 24) : fX3_distance σ (rI r) (rI w) = some (rI (sFar g r w)) := by
  obtain ⟨r1, r2⟩ := hV.2.2.2.2.2 r hr
  have v1 := hV.1
  obtain ⟨e1, e2, e3, e4⟩ := hS.2 w hw
  unfold fX3_distance
  rw [rd_n (by omega) (by omega), ob, cRd0 hS.1 hV hr, ob, e3, far_abs r1.1 r1.2]
theorem cReach (hS : SH σ g d) (hV : sV g) {r w : Nat} (hr : (r : Int) < g 33) (hw : (w : Int) < g 24) : fX3_reaches σ (rI r) (rI w) = some (if sFar g r w ≤ sWide g w then rI 1 else rI 0) := by
  obtain ⟨a1, a2, a3, a4⟩ := hV.2.2.2.2.1 w hw
  obtain ⟨r1, r2⟩ := hV.2.2.2.2.2 r hr
  have v1 := hV.1
  have c2 := sFar_b (w := w) r1.1 r1.2
  have c3 := sWide_b a4.1 a4.2
  obtain ⟨e1, e2, e3, e4⟩ := hS.2 w hw
  unfold fX3_reaches
  rw [cDist hS hV hr hw, ob, rd_n (by omega) (by omega), ob, e4]
  simp (disch := omega) only [rI_lt]
  by_cases q : sWide g w < sFar g r w
  · rw [if_pos q, if_neg (by omega)]
  · rw [if_neg q, if_pos (by omega)]
theorem cAlone (hS : SH σ g d) (hV : sV g) {r w : Nat} (hr : (r : Int) < g 33) (hw : (w : Int) < g 24) : fX3_isWholeAlone σ (rI r) (rI w) = some (if sGoes g d w ∧ sAlone g r w then rI 1 else rI 0) := by
  obtain ⟨a1, a2, a3, a4⟩ := hV.2.2.2.2.1 w hw
  have v1 := hV.1
  have b1 := sLast_b a4.1 a4.2
  obtain ⟨e1, e2, e3, e4⟩ := hS.2 w hw
  unfold fX3_isWholeAlone
  rw [rd_n (by omega) (by omega), ob, rd_n (by omega) (by omega), ob, cReach hS hV hr hw, ob, ob, e1, e2]
  by_cases q1 : sGoes g d w
  · rw [if_pos q1] at e2 ⊢
    simp (disch := omega) only [rI_le, rb_0]
    by_cases q2 : g (12 + w) + sLast g w ≤ g (12 + w)
    · rw [if_pos q2, if_neg (fun z => by have := z.2.1; omega)]
    · rw [if_neg q2]
      by_cases q3 : sFar g r w ≤ sWide g w
      · rw [if_neg (fun z => z q3)]
        obtain ⟨s, hs⟩ : ∃ s : Nat, g (12 + w) = s := ⟨(g (12 + w)).toNat, by omega⟩
        obtain ⟨l, hl⟩ : ∃ l : Nat, sLast g w = l := ⟨(sLast g w).toNat, by omega⟩
        have loop : ∀ (k i n : Nat), k < n → i + k = l → (∀ j : Nat, j < i → ¬ sCough g r ((s + j : Nat) : Int)) → fX3_isWholeAlone_33 σ n (rI r) (rI w) (rI ((s + i : Nat) : Int)) = some (if sGoes g d w ∧ sAlone g r w then rI 1 else rI 0) := by
          intro k
          induction k with
          | zero =>
            intro i n hn hi hj
            obtain ⟨n, rfl⟩ : ∃ q, n = q + 1 := ⟨n - 1, by omega⟩
            rw [fX3_isWholeAlone_33, rd_n (by omega) (by omega), ob, e2, if_pos (by rw [rI_le (by omega) (by omega) (by omega) (by omega)]; omega), if_pos]
            refine ⟨q1, by omega, q3, fun m h0 h1 h2 => ?_⟩
            have := hj (m - s) (by omega)
            rwa [show s + (m - s) = m by omega] at this
          | succ k ih =>
            intro i n hn hi hj
            obtain ⟨n, rfl⟩ : ∃ q, n = q + 1 := ⟨n - 1, by omega⟩
            rw [fX3_isWholeAlone_33, rd_n (by omega) (by omega), ob, e2, if_neg (by rw [rI_le (by omega) (by omega) (by omega) (by omega)]; omega), cCough hS hV hr (by omega) (by omega), ob]
            simp only [rb_0]
            by_cases q : sCough g r ((s + i : Nat) : Int)
            · rw [if_neg (fun z => z q), if_neg (fun z => z.2.2.2 (s + i) (by omega) (by omega) (by omega) q)]
            · rw [if_pos q, iI_s]
              refine ih (i + 1) n (by omega) (by omega) (fun j hj2 => ?_)
              by_cases z : j = i
              · subst z; exact q
              · exact hj j (by omega)
        have := loop l 0 1000 (by omega) (by omega) (fun j h => absurd h (Nat.not_lt_zero j))
        rw [Nat.add_zero] at this
        have e9 : rI (g (12 + w)) = rI (s : Int) := by rw [hs]
        rw [e9]
        exact this
      · rw [if_pos q3, if_neg (fun z => q3 z.2.2.1)]
  · rw [if_neg q1, if_neg (fun z : sGoes g d w ∧ sAlone g r w => q1 z.1), if_pos (by rw [rI_le (by omega) (by omega) (by omega) (by omega)]; omega)]
/-- how many draw him off -/
def sRc (g : Nat → Int) (d : Nat → Bool) (r w : Nat) : Nat → Int
  | 0 => 0
  | k + 1 => sRc g d r w k + (if sRiv g d r w k then 1 else 0)
theorem sRc_b (g : Nat → Int) (d : Nat → Bool) (r w : Nat) : ∀ k : Nat, 0 ≤ sRc g d r w k ∧ sRc g d r w k ≤ k := by
  intro k
  induction k with
  | zero => rw [sRc]; omega
  | succ k ih => rw [sRc]; split <;> omega
theorem sRc_0 (g : Nat → Int) (d : Nat → Bool) (r w : Nat) : ∀ k : Nat, sRc g d r w k = 0 ↔ ∀ v : Nat, v < k → ¬ sRiv g d r w v := by
  intro k
  induction k with
  | zero => exact ⟨fun _ v h => by omega, fun _ => rfl⟩
  | succ k ih =>
    have b := sRc_b g d r w k
    rw [sRc]
    by_cases q : sRiv g d r w k
    · rw [if_pos q]
      exact ⟨fun h => by omega, fun h => absurd q (h k (by omega))⟩
    · rw [if_neg q]
      refine ⟨fun h v hv => ?_, fun h => ?_⟩
      · by_cases z : v = k
        · subst z; exact q
        · exact ih.mp (by omega) v (by omega)
      · have := ih.mpr (fun v hv => h v (by omega))
        omega
theorem cOver (hS : SH σ g d) (hV : sV g) {w v : Nat} (hw : (w : Int) < g 24) (hv : (v : Int) < g 24) (hgw : sGoes g d w) : fX3_overlap σ (rI v) (rI w) = some (if sGoes g d v ∧ g (12 + v) < g (12 + w) + sLast g w ∧ g (12 + w) < g (12 + v) + sLast g v ∧ 0 < sLast g v ∧ 0 < sLast g w then rI 1 else rI 0) := by
  obtain ⟨a1, a2, a3, a4⟩ := hV.2.2.2.2.1 w hw
  obtain ⟨b1, b2, b3, b4⟩ := hV.2.2.2.2.1 v hv
  have v1 := hV.1
  have l1 := sLast_b a4.1 a4.2
  have l2 := sLast_b b4.1 b4.2
  obtain ⟨e1, e2, e3, e4⟩ := hS.2 w hw
  obtain ⟨f1, f2, f3, f4⟩ := hS.2 v hv
  rw [if_pos hgw] at e2
  unfold fX3_overlap
  rw [rd_n (by omega) (by omega), ob, rd_n (by omega) (by omega), ob, rd_n (by omega) (by omega), ob, rd_n (by omega) (by omega), ob, e1, e2, f1, f2]
  by_cases q : sGoes g d v
  · rw [if_pos q, min_ok (by omega) (by omega) (by omega) (by omega), max_ok (by omega) (by omega) (by omega) (by omega)]
    have le := rI_le (a := if g (12 + w) + sLast g w < g (12 + v) + sLast g v then g (12 + w) + sLast g w else g (12 + v) + sLast g v) (b := if g (12 + v) < g (12 + w) then g (12 + w) else g (12 + v)) (by split <;> omega) (by split <;> omega) (by split <;> omega) (by split <;> omega)
    by_cases z : (if g (12 + w) + sLast g w < g (12 + v) + sLast g v then g (12 + w) + sLast g w else g (12 + v) + sLast g v) ≤ (if g (12 + v) < g (12 + w) then g (12 + w) else g (12 + v))
    · rw [if_pos (le.mpr z), if_neg]
      intro y
      have := y.2
      split at z <;> split at z <;> omega
    · rw [if_neg (fun y => z (le.mp y)), if_pos]
      refine ⟨q, ?_⟩
      split at z <;> split at z <;> omega
  · rw [if_neg q, min_ok (by omega) (by omega) (by omega) (by omega), max_ok (by omega) (by omega) (by omega) (by omega)]
    rw [if_neg (fun y : sGoes g d v ∧ _ => q y.1), if_pos]
    rw [rI_le (by split <;> omega) (by split <;> omega) (by split <;> omega) (by split <;> omega)]
    split <;> split <;> omega
theorem cBefore (hS : SH σ g d) (hV : sV g) {r w v : Nat} (hr : (r : Int) < g 33) (hw : (w : Int) < g 24) (hv : (v : Int) < g 24) : fX3_isBefore σ (rI r) (rI v) (rI w) = some (if sFar g r v < sFar g r w ∨ (sFar g r v = sFar g r w ∧ v < w) then rI 1 else rI 0) := by
  obtain ⟨r1, r2⟩ := hV.2.2.2.2.2 r hr
  have v1 := hV.1
  have c2 := sFar_b (w := w) r1.1 r1.2
  have c3 := sFar_b (w := v) r1.1 r1.2
  unfold fX3_isBefore
  rw [cDist hS hV hr hv, ob, cDist hS hV hr hw, ob]
  simp (disch := omega) only [rI_lt, rI_eq, rI_le]
  by_cases q1 : sFar g r v < sFar g r w
  · rw [if_pos q1, if_pos (Or.inl q1)]
  · rw [if_neg q1]
    by_cases q2 : sFar g r v = sFar g r w
    · rw [if_pos q2]
      by_cases q3 : (w : Int) ≤ v
      · rw [if_pos q3, if_neg (by omega)]
      · rw [if_neg q3, if_pos (by omega)]
    · rw [if_neg q2, if_neg (by omega)]
theorem cRivals (hS : SH σ g d) (hV : sV g) {r w : Nat} (hr : (r : Int) < g 33) (hw : (w : Int) < g 24) (hgw : sGoes g d w) (hlw : 0 < sLast g w) : fX3_rivalsOf σ (rI r) (rI w) = some (rI (sRc g d r w (g 24).toNat)) := by
  have v1 := hV.1
  have loop : ∀ (k v n : Nat), k < n → (v : Int) + k = g 24 → fX3_rivalsOf_5 σ n (rI r) (rI w) (rI (sRc g d r w v)) (rI v) = some (rI (sRc g d r w (g 24).toNat)) := by
    intro k
    induction k with
    | zero =>
      intro v n hn hv
      obtain ⟨n, rfl⟩ : ∃ q, n = q + 1 := ⟨n - 1, by omega⟩
      rw [fX3_rivalsOf_5, hS.1.1, if_pos (by rw [rI_le (by omega) (by omega) (by omega) (by omega)]; omega), show (g 24).toNat = v by omega]
    | succ k ih =>
      intro v n hn hv
      obtain ⟨n, rfl⟩ : ∃ q, n = q + 1 := ⟨n - 1, by omega⟩
      have hv24 : (v : Int) < g 24 := by omega
      have e := ih (v + 1) n (by omega) (by omega)
      rw [sRc] at e
      rw [fX3_rivalsOf_5, hS.1.1, if_neg (by rw [rI_le (by omega) (by omega) (by omega) (by omega)]; omega), cOver hS hV hw hv24 hgw, ob, cReach hS hV hr hv24, ob, cBefore hS hV hr hw hv24, ob]
      unfold fX3_rivalsOf_57
      simp (disch := omega) only [rI_eq, rb_0]
      simp only [iI_s]
      by_cases q1 : (v : Int) = w
      · rw [if_pos q1]
        rw [if_neg (fun z : sRiv g d r w v => z.1 (by omega)), Int.add_zero] at e
        exact e
      · rw [if_neg q1]
        by_cases q2 : sGoes g d v ∧ g (12 + v) < g (12 + w) + sLast g w ∧ g (12 + w) < g (12 + v) + sLast g v ∧ 0 < sLast g v ∧ 0 < sLast g w
        · rw [if_neg (fun z => z q2)]
          by_cases q3 : sFar g r v ≤ sWide g v
          · rw [if_neg (fun z => z q3)]
            by_cases q4 : sFar g r v < sFar g r w ∨ (sFar g r v = sFar g r w ∧ v < w)
            · rw [if_neg (fun z => z q4), rI_add]
              rw [if_pos ⟨fun z => q1 (by omega), q2.1, q2.2.1, q2.2.2.1, q2.2.2.2.1, q3, q4⟩] at e
              exact e
            · rw [if_pos q4]
              rw [if_neg (fun z : sRiv g d r w v => q4 z.2.2.2.2.2.2), Int.add_zero] at e
              exact e
          · rw [if_pos q3]
            rw [if_neg (fun z : sRiv g d r w v => q3 z.2.2.2.2.2.1), Int.add_zero] at e
            exact e
        · rw [if_pos q2]
          rw [if_neg (fun z : sRiv g d r w v => q2 ⟨z.2.1, z.2.2.1, z.2.2.2.1, z.2.2.2.2.1, hlw⟩), Int.add_zero] at e
          exact e
  unfold fX3_rivalsOf
  exact loop (g 24).toNat 0 1000 (by omega) (by omega)
theorem cWhole (hS : SH σ g d) (hV : sV g) {r w : Nat} (hr : (r : Int) < g 33) (hw : (w : Int) < g 24) : fX3_isWhole σ (rI r) (rI w) = some (if sWhole g d r w then rI 1 else rI 0) := by
  have hb := sRc_b g d r w (g 24).toNat
  have v1 := hV.1
  unfold fX3_isWhole
  rw [cAlone hS hV hr hw, ob]
  simp only [rb_0]
  by_cases q : sGoes g d w ∧ sAlone g r w
  · rw [if_neg (fun z => z q), cRivals hS hV hr hw q.1 q.2.1, ob]
    simp (disch := omega) only [rI_eq0]
    by_cases q2 : sRc g d r w (g 24).toNat = 0
    · rw [if_pos q2, if_pos ((whole_iff hV hr hw).mpr ⟨q.1, q.2, fun v hv => (sRc_0 g d r w _).mp q2 v (by omega)⟩)]
    · rw [if_neg q2, if_neg (fun z => q2 ((sRc_0 g d r w _).mpr fun v hv => ((whole_iff hV hr hw).mp z).2.2 v (by omega)))]
  · rw [if_pos q, if_neg (fun z => q ⟨((whole_iff hV hr hw).mp z).1, ((whole_iff hV hr hw).mp z).2.1⟩)]
end SHQ
