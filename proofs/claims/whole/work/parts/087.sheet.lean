/-! count, sheet, lay -/
theorem sh_bit : ∀ L : Nat, L < 16 → ∀ k : Nat, k < 4 → (rI (L : Int) >>> (rI (k : Int) &&& 31)) &&& rI 1 = rI ((L / 2 ^ k % 2 : Nat) : Int) := by decide +kernel
theorem sh_or : ∀ L : Nat, L < 16 → ∀ k : Nat, k < 4 → rI (L : Int) ||| (rI 1 <<< (rI (k : Int) &&& 31)) = rI ((L ||| 2 ^ k : Nat) : Int) := by decide +kernel
theorem sh_lt : ∀ L : Nat, L < 16 → ∀ k : Nat, k < 4 → (L ||| 2 ^ k) < 16 := by decide +kernel
theorem sh_at : ∀ L : Nat, L < 16 → ∀ k : Nat, k < 4 → ∀ j : Nat, j < 4 → (L ||| 2 ^ k) / 2 ^ j % 2 = if j = k then 1 else L / 2 ^ j % 2 := by decide +kernel
theorem cNothing {σ : rp_S} {L k : Nat} (h : σ 18 3 = rI (L : Int)) (hL : L < 16) (hk : k < 4) : fX2_isNothing σ (rI (k : Int)) = some (if L / 2 ^ k % 2 = 0 then rI 1 else rI 0) := by
  unfold fX2_isNothing
  rw [h, sh_bit L hL k hk]
  have b := Nat.mod_lt (L / 2 ^ k) (show 2 > 0 by omega)
  have e : L / 2 ^ k % 2 = 0 ∨ L / 2 ^ k % 2 = 1 := by omega
  rcases e with e | e
  · rw [e, if_pos rfl, if_pos (by decide)]
  · rw [e, if_neg (show ¬ (1 : Nat) = 0 by omega), if_neg (by decide)]
theorem cPow {σ : rp_S} {g : Nat → Int} (hN : NT σ 1 g) (hV : sV g) : fX1_powerOfAll σ 1 = some (rI (sSum (fun w => g (18 + w)) (g 24).toNat)) := by
  have v1 := hV.1
  have loop : ∀ (k w n : Nat), k < n → (w : Int) + k = g 24 → fX1_powerOfAll_4 1 σ n (rI (sSum (fun w => g (18 + w)) w)) (rI w) = some (rI (sSum (fun w => g (18 + w)) (g 24).toNat)) := by
    intro k
    induction k with
    | zero =>
      intro w n hn hw
      obtain ⟨n, rfl⟩ : ∃ q, n = q + 1 := ⟨n - 1, by omega⟩
      rw [fX1_powerOfAll_4, hN.1, if_pos (by rw [rI_le (by omega) (by omega) (by omega) (by omega)]; omega), show (g 24).toNat = w by omega]
    | succ k ih =>
      intro w n hn hw
      obtain ⟨n, rfl⟩ : ∃ q, n = q + 1 := ⟨n - 1, by omega⟩
      have e := ih (w + 1) n (by omega) (by omega)
      rw [sSum] at e
      rw [fX1_powerOfAll_4, hN.1, if_neg (by rw [rI_le (by omega) (by omega) (by omega) (by omega)]; omega), cOf3 hN hV (by omega), ob, rI_add, iI_s]
      exact e
  unfold fX1_powerOfAll
  exact loop (g 24).toNat 0 1000 (by omega) (by omega)
theorem cCgh {σ : rp_S} {g : Nat → Int} (hN : NT σ 1 g) (hV : sV g) : fX1_coughsOfAll σ 1 = some (rI (sSum (fun r => g (29 + r)) (g 33).toNat)) := by
  have v1 := hV.2.1
  have loop : ∀ (k w n : Nat), k < n → (w : Int) + k = g 33 → fX1_coughsOfAll_4 1 σ n (rI (sSum (fun r => g (29 + r)) w)) (rI w) = some (rI (sSum (fun r => g (29 + r)) (g 33).toNat)) := by
    intro k
    induction k with
    | zero =>
      intro w n hn hw
      obtain ⟨n, rfl⟩ : ∃ q, n = q + 1 := ⟨n - 1, by omega⟩
      rw [fX1_coughsOfAll_4, hN.2.1, if_pos (by rw [rI_le (by omega) (by omega) (by omega) (by omega)]; omega), show (g 33).toNat = w by omega]
    | succ k ih =>
      intro w n hn hw
      obtain ⟨n, rfl⟩ : ∃ q, n = q + 1 := ⟨n - 1, by omega⟩
      have e := ih (w + 1) n (by omega) (by omega)
      rw [sSum] at e
      have c : fX1_ofReader σ 1 (rI w) (rI 1) = some (rI (g (29 + w))) := cRd (k := 1) hN hV (by omega) (by omega)
      rw [fX1_coughsOfAll_4, hN.2.1, if_neg (by rw [rI_le (by omega) (by omega) (by omega) (by omega)]; omega), c, ob, rI_add, iI_s]
      exact e
  unfold fX1_coughsOfAll
  exact loop (g 33).toNat 0 1000 (by omega) (by omega)
section OPS
variable {σ : rp_S}
theorem op_count (h : Inv σ) (v : Int32) : ∃ r, fX6_count σ v = some r ∧ fX7_count σ v = some r := by
  obtain ⟨g, hp, ht, hs, hi, hsh, hc, hto, hfa⟩ := id h
  obtain ⟨hP, hV, hN⟩ := id hp
  have v1 := hV.1
  have v2 := hV.2.1
  obtain ⟨n, n1, n2, n3, n4⟩ := hs
  obtain ⟨m, m1, m2, m3, m4⟩ := ht
  obtain ⟨b0, b1, c0, c1, d0, d1, d2, i0, i1⟩ := hi
  obtain ⟨L, l1, l2, l3⟩ := hsh
  have l0 := l3 0 (by omega)
  have inner : ∀ (k r f : Nat) (x : Int32), k < f → (r : Int) + k = g 33 → fX7_count_41 σ f v x (rI (sSum (fun r => g (29 + r)) r)) (rI r) = fX7_count_41 σ 1 v x (rI (sSum (fun r => g (29 + r)) (g 33).toNat)) (rI (g 33)) := by
    intro k
    induction k with
    | zero =>
      intro r f x hf hr
      obtain ⟨f, rfl⟩ : ∃ q, f = q + 1 := ⟨f - 1, by omega⟩
      have e : (r : Int) = g 33 := by omega
      have le : rI (g 33) ≤ rI (g 33) := by rw [rI_le (by omega) (by omega) (by omega) (by omega)]; omega
      rw [fX7_count_41, fX7_count_41, rd33 hP, ob, e, show (g 33).toNat = r by omega, ob, if_pos le, if_pos le]
    | succ k ih =>
      intro r f x hf hr
      obtain ⟨f, rfl⟩ : ∃ q, f = q + 1 := ⟨f - 1, by omega⟩
      have e := ih (r + 1) f x (by omega) (by omega)
      rw [sSum] at e
      have c : rq_rd σ 29 180 (rI 29 + rI r) = some (rI (g (29 + r))) := by rw [rI_add]; exact rd0 hP (29 + r) (by omega) (by omega)
      rw [← e, fX7_count_41, rd33 hP, ob, if_neg (by rw [rI_le (by omega) (by omega) (by omega) (by omega)]; omega), c, ob, rI_add, iI_s]
  have outer : ∀ (k w f : Nat), k < f → (w : Int) + k = g 24 → fX7_count_7 σ f v (rI (sSum (fun w => g (18 + w)) w)) (rI 0) (rI w) = fX7_count_41 σ 1 v (rI (sSum (fun w => g (18 + w)) (g 24).toNat)) (rI (sSum (fun r => g (29 + r)) (g 33).toNat)) (rI (g 33)) := by
    intro k
    induction k with
    | zero =>
      intro w f hf hw
      obtain ⟨f, rfl⟩ : ∃ q, f = q + 1 := ⟨f - 1, by omega⟩
      rw [fX7_count_7, rd24 hP, ob, if_pos (by rw [rI_le (by omega) (by omega) (by omega) (by omega)]; omega), show (g 24).toNat = w by omega]
      exact inner (g 33).toNat 0 1000 _ (by omega) (by omega)
    | succ k ih =>
      intro w f hf hw
      obtain ⟨f, rfl⟩ : ∃ q, f = q + 1 := ⟨f - 1, by omega⟩
      have e := ih (w + 1) f (by omega) (by omega)
      rw [sSum] at e
      have c : rq_rd σ 29 180 (rI 18 + rI w) = some (rI (g (18 + w))) := by rw [rI_add]; exact rd0 hP (18 + w) (by omega) (by omega)
      rw [← e, fX7_count_7, rd24 hP, ob, if_neg (by rw [rI_le (by omega) (by omega) (by omega) (by omega)]; omega), c, ob, rI_add, iI_s]
  have eM : fX7_count σ v = fX7_count_41 σ 1 v (rI (sSum (fun w => g (18 + w)) (g 24).toNat)) (rI (sSum (fun r => g (29 + r)) (g 33).toNat)) (rI (g 33)) := by
    unfold fX7_count
    exact outer (g 24).toNat 0 1000 (by omega) (by omega)
  rw [eM, fX7_count_41, rd33 hP, ob, if_pos (by rw [rI_le (by omega) (by omega) (by omega) (by omega)]; omega)]
  unfold fX6_count
  by_cases q0 : v = rI 0
  · rw [if_pos q0, if_pos q0, n2, n3]; exact ⟨_, rfl, rfl⟩
  · rw [if_neg q0, if_neg q0]
    by_cases q1 : v = rI 1
    · rw [if_pos q1, if_pos q1, d2, bc_ok _ (by omega), ob, rd_ok (by omega) (by omega) (by omega), ob]
      have d0' : σ 37 (0 : Int).toNat = rI b0 := d0
      have d1' : σ 37 (1 : Int).toNat = rI b1 := d1
      unfold fX7_count_131 fX7_count_145
      rw [d0', rd_ok (by omega) (by omega) (by omega), ob, d1']
      have h0 : b0 = 0 ∨ b0 = 1 := by omega
      have h1 : b1 = 0 ∨ b1 = 1 := by omega
      rcases h0 with rfl | rfl <;> rcases h1 with rfl | rfl <;> exact ⟨_, rfl, by decide⟩
    · rw [if_neg q1, if_neg q1]
      by_cases q2 : v = rI 2
      · rw [if_pos q2, if_pos q2, m2, m3]; exact ⟨_, rfl, rfl⟩
      · rw [if_neg q2, if_neg q2]
        by_cases q3 : v = rI 3
        · have cn : fX2_isNothing σ (rI 0) = some (if L / 2 ^ 0 % 2 = 0 then rI 1 else rI 0) := cNothing (k := 0) l2 l1 (by omega)
          rw [if_pos q3, if_pos q3, cn, ob, rd_ok (by omega) (by omega) (by omega), ob]
          rcases l0 with ⟨e, e2⟩ | ⟨e, la, sz, e1, e2, e3, e4, e5, e6, e7⟩
          · have e2' : σ 38 (0 : Int).toNat = rI (-4) := e2
            rw [e2', if_pos e, if_pos rfl, if_neg (by decide)]
            exact ⟨_, rfl, rfl⟩
          · have e4' : σ 38 (0 : Int).toNat = rI la := e4
            have e5' : σ 21 (0 : Int).toNat = rI sz := e5
            have e6' : σ 39 (0 : Int).toNat = rI sz := e6
            unfold fX2_sizeOf
            rw [e4', if_neg (show ¬ L / 2 ^ 0 % 2 = 0 by omega), if_pos (by decide), rd_ok (by omega) (by omega) (by omega), ob, ob, if_neg (by rw [rI_eq (by omega) (by omega) (by omega) (by omega)]; omega), rd_ok (by omega) (by omega) (by omega), ob, e5', e6']
            exact ⟨_, rfl, rfl⟩
        · rw [if_neg q3, if_neg q3]
          by_cases q4 : v = rI 4
          · rw [if_pos q4, if_pos q4, cPow hN hV, ob]; exact ⟨_, rfl, rfl⟩
          · rw [if_neg q4, if_neg q4]
            by_cases q5 : v = rI 5
            · rw [if_pos q5, if_pos q5, cCgh hN hV, ob]; exact ⟨_, rfl, rfl⟩
            · rw [if_neg q5, if_neg q5]; exact ⟨_, rfl, rfl⟩
theorem op_sheet (h : Inv σ) (u v x : Int32) : OpW (fX6_sheet σ u v x) (fun τ => fX7_sheet τ u v x) := by
  obtain ⟨g, hp, ht, hs, hi, hsh, hc, hto, hfa⟩ := id h
  by_cases q : 0 ≤ u.toInt ∧ u.toInt ≤ 3
  · by_cases q2 : 0 ≤ v.toInt ∧ v.toInt ≤ 2
    · by_cases q3 : x ≤ rI 40
      · by_cases q4 : 0 ≤ x
        · obtain ⟨k, rfl, hk2⟩ := toN q.1
          obtain ⟨la, rfl, hla⟩ := toN q2.1
          obtain ⟨X, hX⟩ : ∃ X, X = x.toInt := ⟨_, rfl⟩
          have eX : x = rI X := by rw [hX]; exact rI_of x
          subst eX
          have xb := i32_b (rI X)
          rw [← hX] at xb
          rw [rI_le (by omega) (by omega) (by omega) (by omega)] at q3
          rw [rI_ge0 (by omega) (by omega)] at q4
          obtain ⟨sz, rfl⟩ : ∃ sz : Nat, X = sz := ⟨X.toNat, by omega⟩
          obtain ⟨L, l1, l2, l3⟩ := id hsh
          have kl : k < 4 := by omega
          have cl : ∀ (t i n : Nat) (τ : rp_S), t < n → i + t = sz → ∃ τ', (∀ b, b ≠ 19 → τ' b = τ b) ∧ (∀ j, j < 40 * k + i ∨ 40 * k + sz ≤ j → τ' 19 j = τ 19 j) ∧ (∀ j, i ≤ j → j < sz → τ' 19 (40 * k + j) = rI 0) ∧ fX2_renew_29 n τ (rI k) (rI sz) (rI i) = some τ' := by
            intro t
            induction t with
            | zero =>
              intro i n τ hn hi
              obtain ⟨n, rfl⟩ : ∃ q, n = q + 1 := ⟨n - 1, by omega⟩
              rw [fX2_renew_29, if_pos (by rw [rI_le (by omega) (by omega) (by omega) (by omega)]; omega)]
              exact ⟨τ, fun _ _ => rfl, fun _ _ => rfl, fun j h1 h2 => by omega, rfl⟩
            | succ t ih =>
              intro i n τ hn hi
              obtain ⟨n, rfl⟩ : ∃ q, n = q + 1 := ⟨n - 1, by omega⟩
              have w : rq_wr τ 19 160 (rI k * rI 40 + rI i) (rI 0) = some (rp_up τ 19 (40 * k + i) (rI 0)) := by
                rw [rI_mul, rI_add, wr_ok (by omega) (by omega) (by omega), show ((k : Int) * 40 + (i : Int)).toNat = 40 * k + i by omega]
              obtain ⟨τ', a1, a2, a3, a4⟩ := ih (i + 1) n (rp_up τ 19 (40 * k + i) (rI 0)) (by omega) (by omega)
              refine ⟨τ', fun b hb => by rw [a1 b hb, up_ne hb], fun j hj => by rw [a2 j (by omega), up_nj (by omega)], fun j h1 h2 => ?_, ?_⟩
              · by_cases z : j = i
                · subst z; rw [a2 _ (by omega), up_eq]
                · exact a3 j (by omega) h2
              · rw [fX2_renew_29, if_neg (by rw [rI_le (by omega) (by omega) (by omega) (by omega)]; omega), w, ob, iI_s]
                exact a4
          have ml : ∀ (t i n : Nat) (τ : rp_S), t < n → i + t = 40 → ∃ τ', (∀ b, b ≠ 40 → τ' b = τ b) ∧ (∀ j, j < 40 * k + i ∨ 40 * k + 40 ≤ j → τ' 40 j = τ 40 j) ∧ (∀ j, i ≤ j → j < 40 → τ' 40 (40 * k + j) = rI 0) ∧ fX7_sheet_56 n τ (rI k) (rI i) = some (rI 1, τ') := by
            intro t
            induction t with
            | zero =>
              intro i n τ hn hi
              obtain ⟨n, rfl⟩ : ∃ q, n = q + 1 := ⟨n - 1, by omega⟩
              rw [fX7_sheet_56, if_pos (by rw [rI_le (by omega) (by omega) (by omega) (by omega)]; omega)]
              exact ⟨τ, fun _ _ => rfl, fun _ _ => rfl, fun j h1 h2 => by omega, rfl⟩
            | succ t ih =>
              intro i n τ hn hi
              obtain ⟨n, rfl⟩ : ∃ q, n = q + 1 := ⟨n - 1, by omega⟩
              have w : rq_wr τ 40 160 (rI 40 * rI k + rI i) (rI 0) = some (rp_up τ 40 (40 * k + i) (rI 0)) := by
                rw [rI_mul, rI_add, wr_ok (by omega) (by omega) (by omega), show ((40 : Int) * k + (i : Int)).toNat = 40 * k + i by omega]
              obtain ⟨τ', a1, a2, a3, a4⟩ := ih (i + 1) n (rp_up τ 40 (40 * k + i) (rI 0)) (by omega) (by omega)
              refine ⟨τ', fun b hb => by rw [a1 b hb, up_ne hb], fun j hj => by rw [a2 j (by omega), up_nj (by omega)], fun j h1 h2 => ?_, ?_⟩
              · by_cases z : j = i
                · subst z; rw [a2 _ (by omega), up_eq]
                · exact a3 j (by omega) h2
              · rw [fX7_sheet_56, if_neg (by rw [rI_le (by omega) (by omega) (by omega) (by omega)]; omega), w, ob, iI_s]
                exact a4
          obtain ⟨τ, a1, a2, a3, a4⟩ := cl sz 0 1000 (rp_up (rp_up (rp_up σ 18 3 (rI ((L ||| 2 ^ k : Nat) : Int))) 20 k (rI la)) 21 k (rI sz)) (by omega) (by omega)
          obtain ⟨μ, e1, e2, e3, e4⟩ := ml 40 0 1000 (rp_up (rp_up τ 38 k (rI la)) 39 k (rI sz)) (by omega) (by omega)
          have f : ∀ b, b ≠ 18 → b ≠ 19 → b ≠ 20 → b ≠ 21 → b ≠ 38 → b ≠ 39 → b ≠ 40 → μ b = σ b := fun b z1 z2 z3 z4 z5 z6 z7 => by
            rw [e1 b z7, up_ne z6, up_ne z5, a1 b z2, up_ne z4, up_ne z3, up_ne z1]
          refine ⟨rI 1, τ, μ, ?_, ?_, ⟨g, hp.kept (fun j _ => by rw [f 29 (by omega) (by omega) (by omega) (by omega) (by omega) (by omega) (by omega)]) (f 1 (by omega) (by omega) (by omega) (by omega) (by omega) (by omega) (by omega)) (f 2 (by omega) (by omega) (by omega) (by omega) (by omega) (by omega) (by omega)) (f 3 (by omega) (by omega) (by omega) (by omega) (by omega) (by omega) (by omega)), ht.kept ?_ ?_ ?_ ?_, hs.kept ?_ ?_ ?_ ?_ ?_, hi.kept ?_ ?_ (fun b h1 h2 => f b (by omega) (by omega) (by omega) (by omega) (by omega) (by omega) (by omega)) (fun j h1 h2 => by rw [f 29 (by omega) (by omega) (by omega) (by omega) (by omega) (by omega) (by omega)]), ⟨L ||| 2 ^ k, sh_lt L l1 k kl, ?_, ?_⟩, hc.kept ?_ ?_ ?_, ?_, ?_⟩⟩
          · unfold fX6_sheet fX2_renew
            rw [in9 _ (by omega) (by omega), in9 _ (by omega) (by omega)]
            simp only [ob, rb_0]
            rw [if_neg (fun z => z q), if_neg (fun z => z q2), if_pos (by rw [rI_le (by omega) (by omega) (by omega) (by omega)]; omega), if_pos (by rw [rI_ge0 (by omega) (by omega)]; omega), l2, sh_or L l1 k kl, wr_n kl (by omega), ob, wr_n kl (by omega), ob]
            have a4' : fX2_renew_29 1000 (rp_up (rp_up (rp_up σ 18 3 (rI ((L ||| 2 ^ k : Nat) : Int))) 20 k (rI la)) 21 k (rI sz)) (rI k) (rI sz) (rI 0) = some τ := a4
            rw [a4', ob]
          · show fX7_sheet _ _ _ _ = _
            unfold fX7_sheet
            rw [in7 _ (by omega) (by omega), in7 _ (by omega) (by omega)]
            simp only [ob, rb_0]
            rw [if_neg (fun z => z q), if_neg (fun z => z q2), if_pos (by rw [rI_le (by omega) (by omega) (by omega) (by omega)]; omega), if_pos (by rw [rI_ge0 (by omega) (by omega)]; omega), wr_n kl (by omega), ob, wr_n kl (by omega), ob]
            exact e4
          rotate_left 11
          · rw [e1 18 (by omega), up_ne (by omega), up_ne (by omega), a1 18 (by omega), up_ne (by omega), up_ne (by omega), up_eq]
          · intro j hj
            rw [sh_at L l1 k kl j hj]
            have g20 : μ 20 = (rp_up (rp_up (rp_up σ 18 3 (rI ((L ||| 2 ^ k : Nat) : Int))) 20 k (rI la)) 21 k (rI sz)) 20 := by rw [e1 20 (by omega), up_ne (by omega), up_ne (by omega), a1 20 (by omega)]
            have g21 : μ 21 = (rp_up (rp_up (rp_up σ 18 3 (rI ((L ||| 2 ^ k : Nat) : Int))) 20 k (rI la)) 21 k (rI sz)) 21 := by rw [e1 21 (by omega), up_ne (by omega), up_ne (by omega), a1 21 (by omega)]
            have g38 : μ 38 = (rp_up (rp_up τ 38 k (rI la)) 39 k (rI sz)) 38 := by rw [e1 38 (by omega)]
            have g39 : μ 39 = (rp_up (rp_up τ 38 k (rI la)) 39 k (rI sz)) 39 := by rw [e1 39 (by omega)]
            have g19 : μ 19 = τ 19 := by rw [e1 19 (by omega), up_ne (by omega), up_ne (by omega)]
            have t38 : τ 38 = σ 38 := by rw [a1 38 (by omega), up_ne (by omega), up_ne (by omega), up_ne (by omega)]
            have t39 : τ 39 = σ 39 := by rw [a1 39 (by omega), up_ne (by omega), up_ne (by omega), up_ne (by omega)]
            have t40 : τ 40 = σ 40 := by rw [a1 40 (by omega), up_ne (by omega), up_ne (by omega), up_ne (by omega)]
            rw [g20, g21, g38, g39, g19]
            by_cases z : j = k
            · subst z
              rw [if_pos rfl, up_ne (show (20 : Nat) ≠ 21 by omega), up_eq, up_eq, up_ne (show (38 : Nat) ≠ 39 by omega), up_eq, up_eq]
              right
              exact ⟨rfl, la, sz, by omega, by omega, rfl, rfl, rfl, rfl, fun i hi => by rw [a3 i (by omega) hi, e3 i (by omega) (by omega)]⟩
            · rw [if_neg z]
              simp (disch := omega) only [up_ne, up_nj, t38, t39]
              rcases l3 j hj with o | ⟨o1, la', sz', o2, o3, o4, o5, o6, o7, o8⟩
              · exact Or.inl o
              · right
                refine ⟨o1, la', sz', o2, o3, o4, o5, o6, o7, fun i hi => ?_⟩
                rw [a2 _ (by omega), e2 _ (by omega), up_ne (show (19 : Nat) ≠ 21 by omega), up_ne (show (19 : Nat) ≠ 20 by omega), up_ne (show (19 : Nat) ≠ 18 by omega), up_ne (show (40 : Nat) ≠ 39 by omega), up_ne (show (40 : Nat) ≠ 38 by omega), t40]
                exact o8 i hi
          all_goals first | (rw [f 13 (by omega) (by omega) (by omega) (by omega) (by omega) (by omega) (by omega), f 28 (by omega) (by omega) (by omega) (by omega) (by omega) (by omega) (by omega)]; assumption) | (rw [f 0 (by omega) (by omega) (by omega) (by omega) (by omega) (by omega) (by omega), f 28 (by omega) (by omega) (by omega) (by omega) (by omega) (by omega) (by omega)]; assumption) | (rw [f _ (by omega) (by omega) (by omega) (by omega) (by omega) (by omega) (by omega)]; done)
        · refine ⟨rI (-14), σ, σ, ?_, ?_, h⟩
          · unfold fX6_sheet
            rw [in9 _ (by omega) (by omega), in9 _ (by omega) (by omega)]
            simp only [ob, rb_0]
            rw [if_neg (fun z => z q), if_neg (fun z => z q2), if_pos q3, if_neg q4]
          · show fX7_sheet _ _ _ _ = _
            unfold fX7_sheet
            rw [in7 _ (by omega) (by omega), in7 _ (by omega) (by omega)]
            simp only [ob, rb_0]
            rw [if_neg (fun z => z q), if_neg (fun z => z q2), if_pos q3, if_neg q4]
      · refine ⟨rI (-1), σ, σ, ?_, ?_, h⟩
        · unfold fX6_sheet
          rw [in9 _ (by omega) (by omega), in9 _ (by omega) (by omega)]
          simp only [ob, rb_0]
          rw [if_neg (fun z => z q), if_neg (fun z => z q2), if_neg q3]
        · show fX7_sheet _ _ _ _ = _
          unfold fX7_sheet
          rw [in7 _ (by omega) (by omega), in7 _ (by omega) (by omega)]
          simp only [ob, rb_0]
          rw [if_neg (fun z => z q), if_neg (fun z => z q2), if_neg q3]
    · refine ⟨rI (-1), σ, σ, ?_, ?_, h⟩
      · unfold fX6_sheet
        rw [in9 _ (by omega) (by omega), in9 _ (by omega) (by omega)]
        simp only [ob, rb_0]
        rw [if_neg (fun z => z q), if_pos q2]
      · show fX7_sheet _ _ _ _ = _
        unfold fX7_sheet
        rw [in7 _ (by omega) (by omega), in7 _ (by omega) (by omega)]
        simp only [ob, rb_0]
        rw [if_neg (fun z => z q), if_pos q2]
  · refine ⟨rI (-1), σ, σ, ?_, ?_, h⟩
    · unfold fX6_sheet
      rw [in9 _ (by omega) (by omega)]
      simp only [ob, rb_0]
      rw [if_pos q]
    · show fX7_sheet _ _ _ _ = _
      unfold fX7_sheet
      rw [in7 _ (by omega) (by omega)]
      simp only [ob, rb_0]
      rw [if_pos q]
theorem shl8 (x : Int32) : (x <<< (rI 24 &&& 31)) >>> (rI 24 &&& 31) = x.toInt8.toInt32 := by
  apply Int32.toBitVec_inj.mp
  rw [show rI 24 &&& 31 = (24 : Int32) from by decide]
  simp only [Int32.toBitVec_shiftRight, Int32.toBitVec_shiftLeft, Int8.toBitVec_toInt32, Int32.toBitVec_toInt8]
  rw [show (24 : Int32).toBitVec.smod 32 = 24#32 from by decide]
  apply BitVec.eq_of_getLsbD_eq
  intro i hi
  simp only [BitVec.sshiftRight_eq', BitVec.shiftLeft_eq', BitVec.getLsbD_sshiftRight, BitVec.getLsbD_shiftLeft, BitVec.getLsbD_signExtend, BitVec.getLsbD_setWidth, BitVec.msb_shiftLeft, BitVec.toNat_ofNat]
  rw [BitVec.msb_eq_getLsbD_last (BitVec.signExtend 8 x.toBitVec), BitVec.getMsbD_eq_getLsbD, BitVec.getLsbD_signExtend, show 24 % 2 ^ 32 = 24 from rfl]
  by_cases q : i < 8
  · rw [if_pos (show 24 + i < 32 by omega), if_pos q, if_pos hi, show 24 + i - 24 = i by omega]
    simp only [decide_eq_true (show 24 + i < 32 by omega), decide_eq_false (show ¬ 24 + i < 24 by omega), decide_eq_true q, decide_eq_false (show ¬ 32 ≤ i by omega), decide_eq_true hi, Bool.not_false, Bool.true_and]
  · rw [if_neg (show ¬ 24 + i < 32 by omega), if_neg q]
    simp only [decide_eq_false (show ¬ 32 ≤ i by omega), decide_eq_true hi, Bool.not_false, Bool.true_and]
    simp
theorem shl16 (x : Int32) : (x <<< (rI 16 &&& 31)) >>> (rI 16 &&& 31) = x.toInt16.toInt32 := by
  apply Int32.toBitVec_inj.mp
  rw [show rI 16 &&& 31 = (16 : Int32) from by decide]
  simp only [Int32.toBitVec_shiftRight, Int32.toBitVec_shiftLeft, Int16.toBitVec_toInt32, Int32.toBitVec_toInt16]
  rw [show (16 : Int32).toBitVec.smod 32 = 16#32 from by decide]
  apply BitVec.eq_of_getLsbD_eq
  intro i hi
  simp only [BitVec.sshiftRight_eq', BitVec.shiftLeft_eq', BitVec.getLsbD_sshiftRight, BitVec.getLsbD_shiftLeft, BitVec.getLsbD_signExtend, BitVec.getLsbD_setWidth, BitVec.msb_shiftLeft, BitVec.toNat_ofNat]
  rw [BitVec.msb_eq_getLsbD_last (BitVec.signExtend 16 x.toBitVec), BitVec.getMsbD_eq_getLsbD, BitVec.getLsbD_signExtend, show 16 % 2 ^ 32 = 16 from rfl]
  by_cases q : i < 16
  · rw [if_pos (show 16 + i < 32 by omega), if_pos q, if_pos hi, show 16 + i - 16 = i by omega]
    simp only [decide_eq_true (show 16 + i < 32 by omega), decide_eq_false (show ¬ 16 + i < 16 by omega), decide_eq_true q, decide_eq_false (show ¬ 32 ≤ i by omega), decide_eq_true hi, Bool.not_false, Bool.true_and]
  · rw [if_neg (show ¬ 16 + i < 32 by omega), if_neg q]
    simp only [decide_eq_false (show ¬ 32 ≤ i by omega), decide_eq_true hi, Bool.not_false, Bool.true_and]
    simp
theorem op_lay (h : Inv σ) (u v x : Int32) : OpW (fX6_lay σ u v x) (fun τ => fX7_lay τ u v x) := by
  obtain ⟨g, hp, ht, hs, hi, hsh, hc, hto, hfa⟩ := id h
  by_cases q : 0 ≤ u.toInt ∧ u.toInt ≤ 3
  · obtain ⟨k, rfl, hk2⟩ := toN q.1
    have kl : k < 4 := by omega
    obtain ⟨L, l1, l2, l3⟩ := id hsh
    rcases l3 k kl with ⟨o1, o2⟩ | ⟨o1, la, sz, o2, o3, o4, o5, o6, o7, o8⟩
    · refine ⟨rI (-11), σ, σ, ?_, ?_, h⟩
      · unfold fX6_lay fX2_laneOf fX2_faultOf
        rw [in9 _ (by omega) (by omega), cNothing l2 l1 kl, rd_n kl (by omega)]
        simp only [ob, rb_0]
        rw [if_neg (fun z => z q), if_neg (fun z => z o1), ob, if_neg (by decide)]
        rfl
      · show fX7_lay _ _ _ _ = _
        unfold fX7_lay
        rw [in7 _ (by omega) (by omega), rd_n kl (by omega), o2]
        simp only [ob, rb_0]
        rw [if_neg (fun z => z q), if_pos trivial]
    · by_cases q2 : 0 ≤ v.toInt ∧ v.toInt ≤ (sz : Int) - 1
      · obtain ⟨i, rfl, hi2⟩ := toN q2.1
        obtain ⟨y, hy⟩ : ∃ y : Int32, y = if la = 0 then x.toInt8.toInt32 else if la = 1 then x.toInt16.toInt32 else x := ⟨_, rfl⟩
        have wc : rq_wr σ 19 160 (rI k * rI 40 + rI i) y = some (rp_up σ 19 (40 * k + i) y) := by
          rw [rI_mul, rI_add, wr_ok (by omega) (by omega) (by omega), show ((k : Int) * 40 + (i : Int)).toNat = 40 * k + i by omega]
        have wm : ∀ τ : rp_S, rq_wr τ 40 160 (rI 40 * rI k + rI i) y = some (rp_up τ 40 (40 * k + i) y) := fun τ => by
          rw [rI_mul, rI_add, wr_ok (by omega) (by omega) (by omega), show ((40 : Int) * k + (i : Int)).toNat = 40 * k + i by omega]
        have lc : la = 0 ∨ la = 1 ∨ la = 2 := by omega
        refine ⟨rI 1, rp_up σ 19 (40 * k + i) y, rp_up (rp_up σ 19 (40 * k + i) y) 40 (40 * k + i) y, ?_, ?_, ⟨g, hp.kept ?_ ?_ ?_ ?_, ht.kept ?_ ?_ ?_ ?_, hs.kept ?_ ?_ ?_ ?_ ?_, hi.kept ?_ ?_ ?_ ?_, ⟨L, l1, by rw [up_ne (by omega), up_ne (by omega)]; exact l2, ?_⟩, hc.kept ?_ ?_ ?_, ?_, ?_⟩⟩
        · have pc : fX2_put σ (rI k) (rI i) x = some (rp_up σ 19 (40 * k + i) y) := by
            unfold fX2_put fX2_put_33
            rw [rd_n kl (by omega), o4]
            simp only [ob]
            rcases lc with rfl | rfl | rfl
            · rw [if_pos (by decide)]; rw [if_pos rfl] at hy; rw [← hy, wc, ob]
            · rw [if_neg (by decide), if_pos (by decide)]; rw [if_neg (by omega), if_pos rfl] at hy; rw [← hy, wc, ob]
            · rw [if_neg (by decide), if_neg (by decide)]; rw [if_neg (by omega), if_neg (by omega)] at hy; rw [← hy, wc, ob]
          unfold fX6_lay fX2_laneOf fX2_faultOf
          rw [in9 _ (by omega) (by omega), cNothing l2 l1 kl, rd_n kl (by omega), rd_n kl (by omega), o6]
          simp only [ob, rb_0, rI_sub]
          rw [if_neg (fun z => z q), if_pos (by omega), if_pos trivial, inAB _ (by omega) (by omega) (by omega) (by omega), ob]
          simp only [rb_0]
          rw [if_neg (fun z => z q2), ob, if_pos (by decide), pc, ob]
        · show fX7_lay _ _ _ _ = _
          have o5' : rp_up σ 19 (40 * k + i) y 38 k = rI la := by rw [up_ne (by omega)]; exact o5
          have o7' : rp_up σ 19 (40 * k + i) y 39 k = rI sz := by rw [up_ne (by omega)]; exact o7
          unfold fX7_lay
          rw [in7 _ (by omega) (by omega), rd_n kl (by omega), rd_n kl (by omega), o5', o7']
          simp only [ob, rb_0, rI_sub]
          rw [if_neg (fun z => z q), if_neg (by rw [rI_eq (by omega) (by omega) (by omega) (by omega)]; omega), i64 (z := (sz : Int) - 1) (by omega) (by omega), inI_ok _ (by omega) (by omega) (by omega) (by omega), ob]
          simp only [rb_0]
          rw [if_neg (fun z => z q2)]
          unfold fX7_lay_99
          rcases lc with rfl | rfl | rfl
          · rw [if_pos (by decide), shl8]; rw [if_pos rfl] at hy; rw [← hy, wm, ob]
          · rw [if_neg (by decide), if_pos (by decide), shl16]; rw [if_neg (by omega), if_pos rfl] at hy; rw [← hy, wm, ob]
          · rw [if_neg (by decide), if_neg (by decide)]; rw [if_neg (by omega), if_neg (by omega)] at hy; rw [← hy, wm, ob]
        rotate_left 17
        · intro j hj
          simp (disch := omega) only [up_ne]
          rcases l3 j hj with o | ⟨p1, la', sz', p2, p3, p4, p5, p6, p7, p8⟩
          · exact Or.inl o
          · refine Or.inr ⟨p1, la', sz', p2, p3, p4, p5, p6, p7, fun i' hi' => ?_⟩
            by_cases z : 40 * j + i' = 40 * k + i
            · rw [z, up_eq, up_eq]
            · rw [up_nj z, up_nj z]; exact p8 i' hi'
        all_goals first | (intros; simp (disch := omega) only [up_ne, up_nj]; done) | (simp (disch := omega) only [up_ne, up_nj]; assumption) | assumption
      · refine ⟨rI (-12), σ, σ, ?_, ?_, h⟩
        · unfold fX6_lay fX2_laneOf fX2_faultOf
          rw [in9 _ (by omega) (by omega), cNothing l2 l1 kl, rd_n kl (by omega), rd_n kl (by omega), o6]
          simp only [ob, rb_0, rI_sub]
          rw [if_neg (fun z => z q), if_pos (by omega), if_pos trivial, inAB _ (by omega) (by omega) (by omega) (by omega), ob]
          simp only [rb_0]
          rw [if_pos q2, ob, if_neg (by decide)]
          rfl
        · show fX7_lay _ _ _ _ = _
          unfold fX7_lay
          rw [in7 _ (by omega) (by omega), rd_n kl (by omega), rd_n kl (by omega), o5, o7]
          simp only [ob, rb_0, rI_sub]
          rw [if_neg (fun z => z q), if_neg (by rw [rI_eq (by omega) (by omega) (by omega) (by omega)]; omega), i64 (z := (sz : Int) - 1) (by omega) (by omega), inI_ok _ (by omega) (by omega) (by omega) (by omega), ob]
          simp only [rb_0]
          rw [if_pos q2]
  · refine ⟨rI (-1), σ, σ, ?_, ?_, h⟩
    · unfold fX6_lay
      rw [in9 _ (by omega) (by omega)]
      simp only [ob, rb_0]
      rw [if_pos q]
    · show fX7_lay _ _ _ _ = _
      unfold fX7_lay
      rw [in7 _ (by omega) (by omega)]
      simp only [ob, rb_0]
      rw [if_pos q]
end OPS
