/-! the law: its rules, its cases -/
def lw_X (E : rp_E) (b L : Nat) (xs : Nat → Int32) : State → Array Value → Prop := fun s args => args = #[Value.ref b] ∧ va_X b L xs s s.heap ∧ b < s.heap.size ∧ ¬ E.2.2.1 b ∧ ∀ q : Nat, E.2.2.1 q → s.heap.size ≤ q
def lw_K (E : rp_E) (b L : Nat) (xs : Nat → Int32) : rp_K := (room_1, 41, 1256, fun _ _ s args below => lw_Z below args s, lw_X E b L xs)
def lw_h : Unit → Option Value × rp_S := fun _ => (none, fun _ _ => 0)
abbrev lwv (E : rp_E) (b : Nat) (i : Int32) : List (Option Value) := [some (.ref b), some (.ref (E.2.2.2.1 0)), some (.ref (E.2.2.2.1 28)), some (.int i)]
section LWR
variable {E : rp_E} {b L : Nat} {xs : Nat → Int32} {mi : rp_MI} {pc : Nat} {vs : List (Option Value)} {st : List Value} {σ : rp_S} {o : Option Unit}
theorem lw_sld {i : Int32} (hin : vp_in i L) (hd : decode mi.2.1 pc = .ok (.iaload, 1)) (k : rp_R E (lw_K E b L xs) mi (pc + 1) vs (.int (xs i.toNatClampNeg) :: st) σ lw_h o) : rp_R E (lw_K E b L xs) mi pc vs (.int i :: .ref b :: st) σ lw_h o := fun a ho p e s m args below meth c H locs arr G X D hl => va_sld G.1 G.2.1 X.2.1 X.2.2.1 X.2.2.2.1 D.2.2.2.1 hin hd (k a ho p e s m args below meth c H locs arr G X D hl)
theorem lw_slen (hd : decode mi.2.1 pc = .ok (.arraylength, 1)) (k : rp_R E (lw_K E b L xs) mi (pc + 1) vs (.int (Int32.ofNat L) :: st) σ lw_h o) : rp_R E (lw_K E b L xs) mi pc vs (.ref b :: st) σ lw_h o := fun a ho p e s m args below meth c H locs arr G X D hl => va_slen G.1 G.2.1 X.2.1 X.2.2.1 X.2.2.2.1 D.2.2.2.1 hd (k a ho p e s m args below meth c H locs arr G X D hl)
theorem lw_end (hd : decode code pc = .ok (.ireturn, 1)) : rp_R E (lw_K E b L xs) mL_law pc vs [.int 1] σ lw_h o := by
  intro a ho p e s m args below meth c H locs arr G X D hl
  obtain ⟨rfl, hX, hbl, hbA, hA⟩ := X
  refine va_forget (fun q hq => hA _ (D.2.2.2.1.2.2 q hq)) ?_
  exact lw_ret G.1 G.2.1 G.2.2.1 G.2.2.2.2.2.2.2 hd
theorem lw_cI {K : rp_K} {st0 rest : List Value} {h : Unit → Option Value × rp_S} {g : Option (Int32 × rp_S)} {r : Int32} {σ1 : rp_S} (hg : g = some (r, σ1)) (cr : (∀ x, g = some x → rp_R E K mi (pc + 3) vs (.int x.1 :: rest) x.2 h (some ())) → rp_R E K mi pc vs st0 σ h (g.bind fun _ => some ())) (k : rp_R E K mi (pc + 3) vs (.int r :: rest) σ1 h (some ())) : rp_R E K mi pc vs st0 σ h (some ()) := by
  have e : (some () : Option Unit) = g.bind fun _ => some () := by rw [hg]; rfl
  rw [e]
  refine cr (fun x hx => ?_)
  rw [hg] at hx
  cases hx
  exact k
theorem lw_ci {K : rp_K} {st0 rest : List Value} {h : Unit → Option Value × rp_S} {g : Option Int32} {r : Int32} (hg : g = some r) (cr : (∀ x, g = some x → rp_R E K mi (pc + 3) vs (.int x :: rest) σ h (some ())) → rp_R E K mi pc vs st0 σ h (g.bind fun _ => some ())) (k : rp_R E K mi (pc + 3) vs (.int r :: rest) σ h (some ())) : rp_R E K mi pc vs st0 σ h (some ()) := by
  have e : (some () : Option Unit) = g.bind fun _ => some () := by rw [hg]; rfl
  rw [e]
  refine cr (fun x hx => ?_)
  rw [hg] at hx
  cases hx
  exact k
theorem lw_cL {K : rp_K} {st0 rest : List Value} {h : Unit → Option Value × rp_S} {g : Option (Int64 × rp_S)} {r : Int64} {σ1 : rp_S} (hg : g = some (r, σ1)) (cr : (∀ x, g = some x → rp_R E K mi (pc + 3) vs (.long x.1 :: rest) x.2 h (some ())) → rp_R E K mi pc vs st0 σ h (g.bind fun _ => some ())) (k : rp_R E K mi (pc + 3) vs (.long r :: rest) σ1 h (some ())) : rp_R E K mi pc vs st0 σ h (some ()) := by
  have e : (some () : Option Unit) = g.bind fun _ => some () := by rw [hg]; rfl
  rw [e]
  refine cr (fun x hx => ?_)
  rw [hg] at hx
  cases hx
  exact k
theorem lw_eq {K : rp_K} {h : Unit → Option Value × rp_S} {r : Int32} {off : Int} {tgt : Nat} (hd : decode mi.2.1 pc = .ok (.if_icmp .eq off, 3)) (ht : (pc : Int) + off = (tgt : Int)) (k : rp_R E K mi tgt vs st σ h (some ())) : rp_R E K mi pc vs (.int r :: .int r :: st) σ h (some ()) := by
  have e : (some () : Option Unit) = if r = r then some () else none := by rw [if_pos rfl]
  rw [e]
  exact rp_icmp_eq hd ht k rp_none
theorem lw_leq {K : rp_K} {h : Unit → Option Value × rp_S} {r : Int64} {off : Int} {tgt : Nat} (hl : decode mi.2.1 pc = .ok (.lcmp, 1)) (hd : decode mi.2.1 (pc + 1) = .ok (.ifCond .eq off, 3)) (ht : ((pc + 1 : Nat) : Int) + off = (tgt : Int)) (k : rp_R E K mi tgt vs st σ h (some ())) : rp_R E K mi pc vs (.long r :: .long r :: st) σ h (some ()) := by
  have e0 : lg_cmp r r = 0 := by
    have : ¬ r < r := Int64.lt_irrefl
    unfold lg_cmp
    simp [this]
  refine rp_lcmp hl ?_
  have e : (some () : Option Unit) = if lg_cmp r r = 0 then some () else none := by rw [if_pos e0]
  rw [e]
  exact rp_if_eq hd ht k rp_none
theorem lw_in {i : Nat} {j : Int} (h0 : 0 ≤ j) (hj : (i : Int) + j < L) (hL : L ≤ 320) : vp_in (rI (i : Int) + rI j) L := by
  rw [vp_in_iff, rI_add, rI_toInt (by omega) (by omega)]
  omega
end LWR
set_option maxRecDepth 100000 in
theorem lawc_0 {E : rp_E} {b L : Nat} {xs : Nat → Int32} {i : Nat} {σ : rp_S} (hi : i + 5 ≤ L) (hL : L ≤ 320) (hI : Inv σ) (nx : ∀ τ : rp_S, Inv τ → rp_R E (lw_K E b L xs) mL_law 1498 (lwv E b (rI (i : Int))) [] τ lw_h (some ())) : rp_R E (lw_K E b L xs) mL_law 224 (lwv E b (rI (i : Int))) [] σ lw_h (some ()) := by
  obtain ⟨r, σ1, σ2, h1, h2, h3⟩ := op_feed hI (xs (rI (i : Int) + rI 1).toNatClampNeg)
  refine rp_aload_n (x := (E.2.2.2.1 0)) dL_law_224 rfl ?_
  refine rp_aload_n (x := b) dL_law_225 rfl ?_
  refine rp_iload_n (x := rI (i : Int)) dL_law_226 rfl ?_
  refine rp_iconst dL_law_227 ?_
  refine rp_iadd dL_law_228 ?_
  refine lw_sld (i := rI (i : Int) + rI 1) (lw_in (by omega) (by omega) hL) dL_law_229 ?_
  refine lw_cI h1 (fun kk => rp_callV_hI (As := [.int (xs (rI (i : Int) + rI 1).toNatClampNeg)]) (rest := []) (b := (E.2.2.2.1 0)) (rX6_feed σ (xs (rI (i : Int) + rI 1).toNatClampNeg)) cbX6_feed lkL_13 viX6_feed (rp_rcO sh0 rfl) rfl (Nat.le_of_ble_eq_true rfl) ⟨rfl, rfl, ⟨Nat.le_of_ble_eq_true rfl, Nat.le_of_ble_eq_true rfl⟩, Nat.le_of_ble_eq_true rfl, Nat.le_of_ble_eq_true rfl⟩ rfl (Nat.le_of_ble_eq_true rfl) dL_law_230 kk) ?_
  refine rp_aload_n (x := (E.2.2.2.1 28)) dL_law_233 rfl ?_
  refine rp_aload_n (x := b) dL_law_234 rfl ?_
  refine rp_iload_n (x := rI (i : Int)) dL_law_235 rfl ?_
  refine rp_iconst dL_law_236 ?_
  refine rp_iadd dL_law_237 ?_
  refine lw_sld (i := rI (i : Int) + rI 1) (lw_in (by omega) (by omega) hL) dL_law_238 ?_
  refine lw_cI h2 (fun kk => rp_callV_hI (As := [.int (xs (rI (i : Int) + rI 1).toNatClampNeg)]) (rest := [.int r]) (b := (E.2.2.2.1 28)) (rX7_feed σ1 (xs (rI (i : Int) + rI 1).toNatClampNeg)) cbX7_feed lkL_17 viX7_feed (rp_rcO sh28 rfl) rfl (Nat.le_of_ble_eq_true rfl) ⟨rfl, rfl, ⟨Nat.le_of_ble_eq_true rfl, Nat.le_of_ble_eq_true rfl⟩, Nat.le_of_ble_eq_true rfl, Nat.le_of_ble_eq_true rfl⟩ rfl (Nat.le_of_ble_eq_true rfl) dL_law_239 kk) ?_
  refine lw_eq (tgt := 1498) dL_law_242 (by decide) ?_
  exact nx σ2 h3
set_option maxRecDepth 100000 in
theorem lawc_1 {E : rp_E} {b L : Nat} {xs : Nat → Int32} {i : Nat} {σ : rp_S} (hi : i + 5 ≤ L) (hL : L ≤ 320) (hI : Inv σ) (nx : ∀ τ : rp_S, Inv τ → rp_R E (lw_K E b L xs) mL_law 1498 (lwv E b (rI (i : Int))) [] τ lw_h (some ())) : rp_R E (lw_K E b L xs) mL_law 247 (lwv E b (rI (i : Int))) [] σ lw_h (some ()) := by
  obtain ⟨r, σ1, σ2, h1, h2, h3⟩ := op_end hI (xs (rI (i : Int) + rI 1).toNatClampNeg)
  refine rp_aload_n (x := (E.2.2.2.1 0)) dL_law_247 rfl ?_
  refine rp_aload_n (x := b) dL_law_248 rfl ?_
  refine rp_iload_n (x := rI (i : Int)) dL_law_249 rfl ?_
  refine rp_iconst dL_law_250 ?_
  refine rp_iadd dL_law_251 ?_
  refine lw_sld (i := rI (i : Int) + rI 1) (lw_in (by omega) (by omega) hL) dL_law_252 ?_
  refine lw_cI h1 (fun kk => rp_callV_hI (As := [.int (xs (rI (i : Int) + rI 1).toNatClampNeg)]) (rest := []) (b := (E.2.2.2.1 0)) (rX6_end σ (xs (rI (i : Int) + rI 1).toNatClampNeg)) cbX6_end lkL_18 viX6_end (rp_rcO sh0 rfl) rfl (Nat.le_of_ble_eq_true rfl) ⟨rfl, rfl, ⟨Nat.le_of_ble_eq_true rfl, Nat.le_of_ble_eq_true rfl⟩, Nat.le_of_ble_eq_true rfl, Nat.le_of_ble_eq_true rfl⟩ rfl (Nat.le_of_ble_eq_true rfl) dL_law_253 kk) ?_
  refine rp_aload_n (x := (E.2.2.2.1 28)) dL_law_256 rfl ?_
  refine rp_aload_n (x := b) dL_law_257 rfl ?_
  refine rp_iload_n (x := rI (i : Int)) dL_law_258 rfl ?_
  refine rp_iconst dL_law_259 ?_
  refine rp_iadd dL_law_260 ?_
  refine lw_sld (i := rI (i : Int) + rI 1) (lw_in (by omega) (by omega) hL) dL_law_261 ?_
  refine lw_cI h2 (fun kk => rp_callV_hI (As := [.int (xs (rI (i : Int) + rI 1).toNatClampNeg)]) (rest := [.int r]) (b := (E.2.2.2.1 28)) (rX7_end σ1 (xs (rI (i : Int) + rI 1).toNatClampNeg)) cbX7_end lkL_21 viX7_end (rp_rcO sh28 rfl) rfl (Nat.le_of_ble_eq_true rfl) ⟨rfl, rfl, ⟨Nat.le_of_ble_eq_true rfl, Nat.le_of_ble_eq_true rfl⟩, Nat.le_of_ble_eq_true rfl, Nat.le_of_ble_eq_true rfl⟩ rfl (Nat.le_of_ble_eq_true rfl) dL_law_262 kk) ?_
  refine lw_eq (tgt := 1498) dL_law_265 (by decide) ?_
  exact nx σ2 h3
set_option maxRecDepth 100000 in
theorem lawc_2 {E : rp_E} {b L : Nat} {xs : Nat → Int32} {i : Nat} {σ : rp_S} (hi : i + 5 ≤ L) (hL : L ≤ 320) (hI : Inv σ) (nx : ∀ τ : rp_S, Inv τ → rp_R E (lw_K E b L xs) mL_law 1498 (lwv E b (rI (i : Int))) [] τ lw_h (some ())) : rp_R E (lw_K E b L xs) mL_law 270 (lwv E b (rI (i : Int))) [] σ lw_h (some ()) := by
  obtain ⟨r, σ1, σ2, h1, h2, h3⟩ := op_text hI
  refine rp_aload_n (x := (E.2.2.2.1 0)) dL_law_270 rfl ?_
  refine lw_cI h1 (fun kk => rp_callV_hI (As := []) (rest := []) (b := (E.2.2.2.1 0)) (rX6_text σ) cbX6_text lkL_22 viX6_text (rp_rcO sh0 rfl) rfl (Nat.le_of_ble_eq_true rfl) ⟨rfl, rfl, ⟨Nat.le_of_ble_eq_true rfl, Nat.le_of_ble_eq_true rfl⟩, Nat.le_of_ble_eq_true rfl, Nat.le_of_ble_eq_true rfl⟩ rfl (Nat.le_of_ble_eq_true rfl) dL_law_271 kk) ?_
  refine rp_aload_n (x := (E.2.2.2.1 28)) dL_law_274 rfl ?_
  refine lw_cI h2 (fun kk => rp_callV_hI (As := []) (rest := [.int r]) (b := (E.2.2.2.1 28)) (rX7_text σ1) cbX7_text lkL_26 viX7_text (rp_rcO sh28 rfl) rfl (Nat.le_of_ble_eq_true rfl) ⟨rfl, rfl, ⟨Nat.le_of_ble_eq_true rfl, Nat.le_of_ble_eq_true rfl⟩, Nat.le_of_ble_eq_true rfl, Nat.le_of_ble_eq_true rfl⟩ rfl (Nat.le_of_ble_eq_true rfl) dL_law_275 kk) ?_
  refine lw_eq (tgt := 1498) dL_law_278 (by decide) ?_
  exact nx σ2 h3
set_option maxRecDepth 100000 in
theorem lawc_3 {E : rp_E} {b L : Nat} {xs : Nat → Int32} {i : Nat} {σ : rp_S} (hi : i + 5 ≤ L) (hL : L ≤ 320) (hI : Inv σ) (nx : ∀ τ : rp_S, Inv τ → rp_R E (lw_K E b L xs) mL_law 1498 (lwv E b (rI (i : Int))) [] τ lw_h (some ())) : rp_R E (lw_K E b L xs) mL_law 283 (lwv E b (rI (i : Int))) [] σ lw_h (some ()) := by
  obtain ⟨r, h1, h2⟩ := op_fault hI
  refine rp_aload_n (x := (E.2.2.2.1 0)) dL_law_283 rfl ?_
  refine lw_ci h1 (fun kk => rp_callV_hi (As := []) (rest := []) (b := (E.2.2.2.1 0)) (rX6_fault σ) cbX6_fault lkL_27 viX6_fault (rp_rcO sh0 rfl) rfl (Nat.le_of_ble_eq_true rfl) ⟨rfl, rfl, ⟨Nat.le_of_ble_eq_true rfl, Nat.le_of_ble_eq_true rfl⟩, Nat.le_of_ble_eq_true rfl, Nat.le_of_ble_eq_true rfl⟩ rfl (Nat.le_of_ble_eq_true rfl) dL_law_284 kk) ?_
  refine rp_aload_n (x := (E.2.2.2.1 28)) dL_law_287 rfl ?_
  refine lw_ci h2 (fun kk => rp_callV_hi (As := []) (rest := [.int r]) (b := (E.2.2.2.1 28)) (rX7_fault σ) cbX7_fault lkL_30 viX7_fault (rp_rcO sh28 rfl) rfl (Nat.le_of_ble_eq_true rfl) ⟨rfl, rfl, ⟨Nat.le_of_ble_eq_true rfl, Nat.le_of_ble_eq_true rfl⟩, Nat.le_of_ble_eq_true rfl, Nat.le_of_ble_eq_true rfl⟩ rfl (Nat.le_of_ble_eq_true rfl) dL_law_288 kk) ?_
  refine lw_eq (tgt := 1498) dL_law_291 (by decide) ?_
  exact nx σ hI
set_option maxRecDepth 100000 in
theorem lawc_4 {E : rp_E} {b L : Nat} {xs : Nat → Int32} {i : Nat} {σ : rp_S} (hi : i + 5 ≤ L) (hL : L ≤ 320) (hI : Inv σ) (nx : ∀ τ : rp_S, Inv τ → rp_R E (lw_K E b L xs) mL_law 1498 (lwv E b (rI (i : Int))) [] τ lw_h (some ())) : rp_R E (lw_K E b L xs) mL_law 296 (lwv E b (rI (i : Int))) [] σ lw_h (some ()) := by
  obtain ⟨r, σ1, σ2, h1, h2, h3⟩ := op_rule hI (xs (rI (i : Int) + rI 1).toNatClampNeg)
  refine rp_aload_n (x := (E.2.2.2.1 0)) dL_law_296 rfl ?_
  refine rp_aload_n (x := b) dL_law_297 rfl ?_
  refine rp_iload_n (x := rI (i : Int)) dL_law_298 rfl ?_
  refine rp_iconst dL_law_299 ?_
  refine rp_iadd dL_law_300 ?_
  refine lw_sld (i := rI (i : Int) + rI 1) (lw_in (by omega) (by omega) hL) dL_law_301 ?_
  refine lw_cI h1 (fun kk => rp_callV_hI (As := [.int (xs (rI (i : Int) + rI 1).toNatClampNeg)]) (rest := []) (b := (E.2.2.2.1 0)) (rX6_rule σ (xs (rI (i : Int) + rI 1).toNatClampNeg)) cbX6_rule lkL_31 viX6_rule (rp_rcO sh0 rfl) rfl (Nat.le_of_ble_eq_true rfl) ⟨rfl, rfl, ⟨Nat.le_of_ble_eq_true rfl, Nat.le_of_ble_eq_true rfl⟩, Nat.le_of_ble_eq_true rfl, Nat.le_of_ble_eq_true rfl⟩ rfl (Nat.le_of_ble_eq_true rfl) dL_law_302 kk) ?_
  refine rp_aload_n (x := (E.2.2.2.1 28)) dL_law_305 rfl ?_
  refine rp_aload_n (x := b) dL_law_306 rfl ?_
  refine rp_iload_n (x := rI (i : Int)) dL_law_307 rfl ?_
  refine rp_iconst dL_law_308 ?_
  refine rp_iadd dL_law_309 ?_
  refine lw_sld (i := rI (i : Int) + rI 1) (lw_in (by omega) (by omega) hL) dL_law_310 ?_
  refine lw_cI h2 (fun kk => rp_callV_hI (As := [.int (xs (rI (i : Int) + rI 1).toNatClampNeg)]) (rest := [.int r]) (b := (E.2.2.2.1 28)) (rX7_rule σ1 (xs (rI (i : Int) + rI 1).toNatClampNeg)) cbX7_rule lkL_34 viX7_rule (rp_rcO sh28 rfl) rfl (Nat.le_of_ble_eq_true rfl) ⟨rfl, rfl, ⟨Nat.le_of_ble_eq_true rfl, Nat.le_of_ble_eq_true rfl⟩, Nat.le_of_ble_eq_true rfl, Nat.le_of_ble_eq_true rfl⟩ rfl (Nat.le_of_ble_eq_true rfl) dL_law_311 kk) ?_
  refine lw_eq (tgt := 1498) dL_law_314 (by decide) ?_
  exact nx σ2 h3
set_option maxRecDepth 100000 in
theorem lawc_5 {E : rp_E} {b L : Nat} {xs : Nat → Int32} {i : Nat} {σ : rp_S} (hi : i + 5 ≤ L) (hL : L ≤ 320) (hI : Inv σ) (nx : ∀ τ : rp_S, Inv τ → rp_R E (lw_K E b L xs) mL_law 1498 (lwv E b (rI (i : Int))) [] τ lw_h (some ())) : rp_R E (lw_K E b L xs) mL_law 319 (lwv E b (rI (i : Int))) [] σ lw_h (some ()) := by
  obtain ⟨r, σ1, σ2, h1, h2, h3⟩ := op_work hI (xs (rI (i : Int) + rI 1).toNatClampNeg) (xs (rI (i : Int) + rI 2).toNatClampNeg)
  refine rp_aload_n (x := (E.2.2.2.1 0)) dL_law_319 rfl ?_
  refine rp_aload_n (x := b) dL_law_320 rfl ?_
  refine rp_iload_n (x := rI (i : Int)) dL_law_321 rfl ?_
  refine rp_iconst dL_law_322 ?_
  refine rp_iadd dL_law_323 ?_
  refine lw_sld (i := rI (i : Int) + rI 1) (lw_in (by omega) (by omega) hL) dL_law_324 ?_
  refine rp_aload_n (x := b) dL_law_325 rfl ?_
  refine rp_iload_n (x := rI (i : Int)) dL_law_326 rfl ?_
  refine rp_iconst dL_law_327 ?_
  refine rp_iadd dL_law_328 ?_
  refine lw_sld (i := rI (i : Int) + rI 2) (lw_in (by omega) (by omega) hL) dL_law_329 ?_
  refine lw_cI h1 (fun kk => rp_callV_hI (As := [.int (xs (rI (i : Int) + rI 1).toNatClampNeg), .int (xs (rI (i : Int) + rI 2).toNatClampNeg)]) (rest := []) (b := (E.2.2.2.1 0)) (rX6_work σ (xs (rI (i : Int) + rI 1).toNatClampNeg) (xs (rI (i : Int) + rI 2).toNatClampNeg)) cbX6_work lkL_35 viX6_work (rp_rcO sh0 rfl) rfl (Nat.le_of_ble_eq_true rfl) ⟨rfl, rfl, ⟨Nat.le_of_ble_eq_true rfl, Nat.le_of_ble_eq_true rfl⟩, Nat.le_of_ble_eq_true rfl, Nat.le_of_ble_eq_true rfl⟩ rfl (Nat.le_of_ble_eq_true rfl) dL_law_330 kk) ?_
  refine rp_aload_n (x := (E.2.2.2.1 28)) dL_law_333 rfl ?_
  refine rp_aload_n (x := b) dL_law_334 rfl ?_
  refine rp_iload_n (x := rI (i : Int)) dL_law_335 rfl ?_
  refine rp_iconst dL_law_336 ?_
  refine rp_iadd dL_law_337 ?_
  refine lw_sld (i := rI (i : Int) + rI 1) (lw_in (by omega) (by omega) hL) dL_law_338 ?_
  refine rp_aload_n (x := b) dL_law_339 rfl ?_
  refine rp_iload_n (x := rI (i : Int)) dL_law_340 rfl ?_
  refine rp_iconst dL_law_341 ?_
  refine rp_iadd dL_law_342 ?_
  refine lw_sld (i := rI (i : Int) + rI 2) (lw_in (by omega) (by omega) hL) dL_law_343 ?_
  refine lw_cI h2 (fun kk => rp_callV_hI (As := [.int (xs (rI (i : Int) + rI 1).toNatClampNeg), .int (xs (rI (i : Int) + rI 2).toNatClampNeg)]) (rest := [.int r]) (b := (E.2.2.2.1 28)) (rX7_work σ1 (xs (rI (i : Int) + rI 1).toNatClampNeg) (xs (rI (i : Int) + rI 2).toNatClampNeg)) cbX7_work lkL_39 viX7_work (rp_rcO sh28 rfl) rfl (Nat.le_of_ble_eq_true rfl) ⟨rfl, rfl, ⟨Nat.le_of_ble_eq_true rfl, Nat.le_of_ble_eq_true rfl⟩, Nat.le_of_ble_eq_true rfl, Nat.le_of_ble_eq_true rfl⟩ rfl (Nat.le_of_ble_eq_true rfl) dL_law_344 kk) ?_
  refine lw_eq (tgt := 1498) dL_law_347 (by decide) ?_
  exact nx σ2 h3
set_option maxRecDepth 100000 in
theorem lawc_6 {E : rp_E} {b L : Nat} {xs : Nat → Int32} {i : Nat} {σ : rp_S} (hi : i + 5 ≤ L) (hL : L ≤ 320) (hI : Inv σ) (nx : ∀ τ : rp_S, Inv τ → rp_R E (lw_K E b L xs) mL_law 1498 (lwv E b (rI (i : Int))) [] τ lw_h (some ())) : rp_R E (lw_K E b L xs) mL_law 352 (lwv E b (rI (i : Int))) [] σ lw_h (some ()) := by
  obtain ⟨r, σ1, σ2, h1, h2, h3⟩ := op_reader hI (xs (rI (i : Int) + rI 1).toNatClampNeg) (xs (rI (i : Int) + rI 2).toNatClampNeg)
  refine rp_aload_n (x := (E.2.2.2.1 0)) dL_law_352 rfl ?_
  refine rp_aload_n (x := b) dL_law_353 rfl ?_
  refine rp_iload_n (x := rI (i : Int)) dL_law_354 rfl ?_
  refine rp_iconst dL_law_355 ?_
  refine rp_iadd dL_law_356 ?_
  refine lw_sld (i := rI (i : Int) + rI 1) (lw_in (by omega) (by omega) hL) dL_law_357 ?_
  refine rp_aload_n (x := b) dL_law_358 rfl ?_
  refine rp_iload_n (x := rI (i : Int)) dL_law_359 rfl ?_
  refine rp_iconst dL_law_360 ?_
  refine rp_iadd dL_law_361 ?_
  refine lw_sld (i := rI (i : Int) + rI 2) (lw_in (by omega) (by omega) hL) dL_law_362 ?_
  refine lw_cI h1 (fun kk => rp_callV_hI (As := [.int (xs (rI (i : Int) + rI 1).toNatClampNeg), .int (xs (rI (i : Int) + rI 2).toNatClampNeg)]) (rest := []) (b := (E.2.2.2.1 0)) (rX6_reader σ (xs (rI (i : Int) + rI 1).toNatClampNeg) (xs (rI (i : Int) + rI 2).toNatClampNeg)) cbX6_reader lkL_40 viX6_reader (rp_rcO sh0 rfl) rfl (Nat.le_of_ble_eq_true rfl) ⟨rfl, rfl, ⟨Nat.le_of_ble_eq_true rfl, Nat.le_of_ble_eq_true rfl⟩, Nat.le_of_ble_eq_true rfl, Nat.le_of_ble_eq_true rfl⟩ rfl (Nat.le_of_ble_eq_true rfl) dL_law_363 kk) ?_
  refine rp_aload_n (x := (E.2.2.2.1 28)) dL_law_366 rfl ?_
  refine rp_aload_n (x := b) dL_law_367 rfl ?_
  refine rp_iload_n (x := rI (i : Int)) dL_law_368 rfl ?_
  refine rp_iconst dL_law_369 ?_
  refine rp_iadd dL_law_370 ?_
  refine lw_sld (i := rI (i : Int) + rI 1) (lw_in (by omega) (by omega) hL) dL_law_371 ?_
  refine rp_aload_n (x := b) dL_law_372 rfl ?_
  refine rp_iload_n (x := rI (i : Int)) dL_law_373 rfl ?_
  refine rp_iconst dL_law_374 ?_
  refine rp_iadd dL_law_375 ?_
  refine lw_sld (i := rI (i : Int) + rI 2) (lw_in (by omega) (by omega) hL) dL_law_376 ?_
  refine lw_cI h2 (fun kk => rp_callV_hI (As := [.int (xs (rI (i : Int) + rI 1).toNatClampNeg), .int (xs (rI (i : Int) + rI 2).toNatClampNeg)]) (rest := [.int r]) (b := (E.2.2.2.1 28)) (rX7_reader σ1 (xs (rI (i : Int) + rI 1).toNatClampNeg) (xs (rI (i : Int) + rI 2).toNatClampNeg)) cbX7_reader lkL_43 viX7_reader (rp_rcO sh28 rfl) rfl (Nat.le_of_ble_eq_true rfl) ⟨rfl, rfl, ⟨Nat.le_of_ble_eq_true rfl, Nat.le_of_ble_eq_true rfl⟩, Nat.le_of_ble_eq_true rfl, Nat.le_of_ble_eq_true rfl⟩ rfl (Nat.le_of_ble_eq_true rfl) dL_law_377 kk) ?_
  refine lw_eq (tgt := 1498) dL_law_380 (by decide) ?_
  exact nx σ2 h3
set_option maxRecDepth 100000 in
theorem lawc_7 {E : rp_E} {b L : Nat} {xs : Nat → Int32} {i : Nat} {σ : rp_S} (hi : i + 5 ≤ L) (hL : L ≤ 320) (hI : Inv σ) (nx : ∀ τ : rp_S, Inv τ → rp_R E (lw_K E b L xs) mL_law 1498 (lwv E b (rI (i : Int))) [] τ lw_h (some ())) : rp_R E (lw_K E b L xs) mL_law 385 (lwv E b (rI (i : Int))) [] σ lw_h (some ()) := by
  obtain ⟨r, σ1, σ2, h1, h2, h3⟩ := op_reads hI (xs (rI (i : Int) + rI 1).toNatClampNeg) (xs (rI (i : Int) + rI 2).toNatClampNeg)
  refine rp_aload_n (x := (E.2.2.2.1 0)) dL_law_385 rfl ?_
  refine rp_aload_n (x := b) dL_law_386 rfl ?_
  refine rp_iload_n (x := rI (i : Int)) dL_law_387 rfl ?_
  refine rp_iconst dL_law_388 ?_
  refine rp_iadd dL_law_389 ?_
  refine lw_sld (i := rI (i : Int) + rI 1) (lw_in (by omega) (by omega) hL) dL_law_390 ?_
  refine rp_aload_n (x := b) dL_law_391 rfl ?_
  refine rp_iload_n (x := rI (i : Int)) dL_law_392 rfl ?_
  refine rp_iconst dL_law_393 ?_
  refine rp_iadd dL_law_394 ?_
  refine lw_sld (i := rI (i : Int) + rI 2) (lw_in (by omega) (by omega) hL) dL_law_395 ?_
  refine lw_cI h1 (fun kk => rp_callV_hI (As := [.int (xs (rI (i : Int) + rI 1).toNatClampNeg), .int (xs (rI (i : Int) + rI 2).toNatClampNeg)]) (rest := []) (b := (E.2.2.2.1 0)) (rX6_reads σ (xs (rI (i : Int) + rI 1).toNatClampNeg) (xs (rI (i : Int) + rI 2).toNatClampNeg)) cbX6_reads lkL_44 viX6_reads (rp_rcO sh0 rfl) rfl (Nat.le_of_ble_eq_true rfl) ⟨rfl, rfl, ⟨Nat.le_of_ble_eq_true rfl, Nat.le_of_ble_eq_true rfl⟩, Nat.le_of_ble_eq_true rfl, Nat.le_of_ble_eq_true rfl⟩ rfl (Nat.le_of_ble_eq_true rfl) dL_law_396 kk) ?_
  refine rp_aload_n (x := (E.2.2.2.1 28)) dL_law_399 rfl ?_
  refine rp_aload_n (x := b) dL_law_400 rfl ?_
  refine rp_iload_n (x := rI (i : Int)) dL_law_401 rfl ?_
  refine rp_iconst dL_law_402 ?_
  refine rp_iadd dL_law_403 ?_
  refine lw_sld (i := rI (i : Int) + rI 1) (lw_in (by omega) (by omega) hL) dL_law_404 ?_
  refine rp_aload_n (x := b) dL_law_405 rfl ?_
  refine rp_iload_n (x := rI (i : Int)) dL_law_406 rfl ?_
  refine rp_iconst dL_law_407 ?_
  refine rp_iadd dL_law_408 ?_
  refine lw_sld (i := rI (i : Int) + rI 2) (lw_in (by omega) (by omega) hL) dL_law_409 ?_
  refine lw_cI h2 (fun kk => rp_callV_hI (As := [.int (xs (rI (i : Int) + rI 1).toNatClampNeg), .int (xs (rI (i : Int) + rI 2).toNatClampNeg)]) (rest := [.int r]) (b := (E.2.2.2.1 28)) (rX7_reads σ1 (xs (rI (i : Int) + rI 1).toNatClampNeg) (xs (rI (i : Int) + rI 2).toNatClampNeg)) cbX7_reads lkL_47 viX7_reads (rp_rcO sh28 rfl) rfl (Nat.le_of_ble_eq_true rfl) ⟨rfl, rfl, ⟨Nat.le_of_ble_eq_true rfl, Nat.le_of_ble_eq_true rfl⟩, Nat.le_of_ble_eq_true rfl, Nat.le_of_ble_eq_true rfl⟩ rfl (Nat.le_of_ble_eq_true rfl) dL_law_410 kk) ?_
  refine lw_eq (tgt := 1498) dL_law_413 (by decide) ?_
  exact nx σ2 h3
set_option maxRecDepth 100000 in
theorem lawc_8 {E : rp_E} {b L : Nat} {xs : Nat → Int32} {i : Nat} {σ : rp_S} (hi : i + 5 ≤ L) (hL : L ≤ 320) (hI : Inv σ) (nx : ∀ τ : rp_S, Inv τ → rp_R E (lw_K E b L xs) mL_law 1498 (lwv E b (rI (i : Int))) [] τ lw_h (some ())) : rp_R E (lw_K E b L xs) mL_law 418 (lwv E b (rI (i : Int))) [] σ lw_h (some ()) := by
  obtain ⟨r, σ1, h1, h2, h3⟩ := op_looks hI (xs (rI (i : Int) + rI 1).toNatClampNeg) (xs (rI (i : Int) + rI 2).toNatClampNeg)
  refine rp_aload_n (x := (E.2.2.2.1 0)) dL_law_418 rfl ?_
  refine rp_aload_n (x := b) dL_law_419 rfl ?_
  refine rp_iload_n (x := rI (i : Int)) dL_law_420 rfl ?_
  refine rp_iconst dL_law_421 ?_
  refine rp_iadd dL_law_422 ?_
  refine lw_sld (i := rI (i : Int) + rI 1) (lw_in (by omega) (by omega) hL) dL_law_423 ?_
  refine rp_aload_n (x := b) dL_law_424 rfl ?_
  refine rp_iload_n (x := rI (i : Int)) dL_law_425 rfl ?_
  refine rp_iconst dL_law_426 ?_
  refine rp_iadd dL_law_427 ?_
  refine lw_sld (i := rI (i : Int) + rI 2) (lw_in (by omega) (by omega) hL) dL_law_428 ?_
  refine lw_cI h1 (fun kk => rp_callV_hI (As := [.int (xs (rI (i : Int) + rI 1).toNatClampNeg), .int (xs (rI (i : Int) + rI 2).toNatClampNeg)]) (rest := []) (b := (E.2.2.2.1 0)) (rX6_looks σ (xs (rI (i : Int) + rI 1).toNatClampNeg) (xs (rI (i : Int) + rI 2).toNatClampNeg)) cbX6_looks lkL_48 viX6_looks (rp_rcO sh0 rfl) rfl (Nat.le_of_ble_eq_true rfl) ⟨rfl, rfl, ⟨Nat.le_of_ble_eq_true rfl, Nat.le_of_ble_eq_true rfl⟩, Nat.le_of_ble_eq_true rfl, Nat.le_of_ble_eq_true rfl⟩ rfl (Nat.le_of_ble_eq_true rfl) dL_law_429 kk) ?_
  refine rp_aload_n (x := (E.2.2.2.1 28)) dL_law_432 rfl ?_
  refine rp_aload_n (x := b) dL_law_433 rfl ?_
  refine rp_iload_n (x := rI (i : Int)) dL_law_434 rfl ?_
  refine rp_iconst dL_law_435 ?_
  refine rp_iadd dL_law_436 ?_
  refine lw_sld (i := rI (i : Int) + rI 1) (lw_in (by omega) (by omega) hL) dL_law_437 ?_
  refine rp_aload_n (x := b) dL_law_438 rfl ?_
  refine rp_iload_n (x := rI (i : Int)) dL_law_439 rfl ?_
  refine rp_iconst dL_law_440 ?_
  refine rp_iadd dL_law_441 ?_
  refine lw_sld (i := rI (i : Int) + rI 2) (lw_in (by omega) (by omega) hL) dL_law_442 ?_
  refine lw_ci h2 (fun kk => rp_callV_hi (As := [.int (xs (rI (i : Int) + rI 1).toNatClampNeg), .int (xs (rI (i : Int) + rI 2).toNatClampNeg)]) (rest := [.int r]) (b := (E.2.2.2.1 28)) (rX7_looks σ1 (xs (rI (i : Int) + rI 1).toNatClampNeg) (xs (rI (i : Int) + rI 2).toNatClampNeg)) cbX7_looks lkL_51 viX7_looks (rp_rcO sh28 rfl) rfl (Nat.le_of_ble_eq_true rfl) ⟨rfl, rfl, ⟨Nat.le_of_ble_eq_true rfl, Nat.le_of_ble_eq_true rfl⟩, Nat.le_of_ble_eq_true rfl, Nat.le_of_ble_eq_true rfl⟩ rfl (Nat.le_of_ble_eq_true rfl) dL_law_443 kk) ?_
  refine lw_eq (tgt := 1498) dL_law_446 (by decide) ?_
  exact nx σ1 h3
set_option maxRecDepth 100000 in
theorem lawc_9 {E : rp_E} {b L : Nat} {xs : Nat → Int32} {i : Nat} {σ : rp_S} (hi : i + 5 ≤ L) (hL : L ≤ 320) (hI : Inv σ) (nx : ∀ τ : rp_S, Inv τ → rp_R E (lw_K E b L xs) mL_law 1498 (lwv E b (rI (i : Int))) [] τ lw_h (some ())) : rp_R E (lw_K E b L xs) mL_law 451 (lwv E b (rI (i : Int))) [] σ lw_h (some ()) := by
  obtain ⟨r, σ1, h1, h2, h3⟩ := op_sky hI (xs (rI (i : Int) + rI 1).toNatClampNeg)
  refine rp_aload_n (x := (E.2.2.2.1 0)) dL_law_451 rfl ?_
  refine rp_aload_n (x := b) dL_law_452 rfl ?_
  refine rp_iload_n (x := rI (i : Int)) dL_law_453 rfl ?_
  refine rp_iconst dL_law_454 ?_
  refine rp_iadd dL_law_455 ?_
  refine lw_sld (i := rI (i : Int) + rI 1) (lw_in (by omega) (by omega) hL) dL_law_456 ?_
  refine lw_cI h1 (fun kk => rp_callV_hI (As := [.int (xs (rI (i : Int) + rI 1).toNatClampNeg)]) (rest := []) (b := (E.2.2.2.1 0)) (rX6_sky σ (xs (rI (i : Int) + rI 1).toNatClampNeg)) cbX6_sky lkL_52 viX6_sky (rp_rcO sh0 rfl) rfl (Nat.le_of_ble_eq_true rfl) ⟨rfl, rfl, ⟨Nat.le_of_ble_eq_true rfl, Nat.le_of_ble_eq_true rfl⟩, Nat.le_of_ble_eq_true rfl, Nat.le_of_ble_eq_true rfl⟩ rfl (Nat.le_of_ble_eq_true rfl) dL_law_457 kk) ?_
  refine rp_aload_n (x := (E.2.2.2.1 28)) dL_law_460 rfl ?_
  refine rp_aload_n (x := b) dL_law_461 rfl ?_
  refine rp_iload_n (x := rI (i : Int)) dL_law_462 rfl ?_
  refine rp_iconst dL_law_463 ?_
  refine rp_iadd dL_law_464 ?_
  refine lw_sld (i := rI (i : Int) + rI 1) (lw_in (by omega) (by omega) hL) dL_law_465 ?_
  refine lw_ci h2 (fun kk => rp_callV_hi (As := [.int (xs (rI (i : Int) + rI 1).toNatClampNeg)]) (rest := [.int r]) (b := (E.2.2.2.1 28)) (rX7_sky σ1 (xs (rI (i : Int) + rI 1).toNatClampNeg)) cbX7_sky lkL_55 viX7_sky (rp_rcO sh28 rfl) rfl (Nat.le_of_ble_eq_true rfl) ⟨rfl, rfl, ⟨Nat.le_of_ble_eq_true rfl, Nat.le_of_ble_eq_true rfl⟩, Nat.le_of_ble_eq_true rfl, Nat.le_of_ble_eq_true rfl⟩ rfl (Nat.le_of_ble_eq_true rfl) dL_law_466 kk) ?_
  refine lw_eq (tgt := 1498) dL_law_469 (by decide) ?_
  exact nx σ1 h3
set_option maxRecDepth 100000 in
theorem lawc_10 {E : rp_E} {b L : Nat} {xs : Nat → Int32} {i : Nat} {σ : rp_S} (hi : i + 5 ≤ L) (hL : L ≤ 320) (hI : Inv σ) (nx : ∀ τ : rp_S, Inv τ → rp_R E (lw_K E b L xs) mL_law 1498 (lwv E b (rI (i : Int))) [] τ lw_h (some ())) : rp_R E (lw_K E b L xs) mL_law 474 (lwv E b (rI (i : Int))) [] σ lw_h (some ()) := by
  obtain ⟨r, σ1, σ2, h1, h2, h3⟩ := op_alter hI (xs (rI (i : Int) + rI 1).toNatClampNeg) (xs (rI (i : Int) + rI 2).toNatClampNeg) (xs (rI (i : Int) + rI 3).toNatClampNeg)
  refine rp_aload_n (x := (E.2.2.2.1 0)) dL_law_474 rfl ?_
  refine rp_aload_n (x := b) dL_law_475 rfl ?_
  refine rp_iload_n (x := rI (i : Int)) dL_law_476 rfl ?_
  refine rp_iconst dL_law_477 ?_
  refine rp_iadd dL_law_478 ?_
  refine lw_sld (i := rI (i : Int) + rI 1) (lw_in (by omega) (by omega) hL) dL_law_479 ?_
  refine rp_aload_n (x := b) dL_law_480 rfl ?_
  refine rp_iload_n (x := rI (i : Int)) dL_law_481 rfl ?_
  refine rp_iconst dL_law_482 ?_
  refine rp_iadd dL_law_483 ?_
  refine lw_sld (i := rI (i : Int) + rI 2) (lw_in (by omega) (by omega) hL) dL_law_484 ?_
  refine rp_aload_n (x := b) dL_law_485 rfl ?_
  refine rp_iload_n (x := rI (i : Int)) dL_law_486 rfl ?_
  refine rp_iconst dL_law_487 ?_
  refine rp_iadd dL_law_488 ?_
  refine lw_sld (i := rI (i : Int) + rI 3) (lw_in (by omega) (by omega) hL) dL_law_489 ?_
  refine lw_cI h1 (fun kk => rp_callV_hI (As := [.int (xs (rI (i : Int) + rI 1).toNatClampNeg), .int (xs (rI (i : Int) + rI 2).toNatClampNeg), .int (xs (rI (i : Int) + rI 3).toNatClampNeg)]) (rest := []) (b := (E.2.2.2.1 0)) (rX6_alter σ (xs (rI (i : Int) + rI 1).toNatClampNeg) (xs (rI (i : Int) + rI 2).toNatClampNeg) (xs (rI (i : Int) + rI 3).toNatClampNeg)) cbX6_alter lkL_56 viX6_alter (rp_rcO sh0 rfl) rfl (Nat.le_of_ble_eq_true rfl) ⟨rfl, rfl, ⟨Nat.le_of_ble_eq_true rfl, Nat.le_of_ble_eq_true rfl⟩, Nat.le_of_ble_eq_true rfl, Nat.le_of_ble_eq_true rfl⟩ rfl (Nat.le_of_ble_eq_true rfl) dL_law_490 kk) ?_
  refine rp_aload_n (x := (E.2.2.2.1 28)) dL_law_493 rfl ?_
  refine rp_aload_n (x := b) dL_law_494 rfl ?_
  refine rp_iload_n (x := rI (i : Int)) dL_law_495 rfl ?_
  refine rp_iconst dL_law_496 ?_
  refine rp_iadd dL_law_497 ?_
  refine lw_sld (i := rI (i : Int) + rI 1) (lw_in (by omega) (by omega) hL) dL_law_498 ?_
  refine rp_aload_n (x := b) dL_law_499 rfl ?_
  refine rp_iload_n (x := rI (i : Int)) dL_law_500 rfl ?_
  refine rp_iconst dL_law_501 ?_
  refine rp_iadd dL_law_502 ?_
  refine lw_sld (i := rI (i : Int) + rI 2) (lw_in (by omega) (by omega) hL) dL_law_503 ?_
  refine rp_aload_n (x := b) dL_law_504 rfl ?_
  refine rp_iload_n (x := rI (i : Int)) dL_law_505 rfl ?_
  refine rp_iconst dL_law_506 ?_
  refine rp_iadd dL_law_507 ?_
  refine lw_sld (i := rI (i : Int) + rI 3) (lw_in (by omega) (by omega) hL) dL_law_508 ?_
  refine lw_cI h2 (fun kk => rp_callV_hI (As := [.int (xs (rI (i : Int) + rI 1).toNatClampNeg), .int (xs (rI (i : Int) + rI 2).toNatClampNeg), .int (xs (rI (i : Int) + rI 3).toNatClampNeg)]) (rest := [.int r]) (b := (E.2.2.2.1 28)) (rX7_alter σ1 (xs (rI (i : Int) + rI 1).toNatClampNeg) (xs (rI (i : Int) + rI 2).toNatClampNeg) (xs (rI (i : Int) + rI 3).toNatClampNeg)) cbX7_alter lkL_60 viX7_alter (rp_rcO sh28 rfl) rfl (Nat.le_of_ble_eq_true rfl) ⟨rfl, rfl, ⟨Nat.le_of_ble_eq_true rfl, Nat.le_of_ble_eq_true rfl⟩, Nat.le_of_ble_eq_true rfl, Nat.le_of_ble_eq_true rfl⟩ rfl (Nat.le_of_ble_eq_true rfl) dL_law_509 kk) ?_
  refine lw_eq (tgt := 1498) dL_law_512 (by decide) ?_
  exact nx σ2 h3
set_option maxRecDepth 100000 in
theorem lawc_11 {E : rp_E} {b L : Nat} {xs : Nat → Int32} {i : Nat} {σ : rp_S} (hi : i + 5 ≤ L) (hL : L ≤ 320) (hI : Inv σ) (nx : ∀ τ : rp_S, Inv τ → rp_R E (lw_K E b L xs) mL_law 1498 (lwv E b (rI (i : Int))) [] τ lw_h (some ())) : rp_R E (lw_K E b L xs) mL_law 517 (lwv E b (rI (i : Int))) [] σ lw_h (some ()) := by
  obtain ⟨r, σ1, σ2, h1, h2, h3⟩ := op_move hI (xs (rI (i : Int) + rI 1).toNatClampNeg) (xs (rI (i : Int) + rI 2).toNatClampNeg) (xs (rI (i : Int) + rI 3).toNatClampNeg)
  refine rp_aload_n (x := (E.2.2.2.1 0)) dL_law_517 rfl ?_
  refine rp_aload_n (x := b) dL_law_518 rfl ?_
  refine rp_iload_n (x := rI (i : Int)) dL_law_519 rfl ?_
  refine rp_iconst dL_law_520 ?_
  refine rp_iadd dL_law_521 ?_
  refine lw_sld (i := rI (i : Int) + rI 1) (lw_in (by omega) (by omega) hL) dL_law_522 ?_
  refine rp_aload_n (x := b) dL_law_523 rfl ?_
  refine rp_iload_n (x := rI (i : Int)) dL_law_524 rfl ?_
  refine rp_iconst dL_law_525 ?_
  refine rp_iadd dL_law_526 ?_
  refine lw_sld (i := rI (i : Int) + rI 2) (lw_in (by omega) (by omega) hL) dL_law_527 ?_
  refine rp_aload_n (x := b) dL_law_528 rfl ?_
  refine rp_iload_n (x := rI (i : Int)) dL_law_529 rfl ?_
  refine rp_iconst dL_law_530 ?_
  refine rp_iadd dL_law_531 ?_
  refine lw_sld (i := rI (i : Int) + rI 3) (lw_in (by omega) (by omega) hL) dL_law_532 ?_
  refine lw_cI h1 (fun kk => rp_callV_hI (As := [.int (xs (rI (i : Int) + rI 1).toNatClampNeg), .int (xs (rI (i : Int) + rI 2).toNatClampNeg), .int (xs (rI (i : Int) + rI 3).toNatClampNeg)]) (rest := []) (b := (E.2.2.2.1 0)) (rX6_move σ (xs (rI (i : Int) + rI 1).toNatClampNeg) (xs (rI (i : Int) + rI 2).toNatClampNeg) (xs (rI (i : Int) + rI 3).toNatClampNeg)) cbX6_move lkL_61 viX6_move (rp_rcO sh0 rfl) rfl (Nat.le_of_ble_eq_true rfl) ⟨rfl, rfl, ⟨Nat.le_of_ble_eq_true rfl, Nat.le_of_ble_eq_true rfl⟩, Nat.le_of_ble_eq_true rfl, Nat.le_of_ble_eq_true rfl⟩ rfl (Nat.le_of_ble_eq_true rfl) dL_law_533 kk) ?_
  refine rp_aload_n (x := (E.2.2.2.1 28)) dL_law_536 rfl ?_
  refine rp_aload_n (x := b) dL_law_537 rfl ?_
  refine rp_iload_n (x := rI (i : Int)) dL_law_538 rfl ?_
  refine rp_iconst dL_law_539 ?_
  refine rp_iadd dL_law_540 ?_
  refine lw_sld (i := rI (i : Int) + rI 1) (lw_in (by omega) (by omega) hL) dL_law_541 ?_
  refine rp_aload_n (x := b) dL_law_542 rfl ?_
  refine rp_iload_n (x := rI (i : Int)) dL_law_543 rfl ?_
  refine rp_iconst dL_law_544 ?_
  refine rp_iadd dL_law_545 ?_
  refine lw_sld (i := rI (i : Int) + rI 2) (lw_in (by omega) (by omega) hL) dL_law_546 ?_
  refine rp_aload_n (x := b) dL_law_547 rfl ?_
  refine rp_iload_n (x := rI (i : Int)) dL_law_548 rfl ?_
  refine rp_iconst dL_law_549 ?_
  refine rp_iadd dL_law_550 ?_
  refine lw_sld (i := rI (i : Int) + rI 3) (lw_in (by omega) (by omega) hL) dL_law_551 ?_
  refine lw_cI h2 (fun kk => rp_callV_hI (As := [.int (xs (rI (i : Int) + rI 1).toNatClampNeg), .int (xs (rI (i : Int) + rI 2).toNatClampNeg), .int (xs (rI (i : Int) + rI 3).toNatClampNeg)]) (rest := [.int r]) (b := (E.2.2.2.1 28)) (rX7_move σ1 (xs (rI (i : Int) + rI 1).toNatClampNeg) (xs (rI (i : Int) + rI 2).toNatClampNeg) (xs (rI (i : Int) + rI 3).toNatClampNeg)) cbX7_move lkL_64 viX7_move (rp_rcO sh28 rfl) rfl (Nat.le_of_ble_eq_true rfl) ⟨rfl, rfl, ⟨Nat.le_of_ble_eq_true rfl, Nat.le_of_ble_eq_true rfl⟩, Nat.le_of_ble_eq_true rfl, Nat.le_of_ble_eq_true rfl⟩ rfl (Nat.le_of_ble_eq_true rfl) dL_law_552 kk) ?_
  refine lw_eq (tgt := 1498) dL_law_555 (by decide) ?_
  exact nx σ2 h3
set_option maxRecDepth 100000 in
theorem lawc_12 {E : rp_E} {b L : Nat} {xs : Nat → Int32} {i : Nat} {σ : rp_S} (hi : i + 5 ≤ L) (hL : L ≤ 320) (hI : Inv σ) (nx : ∀ τ : rp_S, Inv τ → rp_R E (lw_K E b L xs) mL_law 1498 (lwv E b (rI (i : Int))) [] τ lw_h (some ())) : rp_R E (lw_K E b L xs) mL_law 560 (lwv E b (rI (i : Int))) [] σ lw_h (some ()) := by
  obtain ⟨r, σ1, σ2, h1, h2, h3⟩ := op_blow hI (xs (rI (i : Int) + rI 1).toNatClampNeg)
  refine rp_aload_n (x := (E.2.2.2.1 0)) dL_law_560 rfl ?_
  refine rp_aload_n (x := b) dL_law_561 rfl ?_
  refine rp_iload_n (x := rI (i : Int)) dL_law_562 rfl ?_
  refine rp_iconst dL_law_563 ?_
  refine rp_iadd dL_law_564 ?_
  refine lw_sld (i := rI (i : Int) + rI 1) (lw_in (by omega) (by omega) hL) dL_law_565 ?_
  refine lw_cI h1 (fun kk => rp_callV_hI (As := [.int (xs (rI (i : Int) + rI 1).toNatClampNeg)]) (rest := []) (b := (E.2.2.2.1 0)) (rX6_blow σ (xs (rI (i : Int) + rI 1).toNatClampNeg)) cbX6_blow lkL_65 viX6_blow (rp_rcO sh0 rfl) rfl (Nat.le_of_ble_eq_true rfl) ⟨rfl, rfl, ⟨Nat.le_of_ble_eq_true rfl, Nat.le_of_ble_eq_true rfl⟩, Nat.le_of_ble_eq_true rfl, Nat.le_of_ble_eq_true rfl⟩ rfl (Nat.le_of_ble_eq_true rfl) dL_law_566 kk) ?_
  refine rp_aload_n (x := (E.2.2.2.1 28)) dL_law_569 rfl ?_
  refine rp_aload_n (x := b) dL_law_570 rfl ?_
  refine rp_iload_n (x := rI (i : Int)) dL_law_571 rfl ?_
  refine rp_iconst dL_law_572 ?_
  refine rp_iadd dL_law_573 ?_
  refine lw_sld (i := rI (i : Int) + rI 1) (lw_in (by omega) (by omega) hL) dL_law_574 ?_
  refine lw_cI h2 (fun kk => rp_callV_hI (As := [.int (xs (rI (i : Int) + rI 1).toNatClampNeg)]) (rest := [.int r]) (b := (E.2.2.2.1 28)) (rX7_blow σ1 (xs (rI (i : Int) + rI 1).toNatClampNeg)) cbX7_blow lkL_68 viX7_blow (rp_rcO sh28 rfl) rfl (Nat.le_of_ble_eq_true rfl) ⟨rfl, rfl, ⟨Nat.le_of_ble_eq_true rfl, Nat.le_of_ble_eq_true rfl⟩, Nat.le_of_ble_eq_true rfl, Nat.le_of_ble_eq_true rfl⟩ rfl (Nat.le_of_ble_eq_true rfl) dL_law_575 kk) ?_
  refine lw_eq (tgt := 1498) dL_law_578 (by decide) ?_
  exact nx σ2 h3
set_option maxRecDepth 100000 in
theorem lawc_13 {E : rp_E} {b L : Nat} {xs : Nat → Int32} {i : Nat} {σ : rp_S} (hi : i + 5 ≤ L) (hL : L ≤ 320) (hI : Inv σ) (nx : ∀ τ : rp_S, Inv τ → rp_R E (lw_K E b L xs) mL_law 1498 (lwv E b (rI (i : Int))) [] τ lw_h (some ())) : rp_R E (lw_K E b L xs) mL_law 583 (lwv E b (rI (i : Int))) [] σ lw_h (some ()) := by
  obtain ⟨r, σ1, σ2, h1, h2, h3⟩ := op_damp hI (xs (rI (i : Int) + rI 1).toNatClampNeg)
  refine rp_aload_n (x := (E.2.2.2.1 0)) dL_law_583 rfl ?_
  refine rp_aload_n (x := b) dL_law_584 rfl ?_
  refine rp_iload_n (x := rI (i : Int)) dL_law_585 rfl ?_
  refine rp_iconst dL_law_586 ?_
  refine rp_iadd dL_law_587 ?_
  refine lw_sld (i := rI (i : Int) + rI 1) (lw_in (by omega) (by omega) hL) dL_law_588 ?_
  refine lw_cI h1 (fun kk => rp_callV_hI (As := [.int (xs (rI (i : Int) + rI 1).toNatClampNeg)]) (rest := []) (b := (E.2.2.2.1 0)) (rX6_damp σ (xs (rI (i : Int) + rI 1).toNatClampNeg)) cbX6_damp lkL_69 viX6_damp (rp_rcO sh0 rfl) rfl (Nat.le_of_ble_eq_true rfl) ⟨rfl, rfl, ⟨Nat.le_of_ble_eq_true rfl, Nat.le_of_ble_eq_true rfl⟩, Nat.le_of_ble_eq_true rfl, Nat.le_of_ble_eq_true rfl⟩ rfl (Nat.le_of_ble_eq_true rfl) dL_law_589 kk) ?_
  refine rp_aload_n (x := (E.2.2.2.1 28)) dL_law_592 rfl ?_
  refine rp_aload_n (x := b) dL_law_593 rfl ?_
  refine rp_iload_n (x := rI (i : Int)) dL_law_594 rfl ?_
  refine rp_iconst dL_law_595 ?_
  refine rp_iadd dL_law_596 ?_
  refine lw_sld (i := rI (i : Int) + rI 1) (lw_in (by omega) (by omega) hL) dL_law_597 ?_
  refine lw_cI h2 (fun kk => rp_callV_hI (As := [.int (xs (rI (i : Int) + rI 1).toNatClampNeg)]) (rest := [.int r]) (b := (E.2.2.2.1 28)) (rX7_damp σ1 (xs (rI (i : Int) + rI 1).toNatClampNeg)) cbX7_damp lkL_72 viX7_damp (rp_rcO sh28 rfl) rfl (Nat.le_of_ble_eq_true rfl) ⟨rfl, rfl, ⟨Nat.le_of_ble_eq_true rfl, Nat.le_of_ble_eq_true rfl⟩, Nat.le_of_ble_eq_true rfl, Nat.le_of_ble_eq_true rfl⟩ rfl (Nat.le_of_ble_eq_true rfl) dL_law_598 kk) ?_
  refine lw_eq (tgt := 1498) dL_law_601 (by decide) ?_
  exact nx σ2 h3
set_option maxRecDepth 100000 in
theorem lawc_14 {E : rp_E} {b L : Nat} {xs : Nat → Int32} {i : Nat} {σ : rp_S} (hi : i + 5 ≤ L) (hL : L ≤ 320) (hI : Inv σ) (nx : ∀ τ : rp_S, Inv τ → rp_R E (lw_K E b L xs) mL_law 1498 (lwv E b (rI (i : Int))) [] τ lw_h (some ())) : rp_R E (lw_K E b L xs) mL_law 606 (lwv E b (rI (i : Int))) [] σ lw_h (some ()) := by
  obtain ⟨r, σ1, σ2, h1, h2, h3⟩ := op_write hI (xs (rI (i : Int) + rI 1).toNatClampNeg) (xs (rI (i : Int) + rI 2).toNatClampNeg) (xs (rI (i : Int) + rI 3).toNatClampNeg) (xs (rI (i : Int) + rI 4).toNatClampNeg)
  refine rp_aload_n (x := (E.2.2.2.1 0)) dL_law_606 rfl ?_
  refine rp_aload_n (x := b) dL_law_607 rfl ?_
  refine rp_iload_n (x := rI (i : Int)) dL_law_608 rfl ?_
  refine rp_iconst dL_law_609 ?_
  refine rp_iadd dL_law_610 ?_
  refine lw_sld (i := rI (i : Int) + rI 1) (lw_in (by omega) (by omega) hL) dL_law_611 ?_
  refine rp_aload_n (x := b) dL_law_612 rfl ?_
  refine rp_iload_n (x := rI (i : Int)) dL_law_613 rfl ?_
  refine rp_iconst dL_law_614 ?_
  refine rp_iadd dL_law_615 ?_
  refine lw_sld (i := rI (i : Int) + rI 2) (lw_in (by omega) (by omega) hL) dL_law_616 ?_
  refine rp_aload_n (x := b) dL_law_617 rfl ?_
  refine rp_iload_n (x := rI (i : Int)) dL_law_618 rfl ?_
  refine rp_iconst dL_law_619 ?_
  refine rp_iadd dL_law_620 ?_
  refine lw_sld (i := rI (i : Int) + rI 3) (lw_in (by omega) (by omega) hL) dL_law_621 ?_
  refine rp_aload_n (x := b) dL_law_622 rfl ?_
  refine rp_iload_n (x := rI (i : Int)) dL_law_623 rfl ?_
  refine rp_iconst dL_law_624 ?_
  refine rp_iadd dL_law_625 ?_
  refine lw_sld (i := rI (i : Int) + rI 4) (lw_in (by omega) (by omega) hL) dL_law_626 ?_
  refine lw_cI h1 (fun kk => rp_callV_hI (As := [.int (xs (rI (i : Int) + rI 1).toNatClampNeg), .int (xs (rI (i : Int) + rI 2).toNatClampNeg), .int (xs (rI (i : Int) + rI 3).toNatClampNeg), .int (xs (rI (i : Int) + rI 4).toNatClampNeg)]) (rest := []) (b := (E.2.2.2.1 0)) (rX6_write σ (xs (rI (i : Int) + rI 1).toNatClampNeg) (xs (rI (i : Int) + rI 2).toNatClampNeg) (xs (rI (i : Int) + rI 3).toNatClampNeg) (xs (rI (i : Int) + rI 4).toNatClampNeg)) cbX6_write lkL_73 viX6_write (rp_rcO sh0 rfl) rfl (Nat.le_of_ble_eq_true rfl) ⟨rfl, rfl, ⟨Nat.le_of_ble_eq_true rfl, Nat.le_of_ble_eq_true rfl⟩, Nat.le_of_ble_eq_true rfl, Nat.le_of_ble_eq_true rfl⟩ rfl (Nat.le_of_ble_eq_true rfl) dL_law_627 kk) ?_
  refine rp_aload_n (x := (E.2.2.2.1 28)) dL_law_630 rfl ?_
  refine rp_aload_n (x := b) dL_law_631 rfl ?_
  refine rp_iload_n (x := rI (i : Int)) dL_law_632 rfl ?_
  refine rp_iconst dL_law_633 ?_
  refine rp_iadd dL_law_634 ?_
  refine lw_sld (i := rI (i : Int) + rI 1) (lw_in (by omega) (by omega) hL) dL_law_635 ?_
  refine rp_aload_n (x := b) dL_law_636 rfl ?_
  refine rp_iload_n (x := rI (i : Int)) dL_law_637 rfl ?_
  refine rp_iconst dL_law_638 ?_
  refine rp_iadd dL_law_639 ?_
  refine lw_sld (i := rI (i : Int) + rI 2) (lw_in (by omega) (by omega) hL) dL_law_640 ?_
  refine rp_aload_n (x := b) dL_law_641 rfl ?_
  refine rp_iload_n (x := rI (i : Int)) dL_law_642 rfl ?_
  refine rp_iconst dL_law_643 ?_
  refine rp_iadd dL_law_644 ?_
  refine lw_sld (i := rI (i : Int) + rI 3) (lw_in (by omega) (by omega) hL) dL_law_645 ?_
  refine rp_aload_n (x := b) dL_law_646 rfl ?_
  refine rp_iload_n (x := rI (i : Int)) dL_law_647 rfl ?_
  refine rp_iconst dL_law_648 ?_
  refine rp_iadd dL_law_649 ?_
  refine lw_sld (i := rI (i : Int) + rI 4) (lw_in (by omega) (by omega) hL) dL_law_650 ?_
  refine lw_cI h2 (fun kk => rp_callV_hI (As := [.int (xs (rI (i : Int) + rI 1).toNatClampNeg), .int (xs (rI (i : Int) + rI 2).toNatClampNeg), .int (xs (rI (i : Int) + rI 3).toNatClampNeg), .int (xs (rI (i : Int) + rI 4).toNatClampNeg)]) (rest := [.int r]) (b := (E.2.2.2.1 28)) (rX7_write σ1 (xs (rI (i : Int) + rI 1).toNatClampNeg) (xs (rI (i : Int) + rI 2).toNatClampNeg) (xs (rI (i : Int) + rI 3).toNatClampNeg) (xs (rI (i : Int) + rI 4).toNatClampNeg)) cbX7_write lkL_77 viX7_write (rp_rcO sh28 rfl) rfl (Nat.le_of_ble_eq_true rfl) ⟨rfl, rfl, ⟨Nat.le_of_ble_eq_true rfl, Nat.le_of_ble_eq_true rfl⟩, Nat.le_of_ble_eq_true rfl, Nat.le_of_ble_eq_true rfl⟩ rfl (Nat.le_of_ble_eq_true rfl) dL_law_651 kk) ?_
  refine lw_eq (tgt := 1498) dL_law_654 (by decide) ?_
  exact nx σ2 h3
set_option maxRecDepth 100000 in
theorem lawc_15 {E : rp_E} {b L : Nat} {xs : Nat → Int32} {i : Nat} {σ : rp_S} (hi : i + 5 ≤ L) (hL : L ≤ 320) (hI : Inv σ) (nx : ∀ τ : rp_S, Inv τ → rp_R E (lw_K E b L xs) mL_law 1498 (lwv E b (rI (i : Int))) [] τ lw_h (some ())) : rp_R E (lw_K E b L xs) mL_law 659 (lwv E b (rI (i : Int))) [] σ lw_h (some ()) := by
  obtain ⟨r, σ1, σ2, h1, h2, h3⟩ := op_come hI (xs (rI (i : Int) + rI 1).toNatClampNeg) (xs (rI (i : Int) + rI 2).toNatClampNeg)
  refine rp_aload_n (x := (E.2.2.2.1 0)) dL_law_659 rfl ?_
  refine rp_aload_n (x := b) dL_law_660 rfl ?_
  refine rp_iload_n (x := rI (i : Int)) dL_law_661 rfl ?_
  refine rp_iconst dL_law_662 ?_
  refine rp_iadd dL_law_663 ?_
  refine lw_sld (i := rI (i : Int) + rI 1) (lw_in (by omega) (by omega) hL) dL_law_664 ?_
  refine rp_aload_n (x := b) dL_law_665 rfl ?_
  refine rp_iload_n (x := rI (i : Int)) dL_law_666 rfl ?_
  refine rp_iconst dL_law_667 ?_
  refine rp_iadd dL_law_668 ?_
  refine lw_sld (i := rI (i : Int) + rI 2) (lw_in (by omega) (by omega) hL) dL_law_669 ?_
  refine lw_cI h1 (fun kk => rp_callV_hI (As := [.int (xs (rI (i : Int) + rI 1).toNatClampNeg), .int (xs (rI (i : Int) + rI 2).toNatClampNeg)]) (rest := []) (b := (E.2.2.2.1 0)) (rX6_come σ (xs (rI (i : Int) + rI 1).toNatClampNeg) (xs (rI (i : Int) + rI 2).toNatClampNeg)) cbX6_come lkL_78 viX6_come (rp_rcO sh0 rfl) rfl (Nat.le_of_ble_eq_true rfl) ⟨rfl, rfl, ⟨Nat.le_of_ble_eq_true rfl, Nat.le_of_ble_eq_true rfl⟩, Nat.le_of_ble_eq_true rfl, Nat.le_of_ble_eq_true rfl⟩ rfl (Nat.le_of_ble_eq_true rfl) dL_law_670 kk) ?_
  refine rp_aload_n (x := (E.2.2.2.1 28)) dL_law_673 rfl ?_
  refine rp_aload_n (x := b) dL_law_674 rfl ?_
  refine rp_iload_n (x := rI (i : Int)) dL_law_675 rfl ?_
  refine rp_iconst dL_law_676 ?_
  refine rp_iadd dL_law_677 ?_
  refine lw_sld (i := rI (i : Int) + rI 1) (lw_in (by omega) (by omega) hL) dL_law_678 ?_
  refine rp_aload_n (x := b) dL_law_679 rfl ?_
  refine rp_iload_n (x := rI (i : Int)) dL_law_680 rfl ?_
  refine rp_iconst dL_law_681 ?_
  refine rp_iadd dL_law_682 ?_
  refine lw_sld (i := rI (i : Int) + rI 2) (lw_in (by omega) (by omega) hL) dL_law_683 ?_
  refine lw_cI h2 (fun kk => rp_callV_hI (As := [.int (xs (rI (i : Int) + rI 1).toNatClampNeg), .int (xs (rI (i : Int) + rI 2).toNatClampNeg)]) (rest := [.int r]) (b := (E.2.2.2.1 28)) (rX7_come σ1 (xs (rI (i : Int) + rI 1).toNatClampNeg) (xs (rI (i : Int) + rI 2).toNatClampNeg)) cbX7_come lkL_81 viX7_come (rp_rcO sh28 rfl) rfl (Nat.le_of_ble_eq_true rfl) ⟨rfl, rfl, ⟨Nat.le_of_ble_eq_true rfl, Nat.le_of_ble_eq_true rfl⟩, Nat.le_of_ble_eq_true rfl, Nat.le_of_ble_eq_true rfl⟩ rfl (Nat.le_of_ble_eq_true rfl) dL_law_684 kk) ?_
  refine lw_eq (tgt := 1498) dL_law_687 (by decide) ?_
  exact nx σ2 h3
set_option maxRecDepth 100000 in
theorem lawc_16 {E : rp_E} {b L : Nat} {xs : Nat → Int32} {i : Nat} {σ : rp_S} (hi : i + 5 ≤ L) (hL : L ≤ 320) (hI : Inv σ) (nx : ∀ τ : rp_S, Inv τ → rp_R E (lw_K E b L xs) mL_law 1498 (lwv E b (rI (i : Int))) [] τ lw_h (some ())) : rp_R E (lw_K E b L xs) mL_law 692 (lwv E b (rI (i : Int))) [] σ lw_h (some ()) := by
  obtain ⟨r, σ1, σ2, h1, h2, h3⟩ := op_burn hI (xs (rI (i : Int) + rI 1).toNatClampNeg)
  refine rp_aload_n (x := (E.2.2.2.1 0)) dL_law_692 rfl ?_
  refine rp_aload_n (x := b) dL_law_693 rfl ?_
  refine rp_iload_n (x := rI (i : Int)) dL_law_694 rfl ?_
  refine rp_iconst dL_law_695 ?_
  refine rp_iadd dL_law_696 ?_
  refine lw_sld (i := rI (i : Int) + rI 1) (lw_in (by omega) (by omega) hL) dL_law_697 ?_
  refine lw_cI h1 (fun kk => rp_callV_hI (As := [.int (xs (rI (i : Int) + rI 1).toNatClampNeg)]) (rest := []) (b := (E.2.2.2.1 0)) (rX6_burn σ (xs (rI (i : Int) + rI 1).toNatClampNeg)) cbX6_burn lkL_82 viX6_burn (rp_rcO sh0 rfl) rfl (Nat.le_of_ble_eq_true rfl) ⟨rfl, rfl, ⟨Nat.le_of_ble_eq_true rfl, Nat.le_of_ble_eq_true rfl⟩, Nat.le_of_ble_eq_true rfl, Nat.le_of_ble_eq_true rfl⟩ rfl (Nat.le_of_ble_eq_true rfl) dL_law_698 kk) ?_
  refine rp_aload_n (x := (E.2.2.2.1 28)) dL_law_701 rfl ?_
  refine rp_aload_n (x := b) dL_law_702 rfl ?_
  refine rp_iload_n (x := rI (i : Int)) dL_law_703 rfl ?_
  refine rp_iconst dL_law_704 ?_
  refine rp_iadd dL_law_705 ?_
  refine lw_sld (i := rI (i : Int) + rI 1) (lw_in (by omega) (by omega) hL) dL_law_706 ?_
  refine lw_cI h2 (fun kk => rp_callV_hI (As := [.int (xs (rI (i : Int) + rI 1).toNatClampNeg)]) (rest := [.int r]) (b := (E.2.2.2.1 28)) (rX7_burn σ1 (xs (rI (i : Int) + rI 1).toNatClampNeg)) cbX7_burn lkL_85 viX7_burn (rp_rcO sh28 rfl) rfl (Nat.le_of_ble_eq_true rfl) ⟨rfl, rfl, ⟨Nat.le_of_ble_eq_true rfl, Nat.le_of_ble_eq_true rfl⟩, Nat.le_of_ble_eq_true rfl, Nat.le_of_ble_eq_true rfl⟩ rfl (Nat.le_of_ble_eq_true rfl) dL_law_707 kk) ?_
  refine lw_eq (tgt := 1498) dL_law_710 (by decide) ?_
  exact nx σ2 h3
set_option maxRecDepth 100000 in
theorem lawc_17 {E : rp_E} {b L : Nat} {xs : Nat → Int32} {i : Nat} {σ : rp_S} (hi : i + 5 ≤ L) (hL : L ≤ 320) (hI : Inv σ) (nx : ∀ τ : rp_S, Inv τ → rp_R E (lw_K E b L xs) mL_law 1498 (lwv E b (rI (i : Int))) [] τ lw_h (some ())) : rp_R E (lw_K E b L xs) mL_law 715 (lwv E b (rI (i : Int))) [] σ lw_h (some ()) := by
  obtain ⟨r, σ1, σ2, h1, h2, h3⟩ := op_leave hI (xs (rI (i : Int) + rI 1).toNatClampNeg)
  refine rp_aload_n (x := (E.2.2.2.1 0)) dL_law_715 rfl ?_
  refine rp_aload_n (x := b) dL_law_716 rfl ?_
  refine rp_iload_n (x := rI (i : Int)) dL_law_717 rfl ?_
  refine rp_iconst dL_law_718 ?_
  refine rp_iadd dL_law_719 ?_
  refine lw_sld (i := rI (i : Int) + rI 1) (lw_in (by omega) (by omega) hL) dL_law_720 ?_
  refine lw_cI h1 (fun kk => rp_callV_hI (As := [.int (xs (rI (i : Int) + rI 1).toNatClampNeg)]) (rest := []) (b := (E.2.2.2.1 0)) (rX6_leave σ (xs (rI (i : Int) + rI 1).toNatClampNeg)) cbX6_leave lkL_86 viX6_leave (rp_rcO sh0 rfl) rfl (Nat.le_of_ble_eq_true rfl) ⟨rfl, rfl, ⟨Nat.le_of_ble_eq_true rfl, Nat.le_of_ble_eq_true rfl⟩, Nat.le_of_ble_eq_true rfl, Nat.le_of_ble_eq_true rfl⟩ rfl (Nat.le_of_ble_eq_true rfl) dL_law_721 kk) ?_
  refine rp_aload_n (x := (E.2.2.2.1 28)) dL_law_724 rfl ?_
  refine rp_aload_n (x := b) dL_law_725 rfl ?_
  refine rp_iload_n (x := rI (i : Int)) dL_law_726 rfl ?_
  refine rp_iconst dL_law_727 ?_
  refine rp_iadd dL_law_728 ?_
  refine lw_sld (i := rI (i : Int) + rI 1) (lw_in (by omega) (by omega) hL) dL_law_729 ?_
  refine lw_cI h2 (fun kk => rp_callV_hI (As := [.int (xs (rI (i : Int) + rI 1).toNatClampNeg)]) (rest := [.int r]) (b := (E.2.2.2.1 28)) (rX7_leave σ1 (xs (rI (i : Int) + rI 1).toNatClampNeg)) cbX7_leave lkL_89 viX7_leave (rp_rcO sh28 rfl) rfl (Nat.le_of_ble_eq_true rfl) ⟨rfl, rfl, ⟨Nat.le_of_ble_eq_true rfl, Nat.le_of_ble_eq_true rfl⟩, Nat.le_of_ble_eq_true rfl, Nat.le_of_ble_eq_true rfl⟩ rfl (Nat.le_of_ble_eq_true rfl) dL_law_730 kk) ?_
  refine lw_eq (tgt := 1498) dL_law_733 (by decide) ?_
  exact nx σ2 h3
set_option maxRecDepth 100000 in
theorem lawc_18 {E : rp_E} {b L : Nat} {xs : Nat → Int32} {i : Nat} {σ : rp_S} (hi : i + 5 ≤ L) (hL : L ≤ 320) (hI : Inv σ) (nx : ∀ τ : rp_S, Inv τ → rp_R E (lw_K E b L xs) mL_law 1498 (lwv E b (rI (i : Int))) [] τ lw_h (some ())) : rp_R E (lw_K E b L xs) mL_law 738 (lwv E b (rI (i : Int))) [] σ lw_h (some ()) := by
  obtain ⟨r, σ1, h1, h2, h3⟩ := op_first hI (xs (rI (i : Int) + rI 1).toNatClampNeg)
  refine rp_aload_n (x := (E.2.2.2.1 0)) dL_law_738 rfl ?_
  refine rp_aload_n (x := b) dL_law_739 rfl ?_
  refine rp_iload_n (x := rI (i : Int)) dL_law_740 rfl ?_
  refine rp_iconst dL_law_741 ?_
  refine rp_iadd dL_law_742 ?_
  refine lw_sld (i := rI (i : Int) + rI 1) (lw_in (by omega) (by omega) hL) dL_law_743 ?_
  refine lw_cI h1 (fun kk => rp_callV_hI (As := [.int (xs (rI (i : Int) + rI 1).toNatClampNeg)]) (rest := []) (b := (E.2.2.2.1 0)) (rX6_first σ (xs (rI (i : Int) + rI 1).toNatClampNeg)) cbX6_first lkL_90 viX6_first (rp_rcO sh0 rfl) rfl (Nat.le_of_ble_eq_true rfl) ⟨rfl, rfl, ⟨Nat.le_of_ble_eq_true rfl, Nat.le_of_ble_eq_true rfl⟩, Nat.le_of_ble_eq_true rfl, Nat.le_of_ble_eq_true rfl⟩ rfl (Nat.le_of_ble_eq_true rfl) dL_law_744 kk) ?_
  refine rp_aload_n (x := (E.2.2.2.1 28)) dL_law_747 rfl ?_
  refine rp_aload_n (x := b) dL_law_748 rfl ?_
  refine rp_iload_n (x := rI (i : Int)) dL_law_749 rfl ?_
  refine rp_iconst dL_law_750 ?_
  refine rp_iadd dL_law_751 ?_
  refine lw_sld (i := rI (i : Int) + rI 1) (lw_in (by omega) (by omega) hL) dL_law_752 ?_
  refine lw_ci h2 (fun kk => rp_callV_hi (As := [.int (xs (rI (i : Int) + rI 1).toNatClampNeg)]) (rest := [.int r]) (b := (E.2.2.2.1 28)) (rX7_first σ1 (xs (rI (i : Int) + rI 1).toNatClampNeg)) cbX7_first lkL_93 viX7_first (rp_rcO sh28 rfl) rfl (Nat.le_of_ble_eq_true rfl) ⟨rfl, rfl, ⟨Nat.le_of_ble_eq_true rfl, Nat.le_of_ble_eq_true rfl⟩, Nat.le_of_ble_eq_true rfl, Nat.le_of_ble_eq_true rfl⟩ rfl (Nat.le_of_ble_eq_true rfl) dL_law_753 kk) ?_
  refine lw_eq (tgt := 1498) dL_law_756 (by decide) ?_
  exact nx σ1 h3
set_option maxRecDepth 100000 in
theorem lawc_19 {E : rp_E} {b L : Nat} {xs : Nat → Int32} {i : Nat} {σ : rp_S} (hi : i + 5 ≤ L) (hL : L ≤ 320) (hI : Inv σ) (nx : ∀ τ : rp_S, Inv τ → rp_R E (lw_K E b L xs) mL_law 1498 (lwv E b (rI (i : Int))) [] τ lw_h (some ())) : rp_R E (lw_K E b L xs) mL_law 761 (lwv E b (rI (i : Int))) [] σ lw_h (some ()) := by
  obtain ⟨r, σ1, σ2, h1, h2, h3⟩ := op_dark hI
  refine rp_aload_n (x := (E.2.2.2.1 0)) dL_law_761 rfl ?_
  refine lw_cI h1 (fun kk => rp_callV_hI (As := []) (rest := []) (b := (E.2.2.2.1 0)) (rX6_dark σ) cbX6_dark lkL_94 viX6_dark (rp_rcO sh0 rfl) rfl (Nat.le_of_ble_eq_true rfl) ⟨rfl, rfl, ⟨Nat.le_of_ble_eq_true rfl, Nat.le_of_ble_eq_true rfl⟩, Nat.le_of_ble_eq_true rfl, Nat.le_of_ble_eq_true rfl⟩ rfl (Nat.le_of_ble_eq_true rfl) dL_law_762 kk) ?_
  refine rp_aload_n (x := (E.2.2.2.1 28)) dL_law_765 rfl ?_
  refine lw_cI h2 (fun kk => rp_callV_hI (As := []) (rest := [.int r]) (b := (E.2.2.2.1 28)) (rX7_dark σ1) cbX7_dark lkL_97 viX7_dark (rp_rcO sh28 rfl) rfl (Nat.le_of_ble_eq_true rfl) ⟨rfl, rfl, ⟨Nat.le_of_ble_eq_true rfl, Nat.le_of_ble_eq_true rfl⟩, Nat.le_of_ble_eq_true rfl, Nat.le_of_ble_eq_true rfl⟩ rfl (Nat.le_of_ble_eq_true rfl) dL_law_766 kk) ?_
  refine lw_eq (tgt := 1498) dL_law_769 (by decide) ?_
  exact nx σ2 h3
set_option maxRecDepth 100000 in
theorem lawc_20 {E : rp_E} {b L : Nat} {xs : Nat → Int32} {i : Nat} {σ : rp_S} (hi : i + 5 ≤ L) (hL : L ≤ 320) (hI : Inv σ) (nx : ∀ τ : rp_S, Inv τ → rp_R E (lw_K E b L xs) mL_law 1498 (lwv E b (rI (i : Int))) [] τ lw_h (some ())) : rp_R E (lw_K E b L xs) mL_law 774 (lwv E b (rI (i : Int))) [] σ lw_h (some ()) := by
  obtain ⟨r, σ1, h1, h2, h3⟩ := op_peak hI (xs (rI (i : Int) + rI 1).toNatClampNeg) (xs (rI (i : Int) + rI 2).toNatClampNeg)
  refine rp_aload_n (x := (E.2.2.2.1 0)) dL_law_774 rfl ?_
  refine rp_aload_n (x := b) dL_law_775 rfl ?_
  refine rp_iload_n (x := rI (i : Int)) dL_law_776 rfl ?_
  refine rp_iconst dL_law_777 ?_
  refine rp_iadd dL_law_778 ?_
  refine lw_sld (i := rI (i : Int) + rI 1) (lw_in (by omega) (by omega) hL) dL_law_779 ?_
  refine rp_aload_n (x := b) dL_law_780 rfl ?_
  refine rp_iload_n (x := rI (i : Int)) dL_law_781 rfl ?_
  refine rp_iconst dL_law_782 ?_
  refine rp_iadd dL_law_783 ?_
  refine lw_sld (i := rI (i : Int) + rI 2) (lw_in (by omega) (by omega) hL) dL_law_784 ?_
  refine lw_cI h1 (fun kk => rp_callV_hI (As := [.int (xs (rI (i : Int) + rI 1).toNatClampNeg), .int (xs (rI (i : Int) + rI 2).toNatClampNeg)]) (rest := []) (b := (E.2.2.2.1 0)) (rX6_peak σ (xs (rI (i : Int) + rI 1).toNatClampNeg) (xs (rI (i : Int) + rI 2).toNatClampNeg)) cbX6_peak lkL_98 viX6_peak (rp_rcO sh0 rfl) rfl (Nat.le_of_ble_eq_true rfl) ⟨rfl, rfl, ⟨Nat.le_of_ble_eq_true rfl, Nat.le_of_ble_eq_true rfl⟩, Nat.le_of_ble_eq_true rfl, Nat.le_of_ble_eq_true rfl⟩ rfl (Nat.le_of_ble_eq_true rfl) dL_law_785 kk) ?_
  refine rp_aload_n (x := (E.2.2.2.1 28)) dL_law_788 rfl ?_
  refine rp_aload_n (x := b) dL_law_789 rfl ?_
  refine rp_iload_n (x := rI (i : Int)) dL_law_790 rfl ?_
  refine rp_iconst dL_law_791 ?_
  refine rp_iadd dL_law_792 ?_
  refine lw_sld (i := rI (i : Int) + rI 1) (lw_in (by omega) (by omega) hL) dL_law_793 ?_
  refine rp_aload_n (x := b) dL_law_794 rfl ?_
  refine rp_iload_n (x := rI (i : Int)) dL_law_795 rfl ?_
  refine rp_iconst dL_law_796 ?_
  refine rp_iadd dL_law_797 ?_
  refine lw_sld (i := rI (i : Int) + rI 2) (lw_in (by omega) (by omega) hL) dL_law_798 ?_
  refine lw_ci h2 (fun kk => rp_callV_hi (As := [.int (xs (rI (i : Int) + rI 1).toNatClampNeg), .int (xs (rI (i : Int) + rI 2).toNatClampNeg)]) (rest := [.int r]) (b := (E.2.2.2.1 28)) (rX7_peak σ1 (xs (rI (i : Int) + rI 1).toNatClampNeg) (xs (rI (i : Int) + rI 2).toNatClampNeg)) cbX7_peak lkL_101 viX7_peak (rp_rcO sh28 rfl) rfl (Nat.le_of_ble_eq_true rfl) ⟨rfl, rfl, ⟨Nat.le_of_ble_eq_true rfl, Nat.le_of_ble_eq_true rfl⟩, Nat.le_of_ble_eq_true rfl, Nat.le_of_ble_eq_true rfl⟩ rfl (Nat.le_of_ble_eq_true rfl) dL_law_799 kk) ?_
  refine lw_eq (tgt := 1498) dL_law_802 (by decide) ?_
  exact nx σ1 h3
set_option maxRecDepth 100000 in
theorem lawc_21 {E : rp_E} {b L : Nat} {xs : Nat → Int32} {i : Nat} {σ : rp_S} (hi : i + 5 ≤ L) (hL : L ≤ 320) (hI : Inv σ) (nx : ∀ τ : rp_S, Inv τ → rp_R E (lw_K E b L xs) mL_law 1498 (lwv E b (rI (i : Int))) [] τ lw_h (some ())) : rp_R E (lw_K E b L xs) mL_law 807 (lwv E b (rI (i : Int))) [] σ lw_h (some ()) := by
  obtain ⟨r, σ1, σ2, h1, h2, h3⟩ := op_when hI (xs (rI (i : Int) + rI 1).toNatClampNeg) (xs (rI (i : Int) + rI 2).toNatClampNeg)
  refine rp_aload_n (x := (E.2.2.2.1 0)) dL_law_807 rfl ?_
  refine rp_aload_n (x := b) dL_law_808 rfl ?_
  refine rp_iload_n (x := rI (i : Int)) dL_law_809 rfl ?_
  refine rp_iconst dL_law_810 ?_
  refine rp_iadd dL_law_811 ?_
  refine lw_sld (i := rI (i : Int) + rI 1) (lw_in (by omega) (by omega) hL) dL_law_812 ?_
  refine rp_aload_n (x := b) dL_law_813 rfl ?_
  refine rp_iload_n (x := rI (i : Int)) dL_law_814 rfl ?_
  refine rp_iconst dL_law_815 ?_
  refine rp_iadd dL_law_816 ?_
  refine lw_sld (i := rI (i : Int) + rI 2) (lw_in (by omega) (by omega) hL) dL_law_817 ?_
  refine lw_cI h1 (fun kk => rp_callV_hI (As := [.int (xs (rI (i : Int) + rI 1).toNatClampNeg), .int (xs (rI (i : Int) + rI 2).toNatClampNeg)]) (rest := []) (b := (E.2.2.2.1 0)) (rX6_when σ (xs (rI (i : Int) + rI 1).toNatClampNeg) (xs (rI (i : Int) + rI 2).toNatClampNeg)) cbX6_when lkL_102 viX6_when (rp_rcO sh0 rfl) rfl (Nat.le_of_ble_eq_true rfl) ⟨rfl, rfl, ⟨Nat.le_of_ble_eq_true rfl, Nat.le_of_ble_eq_true rfl⟩, Nat.le_of_ble_eq_true rfl, Nat.le_of_ble_eq_true rfl⟩ rfl (Nat.le_of_ble_eq_true rfl) dL_law_818 kk) ?_
  refine rp_aload_n (x := (E.2.2.2.1 28)) dL_law_821 rfl ?_
  refine rp_aload_n (x := b) dL_law_822 rfl ?_
  refine rp_iload_n (x := rI (i : Int)) dL_law_823 rfl ?_
  refine rp_iconst dL_law_824 ?_
  refine rp_iadd dL_law_825 ?_
  refine lw_sld (i := rI (i : Int) + rI 1) (lw_in (by omega) (by omega) hL) dL_law_826 ?_
  refine rp_aload_n (x := b) dL_law_827 rfl ?_
  refine rp_iload_n (x := rI (i : Int)) dL_law_828 rfl ?_
  refine rp_iconst dL_law_829 ?_
  refine rp_iadd dL_law_830 ?_
  refine lw_sld (i := rI (i : Int) + rI 2) (lw_in (by omega) (by omega) hL) dL_law_831 ?_
  refine lw_cI h2 (fun kk => rp_callV_hI (As := [.int (xs (rI (i : Int) + rI 1).toNatClampNeg), .int (xs (rI (i : Int) + rI 2).toNatClampNeg)]) (rest := [.int r]) (b := (E.2.2.2.1 28)) (rX7_when σ1 (xs (rI (i : Int) + rI 1).toNatClampNeg) (xs (rI (i : Int) + rI 2).toNatClampNeg)) cbX7_when lkL_105 viX7_when (rp_rcO sh28 rfl) rfl (Nat.le_of_ble_eq_true rfl) ⟨rfl, rfl, ⟨Nat.le_of_ble_eq_true rfl, Nat.le_of_ble_eq_true rfl⟩, Nat.le_of_ble_eq_true rfl, Nat.le_of_ble_eq_true rfl⟩ rfl (Nat.le_of_ble_eq_true rfl) dL_law_832 kk) ?_
  refine lw_eq (tgt := 1498) dL_law_835 (by decide) ?_
  exact nx σ2 h3
