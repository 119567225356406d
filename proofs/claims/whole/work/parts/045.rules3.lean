def rp_msk : List Bool → List (Option Value) → List (Option Value)
  | [], _ => []
  | _ :: _, [] => []
  | true :: m, v :: t => v :: rp_msk m t
  | false :: m, _ :: t => none :: rp_msk m t
theorem rp_msk_at : ∀ (m : List Bool) (vs : List (Option Value)) (i : Nat) (v : Value), (rp_msk m vs)[i]? = some (some v) → vs[i]? = some (some v) := by
  intro m
  induction m with
  | nil => intro vs i v h; simp [rp_msk] at h
  | cons b m ih =>
    intro vs i v h
    cases vs with
    | nil => simp [rp_msk] at h
    | cons a t =>
      cases b with
      | true =>
        cases i with
        | zero => simpa [rp_msk] using h
        | succ i => simpa using ih t i v (by simpa [rp_msk] using h)
      | false =>
        cases i with
        | zero => simp [rp_msk] at h
        | succ i => simpa using ih t i v (by simpa [rp_msk] using h)
theorem rp_msk_len : ∀ (m : List Bool) (vs : List (Option Value)), m.length = vs.length → (rp_msk m vs).length = vs.length := by
  intro m
  induction m with
  | nil => intro vs h; cases vs with | nil => rfl | cons a t => simp at h
  | cons b m ih =>
    intro vs h
    cases vs with
    | nil => simp at h
    | cons a t => cases b <;> simp [rp_msk, ih t (by simpa using h)]
section RPX
variable {α : Type} {E : rp_E} {K : rp_K} {mi : rp_MI} {pc : Nat} {vs : List (Option Value)} {st : List Value} {σ : rp_S} {h : α → Option Value × rp_S} {o : Option α}
theorem rp_mask (m : List Bool) {vs2 : List (Option Value)} (hl2 : m.length = vs.length) (he : rp_msk m vs = vs2) (k : rp_R E K mi pc vs2 st σ h o) : rp_R E K mi pc vs st σ h o := by
  subst he
  exact fun a ho p e s mm args below meth c H locs arr G X D hl => k a ho p e s mm args below meth c H locs arr G X D ⟨hl.1, hl.2.1, (rp_msk_len _ _ hl2).trans hl.2.2.1, fun i v q => hl.2.2.2 i v (rp_msk_at _ _ i v q)⟩
theorem rp_putB {a ci k idx : Nat} {fds : List (Option Nat)} {x : Int32} {ty : FieldType} {F : rp_S → Option α} (hsh : rp_sh[a]? = some (.inl (ci, fds))) (hk : fds[k]? = some none) (Fp : rp_Fp mi.1.cls idx ci k ty) (hn : narrow ty (.int x) = .int x) (hf : fits ty (.int x) = true) (hd : decode mi.2.1 pc = .ok (.putfield idx, 3)) (kk : ∀ τ, rp_R E K mi (pc + 3) vs st τ h (F τ)) : rp_R E K mi pc vs (.int x :: .ref (E.2.2.2.1 a) :: st) σ h ((some (rp_up σ a k x)).bind F) :=
  rp_putI hsh hk Fp hn hf hd (kk _)
theorem rp_copyB {a b n na nb idx : Nat} {x : Int32} {F : rp_S → Option α} (w : rp_Cw mi.1.cls idx) (ha : rp_sh[a]? = some (.inr (0, na))) (hb : rp_sh[b]? = some (.inr (0, nb))) (hx : x.toInt = n) (h1 : n ≤ na) (h2 : n ≤ nb) (hm : 1 ≤ K.1.frames ∧ (st.map fun v => v.category).sum + (nativeFrameWords "java/lang/System" "arraycopy" 5 + 11) ≤ K.1.locals) (hd : decode mi.2.1 pc = .ok (.invokestatic idx, 3)) (kk : ∀ τ, rp_R E K mi (pc + 3) vs st τ h (F τ)) :
    rp_R E K mi pc vs (.int x :: .int (Int32.ofInt 0) :: .ref (E.2.2.2.1 b) :: .int (Int32.ofInt 0) :: .ref (E.2.2.2.1 a) :: st) σ h ((some (rp_cp σ a b n)).bind F) :=
  rp_copy w ha hb hx h1 h2 hm hd (kk _)
theorem rp_nrZ (x : Int32) : narrow .boolean (.int x) = .int (vp_nar .boolean x) := rfl
theorem rp_nrB (x : Int32) : narrow .byte (.int x) = .int (vp_nar .byte x) := rfl
theorem rp_nrC (x : Int32) : narrow .char (.int x) = .int (vp_nar .char x) := rfl
theorem rp_callV_hi {g : Option Int32} {F : Int32 → Option α} {rm : Room} {mi' : rp_MI} {As rest st0 : List Value} {b idx : Nat} {vs0 : List (Option Value)} (hr : rp_R E (rp_mK E rm) mi' 0 vs0 [] σ (rp_hi σ) g) (hb : rp_Cb mi' As.length) (hk : rp_Lk mi.1.cls idx mi') (hv : rp_Vi mi') (hc : rp_Rc E b mi'.1.cls)
    (hvs : rp_pad mi'.2.2.1 (rp_pos (.ref b :: As)) = vs0) (hln : (lg_sl (.ref b :: As)).length ≤ mi'.2.2.1) (hm : rp_rm K rm mi') (hst : st0 = As.reverse ++ .ref b :: rest) (hcat : (rest.map fun v => v.category).sum ≤ 8) (hd : decode mi.2.1 pc = .ok (.invokevirtual idx, 3))
    (k : ∀ x, g = some x → rp_R E K mi (pc + 3) vs (.int x :: rest) σ h (F x)) : rp_R E K mi pc vs st0 σ h (g.bind F) := rp_callV hr hb hk hv hc hvs hln hm hst hcat hd k
theorem rp_callS_hi {g : Option Int32} {F : Int32 → Option α} {rm : Room} {mi' : rp_MI} {As rest st0 : List Value} {idx : Nat} {vs0 : List (Option Value)} (hr : rp_R E (rp_mK E rm) mi' 0 vs0 [] σ (rp_hi σ) g) (hb : rp_Cb mi' As.length) (hk : rp_Lk mi.1.cls idx mi') (hv : rp_St mi')
    (hvs : rp_pad mi'.2.2.1 (rp_pos As) = vs0) (hln : (lg_sl As).length ≤ mi'.2.2.1) (hm : rp_rm K rm mi') (hst : st0 = As.reverse ++ rest) (hcat : (rest.map fun v => v.category).sum ≤ 8) (hd : decode mi.2.1 pc = .ok (.invokestatic idx, 3))
    (k : ∀ x, g = some x → rp_R E K mi (pc + 3) vs (.int x :: rest) σ h (F x)) : rp_R E K mi pc vs st0 σ h (g.bind F) := rp_callS hr hb hk hv hvs hln hm hst hcat hd k
theorem rp_callV_hI {g : Option (Int32 × rp_S)} {F : (Int32 × rp_S) → Option α} {rm : Room} {mi' : rp_MI} {As rest st0 : List Value} {b idx : Nat} {vs0 : List (Option Value)} (hr : rp_R E (rp_mK E rm) mi' 0 vs0 [] σ rp_hI g) (hb : rp_Cb mi' As.length) (hk : rp_Lk mi.1.cls idx mi') (hv : rp_Vi mi') (hc : rp_Rc E b mi'.1.cls)
    (hvs : rp_pad mi'.2.2.1 (rp_pos (.ref b :: As)) = vs0) (hln : (lg_sl (.ref b :: As)).length ≤ mi'.2.2.1) (hm : rp_rm K rm mi') (hst : st0 = As.reverse ++ .ref b :: rest) (hcat : (rest.map fun v => v.category).sum ≤ 8) (hd : decode mi.2.1 pc = .ok (.invokevirtual idx, 3))
    (k : ∀ x, g = some x → rp_R E K mi (pc + 3) vs (.int x.1 :: rest) x.2 h (F x)) : rp_R E K mi pc vs st0 σ h (g.bind F) := rp_callV hr hb hk hv hc hvs hln hm hst hcat hd k
theorem rp_callS_hI {g : Option (Int32 × rp_S)} {F : (Int32 × rp_S) → Option α} {rm : Room} {mi' : rp_MI} {As rest st0 : List Value} {idx : Nat} {vs0 : List (Option Value)} (hr : rp_R E (rp_mK E rm) mi' 0 vs0 [] σ rp_hI g) (hb : rp_Cb mi' As.length) (hk : rp_Lk mi.1.cls idx mi') (hv : rp_St mi')
    (hvs : rp_pad mi'.2.2.1 (rp_pos As) = vs0) (hln : (lg_sl As).length ≤ mi'.2.2.1) (hm : rp_rm K rm mi') (hst : st0 = As.reverse ++ rest) (hcat : (rest.map fun v => v.category).sum ≤ 8) (hd : decode mi.2.1 pc = .ok (.invokestatic idx, 3))
    (k : ∀ x, g = some x → rp_R E K mi (pc + 3) vs (.int x.1 :: rest) x.2 h (F x)) : rp_R E K mi pc vs st0 σ h (g.bind F) := rp_callS hr hb hk hv hvs hln hm hst hcat hd k
theorem rp_callV_hv {g : Option rp_S} {F : rp_S → Option α} {rm : Room} {mi' : rp_MI} {As rest st0 : List Value} {b idx : Nat} {vs0 : List (Option Value)} (hr : rp_R E (rp_mK E rm) mi' 0 vs0 [] σ rp_hv g) (hb : rp_Cb mi' As.length) (hk : rp_Lk mi.1.cls idx mi') (hv : rp_Vi mi') (hc : rp_Rc E b mi'.1.cls)
    (hvs : rp_pad mi'.2.2.1 (rp_pos (.ref b :: As)) = vs0) (hln : (lg_sl (.ref b :: As)).length ≤ mi'.2.2.1) (hm : rp_rm K rm mi') (hst : st0 = As.reverse ++ .ref b :: rest) (hcat : (rest.map fun v => v.category).sum ≤ 8) (hd : decode mi.2.1 pc = .ok (.invokevirtual idx, 3))
    (k : ∀ x, g = some x → rp_R E K mi (pc + 3) vs (rest) x h (F x)) : rp_R E K mi pc vs st0 σ h (g.bind F) := rp_callV hr hb hk hv hc hvs hln hm hst hcat hd k
theorem rp_callS_hv {g : Option rp_S} {F : rp_S → Option α} {rm : Room} {mi' : rp_MI} {As rest st0 : List Value} {idx : Nat} {vs0 : List (Option Value)} (hr : rp_R E (rp_mK E rm) mi' 0 vs0 [] σ rp_hv g) (hb : rp_Cb mi' As.length) (hk : rp_Lk mi.1.cls idx mi') (hv : rp_St mi')
    (hvs : rp_pad mi'.2.2.1 (rp_pos As) = vs0) (hln : (lg_sl As).length ≤ mi'.2.2.1) (hm : rp_rm K rm mi') (hst : st0 = As.reverse ++ rest) (hcat : (rest.map fun v => v.category).sum ≤ 8) (hd : decode mi.2.1 pc = .ok (.invokestatic idx, 3))
    (k : ∀ x, g = some x → rp_R E K mi (pc + 3) vs (rest) x h (F x)) : rp_R E K mi pc vs st0 σ h (g.bind F) := rp_callS hr hb hk hv hvs hln hm hst hcat hd k
theorem rp_callV_hl {g : Option Int64} {F : Int64 → Option α} {rm : Room} {mi' : rp_MI} {As rest st0 : List Value} {b idx : Nat} {vs0 : List (Option Value)} (hr : rp_R E (rp_mK E rm) mi' 0 vs0 [] σ (rp_hl σ) g) (hb : rp_Cb mi' As.length) (hk : rp_Lk mi.1.cls idx mi') (hv : rp_Vi mi') (hc : rp_Rc E b mi'.1.cls)
    (hvs : rp_pad mi'.2.2.1 (rp_pos (.ref b :: As)) = vs0) (hln : (lg_sl (.ref b :: As)).length ≤ mi'.2.2.1) (hm : rp_rm K rm mi') (hst : st0 = As.reverse ++ .ref b :: rest) (hcat : (rest.map fun v => v.category).sum ≤ 8) (hd : decode mi.2.1 pc = .ok (.invokevirtual idx, 3))
    (k : ∀ x, g = some x → rp_R E K mi (pc + 3) vs (.long x :: rest) σ h (F x)) : rp_R E K mi pc vs st0 σ h (g.bind F) := rp_callV hr hb hk hv hc hvs hln hm hst hcat hd k
theorem rp_callS_hl {g : Option Int64} {F : Int64 → Option α} {rm : Room} {mi' : rp_MI} {As rest st0 : List Value} {idx : Nat} {vs0 : List (Option Value)} (hr : rp_R E (rp_mK E rm) mi' 0 vs0 [] σ (rp_hl σ) g) (hb : rp_Cb mi' As.length) (hk : rp_Lk mi.1.cls idx mi') (hv : rp_St mi')
    (hvs : rp_pad mi'.2.2.1 (rp_pos As) = vs0) (hln : (lg_sl As).length ≤ mi'.2.2.1) (hm : rp_rm K rm mi') (hst : st0 = As.reverse ++ rest) (hcat : (rest.map fun v => v.category).sum ≤ 8) (hd : decode mi.2.1 pc = .ok (.invokestatic idx, 3))
    (k : ∀ x, g = some x → rp_R E K mi (pc + 3) vs (.long x :: rest) σ h (F x)) : rp_R E K mi pc vs st0 σ h (g.bind F) := rp_callS hr hb hk hv hvs hln hm hst hcat hd k
theorem rp_callV_hL {g : Option (Int64 × rp_S)} {F : (Int64 × rp_S) → Option α} {rm : Room} {mi' : rp_MI} {As rest st0 : List Value} {b idx : Nat} {vs0 : List (Option Value)} (hr : rp_R E (rp_mK E rm) mi' 0 vs0 [] σ rp_hL g) (hb : rp_Cb mi' As.length) (hk : rp_Lk mi.1.cls idx mi') (hv : rp_Vi mi') (hc : rp_Rc E b mi'.1.cls)
    (hvs : rp_pad mi'.2.2.1 (rp_pos (.ref b :: As)) = vs0) (hln : (lg_sl (.ref b :: As)).length ≤ mi'.2.2.1) (hm : rp_rm K rm mi') (hst : st0 = As.reverse ++ .ref b :: rest) (hcat : (rest.map fun v => v.category).sum ≤ 8) (hd : decode mi.2.1 pc = .ok (.invokevirtual idx, 3))
    (k : ∀ x, g = some x → rp_R E K mi (pc + 3) vs (.long x.1 :: rest) x.2 h (F x)) : rp_R E K mi pc vs st0 σ h (g.bind F) := rp_callV hr hb hk hv hc hvs hln hm hst hcat hd k
theorem rp_callS_hL {g : Option (Int64 × rp_S)} {F : (Int64 × rp_S) → Option α} {rm : Room} {mi' : rp_MI} {As rest st0 : List Value} {idx : Nat} {vs0 : List (Option Value)} (hr : rp_R E (rp_mK E rm) mi' 0 vs0 [] σ rp_hL g) (hb : rp_Cb mi' As.length) (hk : rp_Lk mi.1.cls idx mi') (hv : rp_St mi')
    (hvs : rp_pad mi'.2.2.1 (rp_pos As) = vs0) (hln : (lg_sl As).length ≤ mi'.2.2.1) (hm : rp_rm K rm mi') (hst : st0 = As.reverse ++ rest) (hcat : (rest.map fun v => v.category).sum ≤ 8) (hd : decode mi.2.1 pc = .ok (.invokestatic idx, 3))
    (k : ∀ x, g = some x → rp_R E K mi (pc + 3) vs (.long x.1 :: rest) x.2 h (F x)) : rp_R E K mi pc vs st0 σ h (g.bind F) := rp_callS hr hb hk hv hvs hln hm hst hcat hd k
theorem rp_callV_hr {g : Option Nat} {F : Nat → Option α} {rm : Room} {mi' : rp_MI} {As rest st0 : List Value} {b idx : Nat} {vs0 : List (Option Value)} (hr : rp_R E (rp_mK E rm) mi' 0 vs0 [] σ (rp_hr E σ) g) (hb : rp_Cb mi' As.length) (hk : rp_Lk mi.1.cls idx mi') (hv : rp_Vi mi') (hc : rp_Rc E b mi'.1.cls)
    (hvs : rp_pad mi'.2.2.1 (rp_pos (.ref b :: As)) = vs0) (hln : (lg_sl (.ref b :: As)).length ≤ mi'.2.2.1) (hm : rp_rm K rm mi') (hst : st0 = As.reverse ++ .ref b :: rest) (hcat : (rest.map fun v => v.category).sum ≤ 8) (hd : decode mi.2.1 pc = .ok (.invokevirtual idx, 3))
    (k : ∀ x, g = some x → rp_R E K mi (pc + 3) vs (.ref (E.2.2.2.1 x) :: rest) σ h (F x)) : rp_R E K mi pc vs st0 σ h (g.bind F) := rp_callV hr hb hk hv hc hvs hln hm hst hcat hd k
theorem rp_callS_hr {g : Option Nat} {F : Nat → Option α} {rm : Room} {mi' : rp_MI} {As rest st0 : List Value} {idx : Nat} {vs0 : List (Option Value)} (hr : rp_R E (rp_mK E rm) mi' 0 vs0 [] σ (rp_hr E σ) g) (hb : rp_Cb mi' As.length) (hk : rp_Lk mi.1.cls idx mi') (hv : rp_St mi')
    (hvs : rp_pad mi'.2.2.1 (rp_pos As) = vs0) (hln : (lg_sl As).length ≤ mi'.2.2.1) (hm : rp_rm K rm mi') (hst : st0 = As.reverse ++ rest) (hcat : (rest.map fun v => v.category).sum ≤ 8) (hd : decode mi.2.1 pc = .ok (.invokestatic idx, 3))
    (k : ∀ x, g = some x → rp_R E K mi (pc + 3) vs (.ref (E.2.2.2.1 x) :: rest) σ h (F x)) : rp_R E K mi pc vs st0 σ h (g.bind F) := rp_callS hr hb hk hv hvs hln hm hst hcat hd k
theorem rp_callV_hu {g : Option Unit} {F : Unit → Option α} {rm : Room} {mi' : rp_MI} {As rest st0 : List Value} {b idx : Nat} {vs0 : List (Option Value)} (hr : rp_R E (rp_mK E rm) mi' 0 vs0 [] σ (rp_hu σ) g) (hb : rp_Cb mi' As.length) (hk : rp_Lk mi.1.cls idx mi') (hv : rp_Vi mi') (hc : rp_Rc E b mi'.1.cls)
    (hvs : rp_pad mi'.2.2.1 (rp_pos (.ref b :: As)) = vs0) (hln : (lg_sl (.ref b :: As)).length ≤ mi'.2.2.1) (hm : rp_rm K rm mi') (hst : st0 = As.reverse ++ .ref b :: rest) (hcat : (rest.map fun v => v.category).sum ≤ 8) (hd : decode mi.2.1 pc = .ok (.invokevirtual idx, 3))
    (k : ∀ x, g = some x → rp_R E K mi (pc + 3) vs (rest) σ h (F x)) : rp_R E K mi pc vs st0 σ h (g.bind F) := rp_callV hr hb hk hv hc hvs hln hm hst hcat hd k
theorem rp_callS_hu {g : Option Unit} {F : Unit → Option α} {rm : Room} {mi' : rp_MI} {As rest st0 : List Value} {idx : Nat} {vs0 : List (Option Value)} (hr : rp_R E (rp_mK E rm) mi' 0 vs0 [] σ (rp_hu σ) g) (hb : rp_Cb mi' As.length) (hk : rp_Lk mi.1.cls idx mi') (hv : rp_St mi')
    (hvs : rp_pad mi'.2.2.1 (rp_pos As) = vs0) (hln : (lg_sl As).length ≤ mi'.2.2.1) (hm : rp_rm K rm mi') (hst : st0 = As.reverse ++ rest) (hcat : (rest.map fun v => v.category).sum ≤ 8) (hd : decode mi.2.1 pc = .ok (.invokestatic idx, 3))
    (k : ∀ x, g = some x → rp_R E K mi (pc + 3) vs (rest) σ h (F x)) : rp_R E K mi pc vs st0 σ h (g.bind F) := rp_callS hr hb hk hv hvs hln hm hst hcat hd k
end RPX
