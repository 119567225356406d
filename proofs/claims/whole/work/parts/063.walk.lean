/-! RocketPrintModel.isWhole(III)Z -/
abbrev rmX7_isWhole : Room := { frames := 1, cells := 0, slots := 0, locals := 24 }
def fX7_isWhole (σ : rp_S) (v1 : Int32) (v2 : Int32) (v3 : Int32) : Option (Int32) :=
  ((fX7_lastsOn σ v1 v3).bind fun x1 =>
    ((fX7_goesUp σ v1 v3).bind fun x2 =>
    (if x2 = 0 then
    (some (rI 0))
  else
    (if x1 ≤ 0 then
    (some (rI 0))
  else
    ((rq_rd σ 34 24 (((rI 6) * v2) + v3)).bind fun x3 =>
    (if x3 = x1 then
    (some (rI 1))
  else
    (some (rI 0))))))))
set_option maxRecDepth 100000 in
theorem rX7_isWhole {E : rp_E} (σ : rp_S) (v1 : Int32) (v2 : Int32) (v3 : Int32)   : rp_R E (rp_mK E rmX7_isWhole) mX7_isWhole 0 [some (.ref (E.2.2.2.1 28)), some (.int v1), some (.int v2), some (.int v3), none] [] σ (rp_hi σ) (fX7_isWhole σ v1 v2 v3) := by
  rw [fX7_isWhole]
  refine rp_aload_n (x := (E.2.2.2.1 28)) dX7_isWhole_0 rfl ?_
  refine rp_iload_n (x := v1) dX7_isWhole_1 rfl ?_
  refine rp_iload_n (x := v3) dX7_isWhole_2 rfl ?_
  refine rp_callV_hi (As := [.int v1, .int v3]) (rest := []) (b := (E.2.2.2.1 28)) (rX7_lastsOn σ v1 v3) cbX7_lastsOn lkX7_126 viX7_lastsOn (rp_rcO sh28 rfl) rfl (Nat.le_of_ble_eq_true rfl) ⟨rfl, rfl, ⟨Nat.le_of_ble_eq_true rfl, Nat.le_of_ble_eq_true rfl⟩, Nat.zero_le _, Nat.zero_le _⟩ rfl (Nat.le_of_ble_eq_true rfl) dX7_isWhole_3 (fun x1 hx1 => ?_)
  refine rp_istore dX7_isWhole_6 (by decide) rfl ?_
  refine rp_aload_n (x := (E.2.2.2.1 28)) dX7_isWhole_8 rfl ?_
  refine rp_iload_n (x := v1) dX7_isWhole_9 rfl ?_
  refine rp_iload_n (x := v3) dX7_isWhole_10 rfl ?_
  refine rp_callV_hi (As := [.int v1, .int v3]) (rest := []) (b := (E.2.2.2.1 28)) (rX7_goesUp σ v1 v3) cbX7_goesUp lkX7_135 viX7_goesUp (rp_rcO sh28 rfl) rfl (Nat.le_of_ble_eq_true rfl) ⟨rfl, rfl, ⟨Nat.le_of_ble_eq_true rfl, Nat.le_of_ble_eq_true rfl⟩, Nat.zero_le _, Nat.zero_le _⟩ rfl (Nat.le_of_ble_eq_true rfl) dX7_isWhole_11 (fun x2 hx2 => ?_)
  refine rp_if_eq (tgt := 42) dX7_isWhole_14 (by decide) ?_ ?_
  · refine rp_iconst dX7_isWhole_42 ?_
    exact rp_zret (x' := (rI 0)) rfl (by decide) rfl dX7_isWhole_43
  · refine rp_iload (x := x1) dX7_isWhole_17 rfl ?_
    refine rp_if_le (tgt := 42) dX7_isWhole_19 (by decide) ?_ ?_
    · refine rp_iconst dX7_isWhole_42 ?_
      exact rp_zret (x' := (rI 0)) rfl (by decide) rfl dX7_isWhole_43
    · refine rp_aload_n (x := (E.2.2.2.1 28)) dX7_isWhole_22 rfl ?_
      refine rp_getR (k := 15) (b := 34) sh28 rfl fdX7_25 dX7_isWhole_23 ?_
      refine rp_bipush dX7_isWhole_26 (by decide) ?_
      refine rp_iload_n (x := v2) dX7_isWhole_28 rfl ?_
      refine rp_imul dX7_isWhole_29 ?_
      refine rp_iload_n (x := v3) dX7_isWhole_30 rfl ?_
      refine rp_iadd dX7_isWhole_31 ?_
      refine rp_iaload sh34 dX7_isWhole_32 (fun x3 => ?_)
      refine rp_iload (x := x1) dX7_isWhole_33 rfl ?_
      refine rp_icmp_ne (tgt := 42) dX7_isWhole_35 (by decide) ?_ ?_
      · refine rp_iconst dX7_isWhole_42 ?_
        exact rp_zret (x' := (rI 0)) rfl (by decide) rfl dX7_isWhole_43
      · refine rp_iconst dX7_isWhole_38 ?_
        refine rp_goto (tgt := 43) dX7_isWhole_39 (by decide) ?_
        exact rp_zret (x' := (rI 1)) rfl (by decide) rfl dX7_isWhole_43
/-! RocketPrintModel.nightOn(I)V -/
abbrev rmX7_nightOn : Room := { frames := 3, cells := 0, slots := 0, locals := 76 }
def fX7_nightOn_194 (k146 : rp_S → Int32 → Int32 → Option (rp_S)) (k161 : rp_S → Int32 → Int32 → Int32 → Option (rp_S)) (σ : rp_S) (v1 : Int32) (v2 : Int32) (v3 : Int32) (s0 : Int32) (s1 : Int32) : Option (rp_S) :=
  ((some (rp_up σ 28 18 (s1 + s0))).bind fun σ7 =>
    (k161 σ7 v1 v2 (v3 + (rI 1))))
set_option maxRecDepth 100000 in
theorem rX7_nightOn_194 {E : rp_E} (k146 : rp_S → Int32 → Int32 → Option (rp_S)) (hk146 : ∀ (σ : rp_S) (v1 : Int32) (v2 : Int32), rp_R E (rp_mK E rmX7_nightOn) mX7_nightOn 146 [some (.ref (E.2.2.2.1 28)), some (.int v1), some (.int v2), none, none, none] [] σ rp_hv (k146 σ v1 v2)) (k161 : rp_S → Int32 → Int32 → Int32 → Option (rp_S)) (hk161 : ∀ (σ : rp_S) (v1 : Int32) (v2 : Int32) (v3 : Int32), rp_R E (rp_mK E rmX7_nightOn) mX7_nightOn 161 [some (.ref (E.2.2.2.1 28)), some (.int v1), some (.int v2), some (.int v3), none, none] [] σ rp_hv (k161 σ v1 v2 v3)) (σ : rp_S) (v1 : Int32) (v2 : Int32) (v3 : Int32) (s0 : Int32) (s1 : Int32) : rp_R E (rp_mK E rmX7_nightOn) mX7_nightOn 194 [some (.ref (E.2.2.2.1 28)), some (.int v1), some (.int v2), some (.int v3), none, none] [.int s0, .int s1, .ref (E.2.2.2.1 28)] σ rp_hv (fX7_nightOn_194 k146 k161 σ v1 v2 v3 s0 s1) := by
  rw [fX7_nightOn_194]
  refine rp_iadd dX7_nightOn_194 ?_
  refine rp_putB (k := 18) sh28 rfl fpX7_155 (vp_nar_int _) rfl dX7_nightOn_195 (fun σ7 => ?_)
  refine rp_iinc (x := v3) dX7_nightOn_198 rfl (by decide) rfl ?_
  refine rp_goto (tgt := 161) dX7_nightOn_201 (by decide) ?_
  refine rp_mask [true, true, true, true, false, false] (vs2 := [some (.ref (E.2.2.2.1 28)), some (.int v1), some (.int v2), some (.int (v3 + (rI 1))), none, none]) rfl rfl ?_
  exact hk161 σ7 v1 v2 (v3 + (rI 1))
def fX7_nightOn_161 (k146 : rp_S → Int32 → Int32 → Option (rp_S)) : Nat → rp_S → Int32 → Int32 → Int32 → Option (rp_S)
  | 0, _, _, _, _ => none
  | n + 1, σ, v1, v2, v3 =>
    ((rq_rd σ 29 180 (v1 + (rI 24))).bind fun x5 =>
    (if x5 ≤ v3 then
    (k146 σ v1 (v2 + (rI 1)))
  else
    ((fX7_isWhole σ v1 v2 v3).bind fun x6 =>
    (if x6 = 0 then
    (fX7_nightOn_194 k146 (fun σ v1 v2 v3 => fX7_nightOn_161 k146 n σ v1 v2 v3) σ v1 v2 v3 (rI 0) (σ 28 18))
  else
    (fX7_nightOn_194 k146 (fun σ v1 v2 v3 => fX7_nightOn_161 k146 n σ v1 v2 v3) σ v1 v2 v3 (rI 1) (σ 28 18))))))
set_option maxRecDepth 100000 in
theorem rX7_nightOn_161 {E : rp_E} (k146 : rp_S → Int32 → Int32 → Option (rp_S)) (hk146 : ∀ (σ : rp_S) (v1 : Int32) (v2 : Int32), rp_R E (rp_mK E rmX7_nightOn) mX7_nightOn 146 [some (.ref (E.2.2.2.1 28)), some (.int v1), some (.int v2), none, none, none] [] σ rp_hv (k146 σ v1 v2)) : ∀ (n : Nat) (σ : rp_S) (v1 : Int32) (v2 : Int32) (v3 : Int32), rp_R E (rp_mK E rmX7_nightOn) mX7_nightOn 161 [some (.ref (E.2.2.2.1 28)), some (.int v1), some (.int v2), some (.int v3), none, none] [] σ rp_hv (fX7_nightOn_161 k146 n σ v1 v2 v3) := by
  intro n
  induction n with
  | zero =>
    intro σ v1 v2 v3
    rw [fX7_nightOn_161]
    exact rp_none
  | succ n ih =>
    intro σ v1 v2 v3
    rw [fX7_nightOn_161]
    refine rp_iload_n (x := v3) dX7_nightOn_161 rfl ?_
    refine rp_aload_n (x := (E.2.2.2.1 28)) dX7_nightOn_162 rfl ?_
    refine rp_getR (k := 0) (b := 29) sh28 rfl fdX7_7 dX7_nightOn_163 ?_
    refine rp_iload_n (x := v1) dX7_nightOn_166 rfl ?_
    refine rp_bipush dX7_nightOn_167 (by decide) ?_
    refine rp_iadd dX7_nightOn_169 ?_
    refine rp_iaload sh29 dX7_nightOn_170 (fun x5 => ?_)
    refine rp_icmp_ge (tgt := 204) dX7_nightOn_171 (by decide) ?_ ?_
    · refine rp_iinc (x := v2) dX7_nightOn_204 rfl (by decide) rfl ?_
      refine rp_goto (tgt := 146) dX7_nightOn_207 (by decide) ?_
      refine rp_mask [true, true, true, false, false, false] (vs2 := [some (.ref (E.2.2.2.1 28)), some (.int v1), some (.int (v2 + (rI 1))), none, none, none]) rfl rfl ?_
      exact hk146 σ v1 (v2 + (rI 1))
    · refine rp_aload_n (x := (E.2.2.2.1 28)) dX7_nightOn_174 rfl ?_
      refine rp_dup dX7_nightOn_175 rfl ?_
      refine rp_getI (k := 18) sh28 rfl fdX7_155 dX7_nightOn_176 ?_
      refine rp_aload_n (x := (E.2.2.2.1 28)) dX7_nightOn_179 rfl ?_
      refine rp_iload_n (x := v1) dX7_nightOn_180 rfl ?_
      refine rp_iload_n (x := v2) dX7_nightOn_181 rfl ?_
      refine rp_iload_n (x := v3) dX7_nightOn_182 rfl ?_
      refine rp_callV_hi (As := [.int v1, .int v2, .int v3]) (rest := [.int (σ 28 18), .ref (E.2.2.2.1 28)]) (b := (E.2.2.2.1 28)) (rX7_isWhole σ v1 v2 v3) cbX7_isWhole lkX7_162 viX7_isWhole (rp_rcO sh28 rfl) rfl (Nat.le_of_ble_eq_true rfl) ⟨rfl, rfl, ⟨Nat.le_of_ble_eq_true rfl, Nat.le_of_ble_eq_true rfl⟩, Nat.zero_le _, Nat.zero_le _⟩ rfl (Nat.le_of_ble_eq_true rfl) dX7_nightOn_183 (fun x6 hx6 => ?_)
      refine rp_if_eq (tgt := 193) dX7_nightOn_186 (by decide) ?_ ?_
      · refine rp_iconst dX7_nightOn_193 ?_
        refine rp_mask [true, true, true, true, false, false] (vs2 := [some (.ref (E.2.2.2.1 28)), some (.int v1), some (.int v2), some (.int v3), none, none]) rfl rfl ?_
        exact rX7_nightOn_194 k146 hk146 (fun σ v1 v2 v3 => fX7_nightOn_161 k146 n σ v1 v2 v3) (fun σ v1 v2 v3 => ih σ v1 v2 v3) σ v1 v2 v3 (rI 0) (σ 28 18)
      · refine rp_iconst dX7_nightOn_189 ?_
        refine rp_goto (tgt := 194) dX7_nightOn_190 (by decide) ?_
        refine rp_mask [true, true, true, true, false, false] (vs2 := [some (.ref (E.2.2.2.1 28)), some (.int v1), some (.int v2), some (.int v3), none, none]) rfl rfl ?_
        exact rX7_nightOn_194 k146 hk146 (fun σ v1 v2 v3 => fX7_nightOn_161 k146 n σ v1 v2 v3) (fun σ v1 v2 v3 => ih σ v1 v2 v3) σ v1 v2 v3 (rI 1) (σ 28 18)
def fX7_nightOn_146  : Nat → rp_S → Int32 → Int32 → Option (rp_S)
  | 0, _, _, _ => none
  | n + 1, σ, v1, v2 =>
    ((rq_rd σ 29 180 (v1 + (rI 33))).bind fun x4 =>
    (if x4 ≤ v2 then
    (some σ)
  else
    (fX7_nightOn_161 (fun σ v1 v2 => fX7_nightOn_146 n σ v1 v2) 1000 σ v1 v2 (rI 0))))
set_option maxRecDepth 100000 in
theorem rX7_nightOn_146 {E : rp_E}  : ∀ (n : Nat) (σ : rp_S) (v1 : Int32) (v2 : Int32), rp_R E (rp_mK E rmX7_nightOn) mX7_nightOn 146 [some (.ref (E.2.2.2.1 28)), some (.int v1), some (.int v2), none, none, none] [] σ rp_hv (fX7_nightOn_146 n σ v1 v2) := by
  intro n
  induction n with
  | zero =>
    intro σ v1 v2
    rw [fX7_nightOn_146]
    exact rp_none
  | succ n ih =>
    intro σ v1 v2
    rw [fX7_nightOn_146]
    refine rp_iload_n (x := v2) dX7_nightOn_146 rfl ?_
    refine rp_aload_n (x := (E.2.2.2.1 28)) dX7_nightOn_147 rfl ?_
    refine rp_getR (k := 0) (b := 29) sh28 rfl fdX7_7 dX7_nightOn_148 ?_
    refine rp_iload_n (x := v1) dX7_nightOn_151 rfl ?_
    refine rp_bipush dX7_nightOn_152 (by decide) ?_
    refine rp_iadd dX7_nightOn_154 ?_
    refine rp_iaload sh29 dX7_nightOn_155 (fun x4 => ?_)
    refine rp_icmp_ge (tgt := 210) dX7_nightOn_156 (by decide) ?_ ?_
    · exact rp_vret rfl rfl dX7_nightOn_210
    · refine rp_iconst dX7_nightOn_159 ?_
      refine rp_istore_n dX7_nightOn_160 (by decide) rfl ?_
      refine rp_mask [true, true, true, true, false, false] (vs2 := [some (.ref (E.2.2.2.1 28)), some (.int v1), some (.int v2), some (.int (rI 0)), none, none]) rfl rfl ?_
      exact rX7_nightOn_161 (fun σ v1 v2 => fX7_nightOn_146 n σ v1 v2) (fun σ v1 v2 => ih σ v1 v2) 1000 σ v1 v2 (rI 0)
def fX7_nightOn_134 (k38 : rp_S → Int32 → Int32 → Option (rp_S)) (σ : rp_S) (v1 : Int32) (v2 : Int32) (s0 : Int32) (s1 : Int32) : Option (rp_S) :=
  ((some (rp_up σ 28 17 (s1 + s0))).bind fun σ9 =>
    (k38 σ9 v1 (v2 + (rI 1))))
set_option maxRecDepth 100000 in
theorem rX7_nightOn_134 {E : rp_E} (k38 : rp_S → Int32 → Int32 → Option (rp_S)) (hk38 : ∀ (σ : rp_S) (v1 : Int32) (v2 : Int32), rp_R E (rp_mK E rmX7_nightOn) mX7_nightOn 38 [some (.ref (E.2.2.2.1 28)), some (.int v1), some (.int v2), none, none, none] [] σ rp_hv (k38 σ v1 v2)) (σ : rp_S) (v1 : Int32) (v2 : Int32) (s0 : Int32) (s1 : Int32) : rp_R E (rp_mK E rmX7_nightOn) mX7_nightOn 134 [some (.ref (E.2.2.2.1 28)), some (.int v1), some (.int v2), none, none, none] [.int s0, .int s1, .ref (E.2.2.2.1 28)] σ rp_hv (fX7_nightOn_134 k38 σ v1 v2 s0 s1) := by
  rw [fX7_nightOn_134]
  refine rp_iadd dX7_nightOn_134 ?_
  refine rp_putB (k := 17) sh28 rfl fpX7_152 (vp_nar_int _) rfl dX7_nightOn_135 (fun σ9 => ?_)
  refine rp_iinc (x := v2) dX7_nightOn_138 rfl (by decide) rfl ?_
  refine rp_goto (tgt := 38) dX7_nightOn_141 (by decide) ?_
  refine rp_mask [true, true, true, false, false, false] (vs2 := [some (.ref (E.2.2.2.1 28)), some (.int v1), some (.int (v2 + (rI 1))), none, none, none]) rfl rfl ?_
  exact hk38 σ9 v1 (v2 + (rI 1))
def fX7_nightOn_110 (k38 : rp_S → Int32 → Int32 → Option (rp_S)) (k52 : rp_S → Int32 → Int32 → Int32 → Int32 → Option (rp_S)) (σ : rp_S) (v1 : Int32) (v2 : Int32) (v3 : Int32) (v4 : Int32) : Option (rp_S) :=
  (k52 σ v1 v2 v3 (v4 + (rI 1)))
set_option maxRecDepth 100000 in
theorem rX7_nightOn_110 {E : rp_E} (k38 : rp_S → Int32 → Int32 → Option (rp_S)) (hk38 : ∀ (σ : rp_S) (v1 : Int32) (v2 : Int32), rp_R E (rp_mK E rmX7_nightOn) mX7_nightOn 38 [some (.ref (E.2.2.2.1 28)), some (.int v1), some (.int v2), none, none, none] [] σ rp_hv (k38 σ v1 v2)) (k52 : rp_S → Int32 → Int32 → Int32 → Int32 → Option (rp_S)) (hk52 : ∀ (σ : rp_S) (v1 : Int32) (v2 : Int32) (v3 : Int32) (v4 : Int32), rp_R E (rp_mK E rmX7_nightOn) mX7_nightOn 52 [some (.ref (E.2.2.2.1 28)), some (.int v1), some (.int v2), some (.int v3), some (.int v4), none] [] σ rp_hv (k52 σ v1 v2 v3 v4)) (σ : rp_S) (v1 : Int32) (v2 : Int32) (v3 : Int32) (v4 : Int32) : rp_R E (rp_mK E rmX7_nightOn) mX7_nightOn 110 [some (.ref (E.2.2.2.1 28)), some (.int v1), some (.int v2), some (.int v3), some (.int v4), none] [] σ rp_hv (fX7_nightOn_110 k38 k52 σ v1 v2 v3 v4) := by
  rw [fX7_nightOn_110]
  refine rp_iinc (x := v4) dX7_nightOn_110 rfl (by decide) rfl ?_
  refine rp_goto (tgt := 52) dX7_nightOn_113 (by decide) ?_
  refine rp_mask [true, true, true, true, true, false] (vs2 := [some (.ref (E.2.2.2.1 28)), some (.int v1), some (.int v2), some (.int v3), some (.int (v4 + (rI 1))), none]) rfl rfl ?_
  exact hk52 σ v1 v2 v3 (v4 + (rI 1))
def fX7_nightOn_52 (k38 : rp_S → Int32 → Int32 → Option (rp_S)) : Nat → rp_S → Int32 → Int32 → Int32 → Int32 → Option (rp_S)
  | 0, _, _, _, _, _ => none
  | n + 1, σ, v1, v2, v3, v4 =>
    ((rq_rd σ 29 180 (v1 + (rI 33))).bind fun x8 =>
    (if x8 ≤ v4 then
    (if (σ 28 16) = v3 then
    (fX7_nightOn_134 k38 σ v1 v2 (rI 1) (σ 28 17))
  else
    (fX7_nightOn_134 k38 σ v1 v2 (rI 0) (σ 28 17)))
  else
    ((fX7_looksOn σ v1 v4 v2).bind fun x10 =>
    (if x10 = (rI (-4)) then
    (fX7_nightOn_110 k38 (fun σ v1 v2 v3 v4 => fX7_nightOn_52 k38 n σ v1 v2 v3 v4) σ v1 v2 v3 v4)
  else
    ((rq_rd σ 34 24 (((rI 6) * v4) + x10)).bind fun x11 =>
    ((rq_wr σ 34 24 (((rI 6) * v4) + x10) (x11 + (rI 1))).bind fun σ12 =>
    ((some (rp_up σ12 28 16 ((σ12 28 16) + (rI 1)))).bind fun σ13 =>
    (fX7_nightOn_110 k38 (fun σ v1 v2 v3 v4 => fX7_nightOn_52 k38 n σ v1 v2 v3 v4) σ13 v1 v2 v3 v4))))))))
set_option maxRecDepth 100000 in
theorem rX7_nightOn_52 {E : rp_E} (k38 : rp_S → Int32 → Int32 → Option (rp_S)) (hk38 : ∀ (σ : rp_S) (v1 : Int32) (v2 : Int32), rp_R E (rp_mK E rmX7_nightOn) mX7_nightOn 38 [some (.ref (E.2.2.2.1 28)), some (.int v1), some (.int v2), none, none, none] [] σ rp_hv (k38 σ v1 v2)) : ∀ (n : Nat) (σ : rp_S) (v1 : Int32) (v2 : Int32) (v3 : Int32) (v4 : Int32), rp_R E (rp_mK E rmX7_nightOn) mX7_nightOn 52 [some (.ref (E.2.2.2.1 28)), some (.int v1), some (.int v2), some (.int v3), some (.int v4), none] [] σ rp_hv (fX7_nightOn_52 k38 n σ v1 v2 v3 v4) := by
  intro n
  induction n with
  | zero =>
    intro σ v1 v2 v3 v4
    rw [fX7_nightOn_52]
    exact rp_none
  | succ n ih =>
    intro σ v1 v2 v3 v4
    rw [fX7_nightOn_52]
    refine rp_iload (x := v4) dX7_nightOn_52 rfl ?_
    refine rp_aload_n (x := (E.2.2.2.1 28)) dX7_nightOn_54 rfl ?_
    refine rp_getR (k := 0) (b := 29) sh28 rfl fdX7_7 dX7_nightOn_55 ?_
    refine rp_iload_n (x := v1) dX7_nightOn_58 rfl ?_
    refine rp_bipush dX7_nightOn_59 (by decide) ?_
    refine rp_iadd dX7_nightOn_61 ?_
    refine rp_iaload sh29 dX7_nightOn_62 (fun x8 => ?_)
    refine rp_icmp_ge (tgt := 116) dX7_nightOn_63 (by decide) ?_ ?_
    · refine rp_aload_n (x := (E.2.2.2.1 28)) dX7_nightOn_116 rfl ?_
      refine rp_dup dX7_nightOn_117 rfl ?_
      refine rp_getI (k := 17) sh28 rfl fdX7_152 dX7_nightOn_118 ?_
      refine rp_aload_n (x := (E.2.2.2.1 28)) dX7_nightOn_121 rfl ?_
      refine rp_getI (k := 16) sh28 rfl fdX7_149 dX7_nightOn_122 ?_
      refine rp_iload_n (x := v3) dX7_nightOn_125 rfl ?_
      refine rp_icmp_ne (tgt := 133) dX7_nightOn_126 (by decide) ?_ ?_
      · refine rp_iconst dX7_nightOn_133 ?_
        refine rp_mask [true, true, true, false, false, false] (vs2 := [some (.ref (E.2.2.2.1 28)), some (.int v1), some (.int v2), none, none, none]) rfl rfl ?_
        exact rX7_nightOn_134 k38 hk38 σ v1 v2 (rI 0) (σ 28 17)
      · refine rp_iconst dX7_nightOn_129 ?_
        refine rp_goto (tgt := 134) dX7_nightOn_130 (by decide) ?_
        refine rp_mask [true, true, true, false, false, false] (vs2 := [some (.ref (E.2.2.2.1 28)), some (.int v1), some (.int v2), none, none, none]) rfl rfl ?_
        exact rX7_nightOn_134 k38 hk38 σ v1 v2 (rI 1) (σ 28 17)
    · refine rp_aload_n (x := (E.2.2.2.1 28)) dX7_nightOn_66 rfl ?_
      refine rp_iload_n (x := v1) dX7_nightOn_67 rfl ?_
      refine rp_iload (x := v4) dX7_nightOn_68 rfl ?_
      refine rp_iload_n (x := v2) dX7_nightOn_70 rfl ?_
      refine rp_callV_hi (As := [.int v1, .int v4, .int v2]) (rest := []) (b := (E.2.2.2.1 28)) (rX7_looksOn σ v1 v4 v2) cbX7_looksOn lkX7_158 viX7_looksOn (rp_rcO sh28 rfl) rfl (Nat.le_of_ble_eq_true rfl) ⟨rfl, rfl, ⟨Nat.le_of_ble_eq_true rfl, Nat.le_of_ble_eq_true rfl⟩, Nat.zero_le _, Nat.zero_le _⟩ rfl (Nat.le_of_ble_eq_true rfl) dX7_nightOn_71 (fun x10 hx10 => ?_)
      refine rp_istore dX7_nightOn_74 (by decide) rfl ?_
      refine rp_iload (x := x10) dX7_nightOn_76 rfl ?_
      refine rp_bipush dX7_nightOn_78 (by decide) ?_
      refine rp_icmp_eq (tgt := 110) dX7_nightOn_80 (by decide) ?_ ?_
      · refine rp_mask [true, true, true, true, true, false] (vs2 := [some (.ref (E.2.2.2.1 28)), some (.int v1), some (.int v2), some (.int v3), some (.int v4), none]) rfl rfl ?_
        exact rX7_nightOn_110 k38 hk38 (fun σ v1 v2 v3 v4 => fX7_nightOn_52 k38 n σ v1 v2 v3 v4) (fun σ v1 v2 v3 v4 => ih σ v1 v2 v3 v4) σ v1 v2 v3 v4
      · refine rp_aload_n (x := (E.2.2.2.1 28)) dX7_nightOn_83 rfl ?_
        refine rp_getR (k := 15) (b := 34) sh28 rfl fdX7_25 dX7_nightOn_84 ?_
        refine rp_bipush dX7_nightOn_87 (by decide) ?_
        refine rp_iload (x := v4) dX7_nightOn_89 rfl ?_
        refine rp_imul dX7_nightOn_91 ?_
        refine rp_iload (x := x10) dX7_nightOn_92 rfl ?_
        refine rp_iadd dX7_nightOn_94 ?_
        refine rp_dup2 dX7_nightOn_95 rfl rfl ?_
        refine rp_iaload sh34 dX7_nightOn_96 (fun x11 => ?_)
        refine rp_iconst dX7_nightOn_97 ?_
        refine rp_iadd dX7_nightOn_98 ?_
        refine rp_iastore sh34 dX7_nightOn_99 (fun σ12 => ?_)
        refine rp_aload_n (x := (E.2.2.2.1 28)) dX7_nightOn_100 rfl ?_
        refine rp_dup dX7_nightOn_101 rfl ?_
        refine rp_getI (k := 16) sh28 rfl fdX7_149 dX7_nightOn_102 ?_
        refine rp_iconst dX7_nightOn_105 ?_
        refine rp_iadd dX7_nightOn_106 ?_
        refine rp_putB (k := 16) sh28 rfl fpX7_149 (vp_nar_int _) rfl dX7_nightOn_107 (fun σ13 => ?_)
        refine rp_mask [true, true, true, true, true, false] (vs2 := [some (.ref (E.2.2.2.1 28)), some (.int v1), some (.int v2), some (.int v3), some (.int v4), none]) rfl rfl ?_
        exact rX7_nightOn_110 k38 hk38 (fun σ v1 v2 v3 v4 => fX7_nightOn_52 k38 n σ v1 v2 v3 v4) (fun σ v1 v2 v3 v4 => ih σ v1 v2 v3 v4) σ13 v1 v2 v3 v4
def fX7_nightOn_38  : Nat → rp_S → Int32 → Int32 → Option (rp_S)
  | 0, _, _, _ => none
  | n + 1, σ, v1, v2 =>
    (if (rI 80) ≤ v2 then
    (fX7_nightOn_146 1000 σ v1 (rI 0))
  else
    (fX7_nightOn_52 (fun σ v1 v2 => fX7_nightOn_38 n σ v1 v2) 1000 σ v1 v2 (σ 28 16) (rI 0)))
set_option maxRecDepth 100000 in
theorem rX7_nightOn_38 {E : rp_E}  : ∀ (n : Nat) (σ : rp_S) (v1 : Int32) (v2 : Int32), rp_R E (rp_mK E rmX7_nightOn) mX7_nightOn 38 [some (.ref (E.2.2.2.1 28)), some (.int v1), some (.int v2), none, none, none] [] σ rp_hv (fX7_nightOn_38 n σ v1 v2) := by
  intro n
  induction n with
  | zero =>
    intro σ v1 v2
    rw [fX7_nightOn_38]
    exact rp_none
  | succ n ih =>
    intro σ v1 v2
    rw [fX7_nightOn_38]
    refine rp_iload_n (x := v2) dX7_nightOn_38 rfl ?_
    refine rp_bipush dX7_nightOn_39 (by decide) ?_
    refine rp_icmp_ge (tgt := 144) dX7_nightOn_41 (by decide) ?_ ?_
    · refine rp_iconst dX7_nightOn_144 ?_
      refine rp_istore_n dX7_nightOn_145 (by decide) rfl ?_
      refine rp_mask [true, true, true, false, false, false] (vs2 := [some (.ref (E.2.2.2.1 28)), some (.int v1), some (.int (rI 0)), none, none, none]) rfl rfl ?_
      exact rX7_nightOn_146 1000 σ v1 (rI 0)
    · refine rp_aload_n (x := (E.2.2.2.1 28)) dX7_nightOn_44 rfl ?_
      refine rp_getI (k := 16) sh28 rfl fdX7_149 dX7_nightOn_45 ?_
      refine rp_istore_n dX7_nightOn_48 (by decide) rfl ?_
      refine rp_iconst dX7_nightOn_49 ?_
      refine rp_istore dX7_nightOn_50 (by decide) rfl ?_
      refine rp_mask [true, true, true, true, true, false] (vs2 := [some (.ref (E.2.2.2.1 28)), some (.int v1), some (.int v2), some (.int (σ 28 16)), some (.int (rI 0)), none]) rfl rfl ?_
      exact rX7_nightOn_52 (fun σ v1 v2 => fX7_nightOn_38 n σ v1 v2) (fun σ v1 v2 => ih σ v1 v2) 1000 σ v1 v2 (σ 28 16) (rI 0)
def fX7_nightOn_17  : Nat → rp_S → Int32 → Int32 → Option (rp_S)
  | 0, _, _, _ => none
  | n + 1, σ, v1, v2 =>
    (if (rI 24) ≤ v2 then
    (fX7_nightOn_38 1000 σ v1 (rI 0))
  else
    ((rq_wr σ 34 24 v2 (rI 0)).bind fun σ14 =>
    (fX7_nightOn_17 n σ14 v1 (v2 + (rI 1)))))
set_option maxRecDepth 100000 in
theorem rX7_nightOn_17 {E : rp_E}  : ∀ (n : Nat) (σ : rp_S) (v1 : Int32) (v2 : Int32), rp_R E (rp_mK E rmX7_nightOn) mX7_nightOn 17 [some (.ref (E.2.2.2.1 28)), some (.int v1), some (.int v2), none, none, none] [] σ rp_hv (fX7_nightOn_17 n σ v1 v2) := by
  intro n
  induction n with
  | zero =>
    intro σ v1 v2
    rw [fX7_nightOn_17]
    exact rp_none
  | succ n ih =>
    intro σ v1 v2
    rw [fX7_nightOn_17]
    refine rp_iload_n (x := v2) dX7_nightOn_17 rfl ?_
    refine rp_bipush dX7_nightOn_18 (by decide) ?_
    refine rp_icmp_ge (tgt := 36) dX7_nightOn_20 (by decide) ?_ ?_
    · refine rp_iconst dX7_nightOn_36 ?_
      refine rp_istore_n dX7_nightOn_37 (by decide) rfl ?_
      refine rp_mask [true, true, true, false, false, false] (vs2 := [some (.ref (E.2.2.2.1 28)), some (.int v1), some (.int (rI 0)), none, none, none]) rfl rfl ?_
      exact rX7_nightOn_38 1000 σ v1 (rI 0)
    · refine rp_aload_n (x := (E.2.2.2.1 28)) dX7_nightOn_23 rfl ?_
      refine rp_getR (k := 15) (b := 34) sh28 rfl fdX7_25 dX7_nightOn_24 ?_
      refine rp_iload_n (x := v2) dX7_nightOn_27 rfl ?_
      refine rp_iconst dX7_nightOn_28 ?_
      refine rp_iastore sh34 dX7_nightOn_29 (fun σ14 => ?_)
      refine rp_iinc (x := v2) dX7_nightOn_30 rfl (by decide) rfl ?_
      refine rp_goto (tgt := 17) dX7_nightOn_33 (by decide) ?_
      refine rp_mask [true, true, true, false, false, false] (vs2 := [some (.ref (E.2.2.2.1 28)), some (.int v1), some (.int (v2 + (rI 1))), none, none, none]) rfl rfl ?_
      exact ih σ14 v1 (v2 + (rI 1))
def fX7_nightOn (σ : rp_S) (v1 : Int32) : Option (rp_S) :=
  ((some (rp_up σ 28 16 (rI 0))).bind fun σ1 =>
    ((some (rp_up σ1 28 17 (rI 0))).bind fun σ2 =>
    ((some (rp_up σ2 28 18 (rI 0))).bind fun σ3 =>
    (fX7_nightOn_17 1000 σ3 v1 (rI 0)))))
set_option maxRecDepth 100000 in
theorem rX7_nightOn {E : rp_E} (σ : rp_S) (v1 : Int32)   : rp_R E (rp_mK E rmX7_nightOn) mX7_nightOn 0 [some (.ref (E.2.2.2.1 28)), some (.int v1), none, none, none, none] [] σ rp_hv (fX7_nightOn σ v1) := by
  rw [fX7_nightOn]
  refine rp_aload_n (x := (E.2.2.2.1 28)) dX7_nightOn_0 rfl ?_
  refine rp_iconst dX7_nightOn_1 ?_
  refine rp_putB (k := 16) sh28 rfl fpX7_149 (vp_nar_int _) rfl dX7_nightOn_2 (fun σ1 => ?_)
  refine rp_aload_n (x := (E.2.2.2.1 28)) dX7_nightOn_5 rfl ?_
  refine rp_iconst dX7_nightOn_6 ?_
  refine rp_putB (k := 17) sh28 rfl fpX7_152 (vp_nar_int _) rfl dX7_nightOn_7 (fun σ2 => ?_)
  refine rp_aload_n (x := (E.2.2.2.1 28)) dX7_nightOn_10 rfl ?_
  refine rp_iconst dX7_nightOn_11 ?_
  refine rp_putB (k := 18) sh28 rfl fpX7_155 (vp_nar_int _) rfl dX7_nightOn_12 (fun σ3 => ?_)
  refine rp_iconst dX7_nightOn_15 ?_
  refine rp_istore_n dX7_nightOn_16 (by decide) rfl ?_
  refine rp_mask [true, true, true, false, false, false] (vs2 := [some (.ref (E.2.2.2.1 28)), some (.int v1), some (.int (rI 0)), none, none, none]) rfl rfl ?_
  exact rX7_nightOn_17 1000 σ3 v1 (rI 0)
/-! RocketPrintModel.rule(I)I -/
abbrev rmX7_rule : Room := { frames := 4, cells := 0, slots := 0, locals := 101 }
def fX7_rule (σ : rp_S) (v1 : Int32) : Option (Int32 × rp_S) :=
  ((fX7_nightOn σ (rI 0)).bind fun σ1 =>
    (if v1 = (rI 0) then
    ((rq_rd σ1 29 180 (rI 24)).bind fun x2 =>
    (some (x2, σ1)))
  else
    (if v1 = (rI 1) then
    ((rq_rd σ1 29 180 (rI 33)).bind fun x3 =>
    (some (x3, σ1)))
  else
    (if v1 = (rI 2) then
    ((rq_rd σ1 29 180 (rI 34)).bind fun x4 =>
    (some ((x4 + (rI 4)), σ1)))
  else
    (if v1 = (rI 3) then
    ((rq_rd σ1 29 180 (rI 35)).bind fun x5 =>
    (some (x5, σ1)))
  else
    (if v1 = (rI 4) then
    (some ((σ1 28 16), σ1))
  else
    (if v1 = (rI 5) then
    (some ((σ1 28 18), σ1))
  else
    (some ((rI (-1)), σ1)))))))))
set_option maxRecDepth 100000 in
theorem rX7_rule {E : rp_E} (σ : rp_S) (v1 : Int32)   : rp_R E (rp_mK E rmX7_rule) mX7_rule 0 [some (.ref (E.2.2.2.1 28)), some (.int v1)] [] σ rp_hI (fX7_rule σ v1) := by
  rw [fX7_rule]
  refine rp_aload_n (x := (E.2.2.2.1 28)) dX7_rule_0 rfl ?_
  refine rp_iconst dX7_rule_1 ?_
  refine rp_callV_hv (As := [.int (rI 0)]) (rest := []) (b := (E.2.2.2.1 28)) (rX7_nightOn σ (rI 0)) cbX7_nightOn lkX7_165 viX7_nightOn (rp_rcO sh28 rfl) rfl (Nat.le_of_ble_eq_true rfl) ⟨rfl, rfl, ⟨Nat.le_of_ble_eq_true rfl, Nat.le_of_ble_eq_true rfl⟩, Nat.zero_le _, Nat.zero_le _⟩ rfl (Nat.le_of_ble_eq_true rfl) dX7_rule_2 (fun σ1 hσ1 => ?_)
  refine rp_iload_n (x := v1) dX7_rule_5 rfl ?_
  refine rp_if2 (fun h0 => ?_) (fun h0 => ?_)
  · refine rp_tswIn (tgt := 44) 0 (by rw [h0]; decide) dX7_rule_6 (by decide) (by decide) rfl (by decide) ?_
    refine rp_aload_n (x := (E.2.2.2.1 28)) dX7_rule_44 rfl ?_
    refine rp_getR (k := 0) (b := 29) sh28 rfl fdX7_7 dX7_rule_45 ?_
    refine rp_bipush dX7_rule_48 (by decide) ?_
    refine rp_iaload sh29 dX7_rule_50 (fun x2 => ?_)
    exact rp_iret rfl rfl dX7_rule_51
  · refine rp_if2 (fun h1 => ?_) (fun h1 => ?_)
    · refine rp_tswIn (tgt := 52) 1 (by rw [h1]; decide) dX7_rule_6 (by decide) (by decide) rfl (by decide) ?_
      refine rp_aload_n (x := (E.2.2.2.1 28)) dX7_rule_52 rfl ?_
      refine rp_getR (k := 0) (b := 29) sh28 rfl fdX7_7 dX7_rule_53 ?_
      refine rp_bipush dX7_rule_56 (by decide) ?_
      refine rp_iaload sh29 dX7_rule_58 (fun x3 => ?_)
      exact rp_iret rfl rfl dX7_rule_59
    · refine rp_if2 (fun h2 => ?_) (fun h2 => ?_)
      · refine rp_tswIn (tgt := 60) 2 (by rw [h2]; decide) dX7_rule_6 (by decide) (by decide) rfl (by decide) ?_
        refine rp_aload_n (x := (E.2.2.2.1 28)) dX7_rule_60 rfl ?_
        refine rp_getR (k := 0) (b := 29) sh28 rfl fdX7_7 dX7_rule_61 ?_
        refine rp_bipush dX7_rule_64 (by decide) ?_
        refine rp_iaload sh29 dX7_rule_66 (fun x4 => ?_)
        refine rp_iconst dX7_rule_67 ?_
        refine rp_iadd dX7_rule_68 ?_
        exact rp_iret rfl rfl dX7_rule_69
      · refine rp_if2 (fun h3 => ?_) (fun h3 => ?_)
        · refine rp_tswIn (tgt := 70) 3 (by rw [h3]; decide) dX7_rule_6 (by decide) (by decide) rfl (by decide) ?_
          refine rp_aload_n (x := (E.2.2.2.1 28)) dX7_rule_70 rfl ?_
          refine rp_getR (k := 0) (b := 29) sh28 rfl fdX7_7 dX7_rule_71 ?_
          refine rp_bipush dX7_rule_74 (by decide) ?_
          refine rp_iaload sh29 dX7_rule_76 (fun x5 => ?_)
          exact rp_iret rfl rfl dX7_rule_77
        · refine rp_if2 (fun h4 => ?_) (fun h4 => ?_)
          · refine rp_tswIn (tgt := 78) 4 (by rw [h4]; decide) dX7_rule_6 (by decide) (by decide) rfl (by decide) ?_
            refine rp_aload_n (x := (E.2.2.2.1 28)) dX7_rule_78 rfl ?_
            refine rp_getI (k := 16) sh28 rfl fdX7_149 dX7_rule_79 ?_
            exact rp_iret rfl rfl dX7_rule_82
          · refine rp_if2 (fun h5 => ?_) (fun h5 => ?_)
            · refine rp_tswIn (tgt := 83) 5 (by rw [h5]; decide) dX7_rule_6 (by decide) (by decide) rfl (by decide) ?_
              refine rp_aload_n (x := (E.2.2.2.1 28)) dX7_rule_83 rfl ?_
              refine rp_getI (k := 18) sh28 rfl fdX7_155 dX7_rule_84 ?_
              exact rp_iret rfl rfl dX7_rule_87
            · refine rp_tswOut (tgt := 88) dX7_rule_6 (by have q0 := lv_neT (a := 0) h0 (by decide); have q1 := lv_neT (a := 1) h1 (by decide); have q2 := lv_neT (a := 2) h2 (by decide); have q3 := lv_neT (a := 3) h3 (by decide); have q4 := lv_neT (a := 4) h4 (by decide); have q5 := lv_neT (a := 5) h5 (by decide); omega) (by decide) ?_
              refine rp_iconst dX7_rule_88 ?_
              exact rp_iret rfl rfl dX7_rule_89
/-! RocketPrint$Night.hasWork(I)Z -/
abbrev rmX1_hasWork : Room := { frames := 1, cells := 0, slots := 0, locals := 22 }
def fX1_hasWork (σ : rp_S) (a0 : Nat) (v1 : Int32) : Option (Int32) :=
  ((fX6_within v1 (rI 0) ((σ a0 2) - (rI 1))).bind fun x1 =>
    (some (vp_nar .boolean x1)))
set_option maxRecDepth 100000 in
theorem rX1_hasWork {E : rp_E} (σ : rp_S) (a0 : Nat) (v1 : Int32) (ha0 : rp_Ni a0)  : rp_R E (rp_mK E rmX1_hasWork) mX1_hasWork 0 [some (.ref (E.2.2.2.1 a0)), some (.int v1)] [] σ (rp_hi σ) (fX1_hasWork σ a0 v1) := by
  rw [fX1_hasWork]
  refine rp_iload_n (x := v1) dX1_hasWork_0 rfl ?_
  refine rp_iconst dX1_hasWork_1 ?_
  refine rp_aload_n (x := (E.2.2.2.1 a0)) dX1_hasWork_2 rfl ?_
  refine rp_getI (k := 2) ha0.1 rfl fdX1_22 dX1_hasWork_3 ?_
  refine rp_iconst dX1_hasWork_6 ?_
  refine rp_isub dX1_hasWork_7 ?_
  refine rp_callS_hi (As := [.int v1, .int (rI 0), .int ((σ a0 2) - (rI 1))]) (rest := []) (rX6_within σ v1 (rI 0) ((σ a0 2) - (rI 1))) cbX6_within lkX1_37 stX6_within rfl (Nat.le_of_ble_eq_true rfl) ⟨rfl, rfl, ⟨Nat.le_of_ble_eq_true rfl, Nat.le_of_ble_eq_true rfl⟩, Nat.zero_le _, Nat.zero_le _⟩ rfl (Nat.le_of_ble_eq_true rfl) dX1_hasWork_8 (fun x1 hx1 => ?_)
  exact rp_zret (x' := (vp_nar .boolean x1)) rfl (rp_nrZ _) rfl dX1_hasWork_11
/-! RocketPrint$Night.stickOf(I)I -/
abbrev rmX1_stickOf : Room := { frames := 3, cells := 0, slots := 0, locals := 62 }
def fX1_stickOf (σ : rp_S) (a0 : Nat) (v1 : Int32) : Option (Int32) :=
  ((fX1_burstOf σ a0 v1).bind fun x1 =>
    ((fX1_lastsOf σ a0 v1).bind fun x2 =>
    ((fX6_clampToDyke (x1 + ((((σ a0 4) - (rI 4)) * x2) / (rI 4)))).bind fun x3 =>
    (some x3))))
set_option maxRecDepth 100000 in
theorem rX1_stickOf {E : rp_E} (σ : rp_S) (a0 : Nat) (v1 : Int32) (ha0 : rp_Ni a0)  : rp_R E (rp_mK E rmX1_stickOf) mX1_stickOf 0 [some (.ref (E.2.2.2.1 a0)), some (.int v1)] [] σ (rp_hi σ) (fX1_stickOf σ a0 v1) := by
  rw [fX1_stickOf]
  refine rp_aload_n (x := (E.2.2.2.1 a0)) dX1_stickOf_0 rfl ?_
  refine rp_iload_n (x := v1) dX1_stickOf_1 rfl ?_
  refine rp_callV_hi (As := [.int v1]) (rest := []) (b := (E.2.2.2.1 a0)) (rX1_burstOf σ a0 v1 ha0) cbX1_burstOf lkX1_63 viX1_burstOf (rp_rcO ha0.1 rfl) rfl (Nat.le_of_ble_eq_true rfl) ⟨rfl, rfl, ⟨Nat.le_of_ble_eq_true rfl, Nat.le_of_ble_eq_true rfl⟩, Nat.zero_le _, Nat.zero_le _⟩ rfl (Nat.le_of_ble_eq_true rfl) dX1_stickOf_2 (fun x1 hx1 => ?_)
  refine rp_aload_n (x := (E.2.2.2.1 a0)) dX1_stickOf_5 rfl ?_
  refine rp_getI (k := 4) ha0.1 rfl fdX1_18 dX1_stickOf_6 ?_
  refine rp_iconst dX1_stickOf_9 ?_
  refine rp_isub dX1_stickOf_10 ?_
  refine rp_aload_n (x := (E.2.2.2.1 a0)) dX1_stickOf_11 rfl ?_
  refine rp_iload_n (x := v1) dX1_stickOf_12 rfl ?_
  refine rp_callV_hi (As := [.int v1]) (rest := [.int ((σ a0 4) - (rI 4)), .int x1]) (b := (E.2.2.2.1 a0)) (rX1_lastsOf σ a0 v1 ha0) cbX1_lastsOf lkX1_66 viX1_lastsOf (rp_rcO ha0.1 rfl) rfl (Nat.le_of_ble_eq_true rfl) ⟨rfl, rfl, ⟨Nat.le_of_ble_eq_true rfl, Nat.le_of_ble_eq_true rfl⟩, Nat.zero_le _, Nat.zero_le _⟩ rfl (Nat.le_of_ble_eq_true rfl) dX1_stickOf_13 (fun x2 hx2 => ?_)
  refine rp_imul dX1_stickOf_16 ?_
  refine rp_iconst dX1_stickOf_17 ?_
  refine rp_idiv0 dX1_stickOf_18 (by decide) ?_
  refine rp_iadd dX1_stickOf_19 ?_
  refine rp_callS_hi (As := [.int (x1 + ((((σ a0 4) - (rI 4)) * x2) / (rI 4)))]) (rest := []) (rX6_clampToDyke σ (x1 + ((((σ a0 4) - (rI 4)) * x2) / (rI 4)))) cbX6_clampToDyke lkX1_59 stX6_clampToDyke rfl (Nat.le_of_ble_eq_true rfl) ⟨rfl, rfl, ⟨Nat.le_of_ble_eq_true rfl, Nat.le_of_ble_eq_true rfl⟩, Nat.zero_le _, Nat.zero_le _⟩ rfl (Nat.le_of_ble_eq_true rfl) dX1_stickOf_20 (fun x3 hx3 => ?_)
  exact rp_iret rfl rfl dX1_stickOf_23
/-! RocketPrint$Show.readersWhole(I)I -/
abbrev rmX3_readersWhole : Room := { frames := 5, cells := 0, slots := 0, locals := 115 }
def fX3_readersWhole_30 (σ : rp_S) (k4 : Int32 → Int32 → Int32 → Option (Int32)) (v1 : Int32) (v2 : Int32) (v3 : Int32) : Option (Int32) :=
  (k4 v1 v2 (v3 + (rI 1)))
set_option maxRecDepth 100000 in
theorem rX3_readersWhole_30 {E : rp_E} (σ : rp_S) (k4 : Int32 → Int32 → Int32 → Option (Int32)) (hk4 : ∀ (v1 : Int32) (v2 : Int32) (v3 : Int32), rp_R E (rp_mK E rmX3_readersWhole) mX3_readersWhole 4 [some (.ref (E.2.2.2.1 4)), some (.int v1), some (.int v2), some (.int v3)] [] σ (rp_hi σ) (k4 v1 v2 v3)) (v1 : Int32) (v2 : Int32) (v3 : Int32) : rp_R E (rp_mK E rmX3_readersWhole) mX3_readersWhole 30 [some (.ref (E.2.2.2.1 4)), some (.int v1), some (.int v2), some (.int v3)] [] σ (rp_hi σ) (fX3_readersWhole_30 σ k4 v1 v2 v3) := by
  rw [fX3_readersWhole_30]
  refine rp_iinc (x := v3) dX3_readersWhole_30 rfl (by decide) rfl ?_
  refine rp_goto (tgt := 4) dX3_readersWhole_33 (by decide) ?_
  refine rp_mask [true, true, true, true] (vs2 := [some (.ref (E.2.2.2.1 4)), some (.int v1), some (.int v2), some (.int (v3 + (rI 1)))]) rfl rfl ?_
  exact hk4 v1 v2 (v3 + (rI 1))
def fX3_readersWhole_4 (σ : rp_S) : Nat → Int32 → Int32 → Int32 → Option (Int32)
  | 0, _, _, _ => none
  | n + 1, v1, v2, v3 =>
    (if (σ 5 3) ≤ v3 then
    (some v2)
  else
    ((fX3_isWhole σ v3 v1).bind fun x1 =>
    (if x1 = 0 then
    (fX3_readersWhole_30 σ (fun v1 v2 v3 => fX3_readersWhole_4 σ n v1 v2 v3) v1 v2 v3)
  else
    (fX3_readersWhole_30 σ (fun v1 v2 v3 => fX3_readersWhole_4 σ n v1 v2 v3) v1 (v2 ||| ((rI 1) <<< (v3 &&& 31))) v3))))
set_option maxRecDepth 100000 in
theorem rX3_readersWhole_4 {E : rp_E} (σ : rp_S) : ∀ (n : Nat) (v1 : Int32) (v2 : Int32) (v3 : Int32), rp_R E (rp_mK E rmX3_readersWhole) mX3_readersWhole 4 [some (.ref (E.2.2.2.1 4)), some (.int v1), some (.int v2), some (.int v3)] [] σ (rp_hi σ) (fX3_readersWhole_4 σ n v1 v2 v3) := by
  intro n
  induction n with
  | zero =>
    intro v1 v2 v3
    rw [fX3_readersWhole_4]
    exact rp_none
  | succ n ih =>
    intro v1 v2 v3
    rw [fX3_readersWhole_4]
    refine rp_iload_n (x := v3) dX3_readersWhole_4 rfl ?_
    refine rp_aload_n (x := (E.2.2.2.1 4)) dX3_readersWhole_5 rfl ?_
    refine rp_getR (k := 0) (b := 5) sh4 rfl fdX3_12 dX3_readersWhole_6 ?_
    refine rp_getI (k := 3) sh5 rfl fdX3_78 dX3_readersWhole_9 ?_
    refine rp_icmp_ge (tgt := 36) dX3_readersWhole_12 (by decide) ?_ ?_
    · refine rp_iload_n (x := v2) dX3_readersWhole_36 rfl ?_
      exact rp_iret rfl rfl dX3_readersWhole_37
    · refine rp_aload_n (x := (E.2.2.2.1 4)) dX3_readersWhole_15 rfl ?_
      refine rp_iload_n (x := v3) dX3_readersWhole_16 rfl ?_
      refine rp_iload_n (x := v1) dX3_readersWhole_17 rfl ?_
      refine rp_callV_hi (As := [.int v3, .int v1]) (rest := []) (b := (E.2.2.2.1 4)) (rX3_isWhole σ v3 v1) cbX3_isWhole lkX3_93 viX3_isWhole (rp_rcO sh4 rfl) rfl (Nat.le_of_ble_eq_true rfl) ⟨rfl, rfl, ⟨Nat.le_of_ble_eq_true rfl, Nat.le_of_ble_eq_true rfl⟩, Nat.zero_le _, Nat.zero_le _⟩ rfl (Nat.le_of_ble_eq_true rfl) dX3_readersWhole_18 (fun x1 hx1 => ?_)
      refine rp_if_eq (tgt := 30) dX3_readersWhole_21 (by decide) ?_ ?_
      · refine rp_mask [true, true, true, true] (vs2 := [some (.ref (E.2.2.2.1 4)), some (.int v1), some (.int v2), some (.int v3)]) rfl rfl ?_
        exact rX3_readersWhole_30 σ (fun v1 v2 v3 => fX3_readersWhole_4 σ n v1 v2 v3) (fun v1 v2 v3 => ih v1 v2 v3) v1 v2 v3
      · refine rp_iload_n (x := v2) dX3_readersWhole_24 rfl ?_
        refine rp_iconst dX3_readersWhole_25 ?_
        refine rp_iload_n (x := v3) dX3_readersWhole_26 rfl ?_
        refine rp_ishl dX3_readersWhole_27 ?_
        refine rp_ior dX3_readersWhole_28 ?_
        refine rp_istore_n dX3_readersWhole_29 (by decide) rfl ?_
        refine rp_mask [true, true, true, true] (vs2 := [some (.ref (E.2.2.2.1 4)), some (.int v1), some (.int (v2 ||| ((rI 1) <<< (v3 &&& 31)))), some (.int v3)]) rfl rfl ?_
        exact rX3_readersWhole_30 σ (fun v1 v2 v3 => fX3_readersWhole_4 σ n v1 v2 v3) (fun v1 v2 v3 => ih v1 v2 v3) v1 (v2 ||| ((rI 1) <<< (v3 &&& 31))) v3
def fX3_readersWhole (σ : rp_S) (v1 : Int32) : Option (Int32) :=
  (fX3_readersWhole_4 σ 1000 v1 (rI 0) (rI 0))
set_option maxRecDepth 100000 in
theorem rX3_readersWhole {E : rp_E} (σ : rp_S) (v1 : Int32)   : rp_R E (rp_mK E rmX3_readersWhole) mX3_readersWhole 0 [some (.ref (E.2.2.2.1 4)), some (.int v1), none, none] [] σ (rp_hi σ) (fX3_readersWhole σ v1) := by
  rw [fX3_readersWhole]
  refine rp_iconst dX3_readersWhole_0 ?_
  refine rp_istore_n dX3_readersWhole_1 (by decide) rfl ?_
  refine rp_iconst dX3_readersWhole_2 ?_
  refine rp_istore_n dX3_readersWhole_3 (by decide) rfl ?_
  refine rp_mask [true, true, true, true] (vs2 := [some (.ref (E.2.2.2.1 4)), some (.int v1), some (.int (rI 0)), some (.int (rI 0))]) rfl rfl ?_
  exact rX3_readersWhole_4 σ 1000 v1 (rI 0) (rI 0)
/-! RocketPrint.work(II)I -/
abbrev rmX6_work : Room := { frames := 6, cells := 0, slots := 0, locals := 138 }
def fX6_work (σ : rp_S) (v1 : Int32) (v2 : Int32) : Option (Int32 × rp_S) :=
  ((fX1_hasWork σ 1 v1).bind fun x1 =>
    (if x1 = 0 then
    (some ((rI (-1)), σ))
  else
    ((fX6_within v2 (rI 0) (rI 3)).bind fun x2 =>
    (if x2 = 0 then
    (if v2 = (rI 4) then
    ((fX1_lastsOf σ 1 v1).bind fun x3 =>
    (some (x3, σ)))
  else
    (if v2 = (rI 5) then
    ((fX1_wideOf σ 1 v1).bind fun x4 =>
    (some (x4, σ)))
  else
    (if v2 = (rI 6) then
    ((fX1_burstOf σ 1 v1).bind fun x5 =>
    (some (x5, σ)))
  else
    (if v2 = (rI 7) then
    ((fX1_stickOf σ 1 v1).bind fun x6 =>
    (some (x6, σ)))
  else
    (if v2 = (rI 8) then
    ((fX3_begin σ 1).bind fun σ7 =>
    ((fX3_readersWhole σ7 v1).bind fun x8 =>
    (some (x8, σ7))))
  else
    (some ((rI (-1)), σ)))))))
  else
    ((fX1_ofWork σ 1 v1 v2).bind fun x9 =>
    (some (x9, σ)))))))
set_option maxRecDepth 100000 in
theorem rX6_work {E : rp_E} (σ : rp_S) (v1 : Int32) (v2 : Int32)   : rp_R E (rp_mK E rmX6_work) mX6_work 0 [some (.ref (E.2.2.2.1 0)), some (.int v1), some (.int v2)] [] σ rp_hI (fX6_work σ v1 v2) := by
  rw [fX6_work]
  refine rp_aload_n (x := (E.2.2.2.1 0)) dX6_work_0 rfl ?_
  refine rp_getR (k := 0) (b := 1) sh0 rfl fdX6_10 dX6_work_1 ?_
  refine rp_iload_n (x := v1) dX6_work_4 rfl ?_
  refine rp_callV_hi (As := [.int v1]) (rest := []) (b := (E.2.2.2.1 1)) (rX1_hasWork σ 1 v1 ni1) cbX1_hasWork lkX6_114 viX1_hasWork (rp_rcO sh1 rfl) rfl (Nat.le_of_ble_eq_true rfl) ⟨rfl, rfl, ⟨Nat.le_of_ble_eq_true rfl, Nat.le_of_ble_eq_true rfl⟩, Nat.zero_le _, Nat.zero_le _⟩ rfl (Nat.le_of_ble_eq_true rfl) dX6_work_5 (fun x1 hx1 => ?_)
  refine rp_if_ne (tgt := 13) dX6_work_8 (by decide) ?_ ?_
  · refine rp_iload_n (x := v2) dX6_work_13 rfl ?_
    refine rp_iconst dX6_work_14 ?_
    refine rp_iconst dX6_work_15 ?_
    refine rp_callS_hi (As := [.int v2, .int (rI 0), .int (rI 3)]) (rest := []) (rX6_within σ v2 (rI 0) (rI 3)) cbX6_within lkX6_57 stX6_within rfl (Nat.le_of_ble_eq_true rfl) ⟨rfl, rfl, ⟨Nat.le_of_ble_eq_true rfl, Nat.le_of_ble_eq_true rfl⟩, Nat.zero_le _, Nat.zero_le _⟩ rfl (Nat.le_of_ble_eq_true rfl) dX6_work_16 (fun x2 hx2 => ?_)
    refine rp_if_eq (tgt := 32) dX6_work_19 (by decide) ?_ ?_
    · refine rp_iload_n (x := v2) dX6_work_32 rfl ?_
      refine rp_if2 (fun h0 => ?_) (fun h0 => ?_)
      · refine rp_tswIn (tgt := 68) 4 (by rw [h0]; decide) dX6_work_33 (by decide) (by decide) rfl (by decide) ?_
        refine rp_aload_n (x := (E.2.2.2.1 0)) dX6_work_68 rfl ?_
        refine rp_getR (k := 0) (b := 1) sh0 rfl fdX6_10 dX6_work_69 ?_
        refine rp_iload_n (x := v1) dX6_work_72 rfl ?_
        refine rp_callV_hi (As := [.int v1]) (rest := []) (b := (E.2.2.2.1 1)) (rX1_lastsOf σ 1 v1 ni1) cbX1_lastsOf lkX6_122 viX1_lastsOf (rp_rcO sh1 rfl) rfl (Nat.le_of_ble_eq_true rfl) ⟨rfl, rfl, ⟨Nat.le_of_ble_eq_true rfl, Nat.le_of_ble_eq_true rfl⟩, Nat.zero_le _, Nat.zero_le _⟩ rfl (Nat.le_of_ble_eq_true rfl) dX6_work_73 (fun x3 hx3 => ?_)
        exact rp_iret rfl rfl dX6_work_76
      · refine rp_if2 (fun h1 => ?_) (fun h1 => ?_)
        · refine rp_tswIn (tgt := 77) 5 (by rw [h1]; decide) dX6_work_33 (by decide) (by decide) rfl (by decide) ?_
          refine rp_aload_n (x := (E.2.2.2.1 0)) dX6_work_77 rfl ?_
          refine rp_getR (k := 0) (b := 1) sh0 rfl fdX6_10 dX6_work_78 ?_
          refine rp_iload_n (x := v1) dX6_work_81 rfl ?_
          refine rp_callV_hi (As := [.int v1]) (rest := []) (b := (E.2.2.2.1 1)) (rX1_wideOf σ 1 v1 ni1) cbX1_wideOf lkX6_126 viX1_wideOf (rp_rcO sh1 rfl) rfl (Nat.le_of_ble_eq_true rfl) ⟨rfl, rfl, ⟨Nat.le_of_ble_eq_true rfl, Nat.le_of_ble_eq_true rfl⟩, Nat.zero_le _, Nat.zero_le _⟩ rfl (Nat.le_of_ble_eq_true rfl) dX6_work_82 (fun x4 hx4 => ?_)
          exact rp_iret rfl rfl dX6_work_85
        · refine rp_if2 (fun h2 => ?_) (fun h2 => ?_)
          · refine rp_tswIn (tgt := 86) 6 (by rw [h2]; decide) dX6_work_33 (by decide) (by decide) rfl (by decide) ?_
            refine rp_aload_n (x := (E.2.2.2.1 0)) dX6_work_86 rfl ?_
            refine rp_getR (k := 0) (b := 1) sh0 rfl fdX6_10 dX6_work_87 ?_
            refine rp_iload_n (x := v1) dX6_work_90 rfl ?_
            refine rp_callV_hi (As := [.int v1]) (rest := []) (b := (E.2.2.2.1 1)) (rX1_burstOf σ 1 v1 ni1) cbX1_burstOf lkX6_129 viX1_burstOf (rp_rcO sh1 rfl) rfl (Nat.le_of_ble_eq_true rfl) ⟨rfl, rfl, ⟨Nat.le_of_ble_eq_true rfl, Nat.le_of_ble_eq_true rfl⟩, Nat.zero_le _, Nat.zero_le _⟩ rfl (Nat.le_of_ble_eq_true rfl) dX6_work_91 (fun x5 hx5 => ?_)
            exact rp_iret rfl rfl dX6_work_94
          · refine rp_if2 (fun h3 => ?_) (fun h3 => ?_)
            · refine rp_tswIn (tgt := 95) 7 (by rw [h3]; decide) dX6_work_33 (by decide) (by decide) rfl (by decide) ?_
              refine rp_aload_n (x := (E.2.2.2.1 0)) dX6_work_95 rfl ?_
              refine rp_getR (k := 0) (b := 1) sh0 rfl fdX6_10 dX6_work_96 ?_
              refine rp_iload_n (x := v1) dX6_work_99 rfl ?_
              refine rp_callV_hi (As := [.int v1]) (rest := []) (b := (E.2.2.2.1 1)) (rX1_stickOf σ 1 v1 ni1) cbX1_stickOf lkX6_132 viX1_stickOf (rp_rcO sh1 rfl) rfl (Nat.le_of_ble_eq_true rfl) ⟨rfl, rfl, ⟨Nat.le_of_ble_eq_true rfl, Nat.le_of_ble_eq_true rfl⟩, Nat.zero_le _, Nat.zero_le _⟩ rfl (Nat.le_of_ble_eq_true rfl) dX6_work_100 (fun x6 hx6 => ?_)
              exact rp_iret rfl rfl dX6_work_103
            · refine rp_if2 (fun h4 => ?_) (fun h4 => ?_)
              · refine rp_tswIn (tgt := 104) 8 (by rw [h4]; decide) dX6_work_33 (by decide) (by decide) rfl (by decide) ?_
                refine rp_aload_n (x := (E.2.2.2.1 0)) dX6_work_104 rfl ?_
                refine rp_getR (k := 1) (b := 4) sh0 rfl fdX6_19 dX6_work_105 ?_
                refine rp_aload_n (x := (E.2.2.2.1 0)) dX6_work_108 rfl ?_
                refine rp_getR (k := 0) (b := 1) sh0 rfl fdX6_10 dX6_work_109 ?_
                refine rp_callV_hv (As := [.ref (E.2.2.2.1 1)]) (rest := []) (b := (E.2.2.2.1 4)) (rX3_begin σ 1 ni1) cbX3_begin lkX6_104 viX3_begin (rp_rcO sh4 rfl) rfl (Nat.le_of_ble_eq_true rfl) ⟨rfl, rfl, ⟨Nat.le_of_ble_eq_true rfl, Nat.le_of_ble_eq_true rfl⟩, Nat.zero_le _, Nat.zero_le _⟩ rfl (Nat.le_of_ble_eq_true rfl) dX6_work_112 (fun σ7 hσ7 => ?_)
                refine rp_aload_n (x := (E.2.2.2.1 0)) dX6_work_115 rfl ?_
                refine rp_getR (k := 1) (b := 4) sh0 rfl fdX6_19 dX6_work_116 ?_
                refine rp_iload_n (x := v1) dX6_work_119 rfl ?_
                refine rp_callV_hi (As := [.int v1]) (rest := []) (b := (E.2.2.2.1 4)) (rX3_readersWhole σ7 v1) cbX3_readersWhole lkX6_135 viX3_readersWhole (rp_rcO sh4 rfl) rfl (Nat.le_of_ble_eq_true rfl) ⟨rfl, rfl, ⟨Nat.le_of_ble_eq_true rfl, Nat.le_of_ble_eq_true rfl⟩, Nat.zero_le _, Nat.zero_le _⟩ rfl (Nat.le_of_ble_eq_true rfl) dX6_work_120 (fun x8 hx8 => ?_)
                exact rp_iret rfl rfl dX6_work_123
              · refine rp_tswOut (tgt := 124) dX6_work_33 (by have q0 := lv_neT (a := 4) h0 (by decide); have q1 := lv_neT (a := 5) h1 (by decide); have q2 := lv_neT (a := 6) h2 (by decide); have q3 := lv_neT (a := 7) h3 (by decide); have q4 := lv_neT (a := 8) h4 (by decide); omega) (by decide) ?_
                refine rp_iconst dX6_work_124 ?_
                exact rp_iret rfl rfl dX6_work_125
    · refine rp_aload_n (x := (E.2.2.2.1 0)) dX6_work_22 rfl ?_
      refine rp_getR (k := 0) (b := 1) sh0 rfl fdX6_10 dX6_work_23 ?_
      refine rp_iload_n (x := v1) dX6_work_26 rfl ?_
      refine rp_iload_n (x := v2) dX6_work_27 rfl ?_
      refine rp_callV_hi (As := [.int v1, .int v2]) (rest := []) (b := (E.2.2.2.1 1)) (rX1_ofWork σ 1 v1 v2 ni1) cbX1_ofWork lkX6_118 viX1_ofWork (rp_rcO sh1 rfl) rfl (Nat.le_of_ble_eq_true rfl) ⟨rfl, rfl, ⟨Nat.le_of_ble_eq_true rfl, Nat.le_of_ble_eq_true rfl⟩, Nat.zero_le _, Nat.zero_le _⟩ rfl (Nat.le_of_ble_eq_true rfl) dX6_work_28 (fun x9 hx9 => ?_)
      exact rp_iret rfl rfl dX6_work_31
  · refine rp_iconst dX6_work_11 ?_
    exact rp_iret rfl rfl dX6_work_12
/-! RocketPrintModel.isWork(I)Z -/
abbrev rmX7_isWork : Room := { frames := 1, cells := 0, slots := 0, locals := 25 }
def fX7_isWork (σ : rp_S) (v1 : Int32) : Option (Int32) :=
  ((rq_rd σ 29 180 (rI 24)).bind fun x1 =>
    ((fX7_in (v1.toInt64) (rJ 0) (x1 - (rI 1)).toInt64).bind fun x2 =>
    (some (vp_nar .boolean x2))))
set_option maxRecDepth 100000 in
theorem rX7_isWork {E : rp_E} (σ : rp_S) (v1 : Int32)   : rp_R E (rp_mK E rmX7_isWork) mX7_isWork 0 [some (.ref (E.2.2.2.1 28)), some (.int v1)] [] σ (rp_hi σ) (fX7_isWork σ v1) := by
  rw [fX7_isWork]
  refine rp_iload_n (x := v1) dX7_isWork_0 rfl ?_
  refine rp_i2l dX7_isWork_1 ?_
  refine rp_lconst dX7_isWork_2 0 (by decide) ?_
  refine rp_aload_n (x := (E.2.2.2.1 28)) dX7_isWork_3 rfl ?_
  refine rp_getR (k := 0) (b := 29) sh28 rfl fdX7_7 dX7_isWork_4 ?_
  refine rp_bipush dX7_isWork_7 (by decide) ?_
  refine rp_iaload sh29 dX7_isWork_9 (fun x1 => ?_)
  refine rp_iconst dX7_isWork_10 ?_
  refine rp_isub dX7_isWork_11 ?_
  refine rp_i2l dX7_isWork_12 ?_
  refine rp_callS_hi (As := [.long (v1.toInt64), .long (rJ 0), .long (x1 - (rI 1)).toInt64]) (rest := []) (rX7_in σ (v1.toInt64) (rJ 0) (x1 - (rI 1)).toInt64) cbX7_in lkX7_49 stX7_in rfl (Nat.le_of_ble_eq_true rfl) ⟨rfl, rfl, ⟨Nat.le_of_ble_eq_true rfl, Nat.le_of_ble_eq_true rfl⟩, Nat.zero_le _, Nat.zero_le _⟩ rfl (Nat.le_of_ble_eq_true rfl) dX7_isWork_13 (fun x2 hx2 => ?_)
  exact rp_zret (x' := (vp_nar .boolean x2)) rfl (rp_nrZ _) rfl dX7_isWork_16
/-! RocketPrintModel.stickOn(II)I -/
abbrev rmX7_stickOn : Room := { frames := 2, cells := 0, slots := 0, locals := 42 }
def fX7_stickOn_49 (σ : rp_S) (s0 : Int32) (s1 : Int32) : Option (Int32) :=
  ((fX7_shore (s1 + s0)).bind fun x4 =>
    (some x4))
set_option maxRecDepth 100000 in
theorem rX7_stickOn_49 {E : rp_E} (σ : rp_S) (s0 : Int32) (s1 : Int32) : rp_R E (rp_mK E rmX7_stickOn) mX7_stickOn 49 [none, none, none, none, none] [.int s0, .int s1] σ (rp_hi σ) (fX7_stickOn_49 σ s0 s1) := by
  rw [fX7_stickOn_49]
  refine rp_iadd dX7_stickOn_49 ?_
  refine rp_callS_hi (As := [.int (s1 + s0)]) (rest := []) (rX7_shore σ (s1 + s0)) cbX7_shore lkX7_123 stX7_shore rfl (Nat.le_of_ble_eq_true rfl) ⟨rfl, rfl, ⟨Nat.le_of_ble_eq_true rfl, Nat.le_of_ble_eq_true rfl⟩, Nat.zero_le _, Nat.zero_le _⟩ rfl (Nat.le_of_ble_eq_true rfl) dX7_stickOn_50 (fun x4 hx4 => ?_)
  exact rp_iret rfl rfl dX7_stickOn_53
def fX7_stickOn_20 (σ : rp_S) (v1 : Int32) (v2 : Int32) (v3 : Int32) (s0 : Int32) : Option (Int32) :=
  ((fX7_lastsOn σ v1 v2).bind fun x2 =>
    ((fX7_burstOn σ v1 v2).bind fun x3 =>
    (if 0 ≤ v3 then
    (fX7_stickOn_49 σ ((s0 * x2) / (rI 4)) x3)
  else
    (fX7_stickOn_49 σ (-((s0 * x2) / (rI 4))) x3))))
set_option maxRecDepth 100000 in
theorem rX7_stickOn_20 {E : rp_E} (σ : rp_S) (v1 : Int32) (v2 : Int32) (v3 : Int32) (s0 : Int32) : rp_R E (rp_mK E rmX7_stickOn) mX7_stickOn 20 [some (.ref (E.2.2.2.1 28)), some (.int v1), some (.int v2), some (.int v3), none] [.int s0] σ (rp_hi σ) (fX7_stickOn_20 σ v1 v2 v3 s0) := by
  rw [fX7_stickOn_20]
  refine rp_aload_n (x := (E.2.2.2.1 28)) dX7_stickOn_20 rfl ?_
  refine rp_iload_n (x := v1) dX7_stickOn_21 rfl ?_
  refine rp_iload_n (x := v2) dX7_stickOn_22 rfl ?_
  refine rp_callV_hi (As := [.int v1, .int v2]) (rest := [.int s0]) (b := (E.2.2.2.1 28)) (rX7_lastsOn σ v1 v2) cbX7_lastsOn lkX7_126 viX7_lastsOn (rp_rcO sh28 rfl) rfl (Nat.le_of_ble_eq_true rfl) ⟨rfl, rfl, ⟨Nat.le_of_ble_eq_true rfl, Nat.le_of_ble_eq_true rfl⟩, Nat.zero_le _, Nat.zero_le _⟩ rfl (Nat.le_of_ble_eq_true rfl) dX7_stickOn_23 (fun x2 hx2 => ?_)
  refine rp_imul dX7_stickOn_26 ?_
  refine rp_iconst dX7_stickOn_27 ?_
  refine rp_idiv0 dX7_stickOn_28 (by decide) ?_
  refine rp_istore dX7_stickOn_29 (by decide) rfl ?_
  refine rp_aload_n (x := (E.2.2.2.1 28)) dX7_stickOn_31 rfl ?_
  refine rp_iload_n (x := v1) dX7_stickOn_32 rfl ?_
  refine rp_iload_n (x := v2) dX7_stickOn_33 rfl ?_
  refine rp_callV_hi (As := [.int v1, .int v2]) (rest := []) (b := (E.2.2.2.1 28)) (rX7_burstOn σ v1 v2) cbX7_burstOn lkX7_129 viX7_burstOn (rp_rcO sh28 rfl) rfl (Nat.le_of_ble_eq_true rfl) ⟨rfl, rfl, ⟨Nat.le_of_ble_eq_true rfl, Nat.le_of_ble_eq_true rfl⟩, Nat.zero_le _, Nat.zero_le _⟩ rfl (Nat.le_of_ble_eq_true rfl) dX7_stickOn_34 (fun x3 hx3 => ?_)
  refine rp_iload_n (x := v3) dX7_stickOn_37 rfl ?_
  refine rp_if_ge (tgt := 47) dX7_stickOn_38 (by decide) ?_ ?_
  · refine rp_iload (x := ((s0 * x2) / (rI 4))) dX7_stickOn_47 rfl ?_
    refine rp_mask [false, false, false, false, false] (vs2 := [none, none, none, none, none]) rfl rfl ?_
    exact rX7_stickOn_49 σ ((s0 * x2) / (rI 4)) x3
  · refine rp_iload (x := ((s0 * x2) / (rI 4))) dX7_stickOn_41 rfl ?_
    refine rp_ineg dX7_stickOn_43 ?_
    refine rp_goto (tgt := 49) dX7_stickOn_44 (by decide) ?_
    refine rp_mask [false, false, false, false, false] (vs2 := [none, none, none, none, none]) rfl rfl ?_
    exact rX7_stickOn_49 σ (-((s0 * x2) / (rI 4))) x3
def fX7_stickOn (σ : rp_S) (v1 : Int32) (v2 : Int32) : Option (Int32) :=
  ((rq_rd σ 29 180 (v1 + (rI 34))).bind fun x1 =>
    (if 0 ≤ x1 then
    (fX7_stickOn_20 σ v1 v2 x1 x1)
  else
    (fX7_stickOn_20 σ v1 v2 x1 (-x1))))
set_option maxRecDepth 100000 in
theorem rX7_stickOn {E : rp_E} (σ : rp_S) (v1 : Int32) (v2 : Int32)   : rp_R E (rp_mK E rmX7_stickOn) mX7_stickOn 0 [some (.ref (E.2.2.2.1 28)), some (.int v1), some (.int v2), none, none] [] σ (rp_hi σ) (fX7_stickOn σ v1 v2) := by
  rw [fX7_stickOn]
  refine rp_aload_n (x := (E.2.2.2.1 28)) dX7_stickOn_0 rfl ?_
  refine rp_getR (k := 0) (b := 29) sh28 rfl fdX7_7 dX7_stickOn_1 ?_
  refine rp_iload_n (x := v1) dX7_stickOn_4 rfl ?_
  refine rp_bipush dX7_stickOn_5 (by decide) ?_
  refine rp_iadd dX7_stickOn_7 ?_
  refine rp_iaload sh29 dX7_stickOn_8 (fun x1 => ?_)
  refine rp_istore_n dX7_stickOn_9 (by decide) rfl ?_
  refine rp_iload_n (x := x1) dX7_stickOn_10 rfl ?_
  refine rp_if_ge (tgt := 19) dX7_stickOn_11 (by decide) ?_ ?_
  · refine rp_iload_n (x := x1) dX7_stickOn_19 rfl ?_
    refine rp_mask [true, true, true, true, false] (vs2 := [some (.ref (E.2.2.2.1 28)), some (.int v1), some (.int v2), some (.int x1), none]) rfl rfl ?_
    exact rX7_stickOn_20 σ v1 v2 x1 x1
  · refine rp_iload_n (x := x1) dX7_stickOn_14 rfl ?_
    refine rp_ineg dX7_stickOn_15 ?_
    refine rp_goto (tgt := 20) dX7_stickOn_16 (by decide) ?_
    refine rp_mask [true, true, true, true, false] (vs2 := [some (.ref (E.2.2.2.1 28)), some (.int v1), some (.int v2), some (.int x1), none]) rfl rfl ?_
    exact rX7_stickOn_20 σ v1 v2 x1 (-x1)
/-! RocketPrintModel.wholeBy(II)I -/
abbrev rmX7_wholeBy : Room := { frames := 2, cells := 0, slots := 0, locals := 48 }
def fX7_wholeBy_39 (σ : rp_S) (k5 : Int32 → Int32 → Int32 → Int32 → Option (Int32)) (v1 : Int32) (v2 : Int32) (v4 : Int32) (s0 : Int32) (s1 : Int32) : Option (Int32) :=
  (k5 v1 v2 (s1 ||| s0) (v4 + (rI 1)))
set_option maxRecDepth 100000 in
theorem rX7_wholeBy_39 {E : rp_E} (σ : rp_S) (k5 : Int32 → Int32 → Int32 → Int32 → Option (Int32)) (hk5 : ∀ (v1 : Int32) (v2 : Int32) (v3 : Int32) (v4 : Int32), rp_R E (rp_mK E rmX7_wholeBy) mX7_wholeBy 5 [some (.ref (E.2.2.2.1 28)), some (.int v1), some (.int v2), some (.int v3), some (.int v4)] [] σ (rp_hi σ) (k5 v1 v2 v3 v4)) (v1 : Int32) (v2 : Int32) (v4 : Int32) (s0 : Int32) (s1 : Int32) : rp_R E (rp_mK E rmX7_wholeBy) mX7_wholeBy 39 [some (.ref (E.2.2.2.1 28)), some (.int v1), some (.int v2), none, some (.int v4)] [.int s0, .int s1] σ (rp_hi σ) (fX7_wholeBy_39 σ k5 v1 v2 v4 s0 s1) := by
  rw [fX7_wholeBy_39]
  refine rp_ior dX7_wholeBy_39 ?_
  refine rp_istore_n dX7_wholeBy_40 (by decide) rfl ?_
  refine rp_iinc (x := v4) dX7_wholeBy_41 rfl (by decide) rfl ?_
  refine rp_goto (tgt := 5) dX7_wholeBy_44 (by decide) ?_
  refine rp_mask [true, true, true, true, true] (vs2 := [some (.ref (E.2.2.2.1 28)), some (.int v1), some (.int v2), some (.int (s1 ||| s0)), some (.int (v4 + (rI 1)))]) rfl rfl ?_
  exact hk5 v1 v2 (s1 ||| s0) (v4 + (rI 1))
def fX7_wholeBy_5 (σ : rp_S) : Nat → Int32 → Int32 → Int32 → Int32 → Option (Int32)
  | 0, _, _, _, _ => none
  | n + 1, v1, v2, v3, v4 =>
    ((rq_rd σ 29 180 (v1 + (rI 33))).bind fun x1 =>
    (if x1 ≤ v4 then
    (some v3)
  else
    ((fX7_isWhole σ v1 v4 v2).bind fun x2 =>
    (if x2 = 0 then
    (fX7_wholeBy_39 σ (fun v1 v2 v3 v4 => fX7_wholeBy_5 σ n v1 v2 v3 v4) v1 v2 v4 (rI 0) v3)
  else
    (fX7_wholeBy_39 σ (fun v1 v2 v3 v4 => fX7_wholeBy_5 σ n v1 v2 v3 v4) v1 v2 v4 ((rI 1) <<< (v4 &&& 31)) v3)))))
set_option maxRecDepth 100000 in
theorem rX7_wholeBy_5 {E : rp_E} (σ : rp_S) : ∀ (n : Nat) (v1 : Int32) (v2 : Int32) (v3 : Int32) (v4 : Int32), rp_R E (rp_mK E rmX7_wholeBy) mX7_wholeBy 5 [some (.ref (E.2.2.2.1 28)), some (.int v1), some (.int v2), some (.int v3), some (.int v4)] [] σ (rp_hi σ) (fX7_wholeBy_5 σ n v1 v2 v3 v4) := by
  intro n
  induction n with
  | zero =>
    intro v1 v2 v3 v4
    rw [fX7_wholeBy_5]
    exact rp_none
  | succ n ih =>
    intro v1 v2 v3 v4
    rw [fX7_wholeBy_5]
    refine rp_iload (x := v4) dX7_wholeBy_5 rfl ?_
    refine rp_aload_n (x := (E.2.2.2.1 28)) dX7_wholeBy_7 rfl ?_
    refine rp_getR (k := 0) (b := 29) sh28 rfl fdX7_7 dX7_wholeBy_8 ?_
    refine rp_iload_n (x := v1) dX7_wholeBy_11 rfl ?_
    refine rp_bipush dX7_wholeBy_12 (by decide) ?_
    refine rp_iadd dX7_wholeBy_14 ?_
    refine rp_iaload sh29 dX7_wholeBy_15 (fun x1 => ?_)
    refine rp_icmp_ge (tgt := 47) dX7_wholeBy_16 (by decide) ?_ ?_
    · refine rp_iload_n (x := v3) dX7_wholeBy_47 rfl ?_
      exact rp_iret rfl rfl dX7_wholeBy_48
    · refine rp_iload_n (x := v3) dX7_wholeBy_19 rfl ?_
      refine rp_aload_n (x := (E.2.2.2.1 28)) dX7_wholeBy_20 rfl ?_
      refine rp_iload_n (x := v1) dX7_wholeBy_21 rfl ?_
      refine rp_iload (x := v4) dX7_wholeBy_22 rfl ?_
      refine rp_iload_n (x := v2) dX7_wholeBy_24 rfl ?_
      refine rp_callV_hi (As := [.int v1, .int v4, .int v2]) (rest := [.int v3]) (b := (E.2.2.2.1 28)) (rX7_isWhole σ v1 v4 v2) cbX7_isWhole lkX7_162 viX7_isWhole (rp_rcO sh28 rfl) rfl (Nat.le_of_ble_eq_true rfl) ⟨rfl, rfl, ⟨Nat.le_of_ble_eq_true rfl, Nat.le_of_ble_eq_true rfl⟩, Nat.zero_le _, Nat.zero_le _⟩ rfl (Nat.le_of_ble_eq_true rfl) dX7_wholeBy_25 (fun x2 hx2 => ?_)
      refine rp_if_eq (tgt := 38) dX7_wholeBy_28 (by decide) ?_ ?_
      · refine rp_iconst dX7_wholeBy_38 ?_
        refine rp_mask [true, true, true, false, true] (vs2 := [some (.ref (E.2.2.2.1 28)), some (.int v1), some (.int v2), none, some (.int v4)]) rfl rfl ?_
        exact rX7_wholeBy_39 σ (fun v1 v2 v3 v4 => fX7_wholeBy_5 σ n v1 v2 v3 v4) (fun v1 v2 v3 v4 => ih v1 v2 v3 v4) v1 v2 v4 (rI 0) v3
      · refine rp_iconst dX7_wholeBy_31 ?_
        refine rp_iload (x := v4) dX7_wholeBy_32 rfl ?_
        refine rp_ishl dX7_wholeBy_34 ?_
        refine rp_goto (tgt := 39) dX7_wholeBy_35 (by decide) ?_
        refine rp_mask [true, true, true, false, true] (vs2 := [some (.ref (E.2.2.2.1 28)), some (.int v1), some (.int v2), none, some (.int v4)]) rfl rfl ?_
        exact rX7_wholeBy_39 σ (fun v1 v2 v3 v4 => fX7_wholeBy_5 σ n v1 v2 v3 v4) (fun v1 v2 v3 v4 => ih v1 v2 v3 v4) v1 v2 v4 ((rI 1) <<< (v4 &&& 31)) v3
def fX7_wholeBy (σ : rp_S) (v1 : Int32) (v2 : Int32) : Option (Int32) :=
  (fX7_wholeBy_5 σ 1000 v1 v2 (rI 0) (rI 0))
set_option maxRecDepth 100000 in
theorem rX7_wholeBy {E : rp_E} (σ : rp_S) (v1 : Int32) (v2 : Int32)   : rp_R E (rp_mK E rmX7_wholeBy) mX7_wholeBy 0 [some (.ref (E.2.2.2.1 28)), some (.int v1), some (.int v2), none, none] [] σ (rp_hi σ) (fX7_wholeBy σ v1 v2) := by
  rw [fX7_wholeBy]
  refine rp_iconst dX7_wholeBy_0 ?_
  refine rp_istore_n dX7_wholeBy_1 (by decide) rfl ?_
  refine rp_iconst dX7_wholeBy_2 ?_
  refine rp_istore dX7_wholeBy_3 (by decide) rfl ?_
  refine rp_mask [true, true, true, true, true] (vs2 := [some (.ref (E.2.2.2.1 28)), some (.int v1), some (.int v2), some (.int (rI 0)), some (.int (rI 0))]) rfl rfl ?_
  exact rX7_wholeBy_5 σ 1000 v1 v2 (rI 0) (rI 0)
/-! RocketPrintModel.work(II)I -/
abbrev rmX7_work : Room := { frames := 4, cells := 0, slots := 0, locals := 101 }
def fX7_work_60 (σ : rp_S) (v1 : Int32) (v2 : Int32) : Option (Int32 × rp_S) :=
  ((rq_rd σ 29 180 (((rI 6) * v2) + v1)).bind fun x2 =>
    (some (x2, σ)))
set_option maxRecDepth 100000 in
theorem rX7_work_60 {E : rp_E} (σ : rp_S) (v1 : Int32) (v2 : Int32) : rp_R E (rp_mK E rmX7_work) mX7_work 60 [some (.ref (E.2.2.2.1 28)), some (.int v1), some (.int v2)] [] σ rp_hI (fX7_work_60 σ v1 v2) := by
  rw [fX7_work_60]
  refine rp_aload_n (x := (E.2.2.2.1 28)) dX7_work_60 rfl ?_
  refine rp_getR (k := 0) (b := 29) sh28 rfl fdX7_7 dX7_work_61 ?_
  refine rp_bipush dX7_work_64 (by decide) ?_
  refine rp_iload_n (x := v2) dX7_work_66 rfl ?_
  refine rp_imul dX7_work_67 ?_
  refine rp_iload_n (x := v1) dX7_work_68 rfl ?_
  refine rp_iadd dX7_work_69 ?_
  refine rp_iaload sh29 dX7_work_70 (fun x2 => ?_)
  exact rp_iret rfl rfl dX7_work_71
def fX7_work (σ : rp_S) (v1 : Int32) (v2 : Int32) : Option (Int32 × rp_S) :=
  ((fX7_isWork σ v1).bind fun x1 =>
    (if x1 = 0 then
    (some ((rI (-1)), σ))
  else
    (if v2 = (rI 0) then
    (fX7_work_60 σ v1 v2)
  else
    (if v2 = (rI 1) then
    (fX7_work_60 σ v1 v2)
  else
    (if v2 = (rI 2) then
    (fX7_work_60 σ v1 v2)
  else
    (if v2 = (rI 3) then
    (fX7_work_60 σ v1 v2)
  else
    (if v2 = (rI 4) then
    ((fX7_lastsOn σ (rI 0) v1).bind fun x3 =>
    (some (x3, σ)))
  else
    (if v2 = (rI 5) then
    ((fX7_wideOn σ (rI 0) v1).bind fun x4 =>
    (some (x4, σ)))
  else
    (if v2 = (rI 6) then
    ((fX7_burstOn σ (rI 0) v1).bind fun x5 =>
    (some (x5, σ)))
  else
    (if v2 = (rI 7) then
    ((fX7_stickOn σ (rI 0) v1).bind fun x6 =>
    (some (x6, σ)))
  else
    (if v2 = (rI 8) then
    ((fX7_nightOn σ (rI 0)).bind fun σ7 =>
    ((fX7_wholeBy σ7 (rI 0) v1).bind fun x8 =>
    (some (x8, σ7))))
  else
    (some ((rI (-1)), σ)))))))))))))
set_option maxRecDepth 100000 in
theorem rX7_work {E : rp_E} (σ : rp_S) (v1 : Int32) (v2 : Int32)   : rp_R E (rp_mK E rmX7_work) mX7_work 0 [some (.ref (E.2.2.2.1 28)), some (.int v1), some (.int v2)] [] σ rp_hI (fX7_work σ v1 v2) := by
  rw [fX7_work]
  refine rp_aload_n (x := (E.2.2.2.1 28)) dX7_work_0 rfl ?_
  refine rp_iload_n (x := v1) dX7_work_1 rfl ?_
  refine rp_callV_hi (As := [.int v1]) (rest := []) (b := (E.2.2.2.1 28)) (rX7_isWork σ v1) cbX7_isWork lkX7_168 viX7_isWork (rp_rcO sh28 rfl) rfl (Nat.le_of_ble_eq_true rfl) ⟨rfl, rfl, ⟨Nat.le_of_ble_eq_true rfl, Nat.le_of_ble_eq_true rfl⟩, Nat.zero_le _, Nat.zero_le _⟩ rfl (Nat.le_of_ble_eq_true rfl) dX7_work_2 (fun x1 hx1 => ?_)
  refine rp_if_ne (tgt := 10) dX7_work_5 (by decide) ?_ ?_
  · refine rp_iload_n (x := v2) dX7_work_10 rfl ?_
    refine rp_if2 (fun h0 => ?_) (fun h0 => ?_)
    · refine rp_tswIn (tgt := 60) 0 (by rw [h0]; decide) dX7_work_11 (by decide) (by decide) rfl (by decide) ?_
      refine rp_mask [true, true, true] (vs2 := [some (.ref (E.2.2.2.1 28)), some (.int v1), some (.int v2)]) rfl rfl ?_
      exact rX7_work_60 σ v1 v2
    · refine rp_if2 (fun h1 => ?_) (fun h1 => ?_)
      · refine rp_tswIn (tgt := 60) 1 (by rw [h1]; decide) dX7_work_11 (by decide) (by decide) rfl (by decide) ?_
        refine rp_mask [true, true, true] (vs2 := [some (.ref (E.2.2.2.1 28)), some (.int v1), some (.int v2)]) rfl rfl ?_
        exact rX7_work_60 σ v1 v2
      · refine rp_if2 (fun h2 => ?_) (fun h2 => ?_)
        · refine rp_tswIn (tgt := 60) 2 (by rw [h2]; decide) dX7_work_11 (by decide) (by decide) rfl (by decide) ?_
          refine rp_mask [true, true, true] (vs2 := [some (.ref (E.2.2.2.1 28)), some (.int v1), some (.int v2)]) rfl rfl ?_
          exact rX7_work_60 σ v1 v2
        · refine rp_if2 (fun h3 => ?_) (fun h3 => ?_)
          · refine rp_tswIn (tgt := 60) 3 (by rw [h3]; decide) dX7_work_11 (by decide) (by decide) rfl (by decide) ?_
            refine rp_mask [true, true, true] (vs2 := [some (.ref (E.2.2.2.1 28)), some (.int v1), some (.int v2)]) rfl rfl ?_
            exact rX7_work_60 σ v1 v2
          · refine rp_if2 (fun h4 => ?_) (fun h4 => ?_)
            · refine rp_tswIn (tgt := 72) 4 (by rw [h4]; decide) dX7_work_11 (by decide) (by decide) rfl (by decide) ?_
              refine rp_aload_n (x := (E.2.2.2.1 28)) dX7_work_72 rfl ?_
              refine rp_iconst dX7_work_73 ?_
              refine rp_iload_n (x := v1) dX7_work_74 rfl ?_
              refine rp_callV_hi (As := [.int (rI 0), .int v1]) (rest := []) (b := (E.2.2.2.1 28)) (rX7_lastsOn σ (rI 0) v1) cbX7_lastsOn lkX7_126 viX7_lastsOn (rp_rcO sh28 rfl) rfl (Nat.le_of_ble_eq_true rfl) ⟨rfl, rfl, ⟨Nat.le_of_ble_eq_true rfl, Nat.le_of_ble_eq_true rfl⟩, Nat.zero_le _, Nat.zero_le _⟩ rfl (Nat.le_of_ble_eq_true rfl) dX7_work_75 (fun x3 hx3 => ?_)
              exact rp_iret rfl rfl dX7_work_78
            · refine rp_if2 (fun h5 => ?_) (fun h5 => ?_)
              · refine rp_tswIn (tgt := 79) 5 (by rw [h5]; decide) dX7_work_11 (by decide) (by decide) rfl (by decide) ?_
                refine rp_aload_n (x := (E.2.2.2.1 28)) dX7_work_79 rfl ?_
                refine rp_iconst dX7_work_80 ?_
                refine rp_iload_n (x := v1) dX7_work_81 rfl ?_
                refine rp_callV_hi (As := [.int (rI 0), .int v1]) (rest := []) (b := (E.2.2.2.1 28)) (rX7_wideOn σ (rI 0) v1) cbX7_wideOn lkX7_142 viX7_wideOn (rp_rcO sh28 rfl) rfl (Nat.le_of_ble_eq_true rfl) ⟨rfl, rfl, ⟨Nat.le_of_ble_eq_true rfl, Nat.le_of_ble_eq_true rfl⟩, Nat.zero_le _, Nat.zero_le _⟩ rfl (Nat.le_of_ble_eq_true rfl) dX7_work_82 (fun x4 hx4 => ?_)
                exact rp_iret rfl rfl dX7_work_85
              · refine rp_if2 (fun h6 => ?_) (fun h6 => ?_)
                · refine rp_tswIn (tgt := 86) 6 (by rw [h6]; decide) dX7_work_11 (by decide) (by decide) rfl (by decide) ?_
                  refine rp_aload_n (x := (E.2.2.2.1 28)) dX7_work_86 rfl ?_
                  refine rp_iconst dX7_work_87 ?_
                  refine rp_iload_n (x := v1) dX7_work_88 rfl ?_
                  refine rp_callV_hi (As := [.int (rI 0), .int v1]) (rest := []) (b := (E.2.2.2.1 28)) (rX7_burstOn σ (rI 0) v1) cbX7_burstOn lkX7_129 viX7_burstOn (rp_rcO sh28 rfl) rfl (Nat.le_of_ble_eq_true rfl) ⟨rfl, rfl, ⟨Nat.le_of_ble_eq_true rfl, Nat.le_of_ble_eq_true rfl⟩, Nat.zero_le _, Nat.zero_le _⟩ rfl (Nat.le_of_ble_eq_true rfl) dX7_work_89 (fun x5 hx5 => ?_)
                  exact rp_iret rfl rfl dX7_work_92
                · refine rp_if2 (fun h7 => ?_) (fun h7 => ?_)
                  · refine rp_tswIn (tgt := 93) 7 (by rw [h7]; decide) dX7_work_11 (by decide) (by decide) rfl (by decide) ?_
                    refine rp_aload_n (x := (E.2.2.2.1 28)) dX7_work_93 rfl ?_
                    refine rp_iconst dX7_work_94 ?_
                    refine rp_iload_n (x := v1) dX7_work_95 rfl ?_
                    refine rp_callV_hi (As := [.int (rI 0), .int v1]) (rest := []) (b := (E.2.2.2.1 28)) (rX7_stickOn σ (rI 0) v1) cbX7_stickOn lkX7_172 viX7_stickOn (rp_rcO sh28 rfl) rfl (Nat.le_of_ble_eq_true rfl) ⟨rfl, rfl, ⟨Nat.le_of_ble_eq_true rfl, Nat.le_of_ble_eq_true rfl⟩, Nat.zero_le _, Nat.zero_le _⟩ rfl (Nat.le_of_ble_eq_true rfl) dX7_work_96 (fun x6 hx6 => ?_)
                    exact rp_iret rfl rfl dX7_work_99
                  · refine rp_if2 (fun h8 => ?_) (fun h8 => ?_)
                    · refine rp_tswIn (tgt := 100) 8 (by rw [h8]; decide) dX7_work_11 (by decide) (by decide) rfl (by decide) ?_
                      refine rp_aload_n (x := (E.2.2.2.1 28)) dX7_work_100 rfl ?_
                      refine rp_iconst dX7_work_101 ?_
                      refine rp_callV_hv (As := [.int (rI 0)]) (rest := []) (b := (E.2.2.2.1 28)) (rX7_nightOn σ (rI 0)) cbX7_nightOn lkX7_165 viX7_nightOn (rp_rcO sh28 rfl) rfl (Nat.le_of_ble_eq_true rfl) ⟨rfl, rfl, ⟨Nat.le_of_ble_eq_true rfl, Nat.le_of_ble_eq_true rfl⟩, Nat.zero_le _, Nat.zero_le _⟩ rfl (Nat.le_of_ble_eq_true rfl) dX7_work_102 (fun σ7 hσ7 => ?_)
                      refine rp_aload_n (x := (E.2.2.2.1 28)) dX7_work_105 rfl ?_
                      refine rp_iconst dX7_work_106 ?_
                      refine rp_iload_n (x := v1) dX7_work_107 rfl ?_
                      refine rp_callV_hi (As := [.int (rI 0), .int v1]) (rest := []) (b := (E.2.2.2.1 28)) (rX7_wholeBy σ7 (rI 0) v1) cbX7_wholeBy lkX7_175 viX7_wholeBy (rp_rcO sh28 rfl) rfl (Nat.le_of_ble_eq_true rfl) ⟨rfl, rfl, ⟨Nat.le_of_ble_eq_true rfl, Nat.le_of_ble_eq_true rfl⟩, Nat.zero_le _, Nat.zero_le _⟩ rfl (Nat.le_of_ble_eq_true rfl) dX7_work_108 (fun x8 hx8 => ?_)
                      exact rp_iret rfl rfl dX7_work_111
                    · refine rp_tswOut (tgt := 112) dX7_work_11 (by have q0 := lv_neT (a := 0) h0 (by decide); have q1 := lv_neT (a := 1) h1 (by decide); have q2 := lv_neT (a := 2) h2 (by decide); have q3 := lv_neT (a := 3) h3 (by decide); have q4 := lv_neT (a := 4) h4 (by decide); have q5 := lv_neT (a := 5) h5 (by decide); have q6 := lv_neT (a := 6) h6 (by decide); have q7 := lv_neT (a := 7) h7 (by decide); have q8 := lv_neT (a := 8) h8 (by decide); omega) (by decide) ?_
                      refine rp_iconst dX7_work_112 ?_
                      exact rp_iret rfl rfl dX7_work_113
  · refine rp_iconst dX7_work_8 ?_
    exact rp_iret rfl rfl dX7_work_9
/-! RocketPrint$Night.hasReader(I)Z -/
abbrev rmX1_hasReader : Room := { frames := 1, cells := 0, slots := 0, locals := 22 }
def fX1_hasReader (σ : rp_S) (a0 : Nat) (v1 : Int32) : Option (Int32) :=
  ((fX6_within v1 (rI 0) ((σ a0 3) - (rI 1))).bind fun x1 =>
    (some (vp_nar .boolean x1)))
set_option maxRecDepth 100000 in
theorem rX1_hasReader {E : rp_E} (σ : rp_S) (a0 : Nat) (v1 : Int32) (ha0 : rp_Ni a0)  : rp_R E (rp_mK E rmX1_hasReader) mX1_hasReader 0 [some (.ref (E.2.2.2.1 a0)), some (.int v1)] [] σ (rp_hi σ) (fX1_hasReader σ a0 v1) := by
  rw [fX1_hasReader]
  refine rp_iload_n (x := v1) dX1_hasReader_0 rfl ?_
  refine rp_iconst dX1_hasReader_1 ?_
  refine rp_aload_n (x := (E.2.2.2.1 a0)) dX1_hasReader_2 rfl ?_
  refine rp_getI (k := 3) ha0.1 rfl fdX1_25 dX1_hasReader_3 ?_
  refine rp_iconst dX1_hasReader_6 ?_
  refine rp_isub dX1_hasReader_7 ?_
  refine rp_callS_hi (As := [.int v1, .int (rI 0), .int ((σ a0 3) - (rI 1))]) (rest := []) (rX6_within σ v1 (rI 0) ((σ a0 3) - (rI 1))) cbX6_within lkX1_37 stX6_within rfl (Nat.le_of_ble_eq_true rfl) ⟨rfl, rfl, ⟨Nat.le_of_ble_eq_true rfl, Nat.le_of_ble_eq_true rfl⟩, Nat.zero_le _, Nat.zero_le _⟩ rfl (Nat.le_of_ble_eq_true rfl) dX1_hasReader_8 (fun x1 hx1 => ?_)
  exact rp_zret (x' := (vp_nar .boolean x1)) rfl (rp_nrZ _) rfl dX1_hasReader_11
/-! RocketPrint$Show.worksWhole(I)I -/
abbrev rmX3_worksWhole : Room := { frames := 5, cells := 0, slots := 0, locals := 115 }
def fX3_worksWhole_30 (σ : rp_S) (k4 : Int32 → Int32 → Int32 → Option (Int32)) (v1 : Int32) (v2 : Int32) (v3 : Int32) : Option (Int32) :=
  (k4 v1 v2 (v3 + (rI 1)))
set_option maxRecDepth 100000 in
theorem rX3_worksWhole_30 {E : rp_E} (σ : rp_S) (k4 : Int32 → Int32 → Int32 → Option (Int32)) (hk4 : ∀ (v1 : Int32) (v2 : Int32) (v3 : Int32), rp_R E (rp_mK E rmX3_worksWhole) mX3_worksWhole 4 [some (.ref (E.2.2.2.1 4)), some (.int v1), some (.int v2), some (.int v3)] [] σ (rp_hi σ) (k4 v1 v2 v3)) (v1 : Int32) (v2 : Int32) (v3 : Int32) : rp_R E (rp_mK E rmX3_worksWhole) mX3_worksWhole 30 [some (.ref (E.2.2.2.1 4)), some (.int v1), some (.int v2), some (.int v3)] [] σ (rp_hi σ) (fX3_worksWhole_30 σ k4 v1 v2 v3) := by
  rw [fX3_worksWhole_30]
  refine rp_iinc (x := v3) dX3_worksWhole_30 rfl (by decide) rfl ?_
  refine rp_goto (tgt := 4) dX3_worksWhole_33 (by decide) ?_
  refine rp_mask [true, true, true, true] (vs2 := [some (.ref (E.2.2.2.1 4)), some (.int v1), some (.int v2), some (.int (v3 + (rI 1)))]) rfl rfl ?_
  exact hk4 v1 v2 (v3 + (rI 1))
def fX3_worksWhole_4 (σ : rp_S) : Nat → Int32 → Int32 → Int32 → Option (Int32)
  | 0, _, _, _ => none
  | n + 1, v1, v2, v3 =>
    (if (σ 5 2) ≤ v3 then
    (some v2)
  else
    ((fX3_isWhole σ v1 v3).bind fun x1 =>
    (if x1 = 0 then
    (fX3_worksWhole_30 σ (fun v1 v2 v3 => fX3_worksWhole_4 σ n v1 v2 v3) v1 v2 v3)
  else
    (fX3_worksWhole_30 σ (fun v1 v2 v3 => fX3_worksWhole_4 σ n v1 v2 v3) v1 (v2 ||| ((rI 1) <<< (v3 &&& 31))) v3))))
set_option maxRecDepth 100000 in
theorem rX3_worksWhole_4 {E : rp_E} (σ : rp_S) : ∀ (n : Nat) (v1 : Int32) (v2 : Int32) (v3 : Int32), rp_R E (rp_mK E rmX3_worksWhole) mX3_worksWhole 4 [some (.ref (E.2.2.2.1 4)), some (.int v1), some (.int v2), some (.int v3)] [] σ (rp_hi σ) (fX3_worksWhole_4 σ n v1 v2 v3) := by
  intro n
  induction n with
  | zero =>
    intro v1 v2 v3
    rw [fX3_worksWhole_4]
    exact rp_none
  | succ n ih =>
    intro v1 v2 v3
    rw [fX3_worksWhole_4]
    refine rp_iload_n (x := v3) dX3_worksWhole_4 rfl ?_
    refine rp_aload_n (x := (E.2.2.2.1 4)) dX3_worksWhole_5 rfl ?_
    refine rp_getR (k := 0) (b := 5) sh4 rfl fdX3_12 dX3_worksWhole_6 ?_
    refine rp_getI (k := 2) sh5 rfl fdX3_38 dX3_worksWhole_9 ?_
    refine rp_icmp_ge (tgt := 36) dX3_worksWhole_12 (by decide) ?_ ?_
    · refine rp_iload_n (x := v2) dX3_worksWhole_36 rfl ?_
      exact rp_iret rfl rfl dX3_worksWhole_37
    · refine rp_aload_n (x := (E.2.2.2.1 4)) dX3_worksWhole_15 rfl ?_
      refine rp_iload_n (x := v1) dX3_worksWhole_16 rfl ?_
      refine rp_iload_n (x := v3) dX3_worksWhole_17 rfl ?_
      refine rp_callV_hi (As := [.int v1, .int v3]) (rest := []) (b := (E.2.2.2.1 4)) (rX3_isWhole σ v1 v3) cbX3_isWhole lkX3_93 viX3_isWhole (rp_rcO sh4 rfl) rfl (Nat.le_of_ble_eq_true rfl) ⟨rfl, rfl, ⟨Nat.le_of_ble_eq_true rfl, Nat.le_of_ble_eq_true rfl⟩, Nat.zero_le _, Nat.zero_le _⟩ rfl (Nat.le_of_ble_eq_true rfl) dX3_worksWhole_18 (fun x1 hx1 => ?_)
      refine rp_if_eq (tgt := 30) dX3_worksWhole_21 (by decide) ?_ ?_
      · refine rp_mask [true, true, true, true] (vs2 := [some (.ref (E.2.2.2.1 4)), some (.int v1), some (.int v2), some (.int v3)]) rfl rfl ?_
        exact rX3_worksWhole_30 σ (fun v1 v2 v3 => fX3_worksWhole_4 σ n v1 v2 v3) (fun v1 v2 v3 => ih v1 v2 v3) v1 v2 v3
      · refine rp_iload_n (x := v2) dX3_worksWhole_24 rfl ?_
        refine rp_iconst dX3_worksWhole_25 ?_
        refine rp_iload_n (x := v3) dX3_worksWhole_26 rfl ?_
        refine rp_ishl dX3_worksWhole_27 ?_
        refine rp_ior dX3_worksWhole_28 ?_
        refine rp_istore_n dX3_worksWhole_29 (by decide) rfl ?_
        refine rp_mask [true, true, true, true] (vs2 := [some (.ref (E.2.2.2.1 4)), some (.int v1), some (.int (v2 ||| ((rI 1) <<< (v3 &&& 31)))), some (.int v3)]) rfl rfl ?_
        exact rX3_worksWhole_30 σ (fun v1 v2 v3 => fX3_worksWhole_4 σ n v1 v2 v3) (fun v1 v2 v3 => ih v1 v2 v3) v1 (v2 ||| ((rI 1) <<< (v3 &&& 31))) v3
def fX3_worksWhole (σ : rp_S) (v1 : Int32) : Option (Int32) :=
  (fX3_worksWhole_4 σ 1000 v1 (rI 0) (rI 0))
set_option maxRecDepth 100000 in
theorem rX3_worksWhole {E : rp_E} (σ : rp_S) (v1 : Int32)   : rp_R E (rp_mK E rmX3_worksWhole) mX3_worksWhole 0 [some (.ref (E.2.2.2.1 4)), some (.int v1), none, none] [] σ (rp_hi σ) (fX3_worksWhole σ v1) := by
  rw [fX3_worksWhole]
  refine rp_iconst dX3_worksWhole_0 ?_
  refine rp_istore_n dX3_worksWhole_1 (by decide) rfl ?_
  refine rp_iconst dX3_worksWhole_2 ?_
  refine rp_istore_n dX3_worksWhole_3 (by decide) rfl ?_
  refine rp_mask [true, true, true, true] (vs2 := [some (.ref (E.2.2.2.1 4)), some (.int v1), some (.int (rI 0)), some (.int (rI 0))]) rfl rfl ?_
  exact rX3_worksWhole_4 σ 1000 v1 (rI 0) (rI 0)
/-! RocketPrint$Show.minutesOf(I)I -/
abbrev rmX3_minutesOf : Room := { frames := 4, cells := 0, slots := 0, locals := 96 }
def fX3_minutesOf_4 (σ : rp_S) : Nat → Int32 → Int32 → Int32 → Option (Int32)
  | 0, _, _, _ => none
  | n + 1, v1, v2, v3 =>
    (if (σ 5 2) ≤ v3 then
    (some v2)
  else
    ((fX3_minutesAt σ v1 v3).bind fun x1 =>
    (fX3_minutesOf_4 σ n v1 (v2 + x1) (v3 + (rI 1)))))
set_option maxRecDepth 100000 in
theorem rX3_minutesOf_4 {E : rp_E} (σ : rp_S) : ∀ (n : Nat) (v1 : Int32) (v2 : Int32) (v3 : Int32), rp_R E (rp_mK E rmX3_minutesOf) mX3_minutesOf 4 [some (.ref (E.2.2.2.1 4)), some (.int v1), some (.int v2), some (.int v3)] [] σ (rp_hi σ) (fX3_minutesOf_4 σ n v1 v2 v3) := by
  intro n
  induction n with
  | zero =>
    intro v1 v2 v3
    rw [fX3_minutesOf_4]
    exact rp_none
  | succ n ih =>
    intro v1 v2 v3
    rw [fX3_minutesOf_4]
    refine rp_iload_n (x := v3) dX3_minutesOf_4 rfl ?_
    refine rp_aload_n (x := (E.2.2.2.1 4)) dX3_minutesOf_5 rfl ?_
    refine rp_getR (k := 0) (b := 5) sh4 rfl fdX3_12 dX3_minutesOf_6 ?_
    refine rp_getI (k := 2) sh5 rfl fdX3_38 dX3_minutesOf_9 ?_
    refine rp_icmp_ge (tgt := 30) dX3_minutesOf_12 (by decide) ?_ ?_
    · refine rp_iload_n (x := v2) dX3_minutesOf_30 rfl ?_
      exact rp_iret rfl rfl dX3_minutesOf_31
    · refine rp_iload_n (x := v2) dX3_minutesOf_15 rfl ?_
      refine rp_aload_n (x := (E.2.2.2.1 4)) dX3_minutesOf_16 rfl ?_
      refine rp_iload_n (x := v1) dX3_minutesOf_17 rfl ?_
      refine rp_iload_n (x := v3) dX3_minutesOf_18 rfl ?_
      refine rp_callV_hi (As := [.int v1, .int v3]) (rest := [.int v2]) (b := (E.2.2.2.1 4)) (rX3_minutesAt σ v1 v3) cbX3_minutesAt lkX3_90 viX3_minutesAt (rp_rcO sh4 rfl) rfl (Nat.le_of_ble_eq_true rfl) ⟨rfl, rfl, ⟨Nat.le_of_ble_eq_true rfl, Nat.le_of_ble_eq_true rfl⟩, Nat.zero_le _, Nat.zero_le _⟩ rfl (Nat.le_of_ble_eq_true rfl) dX3_minutesOf_19 (fun x1 hx1 => ?_)
      refine rp_iadd dX3_minutesOf_22 ?_
      refine rp_istore_n dX3_minutesOf_23 (by decide) rfl ?_
      refine rp_iinc (x := v3) dX3_minutesOf_24 rfl (by decide) rfl ?_
      refine rp_goto (tgt := 4) dX3_minutesOf_27 (by decide) ?_
      refine rp_mask [true, true, true, true] (vs2 := [some (.ref (E.2.2.2.1 4)), some (.int v1), some (.int (v2 + x1)), some (.int (v3 + (rI 1)))]) rfl rfl ?_
      exact ih v1 (v2 + x1) (v3 + (rI 1))
def fX3_minutesOf (σ : rp_S) (v1 : Int32) : Option (Int32) :=
  (fX3_minutesOf_4 σ 1000 v1 (rI 0) (rI 0))
set_option maxRecDepth 100000 in
theorem rX3_minutesOf {E : rp_E} (σ : rp_S) (v1 : Int32)   : rp_R E (rp_mK E rmX3_minutesOf) mX3_minutesOf 0 [some (.ref (E.2.2.2.1 4)), some (.int v1), none, none] [] σ (rp_hi σ) (fX3_minutesOf σ v1) := by
  rw [fX3_minutesOf]
  refine rp_iconst dX3_minutesOf_0 ?_
  refine rp_istore_n dX3_minutesOf_1 (by decide) rfl ?_
  refine rp_iconst dX3_minutesOf_2 ?_
  refine rp_istore_n dX3_minutesOf_3 (by decide) rfl ?_
  refine rp_mask [true, true, true, true] (vs2 := [some (.ref (E.2.2.2.1 4)), some (.int v1), some (.int (rI 0)), some (.int (rI 0))]) rfl rfl ?_
  exact rX3_minutesOf_4 σ 1000 v1 (rI 0) (rI 0)
/-! RocketPrint.reader(II)I -/
abbrev rmX6_reader : Room := { frames := 6, cells := 0, slots := 0, locals := 138 }
def fX6_reader (σ : rp_S) (v1 : Int32) (v2 : Int32) : Option (Int32 × rp_S) :=
  ((fX1_hasReader σ 1 v1).bind fun x1 =>
    (if x1 = 0 then
    (some ((rI (-1)), σ))
  else
    ((fX6_within v2 (rI 0) (rI 1)).bind fun x2 =>
    (if x2 = 0 then
    ((fX6_within v2 (rI 2) (rI 3)).bind fun x3 =>
    (if x3 = 0 then
    (some ((rI (-1)), σ))
  else
    ((fX3_begin σ 1).bind fun σ4 =>
    (if v2 = (rI 2) then
    ((fX3_worksWhole σ4 v1).bind fun x6 =>
    (some (x6, σ4)))
  else
    ((fX3_minutesOf σ4 v1).bind fun x5 =>
    (some (x5, σ4)))))))
  else
    ((fX1_ofReader σ 1 v1 v2).bind fun x7 =>
    (some (x7, σ)))))))
set_option maxRecDepth 100000 in
theorem rX6_reader {E : rp_E} (σ : rp_S) (v1 : Int32) (v2 : Int32)   : rp_R E (rp_mK E rmX6_reader) mX6_reader 0 [some (.ref (E.2.2.2.1 0)), some (.int v1), some (.int v2)] [] σ rp_hI (fX6_reader σ v1 v2) := by
  rw [fX6_reader]
  refine rp_aload_n (x := (E.2.2.2.1 0)) dX6_reader_0 rfl ?_
  refine rp_getR (k := 0) (b := 1) sh0 rfl fdX6_10 dX6_reader_1 ?_
  refine rp_iload_n (x := v1) dX6_reader_4 rfl ?_
  refine rp_callV_hi (As := [.int v1]) (rest := []) (b := (E.2.2.2.1 1)) (rX1_hasReader σ 1 v1 ni1) cbX1_hasReader lkX6_138 viX1_hasReader (rp_rcO sh1 rfl) rfl (Nat.le_of_ble_eq_true rfl) ⟨rfl, rfl, ⟨Nat.le_of_ble_eq_true rfl, Nat.le_of_ble_eq_true rfl⟩, Nat.zero_le _, Nat.zero_le _⟩ rfl (Nat.le_of_ble_eq_true rfl) dX6_reader_5 (fun x1 hx1 => ?_)
  refine rp_if_ne (tgt := 13) dX6_reader_8 (by decide) ?_ ?_
  · refine rp_iload_n (x := v2) dX6_reader_13 rfl ?_
    refine rp_iconst dX6_reader_14 ?_
    refine rp_iconst dX6_reader_15 ?_
    refine rp_callS_hi (As := [.int v2, .int (rI 0), .int (rI 1)]) (rest := []) (rX6_within σ v2 (rI 0) (rI 1)) cbX6_within lkX6_57 stX6_within rfl (Nat.le_of_ble_eq_true rfl) ⟨rfl, rfl, ⟨Nat.le_of_ble_eq_true rfl, Nat.le_of_ble_eq_true rfl⟩, Nat.zero_le _, Nat.zero_le _⟩ rfl (Nat.le_of_ble_eq_true rfl) dX6_reader_16 (fun x2 hx2 => ?_)
    refine rp_if_eq (tgt := 32) dX6_reader_19 (by decide) ?_ ?_
    · refine rp_iload_n (x := v2) dX6_reader_32 rfl ?_
      refine rp_iconst dX6_reader_33 ?_
      refine rp_iconst dX6_reader_34 ?_
      refine rp_callS_hi (As := [.int v2, .int (rI 2), .int (rI 3)]) (rest := []) (rX6_within σ v2 (rI 2) (rI 3)) cbX6_within lkX6_57 stX6_within rfl (Nat.le_of_ble_eq_true rfl) ⟨rfl, rfl, ⟨Nat.le_of_ble_eq_true rfl, Nat.le_of_ble_eq_true rfl⟩, Nat.zero_le _, Nat.zero_le _⟩ rfl (Nat.le_of_ble_eq_true rfl) dX6_reader_35 (fun x3 hx3 => ?_)
      refine rp_if_ne (tgt := 43) dX6_reader_38 (by decide) ?_ ?_
      · refine rp_aload_n (x := (E.2.2.2.1 0)) dX6_reader_43 rfl ?_
        refine rp_getR (k := 1) (b := 4) sh0 rfl fdX6_19 dX6_reader_44 ?_
        refine rp_aload_n (x := (E.2.2.2.1 0)) dX6_reader_47 rfl ?_
        refine rp_getR (k := 0) (b := 1) sh0 rfl fdX6_10 dX6_reader_48 ?_
        refine rp_callV_hv (As := [.ref (E.2.2.2.1 1)]) (rest := []) (b := (E.2.2.2.1 4)) (rX3_begin σ 1 ni1) cbX3_begin lkX6_104 viX3_begin (rp_rcO sh4 rfl) rfl (Nat.le_of_ble_eq_true rfl) ⟨rfl, rfl, ⟨Nat.le_of_ble_eq_true rfl, Nat.le_of_ble_eq_true rfl⟩, Nat.zero_le _, Nat.zero_le _⟩ rfl (Nat.le_of_ble_eq_true rfl) dX6_reader_51 (fun σ4 hσ4 => ?_)
        refine rp_iload_n (x := v2) dX6_reader_54 rfl ?_
        refine rp_iconst dX6_reader_55 ?_
        refine rp_icmp_ne (tgt := 70) dX6_reader_56 (by decide) ?_ ?_
        · refine rp_aload_n (x := (E.2.2.2.1 0)) dX6_reader_70 rfl ?_
          refine rp_getR (k := 1) (b := 4) sh0 rfl fdX6_19 dX6_reader_71 ?_
          refine rp_iload_n (x := v1) dX6_reader_74 rfl ?_
          refine rp_callV_hi (As := [.int v1]) (rest := []) (b := (E.2.2.2.1 4)) (rX3_minutesOf σ4 v1) cbX3_minutesOf lkX6_147 viX3_minutesOf (rp_rcO sh4 rfl) rfl (Nat.le_of_ble_eq_true rfl) ⟨rfl, rfl, ⟨Nat.le_of_ble_eq_true rfl, Nat.le_of_ble_eq_true rfl⟩, Nat.zero_le _, Nat.zero_le _⟩ rfl (Nat.le_of_ble_eq_true rfl) dX6_reader_75 (fun x5 hx5 => ?_)
          exact rp_iret rfl rfl dX6_reader_78
        · refine rp_aload_n (x := (E.2.2.2.1 0)) dX6_reader_59 rfl ?_
          refine rp_getR (k := 1) (b := 4) sh0 rfl fdX6_19 dX6_reader_60 ?_
          refine rp_iload_n (x := v1) dX6_reader_63 rfl ?_
          refine rp_callV_hi (As := [.int v1]) (rest := []) (b := (E.2.2.2.1 4)) (rX3_worksWhole σ4 v1) cbX3_worksWhole lkX6_144 viX3_worksWhole (rp_rcO sh4 rfl) rfl (Nat.le_of_ble_eq_true rfl) ⟨rfl, rfl, ⟨Nat.le_of_ble_eq_true rfl, Nat.le_of_ble_eq_true rfl⟩, Nat.zero_le _, Nat.zero_le _⟩ rfl (Nat.le_of_ble_eq_true rfl) dX6_reader_64 (fun x6 hx6 => ?_)
          refine rp_goto (tgt := 78) dX6_reader_67 (by decide) ?_
          exact rp_iret rfl rfl dX6_reader_78
      · refine rp_iconst dX6_reader_41 ?_
        exact rp_iret rfl rfl dX6_reader_42
    · refine rp_aload_n (x := (E.2.2.2.1 0)) dX6_reader_22 rfl ?_
      refine rp_getR (k := 0) (b := 1) sh0 rfl fdX6_10 dX6_reader_23 ?_
      refine rp_iload_n (x := v1) dX6_reader_26 rfl ?_
      refine rp_iload_n (x := v2) dX6_reader_27 rfl ?_
      refine rp_callV_hi (As := [.int v1, .int v2]) (rest := []) (b := (E.2.2.2.1 1)) (rX1_ofReader σ 1 v1 v2 ni1) cbX1_ofReader lkX6_141 viX1_ofReader (rp_rcO sh1 rfl) rfl (Nat.le_of_ble_eq_true rfl) ⟨rfl, rfl, ⟨Nat.le_of_ble_eq_true rfl, Nat.le_of_ble_eq_true rfl⟩, Nat.zero_le _, Nat.zero_le _⟩ rfl (Nat.le_of_ble_eq_true rfl) dX6_reader_28 (fun x7 hx7 => ?_)
      exact rp_iret rfl rfl dX6_reader_31
  · refine rp_iconst dX6_reader_11 ?_
    exact rp_iret rfl rfl dX6_reader_12
/-! RocketPrintModel.isReader(I)Z -/
abbrev rmX7_isReader : Room := { frames := 1, cells := 0, slots := 0, locals := 25 }
def fX7_isReader (σ : rp_S) (v1 : Int32) : Option (Int32) :=
  ((rq_rd σ 29 180 (rI 33)).bind fun x1 =>
    ((fX7_in (v1.toInt64) (rJ 0) (x1 - (rI 1)).toInt64).bind fun x2 =>
    (some (vp_nar .boolean x2))))
set_option maxRecDepth 100000 in
theorem rX7_isReader {E : rp_E} (σ : rp_S) (v1 : Int32)   : rp_R E (rp_mK E rmX7_isReader) mX7_isReader 0 [some (.ref (E.2.2.2.1 28)), some (.int v1)] [] σ (rp_hi σ) (fX7_isReader σ v1) := by
  rw [fX7_isReader]
  refine rp_iload_n (x := v1) dX7_isReader_0 rfl ?_
  refine rp_i2l dX7_isReader_1 ?_
  refine rp_lconst dX7_isReader_2 0 (by decide) ?_
  refine rp_aload_n (x := (E.2.2.2.1 28)) dX7_isReader_3 rfl ?_
  refine rp_getR (k := 0) (b := 29) sh28 rfl fdX7_7 dX7_isReader_4 ?_
  refine rp_bipush dX7_isReader_7 (by decide) ?_
  refine rp_iaload sh29 dX7_isReader_9 (fun x1 => ?_)
  refine rp_iconst dX7_isReader_10 ?_
  refine rp_isub dX7_isReader_11 ?_
  refine rp_i2l dX7_isReader_12 ?_
  refine rp_callS_hi (As := [.long (v1.toInt64), .long (rJ 0), .long (x1 - (rI 1)).toInt64]) (rest := []) (rX7_in σ (v1.toInt64) (rJ 0) (x1 - (rI 1)).toInt64) cbX7_in lkX7_49 stX7_in rfl (Nat.le_of_ble_eq_true rfl) ⟨rfl, rfl, ⟨Nat.le_of_ble_eq_true rfl, Nat.le_of_ble_eq_true rfl⟩, Nat.zero_le _, Nat.zero_le _⟩ rfl (Nat.le_of_ble_eq_true rfl) dX7_isReader_13 (fun x2 hx2 => ?_)
  exact rp_zret (x' := (vp_nar .boolean x2)) rfl (rp_nrZ _) rfl dX7_isReader_16
/-! RocketPrintModel.minutesOf(I)I -/
abbrev rmX7_minutesOf : Room := { frames := 0, cells := 0, slots := 0, locals := 0 }
def fX7_minutesOf_4 (σ : rp_S) : Nat → Int32 → Int32 → Int32 → Option (Int32)
  | 0, _, _, _ => none
  | n + 1, v1, v2, v3 =>
    (if (rI 6) ≤ v3 then
    (some v2)
  else
    ((rq_rd σ 34 24 (((rI 6) * v1) + v3)).bind fun x1 =>
    (fX7_minutesOf_4 σ n v1 (v2 + x1) (v3 + (rI 1)))))
set_option maxRecDepth 100000 in
theorem rX7_minutesOf_4 {E : rp_E} (σ : rp_S) : ∀ (n : Nat) (v1 : Int32) (v2 : Int32) (v3 : Int32), rp_R E (rp_mK E rmX7_minutesOf) mX7_minutesOf 4 [some (.ref (E.2.2.2.1 28)), some (.int v1), some (.int v2), some (.int v3)] [] σ (rp_hi σ) (fX7_minutesOf_4 σ n v1 v2 v3) := by
  intro n
  induction n with
  | zero =>
    intro v1 v2 v3
    rw [fX7_minutesOf_4]
    exact rp_none
  | succ n ih =>
    intro v1 v2 v3
    rw [fX7_minutesOf_4]
    refine rp_iload_n (x := v3) dX7_minutesOf_4 rfl ?_
    refine rp_bipush dX7_minutesOf_5 (by decide) ?_
    refine rp_icmp_ge (tgt := 30) dX7_minutesOf_7 (by decide) ?_ ?_
    · refine rp_iload_n (x := v2) dX7_minutesOf_30 rfl ?_
      exact rp_iret rfl rfl dX7_minutesOf_31
    · refine rp_iload_n (x := v2) dX7_minutesOf_10 rfl ?_
      refine rp_aload_n (x := (E.2.2.2.1 28)) dX7_minutesOf_11 rfl ?_
      refine rp_getR (k := 15) (b := 34) sh28 rfl fdX7_25 dX7_minutesOf_12 ?_
      refine rp_bipush dX7_minutesOf_15 (by decide) ?_
      refine rp_iload_n (x := v1) dX7_minutesOf_17 rfl ?_
      refine rp_imul dX7_minutesOf_18 ?_
      refine rp_iload_n (x := v3) dX7_minutesOf_19 rfl ?_
      refine rp_iadd dX7_minutesOf_20 ?_
      refine rp_iaload sh34 dX7_minutesOf_21 (fun x1 => ?_)
      refine rp_iadd dX7_minutesOf_22 ?_
      refine rp_istore_n dX7_minutesOf_23 (by decide) rfl ?_
      refine rp_iinc (x := v3) dX7_minutesOf_24 rfl (by decide) rfl ?_
      refine rp_goto (tgt := 4) dX7_minutesOf_27 (by decide) ?_
      refine rp_mask [true, true, true, true] (vs2 := [some (.ref (E.2.2.2.1 28)), some (.int v1), some (.int (v2 + x1)), some (.int (v3 + (rI 1)))]) rfl rfl ?_
      exact ih v1 (v2 + x1) (v3 + (rI 1))
def fX7_minutesOf (σ : rp_S) (v1 : Int32) : Option (Int32) :=
  (fX7_minutesOf_4 σ 1000 v1 (rI 0) (rI 0))
set_option maxRecDepth 100000 in
theorem rX7_minutesOf {E : rp_E} (σ : rp_S) (v1 : Int32)   : rp_R E (rp_mK E rmX7_minutesOf) mX7_minutesOf 0 [some (.ref (E.2.2.2.1 28)), some (.int v1), none, none] [] σ (rp_hi σ) (fX7_minutesOf σ v1) := by
  rw [fX7_minutesOf]
  refine rp_iconst dX7_minutesOf_0 ?_
  refine rp_istore_n dX7_minutesOf_1 (by decide) rfl ?_
  refine rp_iconst dX7_minutesOf_2 ?_
  refine rp_istore_n dX7_minutesOf_3 (by decide) rfl ?_
  refine rp_mask [true, true, true, true] (vs2 := [some (.ref (E.2.2.2.1 28)), some (.int v1), some (.int (rI 0)), some (.int (rI 0))]) rfl rfl ?_
  exact rX7_minutesOf_4 σ 1000 v1 (rI 0) (rI 0)
/-! RocketPrintModel.reader(II)I -/
abbrev rmX7_reader : Room := { frames := 4, cells := 0, slots := 0, locals := 101 }
def fX7_reader_64 (k32 : rp_S → Int32 → Int32 → Int32 → Int32 → Option (Int32 × rp_S)) (σ : rp_S) (v1 : Int32) (v2 : Int32) (v4 : Int32) (s0 : Int32) (s1 : Int32) : Option (Int32 × rp_S) :=
  (k32 σ v1 v2 (s1 ||| s0) (v4 + (rI 1)))
set_option maxRecDepth 100000 in
theorem rX7_reader_64 {E : rp_E} (k32 : rp_S → Int32 → Int32 → Int32 → Int32 → Option (Int32 × rp_S)) (hk32 : ∀ (σ : rp_S) (v1 : Int32) (v2 : Int32) (v3 : Int32) (v4 : Int32), rp_R E (rp_mK E rmX7_reader) mX7_reader 32 [some (.ref (E.2.2.2.1 28)), some (.int v1), some (.int v2), some (.int v3), some (.int v4)] [] σ rp_hI (k32 σ v1 v2 v3 v4)) (σ : rp_S) (v1 : Int32) (v2 : Int32) (v4 : Int32) (s0 : Int32) (s1 : Int32) : rp_R E (rp_mK E rmX7_reader) mX7_reader 64 [some (.ref (E.2.2.2.1 28)), some (.int v1), some (.int v2), none, some (.int v4)] [.int s0, .int s1] σ rp_hI (fX7_reader_64 k32 σ v1 v2 v4 s0 s1) := by
  rw [fX7_reader_64]
  refine rp_ior dX7_reader_64 ?_
  refine rp_istore_n dX7_reader_65 (by decide) rfl ?_
  refine rp_iinc (x := v4) dX7_reader_66 rfl (by decide) rfl ?_
  refine rp_goto (tgt := 32) dX7_reader_69 (by decide) ?_
  refine rp_mask [true, true, true, true, true] (vs2 := [some (.ref (E.2.2.2.1 28)), some (.int v1), some (.int v2), some (.int (s1 ||| s0)), some (.int (v4 + (rI 1)))]) rfl rfl ?_
  exact hk32 σ v1 v2 (s1 ||| s0) (v4 + (rI 1))
def fX7_reader_32  : Nat → rp_S → Int32 → Int32 → Int32 → Int32 → Option (Int32 × rp_S)
  | 0, _, _, _, _, _ => none
  | n + 1, σ, v1, v2, v3, v4 =>
    ((rq_rd σ 29 180 (rI 24)).bind fun x4 =>
    (if x4 ≤ v4 then
    (if (rI 2) ≤ v2 then
    (if v2 = (rI 2) then
    (some (v3, σ))
  else
    ((fX7_minutesOf σ v1).bind fun x5 =>
    (some (x5, σ))))
  else
    ((rq_rd σ 29 180 (((rI 25) + ((rI 4) * v2)) + v1)).bind fun x6 =>
    (some (x6, σ))))
  else
    ((fX7_isWhole σ (rI 0) v1 v4).bind fun x7 =>
    (if x7 = 0 then
    (fX7_reader_64 (fun σ v1 v2 v3 v4 => fX7_reader_32 n σ v1 v2 v3 v4) σ v1 v2 v4 (rI 0) v3)
  else
    (fX7_reader_64 (fun σ v1 v2 v3 v4 => fX7_reader_32 n σ v1 v2 v3 v4) σ v1 v2 v4 ((rI 1) <<< (v4 &&& 31)) v3)))))
set_option maxRecDepth 100000 in
theorem rX7_reader_32 {E : rp_E}  : ∀ (n : Nat) (σ : rp_S) (v1 : Int32) (v2 : Int32) (v3 : Int32) (v4 : Int32), rp_R E (rp_mK E rmX7_reader) mX7_reader 32 [some (.ref (E.2.2.2.1 28)), some (.int v1), some (.int v2), some (.int v3), some (.int v4)] [] σ rp_hI (fX7_reader_32 n σ v1 v2 v3 v4) := by
  intro n
  induction n with
  | zero =>
    intro σ v1 v2 v3 v4
    rw [fX7_reader_32]
    exact rp_none
  | succ n ih =>
    intro σ v1 v2 v3 v4
    rw [fX7_reader_32]
    refine rp_iload (x := v4) dX7_reader_32 rfl ?_
    refine rp_aload_n (x := (E.2.2.2.1 28)) dX7_reader_34 rfl ?_
    refine rp_getR (k := 0) (b := 29) sh28 rfl fdX7_7 dX7_reader_35 ?_
    refine rp_bipush dX7_reader_38 (by decide) ?_
    refine rp_iaload sh29 dX7_reader_40 (fun x4 => ?_)
    refine rp_icmp_ge (tgt := 72) dX7_reader_41 (by decide) ?_ ?_
    · refine rp_iload_n (x := v2) dX7_reader_72 rfl ?_
      refine rp_iconst dX7_reader_73 ?_
      refine rp_icmp_ge (tgt := 93) dX7_reader_74 (by decide) ?_ ?_
      · refine rp_iload_n (x := v2) dX7_reader_93 rfl ?_
        refine rp_iconst dX7_reader_94 ?_
        refine rp_icmp_ne (tgt := 102) dX7_reader_95 (by decide) ?_ ?_
        · refine rp_aload_n (x := (E.2.2.2.1 28)) dX7_reader_102 rfl ?_
          refine rp_iload_n (x := v1) dX7_reader_103 rfl ?_
          refine rp_callV_hi (As := [.int v1]) (rest := []) (b := (E.2.2.2.1 28)) (rX7_minutesOf σ v1) cbX7_minutesOf lkX7_183 viX7_minutesOf (rp_rcO sh28 rfl) rfl (Nat.le_of_ble_eq_true rfl) ⟨rfl, rfl, ⟨Nat.le_of_ble_eq_true rfl, Nat.le_of_ble_eq_true rfl⟩, Nat.zero_le _, Nat.zero_le _⟩ rfl (Nat.le_of_ble_eq_true rfl) dX7_reader_104 (fun x5 hx5 => ?_)
          exact rp_iret rfl rfl dX7_reader_107
        · refine rp_iload_n (x := v3) dX7_reader_98 rfl ?_
          refine rp_goto (tgt := 107) dX7_reader_99 (by decide) ?_
          exact rp_iret rfl rfl dX7_reader_107
      · refine rp_aload_n (x := (E.2.2.2.1 28)) dX7_reader_77 rfl ?_
        refine rp_getR (k := 0) (b := 29) sh28 rfl fdX7_7 dX7_reader_78 ?_
        refine rp_bipush dX7_reader_81 (by decide) ?_
        refine rp_iconst dX7_reader_83 ?_
        refine rp_iload_n (x := v2) dX7_reader_84 rfl ?_
        refine rp_imul dX7_reader_85 ?_
        refine rp_iadd dX7_reader_86 ?_
        refine rp_iload_n (x := v1) dX7_reader_87 rfl ?_
        refine rp_iadd dX7_reader_88 ?_
        refine rp_iaload sh29 dX7_reader_89 (fun x6 => ?_)
        refine rp_goto (tgt := 107) dX7_reader_90 (by decide) ?_
        exact rp_iret rfl rfl dX7_reader_107
    · refine rp_iload_n (x := v3) dX7_reader_44 rfl ?_
      refine rp_aload_n (x := (E.2.2.2.1 28)) dX7_reader_45 rfl ?_
      refine rp_iconst dX7_reader_46 ?_
      refine rp_iload_n (x := v1) dX7_reader_47 rfl ?_
      refine rp_iload (x := v4) dX7_reader_48 rfl ?_
      refine rp_callV_hi (As := [.int (rI 0), .int v1, .int v4]) (rest := [.int v3]) (b := (E.2.2.2.1 28)) (rX7_isWhole σ (rI 0) v1 v4) cbX7_isWhole lkX7_162 viX7_isWhole (rp_rcO sh28 rfl) rfl (Nat.le_of_ble_eq_true rfl) ⟨rfl, rfl, ⟨Nat.le_of_ble_eq_true rfl, Nat.le_of_ble_eq_true rfl⟩, Nat.zero_le _, Nat.zero_le _⟩ rfl (Nat.le_of_ble_eq_true rfl) dX7_reader_50 (fun x7 hx7 => ?_)
      refine rp_if_eq (tgt := 63) dX7_reader_53 (by decide) ?_ ?_
      · refine rp_iconst dX7_reader_63 ?_
        refine rp_mask [true, true, true, false, true] (vs2 := [some (.ref (E.2.2.2.1 28)), some (.int v1), some (.int v2), none, some (.int v4)]) rfl rfl ?_
        exact rX7_reader_64 (fun σ v1 v2 v3 v4 => fX7_reader_32 n σ v1 v2 v3 v4) (fun σ v1 v2 v3 v4 => ih σ v1 v2 v3 v4) σ v1 v2 v4 (rI 0) v3
      · refine rp_iconst dX7_reader_56 ?_
        refine rp_iload (x := v4) dX7_reader_57 rfl ?_
        refine rp_ishl dX7_reader_59 ?_
        refine rp_goto (tgt := 64) dX7_reader_60 (by decide) ?_
        refine rp_mask [true, true, true, false, true] (vs2 := [some (.ref (E.2.2.2.1 28)), some (.int v1), some (.int v2), none, some (.int v4)]) rfl rfl ?_
        exact rX7_reader_64 (fun σ v1 v2 v3 v4 => fX7_reader_32 n σ v1 v2 v3 v4) (fun σ v1 v2 v3 v4 => ih σ v1 v2 v3 v4) σ v1 v2 v4 ((rI 1) <<< (v4 &&& 31)) v3
def fX7_reader (σ : rp_S) (v1 : Int32) (v2 : Int32) : Option (Int32 × rp_S) :=
  ((fX7_isReader σ v1).bind fun x1 =>
    (if x1 = 0 then
    (some ((rI (-1)), σ))
  else
    ((fX7_in (v2.toInt64) (rJ 0) (rJ 3)).bind fun x2 =>
    (if x2 = 0 then
    (some ((rI (-1)), σ))
  else
    ((fX7_nightOn σ (rI 0)).bind fun σ3 =>
    (fX7_reader_32 1000 σ3 v1 v2 (rI 0) (rI 0)))))))
set_option maxRecDepth 100000 in
theorem rX7_reader {E : rp_E} (σ : rp_S) (v1 : Int32) (v2 : Int32)   : rp_R E (rp_mK E rmX7_reader) mX7_reader 0 [some (.ref (E.2.2.2.1 28)), some (.int v1), some (.int v2), none, none] [] σ rp_hI (fX7_reader σ v1 v2) := by
  rw [fX7_reader]
  refine rp_aload_n (x := (E.2.2.2.1 28)) dX7_reader_0 rfl ?_
  refine rp_iload_n (x := v1) dX7_reader_1 rfl ?_
  refine rp_callV_hi (As := [.int v1]) (rest := []) (b := (E.2.2.2.1 28)) (rX7_isReader σ v1) cbX7_isReader lkX7_178 viX7_isReader (rp_rcO sh28 rfl) rfl (Nat.le_of_ble_eq_true rfl) ⟨rfl, rfl, ⟨Nat.le_of_ble_eq_true rfl, Nat.le_of_ble_eq_true rfl⟩, Nat.zero_le _, Nat.zero_le _⟩ rfl (Nat.le_of_ble_eq_true rfl) dX7_reader_2 (fun x1 hx1 => ?_)
  refine rp_if_eq (tgt := 20) dX7_reader_5 (by decide) ?_ ?_
  · refine rp_iconst dX7_reader_20 ?_
    exact rp_iret rfl rfl dX7_reader_21
  · refine rp_iload_n (x := v2) dX7_reader_8 rfl ?_
    refine rp_i2l dX7_reader_9 ?_
    refine rp_lconst dX7_reader_10 0 (by decide) ?_
    refine rp_ldc2 (v := (rJ 3)) clX7_181 dX7_reader_11 ?_
    refine rp_callS_hi (As := [.long (v2.toInt64), .long (rJ 0), .long (rJ 3)]) (rest := []) (rX7_in σ (v2.toInt64) (rJ 0) (rJ 3)) cbX7_in lkX7_49 stX7_in rfl (Nat.le_of_ble_eq_true rfl) ⟨rfl, rfl, ⟨Nat.le_of_ble_eq_true rfl, Nat.le_of_ble_eq_true rfl⟩, Nat.zero_le _, Nat.zero_le _⟩ rfl (Nat.le_of_ble_eq_true rfl) dX7_reader_14 (fun x2 hx2 => ?_)
    refine rp_if_ne (tgt := 22) dX7_reader_17 (by decide) ?_ ?_
    · refine rp_aload_n (x := (E.2.2.2.1 28)) dX7_reader_22 rfl ?_
      refine rp_iconst dX7_reader_23 ?_
      refine rp_callV_hv (As := [.int (rI 0)]) (rest := []) (b := (E.2.2.2.1 28)) (rX7_nightOn σ (rI 0)) cbX7_nightOn lkX7_165 viX7_nightOn (rp_rcO sh28 rfl) rfl (Nat.le_of_ble_eq_true rfl) ⟨rfl, rfl, ⟨Nat.le_of_ble_eq_true rfl, Nat.le_of_ble_eq_true rfl⟩, Nat.zero_le _, Nat.zero_le _⟩ rfl (Nat.le_of_ble_eq_true rfl) dX7_reader_24 (fun σ3 hσ3 => ?_)
      refine rp_iconst dX7_reader_27 ?_
      refine rp_istore_n dX7_reader_28 (by decide) rfl ?_
      refine rp_iconst dX7_reader_29 ?_
      refine rp_istore dX7_reader_30 (by decide) rfl ?_
      refine rp_mask [true, true, true, true, true] (vs2 := [some (.ref (E.2.2.2.1 28)), some (.int v1), some (.int v2), some (.int (rI 0)), some (.int (rI 0))]) rfl rfl ?_
      exact rX7_reader_32 1000 σ3 v1 v2 (rI 0) (rI 0)
    · refine rp_iconst dX7_reader_20 ?_
      exact rp_iret rfl rfl dX7_reader_21
/-! RocketPrint.reads(II)I -/
abbrev rmX6_reads : Room := { frames := 5, cells := 0, slots := 0, locals := 104 }
def fX6_reads (σ : rp_S) (v1 : Int32) (v2 : Int32) : Option (Int32 × rp_S) :=
  ((fX1_hasReader σ 1 v1).bind fun x1 =>
    (if x1 = 0 then
    (some ((rI (-1)), σ))
  else
    ((fX1_hasWork σ 1 v2).bind fun x2 =>
    (if x2 = 0 then
    (some ((rI (-1)), σ))
  else
    ((fX3_begin σ 1).bind fun σ3 =>
    ((fX3_minutesAt σ3 v1 v2).bind fun x4 =>
    (some (x4, σ3))))))))
set_option maxRecDepth 100000 in
theorem rX6_reads {E : rp_E} (σ : rp_S) (v1 : Int32) (v2 : Int32)   : rp_R E (rp_mK E rmX6_reads) mX6_reads 0 [some (.ref (E.2.2.2.1 0)), some (.int v1), some (.int v2)] [] σ rp_hI (fX6_reads σ v1 v2) := by
  rw [fX6_reads]
  refine rp_aload_n (x := (E.2.2.2.1 0)) dX6_reads_0 rfl ?_
  refine rp_getR (k := 0) (b := 1) sh0 rfl fdX6_10 dX6_reads_1 ?_
  refine rp_iload_n (x := v1) dX6_reads_4 rfl ?_
  refine rp_callV_hi (As := [.int v1]) (rest := []) (b := (E.2.2.2.1 1)) (rX1_hasReader σ 1 v1 ni1) cbX1_hasReader lkX6_138 viX1_hasReader (rp_rcO sh1 rfl) rfl (Nat.le_of_ble_eq_true rfl) ⟨rfl, rfl, ⟨Nat.le_of_ble_eq_true rfl, Nat.le_of_ble_eq_true rfl⟩, Nat.zero_le _, Nat.zero_le _⟩ rfl (Nat.le_of_ble_eq_true rfl) dX6_reads_5 (fun x1 hx1 => ?_)
  refine rp_if_eq (tgt := 22) dX6_reads_8 (by decide) ?_ ?_
  · refine rp_iconst dX6_reads_22 ?_
    exact rp_iret rfl rfl dX6_reads_23
  · refine rp_aload_n (x := (E.2.2.2.1 0)) dX6_reads_11 rfl ?_
    refine rp_getR (k := 0) (b := 1) sh0 rfl fdX6_10 dX6_reads_12 ?_
    refine rp_iload_n (x := v2) dX6_reads_15 rfl ?_
    refine rp_callV_hi (As := [.int v2]) (rest := []) (b := (E.2.2.2.1 1)) (rX1_hasWork σ 1 v2 ni1) cbX1_hasWork lkX6_114 viX1_hasWork (rp_rcO sh1 rfl) rfl (Nat.le_of_ble_eq_true rfl) ⟨rfl, rfl, ⟨Nat.le_of_ble_eq_true rfl, Nat.le_of_ble_eq_true rfl⟩, Nat.zero_le _, Nat.zero_le _⟩ rfl (Nat.le_of_ble_eq_true rfl) dX6_reads_16 (fun x2 hx2 => ?_)
    refine rp_if_ne (tgt := 24) dX6_reads_19 (by decide) ?_ ?_
    · refine rp_aload_n (x := (E.2.2.2.1 0)) dX6_reads_24 rfl ?_
      refine rp_getR (k := 1) (b := 4) sh0 rfl fdX6_19 dX6_reads_25 ?_
      refine rp_aload_n (x := (E.2.2.2.1 0)) dX6_reads_28 rfl ?_
      refine rp_getR (k := 0) (b := 1) sh0 rfl fdX6_10 dX6_reads_29 ?_
      refine rp_callV_hv (As := [.ref (E.2.2.2.1 1)]) (rest := []) (b := (E.2.2.2.1 4)) (rX3_begin σ 1 ni1) cbX3_begin lkX6_104 viX3_begin (rp_rcO sh4 rfl) rfl (Nat.le_of_ble_eq_true rfl) ⟨rfl, rfl, ⟨Nat.le_of_ble_eq_true rfl, Nat.le_of_ble_eq_true rfl⟩, Nat.zero_le _, Nat.zero_le _⟩ rfl (Nat.le_of_ble_eq_true rfl) dX6_reads_32 (fun σ3 hσ3 => ?_)
      refine rp_aload_n (x := (E.2.2.2.1 0)) dX6_reads_35 rfl ?_
      refine rp_getR (k := 1) (b := 4) sh0 rfl fdX6_19 dX6_reads_36 ?_
      refine rp_iload_n (x := v1) dX6_reads_39 rfl ?_
      refine rp_iload_n (x := v2) dX6_reads_40 rfl ?_
      refine rp_callV_hi (As := [.int v1, .int v2]) (rest := []) (b := (E.2.2.2.1 4)) (rX3_minutesAt σ3 v1 v2) cbX3_minutesAt lkX6_150 viX3_minutesAt (rp_rcO sh4 rfl) rfl (Nat.le_of_ble_eq_true rfl) ⟨rfl, rfl, ⟨Nat.le_of_ble_eq_true rfl, Nat.le_of_ble_eq_true rfl⟩, Nat.zero_le _, Nat.zero_le _⟩ rfl (Nat.le_of_ble_eq_true rfl) dX6_reads_41 (fun x4 hx4 => ?_)
      exact rp_iret rfl rfl dX6_reads_44
    · refine rp_iconst dX6_reads_22 ?_
      exact rp_iret rfl rfl dX6_reads_23
/-! RocketPrintModel.reads(II)I -/
abbrev rmX7_reads : Room := { frames := 4, cells := 0, slots := 0, locals := 101 }
def fX7_reads (σ : rp_S) (v1 : Int32) (v2 : Int32) : Option (Int32 × rp_S) :=
  ((fX7_isReader σ v1).bind fun x1 =>
    (if x1 = 0 then
    (some ((rI (-1)), σ))
  else
    ((fX7_isWork σ v2).bind fun x2 =>
    (if x2 = 0 then
    (some ((rI (-1)), σ))
  else
    ((fX7_nightOn σ (rI 0)).bind fun σ3 =>
    ((rq_rd σ3 34 24 (((rI 6) * v1) + v2)).bind fun x4 =>
    (some (x4, σ3))))))))
set_option maxRecDepth 100000 in
theorem rX7_reads {E : rp_E} (σ : rp_S) (v1 : Int32) (v2 : Int32)   : rp_R E (rp_mK E rmX7_reads) mX7_reads 0 [some (.ref (E.2.2.2.1 28)), some (.int v1), some (.int v2)] [] σ rp_hI (fX7_reads σ v1 v2) := by
  rw [fX7_reads]
  refine rp_aload_n (x := (E.2.2.2.1 28)) dX7_reads_0 rfl ?_
  refine rp_iload_n (x := v1) dX7_reads_1 rfl ?_
  refine rp_callV_hi (As := [.int v1]) (rest := []) (b := (E.2.2.2.1 28)) (rX7_isReader σ v1) cbX7_isReader lkX7_178 viX7_isReader (rp_rcO sh28 rfl) rfl (Nat.le_of_ble_eq_true rfl) ⟨rfl, rfl, ⟨Nat.le_of_ble_eq_true rfl, Nat.le_of_ble_eq_true rfl⟩, Nat.zero_le _, Nat.zero_le _⟩ rfl (Nat.le_of_ble_eq_true rfl) dX7_reads_2 (fun x1 hx1 => ?_)
  refine rp_if_eq (tgt := 16) dX7_reads_5 (by decide) ?_ ?_
  · refine rp_iconst dX7_reads_16 ?_
    exact rp_iret rfl rfl dX7_reads_17
  · refine rp_aload_n (x := (E.2.2.2.1 28)) dX7_reads_8 rfl ?_
    refine rp_iload_n (x := v2) dX7_reads_9 rfl ?_
    refine rp_callV_hi (As := [.int v2]) (rest := []) (b := (E.2.2.2.1 28)) (rX7_isWork σ v2) cbX7_isWork lkX7_168 viX7_isWork (rp_rcO sh28 rfl) rfl (Nat.le_of_ble_eq_true rfl) ⟨rfl, rfl, ⟨Nat.le_of_ble_eq_true rfl, Nat.le_of_ble_eq_true rfl⟩, Nat.zero_le _, Nat.zero_le _⟩ rfl (Nat.le_of_ble_eq_true rfl) dX7_reads_10 (fun x2 hx2 => ?_)
    refine rp_if_ne (tgt := 18) dX7_reads_13 (by decide) ?_ ?_
    · refine rp_aload_n (x := (E.2.2.2.1 28)) dX7_reads_18 rfl ?_
      refine rp_iconst dX7_reads_19 ?_
      refine rp_callV_hv (As := [.int (rI 0)]) (rest := []) (b := (E.2.2.2.1 28)) (rX7_nightOn σ (rI 0)) cbX7_nightOn lkX7_165 viX7_nightOn (rp_rcO sh28 rfl) rfl (Nat.le_of_ble_eq_true rfl) ⟨rfl, rfl, ⟨Nat.le_of_ble_eq_true rfl, Nat.le_of_ble_eq_true rfl⟩, Nat.zero_le _, Nat.zero_le _⟩ rfl (Nat.le_of_ble_eq_true rfl) dX7_reads_20 (fun σ3 hσ3 => ?_)
      refine rp_aload_n (x := (E.2.2.2.1 28)) dX7_reads_23 rfl ?_
      refine rp_getR (k := 15) (b := 34) sh28 rfl fdX7_25 dX7_reads_24 ?_
      refine rp_bipush dX7_reads_27 (by decide) ?_
      refine rp_iload_n (x := v1) dX7_reads_29 rfl ?_
      refine rp_imul dX7_reads_30 ?_
      refine rp_iload_n (x := v2) dX7_reads_31 rfl ?_
      refine rp_iadd dX7_reads_32 ?_
      refine rp_iaload sh34 dX7_reads_33 (fun x4 => ?_)
      exact rp_iret rfl rfl dX7_reads_34
    · refine rp_iconst dX7_reads_16 ?_
      exact rp_iret rfl rfl dX7_reads_17
/-! RocketPrint.looks(II)I -/
abbrev rmX6_looks : Room := { frames := 5, cells := 0, slots := 0, locals := 104 }
def fX6_looks (σ : rp_S) (v1 : Int32) (v2 : Int32) : Option (Int32 × rp_S) :=
  ((fX1_hasReader σ 1 v1).bind fun x1 =>
    (if x1 = 0 then
    (some ((rI (-1)), σ))
  else
    ((fX6_within v2 (rI 0) (rI 79)).bind fun x2 =>
    (if x2 = 0 then
    (some ((rI (-1)), σ))
  else
    ((fX3_begin σ 1).bind fun σ3 =>
    ((fX3_lookedAt σ3 v1 v2).bind fun x4 =>
    (some (x4, σ3))))))))
set_option maxRecDepth 100000 in
theorem rX6_looks {E : rp_E} (σ : rp_S) (v1 : Int32) (v2 : Int32)   : rp_R E (rp_mK E rmX6_looks) mX6_looks 0 [some (.ref (E.2.2.2.1 0)), some (.int v1), some (.int v2)] [] σ rp_hI (fX6_looks σ v1 v2) := by
  rw [fX6_looks]
  refine rp_aload_n (x := (E.2.2.2.1 0)) dX6_looks_0 rfl ?_
  refine rp_getR (k := 0) (b := 1) sh0 rfl fdX6_10 dX6_looks_1 ?_
  refine rp_iload_n (x := v1) dX6_looks_4 rfl ?_
  refine rp_callV_hi (As := [.int v1]) (rest := []) (b := (E.2.2.2.1 1)) (rX1_hasReader σ 1 v1 ni1) cbX1_hasReader lkX6_138 viX1_hasReader (rp_rcO sh1 rfl) rfl (Nat.le_of_ble_eq_true rfl) ⟨rfl, rfl, ⟨Nat.le_of_ble_eq_true rfl, Nat.le_of_ble_eq_true rfl⟩, Nat.zero_le _, Nat.zero_le _⟩ rfl (Nat.le_of_ble_eq_true rfl) dX6_looks_5 (fun x1 hx1 => ?_)
  refine rp_if_eq (tgt := 21) dX6_looks_8 (by decide) ?_ ?_
  · refine rp_iconst dX6_looks_21 ?_
    exact rp_iret rfl rfl dX6_looks_22
  · refine rp_iload_n (x := v2) dX6_looks_11 rfl ?_
    refine rp_iconst dX6_looks_12 ?_
    refine rp_bipush dX6_looks_13 (by decide) ?_
    refine rp_callS_hi (As := [.int v2, .int (rI 0), .int (rI 79)]) (rest := []) (rX6_within σ v2 (rI 0) (rI 79)) cbX6_within lkX6_57 stX6_within rfl (Nat.le_of_ble_eq_true rfl) ⟨rfl, rfl, ⟨Nat.le_of_ble_eq_true rfl, Nat.le_of_ble_eq_true rfl⟩, Nat.zero_le _, Nat.zero_le _⟩ rfl (Nat.le_of_ble_eq_true rfl) dX6_looks_15 (fun x2 hx2 => ?_)
    refine rp_if_ne (tgt := 23) dX6_looks_18 (by decide) ?_ ?_
    · refine rp_aload_n (x := (E.2.2.2.1 0)) dX6_looks_23 rfl ?_
      refine rp_getR (k := 1) (b := 4) sh0 rfl fdX6_19 dX6_looks_24 ?_
      refine rp_aload_n (x := (E.2.2.2.1 0)) dX6_looks_27 rfl ?_
      refine rp_getR (k := 0) (b := 1) sh0 rfl fdX6_10 dX6_looks_28 ?_
      refine rp_callV_hv (As := [.ref (E.2.2.2.1 1)]) (rest := []) (b := (E.2.2.2.1 4)) (rX3_begin σ 1 ni1) cbX3_begin lkX6_104 viX3_begin (rp_rcO sh4 rfl) rfl (Nat.le_of_ble_eq_true rfl) ⟨rfl, rfl, ⟨Nat.le_of_ble_eq_true rfl, Nat.le_of_ble_eq_true rfl⟩, Nat.zero_le _, Nat.zero_le _⟩ rfl (Nat.le_of_ble_eq_true rfl) dX6_looks_31 (fun σ3 hσ3 => ?_)
      refine rp_aload_n (x := (E.2.2.2.1 0)) dX6_looks_34 rfl ?_
      refine rp_getR (k := 1) (b := 4) sh0 rfl fdX6_19 dX6_looks_35 ?_
      refine rp_iload_n (x := v1) dX6_looks_38 rfl ?_
      refine rp_iload_n (x := v2) dX6_looks_39 rfl ?_
      refine rp_callV_hi (As := [.int v1, .int v2]) (rest := []) (b := (E.2.2.2.1 4)) (rX3_lookedAt σ3 v1 v2) cbX3_lookedAt lkX6_153 viX3_lookedAt (rp_rcO sh4 rfl) rfl (Nat.le_of_ble_eq_true rfl) ⟨rfl, rfl, ⟨Nat.le_of_ble_eq_true rfl, Nat.le_of_ble_eq_true rfl⟩, Nat.zero_le _, Nat.zero_le _⟩ rfl (Nat.le_of_ble_eq_true rfl) dX6_looks_40 (fun x4 hx4 => ?_)
      exact rp_iret rfl rfl dX6_looks_43
    · refine rp_iconst dX6_looks_21 ?_
      exact rp_iret rfl rfl dX6_looks_22
/-! RocketPrintModel.isMinute(I)Z -/
abbrev rmX7_isMinute : Room := { frames := 1, cells := 0, slots := 0, locals := 25 }
def fX7_isMinute  (v0 : Int32) : Option (Int32) :=
  ((fX7_in (v0.toInt64) (rJ 0) (rJ 79)).bind fun x1 =>
    (some (vp_nar .boolean x1)))
set_option maxRecDepth 100000 in
theorem rX7_isMinute {E : rp_E} (σ : rp_S) (v0 : Int32)   : rp_R E (rp_mK E rmX7_isMinute) mX7_isMinute 0 [some (.int v0)] [] σ (rp_hi σ) (fX7_isMinute v0) := by
  rw [fX7_isMinute]
  refine rp_iload_n (x := v0) dX7_isMinute_0 rfl ?_
  refine rp_i2l dX7_isMinute_1 ?_
  refine rp_lconst dX7_isMinute_2 0 (by decide) ?_
  refine rp_ldc2 (v := (rJ 79)) clX7_121 dX7_isMinute_3 ?_
  refine rp_callS_hi (As := [.long (v0.toInt64), .long (rJ 0), .long (rJ 79)]) (rest := []) (rX7_in σ (v0.toInt64) (rJ 0) (rJ 79)) cbX7_in lkX7_49 stX7_in rfl (Nat.le_of_ble_eq_true rfl) ⟨rfl, rfl, ⟨Nat.le_of_ble_eq_true rfl, Nat.le_of_ble_eq_true rfl⟩, Nat.zero_le _, Nat.zero_le _⟩ rfl (Nat.le_of_ble_eq_true rfl) dX7_isMinute_6 (fun x1 hx1 => ?_)
  exact rp_zret (x' := (vp_nar .boolean x1)) rfl (rp_nrZ _) rfl dX7_isMinute_9
/-! RocketPrintModel.looks(II)I -/
abbrev rmX7_looks : Room := { frames := 3, cells := 0, slots := 0, locals := 76 }
def fX7_looks (σ : rp_S) (v1 : Int32) (v2 : Int32) : Option (Int32) :=
  ((fX7_isReader σ v1).bind fun x1 =>
    (if x1 = 0 then
    (some (rI (-1)))
  else
    ((fX7_isMinute v2).bind fun x2 =>
    (if x2 = 0 then
    (some (rI (-1)))
  else
    ((fX7_looksOn σ (rI 0) v1 v2).bind fun x3 =>
    (some x3))))))
set_option maxRecDepth 100000 in
theorem rX7_looks {E : rp_E} (σ : rp_S) (v1 : Int32) (v2 : Int32)   : rp_R E (rp_mK E rmX7_looks) mX7_looks 0 [some (.ref (E.2.2.2.1 28)), some (.int v1), some (.int v2)] [] σ (rp_hi σ) (fX7_looks σ v1 v2) := by
  rw [fX7_looks]
  refine rp_aload_n (x := (E.2.2.2.1 28)) dX7_looks_0 rfl ?_
  refine rp_iload_n (x := v1) dX7_looks_1 rfl ?_
  refine rp_callV_hi (As := [.int v1]) (rest := []) (b := (E.2.2.2.1 28)) (rX7_isReader σ v1) cbX7_isReader lkX7_178 viX7_isReader (rp_rcO sh28 rfl) rfl (Nat.le_of_ble_eq_true rfl) ⟨rfl, rfl, ⟨Nat.le_of_ble_eq_true rfl, Nat.le_of_ble_eq_true rfl⟩, Nat.zero_le _, Nat.zero_le _⟩ rfl (Nat.le_of_ble_eq_true rfl) dX7_looks_2 (fun x1 hx1 => ?_)
  refine rp_if_eq (tgt := 25) dX7_looks_5 (by decide) ?_ ?_
  · refine rp_iconst dX7_looks_25 ?_
    exact rp_iret rfl rfl dX7_looks_26
  · refine rp_iload_n (x := v2) dX7_looks_8 rfl ?_
    refine rp_callS_hi (As := [.int v2]) (rest := []) (rX7_isMinute σ v2) cbX7_isMinute lkX7_186 stX7_isMinute rfl (Nat.le_of_ble_eq_true rfl) ⟨rfl, rfl, ⟨Nat.le_of_ble_eq_true rfl, Nat.le_of_ble_eq_true rfl⟩, Nat.zero_le _, Nat.zero_le _⟩ rfl (Nat.le_of_ble_eq_true rfl) dX7_looks_9 (fun x2 hx2 => ?_)
    refine rp_if_eq (tgt := 25) dX7_looks_12 (by decide) ?_ ?_
    · refine rp_iconst dX7_looks_25 ?_
      exact rp_iret rfl rfl dX7_looks_26
    · refine rp_aload_n (x := (E.2.2.2.1 28)) dX7_looks_15 rfl ?_
      refine rp_iconst dX7_looks_16 ?_
      refine rp_iload_n (x := v1) dX7_looks_17 rfl ?_
      refine rp_iload_n (x := v2) dX7_looks_18 rfl ?_
      refine rp_callV_hi (As := [.int (rI 0), .int v1, .int v2]) (rest := []) (b := (E.2.2.2.1 28)) (rX7_looksOn σ (rI 0) v1 v2) cbX7_looksOn lkX7_158 viX7_looksOn (rp_rcO sh28 rfl) rfl (Nat.le_of_ble_eq_true rfl) ⟨rfl, rfl, ⟨Nat.le_of_ble_eq_true rfl, Nat.le_of_ble_eq_true rfl⟩, Nat.zero_le _, Nat.zero_le _⟩ rfl (Nat.le_of_ble_eq_true rfl) dX7_looks_19 (fun x3 hx3 => ?_)
      refine rp_goto (tgt := 26) dX7_looks_22 (by decide) ?_
      exact rp_iret rfl rfl dX7_looks_26
/-! RocketPrint.sky(I)I -/
abbrev rmX6_sky : Room := { frames := 5, cells := 0, slots := 0, locals := 104 }
def fX6_sky_56 (k27 : rp_S → Int32 → Int32 → Int32 → Option (Int32 × rp_S)) (σ : rp_S) (v1 : Int32) (v2 : Int32) (v3 : Int32) : Option (Int32 × rp_S) :=
  (k27 σ v1 v2 (v3 + (rI 1)))
set_option maxRecDepth 100000 in
theorem rX6_sky_56 {E : rp_E} (k27 : rp_S → Int32 → Int32 → Int32 → Option (Int32 × rp_S)) (hk27 : ∀ (σ : rp_S) (v1 : Int32) (v2 : Int32) (v3 : Int32), rp_R E (rp_mK E rmX6_sky) mX6_sky 27 [some (.ref (E.2.2.2.1 0)), some (.int v1), some (.int v2), some (.int v3)] [] σ rp_hI (k27 σ v1 v2 v3)) (σ : rp_S) (v1 : Int32) (v2 : Int32) (v3 : Int32) : rp_R E (rp_mK E rmX6_sky) mX6_sky 56 [some (.ref (E.2.2.2.1 0)), some (.int v1), some (.int v2), some (.int v3)] [] σ rp_hI (fX6_sky_56 k27 σ v1 v2 v3) := by
  rw [fX6_sky_56]
  refine rp_iinc (x := v3) dX6_sky_56 rfl (by decide) rfl ?_
  refine rp_goto (tgt := 27) dX6_sky_59 (by decide) ?_
  refine rp_mask [true, true, true, true] (vs2 := [some (.ref (E.2.2.2.1 0)), some (.int v1), some (.int v2), some (.int (v3 + (rI 1)))]) rfl rfl ?_
  exact hk27 σ v1 v2 (v3 + (rI 1))
def fX6_sky_27  : Nat → rp_S → Int32 → Int32 → Int32 → Option (Int32 × rp_S)
  | 0, _, _, _, _ => none
  | n + 1, σ, v1, v2, v3 =>
    (if (σ 1 2) ≤ v3 then
    (some (v2, σ))
  else
    ((fX3_isUp σ v3 v1).bind fun x3 =>
    (if x3 = 0 then
    (fX6_sky_56 (fun σ v1 v2 v3 => fX6_sky_27 n σ v1 v2 v3) σ v1 v2 v3)
  else
    (fX6_sky_56 (fun σ v1 v2 v3 => fX6_sky_27 n σ v1 v2 v3) σ v1 (v2 ||| ((rI 1) <<< (v3 &&& 31))) v3))))
set_option maxRecDepth 100000 in
theorem rX6_sky_27 {E : rp_E}  : ∀ (n : Nat) (σ : rp_S) (v1 : Int32) (v2 : Int32) (v3 : Int32), rp_R E (rp_mK E rmX6_sky) mX6_sky 27 [some (.ref (E.2.2.2.1 0)), some (.int v1), some (.int v2), some (.int v3)] [] σ rp_hI (fX6_sky_27 n σ v1 v2 v3) := by
  intro n
  induction n with
  | zero =>
    intro σ v1 v2 v3
    rw [fX6_sky_27]
    exact rp_none
  | succ n ih =>
    intro σ v1 v2 v3
    rw [fX6_sky_27]
    refine rp_iload_n (x := v3) dX6_sky_27 rfl ?_
    refine rp_aload_n (x := (E.2.2.2.1 0)) dX6_sky_28 rfl ?_
    refine rp_getR (k := 0) (b := 1) sh0 rfl fdX6_10 dX6_sky_29 ?_
    refine rp_getI (k := 2) sh1 rfl fdX6_92 dX6_sky_32 ?_
    refine rp_icmp_ge (tgt := 62) dX6_sky_35 (by decide) ?_ ?_
    · refine rp_iload_n (x := v2) dX6_sky_62 rfl ?_
      exact rp_iret rfl rfl dX6_sky_63
    · refine rp_aload_n (x := (E.2.2.2.1 0)) dX6_sky_38 rfl ?_
      refine rp_getR (k := 1) (b := 4) sh0 rfl fdX6_19 dX6_sky_39 ?_
      refine rp_iload_n (x := v3) dX6_sky_42 rfl ?_
      refine rp_iload_n (x := v1) dX6_sky_43 rfl ?_
      refine rp_callV_hi (As := [.int v3, .int v1]) (rest := []) (b := (E.2.2.2.1 4)) (rX3_isUp σ v3 v1) cbX3_isUp lkX6_156 viX3_isUp (rp_rcO sh4 rfl) rfl (Nat.le_of_ble_eq_true rfl) ⟨rfl, rfl, ⟨Nat.le_of_ble_eq_true rfl, Nat.le_of_ble_eq_true rfl⟩, Nat.zero_le _, Nat.zero_le _⟩ rfl (Nat.le_of_ble_eq_true rfl) dX6_sky_44 (fun x3 hx3 => ?_)
      refine rp_if_eq (tgt := 56) dX6_sky_47 (by decide) ?_ ?_
      · refine rp_mask [true, true, true, true] (vs2 := [some (.ref (E.2.2.2.1 0)), some (.int v1), some (.int v2), some (.int v3)]) rfl rfl ?_
        exact rX6_sky_56 (fun σ v1 v2 v3 => fX6_sky_27 n σ v1 v2 v3) (fun σ v1 v2 v3 => ih σ v1 v2 v3) σ v1 v2 v3
      · refine rp_iload_n (x := v2) dX6_sky_50 rfl ?_
        refine rp_iconst dX6_sky_51 ?_
        refine rp_iload_n (x := v3) dX6_sky_52 rfl ?_
        refine rp_ishl dX6_sky_53 ?_
        refine rp_ior dX6_sky_54 ?_
        refine rp_istore_n dX6_sky_55 (by decide) rfl ?_
        refine rp_mask [true, true, true, true] (vs2 := [some (.ref (E.2.2.2.1 0)), some (.int v1), some (.int (v2 ||| ((rI 1) <<< (v3 &&& 31)))), some (.int v3)]) rfl rfl ?_
        exact rX6_sky_56 (fun σ v1 v2 v3 => fX6_sky_27 n σ v1 v2 v3) (fun σ v1 v2 v3 => ih σ v1 v2 v3) σ v1 (v2 ||| ((rI 1) <<< (v3 &&& 31))) v3
def fX6_sky (σ : rp_S) (v1 : Int32) : Option (Int32 × rp_S) :=
  ((fX6_within v1 (rI 0) (rI 79)).bind fun x1 =>
    (if x1 = 0 then
    (some ((rI (-1)), σ))
  else
    ((fX3_begin σ 1).bind fun σ2 =>
    (fX6_sky_27 1000 σ2 v1 (rI 0) (rI 0)))))
set_option maxRecDepth 100000 in
theorem rX6_sky {E : rp_E} (σ : rp_S) (v1 : Int32)   : rp_R E (rp_mK E rmX6_sky) mX6_sky 0 [some (.ref (E.2.2.2.1 0)), some (.int v1), none, none] [] σ rp_hI (fX6_sky σ v1) := by
  rw [fX6_sky]
  refine rp_iload_n (x := v1) dX6_sky_0 rfl ?_
  refine rp_iconst dX6_sky_1 ?_
  refine rp_bipush dX6_sky_2 (by decide) ?_
  refine rp_callS_hi (As := [.int v1, .int (rI 0), .int (rI 79)]) (rest := []) (rX6_within σ v1 (rI 0) (rI 79)) cbX6_within lkX6_57 stX6_within rfl (Nat.le_of_ble_eq_true rfl) ⟨rfl, rfl, ⟨Nat.le_of_ble_eq_true rfl, Nat.le_of_ble_eq_true rfl⟩, Nat.zero_le _, Nat.zero_le _⟩ rfl (Nat.le_of_ble_eq_true rfl) dX6_sky_4 (fun x1 hx1 => ?_)
  refine rp_if_ne (tgt := 12) dX6_sky_7 (by decide) ?_ ?_
  · refine rp_aload_n (x := (E.2.2.2.1 0)) dX6_sky_12 rfl ?_
    refine rp_getR (k := 1) (b := 4) sh0 rfl fdX6_19 dX6_sky_13 ?_
    refine rp_aload_n (x := (E.2.2.2.1 0)) dX6_sky_16 rfl ?_
    refine rp_getR (k := 0) (b := 1) sh0 rfl fdX6_10 dX6_sky_17 ?_
    refine rp_callV_hv (As := [.ref (E.2.2.2.1 1)]) (rest := []) (b := (E.2.2.2.1 4)) (rX3_begin σ 1 ni1) cbX3_begin lkX6_104 viX3_begin (rp_rcO sh4 rfl) rfl (Nat.le_of_ble_eq_true rfl) ⟨rfl, rfl, ⟨Nat.le_of_ble_eq_true rfl, Nat.le_of_ble_eq_true rfl⟩, Nat.zero_le _, Nat.zero_le _⟩ rfl (Nat.le_of_ble_eq_true rfl) dX6_sky_20 (fun σ2 hσ2 => ?_)
    refine rp_iconst dX6_sky_23 ?_
    refine rp_istore_n dX6_sky_24 (by decide) rfl ?_
    refine rp_iconst dX6_sky_25 ?_
    refine rp_istore_n dX6_sky_26 (by decide) rfl ?_
    refine rp_mask [true, true, true, true] (vs2 := [some (.ref (E.2.2.2.1 0)), some (.int v1), some (.int (rI 0)), some (.int (rI 0))]) rfl rfl ?_
    exact rX6_sky_27 1000 σ2 v1 (rI 0) (rI 0)
  · refine rp_iconst dX6_sky_10 ?_
    exact rp_iret rfl rfl dX6_sky_11
