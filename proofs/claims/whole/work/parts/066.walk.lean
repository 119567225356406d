/-! RocketPrint.dry(I)I -/
abbrev rmX6_dry : Room := { frames := 5, cells := 0, slots := 0, locals := 119 }
def fX6_dry_27  : Nat → rp_S → Int32 → Int32 → Option (Int32 × rp_S)
  | 0, _, _, _ => none
  | n + 1, σ, v1, v2 =>
    (if v2 < 0 then
    (some ((rI (-4)), σ))
  else
    ((some (rp_up σ 5 5 v2)).bind fun σ3 =>
    ((fX3_settle σ3).bind fun σ4 =>
    ((fX3_minutesOf σ4 v1).bind fun x5 =>
    (if x5 ≤ 0 then
    (fX6_dry_27 n σ4 v1 (v2 + (rI (-1))))
  else
    (some (v2, σ4)))))))
set_option maxRecDepth 100000 in
theorem rX6_dry_27 {E : rp_E}  : ∀ (n : Nat) (σ : rp_S) (v1 : Int32) (v2 : Int32), rp_R E (rp_mK E rmX6_dry) mX6_dry 27 [some (.ref (E.2.2.2.1 0)), some (.int v1), some (.int v2)] [] σ rp_hI (fX6_dry_27 n σ v1 v2) := by
  intro n
  induction n with
  | zero =>
    intro σ v1 v2
    rw [fX6_dry_27]
    exact rp_none
  | succ n ih =>
    intro σ v1 v2
    rw [fX6_dry_27]
    refine rp_iload_n (x := v2) dX6_dry_27 rfl ?_
    refine rp_if_lt (tgt := 68) dX6_dry_28 (by decide) ?_ ?_
    · refine rp_bipush dX6_dry_68 (by decide) ?_
      exact rp_iret rfl rfl dX6_dry_70
    · refine rp_aload_n (x := (E.2.2.2.1 0)) dX6_dry_31 rfl ?_
      refine rp_getR (k := 1) (b := 4) sh0 rfl fdX6_19 dX6_dry_32 ?_
      refine rp_getR (k := 0) (b := 5) sh4 rfl fdX6_69 dX6_dry_35 ?_
      refine rp_iload_n (x := v2) dX6_dry_38 rfl ?_
      refine rp_putB (k := 5) sh5 rfl fpX6_101 (vp_nar_int _) rfl dX6_dry_39 (fun σ3 => ?_)
      refine rp_aload_n (x := (E.2.2.2.1 0)) dX6_dry_42 rfl ?_
      refine rp_getR (k := 1) (b := 4) sh0 rfl fdX6_19 dX6_dry_43 ?_
      refine rp_callV_hv (As := []) (rest := []) (b := (E.2.2.2.1 4)) (rX3_settle σ3) cbX3_settle lkX6_201 viX3_settle (rp_rcO sh4 rfl) rfl (Nat.le_of_ble_eq_true rfl) ⟨rfl, rfl, ⟨Nat.le_of_ble_eq_true rfl, Nat.le_of_ble_eq_true rfl⟩, Nat.zero_le _, Nat.zero_le _⟩ rfl (Nat.le_of_ble_eq_true rfl) dX6_dry_46 (fun σ4 hσ4 => ?_)
      refine rp_aload_n (x := (E.2.2.2.1 0)) dX6_dry_49 rfl ?_
      refine rp_getR (k := 1) (b := 4) sh0 rfl fdX6_19 dX6_dry_50 ?_
      refine rp_iload_n (x := v1) dX6_dry_53 rfl ?_
      refine rp_callV_hi (As := [.int v1]) (rest := []) (b := (E.2.2.2.1 4)) (rX3_minutesOf σ4 v1) cbX3_minutesOf lkX6_147 viX3_minutesOf (rp_rcO sh4 rfl) rfl (Nat.le_of_ble_eq_true rfl) ⟨rfl, rfl, ⟨Nat.le_of_ble_eq_true rfl, Nat.le_of_ble_eq_true rfl⟩, Nat.zero_le _, Nat.zero_le _⟩ rfl (Nat.le_of_ble_eq_true rfl) dX6_dry_54 (fun x5 hx5 => ?_)
      refine rp_if_le (tgt := 62) dX6_dry_57 (by decide) ?_ ?_
      · refine rp_iinc (x := v2) dX6_dry_62 rfl (by decide) rfl ?_
        refine rp_goto (tgt := 27) dX6_dry_65 (by decide) ?_
        refine rp_mask [true, true, true] (vs2 := [some (.ref (E.2.2.2.1 0)), some (.int v1), some (.int (v2 + (rI (-1))))]) rfl rfl ?_
        exact ih σ4 v1 (v2 + (rI (-1)))
      · refine rp_iload_n (x := v2) dX6_dry_60 rfl ?_
        exact rp_iret rfl rfl dX6_dry_61
def fX6_dry (σ : rp_S) (v1 : Int32) : Option (Int32 × rp_S) :=
  ((fX1_hasReader σ 1 v1).bind fun x1 =>
    (if x1 = 0 then
    (some ((rI (-1)), σ))
  else
    ((fX3_begin σ 1).bind fun σ2 =>
    (fX6_dry_27 1000 σ2 v1 (rI 9)))))
set_option maxRecDepth 100000 in
theorem rX6_dry {E : rp_E} (σ : rp_S) (v1 : Int32)   : rp_R E (rp_mK E rmX6_dry) mX6_dry 0 [some (.ref (E.2.2.2.1 0)), some (.int v1), none] [] σ rp_hI (fX6_dry σ v1) := by
  rw [fX6_dry]
  refine rp_aload_n (x := (E.2.2.2.1 0)) dX6_dry_0 rfl ?_
  refine rp_getR (k := 0) (b := 1) sh0 rfl fdX6_10 dX6_dry_1 ?_
  refine rp_iload_n (x := v1) dX6_dry_4 rfl ?_
  refine rp_callV_hi (As := [.int v1]) (rest := []) (b := (E.2.2.2.1 1)) (rX1_hasReader σ 1 v1 ni1) cbX1_hasReader lkX6_138 viX1_hasReader (rp_rcO sh1 rfl) rfl (Nat.le_of_ble_eq_true rfl) ⟨rfl, rfl, ⟨Nat.le_of_ble_eq_true rfl, Nat.le_of_ble_eq_true rfl⟩, Nat.zero_le _, Nat.zero_le _⟩ rfl (Nat.le_of_ble_eq_true rfl) dX6_dry_5 (fun x1 hx1 => ?_)
  refine rp_if_ne (tgt := 13) dX6_dry_8 (by decide) ?_ ?_
  · refine rp_aload_n (x := (E.2.2.2.1 0)) dX6_dry_13 rfl ?_
    refine rp_getR (k := 1) (b := 4) sh0 rfl fdX6_19 dX6_dry_14 ?_
    refine rp_aload_n (x := (E.2.2.2.1 0)) dX6_dry_17 rfl ?_
    refine rp_getR (k := 0) (b := 1) sh0 rfl fdX6_10 dX6_dry_18 ?_
    refine rp_callV_hv (As := [.ref (E.2.2.2.1 1)]) (rest := []) (b := (E.2.2.2.1 4)) (rX3_begin σ 1 ni1) cbX3_begin lkX6_104 viX3_begin (rp_rcO sh4 rfl) rfl (Nat.le_of_ble_eq_true rfl) ⟨rfl, rfl, ⟨Nat.le_of_ble_eq_true rfl, Nat.le_of_ble_eq_true rfl⟩, Nat.zero_le _, Nat.zero_le _⟩ rfl (Nat.le_of_ble_eq_true rfl) dX6_dry_21 (fun σ2 hσ2 => ?_)
    refine rp_bipush dX6_dry_24 (by decide) ?_
    refine rp_istore_n dX6_dry_26 (by decide) rfl ?_
    refine rp_mask [true, true, true] (vs2 := [some (.ref (E.2.2.2.1 0)), some (.int v1), some (.int (rI 9))]) rfl rfl ?_
    exact rX6_dry_27 1000 σ2 v1 (rI 9)
  · refine rp_iconst dX6_dry_11 ?_
    exact rp_iret rfl rfl dX6_dry_12
/-! RocketPrintModel.dry(I)I -/
abbrev rmX7_dry : Room := { frames := 4, cells := 0, slots := 0, locals := 101 }
def fX7_dry_21  : Nat → rp_S → Int32 → Int32 → Option (Int32 × rp_S)
  | 0, _, _, _ => none
  | n + 1, σ, v1, v2 =>
    (if v2 < 0 then
    (some ((rI (-4)), σ))
  else
    ((rq_wr σ 29 180 (rI 179) v2).bind fun σ3 =>
    ((fX7_nightOn σ3 (rI 144)).bind fun σ4 =>
    ((fX7_minutesOf σ4 v1).bind fun x5 =>
    (if x5 ≤ 0 then
    (fX7_dry_21 n σ4 v1 (v2 + (rI (-1))))
  else
    (some (v2, σ4)))))))
set_option maxRecDepth 100000 in
theorem rX7_dry_21 {E : rp_E}  : ∀ (n : Nat) (σ : rp_S) (v1 : Int32) (v2 : Int32), rp_R E (rp_mK E rmX7_dry) mX7_dry 21 [some (.ref (E.2.2.2.1 28)), some (.int v1), some (.int v2)] [] σ rp_hI (fX7_dry_21 n σ v1 v2) := by
  intro n
  induction n with
  | zero =>
    intro σ v1 v2
    rw [fX7_dry_21]
    exact rp_none
  | succ n ih =>
    intro σ v1 v2
    rw [fX7_dry_21]
    refine rp_iload_n (x := v2) dX7_dry_21 rfl ?_
    refine rp_if_lt (tgt := 57) dX7_dry_22 (by decide) ?_ ?_
    · refine rp_bipush dX7_dry_57 (by decide) ?_
      exact rp_iret rfl rfl dX7_dry_59
    · refine rp_aload_n (x := (E.2.2.2.1 28)) dX7_dry_25 rfl ?_
      refine rp_getR (k := 0) (b := 29) sh28 rfl fdX7_7 dX7_dry_26 ?_
      refine rp_sipush dX7_dry_29 (by decide) ?_
      refine rp_iload_n (x := v2) dX7_dry_32 rfl ?_
      refine rp_iastore sh29 dX7_dry_33 (fun σ3 => ?_)
      refine rp_aload_n (x := (E.2.2.2.1 28)) dX7_dry_34 rfl ?_
      refine rp_sipush dX7_dry_35 (by decide) ?_
      refine rp_callV_hv (As := [.int (rI 144)]) (rest := []) (b := (E.2.2.2.1 28)) (rX7_nightOn σ3 (rI 144)) cbX7_nightOn lkX7_165 viX7_nightOn (rp_rcO sh28 rfl) rfl (Nat.le_of_ble_eq_true rfl) ⟨rfl, rfl, ⟨Nat.le_of_ble_eq_true rfl, Nat.le_of_ble_eq_true rfl⟩, Nat.zero_le _, Nat.zero_le _⟩ rfl (Nat.le_of_ble_eq_true rfl) dX7_dry_38 (fun σ4 hσ4 => ?_)
      refine rp_aload_n (x := (E.2.2.2.1 28)) dX7_dry_41 rfl ?_
      refine rp_iload_n (x := v1) dX7_dry_42 rfl ?_
      refine rp_callV_hi (As := [.int v1]) (rest := []) (b := (E.2.2.2.1 28)) (rX7_minutesOf σ4 v1) cbX7_minutesOf lkX7_183 viX7_minutesOf (rp_rcO sh28 rfl) rfl (Nat.le_of_ble_eq_true rfl) ⟨rfl, rfl, ⟨Nat.le_of_ble_eq_true rfl, Nat.le_of_ble_eq_true rfl⟩, Nat.zero_le _, Nat.zero_le _⟩ rfl (Nat.le_of_ble_eq_true rfl) dX7_dry_43 (fun x5 hx5 => ?_)
      refine rp_if_le (tgt := 51) dX7_dry_46 (by decide) ?_ ?_
      · refine rp_iinc (x := v2) dX7_dry_51 rfl (by decide) rfl ?_
        refine rp_goto (tgt := 21) dX7_dry_54 (by decide) ?_
        refine rp_mask [true, true, true] (vs2 := [some (.ref (E.2.2.2.1 28)), some (.int v1), some (.int (v2 + (rI (-1))))]) rfl rfl ?_
        exact ih σ4 v1 (v2 + (rI (-1)))
      · refine rp_iload_n (x := v2) dX7_dry_49 rfl ?_
        exact rp_iret rfl rfl dX7_dry_50
def fX7_dry (σ : rp_S) (v1 : Int32) : Option (Int32 × rp_S) :=
  ((fX7_isReader σ v1).bind fun x1 =>
    (if x1 = 0 then
    (some ((rI (-1)), σ))
  else
    ((fX7_copies σ (rI 0) (rI 144)).bind fun σ2 =>
    (fX7_dry_21 1000 σ2 v1 (rI 9)))))
set_option maxRecDepth 100000 in
theorem rX7_dry {E : rp_E} (σ : rp_S) (v1 : Int32)   : rp_R E (rp_mK E rmX7_dry) mX7_dry 0 [some (.ref (E.2.2.2.1 28)), some (.int v1), none] [] σ rp_hI (fX7_dry σ v1) := by
  rw [fX7_dry]
  refine rp_aload_n (x := (E.2.2.2.1 28)) dX7_dry_0 rfl ?_
  refine rp_iload_n (x := v1) dX7_dry_1 rfl ?_
  refine rp_callV_hi (As := [.int v1]) (rest := []) (b := (E.2.2.2.1 28)) (rX7_isReader σ v1) cbX7_isReader lkX7_178 viX7_isReader (rp_rcO sh28 rfl) rfl (Nat.le_of_ble_eq_true rfl) ⟨rfl, rfl, ⟨Nat.le_of_ble_eq_true rfl, Nat.le_of_ble_eq_true rfl⟩, Nat.zero_le _, Nat.zero_le _⟩ rfl (Nat.le_of_ble_eq_true rfl) dX7_dry_2 (fun x1 hx1 => ?_)
  refine rp_if_ne (tgt := 10) dX7_dry_5 (by decide) ?_ ?_
  · refine rp_aload_n (x := (E.2.2.2.1 28)) dX7_dry_10 rfl ?_
    refine rp_iconst dX7_dry_11 ?_
    refine rp_sipush dX7_dry_12 (by decide) ?_
    refine rp_callV_hv (As := [.int (rI 0), .int (rI 144)]) (rest := []) (b := (E.2.2.2.1 28)) (rX7_copies σ (rI 0) (rI 144)) cbX7_copies lkX7_209 viX7_copies (rp_rcO sh28 rfl) rfl (Nat.le_of_ble_eq_true rfl) ⟨rfl, rfl, ⟨Nat.le_of_ble_eq_true rfl, Nat.le_of_ble_eq_true rfl⟩, Nat.zero_le _, Nat.zero_le _⟩ rfl (Nat.le_of_ble_eq_true rfl) dX7_dry_15 (fun σ2 hσ2 => ?_)
    refine rp_bipush dX7_dry_18 (by decide) ?_
    refine rp_istore_n dX7_dry_20 (by decide) rfl ?_
    refine rp_mask [true, true, true] (vs2 := [some (.ref (E.2.2.2.1 28)), some (.int v1), some (.int (rI 9))]) rfl rfl ?_
    exact rX7_dry_21 1000 σ2 v1 (rI 9)
  · refine rp_iconst dX7_dry_8 ?_
    exact rp_iret rfl rfl dX7_dry_9
/-! RocketPrint$Show.minutesByAll(I)I -/
abbrev rmX3_minutesByAll : Room := { frames := 4, cells := 0, slots := 0, locals := 96 }
def fX3_minutesByAll_4 (σ : rp_S) : Nat → Int32 → Int32 → Int32 → Option (Int32)
  | 0, _, _, _ => none
  | n + 1, v1, v2, v3 =>
    (if (σ 5 3) ≤ v3 then
    (some v2)
  else
    ((fX3_minutesAt σ v3 v1).bind fun x1 =>
    (fX3_minutesByAll_4 σ n v1 (v2 + x1) (v3 + (rI 1)))))
set_option maxRecDepth 100000 in
theorem rX3_minutesByAll_4 {E : rp_E} (σ : rp_S) : ∀ (n : Nat) (v1 : Int32) (v2 : Int32) (v3 : Int32), rp_R E (rp_mK E rmX3_minutesByAll) mX3_minutesByAll 4 [some (.ref (E.2.2.2.1 4)), some (.int v1), some (.int v2), some (.int v3)] [] σ (rp_hi σ) (fX3_minutesByAll_4 σ n v1 v2 v3) := by
  intro n
  induction n with
  | zero =>
    intro v1 v2 v3
    rw [fX3_minutesByAll_4]
    exact rp_none
  | succ n ih =>
    intro v1 v2 v3
    rw [fX3_minutesByAll_4]
    refine rp_iload_n (x := v3) dX3_minutesByAll_4 rfl ?_
    refine rp_aload_n (x := (E.2.2.2.1 4)) dX3_minutesByAll_5 rfl ?_
    refine rp_getR (k := 0) (b := 5) sh4 rfl fdX3_12 dX3_minutesByAll_6 ?_
    refine rp_getI (k := 3) sh5 rfl fdX3_78 dX3_minutesByAll_9 ?_
    refine rp_icmp_ge (tgt := 30) dX3_minutesByAll_12 (by decide) ?_ ?_
    · refine rp_iload_n (x := v2) dX3_minutesByAll_30 rfl ?_
      exact rp_iret rfl rfl dX3_minutesByAll_31
    · refine rp_iload_n (x := v2) dX3_minutesByAll_15 rfl ?_
      refine rp_aload_n (x := (E.2.2.2.1 4)) dX3_minutesByAll_16 rfl ?_
      refine rp_iload_n (x := v3) dX3_minutesByAll_17 rfl ?_
      refine rp_iload_n (x := v1) dX3_minutesByAll_18 rfl ?_
      refine rp_callV_hi (As := [.int v3, .int v1]) (rest := [.int v2]) (b := (E.2.2.2.1 4)) (rX3_minutesAt σ v3 v1) cbX3_minutesAt lkX3_90 viX3_minutesAt (rp_rcO sh4 rfl) rfl (Nat.le_of_ble_eq_true rfl) ⟨rfl, rfl, ⟨Nat.le_of_ble_eq_true rfl, Nat.le_of_ble_eq_true rfl⟩, Nat.zero_le _, Nat.zero_le _⟩ rfl (Nat.le_of_ble_eq_true rfl) dX3_minutesByAll_19 (fun x1 hx1 => ?_)
      refine rp_iadd dX3_minutesByAll_22 ?_
      refine rp_istore_n dX3_minutesByAll_23 (by decide) rfl ?_
      refine rp_iinc (x := v3) dX3_minutesByAll_24 rfl (by decide) rfl ?_
      refine rp_goto (tgt := 4) dX3_minutesByAll_27 (by decide) ?_
      refine rp_mask [true, true, true, true] (vs2 := [some (.ref (E.2.2.2.1 4)), some (.int v1), some (.int (v2 + x1)), some (.int (v3 + (rI 1)))]) rfl rfl ?_
      exact ih v1 (v2 + x1) (v3 + (rI 1))
def fX3_minutesByAll (σ : rp_S) (v1 : Int32) : Option (Int32) :=
  (fX3_minutesByAll_4 σ 1000 v1 (rI 0) (rI 0))
set_option maxRecDepth 100000 in
theorem rX3_minutesByAll {E : rp_E} (σ : rp_S) (v1 : Int32)   : rp_R E (rp_mK E rmX3_minutesByAll) mX3_minutesByAll 0 [some (.ref (E.2.2.2.1 4)), some (.int v1), none, none] [] σ (rp_hi σ) (fX3_minutesByAll σ v1) := by
  rw [fX3_minutesByAll]
  refine rp_iconst dX3_minutesByAll_0 ?_
  refine rp_istore_n dX3_minutesByAll_1 (by decide) rfl ?_
  refine rp_iconst dX3_minutesByAll_2 ?_
  refine rp_istore_n dX3_minutesByAll_3 (by decide) rfl ?_
  refine rp_mask [true, true, true, true] (vs2 := [some (.ref (E.2.2.2.1 4)), some (.int v1), some (.int (rI 0)), some (.int (rI 0))]) rfl rfl ?_
  exact rX3_minutesByAll_4 σ 1000 v1 (rI 0) (rI 0)
/-! RocketPrint.kind(II)I -/
abbrev rmX6_kind : Room := { frames := 5, cells := 0, slots := 0, locals := 119 }
def fX6_kind_43  : Nat → rp_S → Int32 → Int32 → Int32 → Option (Int32 × rp_S)
  | 0, _, _, _, _ => none
  | n + 1, σ, v1, v2, v3 =>
    (if (rI 4) ≤ v3 then
    ((fX0_answer σ v2).bind fun x5 =>
    (some (x5, σ)))
  else
    ((fX1_setWork σ 5 v1 (rI 0) v3).bind fun σ6 =>
    ((fX3_settle σ6).bind fun σ7 =>
    ((fX3_minutesByAll σ7 v1).bind fun x8 =>
    ((fX0_offer σ7 v3 x8).bind fun σ9 =>
    (fX6_kind_43 n σ9 v1 v2 (v3 + (rI 1))))))))
set_option maxRecDepth 100000 in
theorem rX6_kind_43 {E : rp_E}  : ∀ (n : Nat) (σ : rp_S) (v1 : Int32) (v2 : Int32) (v3 : Int32), rp_R E (rp_mK E rmX6_kind) mX6_kind 43 [some (.ref (E.2.2.2.1 0)), some (.int v1), some (.int v2), some (.int v3)] [] σ rp_hI (fX6_kind_43 n σ v1 v2 v3) := by
  intro n
  induction n with
  | zero =>
    intro σ v1 v2 v3
    rw [fX6_kind_43]
    exact rp_none
  | succ n ih =>
    intro σ v1 v2 v3
    rw [fX6_kind_43]
    refine rp_iload_n (x := v3) dX6_kind_43 rfl ?_
    refine rp_iconst dX6_kind_44 ?_
    refine rp_icmp_ge (tgt := 90) dX6_kind_45 (by decide) ?_ ?_
    · refine rp_aload_n (x := (E.2.2.2.1 0)) dX6_kind_90 rfl ?_
      refine rp_getR (k := 2) (b := 12) sh0 rfl fdX6_26 dX6_kind_91 ?_
      refine rp_iload_n (x := v2) dX6_kind_94 rfl ?_
      refine rp_callV_hi (As := [.int v2]) (rest := []) (b := (E.2.2.2.1 12)) (rX0_answer σ v2) cbX0_answer lkX6_194 viX0_answer (rp_rcO sh12 rfl) rfl (Nat.le_of_ble_eq_true rfl) ⟨rfl, rfl, ⟨Nat.le_of_ble_eq_true rfl, Nat.le_of_ble_eq_true rfl⟩, Nat.zero_le _, Nat.zero_le _⟩ rfl (Nat.le_of_ble_eq_true rfl) dX6_kind_95 (fun x5 hx5 => ?_)
      exact rp_iret rfl rfl dX6_kind_98
    · refine rp_aload_n (x := (E.2.2.2.1 0)) dX6_kind_48 rfl ?_
      refine rp_getR (k := 1) (b := 4) sh0 rfl fdX6_19 dX6_kind_49 ?_
      refine rp_getR (k := 0) (b := 5) sh4 rfl fdX6_69 dX6_kind_52 ?_
      refine rp_iload_n (x := v1) dX6_kind_55 rfl ?_
      refine rp_iconst dX6_kind_56 ?_
      refine rp_iload_n (x := v3) dX6_kind_57 rfl ?_
      refine rp_callV_hv (As := [.int v1, .int (rI 0), .int v3]) (rest := []) (b := (E.2.2.2.1 5)) (rX1_setWork σ 5 v1 (rI 0) v3 ni5) cbX1_setWork lkX6_163 viX1_setWork (rp_rcO sh5 rfl) rfl (Nat.le_of_ble_eq_true rfl) ⟨rfl, rfl, ⟨Nat.le_of_ble_eq_true rfl, Nat.le_of_ble_eq_true rfl⟩, Nat.zero_le _, Nat.zero_le _⟩ rfl (Nat.le_of_ble_eq_true rfl) dX6_kind_58 (fun σ6 hσ6 => ?_)
      refine rp_aload_n (x := (E.2.2.2.1 0)) dX6_kind_61 rfl ?_
      refine rp_getR (k := 1) (b := 4) sh0 rfl fdX6_19 dX6_kind_62 ?_
      refine rp_callV_hv (As := []) (rest := []) (b := (E.2.2.2.1 4)) (rX3_settle σ6) cbX3_settle lkX6_201 viX3_settle (rp_rcO sh4 rfl) rfl (Nat.le_of_ble_eq_true rfl) ⟨rfl, rfl, ⟨Nat.le_of_ble_eq_true rfl, Nat.le_of_ble_eq_true rfl⟩, Nat.zero_le _, Nat.zero_le _⟩ rfl (Nat.le_of_ble_eq_true rfl) dX6_kind_65 (fun σ7 hσ7 => ?_)
      refine rp_aload_n (x := (E.2.2.2.1 0)) dX6_kind_68 rfl ?_
      refine rp_getR (k := 2) (b := 12) sh0 rfl fdX6_26 dX6_kind_69 ?_
      refine rp_iload_n (x := v3) dX6_kind_72 rfl ?_
      refine rp_aload_n (x := (E.2.2.2.1 0)) dX6_kind_73 rfl ?_
      refine rp_getR (k := 1) (b := 4) sh0 rfl fdX6_19 dX6_kind_74 ?_
      refine rp_iload_n (x := v1) dX6_kind_77 rfl ?_
      refine rp_callV_hi (As := [.int v1]) (rest := [.int v3, .ref (E.2.2.2.1 12)]) (b := (E.2.2.2.1 4)) (rX3_minutesByAll σ7 v1) cbX3_minutesByAll lkX6_221 viX3_minutesByAll (rp_rcO sh4 rfl) rfl (Nat.le_of_ble_eq_true rfl) ⟨rfl, rfl, ⟨Nat.le_of_ble_eq_true rfl, Nat.le_of_ble_eq_true rfl⟩, Nat.zero_le _, Nat.zero_le _⟩ rfl (Nat.le_of_ble_eq_true rfl) dX6_kind_78 (fun x8 hx8 => ?_)
      refine rp_callV_hv (As := [.int v3, .int x8]) (rest := []) (b := (E.2.2.2.1 12)) (rX0_offer σ7 v3 x8) cbX0_offer lkX6_190 viX0_offer (rp_rcO sh12 rfl) rfl (Nat.le_of_ble_eq_true rfl) ⟨rfl, rfl, ⟨Nat.le_of_ble_eq_true rfl, Nat.le_of_ble_eq_true rfl⟩, Nat.zero_le _, Nat.zero_le _⟩ rfl (Nat.le_of_ble_eq_true rfl) dX6_kind_81 (fun σ9 hσ9 => ?_)
      refine rp_iinc (x := v3) dX6_kind_84 rfl (by decide) rfl ?_
      refine rp_goto (tgt := 43) dX6_kind_87 (by decide) ?_
      refine rp_mask [true, true, true, true] (vs2 := [some (.ref (E.2.2.2.1 0)), some (.int v1), some (.int v2), some (.int (v3 + (rI 1)))]) rfl rfl ?_
      exact ih σ9 v1 v2 (v3 + (rI 1))
def fX6_kind (σ : rp_S) (v1 : Int32) (v2 : Int32) : Option (Int32 × rp_S) :=
  ((fX1_hasWork σ 1 v1).bind fun x1 =>
    (if x1 = 0 then
    (some ((rI (-1)), σ))
  else
    ((fX6_within v2 (rI 0) (rI 1)).bind fun x2 =>
    (if x2 = 0 then
    (some ((rI (-1)), σ))
  else
    ((fX3_begin σ 1).bind fun σ3 =>
    ((fX0_beginAbove σ3 (rI (-1))).bind fun σ4 =>
    (fX6_kind_43 1000 σ4 v1 v2 (rI 0))))))))
set_option maxRecDepth 100000 in
theorem rX6_kind {E : rp_E} (σ : rp_S) (v1 : Int32) (v2 : Int32)   : rp_R E (rp_mK E rmX6_kind) mX6_kind 0 [some (.ref (E.2.2.2.1 0)), some (.int v1), some (.int v2), none] [] σ rp_hI (fX6_kind σ v1 v2) := by
  rw [fX6_kind]
  refine rp_aload_n (x := (E.2.2.2.1 0)) dX6_kind_0 rfl ?_
  refine rp_getR (k := 0) (b := 1) sh0 rfl fdX6_10 dX6_kind_1 ?_
  refine rp_iload_n (x := v1) dX6_kind_4 rfl ?_
  refine rp_callV_hi (As := [.int v1]) (rest := []) (b := (E.2.2.2.1 1)) (rX1_hasWork σ 1 v1 ni1) cbX1_hasWork lkX6_114 viX1_hasWork (rp_rcO sh1 rfl) rfl (Nat.le_of_ble_eq_true rfl) ⟨rfl, rfl, ⟨Nat.le_of_ble_eq_true rfl, Nat.le_of_ble_eq_true rfl⟩, Nat.zero_le _, Nat.zero_le _⟩ rfl (Nat.le_of_ble_eq_true rfl) dX6_kind_5 (fun x1 hx1 => ?_)
  refine rp_if_eq (tgt := 20) dX6_kind_8 (by decide) ?_ ?_
  · refine rp_iconst dX6_kind_20 ?_
    exact rp_iret rfl rfl dX6_kind_21
  · refine rp_iload_n (x := v2) dX6_kind_11 rfl ?_
    refine rp_iconst dX6_kind_12 ?_
    refine rp_iconst dX6_kind_13 ?_
    refine rp_callS_hi (As := [.int v2, .int (rI 0), .int (rI 1)]) (rest := []) (rX6_within σ v2 (rI 0) (rI 1)) cbX6_within lkX6_57 stX6_within rfl (Nat.le_of_ble_eq_true rfl) ⟨rfl, rfl, ⟨Nat.le_of_ble_eq_true rfl, Nat.le_of_ble_eq_true rfl⟩, Nat.zero_le _, Nat.zero_le _⟩ rfl (Nat.le_of_ble_eq_true rfl) dX6_kind_14 (fun x2 hx2 => ?_)
    refine rp_if_ne (tgt := 22) dX6_kind_17 (by decide) ?_ ?_
    · refine rp_aload_n (x := (E.2.2.2.1 0)) dX6_kind_22 rfl ?_
      refine rp_getR (k := 1) (b := 4) sh0 rfl fdX6_19 dX6_kind_23 ?_
      refine rp_aload_n (x := (E.2.2.2.1 0)) dX6_kind_26 rfl ?_
      refine rp_getR (k := 0) (b := 1) sh0 rfl fdX6_10 dX6_kind_27 ?_
      refine rp_callV_hv (As := [.ref (E.2.2.2.1 1)]) (rest := []) (b := (E.2.2.2.1 4)) (rX3_begin σ 1 ni1) cbX3_begin lkX6_104 viX3_begin (rp_rcO sh4 rfl) rfl (Nat.le_of_ble_eq_true rfl) ⟨rfl, rfl, ⟨Nat.le_of_ble_eq_true rfl, Nat.le_of_ble_eq_true rfl⟩, Nat.zero_le _, Nat.zero_le _⟩ rfl (Nat.le_of_ble_eq_true rfl) dX6_kind_30 (fun σ3 hσ3 => ?_)
      refine rp_aload_n (x := (E.2.2.2.1 0)) dX6_kind_33 rfl ?_
      refine rp_getR (k := 2) (b := 12) sh0 rfl fdX6_26 dX6_kind_34 ?_
      refine rp_iconst dX6_kind_37 ?_
      refine rp_callV_hv (As := [.int (rI (-1))]) (rest := []) (b := (E.2.2.2.1 12)) (rX0_beginAbove σ3 (rI (-1))) cbX0_beginAbove lkX6_183 viX0_beginAbove (rp_rcO sh12 rfl) rfl (Nat.le_of_ble_eq_true rfl) ⟨rfl, rfl, ⟨Nat.le_of_ble_eq_true rfl, Nat.le_of_ble_eq_true rfl⟩, Nat.zero_le _, Nat.zero_le _⟩ rfl (Nat.le_of_ble_eq_true rfl) dX6_kind_38 (fun σ4 hσ4 => ?_)
      refine rp_iconst dX6_kind_41 ?_
      refine rp_istore_n dX6_kind_42 (by decide) rfl ?_
      refine rp_mask [true, true, true, true] (vs2 := [some (.ref (E.2.2.2.1 0)), some (.int v1), some (.int v2), some (.int (rI 0))]) rfl rfl ?_
      exact rX6_kind_43 1000 σ4 v1 v2 (rI 0)
    · refine rp_iconst dX6_kind_20 ?_
      exact rp_iret rfl rfl dX6_kind_21
/-! RocketPrintModel.kind(II)I -/
abbrev rmX7_kind : Room := { frames := 4, cells := 0, slots := 0, locals := 101 }
def fX7_kind_129 (k36 : rp_S → Int32 → Int32 → Int32 → Int32 → Int32 → Option (Int32 × rp_S)) (σ : rp_S) (v1 : Int32) (v2 : Int32) (v4 : Int32) (v5 : Int32) (s0 : Int32) : Option (Int32 × rp_S) :=
  (k36 σ v1 v2 s0 v4 (v5 + (rI 1)))
set_option maxRecDepth 100000 in
theorem rX7_kind_129 {E : rp_E} (k36 : rp_S → Int32 → Int32 → Int32 → Int32 → Int32 → Option (Int32 × rp_S)) (hk36 : ∀ (σ : rp_S) (v1 : Int32) (v2 : Int32) (v3 : Int32) (v4 : Int32) (v5 : Int32), rp_R E (rp_mK E rmX7_kind) mX7_kind 36 [some (.ref (E.2.2.2.1 28)), some (.int v1), some (.int v2), some (.int v3), some (.int v4), some (.int v5), none, none] [] σ rp_hI (k36 σ v1 v2 v3 v4 v5)) (σ : rp_S) (v1 : Int32) (v2 : Int32) (v4 : Int32) (v5 : Int32) (s0 : Int32) : rp_R E (rp_mK E rmX7_kind) mX7_kind 129 [some (.ref (E.2.2.2.1 28)), some (.int v1), some (.int v2), none, some (.int v4), some (.int v5), none, none] [.int s0] σ rp_hI (fX7_kind_129 k36 σ v1 v2 v4 v5 s0) := by
  rw [fX7_kind_129]
  refine rp_istore_n dX7_kind_129 (by decide) rfl ?_
  refine rp_iinc (x := v5) dX7_kind_130 rfl (by decide) rfl ?_
  refine rp_goto (tgt := 36) dX7_kind_133 (by decide) ?_
  refine rp_mask [true, true, true, true, true, true, false, false] (vs2 := [some (.ref (E.2.2.2.1 28)), some (.int v1), some (.int v2), some (.int s0), some (.int v4), some (.int (v5 + (rI 1))), none, none]) rfl rfl ?_
  exact hk36 σ v1 v2 s0 v4 (v5 + (rI 1))
def fX7_kind_115 (k36 : rp_S → Int32 → Int32 → Int32 → Int32 → Int32 → Option (Int32 × rp_S)) (σ : rp_S) (v1 : Int32) (v2 : Int32) (v3 : Int32) (v5 : Int32) (v6 : Int32) (s0 : Int32) : Option (Int32 × rp_S) :=
  (if v6 ≤ v3 then
    (fX7_kind_129 k36 σ v1 v2 s0 v5 v3)
  else
    (fX7_kind_129 k36 σ v1 v2 s0 v5 v6))
set_option maxRecDepth 100000 in
theorem rX7_kind_115 {E : rp_E} (k36 : rp_S → Int32 → Int32 → Int32 → Int32 → Int32 → Option (Int32 × rp_S)) (hk36 : ∀ (σ : rp_S) (v1 : Int32) (v2 : Int32) (v3 : Int32) (v4 : Int32) (v5 : Int32), rp_R E (rp_mK E rmX7_kind) mX7_kind 36 [some (.ref (E.2.2.2.1 28)), some (.int v1), some (.int v2), some (.int v3), some (.int v4), some (.int v5), none, none] [] σ rp_hI (k36 σ v1 v2 v3 v4 v5)) (σ : rp_S) (v1 : Int32) (v2 : Int32) (v3 : Int32) (v5 : Int32) (v6 : Int32) (s0 : Int32) : rp_R E (rp_mK E rmX7_kind) mX7_kind 115 [some (.ref (E.2.2.2.1 28)), some (.int v1), some (.int v2), some (.int v3), none, some (.int v5), some (.int v6), none] [.int s0] σ rp_hI (fX7_kind_115 k36 σ v1 v2 v3 v5 v6 s0) := by
  rw [fX7_kind_115]
  refine rp_istore dX7_kind_115 (by decide) rfl ?_
  refine rp_iload (x := v6) dX7_kind_117 rfl ?_
  refine rp_iload_n (x := v3) dX7_kind_119 rfl ?_
  refine rp_icmp_le (tgt := 128) dX7_kind_120 (by decide) ?_ ?_
  · refine rp_iload_n (x := v3) dX7_kind_128 rfl ?_
    refine rp_mask [true, true, true, false, true, true, false, false] (vs2 := [some (.ref (E.2.2.2.1 28)), some (.int v1), some (.int v2), none, some (.int s0), some (.int v5), none, none]) rfl rfl ?_
    exact rX7_kind_129 k36 hk36 σ v1 v2 s0 v5 v3
  · refine rp_iload (x := v6) dX7_kind_123 rfl ?_
    refine rp_goto (tgt := 129) dX7_kind_125 (by decide) ?_
    refine rp_mask [true, true, true, false, true, true, false, false] (vs2 := [some (.ref (E.2.2.2.1 28)), some (.int v1), some (.int v2), none, some (.int s0), some (.int v5), none, none]) rfl rfl ?_
    exact rX7_kind_129 k36 hk36 σ v1 v2 s0 v5 v6
def fX7_kind_67 (k36 : rp_S → Int32 → Int32 → Int32 → Int32 → Int32 → Option (Int32 × rp_S)) : Nat → rp_S → Int32 → Int32 → Int32 → Int32 → Int32 → Int32 → Int32 → Option (Int32 × rp_S)
  | 0, _, _, _, _, _, _, _, _ => none
  | n + 1, σ, v1, v2, v3, v4, v5, v6, v7 =>
    ((rq_rd σ 29 180 (rI 33)).bind fun x6 =>
    (if x6 ≤ v7 then
    (if v6 ≤ v3 then
    (fX7_kind_115 k36 σ v1 v2 v3 v5 v6 v4)
  else
    (fX7_kind_115 k36 σ v1 v2 v3 v5 v6 v5))
  else
    ((rq_rd σ 34 24 (((rI 6) * v7) + v1)).bind fun x7 =>
    (fX7_kind_67 k36 n σ v1 v2 v3 v4 v5 (v6 + x7) (v7 + (rI 1))))))
set_option maxRecDepth 100000 in
theorem rX7_kind_67 {E : rp_E} (k36 : rp_S → Int32 → Int32 → Int32 → Int32 → Int32 → Option (Int32 × rp_S)) (hk36 : ∀ (σ : rp_S) (v1 : Int32) (v2 : Int32) (v3 : Int32) (v4 : Int32) (v5 : Int32), rp_R E (rp_mK E rmX7_kind) mX7_kind 36 [some (.ref (E.2.2.2.1 28)), some (.int v1), some (.int v2), some (.int v3), some (.int v4), some (.int v5), none, none] [] σ rp_hI (k36 σ v1 v2 v3 v4 v5)) : ∀ (n : Nat) (σ : rp_S) (v1 : Int32) (v2 : Int32) (v3 : Int32) (v4 : Int32) (v5 : Int32) (v6 : Int32) (v7 : Int32), rp_R E (rp_mK E rmX7_kind) mX7_kind 67 [some (.ref (E.2.2.2.1 28)), some (.int v1), some (.int v2), some (.int v3), some (.int v4), some (.int v5), some (.int v6), some (.int v7)] [] σ rp_hI (fX7_kind_67 k36 n σ v1 v2 v3 v4 v5 v6 v7) := by
  intro n
  induction n with
  | zero =>
    intro σ v1 v2 v3 v4 v5 v6 v7
    rw [fX7_kind_67]
    exact rp_none
  | succ n ih =>
    intro σ v1 v2 v3 v4 v5 v6 v7
    rw [fX7_kind_67]
    refine rp_iload (x := v7) dX7_kind_67 rfl ?_
    refine rp_aload_n (x := (E.2.2.2.1 28)) dX7_kind_69 rfl ?_
    refine rp_getR (k := 0) (b := 29) sh28 rfl fdX7_7 dX7_kind_70 ?_
    refine rp_bipush dX7_kind_73 (by decide) ?_
    refine rp_iaload sh29 dX7_kind_75 (fun x6 => ?_)
    refine rp_icmp_ge (tgt := 102) dX7_kind_76 (by decide) ?_ ?_
    · refine rp_iload (x := v6) dX7_kind_102 rfl ?_
      refine rp_iload_n (x := v3) dX7_kind_104 rfl ?_
      refine rp_icmp_le (tgt := 113) dX7_kind_105 (by decide) ?_ ?_
      · refine rp_iload (x := v4) dX7_kind_113 rfl ?_
        refine rp_mask [true, true, true, true, false, true, true, false] (vs2 := [some (.ref (E.2.2.2.1 28)), some (.int v1), some (.int v2), some (.int v3), none, some (.int v5), some (.int v6), none]) rfl rfl ?_
        exact rX7_kind_115 k36 hk36 σ v1 v2 v3 v5 v6 v4
      · refine rp_iload (x := v5) dX7_kind_108 rfl ?_
        refine rp_goto (tgt := 115) dX7_kind_110 (by decide) ?_
        refine rp_mask [true, true, true, true, false, true, true, false] (vs2 := [some (.ref (E.2.2.2.1 28)), some (.int v1), some (.int v2), some (.int v3), none, some (.int v5), some (.int v6), none]) rfl rfl ?_
        exact rX7_kind_115 k36 hk36 σ v1 v2 v3 v5 v6 v5
    · refine rp_iload (x := v6) dX7_kind_79 rfl ?_
      refine rp_aload_n (x := (E.2.2.2.1 28)) dX7_kind_81 rfl ?_
      refine rp_getR (k := 15) (b := 34) sh28 rfl fdX7_25 dX7_kind_82 ?_
      refine rp_bipush dX7_kind_85 (by decide) ?_
      refine rp_iload (x := v7) dX7_kind_87 rfl ?_
      refine rp_imul dX7_kind_89 ?_
      refine rp_iload_n (x := v1) dX7_kind_90 rfl ?_
      refine rp_iadd dX7_kind_91 ?_
      refine rp_iaload sh34 dX7_kind_92 (fun x7 => ?_)
      refine rp_iadd dX7_kind_93 ?_
      refine rp_istore dX7_kind_94 (by decide) rfl ?_
      refine rp_iinc (x := v7) dX7_kind_96 rfl (by decide) rfl ?_
      refine rp_goto (tgt := 67) dX7_kind_99 (by decide) ?_
      refine rp_mask [true, true, true, true, true, true, true, true] (vs2 := [some (.ref (E.2.2.2.1 28)), some (.int v1), some (.int v2), some (.int v3), some (.int v4), some (.int v5), some (.int (v6 + x7)), some (.int (v7 + (rI 1)))]) rfl rfl ?_
      exact ih σ v1 v2 v3 v4 v5 (v6 + x7) (v7 + (rI 1))
def fX7_kind_36  : Nat → rp_S → Int32 → Int32 → Int32 → Int32 → Int32 → Option (Int32 × rp_S)
  | 0, _, _, _, _, _, _ => none
  | n + 1, σ, v1, v2, v3, v4, v5 =>
    (if (rI 4) ≤ v5 then
    (if v2 = 0 then
    (some (v4, σ))
  else
    (some (v3, σ)))
  else
    ((rq_wr σ 29 180 ((rI 144) + v1) v5).bind fun σ4 =>
    ((fX7_nightOn σ4 (rI 144)).bind fun σ5 =>
    (fX7_kind_67 (fun σ v1 v2 v3 v4 v5 => fX7_kind_36 n σ v1 v2 v3 v4 v5) 1000 σ5 v1 v2 v3 v4 v5 (rI 0) (rI 0)))))
set_option maxRecDepth 100000 in
theorem rX7_kind_36 {E : rp_E}  : ∀ (n : Nat) (σ : rp_S) (v1 : Int32) (v2 : Int32) (v3 : Int32) (v4 : Int32) (v5 : Int32), rp_R E (rp_mK E rmX7_kind) mX7_kind 36 [some (.ref (E.2.2.2.1 28)), some (.int v1), some (.int v2), some (.int v3), some (.int v4), some (.int v5), none, none] [] σ rp_hI (fX7_kind_36 n σ v1 v2 v3 v4 v5) := by
  intro n
  induction n with
  | zero =>
    intro σ v1 v2 v3 v4 v5
    rw [fX7_kind_36]
    exact rp_none
  | succ n ih =>
    intro σ v1 v2 v3 v4 v5
    rw [fX7_kind_36]
    refine rp_iload (x := v5) dX7_kind_36 rfl ?_
    refine rp_iconst dX7_kind_38 ?_
    refine rp_icmp_ge (tgt := 136) dX7_kind_39 (by decide) ?_ ?_
    · refine rp_iload_n (x := v2) dX7_kind_136 rfl ?_
      refine rp_if_ne (tgt := 145) dX7_kind_137 (by decide) ?_ ?_
      · refine rp_iload_n (x := v3) dX7_kind_145 rfl ?_
        exact rp_iret rfl rfl dX7_kind_146
      · refine rp_iload (x := v4) dX7_kind_140 rfl ?_
        refine rp_goto (tgt := 146) dX7_kind_142 (by decide) ?_
        exact rp_iret rfl rfl dX7_kind_146
    · refine rp_aload_n (x := (E.2.2.2.1 28)) dX7_kind_42 rfl ?_
      refine rp_getR (k := 0) (b := 29) sh28 rfl fdX7_7 dX7_kind_43 ?_
      refine rp_sipush dX7_kind_46 (by decide) ?_
      refine rp_iload_n (x := v1) dX7_kind_49 rfl ?_
      refine rp_iadd dX7_kind_50 ?_
      refine rp_iload (x := v5) dX7_kind_51 rfl ?_
      refine rp_iastore sh29 dX7_kind_53 (fun σ4 => ?_)
      refine rp_aload_n (x := (E.2.2.2.1 28)) dX7_kind_54 rfl ?_
      refine rp_sipush dX7_kind_55 (by decide) ?_
      refine rp_callV_hv (As := [.int (rI 144)]) (rest := []) (b := (E.2.2.2.1 28)) (rX7_nightOn σ4 (rI 144)) cbX7_nightOn lkX7_165 viX7_nightOn (rp_rcO sh28 rfl) rfl (Nat.le_of_ble_eq_true rfl) ⟨rfl, rfl, ⟨Nat.le_of_ble_eq_true rfl, Nat.le_of_ble_eq_true rfl⟩, Nat.zero_le _, Nat.zero_le _⟩ rfl (Nat.le_of_ble_eq_true rfl) dX7_kind_58 (fun σ5 hσ5 => ?_)
      refine rp_iconst dX7_kind_61 ?_
      refine rp_istore dX7_kind_62 (by decide) rfl ?_
      refine rp_iconst dX7_kind_64 ?_
      refine rp_istore dX7_kind_65 (by decide) rfl ?_
      refine rp_mask [true, true, true, true, true, true, true, true] (vs2 := [some (.ref (E.2.2.2.1 28)), some (.int v1), some (.int v2), some (.int v3), some (.int v4), some (.int v5), some (.int (rI 0)), some (.int (rI 0))]) rfl rfl ?_
      exact rX7_kind_67 (fun σ v1 v2 v3 v4 v5 => fX7_kind_36 n σ v1 v2 v3 v4 v5) (fun σ v1 v2 v3 v4 v5 => ih σ v1 v2 v3 v4 v5) 1000 σ5 v1 v2 v3 v4 v5 (rI 0) (rI 0)
def fX7_kind (σ : rp_S) (v1 : Int32) (v2 : Int32) : Option (Int32 × rp_S) :=
  ((fX7_isWork σ v1).bind fun x1 =>
    (if x1 = 0 then
    (some ((rI (-1)), σ))
  else
    ((fX7_in (v2.toInt64) (rJ 0) (rJ 1)).bind fun x2 =>
    (if x2 = 0 then
    (some ((rI (-1)), σ))
  else
    ((fX7_copies σ (rI 0) (rI 144)).bind fun σ3 =>
    (fX7_kind_36 1000 σ3 v1 v2 (rI (-1)) (rI 0) (rI 0)))))))
set_option maxRecDepth 100000 in
theorem rX7_kind {E : rp_E} (σ : rp_S) (v1 : Int32) (v2 : Int32)   : rp_R E (rp_mK E rmX7_kind) mX7_kind 0 [some (.ref (E.2.2.2.1 28)), some (.int v1), some (.int v2), none, none, none, none, none] [] σ rp_hI (fX7_kind σ v1 v2) := by
  rw [fX7_kind]
  refine rp_aload_n (x := (E.2.2.2.1 28)) dX7_kind_0 rfl ?_
  refine rp_iload_n (x := v1) dX7_kind_1 rfl ?_
  refine rp_callV_hi (As := [.int v1]) (rest := []) (b := (E.2.2.2.1 28)) (rX7_isWork σ v1) cbX7_isWork lkX7_168 viX7_isWork (rp_rcO sh28 rfl) rfl (Nat.le_of_ble_eq_true rfl) ⟨rfl, rfl, ⟨Nat.le_of_ble_eq_true rfl, Nat.le_of_ble_eq_true rfl⟩, Nat.zero_le _, Nat.zero_le _⟩ rfl (Nat.le_of_ble_eq_true rfl) dX7_kind_2 (fun x1 hx1 => ?_)
  refine rp_if_eq (tgt := 18) dX7_kind_5 (by decide) ?_ ?_
  · refine rp_iconst dX7_kind_18 ?_
    exact rp_iret rfl rfl dX7_kind_19
  · refine rp_iload_n (x := v2) dX7_kind_8 rfl ?_
    refine rp_i2l dX7_kind_9 ?_
    refine rp_lconst dX7_kind_10 0 (by decide) ?_
    refine rp_lconst dX7_kind_11 1 (by decide) ?_
    refine rp_callS_hi (As := [.long (v2.toInt64), .long (rJ 0), .long (rJ 1)]) (rest := []) (rX7_in σ (v2.toInt64) (rJ 0) (rJ 1)) cbX7_in lkX7_49 stX7_in rfl (Nat.le_of_ble_eq_true rfl) ⟨rfl, rfl, ⟨Nat.le_of_ble_eq_true rfl, Nat.le_of_ble_eq_true rfl⟩, Nat.zero_le _, Nat.zero_le _⟩ rfl (Nat.le_of_ble_eq_true rfl) dX7_kind_12 (fun x2 hx2 => ?_)
    refine rp_if_ne (tgt := 20) dX7_kind_15 (by decide) ?_ ?_
    · refine rp_iconst dX7_kind_20 ?_
      refine rp_istore_n dX7_kind_21 (by decide) rfl ?_
      refine rp_iconst dX7_kind_22 ?_
      refine rp_istore dX7_kind_23 (by decide) rfl ?_
      refine rp_aload_n (x := (E.2.2.2.1 28)) dX7_kind_25 rfl ?_
      refine rp_iconst dX7_kind_26 ?_
      refine rp_sipush dX7_kind_27 (by decide) ?_
      refine rp_callV_hv (As := [.int (rI 0), .int (rI 144)]) (rest := []) (b := (E.2.2.2.1 28)) (rX7_copies σ (rI 0) (rI 144)) cbX7_copies lkX7_209 viX7_copies (rp_rcO sh28 rfl) rfl (Nat.le_of_ble_eq_true rfl) ⟨rfl, rfl, ⟨Nat.le_of_ble_eq_true rfl, Nat.le_of_ble_eq_true rfl⟩, Nat.zero_le _, Nat.zero_le _⟩ rfl (Nat.le_of_ble_eq_true rfl) dX7_kind_30 (fun σ3 hσ3 => ?_)
      refine rp_iconst dX7_kind_33 ?_
      refine rp_istore dX7_kind_34 (by decide) rfl ?_
      refine rp_mask [true, true, true, true, true, true, false, false] (vs2 := [some (.ref (E.2.2.2.1 28)), some (.int v1), some (.int v2), some (.int (rI (-1))), some (.int (rI 0)), some (.int (rI 0)), none, none]) rfl rfl ?_
      exact rX7_kind_36 1000 σ3 v1 v2 (rI (-1)) (rI 0) (rI 0)
    · refine rp_iconst dX7_kind_18 ?_
      exact rp_iret rfl rfl dX7_kind_19
/-! RocketPrint.greatestDivisor(JJ)J -/
abbrev rmX6_greatestDivisor : Room := { frames := 0, cells := 0, slots := 0, locals := 0 }
def fX6_greatestDivisor_9  : Nat → Int64 → Int64 → Int32 → Option (Int64)
  | 0, _, _, _ => none
  | n + 1, v4, v6, v8 =>
    (if (rI 100) ≤ v8 then
    (some v4)
  else
    (if (lg_cmp v6 (rJ 0)) = 0 then
    (some v4)
  else
    ((rq_lrem v4 v6).bind fun z1 =>
    (fX6_greatestDivisor_9 n v6 z1 (v8 + (rI 1))))))
set_option maxRecDepth 100000 in
theorem rX6_greatestDivisor_9 {E : rp_E} (σ : rp_S) : ∀ (n : Nat) (v4 : Int64) (v6 : Int64) (v8 : Int32), rp_R E (rp_mK E rmX6_greatestDivisor) mX6_greatestDivisor 9 [none, none, none, none, some (.long v4), none, some (.long v6), none, some (.int v8), none, none] [] σ (rp_hl σ) (fX6_greatestDivisor_9 n v4 v6 v8) := by
  intro n
  induction n with
  | zero =>
    intro v4 v6 v8
    rw [fX6_greatestDivisor_9]
    exact rp_none
  | succ n ih =>
    intro v4 v6 v8
    rw [fX6_greatestDivisor_9]
    refine rp_iload (x := v8) dX6_greatestDivisor_9 rfl ?_
    refine rp_bipush dX6_greatestDivisor_11 (by decide) ?_
    refine rp_icmp_ge (tgt := 44) dX6_greatestDivisor_13 (by decide) ?_ ?_
    · refine rp_lload (x := v4) dX6_greatestDivisor_44 rfl ?_
      exact rp_lret rfl rfl dX6_greatestDivisor_46
    · refine rp_lload (x := v6) dX6_greatestDivisor_16 rfl ?_
      refine rp_lconst dX6_greatestDivisor_18 0 (by decide) ?_
      refine rp_lcmp dX6_greatestDivisor_19 ?_
      refine rp_if_eq (tgt := 44) dX6_greatestDivisor_20 (by decide) ?_ ?_
      · refine rp_lload (x := v4) dX6_greatestDivisor_44 rfl ?_
        exact rp_lret rfl rfl dX6_greatestDivisor_46
      · refine rp_lload (x := v4) dX6_greatestDivisor_23 rfl ?_
        refine rp_lload (x := v6) dX6_greatestDivisor_25 rfl ?_
        refine rp_lrem dX6_greatestDivisor_27 (fun z1 => ?_)
        refine rp_lstore dX6_greatestDivisor_28 (by decide) rfl ?_
        refine rp_lload (x := v6) dX6_greatestDivisor_30 rfl ?_
        refine rp_lstore dX6_greatestDivisor_32 (by decide) rfl ?_
        refine rp_lload (x := z1) dX6_greatestDivisor_34 rfl ?_
        refine rp_lstore dX6_greatestDivisor_36 (by decide) rfl ?_
        refine rp_iinc (x := v8) dX6_greatestDivisor_38 rfl (by decide) rfl ?_
        refine rp_goto (tgt := 9) dX6_greatestDivisor_41 (by decide) ?_
        refine rp_mask [false, false, false, false, true, false, true, false, true, false, false] (vs2 := [none, none, none, none, some (.long v6), none, some (.long z1), none, some (.int (v8 + (rI 1))), none, none]) rfl rfl ?_
        exact ih v6 z1 (v8 + (rI 1))
def fX6_greatestDivisor  (v0 : Int64) (v2 : Int64) : Option (Int64) :=
  (fX6_greatestDivisor_9 1000 v0 v2 (rI 0))
set_option maxRecDepth 100000 in
theorem rX6_greatestDivisor {E : rp_E} (σ : rp_S) (v0 : Int64) (v2 : Int64)   : rp_R E (rp_mK E rmX6_greatestDivisor) mX6_greatestDivisor 0 [some (.long v0), none, some (.long v2), none, none, none, none, none, none, none, none] [] σ (rp_hl σ) (fX6_greatestDivisor v0 v2) := by
  rw [fX6_greatestDivisor]
  refine rp_lload_n (x := v0) dX6_greatestDivisor_0 rfl ?_
  refine rp_lstore dX6_greatestDivisor_1 (by decide) rfl ?_
  refine rp_lload_n (x := v2) dX6_greatestDivisor_3 rfl ?_
  refine rp_lstore dX6_greatestDivisor_4 (by decide) rfl ?_
  refine rp_iconst dX6_greatestDivisor_6 ?_
  refine rp_istore dX6_greatestDivisor_7 (by decide) rfl ?_
  refine rp_mask [false, false, false, false, true, false, true, false, true, false, false] (vs2 := [none, none, none, none, some (.long v0), none, some (.long v2), none, some (.int (rI 0)), none, none]) rfl rfl ?_
  exact rX6_greatestDivisor_9 σ 1000 v0 v2 (rI 0)
/-! RocketPrint.partOf(JJI)J -/
abbrev rmX6_partOf : Room := { frames := 1, cells := 0, slots := 0, locals := 30 }
def fX6_partOf  (v0 : Int64) (v2 : Int64) (v4 : Int32) : Option (Int64) :=
  ((fX6_greatestDivisor v0 v2).bind fun x1 =>
    (if 0 ≤ (lg_cmp x1 (rJ 1)) then
    (if v4 = 0 then
    ((rq_ldiv v0 x1).bind fun z3 =>
    (some z3))
  else
    ((rq_ldiv v2 x1).bind fun z2 =>
    (some z2)))
  else
    (some (rJ (-1)))))
set_option maxRecDepth 100000 in
theorem rX6_partOf {E : rp_E} (σ : rp_S) (v0 : Int64) (v2 : Int64) (v4 : Int32)   : rp_R E (rp_mK E rmX6_partOf) mX6_partOf 0 [some (.long v0), none, some (.long v2), none, some (.int v4), none, none] [] σ (rp_hl σ) (fX6_partOf v0 v2 v4) := by
  rw [fX6_partOf]
  refine rp_lload_n (x := v0) dX6_partOf_0 rfl ?_
  refine rp_lload_n (x := v2) dX6_partOf_1 rfl ?_
  refine rp_callS_hl (As := [.long v0, .long v2]) (rest := []) (rX6_greatestDivisor σ v0 v2) cbX6_greatestDivisor lkX6_320 stX6_greatestDivisor rfl (Nat.le_of_ble_eq_true rfl) ⟨rfl, rfl, ⟨Nat.le_of_ble_eq_true rfl, Nat.le_of_ble_eq_true rfl⟩, Nat.zero_le _, Nat.zero_le _⟩ rfl (Nat.le_of_ble_eq_true rfl) dX6_partOf_2 (fun x1 hx1 => ?_)
  refine rp_lstore dX6_partOf_5 (by decide) rfl ?_
  refine rp_lload (x := x1) dX6_partOf_7 rfl ?_
  refine rp_lconst dX6_partOf_9 1 (by decide) ?_
  refine rp_lcmp dX6_partOf_10 ?_
  refine rp_if_ge (tgt := 18) dX6_partOf_11 (by decide) ?_ ?_
  · refine rp_iload (x := v4) dX6_partOf_18 rfl ?_
    refine rp_if_ne (tgt := 30) dX6_partOf_20 (by decide) ?_ ?_
    · refine rp_lload_n (x := v2) dX6_partOf_30 rfl ?_
      refine rp_lload (x := x1) dX6_partOf_31 rfl ?_
      refine rp_ldiv dX6_partOf_33 (fun z2 => ?_)
      exact rp_lret rfl rfl dX6_partOf_34
    · refine rp_lload_n (x := v0) dX6_partOf_23 rfl ?_
      refine rp_lload (x := x1) dX6_partOf_24 rfl ?_
      refine rp_ldiv dX6_partOf_26 (fun z3 => ?_)
      refine rp_goto (tgt := 34) dX6_partOf_27 (by decide) ?_
      exact rp_lret rfl rfl dX6_partOf_34
  · refine rp_ldc2 (v := (rJ (-1))) clX6_224 dX6_partOf_14 ?_
    exact rp_lret rfl rfl dX6_partOf_17
/-! RocketPrint.power(JI)J -/
abbrev rmX6_power : Room := { frames := 0, cells := 0, slots := 0, locals := 0 }
def fX6_power_5  : Nat → Int64 → Int32 → Int64 → Int32 → Option (Int64)
  | 0, _, _, _, _ => none
  | n + 1, v0, v2, v3, v5 =>
    (if v2 ≤ v5 then
    (some v3)
  else
    (fX6_power_5 n v0 v2 (v3 * v0) (v5 + (rI 1))))
set_option maxRecDepth 100000 in
theorem rX6_power_5 {E : rp_E} (σ : rp_S) : ∀ (n : Nat) (v0 : Int64) (v2 : Int32) (v3 : Int64) (v5 : Int32), rp_R E (rp_mK E rmX6_power) mX6_power 5 [some (.long v0), none, some (.int v2), some (.long v3), none, some (.int v5)] [] σ (rp_hl σ) (fX6_power_5 n v0 v2 v3 v5) := by
  intro n
  induction n with
  | zero =>
    intro v0 v2 v3 v5
    rw [fX6_power_5]
    exact rp_none
  | succ n ih =>
    intro v0 v2 v3 v5
    rw [fX6_power_5]
    refine rp_iload (x := v5) dX6_power_5 rfl ?_
    refine rp_iload_n (x := v2) dX6_power_7 rfl ?_
    refine rp_icmp_ge (tgt := 21) dX6_power_8 (by decide) ?_ ?_
    · refine rp_lload_n (x := v3) dX6_power_21 rfl ?_
      exact rp_lret rfl rfl dX6_power_22
    · refine rp_lload_n (x := v3) dX6_power_11 rfl ?_
      refine rp_lload_n (x := v0) dX6_power_12 rfl ?_
      refine rp_lmul dX6_power_13 ?_
      refine rp_lstore_n dX6_power_14 (by decide) rfl ?_
      refine rp_iinc (x := v5) dX6_power_15 rfl (by decide) rfl ?_
      refine rp_goto (tgt := 5) dX6_power_18 (by decide) ?_
      refine rp_mask [true, false, true, true, false, true] (vs2 := [some (.long v0), none, some (.int v2), some (.long (v3 * v0)), none, some (.int (v5 + (rI 1)))]) rfl rfl ?_
      exact ih v0 v2 (v3 * v0) (v5 + (rI 1))
def fX6_power  (v0 : Int64) (v2 : Int32) : Option (Int64) :=
  (fX6_power_5 1000 v0 v2 (rJ 1) (rI 0))
set_option maxRecDepth 100000 in
theorem rX6_power {E : rp_E} (σ : rp_S) (v0 : Int64) (v2 : Int32)   : rp_R E (rp_mK E rmX6_power) mX6_power 0 [some (.long v0), none, some (.int v2), none, none, none] [] σ (rp_hl σ) (fX6_power v0 v2) := by
  rw [fX6_power]
  refine rp_lconst dX6_power_0 1 (by decide) ?_
  refine rp_lstore_n dX6_power_1 (by decide) rfl ?_
  refine rp_iconst dX6_power_2 ?_
  refine rp_istore dX6_power_3 (by decide) rfl ?_
  refine rp_mask [true, false, true, true, false, true] (vs2 := [some (.long v0), none, some (.int v2), some (.long (rJ 1)), none, some (.int (rI 0))]) rfl rfl ?_
  exact rX6_power_5 σ 1000 v0 v2 (rJ 1) (rI 0)
/-! RocketPrint.luck(IIII)J -/
abbrev rmX6_luck : Room := { frames := 5, cells := 0, slots := 0, locals := 104 }
def fX6_luck_42 (σ : rp_S) : Option (Int64 × rp_S) :=
  (some ((rJ (-1)), σ))
set_option maxRecDepth 100000 in
theorem rX6_luck_42 {E : rp_E} (σ : rp_S) : rp_R E (rp_mK E rmX6_luck) mX6_luck 42 [none, none, none, none, none, none] [] σ rp_hL (fX6_luck_42 σ) := by
  rw [fX6_luck_42]
  refine rp_ldc2 (v := (rJ (-1))) clX6_224 dX6_luck_42 ?_
  exact rp_lret rfl rfl dX6_luck_45
def fX6_luck (σ : rp_S) (v1 : Int32) (v2 : Int32) (v3 : Int32) (v4 : Int32) : Option (Int64 × rp_S) :=
  ((fX6_within v1 (rI 0) (rI 10)).bind fun x1 =>
    (if x1 = 0 then
    (fX6_luck_42 σ)
  else
    ((fX1_hasReader σ 1 v2).bind fun x2 =>
    (if x2 = 0 then
    (fX6_luck_42 σ)
  else
    ((fX1_hasWork σ 1 v3).bind fun x3 =>
    (if x3 = 0 then
    (fX6_luck_42 σ)
  else
    ((fX6_within v4 (rI 0) (rI 1)).bind fun x4 =>
    (if x4 = 0 then
    (fX6_luck_42 σ)
  else
    ((fX3_begin σ 1).bind fun σ5 =>
    ((fX3_isWholeAlone σ5 v2 v3).bind fun x6 =>
    (if x6 = 0 then
    ((fX6_partOf (rJ 0) (rJ 1) v4).bind fun x11 =>
    (some (x11, σ5)))
  else
    ((fX3_rivalsOf σ5 v2 v3).bind fun x7 =>
    ((fX6_power (v1.toInt64) x7).bind fun x8 =>
    ((fX6_power (rJ 10) (x7 + (rI 1))).bind fun x9 =>
    ((fX6_partOf (((rI 10) - v1).toInt64 * x8) x9 v4).bind fun x10 =>
    (some (x10, σ5)))))))))))))))))
set_option maxRecDepth 100000 in
theorem rX6_luck {E : rp_E} (σ : rp_S) (v1 : Int32) (v2 : Int32) (v3 : Int32) (v4 : Int32)   : rp_R E (rp_mK E rmX6_luck) mX6_luck 0 [some (.ref (E.2.2.2.1 0)), some (.int v1), some (.int v2), some (.int v3), some (.int v4), none] [] σ rp_hL (fX6_luck σ v1 v2 v3 v4) := by
  rw [fX6_luck]
  refine rp_iload_n (x := v1) dX6_luck_0 rfl ?_
  refine rp_iconst dX6_luck_1 ?_
  refine rp_bipush dX6_luck_2 (by decide) ?_
  refine rp_callS_hi (As := [.int v1, .int (rI 0), .int (rI 10)]) (rest := []) (rX6_within σ v1 (rI 0) (rI 10)) cbX6_within lkX6_57 stX6_within rfl (Nat.le_of_ble_eq_true rfl) ⟨rfl, rfl, ⟨Nat.le_of_ble_eq_true rfl, Nat.le_of_ble_eq_true rfl⟩, Nat.zero_le _, Nat.zero_le _⟩ rfl (Nat.le_of_ble_eq_true rfl) dX6_luck_4 (fun x1 hx1 => ?_)
  refine rp_if_eq (tgt := 42) dX6_luck_7 (by decide) ?_ ?_
  · refine rp_mask [false, false, false, false, false, false] (vs2 := [none, none, none, none, none, none]) rfl rfl ?_
    exact rX6_luck_42 σ
  · refine rp_aload_n (x := (E.2.2.2.1 0)) dX6_luck_10 rfl ?_
    refine rp_getR (k := 0) (b := 1) sh0 rfl fdX6_10 dX6_luck_11 ?_
    refine rp_iload_n (x := v2) dX6_luck_14 rfl ?_
    refine rp_callV_hi (As := [.int v2]) (rest := []) (b := (E.2.2.2.1 1)) (rX1_hasReader σ 1 v2 ni1) cbX1_hasReader lkX6_138 viX1_hasReader (rp_rcO sh1 rfl) rfl (Nat.le_of_ble_eq_true rfl) ⟨rfl, rfl, ⟨Nat.le_of_ble_eq_true rfl, Nat.le_of_ble_eq_true rfl⟩, Nat.zero_le _, Nat.zero_le _⟩ rfl (Nat.le_of_ble_eq_true rfl) dX6_luck_15 (fun x2 hx2 => ?_)
    refine rp_if_eq (tgt := 42) dX6_luck_18 (by decide) ?_ ?_
    · refine rp_mask [false, false, false, false, false, false] (vs2 := [none, none, none, none, none, none]) rfl rfl ?_
      exact rX6_luck_42 σ
    · refine rp_aload_n (x := (E.2.2.2.1 0)) dX6_luck_21 rfl ?_
      refine rp_getR (k := 0) (b := 1) sh0 rfl fdX6_10 dX6_luck_22 ?_
      refine rp_iload_n (x := v3) dX6_luck_25 rfl ?_
      refine rp_callV_hi (As := [.int v3]) (rest := []) (b := (E.2.2.2.1 1)) (rX1_hasWork σ 1 v3 ni1) cbX1_hasWork lkX6_114 viX1_hasWork (rp_rcO sh1 rfl) rfl (Nat.le_of_ble_eq_true rfl) ⟨rfl, rfl, ⟨Nat.le_of_ble_eq_true rfl, Nat.le_of_ble_eq_true rfl⟩, Nat.zero_le _, Nat.zero_le _⟩ rfl (Nat.le_of_ble_eq_true rfl) dX6_luck_26 (fun x3 hx3 => ?_)
      refine rp_if_eq (tgt := 42) dX6_luck_29 (by decide) ?_ ?_
      · refine rp_mask [false, false, false, false, false, false] (vs2 := [none, none, none, none, none, none]) rfl rfl ?_
        exact rX6_luck_42 σ
      · refine rp_iload (x := v4) dX6_luck_32 rfl ?_
        refine rp_iconst dX6_luck_34 ?_
        refine rp_iconst dX6_luck_35 ?_
        refine rp_callS_hi (As := [.int v4, .int (rI 0), .int (rI 1)]) (rest := []) (rX6_within σ v4 (rI 0) (rI 1)) cbX6_within lkX6_57 stX6_within rfl (Nat.le_of_ble_eq_true rfl) ⟨rfl, rfl, ⟨Nat.le_of_ble_eq_true rfl, Nat.le_of_ble_eq_true rfl⟩, Nat.zero_le _, Nat.zero_le _⟩ rfl (Nat.le_of_ble_eq_true rfl) dX6_luck_36 (fun x4 hx4 => ?_)
        refine rp_if_ne (tgt := 46) dX6_luck_39 (by decide) ?_ ?_
        · refine rp_aload_n (x := (E.2.2.2.1 0)) dX6_luck_46 rfl ?_
          refine rp_getR (k := 1) (b := 4) sh0 rfl fdX6_19 dX6_luck_47 ?_
          refine rp_aload_n (x := (E.2.2.2.1 0)) dX6_luck_50 rfl ?_
          refine rp_getR (k := 0) (b := 1) sh0 rfl fdX6_10 dX6_luck_51 ?_
          refine rp_callV_hv (As := [.ref (E.2.2.2.1 1)]) (rest := []) (b := (E.2.2.2.1 4)) (rX3_begin σ 1 ni1) cbX3_begin lkX6_104 viX3_begin (rp_rcO sh4 rfl) rfl (Nat.le_of_ble_eq_true rfl) ⟨rfl, rfl, ⟨Nat.le_of_ble_eq_true rfl, Nat.le_of_ble_eq_true rfl⟩, Nat.zero_le _, Nat.zero_le _⟩ rfl (Nat.le_of_ble_eq_true rfl) dX6_luck_54 (fun σ5 hσ5 => ?_)
          refine rp_aload_n (x := (E.2.2.2.1 0)) dX6_luck_57 rfl ?_
          refine rp_getR (k := 1) (b := 4) sh0 rfl fdX6_19 dX6_luck_58 ?_
          refine rp_iload_n (x := v2) dX6_luck_61 rfl ?_
          refine rp_iload_n (x := v3) dX6_luck_62 rfl ?_
          refine rp_callV_hi (As := [.int v2, .int v3]) (rest := []) (b := (E.2.2.2.1 4)) (rX3_isWholeAlone σ5 v2 v3) cbX3_isWholeAlone lkX6_226 viX3_isWholeAlone (rp_rcO sh4 rfl) rfl (Nat.le_of_ble_eq_true rfl) ⟨rfl, rfl, ⟨Nat.le_of_ble_eq_true rfl, Nat.le_of_ble_eq_true rfl⟩, Nat.zero_le _, Nat.zero_le _⟩ rfl (Nat.le_of_ble_eq_true rfl) dX6_luck_63 (fun x6 hx6 => ?_)
          refine rp_if_ne (tgt := 77) dX6_luck_66 (by decide) ?_ ?_
          · refine rp_aload_n (x := (E.2.2.2.1 0)) dX6_luck_77 rfl ?_
            refine rp_getR (k := 1) (b := 4) sh0 rfl fdX6_19 dX6_luck_78 ?_
            refine rp_iload_n (x := v2) dX6_luck_81 rfl ?_
            refine rp_iload_n (x := v3) dX6_luck_82 rfl ?_
            refine rp_callV_hi (As := [.int v2, .int v3]) (rest := []) (b := (E.2.2.2.1 4)) (rX3_rivalsOf σ5 v2 v3) cbX3_rivalsOf lkX6_233 viX3_rivalsOf (rp_rcO sh4 rfl) rfl (Nat.le_of_ble_eq_true rfl) ⟨rfl, rfl, ⟨Nat.le_of_ble_eq_true rfl, Nat.le_of_ble_eq_true rfl⟩, Nat.zero_le _, Nat.zero_le _⟩ rfl (Nat.le_of_ble_eq_true rfl) dX6_luck_83 (fun x7 hx7 => ?_)
            refine rp_istore dX6_luck_86 (by decide) rfl ?_
            refine rp_bipush dX6_luck_88 (by decide) ?_
            refine rp_iload_n (x := v1) dX6_luck_90 rfl ?_
            refine rp_isub dX6_luck_91 ?_
            refine rp_i2l dX6_luck_92 ?_
            refine rp_iload_n (x := v1) dX6_luck_93 rfl ?_
            refine rp_i2l dX6_luck_94 ?_
            refine rp_iload (x := x7) dX6_luck_95 rfl ?_
            refine rp_callS_hl (As := [.long (v1.toInt64), .int x7]) (rest := [.long ((rI 10) - v1).toInt64]) (rX6_power σ5 (v1.toInt64) x7) cbX6_power lkX6_236 stX6_power rfl (Nat.le_of_ble_eq_true rfl) ⟨rfl, rfl, ⟨Nat.le_of_ble_eq_true rfl, Nat.le_of_ble_eq_true rfl⟩, Nat.zero_le _, Nat.zero_le _⟩ rfl (Nat.le_of_ble_eq_true rfl) dX6_luck_97 (fun x8 hx8 => ?_)
            refine rp_lmul dX6_luck_100 ?_
            refine rp_ldc2 (v := (rJ 10)) clX6_240 dX6_luck_101 ?_
            refine rp_iload (x := x7) dX6_luck_104 rfl ?_
            refine rp_iconst dX6_luck_106 ?_
            refine rp_iadd dX6_luck_107 ?_
            refine rp_callS_hl (As := [.long (rJ 10), .int (x7 + (rI 1))]) (rest := [.long (((rI 10) - v1).toInt64 * x8)]) (rX6_power σ5 (rJ 10) (x7 + (rI 1))) cbX6_power lkX6_236 stX6_power rfl (Nat.le_of_ble_eq_true rfl) ⟨rfl, rfl, ⟨Nat.le_of_ble_eq_true rfl, Nat.le_of_ble_eq_true rfl⟩, Nat.zero_le _, Nat.zero_le _⟩ rfl (Nat.le_of_ble_eq_true rfl) dX6_luck_108 (fun x9 hx9 => ?_)
            refine rp_iload (x := v4) dX6_luck_111 rfl ?_
            refine rp_callS_hl (As := [.long (((rI 10) - v1).toInt64 * x8), .long x9, .int v4]) (rest := []) (rX6_partOf σ5 (((rI 10) - v1).toInt64 * x8) x9 v4) cbX6_partOf lkX6_229 stX6_partOf rfl (Nat.le_of_ble_eq_true rfl) ⟨rfl, rfl, ⟨Nat.le_of_ble_eq_true rfl, Nat.le_of_ble_eq_true rfl⟩, Nat.zero_le _, Nat.zero_le _⟩ rfl (Nat.le_of_ble_eq_true rfl) dX6_luck_113 (fun x10 hx10 => ?_)
            exact rp_lret rfl rfl dX6_luck_116
          · refine rp_lconst dX6_luck_69 0 (by decide) ?_
            refine rp_lconst dX6_luck_70 1 (by decide) ?_
            refine rp_iload (x := v4) dX6_luck_71 rfl ?_
            refine rp_callS_hl (As := [.long (rJ 0), .long (rJ 1), .int v4]) (rest := []) (rX6_partOf σ5 (rJ 0) (rJ 1) v4) cbX6_partOf lkX6_229 stX6_partOf rfl (Nat.le_of_ble_eq_true rfl) ⟨rfl, rfl, ⟨Nat.le_of_ble_eq_true rfl, Nat.le_of_ble_eq_true rfl⟩, Nat.zero_le _, Nat.zero_le _⟩ rfl (Nat.le_of_ble_eq_true rfl) dX6_luck_73 (fun x11 hx11 => ?_)
            exact rp_lret rfl rfl dX6_luck_76
        · refine rp_mask [false, false, false, false, false, false] (vs2 := [none, none, none, none, none, none]) rfl rfl ?_
          exact rX6_luck_42 σ
/-! RocketPrintModel.lowest(JJI)J -/
abbrev rmX7_lowest : Room := { frames := 0, cells := 0, slots := 0, locals := 0 }
def fX7_lowest_41 (v5 : Int64) (s0 : Int64) : Option (Int64) :=
  ((rq_ldiv s0 v5).bind fun z1 =>
    (some z1))
set_option maxRecDepth 100000 in
theorem rX7_lowest_41 {E : rp_E} (σ : rp_S) (v5 : Int64) (s0 : Int64) : rp_R E (rp_mK E rmX7_lowest) mX7_lowest 41 [none, none, none, none, none, some (.long v5), none, none, none, none, none] [.long s0] σ (rp_hl σ) (fX7_lowest_41 v5 s0) := by
  rw [fX7_lowest_41]
  refine rp_lload (x := v5) dX7_lowest_41 rfl ?_
  refine rp_ldiv dX7_lowest_43 (fun z1 => ?_)
  exact rp_lret rfl rfl dX7_lowest_44
def fX7_lowest_6  : Nat → Int64 → Int64 → Int32 → Int64 → Int64 → Option (Int64)
  | 0, _, _, _, _, _ => none
  | n + 1, v0, v2, v4, v5, v7 =>
    (if (lg_cmp v7 (rJ 0)) = 0 then
    (if v4 = 0 then
    (fX7_lowest_41 v5 v0)
  else
    (fX7_lowest_41 v5 v2))
  else
    ((rq_lrem v5 v7).bind fun z2 =>
    (fX7_lowest_6 n v0 v2 v4 v7 z2)))
set_option maxRecDepth 100000 in
theorem rX7_lowest_6 {E : rp_E} (σ : rp_S) : ∀ (n : Nat) (v0 : Int64) (v2 : Int64) (v4 : Int32) (v5 : Int64) (v7 : Int64), rp_R E (rp_mK E rmX7_lowest) mX7_lowest 6 [some (.long v0), none, some (.long v2), none, some (.int v4), some (.long v5), none, some (.long v7), none, none, none] [] σ (rp_hl σ) (fX7_lowest_6 n v0 v2 v4 v5 v7) := by
  intro n
  induction n with
  | zero =>
    intro v0 v2 v4 v5 v7
    rw [fX7_lowest_6]
    exact rp_none
  | succ n ih =>
    intro v0 v2 v4 v5 v7
    rw [fX7_lowest_6]
    refine rp_lload (x := v7) dX7_lowest_6 rfl ?_
    refine rp_lconst dX7_lowest_8 0 (by decide) ?_
    refine rp_lcmp dX7_lowest_9 ?_
    refine rp_if_eq (tgt := 31) dX7_lowest_10 (by decide) ?_ ?_
    · refine rp_iload (x := v4) dX7_lowest_31 rfl ?_
      refine rp_if_ne (tgt := 40) dX7_lowest_33 (by decide) ?_ ?_
      · refine rp_lload_n (x := v2) dX7_lowest_40 rfl ?_
        refine rp_mask [false, false, false, false, false, true, false, false, false, false, false] (vs2 := [none, none, none, none, none, some (.long v5), none, none, none, none, none]) rfl rfl ?_
        exact rX7_lowest_41 σ v5 v2
      · refine rp_lload_n (x := v0) dX7_lowest_36 rfl ?_
        refine rp_goto (tgt := 41) dX7_lowest_37 (by decide) ?_
        refine rp_mask [false, false, false, false, false, true, false, false, false, false, false] (vs2 := [none, none, none, none, none, some (.long v5), none, none, none, none, none]) rfl rfl ?_
        exact rX7_lowest_41 σ v5 v0
    · refine rp_lload (x := v5) dX7_lowest_13 rfl ?_
      refine rp_lload (x := v7) dX7_lowest_15 rfl ?_
      refine rp_lrem dX7_lowest_17 (fun z2 => ?_)
      refine rp_lstore dX7_lowest_18 (by decide) rfl ?_
      refine rp_lload (x := v7) dX7_lowest_20 rfl ?_
      refine rp_lstore dX7_lowest_22 (by decide) rfl ?_
      refine rp_lload (x := z2) dX7_lowest_24 rfl ?_
      refine rp_lstore dX7_lowest_26 (by decide) rfl ?_
      refine rp_goto (tgt := 6) dX7_lowest_28 (by decide) ?_
      refine rp_mask [true, false, true, false, true, true, false, true, false, false, false] (vs2 := [some (.long v0), none, some (.long v2), none, some (.int v4), some (.long v7), none, some (.long z2), none, none, none]) rfl rfl ?_
      exact ih v0 v2 v4 v7 z2
def fX7_lowest  (v0 : Int64) (v2 : Int64) (v4 : Int32) : Option (Int64) :=
  (fX7_lowest_6 1000 v0 v2 v4 v0 v2)
set_option maxRecDepth 100000 in
theorem rX7_lowest {E : rp_E} (σ : rp_S) (v0 : Int64) (v2 : Int64) (v4 : Int32)   : rp_R E (rp_mK E rmX7_lowest) mX7_lowest 0 [some (.long v0), none, some (.long v2), none, some (.int v4), none, none, none, none, none, none] [] σ (rp_hl σ) (fX7_lowest v0 v2 v4) := by
  rw [fX7_lowest]
  refine rp_lload_n (x := v0) dX7_lowest_0 rfl ?_
  refine rp_lstore dX7_lowest_1 (by decide) rfl ?_
  refine rp_lload_n (x := v2) dX7_lowest_3 rfl ?_
  refine rp_lstore dX7_lowest_4 (by decide) rfl ?_
  refine rp_mask [true, false, true, false, true, true, false, true, false, false, false] (vs2 := [some (.long v0), none, some (.long v2), none, some (.int v4), some (.long v0), none, some (.long v2), none, none, none]) rfl rfl ?_
  exact rX7_lowest_6 σ 1000 v0 v2 v4 v0 v2
/-! RocketPrintModel.byDamp(IIII)J -/
abbrev rmX7_byDamp : Room := { frames := 4, cells := 0, slots := 0, locals := 101 }
def fX7_byDamp_157 (k38 : rp_S → Int32 → Int32 → Int32 → Int32 → Int64 → Int64 → Int32 → Option (Int64 × rp_S)) (σ : rp_S) (v1 : Int32) (v2 : Int32) (v3 : Int32) (v4 : Int32) (v5 : Int64) (v7 : Int64) (v9 : Int32) : Option (Int64 × rp_S) :=
  (k38 σ v1 v2 v3 v4 v5 v7 (v9 + (rI 1)))
set_option maxRecDepth 100000 in
theorem rX7_byDamp_157 {E : rp_E} (k38 : rp_S → Int32 → Int32 → Int32 → Int32 → Int64 → Int64 → Int32 → Option (Int64 × rp_S)) (hk38 : ∀ (σ : rp_S) (v1 : Int32) (v2 : Int32) (v3 : Int32) (v4 : Int32) (v5 : Int64) (v7 : Int64) (v9 : Int32), rp_R E (rp_mK E rmX7_byDamp) mX7_byDamp 38 [some (.ref (E.2.2.2.1 28)), some (.int v1), some (.int v2), some (.int v3), some (.int v4), some (.long v5), none, some (.long v7), none, some (.int v9), none, none, none] [] σ rp_hL (k38 σ v1 v2 v3 v4 v5 v7 v9)) (σ : rp_S) (v1 : Int32) (v2 : Int32) (v3 : Int32) (v4 : Int32) (v5 : Int64) (v7 : Int64) (v9 : Int32) : rp_R E (rp_mK E rmX7_byDamp) mX7_byDamp 157 [some (.ref (E.2.2.2.1 28)), some (.int v1), some (.int v2), some (.int v3), some (.int v4), some (.long v5), none, some (.long v7), none, some (.int v9), none, none, none] [] σ rp_hL (fX7_byDamp_157 k38 σ v1 v2 v3 v4 v5 v7 v9) := by
  rw [fX7_byDamp_157]
  refine rp_iinc (x := v9) dX7_byDamp_157 rfl (by decide) rfl ?_
  refine rp_goto (tgt := 38) dX7_byDamp_160 (by decide) ?_
  refine rp_mask [true, true, true, true, true, true, false, true, false, true, false, false, false] (vs2 := [some (.ref (E.2.2.2.1 28)), some (.int v1), some (.int v2), some (.int v3), some (.int v4), some (.long v5), none, some (.long v7), none, some (.int (v9 + (rI 1))), none, none, none]) rfl rfl ?_
  exact hk38 σ v1 v2 v3 v4 v5 v7 (v9 + (rI 1))
def fX7_byDamp_152 (k38 : rp_S → Int32 → Int32 → Int32 → Int32 → Int64 → Int64 → Int32 → Option (Int64 × rp_S)) (σ : rp_S) (v1 : Int32) (v2 : Int32) (v3 : Int32) (v4 : Int32) (v7 : Int64) (v9 : Int32) (s0 : Int32) (s1 : Int64) (s2 : Int64) : Option (Int64 × rp_S) :=
  (fX7_byDamp_157 k38 σ v1 v2 v3 v4 (s2 + (s1 * (s0.toInt64))) v7 v9)
set_option maxRecDepth 100000 in
theorem rX7_byDamp_152 {E : rp_E} (k38 : rp_S → Int32 → Int32 → Int32 → Int32 → Int64 → Int64 → Int32 → Option (Int64 × rp_S)) (hk38 : ∀ (σ : rp_S) (v1 : Int32) (v2 : Int32) (v3 : Int32) (v4 : Int32) (v5 : Int64) (v7 : Int64) (v9 : Int32), rp_R E (rp_mK E rmX7_byDamp) mX7_byDamp 38 [some (.ref (E.2.2.2.1 28)), some (.int v1), some (.int v2), some (.int v3), some (.int v4), some (.long v5), none, some (.long v7), none, some (.int v9), none, none, none] [] σ rp_hL (k38 σ v1 v2 v3 v4 v5 v7 v9)) (σ : rp_S) (v1 : Int32) (v2 : Int32) (v3 : Int32) (v4 : Int32) (v7 : Int64) (v9 : Int32) (s0 : Int32) (s1 : Int64) (s2 : Int64) : rp_R E (rp_mK E rmX7_byDamp) mX7_byDamp 152 [some (.ref (E.2.2.2.1 28)), some (.int v1), some (.int v2), some (.int v3), some (.int v4), none, none, some (.long v7), none, some (.int v9), none, none, none] [.int s0, .long s1, .long s2] σ rp_hL (fX7_byDamp_152 k38 σ v1 v2 v3 v4 v7 v9 s0 s1 s2) := by
  rw [fX7_byDamp_152]
  refine rp_i2l dX7_byDamp_152 ?_
  refine rp_lmul dX7_byDamp_153 ?_
  refine rp_ladd dX7_byDamp_154 ?_
  refine rp_lstore dX7_byDamp_155 (by decide) rfl ?_
  refine rp_mask [true, true, true, true, true, true, false, true, false, true, false, false, false] (vs2 := [some (.ref (E.2.2.2.1 28)), some (.int v1), some (.int v2), some (.int v3), some (.int v4), some (.long (s2 + (s1 * (s0.toInt64)))), none, some (.long v7), none, some (.int v9), none, none, none]) rfl rfl ?_
  exact rX7_byDamp_157 k38 hk38 σ v1 v2 v3 v4 (s2 + (s1 * (s0.toInt64))) v7 v9
def fX7_byDamp_93 (k38 : rp_S → Int32 → Int32 → Int32 → Int32 → Int64 → Int64 → Int32 → Option (Int64 × rp_S)) (k58 : rp_S → Int32 → Int32 → Int32 → Int32 → Int64 → Int64 → Int32 → Int64 → Int32 → Option (Int64 × rp_S)) (σ : rp_S) (v1 : Int32) (v2 : Int32) (v3 : Int32) (v4 : Int32) (v5 : Int64) (v7 : Int64) (v9 : Int32) (v12 : Int32) (s0 : Int64) (s1 : Int64) : Option (Int64 × rp_S) :=
  (k58 σ v1 v2 v3 v4 v5 v7 v9 (s1 * s0) (v12 + (rI 1)))
set_option maxRecDepth 100000 in
theorem rX7_byDamp_93 {E : rp_E} (k38 : rp_S → Int32 → Int32 → Int32 → Int32 → Int64 → Int64 → Int32 → Option (Int64 × rp_S)) (hk38 : ∀ (σ : rp_S) (v1 : Int32) (v2 : Int32) (v3 : Int32) (v4 : Int32) (v5 : Int64) (v7 : Int64) (v9 : Int32), rp_R E (rp_mK E rmX7_byDamp) mX7_byDamp 38 [some (.ref (E.2.2.2.1 28)), some (.int v1), some (.int v2), some (.int v3), some (.int v4), some (.long v5), none, some (.long v7), none, some (.int v9), none, none, none] [] σ rp_hL (k38 σ v1 v2 v3 v4 v5 v7 v9)) (k58 : rp_S → Int32 → Int32 → Int32 → Int32 → Int64 → Int64 → Int32 → Int64 → Int32 → Option (Int64 × rp_S)) (hk58 : ∀ (σ : rp_S) (v1 : Int32) (v2 : Int32) (v3 : Int32) (v4 : Int32) (v5 : Int64) (v7 : Int64) (v9 : Int32) (v10 : Int64) (v12 : Int32), rp_R E (rp_mK E rmX7_byDamp) mX7_byDamp 58 [some (.ref (E.2.2.2.1 28)), some (.int v1), some (.int v2), some (.int v3), some (.int v4), some (.long v5), none, some (.long v7), none, some (.int v9), some (.long v10), none, some (.int v12)] [] σ rp_hL (k58 σ v1 v2 v3 v4 v5 v7 v9 v10 v12)) (σ : rp_S) (v1 : Int32) (v2 : Int32) (v3 : Int32) (v4 : Int32) (v5 : Int64) (v7 : Int64) (v9 : Int32) (v12 : Int32) (s0 : Int64) (s1 : Int64) : rp_R E (rp_mK E rmX7_byDamp) mX7_byDamp 93 [some (.ref (E.2.2.2.1 28)), some (.int v1), some (.int v2), some (.int v3), some (.int v4), some (.long v5), none, some (.long v7), none, some (.int v9), none, none, some (.int v12)] [.long s0, .long s1] σ rp_hL (fX7_byDamp_93 k38 k58 σ v1 v2 v3 v4 v5 v7 v9 v12 s0 s1) := by
  rw [fX7_byDamp_93]
  refine rp_lmul dX7_byDamp_93 ?_
  refine rp_lstore dX7_byDamp_94 (by decide) rfl ?_
  refine rp_iinc (x := v12) dX7_byDamp_96 rfl (by decide) rfl ?_
  refine rp_goto (tgt := 58) dX7_byDamp_99 (by decide) ?_
  refine rp_mask [true, true, true, true, true, true, false, true, false, true, true, false, true] (vs2 := [some (.ref (E.2.2.2.1 28)), some (.int v1), some (.int v2), some (.int v3), some (.int v4), some (.long v5), none, some (.long v7), none, some (.int v9), some (.long (s1 * s0)), none, some (.int (v12 + (rI 1)))]) rfl rfl ?_
  exact hk58 σ v1 v2 v3 v4 v5 v7 v9 (s1 * s0) (v12 + (rI 1))
def fX7_byDamp_58 (k38 : rp_S → Int32 → Int32 → Int32 → Int32 → Int64 → Int64 → Int32 → Option (Int64 × rp_S)) : Nat → rp_S → Int32 → Int32 → Int32 → Int32 → Int64 → Int64 → Int32 → Int64 → Int32 → Option (Int64 × rp_S)
  | 0, _, _, _, _, _, _, _, _, _, _ => none
  | n + 1, σ, v1, v2, v3, v4, v5, v7, v9, v10, v12 =>
    ((rq_rd σ 29 180 (rI 24)).bind fun x5 =>
    (if x5 ≤ v12 then
    (if (lg_cmp v10 (rJ 0)) ≤ 0 then
    (fX7_byDamp_157 k38 σ v1 v2 v3 v4 v5 v7 v9)
  else
    ((some (rp_up σ 28 14 v9)).bind fun σ6 =>
    ((fX7_nightOn σ6 (rI 0)).bind fun σ7 =>
    (if v2 = (rI (-4)) then
    (fX7_byDamp_152 k38 σ7 v1 v2 v3 v4 v7 v9 (σ7 28 16) v10 v5)
  else
    ((fX7_isWhole σ7 (rI 0) v2 v3).bind fun x8 =>
    (if x8 = 0 then
    (fX7_byDamp_152 k38 σ7 v1 v2 v3 v4 v7 v9 (rI 0) v10 v5)
  else
    (fX7_byDamp_152 k38 σ7 v1 v2 v3 v4 v7 v9 (rI 1) v10 v5)))))))
  else
    (if ((v9 >>> (v12 &&& 31)) &&& (rI 1)) = (rI 1) then
    (fX7_byDamp_93 k38 (fun σ v1 v2 v3 v4 v5 v7 v9 v10 v12 => fX7_byDamp_58 k38 n σ v1 v2 v3 v4 v5 v7 v9 v10 v12) σ v1 v2 v3 v4 v5 v7 v9 v12 (v1.toInt64) v10)
  else
    (fX7_byDamp_93 k38 (fun σ v1 v2 v3 v4 v5 v7 v9 v10 v12 => fX7_byDamp_58 k38 n σ v1 v2 v3 v4 v5 v7 v9 v10 v12) σ v1 v2 v3 v4 v5 v7 v9 v12 ((rI 10) - v1).toInt64 v10))))
set_option maxRecDepth 100000 in
theorem rX7_byDamp_58 {E : rp_E} (k38 : rp_S → Int32 → Int32 → Int32 → Int32 → Int64 → Int64 → Int32 → Option (Int64 × rp_S)) (hk38 : ∀ (σ : rp_S) (v1 : Int32) (v2 : Int32) (v3 : Int32) (v4 : Int32) (v5 : Int64) (v7 : Int64) (v9 : Int32), rp_R E (rp_mK E rmX7_byDamp) mX7_byDamp 38 [some (.ref (E.2.2.2.1 28)), some (.int v1), some (.int v2), some (.int v3), some (.int v4), some (.long v5), none, some (.long v7), none, some (.int v9), none, none, none] [] σ rp_hL (k38 σ v1 v2 v3 v4 v5 v7 v9)) : ∀ (n : Nat) (σ : rp_S) (v1 : Int32) (v2 : Int32) (v3 : Int32) (v4 : Int32) (v5 : Int64) (v7 : Int64) (v9 : Int32) (v10 : Int64) (v12 : Int32), rp_R E (rp_mK E rmX7_byDamp) mX7_byDamp 58 [some (.ref (E.2.2.2.1 28)), some (.int v1), some (.int v2), some (.int v3), some (.int v4), some (.long v5), none, some (.long v7), none, some (.int v9), some (.long v10), none, some (.int v12)] [] σ rp_hL (fX7_byDamp_58 k38 n σ v1 v2 v3 v4 v5 v7 v9 v10 v12) := by
  intro n
  induction n with
  | zero =>
    intro σ v1 v2 v3 v4 v5 v7 v9 v10 v12
    rw [fX7_byDamp_58]
    exact rp_none
  | succ n ih =>
    intro σ v1 v2 v3 v4 v5 v7 v9 v10 v12
    rw [fX7_byDamp_58]
    refine rp_iload (x := v12) dX7_byDamp_58 rfl ?_
    refine rp_aload_n (x := (E.2.2.2.1 28)) dX7_byDamp_60 rfl ?_
    refine rp_getR (k := 0) (b := 29) sh28 rfl fdX7_7 dX7_byDamp_61 ?_
    refine rp_bipush dX7_byDamp_64 (by decide) ?_
    refine rp_iaload sh29 dX7_byDamp_66 (fun x5 => ?_)
    refine rp_icmp_ge (tgt := 102) dX7_byDamp_67 (by decide) ?_ ?_
    · refine rp_lload (x := v10) dX7_byDamp_102 rfl ?_
      refine rp_lconst dX7_byDamp_104 0 (by decide) ?_
      refine rp_lcmp dX7_byDamp_105 ?_
      refine rp_if_le (tgt := 157) dX7_byDamp_106 (by decide) ?_ ?_
      · refine rp_mask [true, true, true, true, true, true, false, true, false, true, false, false, false] (vs2 := [some (.ref (E.2.2.2.1 28)), some (.int v1), some (.int v2), some (.int v3), some (.int v4), some (.long v5), none, some (.long v7), none, some (.int v9), none, none, none]) rfl rfl ?_
        exact rX7_byDamp_157 k38 hk38 σ v1 v2 v3 v4 v5 v7 v9
      · refine rp_aload_n (x := (E.2.2.2.1 28)) dX7_byDamp_109 rfl ?_
        refine rp_iload (x := v9) dX7_byDamp_110 rfl ?_
        refine rp_putB (k := 14) sh28 rfl fpX7_132 (vp_nar_int _) rfl dX7_byDamp_112 (fun σ6 => ?_)
        refine rp_aload_n (x := (E.2.2.2.1 28)) dX7_byDamp_115 rfl ?_
        refine rp_iconst dX7_byDamp_116 ?_
        refine rp_callV_hv (As := [.int (rI 0)]) (rest := []) (b := (E.2.2.2.1 28)) (rX7_nightOn σ6 (rI 0)) cbX7_nightOn lkX7_165 viX7_nightOn (rp_rcO sh28 rfl) rfl (Nat.le_of_ble_eq_true rfl) ⟨rfl, rfl, ⟨Nat.le_of_ble_eq_true rfl, Nat.le_of_ble_eq_true rfl⟩, Nat.zero_le _, Nat.zero_le _⟩ rfl (Nat.le_of_ble_eq_true rfl) dX7_byDamp_117 (fun σ7 hσ7 => ?_)
        refine rp_lload (x := v5) dX7_byDamp_120 rfl ?_
        refine rp_lload (x := v10) dX7_byDamp_122 rfl ?_
        refine rp_iload_n (x := v2) dX7_byDamp_124 rfl ?_
        refine rp_bipush dX7_byDamp_125 (by decide) ?_
        refine rp_icmp_ne (tgt := 137) dX7_byDamp_127 (by decide) ?_ ?_
        · refine rp_aload_n (x := (E.2.2.2.1 28)) dX7_byDamp_137 rfl ?_
          refine rp_iconst dX7_byDamp_138 ?_
          refine rp_iload_n (x := v2) dX7_byDamp_139 rfl ?_
          refine rp_iload_n (x := v3) dX7_byDamp_140 rfl ?_
          refine rp_callV_hi (As := [.int (rI 0), .int v2, .int v3]) (rest := [.long v10, .long v5]) (b := (E.2.2.2.1 28)) (rX7_isWhole σ7 (rI 0) v2 v3) cbX7_isWhole lkX7_162 viX7_isWhole (rp_rcO sh28 rfl) rfl (Nat.le_of_ble_eq_true rfl) ⟨rfl, rfl, ⟨Nat.le_of_ble_eq_true rfl, Nat.le_of_ble_eq_true rfl⟩, Nat.zero_le _, Nat.zero_le _⟩ rfl (Nat.le_of_ble_eq_true rfl) dX7_byDamp_141 (fun x8 hx8 => ?_)
          refine rp_if_eq (tgt := 151) dX7_byDamp_144 (by decide) ?_ ?_
          · refine rp_iconst dX7_byDamp_151 ?_
            refine rp_mask [true, true, true, true, true, false, false, true, false, true, false, false, false] (vs2 := [some (.ref (E.2.2.2.1 28)), some (.int v1), some (.int v2), some (.int v3), some (.int v4), none, none, some (.long v7), none, some (.int v9), none, none, none]) rfl rfl ?_
            exact rX7_byDamp_152 k38 hk38 σ7 v1 v2 v3 v4 v7 v9 (rI 0) v10 v5
          · refine rp_iconst dX7_byDamp_147 ?_
            refine rp_goto (tgt := 152) dX7_byDamp_148 (by decide) ?_
            refine rp_mask [true, true, true, true, true, false, false, true, false, true, false, false, false] (vs2 := [some (.ref (E.2.2.2.1 28)), some (.int v1), some (.int v2), some (.int v3), some (.int v4), none, none, some (.long v7), none, some (.int v9), none, none, none]) rfl rfl ?_
            exact rX7_byDamp_152 k38 hk38 σ7 v1 v2 v3 v4 v7 v9 (rI 1) v10 v5
        · refine rp_aload_n (x := (E.2.2.2.1 28)) dX7_byDamp_130 rfl ?_
          refine rp_getI (k := 16) sh28 rfl fdX7_149 dX7_byDamp_131 ?_
          refine rp_goto (tgt := 152) dX7_byDamp_134 (by decide) ?_
          refine rp_mask [true, true, true, true, true, false, false, true, false, true, false, false, false] (vs2 := [some (.ref (E.2.2.2.1 28)), some (.int v1), some (.int v2), some (.int v3), some (.int v4), none, none, some (.long v7), none, some (.int v9), none, none, none]) rfl rfl ?_
          exact rX7_byDamp_152 k38 hk38 σ7 v1 v2 v3 v4 v7 v9 (σ7 28 16) v10 v5
    · refine rp_lload (x := v10) dX7_byDamp_70 rfl ?_
      refine rp_iload (x := v9) dX7_byDamp_72 rfl ?_
      refine rp_iload (x := v12) dX7_byDamp_74 rfl ?_
      refine rp_ishr dX7_byDamp_76 ?_
      refine rp_iconst dX7_byDamp_77 ?_
      refine rp_iand dX7_byDamp_78 ?_
      refine rp_iconst dX7_byDamp_79 ?_
      refine rp_icmp_ne (tgt := 88) dX7_byDamp_80 (by decide) ?_ ?_
      · refine rp_bipush dX7_byDamp_88 (by decide) ?_
        refine rp_iload_n (x := v1) dX7_byDamp_90 rfl ?_
        refine rp_isub dX7_byDamp_91 ?_
        refine rp_i2l dX7_byDamp_92 ?_
        refine rp_mask [true, true, true, true, true, true, false, true, false, true, false, false, true] (vs2 := [some (.ref (E.2.2.2.1 28)), some (.int v1), some (.int v2), some (.int v3), some (.int v4), some (.long v5), none, some (.long v7), none, some (.int v9), none, none, some (.int v12)]) rfl rfl ?_
        exact rX7_byDamp_93 k38 hk38 (fun σ v1 v2 v3 v4 v5 v7 v9 v10 v12 => fX7_byDamp_58 k38 n σ v1 v2 v3 v4 v5 v7 v9 v10 v12) (fun σ v1 v2 v3 v4 v5 v7 v9 v10 v12 => ih σ v1 v2 v3 v4 v5 v7 v9 v10 v12) σ v1 v2 v3 v4 v5 v7 v9 v12 ((rI 10) - v1).toInt64 v10
      · refine rp_iload_n (x := v1) dX7_byDamp_83 rfl ?_
        refine rp_i2l dX7_byDamp_84 ?_
        refine rp_goto (tgt := 93) dX7_byDamp_85 (by decide) ?_
        refine rp_mask [true, true, true, true, true, true, false, true, false, true, false, false, true] (vs2 := [some (.ref (E.2.2.2.1 28)), some (.int v1), some (.int v2), some (.int v3), some (.int v4), some (.long v5), none, some (.long v7), none, some (.int v9), none, none, some (.int v12)]) rfl rfl ?_
        exact rX7_byDamp_93 k38 hk38 (fun σ v1 v2 v3 v4 v5 v7 v9 v10 v12 => fX7_byDamp_58 k38 n σ v1 v2 v3 v4 v5 v7 v9 v10 v12) (fun σ v1 v2 v3 v4 v5 v7 v9 v10 v12 => ih σ v1 v2 v3 v4 v5 v7 v9 v10 v12) σ v1 v2 v3 v4 v5 v7 v9 v12 (v1.toInt64) v10
def fX7_byDamp_38  : Nat → rp_S → Int32 → Int32 → Int32 → Int32 → Int64 → Int64 → Int32 → Option (Int64 × rp_S)
  | 0, _, _, _, _, _, _, _, _ => none
  | n + 1, σ, v1, v2, v3, v4, v5, v7, v9 =>
    ((rq_rd σ 29 180 (rI 24)).bind fun x2 =>
    (if ((rI 1) <<< (x2 &&& 31)) ≤ v9 then
    ((some (rp_up σ 28 14 (rI 0))).bind fun σ3 =>
    ((fX7_lowest v5 v7 v4).bind fun x4 =>
    (some (x4, σ3))))
  else
    (fX7_byDamp_58 (fun σ v1 v2 v3 v4 v5 v7 v9 => fX7_byDamp_38 n σ v1 v2 v3 v4 v5 v7 v9) 1000 σ v1 v2 v3 v4 v5 v7 v9 (rJ 1) (rI 0))))
set_option maxRecDepth 100000 in
theorem rX7_byDamp_38 {E : rp_E}  : ∀ (n : Nat) (σ : rp_S) (v1 : Int32) (v2 : Int32) (v3 : Int32) (v4 : Int32) (v5 : Int64) (v7 : Int64) (v9 : Int32), rp_R E (rp_mK E rmX7_byDamp) mX7_byDamp 38 [some (.ref (E.2.2.2.1 28)), some (.int v1), some (.int v2), some (.int v3), some (.int v4), some (.long v5), none, some (.long v7), none, some (.int v9), none, none, none] [] σ rp_hL (fX7_byDamp_38 n σ v1 v2 v3 v4 v5 v7 v9) := by
  intro n
  induction n with
  | zero =>
    intro σ v1 v2 v3 v4 v5 v7 v9
    rw [fX7_byDamp_38]
    exact rp_none
  | succ n ih =>
    intro σ v1 v2 v3 v4 v5 v7 v9
    rw [fX7_byDamp_38]
    refine rp_iload (x := v9) dX7_byDamp_38 rfl ?_
    refine rp_iconst dX7_byDamp_40 ?_
    refine rp_aload_n (x := (E.2.2.2.1 28)) dX7_byDamp_41 rfl ?_
    refine rp_getR (k := 0) (b := 29) sh28 rfl fdX7_7 dX7_byDamp_42 ?_
    refine rp_bipush dX7_byDamp_45 (by decide) ?_
    refine rp_iaload sh29 dX7_byDamp_47 (fun x2 => ?_)
    refine rp_ishl dX7_byDamp_48 ?_
    refine rp_icmp_ge (tgt := 163) dX7_byDamp_49 (by decide) ?_ ?_
    · refine rp_aload_n (x := (E.2.2.2.1 28)) dX7_byDamp_163 rfl ?_
      refine rp_iconst dX7_byDamp_164 ?_
      refine rp_putB (k := 14) sh28 rfl fpX7_132 (vp_nar_int _) rfl dX7_byDamp_165 (fun σ3 => ?_)
      refine rp_lload (x := v5) dX7_byDamp_168 rfl ?_
      refine rp_lload (x := v7) dX7_byDamp_170 rfl ?_
      refine rp_iload (x := v4) dX7_byDamp_172 rfl ?_
      refine rp_callS_hl (As := [.long v5, .long v7, .int v4]) (rest := []) (rX7_lowest σ3 v5 v7 v4) cbX7_lowest lkX7_218 stX7_lowest rfl (Nat.le_of_ble_eq_true rfl) ⟨rfl, rfl, ⟨Nat.le_of_ble_eq_true rfl, Nat.le_of_ble_eq_true rfl⟩, Nat.zero_le _, Nat.zero_le _⟩ rfl (Nat.le_of_ble_eq_true rfl) dX7_byDamp_174 (fun x4 hx4 => ?_)
      exact rp_lret rfl rfl dX7_byDamp_177
    · refine rp_lconst dX7_byDamp_52 1 (by decide) ?_
      refine rp_lstore dX7_byDamp_53 (by decide) rfl ?_
      refine rp_iconst dX7_byDamp_55 ?_
      refine rp_istore dX7_byDamp_56 (by decide) rfl ?_
      refine rp_mask [true, true, true, true, true, true, false, true, false, true, true, false, true] (vs2 := [some (.ref (E.2.2.2.1 28)), some (.int v1), some (.int v2), some (.int v3), some (.int v4), some (.long v5), none, some (.long v7), none, some (.int v9), some (.long (rJ 1)), none, some (.int (rI 0))]) rfl rfl ?_
      exact rX7_byDamp_58 (fun σ v1 v2 v3 v4 v5 v7 v9 => fX7_byDamp_38 n σ v1 v2 v3 v4 v5 v7 v9) (fun σ v1 v2 v3 v4 v5 v7 v9 => ih σ v1 v2 v3 v4 v5 v7 v9) 1000 σ v1 v2 v3 v4 v5 v7 v9 (rJ 1) (rI 0)
def fX7_byDamp_9  : Nat → rp_S → Int32 → Int32 → Int32 → Int32 → Int64 → Int64 → Int32 → Option (Int64 × rp_S)
  | 0, _, _, _, _, _, _, _, _ => none
  | n + 1, σ, v1, v2, v3, v4, v5, v7, v9 =>
    ((rq_rd σ 29 180 (rI 24)).bind fun x1 =>
    (if x1 ≤ v9 then
    (fX7_byDamp_38 1000 σ v1 v2 v3 v4 v5 v7 (rI 0))
  else
    (fX7_byDamp_9 n σ v1 v2 v3 v4 v5 (v7 * (rJ 10)) (v9 + (rI 1)))))
set_option maxRecDepth 100000 in
theorem rX7_byDamp_9 {E : rp_E}  : ∀ (n : Nat) (σ : rp_S) (v1 : Int32) (v2 : Int32) (v3 : Int32) (v4 : Int32) (v5 : Int64) (v7 : Int64) (v9 : Int32), rp_R E (rp_mK E rmX7_byDamp) mX7_byDamp 9 [some (.ref (E.2.2.2.1 28)), some (.int v1), some (.int v2), some (.int v3), some (.int v4), some (.long v5), none, some (.long v7), none, some (.int v9), none, none, none] [] σ rp_hL (fX7_byDamp_9 n σ v1 v2 v3 v4 v5 v7 v9) := by
  intro n
  induction n with
  | zero =>
    intro σ v1 v2 v3 v4 v5 v7 v9
    rw [fX7_byDamp_9]
    exact rp_none
  | succ n ih =>
    intro σ v1 v2 v3 v4 v5 v7 v9
    rw [fX7_byDamp_9]
    refine rp_iload (x := v9) dX7_byDamp_9 rfl ?_
    refine rp_aload_n (x := (E.2.2.2.1 28)) dX7_byDamp_11 rfl ?_
    refine rp_getR (k := 0) (b := 29) sh28 rfl fdX7_7 dX7_byDamp_12 ?_
    refine rp_bipush dX7_byDamp_15 (by decide) ?_
    refine rp_iaload sh29 dX7_byDamp_17 (fun x1 => ?_)
    refine rp_icmp_ge (tgt := 35) dX7_byDamp_18 (by decide) ?_ ?_
    · refine rp_iconst dX7_byDamp_35 ?_
      refine rp_istore dX7_byDamp_36 (by decide) rfl ?_
      refine rp_mask [true, true, true, true, true, true, false, true, false, true, false, false, false] (vs2 := [some (.ref (E.2.2.2.1 28)), some (.int v1), some (.int v2), some (.int v3), some (.int v4), some (.long v5), none, some (.long v7), none, some (.int (rI 0)), none, none, none]) rfl rfl ?_
      exact rX7_byDamp_38 1000 σ v1 v2 v3 v4 v5 v7 (rI 0)
    · refine rp_lload (x := v7) dX7_byDamp_21 rfl ?_
      refine rp_ldc2 (v := (rJ 10)) clX7_216 dX7_byDamp_23 ?_
      refine rp_lmul dX7_byDamp_26 ?_
      refine rp_lstore dX7_byDamp_27 (by decide) rfl ?_
      refine rp_iinc (x := v9) dX7_byDamp_29 rfl (by decide) rfl ?_
      refine rp_goto (tgt := 9) dX7_byDamp_32 (by decide) ?_
      refine rp_mask [true, true, true, true, true, true, false, true, false, true, false, false, false] (vs2 := [some (.ref (E.2.2.2.1 28)), some (.int v1), some (.int v2), some (.int v3), some (.int v4), some (.long v5), none, some (.long (v7 * (rJ 10))), none, some (.int (v9 + (rI 1))), none, none, none]) rfl rfl ?_
      exact ih σ v1 v2 v3 v4 v5 (v7 * (rJ 10)) (v9 + (rI 1))
def fX7_byDamp (σ : rp_S) (v1 : Int32) (v2 : Int32) (v3 : Int32) (v4 : Int32) : Option (Int64 × rp_S) :=
  (fX7_byDamp_9 1000 σ v1 v2 v3 v4 (rJ 0) (rJ 1) (rI 0))
set_option maxRecDepth 100000 in
theorem rX7_byDamp {E : rp_E} (σ : rp_S) (v1 : Int32) (v2 : Int32) (v3 : Int32) (v4 : Int32)   : rp_R E (rp_mK E rmX7_byDamp) mX7_byDamp 0 [some (.ref (E.2.2.2.1 28)), some (.int v1), some (.int v2), some (.int v3), some (.int v4), none, none, none, none, none, none, none, none] [] σ rp_hL (fX7_byDamp σ v1 v2 v3 v4) := by
  rw [fX7_byDamp]
  refine rp_lconst dX7_byDamp_0 0 (by decide) ?_
  refine rp_lstore dX7_byDamp_1 (by decide) rfl ?_
  refine rp_lconst dX7_byDamp_3 1 (by decide) ?_
  refine rp_lstore dX7_byDamp_4 (by decide) rfl ?_
  refine rp_iconst dX7_byDamp_6 ?_
  refine rp_istore dX7_byDamp_7 (by decide) rfl ?_
  refine rp_mask [true, true, true, true, true, true, false, true, false, true, false, false, false] (vs2 := [some (.ref (E.2.2.2.1 28)), some (.int v1), some (.int v2), some (.int v3), some (.int v4), some (.long (rJ 0)), none, some (.long (rJ 1)), none, some (.int (rI 0)), none, none, none]) rfl rfl ?_
  exact rX7_byDamp_9 1000 σ v1 v2 v3 v4 (rJ 0) (rJ 1) (rI 0)
/-! RocketPrintModel.luck(IIII)J -/
abbrev rmX7_luck : Room := { frames := 5, cells := 0, slots := 0, locals := 133 }
def fX7_luck_51 (σ : rp_S) : Option (Int64 × rp_S) :=
  (some ((rJ (-1)), σ))
set_option maxRecDepth 100000 in
theorem rX7_luck_51 {E : rp_E} (σ : rp_S) : rp_R E (rp_mK E rmX7_luck) mX7_luck 51 [none, none, none, none, none] [] σ rp_hL (fX7_luck_51 σ) := by
  rw [fX7_luck_51]
  refine rp_ldc2 (v := (rJ (-1))) clX7_226 dX7_luck_51 ?_
  exact rp_lret rfl rfl dX7_luck_54
def fX7_luck (σ : rp_S) (v1 : Int32) (v2 : Int32) (v3 : Int32) (v4 : Int32) : Option (Int64 × rp_S) :=
  ((fX7_in (v1.toInt64) (rJ 0) (rJ 10)).bind fun x1 =>
    (if x1 = 0 then
    (fX7_luck_51 σ)
  else
    ((fX7_isReader σ v2).bind fun x2 =>
    (if x2 = 0 then
    (fX7_luck_51 σ)
  else
    ((fX7_isWork σ v3).bind fun x3 =>
    (if x3 = 0 then
    (fX7_luck_51 σ)
  else
    ((fX7_in (v4.toInt64) (rJ 0) (rJ 1)).bind fun x4 =>
    (if x4 = 0 then
    (fX7_luck_51 σ)
  else
    ((fX7_byDamp σ v1 v2 v3 v4).bind fun p5 =>
    (some (p5.1, p5.2)))))))))))
set_option maxRecDepth 100000 in
theorem rX7_luck {E : rp_E} (σ : rp_S) (v1 : Int32) (v2 : Int32) (v3 : Int32) (v4 : Int32)   : rp_R E (rp_mK E rmX7_luck) mX7_luck 0 [some (.ref (E.2.2.2.1 28)), some (.int v1), some (.int v2), some (.int v3), some (.int v4)] [] σ rp_hL (fX7_luck σ v1 v2 v3 v4) := by
  rw [fX7_luck]
  refine rp_iload_n (x := v1) dX7_luck_0 rfl ?_
  refine rp_i2l dX7_luck_1 ?_
  refine rp_lconst dX7_luck_2 0 (by decide) ?_
  refine rp_ldc2 (v := (rJ 10)) clX7_216 dX7_luck_3 ?_
  refine rp_callS_hi (As := [.long (v1.toInt64), .long (rJ 0), .long (rJ 10)]) (rest := []) (rX7_in σ (v1.toInt64) (rJ 0) (rJ 10)) cbX7_in lkX7_49 stX7_in rfl (Nat.le_of_ble_eq_true rfl) ⟨rfl, rfl, ⟨Nat.le_of_ble_eq_true rfl, Nat.le_of_ble_eq_true rfl⟩, Nat.zero_le _, Nat.zero_le _⟩ rfl (Nat.le_of_ble_eq_true rfl) dX7_luck_6 (fun x1 hx1 => ?_)
  refine rp_if_eq (tgt := 51) dX7_luck_9 (by decide) ?_ ?_
  · refine rp_mask [false, false, false, false, false] (vs2 := [none, none, none, none, none]) rfl rfl ?_
    exact rX7_luck_51 σ
  · refine rp_aload_n (x := (E.2.2.2.1 28)) dX7_luck_12 rfl ?_
    refine rp_iload_n (x := v2) dX7_luck_13 rfl ?_
    refine rp_callV_hi (As := [.int v2]) (rest := []) (b := (E.2.2.2.1 28)) (rX7_isReader σ v2) cbX7_isReader lkX7_178 viX7_isReader (rp_rcO sh28 rfl) rfl (Nat.le_of_ble_eq_true rfl) ⟨rfl, rfl, ⟨Nat.le_of_ble_eq_true rfl, Nat.le_of_ble_eq_true rfl⟩, Nat.zero_le _, Nat.zero_le _⟩ rfl (Nat.le_of_ble_eq_true rfl) dX7_luck_14 (fun x2 hx2 => ?_)
    refine rp_if_eq (tgt := 51) dX7_luck_17 (by decide) ?_ ?_
    · refine rp_mask [false, false, false, false, false] (vs2 := [none, none, none, none, none]) rfl rfl ?_
      exact rX7_luck_51 σ
    · refine rp_aload_n (x := (E.2.2.2.1 28)) dX7_luck_20 rfl ?_
      refine rp_iload_n (x := v3) dX7_luck_21 rfl ?_
      refine rp_callV_hi (As := [.int v3]) (rest := []) (b := (E.2.2.2.1 28)) (rX7_isWork σ v3) cbX7_isWork lkX7_168 viX7_isWork (rp_rcO sh28 rfl) rfl (Nat.le_of_ble_eq_true rfl) ⟨rfl, rfl, ⟨Nat.le_of_ble_eq_true rfl, Nat.le_of_ble_eq_true rfl⟩, Nat.zero_le _, Nat.zero_le _⟩ rfl (Nat.le_of_ble_eq_true rfl) dX7_luck_22 (fun x3 hx3 => ?_)
      refine rp_if_eq (tgt := 51) dX7_luck_25 (by decide) ?_ ?_
      · refine rp_mask [false, false, false, false, false] (vs2 := [none, none, none, none, none]) rfl rfl ?_
        exact rX7_luck_51 σ
      · refine rp_iload (x := v4) dX7_luck_28 rfl ?_
        refine rp_i2l dX7_luck_30 ?_
        refine rp_lconst dX7_luck_31 0 (by decide) ?_
        refine rp_lconst dX7_luck_32 1 (by decide) ?_
        refine rp_callS_hi (As := [.long (v4.toInt64), .long (rJ 0), .long (rJ 1)]) (rest := []) (rX7_in σ (v4.toInt64) (rJ 0) (rJ 1)) cbX7_in lkX7_49 stX7_in rfl (Nat.le_of_ble_eq_true rfl) ⟨rfl, rfl, ⟨Nat.le_of_ble_eq_true rfl, Nat.le_of_ble_eq_true rfl⟩, Nat.zero_le _, Nat.zero_le _⟩ rfl (Nat.le_of_ble_eq_true rfl) dX7_luck_33 (fun x4 hx4 => ?_)
        refine rp_if_eq (tgt := 51) dX7_luck_36 (by decide) ?_ ?_
        · refine rp_mask [false, false, false, false, false] (vs2 := [none, none, none, none, none]) rfl rfl ?_
          exact rX7_luck_51 σ
        · refine rp_aload_n (x := (E.2.2.2.1 28)) dX7_luck_39 rfl ?_
          refine rp_iload_n (x := v1) dX7_luck_40 rfl ?_
          refine rp_iload_n (x := v2) dX7_luck_41 rfl ?_
          refine rp_iload_n (x := v3) dX7_luck_42 rfl ?_
          refine rp_iload (x := v4) dX7_luck_43 rfl ?_
          refine rp_callV_hL (As := [.int v1, .int v2, .int v3, .int v4]) (rest := []) (b := (E.2.2.2.1 28)) (rX7_byDamp σ v1 v2 v3 v4) cbX7_byDamp lkX7_222 viX7_byDamp (rp_rcO sh28 rfl) rfl (Nat.le_of_ble_eq_true rfl) ⟨rfl, rfl, ⟨Nat.le_of_ble_eq_true rfl, Nat.le_of_ble_eq_true rfl⟩, Nat.zero_le _, Nat.zero_le _⟩ rfl (Nat.le_of_ble_eq_true rfl) dX7_luck_45 (fun p5 hp5 => ?_)
          refine rp_goto (tgt := 54) dX7_luck_48 (by decide) ?_
          exact rp_lret rfl rfl dX7_luck_54
/-! RocketPrint$Show.choicesOf(II)I -/
abbrev rmX3_choicesOf : Room := { frames := 3, cells := 0, slots := 0, locals := 66 }
def fX3_choicesOf_51 (σ : rp_S) (k16 : Int32 → Int32 → Int32 → Int32 → Option (Int32)) (v1 : Int32) (v2 : Int32) (v3 : Int32) (v4 : Int32) : Option (Int32) :=
  (k16 v1 v2 v3 (v4 + (rI 1)))
set_option maxRecDepth 100000 in
theorem rX3_choicesOf_51 {E : rp_E} (σ : rp_S) (k16 : Int32 → Int32 → Int32 → Int32 → Option (Int32)) (hk16 : ∀ (v1 : Int32) (v2 : Int32) (v3 : Int32) (v4 : Int32), rp_R E (rp_mK E rmX3_choicesOf) mX3_choicesOf 16 [some (.ref (E.2.2.2.1 4)), some (.int v1), some (.int v2), some (.int v3), some (.int v4)] [] σ (rp_hi σ) (k16 v1 v2 v3 v4)) (v1 : Int32) (v2 : Int32) (v3 : Int32) (v4 : Int32) : rp_R E (rp_mK E rmX3_choicesOf) mX3_choicesOf 51 [some (.ref (E.2.2.2.1 4)), some (.int v1), some (.int v2), some (.int v3), some (.int v4)] [] σ (rp_hi σ) (fX3_choicesOf_51 σ k16 v1 v2 v3 v4) := by
  rw [fX3_choicesOf_51]
  refine rp_iinc (x := v4) dX3_choicesOf_51 rfl (by decide) rfl ?_
  refine rp_goto (tgt := 16) dX3_choicesOf_54 (by decide) ?_
  refine rp_mask [true, true, true, true, true] (vs2 := [some (.ref (E.2.2.2.1 4)), some (.int v1), some (.int v2), some (.int v3), some (.int (v4 + (rI 1)))]) rfl rfl ?_
  exact hk16 v1 v2 v3 (v4 + (rI 1))
def fX3_choicesOf_16 (σ : rp_S) : Nat → Int32 → Int32 → Int32 → Int32 → Option (Int32)
  | 0, _, _, _, _ => none
  | n + 1, v1, v2, v3, v4 =>
    (if (σ 5 2) ≤ v4 then
    (some v3)
  else
    ((fX3_isUp σ v4 v2).bind fun x2 =>
    (if x2 = 0 then
    (fX3_choicesOf_51 σ (fun v1 v2 v3 v4 => fX3_choicesOf_16 σ n v1 v2 v3 v4) v1 v2 v3 v4)
  else
    ((fX3_reaches σ v1 v4).bind fun x3 =>
    (if x3 = 0 then
    (fX3_choicesOf_51 σ (fun v1 v2 v3 v4 => fX3_choicesOf_16 σ n v1 v2 v3 v4) v1 v2 v3 v4)
  else
    (fX3_choicesOf_51 σ (fun v1 v2 v3 v4 => fX3_choicesOf_16 σ n v1 v2 v3 v4) v1 v2 (v3 + (rI 1)) v4))))))
set_option maxRecDepth 100000 in
theorem rX3_choicesOf_16 {E : rp_E} (σ : rp_S) : ∀ (n : Nat) (v1 : Int32) (v2 : Int32) (v3 : Int32) (v4 : Int32), rp_R E (rp_mK E rmX3_choicesOf) mX3_choicesOf 16 [some (.ref (E.2.2.2.1 4)), some (.int v1), some (.int v2), some (.int v3), some (.int v4)] [] σ (rp_hi σ) (fX3_choicesOf_16 σ n v1 v2 v3 v4) := by
  intro n
  induction n with
  | zero =>
    intro v1 v2 v3 v4
    rw [fX3_choicesOf_16]
    exact rp_none
  | succ n ih =>
    intro v1 v2 v3 v4
    rw [fX3_choicesOf_16]
    refine rp_iload (x := v4) dX3_choicesOf_16 rfl ?_
    refine rp_aload_n (x := (E.2.2.2.1 4)) dX3_choicesOf_18 rfl ?_
    refine rp_getR (k := 0) (b := 5) sh4 rfl fdX3_12 dX3_choicesOf_19 ?_
    refine rp_getI (k := 2) sh5 rfl fdX3_38 dX3_choicesOf_22 ?_
    refine rp_icmp_ge (tgt := 57) dX3_choicesOf_25 (by decide) ?_ ?_
    · refine rp_iload_n (x := v3) dX3_choicesOf_57 rfl ?_
      exact rp_iret rfl rfl dX3_choicesOf_58
    · refine rp_aload_n (x := (E.2.2.2.1 4)) dX3_choicesOf_28 rfl ?_
      refine rp_iload (x := v4) dX3_choicesOf_29 rfl ?_
      refine rp_iload_n (x := v2) dX3_choicesOf_31 rfl ?_
      refine rp_callV_hi (As := [.int v4, .int v2]) (rest := []) (b := (E.2.2.2.1 4)) (rX3_isUp σ v4 v2) cbX3_isUp lkX3_75 viX3_isUp (rp_rcO sh4 rfl) rfl (Nat.le_of_ble_eq_true rfl) ⟨rfl, rfl, ⟨Nat.le_of_ble_eq_true rfl, Nat.le_of_ble_eq_true rfl⟩, Nat.zero_le _, Nat.zero_le _⟩ rfl (Nat.le_of_ble_eq_true rfl) dX3_choicesOf_32 (fun x2 hx2 => ?_)
      refine rp_if_eq (tgt := 51) dX3_choicesOf_35 (by decide) ?_ ?_
      · refine rp_mask [true, true, true, true, true] (vs2 := [some (.ref (E.2.2.2.1 4)), some (.int v1), some (.int v2), some (.int v3), some (.int v4)]) rfl rfl ?_
        exact rX3_choicesOf_51 σ (fun v1 v2 v3 v4 => fX3_choicesOf_16 σ n v1 v2 v3 v4) (fun v1 v2 v3 v4 => ih v1 v2 v3 v4) v1 v2 v3 v4
      · refine rp_aload_n (x := (E.2.2.2.1 4)) dX3_choicesOf_38 rfl ?_
        refine rp_iload_n (x := v1) dX3_choicesOf_39 rfl ?_
        refine rp_iload (x := v4) dX3_choicesOf_40 rfl ?_
        refine rp_callV_hi (As := [.int v1, .int v4]) (rest := []) (b := (E.2.2.2.1 4)) (rX3_reaches σ v1 v4) cbX3_reaches lkX3_96 viX3_reaches (rp_rcO sh4 rfl) rfl (Nat.le_of_ble_eq_true rfl) ⟨rfl, rfl, ⟨Nat.le_of_ble_eq_true rfl, Nat.le_of_ble_eq_true rfl⟩, Nat.zero_le _, Nat.zero_le _⟩ rfl (Nat.le_of_ble_eq_true rfl) dX3_choicesOf_42 (fun x3 hx3 => ?_)
        refine rp_if_eq (tgt := 51) dX3_choicesOf_45 (by decide) ?_ ?_
        · refine rp_mask [true, true, true, true, true] (vs2 := [some (.ref (E.2.2.2.1 4)), some (.int v1), some (.int v2), some (.int v3), some (.int v4)]) rfl rfl ?_
          exact rX3_choicesOf_51 σ (fun v1 v2 v3 v4 => fX3_choicesOf_16 σ n v1 v2 v3 v4) (fun v1 v2 v3 v4 => ih v1 v2 v3 v4) v1 v2 v3 v4
        · refine rp_iinc (x := v3) dX3_choicesOf_48 rfl (by decide) rfl ?_
          refine rp_mask [true, true, true, true, true] (vs2 := [some (.ref (E.2.2.2.1 4)), some (.int v1), some (.int v2), some (.int (v3 + (rI 1))), some (.int v4)]) rfl rfl ?_
          exact rX3_choicesOf_51 σ (fun v1 v2 v3 v4 => fX3_choicesOf_16 σ n v1 v2 v3 v4) (fun v1 v2 v3 v4 => ih v1 v2 v3 v4) v1 v2 (v3 + (rI 1)) v4
def fX3_choicesOf (σ : rp_S) (v1 : Int32) (v2 : Int32) : Option (Int32) :=
  ((fX3_coughsAt σ v1 v2).bind fun x1 =>
    (if x1 = 0 then
    (fX3_choicesOf_16 σ 1000 v1 v2 (rI 0) (rI 0))
  else
    (some (rI 0))))
set_option maxRecDepth 100000 in
theorem rX3_choicesOf {E : rp_E} (σ : rp_S) (v1 : Int32) (v2 : Int32)   : rp_R E (rp_mK E rmX3_choicesOf) mX3_choicesOf 0 [some (.ref (E.2.2.2.1 4)), some (.int v1), some (.int v2), none, none] [] σ (rp_hi σ) (fX3_choicesOf σ v1 v2) := by
  rw [fX3_choicesOf]
  refine rp_aload_n (x := (E.2.2.2.1 4)) dX3_choicesOf_0 rfl ?_
  refine rp_iload_n (x := v1) dX3_choicesOf_1 rfl ?_
  refine rp_iload_n (x := v2) dX3_choicesOf_2 rfl ?_
  refine rp_callV_hi (As := [.int v1, .int v2]) (rest := []) (b := (E.2.2.2.1 4)) (rX3_coughsAt σ v1 v2) cbX3_coughsAt lkX3_71 viX3_coughsAt (rp_rcO sh4 rfl) rfl (Nat.le_of_ble_eq_true rfl) ⟨rfl, rfl, ⟨Nat.le_of_ble_eq_true rfl, Nat.le_of_ble_eq_true rfl⟩, Nat.zero_le _, Nat.zero_le _⟩ rfl (Nat.le_of_ble_eq_true rfl) dX3_choicesOf_3 (fun x1 hx1 => ?_)
  refine rp_if_eq (tgt := 11) dX3_choicesOf_6 (by decide) ?_ ?_
  · refine rp_iconst dX3_choicesOf_11 ?_
    refine rp_istore_n dX3_choicesOf_12 (by decide) rfl ?_
    refine rp_iconst dX3_choicesOf_13 ?_
    refine rp_istore dX3_choicesOf_14 (by decide) rfl ?_
    refine rp_mask [true, true, true, true, true] (vs2 := [some (.ref (E.2.2.2.1 4)), some (.int v1), some (.int v2), some (.int (rI 0)), some (.int (rI 0))]) rfl rfl ?_
    exact rX3_choicesOf_16 σ 1000 v1 v2 (rI 0) (rI 0)
  · refine rp_iconst dX3_choicesOf_9 ?_
    exact rp_iret rfl rfl dX3_choicesOf_10
/-! RocketPrint.mean(II)J -/
abbrev rmX6_mean : Room := { frames := 5, cells := 0, slots := 0, locals := 104 }
def fX6_mean_19 (σ : rp_S) : Option (Int64 × rp_S) :=
  (some ((rJ (-1)), σ))
set_option maxRecDepth 100000 in
theorem rX6_mean_19 {E : rp_E} (σ : rp_S) : rp_R E (rp_mK E rmX6_mean) mX6_mean 19 [none, none, none, none, none, none, none, none, none, none] [] σ rp_hL (fX6_mean_19 σ) := by
  rw [fX6_mean_19]
  refine rp_ldc2 (v := (rJ (-1))) clX6_224 dX6_mean_19 ?_
  exact rp_lret rfl rfl dX6_mean_22
def fX6_mean_64 (k49 : rp_S → Int32 → Int32 → Int64 → Int64 → Int32 → Option (Int64 × rp_S)) : Nat → rp_S → Int32 → Int32 → Int64 → Int64 → Int32 → Int32 → Option (Int64 × rp_S)
  | 0, _, _, _, _, _, _, _ => none
  | n + 1, σ, v1, v2, v3, v5, v7, v8 =>
    (if (rI 80) ≤ v8 then
    (k49 σ v1 v2 v3 v5 (v7 + (rI 1)))
  else
    ((fX3_choicesOf σ v7 v8).bind fun x6 =>
    ((fX6_power (v1.toInt64) x6).bind fun x7 =>
    ((fX6_power (rJ 10) ((rI 6) - x6)).bind fun x8 =>
    (fX6_mean_64 k49 n σ v1 v2 v3 (v5 + (v3 - (x7 * x8))) v7 (v8 + (rI 1)))))))
set_option maxRecDepth 100000 in
theorem rX6_mean_64 {E : rp_E} (k49 : rp_S → Int32 → Int32 → Int64 → Int64 → Int32 → Option (Int64 × rp_S)) (hk49 : ∀ (σ : rp_S) (v1 : Int32) (v2 : Int32) (v3 : Int64) (v5 : Int64) (v7 : Int32), rp_R E (rp_mK E rmX6_mean) mX6_mean 49 [some (.ref (E.2.2.2.1 0)), some (.int v1), some (.int v2), some (.long v3), none, some (.long v5), none, some (.int v7), none, none] [] σ rp_hL (k49 σ v1 v2 v3 v5 v7)) : ∀ (n : Nat) (σ : rp_S) (v1 : Int32) (v2 : Int32) (v3 : Int64) (v5 : Int64) (v7 : Int32) (v8 : Int32), rp_R E (rp_mK E rmX6_mean) mX6_mean 64 [some (.ref (E.2.2.2.1 0)), some (.int v1), some (.int v2), some (.long v3), none, some (.long v5), none, some (.int v7), some (.int v8), none] [] σ rp_hL (fX6_mean_64 k49 n σ v1 v2 v3 v5 v7 v8) := by
  intro n
  induction n with
  | zero =>
    intro σ v1 v2 v3 v5 v7 v8
    rw [fX6_mean_64]
    exact rp_none
  | succ n ih =>
    intro σ v1 v2 v3 v5 v7 v8
    rw [fX6_mean_64]
    refine rp_iload (x := v8) dX6_mean_64 rfl ?_
    refine rp_bipush dX6_mean_66 (by decide) ?_
    refine rp_icmp_ge (tgt := 116) dX6_mean_68 (by decide) ?_ ?_
    · refine rp_iinc (x := v7) dX6_mean_116 rfl (by decide) rfl ?_
      refine rp_goto (tgt := 49) dX6_mean_119 (by decide) ?_
      refine rp_mask [true, true, true, true, false, true, false, true, false, false] (vs2 := [some (.ref (E.2.2.2.1 0)), some (.int v1), some (.int v2), some (.long v3), none, some (.long v5), none, some (.int (v7 + (rI 1))), none, none]) rfl rfl ?_
      exact hk49 σ v1 v2 v3 v5 (v7 + (rI 1))
    · refine rp_aload_n (x := (E.2.2.2.1 0)) dX6_mean_71 rfl ?_
      refine rp_getR (k := 1) (b := 4) sh0 rfl fdX6_19 dX6_mean_72 ?_
      refine rp_iload (x := v7) dX6_mean_75 rfl ?_
      refine rp_iload (x := v8) dX6_mean_77 rfl ?_
      refine rp_callV_hi (As := [.int v7, .int v8]) (rest := []) (b := (E.2.2.2.1 4)) (rX3_choicesOf σ v7 v8) cbX3_choicesOf lkX6_242 viX3_choicesOf (rp_rcO sh4 rfl) rfl (Nat.le_of_ble_eq_true rfl) ⟨rfl, rfl, ⟨Nat.le_of_ble_eq_true rfl, Nat.le_of_ble_eq_true rfl⟩, Nat.zero_le _, Nat.zero_le _⟩ rfl (Nat.le_of_ble_eq_true rfl) dX6_mean_79 (fun x6 hx6 => ?_)
      refine rp_istore dX6_mean_82 (by decide) rfl ?_
      refine rp_lload (x := v5) dX6_mean_84 rfl ?_
      refine rp_lload_n (x := v3) dX6_mean_86 rfl ?_
      refine rp_iload_n (x := v1) dX6_mean_87 rfl ?_
      refine rp_i2l dX6_mean_88 ?_
      refine rp_iload (x := x6) dX6_mean_89 rfl ?_
      refine rp_callS_hl (As := [.long (v1.toInt64), .int x6]) (rest := [.long v3, .long v5]) (rX6_power σ (v1.toInt64) x6) cbX6_power lkX6_236 stX6_power rfl (Nat.le_of_ble_eq_true rfl) ⟨rfl, rfl, ⟨Nat.le_of_ble_eq_true rfl, Nat.le_of_ble_eq_true rfl⟩, Nat.zero_le _, Nat.zero_le _⟩ rfl (Nat.le_of_ble_eq_true rfl) dX6_mean_91 (fun x7 hx7 => ?_)
      refine rp_ldc2 (v := (rJ 10)) clX6_240 dX6_mean_94 ?_
      refine rp_bipush dX6_mean_97 (by decide) ?_
      refine rp_iload (x := x6) dX6_mean_99 rfl ?_
      refine rp_isub dX6_mean_101 ?_
      refine rp_callS_hl (As := [.long (rJ 10), .int ((rI 6) - x6)]) (rest := [.long x7, .long v3, .long v5]) (rX6_power σ (rJ 10) ((rI 6) - x6)) cbX6_power lkX6_236 stX6_power rfl (Nat.le_of_ble_eq_true rfl) ⟨rfl, rfl, ⟨Nat.le_of_ble_eq_true rfl, Nat.le_of_ble_eq_true rfl⟩, Nat.zero_le _, Nat.zero_le _⟩ rfl (Nat.le_of_ble_eq_true rfl) dX6_mean_102 (fun x8 hx8 => ?_)
      refine rp_lmul dX6_mean_105 ?_
      refine rp_lsub dX6_mean_106 ?_
      refine rp_ladd dX6_mean_107 ?_
      refine rp_lstore dX6_mean_108 (by decide) rfl ?_
      refine rp_iinc (x := v8) dX6_mean_110 rfl (by decide) rfl ?_
      refine rp_goto (tgt := 64) dX6_mean_113 (by decide) ?_
      refine rp_mask [true, true, true, true, false, true, false, true, true, false] (vs2 := [some (.ref (E.2.2.2.1 0)), some (.int v1), some (.int v2), some (.long v3), none, some (.long (v5 + (v3 - (x7 * x8)))), none, some (.int v7), some (.int (v8 + (rI 1))), none]) rfl rfl ?_
      exact ih σ v1 v2 v3 (v5 + (v3 - (x7 * x8))) v7 (v8 + (rI 1))
def fX6_mean_49  : Nat → rp_S → Int32 → Int32 → Int64 → Int64 → Int32 → Option (Int64 × rp_S)
  | 0, _, _, _, _, _, _ => none
  | n + 1, σ, v1, v2, v3, v5, v7 =>
    (if (σ 1 3) ≤ v7 then
    ((fX6_partOf v5 v3 v2).bind fun x5 =>
    (some (x5, σ)))
  else
    (fX6_mean_64 (fun σ v1 v2 v3 v5 v7 => fX6_mean_49 n σ v1 v2 v3 v5 v7) 1000 σ v1 v2 v3 v5 v7 (rI 0)))
set_option maxRecDepth 100000 in
theorem rX6_mean_49 {E : rp_E}  : ∀ (n : Nat) (σ : rp_S) (v1 : Int32) (v2 : Int32) (v3 : Int64) (v5 : Int64) (v7 : Int32), rp_R E (rp_mK E rmX6_mean) mX6_mean 49 [some (.ref (E.2.2.2.1 0)), some (.int v1), some (.int v2), some (.long v3), none, some (.long v5), none, some (.int v7), none, none] [] σ rp_hL (fX6_mean_49 n σ v1 v2 v3 v5 v7) := by
  intro n
  induction n with
  | zero =>
    intro σ v1 v2 v3 v5 v7
    rw [fX6_mean_49]
    exact rp_none
  | succ n ih =>
    intro σ v1 v2 v3 v5 v7
    rw [fX6_mean_49]
    refine rp_iload (x := v7) dX6_mean_49 rfl ?_
    refine rp_aload_n (x := (E.2.2.2.1 0)) dX6_mean_51 rfl ?_
    refine rp_getR (k := 0) (b := 1) sh0 rfl fdX6_10 dX6_mean_52 ?_
    refine rp_getI (k := 3) sh1 rfl fdX6_95 dX6_mean_55 ?_
    refine rp_icmp_ge (tgt := 122) dX6_mean_58 (by decide) ?_ ?_
    · refine rp_lload (x := v5) dX6_mean_122 rfl ?_
      refine rp_lload_n (x := v3) dX6_mean_124 rfl ?_
      refine rp_iload_n (x := v2) dX6_mean_125 rfl ?_
      refine rp_callS_hl (As := [.long v5, .long v3, .int v2]) (rest := []) (rX6_partOf σ v5 v3 v2) cbX6_partOf lkX6_229 stX6_partOf rfl (Nat.le_of_ble_eq_true rfl) ⟨rfl, rfl, ⟨Nat.le_of_ble_eq_true rfl, Nat.le_of_ble_eq_true rfl⟩, Nat.zero_le _, Nat.zero_le _⟩ rfl (Nat.le_of_ble_eq_true rfl) dX6_mean_126 (fun x5 hx5 => ?_)
      exact rp_lret rfl rfl dX6_mean_129
    · refine rp_iconst dX6_mean_61 ?_
      refine rp_istore dX6_mean_62 (by decide) rfl ?_
      refine rp_mask [true, true, true, true, false, true, false, true, true, false] (vs2 := [some (.ref (E.2.2.2.1 0)), some (.int v1), some (.int v2), some (.long v3), none, some (.long v5), none, some (.int v7), some (.int (rI 0)), none]) rfl rfl ?_
      exact rX6_mean_64 (fun σ v1 v2 v3 v5 v7 => fX6_mean_49 n σ v1 v2 v3 v5 v7) (fun σ v1 v2 v3 v5 v7 => ih σ v1 v2 v3 v5 v7) 1000 σ v1 v2 v3 v5 v7 (rI 0)
def fX6_mean (σ : rp_S) (v1 : Int32) (v2 : Int32) : Option (Int64 × rp_S) :=
  ((fX6_within v1 (rI 0) (rI 10)).bind fun x1 =>
    (if x1 = 0 then
    (fX6_mean_19 σ)
  else
    ((fX6_within v2 (rI 0) (rI 1)).bind fun x2 =>
    (if x2 = 0 then
    (fX6_mean_19 σ)
  else
    ((fX3_begin σ 1).bind fun σ3 =>
    ((fX6_power (rJ 10) (rI 6)).bind fun x4 =>
    (fX6_mean_49 1000 σ3 v1 v2 x4 (rJ 0) (rI 0))))))))
set_option maxRecDepth 100000 in
theorem rX6_mean {E : rp_E} (σ : rp_S) (v1 : Int32) (v2 : Int32)   : rp_R E (rp_mK E rmX6_mean) mX6_mean 0 [some (.ref (E.2.2.2.1 0)), some (.int v1), some (.int v2), none, none, none, none, none, none, none] [] σ rp_hL (fX6_mean σ v1 v2) := by
  rw [fX6_mean]
  refine rp_iload_n (x := v1) dX6_mean_0 rfl ?_
  refine rp_iconst dX6_mean_1 ?_
  refine rp_bipush dX6_mean_2 (by decide) ?_
  refine rp_callS_hi (As := [.int v1, .int (rI 0), .int (rI 10)]) (rest := []) (rX6_within σ v1 (rI 0) (rI 10)) cbX6_within lkX6_57 stX6_within rfl (Nat.le_of_ble_eq_true rfl) ⟨rfl, rfl, ⟨Nat.le_of_ble_eq_true rfl, Nat.le_of_ble_eq_true rfl⟩, Nat.zero_le _, Nat.zero_le _⟩ rfl (Nat.le_of_ble_eq_true rfl) dX6_mean_4 (fun x1 hx1 => ?_)
  refine rp_if_eq (tgt := 19) dX6_mean_7 (by decide) ?_ ?_
  · refine rp_mask [false, false, false, false, false, false, false, false, false, false] (vs2 := [none, none, none, none, none, none, none, none, none, none]) rfl rfl ?_
    exact rX6_mean_19 σ
  · refine rp_iload_n (x := v2) dX6_mean_10 rfl ?_
    refine rp_iconst dX6_mean_11 ?_
    refine rp_iconst dX6_mean_12 ?_
    refine rp_callS_hi (As := [.int v2, .int (rI 0), .int (rI 1)]) (rest := []) (rX6_within σ v2 (rI 0) (rI 1)) cbX6_within lkX6_57 stX6_within rfl (Nat.le_of_ble_eq_true rfl) ⟨rfl, rfl, ⟨Nat.le_of_ble_eq_true rfl, Nat.le_of_ble_eq_true rfl⟩, Nat.zero_le _, Nat.zero_le _⟩ rfl (Nat.le_of_ble_eq_true rfl) dX6_mean_13 (fun x2 hx2 => ?_)
    refine rp_if_ne (tgt := 23) dX6_mean_16 (by decide) ?_ ?_
    · refine rp_aload_n (x := (E.2.2.2.1 0)) dX6_mean_23 rfl ?_
      refine rp_getR (k := 1) (b := 4) sh0 rfl fdX6_19 dX6_mean_24 ?_
      refine rp_aload_n (x := (E.2.2.2.1 0)) dX6_mean_27 rfl ?_
      refine rp_getR (k := 0) (b := 1) sh0 rfl fdX6_10 dX6_mean_28 ?_
      refine rp_callV_hv (As := [.ref (E.2.2.2.1 1)]) (rest := []) (b := (E.2.2.2.1 4)) (rX3_begin σ 1 ni1) cbX3_begin lkX6_104 viX3_begin (rp_rcO sh4 rfl) rfl (Nat.le_of_ble_eq_true rfl) ⟨rfl, rfl, ⟨Nat.le_of_ble_eq_true rfl, Nat.le_of_ble_eq_true rfl⟩, Nat.zero_le _, Nat.zero_le _⟩ rfl (Nat.le_of_ble_eq_true rfl) dX6_mean_31 (fun σ3 hσ3 => ?_)
      refine rp_ldc2 (v := (rJ 10)) clX6_240 dX6_mean_34 ?_
      refine rp_bipush dX6_mean_37 (by decide) ?_
      refine rp_callS_hl (As := [.long (rJ 10), .int (rI 6)]) (rest := []) (rX6_power σ3 (rJ 10) (rI 6)) cbX6_power lkX6_236 stX6_power rfl (Nat.le_of_ble_eq_true rfl) ⟨rfl, rfl, ⟨Nat.le_of_ble_eq_true rfl, Nat.le_of_ble_eq_true rfl⟩, Nat.zero_le _, Nat.zero_le _⟩ rfl (Nat.le_of_ble_eq_true rfl) dX6_mean_39 (fun x4 hx4 => ?_)
      refine rp_lstore_n dX6_mean_42 (by decide) rfl ?_
      refine rp_lconst dX6_mean_43 0 (by decide) ?_
      refine rp_lstore dX6_mean_44 (by decide) rfl ?_
      refine rp_iconst dX6_mean_46 ?_
      refine rp_istore dX6_mean_47 (by decide) rfl ?_
      refine rp_mask [true, true, true, true, false, true, false, true, false, false] (vs2 := [some (.ref (E.2.2.2.1 0)), some (.int v1), some (.int v2), some (.long x4), none, some (.long (rJ 0)), none, some (.int (rI 0)), none, none]) rfl rfl ?_
      exact rX6_mean_49 1000 σ3 v1 v2 x4 (rJ 0) (rI 0)
    · refine rp_mask [false, false, false, false, false, false, false, false, false, false] (vs2 := [none, none, none, none, none, none, none, none, none, none]) rfl rfl ?_
      exact rX6_mean_19 σ
/-! RocketPrintModel.mean(II)J -/
abbrev rmX7_mean : Room := { frames := 5, cells := 0, slots := 0, locals := 133 }
def fX7_mean_34 (σ : rp_S) : Option (Int64 × rp_S) :=
  (some ((rJ (-1)), σ))
set_option maxRecDepth 100000 in
theorem rX7_mean_34 {E : rp_E} (σ : rp_S) : rp_R E (rp_mK E rmX7_mean) mX7_mean 34 [none, none, none] [] σ rp_hL (fX7_mean_34 σ) := by
  rw [fX7_mean_34]
  refine rp_ldc2 (v := (rJ (-1))) clX7_226 dX7_mean_34 ?_
  exact rp_lret rfl rfl dX7_mean_37
def fX7_mean (σ : rp_S) (v1 : Int32) (v2 : Int32) : Option (Int64 × rp_S) :=
  ((fX7_in (v1.toInt64) (rJ 0) (rJ 10)).bind fun x1 =>
    (if x1 = 0 then
    (fX7_mean_34 σ)
  else
    ((fX7_in (v2.toInt64) (rJ 0) (rJ 1)).bind fun x2 =>
    (if x2 = 0 then
    (fX7_mean_34 σ)
  else
    ((fX7_byDamp σ v1 (rI (-4)) (rI 0) v2).bind fun p3 =>
    (some (p3.1, p3.2)))))))
set_option maxRecDepth 100000 in
theorem rX7_mean {E : rp_E} (σ : rp_S) (v1 : Int32) (v2 : Int32)   : rp_R E (rp_mK E rmX7_mean) mX7_mean 0 [some (.ref (E.2.2.2.1 28)), some (.int v1), some (.int v2)] [] σ rp_hL (fX7_mean σ v1 v2) := by
  rw [fX7_mean]
  refine rp_iload_n (x := v1) dX7_mean_0 rfl ?_
  refine rp_i2l dX7_mean_1 ?_
  refine rp_lconst dX7_mean_2 0 (by decide) ?_
  refine rp_ldc2 (v := (rJ 10)) clX7_216 dX7_mean_3 ?_
  refine rp_callS_hi (As := [.long (v1.toInt64), .long (rJ 0), .long (rJ 10)]) (rest := []) (rX7_in σ (v1.toInt64) (rJ 0) (rJ 10)) cbX7_in lkX7_49 stX7_in rfl (Nat.le_of_ble_eq_true rfl) ⟨rfl, rfl, ⟨Nat.le_of_ble_eq_true rfl, Nat.le_of_ble_eq_true rfl⟩, Nat.zero_le _, Nat.zero_le _⟩ rfl (Nat.le_of_ble_eq_true rfl) dX7_mean_6 (fun x1 hx1 => ?_)
  refine rp_if_eq (tgt := 34) dX7_mean_9 (by decide) ?_ ?_
  · refine rp_mask [false, false, false] (vs2 := [none, none, none]) rfl rfl ?_
    exact rX7_mean_34 σ
  · refine rp_iload_n (x := v2) dX7_mean_12 rfl ?_
    refine rp_i2l dX7_mean_13 ?_
    refine rp_lconst dX7_mean_14 0 (by decide) ?_
    refine rp_lconst dX7_mean_15 1 (by decide) ?_
    refine rp_callS_hi (As := [.long (v2.toInt64), .long (rJ 0), .long (rJ 1)]) (rest := []) (rX7_in σ (v2.toInt64) (rJ 0) (rJ 1)) cbX7_in lkX7_49 stX7_in rfl (Nat.le_of_ble_eq_true rfl) ⟨rfl, rfl, ⟨Nat.le_of_ble_eq_true rfl, Nat.le_of_ble_eq_true rfl⟩, Nat.zero_le _, Nat.zero_le _⟩ rfl (Nat.le_of_ble_eq_true rfl) dX7_mean_16 (fun x2 hx2 => ?_)
    refine rp_if_eq (tgt := 34) dX7_mean_19 (by decide) ?_ ?_
    · refine rp_mask [false, false, false] (vs2 := [none, none, none]) rfl rfl ?_
      exact rX7_mean_34 σ
    · refine rp_aload_n (x := (E.2.2.2.1 28)) dX7_mean_22 rfl ?_
      refine rp_iload_n (x := v1) dX7_mean_23 rfl ?_
      refine rp_bipush dX7_mean_24 (by decide) ?_
      refine rp_iconst dX7_mean_26 ?_
      refine rp_iload_n (x := v2) dX7_mean_27 rfl ?_
      refine rp_callV_hL (As := [.int v1, .int (rI (-4)), .int (rI 0), .int v2]) (rest := []) (b := (E.2.2.2.1 28)) (rX7_byDamp σ v1 (rI (-4)) (rI 0) v2) cbX7_byDamp lkX7_222 viX7_byDamp (rp_rcO sh28 rfl) rfl (Nat.le_of_ble_eq_true rfl) ⟨rfl, rfl, ⟨Nat.le_of_ble_eq_true rfl, Nat.le_of_ble_eq_true rfl⟩, Nat.zero_le _, Nat.zero_le _⟩ rfl (Nat.le_of_ble_eq_true rfl) dX7_mean_28 (fun p3 hp3 => ?_)
      refine rp_goto (tgt := 37) dX7_mean_31 (by decide) ?_
      exact rp_lret rfl rfl dX7_mean_37
/-! RocketPrint$Sticks.add(II)V -/
abbrev rmX4_add : Room := { frames := 0, cells := 0, slots := 0, locals := 0 }
def fX4_add (σ : rp_S) (v1 : Int32) (v2 : Int32) : Option (rp_S) :=
  ((rq_wr σ 16 6 (σ 15 2) v1).bind fun σ1 =>
    ((rq_wr σ1 17 6 (σ1 15 2) v2).bind fun σ2 =>
    ((some (rp_up σ2 15 2 ((σ2 15 2) + (rI 1)))).bind fun σ3 =>
    (some σ3))))
set_option maxRecDepth 100000 in
theorem rX4_add {E : rp_E} (σ : rp_S) (v1 : Int32) (v2 : Int32)   : rp_R E (rp_mK E rmX4_add) mX4_add 0 [some (.ref (E.2.2.2.1 15)), some (.int v1), some (.int v2)] [] σ rp_hv (fX4_add σ v1 v2) := by
  rw [fX4_add]
  refine rp_aload_n (x := (E.2.2.2.1 15)) dX4_add_0 rfl ?_
  refine rp_getR (k := 0) (b := 16) sh15 rfl fdX4_9 dX4_add_1 ?_
  refine rp_aload_n (x := (E.2.2.2.1 15)) dX4_add_4 rfl ?_
  refine rp_getI (k := 2) sh15 rfl fdX4_18 dX4_add_5 ?_
  refine rp_iload_n (x := v1) dX4_add_8 rfl ?_
  refine rp_iastore sh16 dX4_add_9 (fun σ1 => ?_)
  refine rp_aload_n (x := (E.2.2.2.1 15)) dX4_add_10 rfl ?_
  refine rp_getR (k := 1) (b := 17) sh15 rfl fdX4_15 dX4_add_11 ?_
  refine rp_aload_n (x := (E.2.2.2.1 15)) dX4_add_14 rfl ?_
  refine rp_getI (k := 2) sh15 rfl fdX4_18 dX4_add_15 ?_
  refine rp_iload_n (x := v2) dX4_add_18 rfl ?_
  refine rp_iastore sh17 dX4_add_19 (fun σ2 => ?_)
  refine rp_aload_n (x := (E.2.2.2.1 15)) dX4_add_20 rfl ?_
  refine rp_dup dX4_add_21 rfl ?_
  refine rp_getI (k := 2) sh15 rfl fdX4_18 dX4_add_22 ?_
  refine rp_iconst dX4_add_25 ?_
  refine rp_iadd dX4_add_26 ?_
  refine rp_putB (k := 2) sh15 rfl fpX4_18 (vp_nar_int _) rfl dX4_add_27 (fun σ3 => ?_)
  exact rp_vret rfl rfl dX4_add_30
/-! RocketPrint.see(II)I -/
abbrev rmX6_see : Room := { frames := 2, cells := 0, slots := 0, locals := 43 }
def fX6_see (σ : rp_S) (v1 : Int32) (v2 : Int32) : Option (Int32 × rp_S) :=
  ((fX1_hasWork σ 1 v1).bind fun x1 =>
    (if x1 = 0 then
    (some ((rI (-1)), σ))
  else
    ((fX6_within v2 (rI 0) (rI 11)).bind fun x2 =>
    (if x2 = 0 then
    (some ((rI (-1)), σ))
  else
    (if (σ 15 2) < (rI 6) then
    ((fX4_add σ v1 v2).bind fun σ3 =>
    (some ((σ3 15 2), σ3)))
  else
    (some ((rI (-3)), σ)))))))
set_option maxRecDepth 100000 in
theorem rX6_see {E : rp_E} (σ : rp_S) (v1 : Int32) (v2 : Int32)   : rp_R E (rp_mK E rmX6_see) mX6_see 0 [some (.ref (E.2.2.2.1 0)), some (.int v1), some (.int v2)] [] σ rp_hI (fX6_see σ v1 v2) := by
  rw [fX6_see]
  refine rp_aload_n (x := (E.2.2.2.1 0)) dX6_see_0 rfl ?_
  refine rp_getR (k := 0) (b := 1) sh0 rfl fdX6_10 dX6_see_1 ?_
  refine rp_iload_n (x := v1) dX6_see_4 rfl ?_
  refine rp_callV_hi (As := [.int v1]) (rest := []) (b := (E.2.2.2.1 1)) (rX1_hasWork σ 1 v1 ni1) cbX1_hasWork lkX6_114 viX1_hasWork (rp_rcO sh1 rfl) rfl (Nat.le_of_ble_eq_true rfl) ⟨rfl, rfl, ⟨Nat.le_of_ble_eq_true rfl, Nat.le_of_ble_eq_true rfl⟩, Nat.zero_le _, Nat.zero_le _⟩ rfl (Nat.le_of_ble_eq_true rfl) dX6_see_5 (fun x1 hx1 => ?_)
  refine rp_if_eq (tgt := 21) dX6_see_8 (by decide) ?_ ?_
  · refine rp_iconst dX6_see_21 ?_
    exact rp_iret rfl rfl dX6_see_22
  · refine rp_iload_n (x := v2) dX6_see_11 rfl ?_
    refine rp_iconst dX6_see_12 ?_
    refine rp_bipush dX6_see_13 (by decide) ?_
    refine rp_callS_hi (As := [.int v2, .int (rI 0), .int (rI 11)]) (rest := []) (rX6_within σ v2 (rI 0) (rI 11)) cbX6_within lkX6_57 stX6_within rfl (Nat.le_of_ble_eq_true rfl) ⟨rfl, rfl, ⟨Nat.le_of_ble_eq_true rfl, Nat.le_of_ble_eq_true rfl⟩, Nat.zero_le _, Nat.zero_le _⟩ rfl (Nat.le_of_ble_eq_true rfl) dX6_see_15 (fun x2 hx2 => ?_)
    refine rp_if_ne (tgt := 23) dX6_see_18 (by decide) ?_ ?_
    · refine rp_aload_n (x := (E.2.2.2.1 0)) dX6_see_23 rfl ?_
      refine rp_getR (k := 4) (b := 15) sh0 rfl fdX6_40 dX6_see_24 ?_
      refine rp_getI (k := 2) sh15 rfl fdX6_86 dX6_see_27 ?_
      refine rp_bipush dX6_see_30 (by decide) ?_
      refine rp_icmp_lt (tgt := 38) dX6_see_32 (by decide) ?_ ?_
      · refine rp_aload_n (x := (E.2.2.2.1 0)) dX6_see_38 rfl ?_
        refine rp_getR (k := 4) (b := 15) sh0 rfl fdX6_40 dX6_see_39 ?_
        refine rp_iload_n (x := v1) dX6_see_42 rfl ?_
        refine rp_iload_n (x := v2) dX6_see_43 rfl ?_
        refine rp_callV_hv (As := [.int v1, .int v2]) (rest := []) (b := (E.2.2.2.1 15)) (rX4_add σ v1 v2) cbX4_add lkX6_245 viX4_add (rp_rcO sh15 rfl) rfl (Nat.le_of_ble_eq_true rfl) ⟨rfl, rfl, ⟨Nat.le_of_ble_eq_true rfl, Nat.le_of_ble_eq_true rfl⟩, Nat.zero_le _, Nat.zero_le _⟩ rfl (Nat.le_of_ble_eq_true rfl) dX6_see_44 (fun σ3 hσ3 => ?_)
        refine rp_aload_n (x := (E.2.2.2.1 0)) dX6_see_47 rfl ?_
        refine rp_getR (k := 4) (b := 15) sh0 rfl fdX6_40 dX6_see_48 ?_
        refine rp_getI (k := 2) sh15 rfl fdX6_86 dX6_see_51 ?_
        exact rp_iret rfl rfl dX6_see_54
      · refine rp_bipush dX6_see_35 (by decide) ?_
        exact rp_iret rfl rfl dX6_see_37
    · refine rp_iconst dX6_see_21 ?_
      exact rp_iret rfl rfl dX6_see_22
/-! RocketPrintModel.see(II)I -/
abbrev rmX7_see : Room := { frames := 2, cells := 0, slots := 0, locals := 46 }
def fX7_see (σ : rp_S) (v1 : Int32) (v2 : Int32) : Option (Int32 × rp_S) :=
  ((fX7_isWork σ v1).bind fun x1 =>
    (if x1 = 0 then
    (some ((rI (-1)), σ))
  else
    ((fX7_isPlace v2).bind fun x2 =>
    (if x2 = 0 then
    (some ((rI (-1)), σ))
  else
    (if (σ 28 20) = (rI 6) then
    (some ((rI (-3)), σ))
  else
    ((rq_wr σ 35 12 ((rI 2) * (σ 28 20)) v1).bind fun σ3 =>
    ((rq_wr σ3 35 12 (((rI 2) * (σ3 28 20)) + (rI 1)) v2).bind fun σ4 =>
    ((some (rp_up σ4 28 20 ((σ4 28 20) + (rI 1)))).bind fun σ5 =>
    (some ((σ5 28 20), σ5))))))))))
set_option maxRecDepth 100000 in
theorem rX7_see {E : rp_E} (σ : rp_S) (v1 : Int32) (v2 : Int32)   : rp_R E (rp_mK E rmX7_see) mX7_see 0 [some (.ref (E.2.2.2.1 28)), some (.int v1), some (.int v2)] [] σ rp_hI (fX7_see σ v1 v2) := by
  rw [fX7_see]
  refine rp_aload_n (x := (E.2.2.2.1 28)) dX7_see_0 rfl ?_
  refine rp_iload_n (x := v1) dX7_see_1 rfl ?_
  refine rp_callV_hi (As := [.int v1]) (rest := []) (b := (E.2.2.2.1 28)) (rX7_isWork σ v1) cbX7_isWork lkX7_168 viX7_isWork (rp_rcO sh28 rfl) rfl (Nat.le_of_ble_eq_true rfl) ⟨rfl, rfl, ⟨Nat.le_of_ble_eq_true rfl, Nat.le_of_ble_eq_true rfl⟩, Nat.zero_le _, Nat.zero_le _⟩ rfl (Nat.le_of_ble_eq_true rfl) dX7_see_2 (fun x1 hx1 => ?_)
  refine rp_if_eq (tgt := 15) dX7_see_5 (by decide) ?_ ?_
  · refine rp_iconst dX7_see_15 ?_
    exact rp_iret rfl rfl dX7_see_16
  · refine rp_iload_n (x := v2) dX7_see_8 rfl ?_
    refine rp_callS_hi (As := [.int v2]) (rest := []) (rX7_isPlace σ v2) cbX7_isPlace lkX7_189 stX7_isPlace rfl (Nat.le_of_ble_eq_true rfl) ⟨rfl, rfl, ⟨Nat.le_of_ble_eq_true rfl, Nat.le_of_ble_eq_true rfl⟩, Nat.zero_le _, Nat.zero_le _⟩ rfl (Nat.le_of_ble_eq_true rfl) dX7_see_9 (fun x2 hx2 => ?_)
    refine rp_if_ne (tgt := 17) dX7_see_12 (by decide) ?_ ?_
    · refine rp_aload_n (x := (E.2.2.2.1 28)) dX7_see_17 rfl ?_
      refine rp_getI (k := 20) sh28 rfl fdX7_116 dX7_see_18 ?_
      refine rp_bipush dX7_see_21 (by decide) ?_
      refine rp_icmp_ne (tgt := 29) dX7_see_23 (by decide) ?_ ?_
      · refine rp_aload_n (x := (E.2.2.2.1 28)) dX7_see_29 rfl ?_
        refine rp_getR (k := 19) (b := 35) sh28 rfl fdX7_28 dX7_see_30 ?_
        refine rp_iconst dX7_see_33 ?_
        refine rp_aload_n (x := (E.2.2.2.1 28)) dX7_see_34 rfl ?_
        refine rp_getI (k := 20) sh28 rfl fdX7_116 dX7_see_35 ?_
        refine rp_imul dX7_see_38 ?_
        refine rp_iload_n (x := v1) dX7_see_39 rfl ?_
        refine rp_iastore sh35 dX7_see_40 (fun σ3 => ?_)
        refine rp_aload_n (x := (E.2.2.2.1 28)) dX7_see_41 rfl ?_
        refine rp_getR (k := 19) (b := 35) sh28 rfl fdX7_28 dX7_see_42 ?_
        refine rp_iconst dX7_see_45 ?_
        refine rp_aload_n (x := (E.2.2.2.1 28)) dX7_see_46 rfl ?_
        refine rp_getI (k := 20) sh28 rfl fdX7_116 dX7_see_47 ?_
        refine rp_imul dX7_see_50 ?_
        refine rp_iconst dX7_see_51 ?_
        refine rp_iadd dX7_see_52 ?_
        refine rp_iload_n (x := v2) dX7_see_53 rfl ?_
        refine rp_iastore sh35 dX7_see_54 (fun σ4 => ?_)
        refine rp_aload_n (x := (E.2.2.2.1 28)) dX7_see_55 rfl ?_
        refine rp_dup dX7_see_56 rfl ?_
        refine rp_getI (k := 20) sh28 rfl fdX7_116 dX7_see_57 ?_
        refine rp_iconst dX7_see_60 ?_
        refine rp_iadd dX7_see_61 ?_
        refine rp_putB (k := 20) sh28 rfl fpX7_116 (vp_nar_int _) rfl dX7_see_62 (fun σ5 => ?_)
        refine rp_aload_n (x := (E.2.2.2.1 28)) dX7_see_65 rfl ?_
        refine rp_getI (k := 20) sh28 rfl fdX7_116 dX7_see_66 ?_
        exact rp_iret rfl rfl dX7_see_69
      · refine rp_bipush dX7_see_26 (by decide) ?_
        exact rp_iret rfl rfl dX7_see_28
    · refine rp_iconst dX7_see_15 ?_
      exact rp_iret rfl rfl dX7_see_16
/-! RocketPrint.forget(I)I -/
abbrev rmX6_forget : Room := { frames := 1, cells := 0, slots := 0, locals := 22 }
def fX6_forget (σ : rp_S) (v1 : Int32) : Option (Int32 × rp_S) :=
  ((fX6_within v1 (rI 0) (σ 15 2)).bind fun x1 =>
    (if x1 = 0 then
    (some ((rI (-1)), σ))
  else
    ((some (rp_up σ 15 2 v1)).bind fun σ2 =>
    (some ((σ 15 2), σ2)))))
set_option maxRecDepth 100000 in
theorem rX6_forget {E : rp_E} (σ : rp_S) (v1 : Int32)   : rp_R E (rp_mK E rmX6_forget) mX6_forget 0 [some (.ref (E.2.2.2.1 0)), some (.int v1), none] [] σ rp_hI (fX6_forget σ v1) := by
  rw [fX6_forget]
  refine rp_iload_n (x := v1) dX6_forget_0 rfl ?_
  refine rp_iconst dX6_forget_1 ?_
  refine rp_aload_n (x := (E.2.2.2.1 0)) dX6_forget_2 rfl ?_
  refine rp_getR (k := 4) (b := 15) sh0 rfl fdX6_40 dX6_forget_3 ?_
  refine rp_getI (k := 2) sh15 rfl fdX6_86 dX6_forget_6 ?_
  refine rp_callS_hi (As := [.int v1, .int (rI 0), .int (σ 15 2)]) (rest := []) (rX6_within σ v1 (rI 0) (σ 15 2)) cbX6_within lkX6_57 stX6_within rfl (Nat.le_of_ble_eq_true rfl) ⟨rfl, rfl, ⟨Nat.le_of_ble_eq_true rfl, Nat.le_of_ble_eq_true rfl⟩, Nat.zero_le _, Nat.zero_le _⟩ rfl (Nat.le_of_ble_eq_true rfl) dX6_forget_9 (fun x1 hx1 => ?_)
  refine rp_if_ne (tgt := 17) dX6_forget_12 (by decide) ?_ ?_
  · refine rp_aload_n (x := (E.2.2.2.1 0)) dX6_forget_17 rfl ?_
    refine rp_getR (k := 4) (b := 15) sh0 rfl fdX6_40 dX6_forget_18 ?_
    refine rp_getI (k := 2) sh15 rfl fdX6_86 dX6_forget_21 ?_
    refine rp_istore_n dX6_forget_24 (by decide) rfl ?_
    refine rp_aload_n (x := (E.2.2.2.1 0)) dX6_forget_25 rfl ?_
    refine rp_getR (k := 4) (b := 15) sh0 rfl fdX6_40 dX6_forget_26 ?_
    refine rp_iload_n (x := v1) dX6_forget_29 rfl ?_
    refine rp_putB (k := 2) sh15 rfl fpX6_86 (vp_nar_int _) rfl dX6_forget_30 (fun σ2 => ?_)
    refine rp_iload_n (x := (σ 15 2)) dX6_forget_33 rfl ?_
    exact rp_iret rfl rfl dX6_forget_34
  · refine rp_iconst dX6_forget_15 ?_
    exact rp_iret rfl rfl dX6_forget_16
