/-! RocketPrint.within(III)Z -/
abbrev rmX6_within : Room := { frames := 0, cells := 0, slots := 0, locals := 0 }
def fX6_within  (v0 : Int32) (v1 : Int32) (v2 : Int32) : Option (Int32) :=
  (if v0 < v1 then
    (some (rI 0))
  else
    (if v2 < v0 then
    (some (rI 0))
  else
    (some (rI 1))))
set_option maxRecDepth 100000 in
theorem rX6_within {E : rp_E} (σ : rp_S) (v0 : Int32) (v1 : Int32) (v2 : Int32)   : rp_R E (rp_mK E rmX6_within) mX6_within 0 [some (.int v0), some (.int v1), some (.int v2)] [] σ (rp_hi σ) (fX6_within v0 v1 v2) := by
  rw [fX6_within]
  refine rp_iload_n (x := v0) dX6_within_0 rfl ?_
  refine rp_iload_n (x := v1) dX6_within_1 rfl ?_
  refine rp_icmp_lt (tgt := 14) dX6_within_2 (by decide) ?_ ?_
  · refine rp_iconst dX6_within_14 ?_
    exact rp_zret (x' := (rI 0)) rfl (by decide) rfl dX6_within_15
  · refine rp_iload_n (x := v0) dX6_within_5 rfl ?_
    refine rp_iload_n (x := v2) dX6_within_6 rfl ?_
    refine rp_icmp_gt (tgt := 14) dX6_within_7 (by decide) ?_ ?_
    · refine rp_iconst dX6_within_14 ?_
      exact rp_zret (x' := (rI 0)) rfl (by decide) rfl dX6_within_15
    · refine rp_iconst dX6_within_10 ?_
      refine rp_goto (tgt := 15) dX6_within_11 (by decide) ?_
      exact rp_zret (x' := (rI 1)) rfl (by decide) rfl dX6_within_15
/-! RocketPrint.feed(I)I -/
abbrev rmX6_feed : Room := { frames := 1, cells := 0, slots := 0, locals := 22 }
def fX6_feed (σ : rp_S) (v1 : Int32) : Option (Int32 × rp_S) :=
  ((fX6_within v1 (rI 0) (rI 127)).bind fun x1 =>
    (if x1 = 0 then
    (some ((rI (-1)), σ))
  else
    (if (σ 13 1) < (rI 160) then
    ((rq_wr σ 14 160 (σ 13 1) (vp_nar .byte (v1.toInt8.toInt32))).bind fun σ2 =>
    ((some (rp_up σ2 13 1 ((σ2 13 1) + (rI 1)))).bind fun σ3 =>
    (some ((σ3 13 1), σ3))))
  else
    (some ((rI (-3)), σ)))))
set_option maxRecDepth 100000 in
theorem rX6_feed {E : rp_E} (σ : rp_S) (v1 : Int32)   : rp_R E (rp_mK E rmX6_feed) mX6_feed 0 [some (.ref (E.2.2.2.1 0)), some (.int v1)] [] σ rp_hI (fX6_feed σ v1) := by
  rw [fX6_feed]
  refine rp_iload_n (x := v1) dX6_feed_0 rfl ?_
  refine rp_iconst dX6_feed_1 ?_
  refine rp_bipush dX6_feed_2 (by decide) ?_
  refine rp_callS_hi (As := [.int v1, .int (rI 0), .int (rI 127)]) (rest := []) (rX6_within σ v1 (rI 0) (rI 127)) cbX6_within lkX6_57 stX6_within rfl (Nat.le_of_ble_eq_true rfl) ⟨rfl, rfl, ⟨Nat.le_of_ble_eq_true rfl, Nat.le_of_ble_eq_true rfl⟩, Nat.zero_le _, Nat.zero_le _⟩ rfl (Nat.le_of_ble_eq_true rfl) dX6_feed_4 (fun x1 hx1 => ?_)
  refine rp_if_ne (tgt := 12) dX6_feed_7 (by decide) ?_ ?_
  · refine rp_aload_n (x := (E.2.2.2.1 0)) dX6_feed_12 rfl ?_
    refine rp_getR (k := 3) (b := 13) sh0 rfl fdX6_33 dX6_feed_13 ?_
    refine rp_getI (k := 1) sh13 rfl fdX6_61 dX6_feed_16 ?_
    refine rp_sipush dX6_feed_19 (by decide) ?_
    refine rp_icmp_lt (tgt := 28) dX6_feed_22 (by decide) ?_ ?_
    · refine rp_aload_n (x := (E.2.2.2.1 0)) dX6_feed_28 rfl ?_
      refine rp_getR (k := 3) (b := 13) sh0 rfl fdX6_33 dX6_feed_29 ?_
      refine rp_getR (k := 0) (b := 14) sh13 rfl fdX6_65 dX6_feed_32 ?_
      refine rp_aload_n (x := (E.2.2.2.1 0)) dX6_feed_35 rfl ?_
      refine rp_getR (k := 3) (b := 13) sh0 rfl fdX6_33 dX6_feed_36 ?_
      refine rp_getI (k := 1) sh13 rfl fdX6_61 dX6_feed_39 ?_
      refine rp_iload_n (x := v1) dX6_feed_42 rfl ?_
      refine rp_i2b dX6_feed_43 ?_
      refine rp_bastoreB sh14 dX6_feed_44 (fun σ2 => ?_)
      refine rp_aload_n (x := (E.2.2.2.1 0)) dX6_feed_45 rfl ?_
      refine rp_getR (k := 3) (b := 13) sh0 rfl fdX6_33 dX6_feed_46 ?_
      refine rp_dup dX6_feed_49 rfl ?_
      refine rp_getI (k := 1) sh13 rfl fdX6_61 dX6_feed_50 ?_
      refine rp_iconst dX6_feed_53 ?_
      refine rp_iadd dX6_feed_54 ?_
      refine rp_putB (k := 1) sh13 rfl fpX6_61 (vp_nar_int _) rfl dX6_feed_55 (fun σ3 => ?_)
      refine rp_aload_n (x := (E.2.2.2.1 0)) dX6_feed_58 rfl ?_
      refine rp_getR (k := 3) (b := 13) sh0 rfl fdX6_33 dX6_feed_59 ?_
      refine rp_getI (k := 1) sh13 rfl fdX6_61 dX6_feed_62 ?_
      exact rp_iret rfl rfl dX6_feed_65
    · refine rp_bipush dX6_feed_25 (by decide) ?_
      exact rp_iret rfl rfl dX6_feed_27
  · refine rp_iconst dX6_feed_10 ?_
    exact rp_iret rfl rfl dX6_feed_11
/-! RocketPrintModel.in(JJJ)Z -/
abbrev rmX7_in : Room := { frames := 0, cells := 0, slots := 0, locals := 0 }
def fX7_in  (v0 : Int64) (v2 : Int64) (v4 : Int64) : Option (Int32) :=
  (if (lg_cmp v0 v2) < 0 then
    (some (rI 0))
  else
    (if 0 < (lg_cmp v0 v4) then
    (some (rI 0))
  else
    (some (rI 1))))
set_option maxRecDepth 100000 in
theorem rX7_in {E : rp_E} (σ : rp_S) (v0 : Int64) (v2 : Int64) (v4 : Int64)   : rp_R E (rp_mK E rmX7_in) mX7_in 0 [some (.long v0), none, some (.long v2), none, some (.long v4), none] [] σ (rp_hi σ) (fX7_in v0 v2 v4) := by
  rw [fX7_in]
  refine rp_lload_n (x := v0) dX7_in_0 rfl ?_
  refine rp_lload_n (x := v2) dX7_in_1 rfl ?_
  refine rp_lcmp dX7_in_2 ?_
  refine rp_if_lt (tgt := 17) dX7_in_3 (by decide) ?_ ?_
  · refine rp_iconst dX7_in_17 ?_
    exact rp_zret (x' := (rI 0)) rfl (by decide) rfl dX7_in_18
  · refine rp_lload_n (x := v0) dX7_in_6 rfl ?_
    refine rp_lload (x := v4) dX7_in_7 rfl ?_
    refine rp_lcmp dX7_in_9 ?_
    refine rp_if_gt (tgt := 17) dX7_in_10 (by decide) ?_ ?_
    · refine rp_iconst dX7_in_17 ?_
      exact rp_zret (x' := (rI 0)) rfl (by decide) rfl dX7_in_18
    · refine rp_iconst dX7_in_13 ?_
      refine rp_goto (tgt := 18) dX7_in_14 (by decide) ?_
      exact rp_zret (x' := (rI 1)) rfl (by decide) rfl dX7_in_18
/-! RocketPrintModel.feed(I)I -/
abbrev rmX7_feed : Room := { frames := 1, cells := 0, slots := 0, locals := 25 }
def fX7_feed (σ : rp_S) (v1 : Int32) : Option (Int32 × rp_S) :=
  ((fX7_in (v1.toInt64) (rJ 0) (rJ 127)).bind fun x1 =>
    (if x1 = 0 then
    (some ((rI (-1)), σ))
  else
    (if (σ 28 4) = (rI 160) then
    (some ((rI (-3)), σ))
  else
    ((rq_wr σ 31 160 (σ 28 4) v1).bind fun σ2 =>
    ((some (rp_up σ2 28 4 ((σ2 28 4) + (rI 1)))).bind fun σ3 =>
    (some ((σ3 28 4), σ3)))))))
set_option maxRecDepth 100000 in
theorem rX7_feed {E : rp_E} (σ : rp_S) (v1 : Int32)   : rp_R E (rp_mK E rmX7_feed) mX7_feed 0 [some (.ref (E.2.2.2.1 28)), some (.int v1)] [] σ rp_hI (fX7_feed σ v1) := by
  rw [fX7_feed]
  refine rp_iload_n (x := v1) dX7_feed_0 rfl ?_
  refine rp_i2l dX7_feed_1 ?_
  refine rp_lconst dX7_feed_2 0 (by decide) ?_
  refine rp_ldc2 (v := (rJ 127)) clX7_47 dX7_feed_3 ?_
  refine rp_callS_hi (As := [.long (v1.toInt64), .long (rJ 0), .long (rJ 127)]) (rest := []) (rX7_in σ (v1.toInt64) (rJ 0) (rJ 127)) cbX7_in lkX7_49 stX7_in rfl (Nat.le_of_ble_eq_true rfl) ⟨rfl, rfl, ⟨Nat.le_of_ble_eq_true rfl, Nat.le_of_ble_eq_true rfl⟩, Nat.zero_le _, Nat.zero_le _⟩ rfl (Nat.le_of_ble_eq_true rfl) dX7_feed_6 (fun x1 hx1 => ?_)
  refine rp_if_ne (tgt := 14) dX7_feed_9 (by decide) ?_ ?_
  · refine rp_aload_n (x := (E.2.2.2.1 28)) dX7_feed_14 rfl ?_
    refine rp_getI (k := 4) sh28 rfl fdX7_53 dX7_feed_15 ?_
    refine rp_sipush dX7_feed_18 (by decide) ?_
    refine rp_icmp_ne (tgt := 27) dX7_feed_21 (by decide) ?_ ?_
    · refine rp_aload_n (x := (E.2.2.2.1 28)) dX7_feed_27 rfl ?_
      refine rp_getR (k := 3) (b := 31) sh28 rfl fdX7_16 dX7_feed_28 ?_
      refine rp_aload_n (x := (E.2.2.2.1 28)) dX7_feed_31 rfl ?_
      refine rp_getI (k := 4) sh28 rfl fdX7_53 dX7_feed_32 ?_
      refine rp_iload_n (x := v1) dX7_feed_35 rfl ?_
      refine rp_iastore sh31 dX7_feed_36 (fun σ2 => ?_)
      refine rp_aload_n (x := (E.2.2.2.1 28)) dX7_feed_37 rfl ?_
      refine rp_dup dX7_feed_38 rfl ?_
      refine rp_getI (k := 4) sh28 rfl fdX7_53 dX7_feed_39 ?_
      refine rp_iconst dX7_feed_42 ?_
      refine rp_iadd dX7_feed_43 ?_
      refine rp_putB (k := 4) sh28 rfl fpX7_53 (vp_nar_int _) rfl dX7_feed_44 (fun σ3 => ?_)
      refine rp_aload_n (x := (E.2.2.2.1 28)) dX7_feed_47 rfl ?_
      refine rp_getI (k := 4) sh28 rfl fdX7_53 dX7_feed_48 ?_
      exact rp_iret rfl rfl dX7_feed_51
    · refine rp_bipush dX7_feed_24 (by decide) ?_
      exact rp_iret rfl rfl dX7_feed_26
  · refine rp_iconst dX7_feed_12 ?_
    exact rp_iret rfl rfl dX7_feed_13
/-! RocketPrint.end(I)I -/
abbrev rmX6_end : Room := { frames := 1, cells := 0, slots := 0, locals := 22 }
def fX6_end (σ : rp_S) (v1 : Int32) : Option (Int32 × rp_S) :=
  ((fX6_within v1 (rI 0) (σ 13 1)).bind fun x1 =>
    (if x1 = 0 then
    (some ((rI (-1)), σ))
  else
    ((some (rp_up σ 13 1 v1)).bind fun σ2 =>
    (some ((σ 13 1), σ2)))))
set_option maxRecDepth 100000 in
theorem rX6_end {E : rp_E} (σ : rp_S) (v1 : Int32)   : rp_R E (rp_mK E rmX6_end) mX6_end 0 [some (.ref (E.2.2.2.1 0)), some (.int v1), none] [] σ rp_hI (fX6_end σ v1) := by
  rw [fX6_end]
  refine rp_iload_n (x := v1) dX6_end_0 rfl ?_
  refine rp_iconst dX6_end_1 ?_
  refine rp_aload_n (x := (E.2.2.2.1 0)) dX6_end_2 rfl ?_
  refine rp_getR (k := 3) (b := 13) sh0 rfl fdX6_33 dX6_end_3 ?_
  refine rp_getI (k := 1) sh13 rfl fdX6_61 dX6_end_6 ?_
  refine rp_callS_hi (As := [.int v1, .int (rI 0), .int (σ 13 1)]) (rest := []) (rX6_within σ v1 (rI 0) (σ 13 1)) cbX6_within lkX6_57 stX6_within rfl (Nat.le_of_ble_eq_true rfl) ⟨rfl, rfl, ⟨Nat.le_of_ble_eq_true rfl, Nat.le_of_ble_eq_true rfl⟩, Nat.zero_le _, Nat.zero_le _⟩ rfl (Nat.le_of_ble_eq_true rfl) dX6_end_9 (fun x1 hx1 => ?_)
  refine rp_if_ne (tgt := 17) dX6_end_12 (by decide) ?_ ?_
  · refine rp_aload_n (x := (E.2.2.2.1 0)) dX6_end_17 rfl ?_
    refine rp_getR (k := 3) (b := 13) sh0 rfl fdX6_33 dX6_end_18 ?_
    refine rp_getI (k := 1) sh13 rfl fdX6_61 dX6_end_21 ?_
    refine rp_istore_n dX6_end_24 (by decide) rfl ?_
    refine rp_aload_n (x := (E.2.2.2.1 0)) dX6_end_25 rfl ?_
    refine rp_getR (k := 3) (b := 13) sh0 rfl fdX6_33 dX6_end_26 ?_
    refine rp_iload_n (x := v1) dX6_end_29 rfl ?_
    refine rp_putB (k := 1) sh13 rfl fpX6_61 (vp_nar_int _) rfl dX6_end_30 (fun σ2 => ?_)
    refine rp_iload_n (x := (σ 13 1)) dX6_end_33 rfl ?_
    exact rp_iret rfl rfl dX6_end_34
  · refine rp_iconst dX6_end_15 ?_
    exact rp_iret rfl rfl dX6_end_16
/-! RocketPrintModel.end(I)I -/
abbrev rmX7_end : Room := { frames := 1, cells := 0, slots := 0, locals := 25 }
def fX7_end (σ : rp_S) (v1 : Int32) : Option (Int32 × rp_S) :=
  ((fX7_in (v1.toInt64) (rJ 0) (σ 28 4).toInt64).bind fun x1 =>
    (if x1 = 0 then
    (some ((rI (-1)), σ))
  else
    ((some (rp_up σ 28 4 v1)).bind fun σ2 =>
    (some ((σ 28 4), σ2)))))
set_option maxRecDepth 100000 in
theorem rX7_end {E : rp_E} (σ : rp_S) (v1 : Int32)   : rp_R E (rp_mK E rmX7_end) mX7_end 0 [some (.ref (E.2.2.2.1 28)), some (.int v1), none] [] σ rp_hI (fX7_end σ v1) := by
  rw [fX7_end]
  refine rp_iload_n (x := v1) dX7_end_0 rfl ?_
  refine rp_i2l dX7_end_1 ?_
  refine rp_lconst dX7_end_2 0 (by decide) ?_
  refine rp_aload_n (x := (E.2.2.2.1 28)) dX7_end_3 rfl ?_
  refine rp_getI (k := 4) sh28 rfl fdX7_53 dX7_end_4 ?_
  refine rp_i2l dX7_end_7 ?_
  refine rp_callS_hi (As := [.long (v1.toInt64), .long (rJ 0), .long (σ 28 4).toInt64]) (rest := []) (rX7_in σ (v1.toInt64) (rJ 0) (σ 28 4).toInt64) cbX7_in lkX7_49 stX7_in rfl (Nat.le_of_ble_eq_true rfl) ⟨rfl, rfl, ⟨Nat.le_of_ble_eq_true rfl, Nat.le_of_ble_eq_true rfl⟩, Nat.zero_le _, Nat.zero_le _⟩ rfl (Nat.le_of_ble_eq_true rfl) dX7_end_8 (fun x1 hx1 => ?_)
  refine rp_if_ne (tgt := 16) dX7_end_11 (by decide) ?_ ?_
  · refine rp_aload_n (x := (E.2.2.2.1 28)) dX7_end_16 rfl ?_
    refine rp_getI (k := 4) sh28 rfl fdX7_53 dX7_end_17 ?_
    refine rp_istore_n dX7_end_20 (by decide) rfl ?_
    refine rp_aload_n (x := (E.2.2.2.1 28)) dX7_end_21 rfl ?_
    refine rp_iload_n (x := v1) dX7_end_22 rfl ?_
    refine rp_putB (k := 4) sh28 rfl fpX7_53 (vp_nar_int _) rfl dX7_end_23 (fun σ2 => ?_)
    refine rp_iload_n (x := (σ 28 4)) dX7_end_26 rfl ?_
    exact rp_iret rfl rfl dX7_end_27
  · refine rp_iconst dX7_end_14 ?_
    exact rp_iret rfl rfl dX7_end_15
/-! RocketPrint$Night.clear()V -/
abbrev rmX1_clear : Room := { frames := 0, cells := 0, slots := 0, locals := 0 }
def fX1_clear (σ : rp_S) (a0 : Nat) : Option (rp_S) :=
  ((some (rp_up σ a0 2 (rI 0))).bind fun σ1 =>
    ((some (rp_up σ1 a0 3 (rI 0))).bind fun σ2 =>
    ((some (rp_up σ2 a0 4 (rI 4))).bind fun σ3 =>
    ((some (rp_up σ3 a0 5 (rI 0))).bind fun σ4 =>
    (some σ4)))))
set_option maxRecDepth 100000 in
theorem rX1_clear {E : rp_E} (σ : rp_S) (a0 : Nat) (ha0 : rp_Ni a0)  : rp_R E (rp_mK E rmX1_clear) mX1_clear 0 [some (.ref (E.2.2.2.1 a0))] [] σ rp_hv (fX1_clear σ a0) := by
  rw [fX1_clear]
  refine rp_aload_n (x := (E.2.2.2.1 a0)) dX1_clear_0 rfl ?_
  refine rp_iconst dX1_clear_1 ?_
  refine rp_putB (k := 2) ha0.1 rfl fpX1_22 (vp_nar_int _) rfl dX1_clear_2 (fun σ1 => ?_)
  refine rp_aload_n (x := (E.2.2.2.1 a0)) dX1_clear_5 rfl ?_
  refine rp_iconst dX1_clear_6 ?_
  refine rp_putB (k := 3) ha0.1 rfl fpX1_25 (vp_nar_int _) rfl dX1_clear_7 (fun σ2 => ?_)
  refine rp_aload_n (x := (E.2.2.2.1 a0)) dX1_clear_10 rfl ?_
  refine rp_iconst dX1_clear_11 ?_
  refine rp_putB (k := 4) ha0.1 rfl fpX1_18 (vp_nar_int _) rfl dX1_clear_12 (fun σ3 => ?_)
  refine rp_aload_n (x := (E.2.2.2.1 a0)) dX1_clear_15 rfl ?_
  refine rp_iconst dX1_clear_16 ?_
  refine rp_putB (k := 5) ha0.1 rfl fpX1_28 (vp_nar_int _) rfl dX1_clear_17 (fun σ4 => ?_)
  exact rp_vret rfl rfl dX1_clear_20
/-! RocketPrint$Tape.isLetter(B)Z -/
abbrev rmX5_isLetter : Room := { frames := 0, cells := 0, slots := 0, locals := 0 }
def fX5_isLetter  (v0 : Int32) : Option (Int32) :=
  (if v0 < (rI 97) then
    (some (rI 0))
  else
    (if (rI 122) < v0 then
    (some (rI 0))
  else
    (some (rI 1))))
set_option maxRecDepth 100000 in
theorem rX5_isLetter {E : rp_E} (σ : rp_S) (v0 : Int32)   : rp_R E (rp_mK E rmX5_isLetter) mX5_isLetter 0 [some (.int v0)] [] σ (rp_hi σ) (fX5_isLetter v0) := by
  rw [fX5_isLetter]
  refine rp_iload_n (x := v0) dX5_isLetter_0 rfl ?_
  refine rp_bipush dX5_isLetter_1 (by decide) ?_
  refine rp_icmp_lt (tgt := 16) dX5_isLetter_3 (by decide) ?_ ?_
  · refine rp_iconst dX5_isLetter_16 ?_
    exact rp_zret (x' := (rI 0)) rfl (by decide) rfl dX5_isLetter_17
  · refine rp_iload_n (x := v0) dX5_isLetter_6 rfl ?_
    refine rp_bipush dX5_isLetter_7 (by decide) ?_
    refine rp_icmp_gt (tgt := 16) dX5_isLetter_9 (by decide) ?_ ?_
    · refine rp_iconst dX5_isLetter_16 ?_
      exact rp_zret (x' := (rI 0)) rfl (by decide) rfl dX5_isLetter_17
    · refine rp_iconst dX5_isLetter_12 ?_
      refine rp_goto (tgt := 17) dX5_isLetter_13 (by decide) ?_
      exact rp_zret (x' := (rI 1)) rfl (by decide) rfl dX5_isLetter_17
/-! RocketPrint$Tape.isFigure(B)Z -/
abbrev rmX5_isFigure : Room := { frames := 0, cells := 0, slots := 0, locals := 0 }
def fX5_isFigure  (v0 : Int32) : Option (Int32) :=
  (if v0 < (rI 48) then
    (some (rI 0))
  else
    (if (rI 57) < v0 then
    (some (rI 0))
  else
    (some (rI 1))))
set_option maxRecDepth 100000 in
theorem rX5_isFigure {E : rp_E} (σ : rp_S) (v0 : Int32)   : rp_R E (rp_mK E rmX5_isFigure) mX5_isFigure 0 [some (.int v0)] [] σ (rp_hi σ) (fX5_isFigure v0) := by
  rw [fX5_isFigure]
  refine rp_iload_n (x := v0) dX5_isFigure_0 rfl ?_
  refine rp_bipush dX5_isFigure_1 (by decide) ?_
  refine rp_icmp_lt (tgt := 16) dX5_isFigure_3 (by decide) ?_ ?_
  · refine rp_iconst dX5_isFigure_16 ?_
    exact rp_zret (x' := (rI 0)) rfl (by decide) rfl dX5_isFigure_17
  · refine rp_iload_n (x := v0) dX5_isFigure_6 rfl ?_
    refine rp_bipush dX5_isFigure_7 (by decide) ?_
    refine rp_icmp_gt (tgt := 16) dX5_isFigure_9 (by decide) ?_ ?_
    · refine rp_iconst dX5_isFigure_16 ?_
      exact rp_zret (x' := (rI 0)) rfl (by decide) rfl dX5_isFigure_17
    · refine rp_iconst dX5_isFigure_12 ?_
      refine rp_goto (tgt := 17) dX5_isFigure_13 (by decide) ?_
      exact rp_zret (x' := (rI 1)) rfl (by decide) rfl dX5_isFigure_17
/-! RocketPrint$Tape.blame(I)V -/
abbrev rmX5_blame : Room := { frames := 0, cells := 0, slots := 0, locals := 0 }
def fX5_blame (σ : rp_S) (v1 : Int32) : Option (rp_S) :=
  (if (σ 13 2) = 0 then
    ((some (rp_up σ 13 2 v1)).bind fun σ1 =>
    (some σ1))
  else
    (some σ))
set_option maxRecDepth 100000 in
theorem rX5_blame {E : rp_E} (σ : rp_S) (v1 : Int32)   : rp_R E (rp_mK E rmX5_blame) mX5_blame 0 [some (.ref (E.2.2.2.1 13)), some (.int v1)] [] σ rp_hv (fX5_blame σ v1) := by
  rw [fX5_blame]
  refine rp_aload_n (x := (E.2.2.2.1 13)) dX5_blame_0 rfl ?_
  refine rp_getI (k := 2) sh13 rfl fdX5_20 dX5_blame_1 ?_
  refine rp_if_ne (tgt := 12) dX5_blame_4 (by decide) ?_ ?_
  · exact rp_vret rfl rfl dX5_blame_12
  · refine rp_aload_n (x := (E.2.2.2.1 13)) dX5_blame_7 rfl ?_
    refine rp_iload_n (x := v1) dX5_blame_8 rfl ?_
    refine rp_putB (k := 2) sh13 rfl fpX5_20 (vp_nar_int _) rfl dX5_blame_9 (fun σ1 => ?_)
    exact rp_vret rfl rfl dX5_blame_12
/-! RocketPrint$Tape.takeToken()V -/
abbrev rmX5_takeToken : Room := { frames := 1, cells := 0, slots := 0, locals := 21 }
def fX5_takeToken_220 (σ : rp_S) : Option (rp_S) :=
  (if ((σ 13 5) - (σ 13 4)) ≤ (rI 2) then
    (some σ)
  else
    ((fX5_blame σ (rI 1)).bind fun σ12 =>
    (some σ12)))
set_option maxRecDepth 100000 in
theorem rX5_takeToken_220 {E : rp_E} (σ : rp_S) : rp_R E (rp_mK E rmX5_takeToken) mX5_takeToken 220 [some (.ref (E.2.2.2.1 13))] [] σ rp_hv (fX5_takeToken_220 σ) := by
  rw [fX5_takeToken_220]
  refine rp_aload_n (x := (E.2.2.2.1 13)) dX5_takeToken_220 rfl ?_
  refine rp_getI (k := 5) sh13 rfl fdX5_24 dX5_takeToken_221 ?_
  refine rp_aload_n (x := (E.2.2.2.1 13)) dX5_takeToken_224 rfl ?_
  refine rp_getI (k := 4) sh13 rfl fdX5_111 dX5_takeToken_225 ?_
  refine rp_isub dX5_takeToken_228 ?_
  refine rp_iconst dX5_takeToken_229 ?_
  refine rp_icmp_le (tgt := 278) dX5_takeToken_230 (by decide) ?_ ?_
  · exact rp_vret rfl rfl dX5_takeToken_278
  · refine rp_aload_n (x := (E.2.2.2.1 13)) dX5_takeToken_233 rfl ?_
    refine rp_iconst dX5_takeToken_234 ?_
    refine rp_callV_hv (As := [.int (rI 1)]) (rest := []) (b := (E.2.2.2.1 13)) (rX5_blame σ (rI 1)) cbX5_blame lkX5_48 viX5_blame (rp_rcO sh13 rfl) rfl (Nat.le_of_ble_eq_true rfl) ⟨rfl, rfl, ⟨Nat.le_of_ble_eq_true rfl, Nat.le_of_ble_eq_true rfl⟩, Nat.zero_le _, Nat.zero_le _⟩ rfl (Nat.le_of_ble_eq_true rfl) dX5_takeToken_235 (fun σ12 hσ12 => ?_)
    refine rp_goto (tgt := 278) dX5_takeToken_238 (by decide) ?_
    exact rp_vret rfl rfl dX5_takeToken_278
def fX5_takeToken_157  : Nat → rp_S → Option (rp_S)
  | 0, _ => none
  | n + 1, σ =>
    (if (σ 13 1) ≤ (σ 13 5) then
    (fX5_takeToken_220 σ)
  else
    ((rq_rd σ 14 160 (σ 13 5)).bind fun x13 =>
    ((fX5_isFigure x13).bind fun x14 =>
    (if x14 = 0 then
    (fX5_takeToken_220 σ)
  else
    ((rq_rd σ 14 160 (σ 13 5)).bind fun x15 =>
    ((some (rp_up σ 13 6 ((((rI 10) * (σ 13 6)) + x15) - (rI 48)))).bind fun σ16 =>
    ((some (rp_up σ16 13 5 ((σ16 13 5) + (rI 1)))).bind fun σ17 =>
    (fX5_takeToken_157 n σ17))))))))
set_option maxRecDepth 100000 in
theorem rX5_takeToken_157 {E : rp_E}  : ∀ (n : Nat) (σ : rp_S), rp_R E (rp_mK E rmX5_takeToken) mX5_takeToken 157 [some (.ref (E.2.2.2.1 13))] [] σ rp_hv (fX5_takeToken_157 n σ) := by
  intro n
  induction n with
  | zero =>
    intro σ
    rw [fX5_takeToken_157]
    exact rp_none
  | succ n ih =>
    intro σ
    rw [fX5_takeToken_157]
    refine rp_aload_n (x := (E.2.2.2.1 13)) dX5_takeToken_157 rfl ?_
    refine rp_getI (k := 5) sh13 rfl fdX5_24 dX5_takeToken_158 ?_
    refine rp_aload_n (x := (E.2.2.2.1 13)) dX5_takeToken_161 rfl ?_
    refine rp_getI (k := 1) sh13 rfl fdX5_108 dX5_takeToken_162 ?_
    refine rp_icmp_ge (tgt := 220) dX5_takeToken_165 (by decide) ?_ ?_
    · refine rp_mask [true] (vs2 := [some (.ref (E.2.2.2.1 13))]) rfl rfl ?_
      exact rX5_takeToken_220 σ
    · refine rp_aload_n (x := (E.2.2.2.1 13)) dX5_takeToken_168 rfl ?_
      refine rp_getR (k := 0) (b := 14) sh13 rfl fdX5_9 dX5_takeToken_169 ?_
      refine rp_aload_n (x := (E.2.2.2.1 13)) dX5_takeToken_172 rfl ?_
      refine rp_getI (k := 5) sh13 rfl fdX5_24 dX5_takeToken_173 ?_
      refine rp_baloadB sh14 dX5_takeToken_176 (fun x13 => ?_)
      refine rp_callS_hi (As := [.int x13]) (rest := []) (rX5_isFigure σ x13) cbX5_isFigure lkX5_118 stX5_isFigure rfl (Nat.le_of_ble_eq_true rfl) ⟨rfl, rfl, ⟨Nat.le_of_ble_eq_true rfl, Nat.le_of_ble_eq_true rfl⟩, Nat.zero_le _, Nat.zero_le _⟩ rfl (Nat.le_of_ble_eq_true rfl) dX5_takeToken_177 (fun x14 hx14 => ?_)
      refine rp_if_eq (tgt := 220) dX5_takeToken_180 (by decide) ?_ ?_
      · refine rp_mask [true] (vs2 := [some (.ref (E.2.2.2.1 13))]) rfl rfl ?_
        exact rX5_takeToken_220 σ
      · refine rp_aload_n (x := (E.2.2.2.1 13)) dX5_takeToken_183 rfl ?_
        refine rp_bipush dX5_takeToken_184 (by decide) ?_
        refine rp_aload_n (x := (E.2.2.2.1 13)) dX5_takeToken_186 rfl ?_
        refine rp_getI (k := 6) sh13 rfl fdX5_101 dX5_takeToken_187 ?_
        refine rp_imul dX5_takeToken_190 ?_
        refine rp_aload_n (x := (E.2.2.2.1 13)) dX5_takeToken_191 rfl ?_
        refine rp_getR (k := 0) (b := 14) sh13 rfl fdX5_9 dX5_takeToken_192 ?_
        refine rp_aload_n (x := (E.2.2.2.1 13)) dX5_takeToken_195 rfl ?_
        refine rp_getI (k := 5) sh13 rfl fdX5_24 dX5_takeToken_196 ?_
        refine rp_baloadB sh14 dX5_takeToken_199 (fun x15 => ?_)
        refine rp_iadd dX5_takeToken_200 ?_
        refine rp_bipush dX5_takeToken_201 (by decide) ?_
        refine rp_isub dX5_takeToken_203 ?_
        refine rp_putB (k := 6) sh13 rfl fpX5_101 (vp_nar_int _) rfl dX5_takeToken_204 (fun σ16 => ?_)
        refine rp_aload_n (x := (E.2.2.2.1 13)) dX5_takeToken_207 rfl ?_
        refine rp_dup dX5_takeToken_208 rfl ?_
        refine rp_getI (k := 5) sh13 rfl fdX5_24 dX5_takeToken_209 ?_
        refine rp_iconst dX5_takeToken_212 ?_
        refine rp_iadd dX5_takeToken_213 ?_
        refine rp_putB (k := 5) sh13 rfl fpX5_24 (vp_nar_int _) rfl dX5_takeToken_214 (fun σ17 => ?_)
        refine rp_goto (tgt := 157) dX5_takeToken_217 (by decide) ?_
        refine rp_mask [true] (vs2 := [some (.ref (E.2.2.2.1 13))]) rfl rfl ?_
        exact ih σ17
def fX5_takeToken_93  : Nat → rp_S → Option (rp_S)
  | 0, _ => none
  | n + 1, σ =>
    (if (σ 13 1) ≤ (σ 13 5) then
    (some σ)
  else
    ((rq_rd σ 14 160 (σ 13 5)).bind fun x19 =>
    ((fX5_isLetter x19).bind fun x20 =>
    (if x20 = 0 then
    (some σ)
  else
    ((some (rp_up σ 13 5 ((σ 13 5) + (rI 1)))).bind fun σ21 =>
    (fX5_takeToken_93 n σ21))))))
set_option maxRecDepth 100000 in
theorem rX5_takeToken_93 {E : rp_E}  : ∀ (n : Nat) (σ : rp_S), rp_R E (rp_mK E rmX5_takeToken) mX5_takeToken 93 [some (.ref (E.2.2.2.1 13))] [] σ rp_hv (fX5_takeToken_93 n σ) := by
  intro n
  induction n with
  | zero =>
    intro σ
    rw [fX5_takeToken_93]
    exact rp_none
  | succ n ih =>
    intro σ
    rw [fX5_takeToken_93]
    refine rp_aload_n (x := (E.2.2.2.1 13)) dX5_takeToken_93 rfl ?_
    refine rp_getI (k := 5) sh13 rfl fdX5_24 dX5_takeToken_94 ?_
    refine rp_aload_n (x := (E.2.2.2.1 13)) dX5_takeToken_97 rfl ?_
    refine rp_getI (k := 1) sh13 rfl fdX5_108 dX5_takeToken_98 ?_
    refine rp_icmp_ge (tgt := 278) dX5_takeToken_101 (by decide) ?_ ?_
    · exact rp_vret rfl rfl dX5_takeToken_278
    · refine rp_aload_n (x := (E.2.2.2.1 13)) dX5_takeToken_104 rfl ?_
      refine rp_getR (k := 0) (b := 14) sh13 rfl fdX5_9 dX5_takeToken_105 ?_
      refine rp_aload_n (x := (E.2.2.2.1 13)) dX5_takeToken_108 rfl ?_
      refine rp_getI (k := 5) sh13 rfl fdX5_24 dX5_takeToken_109 ?_
      refine rp_baloadB sh14 dX5_takeToken_112 (fun x19 => ?_)
      refine rp_callS_hi (As := [.int x19]) (rest := []) (rX5_isLetter σ x19) cbX5_isLetter lkX5_114 stX5_isLetter rfl (Nat.le_of_ble_eq_true rfl) ⟨rfl, rfl, ⟨Nat.le_of_ble_eq_true rfl, Nat.le_of_ble_eq_true rfl⟩, Nat.zero_le _, Nat.zero_le _⟩ rfl (Nat.le_of_ble_eq_true rfl) dX5_takeToken_113 (fun x20 hx20 => ?_)
      refine rp_if_eq (tgt := 278) dX5_takeToken_116 (by decide) ?_ ?_
      · exact rp_vret rfl rfl dX5_takeToken_278
      · refine rp_aload_n (x := (E.2.2.2.1 13)) dX5_takeToken_119 rfl ?_
        refine rp_dup dX5_takeToken_120 rfl ?_
        refine rp_getI (k := 5) sh13 rfl fdX5_24 dX5_takeToken_121 ?_
        refine rp_iconst dX5_takeToken_124 ?_
        refine rp_iadd dX5_takeToken_125 ?_
        refine rp_putB (k := 5) sh13 rfl fpX5_24 (vp_nar_int _) rfl dX5_takeToken_126 (fun σ21 => ?_)
        refine rp_goto (tgt := 93) dX5_takeToken_129 (by decide) ?_
        refine rp_mask [true] (vs2 := [some (.ref (E.2.2.2.1 13))]) rfl rfl ?_
        exact ih σ21
def fX5_takeToken_46 (σ : rp_S) : Option (rp_S) :=
  ((some (rp_up σ 13 4 (σ 13 5))).bind fun σ1 =>
    (if (σ1 13 4) < (σ1 13 1) then
    ((rq_rd σ1 14 160 (σ1 13 4)).bind fun x2 =>
    ((fX5_isLetter x2).bind fun x3 =>
    (if x3 = 0 then
    ((rq_rd σ1 14 160 (σ1 13 4)).bind fun x4 =>
    ((fX5_isFigure x4).bind fun x5 =>
    (if x5 = 0 then
    ((rq_rd σ1 14 160 (σ1 13 4)).bind fun x6 =>
    (if x6 = (rI 59) then
    ((some (rp_up σ1 13 3 (rI 3))).bind fun σ8 =>
    ((some (rp_up σ8 13 5 ((σ8 13 5) + (rI 1)))).bind fun σ9 =>
    (some σ9)))
  else
    ((fX5_blame σ1 (rI 1)).bind fun σ7 =>
    (some σ7))))
  else
    ((some (rp_up σ1 13 3 (rI 2))).bind fun σ10 =>
    ((some (rp_up σ10 13 6 (rI 0))).bind fun σ11 =>
    (fX5_takeToken_157 1000 σ11))))))
  else
    ((some (rp_up σ1 13 3 (rI 1))).bind fun σ18 =>
    (fX5_takeToken_93 1000 σ18)))))
  else
    ((some (rp_up σ1 13 3 (rI 0))).bind fun σ22 =>
    (some σ22))))
set_option maxRecDepth 100000 in
theorem rX5_takeToken_46 {E : rp_E} (σ : rp_S) : rp_R E (rp_mK E rmX5_takeToken) mX5_takeToken 46 [some (.ref (E.2.2.2.1 13))] [] σ rp_hv (fX5_takeToken_46 σ) := by
  rw [fX5_takeToken_46]
  refine rp_aload_n (x := (E.2.2.2.1 13)) dX5_takeToken_46 rfl ?_
  refine rp_aload_n (x := (E.2.2.2.1 13)) dX5_takeToken_47 rfl ?_
  refine rp_getI (k := 5) sh13 rfl fdX5_24 dX5_takeToken_48 ?_
  refine rp_putB (k := 4) sh13 rfl fpX5_111 (vp_nar_int _) rfl dX5_takeToken_51 (fun σ1 => ?_)
  refine rp_aload_n (x := (E.2.2.2.1 13)) dX5_takeToken_54 rfl ?_
  refine rp_getI (k := 4) sh13 rfl fdX5_111 dX5_takeToken_55 ?_
  refine rp_aload_n (x := (E.2.2.2.1 13)) dX5_takeToken_58 rfl ?_
  refine rp_getI (k := 1) sh13 rfl fdX5_108 dX5_takeToken_59 ?_
  refine rp_icmp_lt (tgt := 73) dX5_takeToken_62 (by decide) ?_ ?_
  · refine rp_aload_n (x := (E.2.2.2.1 13)) dX5_takeToken_73 rfl ?_
    refine rp_getR (k := 0) (b := 14) sh13 rfl fdX5_9 dX5_takeToken_74 ?_
    refine rp_aload_n (x := (E.2.2.2.1 13)) dX5_takeToken_77 rfl ?_
    refine rp_getI (k := 4) sh13 rfl fdX5_111 dX5_takeToken_78 ?_
    refine rp_baloadB sh14 dX5_takeToken_81 (fun x2 => ?_)
    refine rp_callS_hi (As := [.int x2]) (rest := []) (rX5_isLetter σ1 x2) cbX5_isLetter lkX5_114 stX5_isLetter rfl (Nat.le_of_ble_eq_true rfl) ⟨rfl, rfl, ⟨Nat.le_of_ble_eq_true rfl, Nat.le_of_ble_eq_true rfl⟩, Nat.zero_le _, Nat.zero_le _⟩ rfl (Nat.le_of_ble_eq_true rfl) dX5_takeToken_82 (fun x3 hx3 => ?_)
    refine rp_if_eq (tgt := 132) dX5_takeToken_85 (by decide) ?_ ?_
    · refine rp_aload_n (x := (E.2.2.2.1 13)) dX5_takeToken_132 rfl ?_
      refine rp_getR (k := 0) (b := 14) sh13 rfl fdX5_9 dX5_takeToken_133 ?_
      refine rp_aload_n (x := (E.2.2.2.1 13)) dX5_takeToken_136 rfl ?_
      refine rp_getI (k := 4) sh13 rfl fdX5_111 dX5_takeToken_137 ?_
      refine rp_baloadB sh14 dX5_takeToken_140 (fun x4 => ?_)
      refine rp_callS_hi (As := [.int x4]) (rest := []) (rX5_isFigure σ1 x4) cbX5_isFigure lkX5_118 stX5_isFigure rfl (Nat.le_of_ble_eq_true rfl) ⟨rfl, rfl, ⟨Nat.le_of_ble_eq_true rfl, Nat.le_of_ble_eq_true rfl⟩, Nat.zero_le _, Nat.zero_le _⟩ rfl (Nat.le_of_ble_eq_true rfl) dX5_takeToken_141 (fun x5 hx5 => ?_)
      refine rp_if_eq (tgt := 241) dX5_takeToken_144 (by decide) ?_ ?_
      · refine rp_aload_n (x := (E.2.2.2.1 13)) dX5_takeToken_241 rfl ?_
        refine rp_getR (k := 0) (b := 14) sh13 rfl fdX5_9 dX5_takeToken_242 ?_
        refine rp_aload_n (x := (E.2.2.2.1 13)) dX5_takeToken_245 rfl ?_
        refine rp_getI (k := 4) sh13 rfl fdX5_111 dX5_takeToken_246 ?_
        refine rp_baloadB sh14 dX5_takeToken_249 (fun x6 => ?_)
        refine rp_bipush dX5_takeToken_250 (by decide) ?_
        refine rp_icmp_ne (tgt := 273) dX5_takeToken_252 (by decide) ?_ ?_
        · refine rp_aload_n (x := (E.2.2.2.1 13)) dX5_takeToken_273 rfl ?_
          refine rp_iconst dX5_takeToken_274 ?_
          refine rp_callV_hv (As := [.int (rI 1)]) (rest := []) (b := (E.2.2.2.1 13)) (rX5_blame σ1 (rI 1)) cbX5_blame lkX5_48 viX5_blame (rp_rcO sh13 rfl) rfl (Nat.le_of_ble_eq_true rfl) ⟨rfl, rfl, ⟨Nat.le_of_ble_eq_true rfl, Nat.le_of_ble_eq_true rfl⟩, Nat.zero_le _, Nat.zero_le _⟩ rfl (Nat.le_of_ble_eq_true rfl) dX5_takeToken_275 (fun σ7 hσ7 => ?_)
          exact rp_vret rfl rfl dX5_takeToken_278
        · refine rp_aload_n (x := (E.2.2.2.1 13)) dX5_takeToken_255 rfl ?_
          refine rp_iconst dX5_takeToken_256 ?_
          refine rp_putB (k := 3) sh13 rfl fpX5_37 (vp_nar_int _) rfl dX5_takeToken_257 (fun σ8 => ?_)
          refine rp_aload_n (x := (E.2.2.2.1 13)) dX5_takeToken_260 rfl ?_
          refine rp_dup dX5_takeToken_261 rfl ?_
          refine rp_getI (k := 5) sh13 rfl fdX5_24 dX5_takeToken_262 ?_
          refine rp_iconst dX5_takeToken_265 ?_
          refine rp_iadd dX5_takeToken_266 ?_
          refine rp_putB (k := 5) sh13 rfl fpX5_24 (vp_nar_int _) rfl dX5_takeToken_267 (fun σ9 => ?_)
          refine rp_goto (tgt := 278) dX5_takeToken_270 (by decide) ?_
          exact rp_vret rfl rfl dX5_takeToken_278
      · refine rp_aload_n (x := (E.2.2.2.1 13)) dX5_takeToken_147 rfl ?_
        refine rp_iconst dX5_takeToken_148 ?_
        refine rp_putB (k := 3) sh13 rfl fpX5_37 (vp_nar_int _) rfl dX5_takeToken_149 (fun σ10 => ?_)
        refine rp_aload_n (x := (E.2.2.2.1 13)) dX5_takeToken_152 rfl ?_
        refine rp_iconst dX5_takeToken_153 ?_
        refine rp_putB (k := 6) sh13 rfl fpX5_101 (vp_nar_int _) rfl dX5_takeToken_154 (fun σ11 => ?_)
        refine rp_mask [true] (vs2 := [some (.ref (E.2.2.2.1 13))]) rfl rfl ?_
        exact rX5_takeToken_157 1000 σ11
    · refine rp_aload_n (x := (E.2.2.2.1 13)) dX5_takeToken_88 rfl ?_
      refine rp_iconst dX5_takeToken_89 ?_
      refine rp_putB (k := 3) sh13 rfl fpX5_37 (vp_nar_int _) rfl dX5_takeToken_90 (fun σ18 => ?_)
      refine rp_mask [true] (vs2 := [some (.ref (E.2.2.2.1 13))]) rfl rfl ?_
      exact rX5_takeToken_93 1000 σ18
  · refine rp_aload_n (x := (E.2.2.2.1 13)) dX5_takeToken_65 rfl ?_
    refine rp_iconst dX5_takeToken_66 ?_
    refine rp_putB (k := 3) sh13 rfl fpX5_37 (vp_nar_int _) rfl dX5_takeToken_67 (fun σ22 => ?_)
    refine rp_goto (tgt := 278) dX5_takeToken_70 (by decide) ?_
    exact rp_vret rfl rfl dX5_takeToken_278
def fX5_takeToken_8  : Nat → rp_S → Option (rp_S)
  | 0, _ => none
  | n + 1, σ =>
    (if (σ 13 1) ≤ (σ 13 5) then
    (fX5_takeToken_46 σ)
  else
    ((rq_rd σ 14 160 (σ 13 5)).bind fun x23 =>
    (if x23 = (rI 32) then
    ((some (rp_up σ 13 5 ((σ 13 5) + (rI 1)))).bind fun σ24 =>
    (fX5_takeToken_8 n σ24))
  else
    (fX5_takeToken_46 σ))))
set_option maxRecDepth 100000 in
theorem rX5_takeToken_8 {E : rp_E}  : ∀ (n : Nat) (σ : rp_S), rp_R E (rp_mK E rmX5_takeToken) mX5_takeToken 8 [some (.ref (E.2.2.2.1 13))] [] σ rp_hv (fX5_takeToken_8 n σ) := by
  intro n
  induction n with
  | zero =>
    intro σ
    rw [fX5_takeToken_8]
    exact rp_none
  | succ n ih =>
    intro σ
    rw [fX5_takeToken_8]
    refine rp_aload_n (x := (E.2.2.2.1 13)) dX5_takeToken_8 rfl ?_
    refine rp_getI (k := 5) sh13 rfl fdX5_24 dX5_takeToken_9 ?_
    refine rp_aload_n (x := (E.2.2.2.1 13)) dX5_takeToken_12 rfl ?_
    refine rp_getI (k := 1) sh13 rfl fdX5_108 dX5_takeToken_13 ?_
    refine rp_icmp_ge (tgt := 46) dX5_takeToken_16 (by decide) ?_ ?_
    · refine rp_mask [true] (vs2 := [some (.ref (E.2.2.2.1 13))]) rfl rfl ?_
      exact rX5_takeToken_46 σ
    · refine rp_aload_n (x := (E.2.2.2.1 13)) dX5_takeToken_19 rfl ?_
      refine rp_getR (k := 0) (b := 14) sh13 rfl fdX5_9 dX5_takeToken_20 ?_
      refine rp_aload_n (x := (E.2.2.2.1 13)) dX5_takeToken_23 rfl ?_
      refine rp_getI (k := 5) sh13 rfl fdX5_24 dX5_takeToken_24 ?_
      refine rp_baloadB sh14 dX5_takeToken_27 (fun x23 => ?_)
      refine rp_bipush dX5_takeToken_28 (by decide) ?_
      refine rp_icmp_ne (tgt := 46) dX5_takeToken_30 (by decide) ?_ ?_
      · refine rp_mask [true] (vs2 := [some (.ref (E.2.2.2.1 13))]) rfl rfl ?_
        exact rX5_takeToken_46 σ
      · refine rp_aload_n (x := (E.2.2.2.1 13)) dX5_takeToken_33 rfl ?_
        refine rp_dup dX5_takeToken_34 rfl ?_
        refine rp_getI (k := 5) sh13 rfl fdX5_24 dX5_takeToken_35 ?_
        refine rp_iconst dX5_takeToken_38 ?_
        refine rp_iadd dX5_takeToken_39 ?_
        refine rp_putB (k := 5) sh13 rfl fpX5_24 (vp_nar_int _) rfl dX5_takeToken_40 (fun σ24 => ?_)
        refine rp_goto (tgt := 8) dX5_takeToken_43 (by decide) ?_
        refine rp_mask [true] (vs2 := [some (.ref (E.2.2.2.1 13))]) rfl rfl ?_
        exact ih σ24
def fX5_takeToken (σ : rp_S)  : Option (rp_S) :=
  (if (σ 13 2) = 0 then
    (fX5_takeToken_8 1000 σ)
  else
    (some σ))
set_option maxRecDepth 100000 in
theorem rX5_takeToken {E : rp_E} (σ : rp_S)    : rp_R E (rp_mK E rmX5_takeToken) mX5_takeToken 0 [some (.ref (E.2.2.2.1 13))] [] σ rp_hv (fX5_takeToken σ) := by
  rw [fX5_takeToken]
  refine rp_aload_n (x := (E.2.2.2.1 13)) dX5_takeToken_0 rfl ?_
  refine rp_getI (k := 2) sh13 rfl fdX5_20 dX5_takeToken_1 ?_
  refine rp_if_eq (tgt := 8) dX5_takeToken_4 (by decide) ?_ ?_
  · refine rp_mask [true] (vs2 := [some (.ref (E.2.2.2.1 13))]) rfl rfl ?_
    exact rX5_takeToken_8 1000 σ
  · exact rp_vret rfl rfl dX5_takeToken_7
/-! java/lang/String.coder()B -/
abbrev rmJ0_coder_7d493 : Room := { frames := 0, cells := 0, slots := 0, locals := 0 }
def fJ0_coder_7d493  (w0 : Nat) : Option (Int32) :=
  (if (1 : Int32) = 0 then
    (some (rI 1))
  else
    (some (0 : Int32)))
set_option maxRecDepth 100000 in
theorem rJ0_coder_7d493 {E : rp_E} (σ : rp_S) (w0 : Nat)  (hw0 : w0 < 7) : rp_R E (rp_mK E rmJ0_coder_7d493) mJ0_coder_7d493 0 [some (.ref (E.2.2.2.2.2.1 (10 + w0)))] [] σ (rp_hi σ) (fJ0_coder_7d493 w0) := by
  rw [fJ0_coder_7d493]
  refine rp_getsC fsJ0_38 dJ0_coder_7d493_0 ?_
  refine rp_if_eq (tgt := 13) dJ0_coder_7d493_3 (by decide) ?_ ?_
  · refine rp_iconst dJ0_coder_7d493_13 ?_
    exact rp_zret (x' := (rI 1)) rfl (by decide) rfl dJ0_coder_7d493_14
  · refine rp_aload_n (x := (E.2.2.2.2.2.1 (10 + w0))) dJ0_coder_7d493_6 rfl ?_
    refine rp_strC (i := w0) hw0 fsJ0_15 dJ0_coder_7d493_7 ?_
    refine rp_goto (tgt := 14) dJ0_coder_7d493_10 (by decide) ?_
    exact rp_zret (x' := (0 : Int32)) rfl (by decide) rfl dJ0_coder_7d493_14
/-! java/lang/String.length()I -/
abbrev rmJ0_length_8abf5 : Room := { frames := 1, cells := 0, slots := 0, locals := 20 }
def fJ0_length_8abf5  (w0 : Nat) : Option (Int32) :=
  ((fJ0_coder_7d493 w0).bind fun x1 =>
    (some ((Int32.ofNat (rp_sl.getD w0 0)) >>> (x1 &&& 31))))
set_option maxRecDepth 100000 in
theorem rJ0_length_8abf5 {E : rp_E} (σ : rp_S) (w0 : Nat)  (hw0 : w0 < 7) : rp_R E (rp_mK E rmJ0_length_8abf5) mJ0_length_8abf5 0 [some (.ref (E.2.2.2.2.2.1 (10 + w0)))] [] σ (rp_hi σ) (fJ0_length_8abf5 w0) := by
  rw [fJ0_length_8abf5]
  refine rp_aload_n (x := (E.2.2.2.2.2.1 (10 + w0))) dJ0_length_8abf5_0 rfl ?_
  refine rp_strV (i := w0) hw0 fsJ0_9 dJ0_length_8abf5_1 ?_
  refine rp_strL (i := w0) hw0 dJ0_length_8abf5_4 ?_
  refine rp_aload_n (x := (E.2.2.2.2.2.1 (10 + w0))) dJ0_length_8abf5_5 rfl ?_
  refine rp_callV_hi (As := []) (rest := [.int (Int32.ofNat (rp_sl.getD w0 0))]) (b := (E.2.2.2.2.2.1 (10 + w0))) (rJ0_coder_7d493 σ w0 hw0) cbJ0_coder_7d493 lkJ0_335 viJ0_coder_7d493 (rp_rcS hw0) rfl (Nat.le_of_ble_eq_true rfl) ⟨rfl, rfl, ⟨Nat.le_of_ble_eq_true rfl, Nat.le_of_ble_eq_true rfl⟩, Nat.zero_le _, Nat.zero_le _⟩ rfl (Nat.le_of_ble_eq_true rfl) dJ0_length_8abf5_6 (fun x1 hx1 => ?_)
  refine rp_ishr dJ0_length_8abf5_9 ?_
  exact rp_iret rfl rfl dJ0_length_8abf5_10
/-! java/lang/String.isLatin1()Z -/
abbrev rmJ0_isLatin1_aae02 : Room := { frames := 0, cells := 0, slots := 0, locals := 0 }
def fJ0_isLatin1_aae02  (w0 : Nat) : Option (Int32) :=
  (if (1 : Int32) = 0 then
    (some (rI 0))
  else
    (if (0 : Int32) = 0 then
    (some (rI 1))
  else
    (some (rI 0))))
set_option maxRecDepth 100000 in
theorem rJ0_isLatin1_aae02 {E : rp_E} (σ : rp_S) (w0 : Nat)  (hw0 : w0 < 7) : rp_R E (rp_mK E rmJ0_isLatin1_aae02) mJ0_isLatin1_aae02 0 [some (.ref (E.2.2.2.2.2.1 (10 + w0)))] [] σ (rp_hi σ) (fJ0_isLatin1_aae02 w0) := by
  rw [fJ0_isLatin1_aae02]
  refine rp_getsC fsJ0_38 dJ0_isLatin1_aae02_0 ?_
  refine rp_if_eq (tgt := 17) dJ0_isLatin1_aae02_3 (by decide) ?_ ?_
  · refine rp_iconst dJ0_isLatin1_aae02_17 ?_
    exact rp_zret (x' := (rI 0)) rfl (by decide) rfl dJ0_isLatin1_aae02_18
  · refine rp_aload_n (x := (E.2.2.2.2.2.1 (10 + w0))) dJ0_isLatin1_aae02_6 rfl ?_
    refine rp_strC (i := w0) hw0 fsJ0_15 dJ0_isLatin1_aae02_7 ?_
    refine rp_if_ne (tgt := 17) dJ0_isLatin1_aae02_10 (by decide) ?_ ?_
    · refine rp_iconst dJ0_isLatin1_aae02_17 ?_
      exact rp_zret (x' := (rI 0)) rfl (by decide) rfl dJ0_isLatin1_aae02_18
    · refine rp_iconst dJ0_isLatin1_aae02_13 ?_
      refine rp_goto (tgt := 18) dJ0_isLatin1_aae02_14 (by decide) ?_
      exact rp_zret (x' := (rI 1)) rfl (by decide) rfl dJ0_isLatin1_aae02_18
/-! jdk/internal/util/Preconditions.checkIndex(IILjava/util/function/BiFunction;)I -/
abbrev rmJ3_checkIndex_8e157 : Room := { frames := 0, cells := 0, slots := 0, locals := 0 }
def fJ3_checkIndex_8e157_9 (v0 : Int32) (v1 : Int32) : Option (Int32) :=
  none
set_option maxRecDepth 100000 in
theorem rJ3_checkIndex_8e157_9 {E : rp_E} (σ : rp_S) (v0 : Int32) (v1 : Int32) : rp_R E (rp_mK E rmJ3_checkIndex_8e157) mJ3_checkIndex_8e157 9 [some (.int v0), some (.int v1), some (rp_fm E.2.2.2.2.2.2)] [] σ (rp_hi σ) (fJ3_checkIndex_8e157_9 v0 v1) := by
  rw [fJ3_checkIndex_8e157_9]
  exact rp_none
def fJ3_checkIndex_8e157  (v0 : Int32) (v1 : Int32) : Option (Int32) :=
  (if v0 < 0 then
    (fJ3_checkIndex_8e157_9 v0 v1)
  else
    (if v0 < v1 then
    (some v0)
  else
    (fJ3_checkIndex_8e157_9 v0 v1)))
set_option maxRecDepth 100000 in
theorem rJ3_checkIndex_8e157 {E : rp_E} (σ : rp_S) (v0 : Int32) (v1 : Int32)   : rp_R E (rp_mK E rmJ3_checkIndex_8e157) mJ3_checkIndex_8e157 0 [some (.int v0), some (.int v1), some (rp_fm E.2.2.2.2.2.2)] [] σ (rp_hi σ) (fJ3_checkIndex_8e157 v0 v1) := by
  rw [fJ3_checkIndex_8e157]
  refine rp_iload_n (x := v0) dJ3_checkIndex_8e157_0 rfl ?_
  refine rp_if_lt (tgt := 9) dJ3_checkIndex_8e157_1 (by decide) ?_ ?_
  · refine rp_mask [true, true, true] (vs2 := [some (.int v0), some (.int v1), some (rp_fm E.2.2.2.2.2.2)]) rfl rfl ?_
    exact rJ3_checkIndex_8e157_9 σ v0 v1
  · refine rp_iload_n (x := v0) dJ3_checkIndex_8e157_4 rfl ?_
    refine rp_iload_n (x := v1) dJ3_checkIndex_8e157_5 rfl ?_
    refine rp_icmp_lt (tgt := 16) dJ3_checkIndex_8e157_6 (by decide) ?_ ?_
    · refine rp_iload_n (x := v0) dJ3_checkIndex_8e157_16 rfl ?_
      exact rp_iret rfl rfl dJ3_checkIndex_8e157_17
    · refine rp_mask [true, true, true] (vs2 := [some (.int v0), some (.int v1), some (rp_fm E.2.2.2.2.2.2)]) rfl rfl ?_
      exact rJ3_checkIndex_8e157_9 σ v0 v1
/-! java/lang/String.checkIndex(II)V -/
abbrev rmJ0_checkIndex_df160 : Room := { frames := 1, cells := 0, slots := 0, locals := 22 }
def fJ0_checkIndex_df160  (v0 : Int32) (v1 : Int32) : Option (Unit) :=
  ((fJ3_checkIndex_8e157 v0 v1).bind fun x1 =>
    (some ()))
set_option maxRecDepth 100000 in
theorem rJ0_checkIndex_df160 {E : rp_E} (σ : rp_S) (v0 : Int32) (v1 : Int32)   : rp_R E (rp_mK E rmJ0_checkIndex_df160) mJ0_checkIndex_df160 0 [some (.int v0), some (.int v1)] [] σ (rp_hu σ) (fJ0_checkIndex_df160 v0 v1) := by
  rcases E with ⟨e1, e2, e3, e4, e5, e6, _ | e7⟩
  all_goals
  (rw [fJ0_checkIndex_df160]
   refine rp_iload_n (x := v0) dJ0_checkIndex_df160_0 rfl ?_
   refine rp_iload_n (x := v1) dJ0_checkIndex_df160_1 rfl ?_
   refine rp_getsF fsJ0_1053 dJ0_checkIndex_df160_2 ?_
   refine rp_callS_hi (As := [.int v0, .int v1, _]) (rest := []) (rJ3_checkIndex_8e157 σ v0 v1) cbJ3_checkIndex_8e157 lkJ0_1059 stJ3_checkIndex_8e157 rfl (Nat.le_of_ble_eq_true rfl) ⟨rfl, rfl, ⟨Nat.le_of_ble_eq_true rfl, Nat.le_of_ble_eq_true rfl⟩, Nat.zero_le _, Nat.zero_le _⟩ rfl (Nat.le_of_ble_eq_true rfl) dJ0_checkIndex_df160_5 (fun x1 hx1 => ?_)
   refine rp_pop dJ0_checkIndex_df160_8 rfl ?_
   exact rp_vret rfl rfl dJ0_checkIndex_df160_9)
/-! java/lang/StringLatin1.charAt([BI)C -/
abbrev rmJ1_charAt_3b067 : Room := { frames := 2, cells := 0, slots := 0, locals := 43 }
def fJ1_charAt_3b067  (w0 : Nat) (v1 : Int32) : Option (Int32) :=
  ((fJ0_checkIndex_df160 v1 (Int32.ofNat (rp_sl.getD w0 0))).bind fun u1 =>
    ((rq_sb w0 v1).bind fun x2 =>
    (some (vp_nar .char (((x2 &&& (rI 255)).toUInt32 % 65536).toInt32)))))
set_option maxRecDepth 100000 in
theorem rJ1_charAt_3b067 {E : rp_E} (σ : rp_S) (w0 : Nat) (v1 : Int32)  (hw0 : w0 < 7) : rp_R E (rp_mK E rmJ1_charAt_3b067) mJ1_charAt_3b067 0 [some (.ref (E.2.2.2.2.2.1 (20 + w0))), some (.int v1)] [] σ (rp_hi σ) (fJ1_charAt_3b067 w0 v1) := by
  rw [fJ1_charAt_3b067]
  refine rp_iload_n (x := v1) dJ1_charAt_3b067_0 rfl ?_
  refine rp_aload_n (x := (E.2.2.2.2.2.1 (20 + w0))) dJ1_charAt_3b067_1 rfl ?_
  refine rp_strL (i := w0) hw0 dJ1_charAt_3b067_2 ?_
  refine rp_callS_hu (As := [.int v1, .int (Int32.ofNat (rp_sl.getD w0 0))]) (rest := []) (rJ0_checkIndex_df160 σ v1 (Int32.ofNat (rp_sl.getD w0 0))) cbJ0_checkIndex_df160 lkJ1_9 stJ0_checkIndex_df160 rfl (Nat.le_of_ble_eq_true rfl) ⟨rfl, rfl, ⟨Nat.le_of_ble_eq_true rfl, Nat.le_of_ble_eq_true rfl⟩, Nat.zero_le _, Nat.zero_le _⟩ rfl (Nat.le_of_ble_eq_true rfl) dJ1_charAt_3b067_3 (fun u1 hu1 => ?_)
  refine rp_aload_n (x := (E.2.2.2.2.2.1 (20 + w0))) dJ1_charAt_3b067_6 rfl ?_
  refine rp_iload_n (x := v1) dJ1_charAt_3b067_7 rfl ?_
  refine rp_strB (i := w0) hw0 dJ1_charAt_3b067_8 (fun x2 => ?_)
  refine rp_sipush dJ1_charAt_3b067_9 (by decide) ?_
  refine rp_iand dJ1_charAt_3b067_12 ?_
  refine rp_i2c dJ1_charAt_3b067_13 ?_
  exact rp_zret (x' := (vp_nar .char (((x2 &&& (rI 255)).toUInt32 % 65536).toInt32))) rfl (rp_nrC _) rfl dJ1_charAt_3b067_14
/-! java/lang/String.charAt(I)C -/
abbrev rmJ0_charAt_5068e : Room := { frames := 3, cells := 0, slots := 0, locals := 64 }
def fJ0_charAt_5068e  (w0 : Nat) (v1 : Int32) : Option (Int32) :=
  ((fJ0_isLatin1_aae02 w0).bind fun x1 =>
    (if x1 = 0 then
    none
  else
    ((fJ1_charAt_3b067 w0 v1).bind fun x2 =>
    (some (vp_nar .char x2)))))
set_option maxRecDepth 100000 in
theorem rJ0_charAt_5068e {E : rp_E} (σ : rp_S) (w0 : Nat) (v1 : Int32)  (hw0 : w0 < 7) : rp_R E (rp_mK E rmJ0_charAt_5068e) mJ0_charAt_5068e 0 [some (.ref (E.2.2.2.2.2.1 (10 + w0))), some (.int v1)] [] σ (rp_hi σ) (fJ0_charAt_5068e w0 v1) := by
  rw [fJ0_charAt_5068e]
  refine rp_aload_n (x := (E.2.2.2.2.2.1 (10 + w0))) dJ0_charAt_5068e_0 rfl ?_
  refine rp_callV_hi (As := []) (rest := []) (b := (E.2.2.2.2.2.1 (10 + w0))) (rJ0_isLatin1_aae02 σ w0 hw0) cbJ0_isLatin1_aae02 lkJ0_492 viJ0_isLatin1_aae02 (rp_rcS hw0) rfl (Nat.le_of_ble_eq_true rfl) ⟨rfl, rfl, ⟨Nat.le_of_ble_eq_true rfl, Nat.le_of_ble_eq_true rfl⟩, Nat.zero_le _, Nat.zero_le _⟩ rfl (Nat.le_of_ble_eq_true rfl) dJ0_charAt_5068e_1 (fun x1 hx1 => ?_)
  refine rp_if_eq (tgt := 16) dJ0_charAt_5068e_4 (by decide) ?_ ?_
  · refine rp_aload_n (x := (E.2.2.2.2.2.1 (10 + w0))) dJ0_charAt_5068e_16 rfl ?_
    refine rp_strV (i := w0) hw0 fsJ0_9 dJ0_charAt_5068e_17 ?_
    refine rp_iload_n (x := v1) dJ0_charAt_5068e_20 rfl ?_
    exact rp_none
  · refine rp_aload_n (x := (E.2.2.2.2.2.1 (10 + w0))) dJ0_charAt_5068e_7 rfl ?_
    refine rp_strV (i := w0) hw0 fsJ0_9 dJ0_charAt_5068e_8 ?_
    refine rp_iload_n (x := v1) dJ0_charAt_5068e_11 rfl ?_
    refine rp_callS_hi (As := [.ref (E.2.2.2.2.2.1 (20 + w0)), .int v1]) (rest := []) (rJ1_charAt_3b067 σ w0 v1 hw0) cbJ1_charAt_3b067 lkJ0_495 stJ1_charAt_3b067 rfl (Nat.le_of_ble_eq_true rfl) ⟨rfl, rfl, ⟨Nat.le_of_ble_eq_true rfl, Nat.le_of_ble_eq_true rfl⟩, Nat.zero_le _, Nat.zero_le _⟩ rfl (Nat.le_of_ble_eq_true rfl) dJ0_charAt_5068e_12 (fun x2 hx2 => ?_)
    exact rp_zret (x' := (vp_nar .char x2)) rfl (rp_nrC _) rfl dJ0_charAt_5068e_15
/-! RocketPrint$Tape.isWord(Ljava/lang/String;)Z -/
abbrev rmX5_isWord : Room := { frames := 4, cells := 0, slots := 0, locals := 85 }
def fX5_isWord_20 (w1 : Nat) (σ : rp_S) : Nat → Int32 → Option (Int32)
  | 0, _ => none
  | n + 1, v2 =>
    ((fJ0_length_8abf5 w1).bind fun x2 =>
    (if x2 ≤ v2 then
    (some (rI 1))
  else
    ((rq_rd σ 14 160 ((σ 13 4) + v2)).bind fun x3 =>
    ((fJ0_charAt_5068e w1 v2).bind fun x4 =>
    (if x3 = x4 then
    (fX5_isWord_20 w1 σ n (v2 + (rI 1)))
  else
    (some (rI 0)))))))
set_option maxRecDepth 100000 in
theorem rX5_isWord_20 {E : rp_E} (w1 : Nat) (σ : rp_S)  (hw1 : w1 < 7) : ∀ (n : Nat) (v2 : Int32), rp_R E (rp_mK E rmX5_isWord) mX5_isWord 20 [some (.ref (E.2.2.2.1 13)), some (.ref (E.2.2.2.2.2.1 (10 + w1))), some (.int v2)] [] σ (rp_hi σ) (fX5_isWord_20 w1 σ n v2) := by
  intro n
  induction n with
  | zero =>
    intro v2
    rw [fX5_isWord_20]
    exact rp_none
  | succ n ih =>
    intro v2
    rw [fX5_isWord_20]
    refine rp_iload_n (x := v2) dX5_isWord_20 rfl ?_
    refine rp_aload_n (x := (E.2.2.2.2.2.1 (10 + w1))) dX5_isWord_21 rfl ?_
    refine rp_callV_hi (As := []) (rest := [.int v2]) (b := (E.2.2.2.2.2.1 (10 + w1))) (rJ0_length_8abf5 σ w1 hw1) cbJ0_length_8abf5 lkX5_137 viJ0_length_8abf5 (rp_rcS hw1) rfl (Nat.le_of_ble_eq_true rfl) ⟨rfl, rfl, ⟨Nat.le_of_ble_eq_true rfl, Nat.le_of_ble_eq_true rfl⟩, Nat.zero_le _, Nat.zero_le _⟩ rfl (Nat.le_of_ble_eq_true rfl) dX5_isWord_22 (fun x2 hx2 => ?_)
    refine rp_icmp_ge (tgt := 55) dX5_isWord_25 (by decide) ?_ ?_
    · refine rp_iconst dX5_isWord_55 ?_
      exact rp_zret (x' := (rI 1)) rfl (by decide) rfl dX5_isWord_56
    · refine rp_aload_n (x := (E.2.2.2.1 13)) dX5_isWord_28 rfl ?_
      refine rp_getR (k := 0) (b := 14) sh13 rfl fdX5_9 dX5_isWord_29 ?_
      refine rp_aload_n (x := (E.2.2.2.1 13)) dX5_isWord_32 rfl ?_
      refine rp_getI (k := 4) sh13 rfl fdX5_111 dX5_isWord_33 ?_
      refine rp_iload_n (x := v2) dX5_isWord_36 rfl ?_
      refine rp_iadd dX5_isWord_37 ?_
      refine rp_baloadB sh14 dX5_isWord_38 (fun x3 => ?_)
      refine rp_aload_n (x := (E.2.2.2.2.2.1 (10 + w1))) dX5_isWord_39 rfl ?_
      refine rp_iload_n (x := v2) dX5_isWord_40 rfl ?_
      refine rp_callV_hi (As := [.int v2]) (rest := [.int x3]) (b := (E.2.2.2.2.2.1 (10 + w1))) (rJ0_charAt_5068e σ w1 v2 hw1) cbJ0_charAt_5068e lkX5_141 viJ0_charAt_5068e (rp_rcS hw1) rfl (Nat.le_of_ble_eq_true rfl) ⟨rfl, rfl, ⟨Nat.le_of_ble_eq_true rfl, Nat.le_of_ble_eq_true rfl⟩, Nat.zero_le _, Nat.zero_le _⟩ rfl (Nat.le_of_ble_eq_true rfl) dX5_isWord_41 (fun x4 hx4 => ?_)
      refine rp_icmp_eq (tgt := 49) dX5_isWord_44 (by decide) ?_ ?_
      · refine rp_iinc (x := v2) dX5_isWord_49 rfl (by decide) rfl ?_
        refine rp_goto (tgt := 20) dX5_isWord_52 (by decide) ?_
        refine rp_mask [true, true, true] (vs2 := [some (.ref (E.2.2.2.1 13)), some (.ref (E.2.2.2.2.2.1 (10 + w1))), some (.int (v2 + (rI 1)))]) rfl rfl ?_
        exact ih (v2 + (rI 1))
      · refine rp_iconst dX5_isWord_47 ?_
        exact rp_zret (x' := (rI 0)) rfl (by decide) rfl dX5_isWord_48
def fX5_isWord (σ : rp_S) (w1 : Nat) : Option (Int32) :=
  ((fJ0_length_8abf5 w1).bind fun x1 =>
    (if ((σ 13 5) - (σ 13 4)) = x1 then
    (fX5_isWord_20 w1 σ 1000 (rI 0))
  else
    (some (rI 0))))
set_option maxRecDepth 100000 in
theorem rX5_isWord {E : rp_E} (σ : rp_S) (w1 : Nat)  (hw1 : w1 < 7) : rp_R E (rp_mK E rmX5_isWord) mX5_isWord 0 [some (.ref (E.2.2.2.1 13)), some (.ref (E.2.2.2.2.2.1 (10 + w1))), none] [] σ (rp_hi σ) (fX5_isWord σ w1) := by
  rw [fX5_isWord]
  refine rp_aload_n (x := (E.2.2.2.1 13)) dX5_isWord_0 rfl ?_
  refine rp_getI (k := 5) sh13 rfl fdX5_24 dX5_isWord_1 ?_
  refine rp_aload_n (x := (E.2.2.2.1 13)) dX5_isWord_4 rfl ?_
  refine rp_getI (k := 4) sh13 rfl fdX5_111 dX5_isWord_5 ?_
  refine rp_isub dX5_isWord_8 ?_
  refine rp_aload_n (x := (E.2.2.2.2.2.1 (10 + w1))) dX5_isWord_9 rfl ?_
  refine rp_callV_hi (As := []) (rest := [.int ((σ 13 5) - (σ 13 4))]) (b := (E.2.2.2.2.2.1 (10 + w1))) (rJ0_length_8abf5 σ w1 hw1) cbJ0_length_8abf5 lkX5_137 viJ0_length_8abf5 (rp_rcS hw1) rfl (Nat.le_of_ble_eq_true rfl) ⟨rfl, rfl, ⟨Nat.le_of_ble_eq_true rfl, Nat.le_of_ble_eq_true rfl⟩, Nat.zero_le _, Nat.zero_le _⟩ rfl (Nat.le_of_ble_eq_true rfl) dX5_isWord_10 (fun x1 hx1 => ?_)
  refine rp_icmp_eq (tgt := 18) dX5_isWord_13 (by decide) ?_ ?_
  · refine rp_iconst dX5_isWord_18 ?_
    refine rp_istore_n dX5_isWord_19 (by decide) rfl ?_
    refine rp_mask [true, true, true] (vs2 := [some (.ref (E.2.2.2.1 13)), some (.ref (E.2.2.2.2.2.1 (10 + w1))), some (.int (rI 0))]) rfl rfl ?_
    exact rX5_isWord_20 w1 σ hw1 1000 (rI 0)
  · refine rp_iconst dX5_isWord_16 ?_
    exact rp_zret (x' := (rI 0)) rfl (by decide) rfl dX5_isWord_17
/-! RocketPrint$Tape.wordRead()I -/
abbrev rmX5_wordRead : Room := { frames := 5, cells := 0, slots := 0, locals := 107 }
def fX5_wordRead (σ : rp_S)  : Option (Int32) :=
  ((fX5_isWord σ 0).bind fun x1 =>
    (if x1 = 0 then
    ((fX5_isWord σ 1).bind fun x2 =>
    (if x2 = 0 then
    ((fX5_isWord σ 2).bind fun x3 =>
    (if x3 = 0 then
    ((fX5_isWord σ 3).bind fun x4 =>
    (if x4 = 0 then
    ((fX5_isWord σ 4).bind fun x5 =>
    (if x5 = 0 then
    ((fX5_isWord σ 5).bind fun x6 =>
    (if x6 = 0 then
    ((fX5_isWord σ 6).bind fun x7 =>
    (if x7 = 0 then
    (some (rI (-4)))
  else
    (some (rI 6))))
  else
    (some (rI 5))))
  else
    (some (rI 4))))
  else
    (some (rI 3))))
  else
    (some (rI 2))))
  else
    (some (rI 1))))
  else
    (some (rI 0))))
set_option maxRecDepth 100000 in
theorem rX5_wordRead {E : rp_E} (σ : rp_S)    : rp_R E (rp_mK E rmX5_wordRead) mX5_wordRead 0 [some (.ref (E.2.2.2.1 13))] [] σ (rp_hi σ) (fX5_wordRead σ) := by
  rw [fX5_wordRead]
  refine rp_aload_n (x := (E.2.2.2.1 13)) dX5_wordRead_0 rfl ?_
  refine rp_ldcS (i := 0) (by decide) rfl rfl dX5_wordRead_1 ?_
  refine rp_callV_hi (As := [.ref (E.2.2.2.2.2.1 (10 + 0))]) (rest := []) (b := (E.2.2.2.1 13)) (rX5_isWord σ 0 (by decide)) cbX5_isWord lkX5_123 viX5_isWord (rp_rcO sh13 rfl) rfl (Nat.le_of_ble_eq_true rfl) ⟨rfl, rfl, ⟨Nat.le_of_ble_eq_true rfl, Nat.le_of_ble_eq_true rfl⟩, Nat.zero_le _, Nat.zero_le _⟩ rfl (Nat.le_of_ble_eq_true rfl) dX5_wordRead_3 (fun x1 hx1 => ?_)
  refine rp_if_eq (tgt := 11) dX5_wordRead_6 (by decide) ?_ ?_
  · refine rp_aload_n (x := (E.2.2.2.1 13)) dX5_wordRead_11 rfl ?_
    refine rp_ldcS (i := 1) (by decide) rfl rfl dX5_wordRead_12 ?_
    refine rp_callV_hi (As := [.ref (E.2.2.2.2.2.1 (10 + 1))]) (rest := []) (b := (E.2.2.2.1 13)) (rX5_isWord σ 1 (by decide)) cbX5_isWord lkX5_123 viX5_isWord (rp_rcO sh13 rfl) rfl (Nat.le_of_ble_eq_true rfl) ⟨rfl, rfl, ⟨Nat.le_of_ble_eq_true rfl, Nat.le_of_ble_eq_true rfl⟩, Nat.zero_le _, Nat.zero_le _⟩ rfl (Nat.le_of_ble_eq_true rfl) dX5_wordRead_14 (fun x2 hx2 => ?_)
    refine rp_if_eq (tgt := 22) dX5_wordRead_17 (by decide) ?_ ?_
    · refine rp_aload_n (x := (E.2.2.2.1 13)) dX5_wordRead_22 rfl ?_
      refine rp_ldcS (i := 2) (by decide) rfl rfl dX5_wordRead_23 ?_
      refine rp_callV_hi (As := [.ref (E.2.2.2.2.2.1 (10 + 2))]) (rest := []) (b := (E.2.2.2.1 13)) (rX5_isWord σ 2 (by decide)) cbX5_isWord lkX5_123 viX5_isWord (rp_rcO sh13 rfl) rfl (Nat.le_of_ble_eq_true rfl) ⟨rfl, rfl, ⟨Nat.le_of_ble_eq_true rfl, Nat.le_of_ble_eq_true rfl⟩, Nat.zero_le _, Nat.zero_le _⟩ rfl (Nat.le_of_ble_eq_true rfl) dX5_wordRead_25 (fun x3 hx3 => ?_)
      refine rp_if_eq (tgt := 33) dX5_wordRead_28 (by decide) ?_ ?_
      · refine rp_aload_n (x := (E.2.2.2.1 13)) dX5_wordRead_33 rfl ?_
        refine rp_ldcS (i := 3) (by decide) rfl rfl dX5_wordRead_34 ?_
        refine rp_callV_hi (As := [.ref (E.2.2.2.2.2.1 (10 + 3))]) (rest := []) (b := (E.2.2.2.1 13)) (rX5_isWord σ 3 (by decide)) cbX5_isWord lkX5_123 viX5_isWord (rp_rcO sh13 rfl) rfl (Nat.le_of_ble_eq_true rfl) ⟨rfl, rfl, ⟨Nat.le_of_ble_eq_true rfl, Nat.le_of_ble_eq_true rfl⟩, Nat.zero_le _, Nat.zero_le _⟩ rfl (Nat.le_of_ble_eq_true rfl) dX5_wordRead_36 (fun x4 hx4 => ?_)
        refine rp_if_eq (tgt := 44) dX5_wordRead_39 (by decide) ?_ ?_
        · refine rp_aload_n (x := (E.2.2.2.1 13)) dX5_wordRead_44 rfl ?_
          refine rp_ldcS (i := 4) (by decide) rfl rfl dX5_wordRead_45 ?_
          refine rp_callV_hi (As := [.ref (E.2.2.2.2.2.1 (10 + 4))]) (rest := []) (b := (E.2.2.2.1 13)) (rX5_isWord σ 4 (by decide)) cbX5_isWord lkX5_123 viX5_isWord (rp_rcO sh13 rfl) rfl (Nat.le_of_ble_eq_true rfl) ⟨rfl, rfl, ⟨Nat.le_of_ble_eq_true rfl, Nat.le_of_ble_eq_true rfl⟩, Nat.zero_le _, Nat.zero_le _⟩ rfl (Nat.le_of_ble_eq_true rfl) dX5_wordRead_47 (fun x5 hx5 => ?_)
          refine rp_if_eq (tgt := 55) dX5_wordRead_50 (by decide) ?_ ?_
          · refine rp_aload_n (x := (E.2.2.2.1 13)) dX5_wordRead_55 rfl ?_
            refine rp_ldcS (i := 5) (by decide) rfl rfl dX5_wordRead_56 ?_
            refine rp_callV_hi (As := [.ref (E.2.2.2.2.2.1 (10 + 5))]) (rest := []) (b := (E.2.2.2.1 13)) (rX5_isWord σ 5 (by decide)) cbX5_isWord lkX5_123 viX5_isWord (rp_rcO sh13 rfl) rfl (Nat.le_of_ble_eq_true rfl) ⟨rfl, rfl, ⟨Nat.le_of_ble_eq_true rfl, Nat.le_of_ble_eq_true rfl⟩, Nat.zero_le _, Nat.zero_le _⟩ rfl (Nat.le_of_ble_eq_true rfl) dX5_wordRead_58 (fun x6 hx6 => ?_)
            refine rp_if_eq (tgt := 66) dX5_wordRead_61 (by decide) ?_ ?_
            · refine rp_aload_n (x := (E.2.2.2.1 13)) dX5_wordRead_66 rfl ?_
              refine rp_ldcS (i := 6) (by decide) rfl rfl dX5_wordRead_67 ?_
              refine rp_callV_hi (As := [.ref (E.2.2.2.2.2.1 (10 + 6))]) (rest := []) (b := (E.2.2.2.1 13)) (rX5_isWord σ 6 (by decide)) cbX5_isWord lkX5_123 viX5_isWord (rp_rcO sh13 rfl) rfl (Nat.le_of_ble_eq_true rfl) ⟨rfl, rfl, ⟨Nat.le_of_ble_eq_true rfl, Nat.le_of_ble_eq_true rfl⟩, Nat.zero_le _, Nat.zero_le _⟩ rfl (Nat.le_of_ble_eq_true rfl) dX5_wordRead_69 (fun x7 hx7 => ?_)
              refine rp_if_eq (tgt := 80) dX5_wordRead_72 (by decide) ?_ ?_
              · refine rp_bipush dX5_wordRead_80 (by decide) ?_
                exact rp_iret rfl rfl dX5_wordRead_82
              · refine rp_bipush dX5_wordRead_75 (by decide) ?_
                refine rp_goto (tgt := 82) dX5_wordRead_77 (by decide) ?_
                exact rp_iret rfl rfl dX5_wordRead_82
            · refine rp_iconst dX5_wordRead_64 ?_
              exact rp_iret rfl rfl dX5_wordRead_65
          · refine rp_iconst dX5_wordRead_53 ?_
            exact rp_iret rfl rfl dX5_wordRead_54
        · refine rp_iconst dX5_wordRead_42 ?_
          exact rp_iret rfl rfl dX5_wordRead_43
      · refine rp_iconst dX5_wordRead_31 ?_
        exact rp_iret rfl rfl dX5_wordRead_32
    · refine rp_iconst dX5_wordRead_20 ?_
      exact rp_iret rfl rfl dX5_wordRead_21
  · refine rp_iconst dX5_wordRead_9 ?_
    exact rp_iret rfl rfl dX5_wordRead_10
/-! RocketPrint$Tape.takeNumber(II)I -/
abbrev rmX5_takeNumber : Room := { frames := 2, cells := 0, slots := 0, locals := 41 }
def fX5_takeNumber_37 (σ : rp_S) : Option (Int32 × rp_S) :=
  (some ((σ 13 6), σ))
set_option maxRecDepth 100000 in
theorem rX5_takeNumber_37 {E : rp_E} (σ : rp_S) : rp_R E (rp_mK E rmX5_takeNumber) mX5_takeNumber 37 [some (.ref (E.2.2.2.1 13)), none, none] [] σ rp_hI (fX5_takeNumber_37 σ) := by
  rw [fX5_takeNumber_37]
  refine rp_aload_n (x := (E.2.2.2.1 13)) dX5_takeNumber_37 rfl ?_
  refine rp_getI (k := 6) sh13 rfl fdX5_101 dX5_takeNumber_38 ?_
  exact rp_iret rfl rfl dX5_takeNumber_41
def fX5_takeNumber (σ : rp_S) (v1 : Int32) (v2 : Int32) : Option (Int32 × rp_S) :=
  ((fX5_takeToken σ).bind fun σ1 =>
    (if (σ1 13 3) = (rI 2) then
    ((fX6_within (σ1 13 6) v1 v2).bind fun x2 =>
    (if x2 = 0 then
    ((fX5_blame σ1 (rI 3)).bind fun σ3 =>
    (fX5_takeNumber_37 σ3))
  else
    (fX5_takeNumber_37 σ1)))
  else
    ((fX5_blame σ1 (rI 2)).bind fun σ4 =>
    (fX5_takeNumber_37 σ4))))
set_option maxRecDepth 100000 in
theorem rX5_takeNumber {E : rp_E} (σ : rp_S) (v1 : Int32) (v2 : Int32)   : rp_R E (rp_mK E rmX5_takeNumber) mX5_takeNumber 0 [some (.ref (E.2.2.2.1 13)), some (.int v1), some (.int v2)] [] σ rp_hI (fX5_takeNumber σ v1 v2) := by
  rw [fX5_takeNumber]
  refine rp_aload_n (x := (E.2.2.2.1 13)) dX5_takeNumber_0 rfl ?_
  refine rp_callV_hv (As := []) (rest := []) (b := (E.2.2.2.1 13)) (rX5_takeToken σ) cbX5_takeToken lkX5_34 viX5_takeToken (rp_rcO sh13 rfl) rfl (Nat.le_of_ble_eq_true rfl) ⟨rfl, rfl, ⟨Nat.le_of_ble_eq_true rfl, Nat.le_of_ble_eq_true rfl⟩, Nat.zero_le _, Nat.zero_le _⟩ rfl (Nat.le_of_ble_eq_true rfl) dX5_takeNumber_1 (fun σ1 hσ1 => ?_)
  refine rp_aload_n (x := (E.2.2.2.1 13)) dX5_takeNumber_4 rfl ?_
  refine rp_getI (k := 3) sh13 rfl fdX5_37 dX5_takeNumber_5 ?_
  refine rp_iconst dX5_takeNumber_8 ?_
  refine rp_icmp_eq (tgt := 20) dX5_takeNumber_9 (by decide) ?_ ?_
  · refine rp_aload_n (x := (E.2.2.2.1 13)) dX5_takeNumber_20 rfl ?_
    refine rp_getI (k := 6) sh13 rfl fdX5_101 dX5_takeNumber_21 ?_
    refine rp_iload_n (x := v1) dX5_takeNumber_24 rfl ?_
    refine rp_iload_n (x := v2) dX5_takeNumber_25 rfl ?_
    refine rp_callS_hi (As := [.int (σ1 13 6), .int v1, .int v2]) (rest := []) (rX6_within σ1 (σ1 13 6) v1 v2) cbX6_within lkX5_104 stX6_within rfl (Nat.le_of_ble_eq_true rfl) ⟨rfl, rfl, ⟨Nat.le_of_ble_eq_true rfl, Nat.le_of_ble_eq_true rfl⟩, Nat.zero_le _, Nat.zero_le _⟩ rfl (Nat.le_of_ble_eq_true rfl) dX5_takeNumber_26 (fun x2 hx2 => ?_)
    refine rp_if_ne (tgt := 37) dX5_takeNumber_29 (by decide) ?_ ?_
    · refine rp_mask [true, false, false] (vs2 := [some (.ref (E.2.2.2.1 13)), none, none]) rfl rfl ?_
      exact rX5_takeNumber_37 σ1
    · refine rp_aload_n (x := (E.2.2.2.1 13)) dX5_takeNumber_32 rfl ?_
      refine rp_iconst dX5_takeNumber_33 ?_
      refine rp_callV_hv (As := [.int (rI 3)]) (rest := []) (b := (E.2.2.2.1 13)) (rX5_blame σ1 (rI 3)) cbX5_blame lkX5_48 viX5_blame (rp_rcO sh13 rfl) rfl (Nat.le_of_ble_eq_true rfl) ⟨rfl, rfl, ⟨Nat.le_of_ble_eq_true rfl, Nat.le_of_ble_eq_true rfl⟩, Nat.zero_le _, Nat.zero_le _⟩ rfl (Nat.le_of_ble_eq_true rfl) dX5_takeNumber_34 (fun σ3 hσ3 => ?_)
      refine rp_mask [true, false, false] (vs2 := [some (.ref (E.2.2.2.1 13)), none, none]) rfl rfl ?_
      exact rX5_takeNumber_37 σ3
  · refine rp_aload_n (x := (E.2.2.2.1 13)) dX5_takeNumber_12 rfl ?_
    refine rp_iconst dX5_takeNumber_13 ?_
    refine rp_callV_hv (As := [.int (rI 2)]) (rest := []) (b := (E.2.2.2.1 13)) (rX5_blame σ1 (rI 2)) cbX5_blame lkX5_48 viX5_blame (rp_rcO sh13 rfl) rfl (Nat.le_of_ble_eq_true rfl) ⟨rfl, rfl, ⟨Nat.le_of_ble_eq_true rfl, Nat.le_of_ble_eq_true rfl⟩, Nat.zero_le _, Nat.zero_le _⟩ rfl (Nat.le_of_ble_eq_true rfl) dX5_takeNumber_14 (fun σ4 hσ4 => ?_)
    refine rp_goto (tgt := 37) dX5_takeNumber_17 (by decide) ?_
    refine rp_mask [true, false, false] (vs2 := [some (.ref (E.2.2.2.1 13)), none, none]) rfl rfl ?_
    exact rX5_takeNumber_37 σ4
/-! RocketPrint$Tape.takeSign()V -/
abbrev rmX5_takeSign : Room := { frames := 2, cells := 0, slots := 0, locals := 41 }
def fX5_takeSign (σ : rp_S)  : Option (rp_S) :=
  ((fX5_takeToken σ).bind fun σ1 =>
    (if (σ1 13 3) = (rI 3) then
    (some σ1)
  else
    ((fX5_blame σ1 (rI 2)).bind fun σ2 =>
    (some σ2))))
set_option maxRecDepth 100000 in
theorem rX5_takeSign {E : rp_E} (σ : rp_S)    : rp_R E (rp_mK E rmX5_takeSign) mX5_takeSign 0 [some (.ref (E.2.2.2.1 13))] [] σ rp_hv (fX5_takeSign σ) := by
  rw [fX5_takeSign]
  refine rp_aload_n (x := (E.2.2.2.1 13)) dX5_takeSign_0 rfl ?_
  refine rp_callV_hv (As := []) (rest := []) (b := (E.2.2.2.1 13)) (rX5_takeToken σ) cbX5_takeToken lkX5_34 viX5_takeToken (rp_rcO sh13 rfl) rfl (Nat.le_of_ble_eq_true rfl) ⟨rfl, rfl, ⟨Nat.le_of_ble_eq_true rfl, Nat.le_of_ble_eq_true rfl⟩, Nat.zero_le _, Nat.zero_le _⟩ rfl (Nat.le_of_ble_eq_true rfl) dX5_takeSign_1 (fun σ1 hσ1 => ?_)
  refine rp_aload_n (x := (E.2.2.2.1 13)) dX5_takeSign_4 rfl ?_
  refine rp_getI (k := 3) sh13 rfl fdX5_37 dX5_takeSign_5 ?_
  refine rp_iconst dX5_takeSign_8 ?_
  refine rp_icmp_eq (tgt := 17) dX5_takeSign_9 (by decide) ?_ ?_
  · exact rp_vret rfl rfl dX5_takeSign_17
  · refine rp_aload_n (x := (E.2.2.2.1 13)) dX5_takeSign_12 rfl ?_
    refine rp_iconst dX5_takeSign_13 ?_
    refine rp_callV_hv (As := [.int (rI 2)]) (rest := []) (b := (E.2.2.2.1 13)) (rX5_blame σ1 (rI 2)) cbX5_blame lkX5_48 viX5_blame (rp_rcO sh13 rfl) rfl (Nat.le_of_ble_eq_true rfl) ⟨rfl, rfl, ⟨Nat.le_of_ble_eq_true rfl, Nat.le_of_ble_eq_true rfl⟩, Nat.zero_le _, Nat.zero_le _⟩ rfl (Nat.le_of_ble_eq_true rfl) dX5_takeSign_14 (fun σ2 hσ2 => ?_)
    exact rp_vret rfl rfl dX5_takeSign_17
/-! RocketPrint.fitsWork(II)Z -/
abbrev rmX6_fitsWork : Room := { frames := 1, cells := 0, slots := 0, locals := 22 }
def fX6_fitsWork (σ : rp_S) (v0 : Int32) (v1 : Int32) : Option (Int32) :=
  ((fX6_within v0 (rI 0) (rI 3)).bind fun x1 =>
    (if x1 = 0 then
    (some (rI 0))
  else
    ((rq_td 0 v0).bind fun x2 =>
    ((rq_td 1 v0).bind fun x3 =>
    ((fX6_within v1 x2 x3).bind fun x4 =>
    (if x4 = 0 then
    (some (rI 0))
  else
    (some (rI 1))))))))
set_option maxRecDepth 100000 in
theorem rX6_fitsWork {E : rp_E} (σ : rp_S) (v0 : Int32) (v1 : Int32)   : rp_R E (rp_mK E rmX6_fitsWork) mX6_fitsWork 0 [some (.int v0), some (.int v1)] [] σ (rp_hi σ) (fX6_fitsWork σ v0 v1) := by
  rw [fX6_fitsWork]
  refine rp_iload_n (x := v0) dX6_fitsWork_0 rfl ?_
  refine rp_iconst dX6_fitsWork_1 ?_
  refine rp_iconst dX6_fitsWork_2 ?_
  refine rp_callS_hi (As := [.int v0, .int (rI 0), .int (rI 3)]) (rest := []) (rX6_within σ v0 (rI 0) (rI 3)) cbX6_within lkX6_57 stX6_within rfl (Nat.le_of_ble_eq_true rfl) ⟨rfl, rfl, ⟨Nat.le_of_ble_eq_true rfl, Nat.le_of_ble_eq_true rfl⟩, Nat.zero_le _, Nat.zero_le _⟩ rfl (Nat.le_of_ble_eq_true rfl) dX6_fitsWork_3 (fun x1 hx1 => ?_)
  refine rp_if_eq (tgt := 30) dX6_fitsWork_6 (by decide) ?_ ?_
  · refine rp_iconst dX6_fitsWork_30 ?_
    exact rp_zret (x' := (rI 0)) rfl (by decide) rfl dX6_fitsWork_31
  · refine rp_iload_n (x := v1) dX6_fitsWork_9 rfl ?_
    refine rp_gets (i := 0) (by decide) slX6_215 dX6_fitsWork_10 ?_
    refine rp_iload_n (x := v0) dX6_fitsWork_13 rfl ?_
    refine rp_tald (i := 0) (by decide) dX6_fitsWork_14 (fun x2 => ?_)
    refine rp_gets (i := 1) (by decide) slX6_197 dX6_fitsWork_15 ?_
    refine rp_iload_n (x := v0) dX6_fitsWork_18 rfl ?_
    refine rp_tald (i := 1) (by decide) dX6_fitsWork_19 (fun x3 => ?_)
    refine rp_callS_hi (As := [.int v1, .int x2, .int x3]) (rest := []) (rX6_within σ v1 x2 x3) cbX6_within lkX6_57 stX6_within rfl (Nat.le_of_ble_eq_true rfl) ⟨rfl, rfl, ⟨Nat.le_of_ble_eq_true rfl, Nat.le_of_ble_eq_true rfl⟩, Nat.zero_le _, Nat.zero_le _⟩ rfl (Nat.le_of_ble_eq_true rfl) dX6_fitsWork_20 (fun x4 hx4 => ?_)
    refine rp_if_eq (tgt := 30) dX6_fitsWork_23 (by decide) ?_ ?_
    · refine rp_iconst dX6_fitsWork_30 ?_
      exact rp_zret (x' := (rI 0)) rfl (by decide) rfl dX6_fitsWork_31
    · refine rp_iconst dX6_fitsWork_26 ?_
      refine rp_goto (tgt := 31) dX6_fitsWork_27 (by decide) ?_
      exact rp_zret (x' := (rI 1)) rfl (by decide) rfl dX6_fitsWork_31
/-! RocketPrint$Night.setWork(III)V -/
abbrev rmX1_setWork : Room := { frames := 0, cells := 0, slots := 0, locals := 0 }
def fX1_setWork (σ : rp_S) (a0 : Nat) (v1 : Int32) (v2 : Int32) (v3 : Int32) : Option (rp_S) :=
  ((rq_wr σ (a0 + 1) 24 ((v1 * (rI 4)) + v2) v3).bind fun σ1 =>
    (some σ1))
set_option maxRecDepth 100000 in
theorem rX1_setWork {E : rp_E} (σ : rp_S) (a0 : Nat) (v1 : Int32) (v2 : Int32) (v3 : Int32) (ha0 : rp_Ni a0)  : rp_R E (rp_mK E rmX1_setWork) mX1_setWork 0 [some (.ref (E.2.2.2.1 a0)), some (.int v1), some (.int v2), some (.int v3)] [] σ rp_hv (fX1_setWork σ a0 v1 v2 v3) := by
  rw [fX1_setWork]
  refine rp_aload_n (x := (E.2.2.2.1 a0)) dX1_setWork_0 rfl ?_
  refine rp_getR (k := 0) (b := (a0 + 1)) ha0.1 rfl fdX1_9 dX1_setWork_1 ?_
  refine rp_iload_n (x := v1) dX1_setWork_4 rfl ?_
  refine rp_iconst dX1_setWork_5 ?_
  refine rp_imul dX1_setWork_6 ?_
  refine rp_iload_n (x := v2) dX1_setWork_7 rfl ?_
  refine rp_iadd dX1_setWork_8 ?_
  refine rp_iload_n (x := v3) dX1_setWork_9 rfl ?_
  refine rp_iastore ha0.2.1 dX1_setWork_10 (fun σ1 => ?_)
  exact rp_vret rfl rfl dX1_setWork_11
/-! RocketPrint$Night.addWork(IIII)I -/
abbrev rmX1_addWork : Room := { frames := 2, cells := 0, slots := 0, locals := 43 }
def fX1_addWork (σ : rp_S) (a0 : Nat) (v1 : Int32) (v2 : Int32) (v3 : Int32) (v4 : Int32) : Option (Int32 × rp_S) :=
  ((fX6_fitsWork σ (rI 0) v1).bind fun x1 =>
    (if x1 = 0 then
    (some ((rI (-1)), σ))
  else
    ((fX6_fitsWork σ (rI 1) v2).bind fun x2 =>
    (if x2 = 0 then
    (some ((rI (-1)), σ))
  else
    ((fX6_fitsWork σ (rI 2) v3).bind fun x3 =>
    (if x3 = 0 then
    (some ((rI (-1)), σ))
  else
    ((fX6_fitsWork σ (rI 3) v4).bind fun x4 =>
    (if x4 = 0 then
    (some ((rI (-1)), σ))
  else
    (if (σ a0 2) < (rI 6) then
    ((fX1_setWork σ a0 (σ a0 2) (rI 0) v1).bind fun σ5 =>
    ((fX1_setWork σ5 a0 (σ5 a0 2) (rI 1) v2).bind fun σ6 =>
    ((fX1_setWork σ6 a0 (σ6 a0 2) (rI 2) v3).bind fun σ7 =>
    ((fX1_setWork σ7 a0 (σ7 a0 2) (rI 3) v4).bind fun σ8 =>
    ((some (rp_up σ8 a0 2 ((σ8 a0 2) + (rI 1)))).bind fun σ9 =>
    (some ((σ9 a0 2), σ9)))))))
  else
    (some ((rI (-3)), σ)))))))))))
set_option maxRecDepth 100000 in
theorem rX1_addWork {E : rp_E} (σ : rp_S) (a0 : Nat) (v1 : Int32) (v2 : Int32) (v3 : Int32) (v4 : Int32) (ha0 : rp_Ni a0)  : rp_R E (rp_mK E rmX1_addWork) mX1_addWork 0 [some (.ref (E.2.2.2.1 a0)), some (.int v1), some (.int v2), some (.int v3), some (.int v4)] [] σ rp_hI (fX1_addWork σ a0 v1 v2 v3 v4) := by
  rw [fX1_addWork]
  refine rp_iconst dX1_addWork_0 ?_
  refine rp_iload_n (x := v1) dX1_addWork_1 rfl ?_
  refine rp_callS_hi (As := [.int (rI 0), .int v1]) (rest := []) (rX6_fitsWork σ (rI 0) v1) cbX6_fitsWork lkX1_41 stX6_fitsWork rfl (Nat.le_of_ble_eq_true rfl) ⟨rfl, rfl, ⟨Nat.le_of_ble_eq_true rfl, Nat.le_of_ble_eq_true rfl⟩, Nat.zero_le _, Nat.zero_le _⟩ rfl (Nat.le_of_ble_eq_true rfl) dX1_addWork_2 (fun x1 hx1 => ?_)
  refine rp_if_eq (tgt := 33) dX1_addWork_5 (by decide) ?_ ?_
  · refine rp_iconst dX1_addWork_33 ?_
    exact rp_iret rfl rfl dX1_addWork_34
  · refine rp_iconst dX1_addWork_8 ?_
    refine rp_iload_n (x := v2) dX1_addWork_9 rfl ?_
    refine rp_callS_hi (As := [.int (rI 1), .int v2]) (rest := []) (rX6_fitsWork σ (rI 1) v2) cbX6_fitsWork lkX1_41 stX6_fitsWork rfl (Nat.le_of_ble_eq_true rfl) ⟨rfl, rfl, ⟨Nat.le_of_ble_eq_true rfl, Nat.le_of_ble_eq_true rfl⟩, Nat.zero_le _, Nat.zero_le _⟩ rfl (Nat.le_of_ble_eq_true rfl) dX1_addWork_10 (fun x2 hx2 => ?_)
    refine rp_if_eq (tgt := 33) dX1_addWork_13 (by decide) ?_ ?_
    · refine rp_iconst dX1_addWork_33 ?_
      exact rp_iret rfl rfl dX1_addWork_34
    · refine rp_iconst dX1_addWork_16 ?_
      refine rp_iload_n (x := v3) dX1_addWork_17 rfl ?_
      refine rp_callS_hi (As := [.int (rI 2), .int v3]) (rest := []) (rX6_fitsWork σ (rI 2) v3) cbX6_fitsWork lkX1_41 stX6_fitsWork rfl (Nat.le_of_ble_eq_true rfl) ⟨rfl, rfl, ⟨Nat.le_of_ble_eq_true rfl, Nat.le_of_ble_eq_true rfl⟩, Nat.zero_le _, Nat.zero_le _⟩ rfl (Nat.le_of_ble_eq_true rfl) dX1_addWork_18 (fun x3 hx3 => ?_)
      refine rp_if_eq (tgt := 33) dX1_addWork_21 (by decide) ?_ ?_
      · refine rp_iconst dX1_addWork_33 ?_
        exact rp_iret rfl rfl dX1_addWork_34
      · refine rp_iconst dX1_addWork_24 ?_
        refine rp_iload (x := v4) dX1_addWork_25 rfl ?_
        refine rp_callS_hi (As := [.int (rI 3), .int v4]) (rest := []) (rX6_fitsWork σ (rI 3) v4) cbX6_fitsWork lkX1_41 stX6_fitsWork rfl (Nat.le_of_ble_eq_true rfl) ⟨rfl, rfl, ⟨Nat.le_of_ble_eq_true rfl, Nat.le_of_ble_eq_true rfl⟩, Nat.zero_le _, Nat.zero_le _⟩ rfl (Nat.le_of_ble_eq_true rfl) dX1_addWork_27 (fun x4 hx4 => ?_)
        refine rp_if_ne (tgt := 35) dX1_addWork_30 (by decide) ?_ ?_
        · refine rp_aload_n (x := (E.2.2.2.1 a0)) dX1_addWork_35 rfl ?_
          refine rp_getI (k := 2) ha0.1 rfl fdX1_22 dX1_addWork_36 ?_
          refine rp_bipush dX1_addWork_39 (by decide) ?_
          refine rp_icmp_lt (tgt := 47) dX1_addWork_41 (by decide) ?_ ?_
          · refine rp_aload_n (x := (E.2.2.2.1 a0)) dX1_addWork_47 rfl ?_
            refine rp_aload_n (x := (E.2.2.2.1 a0)) dX1_addWork_48 rfl ?_
            refine rp_getI (k := 2) ha0.1 rfl fdX1_22 dX1_addWork_49 ?_
            refine rp_iconst dX1_addWork_52 ?_
            refine rp_iload_n (x := v1) dX1_addWork_53 rfl ?_
            refine rp_callV_hv (As := [.int (σ a0 2), .int (rI 0), .int v1]) (rest := []) (b := (E.2.2.2.1 a0)) (rX1_setWork σ a0 (σ a0 2) (rI 0) v1 ha0) cbX1_setWork lkX1_45 viX1_setWork (rp_rcO ha0.1 rfl) rfl (Nat.le_of_ble_eq_true rfl) ⟨rfl, rfl, ⟨Nat.le_of_ble_eq_true rfl, Nat.le_of_ble_eq_true rfl⟩, Nat.zero_le _, Nat.zero_le _⟩ rfl (Nat.le_of_ble_eq_true rfl) dX1_addWork_54 (fun σ5 hσ5 => ?_)
            refine rp_aload_n (x := (E.2.2.2.1 a0)) dX1_addWork_57 rfl ?_
            refine rp_aload_n (x := (E.2.2.2.1 a0)) dX1_addWork_58 rfl ?_
            refine rp_getI (k := 2) ha0.1 rfl fdX1_22 dX1_addWork_59 ?_
            refine rp_iconst dX1_addWork_62 ?_
            refine rp_iload_n (x := v2) dX1_addWork_63 rfl ?_
            refine rp_callV_hv (As := [.int (σ5 a0 2), .int (rI 1), .int v2]) (rest := []) (b := (E.2.2.2.1 a0)) (rX1_setWork σ5 a0 (σ5 a0 2) (rI 1) v2 ha0) cbX1_setWork lkX1_45 viX1_setWork (rp_rcO ha0.1 rfl) rfl (Nat.le_of_ble_eq_true rfl) ⟨rfl, rfl, ⟨Nat.le_of_ble_eq_true rfl, Nat.le_of_ble_eq_true rfl⟩, Nat.zero_le _, Nat.zero_le _⟩ rfl (Nat.le_of_ble_eq_true rfl) dX1_addWork_64 (fun σ6 hσ6 => ?_)
            refine rp_aload_n (x := (E.2.2.2.1 a0)) dX1_addWork_67 rfl ?_
            refine rp_aload_n (x := (E.2.2.2.1 a0)) dX1_addWork_68 rfl ?_
            refine rp_getI (k := 2) ha0.1 rfl fdX1_22 dX1_addWork_69 ?_
            refine rp_iconst dX1_addWork_72 ?_
            refine rp_iload_n (x := v3) dX1_addWork_73 rfl ?_
            refine rp_callV_hv (As := [.int (σ6 a0 2), .int (rI 2), .int v3]) (rest := []) (b := (E.2.2.2.1 a0)) (rX1_setWork σ6 a0 (σ6 a0 2) (rI 2) v3 ha0) cbX1_setWork lkX1_45 viX1_setWork (rp_rcO ha0.1 rfl) rfl (Nat.le_of_ble_eq_true rfl) ⟨rfl, rfl, ⟨Nat.le_of_ble_eq_true rfl, Nat.le_of_ble_eq_true rfl⟩, Nat.zero_le _, Nat.zero_le _⟩ rfl (Nat.le_of_ble_eq_true rfl) dX1_addWork_74 (fun σ7 hσ7 => ?_)
            refine rp_aload_n (x := (E.2.2.2.1 a0)) dX1_addWork_77 rfl ?_
            refine rp_aload_n (x := (E.2.2.2.1 a0)) dX1_addWork_78 rfl ?_
            refine rp_getI (k := 2) ha0.1 rfl fdX1_22 dX1_addWork_79 ?_
            refine rp_iconst dX1_addWork_82 ?_
            refine rp_iload (x := v4) dX1_addWork_83 rfl ?_
            refine rp_callV_hv (As := [.int (σ7 a0 2), .int (rI 3), .int v4]) (rest := []) (b := (E.2.2.2.1 a0)) (rX1_setWork σ7 a0 (σ7 a0 2) (rI 3) v4 ha0) cbX1_setWork lkX1_45 viX1_setWork (rp_rcO ha0.1 rfl) rfl (Nat.le_of_ble_eq_true rfl) ⟨rfl, rfl, ⟨Nat.le_of_ble_eq_true rfl, Nat.le_of_ble_eq_true rfl⟩, Nat.zero_le _, Nat.zero_le _⟩ rfl (Nat.le_of_ble_eq_true rfl) dX1_addWork_85 (fun σ8 hσ8 => ?_)
            refine rp_aload_n (x := (E.2.2.2.1 a0)) dX1_addWork_88 rfl ?_
            refine rp_dup dX1_addWork_89 rfl ?_
            refine rp_getI (k := 2) ha0.1 rfl fdX1_22 dX1_addWork_90 ?_
            refine rp_iconst dX1_addWork_93 ?_
            refine rp_iadd dX1_addWork_94 ?_
            refine rp_putB (k := 2) ha0.1 rfl fpX1_22 (vp_nar_int _) rfl dX1_addWork_95 (fun σ9 => ?_)
            refine rp_aload_n (x := (E.2.2.2.1 a0)) dX1_addWork_98 rfl ?_
            refine rp_getI (k := 2) ha0.1 rfl fdX1_22 dX1_addWork_99 ?_
            exact rp_iret rfl rfl dX1_addWork_102
          · refine rp_bipush dX1_addWork_44 (by decide) ?_
            exact rp_iret rfl rfl dX1_addWork_46
        · refine rp_iconst dX1_addWork_33 ?_
          exact rp_iret rfl rfl dX1_addWork_34
/-! RocketPrint$Tape.takeWork(LRocketPrint$Night;I)V -/
abbrev rmX5_takeWork : Room := { frames := 3, cells := 0, slots := 0, locals := 67 }
def fX5_takeWork_14 (a1 : Nat) (σ : rp_S) (v2 : Int32) : Option (rp_S) :=
  ((rq_td 0 (rI 1)).bind fun x1 =>
    ((rq_td 1 (rI 1)).bind fun x2 =>
    ((fX5_takeNumber σ x1 x2).bind fun p3 =>
    ((rq_td 0 (rI 2)).bind fun x4 =>
    ((rq_td 1 (rI 2)).bind fun x5 =>
    ((fX5_takeNumber p3.2 x4 x5).bind fun p6 =>
    ((rq_td 0 (rI 3)).bind fun x7 =>
    ((rq_td 1 (rI 3)).bind fun x8 =>
    ((fX5_takeNumber p6.2 x7 x8).bind fun p9 =>
    ((fX5_takeSign p9.2).bind fun σ10 =>
    (if (σ10 13 2) = 0 then
    ((fX1_addWork σ10 a1 v2 (p3.1) (p6.1) (p9.1)).bind fun p11 =>
    (some p11.2))
  else
    (some σ10))))))))))))
set_option maxRecDepth 100000 in
theorem rX5_takeWork_14 {E : rp_E} (a1 : Nat) (ha1 : rp_Ni a1)  (σ : rp_S) (v2 : Int32) : rp_R E (rp_mK E rmX5_takeWork) mX5_takeWork 14 [some (.ref (E.2.2.2.1 13)), some (.ref (E.2.2.2.1 a1)), some (.int v2), none, none, none] [] σ rp_hv (fX5_takeWork_14 a1 σ v2) := by
  rw [fX5_takeWork_14]
  refine rp_aload_n (x := (E.2.2.2.1 13)) dX5_takeWork_14 rfl ?_
  refine rp_gets (i := 0) (by decide) slX5_68 dX5_takeWork_15 ?_
  refine rp_iconst dX5_takeWork_18 ?_
  refine rp_tald (i := 0) (by decide) dX5_takeWork_19 (fun x1 => ?_)
  refine rp_gets (i := 1) (by decide) slX5_72 dX5_takeWork_20 ?_
  refine rp_iconst dX5_takeWork_23 ?_
  refine rp_tald (i := 1) (by decide) dX5_takeWork_24 (fun x2 => ?_)
  refine rp_callV_hI (As := [.int x1, .int x2]) (rest := []) (b := (E.2.2.2.1 13)) (rX5_takeNumber σ x1 x2) cbX5_takeNumber lkX5_75 viX5_takeNumber (rp_rcO sh13 rfl) rfl (Nat.le_of_ble_eq_true rfl) ⟨rfl, rfl, ⟨Nat.le_of_ble_eq_true rfl, Nat.le_of_ble_eq_true rfl⟩, Nat.zero_le _, Nat.zero_le _⟩ rfl (Nat.le_of_ble_eq_true rfl) dX5_takeWork_25 (fun p3 hp3 => ?_)
  refine rp_istore_n dX5_takeWork_28 (by decide) rfl ?_
  refine rp_aload_n (x := (E.2.2.2.1 13)) dX5_takeWork_29 rfl ?_
  refine rp_gets (i := 0) (by decide) slX5_68 dX5_takeWork_30 ?_
  refine rp_iconst dX5_takeWork_33 ?_
  refine rp_tald (i := 0) (by decide) dX5_takeWork_34 (fun x4 => ?_)
  refine rp_gets (i := 1) (by decide) slX5_72 dX5_takeWork_35 ?_
  refine rp_iconst dX5_takeWork_38 ?_
  refine rp_tald (i := 1) (by decide) dX5_takeWork_39 (fun x5 => ?_)
  refine rp_callV_hI (As := [.int x4, .int x5]) (rest := []) (b := (E.2.2.2.1 13)) (rX5_takeNumber p3.2 x4 x5) cbX5_takeNumber lkX5_75 viX5_takeNumber (rp_rcO sh13 rfl) rfl (Nat.le_of_ble_eq_true rfl) ⟨rfl, rfl, ⟨Nat.le_of_ble_eq_true rfl, Nat.le_of_ble_eq_true rfl⟩, Nat.zero_le _, Nat.zero_le _⟩ rfl (Nat.le_of_ble_eq_true rfl) dX5_takeWork_40 (fun p6 hp6 => ?_)
  refine rp_istore dX5_takeWork_43 (by decide) rfl ?_
  refine rp_aload_n (x := (E.2.2.2.1 13)) dX5_takeWork_45 rfl ?_
  refine rp_gets (i := 0) (by decide) slX5_68 dX5_takeWork_46 ?_
  refine rp_iconst dX5_takeWork_49 ?_
  refine rp_tald (i := 0) (by decide) dX5_takeWork_50 (fun x7 => ?_)
  refine rp_gets (i := 1) (by decide) slX5_72 dX5_takeWork_51 ?_
  refine rp_iconst dX5_takeWork_54 ?_
  refine rp_tald (i := 1) (by decide) dX5_takeWork_55 (fun x8 => ?_)
  refine rp_callV_hI (As := [.int x7, .int x8]) (rest := []) (b := (E.2.2.2.1 13)) (rX5_takeNumber p6.2 x7 x8) cbX5_takeNumber lkX5_75 viX5_takeNumber (rp_rcO sh13 rfl) rfl (Nat.le_of_ble_eq_true rfl) ⟨rfl, rfl, ⟨Nat.le_of_ble_eq_true rfl, Nat.le_of_ble_eq_true rfl⟩, Nat.zero_le _, Nat.zero_le _⟩ rfl (Nat.le_of_ble_eq_true rfl) dX5_takeWork_56 (fun p9 hp9 => ?_)
  refine rp_istore dX5_takeWork_59 (by decide) rfl ?_
  refine rp_aload_n (x := (E.2.2.2.1 13)) dX5_takeWork_61 rfl ?_
  refine rp_callV_hv (As := []) (rest := []) (b := (E.2.2.2.1 13)) (rX5_takeSign p9.2) cbX5_takeSign lkX5_79 viX5_takeSign (rp_rcO sh13 rfl) rfl (Nat.le_of_ble_eq_true rfl) ⟨rfl, rfl, ⟨Nat.le_of_ble_eq_true rfl, Nat.le_of_ble_eq_true rfl⟩, Nat.zero_le _, Nat.zero_le _⟩ rfl (Nat.le_of_ble_eq_true rfl) dX5_takeWork_62 (fun σ10 hσ10 => ?_)
  refine rp_aload_n (x := (E.2.2.2.1 13)) dX5_takeWork_65 rfl ?_
  refine rp_getI (k := 2) sh13 rfl fdX5_20 dX5_takeWork_66 ?_
  refine rp_if_ne (tgt := 83) dX5_takeWork_69 (by decide) ?_ ?_
  · exact rp_vret rfl rfl dX5_takeWork_83
  · refine rp_aload_n (x := (E.2.2.2.1 a1)) dX5_takeWork_72 rfl ?_
    refine rp_iload_n (x := v2) dX5_takeWork_73 rfl ?_
    refine rp_iload_n (x := p3.1) dX5_takeWork_74 rfl ?_
    refine rp_iload (x := p6.1) dX5_takeWork_75 rfl ?_
    refine rp_iload (x := p9.1) dX5_takeWork_77 rfl ?_
    refine rp_callV_hI (As := [.int v2, .int p3.1, .int p6.1, .int p9.1]) (rest := []) (b := (E.2.2.2.1 a1)) (rX1_addWork σ10 a1 v2 (p3.1) (p6.1) (p9.1) ha1) cbX1_addWork lkX5_82 viX1_addWork (rp_rcO ha1.1 rfl) rfl (Nat.le_of_ble_eq_true rfl) ⟨rfl, rfl, ⟨Nat.le_of_ble_eq_true rfl, Nat.le_of_ble_eq_true rfl⟩, Nat.zero_le _, Nat.zero_le _⟩ rfl (Nat.le_of_ble_eq_true rfl) dX5_takeWork_79 (fun p11 hp11 => ?_)
    refine rp_pop dX5_takeWork_82 rfl ?_
    exact rp_vret rfl rfl dX5_takeWork_83
def fX5_takeWork (σ : rp_S) (a1 : Nat) (v2 : Int32) : Option (rp_S) :=
  (if (σ a1 2) < (rI 6) then
    (fX5_takeWork_14 a1 σ v2)
  else
    ((fX5_blame σ (rI 5)).bind fun σ12 =>
    (fX5_takeWork_14 a1 σ12 v2)))
set_option maxRecDepth 100000 in
theorem rX5_takeWork {E : rp_E} (σ : rp_S) (a1 : Nat) (v2 : Int32) (ha1 : rp_Ni a1)  : rp_R E (rp_mK E rmX5_takeWork) mX5_takeWork 0 [some (.ref (E.2.2.2.1 13)), some (.ref (E.2.2.2.1 a1)), some (.int v2), none, none, none] [] σ rp_hv (fX5_takeWork σ a1 v2) := by
  rw [fX5_takeWork]
  refine rp_aload_n (x := (E.2.2.2.1 a1)) dX5_takeWork_0 rfl ?_
  refine rp_getI (k := 2) ha1.1 rfl fdX5_65 dX5_takeWork_1 ?_
  refine rp_bipush dX5_takeWork_4 (by decide) ?_
  refine rp_icmp_lt (tgt := 14) dX5_takeWork_6 (by decide) ?_ ?_
  · refine rp_mask [true, true, true, false, false, false] (vs2 := [some (.ref (E.2.2.2.1 13)), some (.ref (E.2.2.2.1 a1)), some (.int v2), none, none, none]) rfl rfl ?_
    exact rX5_takeWork_14 a1 ha1 σ v2
  · refine rp_aload_n (x := (E.2.2.2.1 13)) dX5_takeWork_9 rfl ?_
    refine rp_iconst dX5_takeWork_10 ?_
    refine rp_callV_hv (As := [.int (rI 5)]) (rest := []) (b := (E.2.2.2.1 13)) (rX5_blame σ (rI 5)) cbX5_blame lkX5_48 viX5_blame (rp_rcO sh13 rfl) rfl (Nat.le_of_ble_eq_true rfl) ⟨rfl, rfl, ⟨Nat.le_of_ble_eq_true rfl, Nat.le_of_ble_eq_true rfl⟩, Nat.zero_le _, Nat.zero_le _⟩ rfl (Nat.le_of_ble_eq_true rfl) dX5_takeWork_11 (fun σ12 hσ12 => ?_)
    refine rp_mask [true, true, true, false, false, false] (vs2 := [some (.ref (E.2.2.2.1 13)), some (.ref (E.2.2.2.1 a1)), some (.int v2), none, none, none]) rfl rfl ?_
    exact rX5_takeWork_14 a1 ha1 σ12 v2
/-! RocketPrint.fitsReader(II)Z -/
abbrev rmX6_fitsReader : Room := { frames := 1, cells := 0, slots := 0, locals := 22 }
def fX6_fitsReader (σ : rp_S) (v0 : Int32) (v1 : Int32) : Option (Int32) :=
  ((fX6_within v0 (rI 0) (rI 1)).bind fun x1 =>
    (if x1 = 0 then
    (some (rI 0))
  else
    ((rq_td 2 v0).bind fun x2 =>
    ((fX6_within v1 (rI 0) x2).bind fun x3 =>
    (if x3 = 0 then
    (some (rI 0))
  else
    (some (rI 1)))))))
set_option maxRecDepth 100000 in
theorem rX6_fitsReader {E : rp_E} (σ : rp_S) (v0 : Int32) (v1 : Int32)   : rp_R E (rp_mK E rmX6_fitsReader) mX6_fitsReader 0 [some (.int v0), some (.int v1)] [] σ (rp_hi σ) (fX6_fitsReader σ v0 v1) := by
  rw [fX6_fitsReader]
  refine rp_iload_n (x := v0) dX6_fitsReader_0 rfl ?_
  refine rp_iconst dX6_fitsReader_1 ?_
  refine rp_iconst dX6_fitsReader_2 ?_
  refine rp_callS_hi (As := [.int v0, .int (rI 0), .int (rI 1)]) (rest := []) (rX6_within σ v0 (rI 0) (rI 1)) cbX6_within lkX6_57 stX6_within rfl (Nat.le_of_ble_eq_true rfl) ⟨rfl, rfl, ⟨Nat.le_of_ble_eq_true rfl, Nat.le_of_ble_eq_true rfl⟩, Nat.zero_le _, Nat.zero_le _⟩ rfl (Nat.le_of_ble_eq_true rfl) dX6_fitsReader_3 (fun x1 hx1 => ?_)
  refine rp_if_eq (tgt := 26) dX6_fitsReader_6 (by decide) ?_ ?_
  · refine rp_iconst dX6_fitsReader_26 ?_
    exact rp_zret (x' := (rI 0)) rfl (by decide) rfl dX6_fitsReader_27
  · refine rp_iload_n (x := v1) dX6_fitsReader_9 rfl ?_
    refine rp_iconst dX6_fitsReader_10 ?_
    refine rp_gets (i := 2) (by decide) slX6_314 dX6_fitsReader_11 ?_
    refine rp_iload_n (x := v0) dX6_fitsReader_14 rfl ?_
    refine rp_tald (i := 2) (by decide) dX6_fitsReader_15 (fun x2 => ?_)
    refine rp_callS_hi (As := [.int v1, .int (rI 0), .int x2]) (rest := []) (rX6_within σ v1 (rI 0) x2) cbX6_within lkX6_57 stX6_within rfl (Nat.le_of_ble_eq_true rfl) ⟨rfl, rfl, ⟨Nat.le_of_ble_eq_true rfl, Nat.le_of_ble_eq_true rfl⟩, Nat.zero_le _, Nat.zero_le _⟩ rfl (Nat.le_of_ble_eq_true rfl) dX6_fitsReader_16 (fun x3 hx3 => ?_)
    refine rp_if_eq (tgt := 26) dX6_fitsReader_19 (by decide) ?_ ?_
    · refine rp_iconst dX6_fitsReader_26 ?_
      exact rp_zret (x' := (rI 0)) rfl (by decide) rfl dX6_fitsReader_27
    · refine rp_iconst dX6_fitsReader_22 ?_
      refine rp_goto (tgt := 27) dX6_fitsReader_23 (by decide) ?_
      exact rp_zret (x' := (rI 1)) rfl (by decide) rfl dX6_fitsReader_27
/-! RocketPrint$Night.setReader(III)V -/
abbrev rmX1_setReader : Room := { frames := 0, cells := 0, slots := 0, locals := 0 }
def fX1_setReader (σ : rp_S) (a0 : Nat) (v1 : Int32) (v2 : Int32) (v3 : Int32) : Option (rp_S) :=
  ((rq_wr σ (a0 + 2) 8 ((v1 * (rI 2)) + v2) v3).bind fun σ1 =>
    (some σ1))
set_option maxRecDepth 100000 in
theorem rX1_setReader {E : rp_E} (σ : rp_S) (a0 : Nat) (v1 : Int32) (v2 : Int32) (v3 : Int32) (ha0 : rp_Ni a0)  : rp_R E (rp_mK E rmX1_setReader) mX1_setReader 0 [some (.ref (E.2.2.2.1 a0)), some (.int v1), some (.int v2), some (.int v3)] [] σ rp_hv (fX1_setReader σ a0 v1 v2 v3) := by
  rw [fX1_setReader]
  refine rp_aload_n (x := (E.2.2.2.1 a0)) dX1_setReader_0 rfl ?_
  refine rp_getR (k := 1) (b := (a0 + 2)) ha0.1 rfl fdX1_15 dX1_setReader_1 ?_
  refine rp_iload_n (x := v1) dX1_setReader_4 rfl ?_
  refine rp_iconst dX1_setReader_5 ?_
  refine rp_imul dX1_setReader_6 ?_
  refine rp_iload_n (x := v2) dX1_setReader_7 rfl ?_
  refine rp_iadd dX1_setReader_8 ?_
  refine rp_iload_n (x := v3) dX1_setReader_9 rfl ?_
  refine rp_iastore ha0.2.2 dX1_setReader_10 (fun σ1 => ?_)
  exact rp_vret rfl rfl dX1_setReader_11
/-! RocketPrint$Night.addReader(II)I -/
abbrev rmX1_addReader : Room := { frames := 2, cells := 0, slots := 0, locals := 43 }
def fX1_addReader (σ : rp_S) (a0 : Nat) (v1 : Int32) (v2 : Int32) : Option (Int32 × rp_S) :=
  ((fX6_fitsReader σ (rI 0) v1).bind fun x1 =>
    (if x1 = 0 then
    (some ((rI (-1)), σ))
  else
    ((fX6_fitsReader σ (rI 1) v2).bind fun x2 =>
    (if x2 = 0 then
    (some ((rI (-1)), σ))
  else
    (if (σ a0 3) < (rI 4) then
    ((fX1_setReader σ a0 (σ a0 3) (rI 0) v1).bind fun σ3 =>
    ((fX1_setReader σ3 a0 (σ3 a0 3) (rI 1) v2).bind fun σ4 =>
    ((some (rp_up σ4 a0 3 ((σ4 a0 3) + (rI 1)))).bind fun σ5 =>
    (some ((σ5 a0 3), σ5)))))
  else
    (some ((rI (-3)), σ)))))))
set_option maxRecDepth 100000 in
theorem rX1_addReader {E : rp_E} (σ : rp_S) (a0 : Nat) (v1 : Int32) (v2 : Int32) (ha0 : rp_Ni a0)  : rp_R E (rp_mK E rmX1_addReader) mX1_addReader 0 [some (.ref (E.2.2.2.1 a0)), some (.int v1), some (.int v2)] [] σ rp_hI (fX1_addReader σ a0 v1 v2) := by
  rw [fX1_addReader]
  refine rp_iconst dX1_addReader_0 ?_
  refine rp_iload_n (x := v1) dX1_addReader_1 rfl ?_
  refine rp_callS_hi (As := [.int (rI 0), .int v1]) (rest := []) (rX6_fitsReader σ (rI 0) v1) cbX6_fitsReader lkX1_49 stX6_fitsReader rfl (Nat.le_of_ble_eq_true rfl) ⟨rfl, rfl, ⟨Nat.le_of_ble_eq_true rfl, Nat.le_of_ble_eq_true rfl⟩, Nat.zero_le _, Nat.zero_le _⟩ rfl (Nat.le_of_ble_eq_true rfl) dX1_addReader_2 (fun x1 hx1 => ?_)
  refine rp_if_eq (tgt := 16) dX1_addReader_5 (by decide) ?_ ?_
  · refine rp_iconst dX1_addReader_16 ?_
    exact rp_iret rfl rfl dX1_addReader_17
  · refine rp_iconst dX1_addReader_8 ?_
    refine rp_iload_n (x := v2) dX1_addReader_9 rfl ?_
    refine rp_callS_hi (As := [.int (rI 1), .int v2]) (rest := []) (rX6_fitsReader σ (rI 1) v2) cbX6_fitsReader lkX1_49 stX6_fitsReader rfl (Nat.le_of_ble_eq_true rfl) ⟨rfl, rfl, ⟨Nat.le_of_ble_eq_true rfl, Nat.le_of_ble_eq_true rfl⟩, Nat.zero_le _, Nat.zero_le _⟩ rfl (Nat.le_of_ble_eq_true rfl) dX1_addReader_10 (fun x2 hx2 => ?_)
    refine rp_if_ne (tgt := 18) dX1_addReader_13 (by decide) ?_ ?_
    · refine rp_aload_n (x := (E.2.2.2.1 a0)) dX1_addReader_18 rfl ?_
      refine rp_getI (k := 3) ha0.1 rfl fdX1_25 dX1_addReader_19 ?_
      refine rp_iconst dX1_addReader_22 ?_
      refine rp_icmp_lt (tgt := 29) dX1_addReader_23 (by decide) ?_ ?_
      · refine rp_aload_n (x := (E.2.2.2.1 a0)) dX1_addReader_29 rfl ?_
        refine rp_aload_n (x := (E.2.2.2.1 a0)) dX1_addReader_30 rfl ?_
        refine rp_getI (k := 3) ha0.1 rfl fdX1_25 dX1_addReader_31 ?_
        refine rp_iconst dX1_addReader_34 ?_
        refine rp_iload_n (x := v1) dX1_addReader_35 rfl ?_
        refine rp_callV_hv (As := [.int (σ a0 3), .int (rI 0), .int v1]) (rest := []) (b := (E.2.2.2.1 a0)) (rX1_setReader σ a0 (σ a0 3) (rI 0) v1 ha0) cbX1_setReader lkX1_52 viX1_setReader (rp_rcO ha0.1 rfl) rfl (Nat.le_of_ble_eq_true rfl) ⟨rfl, rfl, ⟨Nat.le_of_ble_eq_true rfl, Nat.le_of_ble_eq_true rfl⟩, Nat.zero_le _, Nat.zero_le _⟩ rfl (Nat.le_of_ble_eq_true rfl) dX1_addReader_36 (fun σ3 hσ3 => ?_)
        refine rp_aload_n (x := (E.2.2.2.1 a0)) dX1_addReader_39 rfl ?_
        refine rp_aload_n (x := (E.2.2.2.1 a0)) dX1_addReader_40 rfl ?_
        refine rp_getI (k := 3) ha0.1 rfl fdX1_25 dX1_addReader_41 ?_
        refine rp_iconst dX1_addReader_44 ?_
        refine rp_iload_n (x := v2) dX1_addReader_45 rfl ?_
        refine rp_callV_hv (As := [.int (σ3 a0 3), .int (rI 1), .int v2]) (rest := []) (b := (E.2.2.2.1 a0)) (rX1_setReader σ3 a0 (σ3 a0 3) (rI 1) v2 ha0) cbX1_setReader lkX1_52 viX1_setReader (rp_rcO ha0.1 rfl) rfl (Nat.le_of_ble_eq_true rfl) ⟨rfl, rfl, ⟨Nat.le_of_ble_eq_true rfl, Nat.le_of_ble_eq_true rfl⟩, Nat.zero_le _, Nat.zero_le _⟩ rfl (Nat.le_of_ble_eq_true rfl) dX1_addReader_46 (fun σ4 hσ4 => ?_)
        refine rp_aload_n (x := (E.2.2.2.1 a0)) dX1_addReader_49 rfl ?_
        refine rp_dup dX1_addReader_50 rfl ?_
        refine rp_getI (k := 3) ha0.1 rfl fdX1_25 dX1_addReader_51 ?_
        refine rp_iconst dX1_addReader_54 ?_
        refine rp_iadd dX1_addReader_55 ?_
        refine rp_putB (k := 3) ha0.1 rfl fpX1_25 (vp_nar_int _) rfl dX1_addReader_56 (fun σ5 => ?_)
        refine rp_aload_n (x := (E.2.2.2.1 a0)) dX1_addReader_59 rfl ?_
        refine rp_getI (k := 3) ha0.1 rfl fdX1_25 dX1_addReader_60 ?_
        exact rp_iret rfl rfl dX1_addReader_63
      · refine rp_bipush dX1_addReader_26 (by decide) ?_
        exact rp_iret rfl rfl dX1_addReader_28
    · refine rp_iconst dX1_addReader_16 ?_
      exact rp_iret rfl rfl dX1_addReader_17
/-! RocketPrint$Tape.takeReader(LRocketPrint$Night;)V -/
abbrev rmX5_takeReader : Room := { frames := 3, cells := 0, slots := 0, locals := 65 }
def fX5_takeReader_13 (a1 : Nat) (σ : rp_S) : Option (rp_S) :=
  ((rq_td 2 (rI 0)).bind fun x1 =>
    ((fX5_takeNumber σ (rI 0) x1).bind fun p2 =>
    ((rq_td 2 (rI 1)).bind fun x3 =>
    ((fX5_takeNumber p2.2 (rI 0) x3).bind fun p4 =>
    ((fX5_takeSign p4.2).bind fun σ5 =>
    (if (σ5 13 2) = 0 then
    ((fX1_addReader σ5 a1 (p2.1) (p4.1)).bind fun p6 =>
    (some p6.2))
  else
    (some σ5)))))))
set_option maxRecDepth 100000 in
theorem rX5_takeReader_13 {E : rp_E} (a1 : Nat) (ha1 : rp_Ni a1)  (σ : rp_S) : rp_R E (rp_mK E rmX5_takeReader) mX5_takeReader 13 [some (.ref (E.2.2.2.1 13)), some (.ref (E.2.2.2.1 a1)), none, none] [] σ rp_hv (fX5_takeReader_13 a1 σ) := by
  rw [fX5_takeReader_13]
  refine rp_aload_n (x := (E.2.2.2.1 13)) dX5_takeReader_13 rfl ?_
  refine rp_iconst dX5_takeReader_14 ?_
  refine rp_gets (i := 2) (by decide) slX5_89 dX5_takeReader_15 ?_
  refine rp_iconst dX5_takeReader_18 ?_
  refine rp_tald (i := 2) (by decide) dX5_takeReader_19 (fun x1 => ?_)
  refine rp_callV_hI (As := [.int (rI 0), .int x1]) (rest := []) (b := (E.2.2.2.1 13)) (rX5_takeNumber σ (rI 0) x1) cbX5_takeNumber lkX5_75 viX5_takeNumber (rp_rcO sh13 rfl) rfl (Nat.le_of_ble_eq_true rfl) ⟨rfl, rfl, ⟨Nat.le_of_ble_eq_true rfl, Nat.le_of_ble_eq_true rfl⟩, Nat.zero_le _, Nat.zero_le _⟩ rfl (Nat.le_of_ble_eq_true rfl) dX5_takeReader_20 (fun p2 hp2 => ?_)
  refine rp_istore_n dX5_takeReader_23 (by decide) rfl ?_
  refine rp_aload_n (x := (E.2.2.2.1 13)) dX5_takeReader_24 rfl ?_
  refine rp_iconst dX5_takeReader_25 ?_
  refine rp_gets (i := 2) (by decide) slX5_89 dX5_takeReader_26 ?_
  refine rp_iconst dX5_takeReader_29 ?_
  refine rp_tald (i := 2) (by decide) dX5_takeReader_30 (fun x3 => ?_)
  refine rp_callV_hI (As := [.int (rI 0), .int x3]) (rest := []) (b := (E.2.2.2.1 13)) (rX5_takeNumber p2.2 (rI 0) x3) cbX5_takeNumber lkX5_75 viX5_takeNumber (rp_rcO sh13 rfl) rfl (Nat.le_of_ble_eq_true rfl) ⟨rfl, rfl, ⟨Nat.le_of_ble_eq_true rfl, Nat.le_of_ble_eq_true rfl⟩, Nat.zero_le _, Nat.zero_le _⟩ rfl (Nat.le_of_ble_eq_true rfl) dX5_takeReader_31 (fun p4 hp4 => ?_)
  refine rp_istore_n dX5_takeReader_34 (by decide) rfl ?_
  refine rp_aload_n (x := (E.2.2.2.1 13)) dX5_takeReader_35 rfl ?_
  refine rp_callV_hv (As := []) (rest := []) (b := (E.2.2.2.1 13)) (rX5_takeSign p4.2) cbX5_takeSign lkX5_79 viX5_takeSign (rp_rcO sh13 rfl) rfl (Nat.le_of_ble_eq_true rfl) ⟨rfl, rfl, ⟨Nat.le_of_ble_eq_true rfl, Nat.le_of_ble_eq_true rfl⟩, Nat.zero_le _, Nat.zero_le _⟩ rfl (Nat.le_of_ble_eq_true rfl) dX5_takeReader_36 (fun σ5 hσ5 => ?_)
  refine rp_aload_n (x := (E.2.2.2.1 13)) dX5_takeReader_39 rfl ?_
  refine rp_getI (k := 2) sh13 rfl fdX5_20 dX5_takeReader_40 ?_
  refine rp_if_ne (tgt := 53) dX5_takeReader_43 (by decide) ?_ ?_
  · exact rp_vret rfl rfl dX5_takeReader_53
  · refine rp_aload_n (x := (E.2.2.2.1 a1)) dX5_takeReader_46 rfl ?_
    refine rp_iload_n (x := p2.1) dX5_takeReader_47 rfl ?_
    refine rp_iload_n (x := p4.1) dX5_takeReader_48 rfl ?_
    refine rp_callV_hI (As := [.int p2.1, .int p4.1]) (rest := []) (b := (E.2.2.2.1 a1)) (rX1_addReader σ5 a1 (p2.1) (p4.1) ha1) cbX1_addReader lkX5_92 viX1_addReader (rp_rcO ha1.1 rfl) rfl (Nat.le_of_ble_eq_true rfl) ⟨rfl, rfl, ⟨Nat.le_of_ble_eq_true rfl, Nat.le_of_ble_eq_true rfl⟩, Nat.zero_le _, Nat.zero_le _⟩ rfl (Nat.le_of_ble_eq_true rfl) dX5_takeReader_49 (fun p6 hp6 => ?_)
    refine rp_pop dX5_takeReader_52 rfl ?_
    exact rp_vret rfl rfl dX5_takeReader_53
def fX5_takeReader (σ : rp_S) (a1 : Nat) : Option (rp_S) :=
  (if (σ a1 3) < (rI 4) then
    (fX5_takeReader_13 a1 σ)
  else
    ((fX5_blame σ (rI 5)).bind fun σ7 =>
    (fX5_takeReader_13 a1 σ7)))
set_option maxRecDepth 100000 in
theorem rX5_takeReader {E : rp_E} (σ : rp_S) (a1 : Nat) (ha1 : rp_Ni a1)  : rp_R E (rp_mK E rmX5_takeReader) mX5_takeReader 0 [some (.ref (E.2.2.2.1 13)), some (.ref (E.2.2.2.1 a1)), none, none] [] σ rp_hv (fX5_takeReader σ a1) := by
  rw [fX5_takeReader]
  refine rp_aload_n (x := (E.2.2.2.1 a1)) dX5_takeReader_0 rfl ?_
  refine rp_getI (k := 3) ha1.1 rfl fdX5_86 dX5_takeReader_1 ?_
  refine rp_iconst dX5_takeReader_4 ?_
  refine rp_icmp_lt (tgt := 13) dX5_takeReader_5 (by decide) ?_ ?_
  · refine rp_mask [true, true, false, false] (vs2 := [some (.ref (E.2.2.2.1 13)), some (.ref (E.2.2.2.1 a1)), none, none]) rfl rfl ?_
    exact rX5_takeReader_13 a1 ha1 σ
  · refine rp_aload_n (x := (E.2.2.2.1 13)) dX5_takeReader_8 rfl ?_
    refine rp_iconst dX5_takeReader_9 ?_
    refine rp_callV_hv (As := [.int (rI 5)]) (rest := []) (b := (E.2.2.2.1 13)) (rX5_blame σ (rI 5)) cbX5_blame lkX5_48 viX5_blame (rp_rcO sh13 rfl) rfl (Nat.le_of_ble_eq_true rfl) ⟨rfl, rfl, ⟨Nat.le_of_ble_eq_true rfl, Nat.le_of_ble_eq_true rfl⟩, Nat.zero_le _, Nat.zero_le _⟩ rfl (Nat.le_of_ble_eq_true rfl) dX5_takeReader_10 (fun σ7 hσ7 => ?_)
    refine rp_mask [true, true, false, false] (vs2 := [some (.ref (E.2.2.2.1 13)), some (.ref (E.2.2.2.1 a1)), none, none]) rfl rfl ?_
    exact rX5_takeReader_13 a1 ha1 σ7
