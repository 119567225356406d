/-! RocketPrintModel.sky(I)I -/
abbrev rmX7_sky : Room := { frames := 2, cells := 0, slots := 0, locals := 48 }
def fX7_sky_42 (σ : rp_S) (k13 : Int32 → Int32 → Int32 → Option (Int32)) (v1 : Int32) (v3 : Int32) (s0 : Int32) (s1 : Int32) : Option (Int32) :=
  (k13 v1 (s1 ||| s0) (v3 + (rI 1)))
set_option maxRecDepth 100000 in
theorem rX7_sky_42 {E : rp_E} (σ : rp_S) (k13 : Int32 → Int32 → Int32 → Option (Int32)) (hk13 : ∀ (v1 : Int32) (v2 : Int32) (v3 : Int32), rp_R E (rp_mK E rmX7_sky) mX7_sky 13 [some (.ref (E.2.2.2.1 28)), some (.int v1), some (.int v2), some (.int v3)] [] σ (rp_hi σ) (k13 v1 v2 v3)) (v1 : Int32) (v3 : Int32) (s0 : Int32) (s1 : Int32) : rp_R E (rp_mK E rmX7_sky) mX7_sky 42 [some (.ref (E.2.2.2.1 28)), some (.int v1), none, some (.int v3)] [.int s0, .int s1] σ (rp_hi σ) (fX7_sky_42 σ k13 v1 v3 s0 s1) := by
  rw [fX7_sky_42]
  refine rp_ior dX7_sky_42 ?_
  refine rp_istore_n dX7_sky_43 (by decide) rfl ?_
  refine rp_iinc (x := v3) dX7_sky_44 rfl (by decide) rfl ?_
  refine rp_goto (tgt := 13) dX7_sky_47 (by decide) ?_
  refine rp_mask [true, true, true, true] (vs2 := [some (.ref (E.2.2.2.1 28)), some (.int v1), some (.int (s1 ||| s0)), some (.int (v3 + (rI 1)))]) rfl rfl ?_
  exact hk13 v1 (s1 ||| s0) (v3 + (rI 1))
def fX7_sky_13 (σ : rp_S) : Nat → Int32 → Int32 → Int32 → Option (Int32)
  | 0, _, _, _ => none
  | n + 1, v1, v2, v3 =>
    ((rq_rd σ 29 180 (rI 24)).bind fun x2 =>
    (if x2 ≤ v3 then
    (some v2)
  else
    ((fX7_isUp σ (rI 0) v3 v1).bind fun x3 =>
    (if x3 = 0 then
    (fX7_sky_42 σ (fun v1 v2 v3 => fX7_sky_13 σ n v1 v2 v3) v1 v3 (rI 0) v2)
  else
    (fX7_sky_42 σ (fun v1 v2 v3 => fX7_sky_13 σ n v1 v2 v3) v1 v3 ((rI 1) <<< (v3 &&& 31)) v2)))))
set_option maxRecDepth 100000 in
theorem rX7_sky_13 {E : rp_E} (σ : rp_S) : ∀ (n : Nat) (v1 : Int32) (v2 : Int32) (v3 : Int32), rp_R E (rp_mK E rmX7_sky) mX7_sky 13 [some (.ref (E.2.2.2.1 28)), some (.int v1), some (.int v2), some (.int v3)] [] σ (rp_hi σ) (fX7_sky_13 σ n v1 v2 v3) := by
  intro n
  induction n with
  | zero =>
    intro v1 v2 v3
    rw [fX7_sky_13]
    exact rp_none
  | succ n ih =>
    intro v1 v2 v3
    rw [fX7_sky_13]
    refine rp_iload_n (x := v3) dX7_sky_13 rfl ?_
    refine rp_aload_n (x := (E.2.2.2.1 28)) dX7_sky_14 rfl ?_
    refine rp_getR (k := 0) (b := 29) sh28 rfl fdX7_7 dX7_sky_15 ?_
    refine rp_bipush dX7_sky_18 (by decide) ?_
    refine rp_iaload sh29 dX7_sky_20 (fun x2 => ?_)
    refine rp_icmp_ge (tgt := 50) dX7_sky_21 (by decide) ?_ ?_
    · refine rp_iload_n (x := v2) dX7_sky_50 rfl ?_
      exact rp_iret rfl rfl dX7_sky_51
    · refine rp_iload_n (x := v2) dX7_sky_24 rfl ?_
      refine rp_aload_n (x := (E.2.2.2.1 28)) dX7_sky_25 rfl ?_
      refine rp_iconst dX7_sky_26 ?_
      refine rp_iload_n (x := v3) dX7_sky_27 rfl ?_
      refine rp_iload_n (x := v1) dX7_sky_28 rfl ?_
      refine rp_callV_hi (As := [.int (rI 0), .int v3, .int v1]) (rest := [.int v2]) (b := (E.2.2.2.1 28)) (rX7_isUp σ (rI 0) v3 v1) cbX7_isUp lkX7_145 viX7_isUp (rp_rcO sh28 rfl) rfl (Nat.le_of_ble_eq_true rfl) ⟨rfl, rfl, ⟨Nat.le_of_ble_eq_true rfl, Nat.le_of_ble_eq_true rfl⟩, Nat.zero_le _, Nat.zero_le _⟩ rfl (Nat.le_of_ble_eq_true rfl) dX7_sky_29 (fun x3 hx3 => ?_)
      refine rp_if_eq (tgt := 41) dX7_sky_32 (by decide) ?_ ?_
      · refine rp_iconst dX7_sky_41 ?_
        refine rp_mask [true, true, false, true] (vs2 := [some (.ref (E.2.2.2.1 28)), some (.int v1), none, some (.int v3)]) rfl rfl ?_
        exact rX7_sky_42 σ (fun v1 v2 v3 => fX7_sky_13 σ n v1 v2 v3) (fun v1 v2 v3 => ih v1 v2 v3) v1 v3 (rI 0) v2
      · refine rp_iconst dX7_sky_35 ?_
        refine rp_iload_n (x := v3) dX7_sky_36 rfl ?_
        refine rp_ishl dX7_sky_37 ?_
        refine rp_goto (tgt := 42) dX7_sky_38 (by decide) ?_
        refine rp_mask [true, true, false, true] (vs2 := [some (.ref (E.2.2.2.1 28)), some (.int v1), none, some (.int v3)]) rfl rfl ?_
        exact rX7_sky_42 σ (fun v1 v2 v3 => fX7_sky_13 σ n v1 v2 v3) (fun v1 v2 v3 => ih v1 v2 v3) v1 v3 ((rI 1) <<< (v3 &&& 31)) v2
def fX7_sky (σ : rp_S) (v1 : Int32) : Option (Int32) :=
  ((fX7_isMinute v1).bind fun x1 =>
    (if x1 = 0 then
    (some (rI (-1)))
  else
    (fX7_sky_13 σ 1000 v1 (rI 0) (rI 0))))
set_option maxRecDepth 100000 in
theorem rX7_sky {E : rp_E} (σ : rp_S) (v1 : Int32)   : rp_R E (rp_mK E rmX7_sky) mX7_sky 0 [some (.ref (E.2.2.2.1 28)), some (.int v1), none, none] [] σ (rp_hi σ) (fX7_sky σ v1) := by
  rw [fX7_sky]
  refine rp_iload_n (x := v1) dX7_sky_0 rfl ?_
  refine rp_callS_hi (As := [.int v1]) (rest := []) (rX7_isMinute σ v1) cbX7_isMinute lkX7_186 stX7_isMinute rfl (Nat.le_of_ble_eq_true rfl) ⟨rfl, rfl, ⟨Nat.le_of_ble_eq_true rfl, Nat.le_of_ble_eq_true rfl⟩, Nat.zero_le _, Nat.zero_le _⟩ rfl (Nat.le_of_ble_eq_true rfl) dX7_sky_1 (fun x1 hx1 => ?_)
  refine rp_if_ne (tgt := 9) dX7_sky_4 (by decide) ?_ ?_
  · refine rp_iconst dX7_sky_9 ?_
    refine rp_istore_n dX7_sky_10 (by decide) rfl ?_
    refine rp_iconst dX7_sky_11 ?_
    refine rp_istore_n dX7_sky_12 (by decide) rfl ?_
    refine rp_mask [true, true, true, true] (vs2 := [some (.ref (E.2.2.2.1 28)), some (.int v1), some (.int (rI 0)), some (.int (rI 0))]) rfl rfl ?_
    exact rX7_sky_13 σ 1000 v1 (rI 0) (rI 0)
  · refine rp_iconst dX7_sky_7 ?_
    exact rp_iret rfl rfl dX7_sky_8
/-! RocketPrint.alter(III)I -/
abbrev rmX6_alter : Room := { frames := 2, cells := 0, slots := 0, locals := 43 }
def fX6_alter (σ : rp_S) (v1 : Int32) (v2 : Int32) (v3 : Int32) : Option (Int32 × rp_S) :=
  ((fX1_hasWork σ 1 v1).bind fun x1 =>
    (if x1 = 0 then
    (some ((rI (-1)), σ))
  else
    ((fX6_fitsWork σ v2 v3).bind fun x2 =>
    (if x2 = 0 then
    (some ((rI (-1)), σ))
  else
    ((fX1_ofWork σ 1 v1 v2).bind fun x3 =>
    ((fX1_setWork σ 1 v1 v2 v3).bind fun σ4 =>
    (some (x3, σ4))))))))
set_option maxRecDepth 100000 in
theorem rX6_alter {E : rp_E} (σ : rp_S) (v1 : Int32) (v2 : Int32) (v3 : Int32)   : rp_R E (rp_mK E rmX6_alter) mX6_alter 0 [some (.ref (E.2.2.2.1 0)), some (.int v1), some (.int v2), some (.int v3), none] [] σ rp_hI (fX6_alter σ v1 v2 v3) := by
  rw [fX6_alter]
  refine rp_aload_n (x := (E.2.2.2.1 0)) dX6_alter_0 rfl ?_
  refine rp_getR (k := 0) (b := 1) sh0 rfl fdX6_10 dX6_alter_1 ?_
  refine rp_iload_n (x := v1) dX6_alter_4 rfl ?_
  refine rp_callV_hi (As := [.int v1]) (rest := []) (b := (E.2.2.2.1 1)) (rX1_hasWork σ 1 v1 ni1) cbX1_hasWork lkX6_114 viX1_hasWork (rp_rcO sh1 rfl) rfl (Nat.le_of_ble_eq_true rfl) ⟨rfl, rfl, ⟨Nat.le_of_ble_eq_true rfl, Nat.le_of_ble_eq_true rfl⟩, Nat.zero_le _, Nat.zero_le _⟩ rfl (Nat.le_of_ble_eq_true rfl) dX6_alter_5 (fun x1 hx1 => ?_)
  refine rp_if_eq (tgt := 19) dX6_alter_8 (by decide) ?_ ?_
  · refine rp_iconst dX6_alter_19 ?_
    exact rp_iret rfl rfl dX6_alter_20
  · refine rp_iload_n (x := v2) dX6_alter_11 rfl ?_
    refine rp_iload_n (x := v3) dX6_alter_12 rfl ?_
    refine rp_callS_hi (As := [.int v2, .int v3]) (rest := []) (rX6_fitsWork σ v2 v3) cbX6_fitsWork lkX6_160 stX6_fitsWork rfl (Nat.le_of_ble_eq_true rfl) ⟨rfl, rfl, ⟨Nat.le_of_ble_eq_true rfl, Nat.le_of_ble_eq_true rfl⟩, Nat.zero_le _, Nat.zero_le _⟩ rfl (Nat.le_of_ble_eq_true rfl) dX6_alter_13 (fun x2 hx2 => ?_)
    refine rp_if_ne (tgt := 21) dX6_alter_16 (by decide) ?_ ?_
    · refine rp_aload_n (x := (E.2.2.2.1 0)) dX6_alter_21 rfl ?_
      refine rp_getR (k := 0) (b := 1) sh0 rfl fdX6_10 dX6_alter_22 ?_
      refine rp_iload_n (x := v1) dX6_alter_25 rfl ?_
      refine rp_iload_n (x := v2) dX6_alter_26 rfl ?_
      refine rp_callV_hi (As := [.int v1, .int v2]) (rest := []) (b := (E.2.2.2.1 1)) (rX1_ofWork σ 1 v1 v2 ni1) cbX1_ofWork lkX6_118 viX1_ofWork (rp_rcO sh1 rfl) rfl (Nat.le_of_ble_eq_true rfl) ⟨rfl, rfl, ⟨Nat.le_of_ble_eq_true rfl, Nat.le_of_ble_eq_true rfl⟩, Nat.zero_le _, Nat.zero_le _⟩ rfl (Nat.le_of_ble_eq_true rfl) dX6_alter_27 (fun x3 hx3 => ?_)
      refine rp_istore dX6_alter_30 (by decide) rfl ?_
      refine rp_aload_n (x := (E.2.2.2.1 0)) dX6_alter_32 rfl ?_
      refine rp_getR (k := 0) (b := 1) sh0 rfl fdX6_10 dX6_alter_33 ?_
      refine rp_iload_n (x := v1) dX6_alter_36 rfl ?_
      refine rp_iload_n (x := v2) dX6_alter_37 rfl ?_
      refine rp_iload_n (x := v3) dX6_alter_38 rfl ?_
      refine rp_callV_hv (As := [.int v1, .int v2, .int v3]) (rest := []) (b := (E.2.2.2.1 1)) (rX1_setWork σ 1 v1 v2 v3 ni1) cbX1_setWork lkX6_163 viX1_setWork (rp_rcO sh1 rfl) rfl (Nat.le_of_ble_eq_true rfl) ⟨rfl, rfl, ⟨Nat.le_of_ble_eq_true rfl, Nat.le_of_ble_eq_true rfl⟩, Nat.zero_le _, Nat.zero_le _⟩ rfl (Nat.le_of_ble_eq_true rfl) dX6_alter_39 (fun σ4 hσ4 => ?_)
      refine rp_iload (x := x3) dX6_alter_42 rfl ?_
      exact rp_iret rfl rfl dX6_alter_44
    · refine rp_iconst dX6_alter_19 ?_
      exact rp_iret rfl rfl dX6_alter_20
/-! RocketPrintModel.isPlace(I)Z -/
abbrev rmX7_isPlace : Room := { frames := 1, cells := 0, slots := 0, locals := 25 }
def fX7_isPlace  (v0 : Int32) : Option (Int32) :=
  ((fX7_in (v0.toInt64) (rJ 0) (rJ 11)).bind fun x1 =>
    (some (vp_nar .boolean x1)))
set_option maxRecDepth 100000 in
theorem rX7_isPlace {E : rp_E} (σ : rp_S) (v0 : Int32)   : rp_R E (rp_mK E rmX7_isPlace) mX7_isPlace 0 [some (.int v0)] [] σ (rp_hi σ) (fX7_isPlace v0) := by
  rw [fX7_isPlace]
  refine rp_iload_n (x := v0) dX7_isPlace_0 rfl ?_
  refine rp_i2l dX7_isPlace_1 ?_
  refine rp_lconst dX7_isPlace_2 0 (by decide) ?_
  refine rp_ldc2 (v := (rJ 11)) clX7_119 dX7_isPlace_3 ?_
  refine rp_callS_hi (As := [.long (v0.toInt64), .long (rJ 0), .long (rJ 11)]) (rest := []) (rX7_in σ (v0.toInt64) (rJ 0) (rJ 11)) cbX7_in lkX7_49 stX7_in rfl (Nat.le_of_ble_eq_true rfl) ⟨rfl, rfl, ⟨Nat.le_of_ble_eq_true rfl, Nat.le_of_ble_eq_true rfl⟩, Nat.zero_le _, Nat.zero_le _⟩ rfl (Nat.le_of_ble_eq_true rfl) dX7_isPlace_6 (fun x1 hx1 => ?_)
  exact rp_zret (x' := (vp_nar .boolean x1)) rfl (rp_nrZ _) rfl dX7_isPlace_9
/-! RocketPrintModel.isGood(II)Z -/
abbrev rmX7_isGood : Room := { frames := 2, cells := 0, slots := 0, locals := 45 }
def fX7_isGood  (v0 : Int32) (v1 : Int32) : Option (Int32) :=
  (if v0 = 0 then
    ((fX7_in (v1.toInt64) (rJ 0) (rJ 3)).bind fun x4 =>
    (some (vp_nar .boolean x4)))
  else
    (if v0 = (rI 1) then
    ((fX7_isPlace v1).bind fun x3 =>
    (some (vp_nar .boolean x3)))
  else
    (if v0 = (rI 2) then
    ((fX7_in (v1.toInt64) (rJ 0) (rJ 59)).bind fun x2 =>
    (some (vp_nar .boolean x2)))
  else
    (if v0 = (rI 3) then
    ((fX7_in (v1.toInt64) (rJ 1) (rJ 9)).bind fun x1 =>
    (if x1 = 0 then
    (some (rI 0))
  else
    (some (rI 1))))
  else
    (some (rI 0))))))
set_option maxRecDepth 100000 in
theorem rX7_isGood {E : rp_E} (σ : rp_S) (v0 : Int32) (v1 : Int32)   : rp_R E (rp_mK E rmX7_isGood) mX7_isGood 0 [some (.int v0), some (.int v1)] [] σ (rp_hi σ) (fX7_isGood v0 v1) := by
  rw [fX7_isGood]
  refine rp_iload_n (x := v0) dX7_isGood_0 rfl ?_
  refine rp_if_ne (tgt := 16) dX7_isGood_1 (by decide) ?_ ?_
  · refine rp_iload_n (x := v0) dX7_isGood_16 rfl ?_
    refine rp_iconst dX7_isGood_17 ?_
    refine rp_icmp_ne (tgt := 28) dX7_isGood_18 (by decide) ?_ ?_
    · refine rp_iload_n (x := v0) dX7_isGood_28 rfl ?_
      refine rp_iconst dX7_isGood_29 ?_
      refine rp_icmp_ne (tgt := 45) dX7_isGood_30 (by decide) ?_ ?_
      · refine rp_iload_n (x := v0) dX7_isGood_45 rfl ?_
        refine rp_iconst dX7_isGood_46 ?_
        refine rp_icmp_ne (tgt := 66) dX7_isGood_47 (by decide) ?_ ?_
        · refine rp_iconst dX7_isGood_66 ?_
          exact rp_zret (x' := (rI 0)) rfl (by decide) rfl dX7_isGood_67
        · refine rp_iload_n (x := v1) dX7_isGood_50 rfl ?_
          refine rp_i2l dX7_isGood_51 ?_
          refine rp_lconst dX7_isGood_52 1 (by decide) ?_
          refine rp_ldc2 (v := (rJ 9)) clX7_194 dX7_isGood_53 ?_
          refine rp_callS_hi (As := [.long (v1.toInt64), .long (rJ 1), .long (rJ 9)]) (rest := []) (rX7_in σ (v1.toInt64) (rJ 1) (rJ 9)) cbX7_in lkX7_49 stX7_in rfl (Nat.le_of_ble_eq_true rfl) ⟨rfl, rfl, ⟨Nat.le_of_ble_eq_true rfl, Nat.le_of_ble_eq_true rfl⟩, Nat.zero_le _, Nat.zero_le _⟩ rfl (Nat.le_of_ble_eq_true rfl) dX7_isGood_56 (fun x1 hx1 => ?_)
          refine rp_if_eq (tgt := 66) dX7_isGood_59 (by decide) ?_ ?_
          · refine rp_iconst dX7_isGood_66 ?_
            exact rp_zret (x' := (rI 0)) rfl (by decide) rfl dX7_isGood_67
          · refine rp_iconst dX7_isGood_62 ?_
            refine rp_goto (tgt := 67) dX7_isGood_63 (by decide) ?_
            exact rp_zret (x' := (rI 1)) rfl (by decide) rfl dX7_isGood_67
      · refine rp_iload_n (x := v1) dX7_isGood_33 rfl ?_
        refine rp_i2l dX7_isGood_34 ?_
        refine rp_lconst dX7_isGood_35 0 (by decide) ?_
        refine rp_ldc2 (v := (rJ 59)) clX7_192 dX7_isGood_36 ?_
        refine rp_callS_hi (As := [.long (v1.toInt64), .long (rJ 0), .long (rJ 59)]) (rest := []) (rX7_in σ (v1.toInt64) (rJ 0) (rJ 59)) cbX7_in lkX7_49 stX7_in rfl (Nat.le_of_ble_eq_true rfl) ⟨rfl, rfl, ⟨Nat.le_of_ble_eq_true rfl, Nat.le_of_ble_eq_true rfl⟩, Nat.zero_le _, Nat.zero_le _⟩ rfl (Nat.le_of_ble_eq_true rfl) dX7_isGood_39 (fun x2 hx2 => ?_)
        refine rp_goto (tgt := 67) dX7_isGood_42 (by decide) ?_
        exact rp_zret (x' := (vp_nar .boolean x2)) rfl (rp_nrZ _) rfl dX7_isGood_67
    · refine rp_iload_n (x := v1) dX7_isGood_21 rfl ?_
      refine rp_callS_hi (As := [.int v1]) (rest := []) (rX7_isPlace σ v1) cbX7_isPlace lkX7_189 stX7_isPlace rfl (Nat.le_of_ble_eq_true rfl) ⟨rfl, rfl, ⟨Nat.le_of_ble_eq_true rfl, Nat.le_of_ble_eq_true rfl⟩, Nat.zero_le _, Nat.zero_le _⟩ rfl (Nat.le_of_ble_eq_true rfl) dX7_isGood_22 (fun x3 hx3 => ?_)
      refine rp_goto (tgt := 67) dX7_isGood_25 (by decide) ?_
      exact rp_zret (x' := (vp_nar .boolean x3)) rfl (rp_nrZ _) rfl dX7_isGood_67
  · refine rp_iload_n (x := v1) dX7_isGood_4 rfl ?_
    refine rp_i2l dX7_isGood_5 ?_
    refine rp_lconst dX7_isGood_6 0 (by decide) ?_
    refine rp_ldc2 (v := (rJ 3)) clX7_181 dX7_isGood_7 ?_
    refine rp_callS_hi (As := [.long (v1.toInt64), .long (rJ 0), .long (rJ 3)]) (rest := []) (rX7_in σ (v1.toInt64) (rJ 0) (rJ 3)) cbX7_in lkX7_49 stX7_in rfl (Nat.le_of_ble_eq_true rfl) ⟨rfl, rfl, ⟨Nat.le_of_ble_eq_true rfl, Nat.le_of_ble_eq_true rfl⟩, Nat.zero_le _, Nat.zero_le _⟩ rfl (Nat.le_of_ble_eq_true rfl) dX7_isGood_10 (fun x4 hx4 => ?_)
    refine rp_goto (tgt := 67) dX7_isGood_13 (by decide) ?_
    exact rp_zret (x' := (vp_nar .boolean x4)) rfl (rp_nrZ _) rfl dX7_isGood_67
/-! RocketPrintModel.puts(ZIII)I -/
abbrev rmX7_puts : Room := { frames := 0, cells := 0, slots := 0, locals := 0 }
def fX7_puts (σ : rp_S) (v1 : Int32) (v2 : Int32) (v3 : Int32) (v4 : Int32) : Option (Int32 × rp_S) :=
  (if v1 = 0 then
    (some ((rI (-1)), σ))
  else
    ((rq_rd σ 29 180 v2).bind fun x1 =>
    ((rq_wr σ 29 180 v2 (v3 - v4)).bind fun σ2 =>
    (some ((x1 + v4), σ2)))))
set_option maxRecDepth 100000 in
theorem rX7_puts {E : rp_E} (σ : rp_S) (v1 : Int32) (v2 : Int32) (v3 : Int32) (v4 : Int32)   : rp_R E (rp_mK E rmX7_puts) mX7_puts 0 [some (.ref (E.2.2.2.1 28)), some (.int v1), some (.int v2), some (.int v3), some (.int v4), none] [] σ rp_hI (fX7_puts σ v1 v2 v3 v4) := by
  rw [fX7_puts]
  refine rp_iload_n (x := v1) dX7_puts_0 rfl ?_
  refine rp_if_ne (tgt := 6) dX7_puts_1 (by decide) ?_ ?_
  · refine rp_aload_n (x := (E.2.2.2.1 28)) dX7_puts_6 rfl ?_
    refine rp_getR (k := 0) (b := 29) sh28 rfl fdX7_7 dX7_puts_7 ?_
    refine rp_iload_n (x := v2) dX7_puts_10 rfl ?_
    refine rp_iaload sh29 dX7_puts_11 (fun x1 => ?_)
    refine rp_iload (x := v4) dX7_puts_12 rfl ?_
    refine rp_iadd dX7_puts_14 ?_
    refine rp_istore dX7_puts_15 (by decide) rfl ?_
    refine rp_aload_n (x := (E.2.2.2.1 28)) dX7_puts_17 rfl ?_
    refine rp_getR (k := 0) (b := 29) sh28 rfl fdX7_7 dX7_puts_18 ?_
    refine rp_iload_n (x := v2) dX7_puts_21 rfl ?_
    refine rp_iload_n (x := v3) dX7_puts_22 rfl ?_
    refine rp_iload (x := v4) dX7_puts_23 rfl ?_
    refine rp_isub dX7_puts_25 ?_
    refine rp_iastore sh29 dX7_puts_26 (fun σ2 => ?_)
    refine rp_iload (x := (x1 + v4)) dX7_puts_27 rfl ?_
    exact rp_iret rfl rfl dX7_puts_29
  · refine rp_iconst dX7_puts_4 ?_
    exact rp_iret rfl rfl dX7_puts_5
/-! RocketPrintModel.alter(III)I -/
abbrev rmX7_alter : Room := { frames := 3, cells := 0, slots := 0, locals := 66 }
def fX7_alter_22 (σ : rp_S) (v1 : Int32) (v2 : Int32) (v3 : Int32) (s0 : Int32) : Option (Int32 × rp_S) :=
  ((fX7_puts σ s0 (((rI 6) * v2) + v1) v3 (rI 0)).bind fun p2 =>
    (some (p2.1, p2.2)))
set_option maxRecDepth 100000 in
theorem rX7_alter_22 {E : rp_E} (σ : rp_S) (v1 : Int32) (v2 : Int32) (v3 : Int32) (s0 : Int32) : rp_R E (rp_mK E rmX7_alter) mX7_alter 22 [none, some (.int v1), some (.int v2), some (.int v3)] [.int s0, .ref (E.2.2.2.1 28)] σ rp_hI (fX7_alter_22 σ v1 v2 v3 s0) := by
  rw [fX7_alter_22]
  refine rp_bipush dX7_alter_22 (by decide) ?_
  refine rp_iload_n (x := v2) dX7_alter_24 rfl ?_
  refine rp_imul dX7_alter_25 ?_
  refine rp_iload_n (x := v1) dX7_alter_26 rfl ?_
  refine rp_iadd dX7_alter_27 ?_
  refine rp_iload_n (x := v3) dX7_alter_28 rfl ?_
  refine rp_iconst dX7_alter_29 ?_
  refine rp_callV_hI (As := [.int s0, .int (((rI 6) * v2) + v1), .int v3, .int (rI 0)]) (rest := []) (b := (E.2.2.2.1 28)) (rX7_puts σ s0 (((rI 6) * v2) + v1) v3 (rI 0)) cbX7_puts lkX7_199 viX7_puts (rp_rcO sh28 rfl) rfl (Nat.le_of_ble_eq_true rfl) ⟨rfl, rfl, ⟨Nat.le_of_ble_eq_true rfl, Nat.le_of_ble_eq_true rfl⟩, Nat.zero_le _, Nat.zero_le _⟩ rfl (Nat.le_of_ble_eq_true rfl) dX7_alter_30 (fun p2 hp2 => ?_)
  exact rp_iret rfl rfl dX7_alter_33
def fX7_alter_21 (σ : rp_S) (v1 : Int32) (v2 : Int32) (v3 : Int32) : Option (Int32 × rp_S) :=
  (fX7_alter_22 σ v1 v2 v3 (rI 0))
set_option maxRecDepth 100000 in
theorem rX7_alter_21 {E : rp_E} (σ : rp_S) (v1 : Int32) (v2 : Int32) (v3 : Int32) : rp_R E (rp_mK E rmX7_alter) mX7_alter 21 [none, some (.int v1), some (.int v2), some (.int v3)] [.ref (E.2.2.2.1 28)] σ rp_hI (fX7_alter_21 σ v1 v2 v3) := by
  rw [fX7_alter_21]
  refine rp_iconst dX7_alter_21 ?_
  refine rp_mask [false, true, true, true] (vs2 := [none, some (.int v1), some (.int v2), some (.int v3)]) rfl rfl ?_
  exact rX7_alter_22 σ v1 v2 v3 (rI 0)
def fX7_alter (σ : rp_S) (v1 : Int32) (v2 : Int32) (v3 : Int32) : Option (Int32 × rp_S) :=
  ((fX7_isWork σ v1).bind fun x1 =>
    (if x1 = 0 then
    (fX7_alter_21 σ v1 v2 v3)
  else
    ((fX7_isGood v2 v3).bind fun x3 =>
    (if x3 = 0 then
    (fX7_alter_21 σ v1 v2 v3)
  else
    (fX7_alter_22 σ v1 v2 v3 (rI 1))))))
set_option maxRecDepth 100000 in
theorem rX7_alter {E : rp_E} (σ : rp_S) (v1 : Int32) (v2 : Int32) (v3 : Int32)   : rp_R E (rp_mK E rmX7_alter) mX7_alter 0 [some (.ref (E.2.2.2.1 28)), some (.int v1), some (.int v2), some (.int v3)] [] σ rp_hI (fX7_alter σ v1 v2 v3) := by
  rw [fX7_alter]
  refine rp_aload_n (x := (E.2.2.2.1 28)) dX7_alter_0 rfl ?_
  refine rp_aload_n (x := (E.2.2.2.1 28)) dX7_alter_1 rfl ?_
  refine rp_iload_n (x := v1) dX7_alter_2 rfl ?_
  refine rp_callV_hi (As := [.int v1]) (rest := [.ref (E.2.2.2.1 28)]) (b := (E.2.2.2.1 28)) (rX7_isWork σ v1) cbX7_isWork lkX7_168 viX7_isWork (rp_rcO sh28 rfl) rfl (Nat.le_of_ble_eq_true rfl) ⟨rfl, rfl, ⟨Nat.le_of_ble_eq_true rfl, Nat.le_of_ble_eq_true rfl⟩, Nat.zero_le _, Nat.zero_le _⟩ rfl (Nat.le_of_ble_eq_true rfl) dX7_alter_3 (fun x1 hx1 => ?_)
  refine rp_if_eq (tgt := 21) dX7_alter_6 (by decide) ?_ ?_
  · refine rp_mask [false, true, true, true] (vs2 := [none, some (.int v1), some (.int v2), some (.int v3)]) rfl rfl ?_
    exact rX7_alter_21 σ v1 v2 v3
  · refine rp_iload_n (x := v2) dX7_alter_9 rfl ?_
    refine rp_iload_n (x := v3) dX7_alter_10 rfl ?_
    refine rp_callS_hi (As := [.int v2, .int v3]) (rest := [.ref (E.2.2.2.1 28)]) (rX7_isGood σ v2 v3) cbX7_isGood lkX7_196 stX7_isGood rfl (Nat.le_of_ble_eq_true rfl) ⟨rfl, rfl, ⟨Nat.le_of_ble_eq_true rfl, Nat.le_of_ble_eq_true rfl⟩, Nat.zero_le _, Nat.zero_le _⟩ rfl (Nat.le_of_ble_eq_true rfl) dX7_alter_11 (fun x3 hx3 => ?_)
    refine rp_if_eq (tgt := 21) dX7_alter_14 (by decide) ?_ ?_
    · refine rp_mask [false, true, true, true] (vs2 := [none, some (.int v1), some (.int v2), some (.int v3)]) rfl rfl ?_
      exact rX7_alter_21 σ v1 v2 v3
    · refine rp_iconst dX7_alter_17 ?_
      refine rp_goto (tgt := 22) dX7_alter_18 (by decide) ?_
      refine rp_mask [false, true, true, true] (vs2 := [none, some (.int v1), some (.int v2), some (.int v3)]) rfl rfl ?_
      exact rX7_alter_22 σ v1 v2 v3 (rI 1)
/-! RocketPrint.move(III)I -/
abbrev rmX6_move : Room := { frames := 2, cells := 0, slots := 0, locals := 43 }
def fX6_move (σ : rp_S) (v1 : Int32) (v2 : Int32) (v3 : Int32) : Option (Int32 × rp_S) :=
  ((fX1_hasReader σ 1 v1).bind fun x1 =>
    (if x1 = 0 then
    (some ((rI (-1)), σ))
  else
    ((fX6_fitsReader σ v2 v3).bind fun x2 =>
    (if x2 = 0 then
    (some ((rI (-1)), σ))
  else
    ((fX1_ofReader σ 1 v1 v2).bind fun x3 =>
    ((fX1_setReader σ 1 v1 v2 v3).bind fun σ4 =>
    (some (x3, σ4))))))))
set_option maxRecDepth 100000 in
theorem rX6_move {E : rp_E} (σ : rp_S) (v1 : Int32) (v2 : Int32) (v3 : Int32)   : rp_R E (rp_mK E rmX6_move) mX6_move 0 [some (.ref (E.2.2.2.1 0)), some (.int v1), some (.int v2), some (.int v3), none] [] σ rp_hI (fX6_move σ v1 v2 v3) := by
  rw [fX6_move]
  refine rp_aload_n (x := (E.2.2.2.1 0)) dX6_move_0 rfl ?_
  refine rp_getR (k := 0) (b := 1) sh0 rfl fdX6_10 dX6_move_1 ?_
  refine rp_iload_n (x := v1) dX6_move_4 rfl ?_
  refine rp_callV_hi (As := [.int v1]) (rest := []) (b := (E.2.2.2.1 1)) (rX1_hasReader σ 1 v1 ni1) cbX1_hasReader lkX6_138 viX1_hasReader (rp_rcO sh1 rfl) rfl (Nat.le_of_ble_eq_true rfl) ⟨rfl, rfl, ⟨Nat.le_of_ble_eq_true rfl, Nat.le_of_ble_eq_true rfl⟩, Nat.zero_le _, Nat.zero_le _⟩ rfl (Nat.le_of_ble_eq_true rfl) dX6_move_5 (fun x1 hx1 => ?_)
  refine rp_if_eq (tgt := 19) dX6_move_8 (by decide) ?_ ?_
  · refine rp_iconst dX6_move_19 ?_
    exact rp_iret rfl rfl dX6_move_20
  · refine rp_iload_n (x := v2) dX6_move_11 rfl ?_
    refine rp_iload_n (x := v3) dX6_move_12 rfl ?_
    refine rp_callS_hi (As := [.int v2, .int v3]) (rest := []) (rX6_fitsReader σ v2 v3) cbX6_fitsReader lkX6_167 stX6_fitsReader rfl (Nat.le_of_ble_eq_true rfl) ⟨rfl, rfl, ⟨Nat.le_of_ble_eq_true rfl, Nat.le_of_ble_eq_true rfl⟩, Nat.zero_le _, Nat.zero_le _⟩ rfl (Nat.le_of_ble_eq_true rfl) dX6_move_13 (fun x2 hx2 => ?_)
    refine rp_if_ne (tgt := 21) dX6_move_16 (by decide) ?_ ?_
    · refine rp_aload_n (x := (E.2.2.2.1 0)) dX6_move_21 rfl ?_
      refine rp_getR (k := 0) (b := 1) sh0 rfl fdX6_10 dX6_move_22 ?_
      refine rp_iload_n (x := v1) dX6_move_25 rfl ?_
      refine rp_iload_n (x := v2) dX6_move_26 rfl ?_
      refine rp_callV_hi (As := [.int v1, .int v2]) (rest := []) (b := (E.2.2.2.1 1)) (rX1_ofReader σ 1 v1 v2 ni1) cbX1_ofReader lkX6_141 viX1_ofReader (rp_rcO sh1 rfl) rfl (Nat.le_of_ble_eq_true rfl) ⟨rfl, rfl, ⟨Nat.le_of_ble_eq_true rfl, Nat.le_of_ble_eq_true rfl⟩, Nat.zero_le _, Nat.zero_le _⟩ rfl (Nat.le_of_ble_eq_true rfl) dX6_move_27 (fun x3 hx3 => ?_)
      refine rp_istore dX6_move_30 (by decide) rfl ?_
      refine rp_aload_n (x := (E.2.2.2.1 0)) dX6_move_32 rfl ?_
      refine rp_getR (k := 0) (b := 1) sh0 rfl fdX6_10 dX6_move_33 ?_
      refine rp_iload_n (x := v1) dX6_move_36 rfl ?_
      refine rp_iload_n (x := v2) dX6_move_37 rfl ?_
      refine rp_iload_n (x := v3) dX6_move_38 rfl ?_
      refine rp_callV_hv (As := [.int v1, .int v2, .int v3]) (rest := []) (b := (E.2.2.2.1 1)) (rX1_setReader σ 1 v1 v2 v3 ni1) cbX1_setReader lkX6_170 viX1_setReader (rp_rcO sh1 rfl) rfl (Nat.le_of_ble_eq_true rfl) ⟨rfl, rfl, ⟨Nat.le_of_ble_eq_true rfl, Nat.le_of_ble_eq_true rfl⟩, Nat.zero_le _, Nat.zero_le _⟩ rfl (Nat.le_of_ble_eq_true rfl) dX6_move_39 (fun σ4 hσ4 => ?_)
      refine rp_iload (x := x3) dX6_move_42 rfl ?_
      exact rp_iret rfl rfl dX6_move_44
    · refine rp_iconst dX6_move_19 ?_
      exact rp_iret rfl rfl dX6_move_20
/-! RocketPrintModel.move(III)I -/
abbrev rmX7_move : Room := { frames := 2, cells := 0, slots := 0, locals := 46 }
def fX7_move_54 (σ : rp_S) (v1 : Int32) (v2 : Int32) (v3 : Int32) (s0 : Int32) : Option (Int32 × rp_S) :=
  ((fX7_puts σ s0 (((rI 25) + ((rI 4) * v2)) + v1) v3 (rI 0)).bind fun p2 =>
    (some (p2.1, p2.2)))
set_option maxRecDepth 100000 in
theorem rX7_move_54 {E : rp_E} (σ : rp_S) (v1 : Int32) (v2 : Int32) (v3 : Int32) (s0 : Int32) : rp_R E (rp_mK E rmX7_move) mX7_move 54 [none, some (.int v1), some (.int v2), some (.int v3), none] [.int s0, .ref (E.2.2.2.1 28)] σ rp_hI (fX7_move_54 σ v1 v2 v3 s0) := by
  rw [fX7_move_54]
  refine rp_bipush dX7_move_54 (by decide) ?_
  refine rp_iconst dX7_move_56 ?_
  refine rp_iload_n (x := v2) dX7_move_57 rfl ?_
  refine rp_imul dX7_move_58 ?_
  refine rp_iadd dX7_move_59 ?_
  refine rp_iload_n (x := v1) dX7_move_60 rfl ?_
  refine rp_iadd dX7_move_61 ?_
  refine rp_iload_n (x := v3) dX7_move_62 rfl ?_
  refine rp_iconst dX7_move_63 ?_
  refine rp_callV_hI (As := [.int s0, .int (((rI 25) + ((rI 4) * v2)) + v1), .int v3, .int (rI 0)]) (rest := []) (b := (E.2.2.2.1 28)) (rX7_puts σ s0 (((rI 25) + ((rI 4) * v2)) + v1) v3 (rI 0)) cbX7_puts lkX7_199 viX7_puts (rp_rcO sh28 rfl) rfl (Nat.le_of_ble_eq_true rfl) ⟨rfl, rfl, ⟨Nat.le_of_ble_eq_true rfl, Nat.le_of_ble_eq_true rfl⟩, Nat.zero_le _, Nat.zero_le _⟩ rfl (Nat.le_of_ble_eq_true rfl) dX7_move_64 (fun p2 hp2 => ?_)
  exact rp_iret rfl rfl dX7_move_67
def fX7_move_53 (σ : rp_S) (v1 : Int32) (v2 : Int32) (v3 : Int32) : Option (Int32 × rp_S) :=
  (fX7_move_54 σ v1 v2 v3 (rI 0))
set_option maxRecDepth 100000 in
theorem rX7_move_53 {E : rp_E} (σ : rp_S) (v1 : Int32) (v2 : Int32) (v3 : Int32) : rp_R E (rp_mK E rmX7_move) mX7_move 53 [none, some (.int v1), some (.int v2), some (.int v3), none] [.ref (E.2.2.2.1 28)] σ rp_hI (fX7_move_53 σ v1 v2 v3) := by
  rw [fX7_move_53]
  refine rp_iconst dX7_move_53 ?_
  refine rp_mask [false, true, true, true, false] (vs2 := [none, some (.int v1), some (.int v2), some (.int v3), none]) rfl rfl ?_
  exact rX7_move_54 σ v1 v2 v3 (rI 0)
def fX7_move_33 (σ : rp_S) (v1 : Int32) (v2 : Int32) (v3 : Int32) (s0 : Int32) : Option (Int32 × rp_S) :=
  ((fX7_isReader σ v1).bind fun x1 =>
    (if x1 = 0 then
    (fX7_move_53 σ v1 v2 v3)
  else
    (if s0 = 0 then
    (fX7_move_53 σ v1 v2 v3)
  else
    (fX7_move_54 σ v1 v2 v3 (rI 1)))))
set_option maxRecDepth 100000 in
theorem rX7_move_33 {E : rp_E} (σ : rp_S) (v1 : Int32) (v2 : Int32) (v3 : Int32) (s0 : Int32) : rp_R E (rp_mK E rmX7_move) mX7_move 33 [some (.ref (E.2.2.2.1 28)), some (.int v1), some (.int v2), some (.int v3), none] [.int s0] σ rp_hI (fX7_move_33 σ v1 v2 v3 s0) := by
  rw [fX7_move_33]
  refine rp_istore dX7_move_33 (by decide) rfl ?_
  refine rp_aload_n (x := (E.2.2.2.1 28)) dX7_move_35 rfl ?_
  refine rp_aload_n (x := (E.2.2.2.1 28)) dX7_move_36 rfl ?_
  refine rp_iload_n (x := v1) dX7_move_37 rfl ?_
  refine rp_callV_hi (As := [.int v1]) (rest := [.ref (E.2.2.2.1 28)]) (b := (E.2.2.2.1 28)) (rX7_isReader σ v1) cbX7_isReader lkX7_178 viX7_isReader (rp_rcO sh28 rfl) rfl (Nat.le_of_ble_eq_true rfl) ⟨rfl, rfl, ⟨Nat.le_of_ble_eq_true rfl, Nat.le_of_ble_eq_true rfl⟩, Nat.zero_le _, Nat.zero_le _⟩ rfl (Nat.le_of_ble_eq_true rfl) dX7_move_38 (fun x1 hx1 => ?_)
  refine rp_if_eq (tgt := 53) dX7_move_41 (by decide) ?_ ?_
  · refine rp_mask [false, true, true, true, false] (vs2 := [none, some (.int v1), some (.int v2), some (.int v3), none]) rfl rfl ?_
    exact rX7_move_53 σ v1 v2 v3
  · refine rp_iload (x := s0) dX7_move_44 rfl ?_
    refine rp_if_eq (tgt := 53) dX7_move_46 (by decide) ?_ ?_
    · refine rp_mask [false, true, true, true, false] (vs2 := [none, some (.int v1), some (.int v2), some (.int v3), none]) rfl rfl ?_
      exact rX7_move_53 σ v1 v2 v3
    · refine rp_iconst dX7_move_49 ?_
      refine rp_goto (tgt := 54) dX7_move_50 (by decide) ?_
      refine rp_mask [false, true, true, true, false] (vs2 := [none, some (.int v1), some (.int v2), some (.int v3), none]) rfl rfl ?_
      exact rX7_move_54 σ v1 v2 v3 (rI 1)
def fX7_move_32 (σ : rp_S) (v1 : Int32) (v2 : Int32) (v3 : Int32) : Option (Int32 × rp_S) :=
  (fX7_move_33 σ v1 v2 v3 (rI 0))
set_option maxRecDepth 100000 in
theorem rX7_move_32 {E : rp_E} (σ : rp_S) (v1 : Int32) (v2 : Int32) (v3 : Int32) : rp_R E (rp_mK E rmX7_move) mX7_move 32 [some (.ref (E.2.2.2.1 28)), some (.int v1), some (.int v2), some (.int v3), none] [] σ rp_hI (fX7_move_32 σ v1 v2 v3) := by
  rw [fX7_move_32]
  refine rp_iconst dX7_move_32 ?_
  refine rp_mask [true, true, true, true, false] (vs2 := [some (.ref (E.2.2.2.1 28)), some (.int v1), some (.int v2), some (.int v3), none]) rfl rfl ?_
  exact rX7_move_33 σ v1 v2 v3 (rI 0)
def fX7_move (σ : rp_S) (v1 : Int32) (v2 : Int32) (v3 : Int32) : Option (Int32 × rp_S) :=
  (if v2 = 0 then
    ((fX7_isPlace v3).bind fun x4 =>
    (fX7_move_33 σ v1 v2 v3 x4))
  else
    (if v2 = (rI 1) then
    ((fX7_in (v3.toInt64) (rJ 0) (rJ 9)).bind fun x3 =>
    (if x3 = 0 then
    (fX7_move_32 σ v1 v2 v3)
  else
    (fX7_move_33 σ v1 v2 v3 (rI 1))))
  else
    (fX7_move_32 σ v1 v2 v3)))
set_option maxRecDepth 100000 in
theorem rX7_move {E : rp_E} (σ : rp_S) (v1 : Int32) (v2 : Int32) (v3 : Int32)   : rp_R E (rp_mK E rmX7_move) mX7_move 0 [some (.ref (E.2.2.2.1 28)), some (.int v1), some (.int v2), some (.int v3), none] [] σ rp_hI (fX7_move σ v1 v2 v3) := by
  rw [fX7_move]
  refine rp_iload_n (x := v2) dX7_move_0 rfl ?_
  refine rp_if_ne (tgt := 11) dX7_move_1 (by decide) ?_ ?_
  · refine rp_iload_n (x := v2) dX7_move_11 rfl ?_
    refine rp_iconst dX7_move_12 ?_
    refine rp_icmp_ne (tgt := 32) dX7_move_13 (by decide) ?_ ?_
    · refine rp_mask [true, true, true, true, false] (vs2 := [some (.ref (E.2.2.2.1 28)), some (.int v1), some (.int v2), some (.int v3), none]) rfl rfl ?_
      exact rX7_move_32 σ v1 v2 v3
    · refine rp_iload_n (x := v3) dX7_move_16 rfl ?_
      refine rp_i2l dX7_move_17 ?_
      refine rp_lconst dX7_move_18 0 (by decide) ?_
      refine rp_ldc2 (v := (rJ 9)) clX7_194 dX7_move_19 ?_
      refine rp_callS_hi (As := [.long (v3.toInt64), .long (rJ 0), .long (rJ 9)]) (rest := []) (rX7_in σ (v3.toInt64) (rJ 0) (rJ 9)) cbX7_in lkX7_49 stX7_in rfl (Nat.le_of_ble_eq_true rfl) ⟨rfl, rfl, ⟨Nat.le_of_ble_eq_true rfl, Nat.le_of_ble_eq_true rfl⟩, Nat.zero_le _, Nat.zero_le _⟩ rfl (Nat.le_of_ble_eq_true rfl) dX7_move_22 (fun x3 hx3 => ?_)
      refine rp_if_eq (tgt := 32) dX7_move_25 (by decide) ?_ ?_
      · refine rp_mask [true, true, true, true, false] (vs2 := [some (.ref (E.2.2.2.1 28)), some (.int v1), some (.int v2), some (.int v3), none]) rfl rfl ?_
        exact rX7_move_32 σ v1 v2 v3
      · refine rp_iconst dX7_move_28 ?_
        refine rp_goto (tgt := 33) dX7_move_29 (by decide) ?_
        refine rp_mask [true, true, true, true, false] (vs2 := [some (.ref (E.2.2.2.1 28)), some (.int v1), some (.int v2), some (.int v3), none]) rfl rfl ?_
        exact rX7_move_33 σ v1 v2 v3 (rI 1)
  · refine rp_iload_n (x := v3) dX7_move_4 rfl ?_
    refine rp_callS_hi (As := [.int v3]) (rest := []) (rX7_isPlace σ v3) cbX7_isPlace lkX7_189 stX7_isPlace rfl (Nat.le_of_ble_eq_true rfl) ⟨rfl, rfl, ⟨Nat.le_of_ble_eq_true rfl, Nat.le_of_ble_eq_true rfl⟩, Nat.zero_le _, Nat.zero_le _⟩ rfl (Nat.le_of_ble_eq_true rfl) dX7_move_5 (fun x4 hx4 => ?_)
    refine rp_goto (tgt := 33) dX7_move_8 (by decide) ?_
    refine rp_mask [true, true, true, true, false] (vs2 := [some (.ref (E.2.2.2.1 28)), some (.int v1), some (.int v2), some (.int v3), none]) rfl rfl ?_
    exact rX7_move_33 σ v1 v2 v3 x4
/-! RocketPrint.blow(I)I -/
abbrev rmX6_blow : Room := { frames := 1, cells := 0, slots := 0, locals := 22 }
def fX6_blow (σ : rp_S) (v1 : Int32) : Option (Int32 × rp_S) :=
  ((fX6_within v1 (rI 0) (rI 8)).bind fun x1 =>
    (if x1 = 0 then
    (some ((rI (-1)), σ))
  else
    ((some (rp_up σ 1 4 v1)).bind fun σ2 =>
    (some ((σ 1 4), σ2)))))
set_option maxRecDepth 100000 in
theorem rX6_blow {E : rp_E} (σ : rp_S) (v1 : Int32)   : rp_R E (rp_mK E rmX6_blow) mX6_blow 0 [some (.ref (E.2.2.2.1 0)), some (.int v1), none] [] σ rp_hI (fX6_blow σ v1) := by
  rw [fX6_blow]
  refine rp_iload_n (x := v1) dX6_blow_0 rfl ?_
  refine rp_iconst dX6_blow_1 ?_
  refine rp_bipush dX6_blow_2 (by decide) ?_
  refine rp_callS_hi (As := [.int v1, .int (rI 0), .int (rI 8)]) (rest := []) (rX6_within σ v1 (rI 0) (rI 8)) cbX6_within lkX6_57 stX6_within rfl (Nat.le_of_ble_eq_true rfl) ⟨rfl, rfl, ⟨Nat.le_of_ble_eq_true rfl, Nat.le_of_ble_eq_true rfl⟩, Nat.zero_le _, Nat.zero_le _⟩ rfl (Nat.le_of_ble_eq_true rfl) dX6_blow_4 (fun x1 hx1 => ?_)
  refine rp_if_ne (tgt := 12) dX6_blow_7 (by decide) ?_ ?_
  · refine rp_aload_n (x := (E.2.2.2.1 0)) dX6_blow_12 rfl ?_
    refine rp_getR (k := 0) (b := 1) sh0 rfl fdX6_10 dX6_blow_13 ?_
    refine rp_getI (k := 4) sh1 rfl fdX6_98 dX6_blow_16 ?_
    refine rp_istore_n dX6_blow_19 (by decide) rfl ?_
    refine rp_aload_n (x := (E.2.2.2.1 0)) dX6_blow_20 rfl ?_
    refine rp_getR (k := 0) (b := 1) sh0 rfl fdX6_10 dX6_blow_21 ?_
    refine rp_iload_n (x := v1) dX6_blow_24 rfl ?_
    refine rp_putB (k := 4) sh1 rfl fpX6_98 (vp_nar_int _) rfl dX6_blow_25 (fun σ2 => ?_)
    refine rp_iload_n (x := (σ 1 4)) dX6_blow_28 rfl ?_
    exact rp_iret rfl rfl dX6_blow_29
  · refine rp_iconst dX6_blow_10 ?_
    exact rp_iret rfl rfl dX6_blow_11
/-! RocketPrintModel.blow(I)I -/
abbrev rmX7_blow : Room := { frames := 1, cells := 0, slots := 0, locals := 25 }
def fX7_blow (σ : rp_S) (v1 : Int32) : Option (Int32 × rp_S) :=
  ((fX7_in (v1.toInt64) (rJ 0) (rJ 8)).bind fun x1 =>
    ((fX7_puts σ x1 (rI 34) v1 (rI 4)).bind fun p2 =>
    (some (p2.1, p2.2))))
set_option maxRecDepth 100000 in
theorem rX7_blow {E : rp_E} (σ : rp_S) (v1 : Int32)   : rp_R E (rp_mK E rmX7_blow) mX7_blow 0 [some (.ref (E.2.2.2.1 28)), some (.int v1)] [] σ rp_hI (fX7_blow σ v1) := by
  rw [fX7_blow]
  refine rp_aload_n (x := (E.2.2.2.1 28)) dX7_blow_0 rfl ?_
  refine rp_iload_n (x := v1) dX7_blow_1 rfl ?_
  refine rp_i2l dX7_blow_2 ?_
  refine rp_lconst dX7_blow_3 0 (by decide) ?_
  refine rp_ldc2 (v := (rJ 8)) clX7_203 dX7_blow_4 ?_
  refine rp_callS_hi (As := [.long (v1.toInt64), .long (rJ 0), .long (rJ 8)]) (rest := [.ref (E.2.2.2.1 28)]) (rX7_in σ (v1.toInt64) (rJ 0) (rJ 8)) cbX7_in lkX7_49 stX7_in rfl (Nat.le_of_ble_eq_true rfl) ⟨rfl, rfl, ⟨Nat.le_of_ble_eq_true rfl, Nat.le_of_ble_eq_true rfl⟩, Nat.zero_le _, Nat.zero_le _⟩ rfl (Nat.le_of_ble_eq_true rfl) dX7_blow_7 (fun x1 hx1 => ?_)
  refine rp_bipush dX7_blow_10 (by decide) ?_
  refine rp_iload_n (x := v1) dX7_blow_12 rfl ?_
  refine rp_iconst dX7_blow_13 ?_
  refine rp_callV_hI (As := [.int x1, .int (rI 34), .int v1, .int (rI 4)]) (rest := []) (b := (E.2.2.2.1 28)) (rX7_puts σ x1 (rI 34) v1 (rI 4)) cbX7_puts lkX7_199 viX7_puts (rp_rcO sh28 rfl) rfl (Nat.le_of_ble_eq_true rfl) ⟨rfl, rfl, ⟨Nat.le_of_ble_eq_true rfl, Nat.le_of_ble_eq_true rfl⟩, Nat.zero_le _, Nat.zero_le _⟩ rfl (Nat.le_of_ble_eq_true rfl) dX7_blow_14 (fun p2 hp2 => ?_)
  exact rp_iret rfl rfl dX7_blow_17
/-! RocketPrint.damp(I)I -/
abbrev rmX6_damp : Room := { frames := 1, cells := 0, slots := 0, locals := 22 }
def fX6_damp (σ : rp_S) (v1 : Int32) : Option (Int32 × rp_S) :=
  ((fX6_within v1 (rI 0) (rI 9)).bind fun x1 =>
    (if x1 = 0 then
    (some ((rI (-1)), σ))
  else
    ((some (rp_up σ 1 5 v1)).bind fun σ2 =>
    (some ((σ 1 5), σ2)))))
set_option maxRecDepth 100000 in
theorem rX6_damp {E : rp_E} (σ : rp_S) (v1 : Int32)   : rp_R E (rp_mK E rmX6_damp) mX6_damp 0 [some (.ref (E.2.2.2.1 0)), some (.int v1), none] [] σ rp_hI (fX6_damp σ v1) := by
  rw [fX6_damp]
  refine rp_iload_n (x := v1) dX6_damp_0 rfl ?_
  refine rp_iconst dX6_damp_1 ?_
  refine rp_bipush dX6_damp_2 (by decide) ?_
  refine rp_callS_hi (As := [.int v1, .int (rI 0), .int (rI 9)]) (rest := []) (rX6_within σ v1 (rI 0) (rI 9)) cbX6_within lkX6_57 stX6_within rfl (Nat.le_of_ble_eq_true rfl) ⟨rfl, rfl, ⟨Nat.le_of_ble_eq_true rfl, Nat.le_of_ble_eq_true rfl⟩, Nat.zero_le _, Nat.zero_le _⟩ rfl (Nat.le_of_ble_eq_true rfl) dX6_damp_4 (fun x1 hx1 => ?_)
  refine rp_if_ne (tgt := 12) dX6_damp_7 (by decide) ?_ ?_
  · refine rp_aload_n (x := (E.2.2.2.1 0)) dX6_damp_12 rfl ?_
    refine rp_getR (k := 0) (b := 1) sh0 rfl fdX6_10 dX6_damp_13 ?_
    refine rp_getI (k := 5) sh1 rfl fdX6_101 dX6_damp_16 ?_
    refine rp_istore_n dX6_damp_19 (by decide) rfl ?_
    refine rp_aload_n (x := (E.2.2.2.1 0)) dX6_damp_20 rfl ?_
    refine rp_getR (k := 0) (b := 1) sh0 rfl fdX6_10 dX6_damp_21 ?_
    refine rp_iload_n (x := v1) dX6_damp_24 rfl ?_
    refine rp_putB (k := 5) sh1 rfl fpX6_101 (vp_nar_int _) rfl dX6_damp_25 (fun σ2 => ?_)
    refine rp_iload_n (x := (σ 1 5)) dX6_damp_28 rfl ?_
    exact rp_iret rfl rfl dX6_damp_29
  · refine rp_iconst dX6_damp_10 ?_
    exact rp_iret rfl rfl dX6_damp_11
/-! RocketPrintModel.damp(I)I -/
abbrev rmX7_damp : Room := { frames := 1, cells := 0, slots := 0, locals := 25 }
def fX7_damp (σ : rp_S) (v1 : Int32) : Option (Int32 × rp_S) :=
  ((fX7_in (v1.toInt64) (rJ 0) (rJ 9)).bind fun x1 =>
    ((fX7_puts σ x1 (rI 35) v1 (rI 0)).bind fun p2 =>
    (some (p2.1, p2.2))))
set_option maxRecDepth 100000 in
theorem rX7_damp {E : rp_E} (σ : rp_S) (v1 : Int32)   : rp_R E (rp_mK E rmX7_damp) mX7_damp 0 [some (.ref (E.2.2.2.1 28)), some (.int v1)] [] σ rp_hI (fX7_damp σ v1) := by
  rw [fX7_damp]
  refine rp_aload_n (x := (E.2.2.2.1 28)) dX7_damp_0 rfl ?_
  refine rp_iload_n (x := v1) dX7_damp_1 rfl ?_
  refine rp_i2l dX7_damp_2 ?_
  refine rp_lconst dX7_damp_3 0 (by decide) ?_
  refine rp_ldc2 (v := (rJ 9)) clX7_194 dX7_damp_4 ?_
  refine rp_callS_hi (As := [.long (v1.toInt64), .long (rJ 0), .long (rJ 9)]) (rest := [.ref (E.2.2.2.1 28)]) (rX7_in σ (v1.toInt64) (rJ 0) (rJ 9)) cbX7_in lkX7_49 stX7_in rfl (Nat.le_of_ble_eq_true rfl) ⟨rfl, rfl, ⟨Nat.le_of_ble_eq_true rfl, Nat.le_of_ble_eq_true rfl⟩, Nat.zero_le _, Nat.zero_le _⟩ rfl (Nat.le_of_ble_eq_true rfl) dX7_damp_7 (fun x1 hx1 => ?_)
  refine rp_bipush dX7_damp_10 (by decide) ?_
  refine rp_iload_n (x := v1) dX7_damp_12 rfl ?_
  refine rp_iconst dX7_damp_13 ?_
  refine rp_callV_hI (As := [.int x1, .int (rI 35), .int v1, .int (rI 0)]) (rest := []) (b := (E.2.2.2.1 28)) (rX7_puts σ x1 (rI 35) v1 (rI 0)) cbX7_puts lkX7_199 viX7_puts (rp_rcO sh28 rfl) rfl (Nat.le_of_ble_eq_true rfl) ⟨rfl, rfl, ⟨Nat.le_of_ble_eq_true rfl, Nat.le_of_ble_eq_true rfl⟩, Nat.zero_le _, Nat.zero_le _⟩ rfl (Nat.le_of_ble_eq_true rfl) dX7_damp_14 (fun p2 hp2 => ?_)
  exact rp_iret rfl rfl dX7_damp_17
/-! RocketPrint.write(IIII)I -/
abbrev rmX6_write : Room := { frames := 3, cells := 0, slots := 0, locals := 67 }
def fX6_write (σ : rp_S) (v1 : Int32) (v2 : Int32) (v3 : Int32) (v4 : Int32) : Option (Int32 × rp_S) :=
  ((fX1_addWork σ 1 v1 v2 v3 v4).bind fun p1 =>
    (some (p1.1, p1.2)))
set_option maxRecDepth 100000 in
theorem rX6_write {E : rp_E} (σ : rp_S) (v1 : Int32) (v2 : Int32) (v3 : Int32) (v4 : Int32)   : rp_R E (rp_mK E rmX6_write) mX6_write 0 [some (.ref (E.2.2.2.1 0)), some (.int v1), some (.int v2), some (.int v3), some (.int v4)] [] σ rp_hI (fX6_write σ v1 v2 v3 v4) := by
  rw [fX6_write]
  refine rp_aload_n (x := (E.2.2.2.1 0)) dX6_write_0 rfl ?_
  refine rp_getR (k := 0) (b := 1) sh0 rfl fdX6_10 dX6_write_1 ?_
  refine rp_iload_n (x := v1) dX6_write_4 rfl ?_
  refine rp_iload_n (x := v2) dX6_write_5 rfl ?_
  refine rp_iload_n (x := v3) dX6_write_6 rfl ?_
  refine rp_iload (x := v4) dX6_write_7 rfl ?_
  refine rp_callV_hI (As := [.int v1, .int v2, .int v3, .int v4]) (rest := []) (b := (E.2.2.2.1 1)) (rX1_addWork σ 1 v1 v2 v3 v4 ni1) cbX1_addWork lkX6_173 viX1_addWork (rp_rcO sh1 rfl) rfl (Nat.le_of_ble_eq_true rfl) ⟨rfl, rfl, ⟨Nat.le_of_ble_eq_true rfl, Nat.le_of_ble_eq_true rfl⟩, Nat.zero_le _, Nat.zero_le _⟩ rfl (Nat.le_of_ble_eq_true rfl) dX6_write_9 (fun p1 hp1 => ?_)
  exact rp_iret rfl rfl dX6_write_12
/-! RocketPrintModel.writes(IIII)I -/
abbrev rmX7_writes : Room := { frames := 3, cells := 0, slots := 0, locals := 66 }
def fX7_writes (σ : rp_S) (v1 : Int32) (v2 : Int32) (v3 : Int32) (v4 : Int32) : Option (Int32 × rp_S) :=
  ((fX7_isGood (rI 0) v1).bind fun x1 =>
    (if x1 = 0 then
    (some ((rI (-1)), σ))
  else
    ((fX7_isGood (rI 1) v2).bind fun x2 =>
    (if x2 = 0 then
    (some ((rI (-1)), σ))
  else
    ((fX7_isGood (rI 2) v3).bind fun x3 =>
    (if x3 = 0 then
    (some ((rI (-1)), σ))
  else
    ((fX7_isGood (rI 3) v4).bind fun x4 =>
    (if x4 = 0 then
    (some ((rI (-1)), σ))
  else
    ((rq_rd σ 29 180 (rI 24)).bind fun x5 =>
    (if x5 = (rI 6) then
    (some ((rI (-3)), σ))
  else
    ((rq_wr σ 29 180 x5 v1).bind fun σ6 =>
    ((rq_wr σ6 29 180 ((rI 6) + x5) v2).bind fun σ7 =>
    ((rq_wr σ7 29 180 ((rI 12) + x5) v3).bind fun σ8 =>
    ((rq_wr σ8 29 180 ((rI 18) + x5) v4).bind fun σ9 =>
    ((rq_rd σ9 29 180 (rI 24)).bind fun x10 =>
    ((rq_wr σ9 29 180 (rI 24) (x10 + (rI 1))).bind fun σ11 =>
    ((rq_rd σ11 29 180 (rI 24)).bind fun x12 =>
    (some (x12, σ11)))))))))))))))))))
set_option maxRecDepth 100000 in
theorem rX7_writes {E : rp_E} (σ : rp_S) (v1 : Int32) (v2 : Int32) (v3 : Int32) (v4 : Int32)   : rp_R E (rp_mK E rmX7_writes) mX7_writes 0 [some (.ref (E.2.2.2.1 28)), some (.int v1), some (.int v2), some (.int v3), some (.int v4), none] [] σ rp_hI (fX7_writes σ v1 v2 v3 v4) := by
  rw [fX7_writes]
  refine rp_iconst dX7_writes_0 ?_
  refine rp_iload_n (x := v1) dX7_writes_1 rfl ?_
  refine rp_callS_hi (As := [.int (rI 0), .int v1]) (rest := []) (rX7_isGood σ (rI 0) v1) cbX7_isGood lkX7_196 stX7_isGood rfl (Nat.le_of_ble_eq_true rfl) ⟨rfl, rfl, ⟨Nat.le_of_ble_eq_true rfl, Nat.le_of_ble_eq_true rfl⟩, Nat.zero_le _, Nat.zero_le _⟩ rfl (Nat.le_of_ble_eq_true rfl) dX7_writes_2 (fun x1 hx1 => ?_)
  refine rp_if_eq (tgt := 33) dX7_writes_5 (by decide) ?_ ?_
  · refine rp_iconst dX7_writes_33 ?_
    exact rp_iret rfl rfl dX7_writes_34
  · refine rp_iconst dX7_writes_8 ?_
    refine rp_iload_n (x := v2) dX7_writes_9 rfl ?_
    refine rp_callS_hi (As := [.int (rI 1), .int v2]) (rest := []) (rX7_isGood σ (rI 1) v2) cbX7_isGood lkX7_196 stX7_isGood rfl (Nat.le_of_ble_eq_true rfl) ⟨rfl, rfl, ⟨Nat.le_of_ble_eq_true rfl, Nat.le_of_ble_eq_true rfl⟩, Nat.zero_le _, Nat.zero_le _⟩ rfl (Nat.le_of_ble_eq_true rfl) dX7_writes_10 (fun x2 hx2 => ?_)
    refine rp_if_eq (tgt := 33) dX7_writes_13 (by decide) ?_ ?_
    · refine rp_iconst dX7_writes_33 ?_
      exact rp_iret rfl rfl dX7_writes_34
    · refine rp_iconst dX7_writes_16 ?_
      refine rp_iload_n (x := v3) dX7_writes_17 rfl ?_
      refine rp_callS_hi (As := [.int (rI 2), .int v3]) (rest := []) (rX7_isGood σ (rI 2) v3) cbX7_isGood lkX7_196 stX7_isGood rfl (Nat.le_of_ble_eq_true rfl) ⟨rfl, rfl, ⟨Nat.le_of_ble_eq_true rfl, Nat.le_of_ble_eq_true rfl⟩, Nat.zero_le _, Nat.zero_le _⟩ rfl (Nat.le_of_ble_eq_true rfl) dX7_writes_18 (fun x3 hx3 => ?_)
      refine rp_if_eq (tgt := 33) dX7_writes_21 (by decide) ?_ ?_
      · refine rp_iconst dX7_writes_33 ?_
        exact rp_iret rfl rfl dX7_writes_34
      · refine rp_iconst dX7_writes_24 ?_
        refine rp_iload (x := v4) dX7_writes_25 rfl ?_
        refine rp_callS_hi (As := [.int (rI 3), .int v4]) (rest := []) (rX7_isGood σ (rI 3) v4) cbX7_isGood lkX7_196 stX7_isGood rfl (Nat.le_of_ble_eq_true rfl) ⟨rfl, rfl, ⟨Nat.le_of_ble_eq_true rfl, Nat.le_of_ble_eq_true rfl⟩, Nat.zero_le _, Nat.zero_le _⟩ rfl (Nat.le_of_ble_eq_true rfl) dX7_writes_27 (fun x4 hx4 => ?_)
        refine rp_if_ne (tgt := 35) dX7_writes_30 (by decide) ?_ ?_
        · refine rp_aload_n (x := (E.2.2.2.1 28)) dX7_writes_35 rfl ?_
          refine rp_getR (k := 0) (b := 29) sh28 rfl fdX7_7 dX7_writes_36 ?_
          refine rp_bipush dX7_writes_39 (by decide) ?_
          refine rp_iaload sh29 dX7_writes_41 (fun x5 => ?_)
          refine rp_istore dX7_writes_42 (by decide) rfl ?_
          refine rp_iload (x := x5) dX7_writes_44 rfl ?_
          refine rp_bipush dX7_writes_46 (by decide) ?_
          refine rp_icmp_ne (tgt := 54) dX7_writes_48 (by decide) ?_ ?_
          · refine rp_aload_n (x := (E.2.2.2.1 28)) dX7_writes_54 rfl ?_
            refine rp_getR (k := 0) (b := 29) sh28 rfl fdX7_7 dX7_writes_55 ?_
            refine rp_iload (x := x5) dX7_writes_58 rfl ?_
            refine rp_iload_n (x := v1) dX7_writes_60 rfl ?_
            refine rp_iastore sh29 dX7_writes_61 (fun σ6 => ?_)
            refine rp_aload_n (x := (E.2.2.2.1 28)) dX7_writes_62 rfl ?_
            refine rp_getR (k := 0) (b := 29) sh28 rfl fdX7_7 dX7_writes_63 ?_
            refine rp_bipush dX7_writes_66 (by decide) ?_
            refine rp_iload (x := x5) dX7_writes_68 rfl ?_
            refine rp_iadd dX7_writes_70 ?_
            refine rp_iload_n (x := v2) dX7_writes_71 rfl ?_
            refine rp_iastore sh29 dX7_writes_72 (fun σ7 => ?_)
            refine rp_aload_n (x := (E.2.2.2.1 28)) dX7_writes_73 rfl ?_
            refine rp_getR (k := 0) (b := 29) sh28 rfl fdX7_7 dX7_writes_74 ?_
            refine rp_bipush dX7_writes_77 (by decide) ?_
            refine rp_iload (x := x5) dX7_writes_79 rfl ?_
            refine rp_iadd dX7_writes_81 ?_
            refine rp_iload_n (x := v3) dX7_writes_82 rfl ?_
            refine rp_iastore sh29 dX7_writes_83 (fun σ8 => ?_)
            refine rp_aload_n (x := (E.2.2.2.1 28)) dX7_writes_84 rfl ?_
            refine rp_getR (k := 0) (b := 29) sh28 rfl fdX7_7 dX7_writes_85 ?_
            refine rp_bipush dX7_writes_88 (by decide) ?_
            refine rp_iload (x := x5) dX7_writes_90 rfl ?_
            refine rp_iadd dX7_writes_92 ?_
            refine rp_iload (x := v4) dX7_writes_93 rfl ?_
            refine rp_iastore sh29 dX7_writes_95 (fun σ9 => ?_)
            refine rp_aload_n (x := (E.2.2.2.1 28)) dX7_writes_96 rfl ?_
            refine rp_getR (k := 0) (b := 29) sh28 rfl fdX7_7 dX7_writes_97 ?_
            refine rp_bipush dX7_writes_100 (by decide) ?_
            refine rp_dup2 dX7_writes_102 rfl rfl ?_
            refine rp_iaload sh29 dX7_writes_103 (fun x10 => ?_)
            refine rp_iconst dX7_writes_104 ?_
            refine rp_iadd dX7_writes_105 ?_
            refine rp_iastore sh29 dX7_writes_106 (fun σ11 => ?_)
            refine rp_aload_n (x := (E.2.2.2.1 28)) dX7_writes_107 rfl ?_
            refine rp_getR (k := 0) (b := 29) sh28 rfl fdX7_7 dX7_writes_108 ?_
            refine rp_bipush dX7_writes_111 (by decide) ?_
            refine rp_iaload sh29 dX7_writes_113 (fun x12 => ?_)
            exact rp_iret rfl rfl dX7_writes_114
          · refine rp_bipush dX7_writes_51 (by decide) ?_
            exact rp_iret rfl rfl dX7_writes_53
        · refine rp_iconst dX7_writes_33 ?_
          exact rp_iret rfl rfl dX7_writes_34
/-! RocketPrintModel.write(IIII)I -/
abbrev rmX7_write : Room := { frames := 4, cells := 0, slots := 0, locals := 91 }
def fX7_write (σ : rp_S) (v1 : Int32) (v2 : Int32) (v3 : Int32) (v4 : Int32) : Option (Int32 × rp_S) :=
  ((fX7_writes σ v1 v2 v3 v4).bind fun p1 =>
    (some (p1.1, p1.2)))
set_option maxRecDepth 100000 in
theorem rX7_write {E : rp_E} (σ : rp_S) (v1 : Int32) (v2 : Int32) (v3 : Int32) (v4 : Int32)   : rp_R E (rp_mK E rmX7_write) mX7_write 0 [some (.ref (E.2.2.2.1 28)), some (.int v1), some (.int v2), some (.int v3), some (.int v4)] [] σ rp_hI (fX7_write σ v1 v2 v3 v4) := by
  rw [fX7_write]
  refine rp_aload_n (x := (E.2.2.2.1 28)) dX7_write_0 rfl ?_
  refine rp_iload_n (x := v1) dX7_write_1 rfl ?_
  refine rp_iload_n (x := v2) dX7_write_2 rfl ?_
  refine rp_iload_n (x := v3) dX7_write_3 rfl ?_
  refine rp_iload (x := v4) dX7_write_4 rfl ?_
  refine rp_callV_hI (As := [.int v1, .int v2, .int v3, .int v4]) (rest := []) (b := (E.2.2.2.1 28)) (rX7_writes σ v1 v2 v3 v4) cbX7_writes lkX7_205 viX7_writes (rp_rcO sh28 rfl) rfl (Nat.le_of_ble_eq_true rfl) ⟨rfl, rfl, ⟨Nat.le_of_ble_eq_true rfl, Nat.le_of_ble_eq_true rfl⟩, Nat.zero_le _, Nat.zero_le _⟩ rfl (Nat.le_of_ble_eq_true rfl) dX7_write_6 (fun p1 hp1 => ?_)
  exact rp_iret rfl rfl dX7_write_9
/-! RocketPrint.come(II)I -/
abbrev rmX6_come : Room := { frames := 3, cells := 0, slots := 0, locals := 65 }
def fX6_come (σ : rp_S) (v1 : Int32) (v2 : Int32) : Option (Int32 × rp_S) :=
  ((fX1_addReader σ 1 v1 v2).bind fun p1 =>
    (some (p1.1, p1.2)))
set_option maxRecDepth 100000 in
theorem rX6_come {E : rp_E} (σ : rp_S) (v1 : Int32) (v2 : Int32)   : rp_R E (rp_mK E rmX6_come) mX6_come 0 [some (.ref (E.2.2.2.1 0)), some (.int v1), some (.int v2)] [] σ rp_hI (fX6_come σ v1 v2) := by
  rw [fX6_come]
  refine rp_aload_n (x := (E.2.2.2.1 0)) dX6_come_0 rfl ?_
  refine rp_getR (k := 0) (b := 1) sh0 rfl fdX6_10 dX6_come_1 ?_
  refine rp_iload_n (x := v1) dX6_come_4 rfl ?_
  refine rp_iload_n (x := v2) dX6_come_5 rfl ?_
  refine rp_callV_hI (As := [.int v1, .int v2]) (rest := []) (b := (E.2.2.2.1 1)) (rX1_addReader σ 1 v1 v2 ni1) cbX1_addReader lkX6_177 viX1_addReader (rp_rcO sh1 rfl) rfl (Nat.le_of_ble_eq_true rfl) ⟨rfl, rfl, ⟨Nat.le_of_ble_eq_true rfl, Nat.le_of_ble_eq_true rfl⟩, Nat.zero_le _, Nat.zero_le _⟩ rfl (Nat.le_of_ble_eq_true rfl) dX6_come_6 (fun p1 hp1 => ?_)
  exact rp_iret rfl rfl dX6_come_9
/-! RocketPrintModel.come(II)I -/
abbrev rmX7_come : Room := { frames := 2, cells := 0, slots := 0, locals := 45 }
def fX7_come (σ : rp_S) (v1 : Int32) (v2 : Int32) : Option (Int32 × rp_S) :=
  ((fX7_isPlace v1).bind fun x1 =>
    (if x1 = 0 then
    (some ((rI (-1)), σ))
  else
    ((fX7_in (v2.toInt64) (rJ 0) (rJ 9)).bind fun x2 =>
    (if x2 = 0 then
    (some ((rI (-1)), σ))
  else
    ((rq_rd σ 29 180 (rI 33)).bind fun x3 =>
    (if x3 = (rI 4) then
    (some ((rI (-3)), σ))
  else
    ((rq_wr σ 29 180 ((rI 25) + x3) v1).bind fun σ4 =>
    ((rq_wr σ4 29 180 ((rI 29) + x3) v2).bind fun σ5 =>
    ((rq_rd σ5 29 180 (rI 33)).bind fun x6 =>
    ((rq_wr σ5 29 180 (rI 33) (x6 + (rI 1))).bind fun σ7 =>
    ((rq_rd σ7 29 180 (rI 33)).bind fun x8 =>
    (some (x8, σ7)))))))))))))
set_option maxRecDepth 100000 in
theorem rX7_come {E : rp_E} (σ : rp_S) (v1 : Int32) (v2 : Int32)   : rp_R E (rp_mK E rmX7_come) mX7_come 0 [some (.ref (E.2.2.2.1 28)), some (.int v1), some (.int v2), none] [] σ rp_hI (fX7_come σ v1 v2) := by
  rw [fX7_come]
  refine rp_iload_n (x := v1) dX7_come_0 rfl ?_
  refine rp_callS_hi (As := [.int v1]) (rest := []) (rX7_isPlace σ v1) cbX7_isPlace lkX7_189 stX7_isPlace rfl (Nat.le_of_ble_eq_true rfl) ⟨rfl, rfl, ⟨Nat.le_of_ble_eq_true rfl, Nat.le_of_ble_eq_true rfl⟩, Nat.zero_le _, Nat.zero_le _⟩ rfl (Nat.le_of_ble_eq_true rfl) dX7_come_1 (fun x1 hx1 => ?_)
  refine rp_if_eq (tgt := 19) dX7_come_4 (by decide) ?_ ?_
  · refine rp_iconst dX7_come_19 ?_
    exact rp_iret rfl rfl dX7_come_20
  · refine rp_iload_n (x := v2) dX7_come_7 rfl ?_
    refine rp_i2l dX7_come_8 ?_
    refine rp_lconst dX7_come_9 0 (by decide) ?_
    refine rp_ldc2 (v := (rJ 9)) clX7_194 dX7_come_10 ?_
    refine rp_callS_hi (As := [.long (v2.toInt64), .long (rJ 0), .long (rJ 9)]) (rest := []) (rX7_in σ (v2.toInt64) (rJ 0) (rJ 9)) cbX7_in lkX7_49 stX7_in rfl (Nat.le_of_ble_eq_true rfl) ⟨rfl, rfl, ⟨Nat.le_of_ble_eq_true rfl, Nat.le_of_ble_eq_true rfl⟩, Nat.zero_le _, Nat.zero_le _⟩ rfl (Nat.le_of_ble_eq_true rfl) dX7_come_13 (fun x2 hx2 => ?_)
    refine rp_if_ne (tgt := 21) dX7_come_16 (by decide) ?_ ?_
    · refine rp_aload_n (x := (E.2.2.2.1 28)) dX7_come_21 rfl ?_
      refine rp_getR (k := 0) (b := 29) sh28 rfl fdX7_7 dX7_come_22 ?_
      refine rp_bipush dX7_come_25 (by decide) ?_
      refine rp_iaload sh29 dX7_come_27 (fun x3 => ?_)
      refine rp_istore_n dX7_come_28 (by decide) rfl ?_
      refine rp_iload_n (x := x3) dX7_come_29 rfl ?_
      refine rp_iconst dX7_come_30 ?_
      refine rp_icmp_ne (tgt := 37) dX7_come_31 (by decide) ?_ ?_
      · refine rp_aload_n (x := (E.2.2.2.1 28)) dX7_come_37 rfl ?_
        refine rp_getR (k := 0) (b := 29) sh28 rfl fdX7_7 dX7_come_38 ?_
        refine rp_bipush dX7_come_41 (by decide) ?_
        refine rp_iload_n (x := x3) dX7_come_43 rfl ?_
        refine rp_iadd dX7_come_44 ?_
        refine rp_iload_n (x := v1) dX7_come_45 rfl ?_
        refine rp_iastore sh29 dX7_come_46 (fun σ4 => ?_)
        refine rp_aload_n (x := (E.2.2.2.1 28)) dX7_come_47 rfl ?_
        refine rp_getR (k := 0) (b := 29) sh28 rfl fdX7_7 dX7_come_48 ?_
        refine rp_bipush dX7_come_51 (by decide) ?_
        refine rp_iload_n (x := x3) dX7_come_53 rfl ?_
        refine rp_iadd dX7_come_54 ?_
        refine rp_iload_n (x := v2) dX7_come_55 rfl ?_
        refine rp_iastore sh29 dX7_come_56 (fun σ5 => ?_)
        refine rp_aload_n (x := (E.2.2.2.1 28)) dX7_come_57 rfl ?_
        refine rp_getR (k := 0) (b := 29) sh28 rfl fdX7_7 dX7_come_58 ?_
        refine rp_bipush dX7_come_61 (by decide) ?_
        refine rp_dup2 dX7_come_63 rfl rfl ?_
        refine rp_iaload sh29 dX7_come_64 (fun x6 => ?_)
        refine rp_iconst dX7_come_65 ?_
        refine rp_iadd dX7_come_66 ?_
        refine rp_iastore sh29 dX7_come_67 (fun σ7 => ?_)
        refine rp_aload_n (x := (E.2.2.2.1 28)) dX7_come_68 rfl ?_
        refine rp_getR (k := 0) (b := 29) sh28 rfl fdX7_7 dX7_come_69 ?_
        refine rp_bipush dX7_come_72 (by decide) ?_
        refine rp_iaload sh29 dX7_come_74 (fun x8 => ?_)
        exact rp_iret rfl rfl dX7_come_75
      · refine rp_bipush dX7_come_34 (by decide) ?_
        exact rp_iret rfl rfl dX7_come_36
    · refine rp_iconst dX7_come_19 ?_
      exact rp_iret rfl rfl dX7_come_20
/-! RocketPrint.burn(I)I -/
abbrev rmX6_burn : Room := { frames := 1, cells := 0, slots := 0, locals := 22 }
def fX6_burn (σ : rp_S) (v1 : Int32) : Option (Int32 × rp_S) :=
  ((fX6_within v1 (rI 0) (σ 1 2)).bind fun x1 =>
    (if x1 = 0 then
    (some ((rI (-1)), σ))
  else
    ((some (rp_up σ 1 2 v1)).bind fun σ2 =>
    (some ((σ 1 2), σ2)))))
set_option maxRecDepth 100000 in
theorem rX6_burn {E : rp_E} (σ : rp_S) (v1 : Int32)   : rp_R E (rp_mK E rmX6_burn) mX6_burn 0 [some (.ref (E.2.2.2.1 0)), some (.int v1), none] [] σ rp_hI (fX6_burn σ v1) := by
  rw [fX6_burn]
  refine rp_iload_n (x := v1) dX6_burn_0 rfl ?_
  refine rp_iconst dX6_burn_1 ?_
  refine rp_aload_n (x := (E.2.2.2.1 0)) dX6_burn_2 rfl ?_
  refine rp_getR (k := 0) (b := 1) sh0 rfl fdX6_10 dX6_burn_3 ?_
  refine rp_getI (k := 2) sh1 rfl fdX6_92 dX6_burn_6 ?_
  refine rp_callS_hi (As := [.int v1, .int (rI 0), .int (σ 1 2)]) (rest := []) (rX6_within σ v1 (rI 0) (σ 1 2)) cbX6_within lkX6_57 stX6_within rfl (Nat.le_of_ble_eq_true rfl) ⟨rfl, rfl, ⟨Nat.le_of_ble_eq_true rfl, Nat.le_of_ble_eq_true rfl⟩, Nat.zero_le _, Nat.zero_le _⟩ rfl (Nat.le_of_ble_eq_true rfl) dX6_burn_9 (fun x1 hx1 => ?_)
  refine rp_if_ne (tgt := 17) dX6_burn_12 (by decide) ?_ ?_
  · refine rp_aload_n (x := (E.2.2.2.1 0)) dX6_burn_17 rfl ?_
    refine rp_getR (k := 0) (b := 1) sh0 rfl fdX6_10 dX6_burn_18 ?_
    refine rp_getI (k := 2) sh1 rfl fdX6_92 dX6_burn_21 ?_
    refine rp_istore_n dX6_burn_24 (by decide) rfl ?_
    refine rp_aload_n (x := (E.2.2.2.1 0)) dX6_burn_25 rfl ?_
    refine rp_getR (k := 0) (b := 1) sh0 rfl fdX6_10 dX6_burn_26 ?_
    refine rp_iload_n (x := v1) dX6_burn_29 rfl ?_
    refine rp_putB (k := 2) sh1 rfl fpX6_92 (vp_nar_int _) rfl dX6_burn_30 (fun σ2 => ?_)
    refine rp_iload_n (x := (σ 1 2)) dX6_burn_33 rfl ?_
    exact rp_iret rfl rfl dX6_burn_34
  · refine rp_iconst dX6_burn_15 ?_
    exact rp_iret rfl rfl dX6_burn_16
/-! RocketPrintModel.burn(I)I -/
abbrev rmX7_burn : Room := { frames := 1, cells := 0, slots := 0, locals := 25 }
def fX7_burn (σ : rp_S) (v1 : Int32) : Option (Int32 × rp_S) :=
  ((rq_rd σ 29 180 (rI 24)).bind fun x1 =>
    ((fX7_in (v1.toInt64) (rJ 0) (x1.toInt64)).bind fun x2 =>
    ((fX7_puts σ x2 (rI 24) v1 (rI 0)).bind fun p3 =>
    (some (p3.1, p3.2)))))
set_option maxRecDepth 100000 in
theorem rX7_burn {E : rp_E} (σ : rp_S) (v1 : Int32)   : rp_R E (rp_mK E rmX7_burn) mX7_burn 0 [some (.ref (E.2.2.2.1 28)), some (.int v1)] [] σ rp_hI (fX7_burn σ v1) := by
  rw [fX7_burn]
  refine rp_aload_n (x := (E.2.2.2.1 28)) dX7_burn_0 rfl ?_
  refine rp_iload_n (x := v1) dX7_burn_1 rfl ?_
  refine rp_i2l dX7_burn_2 ?_
  refine rp_lconst dX7_burn_3 0 (by decide) ?_
  refine rp_aload_n (x := (E.2.2.2.1 28)) dX7_burn_4 rfl ?_
  refine rp_getR (k := 0) (b := 29) sh28 rfl fdX7_7 dX7_burn_5 ?_
  refine rp_bipush dX7_burn_8 (by decide) ?_
  refine rp_iaload sh29 dX7_burn_10 (fun x1 => ?_)
  refine rp_i2l dX7_burn_11 ?_
  refine rp_callS_hi (As := [.long (v1.toInt64), .long (rJ 0), .long (x1.toInt64)]) (rest := [.ref (E.2.2.2.1 28)]) (rX7_in σ (v1.toInt64) (rJ 0) (x1.toInt64)) cbX7_in lkX7_49 stX7_in rfl (Nat.le_of_ble_eq_true rfl) ⟨rfl, rfl, ⟨Nat.le_of_ble_eq_true rfl, Nat.le_of_ble_eq_true rfl⟩, Nat.zero_le _, Nat.zero_le _⟩ rfl (Nat.le_of_ble_eq_true rfl) dX7_burn_12 (fun x2 hx2 => ?_)
  refine rp_bipush dX7_burn_15 (by decide) ?_
  refine rp_iload_n (x := v1) dX7_burn_17 rfl ?_
  refine rp_iconst dX7_burn_18 ?_
  refine rp_callV_hI (As := [.int x2, .int (rI 24), .int v1, .int (rI 0)]) (rest := []) (b := (E.2.2.2.1 28)) (rX7_puts σ x2 (rI 24) v1 (rI 0)) cbX7_puts lkX7_199 viX7_puts (rp_rcO sh28 rfl) rfl (Nat.le_of_ble_eq_true rfl) ⟨rfl, rfl, ⟨Nat.le_of_ble_eq_true rfl, Nat.le_of_ble_eq_true rfl⟩, Nat.zero_le _, Nat.zero_le _⟩ rfl (Nat.le_of_ble_eq_true rfl) dX7_burn_19 (fun p3 hp3 => ?_)
  exact rp_iret rfl rfl dX7_burn_22
/-! RocketPrint.leave(I)I -/
abbrev rmX6_leave : Room := { frames := 1, cells := 0, slots := 0, locals := 22 }
def fX6_leave (σ : rp_S) (v1 : Int32) : Option (Int32 × rp_S) :=
  ((fX6_within v1 (rI 0) (σ 1 3)).bind fun x1 =>
    (if x1 = 0 then
    (some ((rI (-1)), σ))
  else
    ((some (rp_up σ 1 3 v1)).bind fun σ2 =>
    (some ((σ 1 3), σ2)))))
set_option maxRecDepth 100000 in
theorem rX6_leave {E : rp_E} (σ : rp_S) (v1 : Int32)   : rp_R E (rp_mK E rmX6_leave) mX6_leave 0 [some (.ref (E.2.2.2.1 0)), some (.int v1), none] [] σ rp_hI (fX6_leave σ v1) := by
  rw [fX6_leave]
  refine rp_iload_n (x := v1) dX6_leave_0 rfl ?_
  refine rp_iconst dX6_leave_1 ?_
  refine rp_aload_n (x := (E.2.2.2.1 0)) dX6_leave_2 rfl ?_
  refine rp_getR (k := 0) (b := 1) sh0 rfl fdX6_10 dX6_leave_3 ?_
  refine rp_getI (k := 3) sh1 rfl fdX6_95 dX6_leave_6 ?_
  refine rp_callS_hi (As := [.int v1, .int (rI 0), .int (σ 1 3)]) (rest := []) (rX6_within σ v1 (rI 0) (σ 1 3)) cbX6_within lkX6_57 stX6_within rfl (Nat.le_of_ble_eq_true rfl) ⟨rfl, rfl, ⟨Nat.le_of_ble_eq_true rfl, Nat.le_of_ble_eq_true rfl⟩, Nat.zero_le _, Nat.zero_le _⟩ rfl (Nat.le_of_ble_eq_true rfl) dX6_leave_9 (fun x1 hx1 => ?_)
  refine rp_if_ne (tgt := 17) dX6_leave_12 (by decide) ?_ ?_
  · refine rp_aload_n (x := (E.2.2.2.1 0)) dX6_leave_17 rfl ?_
    refine rp_getR (k := 0) (b := 1) sh0 rfl fdX6_10 dX6_leave_18 ?_
    refine rp_getI (k := 3) sh1 rfl fdX6_95 dX6_leave_21 ?_
    refine rp_istore_n dX6_leave_24 (by decide) rfl ?_
    refine rp_aload_n (x := (E.2.2.2.1 0)) dX6_leave_25 rfl ?_
    refine rp_getR (k := 0) (b := 1) sh0 rfl fdX6_10 dX6_leave_26 ?_
    refine rp_iload_n (x := v1) dX6_leave_29 rfl ?_
    refine rp_putB (k := 3) sh1 rfl fpX6_95 (vp_nar_int _) rfl dX6_leave_30 (fun σ2 => ?_)
    refine rp_iload_n (x := (σ 1 3)) dX6_leave_33 rfl ?_
    exact rp_iret rfl rfl dX6_leave_34
  · refine rp_iconst dX6_leave_15 ?_
    exact rp_iret rfl rfl dX6_leave_16
/-! RocketPrintModel.leave(I)I -/
abbrev rmX7_leave : Room := { frames := 1, cells := 0, slots := 0, locals := 25 }
def fX7_leave (σ : rp_S) (v1 : Int32) : Option (Int32 × rp_S) :=
  ((rq_rd σ 29 180 (rI 33)).bind fun x1 =>
    ((fX7_in (v1.toInt64) (rJ 0) (x1.toInt64)).bind fun x2 =>
    ((fX7_puts σ x2 (rI 33) v1 (rI 0)).bind fun p3 =>
    (some (p3.1, p3.2)))))
set_option maxRecDepth 100000 in
theorem rX7_leave {E : rp_E} (σ : rp_S) (v1 : Int32)   : rp_R E (rp_mK E rmX7_leave) mX7_leave 0 [some (.ref (E.2.2.2.1 28)), some (.int v1)] [] σ rp_hI (fX7_leave σ v1) := by
  rw [fX7_leave]
  refine rp_aload_n (x := (E.2.2.2.1 28)) dX7_leave_0 rfl ?_
  refine rp_iload_n (x := v1) dX7_leave_1 rfl ?_
  refine rp_i2l dX7_leave_2 ?_
  refine rp_lconst dX7_leave_3 0 (by decide) ?_
  refine rp_aload_n (x := (E.2.2.2.1 28)) dX7_leave_4 rfl ?_
  refine rp_getR (k := 0) (b := 29) sh28 rfl fdX7_7 dX7_leave_5 ?_
  refine rp_bipush dX7_leave_8 (by decide) ?_
  refine rp_iaload sh29 dX7_leave_10 (fun x1 => ?_)
  refine rp_i2l dX7_leave_11 ?_
  refine rp_callS_hi (As := [.long (v1.toInt64), .long (rJ 0), .long (x1.toInt64)]) (rest := [.ref (E.2.2.2.1 28)]) (rX7_in σ (v1.toInt64) (rJ 0) (x1.toInt64)) cbX7_in lkX7_49 stX7_in rfl (Nat.le_of_ble_eq_true rfl) ⟨rfl, rfl, ⟨Nat.le_of_ble_eq_true rfl, Nat.le_of_ble_eq_true rfl⟩, Nat.zero_le _, Nat.zero_le _⟩ rfl (Nat.le_of_ble_eq_true rfl) dX7_leave_12 (fun x2 hx2 => ?_)
  refine rp_bipush dX7_leave_15 (by decide) ?_
  refine rp_iload_n (x := v1) dX7_leave_17 rfl ?_
  refine rp_iconst dX7_leave_18 ?_
  refine rp_callV_hI (As := [.int x2, .int (rI 33), .int v1, .int (rI 0)]) (rest := []) (b := (E.2.2.2.1 28)) (rX7_puts σ x2 (rI 33) v1 (rI 0)) cbX7_puts lkX7_199 viX7_puts (rp_rcO sh28 rfl) rfl (Nat.le_of_ble_eq_true rfl) ⟨rfl, rfl, ⟨Nat.le_of_ble_eq_true rfl, Nat.le_of_ble_eq_true rfl⟩, Nat.zero_le _, Nat.zero_le _⟩ rfl (Nat.le_of_ble_eq_true rfl) dX7_leave_19 (fun p3 hp3 => ?_)
  exact rp_iret rfl rfl dX7_leave_22
/-! RocketPrint.first(I)I -/
abbrev rmX6_first : Room := { frames := 5, cells := 0, slots := 0, locals := 104 }
def fX6_first_26  : Nat → rp_S → Int32 → Int32 → Option (Int32 × rp_S)
  | 0, _, _, _ => none
  | n + 1, σ, v1, v2 =>
    (if (rI 80) ≤ v2 then
    (some ((rI (-4)), σ))
  else
    ((fX3_lookedAt σ v1 v2).bind fun x3 =>
    (if x3 < 0 then
    (fX6_first_26 n σ v1 (v2 + (rI 1)))
  else
    (some (v2, σ)))))
set_option maxRecDepth 100000 in
theorem rX6_first_26 {E : rp_E}  : ∀ (n : Nat) (σ : rp_S) (v1 : Int32) (v2 : Int32), rp_R E (rp_mK E rmX6_first) mX6_first 26 [some (.ref (E.2.2.2.1 0)), some (.int v1), some (.int v2)] [] σ rp_hI (fX6_first_26 n σ v1 v2) := by
  intro n
  induction n with
  | zero =>
    intro σ v1 v2
    rw [fX6_first_26]
    exact rp_none
  | succ n ih =>
    intro σ v1 v2
    rw [fX6_first_26]
    refine rp_iload_n (x := v2) dX6_first_26 rfl ?_
    refine rp_bipush dX6_first_27 (by decide) ?_
    refine rp_icmp_ge (tgt := 52) dX6_first_29 (by decide) ?_ ?_
    · refine rp_bipush dX6_first_52 (by decide) ?_
      exact rp_iret rfl rfl dX6_first_54
    · refine rp_aload_n (x := (E.2.2.2.1 0)) dX6_first_32 rfl ?_
      refine rp_getR (k := 1) (b := 4) sh0 rfl fdX6_19 dX6_first_33 ?_
      refine rp_iload_n (x := v1) dX6_first_36 rfl ?_
      refine rp_iload_n (x := v2) dX6_first_37 rfl ?_
      refine rp_callV_hi (As := [.int v1, .int v2]) (rest := []) (b := (E.2.2.2.1 4)) (rX3_lookedAt σ v1 v2) cbX3_lookedAt lkX6_153 viX3_lookedAt (rp_rcO sh4 rfl) rfl (Nat.le_of_ble_eq_true rfl) ⟨rfl, rfl, ⟨Nat.le_of_ble_eq_true rfl, Nat.le_of_ble_eq_true rfl⟩, Nat.zero_le _, Nat.zero_le _⟩ rfl (Nat.le_of_ble_eq_true rfl) dX6_first_38 (fun x3 hx3 => ?_)
      refine rp_if_lt (tgt := 46) dX6_first_41 (by decide) ?_ ?_
      · refine rp_iinc (x := v2) dX6_first_46 rfl (by decide) rfl ?_
        refine rp_goto (tgt := 26) dX6_first_49 (by decide) ?_
        refine rp_mask [true, true, true] (vs2 := [some (.ref (E.2.2.2.1 0)), some (.int v1), some (.int (v2 + (rI 1)))]) rfl rfl ?_
        exact ih σ v1 (v2 + (rI 1))
      · refine rp_iload_n (x := v2) dX6_first_44 rfl ?_
        exact rp_iret rfl rfl dX6_first_45
def fX6_first (σ : rp_S) (v1 : Int32) : Option (Int32 × rp_S) :=
  ((fX1_hasReader σ 1 v1).bind fun x1 =>
    (if x1 = 0 then
    (some ((rI (-1)), σ))
  else
    ((fX3_begin σ 1).bind fun σ2 =>
    (fX6_first_26 1000 σ2 v1 (rI 0)))))
set_option maxRecDepth 100000 in
theorem rX6_first {E : rp_E} (σ : rp_S) (v1 : Int32)   : rp_R E (rp_mK E rmX6_first) mX6_first 0 [some (.ref (E.2.2.2.1 0)), some (.int v1), none] [] σ rp_hI (fX6_first σ v1) := by
  rw [fX6_first]
  refine rp_aload_n (x := (E.2.2.2.1 0)) dX6_first_0 rfl ?_
  refine rp_getR (k := 0) (b := 1) sh0 rfl fdX6_10 dX6_first_1 ?_
  refine rp_iload_n (x := v1) dX6_first_4 rfl ?_
  refine rp_callV_hi (As := [.int v1]) (rest := []) (b := (E.2.2.2.1 1)) (rX1_hasReader σ 1 v1 ni1) cbX1_hasReader lkX6_138 viX1_hasReader (rp_rcO sh1 rfl) rfl (Nat.le_of_ble_eq_true rfl) ⟨rfl, rfl, ⟨Nat.le_of_ble_eq_true rfl, Nat.le_of_ble_eq_true rfl⟩, Nat.zero_le _, Nat.zero_le _⟩ rfl (Nat.le_of_ble_eq_true rfl) dX6_first_5 (fun x1 hx1 => ?_)
  refine rp_if_ne (tgt := 13) dX6_first_8 (by decide) ?_ ?_
  · refine rp_aload_n (x := (E.2.2.2.1 0)) dX6_first_13 rfl ?_
    refine rp_getR (k := 1) (b := 4) sh0 rfl fdX6_19 dX6_first_14 ?_
    refine rp_aload_n (x := (E.2.2.2.1 0)) dX6_first_17 rfl ?_
    refine rp_getR (k := 0) (b := 1) sh0 rfl fdX6_10 dX6_first_18 ?_
    refine rp_callV_hv (As := [.ref (E.2.2.2.1 1)]) (rest := []) (b := (E.2.2.2.1 4)) (rX3_begin σ 1 ni1) cbX3_begin lkX6_104 viX3_begin (rp_rcO sh4 rfl) rfl (Nat.le_of_ble_eq_true rfl) ⟨rfl, rfl, ⟨Nat.le_of_ble_eq_true rfl, Nat.le_of_ble_eq_true rfl⟩, Nat.zero_le _, Nat.zero_le _⟩ rfl (Nat.le_of_ble_eq_true rfl) dX6_first_21 (fun σ2 hσ2 => ?_)
    refine rp_iconst dX6_first_24 ?_
    refine rp_istore_n dX6_first_25 (by decide) rfl ?_
    refine rp_mask [true, true, true] (vs2 := [some (.ref (E.2.2.2.1 0)), some (.int v1), some (.int (rI 0))]) rfl rfl ?_
    exact rX6_first_26 1000 σ2 v1 (rI 0)
  · refine rp_iconst dX6_first_11 ?_
    exact rp_iret rfl rfl dX6_first_12
/-! RocketPrintModel.first(I)I -/
abbrev rmX7_first : Room := { frames := 3, cells := 0, slots := 0, locals := 76 }
def fX7_first_12 (σ : rp_S) : Nat → Int32 → Int32 → Option (Int32)
  | 0, _, _ => none
  | n + 1, v1, v2 =>
    (if (rI 80) ≤ v2 then
    (some (rI (-4)))
  else
    ((fX7_looksOn σ (rI 0) v1 v2).bind fun x2 =>
    (if x2 = (rI (-4)) then
    (fX7_first_12 σ n v1 (v2 + (rI 1)))
  else
    (some v2))))
set_option maxRecDepth 100000 in
theorem rX7_first_12 {E : rp_E} (σ : rp_S) : ∀ (n : Nat) (v1 : Int32) (v2 : Int32), rp_R E (rp_mK E rmX7_first) mX7_first 12 [some (.ref (E.2.2.2.1 28)), some (.int v1), some (.int v2)] [] σ (rp_hi σ) (fX7_first_12 σ n v1 v2) := by
  intro n
  induction n with
  | zero =>
    intro v1 v2
    rw [fX7_first_12]
    exact rp_none
  | succ n ih =>
    intro v1 v2
    rw [fX7_first_12]
    refine rp_iload_n (x := v2) dX7_first_12 rfl ?_
    refine rp_bipush dX7_first_13 (by decide) ?_
    refine rp_icmp_ge (tgt := 38) dX7_first_15 (by decide) ?_ ?_
    · refine rp_bipush dX7_first_38 (by decide) ?_
      exact rp_iret rfl rfl dX7_first_40
    · refine rp_aload_n (x := (E.2.2.2.1 28)) dX7_first_18 rfl ?_
      refine rp_iconst dX7_first_19 ?_
      refine rp_iload_n (x := v1) dX7_first_20 rfl ?_
      refine rp_iload_n (x := v2) dX7_first_21 rfl ?_
      refine rp_callV_hi (As := [.int (rI 0), .int v1, .int v2]) (rest := []) (b := (E.2.2.2.1 28)) (rX7_looksOn σ (rI 0) v1 v2) cbX7_looksOn lkX7_158 viX7_looksOn (rp_rcO sh28 rfl) rfl (Nat.le_of_ble_eq_true rfl) ⟨rfl, rfl, ⟨Nat.le_of_ble_eq_true rfl, Nat.le_of_ble_eq_true rfl⟩, Nat.zero_le _, Nat.zero_le _⟩ rfl (Nat.le_of_ble_eq_true rfl) dX7_first_22 (fun x2 hx2 => ?_)
      refine rp_bipush dX7_first_25 (by decide) ?_
      refine rp_icmp_eq (tgt := 32) dX7_first_27 (by decide) ?_ ?_
      · refine rp_iinc (x := v2) dX7_first_32 rfl (by decide) rfl ?_
        refine rp_goto (tgt := 12) dX7_first_35 (by decide) ?_
        refine rp_mask [true, true, true] (vs2 := [some (.ref (E.2.2.2.1 28)), some (.int v1), some (.int (v2 + (rI 1)))]) rfl rfl ?_
        exact ih v1 (v2 + (rI 1))
      · refine rp_iload_n (x := v2) dX7_first_30 rfl ?_
        exact rp_iret rfl rfl dX7_first_31
def fX7_first (σ : rp_S) (v1 : Int32) : Option (Int32) :=
  ((fX7_isReader σ v1).bind fun x1 =>
    (if x1 = 0 then
    (some (rI (-1)))
  else
    (fX7_first_12 σ 1000 v1 (rI 0))))
set_option maxRecDepth 100000 in
theorem rX7_first {E : rp_E} (σ : rp_S) (v1 : Int32)   : rp_R E (rp_mK E rmX7_first) mX7_first 0 [some (.ref (E.2.2.2.1 28)), some (.int v1), none] [] σ (rp_hi σ) (fX7_first σ v1) := by
  rw [fX7_first]
  refine rp_aload_n (x := (E.2.2.2.1 28)) dX7_first_0 rfl ?_
  refine rp_iload_n (x := v1) dX7_first_1 rfl ?_
  refine rp_callV_hi (As := [.int v1]) (rest := []) (b := (E.2.2.2.1 28)) (rX7_isReader σ v1) cbX7_isReader lkX7_178 viX7_isReader (rp_rcO sh28 rfl) rfl (Nat.le_of_ble_eq_true rfl) ⟨rfl, rfl, ⟨Nat.le_of_ble_eq_true rfl, Nat.le_of_ble_eq_true rfl⟩, Nat.zero_le _, Nat.zero_le _⟩ rfl (Nat.le_of_ble_eq_true rfl) dX7_first_2 (fun x1 hx1 => ?_)
  refine rp_if_ne (tgt := 10) dX7_first_5 (by decide) ?_ ?_
  · refine rp_iconst dX7_first_10 ?_
    refine rp_istore_n dX7_first_11 (by decide) rfl ?_
    refine rp_mask [true, true, true] (vs2 := [some (.ref (E.2.2.2.1 28)), some (.int v1), some (.int (rI 0))]) rfl rfl ?_
    exact rX7_first_12 σ 1000 v1 (rI 0)
  · refine rp_iconst dX7_first_8 ?_
    exact rp_iret rfl rfl dX7_first_9
/-! RocketPrint$Show.isRead(I)Z -/
abbrev rmX3_isRead : Room := { frames := 3, cells := 0, slots := 0, locals := 72 }
def fX3_isRead_2 (σ : rp_S) : Nat → Int32 → Int32 → Option (Int32)
  | 0, _, _ => none
  | n + 1, v1, v2 =>
    (if (σ 5 3) ≤ v2 then
    (some (rI 0))
  else
    ((fX3_lookedAt σ v2 v1).bind fun x1 =>
    (if x1 < 0 then
    (fX3_isRead_2 σ n v1 (v2 + (rI 1)))
  else
    (some (rI 1)))))
set_option maxRecDepth 100000 in
theorem rX3_isRead_2 {E : rp_E} (σ : rp_S) : ∀ (n : Nat) (v1 : Int32) (v2 : Int32), rp_R E (rp_mK E rmX3_isRead) mX3_isRead 2 [some (.ref (E.2.2.2.1 4)), some (.int v1), some (.int v2)] [] σ (rp_hi σ) (fX3_isRead_2 σ n v1 v2) := by
  intro n
  induction n with
  | zero =>
    intro v1 v2
    rw [fX3_isRead_2]
    exact rp_none
  | succ n ih =>
    intro v1 v2
    rw [fX3_isRead_2]
    refine rp_iload_n (x := v2) dX3_isRead_2 rfl ?_
    refine rp_aload_n (x := (E.2.2.2.1 4)) dX3_isRead_3 rfl ?_
    refine rp_getR (k := 0) (b := 5) sh4 rfl fdX3_12 dX3_isRead_4 ?_
    refine rp_getI (k := 3) sh5 rfl fdX3_78 dX3_isRead_7 ?_
    refine rp_icmp_ge (tgt := 30) dX3_isRead_10 (by decide) ?_ ?_
    · refine rp_iconst dX3_isRead_30 ?_
      exact rp_zret (x' := (rI 0)) rfl (by decide) rfl dX3_isRead_31
    · refine rp_aload_n (x := (E.2.2.2.1 4)) dX3_isRead_13 rfl ?_
      refine rp_iload_n (x := v2) dX3_isRead_14 rfl ?_
      refine rp_iload_n (x := v1) dX3_isRead_15 rfl ?_
      refine rp_callV_hi (As := [.int v2, .int v1]) (rest := []) (b := (E.2.2.2.1 4)) (rX3_lookedAt σ v2 v1) cbX3_lookedAt lkX3_81 viX3_lookedAt (rp_rcO sh4 rfl) rfl (Nat.le_of_ble_eq_true rfl) ⟨rfl, rfl, ⟨Nat.le_of_ble_eq_true rfl, Nat.le_of_ble_eq_true rfl⟩, Nat.zero_le _, Nat.zero_le _⟩ rfl (Nat.le_of_ble_eq_true rfl) dX3_isRead_16 (fun x1 hx1 => ?_)
      refine rp_if_lt (tgt := 24) dX3_isRead_19 (by decide) ?_ ?_
      · refine rp_iinc (x := v2) dX3_isRead_24 rfl (by decide) rfl ?_
        refine rp_goto (tgt := 2) dX3_isRead_27 (by decide) ?_
        refine rp_mask [true, true, true] (vs2 := [some (.ref (E.2.2.2.1 4)), some (.int v1), some (.int (v2 + (rI 1)))]) rfl rfl ?_
        exact ih v1 (v2 + (rI 1))
      · refine rp_iconst dX3_isRead_22 ?_
        exact rp_zret (x' := (rI 1)) rfl (by decide) rfl dX3_isRead_23
def fX3_isRead (σ : rp_S) (v1 : Int32) : Option (Int32) :=
  (fX3_isRead_2 σ 1000 v1 (rI 0))
set_option maxRecDepth 100000 in
theorem rX3_isRead {E : rp_E} (σ : rp_S) (v1 : Int32)   : rp_R E (rp_mK E rmX3_isRead) mX3_isRead 0 [some (.ref (E.2.2.2.1 4)), some (.int v1), none] [] σ (rp_hi σ) (fX3_isRead σ v1) := by
  rw [fX3_isRead]
  refine rp_iconst dX3_isRead_0 ?_
  refine rp_istore_n dX3_isRead_1 (by decide) rfl ?_
  refine rp_mask [true, true, true] (vs2 := [some (.ref (E.2.2.2.1 4)), some (.int v1), some (.int (rI 0))]) rfl rfl ?_
  exact rX3_isRead_2 σ 1000 v1 (rI 0)
/-! RocketPrint.dark()I -/
abbrev rmX6_dark : Room := { frames := 5, cells := 0, slots := 0, locals := 104 }
def fX6_dark_35 (k15 : rp_S → Int32 → Int32 → Option (Int32 × rp_S)) (σ : rp_S) (v1 : Int32) (v2 : Int32) : Option (Int32 × rp_S) :=
  (k15 σ v1 (v2 + (rI 1)))
set_option maxRecDepth 100000 in
theorem rX6_dark_35 {E : rp_E} (k15 : rp_S → Int32 → Int32 → Option (Int32 × rp_S)) (hk15 : ∀ (σ : rp_S) (v1 : Int32) (v2 : Int32), rp_R E (rp_mK E rmX6_dark) mX6_dark 15 [some (.ref (E.2.2.2.1 0)), some (.int v1), some (.int v2)] [] σ rp_hI (k15 σ v1 v2)) (σ : rp_S) (v1 : Int32) (v2 : Int32) : rp_R E (rp_mK E rmX6_dark) mX6_dark 35 [some (.ref (E.2.2.2.1 0)), some (.int v1), some (.int v2)] [] σ rp_hI (fX6_dark_35 k15 σ v1 v2) := by
  rw [fX6_dark_35]
  refine rp_iinc (x := v2) dX6_dark_35 rfl (by decide) rfl ?_
  refine rp_goto (tgt := 15) dX6_dark_38 (by decide) ?_
  refine rp_mask [true, true, true] (vs2 := [some (.ref (E.2.2.2.1 0)), some (.int v1), some (.int (v2 + (rI 1)))]) rfl rfl ?_
  exact hk15 σ v1 (v2 + (rI 1))
def fX6_dark_15  : Nat → rp_S → Int32 → Int32 → Option (Int32 × rp_S)
  | 0, _, _, _ => none
  | n + 1, σ, v1, v2 =>
    (if (rI 80) ≤ v2 then
    (some (v1, σ))
  else
    ((fX3_isRead σ v2).bind fun x2 =>
    (if x2 = 0 then
    (fX6_dark_35 (fun σ v1 v2 => fX6_dark_15 n σ v1 v2) σ (v1 + (rI 1)) v2)
  else
    (fX6_dark_35 (fun σ v1 v2 => fX6_dark_15 n σ v1 v2) σ v1 v2))))
set_option maxRecDepth 100000 in
theorem rX6_dark_15 {E : rp_E}  : ∀ (n : Nat) (σ : rp_S) (v1 : Int32) (v2 : Int32), rp_R E (rp_mK E rmX6_dark) mX6_dark 15 [some (.ref (E.2.2.2.1 0)), some (.int v1), some (.int v2)] [] σ rp_hI (fX6_dark_15 n σ v1 v2) := by
  intro n
  induction n with
  | zero =>
    intro σ v1 v2
    rw [fX6_dark_15]
    exact rp_none
  | succ n ih =>
    intro σ v1 v2
    rw [fX6_dark_15]
    refine rp_iload_n (x := v2) dX6_dark_15 rfl ?_
    refine rp_bipush dX6_dark_16 (by decide) ?_
    refine rp_icmp_ge (tgt := 41) dX6_dark_18 (by decide) ?_ ?_
    · refine rp_iload_n (x := v1) dX6_dark_41 rfl ?_
      exact rp_iret rfl rfl dX6_dark_42
    · refine rp_aload_n (x := (E.2.2.2.1 0)) dX6_dark_21 rfl ?_
      refine rp_getR (k := 1) (b := 4) sh0 rfl fdX6_19 dX6_dark_22 ?_
      refine rp_iload_n (x := v2) dX6_dark_25 rfl ?_
      refine rp_callV_hi (As := [.int v2]) (rest := []) (b := (E.2.2.2.1 4)) (rX3_isRead σ v2) cbX3_isRead lkX6_180 viX3_isRead (rp_rcO sh4 rfl) rfl (Nat.le_of_ble_eq_true rfl) ⟨rfl, rfl, ⟨Nat.le_of_ble_eq_true rfl, Nat.le_of_ble_eq_true rfl⟩, Nat.zero_le _, Nat.zero_le _⟩ rfl (Nat.le_of_ble_eq_true rfl) dX6_dark_26 (fun x2 hx2 => ?_)
      refine rp_if_ne (tgt := 35) dX6_dark_29 (by decide) ?_ ?_
      · refine rp_mask [true, true, true] (vs2 := [some (.ref (E.2.2.2.1 0)), some (.int v1), some (.int v2)]) rfl rfl ?_
        exact rX6_dark_35 (fun σ v1 v2 => fX6_dark_15 n σ v1 v2) (fun σ v1 v2 => ih σ v1 v2) σ v1 v2
      · refine rp_iinc (x := v1) dX6_dark_32 rfl (by decide) rfl ?_
        refine rp_mask [true, true, true] (vs2 := [some (.ref (E.2.2.2.1 0)), some (.int (v1 + (rI 1))), some (.int v2)]) rfl rfl ?_
        exact rX6_dark_35 (fun σ v1 v2 => fX6_dark_15 n σ v1 v2) (fun σ v1 v2 => ih σ v1 v2) σ (v1 + (rI 1)) v2
def fX6_dark (σ : rp_S)  : Option (Int32 × rp_S) :=
  ((fX3_begin σ 1).bind fun σ1 =>
    (fX6_dark_15 1000 σ1 (rI 0) (rI 0)))
set_option maxRecDepth 100000 in
theorem rX6_dark {E : rp_E} (σ : rp_S)    : rp_R E (rp_mK E rmX6_dark) mX6_dark 0 [some (.ref (E.2.2.2.1 0)), none, none] [] σ rp_hI (fX6_dark σ) := by
  rw [fX6_dark]
  refine rp_aload_n (x := (E.2.2.2.1 0)) dX6_dark_0 rfl ?_
  refine rp_getR (k := 1) (b := 4) sh0 rfl fdX6_19 dX6_dark_1 ?_
  refine rp_aload_n (x := (E.2.2.2.1 0)) dX6_dark_4 rfl ?_
  refine rp_getR (k := 0) (b := 1) sh0 rfl fdX6_10 dX6_dark_5 ?_
  refine rp_callV_hv (As := [.ref (E.2.2.2.1 1)]) (rest := []) (b := (E.2.2.2.1 4)) (rX3_begin σ 1 ni1) cbX3_begin lkX6_104 viX3_begin (rp_rcO sh4 rfl) rfl (Nat.le_of_ble_eq_true rfl) ⟨rfl, rfl, ⟨Nat.le_of_ble_eq_true rfl, Nat.le_of_ble_eq_true rfl⟩, Nat.zero_le _, Nat.zero_le _⟩ rfl (Nat.le_of_ble_eq_true rfl) dX6_dark_8 (fun σ1 hσ1 => ?_)
  refine rp_iconst dX6_dark_11 ?_
  refine rp_istore_n dX6_dark_12 (by decide) rfl ?_
  refine rp_iconst dX6_dark_13 ?_
  refine rp_istore_n dX6_dark_14 (by decide) rfl ?_
  refine rp_mask [true, true, true] (vs2 := [some (.ref (E.2.2.2.1 0)), some (.int (rI 0)), some (.int (rI 0))]) rfl rfl ?_
  exact rX6_dark_15 1000 σ1 (rI 0) (rI 0)
/-! RocketPrintModel.dark()I -/
abbrev rmX7_dark : Room := { frames := 4, cells := 0, slots := 0, locals := 101 }
def fX7_dark (σ : rp_S)  : Option (Int32 × rp_S) :=
  ((fX7_nightOn σ (rI 0)).bind fun σ1 =>
    (some ((σ1 28 17), σ1)))
set_option maxRecDepth 100000 in
theorem rX7_dark {E : rp_E} (σ : rp_S)    : rp_R E (rp_mK E rmX7_dark) mX7_dark 0 [some (.ref (E.2.2.2.1 28))] [] σ rp_hI (fX7_dark σ) := by
  rw [fX7_dark]
  refine rp_aload_n (x := (E.2.2.2.1 28)) dX7_dark_0 rfl ?_
  refine rp_iconst dX7_dark_1 ?_
  refine rp_callV_hv (As := [.int (rI 0)]) (rest := []) (b := (E.2.2.2.1 28)) (rX7_nightOn σ (rI 0)) cbX7_nightOn lkX7_165 viX7_nightOn (rp_rcO sh28 rfl) rfl (Nat.le_of_ble_eq_true rfl) ⟨rfl, rfl, ⟨Nat.le_of_ble_eq_true rfl, Nat.le_of_ble_eq_true rfl⟩, Nat.zero_le _, Nat.zero_le _⟩ rfl (Nat.le_of_ble_eq_true rfl) dX7_dark_2 (fun σ1 hσ1 => ?_)
  refine rp_aload_n (x := (E.2.2.2.1 28)) dX7_dark_5 rfl ?_
  refine rp_getI (k := 17) sh28 rfl fdX7_152 dX7_dark_6 ?_
  exact rp_iret rfl rfl dX7_dark_9
/-! RocketPrint$Best.beginAbove(I)V -/
abbrev rmX0_beginAbove : Room := { frames := 0, cells := 0, slots := 0, locals := 0 }
def fX0_beginAbove (σ : rp_S) (v1 : Int32) : Option (rp_S) :=
  ((some (rp_up σ 12 0 (rI (-4)))).bind fun σ1 =>
    ((some (rp_up σ1 12 1 v1)).bind fun σ2 =>
    (some σ2)))
set_option maxRecDepth 100000 in
theorem rX0_beginAbove {E : rp_E} (σ : rp_S) (v1 : Int32)   : rp_R E (rp_mK E rmX0_beginAbove) mX0_beginAbove 0 [some (.ref (E.2.2.2.1 12)), some (.int v1)] [] σ rp_hv (fX0_beginAbove σ v1) := by
  rw [fX0_beginAbove]
  refine rp_aload_n (x := (E.2.2.2.1 12)) dX0_beginAbove_0 rfl ?_
  refine rp_bipush dX0_beginAbove_1 (by decide) ?_
  refine rp_putB (k := 0) sh12 rfl fpX0_9 (vp_nar_int _) rfl dX0_beginAbove_3 (fun σ1 => ?_)
  refine rp_aload_n (x := (E.2.2.2.1 12)) dX0_beginAbove_6 rfl ?_
  refine rp_iload_n (x := v1) dX0_beginAbove_7 rfl ?_
  refine rp_putB (k := 1) sh12 rfl fpX0_15 (vp_nar_int _) rfl dX0_beginAbove_8 (fun σ2 => ?_)
  exact rp_vret rfl rfl dX0_beginAbove_11
/-! RocketPrint$Show.lookersAt(II)I -/
abbrev rmX3_lookersAt : Room := { frames := 3, cells := 0, slots := 0, locals := 72 }
def fX3_lookersAt_31 (σ : rp_S) (k5 : Int32 → Int32 → Int32 → Int32 → Option (Int32)) (v1 : Int32) (v2 : Int32) (v3 : Int32) (v4 : Int32) : Option (Int32) :=
  (k5 v1 v2 v3 (v4 + (rI 1)))
set_option maxRecDepth 100000 in
theorem rX3_lookersAt_31 {E : rp_E} (σ : rp_S) (k5 : Int32 → Int32 → Int32 → Int32 → Option (Int32)) (hk5 : ∀ (v1 : Int32) (v2 : Int32) (v3 : Int32) (v4 : Int32), rp_R E (rp_mK E rmX3_lookersAt) mX3_lookersAt 5 [some (.ref (E.2.2.2.1 4)), some (.int v1), some (.int v2), some (.int v3), some (.int v4)] [] σ (rp_hi σ) (k5 v1 v2 v3 v4)) (v1 : Int32) (v2 : Int32) (v3 : Int32) (v4 : Int32) : rp_R E (rp_mK E rmX3_lookersAt) mX3_lookersAt 31 [some (.ref (E.2.2.2.1 4)), some (.int v1), some (.int v2), some (.int v3), some (.int v4)] [] σ (rp_hi σ) (fX3_lookersAt_31 σ k5 v1 v2 v3 v4) := by
  rw [fX3_lookersAt_31]
  refine rp_iinc (x := v4) dX3_lookersAt_31 rfl (by decide) rfl ?_
  refine rp_goto (tgt := 5) dX3_lookersAt_34 (by decide) ?_
  refine rp_mask [true, true, true, true, true] (vs2 := [some (.ref (E.2.2.2.1 4)), some (.int v1), some (.int v2), some (.int v3), some (.int (v4 + (rI 1)))]) rfl rfl ?_
  exact hk5 v1 v2 v3 (v4 + (rI 1))
def fX3_lookersAt_5 (σ : rp_S) : Nat → Int32 → Int32 → Int32 → Int32 → Option (Int32)
  | 0, _, _, _, _ => none
  | n + 1, v1, v2, v3, v4 =>
    (if (σ 5 3) ≤ v4 then
    (some v3)
  else
    ((fX3_lookedAt σ v4 v2).bind fun x1 =>
    (if x1 = v1 then
    (fX3_lookersAt_31 σ (fun v1 v2 v3 v4 => fX3_lookersAt_5 σ n v1 v2 v3 v4) v1 v2 (v3 + (rI 1)) v4)
  else
    (fX3_lookersAt_31 σ (fun v1 v2 v3 v4 => fX3_lookersAt_5 σ n v1 v2 v3 v4) v1 v2 v3 v4))))
set_option maxRecDepth 100000 in
theorem rX3_lookersAt_5 {E : rp_E} (σ : rp_S) : ∀ (n : Nat) (v1 : Int32) (v2 : Int32) (v3 : Int32) (v4 : Int32), rp_R E (rp_mK E rmX3_lookersAt) mX3_lookersAt 5 [some (.ref (E.2.2.2.1 4)), some (.int v1), some (.int v2), some (.int v3), some (.int v4)] [] σ (rp_hi σ) (fX3_lookersAt_5 σ n v1 v2 v3 v4) := by
  intro n
  induction n with
  | zero =>
    intro v1 v2 v3 v4
    rw [fX3_lookersAt_5]
    exact rp_none
  | succ n ih =>
    intro v1 v2 v3 v4
    rw [fX3_lookersAt_5]
    refine rp_iload (x := v4) dX3_lookersAt_5 rfl ?_
    refine rp_aload_n (x := (E.2.2.2.1 4)) dX3_lookersAt_7 rfl ?_
    refine rp_getR (k := 0) (b := 5) sh4 rfl fdX3_12 dX3_lookersAt_8 ?_
    refine rp_getI (k := 3) sh5 rfl fdX3_78 dX3_lookersAt_11 ?_
    refine rp_icmp_ge (tgt := 37) dX3_lookersAt_14 (by decide) ?_ ?_
    · refine rp_iload_n (x := v3) dX3_lookersAt_37 rfl ?_
      exact rp_iret rfl rfl dX3_lookersAt_38
    · refine rp_aload_n (x := (E.2.2.2.1 4)) dX3_lookersAt_17 rfl ?_
      refine rp_iload (x := v4) dX3_lookersAt_18 rfl ?_
      refine rp_iload_n (x := v2) dX3_lookersAt_20 rfl ?_
      refine rp_callV_hi (As := [.int v4, .int v2]) (rest := []) (b := (E.2.2.2.1 4)) (rX3_lookedAt σ v4 v2) cbX3_lookedAt lkX3_81 viX3_lookedAt (rp_rcO sh4 rfl) rfl (Nat.le_of_ble_eq_true rfl) ⟨rfl, rfl, ⟨Nat.le_of_ble_eq_true rfl, Nat.le_of_ble_eq_true rfl⟩, Nat.zero_le _, Nat.zero_le _⟩ rfl (Nat.le_of_ble_eq_true rfl) dX3_lookersAt_21 (fun x1 hx1 => ?_)
      refine rp_iload_n (x := v1) dX3_lookersAt_24 rfl ?_
      refine rp_icmp_ne (tgt := 31) dX3_lookersAt_25 (by decide) ?_ ?_
      · refine rp_mask [true, true, true, true, true] (vs2 := [some (.ref (E.2.2.2.1 4)), some (.int v1), some (.int v2), some (.int v3), some (.int v4)]) rfl rfl ?_
        exact rX3_lookersAt_31 σ (fun v1 v2 v3 v4 => fX3_lookersAt_5 σ n v1 v2 v3 v4) (fun v1 v2 v3 v4 => ih v1 v2 v3 v4) v1 v2 v3 v4
      · refine rp_iinc (x := v3) dX3_lookersAt_28 rfl (by decide) rfl ?_
        refine rp_mask [true, true, true, true, true] (vs2 := [some (.ref (E.2.2.2.1 4)), some (.int v1), some (.int v2), some (.int (v3 + (rI 1))), some (.int v4)]) rfl rfl ?_
        exact rX3_lookersAt_31 σ (fun v1 v2 v3 v4 => fX3_lookersAt_5 σ n v1 v2 v3 v4) (fun v1 v2 v3 v4 => ih v1 v2 v3 v4) v1 v2 (v3 + (rI 1)) v4
def fX3_lookersAt (σ : rp_S) (v1 : Int32) (v2 : Int32) : Option (Int32) :=
  (fX3_lookersAt_5 σ 1000 v1 v2 (rI 0) (rI 0))
set_option maxRecDepth 100000 in
theorem rX3_lookersAt {E : rp_E} (σ : rp_S) (v1 : Int32) (v2 : Int32)   : rp_R E (rp_mK E rmX3_lookersAt) mX3_lookersAt 0 [some (.ref (E.2.2.2.1 4)), some (.int v1), some (.int v2), none, none] [] σ (rp_hi σ) (fX3_lookersAt σ v1 v2) := by
  rw [fX3_lookersAt]
  refine rp_iconst dX3_lookersAt_0 ?_
  refine rp_istore_n dX3_lookersAt_1 (by decide) rfl ?_
  refine rp_iconst dX3_lookersAt_2 ?_
  refine rp_istore dX3_lookersAt_3 (by decide) rfl ?_
  refine rp_mask [true, true, true, true, true] (vs2 := [some (.ref (E.2.2.2.1 4)), some (.int v1), some (.int v2), some (.int (rI 0)), some (.int (rI 0))]) rfl rfl ?_
  exact rX3_lookersAt_5 σ 1000 v1 v2 (rI 0) (rI 0)
/-! RocketPrint$Best.offer(II)V -/
abbrev rmX0_offer : Room := { frames := 0, cells := 0, slots := 0, locals := 0 }
def fX0_offer (σ : rp_S) (v1 : Int32) (v2 : Int32) : Option (rp_S) :=
  (if v2 ≤ (σ 12 1) then
    (some σ)
  else
    ((some (rp_up σ 12 0 v1)).bind fun σ1 =>
    ((some (rp_up σ1 12 1 v2)).bind fun σ2 =>
    (some σ2))))
set_option maxRecDepth 100000 in
theorem rX0_offer {E : rp_E} (σ : rp_S) (v1 : Int32) (v2 : Int32)   : rp_R E (rp_mK E rmX0_offer) mX0_offer 0 [some (.ref (E.2.2.2.1 12)), some (.int v1), some (.int v2)] [] σ rp_hv (fX0_offer σ v1 v2) := by
  rw [fX0_offer]
  refine rp_iload_n (x := v2) dX0_offer_0 rfl ?_
  refine rp_aload_n (x := (E.2.2.2.1 12)) dX0_offer_1 rfl ?_
  refine rp_getI (k := 1) sh12 rfl fdX0_15 dX0_offer_2 ?_
  refine rp_icmp_le (tgt := 18) dX0_offer_5 (by decide) ?_ ?_
  · exact rp_vret rfl rfl dX0_offer_18
  · refine rp_aload_n (x := (E.2.2.2.1 12)) dX0_offer_8 rfl ?_
    refine rp_iload_n (x := v1) dX0_offer_9 rfl ?_
    refine rp_putB (k := 0) sh12 rfl fpX0_9 (vp_nar_int _) rfl dX0_offer_10 (fun σ1 => ?_)
    refine rp_aload_n (x := (E.2.2.2.1 12)) dX0_offer_13 rfl ?_
    refine rp_iload_n (x := v2) dX0_offer_14 rfl ?_
    refine rp_putB (k := 1) sh12 rfl fpX0_15 (vp_nar_int _) rfl dX0_offer_15 (fun σ2 => ?_)
    exact rp_vret rfl rfl dX0_offer_18
/-! RocketPrint$Best.answer(I)I -/
abbrev rmX0_answer : Room := { frames := 0, cells := 0, slots := 0, locals := 0 }
def fX0_answer_11 (σ : rp_S) : Option (Int32) :=
  (some (σ 12 0))
set_option maxRecDepth 100000 in
theorem rX0_answer_11 {E : rp_E} (σ : rp_S) : rp_R E (rp_mK E rmX0_answer) mX0_answer 11 [some (.ref (E.2.2.2.1 12)), none] [] σ (rp_hi σ) (fX0_answer_11 σ) := by
  rw [fX0_answer_11]
  refine rp_aload_n (x := (E.2.2.2.1 12)) dX0_answer_11 rfl ?_
  refine rp_getI (k := 0) sh12 rfl fdX0_9 dX0_answer_12 ?_
  refine rp_goto (tgt := 22) dX0_answer_15 (by decide) ?_
  exact rp_iret rfl rfl dX0_answer_22
def fX0_answer (σ : rp_S) (v1 : Int32) : Option (Int32) :=
  (if (σ 12 0) < 0 then
    (fX0_answer_11 σ)
  else
    (if v1 = 0 then
    (fX0_answer_11 σ)
  else
    (some (σ 12 1))))
set_option maxRecDepth 100000 in
theorem rX0_answer {E : rp_E} (σ : rp_S) (v1 : Int32)   : rp_R E (rp_mK E rmX0_answer) mX0_answer 0 [some (.ref (E.2.2.2.1 12)), some (.int v1)] [] σ (rp_hi σ) (fX0_answer σ v1) := by
  rw [fX0_answer]
  refine rp_aload_n (x := (E.2.2.2.1 12)) dX0_answer_0 rfl ?_
  refine rp_getI (k := 0) sh12 rfl fdX0_9 dX0_answer_1 ?_
  refine rp_if_lt (tgt := 11) dX0_answer_4 (by decide) ?_ ?_
  · refine rp_mask [true, false] (vs2 := [some (.ref (E.2.2.2.1 12)), none]) rfl rfl ?_
    exact rX0_answer_11 σ
  · refine rp_iload_n (x := v1) dX0_answer_7 rfl ?_
    refine rp_if_ne (tgt := 18) dX0_answer_8 (by decide) ?_ ?_
    · refine rp_aload_n (x := (E.2.2.2.1 12)) dX0_answer_18 rfl ?_
      refine rp_getI (k := 1) sh12 rfl fdX0_15 dX0_answer_19 ?_
      exact rp_iret rfl rfl dX0_answer_22
    · refine rp_mask [true, false] (vs2 := [some (.ref (E.2.2.2.1 12)), none]) rfl rfl ?_
      exact rX0_answer_11 σ
/-! RocketPrint.peak(II)I -/
abbrev rmX6_peak : Room := { frames := 5, cells := 0, slots := 0, locals := 104 }
def fX6_peak_43  : Nat → rp_S → Int32 → Int32 → Int32 → Option (Int32 × rp_S)
  | 0, _, _, _, _ => none
  | n + 1, σ, v1, v2, v3 =>
    (if (rI 80) ≤ v3 then
    ((fX0_answer σ v2).bind fun x5 =>
    (some (x5, σ)))
  else
    ((fX3_lookersAt σ v1 v3).bind fun x6 =>
    ((fX0_offer σ v3 x6).bind fun σ7 =>
    (fX6_peak_43 n σ7 v1 v2 (v3 + (rI 1))))))
set_option maxRecDepth 100000 in
theorem rX6_peak_43 {E : rp_E}  : ∀ (n : Nat) (σ : rp_S) (v1 : Int32) (v2 : Int32) (v3 : Int32), rp_R E (rp_mK E rmX6_peak) mX6_peak 43 [some (.ref (E.2.2.2.1 0)), some (.int v1), some (.int v2), some (.int v3)] [] σ rp_hI (fX6_peak_43 n σ v1 v2 v3) := by
  intro n
  induction n with
  | zero =>
    intro σ v1 v2 v3
    rw [fX6_peak_43]
    exact rp_none
  | succ n ih =>
    intro σ v1 v2 v3
    rw [fX6_peak_43]
    refine rp_iload_n (x := v3) dX6_peak_43 rfl ?_
    refine rp_bipush dX6_peak_44 (by decide) ?_
    refine rp_icmp_ge (tgt := 72) dX6_peak_46 (by decide) ?_ ?_
    · refine rp_aload_n (x := (E.2.2.2.1 0)) dX6_peak_72 rfl ?_
      refine rp_getR (k := 2) (b := 12) sh0 rfl fdX6_26 dX6_peak_73 ?_
      refine rp_iload_n (x := v2) dX6_peak_76 rfl ?_
      refine rp_callV_hi (As := [.int v2]) (rest := []) (b := (E.2.2.2.1 12)) (rX0_answer σ v2) cbX0_answer lkX6_194 viX0_answer (rp_rcO sh12 rfl) rfl (Nat.le_of_ble_eq_true rfl) ⟨rfl, rfl, ⟨Nat.le_of_ble_eq_true rfl, Nat.le_of_ble_eq_true rfl⟩, Nat.zero_le _, Nat.zero_le _⟩ rfl (Nat.le_of_ble_eq_true rfl) dX6_peak_77 (fun x5 hx5 => ?_)
      exact rp_iret rfl rfl dX6_peak_80
    · refine rp_aload_n (x := (E.2.2.2.1 0)) dX6_peak_49 rfl ?_
      refine rp_getR (k := 2) (b := 12) sh0 rfl fdX6_26 dX6_peak_50 ?_
      refine rp_iload_n (x := v3) dX6_peak_53 rfl ?_
      refine rp_aload_n (x := (E.2.2.2.1 0)) dX6_peak_54 rfl ?_
      refine rp_getR (k := 1) (b := 4) sh0 rfl fdX6_19 dX6_peak_55 ?_
      refine rp_iload_n (x := v1) dX6_peak_58 rfl ?_
      refine rp_iload_n (x := v3) dX6_peak_59 rfl ?_
      refine rp_callV_hi (As := [.int v1, .int v3]) (rest := [.int v3, .ref (E.2.2.2.1 12)]) (b := (E.2.2.2.1 4)) (rX3_lookersAt σ v1 v3) cbX3_lookersAt lkX6_187 viX3_lookersAt (rp_rcO sh4 rfl) rfl (Nat.le_of_ble_eq_true rfl) ⟨rfl, rfl, ⟨Nat.le_of_ble_eq_true rfl, Nat.le_of_ble_eq_true rfl⟩, Nat.zero_le _, Nat.zero_le _⟩ rfl (Nat.le_of_ble_eq_true rfl) dX6_peak_60 (fun x6 hx6 => ?_)
      refine rp_callV_hv (As := [.int v3, .int x6]) (rest := []) (b := (E.2.2.2.1 12)) (rX0_offer σ v3 x6) cbX0_offer lkX6_190 viX0_offer (rp_rcO sh12 rfl) rfl (Nat.le_of_ble_eq_true rfl) ⟨rfl, rfl, ⟨Nat.le_of_ble_eq_true rfl, Nat.le_of_ble_eq_true rfl⟩, Nat.zero_le _, Nat.zero_le _⟩ rfl (Nat.le_of_ble_eq_true rfl) dX6_peak_63 (fun σ7 hσ7 => ?_)
      refine rp_iinc (x := v3) dX6_peak_66 rfl (by decide) rfl ?_
      refine rp_goto (tgt := 43) dX6_peak_69 (by decide) ?_
      refine rp_mask [true, true, true, true] (vs2 := [some (.ref (E.2.2.2.1 0)), some (.int v1), some (.int v2), some (.int (v3 + (rI 1)))]) rfl rfl ?_
      exact ih σ7 v1 v2 (v3 + (rI 1))
def fX6_peak (σ : rp_S) (v1 : Int32) (v2 : Int32) : Option (Int32 × rp_S) :=
  ((fX1_hasWork σ 1 v1).bind fun x1 =>
    (if x1 = 0 then
    (some ((rI (-1)), σ))
  else
    ((fX6_within v2 (rI 0) (rI 1)).bind fun x2 =>
    (if x2 = 0 then
    (some ((rI (-1)), σ))
  else
    ((fX3_begin σ 1).bind fun σ3 =>
    ((fX0_beginAbove σ3 (rI 0)).bind fun σ4 =>
    (fX6_peak_43 1000 σ4 v1 v2 (rI 0))))))))
set_option maxRecDepth 100000 in
theorem rX6_peak {E : rp_E} (σ : rp_S) (v1 : Int32) (v2 : Int32)   : rp_R E (rp_mK E rmX6_peak) mX6_peak 0 [some (.ref (E.2.2.2.1 0)), some (.int v1), some (.int v2), none] [] σ rp_hI (fX6_peak σ v1 v2) := by
  rw [fX6_peak]
  refine rp_aload_n (x := (E.2.2.2.1 0)) dX6_peak_0 rfl ?_
  refine rp_getR (k := 0) (b := 1) sh0 rfl fdX6_10 dX6_peak_1 ?_
  refine rp_iload_n (x := v1) dX6_peak_4 rfl ?_
  refine rp_callV_hi (As := [.int v1]) (rest := []) (b := (E.2.2.2.1 1)) (rX1_hasWork σ 1 v1 ni1) cbX1_hasWork lkX6_114 viX1_hasWork (rp_rcO sh1 rfl) rfl (Nat.le_of_ble_eq_true rfl) ⟨rfl, rfl, ⟨Nat.le_of_ble_eq_true rfl, Nat.le_of_ble_eq_true rfl⟩, Nat.zero_le _, Nat.zero_le _⟩ rfl (Nat.le_of_ble_eq_true rfl) dX6_peak_5 (fun x1 hx1 => ?_)
  refine rp_if_eq (tgt := 20) dX6_peak_8 (by decide) ?_ ?_
  · refine rp_iconst dX6_peak_20 ?_
    exact rp_iret rfl rfl dX6_peak_21
  · refine rp_iload_n (x := v2) dX6_peak_11 rfl ?_
    refine rp_iconst dX6_peak_12 ?_
    refine rp_iconst dX6_peak_13 ?_
    refine rp_callS_hi (As := [.int v2, .int (rI 0), .int (rI 1)]) (rest := []) (rX6_within σ v2 (rI 0) (rI 1)) cbX6_within lkX6_57 stX6_within rfl (Nat.le_of_ble_eq_true rfl) ⟨rfl, rfl, ⟨Nat.le_of_ble_eq_true rfl, Nat.le_of_ble_eq_true rfl⟩, Nat.zero_le _, Nat.zero_le _⟩ rfl (Nat.le_of_ble_eq_true rfl) dX6_peak_14 (fun x2 hx2 => ?_)
    refine rp_if_ne (tgt := 22) dX6_peak_17 (by decide) ?_ ?_
    · refine rp_aload_n (x := (E.2.2.2.1 0)) dX6_peak_22 rfl ?_
      refine rp_getR (k := 1) (b := 4) sh0 rfl fdX6_19 dX6_peak_23 ?_
      refine rp_aload_n (x := (E.2.2.2.1 0)) dX6_peak_26 rfl ?_
      refine rp_getR (k := 0) (b := 1) sh0 rfl fdX6_10 dX6_peak_27 ?_
      refine rp_callV_hv (As := [.ref (E.2.2.2.1 1)]) (rest := []) (b := (E.2.2.2.1 4)) (rX3_begin σ 1 ni1) cbX3_begin lkX6_104 viX3_begin (rp_rcO sh4 rfl) rfl (Nat.le_of_ble_eq_true rfl) ⟨rfl, rfl, ⟨Nat.le_of_ble_eq_true rfl, Nat.le_of_ble_eq_true rfl⟩, Nat.zero_le _, Nat.zero_le _⟩ rfl (Nat.le_of_ble_eq_true rfl) dX6_peak_30 (fun σ3 hσ3 => ?_)
      refine rp_aload_n (x := (E.2.2.2.1 0)) dX6_peak_33 rfl ?_
      refine rp_getR (k := 2) (b := 12) sh0 rfl fdX6_26 dX6_peak_34 ?_
      refine rp_iconst dX6_peak_37 ?_
      refine rp_callV_hv (As := [.int (rI 0)]) (rest := []) (b := (E.2.2.2.1 12)) (rX0_beginAbove σ3 (rI 0)) cbX0_beginAbove lkX6_183 viX0_beginAbove (rp_rcO sh12 rfl) rfl (Nat.le_of_ble_eq_true rfl) ⟨rfl, rfl, ⟨Nat.le_of_ble_eq_true rfl, Nat.le_of_ble_eq_true rfl⟩, Nat.zero_le _, Nat.zero_le _⟩ rfl (Nat.le_of_ble_eq_true rfl) dX6_peak_38 (fun σ4 hσ4 => ?_)
      refine rp_iconst dX6_peak_41 ?_
      refine rp_istore_n dX6_peak_42 (by decide) rfl ?_
      refine rp_mask [true, true, true, true] (vs2 := [some (.ref (E.2.2.2.1 0)), some (.int v1), some (.int v2), some (.int (rI 0))]) rfl rfl ?_
      exact rX6_peak_43 1000 σ4 v1 v2 (rI 0)
    · refine rp_iconst dX6_peak_20 ?_
      exact rp_iret rfl rfl dX6_peak_21
/-! RocketPrintModel.peak(II)I -/
abbrev rmX7_peak : Room := { frames := 3, cells := 0, slots := 0, locals := 76 }
def fX7_peak_110 (σ : rp_S) (k29 : Int32 → Int32 → Int32 → Int32 → Int32 → Option (Int32)) (v1 : Int32) (v2 : Int32) (v4 : Int32) (v5 : Int32) (s0 : Int32) : Option (Int32) :=
  (k29 v1 v2 s0 v4 (v5 + (rI 1)))
set_option maxRecDepth 100000 in
theorem rX7_peak_110 {E : rp_E} (σ : rp_S) (k29 : Int32 → Int32 → Int32 → Int32 → Int32 → Option (Int32)) (hk29 : ∀ (v1 : Int32) (v2 : Int32) (v3 : Int32) (v4 : Int32) (v5 : Int32), rp_R E (rp_mK E rmX7_peak) mX7_peak 29 [some (.ref (E.2.2.2.1 28)), some (.int v1), some (.int v2), some (.int v3), some (.int v4), some (.int v5), none, none] [] σ (rp_hi σ) (k29 v1 v2 v3 v4 v5)) (v1 : Int32) (v2 : Int32) (v4 : Int32) (v5 : Int32) (s0 : Int32) : rp_R E (rp_mK E rmX7_peak) mX7_peak 110 [some (.ref (E.2.2.2.1 28)), some (.int v1), some (.int v2), none, some (.int v4), some (.int v5), none, none] [.int s0] σ (rp_hi σ) (fX7_peak_110 σ k29 v1 v2 v4 v5 s0) := by
  rw [fX7_peak_110]
  refine rp_istore_n dX7_peak_110 (by decide) rfl ?_
  refine rp_iinc (x := v5) dX7_peak_111 rfl (by decide) rfl ?_
  refine rp_goto (tgt := 29) dX7_peak_114 (by decide) ?_
  refine rp_mask [true, true, true, true, true, true, false, false] (vs2 := [some (.ref (E.2.2.2.1 28)), some (.int v1), some (.int v2), some (.int s0), some (.int v4), some (.int (v5 + (rI 1))), none, none]) rfl rfl ?_
  exact hk29 v1 v2 s0 v4 (v5 + (rI 1))
def fX7_peak_96 (σ : rp_S) (k29 : Int32 → Int32 → Int32 → Int32 → Int32 → Option (Int32)) (v1 : Int32) (v2 : Int32) (v3 : Int32) (v5 : Int32) (v6 : Int32) (s0 : Int32) : Option (Int32) :=
  (if v6 ≤ v3 then
    (fX7_peak_110 σ k29 v1 v2 s0 v5 v3)
  else
    (fX7_peak_110 σ k29 v1 v2 s0 v5 v6))
set_option maxRecDepth 100000 in
theorem rX7_peak_96 {E : rp_E} (σ : rp_S) (k29 : Int32 → Int32 → Int32 → Int32 → Int32 → Option (Int32)) (hk29 : ∀ (v1 : Int32) (v2 : Int32) (v3 : Int32) (v4 : Int32) (v5 : Int32), rp_R E (rp_mK E rmX7_peak) mX7_peak 29 [some (.ref (E.2.2.2.1 28)), some (.int v1), some (.int v2), some (.int v3), some (.int v4), some (.int v5), none, none] [] σ (rp_hi σ) (k29 v1 v2 v3 v4 v5)) (v1 : Int32) (v2 : Int32) (v3 : Int32) (v5 : Int32) (v6 : Int32) (s0 : Int32) : rp_R E (rp_mK E rmX7_peak) mX7_peak 96 [some (.ref (E.2.2.2.1 28)), some (.int v1), some (.int v2), some (.int v3), none, some (.int v5), some (.int v6), none] [.int s0] σ (rp_hi σ) (fX7_peak_96 σ k29 v1 v2 v3 v5 v6 s0) := by
  rw [fX7_peak_96]
  refine rp_istore dX7_peak_96 (by decide) rfl ?_
  refine rp_iload (x := v6) dX7_peak_98 rfl ?_
  refine rp_iload_n (x := v3) dX7_peak_100 rfl ?_
  refine rp_icmp_le (tgt := 109) dX7_peak_101 (by decide) ?_ ?_
  · refine rp_iload_n (x := v3) dX7_peak_109 rfl ?_
    refine rp_mask [true, true, true, false, true, true, false, false] (vs2 := [some (.ref (E.2.2.2.1 28)), some (.int v1), some (.int v2), none, some (.int s0), some (.int v5), none, none]) rfl rfl ?_
    exact rX7_peak_110 σ k29 hk29 v1 v2 s0 v5 v3
  · refine rp_iload (x := v6) dX7_peak_104 rfl ?_
    refine rp_goto (tgt := 110) dX7_peak_106 (by decide) ?_
    refine rp_mask [true, true, true, false, true, true, false, false] (vs2 := [some (.ref (E.2.2.2.1 28)), some (.int v1), some (.int v2), none, some (.int s0), some (.int v5), none, none]) rfl rfl ?_
    exact rX7_peak_110 σ k29 hk29 v1 v2 s0 v5 v6
def fX7_peak_74 (σ : rp_S) (k29 : Int32 → Int32 → Int32 → Int32 → Int32 → Option (Int32)) (k42 : Int32 → Int32 → Int32 → Int32 → Int32 → Int32 → Int32 → Option (Int32)) (v1 : Int32) (v2 : Int32) (v3 : Int32) (v4 : Int32) (v5 : Int32) (v7 : Int32) (s0 : Int32) (s1 : Int32) : Option (Int32) :=
  (k42 v1 v2 v3 v4 v5 (s1 + s0) (v7 + (rI 1)))
set_option maxRecDepth 100000 in
theorem rX7_peak_74 {E : rp_E} (σ : rp_S) (k29 : Int32 → Int32 → Int32 → Int32 → Int32 → Option (Int32)) (hk29 : ∀ (v1 : Int32) (v2 : Int32) (v3 : Int32) (v4 : Int32) (v5 : Int32), rp_R E (rp_mK E rmX7_peak) mX7_peak 29 [some (.ref (E.2.2.2.1 28)), some (.int v1), some (.int v2), some (.int v3), some (.int v4), some (.int v5), none, none] [] σ (rp_hi σ) (k29 v1 v2 v3 v4 v5)) (k42 : Int32 → Int32 → Int32 → Int32 → Int32 → Int32 → Int32 → Option (Int32)) (hk42 : ∀ (v1 : Int32) (v2 : Int32) (v3 : Int32) (v4 : Int32) (v5 : Int32) (v6 : Int32) (v7 : Int32), rp_R E (rp_mK E rmX7_peak) mX7_peak 42 [some (.ref (E.2.2.2.1 28)), some (.int v1), some (.int v2), some (.int v3), some (.int v4), some (.int v5), some (.int v6), some (.int v7)] [] σ (rp_hi σ) (k42 v1 v2 v3 v4 v5 v6 v7)) (v1 : Int32) (v2 : Int32) (v3 : Int32) (v4 : Int32) (v5 : Int32) (v7 : Int32) (s0 : Int32) (s1 : Int32) : rp_R E (rp_mK E rmX7_peak) mX7_peak 74 [some (.ref (E.2.2.2.1 28)), some (.int v1), some (.int v2), some (.int v3), some (.int v4), some (.int v5), none, some (.int v7)] [.int s0, .int s1] σ (rp_hi σ) (fX7_peak_74 σ k29 k42 v1 v2 v3 v4 v5 v7 s0 s1) := by
  rw [fX7_peak_74]
  refine rp_iadd dX7_peak_74 ?_
  refine rp_istore dX7_peak_75 (by decide) rfl ?_
  refine rp_iinc (x := v7) dX7_peak_77 rfl (by decide) rfl ?_
  refine rp_goto (tgt := 42) dX7_peak_80 (by decide) ?_
  refine rp_mask [true, true, true, true, true, true, true, true] (vs2 := [some (.ref (E.2.2.2.1 28)), some (.int v1), some (.int v2), some (.int v3), some (.int v4), some (.int v5), some (.int (s1 + s0)), some (.int (v7 + (rI 1)))]) rfl rfl ?_
  exact hk42 v1 v2 v3 v4 v5 (s1 + s0) (v7 + (rI 1))
def fX7_peak_42 (σ : rp_S) (k29 : Int32 → Int32 → Int32 → Int32 → Int32 → Option (Int32)) : Nat → Int32 → Int32 → Int32 → Int32 → Int32 → Int32 → Int32 → Option (Int32)
  | 0, _, _, _, _, _, _, _ => none
  | n + 1, v1, v2, v3, v4, v5, v6, v7 =>
    ((rq_rd σ 29 180 (rI 33)).bind fun x3 =>
    (if x3 ≤ v7 then
    (if v6 ≤ v3 then
    (fX7_peak_96 σ k29 v1 v2 v3 v5 v6 v4)
  else
    (fX7_peak_96 σ k29 v1 v2 v3 v5 v6 v5))
  else
    ((fX7_looksOn σ (rI 0) v7 v5).bind fun x4 =>
    (if x4 = v1 then
    (fX7_peak_74 σ k29 (fun v1 v2 v3 v4 v5 v6 v7 => fX7_peak_42 σ k29 n v1 v2 v3 v4 v5 v6 v7) v1 v2 v3 v4 v5 v7 (rI 1) v6)
  else
    (fX7_peak_74 σ k29 (fun v1 v2 v3 v4 v5 v6 v7 => fX7_peak_42 σ k29 n v1 v2 v3 v4 v5 v6 v7) v1 v2 v3 v4 v5 v7 (rI 0) v6)))))
set_option maxRecDepth 100000 in
theorem rX7_peak_42 {E : rp_E} (σ : rp_S) (k29 : Int32 → Int32 → Int32 → Int32 → Int32 → Option (Int32)) (hk29 : ∀ (v1 : Int32) (v2 : Int32) (v3 : Int32) (v4 : Int32) (v5 : Int32), rp_R E (rp_mK E rmX7_peak) mX7_peak 29 [some (.ref (E.2.2.2.1 28)), some (.int v1), some (.int v2), some (.int v3), some (.int v4), some (.int v5), none, none] [] σ (rp_hi σ) (k29 v1 v2 v3 v4 v5)) : ∀ (n : Nat) (v1 : Int32) (v2 : Int32) (v3 : Int32) (v4 : Int32) (v5 : Int32) (v6 : Int32) (v7 : Int32), rp_R E (rp_mK E rmX7_peak) mX7_peak 42 [some (.ref (E.2.2.2.1 28)), some (.int v1), some (.int v2), some (.int v3), some (.int v4), some (.int v5), some (.int v6), some (.int v7)] [] σ (rp_hi σ) (fX7_peak_42 σ k29 n v1 v2 v3 v4 v5 v6 v7) := by
  intro n
  induction n with
  | zero =>
    intro v1 v2 v3 v4 v5 v6 v7
    rw [fX7_peak_42]
    exact rp_none
  | succ n ih =>
    intro v1 v2 v3 v4 v5 v6 v7
    rw [fX7_peak_42]
    refine rp_iload (x := v7) dX7_peak_42 rfl ?_
    refine rp_aload_n (x := (E.2.2.2.1 28)) dX7_peak_44 rfl ?_
    refine rp_getR (k := 0) (b := 29) sh28 rfl fdX7_7 dX7_peak_45 ?_
    refine rp_bipush dX7_peak_48 (by decide) ?_
    refine rp_iaload sh29 dX7_peak_50 (fun x3 => ?_)
    refine rp_icmp_ge (tgt := 83) dX7_peak_51 (by decide) ?_ ?_
    · refine rp_iload (x := v6) dX7_peak_83 rfl ?_
      refine rp_iload_n (x := v3) dX7_peak_85 rfl ?_
      refine rp_icmp_le (tgt := 94) dX7_peak_86 (by decide) ?_ ?_
      · refine rp_iload (x := v4) dX7_peak_94 rfl ?_
        refine rp_mask [true, true, true, true, false, true, true, false] (vs2 := [some (.ref (E.2.2.2.1 28)), some (.int v1), some (.int v2), some (.int v3), none, some (.int v5), some (.int v6), none]) rfl rfl ?_
        exact rX7_peak_96 σ k29 hk29 v1 v2 v3 v5 v6 v4
      · refine rp_iload (x := v5) dX7_peak_89 rfl ?_
        refine rp_goto (tgt := 96) dX7_peak_91 (by decide) ?_
        refine rp_mask [true, true, true, true, false, true, true, false] (vs2 := [some (.ref (E.2.2.2.1 28)), some (.int v1), some (.int v2), some (.int v3), none, some (.int v5), some (.int v6), none]) rfl rfl ?_
        exact rX7_peak_96 σ k29 hk29 v1 v2 v3 v5 v6 v5
    · refine rp_iload (x := v6) dX7_peak_54 rfl ?_
      refine rp_aload_n (x := (E.2.2.2.1 28)) dX7_peak_56 rfl ?_
      refine rp_iconst dX7_peak_57 ?_
      refine rp_iload (x := v7) dX7_peak_58 rfl ?_
      refine rp_iload (x := v5) dX7_peak_60 rfl ?_
      refine rp_callV_hi (As := [.int (rI 0), .int v7, .int v5]) (rest := [.int v6]) (b := (E.2.2.2.1 28)) (rX7_looksOn σ (rI 0) v7 v5) cbX7_looksOn lkX7_158 viX7_looksOn (rp_rcO sh28 rfl) rfl (Nat.le_of_ble_eq_true rfl) ⟨rfl, rfl, ⟨Nat.le_of_ble_eq_true rfl, Nat.le_of_ble_eq_true rfl⟩, Nat.zero_le _, Nat.zero_le _⟩ rfl (Nat.le_of_ble_eq_true rfl) dX7_peak_62 (fun x4 hx4 => ?_)
      refine rp_iload_n (x := v1) dX7_peak_65 rfl ?_
      refine rp_icmp_ne (tgt := 73) dX7_peak_66 (by decide) ?_ ?_
      · refine rp_iconst dX7_peak_73 ?_
        refine rp_mask [true, true, true, true, true, true, false, true] (vs2 := [some (.ref (E.2.2.2.1 28)), some (.int v1), some (.int v2), some (.int v3), some (.int v4), some (.int v5), none, some (.int v7)]) rfl rfl ?_
        exact rX7_peak_74 σ k29 hk29 (fun v1 v2 v3 v4 v5 v6 v7 => fX7_peak_42 σ k29 n v1 v2 v3 v4 v5 v6 v7) (fun v1 v2 v3 v4 v5 v6 v7 => ih v1 v2 v3 v4 v5 v6 v7) v1 v2 v3 v4 v5 v7 (rI 0) v6
      · refine rp_iconst dX7_peak_69 ?_
        refine rp_goto (tgt := 74) dX7_peak_70 (by decide) ?_
        refine rp_mask [true, true, true, true, true, true, false, true] (vs2 := [some (.ref (E.2.2.2.1 28)), some (.int v1), some (.int v2), some (.int v3), some (.int v4), some (.int v5), none, some (.int v7)]) rfl rfl ?_
        exact rX7_peak_74 σ k29 hk29 (fun v1 v2 v3 v4 v5 v6 v7 => fX7_peak_42 σ k29 n v1 v2 v3 v4 v5 v6 v7) (fun v1 v2 v3 v4 v5 v6 v7 => ih v1 v2 v3 v4 v5 v6 v7) v1 v2 v3 v4 v5 v7 (rI 1) v6
def fX7_peak_29 (σ : rp_S) : Nat → Int32 → Int32 → Int32 → Int32 → Int32 → Option (Int32)
  | 0, _, _, _, _, _ => none
  | n + 1, v1, v2, v3, v4, v5 =>
    (if (rI 80) ≤ v5 then
    (if v4 = (rI (-4)) then
    (some v4)
  else
    (if v2 = 0 then
    (some v4)
  else
    (some v3)))
  else
    (fX7_peak_42 σ (fun v1 v2 v3 v4 v5 => fX7_peak_29 σ n v1 v2 v3 v4 v5) 1000 v1 v2 v3 v4 v5 (rI 0) (rI 0)))
set_option maxRecDepth 100000 in
theorem rX7_peak_29 {E : rp_E} (σ : rp_S) : ∀ (n : Nat) (v1 : Int32) (v2 : Int32) (v3 : Int32) (v4 : Int32) (v5 : Int32), rp_R E (rp_mK E rmX7_peak) mX7_peak 29 [some (.ref (E.2.2.2.1 28)), some (.int v1), some (.int v2), some (.int v3), some (.int v4), some (.int v5), none, none] [] σ (rp_hi σ) (fX7_peak_29 σ n v1 v2 v3 v4 v5) := by
  intro n
  induction n with
  | zero =>
    intro v1 v2 v3 v4 v5
    rw [fX7_peak_29]
    exact rp_none
  | succ n ih =>
    intro v1 v2 v3 v4 v5
    rw [fX7_peak_29]
    refine rp_iload (x := v5) dX7_peak_29 rfl ?_
    refine rp_bipush dX7_peak_31 (by decide) ?_
    refine rp_icmp_ge (tgt := 117) dX7_peak_33 (by decide) ?_ ?_
    · refine rp_iload (x := v4) dX7_peak_117 rfl ?_
      refine rp_bipush dX7_peak_119 (by decide) ?_
      refine rp_icmp_eq (tgt := 128) dX7_peak_121 (by decide) ?_ ?_
      · refine rp_iload (x := v4) dX7_peak_128 rfl ?_
        refine rp_goto (tgt := 134) dX7_peak_130 (by decide) ?_
        exact rp_iret rfl rfl dX7_peak_134
      · refine rp_iload_n (x := v2) dX7_peak_124 rfl ?_
        refine rp_if_ne (tgt := 133) dX7_peak_125 (by decide) ?_ ?_
        · refine rp_iload_n (x := v3) dX7_peak_133 rfl ?_
          exact rp_iret rfl rfl dX7_peak_134
        · refine rp_iload (x := v4) dX7_peak_128 rfl ?_
          refine rp_goto (tgt := 134) dX7_peak_130 (by decide) ?_
          exact rp_iret rfl rfl dX7_peak_134
    · refine rp_iconst dX7_peak_36 ?_
      refine rp_istore dX7_peak_37 (by decide) rfl ?_
      refine rp_iconst dX7_peak_39 ?_
      refine rp_istore dX7_peak_40 (by decide) rfl ?_
      refine rp_mask [true, true, true, true, true, true, true, true] (vs2 := [some (.ref (E.2.2.2.1 28)), some (.int v1), some (.int v2), some (.int v3), some (.int v4), some (.int v5), some (.int (rI 0)), some (.int (rI 0))]) rfl rfl ?_
      exact rX7_peak_42 σ (fun v1 v2 v3 v4 v5 => fX7_peak_29 σ n v1 v2 v3 v4 v5) (fun v1 v2 v3 v4 v5 => ih v1 v2 v3 v4 v5) 1000 v1 v2 v3 v4 v5 (rI 0) (rI 0)
def fX7_peak (σ : rp_S) (v1 : Int32) (v2 : Int32) : Option (Int32) :=
  ((fX7_isWork σ v1).bind fun x1 =>
    (if x1 = 0 then
    (some (rI (-1)))
  else
    ((fX7_in (v2.toInt64) (rJ 0) (rJ 1)).bind fun x2 =>
    (if x2 = 0 then
    (some (rI (-1)))
  else
    (fX7_peak_29 σ 1000 v1 v2 (rI 0) (rI (-4)) (rI 0))))))
set_option maxRecDepth 100000 in
theorem rX7_peak {E : rp_E} (σ : rp_S) (v1 : Int32) (v2 : Int32)   : rp_R E (rp_mK E rmX7_peak) mX7_peak 0 [some (.ref (E.2.2.2.1 28)), some (.int v1), some (.int v2), none, none, none, none, none] [] σ (rp_hi σ) (fX7_peak σ v1 v2) := by
  rw [fX7_peak]
  refine rp_aload_n (x := (E.2.2.2.1 28)) dX7_peak_0 rfl ?_
  refine rp_iload_n (x := v1) dX7_peak_1 rfl ?_
  refine rp_callV_hi (As := [.int v1]) (rest := []) (b := (E.2.2.2.1 28)) (rX7_isWork σ v1) cbX7_isWork lkX7_168 viX7_isWork (rp_rcO sh28 rfl) rfl (Nat.le_of_ble_eq_true rfl) ⟨rfl, rfl, ⟨Nat.le_of_ble_eq_true rfl, Nat.le_of_ble_eq_true rfl⟩, Nat.zero_le _, Nat.zero_le _⟩ rfl (Nat.le_of_ble_eq_true rfl) dX7_peak_2 (fun x1 hx1 => ?_)
  refine rp_if_eq (tgt := 18) dX7_peak_5 (by decide) ?_ ?_
  · refine rp_iconst dX7_peak_18 ?_
    exact rp_iret rfl rfl dX7_peak_19
  · refine rp_iload_n (x := v2) dX7_peak_8 rfl ?_
    refine rp_i2l dX7_peak_9 ?_
    refine rp_lconst dX7_peak_10 0 (by decide) ?_
    refine rp_lconst dX7_peak_11 1 (by decide) ?_
    refine rp_callS_hi (As := [.long (v2.toInt64), .long (rJ 0), .long (rJ 1)]) (rest := []) (rX7_in σ (v2.toInt64) (rJ 0) (rJ 1)) cbX7_in lkX7_49 stX7_in rfl (Nat.le_of_ble_eq_true rfl) ⟨rfl, rfl, ⟨Nat.le_of_ble_eq_true rfl, Nat.le_of_ble_eq_true rfl⟩, Nat.zero_le _, Nat.zero_le _⟩ rfl (Nat.le_of_ble_eq_true rfl) dX7_peak_12 (fun x2 hx2 => ?_)
    refine rp_if_ne (tgt := 20) dX7_peak_15 (by decide) ?_ ?_
    · refine rp_iconst dX7_peak_20 ?_
      refine rp_istore_n dX7_peak_21 (by decide) rfl ?_
      refine rp_bipush dX7_peak_22 (by decide) ?_
      refine rp_istore dX7_peak_24 (by decide) rfl ?_
      refine rp_iconst dX7_peak_26 ?_
      refine rp_istore dX7_peak_27 (by decide) rfl ?_
      refine rp_mask [true, true, true, true, true, true, false, false] (vs2 := [some (.ref (E.2.2.2.1 28)), some (.int v1), some (.int v2), some (.int (rI 0)), some (.int (rI (-4))), some (.int (rI 0)), none, none]) rfl rfl ?_
      exact rX7_peak_29 σ 1000 v1 v2 (rI 0) (rI (-4)) (rI 0)
    · refine rp_iconst dX7_peak_18 ?_
      exact rp_iret rfl rfl dX7_peak_19
