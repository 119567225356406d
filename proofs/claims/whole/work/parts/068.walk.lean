/-! RocketPrint.keep(I)I -/
abbrev rmX6_keep : Room := { frames := 2, cells := 0, slots := 0, locals := 61 }
def fX6_keep (σ : rp_S) (v1 : Int32) : Option (Int32 × rp_S) :=
  ((fX6_within v1 (rI 0) (rI 1)).bind fun x1 =>
    (if x1 = 0 then
    (some ((rI (-1)), σ))
  else
    ((fX6_imageOf σ v1).bind fun b2 =>
    ((fX1_become σ b2 1).bind fun σ3 =>
    ((some (rp_up σ3 0 8 ((σ3 0 8) ||| ((rI 1) <<< (v1 &&& 31))))).bind fun σ4 =>
    (some ((((σ 0 8) >>> (v1 &&& 31)) &&& (rI 1)), σ4)))))))
set_option maxRecDepth 100000 in
theorem rX6_keep {E : rp_E} (σ : rp_S) (v1 : Int32)   : rp_R E (rp_mK E rmX6_keep) mX6_keep 0 [some (.ref (E.2.2.2.1 0)), some (.int v1), none] [] σ rp_hI (fX6_keep σ v1) := by
  rw [fX6_keep]
  refine rp_iload_n (x := v1) dX6_keep_0 rfl ?_
  refine rp_iconst dX6_keep_1 ?_
  refine rp_iconst dX6_keep_2 ?_
  refine rp_callS_hi (As := [.int v1, .int (rI 0), .int (rI 1)]) (rest := []) (rX6_within σ v1 (rI 0) (rI 1)) cbX6_within lkX6_57 stX6_within rfl (Nat.le_of_ble_eq_true rfl) ⟨rfl, rfl, ⟨Nat.le_of_ble_eq_true rfl, Nat.le_of_ble_eq_true rfl⟩, Nat.zero_le _, Nat.zero_le _⟩ rfl (Nat.le_of_ble_eq_true rfl) dX6_keep_3 (fun x1 hx1 => ?_)
  refine rp_if_ne (tgt := 11) dX6_keep_6 (by decide) ?_ ?_
  · refine rp_aload_n (x := (E.2.2.2.1 0)) dX6_keep_11 rfl ?_
    refine rp_getI (k := 8) sh0 rfl fdX6_89 dX6_keep_12 ?_
    refine rp_iload_n (x := v1) dX6_keep_15 rfl ?_
    refine rp_ishr dX6_keep_16 ?_
    refine rp_iconst dX6_keep_17 ?_
    refine rp_iand dX6_keep_18 ?_
    refine rp_istore_n dX6_keep_19 (by decide) rfl ?_
    refine rp_aload_n (x := (E.2.2.2.1 0)) dX6_keep_20 rfl ?_
    refine rp_iload_n (x := v1) dX6_keep_21 rfl ?_
    refine rp_callV_hr (As := [.int v1]) (rest := []) (b := (E.2.2.2.1 0)) (rX6_imageOf σ v1) cbX6_imageOf lkX6_277 viX6_imageOf (rp_rcO sh0 rfl) rfl (Nat.le_of_ble_eq_true rfl) ⟨rfl, rfl, ⟨Nat.le_of_ble_eq_true rfl, Nat.le_of_ble_eq_true rfl⟩, Nat.zero_le _, Nat.zero_le _⟩ rfl (Nat.le_of_ble_eq_true rfl) dX6_keep_22 (fun b2 hb2 => ?_)
    have hb2 := ni_image hb2
    refine rp_aload_n (x := (E.2.2.2.1 0)) dX6_keep_25 rfl ?_
    refine rp_getR (k := 0) (b := 1) sh0 rfl fdX6_10 dX6_keep_26 ?_
    refine rp_callV_hv (As := [.ref (E.2.2.2.1 1)]) (rest := []) (b := (E.2.2.2.1 b2)) (rX1_become σ b2 1 hb2 ni1) cbX1_become lkX6_82 viX1_become (rp_rcO hb2.1 rfl) rfl (Nat.le_of_ble_eq_true rfl) ⟨rfl, rfl, ⟨Nat.le_of_ble_eq_true rfl, Nat.le_of_ble_eq_true rfl⟩, Nat.zero_le _, Nat.zero_le _⟩ rfl (Nat.le_of_ble_eq_true rfl) dX6_keep_29 (fun σ3 hσ3 => ?_)
    refine rp_aload_n (x := (E.2.2.2.1 0)) dX6_keep_32 rfl ?_
    refine rp_dup dX6_keep_33 rfl ?_
    refine rp_getI (k := 8) sh0 rfl fdX6_89 dX6_keep_34 ?_
    refine rp_iconst dX6_keep_37 ?_
    refine rp_iload_n (x := v1) dX6_keep_38 rfl ?_
    refine rp_ishl dX6_keep_39 ?_
    refine rp_ior dX6_keep_40 ?_
    refine rp_putB (k := 8) sh0 rfl fpX6_89 (vp_nar_int _) rfl dX6_keep_41 (fun σ4 => ?_)
    refine rp_iload_n (x := (((σ 0 8) >>> (v1 &&& 31)) &&& (rI 1))) dX6_keep_44 rfl ?_
    exact rp_iret rfl rfl dX6_keep_45
  · refine rp_iconst dX6_keep_9 ?_
    exact rp_iret rfl rfl dX6_keep_10
/-! RocketPrintModel.keep(I)I -/
abbrev rmX7_keep : Room := { frames := 1, cells := 0, slots := 0, locals := 25 }
def fX7_keep_37 (σ : rp_S) (v1 : Int32) (s0 : Int32) : Option (Int32 × rp_S) :=
  ((rq_wr σ 37 2 v1 (vp_nar .boolean (rI 1))).bind fun σ4 =>
    (some (s0, σ4)))
set_option maxRecDepth 100000 in
theorem rX7_keep_37 {E : rp_E} (σ : rp_S) (v1 : Int32) (s0 : Int32) : rp_R E (rp_mK E rmX7_keep) mX7_keep 37 [some (.ref (E.2.2.2.1 28)), some (.int v1), none] [.int s0] σ rp_hI (fX7_keep_37 σ v1 s0) := by
  rw [fX7_keep_37]
  refine rp_istore_n dX7_keep_37 (by decide) rfl ?_
  refine rp_aload_n (x := (E.2.2.2.1 28)) dX7_keep_38 rfl ?_
  refine rp_getR (k := 22) (b := 37) sh28 rfl fdX7_34 dX7_keep_39 ?_
  refine rp_iload_n (x := v1) dX7_keep_42 rfl ?_
  refine rp_iconst dX7_keep_43 ?_
  refine rp_bastoreZ sh37 dX7_keep_44 (fun σ4 => ?_)
  refine rp_iload_n (x := s0) dX7_keep_45 rfl ?_
  exact rp_iret rfl rfl dX7_keep_46
def fX7_keep (σ : rp_S) (v1 : Int32) : Option (Int32 × rp_S) :=
  ((fX7_in (v1.toInt64) (rJ 0) (rJ 1)).bind fun x1 =>
    (if x1 = 0 then
    (some ((rI (-1)), σ))
  else
    ((fX7_copies σ (rI 0) ((rI 36) * (v1 + (rI 1)))).bind fun σ2 =>
    ((rq_rd σ2 37 2 v1).bind fun x3 =>
    (if x3 = 0 then
    (fX7_keep_37 σ2 v1 (rI 0))
  else
    (fX7_keep_37 σ2 v1 (rI 1)))))))
set_option maxRecDepth 100000 in
theorem rX7_keep {E : rp_E} (σ : rp_S) (v1 : Int32)   : rp_R E (rp_mK E rmX7_keep) mX7_keep 0 [some (.ref (E.2.2.2.1 28)), some (.int v1), none] [] σ rp_hI (fX7_keep σ v1) := by
  rw [fX7_keep]
  refine rp_iload_n (x := v1) dX7_keep_0 rfl ?_
  refine rp_i2l dX7_keep_1 ?_
  refine rp_lconst dX7_keep_2 0 (by decide) ?_
  refine rp_lconst dX7_keep_3 1 (by decide) ?_
  refine rp_callS_hi (As := [.long (v1.toInt64), .long (rJ 0), .long (rJ 1)]) (rest := []) (rX7_in σ (v1.toInt64) (rJ 0) (rJ 1)) cbX7_in lkX7_49 stX7_in rfl (Nat.le_of_ble_eq_true rfl) ⟨rfl, rfl, ⟨Nat.le_of_ble_eq_true rfl, Nat.le_of_ble_eq_true rfl⟩, Nat.zero_le _, Nat.zero_le _⟩ rfl (Nat.le_of_ble_eq_true rfl) dX7_keep_4 (fun x1 hx1 => ?_)
  refine rp_if_ne (tgt := 12) dX7_keep_7 (by decide) ?_ ?_
  · refine rp_aload_n (x := (E.2.2.2.1 28)) dX7_keep_12 rfl ?_
    refine rp_iconst dX7_keep_13 ?_
    refine rp_bipush dX7_keep_14 (by decide) ?_
    refine rp_iload_n (x := v1) dX7_keep_16 rfl ?_
    refine rp_iconst dX7_keep_17 ?_
    refine rp_iadd dX7_keep_18 ?_
    refine rp_imul dX7_keep_19 ?_
    refine rp_callV_hv (As := [.int (rI 0), .int ((rI 36) * (v1 + (rI 1)))]) (rest := []) (b := (E.2.2.2.1 28)) (rX7_copies σ (rI 0) ((rI 36) * (v1 + (rI 1)))) cbX7_copies lkX7_209 viX7_copies (rp_rcO sh28 rfl) rfl (Nat.le_of_ble_eq_true rfl) ⟨rfl, rfl, ⟨Nat.le_of_ble_eq_true rfl, Nat.le_of_ble_eq_true rfl⟩, Nat.zero_le _, Nat.zero_le _⟩ rfl (Nat.le_of_ble_eq_true rfl) dX7_keep_20 (fun σ2 hσ2 => ?_)
    refine rp_aload_n (x := (E.2.2.2.1 28)) dX7_keep_23 rfl ?_
    refine rp_getR (k := 22) (b := 37) sh28 rfl fdX7_34 dX7_keep_24 ?_
    refine rp_iload_n (x := v1) dX7_keep_27 rfl ?_
    refine rp_baloadZ sh37 dX7_keep_28 (fun x3 => ?_)
    refine rp_if_eq (tgt := 36) dX7_keep_29 (by decide) ?_ ?_
    · refine rp_iconst dX7_keep_36 ?_
      refine rp_mask [true, true, false] (vs2 := [some (.ref (E.2.2.2.1 28)), some (.int v1), none]) rfl rfl ?_
      exact rX7_keep_37 σ2 v1 (rI 0)
    · refine rp_iconst dX7_keep_32 ?_
      refine rp_goto (tgt := 37) dX7_keep_33 (by decide) ?_
      refine rp_mask [true, true, false] (vs2 := [some (.ref (E.2.2.2.1 28)), some (.int v1), none]) rfl rfl ?_
      exact rX7_keep_37 σ2 v1 (rI 1)
  · refine rp_iconst dX7_keep_10 ?_
    exact rp_iret rfl rfl dX7_keep_11
/-! RocketPrint.back(I)I -/
abbrev rmX6_back : Room := { frames := 2, cells := 0, slots := 0, locals := 61 }
def fX6_back (σ : rp_S) (v1 : Int32) : Option (Int32 × rp_S) :=
  ((fX6_within v1 (rI 0) (rI 1)).bind fun x1 =>
    (if x1 = 0 then
    (some ((rI (-1)), σ))
  else
    (if (((σ 0 8) >>> (v1 &&& 31)) &&& (rI 1)) = 0 then
    (some ((rI (-2)), σ))
  else
    ((fX6_imageOf σ v1).bind fun b2 =>
    ((fX1_become σ 1 b2).bind fun σ3 =>
    (some ((σ3 1 2), σ3)))))))
set_option maxRecDepth 100000 in
theorem rX6_back {E : rp_E} (σ : rp_S) (v1 : Int32)   : rp_R E (rp_mK E rmX6_back) mX6_back 0 [some (.ref (E.2.2.2.1 0)), some (.int v1)] [] σ rp_hI (fX6_back σ v1) := by
  rw [fX6_back]
  refine rp_iload_n (x := v1) dX6_back_0 rfl ?_
  refine rp_iconst dX6_back_1 ?_
  refine rp_iconst dX6_back_2 ?_
  refine rp_callS_hi (As := [.int v1, .int (rI 0), .int (rI 1)]) (rest := []) (rX6_within σ v1 (rI 0) (rI 1)) cbX6_within lkX6_57 stX6_within rfl (Nat.le_of_ble_eq_true rfl) ⟨rfl, rfl, ⟨Nat.le_of_ble_eq_true rfl, Nat.le_of_ble_eq_true rfl⟩, Nat.zero_le _, Nat.zero_le _⟩ rfl (Nat.le_of_ble_eq_true rfl) dX6_back_3 (fun x1 hx1 => ?_)
  refine rp_if_ne (tgt := 11) dX6_back_6 (by decide) ?_ ?_
  · refine rp_aload_n (x := (E.2.2.2.1 0)) dX6_back_11 rfl ?_
    refine rp_getI (k := 8) sh0 rfl fdX6_89 dX6_back_12 ?_
    refine rp_iload_n (x := v1) dX6_back_15 rfl ?_
    refine rp_ishr dX6_back_16 ?_
    refine rp_iconst dX6_back_17 ?_
    refine rp_iand dX6_back_18 ?_
    refine rp_if_ne (tgt := 25) dX6_back_19 (by decide) ?_ ?_
    · refine rp_aload_n (x := (E.2.2.2.1 0)) dX6_back_25 rfl ?_
      refine rp_getR (k := 0) (b := 1) sh0 rfl fdX6_10 dX6_back_26 ?_
      refine rp_aload_n (x := (E.2.2.2.1 0)) dX6_back_29 rfl ?_
      refine rp_iload_n (x := v1) dX6_back_30 rfl ?_
      refine rp_callV_hr (As := [.int v1]) (rest := [.ref (E.2.2.2.1 1)]) (b := (E.2.2.2.1 0)) (rX6_imageOf σ v1) cbX6_imageOf lkX6_277 viX6_imageOf (rp_rcO sh0 rfl) rfl (Nat.le_of_ble_eq_true rfl) ⟨rfl, rfl, ⟨Nat.le_of_ble_eq_true rfl, Nat.le_of_ble_eq_true rfl⟩, Nat.zero_le _, Nat.zero_le _⟩ rfl (Nat.le_of_ble_eq_true rfl) dX6_back_31 (fun b2 hb2 => ?_)
      have hb2 := ni_image hb2
      refine rp_callV_hv (As := [.ref (E.2.2.2.1 b2)]) (rest := []) (b := (E.2.2.2.1 1)) (rX1_become σ 1 b2 ni1 hb2) cbX1_become lkX6_82 viX1_become (rp_rcO sh1 rfl) rfl (Nat.le_of_ble_eq_true rfl) ⟨rfl, rfl, ⟨Nat.le_of_ble_eq_true rfl, Nat.le_of_ble_eq_true rfl⟩, Nat.zero_le _, Nat.zero_le _⟩ rfl (Nat.le_of_ble_eq_true rfl) dX6_back_34 (fun σ3 hσ3 => ?_)
      refine rp_aload_n (x := (E.2.2.2.1 0)) dX6_back_37 rfl ?_
      refine rp_getR (k := 0) (b := 1) sh0 rfl fdX6_10 dX6_back_38 ?_
      refine rp_getI (k := 2) sh1 rfl fdX6_92 dX6_back_41 ?_
      exact rp_iret rfl rfl dX6_back_44
    · refine rp_bipush dX6_back_22 (by decide) ?_
      exact rp_iret rfl rfl dX6_back_24
  · refine rp_iconst dX6_back_9 ?_
    exact rp_iret rfl rfl dX6_back_10
/-! RocketPrintModel.back(I)I -/
abbrev rmX7_back : Room := { frames := 1, cells := 0, slots := 0, locals := 25 }
def fX7_back (σ : rp_S) (v1 : Int32) : Option (Int32 × rp_S) :=
  ((fX7_in (v1.toInt64) (rJ 0) (rJ 1)).bind fun x1 =>
    (if x1 = 0 then
    (some ((rI (-1)), σ))
  else
    ((rq_rd σ 37 2 v1).bind fun x2 =>
    (if x2 = 0 then
    (some ((rI (-2)), σ))
  else
    ((fX7_copies σ ((rI 36) * (v1 + (rI 1))) (rI 0)).bind fun σ3 =>
    ((rq_rd σ3 29 180 (rI 24)).bind fun x4 =>
    (some (x4, σ3))))))))
set_option maxRecDepth 100000 in
theorem rX7_back {E : rp_E} (σ : rp_S) (v1 : Int32)   : rp_R E (rp_mK E rmX7_back) mX7_back 0 [some (.ref (E.2.2.2.1 28)), some (.int v1)] [] σ rp_hI (fX7_back σ v1) := by
  rw [fX7_back]
  refine rp_iload_n (x := v1) dX7_back_0 rfl ?_
  refine rp_i2l dX7_back_1 ?_
  refine rp_lconst dX7_back_2 0 (by decide) ?_
  refine rp_lconst dX7_back_3 1 (by decide) ?_
  refine rp_callS_hi (As := [.long (v1.toInt64), .long (rJ 0), .long (rJ 1)]) (rest := []) (rX7_in σ (v1.toInt64) (rJ 0) (rJ 1)) cbX7_in lkX7_49 stX7_in rfl (Nat.le_of_ble_eq_true rfl) ⟨rfl, rfl, ⟨Nat.le_of_ble_eq_true rfl, Nat.le_of_ble_eq_true rfl⟩, Nat.zero_le _, Nat.zero_le _⟩ rfl (Nat.le_of_ble_eq_true rfl) dX7_back_4 (fun x1 hx1 => ?_)
  refine rp_if_ne (tgt := 12) dX7_back_7 (by decide) ?_ ?_
  · refine rp_aload_n (x := (E.2.2.2.1 28)) dX7_back_12 rfl ?_
    refine rp_getR (k := 22) (b := 37) sh28 rfl fdX7_34 dX7_back_13 ?_
    refine rp_iload_n (x := v1) dX7_back_16 rfl ?_
    refine rp_baloadZ sh37 dX7_back_17 (fun x2 => ?_)
    refine rp_if_ne (tgt := 24) dX7_back_18 (by decide) ?_ ?_
    · refine rp_aload_n (x := (E.2.2.2.1 28)) dX7_back_24 rfl ?_
      refine rp_bipush dX7_back_25 (by decide) ?_
      refine rp_iload_n (x := v1) dX7_back_27 rfl ?_
      refine rp_iconst dX7_back_28 ?_
      refine rp_iadd dX7_back_29 ?_
      refine rp_imul dX7_back_30 ?_
      refine rp_iconst dX7_back_31 ?_
      refine rp_callV_hv (As := [.int ((rI 36) * (v1 + (rI 1))), .int (rI 0)]) (rest := []) (b := (E.2.2.2.1 28)) (rX7_copies σ ((rI 36) * (v1 + (rI 1))) (rI 0)) cbX7_copies lkX7_209 viX7_copies (rp_rcO sh28 rfl) rfl (Nat.le_of_ble_eq_true rfl) ⟨rfl, rfl, ⟨Nat.le_of_ble_eq_true rfl, Nat.le_of_ble_eq_true rfl⟩, Nat.zero_le _, Nat.zero_le _⟩ rfl (Nat.le_of_ble_eq_true rfl) dX7_back_32 (fun σ3 hσ3 => ?_)
      refine rp_aload_n (x := (E.2.2.2.1 28)) dX7_back_35 rfl ?_
      refine rp_getR (k := 0) (b := 29) sh28 rfl fdX7_7 dX7_back_36 ?_
      refine rp_bipush dX7_back_39 (by decide) ?_
      refine rp_iaload sh29 dX7_back_41 (fun x4 => ?_)
      exact rp_iret rfl rfl dX7_back_42
    · refine rp_bipush dX7_back_21 (by decide) ?_
      exact rp_iret rfl rfl dX7_back_23
  · refine rp_iconst dX7_back_10 ?_
    exact rp_iret rfl rfl dX7_back_11
/-! RocketPrint$Sheets.renew(III)V -/
abbrev rmX2_renew : Room := { frames := 0, cells := 0, slots := 0, locals := 0 }
def fX2_renew_29  : Nat → rp_S → Int32 → Int32 → Int32 → Option (rp_S)
  | 0, _, _, _, _ => none
  | n + 1, σ, v1, v3, v4 =>
    (if v3 ≤ v4 then
    (some σ)
  else
    ((rq_wr σ 19 160 ((v1 * (rI 40)) + v4) (rI 0)).bind fun σ4 =>
    (fX2_renew_29 n σ4 v1 v3 (v4 + (rI 1)))))
set_option maxRecDepth 100000 in
theorem rX2_renew_29 {E : rp_E}  : ∀ (n : Nat) (σ : rp_S) (v1 : Int32) (v3 : Int32) (v4 : Int32), rp_R E (rp_mK E rmX2_renew) mX2_renew 29 [some (.ref (E.2.2.2.1 18)), some (.int v1), none, some (.int v3), some (.int v4)] [] σ rp_hv (fX2_renew_29 n σ v1 v3 v4) := by
  intro n
  induction n with
  | zero =>
    intro σ v1 v3 v4
    rw [fX2_renew_29]
    exact rp_none
  | succ n ih =>
    intro σ v1 v3 v4
    rw [fX2_renew_29]
    refine rp_iload (x := v4) dX2_renew_29 rfl ?_
    refine rp_iload_n (x := v3) dX2_renew_31 rfl ?_
    refine rp_icmp_ge (tgt := 54) dX2_renew_32 (by decide) ?_ ?_
    · exact rp_vret rfl rfl dX2_renew_54
    · refine rp_aload_n (x := (E.2.2.2.1 18)) dX2_renew_35 rfl ?_
      refine rp_getR (k := 0) (b := 19) sh18 rfl fdX2_9 dX2_renew_36 ?_
      refine rp_iload_n (x := v1) dX2_renew_39 rfl ?_
      refine rp_bipush dX2_renew_40 (by decide) ?_
      refine rp_imul dX2_renew_42 ?_
      refine rp_iload (x := v4) dX2_renew_43 rfl ?_
      refine rp_iadd dX2_renew_45 ?_
      refine rp_iconst dX2_renew_46 ?_
      refine rp_iastore sh19 dX2_renew_47 (fun σ4 => ?_)
      refine rp_iinc (x := v4) dX2_renew_48 rfl (by decide) rfl ?_
      refine rp_goto (tgt := 29) dX2_renew_51 (by decide) ?_
      refine rp_mask [true, true, false, true, true] (vs2 := [some (.ref (E.2.2.2.1 18)), some (.int v1), none, some (.int v3), some (.int (v4 + (rI 1)))]) rfl rfl ?_
      exact ih σ4 v1 v3 (v4 + (rI 1))
def fX2_renew (σ : rp_S) (v1 : Int32) (v2 : Int32) (v3 : Int32) : Option (rp_S) :=
  ((some (rp_up σ 18 3 ((σ 18 3) ||| ((rI 1) <<< (v1 &&& 31))))).bind fun σ1 =>
    ((rq_wr σ1 20 4 v1 v2).bind fun σ2 =>
    ((rq_wr σ2 21 4 v1 v3).bind fun σ3 =>
    (fX2_renew_29 1000 σ3 v1 v3 (rI 0)))))
set_option maxRecDepth 100000 in
theorem rX2_renew {E : rp_E} (σ : rp_S) (v1 : Int32) (v2 : Int32) (v3 : Int32)   : rp_R E (rp_mK E rmX2_renew) mX2_renew 0 [some (.ref (E.2.2.2.1 18)), some (.int v1), some (.int v2), some (.int v3), none] [] σ rp_hv (fX2_renew σ v1 v2 v3) := by
  rw [fX2_renew]
  refine rp_aload_n (x := (E.2.2.2.1 18)) dX2_renew_0 rfl ?_
  refine rp_dup dX2_renew_1 rfl ?_
  refine rp_getI (k := 3) sh18 rfl fdX2_21 dX2_renew_2 ?_
  refine rp_iconst dX2_renew_5 ?_
  refine rp_iload_n (x := v1) dX2_renew_6 rfl ?_
  refine rp_ishl dX2_renew_7 ?_
  refine rp_ior dX2_renew_8 ?_
  refine rp_putB (k := 3) sh18 rfl fpX2_21 (vp_nar_int _) rfl dX2_renew_9 (fun σ1 => ?_)
  refine rp_aload_n (x := (E.2.2.2.1 18)) dX2_renew_12 rfl ?_
  refine rp_getR (k := 1) (b := 20) sh18 rfl fdX2_15 dX2_renew_13 ?_
  refine rp_iload_n (x := v1) dX2_renew_16 rfl ?_
  refine rp_iload_n (x := v2) dX2_renew_17 rfl ?_
  refine rp_iastore sh20 dX2_renew_18 (fun σ2 => ?_)
  refine rp_aload_n (x := (E.2.2.2.1 18)) dX2_renew_19 rfl ?_
  refine rp_getR (k := 2) (b := 21) sh18 rfl fdX2_18 dX2_renew_20 ?_
  refine rp_iload_n (x := v1) dX2_renew_23 rfl ?_
  refine rp_iload_n (x := v3) dX2_renew_24 rfl ?_
  refine rp_iastore sh21 dX2_renew_25 (fun σ3 => ?_)
  refine rp_iconst dX2_renew_26 ?_
  refine rp_istore dX2_renew_27 (by decide) rfl ?_
  refine rp_mask [true, true, false, true, true] (vs2 := [some (.ref (E.2.2.2.1 18)), some (.int v1), none, some (.int v3), some (.int (rI 0))]) rfl rfl ?_
  exact rX2_renew_29 1000 σ3 v1 v3 (rI 0)
/-! RocketPrint.sheet(III)I -/
abbrev rmX6_sheet : Room := { frames := 1, cells := 0, slots := 0, locals := 24 }
def fX6_sheet (σ : rp_S) (v1 : Int32) (v2 : Int32) (v3 : Int32) : Option (Int32 × rp_S) :=
  ((fX6_within v1 (rI 0) (rI 3)).bind fun x1 =>
    (if x1 = 0 then
    (some ((rI (-1)), σ))
  else
    ((fX6_within v2 (rI 0) (rI 2)).bind fun x2 =>
    (if x2 = 0 then
    (some ((rI (-1)), σ))
  else
    (if v3 ≤ (rI 40) then
    (if 0 ≤ v3 then
    ((fX2_renew σ v1 v2 v3).bind fun σ3 =>
    (some ((rI 1), σ3)))
  else
    (some ((rI (-14)), σ)))
  else
    (some ((rI (-1)), σ)))))))
set_option maxRecDepth 100000 in
theorem rX6_sheet {E : rp_E} (σ : rp_S) (v1 : Int32) (v2 : Int32) (v3 : Int32)   : rp_R E (rp_mK E rmX6_sheet) mX6_sheet 0 [some (.ref (E.2.2.2.1 0)), some (.int v1), some (.int v2), some (.int v3)] [] σ rp_hI (fX6_sheet σ v1 v2 v3) := by
  rw [fX6_sheet]
  refine rp_iload_n (x := v1) dX6_sheet_0 rfl ?_
  refine rp_iconst dX6_sheet_1 ?_
  refine rp_iconst dX6_sheet_2 ?_
  refine rp_callS_hi (As := [.int v1, .int (rI 0), .int (rI 3)]) (rest := []) (rX6_within σ v1 (rI 0) (rI 3)) cbX6_within lkX6_57 stX6_within rfl (Nat.le_of_ble_eq_true rfl) ⟨rfl, rfl, ⟨Nat.le_of_ble_eq_true rfl, Nat.le_of_ble_eq_true rfl⟩, Nat.zero_le _, Nat.zero_le _⟩ rfl (Nat.le_of_ble_eq_true rfl) dX6_sheet_3 (fun x1 hx1 => ?_)
  refine rp_if_eq (tgt := 24) dX6_sheet_6 (by decide) ?_ ?_
  · refine rp_iconst dX6_sheet_24 ?_
    exact rp_iret rfl rfl dX6_sheet_25
  · refine rp_iload_n (x := v2) dX6_sheet_9 rfl ?_
    refine rp_iconst dX6_sheet_10 ?_
    refine rp_iconst dX6_sheet_11 ?_
    refine rp_callS_hi (As := [.int v2, .int (rI 0), .int (rI 2)]) (rest := []) (rX6_within σ v2 (rI 0) (rI 2)) cbX6_within lkX6_57 stX6_within rfl (Nat.le_of_ble_eq_true rfl) ⟨rfl, rfl, ⟨Nat.le_of_ble_eq_true rfl, Nat.le_of_ble_eq_true rfl⟩, Nat.zero_le _, Nat.zero_le _⟩ rfl (Nat.le_of_ble_eq_true rfl) dX6_sheet_12 (fun x2 hx2 => ?_)
    refine rp_if_eq (tgt := 24) dX6_sheet_15 (by decide) ?_ ?_
    · refine rp_iconst dX6_sheet_24 ?_
      exact rp_iret rfl rfl dX6_sheet_25
    · refine rp_iload_n (x := v3) dX6_sheet_18 rfl ?_
      refine rp_bipush dX6_sheet_19 (by decide) ?_
      refine rp_icmp_le (tgt := 26) dX6_sheet_21 (by decide) ?_ ?_
      · refine rp_iload_n (x := v3) dX6_sheet_26 rfl ?_
        refine rp_if_ge (tgt := 33) dX6_sheet_27 (by decide) ?_ ?_
        · refine rp_aload_n (x := (E.2.2.2.1 0)) dX6_sheet_33 rfl ?_
          refine rp_getR (k := 5) (b := 18) sh0 rfl fdX6_47 dX6_sheet_34 ?_
          refine rp_iload_n (x := v1) dX6_sheet_37 rfl ?_
          refine rp_iload_n (x := v2) dX6_sheet_38 rfl ?_
          refine rp_iload_n (x := v3) dX6_sheet_39 rfl ?_
          refine rp_callV_hv (As := [.int v1, .int v2, .int v3]) (rest := []) (b := (E.2.2.2.1 18)) (rX2_renew σ v1 v2 v3) cbX2_renew lkX6_281 viX2_renew (rp_rcO sh18 rfl) rfl (Nat.le_of_ble_eq_true rfl) ⟨rfl, rfl, ⟨Nat.le_of_ble_eq_true rfl, Nat.le_of_ble_eq_true rfl⟩, Nat.zero_le _, Nat.zero_le _⟩ rfl (Nat.le_of_ble_eq_true rfl) dX6_sheet_40 (fun σ3 hσ3 => ?_)
          refine rp_iconst dX6_sheet_43 ?_
          exact rp_iret rfl rfl dX6_sheet_44
        · refine rp_bipush dX6_sheet_30 (by decide) ?_
          exact rp_iret rfl rfl dX6_sheet_32
      · refine rp_iconst dX6_sheet_24 ?_
        exact rp_iret rfl rfl dX6_sheet_25
/-! RocketPrintModel.sheet(III)I -/
abbrev rmX7_sheet : Room := { frames := 1, cells := 0, slots := 0, locals := 25 }
def fX7_sheet_56  : Nat → rp_S → Int32 → Int32 → Option (Int32 × rp_S)
  | 0, _, _, _ => none
  | n + 1, σ, v1, v4 =>
    (if (rI 40) ≤ v4 then
    (some ((rI 1), σ))
  else
    ((rq_wr σ 40 160 (((rI 40) * v1) + v4) (rI 0)).bind fun σ5 =>
    (fX7_sheet_56 n σ5 v1 (v4 + (rI 1)))))
set_option maxRecDepth 100000 in
theorem rX7_sheet_56 {E : rp_E}  : ∀ (n : Nat) (σ : rp_S) (v1 : Int32) (v4 : Int32), rp_R E (rp_mK E rmX7_sheet) mX7_sheet 56 [some (.ref (E.2.2.2.1 28)), some (.int v1), none, none, some (.int v4)] [] σ rp_hI (fX7_sheet_56 n σ v1 v4) := by
  intro n
  induction n with
  | zero =>
    intro σ v1 v4
    rw [fX7_sheet_56]
    exact rp_none
  | succ n ih =>
    intro σ v1 v4
    rw [fX7_sheet_56]
    refine rp_iload (x := v4) dX7_sheet_56 rfl ?_
    refine rp_bipush dX7_sheet_58 (by decide) ?_
    refine rp_icmp_ge (tgt := 82) dX7_sheet_60 (by decide) ?_ ?_
    · refine rp_iconst dX7_sheet_82 ?_
      exact rp_iret rfl rfl dX7_sheet_83
    · refine rp_aload_n (x := (E.2.2.2.1 28)) dX7_sheet_63 rfl ?_
      refine rp_getR (k := 25) (b := 40) sh28 rfl fdX7_44 dX7_sheet_64 ?_
      refine rp_bipush dX7_sheet_67 (by decide) ?_
      refine rp_iload_n (x := v1) dX7_sheet_69 rfl ?_
      refine rp_imul dX7_sheet_70 ?_
      refine rp_iload (x := v4) dX7_sheet_71 rfl ?_
      refine rp_iadd dX7_sheet_73 ?_
      refine rp_iconst dX7_sheet_74 ?_
      refine rp_iastore sh40 dX7_sheet_75 (fun σ5 => ?_)
      refine rp_iinc (x := v4) dX7_sheet_76 rfl (by decide) rfl ?_
      refine rp_goto (tgt := 56) dX7_sheet_79 (by decide) ?_
      refine rp_mask [true, true, false, false, true] (vs2 := [some (.ref (E.2.2.2.1 28)), some (.int v1), none, none, some (.int (v4 + (rI 1)))]) rfl rfl ?_
      exact ih σ5 v1 (v4 + (rI 1))
def fX7_sheet (σ : rp_S) (v1 : Int32) (v2 : Int32) (v3 : Int32) : Option (Int32 × rp_S) :=
  ((fX7_in (v1.toInt64) (rJ 0) (rJ 3)).bind fun x1 =>
    (if x1 = 0 then
    (some ((rI (-1)), σ))
  else
    ((fX7_in (v2.toInt64) (rJ 0) (rJ 2)).bind fun x2 =>
    (if x2 = 0 then
    (some ((rI (-1)), σ))
  else
    (if v3 ≤ (rI 40) then
    (if 0 ≤ v3 then
    ((rq_wr σ 38 4 v1 v2).bind fun σ3 =>
    ((rq_wr σ3 39 4 v1 v3).bind fun σ4 =>
    (fX7_sheet_56 1000 σ4 v1 (rI 0))))
  else
    (some ((rI (-14)), σ)))
  else
    (some ((rI (-1)), σ)))))))
set_option maxRecDepth 100000 in
theorem rX7_sheet {E : rp_E} (σ : rp_S) (v1 : Int32) (v2 : Int32) (v3 : Int32)   : rp_R E (rp_mK E rmX7_sheet) mX7_sheet 0 [some (.ref (E.2.2.2.1 28)), some (.int v1), some (.int v2), some (.int v3), none] [] σ rp_hI (fX7_sheet σ v1 v2 v3) := by
  rw [fX7_sheet]
  refine rp_iload_n (x := v1) dX7_sheet_0 rfl ?_
  refine rp_i2l dX7_sheet_1 ?_
  refine rp_lconst dX7_sheet_2 0 (by decide) ?_
  refine rp_ldc2 (v := (rJ 3)) clX7_181 dX7_sheet_3 ?_
  refine rp_callS_hi (As := [.long (v1.toInt64), .long (rJ 0), .long (rJ 3)]) (rest := []) (rX7_in σ (v1.toInt64) (rJ 0) (rJ 3)) cbX7_in lkX7_49 stX7_in rfl (Nat.le_of_ble_eq_true rfl) ⟨rfl, rfl, ⟨Nat.le_of_ble_eq_true rfl, Nat.le_of_ble_eq_true rfl⟩, Nat.zero_le _, Nat.zero_le _⟩ rfl (Nat.le_of_ble_eq_true rfl) dX7_sheet_6 (fun x1 hx1 => ?_)
  refine rp_if_eq (tgt := 30) dX7_sheet_9 (by decide) ?_ ?_
  · refine rp_iconst dX7_sheet_30 ?_
    exact rp_iret rfl rfl dX7_sheet_31
  · refine rp_iload_n (x := v2) dX7_sheet_12 rfl ?_
    refine rp_i2l dX7_sheet_13 ?_
    refine rp_lconst dX7_sheet_14 0 (by decide) ?_
    refine rp_ldc2 (v := (rJ 2)) clX7_237 dX7_sheet_15 ?_
    refine rp_callS_hi (As := [.long (v2.toInt64), .long (rJ 0), .long (rJ 2)]) (rest := []) (rX7_in σ (v2.toInt64) (rJ 0) (rJ 2)) cbX7_in lkX7_49 stX7_in rfl (Nat.le_of_ble_eq_true rfl) ⟨rfl, rfl, ⟨Nat.le_of_ble_eq_true rfl, Nat.le_of_ble_eq_true rfl⟩, Nat.zero_le _, Nat.zero_le _⟩ rfl (Nat.le_of_ble_eq_true rfl) dX7_sheet_18 (fun x2 hx2 => ?_)
    refine rp_if_eq (tgt := 30) dX7_sheet_21 (by decide) ?_ ?_
    · refine rp_iconst dX7_sheet_30 ?_
      exact rp_iret rfl rfl dX7_sheet_31
    · refine rp_iload_n (x := v3) dX7_sheet_24 rfl ?_
      refine rp_bipush dX7_sheet_25 (by decide) ?_
      refine rp_icmp_le (tgt := 32) dX7_sheet_27 (by decide) ?_ ?_
      · refine rp_iload_n (x := v3) dX7_sheet_32 rfl ?_
        refine rp_if_ge (tgt := 39) dX7_sheet_33 (by decide) ?_ ?_
        · refine rp_aload_n (x := (E.2.2.2.1 28)) dX7_sheet_39 rfl ?_
          refine rp_getR (k := 23) (b := 38) sh28 rfl fdX7_38 dX7_sheet_40 ?_
          refine rp_iload_n (x := v1) dX7_sheet_43 rfl ?_
          refine rp_iload_n (x := v2) dX7_sheet_44 rfl ?_
          refine rp_iastore sh38 dX7_sheet_45 (fun σ3 => ?_)
          refine rp_aload_n (x := (E.2.2.2.1 28)) dX7_sheet_46 rfl ?_
          refine rp_getR (k := 24) (b := 39) sh28 rfl fdX7_41 dX7_sheet_47 ?_
          refine rp_iload_n (x := v1) dX7_sheet_50 rfl ?_
          refine rp_iload_n (x := v3) dX7_sheet_51 rfl ?_
          refine rp_iastore sh39 dX7_sheet_52 (fun σ4 => ?_)
          refine rp_iconst dX7_sheet_53 ?_
          refine rp_istore dX7_sheet_54 (by decide) rfl ?_
          refine rp_mask [true, true, false, false, true] (vs2 := [some (.ref (E.2.2.2.1 28)), some (.int v1), none, none, some (.int (rI 0))]) rfl rfl ?_
          exact rX7_sheet_56 1000 σ4 v1 (rI 0)
        · refine rp_bipush dX7_sheet_36 (by decide) ?_
          exact rp_iret rfl rfl dX7_sheet_38
      · refine rp_iconst dX7_sheet_30 ?_
        exact rp_iret rfl rfl dX7_sheet_31
/-! RocketPrint$Sheets.laneOf(I)I -/
abbrev rmX2_laneOf : Room := { frames := 0, cells := 0, slots := 0, locals := 0 }
def fX2_laneOf (σ : rp_S) (v1 : Int32) : Option (Int32) :=
  ((rq_rd σ 20 4 v1).bind fun x1 =>
    (some x1))
set_option maxRecDepth 100000 in
theorem rX2_laneOf {E : rp_E} (σ : rp_S) (v1 : Int32)   : rp_R E (rp_mK E rmX2_laneOf) mX2_laneOf 0 [some (.ref (E.2.2.2.1 18)), some (.int v1)] [] σ (rp_hi σ) (fX2_laneOf σ v1) := by
  rw [fX2_laneOf]
  refine rp_aload_n (x := (E.2.2.2.1 18)) dX2_laneOf_0 rfl ?_
  refine rp_getR (k := 1) (b := 20) sh18 rfl fdX2_15 dX2_laneOf_1 ?_
  refine rp_iload_n (x := v1) dX2_laneOf_4 rfl ?_
  refine rp_iaload sh20 dX2_laneOf_5 (fun x1 => ?_)
  exact rp_iret rfl rfl dX2_laneOf_6
/-! RocketPrint$Sheets.isNothing(I)Z -/
abbrev rmX2_isNothing : Room := { frames := 0, cells := 0, slots := 0, locals := 0 }
def fX2_isNothing (σ : rp_S) (v1 : Int32) : Option (Int32) :=
  (if (((σ 18 3) >>> (v1 &&& 31)) &&& (rI 1)) = 0 then
    (some (rI 1))
  else
    (some (rI 0)))
set_option maxRecDepth 100000 in
theorem rX2_isNothing {E : rp_E} (σ : rp_S) (v1 : Int32)   : rp_R E (rp_mK E rmX2_isNothing) mX2_isNothing 0 [some (.ref (E.2.2.2.1 18)), some (.int v1)] [] σ (rp_hi σ) (fX2_isNothing σ v1) := by
  rw [fX2_isNothing]
  refine rp_aload_n (x := (E.2.2.2.1 18)) dX2_isNothing_0 rfl ?_
  refine rp_getI (k := 3) sh18 rfl fdX2_21 dX2_isNothing_1 ?_
  refine rp_iload_n (x := v1) dX2_isNothing_4 rfl ?_
  refine rp_ishr dX2_isNothing_5 ?_
  refine rp_iconst dX2_isNothing_6 ?_
  refine rp_iand dX2_isNothing_7 ?_
  refine rp_if_ne (tgt := 15) dX2_isNothing_8 (by decide) ?_ ?_
  · refine rp_iconst dX2_isNothing_15 ?_
    exact rp_zret (x' := (rI 0)) rfl (by decide) rfl dX2_isNothing_16
  · refine rp_iconst dX2_isNothing_11 ?_
    refine rp_goto (tgt := 16) dX2_isNothing_12 (by decide) ?_
    exact rp_zret (x' := (rI 1)) rfl (by decide) rfl dX2_isNothing_16
/-! RocketPrint$Sheets.faultOf(IIII)I -/
abbrev rmX2_faultOf : Room := { frames := 1, cells := 0, slots := 0, locals := 22 }
def fX2_faultOf (σ : rp_S) (v1 : Int32) (v2 : Int32) (v3 : Int32) (v4 : Int32) : Option (Int32) :=
  ((fX2_isNothing σ v1).bind fun x1 =>
    (if x1 = 0 then
    ((rq_rd σ 20 4 v1).bind fun x2 =>
    (if x2 = v2 then
    ((rq_rd σ 21 4 v1).bind fun x3 =>
    ((fX6_within v3 (rI 0) (x3 - v4)).bind fun x4 =>
    (if x4 = 0 then
    (some (rI 2))
  else
    (some (rI 0)))))
  else
    (some (rI 3))))
  else
    (some (rI 1))))
set_option maxRecDepth 100000 in
theorem rX2_faultOf {E : rp_E} (σ : rp_S) (v1 : Int32) (v2 : Int32) (v3 : Int32) (v4 : Int32)   : rp_R E (rp_mK E rmX2_faultOf) mX2_faultOf 0 [some (.ref (E.2.2.2.1 18)), some (.int v1), some (.int v2), some (.int v3), some (.int v4)] [] σ (rp_hi σ) (fX2_faultOf σ v1 v2 v3 v4) := by
  rw [fX2_faultOf]
  refine rp_aload_n (x := (E.2.2.2.1 18)) dX2_faultOf_0 rfl ?_
  refine rp_iload_n (x := v1) dX2_faultOf_1 rfl ?_
  refine rp_callV_hi (As := [.int v1]) (rest := []) (b := (E.2.2.2.1 18)) (rX2_isNothing σ v1) cbX2_isNothing lkX2_25 viX2_isNothing (rp_rcO sh18 rfl) rfl (Nat.le_of_ble_eq_true rfl) ⟨rfl, rfl, ⟨Nat.le_of_ble_eq_true rfl, Nat.le_of_ble_eq_true rfl⟩, Nat.zero_le _, Nat.zero_le _⟩ rfl (Nat.le_of_ble_eq_true rfl) dX2_faultOf_2 (fun x1 hx1 => ?_)
  refine rp_if_eq (tgt := 10) dX2_faultOf_5 (by decide) ?_ ?_
  · refine rp_aload_n (x := (E.2.2.2.1 18)) dX2_faultOf_10 rfl ?_
    refine rp_getR (k := 1) (b := 20) sh18 rfl fdX2_15 dX2_faultOf_11 ?_
    refine rp_iload_n (x := v1) dX2_faultOf_14 rfl ?_
    refine rp_iaload sh20 dX2_faultOf_15 (fun x2 => ?_)
    refine rp_iload_n (x := v2) dX2_faultOf_16 rfl ?_
    refine rp_icmp_eq (tgt := 22) dX2_faultOf_17 (by decide) ?_ ?_
    · refine rp_iload_n (x := v3) dX2_faultOf_22 rfl ?_
      refine rp_iconst dX2_faultOf_23 ?_
      refine rp_aload_n (x := (E.2.2.2.1 18)) dX2_faultOf_24 rfl ?_
      refine rp_getR (k := 2) (b := 21) sh18 rfl fdX2_18 dX2_faultOf_25 ?_
      refine rp_iload_n (x := v1) dX2_faultOf_28 rfl ?_
      refine rp_iaload sh21 dX2_faultOf_29 (fun x3 => ?_)
      refine rp_iload (x := v4) dX2_faultOf_30 rfl ?_
      refine rp_isub dX2_faultOf_32 ?_
      refine rp_callS_hi (As := [.int v3, .int (rI 0), .int (x3 - v4)]) (rest := []) (rX6_within σ v3 (rI 0) (x3 - v4)) cbX6_within lkX2_29 stX6_within rfl (Nat.le_of_ble_eq_true rfl) ⟨rfl, rfl, ⟨Nat.le_of_ble_eq_true rfl, Nat.le_of_ble_eq_true rfl⟩, Nat.zero_le _, Nat.zero_le _⟩ rfl (Nat.le_of_ble_eq_true rfl) dX2_faultOf_33 (fun x4 hx4 => ?_)
      refine rp_if_eq (tgt := 43) dX2_faultOf_36 (by decide) ?_ ?_
      · refine rp_iconst dX2_faultOf_43 ?_
        exact rp_iret rfl rfl dX2_faultOf_44
      · refine rp_iconst dX2_faultOf_39 ?_
        refine rp_goto (tgt := 44) dX2_faultOf_40 (by decide) ?_
        exact rp_iret rfl rfl dX2_faultOf_44
    · refine rp_iconst dX2_faultOf_20 ?_
      exact rp_iret rfl rfl dX2_faultOf_21
  · refine rp_iconst dX2_faultOf_8 ?_
    exact rp_iret rfl rfl dX2_faultOf_9
/-! RocketPrint$Sheets.put(III)V -/
abbrev rmX2_put : Room := { frames := 0, cells := 0, slots := 0, locals := 0 }
def fX2_put_33 (σ : rp_S) (v1 : Int32) (v2 : Int32) (v4 : Int32) : Option (rp_S) :=
  ((rq_wr σ 19 160 ((v1 * (rI 40)) + v2) v4).bind fun σ3 =>
    (some σ3))
set_option maxRecDepth 100000 in
theorem rX2_put_33 {E : rp_E} (σ : rp_S) (v1 : Int32) (v2 : Int32) (v4 : Int32) : rp_R E (rp_mK E rmX2_put) mX2_put 33 [some (.ref (E.2.2.2.1 18)), some (.int v1), some (.int v2), none, some (.int v4)] [] σ rp_hv (fX2_put_33 σ v1 v2 v4) := by
  rw [fX2_put_33]
  refine rp_aload_n (x := (E.2.2.2.1 18)) dX2_put_33 rfl ?_
  refine rp_getR (k := 0) (b := 19) sh18 rfl fdX2_9 dX2_put_34 ?_
  refine rp_iload_n (x := v1) dX2_put_37 rfl ?_
  refine rp_bipush dX2_put_38 (by decide) ?_
  refine rp_imul dX2_put_40 ?_
  refine rp_iload_n (x := v2) dX2_put_41 rfl ?_
  refine rp_iadd dX2_put_42 ?_
  refine rp_iload (x := v4) dX2_put_43 rfl ?_
  refine rp_iastore sh19 dX2_put_45 (fun σ3 => ?_)
  exact rp_vret rfl rfl dX2_put_46
def fX2_put (σ : rp_S) (v1 : Int32) (v2 : Int32) (v3 : Int32) : Option (rp_S) :=
  ((rq_rd σ 20 4 v1).bind fun x1 =>
    (if x1 = 0 then
    (fX2_put_33 σ v1 v2 (v3.toInt8.toInt32))
  else
    ((rq_rd σ 20 4 v1).bind fun x2 =>
    (if x2 = (rI 1) then
    (fX2_put_33 σ v1 v2 (v3.toInt16.toInt32))
  else
    (fX2_put_33 σ v1 v2 v3)))))
set_option maxRecDepth 100000 in
theorem rX2_put {E : rp_E} (σ : rp_S) (v1 : Int32) (v2 : Int32) (v3 : Int32)   : rp_R E (rp_mK E rmX2_put) mX2_put 0 [some (.ref (E.2.2.2.1 18)), some (.int v1), some (.int v2), some (.int v3), none] [] σ rp_hv (fX2_put σ v1 v2 v3) := by
  rw [fX2_put]
  refine rp_iload_n (x := v3) dX2_put_0 rfl ?_
  refine rp_istore dX2_put_1 (by decide) rfl ?_
  refine rp_aload_n (x := (E.2.2.2.1 18)) dX2_put_3 rfl ?_
  refine rp_getR (k := 1) (b := 20) sh18 rfl fdX2_15 dX2_put_4 ?_
  refine rp_iload_n (x := v1) dX2_put_7 rfl ?_
  refine rp_iaload sh20 dX2_put_8 (fun x1 => ?_)
  refine rp_if_ne (tgt := 19) dX2_put_9 (by decide) ?_ ?_
  · refine rp_aload_n (x := (E.2.2.2.1 18)) dX2_put_19 rfl ?_
    refine rp_getR (k := 1) (b := 20) sh18 rfl fdX2_15 dX2_put_20 ?_
    refine rp_iload_n (x := v1) dX2_put_23 rfl ?_
    refine rp_iaload sh20 dX2_put_24 (fun x2 => ?_)
    refine rp_iconst dX2_put_25 ?_
    refine rp_icmp_ne (tgt := 33) dX2_put_26 (by decide) ?_ ?_
    · refine rp_mask [true, true, true, false, true] (vs2 := [some (.ref (E.2.2.2.1 18)), some (.int v1), some (.int v2), none, some (.int v3)]) rfl rfl ?_
      exact rX2_put_33 σ v1 v2 v3
    · refine rp_iload_n (x := v3) dX2_put_29 rfl ?_
      refine rp_i2s dX2_put_30 ?_
      refine rp_istore dX2_put_31 (by decide) rfl ?_
      refine rp_mask [true, true, true, false, true] (vs2 := [some (.ref (E.2.2.2.1 18)), some (.int v1), some (.int v2), none, some (.int (v3.toInt16.toInt32))]) rfl rfl ?_
      exact rX2_put_33 σ v1 v2 (v3.toInt16.toInt32)
  · refine rp_iload_n (x := v3) dX2_put_12 rfl ?_
    refine rp_i2b dX2_put_13 ?_
    refine rp_istore dX2_put_14 (by decide) rfl ?_
    refine rp_goto (tgt := 33) dX2_put_16 (by decide) ?_
    refine rp_mask [true, true, true, false, true] (vs2 := [some (.ref (E.2.2.2.1 18)), some (.int v1), some (.int v2), none, some (.int (v3.toInt8.toInt32))]) rfl rfl ?_
    exact rX2_put_33 σ v1 v2 (v3.toInt8.toInt32)
/-! RocketPrint.lay(III)I -/
abbrev rmX6_lay : Room := { frames := 2, cells := 0, slots := 0, locals := 46 }
def fX6_lay (σ : rp_S) (v1 : Int32) (v2 : Int32) (v3 : Int32) : Option (Int32 × rp_S) :=
  ((fX6_within v1 (rI 0) (rI 3)).bind fun x1 =>
    (if x1 = 0 then
    (some ((rI (-1)), σ))
  else
    ((fX2_laneOf σ v1).bind fun x2 =>
    ((fX2_faultOf σ v1 x2 v2 (rI 1)).bind fun x3 =>
    (if x3 = 0 then
    ((fX2_put σ v1 v2 v3).bind fun σ4 =>
    (some ((rI 1), σ4)))
  else
    (some (((rI (-10)) - x3), σ)))))))
set_option maxRecDepth 100000 in
theorem rX6_lay {E : rp_E} (σ : rp_S) (v1 : Int32) (v2 : Int32) (v3 : Int32)   : rp_R E (rp_mK E rmX6_lay) mX6_lay 0 [some (.ref (E.2.2.2.1 0)), some (.int v1), some (.int v2), some (.int v3), none] [] σ rp_hI (fX6_lay σ v1 v2 v3) := by
  rw [fX6_lay]
  refine rp_iload_n (x := v1) dX6_lay_0 rfl ?_
  refine rp_iconst dX6_lay_1 ?_
  refine rp_iconst dX6_lay_2 ?_
  refine rp_callS_hi (As := [.int v1, .int (rI 0), .int (rI 3)]) (rest := []) (rX6_within σ v1 (rI 0) (rI 3)) cbX6_within lkX6_57 stX6_within rfl (Nat.le_of_ble_eq_true rfl) ⟨rfl, rfl, ⟨Nat.le_of_ble_eq_true rfl, Nat.le_of_ble_eq_true rfl⟩, Nat.zero_le _, Nat.zero_le _⟩ rfl (Nat.le_of_ble_eq_true rfl) dX6_lay_3 (fun x1 hx1 => ?_)
  refine rp_if_ne (tgt := 11) dX6_lay_6 (by decide) ?_ ?_
  · refine rp_aload_n (x := (E.2.2.2.1 0)) dX6_lay_11 rfl ?_
    refine rp_getR (k := 5) (b := 18) sh0 rfl fdX6_47 dX6_lay_12 ?_
    refine rp_iload_n (x := v1) dX6_lay_15 rfl ?_
    refine rp_aload_n (x := (E.2.2.2.1 0)) dX6_lay_16 rfl ?_
    refine rp_getR (k := 5) (b := 18) sh0 rfl fdX6_47 dX6_lay_17 ?_
    refine rp_iload_n (x := v1) dX6_lay_20 rfl ?_
    refine rp_callV_hi (As := [.int v1]) (rest := [.int v1, .ref (E.2.2.2.1 18)]) (b := (E.2.2.2.1 18)) (rX2_laneOf σ v1) cbX2_laneOf lkX6_284 viX2_laneOf (rp_rcO sh18 rfl) rfl (Nat.le_of_ble_eq_true rfl) ⟨rfl, rfl, ⟨Nat.le_of_ble_eq_true rfl, Nat.le_of_ble_eq_true rfl⟩, Nat.zero_le _, Nat.zero_le _⟩ rfl (Nat.le_of_ble_eq_true rfl) dX6_lay_21 (fun x2 hx2 => ?_)
    refine rp_iload_n (x := v2) dX6_lay_24 rfl ?_
    refine rp_iconst dX6_lay_25 ?_
    refine rp_callV_hi (As := [.int v1, .int x2, .int v2, .int (rI 1)]) (rest := []) (b := (E.2.2.2.1 18)) (rX2_faultOf σ v1 x2 v2 (rI 1)) cbX2_faultOf lkX6_287 viX2_faultOf (rp_rcO sh18 rfl) rfl (Nat.le_of_ble_eq_true rfl) ⟨rfl, rfl, ⟨Nat.le_of_ble_eq_true rfl, Nat.le_of_ble_eq_true rfl⟩, Nat.zero_le _, Nat.zero_le _⟩ rfl (Nat.le_of_ble_eq_true rfl) dX6_lay_26 (fun x3 hx3 => ?_)
    refine rp_istore dX6_lay_29 (by decide) rfl ?_
    refine rp_iload (x := x3) dX6_lay_31 rfl ?_
    refine rp_if_eq (tgt := 42) dX6_lay_33 (by decide) ?_ ?_
    · refine rp_aload_n (x := (E.2.2.2.1 0)) dX6_lay_42 rfl ?_
      refine rp_getR (k := 5) (b := 18) sh0 rfl fdX6_47 dX6_lay_43 ?_
      refine rp_iload_n (x := v1) dX6_lay_46 rfl ?_
      refine rp_iload_n (x := v2) dX6_lay_47 rfl ?_
      refine rp_iload_n (x := v3) dX6_lay_48 rfl ?_
      refine rp_callV_hv (As := [.int v1, .int v2, .int v3]) (rest := []) (b := (E.2.2.2.1 18)) (rX2_put σ v1 v2 v3) cbX2_put lkX6_290 viX2_put (rp_rcO sh18 rfl) rfl (Nat.le_of_ble_eq_true rfl) ⟨rfl, rfl, ⟨Nat.le_of_ble_eq_true rfl, Nat.le_of_ble_eq_true rfl⟩, Nat.zero_le _, Nat.zero_le _⟩ rfl (Nat.le_of_ble_eq_true rfl) dX6_lay_49 (fun σ4 hσ4 => ?_)
      refine rp_iconst dX6_lay_52 ?_
      exact rp_iret rfl rfl dX6_lay_53
    · refine rp_bipush dX6_lay_36 (by decide) ?_
      refine rp_iload (x := x3) dX6_lay_38 rfl ?_
      refine rp_isub dX6_lay_40 ?_
      exact rp_iret rfl rfl dX6_lay_41
  · refine rp_iconst dX6_lay_9 ?_
    exact rp_iret rfl rfl dX6_lay_10
/-! RocketPrintModel.lay(III)I -/
abbrev rmX7_lay : Room := { frames := 1, cells := 0, slots := 0, locals := 25 }
def fX7_lay_99 (σ : rp_S) (s0 : Int32) (s1 : Int32) : Option (Int32 × rp_S) :=
  ((rq_wr σ 40 160 s1 s0).bind fun σ7 =>
    (some ((rI 1), σ7)))
set_option maxRecDepth 100000 in
theorem rX7_lay_99 {E : rp_E} (σ : rp_S) (s0 : Int32) (s1 : Int32) : rp_R E (rp_mK E rmX7_lay) mX7_lay 99 [none, none, none, none] [.int s0, .int s1, .ref (E.2.2.2.1 40)] σ rp_hI (fX7_lay_99 σ s0 s1) := by
  rw [fX7_lay_99]
  refine rp_iastore sh40 dX7_lay_99 (fun σ7 => ?_)
  refine rp_iconst dX7_lay_100 ?_
  exact rp_iret rfl rfl dX7_lay_101
def fX7_lay (σ : rp_S) (v1 : Int32) (v2 : Int32) (v3 : Int32) : Option (Int32 × rp_S) :=
  ((fX7_in (v1.toInt64) (rJ 0) (rJ 3)).bind fun x1 =>
    (if x1 = 0 then
    (some ((rI (-1)), σ))
  else
    ((rq_rd σ 38 4 v1).bind fun x2 =>
    (if x2 = (rI (-4)) then
    (some ((rI (-11)), σ))
  else
    ((rq_rd σ 39 4 v1).bind fun x3 =>
    ((fX7_in (v2.toInt64) (rJ 0) (x3 - (rI 1)).toInt64).bind fun x4 =>
    (if x4 = 0 then
    (some ((rI (-12)), σ))
  else
    ((rq_rd σ 38 4 v1).bind fun x5 =>
    (if x5 = 0 then
    (fX7_lay_99 σ ((v3 <<< ((rI 24) &&& 31)) >>> ((rI 24) &&& 31)) (((rI 40) * v1) + v2))
  else
    ((rq_rd σ 38 4 v1).bind fun x6 =>
    (if x6 = (rI 1) then
    (fX7_lay_99 σ ((v3 <<< ((rI 16) &&& 31)) >>> ((rI 16) &&& 31)) (((rI 40) * v1) + v2))
  else
    (fX7_lay_99 σ v3 (((rI 40) * v1) + v2)))))))))))))
set_option maxRecDepth 100000 in
theorem rX7_lay {E : rp_E} (σ : rp_S) (v1 : Int32) (v2 : Int32) (v3 : Int32)   : rp_R E (rp_mK E rmX7_lay) mX7_lay 0 [some (.ref (E.2.2.2.1 28)), some (.int v1), some (.int v2), some (.int v3)] [] σ rp_hI (fX7_lay σ v1 v2 v3) := by
  rw [fX7_lay]
  refine rp_iload_n (x := v1) dX7_lay_0 rfl ?_
  refine rp_i2l dX7_lay_1 ?_
  refine rp_lconst dX7_lay_2 0 (by decide) ?_
  refine rp_ldc2 (v := (rJ 3)) clX7_181 dX7_lay_3 ?_
  refine rp_callS_hi (As := [.long (v1.toInt64), .long (rJ 0), .long (rJ 3)]) (rest := []) (rX7_in σ (v1.toInt64) (rJ 0) (rJ 3)) cbX7_in lkX7_49 stX7_in rfl (Nat.le_of_ble_eq_true rfl) ⟨rfl, rfl, ⟨Nat.le_of_ble_eq_true rfl, Nat.le_of_ble_eq_true rfl⟩, Nat.zero_le _, Nat.zero_le _⟩ rfl (Nat.le_of_ble_eq_true rfl) dX7_lay_6 (fun x1 hx1 => ?_)
  refine rp_if_ne (tgt := 14) dX7_lay_9 (by decide) ?_ ?_
  · refine rp_aload_n (x := (E.2.2.2.1 28)) dX7_lay_14 rfl ?_
    refine rp_getR (k := 23) (b := 38) sh28 rfl fdX7_38 dX7_lay_15 ?_
    refine rp_iload_n (x := v1) dX7_lay_18 rfl ?_
    refine rp_iaload sh38 dX7_lay_19 (fun x2 => ?_)
    refine rp_bipush dX7_lay_20 (by decide) ?_
    refine rp_icmp_ne (tgt := 28) dX7_lay_22 (by decide) ?_ ?_
    · refine rp_iload_n (x := v2) dX7_lay_28 rfl ?_
      refine rp_i2l dX7_lay_29 ?_
      refine rp_lconst dX7_lay_30 0 (by decide) ?_
      refine rp_aload_n (x := (E.2.2.2.1 28)) dX7_lay_31 rfl ?_
      refine rp_getR (k := 24) (b := 39) sh28 rfl fdX7_41 dX7_lay_32 ?_
      refine rp_iload_n (x := v1) dX7_lay_35 rfl ?_
      refine rp_iaload sh39 dX7_lay_36 (fun x3 => ?_)
      refine rp_iconst dX7_lay_37 ?_
      refine rp_isub dX7_lay_38 ?_
      refine rp_i2l dX7_lay_39 ?_
      refine rp_callS_hi (As := [.long (v2.toInt64), .long (rJ 0), .long (x3 - (rI 1)).toInt64]) (rest := []) (rX7_in σ (v2.toInt64) (rJ 0) (x3 - (rI 1)).toInt64) cbX7_in lkX7_49 stX7_in rfl (Nat.le_of_ble_eq_true rfl) ⟨rfl, rfl, ⟨Nat.le_of_ble_eq_true rfl, Nat.le_of_ble_eq_true rfl⟩, Nat.zero_le _, Nat.zero_le _⟩ rfl (Nat.le_of_ble_eq_true rfl) dX7_lay_40 (fun x4 hx4 => ?_)
      refine rp_if_ne (tgt := 49) dX7_lay_43 (by decide) ?_ ?_
      · refine rp_aload_n (x := (E.2.2.2.1 28)) dX7_lay_49 rfl ?_
        refine rp_getR (k := 25) (b := 40) sh28 rfl fdX7_44 dX7_lay_50 ?_
        refine rp_bipush dX7_lay_53 (by decide) ?_
        refine rp_iload_n (x := v1) dX7_lay_55 rfl ?_
        refine rp_imul dX7_lay_56 ?_
        refine rp_iload_n (x := v2) dX7_lay_57 rfl ?_
        refine rp_iadd dX7_lay_58 ?_
        refine rp_aload_n (x := (E.2.2.2.1 28)) dX7_lay_59 rfl ?_
        refine rp_getR (k := 23) (b := 38) sh28 rfl fdX7_38 dX7_lay_60 ?_
        refine rp_iload_n (x := v1) dX7_lay_63 rfl ?_
        refine rp_iaload sh38 dX7_lay_64 (fun x5 => ?_)
        refine rp_if_ne (tgt := 78) dX7_lay_65 (by decide) ?_ ?_
        · refine rp_aload_n (x := (E.2.2.2.1 28)) dX7_lay_78 rfl ?_
          refine rp_getR (k := 23) (b := 38) sh28 rfl fdX7_38 dX7_lay_79 ?_
          refine rp_iload_n (x := v1) dX7_lay_82 rfl ?_
          refine rp_iaload sh38 dX7_lay_83 (fun x6 => ?_)
          refine rp_iconst dX7_lay_84 ?_
          refine rp_icmp_ne (tgt := 98) dX7_lay_85 (by decide) ?_ ?_
          · refine rp_iload_n (x := v3) dX7_lay_98 rfl ?_
            refine rp_mask [false, false, false, false] (vs2 := [none, none, none, none]) rfl rfl ?_
            exact rX7_lay_99 σ v3 (((rI 40) * v1) + v2)
          · refine rp_iload_n (x := v3) dX7_lay_88 rfl ?_
            refine rp_bipush dX7_lay_89 (by decide) ?_
            refine rp_ishl dX7_lay_91 ?_
            refine rp_bipush dX7_lay_92 (by decide) ?_
            refine rp_ishr dX7_lay_94 ?_
            refine rp_goto (tgt := 99) dX7_lay_95 (by decide) ?_
            refine rp_mask [false, false, false, false] (vs2 := [none, none, none, none]) rfl rfl ?_
            exact rX7_lay_99 σ ((v3 <<< ((rI 16) &&& 31)) >>> ((rI 16) &&& 31)) (((rI 40) * v1) + v2)
        · refine rp_iload_n (x := v3) dX7_lay_68 rfl ?_
          refine rp_bipush dX7_lay_69 (by decide) ?_
          refine rp_ishl dX7_lay_71 ?_
          refine rp_bipush dX7_lay_72 (by decide) ?_
          refine rp_ishr dX7_lay_74 ?_
          refine rp_goto (tgt := 99) dX7_lay_75 (by decide) ?_
          refine rp_mask [false, false, false, false] (vs2 := [none, none, none, none]) rfl rfl ?_
          exact rX7_lay_99 σ ((v3 <<< ((rI 24) &&& 31)) >>> ((rI 24) &&& 31)) (((rI 40) * v1) + v2)
      · refine rp_bipush dX7_lay_46 (by decide) ?_
        exact rp_iret rfl rfl dX7_lay_48
    · refine rp_bipush dX7_lay_25 (by decide) ?_
      exact rp_iret rfl rfl dX7_lay_27
  · refine rp_iconst dX7_lay_12 ?_
    exact rp_iret rfl rfl dX7_lay_13
/-! RocketPrint$Sheets.at(II)I -/
abbrev rmX2_at : Room := { frames := 0, cells := 0, slots := 0, locals := 0 }
def fX2_at (σ : rp_S) (v1 : Int32) (v2 : Int32) : Option (Int32) :=
  ((rq_rd σ 19 160 ((v1 * (rI 40)) + v2)).bind fun x1 =>
    (some x1))
set_option maxRecDepth 100000 in
theorem rX2_at {E : rp_E} (σ : rp_S) (v1 : Int32) (v2 : Int32)   : rp_R E (rp_mK E rmX2_at) mX2_at 0 [some (.ref (E.2.2.2.1 18)), some (.int v1), some (.int v2)] [] σ (rp_hi σ) (fX2_at σ v1 v2) := by
  rw [fX2_at]
  refine rp_aload_n (x := (E.2.2.2.1 18)) dX2_at_0 rfl ?_
  refine rp_getR (k := 0) (b := 19) sh18 rfl fdX2_9 dX2_at_1 ?_
  refine rp_iload_n (x := v1) dX2_at_4 rfl ?_
  refine rp_bipush dX2_at_5 (by decide) ?_
  refine rp_imul dX2_at_7 ?_
  refine rp_iload_n (x := v2) dX2_at_8 rfl ?_
  refine rp_iadd dX2_at_9 ?_
  refine rp_iaload sh19 dX2_at_10 (fun x1 => ?_)
  exact rp_iret rfl rfl dX2_at_11
/-! RocketPrint.addFromSheet(II)I -/
abbrev rmX6_addFromSheet : Room := { frames := 3, cells := 0, slots := 0, locals := 67 }
def fX6_addFromSheet (σ : rp_S) (v1 : Int32) (v2 : Int32) : Option (Int32 × rp_S) :=
  ((fX2_at σ v1 (v2 + (rI 0))).bind fun x1 =>
    ((fX2_at σ v1 (v2 + (rI 1))).bind fun x2 =>
    ((fX2_at σ v1 (v2 + (rI 2))).bind fun x3 =>
    ((fX2_at σ v1 (v2 + (rI 3))).bind fun x4 =>
    ((fX1_addWork σ 1 x1 x2 x3 x4).bind fun p5 =>
    (some (p5.1, p5.2)))))))
set_option maxRecDepth 100000 in
theorem rX6_addFromSheet {E : rp_E} (σ : rp_S) (v1 : Int32) (v2 : Int32)   : rp_R E (rp_mK E rmX6_addFromSheet) mX6_addFromSheet 0 [some (.ref (E.2.2.2.1 0)), some (.int v1), some (.int v2)] [] σ rp_hI (fX6_addFromSheet σ v1 v2) := by
  rw [fX6_addFromSheet]
  refine rp_aload_n (x := (E.2.2.2.1 0)) dX6_addFromSheet_0 rfl ?_
  refine rp_getR (k := 0) (b := 1) sh0 rfl fdX6_10 dX6_addFromSheet_1 ?_
  refine rp_aload_n (x := (E.2.2.2.1 0)) dX6_addFromSheet_4 rfl ?_
  refine rp_getR (k := 5) (b := 18) sh0 rfl fdX6_47 dX6_addFromSheet_5 ?_
  refine rp_iload_n (x := v1) dX6_addFromSheet_8 rfl ?_
  refine rp_iload_n (x := v2) dX6_addFromSheet_9 rfl ?_
  refine rp_iconst dX6_addFromSheet_10 ?_
  refine rp_iadd dX6_addFromSheet_11 ?_
  refine rp_callV_hi (As := [.int v1, .int (v2 + (rI 0))]) (rest := [.ref (E.2.2.2.1 1)]) (b := (E.2.2.2.1 18)) (rX2_at σ v1 (v2 + (rI 0))) cbX2_at lkX6_299 viX2_at (rp_rcO sh18 rfl) rfl (Nat.le_of_ble_eq_true rfl) ⟨rfl, rfl, ⟨Nat.le_of_ble_eq_true rfl, Nat.le_of_ble_eq_true rfl⟩, Nat.zero_le _, Nat.zero_le _⟩ rfl (Nat.le_of_ble_eq_true rfl) dX6_addFromSheet_12 (fun x1 hx1 => ?_)
  refine rp_aload_n (x := (E.2.2.2.1 0)) dX6_addFromSheet_15 rfl ?_
  refine rp_getR (k := 5) (b := 18) sh0 rfl fdX6_47 dX6_addFromSheet_16 ?_
  refine rp_iload_n (x := v1) dX6_addFromSheet_19 rfl ?_
  refine rp_iload_n (x := v2) dX6_addFromSheet_20 rfl ?_
  refine rp_iconst dX6_addFromSheet_21 ?_
  refine rp_iadd dX6_addFromSheet_22 ?_
  refine rp_callV_hi (As := [.int v1, .int (v2 + (rI 1))]) (rest := [.int x1, .ref (E.2.2.2.1 1)]) (b := (E.2.2.2.1 18)) (rX2_at σ v1 (v2 + (rI 1))) cbX2_at lkX6_299 viX2_at (rp_rcO sh18 rfl) rfl (Nat.le_of_ble_eq_true rfl) ⟨rfl, rfl, ⟨Nat.le_of_ble_eq_true rfl, Nat.le_of_ble_eq_true rfl⟩, Nat.zero_le _, Nat.zero_le _⟩ rfl (Nat.le_of_ble_eq_true rfl) dX6_addFromSheet_23 (fun x2 hx2 => ?_)
  refine rp_aload_n (x := (E.2.2.2.1 0)) dX6_addFromSheet_26 rfl ?_
  refine rp_getR (k := 5) (b := 18) sh0 rfl fdX6_47 dX6_addFromSheet_27 ?_
  refine rp_iload_n (x := v1) dX6_addFromSheet_30 rfl ?_
  refine rp_iload_n (x := v2) dX6_addFromSheet_31 rfl ?_
  refine rp_iconst dX6_addFromSheet_32 ?_
  refine rp_iadd dX6_addFromSheet_33 ?_
  refine rp_callV_hi (As := [.int v1, .int (v2 + (rI 2))]) (rest := [.int x2, .int x1, .ref (E.2.2.2.1 1)]) (b := (E.2.2.2.1 18)) (rX2_at σ v1 (v2 + (rI 2))) cbX2_at lkX6_299 viX2_at (rp_rcO sh18 rfl) rfl (Nat.le_of_ble_eq_true rfl) ⟨rfl, rfl, ⟨Nat.le_of_ble_eq_true rfl, Nat.le_of_ble_eq_true rfl⟩, Nat.zero_le _, Nat.zero_le _⟩ rfl (Nat.le_of_ble_eq_true rfl) dX6_addFromSheet_34 (fun x3 hx3 => ?_)
  refine rp_aload_n (x := (E.2.2.2.1 0)) dX6_addFromSheet_37 rfl ?_
  refine rp_getR (k := 5) (b := 18) sh0 rfl fdX6_47 dX6_addFromSheet_38 ?_
  refine rp_iload_n (x := v1) dX6_addFromSheet_41 rfl ?_
  refine rp_iload_n (x := v2) dX6_addFromSheet_42 rfl ?_
  refine rp_iconst dX6_addFromSheet_43 ?_
  refine rp_iadd dX6_addFromSheet_44 ?_
  refine rp_callV_hi (As := [.int v1, .int (v2 + (rI 3))]) (rest := [.int x3, .int x2, .int x1, .ref (E.2.2.2.1 1)]) (b := (E.2.2.2.1 18)) (rX2_at σ v1 (v2 + (rI 3))) cbX2_at lkX6_299 viX2_at (rp_rcO sh18 rfl) rfl (Nat.le_of_ble_eq_true rfl) ⟨rfl, rfl, ⟨Nat.le_of_ble_eq_true rfl, Nat.le_of_ble_eq_true rfl⟩, Nat.zero_le _, Nat.zero_le _⟩ rfl (Nat.le_of_ble_eq_true rfl) dX6_addFromSheet_45 (fun x4 hx4 => ?_)
  refine rp_callV_hI (As := [.int x1, .int x2, .int x3, .int x4]) (rest := []) (b := (E.2.2.2.1 1)) (rX1_addWork σ 1 x1 x2 x3 x4 ni1) cbX1_addWork lkX6_173 viX1_addWork (rp_rcO sh1 rfl) rfl (Nat.le_of_ble_eq_true rfl) ⟨rfl, rfl, ⟨Nat.le_of_ble_eq_true rfl, Nat.le_of_ble_eq_true rfl⟩, Nat.zero_le _, Nat.zero_le _⟩ rfl (Nat.le_of_ble_eq_true rfl) dX6_addFromSheet_48 (fun p5 hp5 => ?_)
  exact rp_iret rfl rfl dX6_addFromSheet_51
/-! RocketPrint.read(IIII)I -/
abbrev rmX6_read : Room := { frames := 4, cells := 0, slots := 0, locals := 89 }
def fX6_read_122 (σ : rp_S) (v6 : Int32) (v7 : Int32) : Option (Int32 × rp_S) :=
  ((some (rp_up σ 0 9 v6)).bind fun σ4 =>
    (some (v7, σ4)))
set_option maxRecDepth 100000 in
theorem rX6_read_122 {E : rp_E} (σ : rp_S) (v6 : Int32) (v7 : Int32) : rp_R E (rp_mK E rmX6_read) mX6_read 122 [some (.ref (E.2.2.2.1 0)), none, none, none, none, none, some (.int v6), some (.int v7), none, none] [] σ rp_hI (fX6_read_122 σ v6 v7) := by
  rw [fX6_read_122]
  refine rp_aload_n (x := (E.2.2.2.1 0)) dX6_read_122 rfl ?_
  refine rp_iload (x := v6) dX6_read_123 rfl ?_
  refine rp_putB (k := 9) sh0 rfl fpX6_296 (vp_nar_int _) rfl dX6_read_125 (fun σ4 => ?_)
  refine rp_iload (x := v7) dX6_read_128 rfl ?_
  exact rp_iret rfl rfl dX6_read_130
def fX6_read_116 (k49 : rp_S → Int32 → Int32 → Int32 → Int32 → Int32 → Int32 → Int32 → Int32 → Option (Int32 × rp_S)) (σ : rp_S) (v1 : Int32) (v2 : Int32) (v3 : Int32) (v4 : Int32) (v5 : Int32) (v6 : Int32) (v7 : Int32) (v8 : Int32) : Option (Int32 × rp_S) :=
  (k49 σ v1 v2 v3 v4 v5 v6 v7 (v8 + (rI 1)))
set_option maxRecDepth 100000 in
theorem rX6_read_116 {E : rp_E} (k49 : rp_S → Int32 → Int32 → Int32 → Int32 → Int32 → Int32 → Int32 → Int32 → Option (Int32 × rp_S)) (hk49 : ∀ (σ : rp_S) (v1 : Int32) (v2 : Int32) (v3 : Int32) (v4 : Int32) (v5 : Int32) (v6 : Int32) (v7 : Int32) (v8 : Int32), rp_R E (rp_mK E rmX6_read) mX6_read 49 [some (.ref (E.2.2.2.1 0)), some (.int v1), some (.int v2), some (.int v3), some (.int v4), some (.int v5), some (.int v6), some (.int v7), some (.int v8), none] [] σ rp_hI (k49 σ v1 v2 v3 v4 v5 v6 v7 v8)) (σ : rp_S) (v1 : Int32) (v2 : Int32) (v3 : Int32) (v4 : Int32) (v5 : Int32) (v6 : Int32) (v7 : Int32) (v8 : Int32) : rp_R E (rp_mK E rmX6_read) mX6_read 116 [some (.ref (E.2.2.2.1 0)), some (.int v1), some (.int v2), some (.int v3), some (.int v4), some (.int v5), some (.int v6), some (.int v7), some (.int v8), none] [] σ rp_hI (fX6_read_116 k49 σ v1 v2 v3 v4 v5 v6 v7 v8) := by
  rw [fX6_read_116]
  refine rp_iinc (x := v8) dX6_read_116 rfl (by decide) rfl ?_
  refine rp_goto (tgt := 49) dX6_read_119 (by decide) ?_
  refine rp_mask [true, true, true, true, true, true, true, true, true, false] (vs2 := [some (.ref (E.2.2.2.1 0)), some (.int v1), some (.int v2), some (.int v3), some (.int v4), some (.int v5), some (.int v6), some (.int v7), some (.int (v8 + (rI 1))), none]) rfl rfl ?_
  exact hk49 σ v1 v2 v3 v4 v5 v6 v7 (v8 + (rI 1))
def fX6_read_49  : Nat → rp_S → Int32 → Int32 → Int32 → Int32 → Int32 → Int32 → Int32 → Int32 → Option (Int32 × rp_S)
  | 0, _, _, _, _, _, _, _, _, _ => none
  | n + 1, σ, v1, v2, v3, v4, v5, v6, v7, v8 =>
    (if v4 ≤ v8 then
    (fX6_read_122 σ v6 v7)
  else
    (if v6 = 0 then
    ((fX2_faultOf σ v1 v2 (v3 + ((rI 4) * v8)) (rI 4)).bind fun x5 =>
    (if x5 = 0 then
    ((fX6_addFromSheet σ v1 (v3 + ((rI 4) * v8))).bind fun p6 =>
    (if 0 ≤ p6.1 then
    (fX6_read_116 (fun σ v1 v2 v3 v4 v5 v6 v7 v8 => fX6_read_49 n σ v1 v2 v3 v4 v5 v6 v7 v8) p6.2 v1 v2 v3 v4 v5 x5 (v7 + (rI 1)) v8)
  else
    ((some (rp_up p6.2 1 2 v5)).bind fun σ7 =>
    (some (((rI (-20)) - v8), σ7)))))
  else
    (fX6_read_116 (fun σ v1 v2 v3 v4 v5 v6 v7 v8 => fX6_read_49 n σ v1 v2 v3 v4 v5 v6 v7 v8) σ v1 v2 v3 v4 v5 x5 v7 v8)))
  else
    (fX6_read_122 σ v6 v7)))
set_option maxRecDepth 100000 in
theorem rX6_read_49 {E : rp_E}  : ∀ (n : Nat) (σ : rp_S) (v1 : Int32) (v2 : Int32) (v3 : Int32) (v4 : Int32) (v5 : Int32) (v6 : Int32) (v7 : Int32) (v8 : Int32), rp_R E (rp_mK E rmX6_read) mX6_read 49 [some (.ref (E.2.2.2.1 0)), some (.int v1), some (.int v2), some (.int v3), some (.int v4), some (.int v5), some (.int v6), some (.int v7), some (.int v8), none] [] σ rp_hI (fX6_read_49 n σ v1 v2 v3 v4 v5 v6 v7 v8) := by
  intro n
  induction n with
  | zero =>
    intro σ v1 v2 v3 v4 v5 v6 v7 v8
    rw [fX6_read_49]
    exact rp_none
  | succ n ih =>
    intro σ v1 v2 v3 v4 v5 v6 v7 v8
    rw [fX6_read_49]
    refine rp_iload (x := v8) dX6_read_49 rfl ?_
    refine rp_iload (x := v4) dX6_read_51 rfl ?_
    refine rp_icmp_ge (tgt := 122) dX6_read_53 (by decide) ?_ ?_
    · refine rp_mask [true, false, false, false, false, false, true, true, false, false] (vs2 := [some (.ref (E.2.2.2.1 0)), none, none, none, none, none, some (.int v6), some (.int v7), none, none]) rfl rfl ?_
      exact rX6_read_122 σ v6 v7
    · refine rp_iload (x := v6) dX6_read_56 rfl ?_
      refine rp_if_ne (tgt := 122) dX6_read_58 (by decide) ?_ ?_
      · refine rp_mask [true, false, false, false, false, false, true, true, false, false] (vs2 := [some (.ref (E.2.2.2.1 0)), none, none, none, none, none, some (.int v6), some (.int v7), none, none]) rfl rfl ?_
        exact rX6_read_122 σ v6 v7
      · refine rp_iload_n (x := v3) dX6_read_61 rfl ?_
        refine rp_iconst dX6_read_62 ?_
        refine rp_iload (x := v8) dX6_read_63 rfl ?_
        refine rp_imul dX6_read_65 ?_
        refine rp_iadd dX6_read_66 ?_
        refine rp_istore dX6_read_67 (by decide) rfl ?_
        refine rp_aload_n (x := (E.2.2.2.1 0)) dX6_read_69 rfl ?_
        refine rp_getR (k := 5) (b := 18) sh0 rfl fdX6_47 dX6_read_70 ?_
        refine rp_iload_n (x := v1) dX6_read_73 rfl ?_
        refine rp_iload_n (x := v2) dX6_read_74 rfl ?_
        refine rp_iload (x := (v3 + ((rI 4) * v8))) dX6_read_75 rfl ?_
        refine rp_iconst dX6_read_77 ?_
        refine rp_callV_hi (As := [.int v1, .int v2, .int (v3 + ((rI 4) * v8)), .int (rI 4)]) (rest := []) (b := (E.2.2.2.1 18)) (rX2_faultOf σ v1 v2 (v3 + ((rI 4) * v8)) (rI 4)) cbX2_faultOf lkX6_287 viX2_faultOf (rp_rcO sh18 rfl) rfl (Nat.le_of_ble_eq_true rfl) ⟨rfl, rfl, ⟨Nat.le_of_ble_eq_true rfl, Nat.le_of_ble_eq_true rfl⟩, Nat.zero_le _, Nat.zero_le _⟩ rfl (Nat.le_of_ble_eq_true rfl) dX6_read_78 (fun x5 hx5 => ?_)
        refine rp_istore dX6_read_81 (by decide) rfl ?_
        refine rp_iload (x := x5) dX6_read_83 rfl ?_
        refine rp_if_ne (tgt := 116) dX6_read_85 (by decide) ?_ ?_
        · refine rp_mask [true, true, true, true, true, true, true, true, true, false] (vs2 := [some (.ref (E.2.2.2.1 0)), some (.int v1), some (.int v2), some (.int v3), some (.int v4), some (.int v5), some (.int x5), some (.int v7), some (.int v8), none]) rfl rfl ?_
          exact rX6_read_116 (fun σ v1 v2 v3 v4 v5 v6 v7 v8 => fX6_read_49 n σ v1 v2 v3 v4 v5 v6 v7 v8) (fun σ v1 v2 v3 v4 v5 v6 v7 v8 => ih σ v1 v2 v3 v4 v5 v6 v7 v8) σ v1 v2 v3 v4 v5 x5 v7 v8
        · refine rp_aload_n (x := (E.2.2.2.1 0)) dX6_read_88 rfl ?_
          refine rp_iload_n (x := v1) dX6_read_89 rfl ?_
          refine rp_iload (x := (v3 + ((rI 4) * v8))) dX6_read_90 rfl ?_
          refine rp_callV_hI (As := [.int v1, .int (v3 + ((rI 4) * v8))]) (rest := []) (b := (E.2.2.2.1 0)) (rX6_addFromSheet σ v1 (v3 + ((rI 4) * v8))) cbX6_addFromSheet lkX6_293 viX6_addFromSheet (rp_rcO sh0 rfl) rfl (Nat.le_of_ble_eq_true rfl) ⟨rfl, rfl, ⟨Nat.le_of_ble_eq_true rfl, Nat.le_of_ble_eq_true rfl⟩, Nat.zero_le _, Nat.zero_le _⟩ rfl (Nat.le_of_ble_eq_true rfl) dX6_read_92 (fun p6 hp6 => ?_)
          refine rp_if_ge (tgt := 113) dX6_read_95 (by decide) ?_ ?_
          · refine rp_iinc (x := v7) dX6_read_113 rfl (by decide) rfl ?_
            refine rp_mask [true, true, true, true, true, true, true, true, true, false] (vs2 := [some (.ref (E.2.2.2.1 0)), some (.int v1), some (.int v2), some (.int v3), some (.int v4), some (.int v5), some (.int x5), some (.int (v7 + (rI 1))), some (.int v8), none]) rfl rfl ?_
            exact rX6_read_116 (fun σ v1 v2 v3 v4 v5 v6 v7 v8 => fX6_read_49 n σ v1 v2 v3 v4 v5 v6 v7 v8) (fun σ v1 v2 v3 v4 v5 v6 v7 v8 => ih σ v1 v2 v3 v4 v5 v6 v7 v8) p6.2 v1 v2 v3 v4 v5 x5 (v7 + (rI 1)) v8
          · refine rp_aload_n (x := (E.2.2.2.1 0)) dX6_read_98 rfl ?_
            refine rp_getR (k := 0) (b := 1) sh0 rfl fdX6_10 dX6_read_99 ?_
            refine rp_iload (x := v5) dX6_read_102 rfl ?_
            refine rp_putB (k := 2) sh1 rfl fpX6_92 (vp_nar_int _) rfl dX6_read_104 (fun σ7 => ?_)
            refine rp_bipush dX6_read_107 (by decide) ?_
            refine rp_iload (x := v8) dX6_read_109 rfl ?_
            refine rp_isub dX6_read_111 ?_
            exact rp_iret rfl rfl dX6_read_112
def fX6_read (σ : rp_S) (v1 : Int32) (v2 : Int32) (v3 : Int32) (v4 : Int32) : Option (Int32 × rp_S) :=
  ((fX6_within v1 (rI 0) (rI 3)).bind fun x1 =>
    (if x1 = 0 then
    (some ((rI (-1)), σ))
  else
    ((fX6_within v2 (rI 0) (rI 2)).bind fun x2 =>
    (if x2 = 0 then
    (some ((rI (-1)), σ))
  else
    ((fX6_within v4 (rI 0) (rI 10)).bind fun x3 =>
    (if x3 = 0 then
    (some ((rI (-1)), σ))
  else
    (fX6_read_49 1000 σ v1 v2 v3 v4 (σ 1 2) (rI 0) (rI 0) (rI 0))))))))
set_option maxRecDepth 100000 in
theorem rX6_read {E : rp_E} (σ : rp_S) (v1 : Int32) (v2 : Int32) (v3 : Int32) (v4 : Int32)   : rp_R E (rp_mK E rmX6_read) mX6_read 0 [some (.ref (E.2.2.2.1 0)), some (.int v1), some (.int v2), some (.int v3), some (.int v4), none, none, none, none, none] [] σ rp_hI (fX6_read σ v1 v2 v3 v4) := by
  rw [fX6_read]
  refine rp_iload_n (x := v1) dX6_read_0 rfl ?_
  refine rp_iconst dX6_read_1 ?_
  refine rp_iconst dX6_read_2 ?_
  refine rp_callS_hi (As := [.int v1, .int (rI 0), .int (rI 3)]) (rest := []) (rX6_within σ v1 (rI 0) (rI 3)) cbX6_within lkX6_57 stX6_within rfl (Nat.le_of_ble_eq_true rfl) ⟨rfl, rfl, ⟨Nat.le_of_ble_eq_true rfl, Nat.le_of_ble_eq_true rfl⟩, Nat.zero_le _, Nat.zero_le _⟩ rfl (Nat.le_of_ble_eq_true rfl) dX6_read_3 (fun x1 hx1 => ?_)
  refine rp_if_eq (tgt := 29) dX6_read_6 (by decide) ?_ ?_
  · refine rp_iconst dX6_read_29 ?_
    exact rp_iret rfl rfl dX6_read_30
  · refine rp_iload_n (x := v2) dX6_read_9 rfl ?_
    refine rp_iconst dX6_read_10 ?_
    refine rp_iconst dX6_read_11 ?_
    refine rp_callS_hi (As := [.int v2, .int (rI 0), .int (rI 2)]) (rest := []) (rX6_within σ v2 (rI 0) (rI 2)) cbX6_within lkX6_57 stX6_within rfl (Nat.le_of_ble_eq_true rfl) ⟨rfl, rfl, ⟨Nat.le_of_ble_eq_true rfl, Nat.le_of_ble_eq_true rfl⟩, Nat.zero_le _, Nat.zero_le _⟩ rfl (Nat.le_of_ble_eq_true rfl) dX6_read_12 (fun x2 hx2 => ?_)
    refine rp_if_eq (tgt := 29) dX6_read_15 (by decide) ?_ ?_
    · refine rp_iconst dX6_read_29 ?_
      exact rp_iret rfl rfl dX6_read_30
    · refine rp_iload (x := v4) dX6_read_18 rfl ?_
      refine rp_iconst dX6_read_20 ?_
      refine rp_bipush dX6_read_21 (by decide) ?_
      refine rp_callS_hi (As := [.int v4, .int (rI 0), .int (rI 10)]) (rest := []) (rX6_within σ v4 (rI 0) (rI 10)) cbX6_within lkX6_57 stX6_within rfl (Nat.le_of_ble_eq_true rfl) ⟨rfl, rfl, ⟨Nat.le_of_ble_eq_true rfl, Nat.le_of_ble_eq_true rfl⟩, Nat.zero_le _, Nat.zero_le _⟩ rfl (Nat.le_of_ble_eq_true rfl) dX6_read_23 (fun x3 hx3 => ?_)
      refine rp_if_ne (tgt := 31) dX6_read_26 (by decide) ?_ ?_
      · refine rp_aload_n (x := (E.2.2.2.1 0)) dX6_read_31 rfl ?_
        refine rp_getR (k := 0) (b := 1) sh0 rfl fdX6_10 dX6_read_32 ?_
        refine rp_getI (k := 2) sh1 rfl fdX6_92 dX6_read_35 ?_
        refine rp_istore dX6_read_38 (by decide) rfl ?_
        refine rp_iconst dX6_read_40 ?_
        refine rp_istore dX6_read_41 (by decide) rfl ?_
        refine rp_iconst dX6_read_43 ?_
        refine rp_istore dX6_read_44 (by decide) rfl ?_
        refine rp_iconst dX6_read_46 ?_
        refine rp_istore dX6_read_47 (by decide) rfl ?_
        refine rp_mask [true, true, true, true, true, true, true, true, true, false] (vs2 := [some (.ref (E.2.2.2.1 0)), some (.int v1), some (.int v2), some (.int v3), some (.int v4), some (.int (σ 1 2)), some (.int (rI 0)), some (.int (rI 0)), some (.int (rI 0)), none]) rfl rfl ?_
        exact rX6_read_49 1000 σ v1 v2 v3 v4 (σ 1 2) (rI 0) (rI 0) (rI 0)
      · refine rp_iconst dX6_read_29 ?_
        exact rp_iret rfl rfl dX6_read_30
/-! RocketPrintModel.read(IIII)I -/
abbrev rmX7_read : Room := { frames := 4, cells := 0, slots := 0, locals := 91 }
def fX7_read_214 (σ : rp_S) (v5 : Int32) (v6 : Int32) : Option (Int32 × rp_S) :=
  ((some (rp_up σ 28 26 v5)).bind fun σ5 =>
    (some (v6, σ5)))
set_option maxRecDepth 100000 in
theorem rX7_read_214 {E : rp_E} (σ : rp_S) (v5 : Int32) (v6 : Int32) : rp_R E (rp_mK E rmX7_read) mX7_read 214 [some (.ref (E.2.2.2.1 28)), none, none, none, none, some (.int v5), some (.int v6), none, none] [] σ rp_hI (fX7_read_214 σ v5 v6) := by
  rw [fX7_read_214]
  refine rp_aload_n (x := (E.2.2.2.1 28)) dX7_read_214 rfl ?_
  refine rp_iload (x := v5) dX7_read_215 rfl ?_
  refine rp_putB (k := 26) sh28 rfl fpX7_239 (vp_nar_int _) rfl dX7_read_217 (fun σ5 => ?_)
  refine rp_iload (x := v6) dX7_read_220 rfl ?_
  exact rp_iret rfl rfl dX7_read_222
def fX7_read_208 (k55 : rp_S → Int32 → Int32 → Int32 → Int32 → Int32 → Int32 → Int32 → Option (Int32 × rp_S)) (σ : rp_S) (v1 : Int32) (v2 : Int32) (v3 : Int32) (v4 : Int32) (v5 : Int32) (v6 : Int32) (v7 : Int32) : Option (Int32 × rp_S) :=
  (k55 σ v1 v2 v3 v4 v5 v6 (v7 + (rI 1)))
set_option maxRecDepth 100000 in
theorem rX7_read_208 {E : rp_E} (k55 : rp_S → Int32 → Int32 → Int32 → Int32 → Int32 → Int32 → Int32 → Option (Int32 × rp_S)) (hk55 : ∀ (σ : rp_S) (v1 : Int32) (v2 : Int32) (v3 : Int32) (v4 : Int32) (v5 : Int32) (v6 : Int32) (v7 : Int32), rp_R E (rp_mK E rmX7_read) mX7_read 55 [some (.ref (E.2.2.2.1 28)), some (.int v1), some (.int v2), some (.int v3), some (.int v4), some (.int v5), some (.int v6), some (.int v7), none] [] σ rp_hI (k55 σ v1 v2 v3 v4 v5 v6 v7)) (σ : rp_S) (v1 : Int32) (v2 : Int32) (v3 : Int32) (v4 : Int32) (v5 : Int32) (v6 : Int32) (v7 : Int32) : rp_R E (rp_mK E rmX7_read) mX7_read 208 [some (.ref (E.2.2.2.1 28)), some (.int v1), some (.int v2), some (.int v3), some (.int v4), some (.int v5), some (.int v6), some (.int v7), none] [] σ rp_hI (fX7_read_208 k55 σ v1 v2 v3 v4 v5 v6 v7) := by
  rw [fX7_read_208]
  refine rp_iinc (x := v7) dX7_read_208 rfl (by decide) rfl ?_
  refine rp_goto (tgt := 55) dX7_read_211 (by decide) ?_
  refine rp_mask [true, true, true, true, true, true, true, true, false] (vs2 := [some (.ref (E.2.2.2.1 28)), some (.int v1), some (.int v2), some (.int v3), some (.int v4), some (.int v5), some (.int v6), some (.int (v7 + (rI 1))), none]) rfl rfl ?_
  exact hk55 σ v1 v2 v3 v4 v5 v6 (v7 + (rI 1))
def fX7_read_125 (k55 : rp_S → Int32 → Int32 → Int32 → Int32 → Int32 → Int32 → Int32 → Option (Int32 × rp_S)) (σ : rp_S) (v1 : Int32) (v2 : Int32) (v3 : Int32) (v4 : Int32) (v6 : Int32) (v7 : Int32) (s0 : Int32) : Option (Int32 × rp_S) :=
  (if s0 = 0 then
    (if (v7 - v7 / (rI 4) * (rI 4)) = (rI 3) then
    ((rq_rd σ 40 160 (((((rI 40) * v1) + v3) + v7) - (rI 3))).bind fun x10 =>
    ((rq_rd σ 40 160 (((((rI 40) * v1) + v3) + v7) - (rI 2))).bind fun x11 =>
    ((rq_rd σ 40 160 (((((rI 40) * v1) + v3) + v7) - (rI 1))).bind fun x12 =>
    ((rq_rd σ 40 160 ((((rI 40) * v1) + v3) + v7)).bind fun x13 =>
    ((fX7_writes σ x10 x11 x12 x13).bind fun p14 =>
    (if 0 ≤ p14.1 then
    (fX7_read_208 k55 p14.2 v1 v2 v3 v4 s0 (v6 + (rI 1)) v7)
  else
    ((fX7_copies p14.2 (rI 108) (rI 0)).bind fun σ15 =>
    (some (((rI (-20)) - v6), σ15)))))))))
  else
    (fX7_read_208 k55 σ v1 v2 v3 v4 s0 v6 v7))
  else
    (fX7_read_208 k55 σ v1 v2 v3 v4 s0 v6 v7))
set_option maxRecDepth 100000 in
theorem rX7_read_125 {E : rp_E} (k55 : rp_S → Int32 → Int32 → Int32 → Int32 → Int32 → Int32 → Int32 → Option (Int32 × rp_S)) (hk55 : ∀ (σ : rp_S) (v1 : Int32) (v2 : Int32) (v3 : Int32) (v4 : Int32) (v5 : Int32) (v6 : Int32) (v7 : Int32), rp_R E (rp_mK E rmX7_read) mX7_read 55 [some (.ref (E.2.2.2.1 28)), some (.int v1), some (.int v2), some (.int v3), some (.int v4), some (.int v5), some (.int v6), some (.int v7), none] [] σ rp_hI (k55 σ v1 v2 v3 v4 v5 v6 v7)) (σ : rp_S) (v1 : Int32) (v2 : Int32) (v3 : Int32) (v4 : Int32) (v6 : Int32) (v7 : Int32) (s0 : Int32) : rp_R E (rp_mK E rmX7_read) mX7_read 125 [some (.ref (E.2.2.2.1 28)), some (.int v1), some (.int v2), some (.int v3), some (.int v4), none, some (.int v6), some (.int v7), none] [.int s0] σ rp_hI (fX7_read_125 k55 σ v1 v2 v3 v4 v6 v7 s0) := by
  rw [fX7_read_125]
  refine rp_istore dX7_read_125 (by decide) rfl ?_
  refine rp_iload (x := s0) dX7_read_127 rfl ?_
  refine rp_if_ne (tgt := 208) dX7_read_129 (by decide) ?_ ?_
  · refine rp_mask [true, true, true, true, true, true, true, true, false] (vs2 := [some (.ref (E.2.2.2.1 28)), some (.int v1), some (.int v2), some (.int v3), some (.int v4), some (.int s0), some (.int v6), some (.int v7), none]) rfl rfl ?_
    exact rX7_read_208 k55 hk55 σ v1 v2 v3 v4 s0 v6 v7
  · refine rp_iload (x := v7) dX7_read_132 rfl ?_
    refine rp_iconst dX7_read_134 ?_
    refine rp_irem0 dX7_read_135 (by decide) ?_
    refine rp_iconst dX7_read_136 ?_
    refine rp_icmp_ne (tgt := 208) dX7_read_137 (by decide) ?_ ?_
    · refine rp_mask [true, true, true, true, true, true, true, true, false] (vs2 := [some (.ref (E.2.2.2.1 28)), some (.int v1), some (.int v2), some (.int v3), some (.int v4), some (.int s0), some (.int v6), some (.int v7), none]) rfl rfl ?_
      exact rX7_read_208 k55 hk55 σ v1 v2 v3 v4 s0 v6 v7
    · refine rp_bipush dX7_read_140 (by decide) ?_
      refine rp_iload_n (x := v1) dX7_read_142 rfl ?_
      refine rp_imul dX7_read_143 ?_
      refine rp_iload_n (x := v3) dX7_read_144 rfl ?_
      refine rp_iadd dX7_read_145 ?_
      refine rp_iload (x := v7) dX7_read_146 rfl ?_
      refine rp_iadd dX7_read_148 ?_
      refine rp_istore dX7_read_149 (by decide) rfl ?_
      refine rp_aload_n (x := (E.2.2.2.1 28)) dX7_read_151 rfl ?_
      refine rp_aload_n (x := (E.2.2.2.1 28)) dX7_read_152 rfl ?_
      refine rp_getR (k := 25) (b := 40) sh28 rfl fdX7_44 dX7_read_153 ?_
      refine rp_iload (x := ((((rI 40) * v1) + v3) + v7)) dX7_read_156 rfl ?_
      refine rp_iconst dX7_read_158 ?_
      refine rp_isub dX7_read_159 ?_
      refine rp_iaload sh40 dX7_read_160 (fun x10 => ?_)
      refine rp_aload_n (x := (E.2.2.2.1 28)) dX7_read_161 rfl ?_
      refine rp_getR (k := 25) (b := 40) sh28 rfl fdX7_44 dX7_read_162 ?_
      refine rp_iload (x := ((((rI 40) * v1) + v3) + v7)) dX7_read_165 rfl ?_
      refine rp_iconst dX7_read_167 ?_
      refine rp_isub dX7_read_168 ?_
      refine rp_iaload sh40 dX7_read_169 (fun x11 => ?_)
      refine rp_aload_n (x := (E.2.2.2.1 28)) dX7_read_170 rfl ?_
      refine rp_getR (k := 25) (b := 40) sh28 rfl fdX7_44 dX7_read_171 ?_
      refine rp_iload (x := ((((rI 40) * v1) + v3) + v7)) dX7_read_174 rfl ?_
      refine rp_iconst dX7_read_176 ?_
      refine rp_isub dX7_read_177 ?_
      refine rp_iaload sh40 dX7_read_178 (fun x12 => ?_)
      refine rp_aload_n (x := (E.2.2.2.1 28)) dX7_read_179 rfl ?_
      refine rp_getR (k := 25) (b := 40) sh28 rfl fdX7_44 dX7_read_180 ?_
      refine rp_iload (x := ((((rI 40) * v1) + v3) + v7)) dX7_read_183 rfl ?_
      refine rp_iaload sh40 dX7_read_185 (fun x13 => ?_)
      refine rp_callV_hI (As := [.int x10, .int x11, .int x12, .int x13]) (rest := []) (b := (E.2.2.2.1 28)) (rX7_writes σ x10 x11 x12 x13) cbX7_writes lkX7_205 viX7_writes (rp_rcO sh28 rfl) rfl (Nat.le_of_ble_eq_true rfl) ⟨rfl, rfl, ⟨Nat.le_of_ble_eq_true rfl, Nat.le_of_ble_eq_true rfl⟩, Nat.zero_le _, Nat.zero_le _⟩ rfl (Nat.le_of_ble_eq_true rfl) dX7_read_186 (fun p14 hp14 => ?_)
      refine rp_if_ge (tgt := 205) dX7_read_189 (by decide) ?_ ?_
      · refine rp_iinc (x := v6) dX7_read_205 rfl (by decide) rfl ?_
        refine rp_mask [true, true, true, true, true, true, true, true, false] (vs2 := [some (.ref (E.2.2.2.1 28)), some (.int v1), some (.int v2), some (.int v3), some (.int v4), some (.int s0), some (.int (v6 + (rI 1))), some (.int v7), none]) rfl rfl ?_
        exact rX7_read_208 k55 hk55 p14.2 v1 v2 v3 v4 s0 (v6 + (rI 1)) v7
      · refine rp_aload_n (x := (E.2.2.2.1 28)) dX7_read_192 rfl ?_
        refine rp_bipush dX7_read_193 (by decide) ?_
        refine rp_iconst dX7_read_195 ?_
        refine rp_callV_hv (As := [.int (rI 108), .int (rI 0)]) (rest := []) (b := (E.2.2.2.1 28)) (rX7_copies p14.2 (rI 108) (rI 0)) cbX7_copies lkX7_209 viX7_copies (rp_rcO sh28 rfl) rfl (Nat.le_of_ble_eq_true rfl) ⟨rfl, rfl, ⟨Nat.le_of_ble_eq_true rfl, Nat.le_of_ble_eq_true rfl⟩, Nat.zero_le _, Nat.zero_le _⟩ rfl (Nat.le_of_ble_eq_true rfl) dX7_read_196 (fun σ15 hσ15 => ?_)
        refine rp_bipush dX7_read_199 (by decide) ?_
        refine rp_iload (x := v6) dX7_read_201 rfl ?_
        refine rp_isub dX7_read_203 ?_
        exact rp_iret rfl rfl dX7_read_204
def fX7_read_55  : Nat → rp_S → Int32 → Int32 → Int32 → Int32 → Int32 → Int32 → Int32 → Option (Int32 × rp_S)
  | 0, _, _, _, _, _, _, _, _ => none
  | n + 1, σ, v1, v2, v3, v4, v5, v6, v7 =>
    (if ((rI 4) * v4) ≤ v7 then
    (fX7_read_214 σ v5 v6)
  else
    (if v5 = 0 then
    ((rq_rd σ 38 4 v1).bind fun x6 =>
    (if x6 = (rI (-4)) then
    (fX7_read_125 (fun σ v1 v2 v3 v4 v5 v6 v7 => fX7_read_55 n σ v1 v2 v3 v4 v5 v6 v7) σ v1 v2 v3 v4 v6 v7 (rI 1))
  else
    ((rq_rd σ 38 4 v1).bind fun x7 =>
    (if x7 = v2 then
    ((rq_rd σ 39 4 v1).bind fun x8 =>
    ((fX7_in ((v3.toInt64) + (v7.toInt64)) (rJ 0) (x8 - (rI 1)).toInt64).bind fun x9 =>
    (if x9 = 0 then
    (fX7_read_125 (fun σ v1 v2 v3 v4 v5 v6 v7 => fX7_read_55 n σ v1 v2 v3 v4 v5 v6 v7) σ v1 v2 v3 v4 v6 v7 (rI 2))
  else
    (fX7_read_125 (fun σ v1 v2 v3 v4 v5 v6 v7 => fX7_read_55 n σ v1 v2 v3 v4 v5 v6 v7) σ v1 v2 v3 v4 v6 v7 (rI 0)))))
  else
    (fX7_read_125 (fun σ v1 v2 v3 v4 v5 v6 v7 => fX7_read_55 n σ v1 v2 v3 v4 v5 v6 v7) σ v1 v2 v3 v4 v6 v7 (rI 3))))))
  else
    (fX7_read_214 σ v5 v6)))
set_option maxRecDepth 100000 in
theorem rX7_read_55 {E : rp_E}  : ∀ (n : Nat) (σ : rp_S) (v1 : Int32) (v2 : Int32) (v3 : Int32) (v4 : Int32) (v5 : Int32) (v6 : Int32) (v7 : Int32), rp_R E (rp_mK E rmX7_read) mX7_read 55 [some (.ref (E.2.2.2.1 28)), some (.int v1), some (.int v2), some (.int v3), some (.int v4), some (.int v5), some (.int v6), some (.int v7), none] [] σ rp_hI (fX7_read_55 n σ v1 v2 v3 v4 v5 v6 v7) := by
  intro n
  induction n with
  | zero =>
    intro σ v1 v2 v3 v4 v5 v6 v7
    rw [fX7_read_55]
    exact rp_none
  | succ n ih =>
    intro σ v1 v2 v3 v4 v5 v6 v7
    rw [fX7_read_55]
    refine rp_iload (x := v7) dX7_read_55 rfl ?_
    refine rp_iconst dX7_read_57 ?_
    refine rp_iload (x := v4) dX7_read_58 rfl ?_
    refine rp_imul dX7_read_60 ?_
    refine rp_icmp_ge (tgt := 214) dX7_read_61 (by decide) ?_ ?_
    · refine rp_mask [true, false, false, false, false, true, true, false, false] (vs2 := [some (.ref (E.2.2.2.1 28)), none, none, none, none, some (.int v5), some (.int v6), none, none]) rfl rfl ?_
      exact rX7_read_214 σ v5 v6
    · refine rp_iload (x := v5) dX7_read_64 rfl ?_
      refine rp_if_ne (tgt := 214) dX7_read_66 (by decide) ?_ ?_
      · refine rp_mask [true, false, false, false, false, true, true, false, false] (vs2 := [some (.ref (E.2.2.2.1 28)), none, none, none, none, some (.int v5), some (.int v6), none, none]) rfl rfl ?_
        exact rX7_read_214 σ v5 v6
      · refine rp_aload_n (x := (E.2.2.2.1 28)) dX7_read_69 rfl ?_
        refine rp_getR (k := 23) (b := 38) sh28 rfl fdX7_38 dX7_read_70 ?_
        refine rp_iload_n (x := v1) dX7_read_73 rfl ?_
        refine rp_iaload sh38 dX7_read_74 (fun x6 => ?_)
        refine rp_bipush dX7_read_75 (by decide) ?_
        refine rp_icmp_ne (tgt := 84) dX7_read_77 (by decide) ?_ ?_
        · refine rp_aload_n (x := (E.2.2.2.1 28)) dX7_read_84 rfl ?_
          refine rp_getR (k := 23) (b := 38) sh28 rfl fdX7_38 dX7_read_85 ?_
          refine rp_iload_n (x := v1) dX7_read_88 rfl ?_
          refine rp_iaload sh38 dX7_read_89 (fun x7 => ?_)
          refine rp_iload_n (x := v2) dX7_read_90 rfl ?_
          refine rp_icmp_eq (tgt := 98) dX7_read_91 (by decide) ?_ ?_
          · refine rp_iload_n (x := v3) dX7_read_98 rfl ?_
            refine rp_i2l dX7_read_99 ?_
            refine rp_iload (x := v7) dX7_read_100 rfl ?_
            refine rp_i2l dX7_read_102 ?_
            refine rp_ladd dX7_read_103 ?_
            refine rp_lconst dX7_read_104 0 (by decide) ?_
            refine rp_aload_n (x := (E.2.2.2.1 28)) dX7_read_105 rfl ?_
            refine rp_getR (k := 24) (b := 39) sh28 rfl fdX7_41 dX7_read_106 ?_
            refine rp_iload_n (x := v1) dX7_read_109 rfl ?_
            refine rp_iaload sh39 dX7_read_110 (fun x8 => ?_)
            refine rp_iconst dX7_read_111 ?_
            refine rp_isub dX7_read_112 ?_
            refine rp_i2l dX7_read_113 ?_
            refine rp_callS_hi (As := [.long ((v3.toInt64) + (v7.toInt64)), .long (rJ 0), .long (x8 - (rI 1)).toInt64]) (rest := []) (rX7_in σ ((v3.toInt64) + (v7.toInt64)) (rJ 0) (x8 - (rI 1)).toInt64) cbX7_in lkX7_49 stX7_in rfl (Nat.le_of_ble_eq_true rfl) ⟨rfl, rfl, ⟨Nat.le_of_ble_eq_true rfl, Nat.le_of_ble_eq_true rfl⟩, Nat.zero_le _, Nat.zero_le _⟩ rfl (Nat.le_of_ble_eq_true rfl) dX7_read_114 (fun x9 hx9 => ?_)
            refine rp_if_ne (tgt := 124) dX7_read_117 (by decide) ?_ ?_
            · refine rp_iconst dX7_read_124 ?_
              refine rp_mask [true, true, true, true, true, false, true, true, false] (vs2 := [some (.ref (E.2.2.2.1 28)), some (.int v1), some (.int v2), some (.int v3), some (.int v4), none, some (.int v6), some (.int v7), none]) rfl rfl ?_
              exact rX7_read_125 (fun σ v1 v2 v3 v4 v5 v6 v7 => fX7_read_55 n σ v1 v2 v3 v4 v5 v6 v7) (fun σ v1 v2 v3 v4 v5 v6 v7 => ih σ v1 v2 v3 v4 v5 v6 v7) σ v1 v2 v3 v4 v6 v7 (rI 0)
            · refine rp_iconst dX7_read_120 ?_
              refine rp_goto (tgt := 125) dX7_read_121 (by decide) ?_
              refine rp_mask [true, true, true, true, true, false, true, true, false] (vs2 := [some (.ref (E.2.2.2.1 28)), some (.int v1), some (.int v2), some (.int v3), some (.int v4), none, some (.int v6), some (.int v7), none]) rfl rfl ?_
              exact rX7_read_125 (fun σ v1 v2 v3 v4 v5 v6 v7 => fX7_read_55 n σ v1 v2 v3 v4 v5 v6 v7) (fun σ v1 v2 v3 v4 v5 v6 v7 => ih σ v1 v2 v3 v4 v5 v6 v7) σ v1 v2 v3 v4 v6 v7 (rI 2)
          · refine rp_iconst dX7_read_94 ?_
            refine rp_goto (tgt := 125) dX7_read_95 (by decide) ?_
            refine rp_mask [true, true, true, true, true, false, true, true, false] (vs2 := [some (.ref (E.2.2.2.1 28)), some (.int v1), some (.int v2), some (.int v3), some (.int v4), none, some (.int v6), some (.int v7), none]) rfl rfl ?_
            exact rX7_read_125 (fun σ v1 v2 v3 v4 v5 v6 v7 => fX7_read_55 n σ v1 v2 v3 v4 v5 v6 v7) (fun σ v1 v2 v3 v4 v5 v6 v7 => ih σ v1 v2 v3 v4 v5 v6 v7) σ v1 v2 v3 v4 v6 v7 (rI 3)
        · refine rp_iconst dX7_read_80 ?_
          refine rp_goto (tgt := 125) dX7_read_81 (by decide) ?_
          refine rp_mask [true, true, true, true, true, false, true, true, false] (vs2 := [some (.ref (E.2.2.2.1 28)), some (.int v1), some (.int v2), some (.int v3), some (.int v4), none, some (.int v6), some (.int v7), none]) rfl rfl ?_
          exact rX7_read_125 (fun σ v1 v2 v3 v4 v5 v6 v7 => fX7_read_55 n σ v1 v2 v3 v4 v5 v6 v7) (fun σ v1 v2 v3 v4 v5 v6 v7 => ih σ v1 v2 v3 v4 v5 v6 v7) σ v1 v2 v3 v4 v6 v7 (rI 1)
def fX7_read (σ : rp_S) (v1 : Int32) (v2 : Int32) (v3 : Int32) (v4 : Int32) : Option (Int32 × rp_S) :=
  ((fX7_in (v1.toInt64) (rJ 0) (rJ 3)).bind fun x1 =>
    (if x1 = 0 then
    (some ((rI (-1)), σ))
  else
    ((fX7_in (v2.toInt64) (rJ 0) (rJ 2)).bind fun x2 =>
    (if x2 = 0 then
    (some ((rI (-1)), σ))
  else
    ((fX7_in (v4.toInt64) (rJ 0) (rJ 10)).bind fun x3 =>
    (if x3 = 0 then
    (some ((rI (-1)), σ))
  else
    ((fX7_copies σ (rI 0) (rI 108)).bind fun σ4 =>
    (fX7_read_55 1000 σ4 v1 v2 v3 v4 (rI 0) (rI 0) (rI 0)))))))))
set_option maxRecDepth 100000 in
theorem rX7_read {E : rp_E} (σ : rp_S) (v1 : Int32) (v2 : Int32) (v3 : Int32) (v4 : Int32)   : rp_R E (rp_mK E rmX7_read) mX7_read 0 [some (.ref (E.2.2.2.1 28)), some (.int v1), some (.int v2), some (.int v3), some (.int v4), none, none, none, none] [] σ rp_hI (fX7_read σ v1 v2 v3 v4) := by
  rw [fX7_read]
  refine rp_iload_n (x := v1) dX7_read_0 rfl ?_
  refine rp_i2l dX7_read_1 ?_
  refine rp_lconst dX7_read_2 0 (by decide) ?_
  refine rp_ldc2 (v := (rJ 3)) clX7_181 dX7_read_3 ?_
  refine rp_callS_hi (As := [.long (v1.toInt64), .long (rJ 0), .long (rJ 3)]) (rest := []) (rX7_in σ (v1.toInt64) (rJ 0) (rJ 3)) cbX7_in lkX7_49 stX7_in rfl (Nat.le_of_ble_eq_true rfl) ⟨rfl, rfl, ⟨Nat.le_of_ble_eq_true rfl, Nat.le_of_ble_eq_true rfl⟩, Nat.zero_le _, Nat.zero_le _⟩ rfl (Nat.le_of_ble_eq_true rfl) dX7_read_6 (fun x1 hx1 => ?_)
  refine rp_if_eq (tgt := 37) dX7_read_9 (by decide) ?_ ?_
  · refine rp_iconst dX7_read_37 ?_
    exact rp_iret rfl rfl dX7_read_38
  · refine rp_iload_n (x := v2) dX7_read_12 rfl ?_
    refine rp_i2l dX7_read_13 ?_
    refine rp_lconst dX7_read_14 0 (by decide) ?_
    refine rp_ldc2 (v := (rJ 2)) clX7_237 dX7_read_15 ?_
    refine rp_callS_hi (As := [.long (v2.toInt64), .long (rJ 0), .long (rJ 2)]) (rest := []) (rX7_in σ (v2.toInt64) (rJ 0) (rJ 2)) cbX7_in lkX7_49 stX7_in rfl (Nat.le_of_ble_eq_true rfl) ⟨rfl, rfl, ⟨Nat.le_of_ble_eq_true rfl, Nat.le_of_ble_eq_true rfl⟩, Nat.zero_le _, Nat.zero_le _⟩ rfl (Nat.le_of_ble_eq_true rfl) dX7_read_18 (fun x2 hx2 => ?_)
    refine rp_if_eq (tgt := 37) dX7_read_21 (by decide) ?_ ?_
    · refine rp_iconst dX7_read_37 ?_
      exact rp_iret rfl rfl dX7_read_38
    · refine rp_iload (x := v4) dX7_read_24 rfl ?_
      refine rp_i2l dX7_read_26 ?_
      refine rp_lconst dX7_read_27 0 (by decide) ?_
      refine rp_ldc2 (v := (rJ 10)) clX7_216 dX7_read_28 ?_
      refine rp_callS_hi (As := [.long (v4.toInt64), .long (rJ 0), .long (rJ 10)]) (rest := []) (rX7_in σ (v4.toInt64) (rJ 0) (rJ 10)) cbX7_in lkX7_49 stX7_in rfl (Nat.le_of_ble_eq_true rfl) ⟨rfl, rfl, ⟨Nat.le_of_ble_eq_true rfl, Nat.le_of_ble_eq_true rfl⟩, Nat.zero_le _, Nat.zero_le _⟩ rfl (Nat.le_of_ble_eq_true rfl) dX7_read_31 (fun x3 hx3 => ?_)
      refine rp_if_ne (tgt := 39) dX7_read_34 (by decide) ?_ ?_
      · refine rp_aload_n (x := (E.2.2.2.1 28)) dX7_read_39 rfl ?_
        refine rp_iconst dX7_read_40 ?_
        refine rp_bipush dX7_read_41 (by decide) ?_
        refine rp_callV_hv (As := [.int (rI 0), .int (rI 108)]) (rest := []) (b := (E.2.2.2.1 28)) (rX7_copies σ (rI 0) (rI 108)) cbX7_copies lkX7_209 viX7_copies (rp_rcO sh28 rfl) rfl (Nat.le_of_ble_eq_true rfl) ⟨rfl, rfl, ⟨Nat.le_of_ble_eq_true rfl, Nat.le_of_ble_eq_true rfl⟩, Nat.zero_le _, Nat.zero_le _⟩ rfl (Nat.le_of_ble_eq_true rfl) dX7_read_43 (fun σ4 hσ4 => ?_)
        refine rp_iconst dX7_read_46 ?_
        refine rp_istore dX7_read_47 (by decide) rfl ?_
        refine rp_iconst dX7_read_49 ?_
        refine rp_istore dX7_read_50 (by decide) rfl ?_
        refine rp_iconst dX7_read_52 ?_
        refine rp_istore dX7_read_53 (by decide) rfl ?_
        refine rp_mask [true, true, true, true, true, true, true, true, false] (vs2 := [some (.ref (E.2.2.2.1 28)), some (.int v1), some (.int v2), some (.int v3), some (.int v4), some (.int (rI 0)), some (.int (rI 0)), some (.int (rI 0)), none]) rfl rfl ?_
        exact rX7_read_55 1000 σ4 v1 v2 v3 v4 (rI 0) (rI 0) (rI 0)
      · refine rp_iconst dX7_read_37 ?_
        exact rp_iret rfl rfl dX7_read_38
/-! RocketPrint.torn()I -/
abbrev rmX6_torn : Room := { frames := 0, cells := 0, slots := 0, locals := 0 }
def fX6_torn (σ : rp_S)  : Option (Int32) :=
  (some (σ 0 9))
set_option maxRecDepth 100000 in
theorem rX6_torn {E : rp_E} (σ : rp_S)    : rp_R E (rp_mK E rmX6_torn) mX6_torn 0 [some (.ref (E.2.2.2.1 0))] [] σ (rp_hi σ) (fX6_torn σ) := by
  rw [fX6_torn]
  refine rp_aload_n (x := (E.2.2.2.1 0)) dX6_torn_0 rfl ?_
  refine rp_getI (k := 9) sh0 rfl fdX6_296 dX6_torn_1 ?_
  exact rp_iret rfl rfl dX6_torn_4
/-! RocketPrintModel.torn()I -/
abbrev rmX7_torn : Room := { frames := 0, cells := 0, slots := 0, locals := 0 }
def fX7_torn (σ : rp_S)  : Option (Int32) :=
  (some (σ 28 26))
set_option maxRecDepth 100000 in
theorem rX7_torn {E : rp_E} (σ : rp_S)    : rp_R E (rp_mK E rmX7_torn) mX7_torn 0 [some (.ref (E.2.2.2.1 28))] [] σ (rp_hi σ) (fX7_torn σ) := by
  rw [fX7_torn]
  refine rp_aload_n (x := (E.2.2.2.1 28)) dX7_torn_0 rfl ?_
  refine rp_getI (k := 26) sh28 rfl fdX7_239 dX7_torn_1 ?_
  exact rp_iret rfl rfl dX7_torn_4
/-! RocketPrint$Sheets.sizeOf(I)I -/
abbrev rmX2_sizeOf : Room := { frames := 0, cells := 0, slots := 0, locals := 0 }
def fX2_sizeOf (σ : rp_S) (v1 : Int32) : Option (Int32) :=
  ((rq_rd σ 21 4 v1).bind fun x1 =>
    (some x1))
set_option maxRecDepth 100000 in
theorem rX2_sizeOf {E : rp_E} (σ : rp_S) (v1 : Int32)   : rp_R E (rp_mK E rmX2_sizeOf) mX2_sizeOf 0 [some (.ref (E.2.2.2.1 18)), some (.int v1)] [] σ (rp_hi σ) (fX2_sizeOf σ v1) := by
  rw [fX2_sizeOf]
  refine rp_aload_n (x := (E.2.2.2.1 18)) dX2_sizeOf_0 rfl ?_
  refine rp_getR (k := 2) (b := 21) sh18 rfl fdX2_18 dX2_sizeOf_1 ?_
  refine rp_iload_n (x := v1) dX2_sizeOf_4 rfl ?_
  refine rp_iaload sh21 dX2_sizeOf_5 (fun x1 => ?_)
  exact rp_iret rfl rfl dX2_sizeOf_6
/-! RocketPrint$Night.powerOfAll()I -/
abbrev rmX1_powerOfAll : Room := { frames := 1, cells := 0, slots := 0, locals := 22 }
def fX1_powerOfAll_4 (a0 : Nat) (σ : rp_S) : Nat → Int32 → Int32 → Option (Int32)
  | 0, _, _ => none
  | n + 1, v1, v2 =>
    (if (σ a0 2) ≤ v2 then
    (some v1)
  else
    ((fX1_ofWork σ a0 v2 (rI 3)).bind fun x1 =>
    (fX1_powerOfAll_4 a0 σ n (v1 + x1) (v2 + (rI 1)))))
set_option maxRecDepth 100000 in
theorem rX1_powerOfAll_4 {E : rp_E} (a0 : Nat) (σ : rp_S) (ha0 : rp_Ni a0)  : ∀ (n : Nat) (v1 : Int32) (v2 : Int32), rp_R E (rp_mK E rmX1_powerOfAll) mX1_powerOfAll 4 [some (.ref (E.2.2.2.1 a0)), some (.int v1), some (.int v2)] [] σ (rp_hi σ) (fX1_powerOfAll_4 a0 σ n v1 v2) := by
  intro n
  induction n with
  | zero =>
    intro v1 v2
    rw [fX1_powerOfAll_4]
    exact rp_none
  | succ n ih =>
    intro v1 v2
    rw [fX1_powerOfAll_4]
    refine rp_iload_n (x := v2) dX1_powerOfAll_4 rfl ?_
    refine rp_aload_n (x := (E.2.2.2.1 a0)) dX1_powerOfAll_5 rfl ?_
    refine rp_getI (k := 2) ha0.1 rfl fdX1_22 dX1_powerOfAll_6 ?_
    refine rp_icmp_ge (tgt := 27) dX1_powerOfAll_9 (by decide) ?_ ?_
    · refine rp_iload_n (x := v1) dX1_powerOfAll_27 rfl ?_
      exact rp_iret rfl rfl dX1_powerOfAll_28
    · refine rp_iload_n (x := v1) dX1_powerOfAll_12 rfl ?_
      refine rp_aload_n (x := (E.2.2.2.1 a0)) dX1_powerOfAll_13 rfl ?_
      refine rp_iload_n (x := v2) dX1_powerOfAll_14 rfl ?_
      refine rp_iconst dX1_powerOfAll_15 ?_
      refine rp_callV_hi (As := [.int v2, .int (rI 3)]) (rest := [.int v1]) (b := (E.2.2.2.1 a0)) (rX1_ofWork σ a0 v2 (rI 3) ha0) cbX1_ofWork lkX1_55 viX1_ofWork (rp_rcO ha0.1 rfl) rfl (Nat.le_of_ble_eq_true rfl) ⟨rfl, rfl, ⟨Nat.le_of_ble_eq_true rfl, Nat.le_of_ble_eq_true rfl⟩, Nat.zero_le _, Nat.zero_le _⟩ rfl (Nat.le_of_ble_eq_true rfl) dX1_powerOfAll_16 (fun x1 hx1 => ?_)
      refine rp_iadd dX1_powerOfAll_19 ?_
      refine rp_istore_n dX1_powerOfAll_20 (by decide) rfl ?_
      refine rp_iinc (x := v2) dX1_powerOfAll_21 rfl (by decide) rfl ?_
      refine rp_goto (tgt := 4) dX1_powerOfAll_24 (by decide) ?_
      refine rp_mask [true, true, true] (vs2 := [some (.ref (E.2.2.2.1 a0)), some (.int (v1 + x1)), some (.int (v2 + (rI 1)))]) rfl rfl ?_
      exact ih (v1 + x1) (v2 + (rI 1))
def fX1_powerOfAll (σ : rp_S) (a0 : Nat) : Option (Int32) :=
  (fX1_powerOfAll_4 a0 σ 1000 (rI 0) (rI 0))
set_option maxRecDepth 100000 in
theorem rX1_powerOfAll {E : rp_E} (σ : rp_S) (a0 : Nat) (ha0 : rp_Ni a0)  : rp_R E (rp_mK E rmX1_powerOfAll) mX1_powerOfAll 0 [some (.ref (E.2.2.2.1 a0)), none, none] [] σ (rp_hi σ) (fX1_powerOfAll σ a0) := by
  rw [fX1_powerOfAll]
  refine rp_iconst dX1_powerOfAll_0 ?_
  refine rp_istore_n dX1_powerOfAll_1 (by decide) rfl ?_
  refine rp_iconst dX1_powerOfAll_2 ?_
  refine rp_istore_n dX1_powerOfAll_3 (by decide) rfl ?_
  refine rp_mask [true, true, true] (vs2 := [some (.ref (E.2.2.2.1 a0)), some (.int (rI 0)), some (.int (rI 0))]) rfl rfl ?_
  exact rX1_powerOfAll_4 a0 σ ha0 1000 (rI 0) (rI 0)
/-! RocketPrint$Night.coughsOfAll()I -/
abbrev rmX1_coughsOfAll : Room := { frames := 1, cells := 0, slots := 0, locals := 22 }
def fX1_coughsOfAll_4 (a0 : Nat) (σ : rp_S) : Nat → Int32 → Int32 → Option (Int32)
  | 0, _, _ => none
  | n + 1, v1, v2 =>
    (if (σ a0 3) ≤ v2 then
    (some v1)
  else
    ((fX1_ofReader σ a0 v2 (rI 1)).bind fun x1 =>
    (fX1_coughsOfAll_4 a0 σ n (v1 + x1) (v2 + (rI 1)))))
set_option maxRecDepth 100000 in
theorem rX1_coughsOfAll_4 {E : rp_E} (a0 : Nat) (σ : rp_S) (ha0 : rp_Ni a0)  : ∀ (n : Nat) (v1 : Int32) (v2 : Int32), rp_R E (rp_mK E rmX1_coughsOfAll) mX1_coughsOfAll 4 [some (.ref (E.2.2.2.1 a0)), some (.int v1), some (.int v2)] [] σ (rp_hi σ) (fX1_coughsOfAll_4 a0 σ n v1 v2) := by
  intro n
  induction n with
  | zero =>
    intro v1 v2
    rw [fX1_coughsOfAll_4]
    exact rp_none
  | succ n ih =>
    intro v1 v2
    rw [fX1_coughsOfAll_4]
    refine rp_iload_n (x := v2) dX1_coughsOfAll_4 rfl ?_
    refine rp_aload_n (x := (E.2.2.2.1 a0)) dX1_coughsOfAll_5 rfl ?_
    refine rp_getI (k := 3) ha0.1 rfl fdX1_25 dX1_coughsOfAll_6 ?_
    refine rp_icmp_ge (tgt := 27) dX1_coughsOfAll_9 (by decide) ?_ ?_
    · refine rp_iload_n (x := v1) dX1_coughsOfAll_27 rfl ?_
      exact rp_iret rfl rfl dX1_coughsOfAll_28
    · refine rp_iload_n (x := v1) dX1_coughsOfAll_12 rfl ?_
      refine rp_aload_n (x := (E.2.2.2.1 a0)) dX1_coughsOfAll_13 rfl ?_
      refine rp_iload_n (x := v2) dX1_coughsOfAll_14 rfl ?_
      refine rp_iconst dX1_coughsOfAll_15 ?_
      refine rp_callV_hi (As := [.int v2, .int (rI 1)]) (rest := [.int v1]) (b := (E.2.2.2.1 a0)) (rX1_ofReader σ a0 v2 (rI 1) ha0) cbX1_ofReader lkX1_69 viX1_ofReader (rp_rcO ha0.1 rfl) rfl (Nat.le_of_ble_eq_true rfl) ⟨rfl, rfl, ⟨Nat.le_of_ble_eq_true rfl, Nat.le_of_ble_eq_true rfl⟩, Nat.zero_le _, Nat.zero_le _⟩ rfl (Nat.le_of_ble_eq_true rfl) dX1_coughsOfAll_16 (fun x1 hx1 => ?_)
      refine rp_iadd dX1_coughsOfAll_19 ?_
      refine rp_istore_n dX1_coughsOfAll_20 (by decide) rfl ?_
      refine rp_iinc (x := v2) dX1_coughsOfAll_21 rfl (by decide) rfl ?_
      refine rp_goto (tgt := 4) dX1_coughsOfAll_24 (by decide) ?_
      refine rp_mask [true, true, true] (vs2 := [some (.ref (E.2.2.2.1 a0)), some (.int (v1 + x1)), some (.int (v2 + (rI 1)))]) rfl rfl ?_
      exact ih (v1 + x1) (v2 + (rI 1))
def fX1_coughsOfAll (σ : rp_S) (a0 : Nat) : Option (Int32) :=
  (fX1_coughsOfAll_4 a0 σ 1000 (rI 0) (rI 0))
set_option maxRecDepth 100000 in
theorem rX1_coughsOfAll {E : rp_E} (σ : rp_S) (a0 : Nat) (ha0 : rp_Ni a0)  : rp_R E (rp_mK E rmX1_coughsOfAll) mX1_coughsOfAll 0 [some (.ref (E.2.2.2.1 a0)), none, none] [] σ (rp_hi σ) (fX1_coughsOfAll σ a0) := by
  rw [fX1_coughsOfAll]
  refine rp_iconst dX1_coughsOfAll_0 ?_
  refine rp_istore_n dX1_coughsOfAll_1 (by decide) rfl ?_
  refine rp_iconst dX1_coughsOfAll_2 ?_
  refine rp_istore_n dX1_coughsOfAll_3 (by decide) rfl ?_
  refine rp_mask [true, true, true] (vs2 := [some (.ref (E.2.2.2.1 a0)), some (.int (rI 0)), some (.int (rI 0))]) rfl rfl ?_
  exact rX1_coughsOfAll_4 a0 σ ha0 1000 (rI 0) (rI 0)
/-! RocketPrint.count(I)I -/
abbrev rmX6_count : Room := { frames := 2, cells := 0, slots := 0, locals := 44 }
def fX6_count (σ : rp_S) (v1 : Int32) : Option (Int32) :=
  (if v1 = (rI 0) then
    (some (σ 15 2))
  else
    (if v1 = (rI 1) then
    ((fJ6_bitCount_0f7a4 (σ 0 8)).bind fun x1 =>
    (some x1))
  else
    (if v1 = (rI 2) then
    (some (σ 13 1))
  else
    (if v1 = (rI 3) then
    ((fX2_isNothing σ (rI 0)).bind fun x2 =>
    (if x2 = 0 then
    ((fX2_sizeOf σ (rI 0)).bind fun x3 =>
    (some x3))
  else
    (some (rI (-4)))))
  else
    (if v1 = (rI 4) then
    ((fX1_powerOfAll σ 1).bind fun x4 =>
    (some x4))
  else
    (if v1 = (rI 5) then
    ((fX1_coughsOfAll σ 1).bind fun x5 =>
    (some x5))
  else
    (some (rI (-1)))))))))
set_option maxRecDepth 100000 in
theorem rX6_count {E : rp_E} (σ : rp_S) (v1 : Int32)   : rp_R E (rp_mK E rmX6_count) mX6_count 0 [some (.ref (E.2.2.2.1 0)), some (.int v1)] [] σ (rp_hi σ) (fX6_count σ v1) := by
  rw [fX6_count]
  refine rp_iload_n (x := v1) dX6_count_0 rfl ?_
  refine rp_if2 (fun h0 => ?_) (fun h0 => ?_)
  · refine rp_tswIn (tgt := 40) 0 (by rw [h0]; decide) dX6_count_1 (by decide) (by decide) rfl (by decide) ?_
    refine rp_aload_n (x := (E.2.2.2.1 0)) dX6_count_40 rfl ?_
    refine rp_getR (k := 4) (b := 15) sh0 rfl fdX6_40 dX6_count_41 ?_
    refine rp_getI (k := 2) sh15 rfl fdX6_86 dX6_count_44 ?_
    exact rp_iret rfl rfl dX6_count_47
  · refine rp_if2 (fun h1 => ?_) (fun h1 => ?_)
    · refine rp_tswIn (tgt := 48) 1 (by rw [h1]; decide) dX6_count_1 (by decide) (by decide) rfl (by decide) ?_
      refine rp_aload_n (x := (E.2.2.2.1 0)) dX6_count_48 rfl ?_
      refine rp_getI (k := 8) sh0 rfl fdX6_89 dX6_count_49 ?_
      refine rp_callS_hi (As := [.int (σ 0 8)]) (rest := []) (rJ6_bitCount_0f7a4 σ (σ 0 8)) cbJ6_bitCount_0f7a4 lkX6_204 stJ6_bitCount_0f7a4 rfl (Nat.le_of_ble_eq_true rfl) ⟨rfl, rfl, ⟨Nat.le_of_ble_eq_true rfl, Nat.le_of_ble_eq_true rfl⟩, Nat.zero_le _, Nat.zero_le _⟩ rfl (Nat.le_of_ble_eq_true rfl) dX6_count_52 (fun x1 hx1 => ?_)
      exact rp_iret rfl rfl dX6_count_55
    · refine rp_if2 (fun h2 => ?_) (fun h2 => ?_)
      · refine rp_tswIn (tgt := 56) 2 (by rw [h2]; decide) dX6_count_1 (by decide) (by decide) rfl (by decide) ?_
        refine rp_aload_n (x := (E.2.2.2.1 0)) dX6_count_56 rfl ?_
        refine rp_getR (k := 3) (b := 13) sh0 rfl fdX6_33 dX6_count_57 ?_
        refine rp_getI (k := 1) sh13 rfl fdX6_61 dX6_count_60 ?_
        exact rp_iret rfl rfl dX6_count_63
      · refine rp_if2 (fun h3 => ?_) (fun h3 => ?_)
        · refine rp_tswIn (tgt := 64) 3 (by rw [h3]; decide) dX6_count_1 (by decide) (by decide) rfl (by decide) ?_
          refine rp_aload_n (x := (E.2.2.2.1 0)) dX6_count_64 rfl ?_
          refine rp_getR (k := 5) (b := 18) sh0 rfl fdX6_47 dX6_count_65 ?_
          refine rp_iconst dX6_count_68 ?_
          refine rp_callV_hi (As := [.int (rI 0)]) (rest := []) (b := (E.2.2.2.1 18)) (rX2_isNothing σ (rI 0)) cbX2_isNothing lkX6_302 viX2_isNothing (rp_rcO sh18 rfl) rfl (Nat.le_of_ble_eq_true rfl) ⟨rfl, rfl, ⟨Nat.le_of_ble_eq_true rfl, Nat.le_of_ble_eq_true rfl⟩, Nat.zero_le _, Nat.zero_le _⟩ rfl (Nat.le_of_ble_eq_true rfl) dX6_count_69 (fun x2 hx2 => ?_)
          refine rp_if_eq (tgt := 80) dX6_count_72 (by decide) ?_ ?_
          · refine rp_aload_n (x := (E.2.2.2.1 0)) dX6_count_80 rfl ?_
            refine rp_getR (k := 5) (b := 18) sh0 rfl fdX6_47 dX6_count_81 ?_
            refine rp_iconst dX6_count_84 ?_
            refine rp_callV_hi (As := [.int (rI 0)]) (rest := []) (b := (E.2.2.2.1 18)) (rX2_sizeOf σ (rI 0)) cbX2_sizeOf lkX6_305 viX2_sizeOf (rp_rcO sh18 rfl) rfl (Nat.le_of_ble_eq_true rfl) ⟨rfl, rfl, ⟨Nat.le_of_ble_eq_true rfl, Nat.le_of_ble_eq_true rfl⟩, Nat.zero_le _, Nat.zero_le _⟩ rfl (Nat.le_of_ble_eq_true rfl) dX6_count_85 (fun x3 hx3 => ?_)
            exact rp_iret rfl rfl dX6_count_88
          · refine rp_bipush dX6_count_75 (by decide) ?_
            refine rp_goto (tgt := 88) dX6_count_77 (by decide) ?_
            exact rp_iret rfl rfl dX6_count_88
        · refine rp_if2 (fun h4 => ?_) (fun h4 => ?_)
          · refine rp_tswIn (tgt := 89) 4 (by rw [h4]; decide) dX6_count_1 (by decide) (by decide) rfl (by decide) ?_
            refine rp_aload_n (x := (E.2.2.2.1 0)) dX6_count_89 rfl ?_
            refine rp_getR (k := 0) (b := 1) sh0 rfl fdX6_10 dX6_count_90 ?_
            refine rp_callV_hi (As := []) (rest := []) (b := (E.2.2.2.1 1)) (rX1_powerOfAll σ 1 ni1) cbX1_powerOfAll lkX6_308 viX1_powerOfAll (rp_rcO sh1 rfl) rfl (Nat.le_of_ble_eq_true rfl) ⟨rfl, rfl, ⟨Nat.le_of_ble_eq_true rfl, Nat.le_of_ble_eq_true rfl⟩, Nat.zero_le _, Nat.zero_le _⟩ rfl (Nat.le_of_ble_eq_true rfl) dX6_count_93 (fun x4 hx4 => ?_)
            exact rp_iret rfl rfl dX6_count_96
          · refine rp_if2 (fun h5 => ?_) (fun h5 => ?_)
            · refine rp_tswIn (tgt := 97) 5 (by rw [h5]; decide) dX6_count_1 (by decide) (by decide) rfl (by decide) ?_
              refine rp_aload_n (x := (E.2.2.2.1 0)) dX6_count_97 rfl ?_
              refine rp_getR (k := 0) (b := 1) sh0 rfl fdX6_10 dX6_count_98 ?_
              refine rp_callV_hi (As := []) (rest := []) (b := (E.2.2.2.1 1)) (rX1_coughsOfAll σ 1 ni1) cbX1_coughsOfAll lkX6_311 viX1_coughsOfAll (rp_rcO sh1 rfl) rfl (Nat.le_of_ble_eq_true rfl) ⟨rfl, rfl, ⟨Nat.le_of_ble_eq_true rfl, Nat.le_of_ble_eq_true rfl⟩, Nat.zero_le _, Nat.zero_le _⟩ rfl (Nat.le_of_ble_eq_true rfl) dX6_count_101 (fun x5 hx5 => ?_)
              exact rp_iret rfl rfl dX6_count_104
            · refine rp_tswOut (tgt := 105) dX6_count_1 (by have q0 := lv_neT (a := 0) h0 (by decide); have q1 := lv_neT (a := 1) h1 (by decide); have q2 := lv_neT (a := 2) h2 (by decide); have q3 := lv_neT (a := 3) h3 (by decide); have q4 := lv_neT (a := 4) h4 (by decide); have q5 := lv_neT (a := 5) h5 (by decide); omega) (by decide) ?_
              refine rp_iconst dX6_count_105 ?_
              exact rp_iret rfl rfl dX6_count_106
