/-! RocketPrintModel.forget(I)I -/
abbrev rmX7_forget : Room := { frames := 1, cells := 0, slots := 0, locals := 25 }
def fX7_forget (σ : rp_S) (v1 : Int32) : Option (Int32 × rp_S) :=
  ((fX7_in (v1.toInt64) (rJ 0) (σ 28 20).toInt64).bind fun x1 =>
    (if x1 = 0 then
    (some ((rI (-1)), σ))
  else
    ((some (rp_up σ 28 20 v1)).bind fun σ2 =>
    (some ((σ 28 20), σ2)))))
set_option maxRecDepth 100000 in
theorem rX7_forget {E : rp_E} (σ : rp_S) (v1 : Int32)   : rp_R E (rp_mK E rmX7_forget) mX7_forget 0 [some (.ref (E.2.2.2.1 28)), some (.int v1), none] [] σ rp_hI (fX7_forget σ v1) := by
  rw [fX7_forget]
  refine rp_iload_n (x := v1) dX7_forget_0 rfl ?_
  refine rp_i2l dX7_forget_1 ?_
  refine rp_lconst dX7_forget_2 0 (by decide) ?_
  refine rp_aload_n (x := (E.2.2.2.1 28)) dX7_forget_3 rfl ?_
  refine rp_getI (k := 20) sh28 rfl fdX7_116 dX7_forget_4 ?_
  refine rp_i2l dX7_forget_7 ?_
  refine rp_callS_hi (As := [.long (v1.toInt64), .long (rJ 0), .long (σ 28 20).toInt64]) (rest := []) (rX7_in σ (v1.toInt64) (rJ 0) (σ 28 20).toInt64) cbX7_in lkX7_49 stX7_in rfl (Nat.le_of_ble_eq_true rfl) ⟨rfl, rfl, ⟨Nat.le_of_ble_eq_true rfl, Nat.le_of_ble_eq_true rfl⟩, Nat.zero_le _, Nat.zero_le _⟩ rfl (Nat.le_of_ble_eq_true rfl) dX7_forget_8 (fun x1 hx1 => ?_)
  refine rp_if_ne (tgt := 16) dX7_forget_11 (by decide) ?_ ?_
  · refine rp_aload_n (x := (E.2.2.2.1 28)) dX7_forget_16 rfl ?_
    refine rp_getI (k := 20) sh28 rfl fdX7_116 dX7_forget_17 ?_
    refine rp_istore_n dX7_forget_20 (by decide) rfl ?_
    refine rp_aload_n (x := (E.2.2.2.1 28)) dX7_forget_21 rfl ?_
    refine rp_iload_n (x := v1) dX7_forget_22 rfl ?_
    refine rp_putB (k := 20) sh28 rfl fpX7_116 (vp_nar_int _) rfl dX7_forget_23 (fun σ2 => ?_)
    refine rp_iload_n (x := (σ 28 20)) dX7_forget_26 rfl ?_
    exact rp_iret rfl rfl dX7_forget_27
  · refine rp_iconst dX7_forget_14 ?_
    exact rp_iret rfl rfl dX7_forget_15
/-! RocketPrint$Sticks.agreeWith(LRocketPrint$Night;)Z -/
abbrev rmX4_agreeWith : Room := { frames := 4, cells := 0, slots := 0, locals := 83 }
def fX4_agreeWith_2 (a1 : Nat) (σ : rp_S) : Nat → Int32 → Option (Int32)
  | 0, _ => none
  | n + 1, v2 =>
    (if (σ 15 2) ≤ v2 then
    (some (rI 1))
  else
    ((rq_rd σ 16 6 v2).bind fun x1 =>
    ((fX1_hasWork σ a1 x1).bind fun x2 =>
    (if x2 = 0 then
    (some (rI 0))
  else
    ((rq_rd σ 16 6 v2).bind fun x3 =>
    ((fX1_stickOf σ a1 x3).bind fun x4 =>
    ((rq_rd σ 17 6 v2).bind fun x5 =>
    (if x4 = x5 then
    (fX4_agreeWith_2 a1 σ n (v2 + (rI 1)))
  else
    (some (rI 0))))))))))
set_option maxRecDepth 100000 in
theorem rX4_agreeWith_2 {E : rp_E} (a1 : Nat) (σ : rp_S) (ha1 : rp_Ni a1)  : ∀ (n : Nat) (v2 : Int32), rp_R E (rp_mK E rmX4_agreeWith) mX4_agreeWith 2 [some (.ref (E.2.2.2.1 15)), some (.ref (E.2.2.2.1 a1)), some (.int v2)] [] σ (rp_hi σ) (fX4_agreeWith_2 a1 σ n v2) := by
  intro n
  induction n with
  | zero =>
    intro v2
    rw [fX4_agreeWith_2]
    exact rp_none
  | succ n ih =>
    intro v2
    rw [fX4_agreeWith_2]
    refine rp_iload_n (x := v2) dX4_agreeWith_2 rfl ?_
    refine rp_aload_n (x := (E.2.2.2.1 15)) dX4_agreeWith_3 rfl ?_
    refine rp_getI (k := 2) sh15 rfl fdX4_18 dX4_agreeWith_4 ?_
    refine rp_icmp_ge (tgt := 50) dX4_agreeWith_7 (by decide) ?_ ?_
    · refine rp_iconst dX4_agreeWith_50 ?_
      exact rp_zret (x' := (rI 1)) rfl (by decide) rfl dX4_agreeWith_51
    · refine rp_aload_n (x := (E.2.2.2.1 a1)) dX4_agreeWith_10 rfl ?_
      refine rp_aload_n (x := (E.2.2.2.1 15)) dX4_agreeWith_11 rfl ?_
      refine rp_getR (k := 0) (b := 16) sh15 rfl fdX4_9 dX4_agreeWith_12 ?_
      refine rp_iload_n (x := v2) dX4_agreeWith_15 rfl ?_
      refine rp_iaload sh16 dX4_agreeWith_16 (fun x1 => ?_)
      refine rp_callV_hi (As := [.int x1]) (rest := []) (b := (E.2.2.2.1 a1)) (rX1_hasWork σ a1 x1 ha1) cbX1_hasWork lkX4_22 viX1_hasWork (rp_rcO ha1.1 rfl) rfl (Nat.le_of_ble_eq_true rfl) ⟨rfl, rfl, ⟨Nat.le_of_ble_eq_true rfl, Nat.le_of_ble_eq_true rfl⟩, Nat.zero_le _, Nat.zero_le _⟩ rfl (Nat.le_of_ble_eq_true rfl) dX4_agreeWith_17 (fun x2 hx2 => ?_)
      refine rp_if_eq (tgt := 42) dX4_agreeWith_20 (by decide) ?_ ?_
      · refine rp_iconst dX4_agreeWith_42 ?_
        exact rp_zret (x' := (rI 0)) rfl (by decide) rfl dX4_agreeWith_43
      · refine rp_aload_n (x := (E.2.2.2.1 a1)) dX4_agreeWith_23 rfl ?_
        refine rp_aload_n (x := (E.2.2.2.1 15)) dX4_agreeWith_24 rfl ?_
        refine rp_getR (k := 0) (b := 16) sh15 rfl fdX4_9 dX4_agreeWith_25 ?_
        refine rp_iload_n (x := v2) dX4_agreeWith_28 rfl ?_
        refine rp_iaload sh16 dX4_agreeWith_29 (fun x3 => ?_)
        refine rp_callV_hi (As := [.int x3]) (rest := []) (b := (E.2.2.2.1 a1)) (rX1_stickOf σ a1 x3 ha1) cbX1_stickOf lkX4_28 viX1_stickOf (rp_rcO ha1.1 rfl) rfl (Nat.le_of_ble_eq_true rfl) ⟨rfl, rfl, ⟨Nat.le_of_ble_eq_true rfl, Nat.le_of_ble_eq_true rfl⟩, Nat.zero_le _, Nat.zero_le _⟩ rfl (Nat.le_of_ble_eq_true rfl) dX4_agreeWith_30 (fun x4 hx4 => ?_)
        refine rp_aload_n (x := (E.2.2.2.1 15)) dX4_agreeWith_33 rfl ?_
        refine rp_getR (k := 1) (b := 17) sh15 rfl fdX4_15 dX4_agreeWith_34 ?_
        refine rp_iload_n (x := v2) dX4_agreeWith_37 rfl ?_
        refine rp_iaload sh17 dX4_agreeWith_38 (fun x5 => ?_)
        refine rp_icmp_eq (tgt := 44) dX4_agreeWith_39 (by decide) ?_ ?_
        · refine rp_iinc (x := v2) dX4_agreeWith_44 rfl (by decide) rfl ?_
          refine rp_goto (tgt := 2) dX4_agreeWith_47 (by decide) ?_
          refine rp_mask [true, true, true] (vs2 := [some (.ref (E.2.2.2.1 15)), some (.ref (E.2.2.2.1 a1)), some (.int (v2 + (rI 1)))]) rfl rfl ?_
          exact ih (v2 + (rI 1))
        · refine rp_iconst dX4_agreeWith_42 ?_
          exact rp_zret (x' := (rI 0)) rfl (by decide) rfl dX4_agreeWith_43
def fX4_agreeWith (σ : rp_S) (a1 : Nat) : Option (Int32) :=
  (fX4_agreeWith_2 a1 σ 1000 (rI 0))
set_option maxRecDepth 100000 in
theorem rX4_agreeWith {E : rp_E} (σ : rp_S) (a1 : Nat) (ha1 : rp_Ni a1)  : rp_R E (rp_mK E rmX4_agreeWith) mX4_agreeWith 0 [some (.ref (E.2.2.2.1 15)), some (.ref (E.2.2.2.1 a1)), none] [] σ (rp_hi σ) (fX4_agreeWith σ a1) := by
  rw [fX4_agreeWith]
  refine rp_iconst dX4_agreeWith_0 ?_
  refine rp_istore_n dX4_agreeWith_1 (by decide) rfl ?_
  refine rp_mask [true, true, true] (vs2 := [some (.ref (E.2.2.2.1 15)), some (.ref (E.2.2.2.1 a1)), some (.int (rI 0))]) rfl rfl ?_
  exact rX4_agreeWith_2 a1 σ ha1 1000 (rI 0)
/-! RocketPrint.winds()I -/
abbrev rmX6_winds : Room := { frames := 5, cells := 0, slots := 0, locals := 105 }
def fX6_winds_48 (k20 : rp_S → Int32 → Int32 → Option (Int32 × rp_S)) (σ : rp_S) (v2 : Int32) (v3 : Int32) : Option (Int32 × rp_S) :=
  (k20 σ v2 (v3 + (rI 1)))
set_option maxRecDepth 100000 in
theorem rX6_winds_48 {E : rp_E} (k20 : rp_S → Int32 → Int32 → Option (Int32 × rp_S)) (hk20 : ∀ (σ : rp_S) (v2 : Int32) (v3 : Int32), rp_R E (rp_mK E rmX6_winds) mX6_winds 20 [some (.ref (E.2.2.2.1 0)), some (.ref (E.2.2.2.1 5)), some (.int v2), some (.int v3)] [] σ rp_hI (k20 σ v2 v3)) (σ : rp_S) (v2 : Int32) (v3 : Int32) : rp_R E (rp_mK E rmX6_winds) mX6_winds 48 [some (.ref (E.2.2.2.1 0)), some (.ref (E.2.2.2.1 5)), some (.int v2), some (.int v3)] [] σ rp_hI (fX6_winds_48 k20 σ v2 v3) := by
  rw [fX6_winds_48]
  refine rp_iinc (x := v3) dX6_winds_48 rfl (by decide) rfl ?_
  refine rp_goto (tgt := 20) dX6_winds_51 (by decide) ?_
  refine rp_mask [true, true, true, true] (vs2 := [some (.ref (E.2.2.2.1 0)), some (.ref (E.2.2.2.1 5)), some (.int v2), some (.int (v3 + (rI 1)))]) rfl rfl ?_
  exact hk20 σ v2 (v3 + (rI 1))
def fX6_winds_20  : Nat → rp_S → Int32 → Int32 → Option (Int32 × rp_S)
  | 0, _, _, _ => none
  | n + 1, σ, v2, v3 =>
    (if (rI 9) ≤ v3 then
    (some (v2, σ))
  else
    ((some (rp_up σ 5 4 v3)).bind fun σ2 =>
    ((fX4_agreeWith σ2 5).bind fun x3 =>
    (if x3 = 0 then
    (fX6_winds_48 (fun σ v2 v3 => fX6_winds_20 n σ v2 v3) σ2 v2 v3)
  else
    (fX6_winds_48 (fun σ v2 v3 => fX6_winds_20 n σ v2 v3) σ2 (v2 ||| ((rI 1) <<< (v3 &&& 31))) v3)))))
set_option maxRecDepth 100000 in
theorem rX6_winds_20 {E : rp_E}  : ∀ (n : Nat) (σ : rp_S) (v2 : Int32) (v3 : Int32), rp_R E (rp_mK E rmX6_winds) mX6_winds 20 [some (.ref (E.2.2.2.1 0)), some (.ref (E.2.2.2.1 5)), some (.int v2), some (.int v3)] [] σ rp_hI (fX6_winds_20 n σ v2 v3) := by
  intro n
  induction n with
  | zero =>
    intro σ v2 v3
    rw [fX6_winds_20]
    exact rp_none
  | succ n ih =>
    intro σ v2 v3
    rw [fX6_winds_20]
    refine rp_iload_n (x := v3) dX6_winds_20 rfl ?_
    refine rp_bipush dX6_winds_21 (by decide) ?_
    refine rp_icmp_ge (tgt := 54) dX6_winds_23 (by decide) ?_ ?_
    · refine rp_iload_n (x := v2) dX6_winds_54 rfl ?_
      exact rp_iret rfl rfl dX6_winds_55
    · refine rp_aload_n (x := (E.2.2.2.1 5)) dX6_winds_26 rfl ?_
      refine rp_iload_n (x := v3) dX6_winds_27 rfl ?_
      refine rp_putB (k := 4) sh5 rfl fpX6_98 (vp_nar_int _) rfl dX6_winds_28 (fun σ2 => ?_)
      refine rp_aload_n (x := (E.2.2.2.1 0)) dX6_winds_31 rfl ?_
      refine rp_getR (k := 4) (b := 15) sh0 rfl fdX6_40 dX6_winds_32 ?_
      refine rp_aload_n (x := (E.2.2.2.1 5)) dX6_winds_35 rfl ?_
      refine rp_callV_hi (As := [.ref (E.2.2.2.1 5)]) (rest := []) (b := (E.2.2.2.1 15)) (rX4_agreeWith σ2 5 ni5) cbX4_agreeWith lkX6_248 viX4_agreeWith (rp_rcO sh15 rfl) rfl (Nat.le_of_ble_eq_true rfl) ⟨rfl, rfl, ⟨Nat.le_of_ble_eq_true rfl, Nat.le_of_ble_eq_true rfl⟩, Nat.zero_le _, Nat.zero_le _⟩ rfl (Nat.le_of_ble_eq_true rfl) dX6_winds_36 (fun x3 hx3 => ?_)
      refine rp_if_eq (tgt := 48) dX6_winds_39 (by decide) ?_ ?_
      · refine rp_mask [true, true, true, true] (vs2 := [some (.ref (E.2.2.2.1 0)), some (.ref (E.2.2.2.1 5)), some (.int v2), some (.int v3)]) rfl rfl ?_
        exact rX6_winds_48 (fun σ v2 v3 => fX6_winds_20 n σ v2 v3) (fun σ v2 v3 => ih σ v2 v3) σ2 v2 v3
      · refine rp_iload_n (x := v2) dX6_winds_42 rfl ?_
        refine rp_iconst dX6_winds_43 ?_
        refine rp_iload_n (x := v3) dX6_winds_44 rfl ?_
        refine rp_ishl dX6_winds_45 ?_
        refine rp_ior dX6_winds_46 ?_
        refine rp_istore_n dX6_winds_47 (by decide) rfl ?_
        refine rp_mask [true, true, true, true] (vs2 := [some (.ref (E.2.2.2.1 0)), some (.ref (E.2.2.2.1 5)), some (.int (v2 ||| ((rI 1) <<< (v3 &&& 31)))), some (.int v3)]) rfl rfl ?_
        exact rX6_winds_48 (fun σ v2 v3 => fX6_winds_20 n σ v2 v3) (fun σ v2 v3 => ih σ v2 v3) σ2 (v2 ||| ((rI 1) <<< (v3 &&& 31))) v3
def fX6_winds (σ : rp_S)  : Option (Int32 × rp_S) :=
  ((fX1_become σ 5 1).bind fun σ1 =>
    (fX6_winds_20 1000 σ1 (rI 0) (rI 0)))
set_option maxRecDepth 100000 in
theorem rX6_winds {E : rp_E} (σ : rp_S)    : rp_R E (rp_mK E rmX6_winds) mX6_winds 0 [some (.ref (E.2.2.2.1 0)), none, none, none] [] σ rp_hI (fX6_winds σ) := by
  rw [fX6_winds]
  refine rp_aload_n (x := (E.2.2.2.1 0)) dX6_winds_0 rfl ?_
  refine rp_getR (k := 1) (b := 4) sh0 rfl fdX6_19 dX6_winds_1 ?_
  refine rp_getR (k := 0) (b := 5) sh4 rfl fdX6_69 dX6_winds_4 ?_
  refine rp_astore_n dX6_winds_7 (by decide) rfl ?_
  refine rp_aload_n (x := (E.2.2.2.1 5)) dX6_winds_8 rfl ?_
  refine rp_aload_n (x := (E.2.2.2.1 0)) dX6_winds_9 rfl ?_
  refine rp_getR (k := 0) (b := 1) sh0 rfl fdX6_10 dX6_winds_10 ?_
  refine rp_callV_hv (As := [.ref (E.2.2.2.1 1)]) (rest := []) (b := (E.2.2.2.1 5)) (rX1_become σ 5 1 ni5 ni1) cbX1_become lkX6_82 viX1_become (rp_rcO sh5 rfl) rfl (Nat.le_of_ble_eq_true rfl) ⟨rfl, rfl, ⟨Nat.le_of_ble_eq_true rfl, Nat.le_of_ble_eq_true rfl⟩, Nat.zero_le _, Nat.zero_le _⟩ rfl (Nat.le_of_ble_eq_true rfl) dX6_winds_13 (fun σ1 hσ1 => ?_)
  refine rp_iconst dX6_winds_16 ?_
  refine rp_istore_n dX6_winds_17 (by decide) rfl ?_
  refine rp_iconst dX6_winds_18 ?_
  refine rp_istore_n dX6_winds_19 (by decide) rfl ?_
  refine rp_mask [true, true, true, true] (vs2 := [some (.ref (E.2.2.2.1 0)), some (.ref (E.2.2.2.1 5)), some (.int (rI 0)), some (.int (rI 0))]) rfl rfl ?_
  exact rX6_winds_20 1000 σ1 (rI 0) (rI 0)
/-! RocketPrintModel.isAsSeen(I)Z -/
abbrev rmX7_isAsSeen : Room := { frames := 3, cells := 0, slots := 0, locals := 66 }
def fX7_isAsSeen_62 (σ : rp_S) (k4 : Int32 → Int32 → Int32 → Option (Int32)) (v1 : Int32) (v3 : Int32) (s0 : Int32) : Option (Int32) :=
  (k4 v1 s0 (v3 + (rI 1)))
set_option maxRecDepth 100000 in
theorem rX7_isAsSeen_62 {E : rp_E} (σ : rp_S) (k4 : Int32 → Int32 → Int32 → Option (Int32)) (hk4 : ∀ (v1 : Int32) (v2 : Int32) (v3 : Int32), rp_R E (rp_mK E rmX7_isAsSeen) mX7_isAsSeen 4 [some (.ref (E.2.2.2.1 28)), some (.int v1), some (.int v2), some (.int v3)] [] σ (rp_hi σ) (k4 v1 v2 v3)) (v1 : Int32) (v3 : Int32) (s0 : Int32) : rp_R E (rp_mK E rmX7_isAsSeen) mX7_isAsSeen 62 [some (.ref (E.2.2.2.1 28)), some (.int v1), none, some (.int v3)] [.int s0] σ (rp_hi σ) (fX7_isAsSeen_62 σ k4 v1 v3 s0) := by
  rw [fX7_isAsSeen_62]
  refine rp_istore_n dX7_isAsSeen_62 (by decide) rfl ?_
  refine rp_iinc (x := v3) dX7_isAsSeen_63 rfl (by decide) rfl ?_
  refine rp_goto (tgt := 4) dX7_isAsSeen_66 (by decide) ?_
  refine rp_mask [true, true, true, true] (vs2 := [some (.ref (E.2.2.2.1 28)), some (.int v1), some (.int s0), some (.int (v3 + (rI 1)))]) rfl rfl ?_
  exact hk4 v1 s0 (v3 + (rI 1))
def fX7_isAsSeen_61 (σ : rp_S) (k4 : Int32 → Int32 → Int32 → Option (Int32)) (v1 : Int32) (v3 : Int32) : Option (Int32) :=
  (fX7_isAsSeen_62 σ k4 v1 v3 (rI 0))
set_option maxRecDepth 100000 in
theorem rX7_isAsSeen_61 {E : rp_E} (σ : rp_S) (k4 : Int32 → Int32 → Int32 → Option (Int32)) (hk4 : ∀ (v1 : Int32) (v2 : Int32) (v3 : Int32), rp_R E (rp_mK E rmX7_isAsSeen) mX7_isAsSeen 4 [some (.ref (E.2.2.2.1 28)), some (.int v1), some (.int v2), some (.int v3)] [] σ (rp_hi σ) (k4 v1 v2 v3)) (v1 : Int32) (v3 : Int32) : rp_R E (rp_mK E rmX7_isAsSeen) mX7_isAsSeen 61 [some (.ref (E.2.2.2.1 28)), some (.int v1), none, some (.int v3)] [] σ (rp_hi σ) (fX7_isAsSeen_61 σ k4 v1 v3) := by
  rw [fX7_isAsSeen_61]
  refine rp_iconst dX7_isAsSeen_61 ?_
  refine rp_mask [true, true, false, true] (vs2 := [some (.ref (E.2.2.2.1 28)), some (.int v1), none, some (.int v3)]) rfl rfl ?_
  exact rX7_isAsSeen_62 σ k4 hk4 v1 v3 (rI 0)
def fX7_isAsSeen_4 (σ : rp_S) : Nat → Int32 → Int32 → Int32 → Option (Int32)
  | 0, _, _, _ => none
  | n + 1, v1, v2, v3 =>
    (if (σ 28 20) ≤ v3 then
    (some (vp_nar .boolean v2))
  else
    (if v2 = 0 then
    (fX7_isAsSeen_61 σ (fun v1 v2 v3 => fX7_isAsSeen_4 σ n v1 v2 v3) v1 v3)
  else
    ((rq_rd σ 35 12 ((rI 2) * v3)).bind fun x1 =>
    ((fX7_isWork σ x1).bind fun x2 =>
    (if x2 = 0 then
    (fX7_isAsSeen_61 σ (fun v1 v2 v3 => fX7_isAsSeen_4 σ n v1 v2 v3) v1 v3)
  else
    ((rq_rd σ 35 12 ((rI 2) * v3)).bind fun x3 =>
    ((fX7_stickOn σ v1 x3).bind fun x4 =>
    ((rq_rd σ 35 12 (((rI 2) * v3) + (rI 1))).bind fun x5 =>
    (if x4 = x5 then
    (fX7_isAsSeen_62 σ (fun v1 v2 v3 => fX7_isAsSeen_4 σ n v1 v2 v3) v1 v3 (rI 1))
  else
    (fX7_isAsSeen_61 σ (fun v1 v2 v3 => fX7_isAsSeen_4 σ n v1 v2 v3) v1 v3))))))))))
set_option maxRecDepth 100000 in
theorem rX7_isAsSeen_4 {E : rp_E} (σ : rp_S) : ∀ (n : Nat) (v1 : Int32) (v2 : Int32) (v3 : Int32), rp_R E (rp_mK E rmX7_isAsSeen) mX7_isAsSeen 4 [some (.ref (E.2.2.2.1 28)), some (.int v1), some (.int v2), some (.int v3)] [] σ (rp_hi σ) (fX7_isAsSeen_4 σ n v1 v2 v3) := by
  intro n
  induction n with
  | zero =>
    intro v1 v2 v3
    rw [fX7_isAsSeen_4]
    exact rp_none
  | succ n ih =>
    intro v1 v2 v3
    rw [fX7_isAsSeen_4]
    refine rp_iload_n (x := v3) dX7_isAsSeen_4 rfl ?_
    refine rp_aload_n (x := (E.2.2.2.1 28)) dX7_isAsSeen_5 rfl ?_
    refine rp_getI (k := 20) sh28 rfl fdX7_116 dX7_isAsSeen_6 ?_
    refine rp_icmp_ge (tgt := 69) dX7_isAsSeen_9 (by decide) ?_ ?_
    · refine rp_iload_n (x := v2) dX7_isAsSeen_69 rfl ?_
      exact rp_zret (x' := (vp_nar .boolean v2)) rfl (rp_nrZ _) rfl dX7_isAsSeen_70
    · refine rp_iload_n (x := v2) dX7_isAsSeen_12 rfl ?_
      refine rp_if_eq (tgt := 61) dX7_isAsSeen_13 (by decide) ?_ ?_
      · refine rp_mask [true, true, false, true] (vs2 := [some (.ref (E.2.2.2.1 28)), some (.int v1), none, some (.int v3)]) rfl rfl ?_
        exact rX7_isAsSeen_61 σ (fun v1 v2 v3 => fX7_isAsSeen_4 σ n v1 v2 v3) (fun v1 v2 v3 => ih v1 v2 v3) v1 v3
      · refine rp_aload_n (x := (E.2.2.2.1 28)) dX7_isAsSeen_16 rfl ?_
        refine rp_aload_n (x := (E.2.2.2.1 28)) dX7_isAsSeen_17 rfl ?_
        refine rp_getR (k := 19) (b := 35) sh28 rfl fdX7_28 dX7_isAsSeen_18 ?_
        refine rp_iconst dX7_isAsSeen_21 ?_
        refine rp_iload_n (x := v3) dX7_isAsSeen_22 rfl ?_
        refine rp_imul dX7_isAsSeen_23 ?_
        refine rp_iaload sh35 dX7_isAsSeen_24 (fun x1 => ?_)
        refine rp_callV_hi (As := [.int x1]) (rest := []) (b := (E.2.2.2.1 28)) (rX7_isWork σ x1) cbX7_isWork lkX7_168 viX7_isWork (rp_rcO sh28 rfl) rfl (Nat.le_of_ble_eq_true rfl) ⟨rfl, rfl, ⟨Nat.le_of_ble_eq_true rfl, Nat.le_of_ble_eq_true rfl⟩, Nat.zero_le _, Nat.zero_le _⟩ rfl (Nat.le_of_ble_eq_true rfl) dX7_isAsSeen_25 (fun x2 hx2 => ?_)
        refine rp_if_eq (tgt := 61) dX7_isAsSeen_28 (by decide) ?_ ?_
        · refine rp_mask [true, true, false, true] (vs2 := [some (.ref (E.2.2.2.1 28)), some (.int v1), none, some (.int v3)]) rfl rfl ?_
          exact rX7_isAsSeen_61 σ (fun v1 v2 v3 => fX7_isAsSeen_4 σ n v1 v2 v3) (fun v1 v2 v3 => ih v1 v2 v3) v1 v3
        · refine rp_aload_n (x := (E.2.2.2.1 28)) dX7_isAsSeen_31 rfl ?_
          refine rp_iload_n (x := v1) dX7_isAsSeen_32 rfl ?_
          refine rp_aload_n (x := (E.2.2.2.1 28)) dX7_isAsSeen_33 rfl ?_
          refine rp_getR (k := 19) (b := 35) sh28 rfl fdX7_28 dX7_isAsSeen_34 ?_
          refine rp_iconst dX7_isAsSeen_37 ?_
          refine rp_iload_n (x := v3) dX7_isAsSeen_38 rfl ?_
          refine rp_imul dX7_isAsSeen_39 ?_
          refine rp_iaload sh35 dX7_isAsSeen_40 (fun x3 => ?_)
          refine rp_callV_hi (As := [.int v1, .int x3]) (rest := []) (b := (E.2.2.2.1 28)) (rX7_stickOn σ v1 x3) cbX7_stickOn lkX7_172 viX7_stickOn (rp_rcO sh28 rfl) rfl (Nat.le_of_ble_eq_true rfl) ⟨rfl, rfl, ⟨Nat.le_of_ble_eq_true rfl, Nat.le_of_ble_eq_true rfl⟩, Nat.zero_le _, Nat.zero_le _⟩ rfl (Nat.le_of_ble_eq_true rfl) dX7_isAsSeen_41 (fun x4 hx4 => ?_)
          refine rp_aload_n (x := (E.2.2.2.1 28)) dX7_isAsSeen_44 rfl ?_
          refine rp_getR (k := 19) (b := 35) sh28 rfl fdX7_28 dX7_isAsSeen_45 ?_
          refine rp_iconst dX7_isAsSeen_48 ?_
          refine rp_iload_n (x := v3) dX7_isAsSeen_49 rfl ?_
          refine rp_imul dX7_isAsSeen_50 ?_
          refine rp_iconst dX7_isAsSeen_51 ?_
          refine rp_iadd dX7_isAsSeen_52 ?_
          refine rp_iaload sh35 dX7_isAsSeen_53 (fun x5 => ?_)
          refine rp_icmp_ne (tgt := 61) dX7_isAsSeen_54 (by decide) ?_ ?_
          · refine rp_mask [true, true, false, true] (vs2 := [some (.ref (E.2.2.2.1 28)), some (.int v1), none, some (.int v3)]) rfl rfl ?_
            exact rX7_isAsSeen_61 σ (fun v1 v2 v3 => fX7_isAsSeen_4 σ n v1 v2 v3) (fun v1 v2 v3 => ih v1 v2 v3) v1 v3
          · refine rp_iconst dX7_isAsSeen_57 ?_
            refine rp_goto (tgt := 62) dX7_isAsSeen_58 (by decide) ?_
            refine rp_mask [true, true, false, true] (vs2 := [some (.ref (E.2.2.2.1 28)), some (.int v1), none, some (.int v3)]) rfl rfl ?_
            exact rX7_isAsSeen_62 σ (fun v1 v2 v3 => fX7_isAsSeen_4 σ n v1 v2 v3) (fun v1 v2 v3 => ih v1 v2 v3) v1 v3 (rI 1)
def fX7_isAsSeen (σ : rp_S) (v1 : Int32) : Option (Int32) :=
  (fX7_isAsSeen_4 σ 1000 v1 (rI 1) (rI 0))
set_option maxRecDepth 100000 in
theorem rX7_isAsSeen {E : rp_E} (σ : rp_S) (v1 : Int32)   : rp_R E (rp_mK E rmX7_isAsSeen) mX7_isAsSeen 0 [some (.ref (E.2.2.2.1 28)), some (.int v1), none, none] [] σ (rp_hi σ) (fX7_isAsSeen σ v1) := by
  rw [fX7_isAsSeen]
  refine rp_iconst dX7_isAsSeen_0 ?_
  refine rp_istore_n dX7_isAsSeen_1 (by decide) rfl ?_
  refine rp_iconst dX7_isAsSeen_2 ?_
  refine rp_istore_n dX7_isAsSeen_3 (by decide) rfl ?_
  refine rp_mask [true, true, true, true] (vs2 := [some (.ref (E.2.2.2.1 28)), some (.int v1), some (.int (rI 1)), some (.int (rI 0))]) rfl rfl ?_
  exact rX7_isAsSeen_4 σ 1000 v1 (rI 1) (rI 0)
/-! RocketPrintModel.windsNow()I -/
abbrev rmX7_windsNow : Room := { frames := 4, cells := 0, slots := 0, locals := 89 }
def fX7_windsNow_51 (k12 : rp_S → Int32 → Int32 → Option (Int32 × rp_S)) : Nat → rp_S → Int32 → Int32 → Int32 → Option (Int32 × rp_S)
  | 0, _, _, _, _ => none
  | n + 1, σ, v1, v2, v3 =>
    ((rq_rd σ 29 180 (rI 24)).bind fun x4 =>
    (if x4 ≤ v3 then
    (k12 σ v1 (v2 + (rI 1)))
  else
    ((fX7_stickOn σ (rI 144) v3).bind fun x5 =>
    ((rq_wr σ 36 54 (((rI 6) * v2) + v3) x5).bind fun σ6 =>
    (fX7_windsNow_51 k12 n σ6 v1 v2 (v3 + (rI 1)))))))
set_option maxRecDepth 100000 in
theorem rX7_windsNow_51 {E : rp_E} (k12 : rp_S → Int32 → Int32 → Option (Int32 × rp_S)) (hk12 : ∀ (σ : rp_S) (v1 : Int32) (v2 : Int32), rp_R E (rp_mK E rmX7_windsNow) mX7_windsNow 12 [some (.ref (E.2.2.2.1 28)), some (.int v1), some (.int v2), none] [] σ rp_hI (k12 σ v1 v2)) : ∀ (n : Nat) (σ : rp_S) (v1 : Int32) (v2 : Int32) (v3 : Int32), rp_R E (rp_mK E rmX7_windsNow) mX7_windsNow 51 [some (.ref (E.2.2.2.1 28)), some (.int v1), some (.int v2), some (.int v3)] [] σ rp_hI (fX7_windsNow_51 k12 n σ v1 v2 v3) := by
  intro n
  induction n with
  | zero =>
    intro σ v1 v2 v3
    rw [fX7_windsNow_51]
    exact rp_none
  | succ n ih =>
    intro σ v1 v2 v3
    rw [fX7_windsNow_51]
    refine rp_iload_n (x := v3) dX7_windsNow_51 rfl ?_
    refine rp_aload_n (x := (E.2.2.2.1 28)) dX7_windsNow_52 rfl ?_
    refine rp_getR (k := 0) (b := 29) sh28 rfl fdX7_7 dX7_windsNow_53 ?_
    refine rp_bipush dX7_windsNow_56 (by decide) ?_
    refine rp_iaload sh29 dX7_windsNow_58 (fun x4 => ?_)
    refine rp_icmp_ge (tgt := 87) dX7_windsNow_59 (by decide) ?_ ?_
    · refine rp_iinc (x := v2) dX7_windsNow_87 rfl (by decide) rfl ?_
      refine rp_goto (tgt := 12) dX7_windsNow_90 (by decide) ?_
      refine rp_mask [true, true, true, false] (vs2 := [some (.ref (E.2.2.2.1 28)), some (.int v1), some (.int (v2 + (rI 1))), none]) rfl rfl ?_
      exact hk12 σ v1 (v2 + (rI 1))
    · refine rp_aload_n (x := (E.2.2.2.1 28)) dX7_windsNow_62 rfl ?_
      refine rp_getR (k := 21) (b := 36) sh28 rfl fdX7_31 dX7_windsNow_63 ?_
      refine rp_bipush dX7_windsNow_66 (by decide) ?_
      refine rp_iload_n (x := v2) dX7_windsNow_68 rfl ?_
      refine rp_imul dX7_windsNow_69 ?_
      refine rp_iload_n (x := v3) dX7_windsNow_70 rfl ?_
      refine rp_iadd dX7_windsNow_71 ?_
      refine rp_aload_n (x := (E.2.2.2.1 28)) dX7_windsNow_72 rfl ?_
      refine rp_sipush dX7_windsNow_73 (by decide) ?_
      refine rp_iload_n (x := v3) dX7_windsNow_76 rfl ?_
      refine rp_callV_hi (As := [.int (rI 144), .int v3]) (rest := [.int (((rI 6) * v2) + v3), .ref (E.2.2.2.1 36)]) (b := (E.2.2.2.1 28)) (rX7_stickOn σ (rI 144) v3) cbX7_stickOn lkX7_172 viX7_stickOn (rp_rcO sh28 rfl) rfl (Nat.le_of_ble_eq_true rfl) ⟨rfl, rfl, ⟨Nat.le_of_ble_eq_true rfl, Nat.le_of_ble_eq_true rfl⟩, Nat.zero_le _, Nat.zero_le _⟩ rfl (Nat.le_of_ble_eq_true rfl) dX7_windsNow_77 (fun x5 hx5 => ?_)
      refine rp_iastore sh36 dX7_windsNow_80 (fun σ6 => ?_)
      refine rp_iinc (x := v3) dX7_windsNow_81 rfl (by decide) rfl ?_
      refine rp_goto (tgt := 51) dX7_windsNow_84 (by decide) ?_
      refine rp_mask [true, true, true, true] (vs2 := [some (.ref (E.2.2.2.1 28)), some (.int v1), some (.int v2), some (.int (v3 + (rI 1)))]) rfl rfl ?_
      exact ih σ6 v1 v2 (v3 + (rI 1))
def fX7_windsNow_47 (k12 : rp_S → Int32 → Int32 → Option (Int32 × rp_S)) (σ : rp_S) (v2 : Int32) (s0 : Int32) (s1 : Int32) : Option (Int32 × rp_S) :=
  (fX7_windsNow_51 k12 1000 σ (s1 ||| s0) v2 (rI 0))
set_option maxRecDepth 100000 in
theorem rX7_windsNow_47 {E : rp_E} (k12 : rp_S → Int32 → Int32 → Option (Int32 × rp_S)) (hk12 : ∀ (σ : rp_S) (v1 : Int32) (v2 : Int32), rp_R E (rp_mK E rmX7_windsNow) mX7_windsNow 12 [some (.ref (E.2.2.2.1 28)), some (.int v1), some (.int v2), none] [] σ rp_hI (k12 σ v1 v2)) (σ : rp_S) (v2 : Int32) (s0 : Int32) (s1 : Int32) : rp_R E (rp_mK E rmX7_windsNow) mX7_windsNow 47 [some (.ref (E.2.2.2.1 28)), none, some (.int v2), none] [.int s0, .int s1] σ rp_hI (fX7_windsNow_47 k12 σ v2 s0 s1) := by
  rw [fX7_windsNow_47]
  refine rp_ior dX7_windsNow_47 ?_
  refine rp_istore_n dX7_windsNow_48 (by decide) rfl ?_
  refine rp_iconst dX7_windsNow_49 ?_
  refine rp_istore_n dX7_windsNow_50 (by decide) rfl ?_
  refine rp_mask [true, true, true, true] (vs2 := [some (.ref (E.2.2.2.1 28)), some (.int (s1 ||| s0)), some (.int v2), some (.int (rI 0))]) rfl rfl ?_
  exact rX7_windsNow_51 k12 hk12 1000 σ (s1 ||| s0) v2 (rI 0)
def fX7_windsNow_12  : Nat → rp_S → Int32 → Int32 → Option (Int32 × rp_S)
  | 0, _, _, _ => none
  | n + 1, σ, v1, v2 =>
    (if (rI 8) < v2 then
    (some (v1, σ))
  else
    ((rq_wr σ 29 180 (rI 178) (v2 - (rI 4))).bind fun σ2 =>
    ((fX7_isAsSeen σ2 (rI 144)).bind fun x3 =>
    (if x3 = 0 then
    (fX7_windsNow_47 (fun σ v1 v2 => fX7_windsNow_12 n σ v1 v2) σ2 v2 (rI 0) v1)
  else
    (fX7_windsNow_47 (fun σ v1 v2 => fX7_windsNow_12 n σ v1 v2) σ2 v2 ((rI 1) <<< (v2 &&& 31)) v1)))))
set_option maxRecDepth 100000 in
theorem rX7_windsNow_12 {E : rp_E}  : ∀ (n : Nat) (σ : rp_S) (v1 : Int32) (v2 : Int32), rp_R E (rp_mK E rmX7_windsNow) mX7_windsNow 12 [some (.ref (E.2.2.2.1 28)), some (.int v1), some (.int v2), none] [] σ rp_hI (fX7_windsNow_12 n σ v1 v2) := by
  intro n
  induction n with
  | zero =>
    intro σ v1 v2
    rw [fX7_windsNow_12]
    exact rp_none
  | succ n ih =>
    intro σ v1 v2
    rw [fX7_windsNow_12]
    refine rp_iload_n (x := v2) dX7_windsNow_12 rfl ?_
    refine rp_bipush dX7_windsNow_13 (by decide) ?_
    refine rp_icmp_gt (tgt := 93) dX7_windsNow_15 (by decide) ?_ ?_
    · refine rp_iload_n (x := v1) dX7_windsNow_93 rfl ?_
      exact rp_iret rfl rfl dX7_windsNow_94
    · refine rp_aload_n (x := (E.2.2.2.1 28)) dX7_windsNow_18 rfl ?_
      refine rp_getR (k := 0) (b := 29) sh28 rfl fdX7_7 dX7_windsNow_19 ?_
      refine rp_sipush dX7_windsNow_22 (by decide) ?_
      refine rp_iload_n (x := v2) dX7_windsNow_25 rfl ?_
      refine rp_iconst dX7_windsNow_26 ?_
      refine rp_isub dX7_windsNow_27 ?_
      refine rp_iastore sh29 dX7_windsNow_28 (fun σ2 => ?_)
      refine rp_iload_n (x := v1) dX7_windsNow_29 rfl ?_
      refine rp_aload_n (x := (E.2.2.2.1 28)) dX7_windsNow_30 rfl ?_
      refine rp_sipush dX7_windsNow_31 (by decide) ?_
      refine rp_callV_hi (As := [.int (rI 144)]) (rest := [.int v1]) (b := (E.2.2.2.1 28)) (rX7_isAsSeen σ2 (rI 144)) cbX7_isAsSeen lkX7_228 viX7_isAsSeen (rp_rcO sh28 rfl) rfl (Nat.le_of_ble_eq_true rfl) ⟨rfl, rfl, ⟨Nat.le_of_ble_eq_true rfl, Nat.le_of_ble_eq_true rfl⟩, Nat.zero_le _, Nat.zero_le _⟩ rfl (Nat.le_of_ble_eq_true rfl) dX7_windsNow_34 (fun x3 hx3 => ?_)
      refine rp_if_eq (tgt := 46) dX7_windsNow_37 (by decide) ?_ ?_
      · refine rp_iconst dX7_windsNow_46 ?_
        refine rp_mask [true, false, true, false] (vs2 := [some (.ref (E.2.2.2.1 28)), none, some (.int v2), none]) rfl rfl ?_
        exact rX7_windsNow_47 (fun σ v1 v2 => fX7_windsNow_12 n σ v1 v2) (fun σ v1 v2 => ih σ v1 v2) σ2 v2 (rI 0) v1
      · refine rp_iconst dX7_windsNow_40 ?_
        refine rp_iload_n (x := v2) dX7_windsNow_41 rfl ?_
        refine rp_ishl dX7_windsNow_42 ?_
        refine rp_goto (tgt := 47) dX7_windsNow_43 (by decide) ?_
        refine rp_mask [true, false, true, false] (vs2 := [some (.ref (E.2.2.2.1 28)), none, some (.int v2), none]) rfl rfl ?_
        exact rX7_windsNow_47 (fun σ v1 v2 => fX7_windsNow_12 n σ v1 v2) (fun σ v1 v2 => ih σ v1 v2) σ2 v2 ((rI 1) <<< (v2 &&& 31)) v1
def fX7_windsNow (σ : rp_S)  : Option (Int32 × rp_S) :=
  ((fX7_copies σ (rI 0) (rI 144)).bind fun σ1 =>
    (fX7_windsNow_12 1000 σ1 (rI 0) (rI 0)))
set_option maxRecDepth 100000 in
theorem rX7_windsNow {E : rp_E} (σ : rp_S)    : rp_R E (rp_mK E rmX7_windsNow) mX7_windsNow 0 [some (.ref (E.2.2.2.1 28)), none, none, none] [] σ rp_hI (fX7_windsNow σ) := by
  rw [fX7_windsNow]
  refine rp_iconst dX7_windsNow_0 ?_
  refine rp_istore_n dX7_windsNow_1 (by decide) rfl ?_
  refine rp_aload_n (x := (E.2.2.2.1 28)) dX7_windsNow_2 rfl ?_
  refine rp_iconst dX7_windsNow_3 ?_
  refine rp_sipush dX7_windsNow_4 (by decide) ?_
  refine rp_callV_hv (As := [.int (rI 0), .int (rI 144)]) (rest := []) (b := (E.2.2.2.1 28)) (rX7_copies σ (rI 0) (rI 144)) cbX7_copies lkX7_209 viX7_copies (rp_rcO sh28 rfl) rfl (Nat.le_of_ble_eq_true rfl) ⟨rfl, rfl, ⟨Nat.le_of_ble_eq_true rfl, Nat.le_of_ble_eq_true rfl⟩, Nat.zero_le _, Nat.zero_le _⟩ rfl (Nat.le_of_ble_eq_true rfl) dX7_windsNow_7 (fun σ1 hσ1 => ?_)
  refine rp_iconst dX7_windsNow_10 ?_
  refine rp_istore_n dX7_windsNow_11 (by decide) rfl ?_
  refine rp_mask [true, true, true, false] (vs2 := [some (.ref (E.2.2.2.1 28)), some (.int (rI 0)), some (.int (rI 0)), none]) rfl rfl ?_
  exact rX7_windsNow_12 1000 σ1 (rI 0) (rI 0)
/-! RocketPrintModel.winds()I -/
abbrev rmX7_winds : Room := { frames := 5, cells := 0, slots := 0, locals := 112 }
def fX7_winds (σ : rp_S)  : Option (Int32 × rp_S) :=
  ((fX7_windsNow σ).bind fun p1 =>
    (some (p1.1, p1.2)))
set_option maxRecDepth 100000 in
theorem rX7_winds {E : rp_E} (σ : rp_S)    : rp_R E (rp_mK E rmX7_winds) mX7_winds 0 [some (.ref (E.2.2.2.1 28))] [] σ rp_hI (fX7_winds σ) := by
  rw [fX7_winds]
  refine rp_aload_n (x := (E.2.2.2.1 28)) dX7_winds_0 rfl ?_
  refine rp_callV_hI (As := []) (rest := []) (b := (E.2.2.2.1 28)) (rX7_windsNow σ) cbX7_windsNow lkX7_231 viX7_windsNow (rp_rcO sh28 rfl) rfl (Nat.le_of_ble_eq_true rfl) ⟨rfl, rfl, ⟨Nat.le_of_ble_eq_true rfl, Nat.le_of_ble_eq_true rfl⟩, Nat.zero_le _, Nat.zero_le _⟩ rfl (Nat.le_of_ble_eq_true rfl) dX7_winds_1 (fun p1 hp1 => ?_)
  exact rp_iret rfl rfl dX7_winds_4
/-! RocketPrint.valuesAsSeen(II)I -/
abbrev rmX6_valuesAsSeen : Room := { frames := 5, cells := 0, slots := 0, locals := 105 }
def fX6_valuesAsSeen_60 (k22 : rp_S → Int32 → Int32 → Int32 → Int32 → Option (Int32 × rp_S)) (σ : rp_S) (v1 : Int32) (v2 : Int32) (v4 : Int32) (v5 : Int32) : Option (Int32 × rp_S) :=
  (k22 σ v1 v2 v4 (v5 + (rI 1)))
set_option maxRecDepth 100000 in
theorem rX6_valuesAsSeen_60 {E : rp_E} (k22 : rp_S → Int32 → Int32 → Int32 → Int32 → Option (Int32 × rp_S)) (hk22 : ∀ (σ : rp_S) (v1 : Int32) (v2 : Int32) (v4 : Int32) (v5 : Int32), rp_R E (rp_mK E rmX6_valuesAsSeen) mX6_valuesAsSeen 22 [some (.ref (E.2.2.2.1 0)), some (.int v1), some (.int v2), some (.ref (E.2.2.2.1 5)), some (.int v4), some (.int v5)] [] σ rp_hI (k22 σ v1 v2 v4 v5)) (σ : rp_S) (v1 : Int32) (v2 : Int32) (v4 : Int32) (v5 : Int32) : rp_R E (rp_mK E rmX6_valuesAsSeen) mX6_valuesAsSeen 60 [some (.ref (E.2.2.2.1 0)), some (.int v1), some (.int v2), some (.ref (E.2.2.2.1 5)), some (.int v4), some (.int v5)] [] σ rp_hI (fX6_valuesAsSeen_60 k22 σ v1 v2 v4 v5) := by
  rw [fX6_valuesAsSeen_60]
  refine rp_iinc (x := v5) dX6_valuesAsSeen_60 rfl (by decide) rfl ?_
  refine rp_goto (tgt := 22) dX6_valuesAsSeen_63 (by decide) ?_
  refine rp_mask [true, true, true, true, true, true] (vs2 := [some (.ref (E.2.2.2.1 0)), some (.int v1), some (.int v2), some (.ref (E.2.2.2.1 5)), some (.int v4), some (.int (v5 + (rI 1)))]) rfl rfl ?_
  exact hk22 σ v1 v2 v4 (v5 + (rI 1))
def fX6_valuesAsSeen_22  : Nat → rp_S → Int32 → Int32 → Int32 → Int32 → Option (Int32 × rp_S)
  | 0, _, _, _, _, _ => none
  | n + 1, σ, v1, v2, v4, v5 =>
    ((rq_td 1 v2).bind fun x2 =>
    (if x2 < v5 then
    (some (v4, σ))
  else
    ((fX1_setWork σ 5 v1 v2 v5).bind fun σ3 =>
    ((fX4_agreeWith σ3 5).bind fun x4 =>
    (if x4 = 0 then
    (fX6_valuesAsSeen_60 (fun σ v1 v2 v4 v5 => fX6_valuesAsSeen_22 n σ v1 v2 v4 v5) σ3 v1 v2 v4 v5)
  else
    (fX6_valuesAsSeen_60 (fun σ v1 v2 v4 v5 => fX6_valuesAsSeen_22 n σ v1 v2 v4 v5) σ3 v1 v2 (v4 ||| ((rI 1) <<< (v5 &&& 31))) v5))))))
set_option maxRecDepth 100000 in
theorem rX6_valuesAsSeen_22 {E : rp_E}  : ∀ (n : Nat) (σ : rp_S) (v1 : Int32) (v2 : Int32) (v4 : Int32) (v5 : Int32), rp_R E (rp_mK E rmX6_valuesAsSeen) mX6_valuesAsSeen 22 [some (.ref (E.2.2.2.1 0)), some (.int v1), some (.int v2), some (.ref (E.2.2.2.1 5)), some (.int v4), some (.int v5)] [] σ rp_hI (fX6_valuesAsSeen_22 n σ v1 v2 v4 v5) := by
  intro n
  induction n with
  | zero =>
    intro σ v1 v2 v4 v5
    rw [fX6_valuesAsSeen_22]
    exact rp_none
  | succ n ih =>
    intro σ v1 v2 v4 v5
    rw [fX6_valuesAsSeen_22]
    refine rp_iload (x := v5) dX6_valuesAsSeen_22 rfl ?_
    refine rp_gets (i := 1) (by decide) slX6_197 dX6_valuesAsSeen_24 ?_
    refine rp_iload_n (x := v2) dX6_valuesAsSeen_27 rfl ?_
    refine rp_tald (i := 1) (by decide) dX6_valuesAsSeen_28 (fun x2 => ?_)
    refine rp_icmp_gt (tgt := 66) dX6_valuesAsSeen_29 (by decide) ?_ ?_
    · refine rp_iload (x := v4) dX6_valuesAsSeen_66 rfl ?_
      exact rp_iret rfl rfl dX6_valuesAsSeen_68
    · refine rp_aload_n (x := (E.2.2.2.1 5)) dX6_valuesAsSeen_32 rfl ?_
      refine rp_iload_n (x := v1) dX6_valuesAsSeen_33 rfl ?_
      refine rp_iload_n (x := v2) dX6_valuesAsSeen_34 rfl ?_
      refine rp_iload (x := v5) dX6_valuesAsSeen_35 rfl ?_
      refine rp_callV_hv (As := [.int v1, .int v2, .int v5]) (rest := []) (b := (E.2.2.2.1 5)) (rX1_setWork σ 5 v1 v2 v5 ni5) cbX1_setWork lkX6_163 viX1_setWork (rp_rcO sh5 rfl) rfl (Nat.le_of_ble_eq_true rfl) ⟨rfl, rfl, ⟨Nat.le_of_ble_eq_true rfl, Nat.le_of_ble_eq_true rfl⟩, Nat.zero_le _, Nat.zero_le _⟩ rfl (Nat.le_of_ble_eq_true rfl) dX6_valuesAsSeen_37 (fun σ3 hσ3 => ?_)
      refine rp_aload_n (x := (E.2.2.2.1 0)) dX6_valuesAsSeen_40 rfl ?_
      refine rp_getR (k := 4) (b := 15) sh0 rfl fdX6_40 dX6_valuesAsSeen_41 ?_
      refine rp_aload_n (x := (E.2.2.2.1 5)) dX6_valuesAsSeen_44 rfl ?_
      refine rp_callV_hi (As := [.ref (E.2.2.2.1 5)]) (rest := []) (b := (E.2.2.2.1 15)) (rX4_agreeWith σ3 5 ni5) cbX4_agreeWith lkX6_248 viX4_agreeWith (rp_rcO sh15 rfl) rfl (Nat.le_of_ble_eq_true rfl) ⟨rfl, rfl, ⟨Nat.le_of_ble_eq_true rfl, Nat.le_of_ble_eq_true rfl⟩, Nat.zero_le _, Nat.zero_le _⟩ rfl (Nat.le_of_ble_eq_true rfl) dX6_valuesAsSeen_45 (fun x4 hx4 => ?_)
      refine rp_if_eq (tgt := 60) dX6_valuesAsSeen_48 (by decide) ?_ ?_
      · refine rp_mask [true, true, true, true, true, true] (vs2 := [some (.ref (E.2.2.2.1 0)), some (.int v1), some (.int v2), some (.ref (E.2.2.2.1 5)), some (.int v4), some (.int v5)]) rfl rfl ?_
        exact rX6_valuesAsSeen_60 (fun σ v1 v2 v4 v5 => fX6_valuesAsSeen_22 n σ v1 v2 v4 v5) (fun σ v1 v2 v4 v5 => ih σ v1 v2 v4 v5) σ3 v1 v2 v4 v5
      · refine rp_iload (x := v4) dX6_valuesAsSeen_51 rfl ?_
        refine rp_iconst dX6_valuesAsSeen_53 ?_
        refine rp_iload (x := v5) dX6_valuesAsSeen_54 rfl ?_
        refine rp_ishl dX6_valuesAsSeen_56 ?_
        refine rp_ior dX6_valuesAsSeen_57 ?_
        refine rp_istore dX6_valuesAsSeen_58 (by decide) rfl ?_
        refine rp_mask [true, true, true, true, true, true] (vs2 := [some (.ref (E.2.2.2.1 0)), some (.int v1), some (.int v2), some (.ref (E.2.2.2.1 5)), some (.int (v4 ||| ((rI 1) <<< (v5 &&& 31)))), some (.int v5)]) rfl rfl ?_
        exact rX6_valuesAsSeen_60 (fun σ v1 v2 v4 v5 => fX6_valuesAsSeen_22 n σ v1 v2 v4 v5) (fun σ v1 v2 v4 v5 => ih σ v1 v2 v4 v5) σ3 v1 v2 (v4 ||| ((rI 1) <<< (v5 &&& 31))) v5
def fX6_valuesAsSeen (σ : rp_S) (v1 : Int32) (v2 : Int32) : Option (Int32 × rp_S) :=
  ((fX1_become σ 5 1).bind fun σ1 =>
    (fX6_valuesAsSeen_22 1000 σ1 v1 v2 (rI 0) (rI 0)))
set_option maxRecDepth 100000 in
theorem rX6_valuesAsSeen {E : rp_E} (σ : rp_S) (v1 : Int32) (v2 : Int32)   : rp_R E (rp_mK E rmX6_valuesAsSeen) mX6_valuesAsSeen 0 [some (.ref (E.2.2.2.1 0)), some (.int v1), some (.int v2), none, none, none] [] σ rp_hI (fX6_valuesAsSeen σ v1 v2) := by
  rw [fX6_valuesAsSeen]
  refine rp_aload_n (x := (E.2.2.2.1 0)) dX6_valuesAsSeen_0 rfl ?_
  refine rp_getR (k := 1) (b := 4) sh0 rfl fdX6_19 dX6_valuesAsSeen_1 ?_
  refine rp_getR (k := 0) (b := 5) sh4 rfl fdX6_69 dX6_valuesAsSeen_4 ?_
  refine rp_astore_n dX6_valuesAsSeen_7 (by decide) rfl ?_
  refine rp_aload_n (x := (E.2.2.2.1 5)) dX6_valuesAsSeen_8 rfl ?_
  refine rp_aload_n (x := (E.2.2.2.1 0)) dX6_valuesAsSeen_9 rfl ?_
  refine rp_getR (k := 0) (b := 1) sh0 rfl fdX6_10 dX6_valuesAsSeen_10 ?_
  refine rp_callV_hv (As := [.ref (E.2.2.2.1 1)]) (rest := []) (b := (E.2.2.2.1 5)) (rX1_become σ 5 1 ni5 ni1) cbX1_become lkX6_82 viX1_become (rp_rcO sh5 rfl) rfl (Nat.le_of_ble_eq_true rfl) ⟨rfl, rfl, ⟨Nat.le_of_ble_eq_true rfl, Nat.le_of_ble_eq_true rfl⟩, Nat.zero_le _, Nat.zero_le _⟩ rfl (Nat.le_of_ble_eq_true rfl) dX6_valuesAsSeen_13 (fun σ1 hσ1 => ?_)
  refine rp_iconst dX6_valuesAsSeen_16 ?_
  refine rp_istore dX6_valuesAsSeen_17 (by decide) rfl ?_
  refine rp_iconst dX6_valuesAsSeen_19 ?_
  refine rp_istore dX6_valuesAsSeen_20 (by decide) rfl ?_
  refine rp_mask [true, true, true, true, true, true] (vs2 := [some (.ref (E.2.2.2.1 0)), some (.int v1), some (.int v2), some (.ref (E.2.2.2.1 5)), some (.int (rI 0)), some (.int (rI 0))]) rfl rfl ?_
  exact rX6_valuesAsSeen_22 1000 σ1 v1 v2 (rI 0) (rI 0)
/-! RocketPrint.froms(I)I -/
abbrev rmX6_froms : Room := { frames := 6, cells := 0, slots := 0, locals := 130 }
def fX6_froms (σ : rp_S) (v1 : Int32) : Option (Int32 × rp_S) :=
  ((fX1_hasWork σ 1 v1).bind fun x1 =>
    (if x1 = 0 then
    (some ((rI (-1)), σ))
  else
    ((fX6_valuesAsSeen σ v1 (rI 1)).bind fun p2 =>
    (some (p2.1, p2.2)))))
set_option maxRecDepth 100000 in
theorem rX6_froms {E : rp_E} (σ : rp_S) (v1 : Int32)   : rp_R E (rp_mK E rmX6_froms) mX6_froms 0 [some (.ref (E.2.2.2.1 0)), some (.int v1)] [] σ rp_hI (fX6_froms σ v1) := by
  rw [fX6_froms]
  refine rp_aload_n (x := (E.2.2.2.1 0)) dX6_froms_0 rfl ?_
  refine rp_getR (k := 0) (b := 1) sh0 rfl fdX6_10 dX6_froms_1 ?_
  refine rp_iload_n (x := v1) dX6_froms_4 rfl ?_
  refine rp_callV_hi (As := [.int v1]) (rest := []) (b := (E.2.2.2.1 1)) (rX1_hasWork σ 1 v1 ni1) cbX1_hasWork lkX6_114 viX1_hasWork (rp_rcO sh1 rfl) rfl (Nat.le_of_ble_eq_true rfl) ⟨rfl, rfl, ⟨Nat.le_of_ble_eq_true rfl, Nat.le_of_ble_eq_true rfl⟩, Nat.zero_le _, Nat.zero_le _⟩ rfl (Nat.le_of_ble_eq_true rfl) dX6_froms_5 (fun x1 hx1 => ?_)
  refine rp_if_ne (tgt := 13) dX6_froms_8 (by decide) ?_ ?_
  · refine rp_aload_n (x := (E.2.2.2.1 0)) dX6_froms_13 rfl ?_
    refine rp_iload_n (x := v1) dX6_froms_14 rfl ?_
    refine rp_iconst dX6_froms_15 ?_
    refine rp_callV_hI (As := [.int v1, .int (rI 1)]) (rest := []) (b := (E.2.2.2.1 0)) (rX6_valuesAsSeen σ v1 (rI 1)) cbX6_valuesAsSeen lkX6_252 viX6_valuesAsSeen (rp_rcO sh0 rfl) rfl (Nat.le_of_ble_eq_true rfl) ⟨rfl, rfl, ⟨Nat.le_of_ble_eq_true rfl, Nat.le_of_ble_eq_true rfl⟩, Nat.zero_le _, Nat.zero_le _⟩ rfl (Nat.le_of_ble_eq_true rfl) dX6_froms_16 (fun p2 hp2 => ?_)
    exact rp_iret rfl rfl dX6_froms_19
  · refine rp_iconst dX6_froms_11 ?_
    exact rp_iret rfl rfl dX6_froms_12
/-! RocketPrintModel.froms(I)I -/
abbrev rmX7_froms : Room := { frames := 4, cells := 0, slots := 0, locals := 89 }
def fX7_froms_57 (k22 : rp_S → Int32 → Int32 → Int32 → Option (Int32 × rp_S)) (σ : rp_S) (v1 : Int32) (v3 : Int32) (s0 : Int32) (s1 : Int32) : Option (Int32 × rp_S) :=
  (k22 σ v1 (s1 ||| s0) (v3 + (rI 1)))
set_option maxRecDepth 100000 in
theorem rX7_froms_57 {E : rp_E} (k22 : rp_S → Int32 → Int32 → Int32 → Option (Int32 × rp_S)) (hk22 : ∀ (σ : rp_S) (v1 : Int32) (v2 : Int32) (v3 : Int32), rp_R E (rp_mK E rmX7_froms) mX7_froms 22 [some (.ref (E.2.2.2.1 28)), some (.int v1), some (.int v2), some (.int v3)] [] σ rp_hI (k22 σ v1 v2 v3)) (σ : rp_S) (v1 : Int32) (v3 : Int32) (s0 : Int32) (s1 : Int32) : rp_R E (rp_mK E rmX7_froms) mX7_froms 57 [some (.ref (E.2.2.2.1 28)), some (.int v1), none, some (.int v3)] [.int s0, .int s1] σ rp_hI (fX7_froms_57 k22 σ v1 v3 s0 s1) := by
  rw [fX7_froms_57]
  refine rp_ior dX7_froms_57 ?_
  refine rp_istore_n dX7_froms_58 (by decide) rfl ?_
  refine rp_iinc (x := v3) dX7_froms_59 rfl (by decide) rfl ?_
  refine rp_goto (tgt := 22) dX7_froms_62 (by decide) ?_
  refine rp_mask [true, true, true, true] (vs2 := [some (.ref (E.2.2.2.1 28)), some (.int v1), some (.int (s1 ||| s0)), some (.int (v3 + (rI 1)))]) rfl rfl ?_
  exact hk22 σ v1 (s1 ||| s0) (v3 + (rI 1))
def fX7_froms_22  : Nat → rp_S → Int32 → Int32 → Int32 → Option (Int32 × rp_S)
  | 0, _, _, _, _ => none
  | n + 1, σ, v1, v2, v3 =>
    (if (rI 12) ≤ v3 then
    (some (v2, σ))
  else
    ((rq_wr σ 29 180 ((rI 150) + v1) v3).bind fun σ3 =>
    ((fX7_isAsSeen σ3 (rI 144)).bind fun x4 =>
    (if x4 = 0 then
    (fX7_froms_57 (fun σ v1 v2 v3 => fX7_froms_22 n σ v1 v2 v3) σ3 v1 v3 (rI 0) v2)
  else
    (fX7_froms_57 (fun σ v1 v2 v3 => fX7_froms_22 n σ v1 v2 v3) σ3 v1 v3 ((rI 1) <<< (v3 &&& 31)) v2)))))
set_option maxRecDepth 100000 in
theorem rX7_froms_22 {E : rp_E}  : ∀ (n : Nat) (σ : rp_S) (v1 : Int32) (v2 : Int32) (v3 : Int32), rp_R E (rp_mK E rmX7_froms) mX7_froms 22 [some (.ref (E.2.2.2.1 28)), some (.int v1), some (.int v2), some (.int v3)] [] σ rp_hI (fX7_froms_22 n σ v1 v2 v3) := by
  intro n
  induction n with
  | zero =>
    intro σ v1 v2 v3
    rw [fX7_froms_22]
    exact rp_none
  | succ n ih =>
    intro σ v1 v2 v3
    rw [fX7_froms_22]
    refine rp_iload_n (x := v3) dX7_froms_22 rfl ?_
    refine rp_bipush dX7_froms_23 (by decide) ?_
    refine rp_icmp_ge (tgt := 65) dX7_froms_25 (by decide) ?_ ?_
    · refine rp_iload_n (x := v2) dX7_froms_65 rfl ?_
      exact rp_iret rfl rfl dX7_froms_66
    · refine rp_aload_n (x := (E.2.2.2.1 28)) dX7_froms_28 rfl ?_
      refine rp_getR (k := 0) (b := 29) sh28 rfl fdX7_7 dX7_froms_29 ?_
      refine rp_sipush dX7_froms_32 (by decide) ?_
      refine rp_iload_n (x := v1) dX7_froms_35 rfl ?_
      refine rp_iadd dX7_froms_36 ?_
      refine rp_iload_n (x := v3) dX7_froms_37 rfl ?_
      refine rp_iastore sh29 dX7_froms_38 (fun σ3 => ?_)
      refine rp_iload_n (x := v2) dX7_froms_39 rfl ?_
      refine rp_aload_n (x := (E.2.2.2.1 28)) dX7_froms_40 rfl ?_
      refine rp_sipush dX7_froms_41 (by decide) ?_
      refine rp_callV_hi (As := [.int (rI 144)]) (rest := [.int v2]) (b := (E.2.2.2.1 28)) (rX7_isAsSeen σ3 (rI 144)) cbX7_isAsSeen lkX7_228 viX7_isAsSeen (rp_rcO sh28 rfl) rfl (Nat.le_of_ble_eq_true rfl) ⟨rfl, rfl, ⟨Nat.le_of_ble_eq_true rfl, Nat.le_of_ble_eq_true rfl⟩, Nat.zero_le _, Nat.zero_le _⟩ rfl (Nat.le_of_ble_eq_true rfl) dX7_froms_44 (fun x4 hx4 => ?_)
      refine rp_if_eq (tgt := 56) dX7_froms_47 (by decide) ?_ ?_
      · refine rp_iconst dX7_froms_56 ?_
        refine rp_mask [true, true, false, true] (vs2 := [some (.ref (E.2.2.2.1 28)), some (.int v1), none, some (.int v3)]) rfl rfl ?_
        exact rX7_froms_57 (fun σ v1 v2 v3 => fX7_froms_22 n σ v1 v2 v3) (fun σ v1 v2 v3 => ih σ v1 v2 v3) σ3 v1 v3 (rI 0) v2
      · refine rp_iconst dX7_froms_50 ?_
        refine rp_iload_n (x := v3) dX7_froms_51 rfl ?_
        refine rp_ishl dX7_froms_52 ?_
        refine rp_goto (tgt := 57) dX7_froms_53 (by decide) ?_
        refine rp_mask [true, true, false, true] (vs2 := [some (.ref (E.2.2.2.1 28)), some (.int v1), none, some (.int v3)]) rfl rfl ?_
        exact rX7_froms_57 (fun σ v1 v2 v3 => fX7_froms_22 n σ v1 v2 v3) (fun σ v1 v2 v3 => ih σ v1 v2 v3) σ3 v1 v3 ((rI 1) <<< (v3 &&& 31)) v2
def fX7_froms (σ : rp_S) (v1 : Int32) : Option (Int32 × rp_S) :=
  ((fX7_isWork σ v1).bind fun x1 =>
    (if x1 = 0 then
    (some ((rI (-1)), σ))
  else
    ((fX7_copies σ (rI 0) (rI 144)).bind fun σ2 =>
    (fX7_froms_22 1000 σ2 v1 (rI 0) (rI 0)))))
set_option maxRecDepth 100000 in
theorem rX7_froms {E : rp_E} (σ : rp_S) (v1 : Int32)   : rp_R E (rp_mK E rmX7_froms) mX7_froms 0 [some (.ref (E.2.2.2.1 28)), some (.int v1), none, none] [] σ rp_hI (fX7_froms σ v1) := by
  rw [fX7_froms]
  refine rp_aload_n (x := (E.2.2.2.1 28)) dX7_froms_0 rfl ?_
  refine rp_iload_n (x := v1) dX7_froms_1 rfl ?_
  refine rp_callV_hi (As := [.int v1]) (rest := []) (b := (E.2.2.2.1 28)) (rX7_isWork σ v1) cbX7_isWork lkX7_168 viX7_isWork (rp_rcO sh28 rfl) rfl (Nat.le_of_ble_eq_true rfl) ⟨rfl, rfl, ⟨Nat.le_of_ble_eq_true rfl, Nat.le_of_ble_eq_true rfl⟩, Nat.zero_le _, Nat.zero_le _⟩ rfl (Nat.le_of_ble_eq_true rfl) dX7_froms_2 (fun x1 hx1 => ?_)
  refine rp_if_ne (tgt := 10) dX7_froms_5 (by decide) ?_ ?_
  · refine rp_iconst dX7_froms_10 ?_
    refine rp_istore_n dX7_froms_11 (by decide) rfl ?_
    refine rp_aload_n (x := (E.2.2.2.1 28)) dX7_froms_12 rfl ?_
    refine rp_iconst dX7_froms_13 ?_
    refine rp_sipush dX7_froms_14 (by decide) ?_
    refine rp_callV_hv (As := [.int (rI 0), .int (rI 144)]) (rest := []) (b := (E.2.2.2.1 28)) (rX7_copies σ (rI 0) (rI 144)) cbX7_copies lkX7_209 viX7_copies (rp_rcO sh28 rfl) rfl (Nat.le_of_ble_eq_true rfl) ⟨rfl, rfl, ⟨Nat.le_of_ble_eq_true rfl, Nat.le_of_ble_eq_true rfl⟩, Nat.zero_le _, Nat.zero_le _⟩ rfl (Nat.le_of_ble_eq_true rfl) dX7_froms_17 (fun σ2 hσ2 => ?_)
    refine rp_iconst dX7_froms_20 ?_
    refine rp_istore_n dX7_froms_21 (by decide) rfl ?_
    refine rp_mask [true, true, true, true] (vs2 := [some (.ref (E.2.2.2.1 28)), some (.int v1), some (.int (rI 0)), some (.int (rI 0))]) rfl rfl ?_
    exact rX7_froms_22 1000 σ2 v1 (rI 0) (rI 0)
  · refine rp_iconst dX7_froms_8 ?_
    exact rp_iret rfl rfl dX7_froms_9
/-! RocketPrint.kinds(I)I -/
abbrev rmX6_kinds : Room := { frames := 6, cells := 0, slots := 0, locals := 130 }
def fX6_kinds (σ : rp_S) (v1 : Int32) : Option (Int32 × rp_S) :=
  ((fX1_hasWork σ 1 v1).bind fun x1 =>
    (if x1 = 0 then
    (some ((rI (-1)), σ))
  else
    ((fX6_valuesAsSeen σ v1 (rI 0)).bind fun p2 =>
    (some (p2.1, p2.2)))))
set_option maxRecDepth 100000 in
theorem rX6_kinds {E : rp_E} (σ : rp_S) (v1 : Int32)   : rp_R E (rp_mK E rmX6_kinds) mX6_kinds 0 [some (.ref (E.2.2.2.1 0)), some (.int v1)] [] σ rp_hI (fX6_kinds σ v1) := by
  rw [fX6_kinds]
  refine rp_aload_n (x := (E.2.2.2.1 0)) dX6_kinds_0 rfl ?_
  refine rp_getR (k := 0) (b := 1) sh0 rfl fdX6_10 dX6_kinds_1 ?_
  refine rp_iload_n (x := v1) dX6_kinds_4 rfl ?_
  refine rp_callV_hi (As := [.int v1]) (rest := []) (b := (E.2.2.2.1 1)) (rX1_hasWork σ 1 v1 ni1) cbX1_hasWork lkX6_114 viX1_hasWork (rp_rcO sh1 rfl) rfl (Nat.le_of_ble_eq_true rfl) ⟨rfl, rfl, ⟨Nat.le_of_ble_eq_true rfl, Nat.le_of_ble_eq_true rfl⟩, Nat.zero_le _, Nat.zero_le _⟩ rfl (Nat.le_of_ble_eq_true rfl) dX6_kinds_5 (fun x1 hx1 => ?_)
  refine rp_if_ne (tgt := 13) dX6_kinds_8 (by decide) ?_ ?_
  · refine rp_aload_n (x := (E.2.2.2.1 0)) dX6_kinds_13 rfl ?_
    refine rp_iload_n (x := v1) dX6_kinds_14 rfl ?_
    refine rp_iconst dX6_kinds_15 ?_
    refine rp_callV_hI (As := [.int v1, .int (rI 0)]) (rest := []) (b := (E.2.2.2.1 0)) (rX6_valuesAsSeen σ v1 (rI 0)) cbX6_valuesAsSeen lkX6_252 viX6_valuesAsSeen (rp_rcO sh0 rfl) rfl (Nat.le_of_ble_eq_true rfl) ⟨rfl, rfl, ⟨Nat.le_of_ble_eq_true rfl, Nat.le_of_ble_eq_true rfl⟩, Nat.zero_le _, Nat.zero_le _⟩ rfl (Nat.le_of_ble_eq_true rfl) dX6_kinds_16 (fun p2 hp2 => ?_)
    exact rp_iret rfl rfl dX6_kinds_19
  · refine rp_iconst dX6_kinds_11 ?_
    exact rp_iret rfl rfl dX6_kinds_12
/-! RocketPrintModel.kinds(I)I -/
abbrev rmX7_kinds : Room := { frames := 4, cells := 0, slots := 0, locals := 89 }
def fX7_kinds_56 (k22 : rp_S → Int32 → Int32 → Int32 → Option (Int32 × rp_S)) (σ : rp_S) (v1 : Int32) (v3 : Int32) (s0 : Int32) (s1 : Int32) : Option (Int32 × rp_S) :=
  (k22 σ v1 (s1 ||| s0) (v3 + (rI 1)))
set_option maxRecDepth 100000 in
theorem rX7_kinds_56 {E : rp_E} (k22 : rp_S → Int32 → Int32 → Int32 → Option (Int32 × rp_S)) (hk22 : ∀ (σ : rp_S) (v1 : Int32) (v2 : Int32) (v3 : Int32), rp_R E (rp_mK E rmX7_kinds) mX7_kinds 22 [some (.ref (E.2.2.2.1 28)), some (.int v1), some (.int v2), some (.int v3)] [] σ rp_hI (k22 σ v1 v2 v3)) (σ : rp_S) (v1 : Int32) (v3 : Int32) (s0 : Int32) (s1 : Int32) : rp_R E (rp_mK E rmX7_kinds) mX7_kinds 56 [some (.ref (E.2.2.2.1 28)), some (.int v1), none, some (.int v3)] [.int s0, .int s1] σ rp_hI (fX7_kinds_56 k22 σ v1 v3 s0 s1) := by
  rw [fX7_kinds_56]
  refine rp_ior dX7_kinds_56 ?_
  refine rp_istore_n dX7_kinds_57 (by decide) rfl ?_
  refine rp_iinc (x := v3) dX7_kinds_58 rfl (by decide) rfl ?_
  refine rp_goto (tgt := 22) dX7_kinds_61 (by decide) ?_
  refine rp_mask [true, true, true, true] (vs2 := [some (.ref (E.2.2.2.1 28)), some (.int v1), some (.int (s1 ||| s0)), some (.int (v3 + (rI 1)))]) rfl rfl ?_
  exact hk22 σ v1 (s1 ||| s0) (v3 + (rI 1))
def fX7_kinds_22  : Nat → rp_S → Int32 → Int32 → Int32 → Option (Int32 × rp_S)
  | 0, _, _, _, _ => none
  | n + 1, σ, v1, v2, v3 =>
    (if (rI 4) ≤ v3 then
    (some (v2, σ))
  else
    ((rq_wr σ 29 180 ((rI 144) + v1) v3).bind fun σ3 =>
    ((fX7_isAsSeen σ3 (rI 144)).bind fun x4 =>
    (if x4 = 0 then
    (fX7_kinds_56 (fun σ v1 v2 v3 => fX7_kinds_22 n σ v1 v2 v3) σ3 v1 v3 (rI 0) v2)
  else
    (fX7_kinds_56 (fun σ v1 v2 v3 => fX7_kinds_22 n σ v1 v2 v3) σ3 v1 v3 ((rI 1) <<< (v3 &&& 31)) v2)))))
set_option maxRecDepth 100000 in
theorem rX7_kinds_22 {E : rp_E}  : ∀ (n : Nat) (σ : rp_S) (v1 : Int32) (v2 : Int32) (v3 : Int32), rp_R E (rp_mK E rmX7_kinds) mX7_kinds 22 [some (.ref (E.2.2.2.1 28)), some (.int v1), some (.int v2), some (.int v3)] [] σ rp_hI (fX7_kinds_22 n σ v1 v2 v3) := by
  intro n
  induction n with
  | zero =>
    intro σ v1 v2 v3
    rw [fX7_kinds_22]
    exact rp_none
  | succ n ih =>
    intro σ v1 v2 v3
    rw [fX7_kinds_22]
    refine rp_iload_n (x := v3) dX7_kinds_22 rfl ?_
    refine rp_iconst dX7_kinds_23 ?_
    refine rp_icmp_ge (tgt := 64) dX7_kinds_24 (by decide) ?_ ?_
    · refine rp_iload_n (x := v2) dX7_kinds_64 rfl ?_
      exact rp_iret rfl rfl dX7_kinds_65
    · refine rp_aload_n (x := (E.2.2.2.1 28)) dX7_kinds_27 rfl ?_
      refine rp_getR (k := 0) (b := 29) sh28 rfl fdX7_7 dX7_kinds_28 ?_
      refine rp_sipush dX7_kinds_31 (by decide) ?_
      refine rp_iload_n (x := v1) dX7_kinds_34 rfl ?_
      refine rp_iadd dX7_kinds_35 ?_
      refine rp_iload_n (x := v3) dX7_kinds_36 rfl ?_
      refine rp_iastore sh29 dX7_kinds_37 (fun σ3 => ?_)
      refine rp_iload_n (x := v2) dX7_kinds_38 rfl ?_
      refine rp_aload_n (x := (E.2.2.2.1 28)) dX7_kinds_39 rfl ?_
      refine rp_sipush dX7_kinds_40 (by decide) ?_
      refine rp_callV_hi (As := [.int (rI 144)]) (rest := [.int v2]) (b := (E.2.2.2.1 28)) (rX7_isAsSeen σ3 (rI 144)) cbX7_isAsSeen lkX7_228 viX7_isAsSeen (rp_rcO sh28 rfl) rfl (Nat.le_of_ble_eq_true rfl) ⟨rfl, rfl, ⟨Nat.le_of_ble_eq_true rfl, Nat.le_of_ble_eq_true rfl⟩, Nat.zero_le _, Nat.zero_le _⟩ rfl (Nat.le_of_ble_eq_true rfl) dX7_kinds_43 (fun x4 hx4 => ?_)
      refine rp_if_eq (tgt := 55) dX7_kinds_46 (by decide) ?_ ?_
      · refine rp_iconst dX7_kinds_55 ?_
        refine rp_mask [true, true, false, true] (vs2 := [some (.ref (E.2.2.2.1 28)), some (.int v1), none, some (.int v3)]) rfl rfl ?_
        exact rX7_kinds_56 (fun σ v1 v2 v3 => fX7_kinds_22 n σ v1 v2 v3) (fun σ v1 v2 v3 => ih σ v1 v2 v3) σ3 v1 v3 (rI 0) v2
      · refine rp_iconst dX7_kinds_49 ?_
        refine rp_iload_n (x := v3) dX7_kinds_50 rfl ?_
        refine rp_ishl dX7_kinds_51 ?_
        refine rp_goto (tgt := 56) dX7_kinds_52 (by decide) ?_
        refine rp_mask [true, true, false, true] (vs2 := [some (.ref (E.2.2.2.1 28)), some (.int v1), none, some (.int v3)]) rfl rfl ?_
        exact rX7_kinds_56 (fun σ v1 v2 v3 => fX7_kinds_22 n σ v1 v2 v3) (fun σ v1 v2 v3 => ih σ v1 v2 v3) σ3 v1 v3 ((rI 1) <<< (v3 &&& 31)) v2
def fX7_kinds (σ : rp_S) (v1 : Int32) : Option (Int32 × rp_S) :=
  ((fX7_isWork σ v1).bind fun x1 =>
    (if x1 = 0 then
    (some ((rI (-1)), σ))
  else
    ((fX7_copies σ (rI 0) (rI 144)).bind fun σ2 =>
    (fX7_kinds_22 1000 σ2 v1 (rI 0) (rI 0)))))
set_option maxRecDepth 100000 in
theorem rX7_kinds {E : rp_E} (σ : rp_S) (v1 : Int32)   : rp_R E (rp_mK E rmX7_kinds) mX7_kinds 0 [some (.ref (E.2.2.2.1 28)), some (.int v1), none, none] [] σ rp_hI (fX7_kinds σ v1) := by
  rw [fX7_kinds]
  refine rp_aload_n (x := (E.2.2.2.1 28)) dX7_kinds_0 rfl ?_
  refine rp_iload_n (x := v1) dX7_kinds_1 rfl ?_
  refine rp_callV_hi (As := [.int v1]) (rest := []) (b := (E.2.2.2.1 28)) (rX7_isWork σ v1) cbX7_isWork lkX7_168 viX7_isWork (rp_rcO sh28 rfl) rfl (Nat.le_of_ble_eq_true rfl) ⟨rfl, rfl, ⟨Nat.le_of_ble_eq_true rfl, Nat.le_of_ble_eq_true rfl⟩, Nat.zero_le _, Nat.zero_le _⟩ rfl (Nat.le_of_ble_eq_true rfl) dX7_kinds_2 (fun x1 hx1 => ?_)
  refine rp_if_ne (tgt := 10) dX7_kinds_5 (by decide) ?_ ?_
  · refine rp_iconst dX7_kinds_10 ?_
    refine rp_istore_n dX7_kinds_11 (by decide) rfl ?_
    refine rp_aload_n (x := (E.2.2.2.1 28)) dX7_kinds_12 rfl ?_
    refine rp_iconst dX7_kinds_13 ?_
    refine rp_sipush dX7_kinds_14 (by decide) ?_
    refine rp_callV_hv (As := [.int (rI 0), .int (rI 144)]) (rest := []) (b := (E.2.2.2.1 28)) (rX7_copies σ (rI 0) (rI 144)) cbX7_copies lkX7_209 viX7_copies (rp_rcO sh28 rfl) rfl (Nat.le_of_ble_eq_true rfl) ⟨rfl, rfl, ⟨Nat.le_of_ble_eq_true rfl, Nat.le_of_ble_eq_true rfl⟩, Nat.zero_le _, Nat.zero_le _⟩ rfl (Nat.le_of_ble_eq_true rfl) dX7_kinds_17 (fun σ2 hσ2 => ?_)
    refine rp_iconst dX7_kinds_20 ?_
    refine rp_istore_n dX7_kinds_21 (by decide) rfl ?_
    refine rp_mask [true, true, true, true] (vs2 := [some (.ref (E.2.2.2.1 28)), some (.int v1), some (.int (rI 0)), some (.int (rI 0))]) rfl rfl ?_
    exact rX7_kinds_22 1000 σ2 v1 (rI 0) (rI 0)
  · refine rp_iconst dX7_kinds_8 ?_
    exact rp_iret rfl rfl dX7_kinds_9
/-! RocketPrint.windsThatDrop(LRocketPrint$Night;III)I -/
abbrev rmX6_windsThatDrop : Room := { frames := 4, cells := 0, slots := 0, locals := 83 }
def fX6_windsThatDrop_41 (a0 : Nat) (k6 : rp_S → Int32 → Int32 → Int32 → Int32 → Int32 → Option (Int32 × rp_S)) (σ : rp_S) (v1 : Int32) (v2 : Int32) (v3 : Int32) (v4 : Int32) (v5 : Int32) : Option (Int32 × rp_S) :=
  (k6 σ v1 v2 v3 v4 (v5 + (rI 1)))
set_option maxRecDepth 100000 in
theorem rX6_windsThatDrop_41 {E : rp_E} (a0 : Nat) (ha0 : rp_Ni a0)  (k6 : rp_S → Int32 → Int32 → Int32 → Int32 → Int32 → Option (Int32 × rp_S)) (hk6 : ∀ (σ : rp_S) (v1 : Int32) (v2 : Int32) (v3 : Int32) (v4 : Int32) (v5 : Int32), rp_R E (rp_mK E rmX6_windsThatDrop) mX6_windsThatDrop 6 [some (.ref (E.2.2.2.1 a0)), some (.int v1), some (.int v2), some (.int v3), some (.int v4), some (.int v5)] [] σ rp_hI (k6 σ v1 v2 v3 v4 v5)) (σ : rp_S) (v1 : Int32) (v2 : Int32) (v3 : Int32) (v4 : Int32) (v5 : Int32) : rp_R E (rp_mK E rmX6_windsThatDrop) mX6_windsThatDrop 41 [some (.ref (E.2.2.2.1 a0)), some (.int v1), some (.int v2), some (.int v3), some (.int v4), some (.int v5)] [] σ rp_hI (fX6_windsThatDrop_41 a0 k6 σ v1 v2 v3 v4 v5) := by
  rw [fX6_windsThatDrop_41]
  refine rp_iinc (x := v5) dX6_windsThatDrop_41 rfl (by decide) rfl ?_
  refine rp_goto (tgt := 6) dX6_windsThatDrop_44 (by decide) ?_
  refine rp_mask [true, true, true, true, true, true] (vs2 := [some (.ref (E.2.2.2.1 a0)), some (.int v1), some (.int v2), some (.int v3), some (.int v4), some (.int (v5 + (rI 1)))]) rfl rfl ?_
  exact hk6 σ v1 v2 v3 v4 (v5 + (rI 1))
def fX6_windsThatDrop_6 (a0 : Nat) : Nat → rp_S → Int32 → Int32 → Int32 → Int32 → Int32 → Option (Int32 × rp_S)
  | 0, _, _, _, _, _, _ => none
  | n + 1, σ, v1, v2, v3, v4, v5 =>
    (if (rI 9) ≤ v5 then
    (some (v4, σ))
  else
    ((some (rp_up σ a0 4 v5)).bind fun σ1 =>
    (if ((v3 >>> (v5 &&& 31)) &&& (rI 1)) = (rI 1) then
    ((fX1_stickOf σ1 a0 v1).bind fun x2 =>
    (if x2 = v2 then
    (fX6_windsThatDrop_41 a0 (fun σ v1 v2 v3 v4 v5 => fX6_windsThatDrop_6 a0 n σ v1 v2 v3 v4 v5) σ1 v1 v2 v3 (v4 + (rI 1)) v5)
  else
    (fX6_windsThatDrop_41 a0 (fun σ v1 v2 v3 v4 v5 => fX6_windsThatDrop_6 a0 n σ v1 v2 v3 v4 v5) σ1 v1 v2 v3 v4 v5)))
  else
    (fX6_windsThatDrop_41 a0 (fun σ v1 v2 v3 v4 v5 => fX6_windsThatDrop_6 a0 n σ v1 v2 v3 v4 v5) σ1 v1 v2 v3 v4 v5))))
set_option maxRecDepth 100000 in
theorem rX6_windsThatDrop_6 {E : rp_E} (a0 : Nat) (ha0 : rp_Ni a0)  : ∀ (n : Nat) (σ : rp_S) (v1 : Int32) (v2 : Int32) (v3 : Int32) (v4 : Int32) (v5 : Int32), rp_R E (rp_mK E rmX6_windsThatDrop) mX6_windsThatDrop 6 [some (.ref (E.2.2.2.1 a0)), some (.int v1), some (.int v2), some (.int v3), some (.int v4), some (.int v5)] [] σ rp_hI (fX6_windsThatDrop_6 a0 n σ v1 v2 v3 v4 v5) := by
  intro n
  induction n with
  | zero =>
    intro σ v1 v2 v3 v4 v5
    rw [fX6_windsThatDrop_6]
    exact rp_none
  | succ n ih =>
    intro σ v1 v2 v3 v4 v5
    rw [fX6_windsThatDrop_6]
    refine rp_iload (x := v5) dX6_windsThatDrop_6 rfl ?_
    refine rp_bipush dX6_windsThatDrop_8 (by decide) ?_
    refine rp_icmp_ge (tgt := 47) dX6_windsThatDrop_10 (by decide) ?_ ?_
    · refine rp_iload (x := v4) dX6_windsThatDrop_47 rfl ?_
      exact rp_iret rfl rfl dX6_windsThatDrop_49
    · refine rp_aload_n (x := (E.2.2.2.1 a0)) dX6_windsThatDrop_13 rfl ?_
      refine rp_iload (x := v5) dX6_windsThatDrop_14 rfl ?_
      refine rp_putB (k := 4) ha0.1 rfl fpX6_98 (vp_nar_int _) rfl dX6_windsThatDrop_16 (fun σ1 => ?_)
      refine rp_iload_n (x := v3) dX6_windsThatDrop_19 rfl ?_
      refine rp_iload (x := v5) dX6_windsThatDrop_20 rfl ?_
      refine rp_ishr dX6_windsThatDrop_22 ?_
      refine rp_iconst dX6_windsThatDrop_23 ?_
      refine rp_iand dX6_windsThatDrop_24 ?_
      refine rp_iconst dX6_windsThatDrop_25 ?_
      refine rp_icmp_ne (tgt := 41) dX6_windsThatDrop_26 (by decide) ?_ ?_
      · refine rp_mask [true, true, true, true, true, true] (vs2 := [some (.ref (E.2.2.2.1 a0)), some (.int v1), some (.int v2), some (.int v3), some (.int v4), some (.int v5)]) rfl rfl ?_
        exact rX6_windsThatDrop_41 a0 ha0 (fun σ v1 v2 v3 v4 v5 => fX6_windsThatDrop_6 a0 n σ v1 v2 v3 v4 v5) (fun σ v1 v2 v3 v4 v5 => ih σ v1 v2 v3 v4 v5) σ1 v1 v2 v3 v4 v5
      · refine rp_aload_n (x := (E.2.2.2.1 a0)) dX6_windsThatDrop_29 rfl ?_
        refine rp_iload_n (x := v1) dX6_windsThatDrop_30 rfl ?_
        refine rp_callV_hi (As := [.int v1]) (rest := []) (b := (E.2.2.2.1 a0)) (rX1_stickOf σ1 a0 v1 ha0) cbX1_stickOf lkX6_132 viX1_stickOf (rp_rcO ha0.1 rfl) rfl (Nat.le_of_ble_eq_true rfl) ⟨rfl, rfl, ⟨Nat.le_of_ble_eq_true rfl, Nat.le_of_ble_eq_true rfl⟩, Nat.zero_le _, Nat.zero_le _⟩ rfl (Nat.le_of_ble_eq_true rfl) dX6_windsThatDrop_31 (fun x2 hx2 => ?_)
        refine rp_iload_n (x := v2) dX6_windsThatDrop_34 rfl ?_
        refine rp_icmp_ne (tgt := 41) dX6_windsThatDrop_35 (by decide) ?_ ?_
        · refine rp_mask [true, true, true, true, true, true] (vs2 := [some (.ref (E.2.2.2.1 a0)), some (.int v1), some (.int v2), some (.int v3), some (.int v4), some (.int v5)]) rfl rfl ?_
          exact rX6_windsThatDrop_41 a0 ha0 (fun σ v1 v2 v3 v4 v5 => fX6_windsThatDrop_6 a0 n σ v1 v2 v3 v4 v5) (fun σ v1 v2 v3 v4 v5 => ih σ v1 v2 v3 v4 v5) σ1 v1 v2 v3 v4 v5
        · refine rp_iinc (x := v4) dX6_windsThatDrop_38 rfl (by decide) rfl ?_
          refine rp_mask [true, true, true, true, true, true] (vs2 := [some (.ref (E.2.2.2.1 a0)), some (.int v1), some (.int v2), some (.int v3), some (.int (v4 + (rI 1))), some (.int v5)]) rfl rfl ?_
          exact rX6_windsThatDrop_41 a0 ha0 (fun σ v1 v2 v3 v4 v5 => fX6_windsThatDrop_6 a0 n σ v1 v2 v3 v4 v5) (fun σ v1 v2 v3 v4 v5 => ih σ v1 v2 v3 v4 v5) σ1 v1 v2 v3 (v4 + (rI 1)) v5
def fX6_windsThatDrop (σ : rp_S) (a0 : Nat) (v1 : Int32) (v2 : Int32) (v3 : Int32) : Option (Int32 × rp_S) :=
  (fX6_windsThatDrop_6 a0 1000 σ v1 v2 v3 (rI 0) (rI 0))
set_option maxRecDepth 100000 in
theorem rX6_windsThatDrop {E : rp_E} (σ : rp_S) (a0 : Nat) (v1 : Int32) (v2 : Int32) (v3 : Int32) (ha0 : rp_Ni a0)  : rp_R E (rp_mK E rmX6_windsThatDrop) mX6_windsThatDrop 0 [some (.ref (E.2.2.2.1 a0)), some (.int v1), some (.int v2), some (.int v3), none, none] [] σ rp_hI (fX6_windsThatDrop σ a0 v1 v2 v3) := by
  rw [fX6_windsThatDrop]
  refine rp_iconst dX6_windsThatDrop_0 ?_
  refine rp_istore dX6_windsThatDrop_1 (by decide) rfl ?_
  refine rp_iconst dX6_windsThatDrop_3 ?_
  refine rp_istore dX6_windsThatDrop_4 (by decide) rfl ?_
  refine rp_mask [true, true, true, true, true, true] (vs2 := [some (.ref (E.2.2.2.1 a0)), some (.int v1), some (.int v2), some (.int v3), some (.int (rI 0)), some (.int (rI 0))]) rfl rfl ?_
  exact rX6_windsThatDrop_6 a0 ha0 1000 σ v1 v2 v3 (rI 0) (rI 0)
/-! RocketPrint.windsLeftAtWorst(II)I -/
abbrev rmX6_windsLeftAtWorst : Room := { frames := 5, cells := 0, slots := 0, locals := 108 }
def fX6_windsLeftAtWorst_19  : Nat → rp_S → Int32 → Int32 → Int32 → Int32 → Option (Int32 × rp_S)
  | 0, _, _, _, _, _ => none
  | n + 1, σ, v1, v2, v3, v4 =>
    (if (rI 12) ≤ v4 then
    (some (v3, σ))
  else
    ((fX6_windsThatDrop σ 5 v1 v4 v2).bind fun p2 =>
    (fX6_windsLeftAtWorst_19 n p2.2 v1 v2 (rq_max v3 p2.1) (v4 + (rI 1)))))
set_option maxRecDepth 100000 in
theorem rX6_windsLeftAtWorst_19 {E : rp_E}  : ∀ (n : Nat) (σ : rp_S) (v1 : Int32) (v2 : Int32) (v3 : Int32) (v4 : Int32), rp_R E (rp_mK E rmX6_windsLeftAtWorst) mX6_windsLeftAtWorst 19 [some (.ref (E.2.2.2.1 0)), some (.int v1), some (.int v2), some (.int v3), some (.int v4)] [] σ rp_hI (fX6_windsLeftAtWorst_19 n σ v1 v2 v3 v4) := by
  intro n
  induction n with
  | zero =>
    intro σ v1 v2 v3 v4
    rw [fX6_windsLeftAtWorst_19]
    exact rp_none
  | succ n ih =>
    intro σ v1 v2 v3 v4
    rw [fX6_windsLeftAtWorst_19]
    refine rp_iload (x := v4) dX6_windsLeftAtWorst_19 rfl ?_
    refine rp_bipush dX6_windsLeftAtWorst_21 (by decide) ?_
    refine rp_icmp_ge (tgt := 51) dX6_windsLeftAtWorst_23 (by decide) ?_ ?_
    · refine rp_iload_n (x := v3) dX6_windsLeftAtWorst_51 rfl ?_
      exact rp_iret rfl rfl dX6_windsLeftAtWorst_52
    · refine rp_iload_n (x := v3) dX6_windsLeftAtWorst_26 rfl ?_
      refine rp_aload_n (x := (E.2.2.2.1 0)) dX6_windsLeftAtWorst_27 rfl ?_
      refine rp_getR (k := 1) (b := 4) sh0 rfl fdX6_19 dX6_windsLeftAtWorst_28 ?_
      refine rp_getR (k := 0) (b := 5) sh4 rfl fdX6_69 dX6_windsLeftAtWorst_31 ?_
      refine rp_iload_n (x := v1) dX6_windsLeftAtWorst_34 rfl ?_
      refine rp_iload (x := v4) dX6_windsLeftAtWorst_35 rfl ?_
      refine rp_iload_n (x := v2) dX6_windsLeftAtWorst_37 rfl ?_
      refine rp_callS_hI (As := [.ref (E.2.2.2.1 5), .int v1, .int v4, .int v2]) (rest := [.int v3]) (rX6_windsThatDrop σ 5 v1 v4 v2 ni5) cbX6_windsThatDrop lkX6_267 stX6_windsThatDrop rfl (Nat.le_of_ble_eq_true rfl) ⟨rfl, rfl, ⟨Nat.le_of_ble_eq_true rfl, Nat.le_of_ble_eq_true rfl⟩, Nat.zero_le _, Nat.zero_le _⟩ rfl (Nat.le_of_ble_eq_true rfl) dX6_windsLeftAtWorst_38 (fun p2 hp2 => ?_)
      refine rp_mmax mwX6_271 ⟨Nat.le_of_ble_eq_true rfl, Nat.le_of_ble_eq_true rfl, Nat.zero_le _, Nat.zero_le _⟩ dX6_windsLeftAtWorst_41 ?_
      refine rp_istore_n dX6_windsLeftAtWorst_44 (by decide) rfl ?_
      refine rp_iinc (x := v4) dX6_windsLeftAtWorst_45 rfl (by decide) rfl ?_
      refine rp_goto (tgt := 19) dX6_windsLeftAtWorst_48 (by decide) ?_
      refine rp_mask [true, true, true, true, true] (vs2 := [some (.ref (E.2.2.2.1 0)), some (.int v1), some (.int v2), some (.int (rq_max v3 p2.1)), some (.int (v4 + (rI 1)))]) rfl rfl ?_
      exact ih p2.2 v1 v2 (rq_max v3 p2.1) (v4 + (rI 1))
def fX6_windsLeftAtWorst (σ : rp_S) (v1 : Int32) (v2 : Int32) : Option (Int32 × rp_S) :=
  ((fX1_become σ 5 1).bind fun σ1 =>
    (fX6_windsLeftAtWorst_19 1000 σ1 v1 v2 (rI 0) (rI 0)))
set_option maxRecDepth 100000 in
theorem rX6_windsLeftAtWorst {E : rp_E} (σ : rp_S) (v1 : Int32) (v2 : Int32)   : rp_R E (rp_mK E rmX6_windsLeftAtWorst) mX6_windsLeftAtWorst 0 [some (.ref (E.2.2.2.1 0)), some (.int v1), some (.int v2), none, none] [] σ rp_hI (fX6_windsLeftAtWorst σ v1 v2) := by
  rw [fX6_windsLeftAtWorst]
  refine rp_aload_n (x := (E.2.2.2.1 0)) dX6_windsLeftAtWorst_0 rfl ?_
  refine rp_getR (k := 1) (b := 4) sh0 rfl fdX6_19 dX6_windsLeftAtWorst_1 ?_
  refine rp_getR (k := 0) (b := 5) sh4 rfl fdX6_69 dX6_windsLeftAtWorst_4 ?_
  refine rp_aload_n (x := (E.2.2.2.1 0)) dX6_windsLeftAtWorst_7 rfl ?_
  refine rp_getR (k := 0) (b := 1) sh0 rfl fdX6_10 dX6_windsLeftAtWorst_8 ?_
  refine rp_callV_hv (As := [.ref (E.2.2.2.1 1)]) (rest := []) (b := (E.2.2.2.1 5)) (rX1_become σ 5 1 ni5 ni1) cbX1_become lkX6_82 viX1_become (rp_rcO sh5 rfl) rfl (Nat.le_of_ble_eq_true rfl) ⟨rfl, rfl, ⟨Nat.le_of_ble_eq_true rfl, Nat.le_of_ble_eq_true rfl⟩, Nat.zero_le _, Nat.zero_le _⟩ rfl (Nat.le_of_ble_eq_true rfl) dX6_windsLeftAtWorst_11 (fun σ1 hσ1 => ?_)
  refine rp_iconst dX6_windsLeftAtWorst_14 ?_
  refine rp_istore_n dX6_windsLeftAtWorst_15 (by decide) rfl ?_
  refine rp_iconst dX6_windsLeftAtWorst_16 ?_
  refine rp_istore dX6_windsLeftAtWorst_17 (by decide) rfl ?_
  refine rp_mask [true, true, true, true, true] (vs2 := [some (.ref (E.2.2.2.1 0)), some (.int v1), some (.int v2), some (.int (rI 0)), some (.int (rI 0))]) rfl rfl ?_
  exact rX6_windsLeftAtWorst_19 1000 σ1 v1 v2 (rI 0) (rI 0)
/-! RocketPrint.ask(I)I -/
abbrev rmX6_ask : Room := { frames := 6, cells := 0, slots := 0, locals := 132 }
def fX6_ask_82 (σ : rp_S) : Option (Int32 × rp_S) :=
  (some ((σ 12 0), σ))
set_option maxRecDepth 100000 in
theorem rX6_ask_82 {E : rp_E} (σ : rp_S) : rp_R E (rp_mK E rmX6_ask) mX6_ask 82 [some (.ref (E.2.2.2.1 0)), none, none, none, none] [] σ rp_hI (fX6_ask_82 σ) := by
  rw [fX6_ask_82]
  refine rp_aload_n (x := (E.2.2.2.1 0)) dX6_ask_82 rfl ?_
  refine rp_getR (k := 2) (b := 12) sh0 rfl fdX6_26 dX6_ask_83 ?_
  refine rp_getI (k := 0) sh12 rfl fdX6_261 dX6_ask_86 ?_
  exact rp_iret rfl rfl dX6_ask_89
def fX6_ask_32  : Nat → rp_S → Int32 → Int32 → Int32 → Int32 → Option (Int32 × rp_S)
  | 0, _, _, _, _, _ => none
  | n + 1, σ, v1, v2, v3, v4 =>
    (if (σ 1 2) ≤ v4 then
    (if (σ 12 0) < 0 then
    (fX6_ask_82 σ)
  else
    (if v1 = 0 then
    (fX6_ask_82 σ)
  else
    (some ((v3 - (σ 12 1)), σ))))
  else
    ((fX6_windsLeftAtWorst σ v4 v2).bind fun p5 =>
    ((fX0_offer p5.2 v4 (v3 - p5.1)).bind fun σ6 =>
    (fX6_ask_32 n σ6 v1 v2 v3 (v4 + (rI 1))))))
set_option maxRecDepth 100000 in
theorem rX6_ask_32 {E : rp_E}  : ∀ (n : Nat) (σ : rp_S) (v1 : Int32) (v2 : Int32) (v3 : Int32) (v4 : Int32), rp_R E (rp_mK E rmX6_ask) mX6_ask 32 [some (.ref (E.2.2.2.1 0)), some (.int v1), some (.int v2), some (.int v3), some (.int v4)] [] σ rp_hI (fX6_ask_32 n σ v1 v2 v3 v4) := by
  intro n
  induction n with
  | zero =>
    intro σ v1 v2 v3 v4
    rw [fX6_ask_32]
    exact rp_none
  | succ n ih =>
    intro σ v1 v2 v3 v4
    rw [fX6_ask_32]
    refine rp_iload (x := v4) dX6_ask_32 rfl ?_
    refine rp_aload_n (x := (E.2.2.2.1 0)) dX6_ask_34 rfl ?_
    refine rp_getR (k := 0) (b := 1) sh0 rfl fdX6_10 dX6_ask_35 ?_
    refine rp_getI (k := 2) sh1 rfl fdX6_92 dX6_ask_38 ?_
    refine rp_icmp_ge (tgt := 68) dX6_ask_41 (by decide) ?_ ?_
    · refine rp_aload_n (x := (E.2.2.2.1 0)) dX6_ask_68 rfl ?_
      refine rp_getR (k := 2) (b := 12) sh0 rfl fdX6_26 dX6_ask_69 ?_
      refine rp_getI (k := 0) sh12 rfl fdX6_261 dX6_ask_72 ?_
      refine rp_if_lt (tgt := 82) dX6_ask_75 (by decide) ?_ ?_
      · refine rp_mask [true, false, false, false, false] (vs2 := [some (.ref (E.2.2.2.1 0)), none, none, none, none]) rfl rfl ?_
        exact rX6_ask_82 σ
      · refine rp_iload_n (x := v1) dX6_ask_78 rfl ?_
        refine rp_if_ne (tgt := 90) dX6_ask_79 (by decide) ?_ ?_
        · refine rp_iload_n (x := v3) dX6_ask_90 rfl ?_
          refine rp_aload_n (x := (E.2.2.2.1 0)) dX6_ask_91 rfl ?_
          refine rp_getR (k := 2) (b := 12) sh0 rfl fdX6_26 dX6_ask_92 ?_
          refine rp_getI (k := 1) sh12 rfl fdX6_264 dX6_ask_95 ?_
          refine rp_isub dX6_ask_98 ?_
          exact rp_iret rfl rfl dX6_ask_99
        · refine rp_mask [true, false, false, false, false] (vs2 := [some (.ref (E.2.2.2.1 0)), none, none, none, none]) rfl rfl ?_
          exact rX6_ask_82 σ
    · refine rp_aload_n (x := (E.2.2.2.1 0)) dX6_ask_44 rfl ?_
      refine rp_getR (k := 2) (b := 12) sh0 rfl fdX6_26 dX6_ask_45 ?_
      refine rp_iload (x := v4) dX6_ask_48 rfl ?_
      refine rp_iload_n (x := v3) dX6_ask_50 rfl ?_
      refine rp_aload_n (x := (E.2.2.2.1 0)) dX6_ask_51 rfl ?_
      refine rp_iload (x := v4) dX6_ask_52 rfl ?_
      refine rp_iload_n (x := v2) dX6_ask_54 rfl ?_
      refine rp_callV_hI (As := [.int v4, .int v2]) (rest := [.int v3, .int v4, .ref (E.2.2.2.1 12)]) (b := (E.2.2.2.1 0)) (rX6_windsLeftAtWorst σ v4 v2) cbX6_windsLeftAtWorst lkX6_258 viX6_windsLeftAtWorst (rp_rcO sh0 rfl) rfl (Nat.le_of_ble_eq_true rfl) ⟨rfl, rfl, ⟨Nat.le_of_ble_eq_true rfl, Nat.le_of_ble_eq_true rfl⟩, Nat.zero_le _, Nat.zero_le _⟩ rfl (Nat.le_of_ble_eq_true rfl) dX6_ask_55 (fun p5 hp5 => ?_)
      refine rp_isub dX6_ask_58 ?_
      refine rp_callV_hv (As := [.int v4, .int (v3 - p5.1)]) (rest := []) (b := (E.2.2.2.1 12)) (rX0_offer p5.2 v4 (v3 - p5.1)) cbX0_offer lkX6_190 viX0_offer (rp_rcO sh12 rfl) rfl (Nat.le_of_ble_eq_true rfl) ⟨rfl, rfl, ⟨Nat.le_of_ble_eq_true rfl, Nat.le_of_ble_eq_true rfl⟩, Nat.zero_le _, Nat.zero_le _⟩ rfl (Nat.le_of_ble_eq_true rfl) dX6_ask_59 (fun σ6 hσ6 => ?_)
      refine rp_iinc (x := v4) dX6_ask_62 rfl (by decide) rfl ?_
      refine rp_goto (tgt := 32) dX6_ask_65 (by decide) ?_
      refine rp_mask [true, true, true, true, true] (vs2 := [some (.ref (E.2.2.2.1 0)), some (.int v1), some (.int v2), some (.int v3), some (.int (v4 + (rI 1)))]) rfl rfl ?_
      exact ih σ6 v1 v2 v3 (v4 + (rI 1))
def fX6_ask (σ : rp_S) (v1 : Int32) : Option (Int32 × rp_S) :=
  ((fX6_within v1 (rI 0) (rI 1)).bind fun x1 =>
    (if x1 = 0 then
    (some ((rI (-1)), σ))
  else
    ((fX6_winds σ).bind fun p2 =>
    ((fJ6_bitCount_0f7a4 (p2.1)).bind fun x3 =>
    ((fX0_beginAbove p2.2 (rI 0)).bind fun σ4 =>
    (fX6_ask_32 1000 σ4 v1 (p2.1) x3 (rI 0)))))))
set_option maxRecDepth 100000 in
theorem rX6_ask {E : rp_E} (σ : rp_S) (v1 : Int32)   : rp_R E (rp_mK E rmX6_ask) mX6_ask 0 [some (.ref (E.2.2.2.1 0)), some (.int v1), none, none, none] [] σ rp_hI (fX6_ask σ v1) := by
  rw [fX6_ask]
  refine rp_iload_n (x := v1) dX6_ask_0 rfl ?_
  refine rp_iconst dX6_ask_1 ?_
  refine rp_iconst dX6_ask_2 ?_
  refine rp_callS_hi (As := [.int v1, .int (rI 0), .int (rI 1)]) (rest := []) (rX6_within σ v1 (rI 0) (rI 1)) cbX6_within lkX6_57 stX6_within rfl (Nat.le_of_ble_eq_true rfl) ⟨rfl, rfl, ⟨Nat.le_of_ble_eq_true rfl, Nat.le_of_ble_eq_true rfl⟩, Nat.zero_le _, Nat.zero_le _⟩ rfl (Nat.le_of_ble_eq_true rfl) dX6_ask_3 (fun x1 hx1 => ?_)
  refine rp_if_ne (tgt := 11) dX6_ask_6 (by decide) ?_ ?_
  · refine rp_aload_n (x := (E.2.2.2.1 0)) dX6_ask_11 rfl ?_
    refine rp_callV_hI (As := []) (rest := []) (b := (E.2.2.2.1 0)) (rX6_winds σ) cbX6_winds lkX6_255 viX6_winds (rp_rcO sh0 rfl) rfl (Nat.le_of_ble_eq_true rfl) ⟨rfl, rfl, ⟨Nat.le_of_ble_eq_true rfl, Nat.le_of_ble_eq_true rfl⟩, Nat.zero_le _, Nat.zero_le _⟩ rfl (Nat.le_of_ble_eq_true rfl) dX6_ask_12 (fun p2 hp2 => ?_)
    refine rp_istore_n dX6_ask_15 (by decide) rfl ?_
    refine rp_iload_n (x := p2.1) dX6_ask_16 rfl ?_
    refine rp_callS_hi (As := [.int p2.1]) (rest := []) (rJ6_bitCount_0f7a4 p2.2 (p2.1)) cbJ6_bitCount_0f7a4 lkX6_204 stJ6_bitCount_0f7a4 rfl (Nat.le_of_ble_eq_true rfl) ⟨rfl, rfl, ⟨Nat.le_of_ble_eq_true rfl, Nat.le_of_ble_eq_true rfl⟩, Nat.zero_le _, Nat.zero_le _⟩ rfl (Nat.le_of_ble_eq_true rfl) dX6_ask_17 (fun x3 hx3 => ?_)
    refine rp_istore_n dX6_ask_20 (by decide) rfl ?_
    refine rp_aload_n (x := (E.2.2.2.1 0)) dX6_ask_21 rfl ?_
    refine rp_getR (k := 2) (b := 12) sh0 rfl fdX6_26 dX6_ask_22 ?_
    refine rp_iconst dX6_ask_25 ?_
    refine rp_callV_hv (As := [.int (rI 0)]) (rest := []) (b := (E.2.2.2.1 12)) (rX0_beginAbove p2.2 (rI 0)) cbX0_beginAbove lkX6_183 viX0_beginAbove (rp_rcO sh12 rfl) rfl (Nat.le_of_ble_eq_true rfl) ⟨rfl, rfl, ⟨Nat.le_of_ble_eq_true rfl, Nat.le_of_ble_eq_true rfl⟩, Nat.zero_le _, Nat.zero_le _⟩ rfl (Nat.le_of_ble_eq_true rfl) dX6_ask_26 (fun σ4 hσ4 => ?_)
    refine rp_iconst dX6_ask_29 ?_
    refine rp_istore dX6_ask_30 (by decide) rfl ?_
    refine rp_mask [true, true, true, true, true] (vs2 := [some (.ref (E.2.2.2.1 0)), some (.int v1), some (.int p2.1), some (.int x3), some (.int (rI 0))]) rfl rfl ?_
    exact rX6_ask_32 1000 σ4 v1 (p2.1) x3 (rI 0)
  · refine rp_iconst dX6_ask_9 ?_
    exact rp_iret rfl rfl dX6_ask_10
/-! RocketPrintModel.ask(I)I -/
abbrev rmX7_ask : Room := { frames := 5, cells := 0, slots := 0, locals := 112 }
def fX7_ask_181 (k29 : rp_S → Int32 → Int32 → Int32 → Int32 → Int32 → Option (Int32 × rp_S)) (σ : rp_S) (v1 : Int32) (v2 : Int32) (v4 : Int32) (v5 : Int32) (s0 : Int32) : Option (Int32 × rp_S) :=
  (k29 σ v1 v2 s0 v4 (v5 + (rI 1)))
set_option maxRecDepth 100000 in
theorem rX7_ask_181 {E : rp_E} (k29 : rp_S → Int32 → Int32 → Int32 → Int32 → Int32 → Option (Int32 × rp_S)) (hk29 : ∀ (σ : rp_S) (v1 : Int32) (v2 : Int32) (v3 : Int32) (v4 : Int32) (v5 : Int32), rp_R E (rp_mK E rmX7_ask) mX7_ask 29 [some (.ref (E.2.2.2.1 28)), some (.int v1), some (.int v2), some (.int v3), some (.int v4), some (.int v5), none, none, none, none] [] σ rp_hI (k29 σ v1 v2 v3 v4 v5)) (σ : rp_S) (v1 : Int32) (v2 : Int32) (v4 : Int32) (v5 : Int32) (s0 : Int32) : rp_R E (rp_mK E rmX7_ask) mX7_ask 181 [some (.ref (E.2.2.2.1 28)), some (.int v1), some (.int v2), none, some (.int v4), some (.int v5), none, none, none, none] [.int s0] σ rp_hI (fX7_ask_181 k29 σ v1 v2 v4 v5 s0) := by
  rw [fX7_ask_181]
  refine rp_istore_n dX7_ask_181 (by decide) rfl ?_
  refine rp_iinc (x := v5) dX7_ask_182 rfl (by decide) rfl ?_
  refine rp_goto (tgt := 29) dX7_ask_185 (by decide) ?_
  refine rp_mask [true, true, true, true, true, true, false, false, false, false] (vs2 := [some (.ref (E.2.2.2.1 28)), some (.int v1), some (.int v2), some (.int s0), some (.int v4), some (.int (v5 + (rI 1))), none, none, none, none]) rfl rfl ?_
  exact hk29 σ v1 v2 s0 v4 (v5 + (rI 1))
def fX7_ask_167 (k29 : rp_S → Int32 → Int32 → Int32 → Int32 → Int32 → Option (Int32 × rp_S)) (σ : rp_S) (v1 : Int32) (v2 : Int32) (v3 : Int32) (v5 : Int32) (v6 : Int32) (s0 : Int32) : Option (Int32 × rp_S) :=
  (if v3 ≤ v6 then
    (fX7_ask_181 k29 σ v1 v2 s0 v5 v3)
  else
    (fX7_ask_181 k29 σ v1 v2 s0 v5 v6))
set_option maxRecDepth 100000 in
theorem rX7_ask_167 {E : rp_E} (k29 : rp_S → Int32 → Int32 → Int32 → Int32 → Int32 → Option (Int32 × rp_S)) (hk29 : ∀ (σ : rp_S) (v1 : Int32) (v2 : Int32) (v3 : Int32) (v4 : Int32) (v5 : Int32), rp_R E (rp_mK E rmX7_ask) mX7_ask 29 [some (.ref (E.2.2.2.1 28)), some (.int v1), some (.int v2), some (.int v3), some (.int v4), some (.int v5), none, none, none, none] [] σ rp_hI (k29 σ v1 v2 v3 v4 v5)) (σ : rp_S) (v1 : Int32) (v2 : Int32) (v3 : Int32) (v5 : Int32) (v6 : Int32) (s0 : Int32) : rp_R E (rp_mK E rmX7_ask) mX7_ask 167 [some (.ref (E.2.2.2.1 28)), some (.int v1), some (.int v2), some (.int v3), none, some (.int v5), some (.int v6), none, none, none] [.int s0] σ rp_hI (fX7_ask_167 k29 σ v1 v2 v3 v5 v6 s0) := by
  rw [fX7_ask_167]
  refine rp_istore dX7_ask_167 (by decide) rfl ?_
  refine rp_iload (x := v6) dX7_ask_169 rfl ?_
  refine rp_iload_n (x := v3) dX7_ask_171 rfl ?_
  refine rp_icmp_ge (tgt := 180) dX7_ask_172 (by decide) ?_ ?_
  · refine rp_iload_n (x := v3) dX7_ask_180 rfl ?_
    refine rp_mask [true, true, true, false, true, true, false, false, false, false] (vs2 := [some (.ref (E.2.2.2.1 28)), some (.int v1), some (.int v2), none, some (.int s0), some (.int v5), none, none, none, none]) rfl rfl ?_
    exact rX7_ask_181 k29 hk29 σ v1 v2 s0 v5 v3
  · refine rp_iload (x := v6) dX7_ask_175 rfl ?_
    refine rp_goto (tgt := 181) dX7_ask_177 (by decide) ?_
    refine rp_mask [true, true, true, false, true, true, false, false, false, false] (vs2 := [some (.ref (E.2.2.2.1 28)), some (.int v1), some (.int v2), none, some (.int s0), some (.int v5), none, none, none, none]) rfl rfl ?_
    exact rX7_ask_181 k29 hk29 σ v1 v2 s0 v5 v6
def fX7_ask_146 (k29 : rp_S → Int32 → Int32 → Int32 → Int32 → Int32 → Option (Int32 × rp_S)) (k47 : rp_S → Int32 → Int32 → Int32 → Int32 → Int32 → Int32 → Int32 → Option (Int32 × rp_S)) (σ : rp_S) (v1 : Int32) (v2 : Int32) (v3 : Int32) (v4 : Int32) (v5 : Int32) (v7 : Int32) (s0 : Int32) : Option (Int32 × rp_S) :=
  (k47 σ v1 v2 v3 v4 v5 s0 (v7 + (rI 1)))
set_option maxRecDepth 100000 in
theorem rX7_ask_146 {E : rp_E} (k29 : rp_S → Int32 → Int32 → Int32 → Int32 → Int32 → Option (Int32 × rp_S)) (hk29 : ∀ (σ : rp_S) (v1 : Int32) (v2 : Int32) (v3 : Int32) (v4 : Int32) (v5 : Int32), rp_R E (rp_mK E rmX7_ask) mX7_ask 29 [some (.ref (E.2.2.2.1 28)), some (.int v1), some (.int v2), some (.int v3), some (.int v4), some (.int v5), none, none, none, none] [] σ rp_hI (k29 σ v1 v2 v3 v4 v5)) (k47 : rp_S → Int32 → Int32 → Int32 → Int32 → Int32 → Int32 → Int32 → Option (Int32 × rp_S)) (hk47 : ∀ (σ : rp_S) (v1 : Int32) (v2 : Int32) (v3 : Int32) (v4 : Int32) (v5 : Int32) (v6 : Int32) (v7 : Int32), rp_R E (rp_mK E rmX7_ask) mX7_ask 47 [some (.ref (E.2.2.2.1 28)), some (.int v1), some (.int v2), some (.int v3), some (.int v4), some (.int v5), some (.int v6), some (.int v7), none, none] [] σ rp_hI (k47 σ v1 v2 v3 v4 v5 v6 v7)) (σ : rp_S) (v1 : Int32) (v2 : Int32) (v3 : Int32) (v4 : Int32) (v5 : Int32) (v7 : Int32) (s0 : Int32) : rp_R E (rp_mK E rmX7_ask) mX7_ask 146 [some (.ref (E.2.2.2.1 28)), some (.int v1), some (.int v2), some (.int v3), some (.int v4), some (.int v5), none, some (.int v7), none, none] [.int s0] σ rp_hI (fX7_ask_146 k29 k47 σ v1 v2 v3 v4 v5 v7 s0) := by
  rw [fX7_ask_146]
  refine rp_istore dX7_ask_146 (by decide) rfl ?_
  refine rp_iinc (x := v7) dX7_ask_148 rfl (by decide) rfl ?_
  refine rp_goto (tgt := 47) dX7_ask_151 (by decide) ?_
  refine rp_mask [true, true, true, true, true, true, true, true, false, false] (vs2 := [some (.ref (E.2.2.2.1 28)), some (.int v1), some (.int v2), some (.int v3), some (.int v4), some (.int v5), some (.int s0), some (.int (v7 + (rI 1))), none, none]) rfl rfl ?_
  exact hk47 σ v1 v2 v3 v4 v5 s0 (v7 + (rI 1))
def fX7_ask_132 (k29 : rp_S → Int32 → Int32 → Int32 → Int32 → Int32 → Option (Int32 × rp_S)) (k47 : rp_S → Int32 → Int32 → Int32 → Int32 → Int32 → Int32 → Int32 → Option (Int32 × rp_S)) (σ : rp_S) (v1 : Int32) (v2 : Int32) (v3 : Int32) (v4 : Int32) (v5 : Int32) (v6 : Int32) (v7 : Int32) (v8 : Int32) : Option (Int32 × rp_S) :=
  (if v8 ≤ v6 then
    (fX7_ask_146 k29 k47 σ v1 v2 v3 v4 v5 v7 v6)
  else
    (fX7_ask_146 k29 k47 σ v1 v2 v3 v4 v5 v7 v8))
set_option maxRecDepth 100000 in
theorem rX7_ask_132 {E : rp_E} (k29 : rp_S → Int32 → Int32 → Int32 → Int32 → Int32 → Option (Int32 × rp_S)) (hk29 : ∀ (σ : rp_S) (v1 : Int32) (v2 : Int32) (v3 : Int32) (v4 : Int32) (v5 : Int32), rp_R E (rp_mK E rmX7_ask) mX7_ask 29 [some (.ref (E.2.2.2.1 28)), some (.int v1), some (.int v2), some (.int v3), some (.int v4), some (.int v5), none, none, none, none] [] σ rp_hI (k29 σ v1 v2 v3 v4 v5)) (k47 : rp_S → Int32 → Int32 → Int32 → Int32 → Int32 → Int32 → Int32 → Option (Int32 × rp_S)) (hk47 : ∀ (σ : rp_S) (v1 : Int32) (v2 : Int32) (v3 : Int32) (v4 : Int32) (v5 : Int32) (v6 : Int32) (v7 : Int32), rp_R E (rp_mK E rmX7_ask) mX7_ask 47 [some (.ref (E.2.2.2.1 28)), some (.int v1), some (.int v2), some (.int v3), some (.int v4), some (.int v5), some (.int v6), some (.int v7), none, none] [] σ rp_hI (k47 σ v1 v2 v3 v4 v5 v6 v7)) (σ : rp_S) (v1 : Int32) (v2 : Int32) (v3 : Int32) (v4 : Int32) (v5 : Int32) (v6 : Int32) (v7 : Int32) (v8 : Int32) : rp_R E (rp_mK E rmX7_ask) mX7_ask 132 [some (.ref (E.2.2.2.1 28)), some (.int v1), some (.int v2), some (.int v3), some (.int v4), some (.int v5), some (.int v6), some (.int v7), some (.int v8), none] [] σ rp_hI (fX7_ask_132 k29 k47 σ v1 v2 v3 v4 v5 v6 v7 v8) := by
  rw [fX7_ask_132]
  refine rp_iload (x := v8) dX7_ask_132 rfl ?_
  refine rp_iload (x := v6) dX7_ask_134 rfl ?_
  refine rp_icmp_le (tgt := 144) dX7_ask_136 (by decide) ?_ ?_
  · refine rp_iload (x := v6) dX7_ask_144 rfl ?_
    refine rp_mask [true, true, true, true, true, true, false, true, false, false] (vs2 := [some (.ref (E.2.2.2.1 28)), some (.int v1), some (.int v2), some (.int v3), some (.int v4), some (.int v5), none, some (.int v7), none, none]) rfl rfl ?_
    exact rX7_ask_146 k29 hk29 k47 hk47 σ v1 v2 v3 v4 v5 v7 v6
  · refine rp_iload (x := v8) dX7_ask_139 rfl ?_
    refine rp_goto (tgt := 146) dX7_ask_141 (by decide) ?_
    refine rp_mask [true, true, true, true, true, true, false, true, false, false] (vs2 := [some (.ref (E.2.2.2.1 28)), some (.int v1), some (.int v2), some (.int v3), some (.int v4), some (.int v5), none, some (.int v7), none, none]) rfl rfl ?_
    exact rX7_ask_146 k29 hk29 k47 hk47 σ v1 v2 v3 v4 v5 v7 v8
def fX7_ask_123 (k29 : rp_S → Int32 → Int32 → Int32 → Int32 → Int32 → Option (Int32 × rp_S)) (k47 : rp_S → Int32 → Int32 → Int32 → Int32 → Int32 → Int32 → Int32 → Option (Int32 × rp_S)) (k60 : rp_S → Int32 → Int32 → Int32 → Int32 → Int32 → Int32 → Int32 → Int32 → Int32 → Option (Int32 × rp_S)) (σ : rp_S) (v1 : Int32) (v2 : Int32) (v3 : Int32) (v4 : Int32) (v5 : Int32) (v6 : Int32) (v7 : Int32) (v9 : Int32) (s0 : Int32) (s1 : Int32) : Option (Int32 × rp_S) :=
  (k60 σ v1 v2 v3 v4 v5 v6 v7 (s1 + s0) (v9 + (rI 1)))
set_option maxRecDepth 100000 in
theorem rX7_ask_123 {E : rp_E} (k29 : rp_S → Int32 → Int32 → Int32 → Int32 → Int32 → Option (Int32 × rp_S)) (hk29 : ∀ (σ : rp_S) (v1 : Int32) (v2 : Int32) (v3 : Int32) (v4 : Int32) (v5 : Int32), rp_R E (rp_mK E rmX7_ask) mX7_ask 29 [some (.ref (E.2.2.2.1 28)), some (.int v1), some (.int v2), some (.int v3), some (.int v4), some (.int v5), none, none, none, none] [] σ rp_hI (k29 σ v1 v2 v3 v4 v5)) (k47 : rp_S → Int32 → Int32 → Int32 → Int32 → Int32 → Int32 → Int32 → Option (Int32 × rp_S)) (hk47 : ∀ (σ : rp_S) (v1 : Int32) (v2 : Int32) (v3 : Int32) (v4 : Int32) (v5 : Int32) (v6 : Int32) (v7 : Int32), rp_R E (rp_mK E rmX7_ask) mX7_ask 47 [some (.ref (E.2.2.2.1 28)), some (.int v1), some (.int v2), some (.int v3), some (.int v4), some (.int v5), some (.int v6), some (.int v7), none, none] [] σ rp_hI (k47 σ v1 v2 v3 v4 v5 v6 v7)) (k60 : rp_S → Int32 → Int32 → Int32 → Int32 → Int32 → Int32 → Int32 → Int32 → Int32 → Option (Int32 × rp_S)) (hk60 : ∀ (σ : rp_S) (v1 : Int32) (v2 : Int32) (v3 : Int32) (v4 : Int32) (v5 : Int32) (v6 : Int32) (v7 : Int32) (v8 : Int32) (v9 : Int32), rp_R E (rp_mK E rmX7_ask) mX7_ask 60 [some (.ref (E.2.2.2.1 28)), some (.int v1), some (.int v2), some (.int v3), some (.int v4), some (.int v5), some (.int v6), some (.int v7), some (.int v8), some (.int v9)] [] σ rp_hI (k60 σ v1 v2 v3 v4 v5 v6 v7 v8 v9)) (σ : rp_S) (v1 : Int32) (v2 : Int32) (v3 : Int32) (v4 : Int32) (v5 : Int32) (v6 : Int32) (v7 : Int32) (v9 : Int32) (s0 : Int32) (s1 : Int32) : rp_R E (rp_mK E rmX7_ask) mX7_ask 123 [some (.ref (E.2.2.2.1 28)), some (.int v1), some (.int v2), some (.int v3), some (.int v4), some (.int v5), some (.int v6), some (.int v7), none, some (.int v9)] [.int s0, .int s1] σ rp_hI (fX7_ask_123 k29 k47 k60 σ v1 v2 v3 v4 v5 v6 v7 v9 s0 s1) := by
  rw [fX7_ask_123]
  refine rp_iadd dX7_ask_123 ?_
  refine rp_istore dX7_ask_124 (by decide) rfl ?_
  refine rp_iinc (x := v9) dX7_ask_126 rfl (by decide) rfl ?_
  refine rp_goto (tgt := 60) dX7_ask_129 (by decide) ?_
  refine rp_mask [true, true, true, true, true, true, true, true, true, true] (vs2 := [some (.ref (E.2.2.2.1 28)), some (.int v1), some (.int v2), some (.int v3), some (.int v4), some (.int v5), some (.int v6), some (.int v7), some (.int (s1 + s0)), some (.int (v9 + (rI 1)))]) rfl rfl ?_
  exact hk60 σ v1 v2 v3 v4 v5 v6 v7 (s1 + s0) (v9 + (rI 1))
def fX7_ask_122 (k29 : rp_S → Int32 → Int32 → Int32 → Int32 → Int32 → Option (Int32 × rp_S)) (k47 : rp_S → Int32 → Int32 → Int32 → Int32 → Int32 → Int32 → Int32 → Option (Int32 × rp_S)) (k60 : rp_S → Int32 → Int32 → Int32 → Int32 → Int32 → Int32 → Int32 → Int32 → Int32 → Option (Int32 × rp_S)) (σ : rp_S) (v1 : Int32) (v2 : Int32) (v3 : Int32) (v4 : Int32) (v5 : Int32) (v6 : Int32) (v7 : Int32) (v9 : Int32) (s0 : Int32) : Option (Int32 × rp_S) :=
  (fX7_ask_123 k29 k47 k60 σ v1 v2 v3 v4 v5 v6 v7 v9 (rI 0) s0)
set_option maxRecDepth 100000 in
theorem rX7_ask_122 {E : rp_E} (k29 : rp_S → Int32 → Int32 → Int32 → Int32 → Int32 → Option (Int32 × rp_S)) (hk29 : ∀ (σ : rp_S) (v1 : Int32) (v2 : Int32) (v3 : Int32) (v4 : Int32) (v5 : Int32), rp_R E (rp_mK E rmX7_ask) mX7_ask 29 [some (.ref (E.2.2.2.1 28)), some (.int v1), some (.int v2), some (.int v3), some (.int v4), some (.int v5), none, none, none, none] [] σ rp_hI (k29 σ v1 v2 v3 v4 v5)) (k47 : rp_S → Int32 → Int32 → Int32 → Int32 → Int32 → Int32 → Int32 → Option (Int32 × rp_S)) (hk47 : ∀ (σ : rp_S) (v1 : Int32) (v2 : Int32) (v3 : Int32) (v4 : Int32) (v5 : Int32) (v6 : Int32) (v7 : Int32), rp_R E (rp_mK E rmX7_ask) mX7_ask 47 [some (.ref (E.2.2.2.1 28)), some (.int v1), some (.int v2), some (.int v3), some (.int v4), some (.int v5), some (.int v6), some (.int v7), none, none] [] σ rp_hI (k47 σ v1 v2 v3 v4 v5 v6 v7)) (k60 : rp_S → Int32 → Int32 → Int32 → Int32 → Int32 → Int32 → Int32 → Int32 → Int32 → Option (Int32 × rp_S)) (hk60 : ∀ (σ : rp_S) (v1 : Int32) (v2 : Int32) (v3 : Int32) (v4 : Int32) (v5 : Int32) (v6 : Int32) (v7 : Int32) (v8 : Int32) (v9 : Int32), rp_R E (rp_mK E rmX7_ask) mX7_ask 60 [some (.ref (E.2.2.2.1 28)), some (.int v1), some (.int v2), some (.int v3), some (.int v4), some (.int v5), some (.int v6), some (.int v7), some (.int v8), some (.int v9)] [] σ rp_hI (k60 σ v1 v2 v3 v4 v5 v6 v7 v8 v9)) (σ : rp_S) (v1 : Int32) (v2 : Int32) (v3 : Int32) (v4 : Int32) (v5 : Int32) (v6 : Int32) (v7 : Int32) (v9 : Int32) (s0 : Int32) : rp_R E (rp_mK E rmX7_ask) mX7_ask 122 [some (.ref (E.2.2.2.1 28)), some (.int v1), some (.int v2), some (.int v3), some (.int v4), some (.int v5), some (.int v6), some (.int v7), none, some (.int v9)] [.int s0] σ rp_hI (fX7_ask_122 k29 k47 k60 σ v1 v2 v3 v4 v5 v6 v7 v9 s0) := by
  rw [fX7_ask_122]
  refine rp_iconst dX7_ask_122 ?_
  refine rp_mask [true, true, true, true, true, true, true, true, false, true] (vs2 := [some (.ref (E.2.2.2.1 28)), some (.int v1), some (.int v2), some (.int v3), some (.int v4), some (.int v5), some (.int v6), some (.int v7), none, some (.int v9)]) rfl rfl ?_
  exact rX7_ask_123 k29 hk29 k47 hk47 k60 hk60 σ v1 v2 v3 v4 v5 v6 v7 v9 (rI 0) s0
def fX7_ask_60 (k29 : rp_S → Int32 → Int32 → Int32 → Int32 → Int32 → Option (Int32 × rp_S)) (k47 : rp_S → Int32 → Int32 → Int32 → Int32 → Int32 → Int32 → Int32 → Option (Int32 × rp_S)) : Nat → rp_S → Int32 → Int32 → Int32 → Int32 → Int32 → Int32 → Int32 → Int32 → Int32 → Option (Int32 × rp_S)
  | 0, _, _, _, _, _, _, _, _, _, _ => none
  | n + 1, σ, v1, v2, v3, v4, v5, v6, v7, v8, v9 =>
    (if (rI 8) < v9 then
    (fX7_ask_132 k29 k47 σ v1 v2 v3 v4 v5 v6 v7 v8)
  else
    (if ((v2 >>> (v7 &&& 31)) &&& (rI 1)) = (rI 1) then
    (if ((v2 >>> (v9 &&& 31)) &&& (rI 1)) = (rI 1) then
    ((rq_rd σ 36 54 (((rI 6) * v7) + v5)).bind fun x5 =>
    ((rq_rd σ 36 54 (((rI 6) * v9) + v5)).bind fun x6 =>
    (if x5 = x6 then
    (fX7_ask_123 k29 k47 (fun σ v1 v2 v3 v4 v5 v6 v7 v8 v9 => fX7_ask_60 k29 k47 n σ v1 v2 v3 v4 v5 v6 v7 v8 v9) σ v1 v2 v3 v4 v5 v6 v7 v9 (rI 1) v8)
  else
    (fX7_ask_122 k29 k47 (fun σ v1 v2 v3 v4 v5 v6 v7 v8 v9 => fX7_ask_60 k29 k47 n σ v1 v2 v3 v4 v5 v6 v7 v8 v9) σ v1 v2 v3 v4 v5 v6 v7 v9 v8))))
  else
    (fX7_ask_122 k29 k47 (fun σ v1 v2 v3 v4 v5 v6 v7 v8 v9 => fX7_ask_60 k29 k47 n σ v1 v2 v3 v4 v5 v6 v7 v8 v9) σ v1 v2 v3 v4 v5 v6 v7 v9 v8))
  else
    (fX7_ask_132 k29 k47 σ v1 v2 v3 v4 v5 v6 v7 v8)))
set_option maxRecDepth 100000 in
theorem rX7_ask_60 {E : rp_E} (k29 : rp_S → Int32 → Int32 → Int32 → Int32 → Int32 → Option (Int32 × rp_S)) (hk29 : ∀ (σ : rp_S) (v1 : Int32) (v2 : Int32) (v3 : Int32) (v4 : Int32) (v5 : Int32), rp_R E (rp_mK E rmX7_ask) mX7_ask 29 [some (.ref (E.2.2.2.1 28)), some (.int v1), some (.int v2), some (.int v3), some (.int v4), some (.int v5), none, none, none, none] [] σ rp_hI (k29 σ v1 v2 v3 v4 v5)) (k47 : rp_S → Int32 → Int32 → Int32 → Int32 → Int32 → Int32 → Int32 → Option (Int32 × rp_S)) (hk47 : ∀ (σ : rp_S) (v1 : Int32) (v2 : Int32) (v3 : Int32) (v4 : Int32) (v5 : Int32) (v6 : Int32) (v7 : Int32), rp_R E (rp_mK E rmX7_ask) mX7_ask 47 [some (.ref (E.2.2.2.1 28)), some (.int v1), some (.int v2), some (.int v3), some (.int v4), some (.int v5), some (.int v6), some (.int v7), none, none] [] σ rp_hI (k47 σ v1 v2 v3 v4 v5 v6 v7)) : ∀ (n : Nat) (σ : rp_S) (v1 : Int32) (v2 : Int32) (v3 : Int32) (v4 : Int32) (v5 : Int32) (v6 : Int32) (v7 : Int32) (v8 : Int32) (v9 : Int32), rp_R E (rp_mK E rmX7_ask) mX7_ask 60 [some (.ref (E.2.2.2.1 28)), some (.int v1), some (.int v2), some (.int v3), some (.int v4), some (.int v5), some (.int v6), some (.int v7), some (.int v8), some (.int v9)] [] σ rp_hI (fX7_ask_60 k29 k47 n σ v1 v2 v3 v4 v5 v6 v7 v8 v9) := by
  intro n
  induction n with
  | zero =>
    intro σ v1 v2 v3 v4 v5 v6 v7 v8 v9
    rw [fX7_ask_60]
    exact rp_none
  | succ n ih =>
    intro σ v1 v2 v3 v4 v5 v6 v7 v8 v9
    rw [fX7_ask_60]
    refine rp_iload (x := v9) dX7_ask_60 rfl ?_
    refine rp_bipush dX7_ask_62 (by decide) ?_
    refine rp_icmp_gt (tgt := 132) dX7_ask_64 (by decide) ?_ ?_
    · refine rp_mask [true, true, true, true, true, true, true, true, true, false] (vs2 := [some (.ref (E.2.2.2.1 28)), some (.int v1), some (.int v2), some (.int v3), some (.int v4), some (.int v5), some (.int v6), some (.int v7), some (.int v8), none]) rfl rfl ?_
      exact rX7_ask_132 k29 hk29 k47 hk47 σ v1 v2 v3 v4 v5 v6 v7 v8
    · refine rp_iload_n (x := v2) dX7_ask_67 rfl ?_
      refine rp_iload (x := v7) dX7_ask_68 rfl ?_
      refine rp_ishr dX7_ask_70 ?_
      refine rp_iconst dX7_ask_71 ?_
      refine rp_iand dX7_ask_72 ?_
      refine rp_iconst dX7_ask_73 ?_
      refine rp_icmp_ne (tgt := 132) dX7_ask_74 (by decide) ?_ ?_
      · refine rp_mask [true, true, true, true, true, true, true, true, true, false] (vs2 := [some (.ref (E.2.2.2.1 28)), some (.int v1), some (.int v2), some (.int v3), some (.int v4), some (.int v5), some (.int v6), some (.int v7), some (.int v8), none]) rfl rfl ?_
        exact rX7_ask_132 k29 hk29 k47 hk47 σ v1 v2 v3 v4 v5 v6 v7 v8
      · refine rp_iload (x := v8) dX7_ask_77 rfl ?_
        refine rp_iload_n (x := v2) dX7_ask_79 rfl ?_
        refine rp_iload (x := v9) dX7_ask_80 rfl ?_
        refine rp_ishr dX7_ask_82 ?_
        refine rp_iconst dX7_ask_83 ?_
        refine rp_iand dX7_ask_84 ?_
        refine rp_iconst dX7_ask_85 ?_
        refine rp_icmp_ne (tgt := 122) dX7_ask_86 (by decide) ?_ ?_
        · refine rp_mask [true, true, true, true, true, true, true, true, false, true] (vs2 := [some (.ref (E.2.2.2.1 28)), some (.int v1), some (.int v2), some (.int v3), some (.int v4), some (.int v5), some (.int v6), some (.int v7), none, some (.int v9)]) rfl rfl ?_
          exact rX7_ask_122 k29 hk29 k47 hk47 (fun σ v1 v2 v3 v4 v5 v6 v7 v8 v9 => fX7_ask_60 k29 k47 n σ v1 v2 v3 v4 v5 v6 v7 v8 v9) (fun σ v1 v2 v3 v4 v5 v6 v7 v8 v9 => ih σ v1 v2 v3 v4 v5 v6 v7 v8 v9) σ v1 v2 v3 v4 v5 v6 v7 v9 v8
        · refine rp_aload_n (x := (E.2.2.2.1 28)) dX7_ask_89 rfl ?_
          refine rp_getR (k := 21) (b := 36) sh28 rfl fdX7_31 dX7_ask_90 ?_
          refine rp_bipush dX7_ask_93 (by decide) ?_
          refine rp_iload (x := v7) dX7_ask_95 rfl ?_
          refine rp_imul dX7_ask_97 ?_
          refine rp_iload (x := v5) dX7_ask_98 rfl ?_
          refine rp_iadd dX7_ask_100 ?_
          refine rp_iaload sh36 dX7_ask_101 (fun x5 => ?_)
          refine rp_aload_n (x := (E.2.2.2.1 28)) dX7_ask_102 rfl ?_
          refine rp_getR (k := 21) (b := 36) sh28 rfl fdX7_31 dX7_ask_103 ?_
          refine rp_bipush dX7_ask_106 (by decide) ?_
          refine rp_iload (x := v9) dX7_ask_108 rfl ?_
          refine rp_imul dX7_ask_110 ?_
          refine rp_iload (x := v5) dX7_ask_111 rfl ?_
          refine rp_iadd dX7_ask_113 ?_
          refine rp_iaload sh36 dX7_ask_114 (fun x6 => ?_)
          refine rp_icmp_ne (tgt := 122) dX7_ask_115 (by decide) ?_ ?_
          · refine rp_mask [true, true, true, true, true, true, true, true, false, true] (vs2 := [some (.ref (E.2.2.2.1 28)), some (.int v1), some (.int v2), some (.int v3), some (.int v4), some (.int v5), some (.int v6), some (.int v7), none, some (.int v9)]) rfl rfl ?_
            exact rX7_ask_122 k29 hk29 k47 hk47 (fun σ v1 v2 v3 v4 v5 v6 v7 v8 v9 => fX7_ask_60 k29 k47 n σ v1 v2 v3 v4 v5 v6 v7 v8 v9) (fun σ v1 v2 v3 v4 v5 v6 v7 v8 v9 => ih σ v1 v2 v3 v4 v5 v6 v7 v8 v9) σ v1 v2 v3 v4 v5 v6 v7 v9 v8
          · refine rp_iconst dX7_ask_118 ?_
            refine rp_goto (tgt := 123) dX7_ask_119 (by decide) ?_
            refine rp_mask [true, true, true, true, true, true, true, true, false, true] (vs2 := [some (.ref (E.2.2.2.1 28)), some (.int v1), some (.int v2), some (.int v3), some (.int v4), some (.int v5), some (.int v6), some (.int v7), none, some (.int v9)]) rfl rfl ?_
            exact rX7_ask_123 k29 hk29 k47 hk47 (fun σ v1 v2 v3 v4 v5 v6 v7 v8 v9 => fX7_ask_60 k29 k47 n σ v1 v2 v3 v4 v5 v6 v7 v8 v9) (fun σ v1 v2 v3 v4 v5 v6 v7 v8 v9 => ih σ v1 v2 v3 v4 v5 v6 v7 v8 v9) σ v1 v2 v3 v4 v5 v6 v7 v9 (rI 1) v8
def fX7_ask_47 (k29 : rp_S → Int32 → Int32 → Int32 → Int32 → Int32 → Option (Int32 × rp_S)) : Nat → rp_S → Int32 → Int32 → Int32 → Int32 → Int32 → Int32 → Int32 → Option (Int32 × rp_S)
  | 0, _, _, _, _, _, _, _, _ => none
  | n + 1, σ, v1, v2, v3, v4, v5, v6, v7 =>
    (if (rI 8) < v7 then
    (if v3 ≤ v6 then
    (fX7_ask_167 k29 σ v1 v2 v3 v5 v6 v4)
  else
    (fX7_ask_167 k29 σ v1 v2 v3 v5 v6 v5))
  else
    (fX7_ask_60 k29 (fun σ v1 v2 v3 v4 v5 v6 v7 => fX7_ask_47 k29 n σ v1 v2 v3 v4 v5 v6 v7) 1000 σ v1 v2 v3 v4 v5 v6 v7 (rI 0) (rI 0)))
set_option maxRecDepth 100000 in
theorem rX7_ask_47 {E : rp_E} (k29 : rp_S → Int32 → Int32 → Int32 → Int32 → Int32 → Option (Int32 × rp_S)) (hk29 : ∀ (σ : rp_S) (v1 : Int32) (v2 : Int32) (v3 : Int32) (v4 : Int32) (v5 : Int32), rp_R E (rp_mK E rmX7_ask) mX7_ask 29 [some (.ref (E.2.2.2.1 28)), some (.int v1), some (.int v2), some (.int v3), some (.int v4), some (.int v5), none, none, none, none] [] σ rp_hI (k29 σ v1 v2 v3 v4 v5)) : ∀ (n : Nat) (σ : rp_S) (v1 : Int32) (v2 : Int32) (v3 : Int32) (v4 : Int32) (v5 : Int32) (v6 : Int32) (v7 : Int32), rp_R E (rp_mK E rmX7_ask) mX7_ask 47 [some (.ref (E.2.2.2.1 28)), some (.int v1), some (.int v2), some (.int v3), some (.int v4), some (.int v5), some (.int v6), some (.int v7), none, none] [] σ rp_hI (fX7_ask_47 k29 n σ v1 v2 v3 v4 v5 v6 v7) := by
  intro n
  induction n with
  | zero =>
    intro σ v1 v2 v3 v4 v5 v6 v7
    rw [fX7_ask_47]
    exact rp_none
  | succ n ih =>
    intro σ v1 v2 v3 v4 v5 v6 v7
    rw [fX7_ask_47]
    refine rp_iload (x := v7) dX7_ask_47 rfl ?_
    refine rp_bipush dX7_ask_49 (by decide) ?_
    refine rp_icmp_gt (tgt := 154) dX7_ask_51 (by decide) ?_ ?_
    · refine rp_iload (x := v6) dX7_ask_154 rfl ?_
      refine rp_iload_n (x := v3) dX7_ask_156 rfl ?_
      refine rp_icmp_ge (tgt := 165) dX7_ask_157 (by decide) ?_ ?_
      · refine rp_iload (x := v4) dX7_ask_165 rfl ?_
        refine rp_mask [true, true, true, true, false, true, true, false, false, false] (vs2 := [some (.ref (E.2.2.2.1 28)), some (.int v1), some (.int v2), some (.int v3), none, some (.int v5), some (.int v6), none, none, none]) rfl rfl ?_
        exact rX7_ask_167 k29 hk29 σ v1 v2 v3 v5 v6 v4
      · refine rp_iload (x := v5) dX7_ask_160 rfl ?_
        refine rp_goto (tgt := 167) dX7_ask_162 (by decide) ?_
        refine rp_mask [true, true, true, true, false, true, true, false, false, false] (vs2 := [some (.ref (E.2.2.2.1 28)), some (.int v1), some (.int v2), some (.int v3), none, some (.int v5), some (.int v6), none, none, none]) rfl rfl ?_
        exact rX7_ask_167 k29 hk29 σ v1 v2 v3 v5 v6 v5
    · refine rp_iconst dX7_ask_54 ?_
      refine rp_istore dX7_ask_55 (by decide) rfl ?_
      refine rp_iconst dX7_ask_57 ?_
      refine rp_istore dX7_ask_58 (by decide) rfl ?_
      refine rp_mask [true, true, true, true, true, true, true, true, true, true] (vs2 := [some (.ref (E.2.2.2.1 28)), some (.int v1), some (.int v2), some (.int v3), some (.int v4), some (.int v5), some (.int v6), some (.int v7), some (.int (rI 0)), some (.int (rI 0))]) rfl rfl ?_
      exact rX7_ask_60 k29 hk29 (fun σ v1 v2 v3 v4 v5 v6 v7 => fX7_ask_47 k29 n σ v1 v2 v3 v4 v5 v6 v7) (fun σ v1 v2 v3 v4 v5 v6 v7 => ih σ v1 v2 v3 v4 v5 v6 v7) 1000 σ v1 v2 v3 v4 v5 v6 v7 (rI 0) (rI 0)
def fX7_ask_29  : Nat → rp_S → Int32 → Int32 → Int32 → Int32 → Int32 → Option (Int32 × rp_S)
  | 0, _, _, _, _, _, _ => none
  | n + 1, σ, v1, v2, v3, v4, v5 =>
    ((rq_rd σ 29 180 (rI 24)).bind fun x4 =>
    (if x4 ≤ v5 then
    (if v4 = (rI (-4)) then
    (some (v4, σ))
  else
    (if v1 = 0 then
    (some (v4, σ))
  else
    (some (v3, σ))))
  else
    (fX7_ask_47 (fun σ v1 v2 v3 v4 v5 => fX7_ask_29 n σ v1 v2 v3 v4 v5) 1000 σ v1 v2 v3 v4 v5 (rI 0) (rI 0))))
set_option maxRecDepth 100000 in
theorem rX7_ask_29 {E : rp_E}  : ∀ (n : Nat) (σ : rp_S) (v1 : Int32) (v2 : Int32) (v3 : Int32) (v4 : Int32) (v5 : Int32), rp_R E (rp_mK E rmX7_ask) mX7_ask 29 [some (.ref (E.2.2.2.1 28)), some (.int v1), some (.int v2), some (.int v3), some (.int v4), some (.int v5), none, none, none, none] [] σ rp_hI (fX7_ask_29 n σ v1 v2 v3 v4 v5) := by
  intro n
  induction n with
  | zero =>
    intro σ v1 v2 v3 v4 v5
    rw [fX7_ask_29]
    exact rp_none
  | succ n ih =>
    intro σ v1 v2 v3 v4 v5
    rw [fX7_ask_29]
    refine rp_iload (x := v5) dX7_ask_29 rfl ?_
    refine rp_aload_n (x := (E.2.2.2.1 28)) dX7_ask_31 rfl ?_
    refine rp_getR (k := 0) (b := 29) sh28 rfl fdX7_7 dX7_ask_32 ?_
    refine rp_bipush dX7_ask_35 (by decide) ?_
    refine rp_iaload sh29 dX7_ask_37 (fun x4 => ?_)
    refine rp_icmp_ge (tgt := 188) dX7_ask_38 (by decide) ?_ ?_
    · refine rp_iload (x := v4) dX7_ask_188 rfl ?_
      refine rp_bipush dX7_ask_190 (by decide) ?_
      refine rp_icmp_eq (tgt := 199) dX7_ask_192 (by decide) ?_ ?_
      · refine rp_iload (x := v4) dX7_ask_199 rfl ?_
        refine rp_goto (tgt := 205) dX7_ask_201 (by decide) ?_
        exact rp_iret rfl rfl dX7_ask_205
      · refine rp_iload_n (x := v1) dX7_ask_195 rfl ?_
        refine rp_if_ne (tgt := 204) dX7_ask_196 (by decide) ?_ ?_
        · refine rp_iload_n (x := v3) dX7_ask_204 rfl ?_
          exact rp_iret rfl rfl dX7_ask_205
        · refine rp_iload (x := v4) dX7_ask_199 rfl ?_
          refine rp_goto (tgt := 205) dX7_ask_201 (by decide) ?_
          exact rp_iret rfl rfl dX7_ask_205
    · refine rp_iconst dX7_ask_41 ?_
      refine rp_istore dX7_ask_42 (by decide) rfl ?_
      refine rp_iconst dX7_ask_44 ?_
      refine rp_istore dX7_ask_45 (by decide) rfl ?_
      refine rp_mask [true, true, true, true, true, true, true, true, false, false] (vs2 := [some (.ref (E.2.2.2.1 28)), some (.int v1), some (.int v2), some (.int v3), some (.int v4), some (.int v5), some (.int (rI 0)), some (.int (rI 0)), none, none]) rfl rfl ?_
      exact rX7_ask_47 (fun σ v1 v2 v3 v4 v5 => fX7_ask_29 n σ v1 v2 v3 v4 v5) (fun σ v1 v2 v3 v4 v5 => ih σ v1 v2 v3 v4 v5) 1000 σ v1 v2 v3 v4 v5 (rI 0) (rI 0)
def fX7_ask (σ : rp_S) (v1 : Int32) : Option (Int32 × rp_S) :=
  ((fX7_in (v1.toInt64) (rJ 0) (rJ 1)).bind fun x1 =>
    (if x1 = 0 then
    (some ((rI (-1)), σ))
  else
    ((fX7_windsNow σ).bind fun p2 =>
    ((fX7_bitsOf (p2.1)).bind fun x3 =>
    (fX7_ask_29 1000 p2.2 v1 (p2.1) x3 (rI (-4)) (rI 0))))))
set_option maxRecDepth 100000 in
theorem rX7_ask {E : rp_E} (σ : rp_S) (v1 : Int32)   : rp_R E (rp_mK E rmX7_ask) mX7_ask 0 [some (.ref (E.2.2.2.1 28)), some (.int v1), none, none, none, none, none, none, none, none] [] σ rp_hI (fX7_ask σ v1) := by
  rw [fX7_ask]
  refine rp_iload_n (x := v1) dX7_ask_0 rfl ?_
  refine rp_i2l dX7_ask_1 ?_
  refine rp_lconst dX7_ask_2 0 (by decide) ?_
  refine rp_lconst dX7_ask_3 1 (by decide) ?_
  refine rp_callS_hi (As := [.long (v1.toInt64), .long (rJ 0), .long (rJ 1)]) (rest := []) (rX7_in σ (v1.toInt64) (rJ 0) (rJ 1)) cbX7_in lkX7_49 stX7_in rfl (Nat.le_of_ble_eq_true rfl) ⟨rfl, rfl, ⟨Nat.le_of_ble_eq_true rfl, Nat.le_of_ble_eq_true rfl⟩, Nat.zero_le _, Nat.zero_le _⟩ rfl (Nat.le_of_ble_eq_true rfl) dX7_ask_4 (fun x1 hx1 => ?_)
  refine rp_if_ne (tgt := 12) dX7_ask_7 (by decide) ?_ ?_
  · refine rp_aload_n (x := (E.2.2.2.1 28)) dX7_ask_12 rfl ?_
    refine rp_callV_hI (As := []) (rest := []) (b := (E.2.2.2.1 28)) (rX7_windsNow σ) cbX7_windsNow lkX7_231 viX7_windsNow (rp_rcO sh28 rfl) rfl (Nat.le_of_ble_eq_true rfl) ⟨rfl, rfl, ⟨Nat.le_of_ble_eq_true rfl, Nat.le_of_ble_eq_true rfl⟩, Nat.zero_le _, Nat.zero_le _⟩ rfl (Nat.le_of_ble_eq_true rfl) dX7_ask_13 (fun p2 hp2 => ?_)
    refine rp_istore_n dX7_ask_16 (by decide) rfl ?_
    refine rp_iload_n (x := p2.1) dX7_ask_17 rfl ?_
    refine rp_callS_hi (As := [.int p2.1]) (rest := []) (rX7_bitsOf p2.2 (p2.1)) cbX7_bitsOf lkX7_213 stX7_bitsOf rfl (Nat.le_of_ble_eq_true rfl) ⟨rfl, rfl, ⟨Nat.le_of_ble_eq_true rfl, Nat.le_of_ble_eq_true rfl⟩, Nat.zero_le _, Nat.zero_le _⟩ rfl (Nat.le_of_ble_eq_true rfl) dX7_ask_18 (fun x3 hx3 => ?_)
    refine rp_istore_n dX7_ask_21 (by decide) rfl ?_
    refine rp_bipush dX7_ask_22 (by decide) ?_
    refine rp_istore dX7_ask_24 (by decide) rfl ?_
    refine rp_iconst dX7_ask_26 ?_
    refine rp_istore dX7_ask_27 (by decide) rfl ?_
    refine rp_mask [true, true, true, true, true, true, false, false, false, false] (vs2 := [some (.ref (E.2.2.2.1 28)), some (.int v1), some (.int p2.1), some (.int x3), some (.int (rI (-4))), some (.int (rI 0)), none, none, none, none]) rfl rfl ?_
    exact rX7_ask_29 1000 p2.2 v1 (p2.1) x3 (rI (-4)) (rI 0)
  · refine rp_iconst dX7_ask_10 ?_
    exact rp_iret rfl rfl dX7_ask_11
/-! RocketPrint.drift(III)I -/
abbrev rmX6_drift : Room := { frames := 6, cells := 0, slots := 0, locals := 138 }
def fX6_drift_133 (k41 : rp_S → Int32 → Int32 → Int32 → Int32 → Int32 → Option (Int32 × rp_S)) (σ : rp_S) (v2 : Int32) (v3 : Int32) (v4 : Int32) (v6 : Int32) (s0 : Int32) (s1 : Int32) : Option (Int32 × rp_S) :=
  (k41 σ v2 v3 v4 (s1 + s0) (v6 + (rI 1)))
set_option maxRecDepth 100000 in
theorem rX6_drift_133 {E : rp_E} (k41 : rp_S → Int32 → Int32 → Int32 → Int32 → Int32 → Option (Int32 × rp_S)) (hk41 : ∀ (σ : rp_S) (v2 : Int32) (v3 : Int32) (v4 : Int32) (v5 : Int32) (v6 : Int32), rp_R E (rp_mK E rmX6_drift) mX6_drift 41 [some (.ref (E.2.2.2.1 0)), none, some (.int v2), some (.int v3), some (.int v4), some (.int v5), some (.int v6), none] [] σ rp_hI (k41 σ v2 v3 v4 v5 v6)) (σ : rp_S) (v2 : Int32) (v3 : Int32) (v4 : Int32) (v6 : Int32) (s0 : Int32) (s1 : Int32) : rp_R E (rp_mK E rmX6_drift) mX6_drift 133 [some (.ref (E.2.2.2.1 0)), none, some (.int v2), some (.int v3), some (.int v4), none, some (.int v6), none] [.int s0, .int s1] σ rp_hI (fX6_drift_133 k41 σ v2 v3 v4 v6 s0 s1) := by
  rw [fX6_drift_133]
  refine rp_iadd dX6_drift_133 ?_
  refine rp_istore dX6_drift_134 (by decide) rfl ?_
  refine rp_iinc (x := v6) dX6_drift_136 rfl (by decide) rfl ?_
  refine rp_goto (tgt := 41) dX6_drift_139 (by decide) ?_
  refine rp_mask [true, false, true, true, true, true, true, false] (vs2 := [some (.ref (E.2.2.2.1 0)), none, some (.int v2), some (.int v3), some (.int v4), some (.int (s1 + s0)), some (.int (v6 + (rI 1))), none]) rfl rfl ?_
  exact hk41 σ v2 v3 v4 (s1 + s0) (v6 + (rI 1))
def fX6_drift_41  : Nat → rp_S → Int32 → Int32 → Int32 → Int32 → Int32 → Option (Int32 × rp_S)
  | 0, _, _, _, _, _, _ => none
  | n + 1, σ, v2, v3, v4, v5, v6 =>
    (if v2 ≤ v6 then
    (some (v5, σ))
  else
    ((some (rp_up σ 5 4 (((((v4 * (rI 1103515245)) + (rI 12345)) >>> ((rI 16) &&& 31)) &&& (rI 32767)) - ((((v4 * (rI 1103515245)) + (rI 12345)) >>> ((rI 16) &&& 31)) &&& (rI 32767)) / (rI 9) * (rI 9)))).bind fun σ4 =>
    ((some (rp_up σ4 5 5 ((((((v4 * (rI 1103515245)) + (rI 12345)) >>> ((rI 16) &&& 31)) &&& (rI 32767)) / (rI 16)) - (((((v4 * (rI 1103515245)) + (rI 12345)) >>> ((rI 16) &&& 31)) &&& (rI 32767)) / (rI 16)) / (rI 10) * (rI 10)))).bind fun σ5 =>
    ((fX3_settle σ5).bind fun σ6 =>
    (if v3 = 0 then
    ((fX3_wholesOfAll σ6).bind fun x8 =>
    (fX6_drift_133 (fun σ v2 v3 v4 v5 v6 => fX6_drift_41 n σ v2 v3 v4 v5 v6) σ6 v2 v3 ((v4 * (rI 1103515245)) + (rI 12345)) v6 x8 v5))
  else
    ((fX3_minutesOfAll σ6).bind fun x7 =>
    (fX6_drift_133 (fun σ v2 v3 v4 v5 v6 => fX6_drift_41 n σ v2 v3 v4 v5 v6) σ6 v2 v3 ((v4 * (rI 1103515245)) + (rI 12345)) v6 x7 v5)))))))
set_option maxRecDepth 100000 in
theorem rX6_drift_41 {E : rp_E}  : ∀ (n : Nat) (σ : rp_S) (v2 : Int32) (v3 : Int32) (v4 : Int32) (v5 : Int32) (v6 : Int32), rp_R E (rp_mK E rmX6_drift) mX6_drift 41 [some (.ref (E.2.2.2.1 0)), none, some (.int v2), some (.int v3), some (.int v4), some (.int v5), some (.int v6), none] [] σ rp_hI (fX6_drift_41 n σ v2 v3 v4 v5 v6) := by
  intro n
  induction n with
  | zero =>
    intro σ v2 v3 v4 v5 v6
    rw [fX6_drift_41]
    exact rp_none
  | succ n ih =>
    intro σ v2 v3 v4 v5 v6
    rw [fX6_drift_41]
    refine rp_iload (x := v6) dX6_drift_41 rfl ?_
    refine rp_iload_n (x := v2) dX6_drift_43 rfl ?_
    refine rp_icmp_ge (tgt := 142) dX6_drift_44 (by decide) ?_ ?_
    · refine rp_iload (x := v5) dX6_drift_142 rfl ?_
      exact rp_iret rfl rfl dX6_drift_144
    · refine rp_iload (x := v4) dX6_drift_47 rfl ?_
      refine rp_ldcw (v := (rI 1103515245)) ciX6_276 dX6_drift_49 ?_
      refine rp_imul dX6_drift_52 ?_
      refine rp_sipush dX6_drift_53 (by decide) ?_
      refine rp_iadd dX6_drift_56 ?_
      refine rp_istore dX6_drift_57 (by decide) rfl ?_
      refine rp_iload (x := ((v4 * (rI 1103515245)) + (rI 12345))) dX6_drift_59 rfl ?_
      refine rp_bipush dX6_drift_61 (by decide) ?_
      refine rp_ishr dX6_drift_63 ?_
      refine rp_sipush dX6_drift_64 (by decide) ?_
      refine rp_iand dX6_drift_67 ?_
      refine rp_istore dX6_drift_68 (by decide) rfl ?_
      refine rp_aload_n (x := (E.2.2.2.1 0)) dX6_drift_70 rfl ?_
      refine rp_getR (k := 1) (b := 4) sh0 rfl fdX6_19 dX6_drift_71 ?_
      refine rp_getR (k := 0) (b := 5) sh4 rfl fdX6_69 dX6_drift_74 ?_
      refine rp_iload (x := ((((v4 * (rI 1103515245)) + (rI 12345)) >>> ((rI 16) &&& 31)) &&& (rI 32767))) dX6_drift_77 rfl ?_
      refine rp_bipush dX6_drift_79 (by decide) ?_
      refine rp_irem0 dX6_drift_81 (by decide) ?_
      refine rp_putB (k := 4) sh5 rfl fpX6_98 (vp_nar_int _) rfl dX6_drift_82 (fun σ4 => ?_)
      refine rp_aload_n (x := (E.2.2.2.1 0)) dX6_drift_85 rfl ?_
      refine rp_getR (k := 1) (b := 4) sh0 rfl fdX6_19 dX6_drift_86 ?_
      refine rp_getR (k := 0) (b := 5) sh4 rfl fdX6_69 dX6_drift_89 ?_
      refine rp_iload (x := ((((v4 * (rI 1103515245)) + (rI 12345)) >>> ((rI 16) &&& 31)) &&& (rI 32767))) dX6_drift_92 rfl ?_
      refine rp_bipush dX6_drift_94 (by decide) ?_
      refine rp_idiv0 dX6_drift_96 (by decide) ?_
      refine rp_bipush dX6_drift_97 (by decide) ?_
      refine rp_irem0 dX6_drift_99 (by decide) ?_
      refine rp_putB (k := 5) sh5 rfl fpX6_101 (vp_nar_int _) rfl dX6_drift_100 (fun σ5 => ?_)
      refine rp_aload_n (x := (E.2.2.2.1 0)) dX6_drift_103 rfl ?_
      refine rp_getR (k := 1) (b := 4) sh0 rfl fdX6_19 dX6_drift_104 ?_
      refine rp_callV_hv (As := []) (rest := []) (b := (E.2.2.2.1 4)) (rX3_settle σ5) cbX3_settle lkX6_201 viX3_settle (rp_rcO sh4 rfl) rfl (Nat.le_of_ble_eq_true rfl) ⟨rfl, rfl, ⟨Nat.le_of_ble_eq_true rfl, Nat.le_of_ble_eq_true rfl⟩, Nat.zero_le _, Nat.zero_le _⟩ rfl (Nat.le_of_ble_eq_true rfl) dX6_drift_107 (fun σ6 hσ6 => ?_)
      refine rp_iload (x := v5) dX6_drift_110 rfl ?_
      refine rp_iload_n (x := v3) dX6_drift_112 rfl ?_
      refine rp_if_ne (tgt := 126) dX6_drift_113 (by decide) ?_ ?_
      · refine rp_aload_n (x := (E.2.2.2.1 0)) dX6_drift_126 rfl ?_
        refine rp_getR (k := 1) (b := 4) sh0 rfl fdX6_19 dX6_drift_127 ?_
        refine rp_callV_hi (As := []) (rest := [.int v5]) (b := (E.2.2.2.1 4)) (rX3_minutesOfAll σ6) cbX3_minutesOfAll lkX6_107 viX3_minutesOfAll (rp_rcO sh4 rfl) rfl (Nat.le_of_ble_eq_true rfl) ⟨rfl, rfl, ⟨Nat.le_of_ble_eq_true rfl, Nat.le_of_ble_eq_true rfl⟩, Nat.zero_le _, Nat.zero_le _⟩ rfl (Nat.le_of_ble_eq_true rfl) dX6_drift_130 (fun x7 hx7 => ?_)
        refine rp_mask [true, false, true, true, true, false, true, false] (vs2 := [some (.ref (E.2.2.2.1 0)), none, some (.int v2), some (.int v3), some (.int ((v4 * (rI 1103515245)) + (rI 12345))), none, some (.int v6), none]) rfl rfl ?_
        exact rX6_drift_133 (fun σ v2 v3 v4 v5 v6 => fX6_drift_41 n σ v2 v3 v4 v5 v6) (fun σ v2 v3 v4 v5 v6 => ih σ v2 v3 v4 v5 v6) σ6 v2 v3 ((v4 * (rI 1103515245)) + (rI 12345)) v6 x7 v5
      · refine rp_aload_n (x := (E.2.2.2.1 0)) dX6_drift_116 rfl ?_
        refine rp_getR (k := 1) (b := 4) sh0 rfl fdX6_19 dX6_drift_117 ?_
        refine rp_callV_hi (As := []) (rest := [.int v5]) (b := (E.2.2.2.1 4)) (rX3_wholesOfAll σ6) cbX3_wholesOfAll lkX6_111 viX3_wholesOfAll (rp_rcO sh4 rfl) rfl (Nat.le_of_ble_eq_true rfl) ⟨rfl, rfl, ⟨Nat.le_of_ble_eq_true rfl, Nat.le_of_ble_eq_true rfl⟩, Nat.zero_le _, Nat.zero_le _⟩ rfl (Nat.le_of_ble_eq_true rfl) dX6_drift_120 (fun x8 hx8 => ?_)
        refine rp_goto (tgt := 133) dX6_drift_123 (by decide) ?_
        refine rp_mask [true, false, true, true, true, false, true, false] (vs2 := [some (.ref (E.2.2.2.1 0)), none, some (.int v2), some (.int v3), some (.int ((v4 * (rI 1103515245)) + (rI 12345))), none, some (.int v6), none]) rfl rfl ?_
        exact rX6_drift_133 (fun σ v2 v3 v4 v5 v6 => fX6_drift_41 n σ v2 v3 v4 v5 v6) (fun σ v2 v3 v4 v5 v6 => ih σ v2 v3 v4 v5 v6) σ6 v2 v3 ((v4 * (rI 1103515245)) + (rI 12345)) v6 x8 v5
def fX6_drift (σ : rp_S) (v1 : Int32) (v2 : Int32) (v3 : Int32) : Option (Int32 × rp_S) :=
  ((fX6_within v2 (rI 1) (rI 60)).bind fun x1 =>
    (if x1 = 0 then
    (some ((rI (-1)), σ))
  else
    ((fX6_within v3 (rI 0) (rI 1)).bind fun x2 =>
    (if x2 = 0 then
    (some ((rI (-1)), σ))
  else
    ((fX3_begin σ 1).bind fun σ3 =>
    (fX6_drift_41 1000 σ3 v2 v3 v1 (rI 0) (rI 0)))))))
set_option maxRecDepth 100000 in
theorem rX6_drift {E : rp_E} (σ : rp_S) (v1 : Int32) (v2 : Int32) (v3 : Int32)   : rp_R E (rp_mK E rmX6_drift) mX6_drift 0 [some (.ref (E.2.2.2.1 0)), some (.int v1), some (.int v2), some (.int v3), none, none, none, none] [] σ rp_hI (fX6_drift σ v1 v2 v3) := by
  rw [fX6_drift]
  refine rp_iload_n (x := v2) dX6_drift_0 rfl ?_
  refine rp_iconst dX6_drift_1 ?_
  refine rp_bipush dX6_drift_2 (by decide) ?_
  refine rp_callS_hi (As := [.int v2, .int (rI 1), .int (rI 60)]) (rest := []) (rX6_within σ v2 (rI 1) (rI 60)) cbX6_within lkX6_57 stX6_within rfl (Nat.le_of_ble_eq_true rfl) ⟨rfl, rfl, ⟨Nat.le_of_ble_eq_true rfl, Nat.le_of_ble_eq_true rfl⟩, Nat.zero_le _, Nat.zero_le _⟩ rfl (Nat.le_of_ble_eq_true rfl) dX6_drift_4 (fun x1 hx1 => ?_)
  refine rp_if_eq (tgt := 19) dX6_drift_7 (by decide) ?_ ?_
  · refine rp_iconst dX6_drift_19 ?_
    exact rp_iret rfl rfl dX6_drift_20
  · refine rp_iload_n (x := v3) dX6_drift_10 rfl ?_
    refine rp_iconst dX6_drift_11 ?_
    refine rp_iconst dX6_drift_12 ?_
    refine rp_callS_hi (As := [.int v3, .int (rI 0), .int (rI 1)]) (rest := []) (rX6_within σ v3 (rI 0) (rI 1)) cbX6_within lkX6_57 stX6_within rfl (Nat.le_of_ble_eq_true rfl) ⟨rfl, rfl, ⟨Nat.le_of_ble_eq_true rfl, Nat.le_of_ble_eq_true rfl⟩, Nat.zero_le _, Nat.zero_le _⟩ rfl (Nat.le_of_ble_eq_true rfl) dX6_drift_13 (fun x2 hx2 => ?_)
    refine rp_if_ne (tgt := 21) dX6_drift_16 (by decide) ?_ ?_
    · refine rp_aload_n (x := (E.2.2.2.1 0)) dX6_drift_21 rfl ?_
      refine rp_getR (k := 1) (b := 4) sh0 rfl fdX6_19 dX6_drift_22 ?_
      refine rp_aload_n (x := (E.2.2.2.1 0)) dX6_drift_25 rfl ?_
      refine rp_getR (k := 0) (b := 1) sh0 rfl fdX6_10 dX6_drift_26 ?_
      refine rp_callV_hv (As := [.ref (E.2.2.2.1 1)]) (rest := []) (b := (E.2.2.2.1 4)) (rX3_begin σ 1 ni1) cbX3_begin lkX6_104 viX3_begin (rp_rcO sh4 rfl) rfl (Nat.le_of_ble_eq_true rfl) ⟨rfl, rfl, ⟨Nat.le_of_ble_eq_true rfl, Nat.le_of_ble_eq_true rfl⟩, Nat.zero_le _, Nat.zero_le _⟩ rfl (Nat.le_of_ble_eq_true rfl) dX6_drift_29 (fun σ3 hσ3 => ?_)
      refine rp_iload_n (x := v1) dX6_drift_32 rfl ?_
      refine rp_istore dX6_drift_33 (by decide) rfl ?_
      refine rp_iconst dX6_drift_35 ?_
      refine rp_istore dX6_drift_36 (by decide) rfl ?_
      refine rp_iconst dX6_drift_38 ?_
      refine rp_istore dX6_drift_39 (by decide) rfl ?_
      refine rp_mask [true, false, true, true, true, true, true, false] (vs2 := [some (.ref (E.2.2.2.1 0)), none, some (.int v2), some (.int v3), some (.int v1), some (.int (rI 0)), some (.int (rI 0)), none]) rfl rfl ?_
      exact rX6_drift_41 1000 σ3 v2 v3 v1 (rI 0) (rI 0)
    · refine rp_iconst dX6_drift_19 ?_
      exact rp_iret rfl rfl dX6_drift_20
/-! RocketPrintModel.drift(III)I -/
abbrev rmX7_drift : Room := { frames := 4, cells := 0, slots := 0, locals := 101 }
def fX7_drift_44  : Nat → rp_S → Int32 → Int32 → Int32 → Int32 → Int32 → Int32 → Option (Int32 × rp_S)
  | 0, _, _, _, _, _, _, _ => none
  | n + 1, σ, v2, v3, v4, v5, v6, v7 =>
    (if v2 ≤ v7 then
    (if v3 = 0 then
    (some (v5, σ))
  else
    (some (v6, σ)))
  else
    ((rq_wr σ 29 180 (rI 178) ((((((v4 * (rI 1103515245)) + (rI 12345)) >>> ((rI 16) &&& 31)) &&& (rI 32767)) - ((((v4 * (rI 1103515245)) + (rI 12345)) >>> ((rI 16) &&& 31)) &&& (rI 32767)) / (rI 9) * (rI 9)) - (rI 4))).bind fun σ4 =>
    ((rq_wr σ4 29 180 (rI 179) ((((((v4 * (rI 1103515245)) + (rI 12345)) >>> ((rI 16) &&& 31)) &&& (rI 32767)) / (rI 16)) - (((((v4 * (rI 1103515245)) + (rI 12345)) >>> ((rI 16) &&& 31)) &&& (rI 32767)) / (rI 16)) / (rI 10) * (rI 10))).bind fun σ5 =>
    ((fX7_nightOn σ5 (rI 144)).bind fun σ6 =>
    (fX7_drift_44 n σ6 v2 v3 ((v4 * (rI 1103515245)) + (rI 12345)) (v5 + (σ6 28 18)) (v6 + (σ6 28 16)) (v7 + (rI 1)))))))
set_option maxRecDepth 100000 in
theorem rX7_drift_44 {E : rp_E}  : ∀ (n : Nat) (σ : rp_S) (v2 : Int32) (v3 : Int32) (v4 : Int32) (v5 : Int32) (v6 : Int32) (v7 : Int32), rp_R E (rp_mK E rmX7_drift) mX7_drift 44 [some (.ref (E.2.2.2.1 28)), none, some (.int v2), some (.int v3), some (.int v4), some (.int v5), some (.int v6), some (.int v7), none] [] σ rp_hI (fX7_drift_44 n σ v2 v3 v4 v5 v6 v7) := by
  intro n
  induction n with
  | zero =>
    intro σ v2 v3 v4 v5 v6 v7
    rw [fX7_drift_44]
    exact rp_none
  | succ n ih =>
    intro σ v2 v3 v4 v5 v6 v7
    rw [fX7_drift_44]
    refine rp_iload (x := v7) dX7_drift_44 rfl ?_
    refine rp_iload_n (x := v2) dX7_drift_46 rfl ?_
    refine rp_icmp_ge (tgt := 134) dX7_drift_47 (by decide) ?_ ?_
    · refine rp_iload_n (x := v3) dX7_drift_134 rfl ?_
      refine rp_if_ne (tgt := 143) dX7_drift_135 (by decide) ?_ ?_
      · refine rp_iload (x := v6) dX7_drift_143 rfl ?_
        exact rp_iret rfl rfl dX7_drift_145
      · refine rp_iload (x := v5) dX7_drift_138 rfl ?_
        refine rp_goto (tgt := 145) dX7_drift_140 (by decide) ?_
        exact rp_iret rfl rfl dX7_drift_145
    · refine rp_iload (x := v4) dX7_drift_50 rfl ?_
      refine rp_ldc (v := (rI 1103515245)) ciX7_236 dX7_drift_52 ?_
      refine rp_imul dX7_drift_54 ?_
      refine rp_sipush dX7_drift_55 (by decide) ?_
      refine rp_iadd dX7_drift_58 ?_
      refine rp_istore dX7_drift_59 (by decide) rfl ?_
      refine rp_iload (x := ((v4 * (rI 1103515245)) + (rI 12345))) dX7_drift_61 rfl ?_
      refine rp_bipush dX7_drift_63 (by decide) ?_
      refine rp_ishr dX7_drift_65 ?_
      refine rp_sipush dX7_drift_66 (by decide) ?_
      refine rp_iand dX7_drift_69 ?_
      refine rp_istore dX7_drift_70 (by decide) rfl ?_
      refine rp_aload_n (x := (E.2.2.2.1 28)) dX7_drift_72 rfl ?_
      refine rp_getR (k := 0) (b := 29) sh28 rfl fdX7_7 dX7_drift_73 ?_
      refine rp_sipush dX7_drift_76 (by decide) ?_
      refine rp_iload (x := ((((v4 * (rI 1103515245)) + (rI 12345)) >>> ((rI 16) &&& 31)) &&& (rI 32767))) dX7_drift_79 rfl ?_
      refine rp_bipush dX7_drift_81 (by decide) ?_
      refine rp_irem0 dX7_drift_83 (by decide) ?_
      refine rp_iconst dX7_drift_84 ?_
      refine rp_isub dX7_drift_85 ?_
      refine rp_iastore sh29 dX7_drift_86 (fun σ4 => ?_)
      refine rp_aload_n (x := (E.2.2.2.1 28)) dX7_drift_87 rfl ?_
      refine rp_getR (k := 0) (b := 29) sh28 rfl fdX7_7 dX7_drift_88 ?_
      refine rp_sipush dX7_drift_91 (by decide) ?_
      refine rp_iload (x := ((((v4 * (rI 1103515245)) + (rI 12345)) >>> ((rI 16) &&& 31)) &&& (rI 32767))) dX7_drift_94 rfl ?_
      refine rp_bipush dX7_drift_96 (by decide) ?_
      refine rp_idiv0 dX7_drift_98 (by decide) ?_
      refine rp_bipush dX7_drift_99 (by decide) ?_
      refine rp_irem0 dX7_drift_101 (by decide) ?_
      refine rp_iastore sh29 dX7_drift_102 (fun σ5 => ?_)
      refine rp_aload_n (x := (E.2.2.2.1 28)) dX7_drift_103 rfl ?_
      refine rp_sipush dX7_drift_104 (by decide) ?_
      refine rp_callV_hv (As := [.int (rI 144)]) (rest := []) (b := (E.2.2.2.1 28)) (rX7_nightOn σ5 (rI 144)) cbX7_nightOn lkX7_165 viX7_nightOn (rp_rcO sh28 rfl) rfl (Nat.le_of_ble_eq_true rfl) ⟨rfl, rfl, ⟨Nat.le_of_ble_eq_true rfl, Nat.le_of_ble_eq_true rfl⟩, Nat.zero_le _, Nat.zero_le _⟩ rfl (Nat.le_of_ble_eq_true rfl) dX7_drift_107 (fun σ6 hσ6 => ?_)
      refine rp_iload (x := v5) dX7_drift_110 rfl ?_
      refine rp_aload_n (x := (E.2.2.2.1 28)) dX7_drift_112 rfl ?_
      refine rp_getI (k := 18) sh28 rfl fdX7_155 dX7_drift_113 ?_
      refine rp_iadd dX7_drift_116 ?_
      refine rp_istore dX7_drift_117 (by decide) rfl ?_
      refine rp_iload (x := v6) dX7_drift_119 rfl ?_
      refine rp_aload_n (x := (E.2.2.2.1 28)) dX7_drift_121 rfl ?_
      refine rp_getI (k := 16) sh28 rfl fdX7_149 dX7_drift_122 ?_
      refine rp_iadd dX7_drift_125 ?_
      refine rp_istore dX7_drift_126 (by decide) rfl ?_
      refine rp_iinc (x := v7) dX7_drift_128 rfl (by decide) rfl ?_
      refine rp_goto (tgt := 44) dX7_drift_131 (by decide) ?_
      refine rp_mask [true, false, true, true, true, true, true, true, false] (vs2 := [some (.ref (E.2.2.2.1 28)), none, some (.int v2), some (.int v3), some (.int ((v4 * (rI 1103515245)) + (rI 12345))), some (.int (v5 + (σ6 28 18))), some (.int (v6 + (σ6 28 16))), some (.int (v7 + (rI 1))), none]) rfl rfl ?_
      exact ih σ6 v2 v3 ((v4 * (rI 1103515245)) + (rI 12345)) (v5 + (σ6 28 18)) (v6 + (σ6 28 16)) (v7 + (rI 1))
def fX7_drift (σ : rp_S) (v1 : Int32) (v2 : Int32) (v3 : Int32) : Option (Int32 × rp_S) :=
  ((fX7_in (v2.toInt64) (rJ 1) (rJ 60)).bind fun x1 =>
    (if x1 = 0 then
    (some ((rI (-1)), σ))
  else
    ((fX7_in (v3.toInt64) (rJ 0) (rJ 1)).bind fun x2 =>
    (if x2 = 0 then
    (some ((rI (-1)), σ))
  else
    ((fX7_copies σ (rI 0) (rI 144)).bind fun σ3 =>
    (fX7_drift_44 1000 σ3 v2 v3 v1 (rI 0) (rI 0) (rI 0)))))))
set_option maxRecDepth 100000 in
theorem rX7_drift {E : rp_E} (σ : rp_S) (v1 : Int32) (v2 : Int32) (v3 : Int32)   : rp_R E (rp_mK E rmX7_drift) mX7_drift 0 [some (.ref (E.2.2.2.1 28)), some (.int v1), some (.int v2), some (.int v3), none, none, none, none, none] [] σ rp_hI (fX7_drift σ v1 v2 v3) := by
  rw [fX7_drift]
  refine rp_iload_n (x := v2) dX7_drift_0 rfl ?_
  refine rp_i2l dX7_drift_1 ?_
  refine rp_lconst dX7_drift_2 1 (by decide) ?_
  refine rp_ldc2 (v := (rJ 60)) clX7_234 dX7_drift_3 ?_
  refine rp_callS_hi (As := [.long (v2.toInt64), .long (rJ 1), .long (rJ 60)]) (rest := []) (rX7_in σ (v2.toInt64) (rJ 1) (rJ 60)) cbX7_in lkX7_49 stX7_in rfl (Nat.le_of_ble_eq_true rfl) ⟨rfl, rfl, ⟨Nat.le_of_ble_eq_true rfl, Nat.le_of_ble_eq_true rfl⟩, Nat.zero_le _, Nat.zero_le _⟩ rfl (Nat.le_of_ble_eq_true rfl) dX7_drift_6 (fun x1 hx1 => ?_)
  refine rp_if_eq (tgt := 22) dX7_drift_9 (by decide) ?_ ?_
  · refine rp_iconst dX7_drift_22 ?_
    exact rp_iret rfl rfl dX7_drift_23
  · refine rp_iload_n (x := v3) dX7_drift_12 rfl ?_
    refine rp_i2l dX7_drift_13 ?_
    refine rp_lconst dX7_drift_14 0 (by decide) ?_
    refine rp_lconst dX7_drift_15 1 (by decide) ?_
    refine rp_callS_hi (As := [.long (v3.toInt64), .long (rJ 0), .long (rJ 1)]) (rest := []) (rX7_in σ (v3.toInt64) (rJ 0) (rJ 1)) cbX7_in lkX7_49 stX7_in rfl (Nat.le_of_ble_eq_true rfl) ⟨rfl, rfl, ⟨Nat.le_of_ble_eq_true rfl, Nat.le_of_ble_eq_true rfl⟩, Nat.zero_le _, Nat.zero_le _⟩ rfl (Nat.le_of_ble_eq_true rfl) dX7_drift_16 (fun x2 hx2 => ?_)
    refine rp_if_ne (tgt := 24) dX7_drift_19 (by decide) ?_ ?_
    · refine rp_aload_n (x := (E.2.2.2.1 28)) dX7_drift_24 rfl ?_
      refine rp_iconst dX7_drift_25 ?_
      refine rp_sipush dX7_drift_26 (by decide) ?_
      refine rp_callV_hv (As := [.int (rI 0), .int (rI 144)]) (rest := []) (b := (E.2.2.2.1 28)) (rX7_copies σ (rI 0) (rI 144)) cbX7_copies lkX7_209 viX7_copies (rp_rcO sh28 rfl) rfl (Nat.le_of_ble_eq_true rfl) ⟨rfl, rfl, ⟨Nat.le_of_ble_eq_true rfl, Nat.le_of_ble_eq_true rfl⟩, Nat.zero_le _, Nat.zero_le _⟩ rfl (Nat.le_of_ble_eq_true rfl) dX7_drift_29 (fun σ3 hσ3 => ?_)
      refine rp_iload_n (x := v1) dX7_drift_32 rfl ?_
      refine rp_istore dX7_drift_33 (by decide) rfl ?_
      refine rp_iconst dX7_drift_35 ?_
      refine rp_istore dX7_drift_36 (by decide) rfl ?_
      refine rp_iconst dX7_drift_38 ?_
      refine rp_istore dX7_drift_39 (by decide) rfl ?_
      refine rp_iconst dX7_drift_41 ?_
      refine rp_istore dX7_drift_42 (by decide) rfl ?_
      refine rp_mask [true, false, true, true, true, true, true, true, false] (vs2 := [some (.ref (E.2.2.2.1 28)), none, some (.int v2), some (.int v3), some (.int v1), some (.int (rI 0)), some (.int (rI 0)), some (.int (rI 0)), none]) rfl rfl ?_
      exact rX7_drift_44 1000 σ3 v2 v3 v1 (rI 0) (rI 0) (rI 0)
    · refine rp_iconst dX7_drift_22 ?_
      exact rp_iret rfl rfl dX7_drift_23
/-! RocketPrint.imageOf(I)LRocketPrint$Night; -/
abbrev rmX6_imageOf : Room := { frames := 0, cells := 0, slots := 0, locals := 0 }
def fX6_imageOf (σ : rp_S) (v1 : Int32) : Option (Nat) :=
  (if v1 = 0 then
    (some 22)
  else
    (some 25))
set_option maxRecDepth 100000 in
theorem rX6_imageOf {E : rp_E} (σ : rp_S) (v1 : Int32)   : rp_R E (rp_mK E rmX6_imageOf) mX6_imageOf 0 [some (.ref (E.2.2.2.1 0)), some (.int v1)] [] σ (rp_hr E σ) (fX6_imageOf σ v1) := by
  rw [fX6_imageOf]
  refine rp_iload_n (x := v1) dX6_imageOf_0 rfl ?_
  refine rp_if_ne (tgt := 11) dX6_imageOf_1 (by decide) ?_ ?_
  · refine rp_aload_n (x := (E.2.2.2.1 0)) dX6_imageOf_11 rfl ?_
    refine rp_getR (k := 7) (b := 25) sh0 rfl fdX6_54 dX6_imageOf_12 ?_
    exact rp_aret rfl rfl dX6_imageOf_15
  · refine rp_aload_n (x := (E.2.2.2.1 0)) dX6_imageOf_4 rfl ?_
    refine rp_getR (k := 6) (b := 22) sh0 rfl fdX6_51 dX6_imageOf_5 ?_
    refine rp_goto (tgt := 15) dX6_imageOf_8 (by decide) ?_
    exact rp_aret rfl rfl dX6_imageOf_15
set_option maxRecDepth 100000 in
theorem ni_image {σ : rp_S} {v1 : Int32} {b : Nat} (h : fX6_imageOf σ v1 = some b) : rp_Ni b := by
  rw [fX6_imageOf] at h
  split at h <;> cases h
  all_goals first | exact ni22 | exact ni25
