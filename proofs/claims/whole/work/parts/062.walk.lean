/-! RocketPrint.fault()I -/
abbrev rmX6_fault : Room := { frames := 0, cells := 0, slots := 0, locals := 0 }
def fX6_fault (σ : rp_S)  : Option (Int32) :=
  (some (σ 13 2))
set_option maxRecDepth 100000 in
theorem rX6_fault {E : rp_E} (σ : rp_S)    : rp_R E (rp_mK E rmX6_fault) mX6_fault 0 [some (.ref (E.2.2.2.1 0))] [] σ (rp_hi σ) (fX6_fault σ) := by
  rw [fX6_fault]
  refine rp_aload_n (x := (E.2.2.2.1 0)) dX6_fault_0 rfl ?_
  refine rp_getR (k := 3) (b := 13) sh0 rfl fdX6_33 dX6_fault_1 ?_
  refine rp_getI (k := 2) sh13 rfl fdX6_76 dX6_fault_4 ?_
  exact rp_iret rfl rfl dX6_fault_7
/-! RocketPrintModel.fault()I -/
abbrev rmX7_fault : Room := { frames := 0, cells := 0, slots := 0, locals := 0 }
def fX7_fault (σ : rp_S)  : Option (Int32) :=
  (some (σ 28 5))
set_option maxRecDepth 100000 in
theorem rX7_fault {E : rp_E} (σ : rp_S)    : rp_R E (rp_mK E rmX7_fault) mX7_fault 0 [some (.ref (E.2.2.2.1 28))] [] σ (rp_hi σ) (fX7_fault σ) := by
  rw [fX7_fault]
  refine rp_aload_n (x := (E.2.2.2.1 28)) dX7_fault_0 rfl ?_
  refine rp_getI (k := 5) sh28 rfl fdX7_113 dX7_fault_1 ?_
  exact rp_iret rfl rfl dX7_fault_4
/-! RocketPrint$Night.ofWork(II)I -/
abbrev rmX1_ofWork : Room := { frames := 0, cells := 0, slots := 0, locals := 0 }
def fX1_ofWork (σ : rp_S) (a0 : Nat) (v1 : Int32) (v2 : Int32) : Option (Int32) :=
  ((rq_rd σ (a0 + 1) 24 ((v1 * (rI 4)) + v2)).bind fun x1 =>
    (some x1))
set_option maxRecDepth 100000 in
theorem rX1_ofWork {E : rp_E} (σ : rp_S) (a0 : Nat) (v1 : Int32) (v2 : Int32) (ha0 : rp_Ni a0)  : rp_R E (rp_mK E rmX1_ofWork) mX1_ofWork 0 [some (.ref (E.2.2.2.1 a0)), some (.int v1), some (.int v2)] [] σ (rp_hi σ) (fX1_ofWork σ a0 v1 v2) := by
  rw [fX1_ofWork]
  refine rp_aload_n (x := (E.2.2.2.1 a0)) dX1_ofWork_0 rfl ?_
  refine rp_getR (k := 0) (b := (a0 + 1)) ha0.1 rfl fdX1_9 dX1_ofWork_1 ?_
  refine rp_iload_n (x := v1) dX1_ofWork_4 rfl ?_
  refine rp_iconst dX1_ofWork_5 ?_
  refine rp_imul dX1_ofWork_6 ?_
  refine rp_iload_n (x := v2) dX1_ofWork_7 rfl ?_
  refine rp_iadd dX1_ofWork_8 ?_
  refine rp_iaload ha0.2.1 dX1_ofWork_9 (fun x1 => ?_)
  exact rp_iret rfl rfl dX1_ofWork_10
/-! RocketPrint$Night.goesUp(I)Z -/
abbrev rmX1_goesUp : Room := { frames := 1, cells := 0, slots := 0, locals := 22 }
def fX1_goesUp (σ : rp_S) (a0 : Nat) (v1 : Int32) : Option (Int32) :=
  ((fX1_ofWork σ a0 v1 (rI 3)).bind fun x1 =>
    (if x1 ≤ (σ a0 5) then
    (some (rI 0))
  else
    (some (rI 1))))
set_option maxRecDepth 100000 in
theorem rX1_goesUp {E : rp_E} (σ : rp_S) (a0 : Nat) (v1 : Int32) (ha0 : rp_Ni a0)  : rp_R E (rp_mK E rmX1_goesUp) mX1_goesUp 0 [some (.ref (E.2.2.2.1 a0)), some (.int v1)] [] σ (rp_hi σ) (fX1_goesUp σ a0 v1) := by
  rw [fX1_goesUp]
  refine rp_aload_n (x := (E.2.2.2.1 a0)) dX1_goesUp_0 rfl ?_
  refine rp_iload_n (x := v1) dX1_goesUp_1 rfl ?_
  refine rp_iconst dX1_goesUp_2 ?_
  refine rp_callV_hi (As := [.int v1, .int (rI 3)]) (rest := []) (b := (E.2.2.2.1 a0)) (rX1_ofWork σ a0 v1 (rI 3) ha0) cbX1_ofWork lkX1_55 viX1_ofWork (rp_rcO ha0.1 rfl) rfl (Nat.le_of_ble_eq_true rfl) ⟨rfl, rfl, ⟨Nat.le_of_ble_eq_true rfl, Nat.le_of_ble_eq_true rfl⟩, Nat.zero_le _, Nat.zero_le _⟩ rfl (Nat.le_of_ble_eq_true rfl) dX1_goesUp_3 (fun x1 hx1 => ?_)
  refine rp_aload_n (x := (E.2.2.2.1 a0)) dX1_goesUp_6 rfl ?_
  refine rp_getI (k := 5) ha0.1 rfl fdX1_28 dX1_goesUp_7 ?_
  refine rp_icmp_le (tgt := 17) dX1_goesUp_10 (by decide) ?_ ?_
  · refine rp_iconst dX1_goesUp_17 ?_
    exact rp_zret (x' := (rI 0)) rfl (by decide) rfl dX1_goesUp_18
  · refine rp_iconst dX1_goesUp_13 ?_
    refine rp_goto (tgt := 18) dX1_goesUp_14 (by decide) ?_
    exact rp_zret (x' := (rI 1)) rfl (by decide) rfl dX1_goesUp_18
/-! RocketPrint$Night.lastsOf(I)I -/
abbrev rmX1_lastsOf : Room := { frames := 1, cells := 0, slots := 0, locals := 22 }
def fX1_lastsOf (σ : rp_S) (a0 : Nat) (v1 : Int32) : Option (Int32) :=
  ((fX1_ofWork σ a0 v1 (rI 3)).bind fun x1 =>
    ((fX1_ofWork σ a0 v1 (rI 0)).bind fun x2 =>
    (if x2 = (rI 0) then
    (some x1)
  else
    (if x2 = (rI 1) then
    (some ((rI 2) * x1))
  else
    (if x2 = (rI 2) then
    (some ((x1 / (rI 2)) + (rI 1)))
  else
    (some (x1 / (rI 2))))))))
set_option maxRecDepth 100000 in
theorem rX1_lastsOf {E : rp_E} (σ : rp_S) (a0 : Nat) (v1 : Int32) (ha0 : rp_Ni a0)  : rp_R E (rp_mK E rmX1_lastsOf) mX1_lastsOf 0 [some (.ref (E.2.2.2.1 a0)), some (.int v1), none] [] σ (rp_hi σ) (fX1_lastsOf σ a0 v1) := by
  rw [fX1_lastsOf]
  refine rp_aload_n (x := (E.2.2.2.1 a0)) dX1_lastsOf_0 rfl ?_
  refine rp_iload_n (x := v1) dX1_lastsOf_1 rfl ?_
  refine rp_iconst dX1_lastsOf_2 ?_
  refine rp_callV_hi (As := [.int v1, .int (rI 3)]) (rest := []) (b := (E.2.2.2.1 a0)) (rX1_ofWork σ a0 v1 (rI 3) ha0) cbX1_ofWork lkX1_55 viX1_ofWork (rp_rcO ha0.1 rfl) rfl (Nat.le_of_ble_eq_true rfl) ⟨rfl, rfl, ⟨Nat.le_of_ble_eq_true rfl, Nat.le_of_ble_eq_true rfl⟩, Nat.zero_le _, Nat.zero_le _⟩ rfl (Nat.le_of_ble_eq_true rfl) dX1_lastsOf_3 (fun x1 hx1 => ?_)
  refine rp_istore_n dX1_lastsOf_6 (by decide) rfl ?_
  refine rp_aload_n (x := (E.2.2.2.1 a0)) dX1_lastsOf_7 rfl ?_
  refine rp_iload_n (x := v1) dX1_lastsOf_8 rfl ?_
  refine rp_iconst dX1_lastsOf_9 ?_
  refine rp_callV_hi (As := [.int v1, .int (rI 0)]) (rest := []) (b := (E.2.2.2.1 a0)) (rX1_ofWork σ a0 v1 (rI 0) ha0) cbX1_ofWork lkX1_55 viX1_ofWork (rp_rcO ha0.1 rfl) rfl (Nat.le_of_ble_eq_true rfl) ⟨rfl, rfl, ⟨Nat.le_of_ble_eq_true rfl, Nat.le_of_ble_eq_true rfl⟩, Nat.zero_le _, Nat.zero_le _⟩ rfl (Nat.le_of_ble_eq_true rfl) dX1_lastsOf_10 (fun x2 hx2 => ?_)
  refine rp_if2 (fun h0 => ?_) (fun h0 => ?_)
  · refine rp_tswIn (tgt := 40) 0 (by rw [h0]; decide) dX1_lastsOf_13 (by decide) (by decide) rfl (by decide) ?_
    refine rp_iload_n (x := x1) dX1_lastsOf_40 rfl ?_
    exact rp_iret rfl rfl dX1_lastsOf_41
  · refine rp_if2 (fun h1 => ?_) (fun h1 => ?_)
    · refine rp_tswIn (tgt := 42) 1 (by rw [h1]; decide) dX1_lastsOf_13 (by decide) (by decide) rfl (by decide) ?_
      refine rp_iconst dX1_lastsOf_42 ?_
      refine rp_iload_n (x := x1) dX1_lastsOf_43 rfl ?_
      refine rp_imul dX1_lastsOf_44 ?_
      exact rp_iret rfl rfl dX1_lastsOf_45
    · refine rp_if2 (fun h2 => ?_) (fun h2 => ?_)
      · refine rp_tswIn (tgt := 46) 2 (by rw [h2]; decide) dX1_lastsOf_13 (by decide) (by decide) rfl (by decide) ?_
        refine rp_iload_n (x := x1) dX1_lastsOf_46 rfl ?_
        refine rp_iconst dX1_lastsOf_47 ?_
        refine rp_idiv0 dX1_lastsOf_48 (by decide) ?_
        refine rp_iconst dX1_lastsOf_49 ?_
        refine rp_iadd dX1_lastsOf_50 ?_
        exact rp_iret rfl rfl dX1_lastsOf_51
      · refine rp_tswOut (tgt := 52) dX1_lastsOf_13 (by have q0 := lv_neT (a := 0) h0 (by decide); have q1 := lv_neT (a := 1) h1 (by decide); have q2 := lv_neT (a := 2) h2 (by decide); omega) (by decide) ?_
        refine rp_iload_n (x := x1) dX1_lastsOf_52 rfl ?_
        refine rp_iconst dX1_lastsOf_53 ?_
        refine rp_idiv0 dX1_lastsOf_54 (by decide) ?_
        exact rp_iret rfl rfl dX1_lastsOf_55
/-! RocketPrint.clampToDyke(I)I -/
abbrev rmX6_clampToDyke : Room := { frames := 1, cells := 0, slots := 0, locals := 21 }
def fX6_clampToDyke  (v0 : Int32) : Option (Int32) :=
  (some (rq_max (rI 0) (rq_min (rI 11) v0)))
set_option maxRecDepth 100000 in
theorem rX6_clampToDyke {E : rp_E} (σ : rp_S) (v0 : Int32)   : rp_R E (rp_mK E rmX6_clampToDyke) mX6_clampToDyke 0 [some (.int v0)] [] σ (rp_hi σ) (fX6_clampToDyke v0) := by
  rw [fX6_clampToDyke]
  refine rp_iconst dX6_clampToDyke_0 ?_
  refine rp_bipush dX6_clampToDyke_1 (by decide) ?_
  refine rp_iload_n (x := v0) dX6_clampToDyke_3 rfl ?_
  refine rp_mmin mwX6_317 ⟨Nat.le_of_ble_eq_true rfl, Nat.le_of_ble_eq_true rfl, Nat.zero_le _, Nat.zero_le _⟩ dX6_clampToDyke_4 ?_
  refine rp_mmax mwX6_271 ⟨Nat.le_of_ble_eq_true rfl, Nat.le_of_ble_eq_true rfl, Nat.zero_le _, Nat.zero_le _⟩ dX6_clampToDyke_7 ?_
  exact rp_iret rfl rfl dX6_clampToDyke_10
/-! RocketPrint$Night.burstOf(I)I -/
abbrev rmX1_burstOf : Room := { frames := 2, cells := 0, slots := 0, locals := 41 }
def fX1_burstOf (σ : rp_S) (a0 : Nat) (v1 : Int32) : Option (Int32) :=
  ((fX1_ofWork σ a0 v1 (rI 1)).bind fun x1 =>
    ((fX6_clampToDyke ((x1 + (σ a0 4)) - (rI 4))).bind fun x2 =>
    (some x2)))
set_option maxRecDepth 100000 in
theorem rX1_burstOf {E : rp_E} (σ : rp_S) (a0 : Nat) (v1 : Int32) (ha0 : rp_Ni a0)  : rp_R E (rp_mK E rmX1_burstOf) mX1_burstOf 0 [some (.ref (E.2.2.2.1 a0)), some (.int v1)] [] σ (rp_hi σ) (fX1_burstOf σ a0 v1) := by
  rw [fX1_burstOf]
  refine rp_aload_n (x := (E.2.2.2.1 a0)) dX1_burstOf_0 rfl ?_
  refine rp_iload_n (x := v1) dX1_burstOf_1 rfl ?_
  refine rp_iconst dX1_burstOf_2 ?_
  refine rp_callV_hi (As := [.int v1, .int (rI 1)]) (rest := []) (b := (E.2.2.2.1 a0)) (rX1_ofWork σ a0 v1 (rI 1) ha0) cbX1_ofWork lkX1_55 viX1_ofWork (rp_rcO ha0.1 rfl) rfl (Nat.le_of_ble_eq_true rfl) ⟨rfl, rfl, ⟨Nat.le_of_ble_eq_true rfl, Nat.le_of_ble_eq_true rfl⟩, Nat.zero_le _, Nat.zero_le _⟩ rfl (Nat.le_of_ble_eq_true rfl) dX1_burstOf_3 (fun x1 hx1 => ?_)
  refine rp_aload_n (x := (E.2.2.2.1 a0)) dX1_burstOf_6 rfl ?_
  refine rp_getI (k := 4) ha0.1 rfl fdX1_18 dX1_burstOf_7 ?_
  refine rp_iadd dX1_burstOf_10 ?_
  refine rp_iconst dX1_burstOf_11 ?_
  refine rp_isub dX1_burstOf_12 ?_
  refine rp_callS_hi (As := [.int ((x1 + (σ a0 4)) - (rI 4))]) (rest := []) (rX6_clampToDyke σ ((x1 + (σ a0 4)) - (rI 4))) cbX6_clampToDyke lkX1_59 stX6_clampToDyke rfl (Nat.le_of_ble_eq_true rfl) ⟨rfl, rfl, ⟨Nat.le_of_ble_eq_true rfl, Nat.le_of_ble_eq_true rfl⟩, Nat.zero_le _, Nat.zero_le _⟩ rfl (Nat.le_of_ble_eq_true rfl) dX1_burstOf_13 (fun x2 hx2 => ?_)
  exact rp_iret rfl rfl dX1_burstOf_16
/-! RocketPrint$Night.wideOf(I)I -/
abbrev rmX1_wideOf : Room := { frames := 1, cells := 0, slots := 0, locals := 22 }
def fX1_wideOf (σ : rp_S) (a0 : Nat) (v1 : Int32) : Option (Int32) :=
  ((fX1_ofWork σ a0 v1 (rI 3)).bind fun x1 =>
    ((fX1_ofWork σ a0 v1 (rI 0)).bind fun x2 =>
    (if x2 = (rI 0) then
    (some x1)
  else
    (if x2 = (rI 1) then
    (some (x1 / (rI 2)))
  else
    (if x2 = (rI 2) then
    (some x1)
  else
    (some (x1 + (rI 2))))))))
set_option maxRecDepth 100000 in
theorem rX1_wideOf {E : rp_E} (σ : rp_S) (a0 : Nat) (v1 : Int32) (ha0 : rp_Ni a0)  : rp_R E (rp_mK E rmX1_wideOf) mX1_wideOf 0 [some (.ref (E.2.2.2.1 a0)), some (.int v1), none] [] σ (rp_hi σ) (fX1_wideOf σ a0 v1) := by
  rw [fX1_wideOf]
  refine rp_aload_n (x := (E.2.2.2.1 a0)) dX1_wideOf_0 rfl ?_
  refine rp_iload_n (x := v1) dX1_wideOf_1 rfl ?_
  refine rp_iconst dX1_wideOf_2 ?_
  refine rp_callV_hi (As := [.int v1, .int (rI 3)]) (rest := []) (b := (E.2.2.2.1 a0)) (rX1_ofWork σ a0 v1 (rI 3) ha0) cbX1_ofWork lkX1_55 viX1_ofWork (rp_rcO ha0.1 rfl) rfl (Nat.le_of_ble_eq_true rfl) ⟨rfl, rfl, ⟨Nat.le_of_ble_eq_true rfl, Nat.le_of_ble_eq_true rfl⟩, Nat.zero_le _, Nat.zero_le _⟩ rfl (Nat.le_of_ble_eq_true rfl) dX1_wideOf_3 (fun x1 hx1 => ?_)
  refine rp_istore_n dX1_wideOf_6 (by decide) rfl ?_
  refine rp_aload_n (x := (E.2.2.2.1 a0)) dX1_wideOf_7 rfl ?_
  refine rp_iload_n (x := v1) dX1_wideOf_8 rfl ?_
  refine rp_iconst dX1_wideOf_9 ?_
  refine rp_callV_hi (As := [.int v1, .int (rI 0)]) (rest := []) (b := (E.2.2.2.1 a0)) (rX1_ofWork σ a0 v1 (rI 0) ha0) cbX1_ofWork lkX1_55 viX1_ofWork (rp_rcO ha0.1 rfl) rfl (Nat.le_of_ble_eq_true rfl) ⟨rfl, rfl, ⟨Nat.le_of_ble_eq_true rfl, Nat.le_of_ble_eq_true rfl⟩, Nat.zero_le _, Nat.zero_le _⟩ rfl (Nat.le_of_ble_eq_true rfl) dX1_wideOf_10 (fun x2 hx2 => ?_)
  refine rp_if2 (fun h0 => ?_) (fun h0 => ?_)
  · refine rp_tswIn (tgt := 40) 0 (by rw [h0]; decide) dX1_wideOf_13 (by decide) (by decide) rfl (by decide) ?_
    refine rp_iload_n (x := x1) dX1_wideOf_40 rfl ?_
    exact rp_iret rfl rfl dX1_wideOf_41
  · refine rp_if2 (fun h1 => ?_) (fun h1 => ?_)
    · refine rp_tswIn (tgt := 42) 1 (by rw [h1]; decide) dX1_wideOf_13 (by decide) (by decide) rfl (by decide) ?_
      refine rp_iload_n (x := x1) dX1_wideOf_42 rfl ?_
      refine rp_iconst dX1_wideOf_43 ?_
      refine rp_idiv0 dX1_wideOf_44 (by decide) ?_
      exact rp_iret rfl rfl dX1_wideOf_45
    · refine rp_if2 (fun h2 => ?_) (fun h2 => ?_)
      · refine rp_tswIn (tgt := 40) 2 (by rw [h2]; decide) dX1_wideOf_13 (by decide) (by decide) rfl (by decide) ?_
        refine rp_iload_n (x := x1) dX1_wideOf_40 rfl ?_
        exact rp_iret rfl rfl dX1_wideOf_41
      · refine rp_tswOut (tgt := 46) dX1_wideOf_13 (by have q0 := lv_neT (a := 0) h0 (by decide); have q1 := lv_neT (a := 1) h1 (by decide); have q2 := lv_neT (a := 2) h2 (by decide); omega) (by decide) ?_
        refine rp_iload_n (x := x1) dX1_wideOf_46 rfl ?_
        refine rp_iconst dX1_wideOf_47 ?_
        refine rp_iadd dX1_wideOf_48 ?_
        exact rp_iret rfl rfl dX1_wideOf_49
/-! RocketPrint$Show.settle()V -/
abbrev rmX3_settle : Room := { frames := 3, cells := 0, slots := 0, locals := 62 }
def fX3_settle_62 (k2 : rp_S → Int32 → Option (rp_S)) (σ : rp_S) (v1 : Int32) (s0 : Int32) (s1 : Int32) (s2 : Int32) : Option (rp_S) :=
  ((rq_wr σ 9 6 s2 (s1 + s0)).bind fun σ5 =>
    ((fX1_burstOf σ5 5 v1).bind fun x6 =>
    ((rq_wr σ5 10 6 v1 x6).bind fun σ7 =>
    ((fX1_wideOf σ7 5 v1).bind fun x8 =>
    ((rq_wr σ7 11 6 v1 x8).bind fun σ9 =>
    (k2 σ9 (v1 + (rI 1))))))))
set_option maxRecDepth 100000 in
theorem rX3_settle_62 {E : rp_E} (k2 : rp_S → Int32 → Option (rp_S)) (hk2 : ∀ (σ : rp_S) (v1 : Int32), rp_R E (rp_mK E rmX3_settle) mX3_settle 2 [some (.ref (E.2.2.2.1 4)), some (.int v1)] [] σ rp_hv (k2 σ v1)) (σ : rp_S) (v1 : Int32) (s0 : Int32) (s1 : Int32) (s2 : Int32) : rp_R E (rp_mK E rmX3_settle) mX3_settle 62 [some (.ref (E.2.2.2.1 4)), some (.int v1)] [.int s0, .int s1, .int s2, .ref (E.2.2.2.1 9)] σ rp_hv (fX3_settle_62 k2 σ v1 s0 s1 s2) := by
  rw [fX3_settle_62]
  refine rp_iadd dX3_settle_62 ?_
  refine rp_iastore sh9 dX3_settle_63 (fun σ5 => ?_)
  refine rp_aload_n (x := (E.2.2.2.1 4)) dX3_settle_64 rfl ?_
  refine rp_getR (k := 3) (b := 10) sh4 rfl fdX3_25 dX3_settle_65 ?_
  refine rp_iload_n (x := v1) dX3_settle_68 rfl ?_
  refine rp_aload_n (x := (E.2.2.2.1 4)) dX3_settle_69 rfl ?_
  refine rp_getR (k := 0) (b := 5) sh4 rfl fdX3_12 dX3_settle_70 ?_
  refine rp_iload_n (x := v1) dX3_settle_73 rfl ?_
  refine rp_callV_hi (As := [.int v1]) (rest := [.int v1, .ref (E.2.2.2.1 10)]) (b := (E.2.2.2.1 5)) (rX1_burstOf σ5 5 v1 ni5) cbX1_burstOf lkX3_54 viX1_burstOf (rp_rcO sh5 rfl) rfl (Nat.le_of_ble_eq_true rfl) ⟨rfl, rfl, ⟨Nat.le_of_ble_eq_true rfl, Nat.le_of_ble_eq_true rfl⟩, Nat.zero_le _, Nat.zero_le _⟩ rfl (Nat.le_of_ble_eq_true rfl) dX3_settle_74 (fun x6 hx6 => ?_)
  refine rp_iastore sh10 dX3_settle_77 (fun σ7 => ?_)
  refine rp_aload_n (x := (E.2.2.2.1 4)) dX3_settle_78 rfl ?_
  refine rp_getR (k := 4) (b := 11) sh4 rfl fdX3_28 dX3_settle_79 ?_
  refine rp_iload_n (x := v1) dX3_settle_82 rfl ?_
  refine rp_aload_n (x := (E.2.2.2.1 4)) dX3_settle_83 rfl ?_
  refine rp_getR (k := 0) (b := 5) sh4 rfl fdX3_12 dX3_settle_84 ?_
  refine rp_iload_n (x := v1) dX3_settle_87 rfl ?_
  refine rp_callV_hi (As := [.int v1]) (rest := [.int v1, .ref (E.2.2.2.1 11)]) (b := (E.2.2.2.1 5)) (rX1_wideOf σ7 5 v1 ni5) cbX1_wideOf lkX3_57 viX1_wideOf (rp_rcO sh5 rfl) rfl (Nat.le_of_ble_eq_true rfl) ⟨rfl, rfl, ⟨Nat.le_of_ble_eq_true rfl, Nat.le_of_ble_eq_true rfl⟩, Nat.zero_le _, Nat.zero_le _⟩ rfl (Nat.le_of_ble_eq_true rfl) dX3_settle_88 (fun x8 hx8 => ?_)
  refine rp_iastore sh11 dX3_settle_91 (fun σ9 => ?_)
  refine rp_iinc (x := v1) dX3_settle_92 rfl (by decide) rfl ?_
  refine rp_goto (tgt := 2) dX3_settle_95 (by decide) ?_
  refine rp_mask [true, true] (vs2 := [some (.ref (E.2.2.2.1 4)), some (.int (v1 + (rI 1)))]) rfl rfl ?_
  exact hk2 σ9 (v1 + (rI 1))
def fX3_settle_2  : Nat → rp_S → Int32 → Option (rp_S)
  | 0, _, _ => none
  | n + 1, σ, v1 =>
    (if (σ 5 2) ≤ v1 then
    (some σ)
  else
    ((fX1_ofWork σ 5 v1 (rI 2)).bind fun x1 =>
    ((rq_wr σ 8 6 v1 x1).bind fun σ2 =>
    ((rq_rd σ2 8 6 v1).bind fun x3 =>
    ((fX1_goesUp σ2 5 v1).bind fun x4 =>
    (if x4 = 0 then
    (fX3_settle_62 (fun σ v1 => fX3_settle_2 n σ v1) σ2 v1 (rI 0) x3 v1)
  else
    ((fX1_lastsOf σ2 5 v1).bind fun x10 =>
    (fX3_settle_62 (fun σ v1 => fX3_settle_2 n σ v1) σ2 v1 x10 x3 v1))))))))
set_option maxRecDepth 100000 in
theorem rX3_settle_2 {E : rp_E}  : ∀ (n : Nat) (σ : rp_S) (v1 : Int32), rp_R E (rp_mK E rmX3_settle) mX3_settle 2 [some (.ref (E.2.2.2.1 4)), some (.int v1)] [] σ rp_hv (fX3_settle_2 n σ v1) := by
  intro n
  induction n with
  | zero =>
    intro σ v1
    rw [fX3_settle_2]
    exact rp_none
  | succ n ih =>
    intro σ v1
    rw [fX3_settle_2]
    refine rp_iload_n (x := v1) dX3_settle_2 rfl ?_
    refine rp_aload_n (x := (E.2.2.2.1 4)) dX3_settle_3 rfl ?_
    refine rp_getR (k := 0) (b := 5) sh4 rfl fdX3_12 dX3_settle_4 ?_
    refine rp_getI (k := 2) sh5 rfl fdX3_38 dX3_settle_7 ?_
    refine rp_icmp_ge (tgt := 98) dX3_settle_10 (by decide) ?_ ?_
    · exact rp_vret rfl rfl dX3_settle_98
    · refine rp_aload_n (x := (E.2.2.2.1 4)) dX3_settle_13 rfl ?_
      refine rp_getR (k := 1) (b := 8) sh4 rfl fdX3_18 dX3_settle_14 ?_
      refine rp_iload_n (x := v1) dX3_settle_17 rfl ?_
      refine rp_aload_n (x := (E.2.2.2.1 4)) dX3_settle_18 rfl ?_
      refine rp_getR (k := 0) (b := 5) sh4 rfl fdX3_12 dX3_settle_19 ?_
      refine rp_iload_n (x := v1) dX3_settle_22 rfl ?_
      refine rp_iconst dX3_settle_23 ?_
      refine rp_callV_hi (As := [.int v1, .int (rI 2)]) (rest := [.int v1, .ref (E.2.2.2.1 8)]) (b := (E.2.2.2.1 5)) (rX1_ofWork σ 5 v1 (rI 2) ni5) cbX1_ofWork lkX3_42 viX1_ofWork (rp_rcO sh5 rfl) rfl (Nat.le_of_ble_eq_true rfl) ⟨rfl, rfl, ⟨Nat.le_of_ble_eq_true rfl, Nat.le_of_ble_eq_true rfl⟩, Nat.zero_le _, Nat.zero_le _⟩ rfl (Nat.le_of_ble_eq_true rfl) dX3_settle_24 (fun x1 hx1 => ?_)
      refine rp_iastore sh8 dX3_settle_27 (fun σ2 => ?_)
      refine rp_aload_n (x := (E.2.2.2.1 4)) dX3_settle_28 rfl ?_
      refine rp_getR (k := 2) (b := 9) sh4 rfl fdX3_22 dX3_settle_29 ?_
      refine rp_iload_n (x := v1) dX3_settle_32 rfl ?_
      refine rp_aload_n (x := (E.2.2.2.1 4)) dX3_settle_33 rfl ?_
      refine rp_getR (k := 1) (b := 8) sh4 rfl fdX3_18 dX3_settle_34 ?_
      refine rp_iload_n (x := v1) dX3_settle_37 rfl ?_
      refine rp_iaload sh8 dX3_settle_38 (fun x3 => ?_)
      refine rp_aload_n (x := (E.2.2.2.1 4)) dX3_settle_39 rfl ?_
      refine rp_getR (k := 0) (b := 5) sh4 rfl fdX3_12 dX3_settle_40 ?_
      refine rp_iload_n (x := v1) dX3_settle_43 rfl ?_
      refine rp_callV_hi (As := [.int v1]) (rest := [.int x3, .int v1, .ref (E.2.2.2.1 9)]) (b := (E.2.2.2.1 5)) (rX1_goesUp σ2 5 v1 ni5) cbX1_goesUp lkX3_46 viX1_goesUp (rp_rcO sh5 rfl) rfl (Nat.le_of_ble_eq_true rfl) ⟨rfl, rfl, ⟨Nat.le_of_ble_eq_true rfl, Nat.le_of_ble_eq_true rfl⟩, Nat.zero_le _, Nat.zero_le _⟩ rfl (Nat.le_of_ble_eq_true rfl) dX3_settle_44 (fun x4 hx4 => ?_)
      refine rp_if_eq (tgt := 61) dX3_settle_47 (by decide) ?_ ?_
      · refine rp_iconst dX3_settle_61 ?_
        refine rp_mask [true, true] (vs2 := [some (.ref (E.2.2.2.1 4)), some (.int v1)]) rfl rfl ?_
        exact rX3_settle_62 (fun σ v1 => fX3_settle_2 n σ v1) (fun σ v1 => ih σ v1) σ2 v1 (rI 0) x3 v1
      · refine rp_aload_n (x := (E.2.2.2.1 4)) dX3_settle_50 rfl ?_
        refine rp_getR (k := 0) (b := 5) sh4 rfl fdX3_12 dX3_settle_51 ?_
        refine rp_iload_n (x := v1) dX3_settle_54 rfl ?_
        refine rp_callV_hi (As := [.int v1]) (rest := [.int x3, .int v1, .ref (E.2.2.2.1 9)]) (b := (E.2.2.2.1 5)) (rX1_lastsOf σ2 5 v1 ni5) cbX1_lastsOf lkX3_50 viX1_lastsOf (rp_rcO sh5 rfl) rfl (Nat.le_of_ble_eq_true rfl) ⟨rfl, rfl, ⟨Nat.le_of_ble_eq_true rfl, Nat.le_of_ble_eq_true rfl⟩, Nat.zero_le _, Nat.zero_le _⟩ rfl (Nat.le_of_ble_eq_true rfl) dX3_settle_55 (fun x10 hx10 => ?_)
        refine rp_goto (tgt := 62) dX3_settle_58 (by decide) ?_
        refine rp_mask [true, true] (vs2 := [some (.ref (E.2.2.2.1 4)), some (.int v1)]) rfl rfl ?_
        exact rX3_settle_62 (fun σ v1 => fX3_settle_2 n σ v1) (fun σ v1 => ih σ v1) σ2 v1 x10 x3 v1
def fX3_settle (σ : rp_S)  : Option (rp_S) :=
  (fX3_settle_2 1000 σ (rI 0))
set_option maxRecDepth 100000 in
theorem rX3_settle {E : rp_E} (σ : rp_S)    : rp_R E (rp_mK E rmX3_settle) mX3_settle 0 [some (.ref (E.2.2.2.1 4)), none] [] σ rp_hv (fX3_settle σ) := by
  rw [fX3_settle]
  refine rp_iconst dX3_settle_0 ?_
  refine rp_istore_n dX3_settle_1 (by decide) rfl ?_
  refine rp_mask [true, true] (vs2 := [some (.ref (E.2.2.2.1 4)), some (.int (rI 0))]) rfl rfl ?_
  exact rX3_settle_2 1000 σ (rI 0)
/-! RocketPrint$Show.begin(LRocketPrint$Night;)V -/
abbrev rmX3_begin : Room := { frames := 4, cells := 0, slots := 0, locals := 83 }
def fX3_begin (σ : rp_S) (a1 : Nat) : Option (rp_S) :=
  ((fX1_become σ 5 a1).bind fun σ1 =>
    ((fX3_settle σ1).bind fun σ2 =>
    (some σ2)))
set_option maxRecDepth 100000 in
theorem rX3_begin {E : rp_E} (σ : rp_S) (a1 : Nat) (ha1 : rp_Ni a1)  : rp_R E (rp_mK E rmX3_begin) mX3_begin 0 [some (.ref (E.2.2.2.1 4)), some (.ref (E.2.2.2.1 a1))] [] σ rp_hv (fX3_begin σ a1) := by
  rw [fX3_begin]
  refine rp_aload_n (x := (E.2.2.2.1 4)) dX3_begin_0 rfl ?_
  refine rp_getR (k := 0) (b := 5) sh4 rfl fdX3_12 dX3_begin_1 ?_
  refine rp_aload_n (x := (E.2.2.2.1 a1)) dX3_begin_4 rfl ?_
  refine rp_callV_hv (As := [.ref (E.2.2.2.1 a1)]) (rest := []) (b := (E.2.2.2.1 5)) (rX1_become σ 5 a1 ni5 ha1) cbX1_become lkX3_31 viX1_become (rp_rcO sh5 rfl) rfl (Nat.le_of_ble_eq_true rfl) ⟨rfl, rfl, ⟨Nat.le_of_ble_eq_true rfl, Nat.le_of_ble_eq_true rfl⟩, Nat.zero_le _, Nat.zero_le _⟩ rfl (Nat.le_of_ble_eq_true rfl) dX3_begin_5 (fun σ1 hσ1 => ?_)
  refine rp_aload_n (x := (E.2.2.2.1 4)) dX3_begin_8 rfl ?_
  refine rp_callV_hv (As := []) (rest := []) (b := (E.2.2.2.1 4)) (rX3_settle σ1) cbX3_settle lkX3_35 viX3_settle (rp_rcO sh4 rfl) rfl (Nat.le_of_ble_eq_true rfl) ⟨rfl, rfl, ⟨Nat.le_of_ble_eq_true rfl, Nat.le_of_ble_eq_true rfl⟩, Nat.zero_le _, Nat.zero_le _⟩ rfl (Nat.le_of_ble_eq_true rfl) dX3_begin_9 (fun σ2 hσ2 => ?_)
  exact rp_vret rfl rfl dX3_begin_12
/-! RocketPrint$Night.ofReader(II)I -/
abbrev rmX1_ofReader : Room := { frames := 0, cells := 0, slots := 0, locals := 0 }
def fX1_ofReader (σ : rp_S) (a0 : Nat) (v1 : Int32) (v2 : Int32) : Option (Int32) :=
  ((rq_rd σ (a0 + 2) 8 ((v1 * (rI 2)) + v2)).bind fun x1 =>
    (some x1))
set_option maxRecDepth 100000 in
theorem rX1_ofReader {E : rp_E} (σ : rp_S) (a0 : Nat) (v1 : Int32) (v2 : Int32) (ha0 : rp_Ni a0)  : rp_R E (rp_mK E rmX1_ofReader) mX1_ofReader 0 [some (.ref (E.2.2.2.1 a0)), some (.int v1), some (.int v2)] [] σ (rp_hi σ) (fX1_ofReader σ a0 v1 v2) := by
  rw [fX1_ofReader]
  refine rp_aload_n (x := (E.2.2.2.1 a0)) dX1_ofReader_0 rfl ?_
  refine rp_getR (k := 1) (b := (a0 + 2)) ha0.1 rfl fdX1_15 dX1_ofReader_1 ?_
  refine rp_iload_n (x := v1) dX1_ofReader_4 rfl ?_
  refine rp_iconst dX1_ofReader_5 ?_
  refine rp_imul dX1_ofReader_6 ?_
  refine rp_iload_n (x := v2) dX1_ofReader_7 rfl ?_
  refine rp_iadd dX1_ofReader_8 ?_
  refine rp_iaload ha0.2.2 dX1_ofReader_9 (fun x1 => ?_)
  exact rp_iret rfl rfl dX1_ofReader_10
/-! RocketPrint$Show.coughsAt(II)Z -/
abbrev rmX3_coughsAt : Room := { frames := 1, cells := 0, slots := 0, locals := 22 }
def fX3_coughsAt (σ : rp_S) (v1 : Int32) (v2 : Int32) : Option (Int32) :=
  ((fX1_ofReader σ 5 v1 (rI 1)).bind fun x1 =>
    (if x1 ≤ 0 then
    (some (rI 0))
  else
    ((rq_irem v2 x1).bind fun z2 =>
    (if z2 = 0 then
    (some (rI 1))
  else
    (some (rI 0))))))
set_option maxRecDepth 100000 in
theorem rX3_coughsAt {E : rp_E} (σ : rp_S) (v1 : Int32) (v2 : Int32)   : rp_R E (rp_mK E rmX3_coughsAt) mX3_coughsAt 0 [some (.ref (E.2.2.2.1 4)), some (.int v1), some (.int v2), none] [] σ (rp_hi σ) (fX3_coughsAt σ v1 v2) := by
  rw [fX3_coughsAt]
  refine rp_aload_n (x := (E.2.2.2.1 4)) dX3_coughsAt_0 rfl ?_
  refine rp_getR (k := 0) (b := 5) sh4 rfl fdX3_12 dX3_coughsAt_1 ?_
  refine rp_iload_n (x := v1) dX3_coughsAt_4 rfl ?_
  refine rp_iconst dX3_coughsAt_5 ?_
  refine rp_callV_hi (As := [.int v1, .int (rI 1)]) (rest := []) (b := (E.2.2.2.1 5)) (rX1_ofReader σ 5 v1 (rI 1) ni5) cbX1_ofReader lkX3_60 viX1_ofReader (rp_rcO sh5 rfl) rfl (Nat.le_of_ble_eq_true rfl) ⟨rfl, rfl, ⟨Nat.le_of_ble_eq_true rfl, Nat.le_of_ble_eq_true rfl⟩, Nat.zero_le _, Nat.zero_le _⟩ rfl (Nat.le_of_ble_eq_true rfl) dX3_coughsAt_6 (fun x1 hx1 => ?_)
  refine rp_istore_n dX3_coughsAt_9 (by decide) rfl ?_
  refine rp_iload_n (x := x1) dX3_coughsAt_10 rfl ?_
  refine rp_if_le (tgt := 24) dX3_coughsAt_11 (by decide) ?_ ?_
  · refine rp_iconst dX3_coughsAt_24 ?_
    exact rp_zret (x' := (rI 0)) rfl (by decide) rfl dX3_coughsAt_25
  · refine rp_iload_n (x := v2) dX3_coughsAt_14 rfl ?_
    refine rp_iload_n (x := x1) dX3_coughsAt_15 rfl ?_
    refine rp_irem dX3_coughsAt_16 (fun z2 => ?_)
    refine rp_if_ne (tgt := 24) dX3_coughsAt_17 (by decide) ?_ ?_
    · refine rp_iconst dX3_coughsAt_24 ?_
      exact rp_zret (x' := (rI 0)) rfl (by decide) rfl dX3_coughsAt_25
    · refine rp_iconst dX3_coughsAt_20 ?_
      refine rp_goto (tgt := 25) dX3_coughsAt_21 (by decide) ?_
      exact rp_zret (x' := (rI 1)) rfl (by decide) rfl dX3_coughsAt_25
/-! RocketPrint$Show.isUp(II)Z -/
abbrev rmX3_isUp : Room := { frames := 0, cells := 0, slots := 0, locals := 0 }
def fX3_isUp (σ : rp_S) (v1 : Int32) (v2 : Int32) : Option (Int32) :=
  ((rq_rd σ 8 6 v1).bind fun x1 =>
    (if v2 < x1 then
    (some (rI 0))
  else
    ((rq_rd σ 9 6 v1).bind fun x2 =>
    (if x2 ≤ v2 then
    (some (rI 0))
  else
    (some (rI 1))))))
set_option maxRecDepth 100000 in
theorem rX3_isUp {E : rp_E} (σ : rp_S) (v1 : Int32) (v2 : Int32)   : rp_R E (rp_mK E rmX3_isUp) mX3_isUp 0 [some (.ref (E.2.2.2.1 4)), some (.int v1), some (.int v2)] [] σ (rp_hi σ) (fX3_isUp σ v1 v2) := by
  rw [fX3_isUp]
  refine rp_iload_n (x := v2) dX3_isUp_0 rfl ?_
  refine rp_aload_n (x := (E.2.2.2.1 4)) dX3_isUp_1 rfl ?_
  refine rp_getR (k := 1) (b := 8) sh4 rfl fdX3_18 dX3_isUp_2 ?_
  refine rp_iload_n (x := v1) dX3_isUp_5 rfl ?_
  refine rp_iaload sh8 dX3_isUp_6 (fun x1 => ?_)
  refine rp_icmp_lt (tgt := 24) dX3_isUp_7 (by decide) ?_ ?_
  · refine rp_iconst dX3_isUp_24 ?_
    exact rp_zret (x' := (rI 0)) rfl (by decide) rfl dX3_isUp_25
  · refine rp_iload_n (x := v2) dX3_isUp_10 rfl ?_
    refine rp_aload_n (x := (E.2.2.2.1 4)) dX3_isUp_11 rfl ?_
    refine rp_getR (k := 2) (b := 9) sh4 rfl fdX3_22 dX3_isUp_12 ?_
    refine rp_iload_n (x := v1) dX3_isUp_15 rfl ?_
    refine rp_iaload sh9 dX3_isUp_16 (fun x2 => ?_)
    refine rp_icmp_ge (tgt := 24) dX3_isUp_17 (by decide) ?_ ?_
    · refine rp_iconst dX3_isUp_24 ?_
      exact rp_zret (x' := (rI 0)) rfl (by decide) rfl dX3_isUp_25
    · refine rp_iconst dX3_isUp_20 ?_
      refine rp_goto (tgt := 25) dX3_isUp_21 (by decide) ?_
      exact rp_zret (x' := (rI 1)) rfl (by decide) rfl dX3_isUp_25
/-! RocketPrint$Show.lookedAt(II)I -/
abbrev rmX3_lookedAt : Room := { frames := 2, cells := 0, slots := 0, locals := 45 }
def fX3_lookedAt_96 (σ : rp_S) (k33 : Int32 → Int32 → Int32 → Int32 → Int32 → Option (Int32)) (v2 : Int32) (v3 : Int32) (v4 : Int32) (v5 : Int32) (v6 : Int32) : Option (Int32) :=
  (k33 v2 v3 v4 v5 (v6 + (rI 1)))
set_option maxRecDepth 100000 in
theorem rX3_lookedAt_96 {E : rp_E} (σ : rp_S) (k33 : Int32 → Int32 → Int32 → Int32 → Int32 → Option (Int32)) (hk33 : ∀ (v2 : Int32) (v3 : Int32) (v4 : Int32) (v5 : Int32) (v6 : Int32), rp_R E (rp_mK E rmX3_lookedAt) mX3_lookedAt 33 [some (.ref (E.2.2.2.1 4)), none, some (.int v2), some (.int v3), some (.int v4), some (.int v5), some (.int v6), none] [] σ (rp_hi σ) (k33 v2 v3 v4 v5 v6)) (v2 : Int32) (v3 : Int32) (v4 : Int32) (v5 : Int32) (v6 : Int32) : rp_R E (rp_mK E rmX3_lookedAt) mX3_lookedAt 96 [some (.ref (E.2.2.2.1 4)), none, some (.int v2), some (.int v3), some (.int v4), some (.int v5), some (.int v6), none] [] σ (rp_hi σ) (fX3_lookedAt_96 σ k33 v2 v3 v4 v5 v6) := by
  rw [fX3_lookedAt_96]
  refine rp_iinc (x := v6) dX3_lookedAt_96 rfl (by decide) rfl ?_
  refine rp_goto (tgt := 33) dX3_lookedAt_99 (by decide) ?_
  refine rp_mask [true, false, true, true, true, true, true, false] (vs2 := [some (.ref (E.2.2.2.1 4)), none, some (.int v2), some (.int v3), some (.int v4), some (.int v5), some (.int (v6 + (rI 1))), none]) rfl rfl ?_
  exact hk33 v2 v3 v4 v5 (v6 + (rI 1))
def fX3_lookedAt_33 (σ : rp_S) : Nat → Int32 → Int32 → Int32 → Int32 → Int32 → Option (Int32)
  | 0, _, _, _, _, _ => none
  | n + 1, v2, v3, v4, v5, v6 =>
    (if (σ 5 2) ≤ v6 then
    (some v4)
  else
    ((rq_rd σ 10 6 v6).bind fun x3 =>
    ((fX3_isUp σ v6 v2).bind fun x4 =>
    (if x4 = 0 then
    (fX3_lookedAt_96 σ (fun v2 v3 v4 v5 v6 => fX3_lookedAt_33 σ n v2 v3 v4 v5 v6) v2 v3 v4 v5 v6)
  else
    ((rq_rd σ 11 6 v6).bind fun x5 =>
    (if x5 < (rq_abs (x3 - v3)) then
    (fX3_lookedAt_96 σ (fun v2 v3 v4 v5 v6 => fX3_lookedAt_33 σ n v2 v3 v4 v5 v6) v2 v3 v4 v5 v6)
  else
    (if v5 ≤ (rq_abs (x3 - v3)) then
    (fX3_lookedAt_96 σ (fun v2 v3 v4 v5 v6 => fX3_lookedAt_33 σ n v2 v3 v4 v5 v6) v2 v3 v4 v5 v6)
  else
    (fX3_lookedAt_96 σ (fun v2 v3 v4 v5 v6 => fX3_lookedAt_33 σ n v2 v3 v4 v5 v6) v2 v3 v6 (rq_abs (x3 - v3)) v6))))))))
set_option maxRecDepth 100000 in
theorem rX3_lookedAt_33 {E : rp_E} (σ : rp_S) : ∀ (n : Nat) (v2 : Int32) (v3 : Int32) (v4 : Int32) (v5 : Int32) (v6 : Int32), rp_R E (rp_mK E rmX3_lookedAt) mX3_lookedAt 33 [some (.ref (E.2.2.2.1 4)), none, some (.int v2), some (.int v3), some (.int v4), some (.int v5), some (.int v6), none] [] σ (rp_hi σ) (fX3_lookedAt_33 σ n v2 v3 v4 v5 v6) := by
  intro n
  induction n with
  | zero =>
    intro v2 v3 v4 v5 v6
    rw [fX3_lookedAt_33]
    exact rp_none
  | succ n ih =>
    intro v2 v3 v4 v5 v6
    rw [fX3_lookedAt_33]
    refine rp_iload (x := v6) dX3_lookedAt_33 rfl ?_
    refine rp_aload_n (x := (E.2.2.2.1 4)) dX3_lookedAt_35 rfl ?_
    refine rp_getR (k := 0) (b := 5) sh4 rfl fdX3_12 dX3_lookedAt_36 ?_
    refine rp_getI (k := 2) sh5 rfl fdX3_38 dX3_lookedAt_39 ?_
    refine rp_icmp_ge (tgt := 102) dX3_lookedAt_42 (by decide) ?_ ?_
    · refine rp_iload (x := v4) dX3_lookedAt_102 rfl ?_
      exact rp_iret rfl rfl dX3_lookedAt_104
    · refine rp_aload_n (x := (E.2.2.2.1 4)) dX3_lookedAt_45 rfl ?_
      refine rp_getR (k := 3) (b := 10) sh4 rfl fdX3_25 dX3_lookedAt_46 ?_
      refine rp_iload (x := v6) dX3_lookedAt_49 rfl ?_
      refine rp_iaload sh10 dX3_lookedAt_51 (fun x3 => ?_)
      refine rp_iload_n (x := v3) dX3_lookedAt_52 rfl ?_
      refine rp_isub dX3_lookedAt_53 ?_
      refine rp_mabs mwX3_63 ⟨Nat.le_of_ble_eq_true rfl, Nat.le_of_ble_eq_true rfl, Nat.zero_le _, Nat.zero_le _⟩ dX3_lookedAt_54 ?_
      refine rp_istore dX3_lookedAt_57 (by decide) rfl ?_
      refine rp_aload_n (x := (E.2.2.2.1 4)) dX3_lookedAt_59 rfl ?_
      refine rp_iload (x := v6) dX3_lookedAt_60 rfl ?_
      refine rp_iload_n (x := v2) dX3_lookedAt_62 rfl ?_
      refine rp_callV_hi (As := [.int v6, .int v2]) (rest := []) (b := (E.2.2.2.1 4)) (rX3_isUp σ v6 v2) cbX3_isUp lkX3_75 viX3_isUp (rp_rcO sh4 rfl) rfl (Nat.le_of_ble_eq_true rfl) ⟨rfl, rfl, ⟨Nat.le_of_ble_eq_true rfl, Nat.le_of_ble_eq_true rfl⟩, Nat.zero_le _, Nat.zero_le _⟩ rfl (Nat.le_of_ble_eq_true rfl) dX3_lookedAt_63 (fun x4 hx4 => ?_)
      refine rp_if_eq (tgt := 96) dX3_lookedAt_66 (by decide) ?_ ?_
      · refine rp_mask [true, false, true, true, true, true, true, false] (vs2 := [some (.ref (E.2.2.2.1 4)), none, some (.int v2), some (.int v3), some (.int v4), some (.int v5), some (.int v6), none]) rfl rfl ?_
        exact rX3_lookedAt_96 σ (fun v2 v3 v4 v5 v6 => fX3_lookedAt_33 σ n v2 v3 v4 v5 v6) (fun v2 v3 v4 v5 v6 => ih v2 v3 v4 v5 v6) v2 v3 v4 v5 v6
      · refine rp_iload (x := (rq_abs (x3 - v3))) dX3_lookedAt_69 rfl ?_
        refine rp_aload_n (x := (E.2.2.2.1 4)) dX3_lookedAt_71 rfl ?_
        refine rp_getR (k := 4) (b := 11) sh4 rfl fdX3_28 dX3_lookedAt_72 ?_
        refine rp_iload (x := v6) dX3_lookedAt_75 rfl ?_
        refine rp_iaload sh11 dX3_lookedAt_77 (fun x5 => ?_)
        refine rp_icmp_gt (tgt := 96) dX3_lookedAt_78 (by decide) ?_ ?_
        · refine rp_mask [true, false, true, true, true, true, true, false] (vs2 := [some (.ref (E.2.2.2.1 4)), none, some (.int v2), some (.int v3), some (.int v4), some (.int v5), some (.int v6), none]) rfl rfl ?_
          exact rX3_lookedAt_96 σ (fun v2 v3 v4 v5 v6 => fX3_lookedAt_33 σ n v2 v3 v4 v5 v6) (fun v2 v3 v4 v5 v6 => ih v2 v3 v4 v5 v6) v2 v3 v4 v5 v6
        · refine rp_iload (x := (rq_abs (x3 - v3))) dX3_lookedAt_81 rfl ?_
          refine rp_iload (x := v5) dX3_lookedAt_83 rfl ?_
          refine rp_icmp_ge (tgt := 96) dX3_lookedAt_85 (by decide) ?_ ?_
          · refine rp_mask [true, false, true, true, true, true, true, false] (vs2 := [some (.ref (E.2.2.2.1 4)), none, some (.int v2), some (.int v3), some (.int v4), some (.int v5), some (.int v6), none]) rfl rfl ?_
            exact rX3_lookedAt_96 σ (fun v2 v3 v4 v5 v6 => fX3_lookedAt_33 σ n v2 v3 v4 v5 v6) (fun v2 v3 v4 v5 v6 => ih v2 v3 v4 v5 v6) v2 v3 v4 v5 v6
          · refine rp_iload (x := (rq_abs (x3 - v3))) dX3_lookedAt_88 rfl ?_
            refine rp_istore dX3_lookedAt_90 (by decide) rfl ?_
            refine rp_iload (x := v6) dX3_lookedAt_92 rfl ?_
            refine rp_istore dX3_lookedAt_94 (by decide) rfl ?_
            refine rp_mask [true, false, true, true, true, true, true, false] (vs2 := [some (.ref (E.2.2.2.1 4)), none, some (.int v2), some (.int v3), some (.int v6), some (.int (rq_abs (x3 - v3))), some (.int v6), none]) rfl rfl ?_
            exact rX3_lookedAt_96 σ (fun v2 v3 v4 v5 v6 => fX3_lookedAt_33 σ n v2 v3 v4 v5 v6) (fun v2 v3 v4 v5 v6 => ih v2 v3 v4 v5 v6) v2 v3 v6 (rq_abs (x3 - v3)) v6
def fX3_lookedAt (σ : rp_S) (v1 : Int32) (v2 : Int32) : Option (Int32) :=
  ((fX3_coughsAt σ v1 v2).bind fun x1 =>
    (if x1 = 0 then
    ((fX1_ofReader σ 5 v1 (rI 0)).bind fun x2 =>
    (fX3_lookedAt_33 σ 1000 v2 x2 (rI (-4)) (rI 12) (rI 0)))
  else
    (some (rI (-4)))))
set_option maxRecDepth 100000 in
theorem rX3_lookedAt {E : rp_E} (σ : rp_S) (v1 : Int32) (v2 : Int32)   : rp_R E (rp_mK E rmX3_lookedAt) mX3_lookedAt 0 [some (.ref (E.2.2.2.1 4)), some (.int v1), some (.int v2), none, none, none, none, none] [] σ (rp_hi σ) (fX3_lookedAt σ v1 v2) := by
  rw [fX3_lookedAt]
  refine rp_aload_n (x := (E.2.2.2.1 4)) dX3_lookedAt_0 rfl ?_
  refine rp_iload_n (x := v1) dX3_lookedAt_1 rfl ?_
  refine rp_iload_n (x := v2) dX3_lookedAt_2 rfl ?_
  refine rp_callV_hi (As := [.int v1, .int v2]) (rest := []) (b := (E.2.2.2.1 4)) (rX3_coughsAt σ v1 v2) cbX3_coughsAt lkX3_71 viX3_coughsAt (rp_rcO sh4 rfl) rfl (Nat.le_of_ble_eq_true rfl) ⟨rfl, rfl, ⟨Nat.le_of_ble_eq_true rfl, Nat.le_of_ble_eq_true rfl⟩, Nat.zero_le _, Nat.zero_le _⟩ rfl (Nat.le_of_ble_eq_true rfl) dX3_lookedAt_3 (fun x1 hx1 => ?_)
  refine rp_if_eq (tgt := 12) dX3_lookedAt_6 (by decide) ?_ ?_
  · refine rp_aload_n (x := (E.2.2.2.1 4)) dX3_lookedAt_12 rfl ?_
    refine rp_getR (k := 0) (b := 5) sh4 rfl fdX3_12 dX3_lookedAt_13 ?_
    refine rp_iload_n (x := v1) dX3_lookedAt_16 rfl ?_
    refine rp_iconst dX3_lookedAt_17 ?_
    refine rp_callV_hi (As := [.int v1, .int (rI 0)]) (rest := []) (b := (E.2.2.2.1 5)) (rX1_ofReader σ 5 v1 (rI 0) ni5) cbX1_ofReader lkX3_60 viX1_ofReader (rp_rcO sh5 rfl) rfl (Nat.le_of_ble_eq_true rfl) ⟨rfl, rfl, ⟨Nat.le_of_ble_eq_true rfl, Nat.le_of_ble_eq_true rfl⟩, Nat.zero_le _, Nat.zero_le _⟩ rfl (Nat.le_of_ble_eq_true rfl) dX3_lookedAt_18 (fun x2 hx2 => ?_)
    refine rp_istore_n dX3_lookedAt_21 (by decide) rfl ?_
    refine rp_bipush dX3_lookedAt_22 (by decide) ?_
    refine rp_istore dX3_lookedAt_24 (by decide) rfl ?_
    refine rp_bipush dX3_lookedAt_26 (by decide) ?_
    refine rp_istore dX3_lookedAt_28 (by decide) rfl ?_
    refine rp_iconst dX3_lookedAt_30 ?_
    refine rp_istore dX3_lookedAt_31 (by decide) rfl ?_
    refine rp_mask [true, false, true, true, true, true, true, false] (vs2 := [some (.ref (E.2.2.2.1 4)), none, some (.int v2), some (.int x2), some (.int (rI (-4))), some (.int (rI 12)), some (.int (rI 0)), none]) rfl rfl ?_
    exact rX3_lookedAt_33 σ 1000 v2 x2 (rI (-4)) (rI 12) (rI 0)
  · refine rp_bipush dX3_lookedAt_9 (by decide) ?_
    exact rp_iret rfl rfl dX3_lookedAt_11
/-! RocketPrint$Show.minutesAt(II)I -/
abbrev rmX3_minutesAt : Room := { frames := 3, cells := 0, slots := 0, locals := 72 }
def fX3_minutesAt_35 (σ : rp_S) (k10 : Int32 → Int32 → Int32 → Int32 → Option (Int32)) (v1 : Int32) (v2 : Int32) (v3 : Int32) (v4 : Int32) : Option (Int32) :=
  (k10 v1 v2 v3 (v4 + (rI 1)))
set_option maxRecDepth 100000 in
theorem rX3_minutesAt_35 {E : rp_E} (σ : rp_S) (k10 : Int32 → Int32 → Int32 → Int32 → Option (Int32)) (hk10 : ∀ (v1 : Int32) (v2 : Int32) (v3 : Int32) (v4 : Int32), rp_R E (rp_mK E rmX3_minutesAt) mX3_minutesAt 10 [some (.ref (E.2.2.2.1 4)), some (.int v1), some (.int v2), some (.int v3), some (.int v4)] [] σ (rp_hi σ) (k10 v1 v2 v3 v4)) (v1 : Int32) (v2 : Int32) (v3 : Int32) (v4 : Int32) : rp_R E (rp_mK E rmX3_minutesAt) mX3_minutesAt 35 [some (.ref (E.2.2.2.1 4)), some (.int v1), some (.int v2), some (.int v3), some (.int v4)] [] σ (rp_hi σ) (fX3_minutesAt_35 σ k10 v1 v2 v3 v4) := by
  rw [fX3_minutesAt_35]
  refine rp_iinc (x := v4) dX3_minutesAt_35 rfl (by decide) rfl ?_
  refine rp_goto (tgt := 10) dX3_minutesAt_38 (by decide) ?_
  refine rp_mask [true, true, true, true, true] (vs2 := [some (.ref (E.2.2.2.1 4)), some (.int v1), some (.int v2), some (.int v3), some (.int (v4 + (rI 1)))]) rfl rfl ?_
  exact hk10 v1 v2 v3 (v4 + (rI 1))
def fX3_minutesAt_10 (σ : rp_S) : Nat → Int32 → Int32 → Int32 → Int32 → Option (Int32)
  | 0, _, _, _, _ => none
  | n + 1, v1, v2, v3, v4 =>
    ((rq_rd σ 9 6 v2).bind fun x2 =>
    (if x2 ≤ v4 then
    (some v3)
  else
    ((fX3_lookedAt σ v1 v4).bind fun x3 =>
    (if x3 = v2 then
    (fX3_minutesAt_35 σ (fun v1 v2 v3 v4 => fX3_minutesAt_10 σ n v1 v2 v3 v4) v1 v2 (v3 + (rI 1)) v4)
  else
    (fX3_minutesAt_35 σ (fun v1 v2 v3 v4 => fX3_minutesAt_10 σ n v1 v2 v3 v4) v1 v2 v3 v4)))))
set_option maxRecDepth 100000 in
theorem rX3_minutesAt_10 {E : rp_E} (σ : rp_S) : ∀ (n : Nat) (v1 : Int32) (v2 : Int32) (v3 : Int32) (v4 : Int32), rp_R E (rp_mK E rmX3_minutesAt) mX3_minutesAt 10 [some (.ref (E.2.2.2.1 4)), some (.int v1), some (.int v2), some (.int v3), some (.int v4)] [] σ (rp_hi σ) (fX3_minutesAt_10 σ n v1 v2 v3 v4) := by
  intro n
  induction n with
  | zero =>
    intro v1 v2 v3 v4
    rw [fX3_minutesAt_10]
    exact rp_none
  | succ n ih =>
    intro v1 v2 v3 v4
    rw [fX3_minutesAt_10]
    refine rp_iload (x := v4) dX3_minutesAt_10 rfl ?_
    refine rp_aload_n (x := (E.2.2.2.1 4)) dX3_minutesAt_12 rfl ?_
    refine rp_getR (k := 2) (b := 9) sh4 rfl fdX3_22 dX3_minutesAt_13 ?_
    refine rp_iload_n (x := v2) dX3_minutesAt_16 rfl ?_
    refine rp_iaload sh9 dX3_minutesAt_17 (fun x2 => ?_)
    refine rp_icmp_ge (tgt := 41) dX3_minutesAt_18 (by decide) ?_ ?_
    · refine rp_iload_n (x := v3) dX3_minutesAt_41 rfl ?_
      exact rp_iret rfl rfl dX3_minutesAt_42
    · refine rp_aload_n (x := (E.2.2.2.1 4)) dX3_minutesAt_21 rfl ?_
      refine rp_iload_n (x := v1) dX3_minutesAt_22 rfl ?_
      refine rp_iload (x := v4) dX3_minutesAt_23 rfl ?_
      refine rp_callV_hi (As := [.int v1, .int v4]) (rest := []) (b := (E.2.2.2.1 4)) (rX3_lookedAt σ v1 v4) cbX3_lookedAt lkX3_81 viX3_lookedAt (rp_rcO sh4 rfl) rfl (Nat.le_of_ble_eq_true rfl) ⟨rfl, rfl, ⟨Nat.le_of_ble_eq_true rfl, Nat.le_of_ble_eq_true rfl⟩, Nat.zero_le _, Nat.zero_le _⟩ rfl (Nat.le_of_ble_eq_true rfl) dX3_minutesAt_25 (fun x3 hx3 => ?_)
      refine rp_iload_n (x := v2) dX3_minutesAt_28 rfl ?_
      refine rp_icmp_ne (tgt := 35) dX3_minutesAt_29 (by decide) ?_ ?_
      · refine rp_mask [true, true, true, true, true] (vs2 := [some (.ref (E.2.2.2.1 4)), some (.int v1), some (.int v2), some (.int v3), some (.int v4)]) rfl rfl ?_
        exact rX3_minutesAt_35 σ (fun v1 v2 v3 v4 => fX3_minutesAt_10 σ n v1 v2 v3 v4) (fun v1 v2 v3 v4 => ih v1 v2 v3 v4) v1 v2 v3 v4
      · refine rp_iinc (x := v3) dX3_minutesAt_32 rfl (by decide) rfl ?_
        refine rp_mask [true, true, true, true, true] (vs2 := [some (.ref (E.2.2.2.1 4)), some (.int v1), some (.int v2), some (.int (v3 + (rI 1))), some (.int v4)]) rfl rfl ?_
        exact rX3_minutesAt_35 σ (fun v1 v2 v3 v4 => fX3_minutesAt_10 σ n v1 v2 v3 v4) (fun v1 v2 v3 v4 => ih v1 v2 v3 v4) v1 v2 (v3 + (rI 1)) v4
def fX3_minutesAt (σ : rp_S) (v1 : Int32) (v2 : Int32) : Option (Int32) :=
  ((rq_rd σ 8 6 v2).bind fun x1 =>
    (fX3_minutesAt_10 σ 1000 v1 v2 (rI 0) x1))
set_option maxRecDepth 100000 in
theorem rX3_minutesAt {E : rp_E} (σ : rp_S) (v1 : Int32) (v2 : Int32)   : rp_R E (rp_mK E rmX3_minutesAt) mX3_minutesAt 0 [some (.ref (E.2.2.2.1 4)), some (.int v1), some (.int v2), none, none] [] σ (rp_hi σ) (fX3_minutesAt σ v1 v2) := by
  rw [fX3_minutesAt]
  refine rp_iconst dX3_minutesAt_0 ?_
  refine rp_istore_n dX3_minutesAt_1 (by decide) rfl ?_
  refine rp_aload_n (x := (E.2.2.2.1 4)) dX3_minutesAt_2 rfl ?_
  refine rp_getR (k := 1) (b := 8) sh4 rfl fdX3_18 dX3_minutesAt_3 ?_
  refine rp_iload_n (x := v2) dX3_minutesAt_6 rfl ?_
  refine rp_iaload sh8 dX3_minutesAt_7 (fun x1 => ?_)
  refine rp_istore dX3_minutesAt_8 (by decide) rfl ?_
  refine rp_mask [true, true, true, true, true] (vs2 := [some (.ref (E.2.2.2.1 4)), some (.int v1), some (.int v2), some (.int (rI 0)), some (.int x1)]) rfl rfl ?_
  exact rX3_minutesAt_10 σ 1000 v1 v2 (rI 0) x1
/-! RocketPrint$Show.minutesOfAll()I -/
abbrev rmX3_minutesOfAll : Room := { frames := 4, cells := 0, slots := 0, locals := 96 }
def fX3_minutesOfAll_17 (σ : rp_S) (k4 : Int32 → Int32 → Option (Int32)) : Nat → Int32 → Int32 → Int32 → Option (Int32)
  | 0, _, _, _ => none
  | n + 1, v1, v2, v3 =>
    (if (σ 5 2) ≤ v3 then
    (k4 v1 (v2 + (rI 1)))
  else
    ((fX3_minutesAt σ v2 v3).bind fun x1 =>
    (fX3_minutesOfAll_17 σ k4 n (v1 + x1) v2 (v3 + (rI 1)))))
set_option maxRecDepth 100000 in
theorem rX3_minutesOfAll_17 {E : rp_E} (σ : rp_S) (k4 : Int32 → Int32 → Option (Int32)) (hk4 : ∀ (v1 : Int32) (v2 : Int32), rp_R E (rp_mK E rmX3_minutesOfAll) mX3_minutesOfAll 4 [some (.ref (E.2.2.2.1 4)), some (.int v1), some (.int v2), none] [] σ (rp_hi σ) (k4 v1 v2)) : ∀ (n : Nat) (v1 : Int32) (v2 : Int32) (v3 : Int32), rp_R E (rp_mK E rmX3_minutesOfAll) mX3_minutesOfAll 17 [some (.ref (E.2.2.2.1 4)), some (.int v1), some (.int v2), some (.int v3)] [] σ (rp_hi σ) (fX3_minutesOfAll_17 σ k4 n v1 v2 v3) := by
  intro n
  induction n with
  | zero =>
    intro v1 v2 v3
    rw [fX3_minutesOfAll_17]
    exact rp_none
  | succ n ih =>
    intro v1 v2 v3
    rw [fX3_minutesOfAll_17]
    refine rp_iload_n (x := v3) dX3_minutesOfAll_17 rfl ?_
    refine rp_aload_n (x := (E.2.2.2.1 4)) dX3_minutesOfAll_18 rfl ?_
    refine rp_getR (k := 0) (b := 5) sh4 rfl fdX3_12 dX3_minutesOfAll_19 ?_
    refine rp_getI (k := 2) sh5 rfl fdX3_38 dX3_minutesOfAll_22 ?_
    refine rp_icmp_ge (tgt := 43) dX3_minutesOfAll_25 (by decide) ?_ ?_
    · refine rp_iinc (x := v2) dX3_minutesOfAll_43 rfl (by decide) rfl ?_
      refine rp_goto (tgt := 4) dX3_minutesOfAll_46 (by decide) ?_
      refine rp_mask [true, true, true, false] (vs2 := [some (.ref (E.2.2.2.1 4)), some (.int v1), some (.int (v2 + (rI 1))), none]) rfl rfl ?_
      exact hk4 v1 (v2 + (rI 1))
    · refine rp_iload_n (x := v1) dX3_minutesOfAll_28 rfl ?_
      refine rp_aload_n (x := (E.2.2.2.1 4)) dX3_minutesOfAll_29 rfl ?_
      refine rp_iload_n (x := v2) dX3_minutesOfAll_30 rfl ?_
      refine rp_iload_n (x := v3) dX3_minutesOfAll_31 rfl ?_
      refine rp_callV_hi (As := [.int v2, .int v3]) (rest := [.int v1]) (b := (E.2.2.2.1 4)) (rX3_minutesAt σ v2 v3) cbX3_minutesAt lkX3_90 viX3_minutesAt (rp_rcO sh4 rfl) rfl (Nat.le_of_ble_eq_true rfl) ⟨rfl, rfl, ⟨Nat.le_of_ble_eq_true rfl, Nat.le_of_ble_eq_true rfl⟩, Nat.zero_le _, Nat.zero_le _⟩ rfl (Nat.le_of_ble_eq_true rfl) dX3_minutesOfAll_32 (fun x1 hx1 => ?_)
      refine rp_iadd dX3_minutesOfAll_35 ?_
      refine rp_istore_n dX3_minutesOfAll_36 (by decide) rfl ?_
      refine rp_iinc (x := v3) dX3_minutesOfAll_37 rfl (by decide) rfl ?_
      refine rp_goto (tgt := 17) dX3_minutesOfAll_40 (by decide) ?_
      refine rp_mask [true, true, true, true] (vs2 := [some (.ref (E.2.2.2.1 4)), some (.int (v1 + x1)), some (.int v2), some (.int (v3 + (rI 1)))]) rfl rfl ?_
      exact ih (v1 + x1) v2 (v3 + (rI 1))
def fX3_minutesOfAll_4 (σ : rp_S) : Nat → Int32 → Int32 → Option (Int32)
  | 0, _, _ => none
  | n + 1, v1, v2 =>
    (if (σ 5 3) ≤ v2 then
    (some v1)
  else
    (fX3_minutesOfAll_17 σ (fun v1 v2 => fX3_minutesOfAll_4 σ n v1 v2) 1000 v1 v2 (rI 0)))
set_option maxRecDepth 100000 in
theorem rX3_minutesOfAll_4 {E : rp_E} (σ : rp_S) : ∀ (n : Nat) (v1 : Int32) (v2 : Int32), rp_R E (rp_mK E rmX3_minutesOfAll) mX3_minutesOfAll 4 [some (.ref (E.2.2.2.1 4)), some (.int v1), some (.int v2), none] [] σ (rp_hi σ) (fX3_minutesOfAll_4 σ n v1 v2) := by
  intro n
  induction n with
  | zero =>
    intro v1 v2
    rw [fX3_minutesOfAll_4]
    exact rp_none
  | succ n ih =>
    intro v1 v2
    rw [fX3_minutesOfAll_4]
    refine rp_iload_n (x := v2) dX3_minutesOfAll_4 rfl ?_
    refine rp_aload_n (x := (E.2.2.2.1 4)) dX3_minutesOfAll_5 rfl ?_
    refine rp_getR (k := 0) (b := 5) sh4 rfl fdX3_12 dX3_minutesOfAll_6 ?_
    refine rp_getI (k := 3) sh5 rfl fdX3_78 dX3_minutesOfAll_9 ?_
    refine rp_icmp_ge (tgt := 49) dX3_minutesOfAll_12 (by decide) ?_ ?_
    · refine rp_iload_n (x := v1) dX3_minutesOfAll_49 rfl ?_
      exact rp_iret rfl rfl dX3_minutesOfAll_50
    · refine rp_iconst dX3_minutesOfAll_15 ?_
      refine rp_istore_n dX3_minutesOfAll_16 (by decide) rfl ?_
      refine rp_mask [true, true, true, true] (vs2 := [some (.ref (E.2.2.2.1 4)), some (.int v1), some (.int v2), some (.int (rI 0))]) rfl rfl ?_
      exact rX3_minutesOfAll_17 σ (fun v1 v2 => fX3_minutesOfAll_4 σ n v1 v2) (fun v1 v2 => ih v1 v2) 1000 v1 v2 (rI 0)
def fX3_minutesOfAll (σ : rp_S)  : Option (Int32) :=
  (fX3_minutesOfAll_4 σ 1000 (rI 0) (rI 0))
set_option maxRecDepth 100000 in
theorem rX3_minutesOfAll {E : rp_E} (σ : rp_S)    : rp_R E (rp_mK E rmX3_minutesOfAll) mX3_minutesOfAll 0 [some (.ref (E.2.2.2.1 4)), none, none, none] [] σ (rp_hi σ) (fX3_minutesOfAll σ) := by
  rw [fX3_minutesOfAll]
  refine rp_iconst dX3_minutesOfAll_0 ?_
  refine rp_istore_n dX3_minutesOfAll_1 (by decide) rfl ?_
  refine rp_iconst dX3_minutesOfAll_2 ?_
  refine rp_istore_n dX3_minutesOfAll_3 (by decide) rfl ?_
  refine rp_mask [true, true, true, false] (vs2 := [some (.ref (E.2.2.2.1 4)), some (.int (rI 0)), some (.int (rI 0)), none]) rfl rfl ?_
  exact rX3_minutesOfAll_4 σ 1000 (rI 0) (rI 0)
/-! RocketPrint$Show.distance(II)I -/
abbrev rmX3_distance : Room := { frames := 1, cells := 0, slots := 0, locals := 22 }
def fX3_distance (σ : rp_S) (v1 : Int32) (v2 : Int32) : Option (Int32) :=
  ((rq_rd σ 10 6 v2).bind fun x1 =>
    ((fX1_ofReader σ 5 v1 (rI 0)).bind fun x2 =>
    (some (rq_abs (x1 - x2)))))
set_option maxRecDepth 100000 in
theorem rX3_distance {E : rp_E} (σ : rp_S) (v1 : Int32) (v2 : Int32)   : rp_R E (rp_mK E rmX3_distance) mX3_distance 0 [some (.ref (E.2.2.2.1 4)), some (.int v1), some (.int v2)] [] σ (rp_hi σ) (fX3_distance σ v1 v2) := by
  rw [fX3_distance]
  refine rp_aload_n (x := (E.2.2.2.1 4)) dX3_distance_0 rfl ?_
  refine rp_getR (k := 3) (b := 10) sh4 rfl fdX3_25 dX3_distance_1 ?_
  refine rp_iload_n (x := v2) dX3_distance_4 rfl ?_
  refine rp_iaload sh10 dX3_distance_5 (fun x1 => ?_)
  refine rp_aload_n (x := (E.2.2.2.1 4)) dX3_distance_6 rfl ?_
  refine rp_getR (k := 0) (b := 5) sh4 rfl fdX3_12 dX3_distance_7 ?_
  refine rp_iload_n (x := v1) dX3_distance_10 rfl ?_
  refine rp_iconst dX3_distance_11 ?_
  refine rp_callV_hi (As := [.int v1, .int (rI 0)]) (rest := [.int x1]) (b := (E.2.2.2.1 5)) (rX1_ofReader σ 5 v1 (rI 0) ni5) cbX1_ofReader lkX3_60 viX1_ofReader (rp_rcO sh5 rfl) rfl (Nat.le_of_ble_eq_true rfl) ⟨rfl, rfl, ⟨Nat.le_of_ble_eq_true rfl, Nat.le_of_ble_eq_true rfl⟩, Nat.zero_le _, Nat.zero_le _⟩ rfl (Nat.le_of_ble_eq_true rfl) dX3_distance_12 (fun x2 hx2 => ?_)
  refine rp_isub dX3_distance_15 ?_
  refine rp_mabs mwX3_63 ⟨Nat.le_of_ble_eq_true rfl, Nat.le_of_ble_eq_true rfl, Nat.zero_le _, Nat.zero_le _⟩ dX3_distance_16 ?_
  exact rp_iret rfl rfl dX3_distance_19
/-! RocketPrint$Show.reaches(II)Z -/
abbrev rmX3_reaches : Room := { frames := 2, cells := 0, slots := 0, locals := 44 }
def fX3_reaches (σ : rp_S) (v1 : Int32) (v2 : Int32) : Option (Int32) :=
  ((fX3_distance σ v1 v2).bind fun x1 =>
    ((rq_rd σ 11 6 v2).bind fun x2 =>
    (if x2 < x1 then
    (some (rI 0))
  else
    (some (rI 1)))))
set_option maxRecDepth 100000 in
theorem rX3_reaches {E : rp_E} (σ : rp_S) (v1 : Int32) (v2 : Int32)   : rp_R E (rp_mK E rmX3_reaches) mX3_reaches 0 [some (.ref (E.2.2.2.1 4)), some (.int v1), some (.int v2)] [] σ (rp_hi σ) (fX3_reaches σ v1 v2) := by
  rw [fX3_reaches]
  refine rp_aload_n (x := (E.2.2.2.1 4)) dX3_reaches_0 rfl ?_
  refine rp_iload_n (x := v1) dX3_reaches_1 rfl ?_
  refine rp_iload_n (x := v2) dX3_reaches_2 rfl ?_
  refine rp_callV_hi (As := [.int v1, .int v2]) (rest := []) (b := (E.2.2.2.1 4)) (rX3_distance σ v1 v2) cbX3_distance lkX3_68 viX3_distance (rp_rcO sh4 rfl) rfl (Nat.le_of_ble_eq_true rfl) ⟨rfl, rfl, ⟨Nat.le_of_ble_eq_true rfl, Nat.le_of_ble_eq_true rfl⟩, Nat.zero_le _, Nat.zero_le _⟩ rfl (Nat.le_of_ble_eq_true rfl) dX3_reaches_3 (fun x1 hx1 => ?_)
  refine rp_aload_n (x := (E.2.2.2.1 4)) dX3_reaches_6 rfl ?_
  refine rp_getR (k := 4) (b := 11) sh4 rfl fdX3_28 dX3_reaches_7 ?_
  refine rp_iload_n (x := v2) dX3_reaches_10 rfl ?_
  refine rp_iaload sh11 dX3_reaches_11 (fun x2 => ?_)
  refine rp_icmp_gt (tgt := 19) dX3_reaches_12 (by decide) ?_ ?_
  · refine rp_iconst dX3_reaches_19 ?_
    exact rp_zret (x' := (rI 0)) rfl (by decide) rfl dX3_reaches_20
  · refine rp_iconst dX3_reaches_15 ?_
    refine rp_goto (tgt := 20) dX3_reaches_16 (by decide) ?_
    exact rp_zret (x' := (rI 1)) rfl (by decide) rfl dX3_reaches_20
/-! RocketPrint$Show.isWholeAlone(II)Z -/
abbrev rmX3_isWholeAlone : Room := { frames := 3, cells := 0, slots := 0, locals := 66 }
def fX3_isWholeAlone_33 (σ : rp_S) : Nat → Int32 → Int32 → Int32 → Option (Int32)
  | 0, _, _, _ => none
  | n + 1, v1, v2, v3 =>
    ((rq_rd σ 9 6 v2).bind fun x5 =>
    (if x5 ≤ v3 then
    (some (rI 1))
  else
    ((fX3_coughsAt σ v1 v3).bind fun x6 =>
    (if x6 = 0 then
    (fX3_isWholeAlone_33 σ n v1 v2 (v3 + (rI 1)))
  else
    (some (rI 0))))))
set_option maxRecDepth 100000 in
theorem rX3_isWholeAlone_33 {E : rp_E} (σ : rp_S) : ∀ (n : Nat) (v1 : Int32) (v2 : Int32) (v3 : Int32), rp_R E (rp_mK E rmX3_isWholeAlone) mX3_isWholeAlone 33 [some (.ref (E.2.2.2.1 4)), some (.int v1), some (.int v2), some (.int v3)] [] σ (rp_hi σ) (fX3_isWholeAlone_33 σ n v1 v2 v3) := by
  intro n
  induction n with
  | zero =>
    intro v1 v2 v3
    rw [fX3_isWholeAlone_33]
    exact rp_none
  | succ n ih =>
    intro v1 v2 v3
    rw [fX3_isWholeAlone_33]
    refine rp_iload_n (x := v3) dX3_isWholeAlone_33 rfl ?_
    refine rp_aload_n (x := (E.2.2.2.1 4)) dX3_isWholeAlone_34 rfl ?_
    refine rp_getR (k := 2) (b := 9) sh4 rfl fdX3_22 dX3_isWholeAlone_35 ?_
    refine rp_iload_n (x := v2) dX3_isWholeAlone_38 rfl ?_
    refine rp_iaload sh9 dX3_isWholeAlone_39 (fun x5 => ?_)
    refine rp_icmp_ge (tgt := 60) dX3_isWholeAlone_40 (by decide) ?_ ?_
    · refine rp_iconst dX3_isWholeAlone_60 ?_
      exact rp_zret (x' := (rI 1)) rfl (by decide) rfl dX3_isWholeAlone_61
    · refine rp_aload_n (x := (E.2.2.2.1 4)) dX3_isWholeAlone_43 rfl ?_
      refine rp_iload_n (x := v1) dX3_isWholeAlone_44 rfl ?_
      refine rp_iload_n (x := v3) dX3_isWholeAlone_45 rfl ?_
      refine rp_callV_hi (As := [.int v1, .int v3]) (rest := []) (b := (E.2.2.2.1 4)) (rX3_coughsAt σ v1 v3) cbX3_coughsAt lkX3_71 viX3_coughsAt (rp_rcO sh4 rfl) rfl (Nat.le_of_ble_eq_true rfl) ⟨rfl, rfl, ⟨Nat.le_of_ble_eq_true rfl, Nat.le_of_ble_eq_true rfl⟩, Nat.zero_le _, Nat.zero_le _⟩ rfl (Nat.le_of_ble_eq_true rfl) dX3_isWholeAlone_46 (fun x6 hx6 => ?_)
      refine rp_if_eq (tgt := 54) dX3_isWholeAlone_49 (by decide) ?_ ?_
      · refine rp_iinc (x := v3) dX3_isWholeAlone_54 rfl (by decide) rfl ?_
        refine rp_goto (tgt := 33) dX3_isWholeAlone_57 (by decide) ?_
        refine rp_mask [true, true, true, true] (vs2 := [some (.ref (E.2.2.2.1 4)), some (.int v1), some (.int v2), some (.int (v3 + (rI 1)))]) rfl rfl ?_
        exact ih v1 v2 (v3 + (rI 1))
      · refine rp_iconst dX3_isWholeAlone_52 ?_
        exact rp_zret (x' := (rI 0)) rfl (by decide) rfl dX3_isWholeAlone_53
def fX3_isWholeAlone (σ : rp_S) (v1 : Int32) (v2 : Int32) : Option (Int32) :=
  ((rq_rd σ 9 6 v2).bind fun x1 =>
    ((rq_rd σ 8 6 v2).bind fun x2 =>
    (if x1 ≤ x2 then
    (some (rI 0))
  else
    ((fX3_reaches σ v1 v2).bind fun x3 =>
    (if x3 = 0 then
    (some (rI 0))
  else
    ((rq_rd σ 8 6 v2).bind fun x4 =>
    (fX3_isWholeAlone_33 σ 1000 v1 v2 x4)))))))
set_option maxRecDepth 100000 in
theorem rX3_isWholeAlone {E : rp_E} (σ : rp_S) (v1 : Int32) (v2 : Int32)   : rp_R E (rp_mK E rmX3_isWholeAlone) mX3_isWholeAlone 0 [some (.ref (E.2.2.2.1 4)), some (.int v1), some (.int v2), none] [] σ (rp_hi σ) (fX3_isWholeAlone σ v1 v2) := by
  rw [fX3_isWholeAlone]
  refine rp_aload_n (x := (E.2.2.2.1 4)) dX3_isWholeAlone_0 rfl ?_
  refine rp_getR (k := 2) (b := 9) sh4 rfl fdX3_22 dX3_isWholeAlone_1 ?_
  refine rp_iload_n (x := v2) dX3_isWholeAlone_4 rfl ?_
  refine rp_iaload sh9 dX3_isWholeAlone_5 (fun x1 => ?_)
  refine rp_aload_n (x := (E.2.2.2.1 4)) dX3_isWholeAlone_6 rfl ?_
  refine rp_getR (k := 1) (b := 8) sh4 rfl fdX3_18 dX3_isWholeAlone_7 ?_
  refine rp_iload_n (x := v2) dX3_isWholeAlone_10 rfl ?_
  refine rp_iaload sh8 dX3_isWholeAlone_11 (fun x2 => ?_)
  refine rp_icmp_le (tgt := 24) dX3_isWholeAlone_12 (by decide) ?_ ?_
  · refine rp_iconst dX3_isWholeAlone_24 ?_
    exact rp_zret (x' := (rI 0)) rfl (by decide) rfl dX3_isWholeAlone_25
  · refine rp_aload_n (x := (E.2.2.2.1 4)) dX3_isWholeAlone_15 rfl ?_
    refine rp_iload_n (x := v1) dX3_isWholeAlone_16 rfl ?_
    refine rp_iload_n (x := v2) dX3_isWholeAlone_17 rfl ?_
    refine rp_callV_hi (As := [.int v1, .int v2]) (rest := []) (b := (E.2.2.2.1 4)) (rX3_reaches σ v1 v2) cbX3_reaches lkX3_96 viX3_reaches (rp_rcO sh4 rfl) rfl (Nat.le_of_ble_eq_true rfl) ⟨rfl, rfl, ⟨Nat.le_of_ble_eq_true rfl, Nat.le_of_ble_eq_true rfl⟩, Nat.zero_le _, Nat.zero_le _⟩ rfl (Nat.le_of_ble_eq_true rfl) dX3_isWholeAlone_18 (fun x3 hx3 => ?_)
    refine rp_if_ne (tgt := 26) dX3_isWholeAlone_21 (by decide) ?_ ?_
    · refine rp_aload_n (x := (E.2.2.2.1 4)) dX3_isWholeAlone_26 rfl ?_
      refine rp_getR (k := 1) (b := 8) sh4 rfl fdX3_18 dX3_isWholeAlone_27 ?_
      refine rp_iload_n (x := v2) dX3_isWholeAlone_30 rfl ?_
      refine rp_iaload sh8 dX3_isWholeAlone_31 (fun x4 => ?_)
      refine rp_istore_n dX3_isWholeAlone_32 (by decide) rfl ?_
      refine rp_mask [true, true, true, true] (vs2 := [some (.ref (E.2.2.2.1 4)), some (.int v1), some (.int v2), some (.int x4)]) rfl rfl ?_
      exact rX3_isWholeAlone_33 σ 1000 v1 v2 x4
    · refine rp_iconst dX3_isWholeAlone_24 ?_
      exact rp_zret (x' := (rI 0)) rfl (by decide) rfl dX3_isWholeAlone_25
/-! RocketPrint$Show.overlap(II)Z -/
abbrev rmX3_overlap : Room := { frames := 1, cells := 0, slots := 0, locals := 21 }
def fX3_overlap (σ : rp_S) (v1 : Int32) (v2 : Int32) : Option (Int32) :=
  ((rq_rd σ 8 6 v1).bind fun x1 =>
    ((rq_rd σ 8 6 v2).bind fun x2 =>
    ((rq_rd σ 9 6 v1).bind fun x3 =>
    ((rq_rd σ 9 6 v2).bind fun x4 =>
    (if (rq_min x3 x4) ≤ (rq_max x1 x2) then
    (some (rI 0))
  else
    (some (rI 1)))))))
set_option maxRecDepth 100000 in
theorem rX3_overlap {E : rp_E} (σ : rp_S) (v1 : Int32) (v2 : Int32)   : rp_R E (rp_mK E rmX3_overlap) mX3_overlap 0 [some (.ref (E.2.2.2.1 4)), some (.int v1), some (.int v2)] [] σ (rp_hi σ) (fX3_overlap σ v1 v2) := by
  rw [fX3_overlap]
  refine rp_aload_n (x := (E.2.2.2.1 4)) dX3_overlap_0 rfl ?_
  refine rp_getR (k := 1) (b := 8) sh4 rfl fdX3_18 dX3_overlap_1 ?_
  refine rp_iload_n (x := v1) dX3_overlap_4 rfl ?_
  refine rp_iaload sh8 dX3_overlap_5 (fun x1 => ?_)
  refine rp_aload_n (x := (E.2.2.2.1 4)) dX3_overlap_6 rfl ?_
  refine rp_getR (k := 1) (b := 8) sh4 rfl fdX3_18 dX3_overlap_7 ?_
  refine rp_iload_n (x := v2) dX3_overlap_10 rfl ?_
  refine rp_iaload sh8 dX3_overlap_11 (fun x2 => ?_)
  refine rp_mmax mwX3_106 ⟨Nat.le_of_ble_eq_true rfl, Nat.le_of_ble_eq_true rfl, Nat.zero_le _, Nat.zero_le _⟩ dX3_overlap_12 ?_
  refine rp_aload_n (x := (E.2.2.2.1 4)) dX3_overlap_15 rfl ?_
  refine rp_getR (k := 2) (b := 9) sh4 rfl fdX3_22 dX3_overlap_16 ?_
  refine rp_iload_n (x := v1) dX3_overlap_19 rfl ?_
  refine rp_iaload sh9 dX3_overlap_20 (fun x3 => ?_)
  refine rp_aload_n (x := (E.2.2.2.1 4)) dX3_overlap_21 rfl ?_
  refine rp_getR (k := 2) (b := 9) sh4 rfl fdX3_22 dX3_overlap_22 ?_
  refine rp_iload_n (x := v2) dX3_overlap_25 rfl ?_
  refine rp_iaload sh9 dX3_overlap_26 (fun x4 => ?_)
  refine rp_mmin mwX3_109 ⟨Nat.le_of_ble_eq_true rfl, Nat.le_of_ble_eq_true rfl, Nat.zero_le _, Nat.zero_le _⟩ dX3_overlap_27 ?_
  refine rp_icmp_ge (tgt := 37) dX3_overlap_30 (by decide) ?_ ?_
  · refine rp_iconst dX3_overlap_37 ?_
    exact rp_zret (x' := (rI 0)) rfl (by decide) rfl dX3_overlap_38
  · refine rp_iconst dX3_overlap_33 ?_
    refine rp_goto (tgt := 38) dX3_overlap_34 (by decide) ?_
    exact rp_zret (x' := (rI 1)) rfl (by decide) rfl dX3_overlap_38
/-! RocketPrint$Show.isBefore(III)Z -/
abbrev rmX3_isBefore : Room := { frames := 2, cells := 0, slots := 0, locals := 44 }
def fX3_isBefore (σ : rp_S) (v1 : Int32) (v2 : Int32) (v3 : Int32) : Option (Int32) :=
  ((fX3_distance σ v1 v2).bind fun x1 =>
    ((fX3_distance σ v1 v3).bind fun x2 =>
    (if x1 < x2 then
    (some (rI 1))
  else
    (if x1 = x2 then
    (if v3 ≤ v2 then
    (some (rI 0))
  else
    (some (rI 1)))
  else
    (some (rI 0))))))
set_option maxRecDepth 100000 in
theorem rX3_isBefore {E : rp_E} (σ : rp_S) (v1 : Int32) (v2 : Int32) (v3 : Int32)   : rp_R E (rp_mK E rmX3_isBefore) mX3_isBefore 0 [some (.ref (E.2.2.2.1 4)), some (.int v1), some (.int v2), some (.int v3), none, none] [] σ (rp_hi σ) (fX3_isBefore σ v1 v2 v3) := by
  rw [fX3_isBefore]
  refine rp_aload_n (x := (E.2.2.2.1 4)) dX3_isBefore_0 rfl ?_
  refine rp_iload_n (x := v1) dX3_isBefore_1 rfl ?_
  refine rp_iload_n (x := v2) dX3_isBefore_2 rfl ?_
  refine rp_callV_hi (As := [.int v1, .int v2]) (rest := []) (b := (E.2.2.2.1 4)) (rX3_distance σ v1 v2) cbX3_distance lkX3_68 viX3_distance (rp_rcO sh4 rfl) rfl (Nat.le_of_ble_eq_true rfl) ⟨rfl, rfl, ⟨Nat.le_of_ble_eq_true rfl, Nat.le_of_ble_eq_true rfl⟩, Nat.zero_le _, Nat.zero_le _⟩ rfl (Nat.le_of_ble_eq_true rfl) dX3_isBefore_3 (fun x1 hx1 => ?_)
  refine rp_istore dX3_isBefore_6 (by decide) rfl ?_
  refine rp_aload_n (x := (E.2.2.2.1 4)) dX3_isBefore_8 rfl ?_
  refine rp_iload_n (x := v1) dX3_isBefore_9 rfl ?_
  refine rp_iload_n (x := v3) dX3_isBefore_10 rfl ?_
  refine rp_callV_hi (As := [.int v1, .int v3]) (rest := []) (b := (E.2.2.2.1 4)) (rX3_distance σ v1 v3) cbX3_distance lkX3_68 viX3_distance (rp_rcO sh4 rfl) rfl (Nat.le_of_ble_eq_true rfl) ⟨rfl, rfl, ⟨Nat.le_of_ble_eq_true rfl, Nat.le_of_ble_eq_true rfl⟩, Nat.zero_le _, Nat.zero_le _⟩ rfl (Nat.le_of_ble_eq_true rfl) dX3_isBefore_11 (fun x2 hx2 => ?_)
  refine rp_istore dX3_isBefore_14 (by decide) rfl ?_
  refine rp_iload (x := x1) dX3_isBefore_16 rfl ?_
  refine rp_iload (x := x2) dX3_isBefore_18 rfl ?_
  refine rp_icmp_lt (tgt := 35) dX3_isBefore_20 (by decide) ?_ ?_
  · refine rp_iconst dX3_isBefore_35 ?_
    refine rp_goto (tgt := 40) dX3_isBefore_36 (by decide) ?_
    exact rp_zret (x' := (rI 1)) rfl (by decide) rfl dX3_isBefore_40
  · refine rp_iload (x := x1) dX3_isBefore_23 rfl ?_
    refine rp_iload (x := x2) dX3_isBefore_25 rfl ?_
    refine rp_icmp_ne (tgt := 39) dX3_isBefore_27 (by decide) ?_ ?_
    · refine rp_iconst dX3_isBefore_39 ?_
      exact rp_zret (x' := (rI 0)) rfl (by decide) rfl dX3_isBefore_40
    · refine rp_iload_n (x := v2) dX3_isBefore_30 rfl ?_
      refine rp_iload_n (x := v3) dX3_isBefore_31 rfl ?_
      refine rp_icmp_ge (tgt := 39) dX3_isBefore_32 (by decide) ?_ ?_
      · refine rp_iconst dX3_isBefore_39 ?_
        exact rp_zret (x' := (rI 0)) rfl (by decide) rfl dX3_isBefore_40
      · refine rp_iconst dX3_isBefore_35 ?_
        refine rp_goto (tgt := 40) dX3_isBefore_36 (by decide) ?_
        exact rp_zret (x' := (rI 1)) rfl (by decide) rfl dX3_isBefore_40
/-! RocketPrint$Show.rivalsOf(II)I -/
abbrev rmX3_rivalsOf : Room := { frames := 3, cells := 0, slots := 0, locals := 69 }
def fX3_rivalsOf_57 (σ : rp_S) (k5 : Int32 → Int32 → Int32 → Int32 → Option (Int32)) (v1 : Int32) (v2 : Int32) (v3 : Int32) (v4 : Int32) : Option (Int32) :=
  (k5 v1 v2 v3 (v4 + (rI 1)))
set_option maxRecDepth 100000 in
theorem rX3_rivalsOf_57 {E : rp_E} (σ : rp_S) (k5 : Int32 → Int32 → Int32 → Int32 → Option (Int32)) (hk5 : ∀ (v1 : Int32) (v2 : Int32) (v3 : Int32) (v4 : Int32), rp_R E (rp_mK E rmX3_rivalsOf) mX3_rivalsOf 5 [some (.ref (E.2.2.2.1 4)), some (.int v1), some (.int v2), some (.int v3), some (.int v4)] [] σ (rp_hi σ) (k5 v1 v2 v3 v4)) (v1 : Int32) (v2 : Int32) (v3 : Int32) (v4 : Int32) : rp_R E (rp_mK E rmX3_rivalsOf) mX3_rivalsOf 57 [some (.ref (E.2.2.2.1 4)), some (.int v1), some (.int v2), some (.int v3), some (.int v4)] [] σ (rp_hi σ) (fX3_rivalsOf_57 σ k5 v1 v2 v3 v4) := by
  rw [fX3_rivalsOf_57]
  refine rp_iinc (x := v4) dX3_rivalsOf_57 rfl (by decide) rfl ?_
  refine rp_goto (tgt := 5) dX3_rivalsOf_60 (by decide) ?_
  refine rp_mask [true, true, true, true, true] (vs2 := [some (.ref (E.2.2.2.1 4)), some (.int v1), some (.int v2), some (.int v3), some (.int (v4 + (rI 1)))]) rfl rfl ?_
  exact hk5 v1 v2 v3 (v4 + (rI 1))
def fX3_rivalsOf_5 (σ : rp_S) : Nat → Int32 → Int32 → Int32 → Int32 → Option (Int32)
  | 0, _, _, _, _ => none
  | n + 1, v1, v2, v3, v4 =>
    (if (σ 5 2) ≤ v4 then
    (some v3)
  else
    (if v4 = v2 then
    (fX3_rivalsOf_57 σ (fun v1 v2 v3 v4 => fX3_rivalsOf_5 σ n v1 v2 v3 v4) v1 v2 v3 v4)
  else
    ((fX3_overlap σ v4 v2).bind fun x1 =>
    (if x1 = 0 then
    (fX3_rivalsOf_57 σ (fun v1 v2 v3 v4 => fX3_rivalsOf_5 σ n v1 v2 v3 v4) v1 v2 v3 v4)
  else
    ((fX3_reaches σ v1 v4).bind fun x2 =>
    (if x2 = 0 then
    (fX3_rivalsOf_57 σ (fun v1 v2 v3 v4 => fX3_rivalsOf_5 σ n v1 v2 v3 v4) v1 v2 v3 v4)
  else
    ((fX3_isBefore σ v1 v4 v2).bind fun x3 =>
    (if x3 = 0 then
    (fX3_rivalsOf_57 σ (fun v1 v2 v3 v4 => fX3_rivalsOf_5 σ n v1 v2 v3 v4) v1 v2 v3 v4)
  else
    (fX3_rivalsOf_57 σ (fun v1 v2 v3 v4 => fX3_rivalsOf_5 σ n v1 v2 v3 v4) v1 v2 (v3 + (rI 1)) v4)))))))))
set_option maxRecDepth 100000 in
theorem rX3_rivalsOf_5 {E : rp_E} (σ : rp_S) : ∀ (n : Nat) (v1 : Int32) (v2 : Int32) (v3 : Int32) (v4 : Int32), rp_R E (rp_mK E rmX3_rivalsOf) mX3_rivalsOf 5 [some (.ref (E.2.2.2.1 4)), some (.int v1), some (.int v2), some (.int v3), some (.int v4)] [] σ (rp_hi σ) (fX3_rivalsOf_5 σ n v1 v2 v3 v4) := by
  intro n
  induction n with
  | zero =>
    intro v1 v2 v3 v4
    rw [fX3_rivalsOf_5]
    exact rp_none
  | succ n ih =>
    intro v1 v2 v3 v4
    rw [fX3_rivalsOf_5]
    refine rp_iload (x := v4) dX3_rivalsOf_5 rfl ?_
    refine rp_aload_n (x := (E.2.2.2.1 4)) dX3_rivalsOf_7 rfl ?_
    refine rp_getR (k := 0) (b := 5) sh4 rfl fdX3_12 dX3_rivalsOf_8 ?_
    refine rp_getI (k := 2) sh5 rfl fdX3_38 dX3_rivalsOf_11 ?_
    refine rp_icmp_ge (tgt := 63) dX3_rivalsOf_14 (by decide) ?_ ?_
    · refine rp_iload_n (x := v3) dX3_rivalsOf_63 rfl ?_
      exact rp_iret rfl rfl dX3_rivalsOf_64
    · refine rp_iload (x := v4) dX3_rivalsOf_17 rfl ?_
      refine rp_iload_n (x := v2) dX3_rivalsOf_19 rfl ?_
      refine rp_icmp_eq (tgt := 57) dX3_rivalsOf_20 (by decide) ?_ ?_
      · refine rp_mask [true, true, true, true, true] (vs2 := [some (.ref (E.2.2.2.1 4)), some (.int v1), some (.int v2), some (.int v3), some (.int v4)]) rfl rfl ?_
        exact rX3_rivalsOf_57 σ (fun v1 v2 v3 v4 => fX3_rivalsOf_5 σ n v1 v2 v3 v4) (fun v1 v2 v3 v4 => ih v1 v2 v3 v4) v1 v2 v3 v4
      · refine rp_aload_n (x := (E.2.2.2.1 4)) dX3_rivalsOf_23 rfl ?_
        refine rp_iload (x := v4) dX3_rivalsOf_24 rfl ?_
        refine rp_iload_n (x := v2) dX3_rivalsOf_26 rfl ?_
        refine rp_callV_hi (As := [.int v4, .int v2]) (rest := []) (b := (E.2.2.2.1 4)) (rX3_overlap σ v4 v2) cbX3_overlap lkX3_99 viX3_overlap (rp_rcO sh4 rfl) rfl (Nat.le_of_ble_eq_true rfl) ⟨rfl, rfl, ⟨Nat.le_of_ble_eq_true rfl, Nat.le_of_ble_eq_true rfl⟩, Nat.zero_le _, Nat.zero_le _⟩ rfl (Nat.le_of_ble_eq_true rfl) dX3_rivalsOf_27 (fun x1 hx1 => ?_)
        refine rp_if_eq (tgt := 57) dX3_rivalsOf_30 (by decide) ?_ ?_
        · refine rp_mask [true, true, true, true, true] (vs2 := [some (.ref (E.2.2.2.1 4)), some (.int v1), some (.int v2), some (.int v3), some (.int v4)]) rfl rfl ?_
          exact rX3_rivalsOf_57 σ (fun v1 v2 v3 v4 => fX3_rivalsOf_5 σ n v1 v2 v3 v4) (fun v1 v2 v3 v4 => ih v1 v2 v3 v4) v1 v2 v3 v4
        · refine rp_aload_n (x := (E.2.2.2.1 4)) dX3_rivalsOf_33 rfl ?_
          refine rp_iload_n (x := v1) dX3_rivalsOf_34 rfl ?_
          refine rp_iload (x := v4) dX3_rivalsOf_35 rfl ?_
          refine rp_callV_hi (As := [.int v1, .int v4]) (rest := []) (b := (E.2.2.2.1 4)) (rX3_reaches σ v1 v4) cbX3_reaches lkX3_96 viX3_reaches (rp_rcO sh4 rfl) rfl (Nat.le_of_ble_eq_true rfl) ⟨rfl, rfl, ⟨Nat.le_of_ble_eq_true rfl, Nat.le_of_ble_eq_true rfl⟩, Nat.zero_le _, Nat.zero_le _⟩ rfl (Nat.le_of_ble_eq_true rfl) dX3_rivalsOf_37 (fun x2 hx2 => ?_)
          refine rp_if_eq (tgt := 57) dX3_rivalsOf_40 (by decide) ?_ ?_
          · refine rp_mask [true, true, true, true, true] (vs2 := [some (.ref (E.2.2.2.1 4)), some (.int v1), some (.int v2), some (.int v3), some (.int v4)]) rfl rfl ?_
            exact rX3_rivalsOf_57 σ (fun v1 v2 v3 v4 => fX3_rivalsOf_5 σ n v1 v2 v3 v4) (fun v1 v2 v3 v4 => ih v1 v2 v3 v4) v1 v2 v3 v4
          · refine rp_aload_n (x := (E.2.2.2.1 4)) dX3_rivalsOf_43 rfl ?_
            refine rp_iload_n (x := v1) dX3_rivalsOf_44 rfl ?_
            refine rp_iload (x := v4) dX3_rivalsOf_45 rfl ?_
            refine rp_iload_n (x := v2) dX3_rivalsOf_47 rfl ?_
            refine rp_callV_hi (As := [.int v1, .int v4, .int v2]) (rest := []) (b := (E.2.2.2.1 4)) (rX3_isBefore σ v1 v4 v2) cbX3_isBefore lkX3_102 viX3_isBefore (rp_rcO sh4 rfl) rfl (Nat.le_of_ble_eq_true rfl) ⟨rfl, rfl, ⟨Nat.le_of_ble_eq_true rfl, Nat.le_of_ble_eq_true rfl⟩, Nat.zero_le _, Nat.zero_le _⟩ rfl (Nat.le_of_ble_eq_true rfl) dX3_rivalsOf_48 (fun x3 hx3 => ?_)
            refine rp_if_eq (tgt := 57) dX3_rivalsOf_51 (by decide) ?_ ?_
            · refine rp_mask [true, true, true, true, true] (vs2 := [some (.ref (E.2.2.2.1 4)), some (.int v1), some (.int v2), some (.int v3), some (.int v4)]) rfl rfl ?_
              exact rX3_rivalsOf_57 σ (fun v1 v2 v3 v4 => fX3_rivalsOf_5 σ n v1 v2 v3 v4) (fun v1 v2 v3 v4 => ih v1 v2 v3 v4) v1 v2 v3 v4
            · refine rp_iinc (x := v3) dX3_rivalsOf_54 rfl (by decide) rfl ?_
              refine rp_mask [true, true, true, true, true] (vs2 := [some (.ref (E.2.2.2.1 4)), some (.int v1), some (.int v2), some (.int (v3 + (rI 1))), some (.int v4)]) rfl rfl ?_
              exact rX3_rivalsOf_57 σ (fun v1 v2 v3 v4 => fX3_rivalsOf_5 σ n v1 v2 v3 v4) (fun v1 v2 v3 v4 => ih v1 v2 v3 v4) v1 v2 (v3 + (rI 1)) v4
def fX3_rivalsOf (σ : rp_S) (v1 : Int32) (v2 : Int32) : Option (Int32) :=
  (fX3_rivalsOf_5 σ 1000 v1 v2 (rI 0) (rI 0))
set_option maxRecDepth 100000 in
theorem rX3_rivalsOf {E : rp_E} (σ : rp_S) (v1 : Int32) (v2 : Int32)   : rp_R E (rp_mK E rmX3_rivalsOf) mX3_rivalsOf 0 [some (.ref (E.2.2.2.1 4)), some (.int v1), some (.int v2), none, none] [] σ (rp_hi σ) (fX3_rivalsOf σ v1 v2) := by
  rw [fX3_rivalsOf]
  refine rp_iconst dX3_rivalsOf_0 ?_
  refine rp_istore_n dX3_rivalsOf_1 (by decide) rfl ?_
  refine rp_iconst dX3_rivalsOf_2 ?_
  refine rp_istore dX3_rivalsOf_3 (by decide) rfl ?_
  refine rp_mask [true, true, true, true, true] (vs2 := [some (.ref (E.2.2.2.1 4)), some (.int v1), some (.int v2), some (.int (rI 0)), some (.int (rI 0))]) rfl rfl ?_
  exact rX3_rivalsOf_5 σ 1000 v1 v2 (rI 0) (rI 0)
/-! RocketPrint$Show.isWhole(II)Z -/
abbrev rmX3_isWhole : Room := { frames := 4, cells := 0, slots := 0, locals := 93 }
def fX3_isWhole (σ : rp_S) (v1 : Int32) (v2 : Int32) : Option (Int32) :=
  ((fX3_isWholeAlone σ v1 v2).bind fun x1 =>
    (if x1 = 0 then
    (some (rI 0))
  else
    ((fX3_rivalsOf σ v1 v2).bind fun x2 =>
    (if x2 = 0 then
    (some (rI 1))
  else
    (some (rI 0))))))
set_option maxRecDepth 100000 in
theorem rX3_isWhole {E : rp_E} (σ : rp_S) (v1 : Int32) (v2 : Int32)   : rp_R E (rp_mK E rmX3_isWhole) mX3_isWhole 0 [some (.ref (E.2.2.2.1 4)), some (.int v1), some (.int v2)] [] σ (rp_hi σ) (fX3_isWhole σ v1 v2) := by
  rw [fX3_isWhole]
  refine rp_aload_n (x := (E.2.2.2.1 4)) dX3_isWhole_0 rfl ?_
  refine rp_iload_n (x := v1) dX3_isWhole_1 rfl ?_
  refine rp_iload_n (x := v2) dX3_isWhole_2 rfl ?_
  refine rp_callV_hi (As := [.int v1, .int v2]) (rest := []) (b := (E.2.2.2.1 4)) (rX3_isWholeAlone σ v1 v2) cbX3_isWholeAlone lkX3_84 viX3_isWholeAlone (rp_rcO sh4 rfl) rfl (Nat.le_of_ble_eq_true rfl) ⟨rfl, rfl, ⟨Nat.le_of_ble_eq_true rfl, Nat.le_of_ble_eq_true rfl⟩, Nat.zero_le _, Nat.zero_le _⟩ rfl (Nat.le_of_ble_eq_true rfl) dX3_isWhole_3 (fun x1 hx1 => ?_)
  refine rp_if_eq (tgt := 22) dX3_isWhole_6 (by decide) ?_ ?_
  · refine rp_iconst dX3_isWhole_22 ?_
    exact rp_zret (x' := (rI 0)) rfl (by decide) rfl dX3_isWhole_23
  · refine rp_aload_n (x := (E.2.2.2.1 4)) dX3_isWhole_9 rfl ?_
    refine rp_iload_n (x := v1) dX3_isWhole_10 rfl ?_
    refine rp_iload_n (x := v2) dX3_isWhole_11 rfl ?_
    refine rp_callV_hi (As := [.int v1, .int v2]) (rest := []) (b := (E.2.2.2.1 4)) (rX3_rivalsOf σ v1 v2) cbX3_rivalsOf lkX3_87 viX3_rivalsOf (rp_rcO sh4 rfl) rfl (Nat.le_of_ble_eq_true rfl) ⟨rfl, rfl, ⟨Nat.le_of_ble_eq_true rfl, Nat.le_of_ble_eq_true rfl⟩, Nat.zero_le _, Nat.zero_le _⟩ rfl (Nat.le_of_ble_eq_true rfl) dX3_isWhole_12 (fun x2 hx2 => ?_)
    refine rp_if_ne (tgt := 22) dX3_isWhole_15 (by decide) ?_ ?_
    · refine rp_iconst dX3_isWhole_22 ?_
      exact rp_zret (x' := (rI 0)) rfl (by decide) rfl dX3_isWhole_23
    · refine rp_iconst dX3_isWhole_18 ?_
      refine rp_goto (tgt := 23) dX3_isWhole_19 (by decide) ?_
      exact rp_zret (x' := (rI 1)) rfl (by decide) rfl dX3_isWhole_23
/-! RocketPrint$Show.wholesOfAll()I -/
abbrev rmX3_wholesOfAll : Room := { frames := 5, cells := 0, slots := 0, locals := 115 }
def fX3_wholesOfAll_40 (σ : rp_S) (k4 : Int32 → Int32 → Option (Int32)) (k17 : Int32 → Int32 → Int32 → Option (Int32)) (v1 : Int32) (v2 : Int32) (v3 : Int32) : Option (Int32) :=
  (k17 v1 v2 (v3 + (rI 1)))
set_option maxRecDepth 100000 in
theorem rX3_wholesOfAll_40 {E : rp_E} (σ : rp_S) (k4 : Int32 → Int32 → Option (Int32)) (hk4 : ∀ (v1 : Int32) (v2 : Int32), rp_R E (rp_mK E rmX3_wholesOfAll) mX3_wholesOfAll 4 [some (.ref (E.2.2.2.1 4)), some (.int v1), some (.int v2), none] [] σ (rp_hi σ) (k4 v1 v2)) (k17 : Int32 → Int32 → Int32 → Option (Int32)) (hk17 : ∀ (v1 : Int32) (v2 : Int32) (v3 : Int32), rp_R E (rp_mK E rmX3_wholesOfAll) mX3_wholesOfAll 17 [some (.ref (E.2.2.2.1 4)), some (.int v1), some (.int v2), some (.int v3)] [] σ (rp_hi σ) (k17 v1 v2 v3)) (v1 : Int32) (v2 : Int32) (v3 : Int32) : rp_R E (rp_mK E rmX3_wholesOfAll) mX3_wholesOfAll 40 [some (.ref (E.2.2.2.1 4)), some (.int v1), some (.int v2), some (.int v3)] [] σ (rp_hi σ) (fX3_wholesOfAll_40 σ k4 k17 v1 v2 v3) := by
  rw [fX3_wholesOfAll_40]
  refine rp_iinc (x := v3) dX3_wholesOfAll_40 rfl (by decide) rfl ?_
  refine rp_goto (tgt := 17) dX3_wholesOfAll_43 (by decide) ?_
  refine rp_mask [true, true, true, true] (vs2 := [some (.ref (E.2.2.2.1 4)), some (.int v1), some (.int v2), some (.int (v3 + (rI 1)))]) rfl rfl ?_
  exact hk17 v1 v2 (v3 + (rI 1))
def fX3_wholesOfAll_17 (σ : rp_S) (k4 : Int32 → Int32 → Option (Int32)) : Nat → Int32 → Int32 → Int32 → Option (Int32)
  | 0, _, _, _ => none
  | n + 1, v1, v2, v3 =>
    (if (σ 5 2) ≤ v3 then
    (k4 v1 (v2 + (rI 1)))
  else
    ((fX3_isWhole σ v2 v3).bind fun x1 =>
    (if x1 = 0 then
    (fX3_wholesOfAll_40 σ k4 (fun v1 v2 v3 => fX3_wholesOfAll_17 σ k4 n v1 v2 v3) v1 v2 v3)
  else
    (fX3_wholesOfAll_40 σ k4 (fun v1 v2 v3 => fX3_wholesOfAll_17 σ k4 n v1 v2 v3) (v1 + (rI 1)) v2 v3))))
set_option maxRecDepth 100000 in
theorem rX3_wholesOfAll_17 {E : rp_E} (σ : rp_S) (k4 : Int32 → Int32 → Option (Int32)) (hk4 : ∀ (v1 : Int32) (v2 : Int32), rp_R E (rp_mK E rmX3_wholesOfAll) mX3_wholesOfAll 4 [some (.ref (E.2.2.2.1 4)), some (.int v1), some (.int v2), none] [] σ (rp_hi σ) (k4 v1 v2)) : ∀ (n : Nat) (v1 : Int32) (v2 : Int32) (v3 : Int32), rp_R E (rp_mK E rmX3_wholesOfAll) mX3_wholesOfAll 17 [some (.ref (E.2.2.2.1 4)), some (.int v1), some (.int v2), some (.int v3)] [] σ (rp_hi σ) (fX3_wholesOfAll_17 σ k4 n v1 v2 v3) := by
  intro n
  induction n with
  | zero =>
    intro v1 v2 v3
    rw [fX3_wholesOfAll_17]
    exact rp_none
  | succ n ih =>
    intro v1 v2 v3
    rw [fX3_wholesOfAll_17]
    refine rp_iload_n (x := v3) dX3_wholesOfAll_17 rfl ?_
    refine rp_aload_n (x := (E.2.2.2.1 4)) dX3_wholesOfAll_18 rfl ?_
    refine rp_getR (k := 0) (b := 5) sh4 rfl fdX3_12 dX3_wholesOfAll_19 ?_
    refine rp_getI (k := 2) sh5 rfl fdX3_38 dX3_wholesOfAll_22 ?_
    refine rp_icmp_ge (tgt := 46) dX3_wholesOfAll_25 (by decide) ?_ ?_
    · refine rp_iinc (x := v2) dX3_wholesOfAll_46 rfl (by decide) rfl ?_
      refine rp_goto (tgt := 4) dX3_wholesOfAll_49 (by decide) ?_
      refine rp_mask [true, true, true, false] (vs2 := [some (.ref (E.2.2.2.1 4)), some (.int v1), some (.int (v2 + (rI 1))), none]) rfl rfl ?_
      exact hk4 v1 (v2 + (rI 1))
    · refine rp_aload_n (x := (E.2.2.2.1 4)) dX3_wholesOfAll_28 rfl ?_
      refine rp_iload_n (x := v2) dX3_wholesOfAll_29 rfl ?_
      refine rp_iload_n (x := v3) dX3_wholesOfAll_30 rfl ?_
      refine rp_callV_hi (As := [.int v2, .int v3]) (rest := []) (b := (E.2.2.2.1 4)) (rX3_isWhole σ v2 v3) cbX3_isWhole lkX3_93 viX3_isWhole (rp_rcO sh4 rfl) rfl (Nat.le_of_ble_eq_true rfl) ⟨rfl, rfl, ⟨Nat.le_of_ble_eq_true rfl, Nat.le_of_ble_eq_true rfl⟩, Nat.zero_le _, Nat.zero_le _⟩ rfl (Nat.le_of_ble_eq_true rfl) dX3_wholesOfAll_31 (fun x1 hx1 => ?_)
      refine rp_if_eq (tgt := 40) dX3_wholesOfAll_34 (by decide) ?_ ?_
      · refine rp_mask [true, true, true, true] (vs2 := [some (.ref (E.2.2.2.1 4)), some (.int v1), some (.int v2), some (.int v3)]) rfl rfl ?_
        exact rX3_wholesOfAll_40 σ k4 hk4 (fun v1 v2 v3 => fX3_wholesOfAll_17 σ k4 n v1 v2 v3) (fun v1 v2 v3 => ih v1 v2 v3) v1 v2 v3
      · refine rp_iinc (x := v1) dX3_wholesOfAll_37 rfl (by decide) rfl ?_
        refine rp_mask [true, true, true, true] (vs2 := [some (.ref (E.2.2.2.1 4)), some (.int (v1 + (rI 1))), some (.int v2), some (.int v3)]) rfl rfl ?_
        exact rX3_wholesOfAll_40 σ k4 hk4 (fun v1 v2 v3 => fX3_wholesOfAll_17 σ k4 n v1 v2 v3) (fun v1 v2 v3 => ih v1 v2 v3) (v1 + (rI 1)) v2 v3
def fX3_wholesOfAll_4 (σ : rp_S) : Nat → Int32 → Int32 → Option (Int32)
  | 0, _, _ => none
  | n + 1, v1, v2 =>
    (if (σ 5 3) ≤ v2 then
    (some v1)
  else
    (fX3_wholesOfAll_17 σ (fun v1 v2 => fX3_wholesOfAll_4 σ n v1 v2) 1000 v1 v2 (rI 0)))
set_option maxRecDepth 100000 in
theorem rX3_wholesOfAll_4 {E : rp_E} (σ : rp_S) : ∀ (n : Nat) (v1 : Int32) (v2 : Int32), rp_R E (rp_mK E rmX3_wholesOfAll) mX3_wholesOfAll 4 [some (.ref (E.2.2.2.1 4)), some (.int v1), some (.int v2), none] [] σ (rp_hi σ) (fX3_wholesOfAll_4 σ n v1 v2) := by
  intro n
  induction n with
  | zero =>
    intro v1 v2
    rw [fX3_wholesOfAll_4]
    exact rp_none
  | succ n ih =>
    intro v1 v2
    rw [fX3_wholesOfAll_4]
    refine rp_iload_n (x := v2) dX3_wholesOfAll_4 rfl ?_
    refine rp_aload_n (x := (E.2.2.2.1 4)) dX3_wholesOfAll_5 rfl ?_
    refine rp_getR (k := 0) (b := 5) sh4 rfl fdX3_12 dX3_wholesOfAll_6 ?_
    refine rp_getI (k := 3) sh5 rfl fdX3_78 dX3_wholesOfAll_9 ?_
    refine rp_icmp_ge (tgt := 52) dX3_wholesOfAll_12 (by decide) ?_ ?_
    · refine rp_iload_n (x := v1) dX3_wholesOfAll_52 rfl ?_
      exact rp_iret rfl rfl dX3_wholesOfAll_53
    · refine rp_iconst dX3_wholesOfAll_15 ?_
      refine rp_istore_n dX3_wholesOfAll_16 (by decide) rfl ?_
      refine rp_mask [true, true, true, true] (vs2 := [some (.ref (E.2.2.2.1 4)), some (.int v1), some (.int v2), some (.int (rI 0))]) rfl rfl ?_
      exact rX3_wholesOfAll_17 σ (fun v1 v2 => fX3_wholesOfAll_4 σ n v1 v2) (fun v1 v2 => ih v1 v2) 1000 v1 v2 (rI 0)
def fX3_wholesOfAll (σ : rp_S)  : Option (Int32) :=
  (fX3_wholesOfAll_4 σ 1000 (rI 0) (rI 0))
set_option maxRecDepth 100000 in
theorem rX3_wholesOfAll {E : rp_E} (σ : rp_S)    : rp_R E (rp_mK E rmX3_wholesOfAll) mX3_wholesOfAll 0 [some (.ref (E.2.2.2.1 4)), none, none, none] [] σ (rp_hi σ) (fX3_wholesOfAll σ) := by
  rw [fX3_wholesOfAll]
  refine rp_iconst dX3_wholesOfAll_0 ?_
  refine rp_istore_n dX3_wholesOfAll_1 (by decide) rfl ?_
  refine rp_iconst dX3_wholesOfAll_2 ?_
  refine rp_istore_n dX3_wholesOfAll_3 (by decide) rfl ?_
  refine rp_mask [true, true, true, false] (vs2 := [some (.ref (E.2.2.2.1 4)), some (.int (rI 0)), some (.int (rI 0)), none]) rfl rfl ?_
  exact rX3_wholesOfAll_4 σ 1000 (rI 0) (rI 0)
/-! RocketPrint.rule(I)I -/
abbrev rmX6_rule : Room := { frames := 6, cells := 0, slots := 0, locals := 138 }
def fX6_rule (σ : rp_S) (v1 : Int32) : Option (Int32 × rp_S) :=
  (if v1 = (rI 0) then
    (some ((σ 1 2), σ))
  else
    (if v1 = (rI 1) then
    (some ((σ 1 3), σ))
  else
    (if v1 = (rI 2) then
    (some ((σ 1 4), σ))
  else
    (if v1 = (rI 3) then
    (some ((σ 1 5), σ))
  else
    (if v1 = (rI 4) then
    ((fX3_begin σ 1).bind fun σ1 =>
    ((fX3_minutesOfAll σ1).bind fun x2 =>
    (some (x2, σ1))))
  else
    (if v1 = (rI 5) then
    ((fX3_begin σ 1).bind fun σ3 =>
    ((fX3_wholesOfAll σ3).bind fun x4 =>
    (some (x4, σ3))))
  else
    (some ((rI (-1)), σ))))))))
set_option maxRecDepth 100000 in
theorem rX6_rule {E : rp_E} (σ : rp_S) (v1 : Int32)   : rp_R E (rp_mK E rmX6_rule) mX6_rule 0 [some (.ref (E.2.2.2.1 0)), some (.int v1)] [] σ rp_hI (fX6_rule σ v1) := by
  rw [fX6_rule]
  refine rp_iload_n (x := v1) dX6_rule_0 rfl ?_
  refine rp_if2 (fun h0 => ?_) (fun h0 => ?_)
  · refine rp_tswIn (tgt := 40) 0 (by rw [h0]; decide) dX6_rule_1 (by decide) (by decide) rfl (by decide) ?_
    refine rp_aload_n (x := (E.2.2.2.1 0)) dX6_rule_40 rfl ?_
    refine rp_getR (k := 0) (b := 1) sh0 rfl fdX6_10 dX6_rule_41 ?_
    refine rp_getI (k := 2) sh1 rfl fdX6_92 dX6_rule_44 ?_
    exact rp_iret rfl rfl dX6_rule_47
  · refine rp_if2 (fun h1 => ?_) (fun h1 => ?_)
    · refine rp_tswIn (tgt := 48) 1 (by rw [h1]; decide) dX6_rule_1 (by decide) (by decide) rfl (by decide) ?_
      refine rp_aload_n (x := (E.2.2.2.1 0)) dX6_rule_48 rfl ?_
      refine rp_getR (k := 0) (b := 1) sh0 rfl fdX6_10 dX6_rule_49 ?_
      refine rp_getI (k := 3) sh1 rfl fdX6_95 dX6_rule_52 ?_
      exact rp_iret rfl rfl dX6_rule_55
    · refine rp_if2 (fun h2 => ?_) (fun h2 => ?_)
      · refine rp_tswIn (tgt := 56) 2 (by rw [h2]; decide) dX6_rule_1 (by decide) (by decide) rfl (by decide) ?_
        refine rp_aload_n (x := (E.2.2.2.1 0)) dX6_rule_56 rfl ?_
        refine rp_getR (k := 0) (b := 1) sh0 rfl fdX6_10 dX6_rule_57 ?_
        refine rp_getI (k := 4) sh1 rfl fdX6_98 dX6_rule_60 ?_
        exact rp_iret rfl rfl dX6_rule_63
      · refine rp_if2 (fun h3 => ?_) (fun h3 => ?_)
        · refine rp_tswIn (tgt := 64) 3 (by rw [h3]; decide) dX6_rule_1 (by decide) (by decide) rfl (by decide) ?_
          refine rp_aload_n (x := (E.2.2.2.1 0)) dX6_rule_64 rfl ?_
          refine rp_getR (k := 0) (b := 1) sh0 rfl fdX6_10 dX6_rule_65 ?_
          refine rp_getI (k := 5) sh1 rfl fdX6_101 dX6_rule_68 ?_
          exact rp_iret rfl rfl dX6_rule_71
        · refine rp_if2 (fun h4 => ?_) (fun h4 => ?_)
          · refine rp_tswIn (tgt := 72) 4 (by rw [h4]; decide) dX6_rule_1 (by decide) (by decide) rfl (by decide) ?_
            refine rp_aload_n (x := (E.2.2.2.1 0)) dX6_rule_72 rfl ?_
            refine rp_getR (k := 1) (b := 4) sh0 rfl fdX6_19 dX6_rule_73 ?_
            refine rp_aload_n (x := (E.2.2.2.1 0)) dX6_rule_76 rfl ?_
            refine rp_getR (k := 0) (b := 1) sh0 rfl fdX6_10 dX6_rule_77 ?_
            refine rp_callV_hv (As := [.ref (E.2.2.2.1 1)]) (rest := []) (b := (E.2.2.2.1 4)) (rX3_begin σ 1 ni1) cbX3_begin lkX6_104 viX3_begin (rp_rcO sh4 rfl) rfl (Nat.le_of_ble_eq_true rfl) ⟨rfl, rfl, ⟨Nat.le_of_ble_eq_true rfl, Nat.le_of_ble_eq_true rfl⟩, Nat.zero_le _, Nat.zero_le _⟩ rfl (Nat.le_of_ble_eq_true rfl) dX6_rule_80 (fun σ1 hσ1 => ?_)
            refine rp_aload_n (x := (E.2.2.2.1 0)) dX6_rule_83 rfl ?_
            refine rp_getR (k := 1) (b := 4) sh0 rfl fdX6_19 dX6_rule_84 ?_
            refine rp_callV_hi (As := []) (rest := []) (b := (E.2.2.2.1 4)) (rX3_minutesOfAll σ1) cbX3_minutesOfAll lkX6_107 viX3_minutesOfAll (rp_rcO sh4 rfl) rfl (Nat.le_of_ble_eq_true rfl) ⟨rfl, rfl, ⟨Nat.le_of_ble_eq_true rfl, Nat.le_of_ble_eq_true rfl⟩, Nat.zero_le _, Nat.zero_le _⟩ rfl (Nat.le_of_ble_eq_true rfl) dX6_rule_87 (fun x2 hx2 => ?_)
            exact rp_iret rfl rfl dX6_rule_90
          · refine rp_if2 (fun h5 => ?_) (fun h5 => ?_)
            · refine rp_tswIn (tgt := 91) 5 (by rw [h5]; decide) dX6_rule_1 (by decide) (by decide) rfl (by decide) ?_
              refine rp_aload_n (x := (E.2.2.2.1 0)) dX6_rule_91 rfl ?_
              refine rp_getR (k := 1) (b := 4) sh0 rfl fdX6_19 dX6_rule_92 ?_
              refine rp_aload_n (x := (E.2.2.2.1 0)) dX6_rule_95 rfl ?_
              refine rp_getR (k := 0) (b := 1) sh0 rfl fdX6_10 dX6_rule_96 ?_
              refine rp_callV_hv (As := [.ref (E.2.2.2.1 1)]) (rest := []) (b := (E.2.2.2.1 4)) (rX3_begin σ 1 ni1) cbX3_begin lkX6_104 viX3_begin (rp_rcO sh4 rfl) rfl (Nat.le_of_ble_eq_true rfl) ⟨rfl, rfl, ⟨Nat.le_of_ble_eq_true rfl, Nat.le_of_ble_eq_true rfl⟩, Nat.zero_le _, Nat.zero_le _⟩ rfl (Nat.le_of_ble_eq_true rfl) dX6_rule_99 (fun σ3 hσ3 => ?_)
              refine rp_aload_n (x := (E.2.2.2.1 0)) dX6_rule_102 rfl ?_
              refine rp_getR (k := 1) (b := 4) sh0 rfl fdX6_19 dX6_rule_103 ?_
              refine rp_callV_hi (As := []) (rest := []) (b := (E.2.2.2.1 4)) (rX3_wholesOfAll σ3) cbX3_wholesOfAll lkX6_111 viX3_wholesOfAll (rp_rcO sh4 rfl) rfl (Nat.le_of_ble_eq_true rfl) ⟨rfl, rfl, ⟨Nat.le_of_ble_eq_true rfl, Nat.le_of_ble_eq_true rfl⟩, Nat.zero_le _, Nat.zero_le _⟩ rfl (Nat.le_of_ble_eq_true rfl) dX6_rule_106 (fun x4 hx4 => ?_)
              exact rp_iret rfl rfl dX6_rule_109
            · refine rp_tswOut (tgt := 110) dX6_rule_1 (by have q0 := lv_neT (a := 0) h0 (by decide); have q1 := lv_neT (a := 1) h1 (by decide); have q2 := lv_neT (a := 2) h2 (by decide); have q3 := lv_neT (a := 3) h3 (by decide); have q4 := lv_neT (a := 4) h4 (by decide); have q5 := lv_neT (a := 5) h5 (by decide); omega) (by decide) ?_
              refine rp_iconst dX6_rule_110 ?_
              exact rp_iret rfl rfl dX6_rule_111
/-! RocketPrintModel.shore(I)I -/
abbrev rmX7_shore : Room := { frames := 0, cells := 0, slots := 0, locals := 0 }
def fX7_shore  (v0 : Int32) : Option (Int32) :=
  (if 0 ≤ v0 then
    (if v0 < (rI 12) then
    (some v0)
  else
    (some (rI 11)))
  else
    (some (rI 0)))
set_option maxRecDepth 100000 in
theorem rX7_shore {E : rp_E} (σ : rp_S) (v0 : Int32)   : rp_R E (rp_mK E rmX7_shore) mX7_shore 0 [some (.int v0)] [] σ (rp_hi σ) (fX7_shore v0) := by
  rw [fX7_shore]
  refine rp_iload_n (x := v0) dX7_shore_0 rfl ?_
  refine rp_if_ge (tgt := 8) dX7_shore_1 (by decide) ?_ ?_
  · refine rp_iload_n (x := v0) dX7_shore_8 rfl ?_
    refine rp_bipush dX7_shore_9 (by decide) ?_
    refine rp_icmp_lt (tgt := 19) dX7_shore_11 (by decide) ?_ ?_
    · refine rp_iload_n (x := v0) dX7_shore_19 rfl ?_
      exact rp_iret rfl rfl dX7_shore_20
    · refine rp_bipush dX7_shore_14 (by decide) ?_
      refine rp_goto (tgt := 20) dX7_shore_16 (by decide) ?_
      exact rp_iret rfl rfl dX7_shore_20
  · refine rp_iconst dX7_shore_4 ?_
    refine rp_goto (tgt := 20) dX7_shore_5 (by decide) ?_
    exact rp_iret rfl rfl dX7_shore_20
/-! RocketPrintModel.burstOn(II)I -/
abbrev rmX7_burstOn : Room := { frames := 1, cells := 0, slots := 0, locals := 20 }
def fX7_burstOn (σ : rp_S) (v1 : Int32) (v2 : Int32) : Option (Int32) :=
  ((rq_rd σ 29 180 ((v1 + (rI 6)) + v2)).bind fun x1 =>
    ((rq_rd σ 29 180 (v1 + (rI 34))).bind fun x2 =>
    ((fX7_shore (x1 + x2)).bind fun x3 =>
    (some x3))))
set_option maxRecDepth 100000 in
theorem rX7_burstOn {E : rp_E} (σ : rp_S) (v1 : Int32) (v2 : Int32)   : rp_R E (rp_mK E rmX7_burstOn) mX7_burstOn 0 [some (.ref (E.2.2.2.1 28)), some (.int v1), some (.int v2)] [] σ (rp_hi σ) (fX7_burstOn σ v1 v2) := by
  rw [fX7_burstOn]
  refine rp_aload_n (x := (E.2.2.2.1 28)) dX7_burstOn_0 rfl ?_
  refine rp_getR (k := 0) (b := 29) sh28 rfl fdX7_7 dX7_burstOn_1 ?_
  refine rp_iload_n (x := v1) dX7_burstOn_4 rfl ?_
  refine rp_bipush dX7_burstOn_5 (by decide) ?_
  refine rp_iadd dX7_burstOn_7 ?_
  refine rp_iload_n (x := v2) dX7_burstOn_8 rfl ?_
  refine rp_iadd dX7_burstOn_9 ?_
  refine rp_iaload sh29 dX7_burstOn_10 (fun x1 => ?_)
  refine rp_aload_n (x := (E.2.2.2.1 28)) dX7_burstOn_11 rfl ?_
  refine rp_getR (k := 0) (b := 29) sh28 rfl fdX7_7 dX7_burstOn_12 ?_
  refine rp_iload_n (x := v1) dX7_burstOn_15 rfl ?_
  refine rp_bipush dX7_burstOn_16 (by decide) ?_
  refine rp_iadd dX7_burstOn_18 ?_
  refine rp_iaload sh29 dX7_burstOn_19 (fun x2 => ?_)
  refine rp_iadd dX7_burstOn_20 ?_
  refine rp_callS_hi (As := [.int (x1 + x2)]) (rest := []) (rX7_shore σ (x1 + x2)) cbX7_shore lkX7_123 stX7_shore rfl (Nat.le_of_ble_eq_true rfl) ⟨rfl, rfl, ⟨Nat.le_of_ble_eq_true rfl, Nat.le_of_ble_eq_true rfl⟩, Nat.zero_le _, Nat.zero_le _⟩ rfl (Nat.le_of_ble_eq_true rfl) dX7_burstOn_21 (fun x3 hx3 => ?_)
  exact rp_iret rfl rfl dX7_burstOn_24
/-! RocketPrintModel.apart(II)I -/
abbrev rmX7_apart : Room := { frames := 0, cells := 0, slots := 0, locals := 0 }
def fX7_apart  (v0 : Int32) (v1 : Int32) : Option (Int32) :=
  (if v0 ≤ v1 then
    (some (v1 - v0))
  else
    (some (v0 - v1)))
set_option maxRecDepth 100000 in
theorem rX7_apart {E : rp_E} (σ : rp_S) (v0 : Int32) (v1 : Int32)   : rp_R E (rp_mK E rmX7_apart) mX7_apart 0 [some (.int v0), some (.int v1)] [] σ (rp_hi σ) (fX7_apart v0 v1) := by
  rw [fX7_apart]
  refine rp_iload_n (x := v0) dX7_apart_0 rfl ?_
  refine rp_iload_n (x := v1) dX7_apart_1 rfl ?_
  refine rp_icmp_le (tgt := 11) dX7_apart_2 (by decide) ?_ ?_
  · refine rp_iload_n (x := v1) dX7_apart_11 rfl ?_
    refine rp_iload_n (x := v0) dX7_apart_12 rfl ?_
    refine rp_isub dX7_apart_13 ?_
    exact rp_iret rfl rfl dX7_apart_14
  · refine rp_iload_n (x := v0) dX7_apart_5 rfl ?_
    refine rp_iload_n (x := v1) dX7_apart_6 rfl ?_
    refine rp_isub dX7_apart_7 ?_
    refine rp_goto (tgt := 14) dX7_apart_8 (by decide) ?_
    exact rp_iret rfl rfl dX7_apart_14
/-! RocketPrintModel.wideOn(II)I -/
abbrev rmX7_wideOn : Room := { frames := 0, cells := 0, slots := 0, locals := 0 }
def fX7_wideOn (σ : rp_S) (v1 : Int32) (v2 : Int32) : Option (Int32) :=
  ((rq_rd σ 29 180 (v1 + v2)).bind fun x1 =>
    ((rq_rd σ 29 180 ((v1 + (rI 18)) + v2)).bind fun x2 =>
    (if x1 = (rI 1) then
    (some (x2 / (rI 2)))
  else
    (if x1 = (rI 3) then
    (some (x2 + (rI 2)))
  else
    (some x2)))))
set_option maxRecDepth 100000 in
theorem rX7_wideOn {E : rp_E} (σ : rp_S) (v1 : Int32) (v2 : Int32)   : rp_R E (rp_mK E rmX7_wideOn) mX7_wideOn 0 [some (.ref (E.2.2.2.1 28)), some (.int v1), some (.int v2), none, none] [] σ (rp_hi σ) (fX7_wideOn σ v1 v2) := by
  rw [fX7_wideOn]
  refine rp_aload_n (x := (E.2.2.2.1 28)) dX7_wideOn_0 rfl ?_
  refine rp_getR (k := 0) (b := 29) sh28 rfl fdX7_7 dX7_wideOn_1 ?_
  refine rp_iload_n (x := v1) dX7_wideOn_4 rfl ?_
  refine rp_iload_n (x := v2) dX7_wideOn_5 rfl ?_
  refine rp_iadd dX7_wideOn_6 ?_
  refine rp_iaload sh29 dX7_wideOn_7 (fun x1 => ?_)
  refine rp_istore_n dX7_wideOn_8 (by decide) rfl ?_
  refine rp_aload_n (x := (E.2.2.2.1 28)) dX7_wideOn_9 rfl ?_
  refine rp_getR (k := 0) (b := 29) sh28 rfl fdX7_7 dX7_wideOn_10 ?_
  refine rp_iload_n (x := v1) dX7_wideOn_13 rfl ?_
  refine rp_bipush dX7_wideOn_14 (by decide) ?_
  refine rp_iadd dX7_wideOn_16 ?_
  refine rp_iload_n (x := v2) dX7_wideOn_17 rfl ?_
  refine rp_iadd dX7_wideOn_18 ?_
  refine rp_iaload sh29 dX7_wideOn_19 (fun x2 => ?_)
  refine rp_istore dX7_wideOn_20 (by decide) rfl ?_
  refine rp_iload_n (x := x1) dX7_wideOn_22 rfl ?_
  refine rp_iconst dX7_wideOn_23 ?_
  refine rp_icmp_ne (tgt := 34) dX7_wideOn_24 (by decide) ?_ ?_
  · refine rp_iload_n (x := x1) dX7_wideOn_34 rfl ?_
    refine rp_iconst dX7_wideOn_35 ?_
    refine rp_icmp_ne (tgt := 46) dX7_wideOn_36 (by decide) ?_ ?_
    · refine rp_iload (x := x2) dX7_wideOn_46 rfl ?_
      exact rp_iret rfl rfl dX7_wideOn_48
    · refine rp_iload (x := x2) dX7_wideOn_39 rfl ?_
      refine rp_iconst dX7_wideOn_41 ?_
      refine rp_iadd dX7_wideOn_42 ?_
      refine rp_goto (tgt := 48) dX7_wideOn_43 (by decide) ?_
      exact rp_iret rfl rfl dX7_wideOn_48
  · refine rp_iload (x := x2) dX7_wideOn_27 rfl ?_
    refine rp_iconst dX7_wideOn_29 ?_
    refine rp_idiv0 dX7_wideOn_30 (by decide) ?_
    refine rp_goto (tgt := 48) dX7_wideOn_31 (by decide) ?_
    exact rp_iret rfl rfl dX7_wideOn_48
/-! RocketPrintModel.goesUp(II)Z -/
abbrev rmX7_goesUp : Room := { frames := 0, cells := 0, slots := 0, locals := 0 }
def fX7_goesUp (σ : rp_S) (v1 : Int32) (v2 : Int32) : Option (Int32) :=
  ((rq_rd σ 29 180 ((v1 + (rI 18)) + v2)).bind fun x1 =>
    ((rq_rd σ 29 180 (v1 + (rI 35))).bind fun x2 =>
    (if x1 ≤ x2 then
    (some (rI 0))
  else
    (if (((σ 28 14) >>> (v2 &&& 31)) &&& (rI 1)) = 0 then
    (some (rI 1))
  else
    (some (rI 0))))))
set_option maxRecDepth 100000 in
theorem rX7_goesUp {E : rp_E} (σ : rp_S) (v1 : Int32) (v2 : Int32)   : rp_R E (rp_mK E rmX7_goesUp) mX7_goesUp 0 [some (.ref (E.2.2.2.1 28)), some (.int v1), some (.int v2)] [] σ (rp_hi σ) (fX7_goesUp σ v1 v2) := by
  rw [fX7_goesUp]
  refine rp_aload_n (x := (E.2.2.2.1 28)) dX7_goesUp_0 rfl ?_
  refine rp_getR (k := 0) (b := 29) sh28 rfl fdX7_7 dX7_goesUp_1 ?_
  refine rp_iload_n (x := v1) dX7_goesUp_4 rfl ?_
  refine rp_bipush dX7_goesUp_5 (by decide) ?_
  refine rp_iadd dX7_goesUp_7 ?_
  refine rp_iload_n (x := v2) dX7_goesUp_8 rfl ?_
  refine rp_iadd dX7_goesUp_9 ?_
  refine rp_iaload sh29 dX7_goesUp_10 (fun x1 => ?_)
  refine rp_aload_n (x := (E.2.2.2.1 28)) dX7_goesUp_11 rfl ?_
  refine rp_getR (k := 0) (b := 29) sh28 rfl fdX7_7 dX7_goesUp_12 ?_
  refine rp_iload_n (x := v1) dX7_goesUp_15 rfl ?_
  refine rp_bipush dX7_goesUp_16 (by decide) ?_
  refine rp_iadd dX7_goesUp_18 ?_
  refine rp_iaload sh29 dX7_goesUp_19 (fun x2 => ?_)
  refine rp_icmp_le (tgt := 38) dX7_goesUp_20 (by decide) ?_ ?_
  · refine rp_iconst dX7_goesUp_38 ?_
    exact rp_zret (x' := (rI 0)) rfl (by decide) rfl dX7_goesUp_39
  · refine rp_aload_n (x := (E.2.2.2.1 28)) dX7_goesUp_23 rfl ?_
    refine rp_getI (k := 14) sh28 rfl fdX7_132 dX7_goesUp_24 ?_
    refine rp_iload_n (x := v2) dX7_goesUp_27 rfl ?_
    refine rp_ishr dX7_goesUp_28 ?_
    refine rp_iconst dX7_goesUp_29 ?_
    refine rp_iand dX7_goesUp_30 ?_
    refine rp_if_ne (tgt := 38) dX7_goesUp_31 (by decide) ?_ ?_
    · refine rp_iconst dX7_goesUp_38 ?_
      exact rp_zret (x' := (rI 0)) rfl (by decide) rfl dX7_goesUp_39
    · refine rp_iconst dX7_goesUp_34 ?_
      refine rp_goto (tgt := 39) dX7_goesUp_35 (by decide) ?_
      exact rp_zret (x' := (rI 1)) rfl (by decide) rfl dX7_goesUp_39
/-! RocketPrintModel.lastsOn(II)I -/
abbrev rmX7_lastsOn : Room := { frames := 0, cells := 0, slots := 0, locals := 0 }
def fX7_lastsOn (σ : rp_S) (v1 : Int32) (v2 : Int32) : Option (Int32) :=
  ((rq_rd σ 29 180 (v1 + v2)).bind fun x1 =>
    ((rq_rd σ 29 180 ((v1 + (rI 18)) + v2)).bind fun x2 =>
    (if x1 = 0 then
    (some x2)
  else
    (if x1 = (rI 1) then
    (some ((rI 2) * x2))
  else
    (if x1 = (rI 2) then
    (some ((rI 1) + (x2 / (rI 2))))
  else
    (some (x2 / (rI 2))))))))
set_option maxRecDepth 100000 in
theorem rX7_lastsOn {E : rp_E} (σ : rp_S) (v1 : Int32) (v2 : Int32)   : rp_R E (rp_mK E rmX7_lastsOn) mX7_lastsOn 0 [some (.ref (E.2.2.2.1 28)), some (.int v1), some (.int v2), none, none] [] σ (rp_hi σ) (fX7_lastsOn σ v1 v2) := by
  rw [fX7_lastsOn]
  refine rp_aload_n (x := (E.2.2.2.1 28)) dX7_lastsOn_0 rfl ?_
  refine rp_getR (k := 0) (b := 29) sh28 rfl fdX7_7 dX7_lastsOn_1 ?_
  refine rp_iload_n (x := v1) dX7_lastsOn_4 rfl ?_
  refine rp_iload_n (x := v2) dX7_lastsOn_5 rfl ?_
  refine rp_iadd dX7_lastsOn_6 ?_
  refine rp_iaload sh29 dX7_lastsOn_7 (fun x1 => ?_)
  refine rp_istore_n dX7_lastsOn_8 (by decide) rfl ?_
  refine rp_aload_n (x := (E.2.2.2.1 28)) dX7_lastsOn_9 rfl ?_
  refine rp_getR (k := 0) (b := 29) sh28 rfl fdX7_7 dX7_lastsOn_10 ?_
  refine rp_iload_n (x := v1) dX7_lastsOn_13 rfl ?_
  refine rp_bipush dX7_lastsOn_14 (by decide) ?_
  refine rp_iadd dX7_lastsOn_16 ?_
  refine rp_iload_n (x := v2) dX7_lastsOn_17 rfl ?_
  refine rp_iadd dX7_lastsOn_18 ?_
  refine rp_iaload sh29 dX7_lastsOn_19 (fun x2 => ?_)
  refine rp_istore dX7_lastsOn_20 (by decide) rfl ?_
  refine rp_iload_n (x := x1) dX7_lastsOn_22 rfl ?_
  refine rp_if_ne (tgt := 31) dX7_lastsOn_23 (by decide) ?_ ?_
  · refine rp_iload_n (x := x1) dX7_lastsOn_31 rfl ?_
    refine rp_iconst dX7_lastsOn_32 ?_
    refine rp_icmp_ne (tgt := 43) dX7_lastsOn_33 (by decide) ?_ ?_
    · refine rp_iload_n (x := x1) dX7_lastsOn_43 rfl ?_
      refine rp_iconst dX7_lastsOn_44 ?_
      refine rp_icmp_ne (tgt := 57) dX7_lastsOn_45 (by decide) ?_ ?_
      · refine rp_iload (x := x2) dX7_lastsOn_57 rfl ?_
        refine rp_iconst dX7_lastsOn_59 ?_
        refine rp_idiv0 dX7_lastsOn_60 (by decide) ?_
        exact rp_iret rfl rfl dX7_lastsOn_61
      · refine rp_iconst dX7_lastsOn_48 ?_
        refine rp_iload (x := x2) dX7_lastsOn_49 rfl ?_
        refine rp_iconst dX7_lastsOn_51 ?_
        refine rp_idiv0 dX7_lastsOn_52 (by decide) ?_
        refine rp_iadd dX7_lastsOn_53 ?_
        refine rp_goto (tgt := 61) dX7_lastsOn_54 (by decide) ?_
        exact rp_iret rfl rfl dX7_lastsOn_61
    · refine rp_iconst dX7_lastsOn_36 ?_
      refine rp_iload (x := x2) dX7_lastsOn_37 rfl ?_
      refine rp_imul dX7_lastsOn_39 ?_
      refine rp_goto (tgt := 61) dX7_lastsOn_40 (by decide) ?_
      exact rp_iret rfl rfl dX7_lastsOn_61
  · refine rp_iload (x := x2) dX7_lastsOn_26 rfl ?_
    refine rp_goto (tgt := 61) dX7_lastsOn_28 (by decide) ?_
    exact rp_iret rfl rfl dX7_lastsOn_61
/-! RocketPrintModel.isUp(III)Z -/
abbrev rmX7_isUp : Room := { frames := 1, cells := 0, slots := 0, locals := 25 }
def fX7_isUp (σ : rp_S) (v1 : Int32) (v2 : Int32) (v3 : Int32) : Option (Int32) :=
  ((fX7_goesUp σ v1 v2).bind fun x1 =>
    (if x1 = 0 then
    (some (rI 0))
  else
    ((rq_rd σ 29 180 ((v1 + (rI 12)) + v2)).bind fun x2 =>
    ((rq_rd σ 29 180 ((v1 + (rI 12)) + v2)).bind fun x3 =>
    ((fX7_lastsOn σ v1 v2).bind fun x4 =>
    ((fX7_in (v3.toInt64) (x2.toInt64) ((x3 + x4) - (rI 1)).toInt64).bind fun x5 =>
    (if x5 = 0 then
    (some (rI 0))
  else
    (some (rI 1)))))))))
set_option maxRecDepth 100000 in
theorem rX7_isUp {E : rp_E} (σ : rp_S) (v1 : Int32) (v2 : Int32) (v3 : Int32)   : rp_R E (rp_mK E rmX7_isUp) mX7_isUp 0 [some (.ref (E.2.2.2.1 28)), some (.int v1), some (.int v2), some (.int v3)] [] σ (rp_hi σ) (fX7_isUp σ v1 v2 v3) := by
  rw [fX7_isUp]
  refine rp_aload_n (x := (E.2.2.2.1 28)) dX7_isUp_0 rfl ?_
  refine rp_iload_n (x := v1) dX7_isUp_1 rfl ?_
  refine rp_iload_n (x := v2) dX7_isUp_2 rfl ?_
  refine rp_callV_hi (As := [.int v1, .int v2]) (rest := []) (b := (E.2.2.2.1 28)) (rX7_goesUp σ v1 v2) cbX7_goesUp lkX7_135 viX7_goesUp (rp_rcO sh28 rfl) rfl (Nat.le_of_ble_eq_true rfl) ⟨rfl, rfl, ⟨Nat.le_of_ble_eq_true rfl, Nat.le_of_ble_eq_true rfl⟩, Nat.zero_le _, Nat.zero_le _⟩ rfl (Nat.le_of_ble_eq_true rfl) dX7_isUp_3 (fun x1 hx1 => ?_)
  refine rp_if_eq (tgt := 54) dX7_isUp_6 (by decide) ?_ ?_
  · refine rp_iconst dX7_isUp_54 ?_
    exact rp_zret (x' := (rI 0)) rfl (by decide) rfl dX7_isUp_55
  · refine rp_iload_n (x := v3) dX7_isUp_9 rfl ?_
    refine rp_i2l dX7_isUp_10 ?_
    refine rp_aload_n (x := (E.2.2.2.1 28)) dX7_isUp_11 rfl ?_
    refine rp_getR (k := 0) (b := 29) sh28 rfl fdX7_7 dX7_isUp_12 ?_
    refine rp_iload_n (x := v1) dX7_isUp_15 rfl ?_
    refine rp_bipush dX7_isUp_16 (by decide) ?_
    refine rp_iadd dX7_isUp_18 ?_
    refine rp_iload_n (x := v2) dX7_isUp_19 rfl ?_
    refine rp_iadd dX7_isUp_20 ?_
    refine rp_iaload sh29 dX7_isUp_21 (fun x2 => ?_)
    refine rp_i2l dX7_isUp_22 ?_
    refine rp_aload_n (x := (E.2.2.2.1 28)) dX7_isUp_23 rfl ?_
    refine rp_getR (k := 0) (b := 29) sh28 rfl fdX7_7 dX7_isUp_24 ?_
    refine rp_iload_n (x := v1) dX7_isUp_27 rfl ?_
    refine rp_bipush dX7_isUp_28 (by decide) ?_
    refine rp_iadd dX7_isUp_30 ?_
    refine rp_iload_n (x := v2) dX7_isUp_31 rfl ?_
    refine rp_iadd dX7_isUp_32 ?_
    refine rp_iaload sh29 dX7_isUp_33 (fun x3 => ?_)
    refine rp_aload_n (x := (E.2.2.2.1 28)) dX7_isUp_34 rfl ?_
    refine rp_iload_n (x := v1) dX7_isUp_35 rfl ?_
    refine rp_iload_n (x := v2) dX7_isUp_36 rfl ?_
    refine rp_callV_hi (As := [.int v1, .int v2]) (rest := [.int x3, .long (x2.toInt64), .long (v3.toInt64)]) (b := (E.2.2.2.1 28)) (rX7_lastsOn σ v1 v2) cbX7_lastsOn lkX7_126 viX7_lastsOn (rp_rcO sh28 rfl) rfl (Nat.le_of_ble_eq_true rfl) ⟨rfl, rfl, ⟨Nat.le_of_ble_eq_true rfl, Nat.le_of_ble_eq_true rfl⟩, Nat.zero_le _, Nat.zero_le _⟩ rfl (Nat.le_of_ble_eq_true rfl) dX7_isUp_37 (fun x4 hx4 => ?_)
    refine rp_iadd dX7_isUp_40 ?_
    refine rp_iconst dX7_isUp_41 ?_
    refine rp_isub dX7_isUp_42 ?_
    refine rp_i2l dX7_isUp_43 ?_
    refine rp_callS_hi (As := [.long (v3.toInt64), .long (x2.toInt64), .long ((x3 + x4) - (rI 1)).toInt64]) (rest := []) (rX7_in σ (v3.toInt64) (x2.toInt64) ((x3 + x4) - (rI 1)).toInt64) cbX7_in lkX7_49 stX7_in rfl (Nat.le_of_ble_eq_true rfl) ⟨rfl, rfl, ⟨Nat.le_of_ble_eq_true rfl, Nat.le_of_ble_eq_true rfl⟩, Nat.zero_le _, Nat.zero_le _⟩ rfl (Nat.le_of_ble_eq_true rfl) dX7_isUp_44 (fun x5 hx5 => ?_)
    refine rp_if_eq (tgt := 54) dX7_isUp_47 (by decide) ?_ ?_
    · refine rp_iconst dX7_isUp_54 ?_
      exact rp_zret (x' := (rI 0)) rfl (by decide) rfl dX7_isUp_55
    · refine rp_iconst dX7_isUp_50 ?_
      refine rp_goto (tgt := 55) dX7_isUp_51 (by decide) ?_
      exact rp_zret (x' := (rI 1)) rfl (by decide) rfl dX7_isUp_55
/-! RocketPrintModel.looksOn(III)I -/
abbrev rmX7_looksOn : Room := { frames := 2, cells := 0, slots := 0, locals := 48 }
def fX7_looksOn_114 (σ : rp_S) (k39 : Int32 → Int32 → Int32 → Int32 → Int32 → Int32 → Option (Int32)) (v1 : Int32) (v2 : Int32) (v3 : Int32) (v5 : Int32) (v6 : Int32) (v7 : Int32) : Option (Int32) :=
  (k39 v1 v2 v3 v5 v6 (v7 + (rI 1)))
set_option maxRecDepth 100000 in
theorem rX7_looksOn_114 {E : rp_E} (σ : rp_S) (k39 : Int32 → Int32 → Int32 → Int32 → Int32 → Int32 → Option (Int32)) (hk39 : ∀ (v1 : Int32) (v2 : Int32) (v3 : Int32) (v5 : Int32) (v6 : Int32) (v7 : Int32), rp_R E (rp_mK E rmX7_looksOn) mX7_looksOn 39 [some (.ref (E.2.2.2.1 28)), some (.int v1), some (.int v2), some (.int v3), none, some (.int v5), some (.int v6), some (.int v7), none] [] σ (rp_hi σ) (k39 v1 v2 v3 v5 v6 v7)) (v1 : Int32) (v2 : Int32) (v3 : Int32) (v5 : Int32) (v6 : Int32) (v7 : Int32) : rp_R E (rp_mK E rmX7_looksOn) mX7_looksOn 114 [some (.ref (E.2.2.2.1 28)), some (.int v1), some (.int v2), some (.int v3), none, some (.int v5), some (.int v6), some (.int v7), none] [] σ (rp_hi σ) (fX7_looksOn_114 σ k39 v1 v2 v3 v5 v6 v7) := by
  rw [fX7_looksOn_114]
  refine rp_iinc (x := v7) dX7_looksOn_114 rfl (by decide) rfl ?_
  refine rp_goto (tgt := 39) dX7_looksOn_117 (by decide) ?_
  refine rp_mask [true, true, true, true, false, true, true, true, false] (vs2 := [some (.ref (E.2.2.2.1 28)), some (.int v1), some (.int v2), some (.int v3), none, some (.int v5), some (.int v6), some (.int (v7 + (rI 1))), none]) rfl rfl ?_
  exact hk39 v1 v2 v3 v5 v6 (v7 + (rI 1))
def fX7_looksOn_39 (σ : rp_S) : Nat → Int32 → Int32 → Int32 → Int32 → Int32 → Int32 → Option (Int32)
  | 0, _, _, _, _, _, _ => none
  | n + 1, v1, v2, v3, v5, v6, v7 =>
    ((rq_rd σ 29 180 (v1 + (rI 24))).bind fun x2 =>
    (if x2 ≤ v7 then
    (some v5)
  else
    ((fX7_burstOn σ v1 v7).bind fun x3 =>
    ((rq_rd σ 29 180 ((v1 + (rI 25)) + v2)).bind fun x4 =>
    ((fX7_apart x3 x4).bind fun x5 =>
    (if v6 ≤ x5 then
    (fX7_looksOn_114 σ (fun v1 v2 v3 v5 v6 v7 => fX7_looksOn_39 σ n v1 v2 v3 v5 v6 v7) v1 v2 v3 v5 v6 v7)
  else
    ((fX7_wideOn σ v1 v7).bind fun x6 =>
    (if x6 < x5 then
    (fX7_looksOn_114 σ (fun v1 v2 v3 v5 v6 v7 => fX7_looksOn_39 σ n v1 v2 v3 v5 v6 v7) v1 v2 v3 v5 v6 v7)
  else
    ((fX7_isUp σ v1 v7 v3).bind fun x7 =>
    (if x7 = 0 then
    (fX7_looksOn_114 σ (fun v1 v2 v3 v5 v6 v7 => fX7_looksOn_39 σ n v1 v2 v3 v5 v6 v7) v1 v2 v3 v5 v6 v7)
  else
    (fX7_looksOn_114 σ (fun v1 v2 v3 v5 v6 v7 => fX7_looksOn_39 σ n v1 v2 v3 v5 v6 v7) v1 v2 v3 v7 x5 v7)))))))))))
set_option maxRecDepth 100000 in
theorem rX7_looksOn_39 {E : rp_E} (σ : rp_S) : ∀ (n : Nat) (v1 : Int32) (v2 : Int32) (v3 : Int32) (v5 : Int32) (v6 : Int32) (v7 : Int32), rp_R E (rp_mK E rmX7_looksOn) mX7_looksOn 39 [some (.ref (E.2.2.2.1 28)), some (.int v1), some (.int v2), some (.int v3), none, some (.int v5), some (.int v6), some (.int v7), none] [] σ (rp_hi σ) (fX7_looksOn_39 σ n v1 v2 v3 v5 v6 v7) := by
  intro n
  induction n with
  | zero =>
    intro v1 v2 v3 v5 v6 v7
    rw [fX7_looksOn_39]
    exact rp_none
  | succ n ih =>
    intro v1 v2 v3 v5 v6 v7
    rw [fX7_looksOn_39]
    refine rp_iload (x := v7) dX7_looksOn_39 rfl ?_
    refine rp_aload_n (x := (E.2.2.2.1 28)) dX7_looksOn_41 rfl ?_
    refine rp_getR (k := 0) (b := 29) sh28 rfl fdX7_7 dX7_looksOn_42 ?_
    refine rp_iload_n (x := v1) dX7_looksOn_45 rfl ?_
    refine rp_bipush dX7_looksOn_46 (by decide) ?_
    refine rp_iadd dX7_looksOn_48 ?_
    refine rp_iaload sh29 dX7_looksOn_49 (fun x2 => ?_)
    refine rp_icmp_ge (tgt := 120) dX7_looksOn_50 (by decide) ?_ ?_
    · refine rp_iload (x := v5) dX7_looksOn_120 rfl ?_
      exact rp_iret rfl rfl dX7_looksOn_122
    · refine rp_aload_n (x := (E.2.2.2.1 28)) dX7_looksOn_53 rfl ?_
      refine rp_iload_n (x := v1) dX7_looksOn_54 rfl ?_
      refine rp_iload (x := v7) dX7_looksOn_55 rfl ?_
      refine rp_callV_hi (As := [.int v1, .int v7]) (rest := []) (b := (E.2.2.2.1 28)) (rX7_burstOn σ v1 v7) cbX7_burstOn lkX7_129 viX7_burstOn (rp_rcO sh28 rfl) rfl (Nat.le_of_ble_eq_true rfl) ⟨rfl, rfl, ⟨Nat.le_of_ble_eq_true rfl, Nat.le_of_ble_eq_true rfl⟩, Nat.zero_le _, Nat.zero_le _⟩ rfl (Nat.le_of_ble_eq_true rfl) dX7_looksOn_57 (fun x3 hx3 => ?_)
      refine rp_aload_n (x := (E.2.2.2.1 28)) dX7_looksOn_60 rfl ?_
      refine rp_getR (k := 0) (b := 29) sh28 rfl fdX7_7 dX7_looksOn_61 ?_
      refine rp_iload_n (x := v1) dX7_looksOn_64 rfl ?_
      refine rp_bipush dX7_looksOn_65 (by decide) ?_
      refine rp_iadd dX7_looksOn_67 ?_
      refine rp_iload_n (x := v2) dX7_looksOn_68 rfl ?_
      refine rp_iadd dX7_looksOn_69 ?_
      refine rp_iaload sh29 dX7_looksOn_70 (fun x4 => ?_)
      refine rp_callS_hi (As := [.int x3, .int x4]) (rest := []) (rX7_apart σ x3 x4) cbX7_apart lkX7_139 stX7_apart rfl (Nat.le_of_ble_eq_true rfl) ⟨rfl, rfl, ⟨Nat.le_of_ble_eq_true rfl, Nat.le_of_ble_eq_true rfl⟩, Nat.zero_le _, Nat.zero_le _⟩ rfl (Nat.le_of_ble_eq_true rfl) dX7_looksOn_71 (fun x5 hx5 => ?_)
      refine rp_istore dX7_looksOn_74 (by decide) rfl ?_
      refine rp_iload (x := x5) dX7_looksOn_76 rfl ?_
      refine rp_iload (x := v6) dX7_looksOn_78 rfl ?_
      refine rp_icmp_ge (tgt := 114) dX7_looksOn_80 (by decide) ?_ ?_
      · refine rp_mask [true, true, true, true, false, true, true, true, false] (vs2 := [some (.ref (E.2.2.2.1 28)), some (.int v1), some (.int v2), some (.int v3), none, some (.int v5), some (.int v6), some (.int v7), none]) rfl rfl ?_
        exact rX7_looksOn_114 σ (fun v1 v2 v3 v5 v6 v7 => fX7_looksOn_39 σ n v1 v2 v3 v5 v6 v7) (fun v1 v2 v3 v5 v6 v7 => ih v1 v2 v3 v5 v6 v7) v1 v2 v3 v5 v6 v7
      · refine rp_iload (x := x5) dX7_looksOn_83 rfl ?_
        refine rp_aload_n (x := (E.2.2.2.1 28)) dX7_looksOn_85 rfl ?_
        refine rp_iload_n (x := v1) dX7_looksOn_86 rfl ?_
        refine rp_iload (x := v7) dX7_looksOn_87 rfl ?_
        refine rp_callV_hi (As := [.int v1, .int v7]) (rest := [.int x5]) (b := (E.2.2.2.1 28)) (rX7_wideOn σ v1 v7) cbX7_wideOn lkX7_142 viX7_wideOn (rp_rcO sh28 rfl) rfl (Nat.le_of_ble_eq_true rfl) ⟨rfl, rfl, ⟨Nat.le_of_ble_eq_true rfl, Nat.le_of_ble_eq_true rfl⟩, Nat.zero_le _, Nat.zero_le _⟩ rfl (Nat.le_of_ble_eq_true rfl) dX7_looksOn_89 (fun x6 hx6 => ?_)
        refine rp_icmp_gt (tgt := 114) dX7_looksOn_92 (by decide) ?_ ?_
        · refine rp_mask [true, true, true, true, false, true, true, true, false] (vs2 := [some (.ref (E.2.2.2.1 28)), some (.int v1), some (.int v2), some (.int v3), none, some (.int v5), some (.int v6), some (.int v7), none]) rfl rfl ?_
          exact rX7_looksOn_114 σ (fun v1 v2 v3 v5 v6 v7 => fX7_looksOn_39 σ n v1 v2 v3 v5 v6 v7) (fun v1 v2 v3 v5 v6 v7 => ih v1 v2 v3 v5 v6 v7) v1 v2 v3 v5 v6 v7
        · refine rp_aload_n (x := (E.2.2.2.1 28)) dX7_looksOn_95 rfl ?_
          refine rp_iload_n (x := v1) dX7_looksOn_96 rfl ?_
          refine rp_iload (x := v7) dX7_looksOn_97 rfl ?_
          refine rp_iload_n (x := v3) dX7_looksOn_99 rfl ?_
          refine rp_callV_hi (As := [.int v1, .int v7, .int v3]) (rest := []) (b := (E.2.2.2.1 28)) (rX7_isUp σ v1 v7 v3) cbX7_isUp lkX7_145 viX7_isUp (rp_rcO sh28 rfl) rfl (Nat.le_of_ble_eq_true rfl) ⟨rfl, rfl, ⟨Nat.le_of_ble_eq_true rfl, Nat.le_of_ble_eq_true rfl⟩, Nat.zero_le _, Nat.zero_le _⟩ rfl (Nat.le_of_ble_eq_true rfl) dX7_looksOn_100 (fun x7 hx7 => ?_)
          refine rp_if_eq (tgt := 114) dX7_looksOn_103 (by decide) ?_ ?_
          · refine rp_mask [true, true, true, true, false, true, true, true, false] (vs2 := [some (.ref (E.2.2.2.1 28)), some (.int v1), some (.int v2), some (.int v3), none, some (.int v5), some (.int v6), some (.int v7), none]) rfl rfl ?_
            exact rX7_looksOn_114 σ (fun v1 v2 v3 v5 v6 v7 => fX7_looksOn_39 σ n v1 v2 v3 v5 v6 v7) (fun v1 v2 v3 v5 v6 v7 => ih v1 v2 v3 v5 v6 v7) v1 v2 v3 v5 v6 v7
          · refine rp_iload (x := v7) dX7_looksOn_106 rfl ?_
            refine rp_istore dX7_looksOn_108 (by decide) rfl ?_
            refine rp_iload (x := x5) dX7_looksOn_110 rfl ?_
            refine rp_istore dX7_looksOn_112 (by decide) rfl ?_
            refine rp_mask [true, true, true, true, false, true, true, true, false] (vs2 := [some (.ref (E.2.2.2.1 28)), some (.int v1), some (.int v2), some (.int v3), none, some (.int v7), some (.int x5), some (.int v7), none]) rfl rfl ?_
            exact rX7_looksOn_114 σ (fun v1 v2 v3 v5 v6 v7 => fX7_looksOn_39 σ n v1 v2 v3 v5 v6 v7) (fun v1 v2 v3 v5 v6 v7 => ih v1 v2 v3 v5 v6 v7) v1 v2 v3 v7 x5 v7
def fX7_looksOn_28 (σ : rp_S) (v1 : Int32) (v2 : Int32) (v3 : Int32) : Option (Int32) :=
  (fX7_looksOn_39 σ 1000 v1 v2 v3 (rI (-4)) (rI 12) (rI 0))
set_option maxRecDepth 100000 in
theorem rX7_looksOn_28 {E : rp_E} (σ : rp_S) (v1 : Int32) (v2 : Int32) (v3 : Int32) : rp_R E (rp_mK E rmX7_looksOn) mX7_looksOn 28 [some (.ref (E.2.2.2.1 28)), some (.int v1), some (.int v2), some (.int v3), none, none, none, none, none] [] σ (rp_hi σ) (fX7_looksOn_28 σ v1 v2 v3) := by
  rw [fX7_looksOn_28]
  refine rp_bipush dX7_looksOn_28 (by decide) ?_
  refine rp_istore dX7_looksOn_30 (by decide) rfl ?_
  refine rp_bipush dX7_looksOn_32 (by decide) ?_
  refine rp_istore dX7_looksOn_34 (by decide) rfl ?_
  refine rp_iconst dX7_looksOn_36 ?_
  refine rp_istore dX7_looksOn_37 (by decide) rfl ?_
  refine rp_mask [true, true, true, true, false, true, true, true, false] (vs2 := [some (.ref (E.2.2.2.1 28)), some (.int v1), some (.int v2), some (.int v3), none, some (.int (rI (-4))), some (.int (rI 12)), some (.int (rI 0)), none]) rfl rfl ?_
  exact rX7_looksOn_39 σ 1000 v1 v2 v3 (rI (-4)) (rI 12) (rI 0)
def fX7_looksOn (σ : rp_S) (v1 : Int32) (v2 : Int32) (v3 : Int32) : Option (Int32) :=
  ((rq_rd σ 29 180 ((v1 + (rI 29)) + v2)).bind fun x1 =>
    (if x1 ≤ 0 then
    (fX7_looksOn_28 σ v1 v2 v3)
  else
    ((rq_irem v3 x1).bind fun z8 =>
    (if z8 = 0 then
    (some (rI (-4)))
  else
    (fX7_looksOn_28 σ v1 v2 v3)))))
set_option maxRecDepth 100000 in
theorem rX7_looksOn {E : rp_E} (σ : rp_S) (v1 : Int32) (v2 : Int32) (v3 : Int32)   : rp_R E (rp_mK E rmX7_looksOn) mX7_looksOn 0 [some (.ref (E.2.2.2.1 28)), some (.int v1), some (.int v2), some (.int v3), none, none, none, none, none] [] σ (rp_hi σ) (fX7_looksOn σ v1 v2 v3) := by
  rw [fX7_looksOn]
  refine rp_aload_n (x := (E.2.2.2.1 28)) dX7_looksOn_0 rfl ?_
  refine rp_getR (k := 0) (b := 29) sh28 rfl fdX7_7 dX7_looksOn_1 ?_
  refine rp_iload_n (x := v1) dX7_looksOn_4 rfl ?_
  refine rp_bipush dX7_looksOn_5 (by decide) ?_
  refine rp_iadd dX7_looksOn_7 ?_
  refine rp_iload_n (x := v2) dX7_looksOn_8 rfl ?_
  refine rp_iadd dX7_looksOn_9 ?_
  refine rp_iaload sh29 dX7_looksOn_10 (fun x1 => ?_)
  refine rp_istore dX7_looksOn_11 (by decide) rfl ?_
  refine rp_iload (x := x1) dX7_looksOn_13 rfl ?_
  refine rp_if_le (tgt := 28) dX7_looksOn_15 (by decide) ?_ ?_
  · refine rp_mask [true, true, true, true, false, false, false, false, false] (vs2 := [some (.ref (E.2.2.2.1 28)), some (.int v1), some (.int v2), some (.int v3), none, none, none, none, none]) rfl rfl ?_
    exact rX7_looksOn_28 σ v1 v2 v3
  · refine rp_iload_n (x := v3) dX7_looksOn_18 rfl ?_
    refine rp_iload (x := x1) dX7_looksOn_19 rfl ?_
    refine rp_irem dX7_looksOn_21 (fun z8 => ?_)
    refine rp_if_ne (tgt := 28) dX7_looksOn_22 (by decide) ?_ ?_
    · refine rp_mask [true, true, true, true, false, false, false, false, false] (vs2 := [some (.ref (E.2.2.2.1 28)), some (.int v1), some (.int v2), some (.int v3), none, none, none, none, none]) rfl rfl ?_
      exact rX7_looksOn_28 σ v1 v2 v3
    · refine rp_bipush dX7_looksOn_25 (by decide) ?_
      exact rp_iret rfl rfl dX7_looksOn_27
