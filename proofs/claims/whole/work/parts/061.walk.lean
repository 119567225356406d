/-! RocketPrint$Tape.takeWind(LRocketPrint$Night;)V -/
abbrev rmX5_takeWind : Room := { frames := 3, cells := 0, slots := 0, locals := 63 }
def fX5_takeWind_12 (a1 : Nat) (σ : rp_S) : Option (rp_S) :=
  ((some (rp_up σ 13 7 (rI 1))).bind fun σ1 =>
    ((fX5_takeNumber σ1 (rI 0) (rI 8)).bind fun p2 =>
    ((some (rp_up p2.2 a1 4 p2.1)).bind fun σ3 =>
    ((fX5_takeSign σ3).bind fun σ4 =>
    (some σ4)))))
set_option maxRecDepth 100000 in
theorem rX5_takeWind_12 {E : rp_E} (a1 : Nat) (ha1 : rp_Ni a1)  (σ : rp_S) : rp_R E (rp_mK E rmX5_takeWind) mX5_takeWind 12 [some (.ref (E.2.2.2.1 13)), some (.ref (E.2.2.2.1 a1))] [] σ rp_hv (fX5_takeWind_12 a1 σ) := by
  rw [fX5_takeWind_12]
  refine rp_aload_n (x := (E.2.2.2.1 13)) dX5_takeWind_12 rfl ?_
  refine rp_iconst dX5_takeWind_13 ?_
  refine rp_putB (k := 7) sh13 rfl fpX5_27 (by decide) (by decide) dX5_takeWind_14 (fun σ1 => ?_)
  refine rp_aload_n (x := (E.2.2.2.1 a1)) dX5_takeWind_17 rfl ?_
  refine rp_aload_n (x := (E.2.2.2.1 13)) dX5_takeWind_18 rfl ?_
  refine rp_iconst dX5_takeWind_19 ?_
  refine rp_bipush dX5_takeWind_20 (by decide) ?_
  refine rp_callV_hI (As := [.int (rI 0), .int (rI 8)]) (rest := [.ref (E.2.2.2.1 a1)]) (b := (E.2.2.2.1 13)) (rX5_takeNumber σ1 (rI 0) (rI 8)) cbX5_takeNumber lkX5_75 viX5_takeNumber (rp_rcO sh13 rfl) rfl (Nat.le_of_ble_eq_true rfl) ⟨rfl, rfl, ⟨Nat.le_of_ble_eq_true rfl, Nat.le_of_ble_eq_true rfl⟩, Nat.zero_le _, Nat.zero_le _⟩ rfl (Nat.le_of_ble_eq_true rfl) dX5_takeWind_22 (fun p2 hp2 => ?_)
  refine rp_putB (k := 4) ha1.1 rfl fpX5_95 (vp_nar_int _) rfl dX5_takeWind_25 (fun σ3 => ?_)
  refine rp_aload_n (x := (E.2.2.2.1 13)) dX5_takeWind_28 rfl ?_
  refine rp_callV_hv (As := []) (rest := []) (b := (E.2.2.2.1 13)) (rX5_takeSign σ3) cbX5_takeSign lkX5_79 viX5_takeSign (rp_rcO sh13 rfl) rfl (Nat.le_of_ble_eq_true rfl) ⟨rfl, rfl, ⟨Nat.le_of_ble_eq_true rfl, Nat.le_of_ble_eq_true rfl⟩, Nat.zero_le _, Nat.zero_le _⟩ rfl (Nat.le_of_ble_eq_true rfl) dX5_takeWind_29 (fun σ4 hσ4 => ?_)
  exact rp_vret rfl rfl dX5_takeWind_32
def fX5_takeWind (σ : rp_S) (a1 : Nat) : Option (rp_S) :=
  (if (σ 13 7) = 0 then
    (fX5_takeWind_12 a1 σ)
  else
    ((fX5_blame σ (rI 4)).bind fun σ5 =>
    (fX5_takeWind_12 a1 σ5)))
set_option maxRecDepth 100000 in
theorem rX5_takeWind {E : rp_E} (σ : rp_S) (a1 : Nat) (ha1 : rp_Ni a1)  : rp_R E (rp_mK E rmX5_takeWind) mX5_takeWind 0 [some (.ref (E.2.2.2.1 13)), some (.ref (E.2.2.2.1 a1))] [] σ rp_hv (fX5_takeWind σ a1) := by
  rw [fX5_takeWind]
  refine rp_aload_n (x := (E.2.2.2.1 13)) dX5_takeWind_0 rfl ?_
  refine rp_getI (k := 7) sh13 rfl fdX5_27 dX5_takeWind_1 ?_
  refine rp_if_eq (tgt := 12) dX5_takeWind_4 (by decide) ?_ ?_
  · refine rp_mask [true, true] (vs2 := [some (.ref (E.2.2.2.1 13)), some (.ref (E.2.2.2.1 a1))]) rfl rfl ?_
    exact rX5_takeWind_12 a1 ha1 σ
  · refine rp_aload_n (x := (E.2.2.2.1 13)) dX5_takeWind_7 rfl ?_
    refine rp_iconst dX5_takeWind_8 ?_
    refine rp_callV_hv (As := [.int (rI 4)]) (rest := []) (b := (E.2.2.2.1 13)) (rX5_blame σ (rI 4)) cbX5_blame lkX5_48 viX5_blame (rp_rcO sh13 rfl) rfl (Nat.le_of_ble_eq_true rfl) ⟨rfl, rfl, ⟨Nat.le_of_ble_eq_true rfl, Nat.le_of_ble_eq_true rfl⟩, Nat.zero_le _, Nat.zero_le _⟩ rfl (Nat.le_of_ble_eq_true rfl) dX5_takeWind_9 (fun σ5 hσ5 => ?_)
    refine rp_mask [true, true] (vs2 := [some (.ref (E.2.2.2.1 13)), some (.ref (E.2.2.2.1 a1))]) rfl rfl ?_
    exact rX5_takeWind_12 a1 ha1 σ5
/-! RocketPrint$Tape.takeDamp(LRocketPrint$Night;)V -/
abbrev rmX5_takeDamp : Room := { frames := 3, cells := 0, slots := 0, locals := 63 }
def fX5_takeDamp_12 (a1 : Nat) (σ : rp_S) : Option (rp_S) :=
  ((some (rp_up σ 13 8 (rI 1))).bind fun σ1 =>
    ((fX5_takeNumber σ1 (rI 0) (rI 9)).bind fun p2 =>
    ((some (rp_up p2.2 a1 5 p2.1)).bind fun σ3 =>
    ((fX5_takeSign σ3).bind fun σ4 =>
    (some σ4)))))
set_option maxRecDepth 100000 in
theorem rX5_takeDamp_12 {E : rp_E} (a1 : Nat) (ha1 : rp_Ni a1)  (σ : rp_S) : rp_R E (rp_mK E rmX5_takeDamp) mX5_takeDamp 12 [some (.ref (E.2.2.2.1 13)), some (.ref (E.2.2.2.1 a1))] [] σ rp_hv (fX5_takeDamp_12 a1 σ) := by
  rw [fX5_takeDamp_12]
  refine rp_aload_n (x := (E.2.2.2.1 13)) dX5_takeDamp_12 rfl ?_
  refine rp_iconst dX5_takeDamp_13 ?_
  refine rp_putB (k := 8) sh13 rfl fpX5_31 (by decide) (by decide) dX5_takeDamp_14 (fun σ1 => ?_)
  refine rp_aload_n (x := (E.2.2.2.1 a1)) dX5_takeDamp_17 rfl ?_
  refine rp_aload_n (x := (E.2.2.2.1 13)) dX5_takeDamp_18 rfl ?_
  refine rp_iconst dX5_takeDamp_19 ?_
  refine rp_bipush dX5_takeDamp_20 (by decide) ?_
  refine rp_callV_hI (As := [.int (rI 0), .int (rI 9)]) (rest := [.ref (E.2.2.2.1 a1)]) (b := (E.2.2.2.1 13)) (rX5_takeNumber σ1 (rI 0) (rI 9)) cbX5_takeNumber lkX5_75 viX5_takeNumber (rp_rcO sh13 rfl) rfl (Nat.le_of_ble_eq_true rfl) ⟨rfl, rfl, ⟨Nat.le_of_ble_eq_true rfl, Nat.le_of_ble_eq_true rfl⟩, Nat.zero_le _, Nat.zero_le _⟩ rfl (Nat.le_of_ble_eq_true rfl) dX5_takeDamp_22 (fun p2 hp2 => ?_)
  refine rp_putB (k := 5) ha1.1 rfl fpX5_98 (vp_nar_int _) rfl dX5_takeDamp_25 (fun σ3 => ?_)
  refine rp_aload_n (x := (E.2.2.2.1 13)) dX5_takeDamp_28 rfl ?_
  refine rp_callV_hv (As := []) (rest := []) (b := (E.2.2.2.1 13)) (rX5_takeSign σ3) cbX5_takeSign lkX5_79 viX5_takeSign (rp_rcO sh13 rfl) rfl (Nat.le_of_ble_eq_true rfl) ⟨rfl, rfl, ⟨Nat.le_of_ble_eq_true rfl, Nat.le_of_ble_eq_true rfl⟩, Nat.zero_le _, Nat.zero_le _⟩ rfl (Nat.le_of_ble_eq_true rfl) dX5_takeDamp_29 (fun σ4 hσ4 => ?_)
  exact rp_vret rfl rfl dX5_takeDamp_32
def fX5_takeDamp (σ : rp_S) (a1 : Nat) : Option (rp_S) :=
  (if (σ 13 8) = 0 then
    (fX5_takeDamp_12 a1 σ)
  else
    ((fX5_blame σ (rI 4)).bind fun σ5 =>
    (fX5_takeDamp_12 a1 σ5)))
set_option maxRecDepth 100000 in
theorem rX5_takeDamp {E : rp_E} (σ : rp_S) (a1 : Nat) (ha1 : rp_Ni a1)  : rp_R E (rp_mK E rmX5_takeDamp) mX5_takeDamp 0 [some (.ref (E.2.2.2.1 13)), some (.ref (E.2.2.2.1 a1))] [] σ rp_hv (fX5_takeDamp σ a1) := by
  rw [fX5_takeDamp]
  refine rp_aload_n (x := (E.2.2.2.1 13)) dX5_takeDamp_0 rfl ?_
  refine rp_getI (k := 8) sh13 rfl fdX5_31 dX5_takeDamp_1 ?_
  refine rp_if_eq (tgt := 12) dX5_takeDamp_4 (by decide) ?_ ?_
  · refine rp_mask [true, true] (vs2 := [some (.ref (E.2.2.2.1 13)), some (.ref (E.2.2.2.1 a1))]) rfl rfl ?_
    exact rX5_takeDamp_12 a1 ha1 σ
  · refine rp_aload_n (x := (E.2.2.2.1 13)) dX5_takeDamp_7 rfl ?_
    refine rp_iconst dX5_takeDamp_8 ?_
    refine rp_callV_hv (As := [.int (rI 4)]) (rest := []) (b := (E.2.2.2.1 13)) (rX5_blame σ (rI 4)) cbX5_blame lkX5_48 viX5_blame (rp_rcO sh13 rfl) rfl (Nat.le_of_ble_eq_true rfl) ⟨rfl, rfl, ⟨Nat.le_of_ble_eq_true rfl, Nat.le_of_ble_eq_true rfl⟩, Nat.zero_le _, Nat.zero_le _⟩ rfl (Nat.le_of_ble_eq_true rfl) dX5_takeDamp_9 (fun σ5 hσ5 => ?_)
    refine rp_mask [true, true] (vs2 := [some (.ref (E.2.2.2.1 13)), some (.ref (E.2.2.2.1 a1))]) rfl rfl ?_
    exact rX5_takeDamp_12 a1 ha1 σ5
/-! RocketPrint$Tape.takeLine(LRocketPrint$Night;)V -/
abbrev rmX5_takeLine : Room := { frames := 6, cells := 0, slots := 0, locals := 127 }
def fX5_takeLine_17 (a1 : Nat) (σ : rp_S) (s0 : Int32) : Option (rp_S) :=
  (if 0 ≤ s0 then
    (if (rI 4) ≤ s0 then
    (if s0 = (rI 4) then
    ((fX5_takeReader σ a1).bind fun σ3 =>
    (some σ3))
  else
    (if s0 = (rI 5) then
    ((fX5_takeWind σ a1).bind fun σ2 =>
    (some σ2))
  else
    ((fX5_takeDamp σ a1).bind fun σ1 =>
    (some σ1))))
  else
    ((fX5_takeWork σ a1 s0).bind fun σ4 =>
    (some σ4)))
  else
    ((fX5_blame σ (rI 2)).bind fun σ5 =>
    (some σ5)))
set_option maxRecDepth 100000 in
theorem rX5_takeLine_17 {E : rp_E} (a1 : Nat) (ha1 : rp_Ni a1)  (σ : rp_S) (s0 : Int32) : rp_R E (rp_mK E rmX5_takeLine) mX5_takeLine 17 [some (.ref (E.2.2.2.1 13)), some (.ref (E.2.2.2.1 a1)), none] [.int s0] σ rp_hv (fX5_takeLine_17 a1 σ s0) := by
  rw [fX5_takeLine_17]
  refine rp_istore_n dX5_takeLine_17 (by decide) rfl ?_
  refine rp_iload_n (x := s0) dX5_takeLine_18 rfl ?_
  refine rp_if_ge (tgt := 30) dX5_takeLine_19 (by decide) ?_ ?_
  · refine rp_iload_n (x := s0) dX5_takeLine_30 rfl ?_
    refine rp_iconst dX5_takeLine_31 ?_
    refine rp_icmp_ge (tgt := 44) dX5_takeLine_32 (by decide) ?_ ?_
    · refine rp_iload_n (x := s0) dX5_takeLine_44 rfl ?_
      refine rp_iconst dX5_takeLine_45 ?_
      refine rp_icmp_ne (tgt := 57) dX5_takeLine_46 (by decide) ?_ ?_
      · refine rp_iload_n (x := s0) dX5_takeLine_57 rfl ?_
        refine rp_iconst dX5_takeLine_58 ?_
        refine rp_icmp_ne (tgt := 70) dX5_takeLine_59 (by decide) ?_ ?_
        · refine rp_aload_n (x := (E.2.2.2.1 13)) dX5_takeLine_70 rfl ?_
          refine rp_aload_n (x := (E.2.2.2.1 a1)) dX5_takeLine_71 rfl ?_
          refine rp_callV_hv (As := [.ref (E.2.2.2.1 a1)]) (rest := []) (b := (E.2.2.2.1 13)) (rX5_takeDamp σ a1 ha1) cbX5_takeDamp lkX5_62 viX5_takeDamp (rp_rcO sh13 rfl) rfl (Nat.le_of_ble_eq_true rfl) ⟨rfl, rfl, ⟨Nat.le_of_ble_eq_true rfl, Nat.le_of_ble_eq_true rfl⟩, Nat.zero_le _, Nat.zero_le _⟩ rfl (Nat.le_of_ble_eq_true rfl) dX5_takeLine_72 (fun σ1 hσ1 => ?_)
          exact rp_vret rfl rfl dX5_takeLine_75
        · refine rp_aload_n (x := (E.2.2.2.1 13)) dX5_takeLine_62 rfl ?_
          refine rp_aload_n (x := (E.2.2.2.1 a1)) dX5_takeLine_63 rfl ?_
          refine rp_callV_hv (As := [.ref (E.2.2.2.1 a1)]) (rest := []) (b := (E.2.2.2.1 13)) (rX5_takeWind σ a1 ha1) cbX5_takeWind lkX5_59 viX5_takeWind (rp_rcO sh13 rfl) rfl (Nat.le_of_ble_eq_true rfl) ⟨rfl, rfl, ⟨Nat.le_of_ble_eq_true rfl, Nat.le_of_ble_eq_true rfl⟩, Nat.zero_le _, Nat.zero_le _⟩ rfl (Nat.le_of_ble_eq_true rfl) dX5_takeLine_64 (fun σ2 hσ2 => ?_)
          refine rp_goto (tgt := 75) dX5_takeLine_67 (by decide) ?_
          exact rp_vret rfl rfl dX5_takeLine_75
      · refine rp_aload_n (x := (E.2.2.2.1 13)) dX5_takeLine_49 rfl ?_
        refine rp_aload_n (x := (E.2.2.2.1 a1)) dX5_takeLine_50 rfl ?_
        refine rp_callV_hv (As := [.ref (E.2.2.2.1 a1)]) (rest := []) (b := (E.2.2.2.1 13)) (rX5_takeReader σ a1 ha1) cbX5_takeReader lkX5_56 viX5_takeReader (rp_rcO sh13 rfl) rfl (Nat.le_of_ble_eq_true rfl) ⟨rfl, rfl, ⟨Nat.le_of_ble_eq_true rfl, Nat.le_of_ble_eq_true rfl⟩, Nat.zero_le _, Nat.zero_le _⟩ rfl (Nat.le_of_ble_eq_true rfl) dX5_takeLine_51 (fun σ3 hσ3 => ?_)
        refine rp_goto (tgt := 75) dX5_takeLine_54 (by decide) ?_
        exact rp_vret rfl rfl dX5_takeLine_75
    · refine rp_aload_n (x := (E.2.2.2.1 13)) dX5_takeLine_35 rfl ?_
      refine rp_aload_n (x := (E.2.2.2.1 a1)) dX5_takeLine_36 rfl ?_
      refine rp_iload_n (x := s0) dX5_takeLine_37 rfl ?_
      refine rp_callV_hv (As := [.ref (E.2.2.2.1 a1), .int s0]) (rest := []) (b := (E.2.2.2.1 13)) (rX5_takeWork σ a1 s0 ha1) cbX5_takeWork lkX5_52 viX5_takeWork (rp_rcO sh13 rfl) rfl (Nat.le_of_ble_eq_true rfl) ⟨rfl, rfl, ⟨Nat.le_of_ble_eq_true rfl, Nat.le_of_ble_eq_true rfl⟩, Nat.zero_le _, Nat.zero_le _⟩ rfl (Nat.le_of_ble_eq_true rfl) dX5_takeLine_38 (fun σ4 hσ4 => ?_)
      refine rp_goto (tgt := 75) dX5_takeLine_41 (by decide) ?_
      exact rp_vret rfl rfl dX5_takeLine_75
  · refine rp_aload_n (x := (E.2.2.2.1 13)) dX5_takeLine_22 rfl ?_
    refine rp_iconst dX5_takeLine_23 ?_
    refine rp_callV_hv (As := [.int (rI 2)]) (rest := []) (b := (E.2.2.2.1 13)) (rX5_blame σ (rI 2)) cbX5_blame lkX5_48 viX5_blame (rp_rcO sh13 rfl) rfl (Nat.le_of_ble_eq_true rfl) ⟨rfl, rfl, ⟨Nat.le_of_ble_eq_true rfl, Nat.le_of_ble_eq_true rfl⟩, Nat.zero_le _, Nat.zero_le _⟩ rfl (Nat.le_of_ble_eq_true rfl) dX5_takeLine_24 (fun σ5 hσ5 => ?_)
    refine rp_goto (tgt := 75) dX5_takeLine_27 (by decide) ?_
    exact rp_vret rfl rfl dX5_takeLine_75
def fX5_takeLine (σ : rp_S) (a1 : Nat) : Option (rp_S) :=
  (if (σ 13 3) = (rI 1) then
    ((fX5_wordRead σ).bind fun x6 =>
    (fX5_takeLine_17 a1 σ x6))
  else
    (fX5_takeLine_17 a1 σ (rI (-4))))
set_option maxRecDepth 100000 in
theorem rX5_takeLine {E : rp_E} (σ : rp_S) (a1 : Nat) (ha1 : rp_Ni a1)  : rp_R E (rp_mK E rmX5_takeLine) mX5_takeLine 0 [some (.ref (E.2.2.2.1 13)), some (.ref (E.2.2.2.1 a1)), none] [] σ rp_hv (fX5_takeLine σ a1) := by
  rw [fX5_takeLine]
  refine rp_aload_n (x := (E.2.2.2.1 13)) dX5_takeLine_0 rfl ?_
  refine rp_getI (k := 3) sh13 rfl fdX5_37 dX5_takeLine_1 ?_
  refine rp_iconst dX5_takeLine_4 ?_
  refine rp_icmp_ne (tgt := 15) dX5_takeLine_5 (by decide) ?_ ?_
  · refine rp_bipush dX5_takeLine_15 (by decide) ?_
    refine rp_mask [true, true, false] (vs2 := [some (.ref (E.2.2.2.1 13)), some (.ref (E.2.2.2.1 a1)), none]) rfl rfl ?_
    exact rX5_takeLine_17 a1 ha1 σ (rI (-4))
  · refine rp_aload_n (x := (E.2.2.2.1 13)) dX5_takeLine_8 rfl ?_
    refine rp_callV_hi (As := []) (rest := []) (b := (E.2.2.2.1 13)) (rX5_wordRead σ) cbX5_wordRead lkX5_44 viX5_wordRead (rp_rcO sh13 rfl) rfl (Nat.le_of_ble_eq_true rfl) ⟨rfl, rfl, ⟨Nat.le_of_ble_eq_true rfl, Nat.le_of_ble_eq_true rfl⟩, Nat.zero_le _, Nat.zero_le _⟩ rfl (Nat.le_of_ble_eq_true rfl) dX5_takeLine_9 (fun x6 hx6 => ?_)
    refine rp_goto (tgt := 17) dX5_takeLine_12 (by decide) ?_
    refine rp_mask [true, true, false] (vs2 := [some (.ref (E.2.2.2.1 13)), some (.ref (E.2.2.2.1 a1)), none]) rfl rfl ?_
    exact rX5_takeLine_17 a1 ha1 σ x6
/-! RocketPrint$Tape.tellTo(LRocketPrint$Night;)I -/
abbrev rmX5_tellTo : Room := { frames := 7, cells := 0, slots := 0, locals := 149 }
def fX5_tellTo_30 (a1 : Nat) : Nat → rp_S → Int32 → Option (Int32 × rp_S)
  | 0, _, _ => none
  | n + 1, σ, v2 =>
    (if (σ 13 2) = 0 then
    (if (σ 13 3) = 0 then
    (some (v2, σ))
  else
    (if (rI 160) ≤ v2 then
    (some (v2, σ))
  else
    ((fX5_takeLine σ a1).bind fun σ7 =>
    ((fX5_takeToken σ7).bind fun σ8 =>
    (fX5_tellTo_30 a1 n σ8 (v2 + (rI 1)))))))
  else
    (some (v2, σ)))
set_option maxRecDepth 100000 in
theorem rX5_tellTo_30 {E : rp_E} (a1 : Nat) (ha1 : rp_Ni a1)  : ∀ (n : Nat) (σ : rp_S) (v2 : Int32), rp_R E (rp_mK E rmX5_tellTo) mX5_tellTo 30 [some (.ref (E.2.2.2.1 13)), some (.ref (E.2.2.2.1 a1)), some (.int v2)] [] σ rp_hI (fX5_tellTo_30 a1 n σ v2) := by
  intro n
  induction n with
  | zero =>
    intro σ v2
    rw [fX5_tellTo_30]
    exact rp_none
  | succ n ih =>
    intro σ v2
    rw [fX5_tellTo_30]
    refine rp_aload_n (x := (E.2.2.2.1 13)) dX5_tellTo_30 rfl ?_
    refine rp_getI (k := 2) sh13 rfl fdX5_20 dX5_tellTo_31 ?_
    refine rp_if_ne (tgt := 66) dX5_tellTo_34 (by decide) ?_ ?_
    · refine rp_iload_n (x := v2) dX5_tellTo_66 rfl ?_
      exact rp_iret rfl rfl dX5_tellTo_67
    · refine rp_aload_n (x := (E.2.2.2.1 13)) dX5_tellTo_37 rfl ?_
      refine rp_getI (k := 3) sh13 rfl fdX5_37 dX5_tellTo_38 ?_
      refine rp_if_eq (tgt := 66) dX5_tellTo_41 (by decide) ?_ ?_
      · refine rp_iload_n (x := v2) dX5_tellTo_66 rfl ?_
        exact rp_iret rfl rfl dX5_tellTo_67
      · refine rp_iload_n (x := v2) dX5_tellTo_44 rfl ?_
        refine rp_sipush dX5_tellTo_45 (by decide) ?_
        refine rp_icmp_ge (tgt := 66) dX5_tellTo_48 (by decide) ?_ ?_
        · refine rp_iload_n (x := v2) dX5_tellTo_66 rfl ?_
          exact rp_iret rfl rfl dX5_tellTo_67
        · refine rp_aload_n (x := (E.2.2.2.1 13)) dX5_tellTo_51 rfl ?_
          refine rp_aload_n (x := (E.2.2.2.1 a1)) dX5_tellTo_52 rfl ?_
          refine rp_callV_hv (As := [.ref (E.2.2.2.1 a1)]) (rest := []) (b := (E.2.2.2.1 13)) (rX5_takeLine σ a1 ha1) cbX5_takeLine lkX5_40 viX5_takeLine (rp_rcO sh13 rfl) rfl (Nat.le_of_ble_eq_true rfl) ⟨rfl, rfl, ⟨Nat.le_of_ble_eq_true rfl, Nat.le_of_ble_eq_true rfl⟩, Nat.zero_le _, Nat.zero_le _⟩ rfl (Nat.le_of_ble_eq_true rfl) dX5_tellTo_53 (fun σ7 hσ7 => ?_)
          refine rp_aload_n (x := (E.2.2.2.1 13)) dX5_tellTo_56 rfl ?_
          refine rp_callV_hv (As := []) (rest := []) (b := (E.2.2.2.1 13)) (rX5_takeToken σ7) cbX5_takeToken lkX5_34 viX5_takeToken (rp_rcO sh13 rfl) rfl (Nat.le_of_ble_eq_true rfl) ⟨rfl, rfl, ⟨Nat.le_of_ble_eq_true rfl, Nat.le_of_ble_eq_true rfl⟩, Nat.zero_le _, Nat.zero_le _⟩ rfl (Nat.le_of_ble_eq_true rfl) dX5_tellTo_57 (fun σ8 hσ8 => ?_)
          refine rp_iinc (x := v2) dX5_tellTo_60 rfl (by decide) rfl ?_
          refine rp_goto (tgt := 30) dX5_tellTo_63 (by decide) ?_
          refine rp_mask [true, true, true] (vs2 := [some (.ref (E.2.2.2.1 13)), some (.ref (E.2.2.2.1 a1)), some (.int (v2 + (rI 1)))]) rfl rfl ?_
          exact ih σ8 (v2 + (rI 1))
def fX5_tellTo (σ : rp_S) (a1 : Nat) : Option (Int32 × rp_S) :=
  ((fX1_clear σ a1).bind fun σ1 =>
    ((some (rp_up σ1 13 2 (rI 0))).bind fun σ2 =>
    ((some (rp_up σ2 13 5 (rI 0))).bind fun σ3 =>
    ((some (rp_up σ3 13 7 (rI 0))).bind fun σ4 =>
    ((some (rp_up σ4 13 8 (rI 0))).bind fun σ5 =>
    ((fX5_takeToken σ5).bind fun σ6 =>
    (fX5_tellTo_30 a1 1000 σ6 (rI 0))))))))
set_option maxRecDepth 100000 in
theorem rX5_tellTo {E : rp_E} (σ : rp_S) (a1 : Nat) (ha1 : rp_Ni a1)  : rp_R E (rp_mK E rmX5_tellTo) mX5_tellTo 0 [some (.ref (E.2.2.2.1 13)), some (.ref (E.2.2.2.1 a1)), none] [] σ rp_hI (fX5_tellTo σ a1) := by
  rw [fX5_tellTo]
  refine rp_aload_n (x := (E.2.2.2.1 a1)) dX5_tellTo_0 rfl ?_
  refine rp_callV_hv (As := []) (rest := []) (b := (E.2.2.2.1 a1)) (rX1_clear σ a1 ha1) cbX1_clear lkX5_15 viX1_clear (rp_rcO ha1.1 rfl) rfl (Nat.le_of_ble_eq_true rfl) ⟨rfl, rfl, ⟨Nat.le_of_ble_eq_true rfl, Nat.le_of_ble_eq_true rfl⟩, Nat.zero_le _, Nat.zero_le _⟩ rfl (Nat.le_of_ble_eq_true rfl) dX5_tellTo_1 (fun σ1 hσ1 => ?_)
  refine rp_aload_n (x := (E.2.2.2.1 13)) dX5_tellTo_4 rfl ?_
  refine rp_iconst dX5_tellTo_5 ?_
  refine rp_putB (k := 2) sh13 rfl fpX5_20 (vp_nar_int _) rfl dX5_tellTo_6 (fun σ2 => ?_)
  refine rp_aload_n (x := (E.2.2.2.1 13)) dX5_tellTo_9 rfl ?_
  refine rp_iconst dX5_tellTo_10 ?_
  refine rp_putB (k := 5) sh13 rfl fpX5_24 (vp_nar_int _) rfl dX5_tellTo_11 (fun σ3 => ?_)
  refine rp_aload_n (x := (E.2.2.2.1 13)) dX5_tellTo_14 rfl ?_
  refine rp_iconst dX5_tellTo_15 ?_
  refine rp_putB (k := 7) sh13 rfl fpX5_27 (by decide) (by decide) dX5_tellTo_16 (fun σ4 => ?_)
  refine rp_aload_n (x := (E.2.2.2.1 13)) dX5_tellTo_19 rfl ?_
  refine rp_iconst dX5_tellTo_20 ?_
  refine rp_putB (k := 8) sh13 rfl fpX5_31 (by decide) (by decide) dX5_tellTo_21 (fun σ5 => ?_)
  refine rp_iconst dX5_tellTo_24 ?_
  refine rp_istore_n dX5_tellTo_25 (by decide) rfl ?_
  refine rp_aload_n (x := (E.2.2.2.1 13)) dX5_tellTo_26 rfl ?_
  refine rp_callV_hv (As := []) (rest := []) (b := (E.2.2.2.1 13)) (rX5_takeToken σ5) cbX5_takeToken lkX5_34 viX5_takeToken (rp_rcO sh13 rfl) rfl (Nat.le_of_ble_eq_true rfl) ⟨rfl, rfl, ⟨Nat.le_of_ble_eq_true rfl, Nat.le_of_ble_eq_true rfl⟩, Nat.zero_le _, Nat.zero_le _⟩ rfl (Nat.le_of_ble_eq_true rfl) dX5_tellTo_27 (fun σ6 hσ6 => ?_)
  refine rp_mask [true, true, true] (vs2 := [some (.ref (E.2.2.2.1 13)), some (.ref (E.2.2.2.1 a1)), some (.int (rI 0))]) rfl rfl ?_
  exact rX5_tellTo_30 a1 ha1 1000 σ6 (rI 0)
/-! RocketPrint$Night.become(LRocketPrint$Night;)V -/
abbrev rmX1_become : Room := { frames := 1, cells := 0, slots := 0, locals := 40 }
def fX1_become (σ : rp_S) (a0 : Nat) (a1 : Nat) : Option (rp_S) :=
  ((some (rp_cp σ (a1 + 1) (a0 + 1) 24)).bind fun σ1 =>
    ((some (rp_cp σ1 (a1 + 2) (a0 + 2) 8)).bind fun σ2 =>
    ((some (rp_up σ2 a0 2 (σ2 a1 2))).bind fun σ3 =>
    ((some (rp_up σ3 a0 3 (σ3 a1 3))).bind fun σ4 =>
    ((some (rp_up σ4 a0 4 (σ4 a1 4))).bind fun σ5 =>
    ((some (rp_up σ5 a0 5 (σ5 a1 5))).bind fun σ6 =>
    (some σ6)))))))
set_option maxRecDepth 100000 in
theorem rX1_become {E : rp_E} (σ : rp_S) (a0 : Nat) (a1 : Nat) (ha0 : rp_Ni a0) (ha1 : rp_Ni a1)  : rp_R E (rp_mK E rmX1_become) mX1_become 0 [some (.ref (E.2.2.2.1 a0)), some (.ref (E.2.2.2.1 a1))] [] σ rp_hv (fX1_become σ a0 a1) := by
  rw [fX1_become]
  refine rp_aload_n (x := (E.2.2.2.1 a1)) dX1_become_0 rfl ?_
  refine rp_getR (k := 0) (b := (a1 + 1)) ha1.1 rfl fdX1_9 dX1_become_1 ?_
  refine rp_iconst dX1_become_4 ?_
  refine rp_aload_n (x := (E.2.2.2.1 a0)) dX1_become_5 rfl ?_
  refine rp_getR (k := 0) (b := (a0 + 1)) ha0.1 rfl fdX1_9 dX1_become_6 ?_
  refine rp_iconst dX1_become_9 ?_
  refine rp_bipush dX1_become_10 (by decide) ?_
  refine rp_copyB (n := 24) cwX1_31 ha1.2.1 ha0.2.1 (by decide) (by decide) (by decide) ⟨Nat.le_of_ble_eq_true rfl, Nat.le_of_ble_eq_true rfl⟩ dX1_become_12 (fun σ1 => ?_)
  refine rp_aload_n (x := (E.2.2.2.1 a1)) dX1_become_15 rfl ?_
  refine rp_getR (k := 1) (b := (a1 + 2)) ha1.1 rfl fdX1_15 dX1_become_16 ?_
  refine rp_iconst dX1_become_19 ?_
  refine rp_aload_n (x := (E.2.2.2.1 a0)) dX1_become_20 rfl ?_
  refine rp_getR (k := 1) (b := (a0 + 2)) ha0.1 rfl fdX1_15 dX1_become_21 ?_
  refine rp_iconst dX1_become_24 ?_
  refine rp_bipush dX1_become_25 (by decide) ?_
  refine rp_copyB (n := 8) cwX1_31 ha1.2.2 ha0.2.2 (by decide) (by decide) (by decide) ⟨Nat.le_of_ble_eq_true rfl, Nat.le_of_ble_eq_true rfl⟩ dX1_become_27 (fun σ2 => ?_)
  refine rp_aload_n (x := (E.2.2.2.1 a0)) dX1_become_30 rfl ?_
  refine rp_aload_n (x := (E.2.2.2.1 a1)) dX1_become_31 rfl ?_
  refine rp_getI (k := 2) ha1.1 rfl fdX1_22 dX1_become_32 ?_
  refine rp_putB (k := 2) ha0.1 rfl fpX1_22 (vp_nar_int _) rfl dX1_become_35 (fun σ3 => ?_)
  refine rp_aload_n (x := (E.2.2.2.1 a0)) dX1_become_38 rfl ?_
  refine rp_aload_n (x := (E.2.2.2.1 a1)) dX1_become_39 rfl ?_
  refine rp_getI (k := 3) ha1.1 rfl fdX1_25 dX1_become_40 ?_
  refine rp_putB (k := 3) ha0.1 rfl fpX1_25 (vp_nar_int _) rfl dX1_become_43 (fun σ4 => ?_)
  refine rp_aload_n (x := (E.2.2.2.1 a0)) dX1_become_46 rfl ?_
  refine rp_aload_n (x := (E.2.2.2.1 a1)) dX1_become_47 rfl ?_
  refine rp_getI (k := 4) ha1.1 rfl fdX1_18 dX1_become_48 ?_
  refine rp_putB (k := 4) ha0.1 rfl fpX1_18 (vp_nar_int _) rfl dX1_become_51 (fun σ5 => ?_)
  refine rp_aload_n (x := (E.2.2.2.1 a0)) dX1_become_54 rfl ?_
  refine rp_aload_n (x := (E.2.2.2.1 a1)) dX1_become_55 rfl ?_
  refine rp_getI (k := 5) ha1.1 rfl fdX1_28 dX1_become_56 ?_
  refine rp_putB (k := 5) ha0.1 rfl fpX1_28 (vp_nar_int _) rfl dX1_become_59 (fun σ6 => ?_)
  exact rp_vret rfl rfl dX1_become_62
/-! RocketPrint.text()I -/
abbrev rmX6_text : Room := { frames := 8, cells := 0, slots := 0, locals := 171 }
def fX6_text (σ : rp_S)  : Option (Int32 × rp_S) :=
  ((fX5_tellTo σ 5).bind fun p1 =>
    ((some (rp_up p1.2 13 1 (rI 0))).bind fun σ2 =>
    (if (σ2 13 2) = 0 then
    ((fX1_become σ2 1 5).bind fun σ3 =>
    ((some (rp_up σ3 15 2 (rI 0))).bind fun σ4 =>
    ((some (rp_up σ4 0 8 (rI 0))).bind fun σ5 =>
    (some (p1.1, σ5)))))
  else
    (some (((rI (-10)) - (σ2 13 4)), σ2)))))
set_option maxRecDepth 100000 in
theorem rX6_text {E : rp_E} (σ : rp_S)    : rp_R E (rp_mK E rmX6_text) mX6_text 0 [some (.ref (E.2.2.2.1 0)), none, none] [] σ rp_hI (fX6_text σ) := by
  rw [fX6_text]
  refine rp_aload_n (x := (E.2.2.2.1 0)) dX6_text_0 rfl ?_
  refine rp_getR (k := 1) (b := 4) sh0 rfl fdX6_19 dX6_text_1 ?_
  refine rp_getR (k := 0) (b := 5) sh4 rfl fdX6_69 dX6_text_4 ?_
  refine rp_astore_n dX6_text_7 (by decide) rfl ?_
  refine rp_aload_n (x := (E.2.2.2.1 0)) dX6_text_8 rfl ?_
  refine rp_getR (k := 3) (b := 13) sh0 rfl fdX6_33 dX6_text_9 ?_
  refine rp_aload_n (x := (E.2.2.2.1 5)) dX6_text_12 rfl ?_
  refine rp_callV_hI (As := [.ref (E.2.2.2.1 5)]) (rest := []) (b := (E.2.2.2.1 13)) (rX5_tellTo σ 5 ni5) cbX5_tellTo lkX6_72 viX5_tellTo (rp_rcO sh13 rfl) rfl (Nat.le_of_ble_eq_true rfl) ⟨rfl, rfl, ⟨Nat.le_of_ble_eq_true rfl, Nat.le_of_ble_eq_true rfl⟩, Nat.zero_le _, Nat.zero_le _⟩ rfl (Nat.le_of_ble_eq_true rfl) dX6_text_13 (fun p1 hp1 => ?_)
  refine rp_istore_n dX6_text_16 (by decide) rfl ?_
  refine rp_aload_n (x := (E.2.2.2.1 0)) dX6_text_17 rfl ?_
  refine rp_getR (k := 3) (b := 13) sh0 rfl fdX6_33 dX6_text_18 ?_
  refine rp_iconst dX6_text_21 ?_
  refine rp_putB (k := 1) sh13 rfl fpX6_61 (vp_nar_int _) rfl dX6_text_22 (fun σ2 => ?_)
  refine rp_aload_n (x := (E.2.2.2.1 0)) dX6_text_25 rfl ?_
  refine rp_getR (k := 3) (b := 13) sh0 rfl fdX6_33 dX6_text_26 ?_
  refine rp_getI (k := 2) sh13 rfl fdX6_76 dX6_text_29 ?_
  refine rp_if_eq (tgt := 46) dX6_text_32 (by decide) ?_ ?_
  · refine rp_aload_n (x := (E.2.2.2.1 0)) dX6_text_46 rfl ?_
    refine rp_getR (k := 0) (b := 1) sh0 rfl fdX6_10 dX6_text_47 ?_
    refine rp_aload_n (x := (E.2.2.2.1 5)) dX6_text_50 rfl ?_
    refine rp_callV_hv (As := [.ref (E.2.2.2.1 5)]) (rest := []) (b := (E.2.2.2.1 1)) (rX1_become σ2 1 5 ni1 ni5) cbX1_become lkX6_82 viX1_become (rp_rcO sh1 rfl) rfl (Nat.le_of_ble_eq_true rfl) ⟨rfl, rfl, ⟨Nat.le_of_ble_eq_true rfl, Nat.le_of_ble_eq_true rfl⟩, Nat.zero_le _, Nat.zero_le _⟩ rfl (Nat.le_of_ble_eq_true rfl) dX6_text_51 (fun σ3 hσ3 => ?_)
    refine rp_aload_n (x := (E.2.2.2.1 0)) dX6_text_54 rfl ?_
    refine rp_getR (k := 4) (b := 15) sh0 rfl fdX6_40 dX6_text_55 ?_
    refine rp_iconst dX6_text_58 ?_
    refine rp_putB (k := 2) sh15 rfl fpX6_86 (vp_nar_int _) rfl dX6_text_59 (fun σ4 => ?_)
    refine rp_aload_n (x := (E.2.2.2.1 0)) dX6_text_62 rfl ?_
    refine rp_iconst dX6_text_63 ?_
    refine rp_putB (k := 8) sh0 rfl fpX6_89 (vp_nar_int _) rfl dX6_text_64 (fun σ5 => ?_)
    refine rp_iload_n (x := p1.1) dX6_text_67 rfl ?_
    exact rp_iret rfl rfl dX6_text_68
  · refine rp_bipush dX6_text_35 (by decide) ?_
    refine rp_aload_n (x := (E.2.2.2.1 0)) dX6_text_37 rfl ?_
    refine rp_getR (k := 3) (b := 13) sh0 rfl fdX6_33 dX6_text_38 ?_
    refine rp_getI (k := 4) sh13 rfl fdX6_79 dX6_text_41 ?_
    refine rp_isub dX6_text_44 ?_
    exact rp_iret rfl rfl dX6_text_45
/-! RocketPrintModel.byteAt(I)I -/
abbrev rmX7_byteAt : Room := { frames := 0, cells := 0, slots := 0, locals := 0 }
def fX7_byteAt (σ : rp_S) (v1 : Int32) : Option (Int32) :=
  (if (σ 28 4) ≤ v1 then
    (some (rI (-4)))
  else
    ((rq_rd σ 31 160 v1).bind fun x1 =>
    (some x1)))
set_option maxRecDepth 100000 in
theorem rX7_byteAt {E : rp_E} (σ : rp_S) (v1 : Int32)   : rp_R E (rp_mK E rmX7_byteAt) mX7_byteAt 0 [some (.ref (E.2.2.2.1 28)), some (.int v1)] [] σ (rp_hi σ) (fX7_byteAt σ v1) := by
  rw [fX7_byteAt]
  refine rp_iload_n (x := v1) dX7_byteAt_0 rfl ?_
  refine rp_aload_n (x := (E.2.2.2.1 28)) dX7_byteAt_1 rfl ?_
  refine rp_getI (k := 4) sh28 rfl fdX7_53 dX7_byteAt_2 ?_
  refine rp_icmp_ge (tgt := 17) dX7_byteAt_5 (by decide) ?_ ?_
  · refine rp_bipush dX7_byteAt_17 (by decide) ?_
    exact rp_iret rfl rfl dX7_byteAt_19
  · refine rp_aload_n (x := (E.2.2.2.1 28)) dX7_byteAt_8 rfl ?_
    refine rp_getR (k := 3) (b := 31) sh28 rfl fdX7_16 dX7_byteAt_9 ?_
    refine rp_iload_n (x := v1) dX7_byteAt_12 rfl ?_
    refine rp_iaload sh31 dX7_byteAt_13 (fun x1 => ?_)
    refine rp_goto (tgt := 19) dX7_byteAt_14 (by decide) ?_
    exact rp_iret rfl rfl dX7_byteAt_19
/-! RocketPrintModel.fails(I)V -/
abbrev rmX7_fails : Room := { frames := 0, cells := 0, slots := 0, locals := 0 }
def fX7_fails (σ : rp_S) (v1 : Int32) : Option (rp_S) :=
  (if (σ 28 6) = 0 then
    ((some (rp_up σ 28 6 v1)).bind fun σ1 =>
    ((some (rp_up σ1 28 7 (σ1 28 9))).bind fun σ2 =>
    (some σ2)))
  else
    (some σ))
set_option maxRecDepth 100000 in
theorem rX7_fails {E : rp_E} (σ : rp_S) (v1 : Int32)   : rp_R E (rp_mK E rmX7_fails) mX7_fails 0 [some (.ref (E.2.2.2.1 28)), some (.int v1)] [] σ rp_hv (fX7_fails σ v1) := by
  rw [fX7_fails]
  refine rp_aload_n (x := (E.2.2.2.1 28)) dX7_fails_0 rfl ?_
  refine rp_getI (k := 6) sh28 rfl fdX7_57 dX7_fails_1 ?_
  refine rp_if_ne (tgt := 20) dX7_fails_4 (by decide) ?_ ?_
  · exact rp_vret rfl rfl dX7_fails_20
  · refine rp_aload_n (x := (E.2.2.2.1 28)) dX7_fails_7 rfl ?_
    refine rp_iload_n (x := v1) dX7_fails_8 rfl ?_
    refine rp_putB (k := 6) sh28 rfl fpX7_57 (vp_nar_int _) rfl dX7_fails_9 (fun σ1 => ?_)
    refine rp_aload_n (x := (E.2.2.2.1 28)) dX7_fails_12 rfl ?_
    refine rp_aload_n (x := (E.2.2.2.1 28)) dX7_fails_13 rfl ?_
    refine rp_getI (k := 9) sh28 rfl fdX7_60 dX7_fails_14 ?_
    refine rp_putB (k := 7) sh28 rfl fpX7_63 (vp_nar_int _) rfl dX7_fails_17 (fun σ2 => ?_)
    exact rp_vret rfl rfl dX7_fails_20
/-! RocketPrintModel.step()V -/
abbrev rmX7_step : Room := { frames := 1, cells := 0, slots := 0, locals := 25 }
def fX7_step_201 (k140 : rp_S → Option (rp_S)) (σ : rp_S) (s0 : Int32) : Option (rp_S) :=
  ((some (rp_up σ 28 11 s0)).bind fun σ14 =>
    ((some (rp_up σ14 28 8 ((σ14 28 8) + (rI 1)))).bind fun σ15 =>
    (k140 σ15)))
set_option maxRecDepth 100000 in
theorem rX7_step_201 {E : rp_E} (k140 : rp_S → Option (rp_S)) (hk140 : ∀ (σ : rp_S), rp_R E (rp_mK E rmX7_step) mX7_step 140 [some (.ref (E.2.2.2.1 28)), none] [] σ rp_hv (k140 σ)) (σ : rp_S) (s0 : Int32) : rp_R E (rp_mK E rmX7_step) mX7_step 201 [some (.ref (E.2.2.2.1 28)), none] [.int s0, .ref (E.2.2.2.1 28)] σ rp_hv (fX7_step_201 k140 σ s0) := by
  rw [fX7_step_201]
  refine rp_putB (k := 11) sh28 rfl fpX7_76 (vp_nar_int _) rfl dX7_step_201 (fun σ14 => ?_)
  refine rp_aload_n (x := (E.2.2.2.1 28)) dX7_step_204 rfl ?_
  refine rp_dup dX7_step_205 rfl ?_
  refine rp_getI (k := 8) sh28 rfl fdX7_69 dX7_step_206 ?_
  refine rp_iconst dX7_step_209 ?_
  refine rp_iadd dX7_step_210 ?_
  refine rp_putB (k := 8) sh28 rfl fpX7_69 (vp_nar_int _) rfl dX7_step_211 (fun σ15 => ?_)
  refine rp_goto (tgt := 140) dX7_step_214 (by decide) ?_
  refine rp_mask [true, false] (vs2 := [some (.ref (E.2.2.2.1 28)), none]) rfl rfl ?_
  exact hk140 σ15
def fX7_step_140  : Nat → rp_S → Option (rp_S)
  | 0, _ => none
  | n + 1, σ =>
    ((fX7_byteAt σ (σ 28 8)).bind fun x10 =>
    ((fX7_in (x10.toInt64) (rJ 48) (rJ 57)).bind fun x11 =>
    (if x11 = 0 then
    ((some (rp_up σ 28 10 (rI 2))).bind fun σ12 =>
    (if ((σ12 28 8) - (σ12 28 9)) ≤ (rI 2) then
    (some σ12)
  else
    ((fX7_fails σ12 (rI 1)).bind fun σ13 =>
    (some σ13))))
  else
    (if (rI 2) ≤ ((σ 28 8) - (σ 28 9)) then
    (fX7_step_201 (fun σ => fX7_step_140 n σ) σ (σ 28 11))
  else
    ((fX7_byteAt σ (σ 28 8)).bind fun x16 =>
    (fX7_step_201 (fun σ => fX7_step_140 n σ) σ ((((rI 10) * (σ 28 11)) + x16) - (rI 48))))))))
set_option maxRecDepth 100000 in
theorem rX7_step_140 {E : rp_E}  : ∀ (n : Nat) (σ : rp_S), rp_R E (rp_mK E rmX7_step) mX7_step 140 [some (.ref (E.2.2.2.1 28)), none] [] σ rp_hv (fX7_step_140 n σ) := by
  intro n
  induction n with
  | zero =>
    intro σ
    rw [fX7_step_140]
    exact rp_none
  | succ n ih =>
    intro σ
    rw [fX7_step_140]
    refine rp_aload_n (x := (E.2.2.2.1 28)) dX7_step_140 rfl ?_
    refine rp_aload_n (x := (E.2.2.2.1 28)) dX7_step_141 rfl ?_
    refine rp_getI (k := 8) sh28 rfl fdX7_69 dX7_step_142 ?_
    refine rp_callV_hi (As := [.int (σ 28 8)]) (rest := []) (b := (E.2.2.2.1 28)) (rX7_byteAt σ (σ 28 8)) cbX7_byteAt lkX7_72 viX7_byteAt (rp_rcO sh28 rfl) rfl (Nat.le_of_ble_eq_true rfl) ⟨rfl, rfl, ⟨Nat.le_of_ble_eq_true rfl, Nat.le_of_ble_eq_true rfl⟩, Nat.zero_le _, Nat.zero_le _⟩ rfl (Nat.le_of_ble_eq_true rfl) dX7_step_145 (fun x10 hx10 => ?_)
    refine rp_i2l dX7_step_148 ?_
    refine rp_ldc2 (v := (rJ 48)) clX7_83 dX7_step_149 ?_
    refine rp_ldc2 (v := (rJ 57)) clX7_85 dX7_step_152 ?_
    refine rp_callS_hi (As := [.long (x10.toInt64), .long (rJ 48), .long (rJ 57)]) (rest := []) (rX7_in σ (x10.toInt64) (rJ 48) (rJ 57)) cbX7_in lkX7_49 stX7_in rfl (Nat.le_of_ble_eq_true rfl) ⟨rfl, rfl, ⟨Nat.le_of_ble_eq_true rfl, Nat.le_of_ble_eq_true rfl⟩, Nat.zero_le _, Nat.zero_le _⟩ rfl (Nat.le_of_ble_eq_true rfl) dX7_step_155 (fun x11 hx11 => ?_)
    refine rp_if_eq (tgt := 217) dX7_step_158 (by decide) ?_ ?_
    · refine rp_aload_n (x := (E.2.2.2.1 28)) dX7_step_217 rfl ?_
      refine rp_iconst dX7_step_218 ?_
      refine rp_putB (k := 10) sh28 rfl fpX7_66 (vp_nar_int _) rfl dX7_step_219 (fun σ12 => ?_)
      refine rp_aload_n (x := (E.2.2.2.1 28)) dX7_step_222 rfl ?_
      refine rp_getI (k := 8) sh28 rfl fdX7_69 dX7_step_223 ?_
      refine rp_aload_n (x := (E.2.2.2.1 28)) dX7_step_226 rfl ?_
      refine rp_getI (k := 9) sh28 rfl fdX7_60 dX7_step_227 ?_
      refine rp_isub dX7_step_230 ?_
      refine rp_iconst dX7_step_231 ?_
      refine rp_icmp_le (tgt := 269) dX7_step_232 (by decide) ?_ ?_
      · exact rp_vret rfl rfl dX7_step_269
      · refine rp_aload_n (x := (E.2.2.2.1 28)) dX7_step_235 rfl ?_
        refine rp_iconst dX7_step_236 ?_
        refine rp_callV_hv (As := [.int (rI 1)]) (rest := []) (b := (E.2.2.2.1 28)) (rX7_fails σ12 (rI 1)) cbX7_fails lkX7_87 viX7_fails (rp_rcO sh28 rfl) rfl (Nat.le_of_ble_eq_true rfl) ⟨rfl, rfl, ⟨Nat.le_of_ble_eq_true rfl, Nat.le_of_ble_eq_true rfl⟩, Nat.zero_le _, Nat.zero_le _⟩ rfl (Nat.le_of_ble_eq_true rfl) dX7_step_237 (fun σ13 hσ13 => ?_)
        refine rp_goto (tgt := 269) dX7_step_240 (by decide) ?_
        exact rp_vret rfl rfl dX7_step_269
    · refine rp_aload_n (x := (E.2.2.2.1 28)) dX7_step_161 rfl ?_
      refine rp_aload_n (x := (E.2.2.2.1 28)) dX7_step_162 rfl ?_
      refine rp_getI (k := 8) sh28 rfl fdX7_69 dX7_step_163 ?_
      refine rp_aload_n (x := (E.2.2.2.1 28)) dX7_step_166 rfl ?_
      refine rp_getI (k := 9) sh28 rfl fdX7_60 dX7_step_167 ?_
      refine rp_isub dX7_step_170 ?_
      refine rp_iconst dX7_step_171 ?_
      refine rp_icmp_ge (tgt := 197) dX7_step_172 (by decide) ?_ ?_
      · refine rp_aload_n (x := (E.2.2.2.1 28)) dX7_step_197 rfl ?_
        refine rp_getI (k := 11) sh28 rfl fdX7_76 dX7_step_198 ?_
        refine rp_mask [true, false] (vs2 := [some (.ref (E.2.2.2.1 28)), none]) rfl rfl ?_
        exact rX7_step_201 (fun σ => fX7_step_140 n σ) (fun σ => ih σ) σ (σ 28 11)
      · refine rp_bipush dX7_step_175 (by decide) ?_
        refine rp_aload_n (x := (E.2.2.2.1 28)) dX7_step_177 rfl ?_
        refine rp_getI (k := 11) sh28 rfl fdX7_76 dX7_step_178 ?_
        refine rp_imul dX7_step_181 ?_
        refine rp_aload_n (x := (E.2.2.2.1 28)) dX7_step_182 rfl ?_
        refine rp_aload_n (x := (E.2.2.2.1 28)) dX7_step_183 rfl ?_
        refine rp_getI (k := 8) sh28 rfl fdX7_69 dX7_step_184 ?_
        refine rp_callV_hi (As := [.int (σ 28 8)]) (rest := [.int ((rI 10) * (σ 28 11)), .ref (E.2.2.2.1 28)]) (b := (E.2.2.2.1 28)) (rX7_byteAt σ (σ 28 8)) cbX7_byteAt lkX7_72 viX7_byteAt (rp_rcO sh28 rfl) rfl (Nat.le_of_ble_eq_true rfl) ⟨rfl, rfl, ⟨Nat.le_of_ble_eq_true rfl, Nat.le_of_ble_eq_true rfl⟩, Nat.zero_le _, Nat.zero_le _⟩ rfl (Nat.le_of_ble_eq_true rfl) dX7_step_187 (fun x16 hx16 => ?_)
        refine rp_iadd dX7_step_190 ?_
        refine rp_bipush dX7_step_191 (by decide) ?_
        refine rp_isub dX7_step_193 ?_
        refine rp_goto (tgt := 201) dX7_step_194 (by decide) ?_
        refine rp_mask [true, false] (vs2 := [some (.ref (E.2.2.2.1 28)), none]) rfl rfl ?_
        exact rX7_step_201 (fun σ => fX7_step_140 n σ) (fun σ => ih σ) σ ((((rI 10) * (σ 28 11)) + x16) - (rI 48))
def fX7_step_84  : Nat → rp_S → Option (rp_S)
  | 0, _ => none
  | n + 1, σ =>
    ((fX7_byteAt σ (σ 28 8)).bind fun x17 =>
    ((fX7_in (x17.toInt64) (rJ 97) (rJ 122)).bind fun x18 =>
    (if x18 = 0 then
    ((some (rp_up σ 28 10 (rI 1))).bind fun σ19 =>
    (some σ19))
  else
    ((some (rp_up σ 28 8 ((σ 28 8) + (rI 1)))).bind fun σ20 =>
    (fX7_step_84 n σ20)))))
set_option maxRecDepth 100000 in
theorem rX7_step_84 {E : rp_E}  : ∀ (n : Nat) (σ : rp_S), rp_R E (rp_mK E rmX7_step) mX7_step 84 [some (.ref (E.2.2.2.1 28)), none] [] σ rp_hv (fX7_step_84 n σ) := by
  intro n
  induction n with
  | zero =>
    intro σ
    rw [fX7_step_84]
    exact rp_none
  | succ n ih =>
    intro σ
    rw [fX7_step_84]
    refine rp_aload_n (x := (E.2.2.2.1 28)) dX7_step_84 rfl ?_
    refine rp_aload_n (x := (E.2.2.2.1 28)) dX7_step_85 rfl ?_
    refine rp_getI (k := 8) sh28 rfl fdX7_69 dX7_step_86 ?_
    refine rp_callV_hi (As := [.int (σ 28 8)]) (rest := []) (b := (E.2.2.2.1 28)) (rX7_byteAt σ (σ 28 8)) cbX7_byteAt lkX7_72 viX7_byteAt (rp_rcO sh28 rfl) rfl (Nat.le_of_ble_eq_true rfl) ⟨rfl, rfl, ⟨Nat.le_of_ble_eq_true rfl, Nat.le_of_ble_eq_true rfl⟩, Nat.zero_le _, Nat.zero_le _⟩ rfl (Nat.le_of_ble_eq_true rfl) dX7_step_89 (fun x17 hx17 => ?_)
    refine rp_i2l dX7_step_92 ?_
    refine rp_ldc2 (v := (rJ 97)) clX7_79 dX7_step_93 ?_
    refine rp_ldc2 (v := (rJ 122)) clX7_81 dX7_step_96 ?_
    refine rp_callS_hi (As := [.long (x17.toInt64), .long (rJ 97), .long (rJ 122)]) (rest := []) (rX7_in σ (x17.toInt64) (rJ 97) (rJ 122)) cbX7_in lkX7_49 stX7_in rfl (Nat.le_of_ble_eq_true rfl) ⟨rfl, rfl, ⟨Nat.le_of_ble_eq_true rfl, Nat.le_of_ble_eq_true rfl⟩, Nat.zero_le _, Nat.zero_le _⟩ rfl (Nat.le_of_ble_eq_true rfl) dX7_step_99 (fun x18 hx18 => ?_)
    refine rp_if_eq (tgt := 118) dX7_step_102 (by decide) ?_ ?_
    · refine rp_aload_n (x := (E.2.2.2.1 28)) dX7_step_118 rfl ?_
      refine rp_iconst dX7_step_119 ?_
      refine rp_putB (k := 10) sh28 rfl fpX7_66 (vp_nar_int _) rfl dX7_step_120 (fun σ19 => ?_)
      refine rp_goto (tgt := 269) dX7_step_123 (by decide) ?_
      exact rp_vret rfl rfl dX7_step_269
    · refine rp_aload_n (x := (E.2.2.2.1 28)) dX7_step_105 rfl ?_
      refine rp_dup dX7_step_106 rfl ?_
      refine rp_getI (k := 8) sh28 rfl fdX7_69 dX7_step_107 ?_
      refine rp_iconst dX7_step_110 ?_
      refine rp_iadd dX7_step_111 ?_
      refine rp_putB (k := 8) sh28 rfl fpX7_69 (vp_nar_int _) rfl dX7_step_112 (fun σ20 => ?_)
      refine rp_goto (tgt := 84) dX7_step_115 (by decide) ?_
      refine rp_mask [true, false] (vs2 := [some (.ref (E.2.2.2.1 28)), none]) rfl rfl ?_
      exact ih σ20
def fX7_step_8  : Nat → rp_S → Option (rp_S)
  | 0, _ => none
  | n + 1, σ =>
    ((fX7_byteAt σ (σ 28 8)).bind fun x1 =>
    (if x1 = (rI 32) then
    ((some (rp_up σ 28 8 ((σ 28 8) + (rI 1)))).bind fun σ22 =>
    (fX7_step_8 n σ22))
  else
    ((some (rp_up σ 28 9 (σ 28 8))).bind fun σ2 =>
    ((fX7_byteAt σ2 (σ2 28 8)).bind fun x3 =>
    ((some (rp_up σ2 28 11 (rI 0))).bind fun σ4 =>
    (if x3 = (rI (-4)) then
    ((some (rp_up σ4 28 10 (rI 0))).bind fun σ21 =>
    (some σ21))
  else
    ((fX7_in (x3.toInt64) (rJ 97) (rJ 122)).bind fun x5 =>
    (if x5 = 0 then
    ((fX7_in (x3.toInt64) (rJ 48) (rJ 57)).bind fun x6 =>
    (if x6 = 0 then
    ((some (rp_up σ4 28 10 (rI 3))).bind fun σ7 =>
    ((some (rp_up σ7 28 8 ((σ7 28 8) + (rI 1)))).bind fun σ8 =>
    (if x3 = (rI 59) then
    (some σ8)
  else
    ((fX7_fails σ8 (rI 1)).bind fun σ9 =>
    (some σ9)))))
  else
    (fX7_step_140 1000 σ4)))
  else
    (fX7_step_84 1000 σ4)))))))))
set_option maxRecDepth 100000 in
theorem rX7_step_8 {E : rp_E}  : ∀ (n : Nat) (σ : rp_S), rp_R E (rp_mK E rmX7_step) mX7_step 8 [some (.ref (E.2.2.2.1 28)), none] [] σ rp_hv (fX7_step_8 n σ) := by
  intro n
  induction n with
  | zero =>
    intro σ
    rw [fX7_step_8]
    exact rp_none
  | succ n ih =>
    intro σ
    rw [fX7_step_8]
    refine rp_aload_n (x := (E.2.2.2.1 28)) dX7_step_8 rfl ?_
    refine rp_aload_n (x := (E.2.2.2.1 28)) dX7_step_9 rfl ?_
    refine rp_getI (k := 8) sh28 rfl fdX7_69 dX7_step_10 ?_
    refine rp_callV_hi (As := [.int (σ 28 8)]) (rest := []) (b := (E.2.2.2.1 28)) (rX7_byteAt σ (σ 28 8)) cbX7_byteAt lkX7_72 viX7_byteAt (rp_rcO sh28 rfl) rfl (Nat.le_of_ble_eq_true rfl) ⟨rfl, rfl, ⟨Nat.le_of_ble_eq_true rfl, Nat.le_of_ble_eq_true rfl⟩, Nat.zero_le _, Nat.zero_le _⟩ rfl (Nat.le_of_ble_eq_true rfl) dX7_step_13 (fun x1 hx1 => ?_)
    refine rp_bipush dX7_step_16 (by decide) ?_
    refine rp_icmp_ne (tgt := 34) dX7_step_18 (by decide) ?_ ?_
    · refine rp_aload_n (x := (E.2.2.2.1 28)) dX7_step_34 rfl ?_
      refine rp_aload_n (x := (E.2.2.2.1 28)) dX7_step_35 rfl ?_
      refine rp_getI (k := 8) sh28 rfl fdX7_69 dX7_step_36 ?_
      refine rp_putB (k := 9) sh28 rfl fpX7_60 (vp_nar_int _) rfl dX7_step_39 (fun σ2 => ?_)
      refine rp_aload_n (x := (E.2.2.2.1 28)) dX7_step_42 rfl ?_
      refine rp_aload_n (x := (E.2.2.2.1 28)) dX7_step_43 rfl ?_
      refine rp_getI (k := 8) sh28 rfl fdX7_69 dX7_step_44 ?_
      refine rp_callV_hi (As := [.int (σ2 28 8)]) (rest := []) (b := (E.2.2.2.1 28)) (rX7_byteAt σ2 (σ2 28 8)) cbX7_byteAt lkX7_72 viX7_byteAt (rp_rcO sh28 rfl) rfl (Nat.le_of_ble_eq_true rfl) ⟨rfl, rfl, ⟨Nat.le_of_ble_eq_true rfl, Nat.le_of_ble_eq_true rfl⟩, Nat.zero_le _, Nat.zero_le _⟩ rfl (Nat.le_of_ble_eq_true rfl) dX7_step_47 (fun x3 hx3 => ?_)
      refine rp_istore_n dX7_step_50 (by decide) rfl ?_
      refine rp_aload_n (x := (E.2.2.2.1 28)) dX7_step_51 rfl ?_
      refine rp_iconst dX7_step_52 ?_
      refine rp_putB (k := 11) sh28 rfl fpX7_76 (vp_nar_int _) rfl dX7_step_53 (fun σ4 => ?_)
      refine rp_iload_n (x := x3) dX7_step_56 rfl ?_
      refine rp_bipush dX7_step_57 (by decide) ?_
      refine rp_icmp_ne (tgt := 70) dX7_step_59 (by decide) ?_ ?_
      · refine rp_iload_n (x := x3) dX7_step_70 rfl ?_
        refine rp_i2l dX7_step_71 ?_
        refine rp_ldc2 (v := (rJ 97)) clX7_79 dX7_step_72 ?_
        refine rp_ldc2 (v := (rJ 122)) clX7_81 dX7_step_75 ?_
        refine rp_callS_hi (As := [.long (x3.toInt64), .long (rJ 97), .long (rJ 122)]) (rest := []) (rX7_in σ4 (x3.toInt64) (rJ 97) (rJ 122)) cbX7_in lkX7_49 stX7_in rfl (Nat.le_of_ble_eq_true rfl) ⟨rfl, rfl, ⟨Nat.le_of_ble_eq_true rfl, Nat.le_of_ble_eq_true rfl⟩, Nat.zero_le _, Nat.zero_le _⟩ rfl (Nat.le_of_ble_eq_true rfl) dX7_step_78 (fun x5 hx5 => ?_)
        refine rp_if_eq (tgt := 126) dX7_step_81 (by decide) ?_ ?_
        · refine rp_iload_n (x := x3) dX7_step_126 rfl ?_
          refine rp_i2l dX7_step_127 ?_
          refine rp_ldc2 (v := (rJ 48)) clX7_83 dX7_step_128 ?_
          refine rp_ldc2 (v := (rJ 57)) clX7_85 dX7_step_131 ?_
          refine rp_callS_hi (As := [.long (x3.toInt64), .long (rJ 48), .long (rJ 57)]) (rest := []) (rX7_in σ4 (x3.toInt64) (rJ 48) (rJ 57)) cbX7_in lkX7_49 stX7_in rfl (Nat.le_of_ble_eq_true rfl) ⟨rfl, rfl, ⟨Nat.le_of_ble_eq_true rfl, Nat.le_of_ble_eq_true rfl⟩, Nat.zero_le _, Nat.zero_le _⟩ rfl (Nat.le_of_ble_eq_true rfl) dX7_step_134 (fun x6 hx6 => ?_)
          refine rp_if_eq (tgt := 243) dX7_step_137 (by decide) ?_ ?_
          · refine rp_aload_n (x := (E.2.2.2.1 28)) dX7_step_243 rfl ?_
            refine rp_iconst dX7_step_244 ?_
            refine rp_putB (k := 10) sh28 rfl fpX7_66 (vp_nar_int _) rfl dX7_step_245 (fun σ7 => ?_)
            refine rp_aload_n (x := (E.2.2.2.1 28)) dX7_step_248 rfl ?_
            refine rp_dup dX7_step_249 rfl ?_
            refine rp_getI (k := 8) sh28 rfl fdX7_69 dX7_step_250 ?_
            refine rp_iconst dX7_step_253 ?_
            refine rp_iadd dX7_step_254 ?_
            refine rp_putB (k := 8) sh28 rfl fpX7_69 (vp_nar_int _) rfl dX7_step_255 (fun σ8 => ?_)
            refine rp_iload_n (x := x3) dX7_step_258 rfl ?_
            refine rp_bipush dX7_step_259 (by decide) ?_
            refine rp_icmp_eq (tgt := 269) dX7_step_261 (by decide) ?_ ?_
            · exact rp_vret rfl rfl dX7_step_269
            · refine rp_aload_n (x := (E.2.2.2.1 28)) dX7_step_264 rfl ?_
              refine rp_iconst dX7_step_265 ?_
              refine rp_callV_hv (As := [.int (rI 1)]) (rest := []) (b := (E.2.2.2.1 28)) (rX7_fails σ8 (rI 1)) cbX7_fails lkX7_87 viX7_fails (rp_rcO sh28 rfl) rfl (Nat.le_of_ble_eq_true rfl) ⟨rfl, rfl, ⟨Nat.le_of_ble_eq_true rfl, Nat.le_of_ble_eq_true rfl⟩, Nat.zero_le _, Nat.zero_le _⟩ rfl (Nat.le_of_ble_eq_true rfl) dX7_step_266 (fun σ9 hσ9 => ?_)
              exact rp_vret rfl rfl dX7_step_269
          · refine rp_mask [true, false] (vs2 := [some (.ref (E.2.2.2.1 28)), none]) rfl rfl ?_
            exact rX7_step_140 1000 σ4
        · refine rp_mask [true, false] (vs2 := [some (.ref (E.2.2.2.1 28)), none]) rfl rfl ?_
          exact rX7_step_84 1000 σ4
      · refine rp_aload_n (x := (E.2.2.2.1 28)) dX7_step_62 rfl ?_
        refine rp_iconst dX7_step_63 ?_
        refine rp_putB (k := 10) sh28 rfl fpX7_66 (vp_nar_int _) rfl dX7_step_64 (fun σ21 => ?_)
        refine rp_goto (tgt := 269) dX7_step_67 (by decide) ?_
        exact rp_vret rfl rfl dX7_step_269
    · refine rp_aload_n (x := (E.2.2.2.1 28)) dX7_step_21 rfl ?_
      refine rp_dup dX7_step_22 rfl ?_
      refine rp_getI (k := 8) sh28 rfl fdX7_69 dX7_step_23 ?_
      refine rp_iconst dX7_step_26 ?_
      refine rp_iadd dX7_step_27 ?_
      refine rp_putB (k := 8) sh28 rfl fpX7_69 (vp_nar_int _) rfl dX7_step_28 (fun σ22 => ?_)
      refine rp_goto (tgt := 8) dX7_step_31 (by decide) ?_
      refine rp_mask [true, false] (vs2 := [some (.ref (E.2.2.2.1 28)), none]) rfl rfl ?_
      exact ih σ22
def fX7_step (σ : rp_S)  : Option (rp_S) :=
  (if (σ 28 6) ≤ 0 then
    (fX7_step_8 1000 σ)
  else
    (some σ))
set_option maxRecDepth 100000 in
theorem rX7_step {E : rp_E} (σ : rp_S)    : rp_R E (rp_mK E rmX7_step) mX7_step 0 [some (.ref (E.2.2.2.1 28)), none] [] σ rp_hv (fX7_step σ) := by
  rw [fX7_step]
  refine rp_aload_n (x := (E.2.2.2.1 28)) dX7_step_0 rfl ?_
  refine rp_getI (k := 6) sh28 rfl fdX7_57 dX7_step_1 ?_
  refine rp_if_le (tgt := 8) dX7_step_4 (by decide) ?_ ?_
  · refine rp_mask [true, false] (vs2 := [some (.ref (E.2.2.2.1 28)), none]) rfl rfl ?_
    exact rX7_step_8 1000 σ
  · exact rp_vret rfl rfl dX7_step_7
/-! RocketPrintModel.nameHere()I -/
abbrev rmX7_nameHere : Room := { frames := 1, cells := 0, slots := 0, locals := 21 }
def fX7_nameHere_106 (σ : rp_S) (k2 : Int32 → Option (Int32)) (v1 : Int32) (v2 : Int32) : Option (Int32) :=
  (if v2 = 0 then
    (k2 (v1 + (rI 1)))
  else
    (some v1))
set_option maxRecDepth 100000 in
theorem rX7_nameHere_106 {E : rp_E} (σ : rp_S) (k2 : Int32 → Option (Int32)) (hk2 : ∀ (v1 : Int32), rp_R E (rp_mK E rmX7_nameHere) mX7_nameHere 2 [some (.ref (E.2.2.2.1 28)), some (.int v1), none, none] [] σ (rp_hi σ) (k2 v1)) (v1 : Int32) (v2 : Int32) : rp_R E (rp_mK E rmX7_nameHere) mX7_nameHere 106 [some (.ref (E.2.2.2.1 28)), some (.int v1), some (.int v2), none] [] σ (rp_hi σ) (fX7_nameHere_106 σ k2 v1 v2) := by
  rw [fX7_nameHere_106]
  refine rp_iload_n (x := v2) dX7_nameHere_106 rfl ?_
  refine rp_if_eq (tgt := 112) dX7_nameHere_107 (by decide) ?_ ?_
  · refine rp_iinc (x := v1) dX7_nameHere_112 rfl (by decide) rfl ?_
    refine rp_goto (tgt := 2) dX7_nameHere_115 (by decide) ?_
    refine rp_mask [true, true, false, false] (vs2 := [some (.ref (E.2.2.2.1 28)), some (.int (v1 + (rI 1))), none, none]) rfl rfl ?_
    exact hk2 (v1 + (rI 1))
  · refine rp_iload_n (x := v1) dX7_nameHere_110 rfl ?_
    exact rp_iret rfl rfl dX7_nameHere_111
def fX7_nameHere_99 (σ : rp_S) (k2 : Int32 → Option (Int32)) (k51 : Int32 → Int32 → Int32 → Option (Int32)) (v1 : Int32) (v3 : Int32) (s0 : Int32) : Option (Int32) :=
  (k51 v1 s0 (v3 + (rI 1)))
set_option maxRecDepth 100000 in
theorem rX7_nameHere_99 {E : rp_E} (σ : rp_S) (k2 : Int32 → Option (Int32)) (hk2 : ∀ (v1 : Int32), rp_R E (rp_mK E rmX7_nameHere) mX7_nameHere 2 [some (.ref (E.2.2.2.1 28)), some (.int v1), none, none] [] σ (rp_hi σ) (k2 v1)) (k51 : Int32 → Int32 → Int32 → Option (Int32)) (hk51 : ∀ (v1 : Int32) (v2 : Int32) (v3 : Int32), rp_R E (rp_mK E rmX7_nameHere) mX7_nameHere 51 [some (.ref (E.2.2.2.1 28)), some (.int v1), some (.int v2), some (.int v3)] [] σ (rp_hi σ) (k51 v1 v2 v3)) (v1 : Int32) (v3 : Int32) (s0 : Int32) : rp_R E (rp_mK E rmX7_nameHere) mX7_nameHere 99 [some (.ref (E.2.2.2.1 28)), some (.int v1), none, some (.int v3)] [.int s0] σ (rp_hi σ) (fX7_nameHere_99 σ k2 k51 v1 v3 s0) := by
  rw [fX7_nameHere_99]
  refine rp_istore_n dX7_nameHere_99 (by decide) rfl ?_
  refine rp_iinc (x := v3) dX7_nameHere_100 rfl (by decide) rfl ?_
  refine rp_goto (tgt := 51) dX7_nameHere_103 (by decide) ?_
  refine rp_mask [true, true, true, true] (vs2 := [some (.ref (E.2.2.2.1 28)), some (.int v1), some (.int s0), some (.int (v3 + (rI 1)))]) rfl rfl ?_
  exact hk51 v1 s0 (v3 + (rI 1))
def fX7_nameHere_51 (σ : rp_S) (k2 : Int32 → Option (Int32)) : Nat → Int32 → Int32 → Int32 → Option (Int32)
  | 0, _, _, _ => none
  | n + 1, v1, v2, v3 =>
    (if v2 = 0 then
    (fX7_nameHere_106 σ k2 v1 v2)
  else
    (if ((σ 28 8) - (σ 28 9)) ≤ v3 then
    (fX7_nameHere_106 σ k2 v1 v2)
  else
    ((fX7_byteAt σ ((σ 28 9) + v3)).bind fun x3 =>
    ((rq_rd σ 32 8 v1).bind fun x4 =>
    ((rq_rd σ 33 36 (x4 + v3)).bind fun x5 =>
    (if x3 = x5 then
    (fX7_nameHere_99 σ k2 (fun v1 v2 v3 => fX7_nameHere_51 σ k2 n v1 v2 v3) v1 v3 (rI 1))
  else
    (fX7_nameHere_99 σ k2 (fun v1 v2 v3 => fX7_nameHere_51 σ k2 n v1 v2 v3) v1 v3 (rI 0))))))))
set_option maxRecDepth 100000 in
theorem rX7_nameHere_51 {E : rp_E} (σ : rp_S) (k2 : Int32 → Option (Int32)) (hk2 : ∀ (v1 : Int32), rp_R E (rp_mK E rmX7_nameHere) mX7_nameHere 2 [some (.ref (E.2.2.2.1 28)), some (.int v1), none, none] [] σ (rp_hi σ) (k2 v1)) : ∀ (n : Nat) (v1 : Int32) (v2 : Int32) (v3 : Int32), rp_R E (rp_mK E rmX7_nameHere) mX7_nameHere 51 [some (.ref (E.2.2.2.1 28)), some (.int v1), some (.int v2), some (.int v3)] [] σ (rp_hi σ) (fX7_nameHere_51 σ k2 n v1 v2 v3) := by
  intro n
  induction n with
  | zero =>
    intro v1 v2 v3
    rw [fX7_nameHere_51]
    exact rp_none
  | succ n ih =>
    intro v1 v2 v3
    rw [fX7_nameHere_51]
    refine rp_iload_n (x := v2) dX7_nameHere_51 rfl ?_
    refine rp_if_eq (tgt := 106) dX7_nameHere_52 (by decide) ?_ ?_
    · refine rp_mask [true, true, true, false] (vs2 := [some (.ref (E.2.2.2.1 28)), some (.int v1), some (.int v2), none]) rfl rfl ?_
      exact rX7_nameHere_106 σ k2 hk2 v1 v2
    · refine rp_iload_n (x := v3) dX7_nameHere_55 rfl ?_
      refine rp_aload_n (x := (E.2.2.2.1 28)) dX7_nameHere_56 rfl ?_
      refine rp_getI (k := 8) sh28 rfl fdX7_69 dX7_nameHere_57 ?_
      refine rp_aload_n (x := (E.2.2.2.1 28)) dX7_nameHere_60 rfl ?_
      refine rp_getI (k := 9) sh28 rfl fdX7_60 dX7_nameHere_61 ?_
      refine rp_isub dX7_nameHere_64 ?_
      refine rp_icmp_ge (tgt := 106) dX7_nameHere_65 (by decide) ?_ ?_
      · refine rp_mask [true, true, true, false] (vs2 := [some (.ref (E.2.2.2.1 28)), some (.int v1), some (.int v2), none]) rfl rfl ?_
        exact rX7_nameHere_106 σ k2 hk2 v1 v2
      · refine rp_aload_n (x := (E.2.2.2.1 28)) dX7_nameHere_68 rfl ?_
        refine rp_aload_n (x := (E.2.2.2.1 28)) dX7_nameHere_69 rfl ?_
        refine rp_getI (k := 9) sh28 rfl fdX7_60 dX7_nameHere_70 ?_
        refine rp_iload_n (x := v3) dX7_nameHere_73 rfl ?_
        refine rp_iadd dX7_nameHere_74 ?_
        refine rp_callV_hi (As := [.int ((σ 28 9) + v3)]) (rest := []) (b := (E.2.2.2.1 28)) (rX7_byteAt σ ((σ 28 9) + v3)) cbX7_byteAt lkX7_72 viX7_byteAt (rp_rcO sh28 rfl) rfl (Nat.le_of_ble_eq_true rfl) ⟨rfl, rfl, ⟨Nat.le_of_ble_eq_true rfl, Nat.le_of_ble_eq_true rfl⟩, Nat.zero_le _, Nat.zero_le _⟩ rfl (Nat.le_of_ble_eq_true rfl) dX7_nameHere_75 (fun x3 hx3 => ?_)
        refine rp_aload_n (x := (E.2.2.2.1 28)) dX7_nameHere_78 rfl ?_
        refine rp_getR (k := 13) (b := 33) sh28 rfl fdX7_22 dX7_nameHere_79 ?_
        refine rp_aload_n (x := (E.2.2.2.1 28)) dX7_nameHere_82 rfl ?_
        refine rp_getR (k := 12) (b := 32) sh28 rfl fdX7_19 dX7_nameHere_83 ?_
        refine rp_iload_n (x := v1) dX7_nameHere_86 rfl ?_
        refine rp_iaload sh32 dX7_nameHere_87 (fun x4 => ?_)
        refine rp_iload_n (x := v3) dX7_nameHere_88 rfl ?_
        refine rp_iadd dX7_nameHere_89 ?_
        refine rp_iaload sh33 dX7_nameHere_90 (fun x5 => ?_)
        refine rp_icmp_ne (tgt := 98) dX7_nameHere_91 (by decide) ?_ ?_
        · refine rp_iconst dX7_nameHere_98 ?_
          refine rp_mask [true, true, false, true] (vs2 := [some (.ref (E.2.2.2.1 28)), some (.int v1), none, some (.int v3)]) rfl rfl ?_
          exact rX7_nameHere_99 σ k2 hk2 (fun v1 v2 v3 => fX7_nameHere_51 σ k2 n v1 v2 v3) (fun v1 v2 v3 => ih v1 v2 v3) v1 v3 (rI 0)
        · refine rp_iconst dX7_nameHere_94 ?_
          refine rp_goto (tgt := 99) dX7_nameHere_95 (by decide) ?_
          refine rp_mask [true, true, false, true] (vs2 := [some (.ref (E.2.2.2.1 28)), some (.int v1), none, some (.int v3)]) rfl rfl ?_
          exact rX7_nameHere_99 σ k2 hk2 (fun v1 v2 v3 => fX7_nameHere_51 σ k2 n v1 v2 v3) (fun v1 v2 v3 => ih v1 v2 v3) v1 v3 (rI 1)
def fX7_nameHere_48 (σ : rp_S) (k2 : Int32 → Option (Int32)) (v1 : Int32) (s0 : Int32) : Option (Int32) :=
  (fX7_nameHere_51 σ k2 1000 v1 s0 (rI 0))
set_option maxRecDepth 100000 in
theorem rX7_nameHere_48 {E : rp_E} (σ : rp_S) (k2 : Int32 → Option (Int32)) (hk2 : ∀ (v1 : Int32), rp_R E (rp_mK E rmX7_nameHere) mX7_nameHere 2 [some (.ref (E.2.2.2.1 28)), some (.int v1), none, none] [] σ (rp_hi σ) (k2 v1)) (v1 : Int32) (s0 : Int32) : rp_R E (rp_mK E rmX7_nameHere) mX7_nameHere 48 [some (.ref (E.2.2.2.1 28)), some (.int v1), none, none] [.int s0] σ (rp_hi σ) (fX7_nameHere_48 σ k2 v1 s0) := by
  rw [fX7_nameHere_48]
  refine rp_istore_n dX7_nameHere_48 (by decide) rfl ?_
  refine rp_iconst dX7_nameHere_49 ?_
  refine rp_istore_n dX7_nameHere_50 (by decide) rfl ?_
  refine rp_mask [true, true, true, true] (vs2 := [some (.ref (E.2.2.2.1 28)), some (.int v1), some (.int s0), some (.int (rI 0))]) rfl rfl ?_
  exact rX7_nameHere_51 σ k2 hk2 1000 v1 s0 (rI 0)
def fX7_nameHere_2 (σ : rp_S) : Nat → Int32 → Option (Int32)
  | 0, _ => none
  | n + 1, v1 =>
    (if (rI 7) ≤ v1 then
    (some (rI (-4)))
  else
    (if (σ 28 10) = (rI 1) then
    ((rq_rd σ 32 8 (v1 + (rI 1))).bind fun x1 =>
    ((rq_rd σ 32 8 v1).bind fun x2 =>
    (if ((σ 28 8) - (σ 28 9)) = (x1 - x2) then
    (fX7_nameHere_48 σ (fun v1 => fX7_nameHere_2 σ n v1) v1 (rI 1))
  else
    (fX7_nameHere_48 σ (fun v1 => fX7_nameHere_2 σ n v1) v1 (rI 0)))))
  else
    (some (rI (-4)))))
set_option maxRecDepth 100000 in
theorem rX7_nameHere_2 {E : rp_E} (σ : rp_S) : ∀ (n : Nat) (v1 : Int32), rp_R E (rp_mK E rmX7_nameHere) mX7_nameHere 2 [some (.ref (E.2.2.2.1 28)), some (.int v1), none, none] [] σ (rp_hi σ) (fX7_nameHere_2 σ n v1) := by
  intro n
  induction n with
  | zero =>
    intro v1
    rw [fX7_nameHere_2]
    exact rp_none
  | succ n ih =>
    intro v1
    rw [fX7_nameHere_2]
    refine rp_iload_n (x := v1) dX7_nameHere_2 rfl ?_
    refine rp_bipush dX7_nameHere_3 (by decide) ?_
    refine rp_icmp_ge (tgt := 118) dX7_nameHere_5 (by decide) ?_ ?_
    · refine rp_bipush dX7_nameHere_118 (by decide) ?_
      exact rp_iret rfl rfl dX7_nameHere_120
    · refine rp_aload_n (x := (E.2.2.2.1 28)) dX7_nameHere_8 rfl ?_
      refine rp_getI (k := 10) sh28 rfl fdX7_66 dX7_nameHere_9 ?_
      refine rp_iconst dX7_nameHere_12 ?_
      refine rp_icmp_ne (tgt := 118) dX7_nameHere_13 (by decide) ?_ ?_
      · refine rp_bipush dX7_nameHere_118 (by decide) ?_
        exact rp_iret rfl rfl dX7_nameHere_120
      · refine rp_aload_n (x := (E.2.2.2.1 28)) dX7_nameHere_16 rfl ?_
        refine rp_getI (k := 8) sh28 rfl fdX7_69 dX7_nameHere_17 ?_
        refine rp_aload_n (x := (E.2.2.2.1 28)) dX7_nameHere_20 rfl ?_
        refine rp_getI (k := 9) sh28 rfl fdX7_60 dX7_nameHere_21 ?_
        refine rp_isub dX7_nameHere_24 ?_
        refine rp_aload_n (x := (E.2.2.2.1 28)) dX7_nameHere_25 rfl ?_
        refine rp_getR (k := 12) (b := 32) sh28 rfl fdX7_19 dX7_nameHere_26 ?_
        refine rp_iload_n (x := v1) dX7_nameHere_29 rfl ?_
        refine rp_iconst dX7_nameHere_30 ?_
        refine rp_iadd dX7_nameHere_31 ?_
        refine rp_iaload sh32 dX7_nameHere_32 (fun x1 => ?_)
        refine rp_aload_n (x := (E.2.2.2.1 28)) dX7_nameHere_33 rfl ?_
        refine rp_getR (k := 12) (b := 32) sh28 rfl fdX7_19 dX7_nameHere_34 ?_
        refine rp_iload_n (x := v1) dX7_nameHere_37 rfl ?_
        refine rp_iaload sh32 dX7_nameHere_38 (fun x2 => ?_)
        refine rp_isub dX7_nameHere_39 ?_
        refine rp_icmp_ne (tgt := 47) dX7_nameHere_40 (by decide) ?_ ?_
        · refine rp_iconst dX7_nameHere_47 ?_
          refine rp_mask [true, true, false, false] (vs2 := [some (.ref (E.2.2.2.1 28)), some (.int v1), none, none]) rfl rfl ?_
          exact rX7_nameHere_48 σ (fun v1 => fX7_nameHere_2 σ n v1) (fun v1 => ih v1) v1 (rI 0)
        · refine rp_iconst dX7_nameHere_43 ?_
          refine rp_goto (tgt := 48) dX7_nameHere_44 (by decide) ?_
          refine rp_mask [true, true, false, false] (vs2 := [some (.ref (E.2.2.2.1 28)), some (.int v1), none, none]) rfl rfl ?_
          exact rX7_nameHere_48 σ (fun v1 => fX7_nameHere_2 σ n v1) (fun v1 => ih v1) v1 (rI 1)
def fX7_nameHere (σ : rp_S)  : Option (Int32) :=
  (fX7_nameHere_2 σ 1000 (rI 0))
set_option maxRecDepth 100000 in
theorem rX7_nameHere {E : rp_E} (σ : rp_S)    : rp_R E (rp_mK E rmX7_nameHere) mX7_nameHere 0 [some (.ref (E.2.2.2.1 28)), none, none, none] [] σ (rp_hi σ) (fX7_nameHere σ) := by
  rw [fX7_nameHere]
  refine rp_iconst dX7_nameHere_0 ?_
  refine rp_istore_n dX7_nameHere_1 (by decide) rfl ?_
  refine rp_mask [true, true, false, false] (vs2 := [some (.ref (E.2.2.2.1 28)), some (.int (rI 0)), none, none]) rfl rfl ?_
  exact rX7_nameHere_2 σ 1000 (rI 0)
/-! RocketPrintModel.number(II)I -/
abbrev rmX7_number : Room := { frames := 2, cells := 0, slots := 0, locals := 46 }
def fX7_number_62 (σ : rp_S) (s0 : Int32) : Option (Int32 × rp_S) :=
  ((fX7_step σ).bind fun σ1 =>
    (some (s0, σ1)))
set_option maxRecDepth 100000 in
theorem rX7_number_62 {E : rp_E} (σ : rp_S) (s0 : Int32) : rp_R E (rp_mK E rmX7_number) mX7_number 62 [some (.ref (E.2.2.2.1 28)), none, none, none] [.int s0] σ rp_hI (fX7_number_62 σ s0) := by
  rw [fX7_number_62]
  refine rp_istore_n dX7_number_62 (by decide) rfl ?_
  refine rp_aload_n (x := (E.2.2.2.1 28)) dX7_number_63 rfl ?_
  refine rp_callV_hv (As := []) (rest := []) (b := (E.2.2.2.1 28)) (rX7_step σ) cbX7_step lkX7_91 viX7_step (rp_rcO sh28 rfl) rfl (Nat.le_of_ble_eq_true rfl) ⟨rfl, rfl, ⟨Nat.le_of_ble_eq_true rfl, Nat.le_of_ble_eq_true rfl⟩, Nat.zero_le _, Nat.zero_le _⟩ rfl (Nat.le_of_ble_eq_true rfl) dX7_number_64 (fun σ1 hσ1 => ?_)
  refine rp_iload_n (x := s0) dX7_number_67 rfl ?_
  exact rp_iret rfl rfl dX7_number_68
def fX7_number_47 (σ : rp_S) (v1 : Int32) : Option (Int32 × rp_S) :=
  (if (σ 28 6) = 0 then
    (fX7_number_62 σ (σ 28 11))
  else
    (fX7_number_62 σ v1))
set_option maxRecDepth 100000 in
theorem rX7_number_47 {E : rp_E} (σ : rp_S) (v1 : Int32) : rp_R E (rp_mK E rmX7_number) mX7_number 47 [some (.ref (E.2.2.2.1 28)), some (.int v1), none, none] [] σ rp_hI (fX7_number_47 σ v1) := by
  rw [fX7_number_47]
  refine rp_aload_n (x := (E.2.2.2.1 28)) dX7_number_47 rfl ?_
  refine rp_getI (k := 6) sh28 rfl fdX7_57 dX7_number_48 ?_
  refine rp_if_ne (tgt := 61) dX7_number_51 (by decide) ?_ ?_
  · refine rp_iload_n (x := v1) dX7_number_61 rfl ?_
    refine rp_mask [true, false, false, false] (vs2 := [some (.ref (E.2.2.2.1 28)), none, none, none]) rfl rfl ?_
    exact rX7_number_62 σ v1
  · refine rp_aload_n (x := (E.2.2.2.1 28)) dX7_number_54 rfl ?_
    refine rp_getI (k := 11) sh28 rfl fdX7_76 dX7_number_55 ?_
    refine rp_goto (tgt := 62) dX7_number_58 (by decide) ?_
    refine rp_mask [true, false, false, false] (vs2 := [some (.ref (E.2.2.2.1 28)), none, none, none]) rfl rfl ?_
    exact rX7_number_62 σ (σ 28 11)
def fX7_number_20 (σ : rp_S) (v1 : Int32) (v2 : Int32) : Option (Int32 × rp_S) :=
  (if (σ 28 6) = 0 then
    ((fX7_in (σ 28 11).toInt64 (v1.toInt64) (v2.toInt64)).bind fun x2 =>
    (if x2 = 0 then
    ((fX7_fails σ (rI 3)).bind fun σ3 =>
    (fX7_number_47 σ3 v1))
  else
    (fX7_number_47 σ v1)))
  else
    (fX7_number_47 σ v1))
set_option maxRecDepth 100000 in
theorem rX7_number_20 {E : rp_E} (σ : rp_S) (v1 : Int32) (v2 : Int32) : rp_R E (rp_mK E rmX7_number) mX7_number 20 [some (.ref (E.2.2.2.1 28)), some (.int v1), some (.int v2), none] [] σ rp_hI (fX7_number_20 σ v1 v2) := by
  rw [fX7_number_20]
  refine rp_aload_n (x := (E.2.2.2.1 28)) dX7_number_20 rfl ?_
  refine rp_getI (k := 6) sh28 rfl fdX7_57 dX7_number_21 ?_
  refine rp_if_ne (tgt := 47) dX7_number_24 (by decide) ?_ ?_
  · refine rp_mask [true, true, false, false] (vs2 := [some (.ref (E.2.2.2.1 28)), some (.int v1), none, none]) rfl rfl ?_
    exact rX7_number_47 σ v1
  · refine rp_aload_n (x := (E.2.2.2.1 28)) dX7_number_27 rfl ?_
    refine rp_getI (k := 11) sh28 rfl fdX7_76 dX7_number_28 ?_
    refine rp_i2l dX7_number_31 ?_
    refine rp_iload_n (x := v1) dX7_number_32 rfl ?_
    refine rp_i2l dX7_number_33 ?_
    refine rp_iload_n (x := v2) dX7_number_34 rfl ?_
    refine rp_i2l dX7_number_35 ?_
    refine rp_callS_hi (As := [.long (σ 28 11).toInt64, .long (v1.toInt64), .long (v2.toInt64)]) (rest := []) (rX7_in σ (σ 28 11).toInt64 (v1.toInt64) (v2.toInt64)) cbX7_in lkX7_49 stX7_in rfl (Nat.le_of_ble_eq_true rfl) ⟨rfl, rfl, ⟨Nat.le_of_ble_eq_true rfl, Nat.le_of_ble_eq_true rfl⟩, Nat.zero_le _, Nat.zero_le _⟩ rfl (Nat.le_of_ble_eq_true rfl) dX7_number_36 (fun x2 hx2 => ?_)
    refine rp_if_ne (tgt := 47) dX7_number_39 (by decide) ?_ ?_
    · refine rp_mask [true, true, false, false] (vs2 := [some (.ref (E.2.2.2.1 28)), some (.int v1), none, none]) rfl rfl ?_
      exact rX7_number_47 σ v1
    · refine rp_aload_n (x := (E.2.2.2.1 28)) dX7_number_42 rfl ?_
      refine rp_iconst dX7_number_43 ?_
      refine rp_callV_hv (As := [.int (rI 3)]) (rest := []) (b := (E.2.2.2.1 28)) (rX7_fails σ (rI 3)) cbX7_fails lkX7_87 viX7_fails (rp_rcO sh28 rfl) rfl (Nat.le_of_ble_eq_true rfl) ⟨rfl, rfl, ⟨Nat.le_of_ble_eq_true rfl, Nat.le_of_ble_eq_true rfl⟩, Nat.zero_le _, Nat.zero_le _⟩ rfl (Nat.le_of_ble_eq_true rfl) dX7_number_44 (fun σ3 hσ3 => ?_)
      refine rp_mask [true, true, false, false] (vs2 := [some (.ref (E.2.2.2.1 28)), some (.int v1), none, none]) rfl rfl ?_
      exact rX7_number_47 σ3 v1
def fX7_number (σ : rp_S) (v1 : Int32) (v2 : Int32) : Option (Int32 × rp_S) :=
  (if (σ 28 6) = 0 then
    (if (σ 28 10) = (rI 2) then
    (fX7_number_20 σ v1 v2)
  else
    ((fX7_fails σ (rI 2)).bind fun σ4 =>
    (fX7_number_20 σ4 v1 v2)))
  else
    (fX7_number_20 σ v1 v2))
set_option maxRecDepth 100000 in
theorem rX7_number {E : rp_E} (σ : rp_S) (v1 : Int32) (v2 : Int32)   : rp_R E (rp_mK E rmX7_number) mX7_number 0 [some (.ref (E.2.2.2.1 28)), some (.int v1), some (.int v2), none] [] σ rp_hI (fX7_number σ v1 v2) := by
  rw [fX7_number]
  refine rp_aload_n (x := (E.2.2.2.1 28)) dX7_number_0 rfl ?_
  refine rp_getI (k := 6) sh28 rfl fdX7_57 dX7_number_1 ?_
  refine rp_if_ne (tgt := 20) dX7_number_4 (by decide) ?_ ?_
  · refine rp_mask [true, true, true, false] (vs2 := [some (.ref (E.2.2.2.1 28)), some (.int v1), some (.int v2), none]) rfl rfl ?_
    exact rX7_number_20 σ v1 v2
  · refine rp_aload_n (x := (E.2.2.2.1 28)) dX7_number_7 rfl ?_
    refine rp_getI (k := 10) sh28 rfl fdX7_66 dX7_number_8 ?_
    refine rp_iconst dX7_number_11 ?_
    refine rp_icmp_eq (tgt := 20) dX7_number_12 (by decide) ?_ ?_
    · refine rp_mask [true, true, true, false] (vs2 := [some (.ref (E.2.2.2.1 28)), some (.int v1), some (.int v2), none]) rfl rfl ?_
      exact rX7_number_20 σ v1 v2
    · refine rp_aload_n (x := (E.2.2.2.1 28)) dX7_number_15 rfl ?_
      refine rp_iconst dX7_number_16 ?_
      refine rp_callV_hv (As := [.int (rI 2)]) (rest := []) (b := (E.2.2.2.1 28)) (rX7_fails σ (rI 2)) cbX7_fails lkX7_87 viX7_fails (rp_rcO sh28 rfl) rfl (Nat.le_of_ble_eq_true rfl) ⟨rfl, rfl, ⟨Nat.le_of_ble_eq_true rfl, Nat.le_of_ble_eq_true rfl⟩, Nat.zero_le _, Nat.zero_le _⟩ rfl (Nat.le_of_ble_eq_true rfl) dX7_number_17 (fun σ4 hσ4 => ?_)
      refine rp_mask [true, true, true, false] (vs2 := [some (.ref (E.2.2.2.1 28)), some (.int v1), some (.int v2), none]) rfl rfl ?_
      exact rX7_number_20 σ4 v1 v2
/-! RocketPrintModel.readMore(I)V -/
abbrev rmX7_readMore : Room := { frames := 3, cells := 0, slots := 0, locals := 69 }
def fX7_readMore (σ : rp_S) (v1 : Int32) : Option (rp_S) :=
  (if (rI 3) < v1 then
    (if v1 = (rI 4) then
    ((rq_rd σ 30 36 (rI 33)).bind fun x5 =>
    ((fX7_number σ (rI 0) (rI 11)).bind fun p6 =>
    ((rq_wr p6.2 30 36 ((rI 25) + x5) p6.1).bind fun σ7 =>
    ((fX7_number σ7 (rI 0) (rI 9)).bind fun p8 =>
    ((rq_wr p8.2 30 36 ((rI 29) + x5) p8.1).bind fun σ9 =>
    ((rq_rd σ9 30 36 (rI 33)).bind fun x10 =>
    ((rq_wr σ9 30 36 (rI 33) (x10 + (rI 1))).bind fun σ11 =>
    (some σ11))))))))
  else
    (if v1 = (rI 5) then
    ((fX7_number σ (rI 0) (rI 8)).bind fun p3 =>
    ((rq_wr p3.2 30 36 (rI 34) (p3.1 - (rI 4))).bind fun σ4 =>
    (some σ4)))
  else
    ((fX7_number σ (rI 0) (rI 9)).bind fun p1 =>
    ((rq_wr p1.2 30 36 (rI 35) p1.1).bind fun σ2 =>
    (some σ2)))))
  else
    ((rq_rd σ 30 36 (rI 24)).bind fun x12 =>
    ((rq_wr σ 30 36 x12 v1).bind fun σ13 =>
    ((fX7_number σ13 (rI 0) (rI 11)).bind fun p14 =>
    ((rq_wr p14.2 30 36 ((rI 6) + x12) p14.1).bind fun σ15 =>
    ((fX7_number σ15 (rI 0) (rI 59)).bind fun p16 =>
    ((rq_wr p16.2 30 36 ((rI 12) + x12) p16.1).bind fun σ17 =>
    ((fX7_number σ17 (rI 1) (rI 9)).bind fun p18 =>
    ((rq_wr p18.2 30 36 ((rI 18) + x12) p18.1).bind fun σ19 =>
    ((rq_rd σ19 30 36 (rI 24)).bind fun x20 =>
    ((rq_wr σ19 30 36 (rI 24) (x20 + (rI 1))).bind fun σ21 =>
    (some σ21))))))))))))
set_option maxRecDepth 100000 in
theorem rX7_readMore {E : rp_E} (σ : rp_S) (v1 : Int32)   : rp_R E (rp_mK E rmX7_readMore) mX7_readMore 0 [some (.ref (E.2.2.2.1 28)), some (.int v1), none] [] σ rp_hv (fX7_readMore σ v1) := by
  rw [fX7_readMore]
  refine rp_iload_n (x := v1) dX7_readMore_0 rfl ?_
  refine rp_iconst dX7_readMore_1 ?_
  refine rp_icmp_gt (tgt := 82) dX7_readMore_2 (by decide) ?_ ?_
  · refine rp_iload_n (x := v1) dX7_readMore_82 rfl ?_
    refine rp_iconst dX7_readMore_83 ?_
    refine rp_icmp_ne (tgt := 141) dX7_readMore_84 (by decide) ?_ ?_
    · refine rp_iload_n (x := v1) dX7_readMore_141 rfl ?_
      refine rp_iconst dX7_readMore_142 ?_
      refine rp_icmp_ne (tgt := 165) dX7_readMore_143 (by decide) ?_ ?_
      · refine rp_aload_n (x := (E.2.2.2.1 28)) dX7_readMore_165 rfl ?_
        refine rp_getR (k := 1) (b := 30) sh28 rfl fdX7_13 dX7_readMore_166 ?_
        refine rp_bipush dX7_readMore_169 (by decide) ?_
        refine rp_aload_n (x := (E.2.2.2.1 28)) dX7_readMore_171 rfl ?_
        refine rp_iconst dX7_readMore_172 ?_
        refine rp_bipush dX7_readMore_173 (by decide) ?_
        refine rp_callV_hI (As := [.int (rI 0), .int (rI 9)]) (rest := [.int (rI 35), .ref (E.2.2.2.1 30)]) (b := (E.2.2.2.1 28)) (rX7_number σ (rI 0) (rI 9)) cbX7_number lkX7_94 viX7_number (rp_rcO sh28 rfl) rfl (Nat.le_of_ble_eq_true rfl) ⟨rfl, rfl, ⟨Nat.le_of_ble_eq_true rfl, Nat.le_of_ble_eq_true rfl⟩, Nat.zero_le _, Nat.zero_le _⟩ rfl (Nat.le_of_ble_eq_true rfl) dX7_readMore_175 (fun p1 hp1 => ?_)
        refine rp_iastore sh30 dX7_readMore_178 (fun σ2 => ?_)
        exact rp_vret rfl rfl dX7_readMore_179
      · refine rp_aload_n (x := (E.2.2.2.1 28)) dX7_readMore_146 rfl ?_
        refine rp_getR (k := 1) (b := 30) sh28 rfl fdX7_13 dX7_readMore_147 ?_
        refine rp_bipush dX7_readMore_150 (by decide) ?_
        refine rp_aload_n (x := (E.2.2.2.1 28)) dX7_readMore_152 rfl ?_
        refine rp_iconst dX7_readMore_153 ?_
        refine rp_bipush dX7_readMore_154 (by decide) ?_
        refine rp_callV_hI (As := [.int (rI 0), .int (rI 8)]) (rest := [.int (rI 34), .ref (E.2.2.2.1 30)]) (b := (E.2.2.2.1 28)) (rX7_number σ (rI 0) (rI 8)) cbX7_number lkX7_94 viX7_number (rp_rcO sh28 rfl) rfl (Nat.le_of_ble_eq_true rfl) ⟨rfl, rfl, ⟨Nat.le_of_ble_eq_true rfl, Nat.le_of_ble_eq_true rfl⟩, Nat.zero_le _, Nat.zero_le _⟩ rfl (Nat.le_of_ble_eq_true rfl) dX7_readMore_156 (fun p3 hp3 => ?_)
        refine rp_iconst dX7_readMore_159 ?_
        refine rp_isub dX7_readMore_160 ?_
        refine rp_iastore sh30 dX7_readMore_161 (fun σ4 => ?_)
        refine rp_goto (tgt := 179) dX7_readMore_162 (by decide) ?_
        exact rp_vret rfl rfl dX7_readMore_179
    · refine rp_aload_n (x := (E.2.2.2.1 28)) dX7_readMore_87 rfl ?_
      refine rp_getR (k := 1) (b := 30) sh28 rfl fdX7_13 dX7_readMore_88 ?_
      refine rp_bipush dX7_readMore_91 (by decide) ?_
      refine rp_iaload sh30 dX7_readMore_93 (fun x5 => ?_)
      refine rp_istore_n dX7_readMore_94 (by decide) rfl ?_
      refine rp_aload_n (x := (E.2.2.2.1 28)) dX7_readMore_95 rfl ?_
      refine rp_getR (k := 1) (b := 30) sh28 rfl fdX7_13 dX7_readMore_96 ?_
      refine rp_bipush dX7_readMore_99 (by decide) ?_
      refine rp_iload_n (x := x5) dX7_readMore_101 rfl ?_
      refine rp_iadd dX7_readMore_102 ?_
      refine rp_aload_n (x := (E.2.2.2.1 28)) dX7_readMore_103 rfl ?_
      refine rp_iconst dX7_readMore_104 ?_
      refine rp_bipush dX7_readMore_105 (by decide) ?_
      refine rp_callV_hI (As := [.int (rI 0), .int (rI 11)]) (rest := [.int ((rI 25) + x5), .ref (E.2.2.2.1 30)]) (b := (E.2.2.2.1 28)) (rX7_number σ (rI 0) (rI 11)) cbX7_number lkX7_94 viX7_number (rp_rcO sh28 rfl) rfl (Nat.le_of_ble_eq_true rfl) ⟨rfl, rfl, ⟨Nat.le_of_ble_eq_true rfl, Nat.le_of_ble_eq_true rfl⟩, Nat.zero_le _, Nat.zero_le _⟩ rfl (Nat.le_of_ble_eq_true rfl) dX7_readMore_107 (fun p6 hp6 => ?_)
      refine rp_iastore sh30 dX7_readMore_110 (fun σ7 => ?_)
      refine rp_aload_n (x := (E.2.2.2.1 28)) dX7_readMore_111 rfl ?_
      refine rp_getR (k := 1) (b := 30) sh28 rfl fdX7_13 dX7_readMore_112 ?_
      refine rp_bipush dX7_readMore_115 (by decide) ?_
      refine rp_iload_n (x := x5) dX7_readMore_117 rfl ?_
      refine rp_iadd dX7_readMore_118 ?_
      refine rp_aload_n (x := (E.2.2.2.1 28)) dX7_readMore_119 rfl ?_
      refine rp_iconst dX7_readMore_120 ?_
      refine rp_bipush dX7_readMore_121 (by decide) ?_
      refine rp_callV_hI (As := [.int (rI 0), .int (rI 9)]) (rest := [.int ((rI 29) + x5), .ref (E.2.2.2.1 30)]) (b := (E.2.2.2.1 28)) (rX7_number σ7 (rI 0) (rI 9)) cbX7_number lkX7_94 viX7_number (rp_rcO sh28 rfl) rfl (Nat.le_of_ble_eq_true rfl) ⟨rfl, rfl, ⟨Nat.le_of_ble_eq_true rfl, Nat.le_of_ble_eq_true rfl⟩, Nat.zero_le _, Nat.zero_le _⟩ rfl (Nat.le_of_ble_eq_true rfl) dX7_readMore_123 (fun p8 hp8 => ?_)
      refine rp_iastore sh30 dX7_readMore_126 (fun σ9 => ?_)
      refine rp_aload_n (x := (E.2.2.2.1 28)) dX7_readMore_127 rfl ?_
      refine rp_getR (k := 1) (b := 30) sh28 rfl fdX7_13 dX7_readMore_128 ?_
      refine rp_bipush dX7_readMore_131 (by decide) ?_
      refine rp_dup2 dX7_readMore_133 rfl rfl ?_
      refine rp_iaload sh30 dX7_readMore_134 (fun x10 => ?_)
      refine rp_iconst dX7_readMore_135 ?_
      refine rp_iadd dX7_readMore_136 ?_
      refine rp_iastore sh30 dX7_readMore_137 (fun σ11 => ?_)
      refine rp_goto (tgt := 179) dX7_readMore_138 (by decide) ?_
      exact rp_vret rfl rfl dX7_readMore_179
  · refine rp_aload_n (x := (E.2.2.2.1 28)) dX7_readMore_5 rfl ?_
    refine rp_getR (k := 1) (b := 30) sh28 rfl fdX7_13 dX7_readMore_6 ?_
    refine rp_bipush dX7_readMore_9 (by decide) ?_
    refine rp_iaload sh30 dX7_readMore_11 (fun x12 => ?_)
    refine rp_istore_n dX7_readMore_12 (by decide) rfl ?_
    refine rp_aload_n (x := (E.2.2.2.1 28)) dX7_readMore_13 rfl ?_
    refine rp_getR (k := 1) (b := 30) sh28 rfl fdX7_13 dX7_readMore_14 ?_
    refine rp_iload_n (x := x12) dX7_readMore_17 rfl ?_
    refine rp_iload_n (x := v1) dX7_readMore_18 rfl ?_
    refine rp_iastore sh30 dX7_readMore_19 (fun σ13 => ?_)
    refine rp_aload_n (x := (E.2.2.2.1 28)) dX7_readMore_20 rfl ?_
    refine rp_getR (k := 1) (b := 30) sh28 rfl fdX7_13 dX7_readMore_21 ?_
    refine rp_bipush dX7_readMore_24 (by decide) ?_
    refine rp_iload_n (x := x12) dX7_readMore_26 rfl ?_
    refine rp_iadd dX7_readMore_27 ?_
    refine rp_aload_n (x := (E.2.2.2.1 28)) dX7_readMore_28 rfl ?_
    refine rp_iconst dX7_readMore_29 ?_
    refine rp_bipush dX7_readMore_30 (by decide) ?_
    refine rp_callV_hI (As := [.int (rI 0), .int (rI 11)]) (rest := [.int ((rI 6) + x12), .ref (E.2.2.2.1 30)]) (b := (E.2.2.2.1 28)) (rX7_number σ13 (rI 0) (rI 11)) cbX7_number lkX7_94 viX7_number (rp_rcO sh28 rfl) rfl (Nat.le_of_ble_eq_true rfl) ⟨rfl, rfl, ⟨Nat.le_of_ble_eq_true rfl, Nat.le_of_ble_eq_true rfl⟩, Nat.zero_le _, Nat.zero_le _⟩ rfl (Nat.le_of_ble_eq_true rfl) dX7_readMore_32 (fun p14 hp14 => ?_)
    refine rp_iastore sh30 dX7_readMore_35 (fun σ15 => ?_)
    refine rp_aload_n (x := (E.2.2.2.1 28)) dX7_readMore_36 rfl ?_
    refine rp_getR (k := 1) (b := 30) sh28 rfl fdX7_13 dX7_readMore_37 ?_
    refine rp_bipush dX7_readMore_40 (by decide) ?_
    refine rp_iload_n (x := x12) dX7_readMore_42 rfl ?_
    refine rp_iadd dX7_readMore_43 ?_
    refine rp_aload_n (x := (E.2.2.2.1 28)) dX7_readMore_44 rfl ?_
    refine rp_iconst dX7_readMore_45 ?_
    refine rp_bipush dX7_readMore_46 (by decide) ?_
    refine rp_callV_hI (As := [.int (rI 0), .int (rI 59)]) (rest := [.int ((rI 12) + x12), .ref (E.2.2.2.1 30)]) (b := (E.2.2.2.1 28)) (rX7_number σ15 (rI 0) (rI 59)) cbX7_number lkX7_94 viX7_number (rp_rcO sh28 rfl) rfl (Nat.le_of_ble_eq_true rfl) ⟨rfl, rfl, ⟨Nat.le_of_ble_eq_true rfl, Nat.le_of_ble_eq_true rfl⟩, Nat.zero_le _, Nat.zero_le _⟩ rfl (Nat.le_of_ble_eq_true rfl) dX7_readMore_48 (fun p16 hp16 => ?_)
    refine rp_iastore sh30 dX7_readMore_51 (fun σ17 => ?_)
    refine rp_aload_n (x := (E.2.2.2.1 28)) dX7_readMore_52 rfl ?_
    refine rp_getR (k := 1) (b := 30) sh28 rfl fdX7_13 dX7_readMore_53 ?_
    refine rp_bipush dX7_readMore_56 (by decide) ?_
    refine rp_iload_n (x := x12) dX7_readMore_58 rfl ?_
    refine rp_iadd dX7_readMore_59 ?_
    refine rp_aload_n (x := (E.2.2.2.1 28)) dX7_readMore_60 rfl ?_
    refine rp_iconst dX7_readMore_61 ?_
    refine rp_bipush dX7_readMore_62 (by decide) ?_
    refine rp_callV_hI (As := [.int (rI 1), .int (rI 9)]) (rest := [.int ((rI 18) + x12), .ref (E.2.2.2.1 30)]) (b := (E.2.2.2.1 28)) (rX7_number σ17 (rI 1) (rI 9)) cbX7_number lkX7_94 viX7_number (rp_rcO sh28 rfl) rfl (Nat.le_of_ble_eq_true rfl) ⟨rfl, rfl, ⟨Nat.le_of_ble_eq_true rfl, Nat.le_of_ble_eq_true rfl⟩, Nat.zero_le _, Nat.zero_le _⟩ rfl (Nat.le_of_ble_eq_true rfl) dX7_readMore_64 (fun p18 hp18 => ?_)
    refine rp_iastore sh30 dX7_readMore_67 (fun σ19 => ?_)
    refine rp_aload_n (x := (E.2.2.2.1 28)) dX7_readMore_68 rfl ?_
    refine rp_getR (k := 1) (b := 30) sh28 rfl fdX7_13 dX7_readMore_69 ?_
    refine rp_bipush dX7_readMore_72 (by decide) ?_
    refine rp_dup2 dX7_readMore_74 rfl rfl ?_
    refine rp_iaload sh30 dX7_readMore_75 (fun x20 => ?_)
    refine rp_iconst dX7_readMore_76 ?_
    refine rp_iadd dX7_readMore_77 ?_
    refine rp_iastore sh30 dX7_readMore_78 (fun σ21 => ?_)
    refine rp_goto (tgt := 179) dX7_readMore_79 (by decide) ?_
    exact rp_vret rfl rfl dX7_readMore_179
/-! RocketPrintModel.readLine()V -/
abbrev rmX7_readLine : Room := { frames := 4, cells := 0, slots := 0, locals := 91 }
def fX7_readLine_132 (σ : rp_S) : Option (rp_S) :=
  ((fX7_step σ).bind fun σ6 =>
    (some σ6))
set_option maxRecDepth 100000 in
theorem rX7_readLine_132 {E : rp_E} (σ : rp_S) : rp_R E (rp_mK E rmX7_readLine) mX7_readLine 132 [some (.ref (E.2.2.2.1 28)), none] [] σ rp_hv (fX7_readLine_132 σ) := by
  rw [fX7_readLine_132]
  refine rp_aload_n (x := (E.2.2.2.1 28)) dX7_readLine_132 rfl ?_
  refine rp_callV_hv (As := []) (rest := []) (b := (E.2.2.2.1 28)) (rX7_step σ) cbX7_step lkX7_91 viX7_step (rp_rcO sh28 rfl) rfl (Nat.le_of_ble_eq_true rfl) ⟨rfl, rfl, ⟨Nat.le_of_ble_eq_true rfl, Nat.le_of_ble_eq_true rfl⟩, Nat.zero_le _, Nat.zero_le _⟩ rfl (Nat.le_of_ble_eq_true rfl) dX7_readLine_133 (fun σ6 hσ6 => ?_)
  exact rp_vret rfl rfl dX7_readLine_136
def fX7_readLine_83 (σ : rp_S) (v1 : Int32) : Option (rp_S) :=
  ((some (rp_up σ 28 2 ((σ 28 2) ||| ((rI 1) <<< (v1 &&& 31))))).bind fun σ3 =>
    ((fX7_step σ3).bind fun σ4 =>
    (if (σ4 28 6) ≤ 0 then
    ((fX7_readMore σ4 v1).bind fun σ5 =>
    (if (σ5 28 6) = 0 then
    (if (σ5 28 10) = (rI 3) then
    (fX7_readLine_132 σ5)
  else
    ((fX7_fails σ5 (rI 2)).bind fun σ7 =>
    (fX7_readLine_132 σ7)))
  else
    (fX7_readLine_132 σ5)))
  else
    (some σ4))))
set_option maxRecDepth 100000 in
theorem rX7_readLine_83 {E : rp_E} (σ : rp_S) (v1 : Int32) : rp_R E (rp_mK E rmX7_readLine) mX7_readLine 83 [some (.ref (E.2.2.2.1 28)), some (.int v1)] [] σ rp_hv (fX7_readLine_83 σ v1) := by
  rw [fX7_readLine_83]
  refine rp_aload_n (x := (E.2.2.2.1 28)) dX7_readLine_83 rfl ?_
  refine rp_dup dX7_readLine_84 rfl ?_
  refine rp_getI (k := 2) sh28 rfl fdX7_104 dX7_readLine_85 ?_
  refine rp_iconst dX7_readLine_88 ?_
  refine rp_iload_n (x := v1) dX7_readLine_89 rfl ?_
  refine rp_ishl dX7_readLine_90 ?_
  refine rp_ior dX7_readLine_91 ?_
  refine rp_putB (k := 2) sh28 rfl fpX7_104 (vp_nar_int _) rfl dX7_readLine_92 (fun σ3 => ?_)
  refine rp_aload_n (x := (E.2.2.2.1 28)) dX7_readLine_95 rfl ?_
  refine rp_callV_hv (As := []) (rest := []) (b := (E.2.2.2.1 28)) (rX7_step σ3) cbX7_step lkX7_91 viX7_step (rp_rcO sh28 rfl) rfl (Nat.le_of_ble_eq_true rfl) ⟨rfl, rfl, ⟨Nat.le_of_ble_eq_true rfl, Nat.le_of_ble_eq_true rfl⟩, Nat.zero_le _, Nat.zero_le _⟩ rfl (Nat.le_of_ble_eq_true rfl) dX7_readLine_96 (fun σ4 hσ4 => ?_)
  refine rp_aload_n (x := (E.2.2.2.1 28)) dX7_readLine_99 rfl ?_
  refine rp_getI (k := 6) sh28 rfl fdX7_57 dX7_readLine_100 ?_
  refine rp_if_le (tgt := 107) dX7_readLine_103 (by decide) ?_ ?_
  · refine rp_aload_n (x := (E.2.2.2.1 28)) dX7_readLine_107 rfl ?_
    refine rp_iload_n (x := v1) dX7_readLine_108 rfl ?_
    refine rp_callV_hv (As := [.int v1]) (rest := []) (b := (E.2.2.2.1 28)) (rX7_readMore σ4 v1) cbX7_readMore lkX7_107 viX7_readMore (rp_rcO sh28 rfl) rfl (Nat.le_of_ble_eq_true rfl) ⟨rfl, rfl, ⟨Nat.le_of_ble_eq_true rfl, Nat.le_of_ble_eq_true rfl⟩, Nat.zero_le _, Nat.zero_le _⟩ rfl (Nat.le_of_ble_eq_true rfl) dX7_readLine_109 (fun σ5 hσ5 => ?_)
    refine rp_aload_n (x := (E.2.2.2.1 28)) dX7_readLine_112 rfl ?_
    refine rp_getI (k := 6) sh28 rfl fdX7_57 dX7_readLine_113 ?_
    refine rp_if_ne (tgt := 132) dX7_readLine_116 (by decide) ?_ ?_
    · refine rp_mask [true, false] (vs2 := [some (.ref (E.2.2.2.1 28)), none]) rfl rfl ?_
      exact rX7_readLine_132 σ5
    · refine rp_aload_n (x := (E.2.2.2.1 28)) dX7_readLine_119 rfl ?_
      refine rp_getI (k := 10) sh28 rfl fdX7_66 dX7_readLine_120 ?_
      refine rp_iconst dX7_readLine_123 ?_
      refine rp_icmp_eq (tgt := 132) dX7_readLine_124 (by decide) ?_ ?_
      · refine rp_mask [true, false] (vs2 := [some (.ref (E.2.2.2.1 28)), none]) rfl rfl ?_
        exact rX7_readLine_132 σ5
      · refine rp_aload_n (x := (E.2.2.2.1 28)) dX7_readLine_127 rfl ?_
        refine rp_iconst dX7_readLine_128 ?_
        refine rp_callV_hv (As := [.int (rI 2)]) (rest := []) (b := (E.2.2.2.1 28)) (rX7_fails σ5 (rI 2)) cbX7_fails lkX7_87 viX7_fails (rp_rcO sh28 rfl) rfl (Nat.le_of_ble_eq_true rfl) ⟨rfl, rfl, ⟨Nat.le_of_ble_eq_true rfl, Nat.le_of_ble_eq_true rfl⟩, Nat.zero_le _, Nat.zero_le _⟩ rfl (Nat.le_of_ble_eq_true rfl) dX7_readLine_129 (fun σ7 hσ7 => ?_)
        refine rp_mask [true, false] (vs2 := [some (.ref (E.2.2.2.1 28)), none]) rfl rfl ?_
        exact rX7_readLine_132 σ7
  · exact rp_vret rfl rfl dX7_readLine_106
def fX7_readLine_61 (σ : rp_S) (v1 : Int32) : Option (rp_S) :=
  (if v1 < (rI 5) then
    (fX7_readLine_83 σ v1)
  else
    (if (((σ 28 2) >>> (v1 &&& 31)) &&& (rI 1)) = (rI 1) then
    ((fX7_fails σ (rI 4)).bind fun σ8 =>
    (fX7_readLine_83 σ8 v1))
  else
    (fX7_readLine_83 σ v1)))
set_option maxRecDepth 100000 in
theorem rX7_readLine_61 {E : rp_E} (σ : rp_S) (v1 : Int32) : rp_R E (rp_mK E rmX7_readLine) mX7_readLine 61 [some (.ref (E.2.2.2.1 28)), some (.int v1)] [] σ rp_hv (fX7_readLine_61 σ v1) := by
  rw [fX7_readLine_61]
  refine rp_iload_n (x := v1) dX7_readLine_61 rfl ?_
  refine rp_iconst dX7_readLine_62 ?_
  refine rp_icmp_lt (tgt := 83) dX7_readLine_63 (by decide) ?_ ?_
  · refine rp_mask [true, true] (vs2 := [some (.ref (E.2.2.2.1 28)), some (.int v1)]) rfl rfl ?_
    exact rX7_readLine_83 σ v1
  · refine rp_aload_n (x := (E.2.2.2.1 28)) dX7_readLine_66 rfl ?_
    refine rp_getI (k := 2) sh28 rfl fdX7_104 dX7_readLine_67 ?_
    refine rp_iload_n (x := v1) dX7_readLine_70 rfl ?_
    refine rp_ishr dX7_readLine_71 ?_
    refine rp_iconst dX7_readLine_72 ?_
    refine rp_iand dX7_readLine_73 ?_
    refine rp_iconst dX7_readLine_74 ?_
    refine rp_icmp_ne (tgt := 83) dX7_readLine_75 (by decide) ?_ ?_
    · refine rp_mask [true, true] (vs2 := [some (.ref (E.2.2.2.1 28)), some (.int v1)]) rfl rfl ?_
      exact rX7_readLine_83 σ v1
    · refine rp_aload_n (x := (E.2.2.2.1 28)) dX7_readLine_78 rfl ?_
      refine rp_iconst dX7_readLine_79 ?_
      refine rp_callV_hv (As := [.int (rI 4)]) (rest := []) (b := (E.2.2.2.1 28)) (rX7_fails σ (rI 4)) cbX7_fails lkX7_87 viX7_fails (rp_rcO sh28 rfl) rfl (Nat.le_of_ble_eq_true rfl) ⟨rfl, rfl, ⟨Nat.le_of_ble_eq_true rfl, Nat.le_of_ble_eq_true rfl⟩, Nat.zero_le _, Nat.zero_le _⟩ rfl (Nat.le_of_ble_eq_true rfl) dX7_readLine_80 (fun σ8 hσ8 => ?_)
      refine rp_mask [true, true] (vs2 := [some (.ref (E.2.2.2.1 28)), some (.int v1)]) rfl rfl ?_
      exact rX7_readLine_83 σ8 v1
def fX7_readLine_56 (σ : rp_S) (v1 : Int32) : Option (rp_S) :=
  ((fX7_fails σ (rI 5)).bind fun σ10 =>
    (fX7_readLine_61 σ10 v1))
set_option maxRecDepth 100000 in
theorem rX7_readLine_56 {E : rp_E} (σ : rp_S) (v1 : Int32) : rp_R E (rp_mK E rmX7_readLine) mX7_readLine 56 [some (.ref (E.2.2.2.1 28)), some (.int v1)] [] σ rp_hv (fX7_readLine_56 σ v1) := by
  rw [fX7_readLine_56]
  refine rp_aload_n (x := (E.2.2.2.1 28)) dX7_readLine_56 rfl ?_
  refine rp_iconst dX7_readLine_57 ?_
  refine rp_callV_hv (As := [.int (rI 5)]) (rest := []) (b := (E.2.2.2.1 28)) (rX7_fails σ (rI 5)) cbX7_fails lkX7_87 viX7_fails (rp_rcO sh28 rfl) rfl (Nat.le_of_ble_eq_true rfl) ⟨rfl, rfl, ⟨Nat.le_of_ble_eq_true rfl, Nat.le_of_ble_eq_true rfl⟩, Nat.zero_le _, Nat.zero_le _⟩ rfl (Nat.le_of_ble_eq_true rfl) dX7_readLine_58 (fun σ10 hσ10 => ?_)
  refine rp_mask [true, true] (vs2 := [some (.ref (E.2.2.2.1 28)), some (.int v1)]) rfl rfl ?_
  exact rX7_readLine_61 σ10 v1
def fX7_readLine_40 (σ : rp_S) (v1 : Int32) : Option (rp_S) :=
  (if v1 = (rI 4) then
    ((rq_rd σ 30 36 (rI 33)).bind fun x9 =>
    (if x9 = (rI 4) then
    (fX7_readLine_56 σ v1)
  else
    (fX7_readLine_61 σ v1)))
  else
    (fX7_readLine_61 σ v1))
set_option maxRecDepth 100000 in
theorem rX7_readLine_40 {E : rp_E} (σ : rp_S) (v1 : Int32) : rp_R E (rp_mK E rmX7_readLine) mX7_readLine 40 [some (.ref (E.2.2.2.1 28)), some (.int v1)] [] σ rp_hv (fX7_readLine_40 σ v1) := by
  rw [fX7_readLine_40]
  refine rp_iload_n (x := v1) dX7_readLine_40 rfl ?_
  refine rp_iconst dX7_readLine_41 ?_
  refine rp_icmp_ne (tgt := 61) dX7_readLine_42 (by decide) ?_ ?_
  · refine rp_mask [true, true] (vs2 := [some (.ref (E.2.2.2.1 28)), some (.int v1)]) rfl rfl ?_
    exact rX7_readLine_61 σ v1
  · refine rp_aload_n (x := (E.2.2.2.1 28)) dX7_readLine_45 rfl ?_
    refine rp_getR (k := 1) (b := 30) sh28 rfl fdX7_13 dX7_readLine_46 ?_
    refine rp_bipush dX7_readLine_49 (by decide) ?_
    refine rp_iaload sh30 dX7_readLine_51 (fun x9 => ?_)
    refine rp_iconst dX7_readLine_52 ?_
    refine rp_icmp_ne (tgt := 61) dX7_readLine_53 (by decide) ?_ ?_
    · refine rp_mask [true, true] (vs2 := [some (.ref (E.2.2.2.1 28)), some (.int v1)]) rfl rfl ?_
      exact rX7_readLine_61 σ v1
    · refine rp_mask [true, true] (vs2 := [some (.ref (E.2.2.2.1 28)), some (.int v1)]) rfl rfl ?_
      exact rX7_readLine_56 σ v1
def fX7_readLine (σ : rp_S)  : Option (rp_S) :=
  ((fX7_nameHere σ).bind fun x1 =>
    ((fX7_in (x1.toInt64) (rJ 0) (rJ 6)).bind fun x2 =>
    (if x2 = 0 then
    ((fX7_fails σ (rI 2)).bind fun σ12 =>
    (some σ12))
  else
    (if (rI 3) < x1 then
    (fX7_readLine_40 σ x1)
  else
    ((rq_rd σ 30 36 (rI 24)).bind fun x11 =>
    (if x11 = (rI 6) then
    (fX7_readLine_56 σ x1)
  else
    (fX7_readLine_40 σ x1)))))))
set_option maxRecDepth 100000 in
theorem rX7_readLine {E : rp_E} (σ : rp_S)    : rp_R E (rp_mK E rmX7_readLine) mX7_readLine 0 [some (.ref (E.2.2.2.1 28)), none] [] σ rp_hv (fX7_readLine σ) := by
  rw [fX7_readLine]
  refine rp_aload_n (x := (E.2.2.2.1 28)) dX7_readLine_0 rfl ?_
  refine rp_callV_hi (As := []) (rest := []) (b := (E.2.2.2.1 28)) (rX7_nameHere σ) cbX7_nameHere lkX7_98 viX7_nameHere (rp_rcO sh28 rfl) rfl (Nat.le_of_ble_eq_true rfl) ⟨rfl, rfl, ⟨Nat.le_of_ble_eq_true rfl, Nat.le_of_ble_eq_true rfl⟩, Nat.zero_le _, Nat.zero_le _⟩ rfl (Nat.le_of_ble_eq_true rfl) dX7_readLine_1 (fun x1 hx1 => ?_)
  refine rp_istore_n dX7_readLine_4 (by decide) rfl ?_
  refine rp_iload_n (x := x1) dX7_readLine_5 rfl ?_
  refine rp_i2l dX7_readLine_6 ?_
  refine rp_lconst dX7_readLine_7 0 (by decide) ?_
  refine rp_ldc2 (v := (rJ 6)) clX7_102 dX7_readLine_8 ?_
  refine rp_callS_hi (As := [.long (x1.toInt64), .long (rJ 0), .long (rJ 6)]) (rest := []) (rX7_in σ (x1.toInt64) (rJ 0) (rJ 6)) cbX7_in lkX7_49 stX7_in rfl (Nat.le_of_ble_eq_true rfl) ⟨rfl, rfl, ⟨Nat.le_of_ble_eq_true rfl, Nat.le_of_ble_eq_true rfl⟩, Nat.zero_le _, Nat.zero_le _⟩ rfl (Nat.le_of_ble_eq_true rfl) dX7_readLine_11 (fun x2 hx2 => ?_)
  refine rp_if_ne (tgt := 23) dX7_readLine_14 (by decide) ?_ ?_
  · refine rp_iload_n (x := x1) dX7_readLine_23 rfl ?_
    refine rp_iconst dX7_readLine_24 ?_
    refine rp_icmp_gt (tgt := 40) dX7_readLine_25 (by decide) ?_ ?_
    · refine rp_mask [true, true] (vs2 := [some (.ref (E.2.2.2.1 28)), some (.int x1)]) rfl rfl ?_
      exact rX7_readLine_40 σ x1
    · refine rp_aload_n (x := (E.2.2.2.1 28)) dX7_readLine_28 rfl ?_
      refine rp_getR (k := 1) (b := 30) sh28 rfl fdX7_13 dX7_readLine_29 ?_
      refine rp_bipush dX7_readLine_32 (by decide) ?_
      refine rp_iaload sh30 dX7_readLine_34 (fun x11 => ?_)
      refine rp_bipush dX7_readLine_35 (by decide) ?_
      refine rp_icmp_eq (tgt := 56) dX7_readLine_37 (by decide) ?_ ?_
      · refine rp_mask [true, true] (vs2 := [some (.ref (E.2.2.2.1 28)), some (.int x1)]) rfl rfl ?_
        exact rX7_readLine_56 σ x1
      · refine rp_mask [true, true] (vs2 := [some (.ref (E.2.2.2.1 28)), some (.int x1)]) rfl rfl ?_
        exact rX7_readLine_40 σ x1
  · refine rp_aload_n (x := (E.2.2.2.1 28)) dX7_readLine_17 rfl ?_
    refine rp_iconst dX7_readLine_18 ?_
    refine rp_callV_hv (As := [.int (rI 2)]) (rest := []) (b := (E.2.2.2.1 28)) (rX7_fails σ (rI 2)) cbX7_fails lkX7_87 viX7_fails (rp_rcO sh28 rfl) rfl (Nat.le_of_ble_eq_true rfl) ⟨rfl, rfl, ⟨Nat.le_of_ble_eq_true rfl, Nat.le_of_ble_eq_true rfl⟩, Nat.zero_le _, Nat.zero_le _⟩ rfl (Nat.le_of_ble_eq_true rfl) dX7_readLine_19 (fun σ12 hσ12 => ?_)
    exact rp_vret rfl rfl dX7_readLine_22
/-! RocketPrintModel.text()I -/
abbrev rmX7_text : Room := { frames := 5, cells := 0, slots := 0, locals := 112 }
def fX7_text_96  : Nat → rp_S → Int32 → Int32 → Option (Int32 × rp_S)
  | 0, _, _, _ => none
  | n + 1, σ, v1, v2 =>
    (if (rI 36) ≤ v2 then
    ((some (rp_up σ 28 20 (rI 0))).bind fun σ7 =>
    ((rq_wr σ7 37 2 (rI 0) (vp_nar .boolean (rI 0))).bind fun σ8 =>
    ((rq_wr σ8 37 2 (rI 1) (vp_nar .boolean (rI 0))).bind fun σ9 =>
    (some (v1, σ9)))))
  else
    ((rq_rd σ 30 36 v2).bind fun x10 =>
    ((rq_wr σ 29 180 v2 x10).bind fun σ11 =>
    (fX7_text_96 n σ11 v1 (v2 + (rI 1))))))
set_option maxRecDepth 100000 in
theorem rX7_text_96 {E : rp_E}  : ∀ (n : Nat) (σ : rp_S) (v1 : Int32) (v2 : Int32), rp_R E (rp_mK E rmX7_text) mX7_text 96 [some (.ref (E.2.2.2.1 28)), some (.int v1), some (.int v2)] [] σ rp_hI (fX7_text_96 n σ v1 v2) := by
  intro n
  induction n with
  | zero =>
    intro σ v1 v2
    rw [fX7_text_96]
    exact rp_none
  | succ n ih =>
    intro σ v1 v2
    rw [fX7_text_96]
    refine rp_iload_n (x := v2) dX7_text_96 rfl ?_
    refine rp_bipush dX7_text_97 (by decide) ?_
    refine rp_icmp_ge (tgt := 120) dX7_text_99 (by decide) ?_ ?_
    · refine rp_aload_n (x := (E.2.2.2.1 28)) dX7_text_120 rfl ?_
      refine rp_iconst dX7_text_121 ?_
      refine rp_putB (k := 20) sh28 rfl fpX7_116 (vp_nar_int _) rfl dX7_text_122 (fun σ7 => ?_)
      refine rp_aload_n (x := (E.2.2.2.1 28)) dX7_text_125 rfl ?_
      refine rp_getR (k := 22) (b := 37) sh28 rfl fdX7_34 dX7_text_126 ?_
      refine rp_iconst dX7_text_129 ?_
      refine rp_iconst dX7_text_130 ?_
      refine rp_bastoreZ sh37 dX7_text_131 (fun σ8 => ?_)
      refine rp_aload_n (x := (E.2.2.2.1 28)) dX7_text_132 rfl ?_
      refine rp_getR (k := 22) (b := 37) sh28 rfl fdX7_34 dX7_text_133 ?_
      refine rp_iconst dX7_text_136 ?_
      refine rp_iconst dX7_text_137 ?_
      refine rp_bastoreZ sh37 dX7_text_138 (fun σ9 => ?_)
      refine rp_iload_n (x := v1) dX7_text_139 rfl ?_
      exact rp_iret rfl rfl dX7_text_140
    · refine rp_aload_n (x := (E.2.2.2.1 28)) dX7_text_102 rfl ?_
      refine rp_getR (k := 0) (b := 29) sh28 rfl fdX7_7 dX7_text_103 ?_
      refine rp_iload_n (x := v2) dX7_text_106 rfl ?_
      refine rp_aload_n (x := (E.2.2.2.1 28)) dX7_text_107 rfl ?_
      refine rp_getR (k := 1) (b := 30) sh28 rfl fdX7_13 dX7_text_108 ?_
      refine rp_iload_n (x := v2) dX7_text_111 rfl ?_
      refine rp_iaload sh30 dX7_text_112 (fun x10 => ?_)
      refine rp_iastore sh29 dX7_text_113 (fun σ11 => ?_)
      refine rp_iinc (x := v2) dX7_text_114 rfl (by decide) rfl ?_
      refine rp_goto (tgt := 96) dX7_text_117 (by decide) ?_
      refine rp_mask [true, true, true] (vs2 := [some (.ref (E.2.2.2.1 28)), some (.int v1), some (.int (v2 + (rI 1)))]) rfl rfl ?_
      exact ih σ11 v1 (v2 + (rI 1))
def fX7_text_66 (σ : rp_S) (v1 : Int32) : Option (Int32 × rp_S) :=
  ((some (rp_up σ 28 4 (rI 0))).bind fun σ5 =>
    ((some (rp_up σ5 28 5 (σ5 28 6))).bind fun σ6 =>
    (if (σ6 28 6) ≤ 0 then
    (fX7_text_96 1000 σ6 v1 (rI 0))
  else
    (some (((rI (-10)) - (σ6 28 7)), σ6)))))
set_option maxRecDepth 100000 in
theorem rX7_text_66 {E : rp_E} (σ : rp_S) (v1 : Int32) : rp_R E (rp_mK E rmX7_text) mX7_text 66 [some (.ref (E.2.2.2.1 28)), some (.int v1), none] [] σ rp_hI (fX7_text_66 σ v1) := by
  rw [fX7_text_66]
  refine rp_aload_n (x := (E.2.2.2.1 28)) dX7_text_66 rfl ?_
  refine rp_iconst dX7_text_67 ?_
  refine rp_putB (k := 4) sh28 rfl fpX7_53 (vp_nar_int _) rfl dX7_text_68 (fun σ5 => ?_)
  refine rp_aload_n (x := (E.2.2.2.1 28)) dX7_text_71 rfl ?_
  refine rp_aload_n (x := (E.2.2.2.1 28)) dX7_text_72 rfl ?_
  refine rp_getI (k := 6) sh28 rfl fdX7_57 dX7_text_73 ?_
  refine rp_putB (k := 5) sh28 rfl fpX7_113 (vp_nar_int _) rfl dX7_text_76 (fun σ6 => ?_)
  refine rp_aload_n (x := (E.2.2.2.1 28)) dX7_text_79 rfl ?_
  refine rp_getI (k := 6) sh28 rfl fdX7_57 dX7_text_80 ?_
  refine rp_if_le (tgt := 94) dX7_text_83 (by decide) ?_ ?_
  · refine rp_iconst dX7_text_94 ?_
    refine rp_istore_n dX7_text_95 (by decide) rfl ?_
    refine rp_mask [true, true, true] (vs2 := [some (.ref (E.2.2.2.1 28)), some (.int v1), some (.int (rI 0))]) rfl rfl ?_
    exact rX7_text_96 1000 σ6 v1 (rI 0)
  · refine rp_bipush dX7_text_86 (by decide) ?_
    refine rp_aload_n (x := (E.2.2.2.1 28)) dX7_text_88 rfl ?_
    refine rp_getI (k := 7) sh28 rfl fdX7_63 dX7_text_89 ?_
    refine rp_isub dX7_text_92 ?_
    exact rp_iret rfl rfl dX7_text_93
def fX7_text_42  : Nat → rp_S → Int32 → Option (Int32 × rp_S)
  | 0, _, _ => none
  | n + 1, σ, v1 =>
    (if (σ 28 6) = 0 then
    (if (σ 28 10) = 0 then
    (fX7_text_66 σ v1)
  else
    ((fX7_readLine σ).bind fun σ12 =>
    (fX7_text_42 n σ12 (v1 + (rI 1)))))
  else
    (fX7_text_66 σ v1))
set_option maxRecDepth 100000 in
theorem rX7_text_42 {E : rp_E}  : ∀ (n : Nat) (σ : rp_S) (v1 : Int32), rp_R E (rp_mK E rmX7_text) mX7_text 42 [some (.ref (E.2.2.2.1 28)), some (.int v1), none] [] σ rp_hI (fX7_text_42 n σ v1) := by
  intro n
  induction n with
  | zero =>
    intro σ v1
    rw [fX7_text_42]
    exact rp_none
  | succ n ih =>
    intro σ v1
    rw [fX7_text_42]
    refine rp_aload_n (x := (E.2.2.2.1 28)) dX7_text_42 rfl ?_
    refine rp_getI (k := 6) sh28 rfl fdX7_57 dX7_text_43 ?_
    refine rp_if_ne (tgt := 66) dX7_text_46 (by decide) ?_ ?_
    · refine rp_mask [true, true, false] (vs2 := [some (.ref (E.2.2.2.1 28)), some (.int v1), none]) rfl rfl ?_
      exact rX7_text_66 σ v1
    · refine rp_aload_n (x := (E.2.2.2.1 28)) dX7_text_49 rfl ?_
      refine rp_getI (k := 10) sh28 rfl fdX7_66 dX7_text_50 ?_
      refine rp_if_eq (tgt := 66) dX7_text_53 (by decide) ?_ ?_
      · refine rp_mask [true, true, false] (vs2 := [some (.ref (E.2.2.2.1 28)), some (.int v1), none]) rfl rfl ?_
        exact rX7_text_66 σ v1
      · refine rp_aload_n (x := (E.2.2.2.1 28)) dX7_text_56 rfl ?_
        refine rp_callV_hv (As := []) (rest := []) (b := (E.2.2.2.1 28)) (rX7_readLine σ) cbX7_readLine lkX7_110 viX7_readLine (rp_rcO sh28 rfl) rfl (Nat.le_of_ble_eq_true rfl) ⟨rfl, rfl, ⟨Nat.le_of_ble_eq_true rfl, Nat.le_of_ble_eq_true rfl⟩, Nat.zero_le _, Nat.zero_le _⟩ rfl (Nat.le_of_ble_eq_true rfl) dX7_text_57 (fun σ12 hσ12 => ?_)
        refine rp_iinc (x := v1) dX7_text_60 rfl (by decide) rfl ?_
        refine rp_goto (tgt := 42) dX7_text_63 (by decide) ?_
        refine rp_mask [true, true, false] (vs2 := [some (.ref (E.2.2.2.1 28)), some (.int (v1 + (rI 1))), none]) rfl rfl ?_
        exact ih σ12 (v1 + (rI 1))
def fX7_text_19  : Nat → rp_S → Int32 → Int32 → Option (Int32 × rp_S)
  | 0, _, _, _ => none
  | n + 1, σ, v1, v2 =>
    (if (rI 36) ≤ v2 then
    ((fX7_step σ).bind fun σ4 =>
    (fX7_text_42 1000 σ4 v1))
  else
    ((rq_wr σ 30 36 v2 (rI 0)).bind fun σ13 =>
    (fX7_text_19 n σ13 v1 (v2 + (rI 1)))))
set_option maxRecDepth 100000 in
theorem rX7_text_19 {E : rp_E}  : ∀ (n : Nat) (σ : rp_S) (v1 : Int32) (v2 : Int32), rp_R E (rp_mK E rmX7_text) mX7_text 19 [some (.ref (E.2.2.2.1 28)), some (.int v1), some (.int v2)] [] σ rp_hI (fX7_text_19 n σ v1 v2) := by
  intro n
  induction n with
  | zero =>
    intro σ v1 v2
    rw [fX7_text_19]
    exact rp_none
  | succ n ih =>
    intro σ v1 v2
    rw [fX7_text_19]
    refine rp_iload_n (x := v2) dX7_text_19 rfl ?_
    refine rp_bipush dX7_text_20 (by decide) ?_
    refine rp_icmp_ge (tgt := 38) dX7_text_22 (by decide) ?_ ?_
    · refine rp_aload_n (x := (E.2.2.2.1 28)) dX7_text_38 rfl ?_
      refine rp_callV_hv (As := []) (rest := []) (b := (E.2.2.2.1 28)) (rX7_step σ) cbX7_step lkX7_91 viX7_step (rp_rcO sh28 rfl) rfl (Nat.le_of_ble_eq_true rfl) ⟨rfl, rfl, ⟨Nat.le_of_ble_eq_true rfl, Nat.le_of_ble_eq_true rfl⟩, Nat.zero_le _, Nat.zero_le _⟩ rfl (Nat.le_of_ble_eq_true rfl) dX7_text_39 (fun σ4 hσ4 => ?_)
      refine rp_mask [true, true, false] (vs2 := [some (.ref (E.2.2.2.1 28)), some (.int v1), none]) rfl rfl ?_
      exact rX7_text_42 1000 σ4 v1
    · refine rp_aload_n (x := (E.2.2.2.1 28)) dX7_text_25 rfl ?_
      refine rp_getR (k := 1) (b := 30) sh28 rfl fdX7_13 dX7_text_26 ?_
      refine rp_iload_n (x := v2) dX7_text_29 rfl ?_
      refine rp_iconst dX7_text_30 ?_
      refine rp_iastore sh30 dX7_text_31 (fun σ13 => ?_)
      refine rp_iinc (x := v2) dX7_text_32 rfl (by decide) rfl ?_
      refine rp_goto (tgt := 19) dX7_text_35 (by decide) ?_
      refine rp_mask [true, true, true] (vs2 := [some (.ref (E.2.2.2.1 28)), some (.int v1), some (.int (v2 + (rI 1)))]) rfl rfl ?_
      exact ih σ13 v1 (v2 + (rI 1))
def fX7_text (σ : rp_S)  : Option (Int32 × rp_S) :=
  ((some (rp_up σ 28 6 (rI 0))).bind fun σ1 =>
    ((some (rp_up σ1 28 8 (rI 0))).bind fun σ2 =>
    ((some (rp_up σ2 28 2 (rI 0))).bind fun σ3 =>
    (fX7_text_19 1000 σ3 (rI 0) (rI 0)))))
set_option maxRecDepth 100000 in
theorem rX7_text {E : rp_E} (σ : rp_S)    : rp_R E (rp_mK E rmX7_text) mX7_text 0 [some (.ref (E.2.2.2.1 28)), none, none] [] σ rp_hI (fX7_text σ) := by
  rw [fX7_text]
  refine rp_aload_n (x := (E.2.2.2.1 28)) dX7_text_0 rfl ?_
  refine rp_iconst dX7_text_1 ?_
  refine rp_putB (k := 6) sh28 rfl fpX7_57 (vp_nar_int _) rfl dX7_text_2 (fun σ1 => ?_)
  refine rp_aload_n (x := (E.2.2.2.1 28)) dX7_text_5 rfl ?_
  refine rp_iconst dX7_text_6 ?_
  refine rp_putB (k := 8) sh28 rfl fpX7_69 (vp_nar_int _) rfl dX7_text_7 (fun σ2 => ?_)
  refine rp_aload_n (x := (E.2.2.2.1 28)) dX7_text_10 rfl ?_
  refine rp_iconst dX7_text_11 ?_
  refine rp_putB (k := 2) sh28 rfl fpX7_104 (vp_nar_int _) rfl dX7_text_12 (fun σ3 => ?_)
  refine rp_iconst dX7_text_15 ?_
  refine rp_istore_n dX7_text_16 (by decide) rfl ?_
  refine rp_iconst dX7_text_17 ?_
  refine rp_istore_n dX7_text_18 (by decide) rfl ?_
  refine rp_mask [true, true, true] (vs2 := [some (.ref (E.2.2.2.1 28)), some (.int (rI 0)), some (.int (rI 0))]) rfl rfl ?_
  exact rX7_text_19 1000 σ3 (rI 0) (rI 0)
