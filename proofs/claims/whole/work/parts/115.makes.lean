/-! the constructors -/
theorem obI : Cond.instanceMethod Lib.objectInit ∈ rp_TG := (tg1 (List.mem_of_getElem? (i := 22) (by decide +kernel)) rfl)
theorem obC : Cond.code Lib.objectInit ⟨#[0xb1]⟩ 1 none ∈ rp_TG := (tg1 (List.mem_of_getElem? (i := 23) rfl) rfl)
theorem arC0 : Cond.arrayClass (newarray.typeOf .int) ∈ rp_TG := (tg1 (List.mem_of_getElem? (i := 59) (by decide +kernel)) rfl)
theorem arC1 : Cond.arrayClass (newarray.typeOf .byte) ∈ rp_TG := (tg1 (List.mem_of_getElem? (i := 138) (by decide +kernel)) rfl)
theorem arC2 : Cond.arrayClass (newarray.typeOf .boolean) ∈ rp_TG := (tg4 (List.mem_of_getElem? (i := 173) (by decide +kernel)) rfl)
theorem nsX0 : Cond.instantiable RX0 2 ∈ rp_TG := (tg1 (List.mem_of_getElem? (i := 86) (by decide +kernel)) rfl)
theorem niX0 : Cond.initialized RX0 ∈ rp_TG := (tg1 (List.mem_of_getElem? (i := 4) (by decide +kernel)) rfl)
abbrev mX0_init : rp_MI := (yX0_init, cX0_init, 1, none)
theorem cbX0_init : rp_Cb mX0_init 0 := ⟨(tg1 (List.mem_of_getElem? (i := 4) (by decide +kernel)) rfl), (tg1 (List.mem_of_getElem? (i := 89) rfl) rfl), ⟨by decide, by decide, by decide +kernel⟩, by decide +kernel⟩
abbrev dfX0 : List Value := [.int 0, .int 0]
theorem dfX0_ok : ∀ j, j < 2 → defaultValue (tyX0 j) = vp_V dfX0 j := by
  intro j hj
  match j, hj with
  | 0, _ => rfl
  | 1, _ => rfl
  | k + 2, hk => exact absurd hk (by omega)
theorem nsX1 : Cond.instantiable RX1 6 ∈ rp_TG := (tg1 (List.mem_of_getElem? (i := 25) (by decide +kernel)) rfl)
theorem niX1 : Cond.initialized RX1 ∈ rp_TG := (tg1 (List.mem_of_getElem? (i := 2) (by decide +kernel)) rfl)
abbrev mX1_init : rp_MI := (yX1_init, cX1_init, 1, none)
theorem cbX1_init : rp_Cb mX1_init 0 := ⟨(tg1 (List.mem_of_getElem? (i := 2) (by decide +kernel)) rfl), (tg1 (List.mem_of_getElem? (i := 28) rfl) rfl), ⟨by decide, by decide, by decide +kernel⟩, by decide +kernel⟩
abbrev dfX1 : List Value := [.null, .null, .int 0, .int 0, .int 0, .int 0]
theorem dfX1_ok : ∀ j, j < 6 → defaultValue (tyX1 j) = vp_V dfX1 j := by
  intro j hj
  match j, hj with
  | 0, _ => rfl
  | 1, _ => rfl
  | 2, _ => rfl
  | 3, _ => rfl
  | 4, _ => rfl
  | 5, _ => rfl
  | k + 6, hk => exact absurd hk (by omega)
theorem nsX2 : Cond.instantiable RX2 4 ∈ rp_TG := (tg1 (List.mem_of_getElem? (i := 157) (by decide +kernel)) rfl)
theorem niX2 : Cond.initialized RX2 ∈ rp_TG := (tg1 (List.mem_of_getElem? (i := 7) (by decide +kernel)) rfl)
abbrev mX2_init : rp_MI := (yX2_init, cX2_init, 1, none)
theorem cbX2_init : rp_Cb mX2_init 0 := ⟨(tg1 (List.mem_of_getElem? (i := 7) (by decide +kernel)) rfl), (tg1 (List.mem_of_getElem? (i := 160) rfl) rfl), ⟨by decide, by decide, by decide +kernel⟩, by decide +kernel⟩
abbrev dfX2 : List Value := [.null, .null, .null, .int 0]
theorem dfX2_ok : ∀ j, j < 4 → defaultValue (tyX2 j) = vp_V dfX2 j := by
  intro j hj
  match j, hj with
  | 0, _ => rfl
  | 1, _ => rfl
  | 2, _ => rfl
  | 3, _ => rfl
  | k + 4, hk => exact absurd hk (by omega)
theorem nsX3 : Cond.instantiable RX3 5 ∈ rp_TG := (tg1 (List.mem_of_getElem? (i := 61) (by decide +kernel)) rfl)
theorem niX3 : Cond.initialized RX3 ∈ rp_TG := (tg1 (List.mem_of_getElem? (i := 3) (by decide +kernel)) rfl)
abbrev mX3_init : rp_MI := (yX3_init, cX3_init, 1, none)
theorem cbX3_init : rp_Cb mX3_init 0 := ⟨(tg1 (List.mem_of_getElem? (i := 3) (by decide +kernel)) rfl), (tg1 (List.mem_of_getElem? (i := 64) rfl) rfl), ⟨by decide, by decide, by decide +kernel⟩, by decide +kernel⟩
abbrev dfX3 : List Value := [.null, .null, .null, .null, .null]
theorem dfX3_ok : ∀ j, j < 5 → defaultValue (tyX3 j) = vp_V dfX3 j := by
  intro j hj
  match j, hj with
  | 0, _ => rfl
  | 1, _ => rfl
  | 2, _ => rfl
  | 3, _ => rfl
  | 4, _ => rfl
  | k + 5, hk => exact absurd hk (by omega)
theorem nsX4 : Cond.instantiable RX4 3 ∈ rp_TG := (tg1 (List.mem_of_getElem? (i := 140) (by decide +kernel)) rfl)
theorem niX4 : Cond.initialized RX4 ∈ rp_TG := (tg1 (List.mem_of_getElem? (i := 6) (by decide +kernel)) rfl)
abbrev mX4_init : rp_MI := (yX4_init, cX4_init, 1, none)
theorem cbX4_init : rp_Cb mX4_init 0 := ⟨(tg1 (List.mem_of_getElem? (i := 6) (by decide +kernel)) rfl), (tg1 (List.mem_of_getElem? (i := 143) rfl) rfl), ⟨by decide, by decide, by decide +kernel⟩, by decide +kernel⟩
abbrev dfX4 : List Value := [.null, .null, .int 0]
theorem dfX4_ok : ∀ j, j < 3 → defaultValue (tyX4 j) = vp_V dfX4 j := by
  intro j hj
  match j, hj with
  | 0, _ => rfl
  | 1, _ => rfl
  | 2, _ => rfl
  | k + 3, hk => exact absurd hk (by omega)
theorem nsX5 : Cond.instantiable RX5 9 ∈ rp_TG := (tg1 (List.mem_of_getElem? (i := 101) (by decide +kernel)) rfl)
theorem niX5 : Cond.initialized RX5 ∈ rp_TG := (tg1 (List.mem_of_getElem? (i := 5) (by decide +kernel)) rfl)
abbrev mX5_init : rp_MI := (yX5_init, cX5_init, 1, none)
theorem cbX5_init : rp_Cb mX5_init 0 := ⟨(tg1 (List.mem_of_getElem? (i := 5) (by decide +kernel)) rfl), (tg1 (List.mem_of_getElem? (i := 104) rfl) rfl), ⟨by decide, by decide, by decide +kernel⟩, by decide +kernel⟩
abbrev dfX5 : List Value := [.null, .int 0, .int 0, .int 0, .int 0, .int 0, .int 0, .int 0, .int 0]
theorem dfX5_ok : ∀ j, j < 9 → defaultValue (tyX5 j) = vp_V dfX5 j := by
  intro j hj
  match j, hj with
  | 0, _ => rfl
  | 1, _ => rfl
  | 2, _ => rfl
  | 3, _ => rfl
  | 4, _ => rfl
  | 5, _ => rfl
  | 6, _ => rfl
  | 7, _ => rfl
  | 8, _ => rfl
  | k + 9, hk => exact absurd hk (by omega)
theorem nsX6 : Cond.instantiable RX6 10 ∈ rp_TG := (tg1 (List.mem_of_getElem? (i := 17) (by decide +kernel)) rfl)
theorem niX6 : Cond.initialized RX6 ∈ rp_TG := (tg1 (List.mem_of_getElem? (i := 1) (by decide +kernel)) rfl)
abbrev mX6_init : rp_MI := (yX6_init, cX6_init, 1, none)
theorem cbX6_init : rp_Cb mX6_init 0 := ⟨(tg1 (List.mem_of_getElem? (i := 1) (by decide +kernel)) rfl), (tg1 (List.mem_of_getElem? (i := 20) rfl) rfl), ⟨by decide, by decide, by decide +kernel⟩, by decide +kernel⟩
abbrev dfX6 : List Value := [.null, .null, .null, .null, .null, .null, .null, .null, .int 0, .int 0]
theorem dfX6_ok : ∀ j, j < 10 → defaultValue (tyX6 j) = vp_V dfX6 j := by
  intro j hj
  match j, hj with
  | 0, _ => rfl
  | 1, _ => rfl
  | 2, _ => rfl
  | 3, _ => rfl
  | 4, _ => rfl
  | 5, _ => rfl
  | 6, _ => rfl
  | 7, _ => rfl
  | 8, _ => rfl
  | 9, _ => rfl
  | k + 10, hk => exact absurd hk (by omega)
theorem nsX7 : Cond.instantiable RX7 27 ∈ rp_TG := (tg4 (List.mem_of_getElem? (i := 86) (by decide +kernel)) rfl)
theorem niX7 : Cond.initialized RX7 ∈ rp_TG := (tg1 (List.mem_of_getElem? (i := 8) (by decide +kernel)) rfl)
abbrev mX7_init : rp_MI := (yX7_init, cX7_init, 1, none)
theorem cbX7_init : rp_Cb mX7_init 0 := ⟨(tg1 (List.mem_of_getElem? (i := 8) (by decide +kernel)) rfl), (tg4 (List.mem_of_getElem? (i := 89) rfl) rfl), ⟨by decide, by decide, by decide +kernel⟩, by decide +kernel⟩
abbrev dfX7 : List Value := [.null, .null, .int 0, .null, .int 0, .int 0, .int 0, .int 0, .int 0, .int 0, .int 0, .int 0, .null, .null, .int 0, .null, .int 0, .int 0, .int 0, .null, .int 0, .null, .null, .null, .null, .null, .int 0]
theorem dfX7_ok : ∀ j, j < 27 → defaultValue (tyX7 j) = vp_V dfX7 j := by
  intro j hj
  match j, hj with
  | 0, _ => rfl
  | 1, _ => rfl
  | 2, _ => rfl
  | 3, _ => rfl
  | 4, _ => rfl
  | 5, _ => rfl
  | 6, _ => rfl
  | 7, _ => rfl
  | 8, _ => rfl
  | 9, _ => rfl
  | 10, _ => rfl
  | 11, _ => rfl
  | 12, _ => rfl
  | 13, _ => rfl
  | 14, _ => rfl
  | 15, _ => rfl
  | 16, _ => rfl
  | 17, _ => rfl
  | 18, _ => rfl
  | 19, _ => rfl
  | 20, _ => rfl
  | 21, _ => rfl
  | 22, _ => rfl
  | 23, _ => rfl
  | 24, _ => rfl
  | 25, _ => rfl
  | 26, _ => rfl
  | k + 27, hk => exact absurd hk (by omega)
theorem obX0_3 : Cond.methodLink RX0 3 Lib.objectInit ∈ rp_TG := (tg1 (List.mem_of_getElem? (i := 90) (by decide +kernel)) rfl)
theorem fiX0_9 : rp_Fp RX0 9 0 0 .int := ⟨⟨(RX0, TX0, 2), rfl, cf0, by decide, Or.inl (tg1 (List.mem_of_getElem? (i := 91) (by decide +kernel)) rfl)⟩, (RX0, TX0, 2), rfl, rfl, by decide +kernel⟩
def poX0 (E : rp_E) (h0 : Nat) (l : va_W) : Prop := l = [(h0, .inr (0, [.int (Int32.ofInt (-4)), .int 0]))]
abbrev riX0 : Room := { frames := 1, cells := 0, slots := 0, locals := 12 }
set_option maxRecDepth 100000 in
theorem mkX0 {E : rp_E} : rc_C E mX0_init riX0 0 0 (.inr (0, dfX0)) (poX0 E) := by
  refine rc_met (by decide +kernel) rfl rfl (fun pre h0 => ?_)
  refine rc_aload_n (x := h0) dX0_init_0 rfl ?_
  refine rc_obj obX0_3 obI obC dX0_init_1 (Nat.le_of_ble_eq_true rfl) (Nat.le_of_ble_eq_true rfl) ?_
  refine rc_aload_n (x := h0) dX0_init_4 rfl ?_
  refine rc_bipush dX0_init_5 (by decide) ?_
  refine rc_putI (i := 0) (k := 0) rfl fiX0_9 rfl rfl (Nat.le_of_ble_eq_true rfl) dX0_init_7 ?_
  exact rc_ret rfl rfl dX0_init_10
theorem obX1_3 : Cond.methodLink RX1 3 Lib.objectInit ∈ rp_TG := (tg1 (List.mem_of_getElem? (i := 29) (by decide +kernel)) rfl)
theorem ffX1_9 : rc_Ff RX1 9 1 0 (.array .int) := ⟨(RX1, TX1, 6), rfl, cf1, by decide, (tg1 (List.mem_of_getElem? (i := 30) (by decide +kernel)) rfl), rfl, rfl, by decide +kernel⟩
theorem ffX1_15 : rc_Ff RX1 15 1 1 (.array .int) := ⟨(RX1, TX1, 6), rfl, cf1, by decide, (tg1 (List.mem_of_getElem? (i := 31) (by decide +kernel)) rfl), rfl, rfl, by decide +kernel⟩
theorem fiX1_18 : rp_Fp RX1 18 1 4 .int := ⟨⟨(RX1, TX1, 6), rfl, cf1, by decide, Or.inl (tg1 (List.mem_of_getElem? (i := 40) (by decide +kernel)) rfl)⟩, (RX1, TX1, 6), rfl, rfl, by decide +kernel⟩
def poX1 (E : rp_E) (h0 : Nat) (l : va_W) : Prop := ∃ q1 q2 : Nat, l = [(h0, .inr (1, [.ref q1, .ref q2, .int 0, .int 0, .int (Int32.ofInt 4), .int 0])), (q1, .inl (E.2.2.2.2.1 0, 24, .inl (fun _ => 0))), (q2, .inl (E.2.2.2.2.1 0, 8, .inl (fun _ => 0)))]
abbrev riX1 : Room := { frames := 1, cells := 2, slots := 32, locals := 12 }
set_option maxRecDepth 100000 in
theorem mkX1 {E : rp_E} : rc_C E mX1_init riX1 2 32 (.inr (1, dfX1)) (poX1 E) := by
  refine rc_met (by decide +kernel) rfl rfl (fun pre h0 => ?_)
  refine rc_aload_n (x := h0) dX1_init_0 rfl ?_
  refine rc_obj obX1_3 obI obC dX1_init_1 (Nat.le_of_ble_eq_true rfl) (Nat.le_of_ble_eq_true rfl) ?_
  refine rc_aload_n (x := h0) dX1_init_4 rfl ?_
  refine rc_bipush dX1_init_5 (by decide) ?_
  refine rc_newa (n := 24) (t := 0) rfl (by decide) rfl arC0 (by decide) rfl (Nat.le_of_ble_eq_true rfl) (Nat.le_of_ble_eq_true rfl) (Nat.le_of_ble_eq_true rfl) dX1_init_7 (fun q1 => ?_)
  refine rc_putF (i := 0) (k := 0) rfl ffX1_9 rfl rfl (Nat.le_of_ble_eq_true rfl) (fun _ _ _ z => z) dX1_init_9 ?_
  refine rc_aload_n (x := h0) dX1_init_12 rfl ?_
  refine rc_bipush dX1_init_13 (by decide) ?_
  refine rc_newa (n := 8) (t := 0) rfl (by decide) rfl arC0 (by decide) rfl (Nat.le_of_ble_eq_true rfl) (Nat.le_of_ble_eq_true rfl) (Nat.le_of_ble_eq_true rfl) dX1_init_15 (fun q2 => ?_)
  refine rc_putF (i := 0) (k := 1) rfl ffX1_15 rfl rfl (Nat.le_of_ble_eq_true rfl) (fun _ _ _ z => z) dX1_init_17 ?_
  refine rc_aload_n (x := h0) dX1_init_20 rfl ?_
  refine rc_iconst dX1_init_21 ?_
  refine rc_putI (i := 0) (k := 4) rfl fiX1_18 rfl rfl (Nat.le_of_ble_eq_true rfl) dX1_init_22 ?_
  exact rc_ret ⟨q1, q2, rfl⟩ rfl dX1_init_25
theorem obX2_3 : Cond.methodLink RX2 3 Lib.objectInit ∈ rp_TG := (tg1 (List.mem_of_getElem? (i := 161) (by decide +kernel)) rfl)
theorem ffX2_9 : rc_Ff RX2 9 2 0 (.array .int) := ⟨(RX2, TX2, 4), rfl, cf2, by decide, (tg1 (List.mem_of_getElem? (i := 162) (by decide +kernel)) rfl), rfl, rfl, by decide +kernel⟩
theorem ffX2_15 : rc_Ff RX2 15 2 1 (.array .int) := ⟨(RX2, TX2, 4), rfl, cf2, by decide, (tg1 (List.mem_of_getElem? (i := 163) (by decide +kernel)) rfl), rfl, rfl, by decide +kernel⟩
theorem ffX2_18 : rc_Ff RX2 18 2 2 (.array .int) := ⟨(RX2, TX2, 4), rfl, cf2, by decide, (tg1 (List.mem_of_getElem? (i := 164) (by decide +kernel)) rfl), rfl, rfl, by decide +kernel⟩
def poX2 (E : rp_E) (h0 : Nat) (l : va_W) : Prop := ∃ q1 q2 q3 : Nat, l = [(h0, .inr (2, [.ref q1, .ref q2, .ref q3, .int 0])), (q1, .inl (E.2.2.2.2.1 0, 160, .inl (fun _ => 0))), (q2, .inl (E.2.2.2.2.1 0, 4, .inl (fun _ => 0))), (q3, .inl (E.2.2.2.2.1 0, 4, .inl (fun _ => 0)))]
abbrev riX2 : Room := { frames := 1, cells := 3, slots := 168, locals := 12 }
set_option maxRecDepth 100000 in
theorem mkX2 {E : rp_E} : rc_C E mX2_init riX2 3 168 (.inr (2, dfX2)) (poX2 E) := by
  refine rc_met (by decide +kernel) rfl rfl (fun pre h0 => ?_)
  refine rc_aload_n (x := h0) dX2_init_0 rfl ?_
  refine rc_obj obX2_3 obI obC dX2_init_1 (Nat.le_of_ble_eq_true rfl) (Nat.le_of_ble_eq_true rfl) ?_
  refine rc_aload_n (x := h0) dX2_init_4 rfl ?_
  refine rc_sipush dX2_init_5 (by decide) ?_
  refine rc_newa (n := 160) (t := 0) rfl (by decide) rfl arC0 (by decide) rfl (Nat.le_of_ble_eq_true rfl) (Nat.le_of_ble_eq_true rfl) (Nat.le_of_ble_eq_true rfl) dX2_init_8 (fun q1 => ?_)
  refine rc_putF (i := 0) (k := 0) rfl ffX2_9 rfl rfl (Nat.le_of_ble_eq_true rfl) (fun _ _ _ z => z) dX2_init_10 ?_
  refine rc_aload_n (x := h0) dX2_init_13 rfl ?_
  refine rc_iconst dX2_init_14 ?_
  refine rc_newa (n := 4) (t := 0) rfl (by decide) rfl arC0 (by decide) rfl (Nat.le_of_ble_eq_true rfl) (Nat.le_of_ble_eq_true rfl) (Nat.le_of_ble_eq_true rfl) dX2_init_15 (fun q2 => ?_)
  refine rc_putF (i := 0) (k := 1) rfl ffX2_15 rfl rfl (Nat.le_of_ble_eq_true rfl) (fun _ _ _ z => z) dX2_init_17 ?_
  refine rc_aload_n (x := h0) dX2_init_20 rfl ?_
  refine rc_iconst dX2_init_21 ?_
  refine rc_newa (n := 4) (t := 0) rfl (by decide) rfl arC0 (by decide) rfl (Nat.le_of_ble_eq_true rfl) (Nat.le_of_ble_eq_true rfl) (Nat.le_of_ble_eq_true rfl) dX2_init_22 (fun q3 => ?_)
  refine rc_putF (i := 0) (k := 2) rfl ffX2_18 rfl rfl (Nat.le_of_ble_eq_true rfl) (fun _ _ _ z => z) dX2_init_24 ?_
  exact rc_ret ⟨q1, q2, q3, rfl⟩ rfl dX2_init_27
theorem obX4_3 : Cond.methodLink RX4 3 Lib.objectInit ∈ rp_TG := (tg1 (List.mem_of_getElem? (i := 144) (by decide +kernel)) rfl)
theorem ffX4_9 : rc_Ff RX4 9 4 0 (.array .int) := ⟨(RX4, TX4, 3), rfl, cf4, by decide, (tg1 (List.mem_of_getElem? (i := 145) (by decide +kernel)) rfl), rfl, rfl, by decide +kernel⟩
theorem ffX4_15 : rc_Ff RX4 15 4 1 (.array .int) := ⟨(RX4, TX4, 3), rfl, cf4, by decide, (tg1 (List.mem_of_getElem? (i := 146) (by decide +kernel)) rfl), rfl, rfl, by decide +kernel⟩
def poX4 (E : rp_E) (h0 : Nat) (l : va_W) : Prop := ∃ q1 q2 : Nat, l = [(h0, .inr (4, [.ref q1, .ref q2, .int 0])), (q1, .inl (E.2.2.2.2.1 0, 6, .inl (fun _ => 0))), (q2, .inl (E.2.2.2.2.1 0, 6, .inl (fun _ => 0)))]
abbrev riX4 : Room := { frames := 1, cells := 2, slots := 12, locals := 12 }
set_option maxRecDepth 100000 in
theorem mkX4 {E : rp_E} : rc_C E mX4_init riX4 2 12 (.inr (4, dfX4)) (poX4 E) := by
  refine rc_met (by decide +kernel) rfl rfl (fun pre h0 => ?_)
  refine rc_aload_n (x := h0) dX4_init_0 rfl ?_
  refine rc_obj obX4_3 obI obC dX4_init_1 (Nat.le_of_ble_eq_true rfl) (Nat.le_of_ble_eq_true rfl) ?_
  refine rc_aload_n (x := h0) dX4_init_4 rfl ?_
  refine rc_bipush dX4_init_5 (by decide) ?_
  refine rc_newa (n := 6) (t := 0) rfl (by decide) rfl arC0 (by decide) rfl (Nat.le_of_ble_eq_true rfl) (Nat.le_of_ble_eq_true rfl) (Nat.le_of_ble_eq_true rfl) dX4_init_7 (fun q1 => ?_)
  refine rc_putF (i := 0) (k := 0) rfl ffX4_9 rfl rfl (Nat.le_of_ble_eq_true rfl) (fun _ _ _ z => z) dX4_init_9 ?_
  refine rc_aload_n (x := h0) dX4_init_12 rfl ?_
  refine rc_bipush dX4_init_13 (by decide) ?_
  refine rc_newa (n := 6) (t := 0) rfl (by decide) rfl arC0 (by decide) rfl (Nat.le_of_ble_eq_true rfl) (Nat.le_of_ble_eq_true rfl) (Nat.le_of_ble_eq_true rfl) dX4_init_15 (fun q2 => ?_)
  refine rc_putF (i := 0) (k := 1) rfl ffX4_15 rfl rfl (Nat.le_of_ble_eq_true rfl) (fun _ _ _ z => z) dX4_init_17 ?_
  exact rc_ret ⟨q1, q2, rfl⟩ rfl dX4_init_20
theorem obX5_3 : Cond.methodLink RX5 3 Lib.objectInit ∈ rp_TG := (tg1 (List.mem_of_getElem? (i := 105) (by decide +kernel)) rfl)
theorem ffX5_9 : rc_Ff RX5 9 5 0 (.array .byte) := ⟨(RX5, TX5, 9), rfl, cf5, by decide, (tg1 (List.mem_of_getElem? (i := 106) (by decide +kernel)) rfl), rfl, rfl, by decide +kernel⟩
def poX5 (E : rp_E) (h0 : Nat) (l : va_W) : Prop := ∃ q1 : Nat, l = [(h0, .inr (5, [.ref q1, .int 0, .int 0, .int 0, .int 0, .int 0, .int 0, .int 0, .int 0])), (q1, .inl (E.2.2.2.2.1 1, 160, .inl (fun _ => 0)))]
abbrev riX5 : Room := { frames := 1, cells := 1, slots := 160, locals := 12 }
set_option maxRecDepth 100000 in
theorem mkX5 {E : rp_E} : rc_C E mX5_init riX5 1 160 (.inr (5, dfX5)) (poX5 E) := by
  refine rc_met (by decide +kernel) rfl rfl (fun pre h0 => ?_)
  refine rc_aload_n (x := h0) dX5_init_0 rfl ?_
  refine rc_obj obX5_3 obI obC dX5_init_1 (Nat.le_of_ble_eq_true rfl) (Nat.le_of_ble_eq_true rfl) ?_
  refine rc_aload_n (x := h0) dX5_init_4 rfl ?_
  refine rc_sipush dX5_init_5 (by decide) ?_
  refine rc_newa (n := 160) (t := 1) rfl (by decide) rfl arC1 (by decide) rfl (Nat.le_of_ble_eq_true rfl) (Nat.le_of_ble_eq_true rfl) (Nat.le_of_ble_eq_true rfl) dX5_init_8 (fun q1 => ?_)
  refine rc_putF (i := 0) (k := 0) rfl ffX5_9 rfl rfl (Nat.le_of_ble_eq_true rfl) (fun _ _ _ z => z) dX5_init_10 ?_
  exact rc_ret ⟨q1, rfl⟩ rfl dX5_init_13
theorem obX3_3 : Cond.methodLink RX3 3 Lib.objectInit ∈ rp_TG := (tg1 (List.mem_of_getElem? (i := 65) (by decide +kernel)) rfl)
theorem clX3_9n : Cond.classLink RX3 9 RX1 ∈ rp_TG := (tg1 (List.mem_of_getElem? (i := 66) (by decide +kernel)) rfl)
theorem liX3_11 : rc_Lk RX3 11 mX1_init := ⟨Or.inr ⟨"RocketPrint", (nw1 (List.mem_of_getElem? (i := 67) (by decide +kernel)) rfl)⟩, (tg1 (List.mem_of_getElem? (i := 27) (by decide +kernel)) rfl)⟩
theorem ffX3_12 : rc_Ff RX3 12 3 0 (.object "RocketPrint$Night") := ⟨(RX3, TX3, 5), rfl, cf3, by decide, (tg1 (List.mem_of_getElem? (i := 68) (by decide +kernel)) rfl), rfl, rfl, by decide +kernel⟩
theorem ffX3_18 : rc_Ff RX3 18 3 1 (.array .int) := ⟨(RX3, TX3, 5), rfl, cf3, by decide, (tg1 (List.mem_of_getElem? (i := 70) (by decide +kernel)) rfl), rfl, rfl, by decide +kernel⟩
theorem ffX3_22 : rc_Ff RX3 22 3 2 (.array .int) := ⟨(RX3, TX3, 5), rfl, cf3, by decide, (tg1 (List.mem_of_getElem? (i := 71) (by decide +kernel)) rfl), rfl, rfl, by decide +kernel⟩
theorem ffX3_25 : rc_Ff RX3 25 3 3 (.array .int) := ⟨(RX3, TX3, 5), rfl, cf3, by decide, (tg1 (List.mem_of_getElem? (i := 72) (by decide +kernel)) rfl), rfl, rfl, by decide +kernel⟩
theorem ffX3_28 : rc_Ff RX3 28 3 4 (.array .int) := ⟨(RX3, TX3, 5), rfl, cf3, by decide, (tg1 (List.mem_of_getElem? (i := 73) (by decide +kernel)) rfl), rfl, rfl, by decide +kernel⟩
def poX3 (E : rp_E) (h0 : Nat) (l : va_W) : Prop := ∃ q1 q2 q3 q4 q5 q6 q7 : Nat, l = [(h0, .inr (3, [.ref q1, .ref q4, .ref q5, .ref q6, .ref q7])), (q1, .inr (1, [.ref q2, .ref q3, .int 0, .int 0, .int (Int32.ofInt 4), .int 0])), (q2, .inl (E.2.2.2.2.1 0, 24, .inl (fun _ => 0))), (q3, .inl (E.2.2.2.2.1 0, 8, .inl (fun _ => 0))), (q4, .inl (E.2.2.2.2.1 0, 6, .inl (fun _ => 0))), (q5, .inl (E.2.2.2.2.1 0, 6, .inl (fun _ => 0))), (q6, .inl (E.2.2.2.2.1 0, 6, .inl (fun _ => 0))), (q7, .inl (E.2.2.2.2.1 0, 6, .inl (fun _ => 0)))]
abbrev riX3 : Room := { frames := 2, cells := 7, slots := 62, locals := 32 }
set_option maxRecDepth 100000 in
theorem mkX3 {E : rp_E} : rc_C E mX3_init riX3 7 62 (.inr (3, dfX3)) (poX3 E) := by
  refine rc_met (by decide +kernel) rfl rfl (fun pre h0 => ?_)
  refine rc_aload_n (x := h0) dX3_init_0 rfl ?_
  refine rc_obj obX3_3 obI obC dX3_init_1 (Nat.le_of_ble_eq_true rfl) (Nat.le_of_ble_eq_true rfl) ?_
  refine rc_aload_n (x := h0) dX3_init_4 rfl ?_
  refine rc_new (ci := 1) (q := (RX1, TX1, 6)) (fs := dfX1) tyX1 rfl inw1 tyX1_ok clX3_9n nsX1 niX1 dfX1_ok (Nat.le_of_ble_eq_true rfl) (Nat.le_of_ble_eq_true rfl) dX3_init_5 (fun q1 => ?_)
  refine rc_dup dX3_init_8 rfl ?_
  refine rc_callI (l0 := [(h0, .inr (3, [.null, .null, .null, .null, .null]))]) (h0 := q1) mkX1 rfl cbX1_init liX3_11 rfl rfl ⟨rfl, rfl, Nat.le_of_ble_eq_true rfl, Nat.le_of_ble_eq_true rfl⟩ ⟨Nat.le_of_ble_eq_true rfl, Nat.le_of_ble_eq_true rfl⟩ (Nat.le_of_ble_eq_true rfl) dX3_init_9 (fun l1 hl1 => ?_)
  obtain ⟨q2, q3, rfl⟩ := hl1
  refine rc_putF (i := 0) (k := 0) rfl ffX3_12 rfl rfl (Nat.le_of_ble_eq_true rfl) (fun _ _ _ z => z) dX3_init_12 ?_
  refine rc_aload_n (x := h0) dX3_init_15 rfl ?_
  refine rc_bipush dX3_init_16 (by decide) ?_
  refine rc_newa (n := 6) (t := 0) rfl (by decide) rfl arC0 (by decide) rfl (Nat.le_of_ble_eq_true rfl) (Nat.le_of_ble_eq_true rfl) (Nat.le_of_ble_eq_true rfl) dX3_init_18 (fun q4 => ?_)
  refine rc_putF (i := 0) (k := 1) rfl ffX3_18 rfl rfl (Nat.le_of_ble_eq_true rfl) (fun _ _ _ z => z) dX3_init_20 ?_
  refine rc_aload_n (x := h0) dX3_init_23 rfl ?_
  refine rc_bipush dX3_init_24 (by decide) ?_
  refine rc_newa (n := 6) (t := 0) rfl (by decide) rfl arC0 (by decide) rfl (Nat.le_of_ble_eq_true rfl) (Nat.le_of_ble_eq_true rfl) (Nat.le_of_ble_eq_true rfl) dX3_init_26 (fun q5 => ?_)
  refine rc_putF (i := 0) (k := 2) rfl ffX3_22 rfl rfl (Nat.le_of_ble_eq_true rfl) (fun _ _ _ z => z) dX3_init_28 ?_
  refine rc_aload_n (x := h0) dX3_init_31 rfl ?_
  refine rc_bipush dX3_init_32 (by decide) ?_
  refine rc_newa (n := 6) (t := 0) rfl (by decide) rfl arC0 (by decide) rfl (Nat.le_of_ble_eq_true rfl) (Nat.le_of_ble_eq_true rfl) (Nat.le_of_ble_eq_true rfl) dX3_init_34 (fun q6 => ?_)
  refine rc_putF (i := 0) (k := 3) rfl ffX3_25 rfl rfl (Nat.le_of_ble_eq_true rfl) (fun _ _ _ z => z) dX3_init_36 ?_
  refine rc_aload_n (x := h0) dX3_init_39 rfl ?_
  refine rc_bipush dX3_init_40 (by decide) ?_
  refine rc_newa (n := 6) (t := 0) rfl (by decide) rfl arC0 (by decide) rfl (Nat.le_of_ble_eq_true rfl) (Nat.le_of_ble_eq_true rfl) (Nat.le_of_ble_eq_true rfl) dX3_init_42 (fun q7 => ?_)
  refine rc_putF (i := 0) (k := 4) rfl ffX3_28 rfl rfl (Nat.le_of_ble_eq_true rfl) (fun _ _ _ z => z) dX3_init_44 ?_
  exact rc_ret ⟨q1, q2, q3, q4, q5, q6, q7, rfl⟩ rfl dX3_init_47
theorem obX6_1 : Cond.methodLink RX6 1 Lib.objectInit ∈ rp_TG := (tg1 (List.mem_of_getElem? (i := 21) (by decide +kernel)) rfl)
theorem clX6_7n : Cond.classLink RX6 7 RX1 ∈ rp_TG := (tg1 (List.mem_of_getElem? (i := 24) (by decide +kernel)) rfl)
theorem liX6_9 : rc_Lk RX6 9 mX1_init := ⟨Or.inr ⟨"RocketPrint", (nw1 (List.mem_of_getElem? (i := 26) (by decide +kernel)) rfl)⟩, (tg1 (List.mem_of_getElem? (i := 27) (by decide +kernel)) rfl)⟩
theorem ffX6_10 : rc_Ff RX6 10 6 0 (.object "RocketPrint$Night") := ⟨(RX6, TX6, 10), rfl, cf6, by decide, (tg1 (List.mem_of_getElem? (i := 175) (by decide +kernel)) rfl), rfl, rfl, by decide +kernel⟩
theorem clX6_16n : Cond.classLink RX6 16 RX3 ∈ rp_TG := (tg1 (List.mem_of_getElem? (i := 60) (by decide +kernel)) rfl)
theorem liX6_18 : rc_Lk RX6 18 mX3_init := ⟨Or.inr ⟨"RocketPrint", (nw1 (List.mem_of_getElem? (i := 62) (by decide +kernel)) rfl)⟩, (tg1 (List.mem_of_getElem? (i := 63) (by decide +kernel)) rfl)⟩
theorem ffX6_19 : rc_Ff RX6 19 6 1 (.object "RocketPrint$Show") := ⟨(RX6, TX6, 10), rfl, cf6, by decide, (tg1 (List.mem_of_getElem? (i := 176) (by decide +kernel)) rfl), rfl, rfl, by decide +kernel⟩
theorem clX6_23n : Cond.classLink RX6 23 RX0 ∈ rp_TG := (tg1 (List.mem_of_getElem? (i := 85) (by decide +kernel)) rfl)
theorem liX6_25 : rc_Lk RX6 25 mX0_init := ⟨Or.inr ⟨"RocketPrint", (nw1 (List.mem_of_getElem? (i := 87) (by decide +kernel)) rfl)⟩, (tg1 (List.mem_of_getElem? (i := 88) (by decide +kernel)) rfl)⟩
theorem ffX6_26 : rc_Ff RX6 26 6 2 (.object "RocketPrint$Best") := ⟨(RX6, TX6, 10), rfl, cf6, by decide, (tg1 (List.mem_of_getElem? (i := 177) (by decide +kernel)) rfl), rfl, rfl, by decide +kernel⟩
theorem clX6_30n : Cond.classLink RX6 30 RX5 ∈ rp_TG := (tg1 (List.mem_of_getElem? (i := 100) (by decide +kernel)) rfl)
theorem liX6_32 : rc_Lk RX6 32 mX5_init := ⟨Or.inr ⟨"RocketPrint", (nw1 (List.mem_of_getElem? (i := 102) (by decide +kernel)) rfl)⟩, (tg1 (List.mem_of_getElem? (i := 103) (by decide +kernel)) rfl)⟩
theorem ffX6_33 : rc_Ff RX6 33 6 3 (.object "RocketPrint$Tape") := ⟨(RX6, TX6, 10), rfl, cf6, by decide, (tg1 (List.mem_of_getElem? (i := 178) (by decide +kernel)) rfl), rfl, rfl, by decide +kernel⟩
theorem clX6_37n : Cond.classLink RX6 37 RX4 ∈ rp_TG := (tg1 (List.mem_of_getElem? (i := 139) (by decide +kernel)) rfl)
theorem liX6_39 : rc_Lk RX6 39 mX4_init := ⟨Or.inr ⟨"RocketPrint", (nw1 (List.mem_of_getElem? (i := 141) (by decide +kernel)) rfl)⟩, (tg1 (List.mem_of_getElem? (i := 142) (by decide +kernel)) rfl)⟩
theorem ffX6_40 : rc_Ff RX6 40 6 4 (.object "RocketPrint$Sticks") := ⟨(RX6, TX6, 10), rfl, cf6, by decide, (tg1 (List.mem_of_getElem? (i := 179) (by decide +kernel)) rfl), rfl, rfl, by decide +kernel⟩
theorem clX6_44n : Cond.classLink RX6 44 RX2 ∈ rp_TG := (tg1 (List.mem_of_getElem? (i := 156) (by decide +kernel)) rfl)
theorem liX6_46 : rc_Lk RX6 46 mX2_init := ⟨Or.inr ⟨"RocketPrint", (nw1 (List.mem_of_getElem? (i := 158) (by decide +kernel)) rfl)⟩, (tg1 (List.mem_of_getElem? (i := 159) (by decide +kernel)) rfl)⟩
theorem ffX6_47 : rc_Ff RX6 47 6 5 (.object "RocketPrint$Sheets") := ⟨(RX6, TX6, 10), rfl, cf6, by decide, (tg1 (List.mem_of_getElem? (i := 180) (by decide +kernel)) rfl), rfl, rfl, by decide +kernel⟩
theorem ffX6_51 : rc_Ff RX6 51 6 6 (.object "RocketPrint$Night") := ⟨(RX6, TX6, 10), rfl, cf6, by decide, (tg1 (List.mem_of_getElem? (i := 181) (by decide +kernel)) rfl), rfl, rfl, by decide +kernel⟩
theorem ffX6_54 : rc_Ff RX6 54 6 7 (.object "RocketPrint$Night") := ⟨(RX6, TX6, 10), rfl, cf6, by decide, (tg1 (List.mem_of_getElem? (i := 182) (by decide +kernel)) rfl), rfl, rfl, by decide +kernel⟩
def poX6 (E : rp_E) (h0 : Nat) (l : va_W) : Prop := ∃ q1 q2 q3 q4 q5 q6 q7 q8 q9 q10 q11 q12 q13 q14 q15 q16 q17 q18 q19 q20 q21 q22 q23 q24 q25 q26 q27 : Nat, l = [(h0, .inr (6, [.ref q1, .ref q4, .ref q12, .ref q13, .ref q15, .ref q18, .ref q22, .ref q25, .int 0, .int 0])), (q1, .inr (1, [.ref q2, .ref q3, .int 0, .int 0, .int (Int32.ofInt 4), .int 0])), (q2, .inl (E.2.2.2.2.1 0, 24, .inl (fun _ => 0))), (q3, .inl (E.2.2.2.2.1 0, 8, .inl (fun _ => 0))), (q4, .inr (3, [.ref q5, .ref q8, .ref q9, .ref q10, .ref q11])), (q5, .inr (1, [.ref q6, .ref q7, .int 0, .int 0, .int (Int32.ofInt 4), .int 0])), (q6, .inl (E.2.2.2.2.1 0, 24, .inl (fun _ => 0))), (q7, .inl (E.2.2.2.2.1 0, 8, .inl (fun _ => 0))), (q8, .inl (E.2.2.2.2.1 0, 6, .inl (fun _ => 0))), (q9, .inl (E.2.2.2.2.1 0, 6, .inl (fun _ => 0))), (q10, .inl (E.2.2.2.2.1 0, 6, .inl (fun _ => 0))), (q11, .inl (E.2.2.2.2.1 0, 6, .inl (fun _ => 0))), (q12, .inr (0, [.int (Int32.ofInt (-4)), .int 0])), (q13, .inr (5, [.ref q14, .int 0, .int 0, .int 0, .int 0, .int 0, .int 0, .int 0, .int 0])), (q14, .inl (E.2.2.2.2.1 1, 160, .inl (fun _ => 0))), (q15, .inr (4, [.ref q16, .ref q17, .int 0])), (q16, .inl (E.2.2.2.2.1 0, 6, .inl (fun _ => 0))), (q17, .inl (E.2.2.2.2.1 0, 6, .inl (fun _ => 0))), (q18, .inr (2, [.ref q19, .ref q20, .ref q21, .int 0])), (q19, .inl (E.2.2.2.2.1 0, 160, .inl (fun _ => 0))), (q20, .inl (E.2.2.2.2.1 0, 4, .inl (fun _ => 0))), (q21, .inl (E.2.2.2.2.1 0, 4, .inl (fun _ => 0))), (q22, .inr (1, [.ref q23, .ref q24, .int 0, .int 0, .int (Int32.ofInt 4), .int 0])), (q23, .inl (E.2.2.2.2.1 0, 24, .inl (fun _ => 0))), (q24, .inl (E.2.2.2.2.1 0, 8, .inl (fun _ => 0))), (q25, .inr (1, [.ref q26, .ref q27, .int 0, .int 0, .int (Int32.ofInt 4), .int 0])), (q26, .inl (E.2.2.2.2.1 0, 24, .inl (fun _ => 0))), (q27, .inl (E.2.2.2.2.1 0, 8, .inl (fun _ => 0)))]
abbrev riX6 : Room := { frames := 3, cells := 27, slots := 539, locals := 52 }
set_option maxRecDepth 100000 in
theorem mkX6 {E : rp_E} : rc_C E mX6_init riX6 27 539 (.inr (6, dfX6)) (poX6 E) := by
  refine rc_met (by decide +kernel) rfl rfl (fun pre h0 => ?_)
  refine rc_aload_n (x := h0) dX6_init_0 rfl ?_
  refine rc_obj obX6_1 obI obC dX6_init_1 (Nat.le_of_ble_eq_true rfl) (Nat.le_of_ble_eq_true rfl) ?_
  refine rc_aload_n (x := h0) dX6_init_4 rfl ?_
  refine rc_new (ci := 1) (q := (RX1, TX1, 6)) (fs := dfX1) tyX1 rfl inw1 tyX1_ok clX6_7n nsX1 niX1 dfX1_ok (Nat.le_of_ble_eq_true rfl) (Nat.le_of_ble_eq_true rfl) dX6_init_5 (fun q1 => ?_)
  refine rc_dup dX6_init_8 rfl ?_
  refine rc_callI (l0 := [(h0, .inr (6, [.null, .null, .null, .null, .null, .null, .null, .null, .int 0, .int 0]))]) (h0 := q1) mkX1 rfl cbX1_init liX6_9 rfl rfl ⟨rfl, rfl, Nat.le_of_ble_eq_true rfl, Nat.le_of_ble_eq_true rfl⟩ ⟨Nat.le_of_ble_eq_true rfl, Nat.le_of_ble_eq_true rfl⟩ (Nat.le_of_ble_eq_true rfl) dX6_init_9 (fun l1 hl1 => ?_)
  obtain ⟨q2, q3, rfl⟩ := hl1
  refine rc_putF (i := 0) (k := 0) rfl ffX6_10 rfl rfl (Nat.le_of_ble_eq_true rfl) (fun _ _ _ z => z) dX6_init_12 ?_
  refine rc_aload_n (x := h0) dX6_init_15 rfl ?_
  refine rc_new (ci := 3) (q := (RX3, TX3, 5)) (fs := dfX3) tyX3 rfl inw3 tyX3_ok clX6_16n nsX3 niX3 dfX3_ok (Nat.le_of_ble_eq_true rfl) (Nat.le_of_ble_eq_true rfl) dX6_init_16 (fun q4 => ?_)
  refine rc_dup dX6_init_19 rfl ?_
  refine rc_callI (l0 := [(h0, .inr (6, [.ref q1, .null, .null, .null, .null, .null, .null, .null, .int 0, .int 0])), (q1, .inr (1, [.ref q2, .ref q3, .int 0, .int 0, .int (Int32.ofInt 4), .int 0])), (q2, .inl (E.2.2.2.2.1 0, 24, .inl (fun _ => 0))), (q3, .inl (E.2.2.2.2.1 0, 8, .inl (fun _ => 0)))]) (h0 := q4) mkX3 rfl cbX3_init liX6_18 rfl rfl ⟨rfl, rfl, Nat.le_of_ble_eq_true rfl, Nat.le_of_ble_eq_true rfl⟩ ⟨Nat.le_of_ble_eq_true rfl, Nat.le_of_ble_eq_true rfl⟩ (Nat.le_of_ble_eq_true rfl) dX6_init_20 (fun l1 hl1 => ?_)
  obtain ⟨q5, q6, q7, q8, q9, q10, q11, rfl⟩ := hl1
  refine rc_putF (i := 0) (k := 1) rfl ffX6_19 rfl rfl (Nat.le_of_ble_eq_true rfl) (fun _ _ _ z => z) dX6_init_23 ?_
  refine rc_aload_n (x := h0) dX6_init_26 rfl ?_
  refine rc_new (ci := 0) (q := (RX0, TX0, 2)) (fs := dfX0) tyX0 rfl inw0 tyX0_ok clX6_23n nsX0 niX0 dfX0_ok (Nat.le_of_ble_eq_true rfl) (Nat.le_of_ble_eq_true rfl) dX6_init_27 (fun q12 => ?_)
  refine rc_dup dX6_init_30 rfl ?_
  refine rc_callI (l0 := [(h0, .inr (6, [.ref q1, .ref q4, .null, .null, .null, .null, .null, .null, .int 0, .int 0])), (q1, .inr (1, [.ref q2, .ref q3, .int 0, .int 0, .int (Int32.ofInt 4), .int 0])), (q2, .inl (E.2.2.2.2.1 0, 24, .inl (fun _ => 0))), (q3, .inl (E.2.2.2.2.1 0, 8, .inl (fun _ => 0))), (q4, .inr (3, [.ref q5, .ref q8, .ref q9, .ref q10, .ref q11])), (q5, .inr (1, [.ref q6, .ref q7, .int 0, .int 0, .int (Int32.ofInt 4), .int 0])), (q6, .inl (E.2.2.2.2.1 0, 24, .inl (fun _ => 0))), (q7, .inl (E.2.2.2.2.1 0, 8, .inl (fun _ => 0))), (q8, .inl (E.2.2.2.2.1 0, 6, .inl (fun _ => 0))), (q9, .inl (E.2.2.2.2.1 0, 6, .inl (fun _ => 0))), (q10, .inl (E.2.2.2.2.1 0, 6, .inl (fun _ => 0))), (q11, .inl (E.2.2.2.2.1 0, 6, .inl (fun _ => 0)))]) (h0 := q12) mkX0 rfl cbX0_init liX6_25 rfl rfl ⟨rfl, rfl, Nat.le_of_ble_eq_true rfl, Nat.le_of_ble_eq_true rfl⟩ ⟨Nat.le_of_ble_eq_true rfl, Nat.le_of_ble_eq_true rfl⟩ (Nat.le_of_ble_eq_true rfl) dX6_init_31 (fun l1 hl1 => ?_)
  subst hl1
  refine rc_putF (i := 0) (k := 2) rfl ffX6_26 rfl rfl (Nat.le_of_ble_eq_true rfl) (fun _ _ _ z => z) dX6_init_34 ?_
  refine rc_aload_n (x := h0) dX6_init_37 rfl ?_
  refine rc_new (ci := 5) (q := (RX5, TX5, 9)) (fs := dfX5) tyX5 rfl inw5 tyX5_ok clX6_30n nsX5 niX5 dfX5_ok (Nat.le_of_ble_eq_true rfl) (Nat.le_of_ble_eq_true rfl) dX6_init_38 (fun q13 => ?_)
  refine rc_dup dX6_init_41 rfl ?_
  refine rc_callI (l0 := [(h0, .inr (6, [.ref q1, .ref q4, .ref q12, .null, .null, .null, .null, .null, .int 0, .int 0])), (q1, .inr (1, [.ref q2, .ref q3, .int 0, .int 0, .int (Int32.ofInt 4), .int 0])), (q2, .inl (E.2.2.2.2.1 0, 24, .inl (fun _ => 0))), (q3, .inl (E.2.2.2.2.1 0, 8, .inl (fun _ => 0))), (q4, .inr (3, [.ref q5, .ref q8, .ref q9, .ref q10, .ref q11])), (q5, .inr (1, [.ref q6, .ref q7, .int 0, .int 0, .int (Int32.ofInt 4), .int 0])), (q6, .inl (E.2.2.2.2.1 0, 24, .inl (fun _ => 0))), (q7, .inl (E.2.2.2.2.1 0, 8, .inl (fun _ => 0))), (q8, .inl (E.2.2.2.2.1 0, 6, .inl (fun _ => 0))), (q9, .inl (E.2.2.2.2.1 0, 6, .inl (fun _ => 0))), (q10, .inl (E.2.2.2.2.1 0, 6, .inl (fun _ => 0))), (q11, .inl (E.2.2.2.2.1 0, 6, .inl (fun _ => 0))), (q12, .inr (0, [.int (Int32.ofInt (-4)), .int 0]))]) (h0 := q13) mkX5 rfl cbX5_init liX6_32 rfl rfl ⟨rfl, rfl, Nat.le_of_ble_eq_true rfl, Nat.le_of_ble_eq_true rfl⟩ ⟨Nat.le_of_ble_eq_true rfl, Nat.le_of_ble_eq_true rfl⟩ (Nat.le_of_ble_eq_true rfl) dX6_init_42 (fun l1 hl1 => ?_)
  obtain ⟨q14, rfl⟩ := hl1
  refine rc_putF (i := 0) (k := 3) rfl ffX6_33 rfl rfl (Nat.le_of_ble_eq_true rfl) (fun _ _ _ z => z) dX6_init_45 ?_
  refine rc_aload_n (x := h0) dX6_init_48 rfl ?_
  refine rc_new (ci := 4) (q := (RX4, TX4, 3)) (fs := dfX4) tyX4 rfl inw4 tyX4_ok clX6_37n nsX4 niX4 dfX4_ok (Nat.le_of_ble_eq_true rfl) (Nat.le_of_ble_eq_true rfl) dX6_init_49 (fun q15 => ?_)
  refine rc_dup dX6_init_52 rfl ?_
  refine rc_callI (l0 := [(h0, .inr (6, [.ref q1, .ref q4, .ref q12, .ref q13, .null, .null, .null, .null, .int 0, .int 0])), (q1, .inr (1, [.ref q2, .ref q3, .int 0, .int 0, .int (Int32.ofInt 4), .int 0])), (q2, .inl (E.2.2.2.2.1 0, 24, .inl (fun _ => 0))), (q3, .inl (E.2.2.2.2.1 0, 8, .inl (fun _ => 0))), (q4, .inr (3, [.ref q5, .ref q8, .ref q9, .ref q10, .ref q11])), (q5, .inr (1, [.ref q6, .ref q7, .int 0, .int 0, .int (Int32.ofInt 4), .int 0])), (q6, .inl (E.2.2.2.2.1 0, 24, .inl (fun _ => 0))), (q7, .inl (E.2.2.2.2.1 0, 8, .inl (fun _ => 0))), (q8, .inl (E.2.2.2.2.1 0, 6, .inl (fun _ => 0))), (q9, .inl (E.2.2.2.2.1 0, 6, .inl (fun _ => 0))), (q10, .inl (E.2.2.2.2.1 0, 6, .inl (fun _ => 0))), (q11, .inl (E.2.2.2.2.1 0, 6, .inl (fun _ => 0))), (q12, .inr (0, [.int (Int32.ofInt (-4)), .int 0])), (q13, .inr (5, [.ref q14, .int 0, .int 0, .int 0, .int 0, .int 0, .int 0, .int 0, .int 0])), (q14, .inl (E.2.2.2.2.1 1, 160, .inl (fun _ => 0)))]) (h0 := q15) mkX4 rfl cbX4_init liX6_39 rfl rfl ⟨rfl, rfl, Nat.le_of_ble_eq_true rfl, Nat.le_of_ble_eq_true rfl⟩ ⟨Nat.le_of_ble_eq_true rfl, Nat.le_of_ble_eq_true rfl⟩ (Nat.le_of_ble_eq_true rfl) dX6_init_53 (fun l1 hl1 => ?_)
  obtain ⟨q16, q17, rfl⟩ := hl1
  refine rc_putF (i := 0) (k := 4) rfl ffX6_40 rfl rfl (Nat.le_of_ble_eq_true rfl) (fun _ _ _ z => z) dX6_init_56 ?_
  refine rc_aload_n (x := h0) dX6_init_59 rfl ?_
  refine rc_new (ci := 2) (q := (RX2, TX2, 4)) (fs := dfX2) tyX2 rfl inw2 tyX2_ok clX6_44n nsX2 niX2 dfX2_ok (Nat.le_of_ble_eq_true rfl) (Nat.le_of_ble_eq_true rfl) dX6_init_60 (fun q18 => ?_)
  refine rc_dup dX6_init_63 rfl ?_
  refine rc_callI (l0 := [(h0, .inr (6, [.ref q1, .ref q4, .ref q12, .ref q13, .ref q15, .null, .null, .null, .int 0, .int 0])), (q1, .inr (1, [.ref q2, .ref q3, .int 0, .int 0, .int (Int32.ofInt 4), .int 0])), (q2, .inl (E.2.2.2.2.1 0, 24, .inl (fun _ => 0))), (q3, .inl (E.2.2.2.2.1 0, 8, .inl (fun _ => 0))), (q4, .inr (3, [.ref q5, .ref q8, .ref q9, .ref q10, .ref q11])), (q5, .inr (1, [.ref q6, .ref q7, .int 0, .int 0, .int (Int32.ofInt 4), .int 0])), (q6, .inl (E.2.2.2.2.1 0, 24, .inl (fun _ => 0))), (q7, .inl (E.2.2.2.2.1 0, 8, .inl (fun _ => 0))), (q8, .inl (E.2.2.2.2.1 0, 6, .inl (fun _ => 0))), (q9, .inl (E.2.2.2.2.1 0, 6, .inl (fun _ => 0))), (q10, .inl (E.2.2.2.2.1 0, 6, .inl (fun _ => 0))), (q11, .inl (E.2.2.2.2.1 0, 6, .inl (fun _ => 0))), (q12, .inr (0, [.int (Int32.ofInt (-4)), .int 0])), (q13, .inr (5, [.ref q14, .int 0, .int 0, .int 0, .int 0, .int 0, .int 0, .int 0, .int 0])), (q14, .inl (E.2.2.2.2.1 1, 160, .inl (fun _ => 0))), (q15, .inr (4, [.ref q16, .ref q17, .int 0])), (q16, .inl (E.2.2.2.2.1 0, 6, .inl (fun _ => 0))), (q17, .inl (E.2.2.2.2.1 0, 6, .inl (fun _ => 0)))]) (h0 := q18) mkX2 rfl cbX2_init liX6_46 rfl rfl ⟨rfl, rfl, Nat.le_of_ble_eq_true rfl, Nat.le_of_ble_eq_true rfl⟩ ⟨Nat.le_of_ble_eq_true rfl, Nat.le_of_ble_eq_true rfl⟩ (Nat.le_of_ble_eq_true rfl) dX6_init_64 (fun l1 hl1 => ?_)
  obtain ⟨q19, q20, q21, rfl⟩ := hl1
  refine rc_putF (i := 0) (k := 5) rfl ffX6_47 rfl rfl (Nat.le_of_ble_eq_true rfl) (fun _ _ _ z => z) dX6_init_67 ?_
  refine rc_aload_n (x := h0) dX6_init_70 rfl ?_
  refine rc_new (ci := 1) (q := (RX1, TX1, 6)) (fs := dfX1) tyX1 rfl inw1 tyX1_ok clX6_7n nsX1 niX1 dfX1_ok (Nat.le_of_ble_eq_true rfl) (Nat.le_of_ble_eq_true rfl) dX6_init_71 (fun q22 => ?_)
  refine rc_dup dX6_init_74 rfl ?_
  refine rc_callI (l0 := [(h0, .inr (6, [.ref q1, .ref q4, .ref q12, .ref q13, .ref q15, .ref q18, .null, .null, .int 0, .int 0])), (q1, .inr (1, [.ref q2, .ref q3, .int 0, .int 0, .int (Int32.ofInt 4), .int 0])), (q2, .inl (E.2.2.2.2.1 0, 24, .inl (fun _ => 0))), (q3, .inl (E.2.2.2.2.1 0, 8, .inl (fun _ => 0))), (q4, .inr (3, [.ref q5, .ref q8, .ref q9, .ref q10, .ref q11])), (q5, .inr (1, [.ref q6, .ref q7, .int 0, .int 0, .int (Int32.ofInt 4), .int 0])), (q6, .inl (E.2.2.2.2.1 0, 24, .inl (fun _ => 0))), (q7, .inl (E.2.2.2.2.1 0, 8, .inl (fun _ => 0))), (q8, .inl (E.2.2.2.2.1 0, 6, .inl (fun _ => 0))), (q9, .inl (E.2.2.2.2.1 0, 6, .inl (fun _ => 0))), (q10, .inl (E.2.2.2.2.1 0, 6, .inl (fun _ => 0))), (q11, .inl (E.2.2.2.2.1 0, 6, .inl (fun _ => 0))), (q12, .inr (0, [.int (Int32.ofInt (-4)), .int 0])), (q13, .inr (5, [.ref q14, .int 0, .int 0, .int 0, .int 0, .int 0, .int 0, .int 0, .int 0])), (q14, .inl (E.2.2.2.2.1 1, 160, .inl (fun _ => 0))), (q15, .inr (4, [.ref q16, .ref q17, .int 0])), (q16, .inl (E.2.2.2.2.1 0, 6, .inl (fun _ => 0))), (q17, .inl (E.2.2.2.2.1 0, 6, .inl (fun _ => 0))), (q18, .inr (2, [.ref q19, .ref q20, .ref q21, .int 0])), (q19, .inl (E.2.2.2.2.1 0, 160, .inl (fun _ => 0))), (q20, .inl (E.2.2.2.2.1 0, 4, .inl (fun _ => 0))), (q21, .inl (E.2.2.2.2.1 0, 4, .inl (fun _ => 0)))]) (h0 := q22) mkX1 rfl cbX1_init liX6_9 rfl rfl ⟨rfl, rfl, Nat.le_of_ble_eq_true rfl, Nat.le_of_ble_eq_true rfl⟩ ⟨Nat.le_of_ble_eq_true rfl, Nat.le_of_ble_eq_true rfl⟩ (Nat.le_of_ble_eq_true rfl) dX6_init_75 (fun l1 hl1 => ?_)
  obtain ⟨q23, q24, rfl⟩ := hl1
  refine rc_putF (i := 0) (k := 6) rfl ffX6_51 rfl rfl (Nat.le_of_ble_eq_true rfl) (fun _ _ _ z => z) dX6_init_78 ?_
  refine rc_aload_n (x := h0) dX6_init_81 rfl ?_
  refine rc_new (ci := 1) (q := (RX1, TX1, 6)) (fs := dfX1) tyX1 rfl inw1 tyX1_ok clX6_7n nsX1 niX1 dfX1_ok (Nat.le_of_ble_eq_true rfl) (Nat.le_of_ble_eq_true rfl) dX6_init_82 (fun q25 => ?_)
  refine rc_dup dX6_init_85 rfl ?_
  refine rc_callI (l0 := [(h0, .inr (6, [.ref q1, .ref q4, .ref q12, .ref q13, .ref q15, .ref q18, .ref q22, .null, .int 0, .int 0])), (q1, .inr (1, [.ref q2, .ref q3, .int 0, .int 0, .int (Int32.ofInt 4), .int 0])), (q2, .inl (E.2.2.2.2.1 0, 24, .inl (fun _ => 0))), (q3, .inl (E.2.2.2.2.1 0, 8, .inl (fun _ => 0))), (q4, .inr (3, [.ref q5, .ref q8, .ref q9, .ref q10, .ref q11])), (q5, .inr (1, [.ref q6, .ref q7, .int 0, .int 0, .int (Int32.ofInt 4), .int 0])), (q6, .inl (E.2.2.2.2.1 0, 24, .inl (fun _ => 0))), (q7, .inl (E.2.2.2.2.1 0, 8, .inl (fun _ => 0))), (q8, .inl (E.2.2.2.2.1 0, 6, .inl (fun _ => 0))), (q9, .inl (E.2.2.2.2.1 0, 6, .inl (fun _ => 0))), (q10, .inl (E.2.2.2.2.1 0, 6, .inl (fun _ => 0))), (q11, .inl (E.2.2.2.2.1 0, 6, .inl (fun _ => 0))), (q12, .inr (0, [.int (Int32.ofInt (-4)), .int 0])), (q13, .inr (5, [.ref q14, .int 0, .int 0, .int 0, .int 0, .int 0, .int 0, .int 0, .int 0])), (q14, .inl (E.2.2.2.2.1 1, 160, .inl (fun _ => 0))), (q15, .inr (4, [.ref q16, .ref q17, .int 0])), (q16, .inl (E.2.2.2.2.1 0, 6, .inl (fun _ => 0))), (q17, .inl (E.2.2.2.2.1 0, 6, .inl (fun _ => 0))), (q18, .inr (2, [.ref q19, .ref q20, .ref q21, .int 0])), (q19, .inl (E.2.2.2.2.1 0, 160, .inl (fun _ => 0))), (q20, .inl (E.2.2.2.2.1 0, 4, .inl (fun _ => 0))), (q21, .inl (E.2.2.2.2.1 0, 4, .inl (fun _ => 0))), (q22, .inr (1, [.ref q23, .ref q24, .int 0, .int 0, .int (Int32.ofInt 4), .int 0])), (q23, .inl (E.2.2.2.2.1 0, 24, .inl (fun _ => 0))), (q24, .inl (E.2.2.2.2.1 0, 8, .inl (fun _ => 0)))]) (h0 := q25) mkX1 rfl cbX1_init liX6_9 rfl rfl ⟨rfl, rfl, Nat.le_of_ble_eq_true rfl, Nat.le_of_ble_eq_true rfl⟩ ⟨Nat.le_of_ble_eq_true rfl, Nat.le_of_ble_eq_true rfl⟩ (Nat.le_of_ble_eq_true rfl) dX6_init_86 (fun l1 hl1 => ?_)
  obtain ⟨q26, q27, rfl⟩ := hl1
  refine rc_putF (i := 0) (k := 7) rfl ffX6_54 rfl rfl (Nat.le_of_ble_eq_true rfl) (fun _ _ _ z => z) dX6_init_89 ?_
  exact rc_ret ⟨q1, q2, q3, q4, q5, q6, q7, q8, q9, q10, q11, q12, q13, q14, q15, q16, q17, q18, q19, q20, q21, q22, q23, q24, q25, q26, q27, rfl⟩ rfl dX6_init_92
theorem obX7_1 : Cond.methodLink RX7 1 Lib.objectInit ∈ rp_TG := (tg4 (List.mem_of_getElem? (i := 90) (by decide +kernel)) rfl)
theorem ffX7_7 : rc_Ff RX7 7 7 0 (.array .int) := ⟨(RX7, TX7, 27), rfl, cf7, by decide, (tg4 (List.mem_of_getElem? (i := 91) (by decide +kernel)) rfl), rfl, rfl, by decide +kernel⟩
theorem ffX7_13 : rc_Ff RX7 13 7 1 (.array .int) := ⟨(RX7, TX7, 27), rfl, cf7, by decide, (tg4 (List.mem_of_getElem? (i := 92) (by decide +kernel)) rfl), rfl, rfl, by decide +kernel⟩
theorem ffX7_16 : rc_Ff RX7 16 7 3 (.array .int) := ⟨(RX7, TX7, 27), rfl, cf7, by decide, (tg4 (List.mem_of_getElem? (i := 94) (by decide +kernel)) rfl), rfl, rfl, by decide +kernel⟩
theorem ffX7_19 : rc_Ff RX7 19 7 12 (.array .int) := ⟨(RX7, TX7, 27), rfl, cf7, by decide, (tg4 (List.mem_of_getElem? (i := 103) (by decide +kernel)) rfl), rfl, rfl, by decide +kernel⟩
theorem ffX7_22 : rc_Ff RX7 22 7 13 (.array .int) := ⟨(RX7, TX7, 27), rfl, cf7, by decide, (tg4 (List.mem_of_getElem? (i := 104) (by decide +kernel)) rfl), rfl, rfl, by decide +kernel⟩
theorem ffX7_25 : rc_Ff RX7 25 7 15 (.array .int) := ⟨(RX7, TX7, 27), rfl, cf7, by decide, (tg4 (List.mem_of_getElem? (i := 106) (by decide +kernel)) rfl), rfl, rfl, by decide +kernel⟩
theorem ffX7_28 : rc_Ff RX7 28 7 19 (.array .int) := ⟨(RX7, TX7, 27), rfl, cf7, by decide, (tg4 (List.mem_of_getElem? (i := 110) (by decide +kernel)) rfl), rfl, rfl, by decide +kernel⟩
theorem ffX7_31 : rc_Ff RX7 31 7 21 (.array .int) := ⟨(RX7, TX7, 27), rfl, cf7, by decide, (tg4 (List.mem_of_getElem? (i := 112) (by decide +kernel)) rfl), rfl, rfl, by decide +kernel⟩
theorem ffX7_34 : rc_Ff RX7 34 7 22 (.array .boolean) := ⟨(RX7, TX7, 27), rfl, cf7, by decide, (tg4 (List.mem_of_getElem? (i := 113) (by decide +kernel)) rfl), rfl, rfl, by decide +kernel⟩
theorem ffX7_38 : rc_Ff RX7 38 7 23 (.array .int) := ⟨(RX7, TX7, 27), rfl, cf7, by decide, (tg4 (List.mem_of_getElem? (i := 114) (by decide +kernel)) rfl), rfl, rfl, by decide +kernel⟩
theorem ffX7_41 : rc_Ff RX7 41 7 24 (.array .int) := ⟨(RX7, TX7, 27), rfl, cf7, by decide, (tg4 (List.mem_of_getElem? (i := 115) (by decide +kernel)) rfl), rfl, rfl, by decide +kernel⟩
theorem ffX7_44 : rc_Ff RX7 44 7 25 (.array .int) := ⟨(RX7, TX7, 27), rfl, cf7, by decide, (tg4 (List.mem_of_getElem? (i := 116) (by decide +kernel)) rfl), rfl, rfl, by decide +kernel⟩
def mkF0 : Nat → Int32 := (upd (upd (upd (upd (upd (upd (upd (upd (fun _ => 0) (Int32.ofInt 0).toNatClampNeg (Int32.ofInt 0)) (Int32.ofInt 1).toNatClampNeg (Int32.ofInt 4)) (Int32.ofInt 2).toNatClampNeg (Int32.ofInt 9)) (Int32.ofInt 3).toNatClampNeg (Int32.ofInt 17)) (Int32.ofInt 4).toNatClampNeg (Int32.ofInt 22)) (Int32.ofInt 5).toNatClampNeg (Int32.ofInt 28)) (Int32.ofInt 6).toNatClampNeg (Int32.ofInt 32)) (Int32.ofInt 7).toNatClampNeg (Int32.ofInt 36))
def mkF1 : Nat → Int32 := (upd (upd (upd (upd (upd (upd (upd (upd (upd (upd (upd (upd (upd (upd (upd (upd (upd (upd (upd (upd (upd (upd (upd (upd (upd (upd (upd (upd (upd (upd (upd (upd (upd (upd (upd (upd (fun _ => 0) (Int32.ofInt 0).toNatClampNeg (Int32.ofInt 115)) (Int32.ofInt 1).toNatClampNeg (Int32.ofInt 116)) (Int32.ofInt 2).toNatClampNeg (Int32.ofInt 97)) (Int32.ofInt 3).toNatClampNeg (Int32.ofInt 114)) (Int32.ofInt 4).toNatClampNeg (Int32.ofInt 119)) (Int32.ofInt 5).toNatClampNeg (Int32.ofInt 104)) (Int32.ofInt 6).toNatClampNeg (Int32.ofInt 101)) (Int32.ofInt 7).toNatClampNeg (Int32.ofInt 101)) (Int32.ofInt 8).toNatClampNeg (Int32.ofInt 108)) (Int32.ofInt 9).toNatClampNeg (Int32.ofInt 102)) (Int32.ofInt 10).toNatClampNeg (Int32.ofInt 111)) (Int32.ofInt 11).toNatClampNeg (Int32.ofInt 117)) (Int32.ofInt 12).toNatClampNeg (Int32.ofInt 110)) (Int32.ofInt 13).toNatClampNeg (Int32.ofInt 116)) (Int32.ofInt 14).toNatClampNeg (Int32.ofInt 97)) (Int32.ofInt 15).toNatClampNeg (Int32.ofInt 105)) (Int32.ofInt 16).toNatClampNeg (Int32.ofInt 110)) (Int32.ofInt 17).toNatClampNeg (Int32.ofInt 115)) (Int32.ofInt 18).toNatClampNeg (Int32.ofInt 113)) (Int32.ofInt 19).toNatClampNeg (Int32.ofInt 117)) (Int32.ofInt 20).toNatClampNeg (Int32.ofInt 105)) (Int32.ofInt 21).toNatClampNeg (Int32.ofInt 98)) (Int32.ofInt 22).toNatClampNeg (Int32.ofInt 114)) (Int32.ofInt 23).toNatClampNeg (Int32.ofInt 101)) (Int32.ofInt 24).toNatClampNeg (Int32.ofInt 97)) (Int32.ofInt 25).toNatClampNeg (Int32.ofInt 100)) (Int32.ofInt 26).toNatClampNeg (Int32.ofInt 101)) (Int32.ofInt 27).toNatClampNeg (Int32.ofInt 114)) (Int32.ofInt 28).toNatClampNeg (Int32.ofInt 119)) (Int32.ofInt 29).toNatClampNeg (Int32.ofInt 105)) (Int32.ofInt 30).toNatClampNeg (Int32.ofInt 110)) (Int32.ofInt 31).toNatClampNeg (Int32.ofInt 100)) (Int32.ofInt 32).toNatClampNeg (Int32.ofInt 100)) (Int32.ofInt 33).toNatClampNeg (Int32.ofInt 97)) (Int32.ofInt 34).toNatClampNeg (Int32.ofInt 109)) (Int32.ofInt 35).toNatClampNeg (Int32.ofInt 112))
def mkF2 : Nat → Int32 := (upd (upd (upd (upd (fun _ => 0) (Int32.ofInt 0).toNatClampNeg (Int32.ofInt (-4))) (Int32.ofInt 1).toNatClampNeg (Int32.ofInt (-4))) (Int32.ofInt 2).toNatClampNeg (Int32.ofInt (-4))) (Int32.ofInt 3).toNatClampNeg (Int32.ofInt (-4)))
def poX7 (E : rp_E) (h0 : Nat) (l : va_W) : Prop := ∃ q1 q2 q3 q4 q5 q6 q7 q8 q9 q10 q11 q12 : Nat, l = [(h0, .inr (7, [.ref q1, .ref q2, .int 0, .ref q3, .int 0, .int 0, .int 0, .int 0, .int 0, .int 0, .int 0, .int 0, .ref q4, .ref q5, .int 0, .ref q6, .int 0, .int 0, .int 0, .ref q7, .int 0, .ref q8, .ref q9, .ref q10, .ref q11, .ref q12, .int 0])), (q1, .inl (E.2.2.2.2.1 0, 180, .inl (fun _ => 0))), (q2, .inl (E.2.2.2.2.1 0, 36, .inl (fun _ => 0))), (q3, .inl (E.2.2.2.2.1 0, 160, .inl (fun _ => 0))), (q4, .inl (E.2.2.2.2.1 0, 8, .inl mkF0)), (q5, .inl (E.2.2.2.2.1 0, 36, .inl mkF1)), (q6, .inl (E.2.2.2.2.1 0, 24, .inl (fun _ => 0))), (q7, .inl (E.2.2.2.2.1 0, 12, .inl (fun _ => 0))), (q8, .inl (E.2.2.2.2.1 0, 54, .inl (fun _ => 0))), (q9, .inl (E.2.2.2.2.1 2, 2, .inl (fun _ => 0))), (q10, .inl (E.2.2.2.2.1 0, 4, .inl mkF2)), (q11, .inl (E.2.2.2.2.1 0, 4, .inl (fun _ => 0))), (q12, .inl (E.2.2.2.2.1 0, 160, .inl (fun _ => 0)))]
abbrev riX7 : Room := { frames := 1, cells := 12, slots := 680, locals := 12 }
set_option maxRecDepth 100000 in
theorem mkX7 {E : rp_E} : rc_C E mX7_init riX7 12 680 (.inr (7, dfX7)) (poX7 E) := by
  refine rc_met (by decide +kernel) rfl rfl (fun pre h0 => ?_)
  refine rc_aload_n (x := h0) dX7_init_0 rfl ?_
  refine rc_obj obX7_1 obI obC dX7_init_1 (Nat.le_of_ble_eq_true rfl) (Nat.le_of_ble_eq_true rfl) ?_
  refine rc_aload_n (x := h0) dX7_init_4 rfl ?_
  refine rc_sipush dX7_init_5 (by decide) ?_
  refine rc_newa (n := 180) (t := 0) rfl (by decide) rfl arC0 (by decide) rfl (Nat.le_of_ble_eq_true rfl) (Nat.le_of_ble_eq_true rfl) (Nat.le_of_ble_eq_true rfl) dX7_init_8 (fun q1 => ?_)
  refine rc_putF (i := 0) (k := 0) rfl ffX7_7 rfl rfl (Nat.le_of_ble_eq_true rfl) (fun _ _ _ z => z) dX7_init_10 ?_
  refine rc_aload_n (x := h0) dX7_init_13 rfl ?_
  refine rc_bipush dX7_init_14 (by decide) ?_
  refine rc_newa (n := 36) (t := 0) rfl (by decide) rfl arC0 (by decide) rfl (Nat.le_of_ble_eq_true rfl) (Nat.le_of_ble_eq_true rfl) (Nat.le_of_ble_eq_true rfl) dX7_init_16 (fun q2 => ?_)
  refine rc_putF (i := 0) (k := 1) rfl ffX7_13 rfl rfl (Nat.le_of_ble_eq_true rfl) (fun _ _ _ z => z) dX7_init_18 ?_
  refine rc_aload_n (x := h0) dX7_init_21 rfl ?_
  refine rc_sipush dX7_init_22 (by decide) ?_
  refine rc_newa (n := 160) (t := 0) rfl (by decide) rfl arC0 (by decide) rfl (Nat.le_of_ble_eq_true rfl) (Nat.le_of_ble_eq_true rfl) (Nat.le_of_ble_eq_true rfl) dX7_init_25 (fun q3 => ?_)
  refine rc_putF (i := 0) (k := 3) rfl ffX7_16 rfl rfl (Nat.le_of_ble_eq_true rfl) (fun _ _ _ z => z) dX7_init_27 ?_
  refine rc_aload_n (x := h0) dX7_init_30 rfl ?_
  refine rc_bipush dX7_init_31 (by decide) ?_
  refine rc_newa (n := 8) (t := 0) rfl (by decide) rfl arC0 (by decide) rfl (Nat.le_of_ble_eq_true rfl) (Nat.le_of_ble_eq_true rfl) (Nat.le_of_ble_eq_true rfl) dX7_init_33 (fun q4 => ?_)
  refine rc_dup dX7_init_35 rfl ?_
  refine rc_iconst dX7_init_36 ?_
  refine rc_iconst dX7_init_37 ?_
  refine rc_iastL (l0 := [(h0, .inr (7, [.ref q1, .ref q2, .int 0, .ref q3, .int 0, .int 0, .int 0, .int 0, .int 0, .int 0, .int 0, .int 0, .null, .null, .int 0, .null, .int 0, .int 0, .int 0, .null, .int 0, .null, .null, .null, .null, .null, .int 0])), (q1, .inl (E.2.2.2.2.1 0, 180, .inl (fun _ => 0))), (q2, .inl (E.2.2.2.2.1 0, 36, .inl (fun _ => 0))), (q3, .inl (E.2.2.2.2.1 0, 160, .inl (fun _ => 0)))]) (f := (fun _ => 0)) rfl (by decide) dX7_init_38 (fun f0 ef0 => ?_)
  refine rc_dup dX7_init_39 rfl ?_
  refine rc_iconst dX7_init_40 ?_
  refine rc_iconst dX7_init_41 ?_
  refine rc_iastL (l0 := [(h0, .inr (7, [.ref q1, .ref q2, .int 0, .ref q3, .int 0, .int 0, .int 0, .int 0, .int 0, .int 0, .int 0, .int 0, .null, .null, .int 0, .null, .int 0, .int 0, .int 0, .null, .int 0, .null, .null, .null, .null, .null, .int 0])), (q1, .inl (E.2.2.2.2.1 0, 180, .inl (fun _ => 0))), (q2, .inl (E.2.2.2.2.1 0, 36, .inl (fun _ => 0))), (q3, .inl (E.2.2.2.2.1 0, 160, .inl (fun _ => 0)))]) (f := f0) rfl (by decide) dX7_init_42 (fun f1 ef1 => ?_)
  refine rc_dup dX7_init_43 rfl ?_
  refine rc_iconst dX7_init_44 ?_
  refine rc_bipush dX7_init_45 (by decide) ?_
  refine rc_iastL (l0 := [(h0, .inr (7, [.ref q1, .ref q2, .int 0, .ref q3, .int 0, .int 0, .int 0, .int 0, .int 0, .int 0, .int 0, .int 0, .null, .null, .int 0, .null, .int 0, .int 0, .int 0, .null, .int 0, .null, .null, .null, .null, .null, .int 0])), (q1, .inl (E.2.2.2.2.1 0, 180, .inl (fun _ => 0))), (q2, .inl (E.2.2.2.2.1 0, 36, .inl (fun _ => 0))), (q3, .inl (E.2.2.2.2.1 0, 160, .inl (fun _ => 0)))]) (f := f1) rfl (by decide) dX7_init_47 (fun f2 ef2 => ?_)
  refine rc_dup dX7_init_48 rfl ?_
  refine rc_iconst dX7_init_49 ?_
  refine rc_bipush dX7_init_50 (by decide) ?_
  refine rc_iastL (l0 := [(h0, .inr (7, [.ref q1, .ref q2, .int 0, .ref q3, .int 0, .int 0, .int 0, .int 0, .int 0, .int 0, .int 0, .int 0, .null, .null, .int 0, .null, .int 0, .int 0, .int 0, .null, .int 0, .null, .null, .null, .null, .null, .int 0])), (q1, .inl (E.2.2.2.2.1 0, 180, .inl (fun _ => 0))), (q2, .inl (E.2.2.2.2.1 0, 36, .inl (fun _ => 0))), (q3, .inl (E.2.2.2.2.1 0, 160, .inl (fun _ => 0)))]) (f := f2) rfl (by decide) dX7_init_52 (fun f3 ef3 => ?_)
  refine rc_dup dX7_init_53 rfl ?_
  refine rc_iconst dX7_init_54 ?_
  refine rc_bipush dX7_init_55 (by decide) ?_
  refine rc_iastL (l0 := [(h0, .inr (7, [.ref q1, .ref q2, .int 0, .ref q3, .int 0, .int 0, .int 0, .int 0, .int 0, .int 0, .int 0, .int 0, .null, .null, .int 0, .null, .int 0, .int 0, .int 0, .null, .int 0, .null, .null, .null, .null, .null, .int 0])), (q1, .inl (E.2.2.2.2.1 0, 180, .inl (fun _ => 0))), (q2, .inl (E.2.2.2.2.1 0, 36, .inl (fun _ => 0))), (q3, .inl (E.2.2.2.2.1 0, 160, .inl (fun _ => 0)))]) (f := f3) rfl (by decide) dX7_init_57 (fun f4 ef4 => ?_)
  refine rc_dup dX7_init_58 rfl ?_
  refine rc_iconst dX7_init_59 ?_
  refine rc_bipush dX7_init_60 (by decide) ?_
  refine rc_iastL (l0 := [(h0, .inr (7, [.ref q1, .ref q2, .int 0, .ref q3, .int 0, .int 0, .int 0, .int 0, .int 0, .int 0, .int 0, .int 0, .null, .null, .int 0, .null, .int 0, .int 0, .int 0, .null, .int 0, .null, .null, .null, .null, .null, .int 0])), (q1, .inl (E.2.2.2.2.1 0, 180, .inl (fun _ => 0))), (q2, .inl (E.2.2.2.2.1 0, 36, .inl (fun _ => 0))), (q3, .inl (E.2.2.2.2.1 0, 160, .inl (fun _ => 0)))]) (f := f4) rfl (by decide) dX7_init_62 (fun f5 ef5 => ?_)
  refine rc_dup dX7_init_63 rfl ?_
  refine rc_bipush dX7_init_64 (by decide) ?_
  refine rc_bipush dX7_init_66 (by decide) ?_
  refine rc_iastL (l0 := [(h0, .inr (7, [.ref q1, .ref q2, .int 0, .ref q3, .int 0, .int 0, .int 0, .int 0, .int 0, .int 0, .int 0, .int 0, .null, .null, .int 0, .null, .int 0, .int 0, .int 0, .null, .int 0, .null, .null, .null, .null, .null, .int 0])), (q1, .inl (E.2.2.2.2.1 0, 180, .inl (fun _ => 0))), (q2, .inl (E.2.2.2.2.1 0, 36, .inl (fun _ => 0))), (q3, .inl (E.2.2.2.2.1 0, 160, .inl (fun _ => 0)))]) (f := f5) rfl (by decide) dX7_init_68 (fun f6 ef6 => ?_)
  refine rc_dup dX7_init_69 rfl ?_
  refine rc_bipush dX7_init_70 (by decide) ?_
  refine rc_bipush dX7_init_72 (by decide) ?_
  refine rc_iastL (l0 := [(h0, .inr (7, [.ref q1, .ref q2, .int 0, .ref q3, .int 0, .int 0, .int 0, .int 0, .int 0, .int 0, .int 0, .int 0, .null, .null, .int 0, .null, .int 0, .int 0, .int 0, .null, .int 0, .null, .null, .null, .null, .null, .int 0])), (q1, .inl (E.2.2.2.2.1 0, 180, .inl (fun _ => 0))), (q2, .inl (E.2.2.2.2.1 0, 36, .inl (fun _ => 0))), (q3, .inl (E.2.2.2.2.1 0, 160, .inl (fun _ => 0)))]) (f := f6) rfl (by decide) dX7_init_74 (fun f7 ef7 => ?_)
  refine rc_putF (i := 0) (k := 12) rfl ffX7_19 rfl rfl (Nat.le_of_ble_eq_true rfl) (fun _ _ _ z => z) dX7_init_75 ?_
  refine rc_aload_n (x := h0) dX7_init_78 rfl ?_
  refine rc_bipush dX7_init_79 (by decide) ?_
  refine rc_newa (n := 36) (t := 0) rfl (by decide) rfl arC0 (by decide) rfl (Nat.le_of_ble_eq_true rfl) (Nat.le_of_ble_eq_true rfl) (Nat.le_of_ble_eq_true rfl) dX7_init_81 (fun q5 => ?_)
  refine rc_dup dX7_init_83 rfl ?_
  refine rc_iconst dX7_init_84 ?_
  refine rc_bipush dX7_init_85 (by decide) ?_
  refine rc_iastL (l0 := [(h0, .inr (7, [.ref q1, .ref q2, .int 0, .ref q3, .int 0, .int 0, .int 0, .int 0, .int 0, .int 0, .int 0, .int 0, .ref q4, .null, .int 0, .null, .int 0, .int 0, .int 0, .null, .int 0, .null, .null, .null, .null, .null, .int 0])), (q1, .inl (E.2.2.2.2.1 0, 180, .inl (fun _ => 0))), (q2, .inl (E.2.2.2.2.1 0, 36, .inl (fun _ => 0))), (q3, .inl (E.2.2.2.2.1 0, 160, .inl (fun _ => 0))), (q4, .inl (E.2.2.2.2.1 0, 8, .inl f7))]) (f := (fun _ => 0)) rfl (by decide) dX7_init_87 (fun f8 ef8 => ?_)
  refine rc_dup dX7_init_88 rfl ?_
  refine rc_iconst dX7_init_89 ?_
  refine rc_bipush dX7_init_90 (by decide) ?_
  refine rc_iastL (l0 := [(h0, .inr (7, [.ref q1, .ref q2, .int 0, .ref q3, .int 0, .int 0, .int 0, .int 0, .int 0, .int 0, .int 0, .int 0, .ref q4, .null, .int 0, .null, .int 0, .int 0, .int 0, .null, .int 0, .null, .null, .null, .null, .null, .int 0])), (q1, .inl (E.2.2.2.2.1 0, 180, .inl (fun _ => 0))), (q2, .inl (E.2.2.2.2.1 0, 36, .inl (fun _ => 0))), (q3, .inl (E.2.2.2.2.1 0, 160, .inl (fun _ => 0))), (q4, .inl (E.2.2.2.2.1 0, 8, .inl f7))]) (f := f8) rfl (by decide) dX7_init_92 (fun f9 ef9 => ?_)
  refine rc_dup dX7_init_93 rfl ?_
  refine rc_iconst dX7_init_94 ?_
  refine rc_bipush dX7_init_95 (by decide) ?_
  refine rc_iastL (l0 := [(h0, .inr (7, [.ref q1, .ref q2, .int 0, .ref q3, .int 0, .int 0, .int 0, .int 0, .int 0, .int 0, .int 0, .int 0, .ref q4, .null, .int 0, .null, .int 0, .int 0, .int 0, .null, .int 0, .null, .null, .null, .null, .null, .int 0])), (q1, .inl (E.2.2.2.2.1 0, 180, .inl (fun _ => 0))), (q2, .inl (E.2.2.2.2.1 0, 36, .inl (fun _ => 0))), (q3, .inl (E.2.2.2.2.1 0, 160, .inl (fun _ => 0))), (q4, .inl (E.2.2.2.2.1 0, 8, .inl f7))]) (f := f9) rfl (by decide) dX7_init_97 (fun f10 ef10 => ?_)
  refine rc_dup dX7_init_98 rfl ?_
  refine rc_iconst dX7_init_99 ?_
  refine rc_bipush dX7_init_100 (by decide) ?_
  refine rc_iastL (l0 := [(h0, .inr (7, [.ref q1, .ref q2, .int 0, .ref q3, .int 0, .int 0, .int 0, .int 0, .int 0, .int 0, .int 0, .int 0, .ref q4, .null, .int 0, .null, .int 0, .int 0, .int 0, .null, .int 0, .null, .null, .null, .null, .null, .int 0])), (q1, .inl (E.2.2.2.2.1 0, 180, .inl (fun _ => 0))), (q2, .inl (E.2.2.2.2.1 0, 36, .inl (fun _ => 0))), (q3, .inl (E.2.2.2.2.1 0, 160, .inl (fun _ => 0))), (q4, .inl (E.2.2.2.2.1 0, 8, .inl f7))]) (f := f10) rfl (by decide) dX7_init_102 (fun f11 ef11 => ?_)
  refine rc_dup dX7_init_103 rfl ?_
  refine rc_iconst dX7_init_104 ?_
  refine rc_bipush dX7_init_105 (by decide) ?_
  refine rc_iastL (l0 := [(h0, .inr (7, [.ref q1, .ref q2, .int 0, .ref q3, .int 0, .int 0, .int 0, .int 0, .int 0, .int 0, .int 0, .int 0, .ref q4, .null, .int 0, .null, .int 0, .int 0, .int 0, .null, .int 0, .null, .null, .null, .null, .null, .int 0])), (q1, .inl (E.2.2.2.2.1 0, 180, .inl (fun _ => 0))), (q2, .inl (E.2.2.2.2.1 0, 36, .inl (fun _ => 0))), (q3, .inl (E.2.2.2.2.1 0, 160, .inl (fun _ => 0))), (q4, .inl (E.2.2.2.2.1 0, 8, .inl f7))]) (f := f11) rfl (by decide) dX7_init_107 (fun f12 ef12 => ?_)
  refine rc_dup dX7_init_108 rfl ?_
  refine rc_iconst dX7_init_109 ?_
  refine rc_bipush dX7_init_110 (by decide) ?_
  refine rc_iastL (l0 := [(h0, .inr (7, [.ref q1, .ref q2, .int 0, .ref q3, .int 0, .int 0, .int 0, .int 0, .int 0, .int 0, .int 0, .int 0, .ref q4, .null, .int 0, .null, .int 0, .int 0, .int 0, .null, .int 0, .null, .null, .null, .null, .null, .int 0])), (q1, .inl (E.2.2.2.2.1 0, 180, .inl (fun _ => 0))), (q2, .inl (E.2.2.2.2.1 0, 36, .inl (fun _ => 0))), (q3, .inl (E.2.2.2.2.1 0, 160, .inl (fun _ => 0))), (q4, .inl (E.2.2.2.2.1 0, 8, .inl f7))]) (f := f12) rfl (by decide) dX7_init_112 (fun f13 ef13 => ?_)
  refine rc_dup dX7_init_113 rfl ?_
  refine rc_bipush dX7_init_114 (by decide) ?_
  refine rc_bipush dX7_init_116 (by decide) ?_
  refine rc_iastL (l0 := [(h0, .inr (7, [.ref q1, .ref q2, .int 0, .ref q3, .int 0, .int 0, .int 0, .int 0, .int 0, .int 0, .int 0, .int 0, .ref q4, .null, .int 0, .null, .int 0, .int 0, .int 0, .null, .int 0, .null, .null, .null, .null, .null, .int 0])), (q1, .inl (E.2.2.2.2.1 0, 180, .inl (fun _ => 0))), (q2, .inl (E.2.2.2.2.1 0, 36, .inl (fun _ => 0))), (q3, .inl (E.2.2.2.2.1 0, 160, .inl (fun _ => 0))), (q4, .inl (E.2.2.2.2.1 0, 8, .inl f7))]) (f := f13) rfl (by decide) dX7_init_118 (fun f14 ef14 => ?_)
  refine rc_dup dX7_init_119 rfl ?_
  refine rc_bipush dX7_init_120 (by decide) ?_
  refine rc_bipush dX7_init_122 (by decide) ?_
  refine rc_iastL (l0 := [(h0, .inr (7, [.ref q1, .ref q2, .int 0, .ref q3, .int 0, .int 0, .int 0, .int 0, .int 0, .int 0, .int 0, .int 0, .ref q4, .null, .int 0, .null, .int 0, .int 0, .int 0, .null, .int 0, .null, .null, .null, .null, .null, .int 0])), (q1, .inl (E.2.2.2.2.1 0, 180, .inl (fun _ => 0))), (q2, .inl (E.2.2.2.2.1 0, 36, .inl (fun _ => 0))), (q3, .inl (E.2.2.2.2.1 0, 160, .inl (fun _ => 0))), (q4, .inl (E.2.2.2.2.1 0, 8, .inl f7))]) (f := f14) rfl (by decide) dX7_init_124 (fun f15 ef15 => ?_)
  refine rc_dup dX7_init_125 rfl ?_
  refine rc_bipush dX7_init_126 (by decide) ?_
  refine rc_bipush dX7_init_128 (by decide) ?_
  refine rc_iastL (l0 := [(h0, .inr (7, [.ref q1, .ref q2, .int 0, .ref q3, .int 0, .int 0, .int 0, .int 0, .int 0, .int 0, .int 0, .int 0, .ref q4, .null, .int 0, .null, .int 0, .int 0, .int 0, .null, .int 0, .null, .null, .null, .null, .null, .int 0])), (q1, .inl (E.2.2.2.2.1 0, 180, .inl (fun _ => 0))), (q2, .inl (E.2.2.2.2.1 0, 36, .inl (fun _ => 0))), (q3, .inl (E.2.2.2.2.1 0, 160, .inl (fun _ => 0))), (q4, .inl (E.2.2.2.2.1 0, 8, .inl f7))]) (f := f15) rfl (by decide) dX7_init_130 (fun f16 ef16 => ?_)
  refine rc_dup dX7_init_131 rfl ?_
  refine rc_bipush dX7_init_132 (by decide) ?_
  refine rc_bipush dX7_init_134 (by decide) ?_
  refine rc_iastL (l0 := [(h0, .inr (7, [.ref q1, .ref q2, .int 0, .ref q3, .int 0, .int 0, .int 0, .int 0, .int 0, .int 0, .int 0, .int 0, .ref q4, .null, .int 0, .null, .int 0, .int 0, .int 0, .null, .int 0, .null, .null, .null, .null, .null, .int 0])), (q1, .inl (E.2.2.2.2.1 0, 180, .inl (fun _ => 0))), (q2, .inl (E.2.2.2.2.1 0, 36, .inl (fun _ => 0))), (q3, .inl (E.2.2.2.2.1 0, 160, .inl (fun _ => 0))), (q4, .inl (E.2.2.2.2.1 0, 8, .inl f7))]) (f := f16) rfl (by decide) dX7_init_136 (fun f17 ef17 => ?_)
  refine rc_dup dX7_init_137 rfl ?_
  refine rc_bipush dX7_init_138 (by decide) ?_
  refine rc_bipush dX7_init_140 (by decide) ?_
  refine rc_iastL (l0 := [(h0, .inr (7, [.ref q1, .ref q2, .int 0, .ref q3, .int 0, .int 0, .int 0, .int 0, .int 0, .int 0, .int 0, .int 0, .ref q4, .null, .int 0, .null, .int 0, .int 0, .int 0, .null, .int 0, .null, .null, .null, .null, .null, .int 0])), (q1, .inl (E.2.2.2.2.1 0, 180, .inl (fun _ => 0))), (q2, .inl (E.2.2.2.2.1 0, 36, .inl (fun _ => 0))), (q3, .inl (E.2.2.2.2.1 0, 160, .inl (fun _ => 0))), (q4, .inl (E.2.2.2.2.1 0, 8, .inl f7))]) (f := f17) rfl (by decide) dX7_init_142 (fun f18 ef18 => ?_)
  refine rc_dup dX7_init_143 rfl ?_
  refine rc_bipush dX7_init_144 (by decide) ?_
  refine rc_bipush dX7_init_146 (by decide) ?_
  refine rc_iastL (l0 := [(h0, .inr (7, [.ref q1, .ref q2, .int 0, .ref q3, .int 0, .int 0, .int 0, .int 0, .int 0, .int 0, .int 0, .int 0, .ref q4, .null, .int 0, .null, .int 0, .int 0, .int 0, .null, .int 0, .null, .null, .null, .null, .null, .int 0])), (q1, .inl (E.2.2.2.2.1 0, 180, .inl (fun _ => 0))), (q2, .inl (E.2.2.2.2.1 0, 36, .inl (fun _ => 0))), (q3, .inl (E.2.2.2.2.1 0, 160, .inl (fun _ => 0))), (q4, .inl (E.2.2.2.2.1 0, 8, .inl f7))]) (f := f18) rfl (by decide) dX7_init_148 (fun f19 ef19 => ?_)
  refine rc_dup dX7_init_149 rfl ?_
  refine rc_bipush dX7_init_150 (by decide) ?_
  refine rc_bipush dX7_init_152 (by decide) ?_
  refine rc_iastL (l0 := [(h0, .inr (7, [.ref q1, .ref q2, .int 0, .ref q3, .int 0, .int 0, .int 0, .int 0, .int 0, .int 0, .int 0, .int 0, .ref q4, .null, .int 0, .null, .int 0, .int 0, .int 0, .null, .int 0, .null, .null, .null, .null, .null, .int 0])), (q1, .inl (E.2.2.2.2.1 0, 180, .inl (fun _ => 0))), (q2, .inl (E.2.2.2.2.1 0, 36, .inl (fun _ => 0))), (q3, .inl (E.2.2.2.2.1 0, 160, .inl (fun _ => 0))), (q4, .inl (E.2.2.2.2.1 0, 8, .inl f7))]) (f := f19) rfl (by decide) dX7_init_154 (fun f20 ef20 => ?_)
  refine rc_dup dX7_init_155 rfl ?_
  refine rc_bipush dX7_init_156 (by decide) ?_
  refine rc_bipush dX7_init_158 (by decide) ?_
  refine rc_iastL (l0 := [(h0, .inr (7, [.ref q1, .ref q2, .int 0, .ref q3, .int 0, .int 0, .int 0, .int 0, .int 0, .int 0, .int 0, .int 0, .ref q4, .null, .int 0, .null, .int 0, .int 0, .int 0, .null, .int 0, .null, .null, .null, .null, .null, .int 0])), (q1, .inl (E.2.2.2.2.1 0, 180, .inl (fun _ => 0))), (q2, .inl (E.2.2.2.2.1 0, 36, .inl (fun _ => 0))), (q3, .inl (E.2.2.2.2.1 0, 160, .inl (fun _ => 0))), (q4, .inl (E.2.2.2.2.1 0, 8, .inl f7))]) (f := f20) rfl (by decide) dX7_init_160 (fun f21 ef21 => ?_)
  refine rc_dup dX7_init_161 rfl ?_
  refine rc_bipush dX7_init_162 (by decide) ?_
  refine rc_bipush dX7_init_164 (by decide) ?_
  refine rc_iastL (l0 := [(h0, .inr (7, [.ref q1, .ref q2, .int 0, .ref q3, .int 0, .int 0, .int 0, .int 0, .int 0, .int 0, .int 0, .int 0, .ref q4, .null, .int 0, .null, .int 0, .int 0, .int 0, .null, .int 0, .null, .null, .null, .null, .null, .int 0])), (q1, .inl (E.2.2.2.2.1 0, 180, .inl (fun _ => 0))), (q2, .inl (E.2.2.2.2.1 0, 36, .inl (fun _ => 0))), (q3, .inl (E.2.2.2.2.1 0, 160, .inl (fun _ => 0))), (q4, .inl (E.2.2.2.2.1 0, 8, .inl f7))]) (f := f21) rfl (by decide) dX7_init_166 (fun f22 ef22 => ?_)
  refine rc_dup dX7_init_167 rfl ?_
  refine rc_bipush dX7_init_168 (by decide) ?_
  refine rc_bipush dX7_init_170 (by decide) ?_
  refine rc_iastL (l0 := [(h0, .inr (7, [.ref q1, .ref q2, .int 0, .ref q3, .int 0, .int 0, .int 0, .int 0, .int 0, .int 0, .int 0, .int 0, .ref q4, .null, .int 0, .null, .int 0, .int 0, .int 0, .null, .int 0, .null, .null, .null, .null, .null, .int 0])), (q1, .inl (E.2.2.2.2.1 0, 180, .inl (fun _ => 0))), (q2, .inl (E.2.2.2.2.1 0, 36, .inl (fun _ => 0))), (q3, .inl (E.2.2.2.2.1 0, 160, .inl (fun _ => 0))), (q4, .inl (E.2.2.2.2.1 0, 8, .inl f7))]) (f := f22) rfl (by decide) dX7_init_172 (fun f23 ef23 => ?_)
  refine rc_dup dX7_init_173 rfl ?_
  refine rc_bipush dX7_init_174 (by decide) ?_
  refine rc_bipush dX7_init_176 (by decide) ?_
  refine rc_iastL (l0 := [(h0, .inr (7, [.ref q1, .ref q2, .int 0, .ref q3, .int 0, .int 0, .int 0, .int 0, .int 0, .int 0, .int 0, .int 0, .ref q4, .null, .int 0, .null, .int 0, .int 0, .int 0, .null, .int 0, .null, .null, .null, .null, .null, .int 0])), (q1, .inl (E.2.2.2.2.1 0, 180, .inl (fun _ => 0))), (q2, .inl (E.2.2.2.2.1 0, 36, .inl (fun _ => 0))), (q3, .inl (E.2.2.2.2.1 0, 160, .inl (fun _ => 0))), (q4, .inl (E.2.2.2.2.1 0, 8, .inl f7))]) (f := f23) rfl (by decide) dX7_init_178 (fun f24 ef24 => ?_)
  refine rc_dup dX7_init_179 rfl ?_
  refine rc_bipush dX7_init_180 (by decide) ?_
  refine rc_bipush dX7_init_182 (by decide) ?_
  refine rc_iastL (l0 := [(h0, .inr (7, [.ref q1, .ref q2, .int 0, .ref q3, .int 0, .int 0, .int 0, .int 0, .int 0, .int 0, .int 0, .int 0, .ref q4, .null, .int 0, .null, .int 0, .int 0, .int 0, .null, .int 0, .null, .null, .null, .null, .null, .int 0])), (q1, .inl (E.2.2.2.2.1 0, 180, .inl (fun _ => 0))), (q2, .inl (E.2.2.2.2.1 0, 36, .inl (fun _ => 0))), (q3, .inl (E.2.2.2.2.1 0, 160, .inl (fun _ => 0))), (q4, .inl (E.2.2.2.2.1 0, 8, .inl f7))]) (f := f24) rfl (by decide) dX7_init_184 (fun f25 ef25 => ?_)
  refine rc_dup dX7_init_185 rfl ?_
  refine rc_bipush dX7_init_186 (by decide) ?_
  refine rc_bipush dX7_init_188 (by decide) ?_
  refine rc_iastL (l0 := [(h0, .inr (7, [.ref q1, .ref q2, .int 0, .ref q3, .int 0, .int 0, .int 0, .int 0, .int 0, .int 0, .int 0, .int 0, .ref q4, .null, .int 0, .null, .int 0, .int 0, .int 0, .null, .int 0, .null, .null, .null, .null, .null, .int 0])), (q1, .inl (E.2.2.2.2.1 0, 180, .inl (fun _ => 0))), (q2, .inl (E.2.2.2.2.1 0, 36, .inl (fun _ => 0))), (q3, .inl (E.2.2.2.2.1 0, 160, .inl (fun _ => 0))), (q4, .inl (E.2.2.2.2.1 0, 8, .inl f7))]) (f := f25) rfl (by decide) dX7_init_190 (fun f26 ef26 => ?_)
  refine rc_dup dX7_init_191 rfl ?_
  refine rc_bipush dX7_init_192 (by decide) ?_
  refine rc_bipush dX7_init_194 (by decide) ?_
  refine rc_iastL (l0 := [(h0, .inr (7, [.ref q1, .ref q2, .int 0, .ref q3, .int 0, .int 0, .int 0, .int 0, .int 0, .int 0, .int 0, .int 0, .ref q4, .null, .int 0, .null, .int 0, .int 0, .int 0, .null, .int 0, .null, .null, .null, .null, .null, .int 0])), (q1, .inl (E.2.2.2.2.1 0, 180, .inl (fun _ => 0))), (q2, .inl (E.2.2.2.2.1 0, 36, .inl (fun _ => 0))), (q3, .inl (E.2.2.2.2.1 0, 160, .inl (fun _ => 0))), (q4, .inl (E.2.2.2.2.1 0, 8, .inl f7))]) (f := f26) rfl (by decide) dX7_init_196 (fun f27 ef27 => ?_)
  refine rc_dup dX7_init_197 rfl ?_
  refine rc_bipush dX7_init_198 (by decide) ?_
  refine rc_bipush dX7_init_200 (by decide) ?_
  refine rc_iastL (l0 := [(h0, .inr (7, [.ref q1, .ref q2, .int 0, .ref q3, .int 0, .int 0, .int 0, .int 0, .int 0, .int 0, .int 0, .int 0, .ref q4, .null, .int 0, .null, .int 0, .int 0, .int 0, .null, .int 0, .null, .null, .null, .null, .null, .int 0])), (q1, .inl (E.2.2.2.2.1 0, 180, .inl (fun _ => 0))), (q2, .inl (E.2.2.2.2.1 0, 36, .inl (fun _ => 0))), (q3, .inl (E.2.2.2.2.1 0, 160, .inl (fun _ => 0))), (q4, .inl (E.2.2.2.2.1 0, 8, .inl f7))]) (f := f27) rfl (by decide) dX7_init_202 (fun f28 ef28 => ?_)
  refine rc_dup dX7_init_203 rfl ?_
  refine rc_bipush dX7_init_204 (by decide) ?_
  refine rc_bipush dX7_init_206 (by decide) ?_
  refine rc_iastL (l0 := [(h0, .inr (7, [.ref q1, .ref q2, .int 0, .ref q3, .int 0, .int 0, .int 0, .int 0, .int 0, .int 0, .int 0, .int 0, .ref q4, .null, .int 0, .null, .int 0, .int 0, .int 0, .null, .int 0, .null, .null, .null, .null, .null, .int 0])), (q1, .inl (E.2.2.2.2.1 0, 180, .inl (fun _ => 0))), (q2, .inl (E.2.2.2.2.1 0, 36, .inl (fun _ => 0))), (q3, .inl (E.2.2.2.2.1 0, 160, .inl (fun _ => 0))), (q4, .inl (E.2.2.2.2.1 0, 8, .inl f7))]) (f := f28) rfl (by decide) dX7_init_208 (fun f29 ef29 => ?_)
  refine rc_dup dX7_init_209 rfl ?_
  refine rc_bipush dX7_init_210 (by decide) ?_
  refine rc_bipush dX7_init_212 (by decide) ?_
  refine rc_iastL (l0 := [(h0, .inr (7, [.ref q1, .ref q2, .int 0, .ref q3, .int 0, .int 0, .int 0, .int 0, .int 0, .int 0, .int 0, .int 0, .ref q4, .null, .int 0, .null, .int 0, .int 0, .int 0, .null, .int 0, .null, .null, .null, .null, .null, .int 0])), (q1, .inl (E.2.2.2.2.1 0, 180, .inl (fun _ => 0))), (q2, .inl (E.2.2.2.2.1 0, 36, .inl (fun _ => 0))), (q3, .inl (E.2.2.2.2.1 0, 160, .inl (fun _ => 0))), (q4, .inl (E.2.2.2.2.1 0, 8, .inl f7))]) (f := f29) rfl (by decide) dX7_init_214 (fun f30 ef30 => ?_)
  refine rc_dup dX7_init_215 rfl ?_
  refine rc_bipush dX7_init_216 (by decide) ?_
  refine rc_bipush dX7_init_218 (by decide) ?_
  refine rc_iastL (l0 := [(h0, .inr (7, [.ref q1, .ref q2, .int 0, .ref q3, .int 0, .int 0, .int 0, .int 0, .int 0, .int 0, .int 0, .int 0, .ref q4, .null, .int 0, .null, .int 0, .int 0, .int 0, .null, .int 0, .null, .null, .null, .null, .null, .int 0])), (q1, .inl (E.2.2.2.2.1 0, 180, .inl (fun _ => 0))), (q2, .inl (E.2.2.2.2.1 0, 36, .inl (fun _ => 0))), (q3, .inl (E.2.2.2.2.1 0, 160, .inl (fun _ => 0))), (q4, .inl (E.2.2.2.2.1 0, 8, .inl f7))]) (f := f30) rfl (by decide) dX7_init_220 (fun f31 ef31 => ?_)
  refine rc_dup dX7_init_221 rfl ?_
  refine rc_bipush dX7_init_222 (by decide) ?_
  refine rc_bipush dX7_init_224 (by decide) ?_
  refine rc_iastL (l0 := [(h0, .inr (7, [.ref q1, .ref q2, .int 0, .ref q3, .int 0, .int 0, .int 0, .int 0, .int 0, .int 0, .int 0, .int 0, .ref q4, .null, .int 0, .null, .int 0, .int 0, .int 0, .null, .int 0, .null, .null, .null, .null, .null, .int 0])), (q1, .inl (E.2.2.2.2.1 0, 180, .inl (fun _ => 0))), (q2, .inl (E.2.2.2.2.1 0, 36, .inl (fun _ => 0))), (q3, .inl (E.2.2.2.2.1 0, 160, .inl (fun _ => 0))), (q4, .inl (E.2.2.2.2.1 0, 8, .inl f7))]) (f := f31) rfl (by decide) dX7_init_226 (fun f32 ef32 => ?_)
  refine rc_dup dX7_init_227 rfl ?_
  refine rc_bipush dX7_init_228 (by decide) ?_
  refine rc_bipush dX7_init_230 (by decide) ?_
  refine rc_iastL (l0 := [(h0, .inr (7, [.ref q1, .ref q2, .int 0, .ref q3, .int 0, .int 0, .int 0, .int 0, .int 0, .int 0, .int 0, .int 0, .ref q4, .null, .int 0, .null, .int 0, .int 0, .int 0, .null, .int 0, .null, .null, .null, .null, .null, .int 0])), (q1, .inl (E.2.2.2.2.1 0, 180, .inl (fun _ => 0))), (q2, .inl (E.2.2.2.2.1 0, 36, .inl (fun _ => 0))), (q3, .inl (E.2.2.2.2.1 0, 160, .inl (fun _ => 0))), (q4, .inl (E.2.2.2.2.1 0, 8, .inl f7))]) (f := f32) rfl (by decide) dX7_init_232 (fun f33 ef33 => ?_)
  refine rc_dup dX7_init_233 rfl ?_
  refine rc_bipush dX7_init_234 (by decide) ?_
  refine rc_bipush dX7_init_236 (by decide) ?_
  refine rc_iastL (l0 := [(h0, .inr (7, [.ref q1, .ref q2, .int 0, .ref q3, .int 0, .int 0, .int 0, .int 0, .int 0, .int 0, .int 0, .int 0, .ref q4, .null, .int 0, .null, .int 0, .int 0, .int 0, .null, .int 0, .null, .null, .null, .null, .null, .int 0])), (q1, .inl (E.2.2.2.2.1 0, 180, .inl (fun _ => 0))), (q2, .inl (E.2.2.2.2.1 0, 36, .inl (fun _ => 0))), (q3, .inl (E.2.2.2.2.1 0, 160, .inl (fun _ => 0))), (q4, .inl (E.2.2.2.2.1 0, 8, .inl f7))]) (f := f33) rfl (by decide) dX7_init_238 (fun f34 ef34 => ?_)
  refine rc_dup dX7_init_239 rfl ?_
  refine rc_bipush dX7_init_240 (by decide) ?_
  refine rc_bipush dX7_init_242 (by decide) ?_
  refine rc_iastL (l0 := [(h0, .inr (7, [.ref q1, .ref q2, .int 0, .ref q3, .int 0, .int 0, .int 0, .int 0, .int 0, .int 0, .int 0, .int 0, .ref q4, .null, .int 0, .null, .int 0, .int 0, .int 0, .null, .int 0, .null, .null, .null, .null, .null, .int 0])), (q1, .inl (E.2.2.2.2.1 0, 180, .inl (fun _ => 0))), (q2, .inl (E.2.2.2.2.1 0, 36, .inl (fun _ => 0))), (q3, .inl (E.2.2.2.2.1 0, 160, .inl (fun _ => 0))), (q4, .inl (E.2.2.2.2.1 0, 8, .inl f7))]) (f := f34) rfl (by decide) dX7_init_244 (fun f35 ef35 => ?_)
  refine rc_dup dX7_init_245 rfl ?_
  refine rc_bipush dX7_init_246 (by decide) ?_
  refine rc_bipush dX7_init_248 (by decide) ?_
  refine rc_iastL (l0 := [(h0, .inr (7, [.ref q1, .ref q2, .int 0, .ref q3, .int 0, .int 0, .int 0, .int 0, .int 0, .int 0, .int 0, .int 0, .ref q4, .null, .int 0, .null, .int 0, .int 0, .int 0, .null, .int 0, .null, .null, .null, .null, .null, .int 0])), (q1, .inl (E.2.2.2.2.1 0, 180, .inl (fun _ => 0))), (q2, .inl (E.2.2.2.2.1 0, 36, .inl (fun _ => 0))), (q3, .inl (E.2.2.2.2.1 0, 160, .inl (fun _ => 0))), (q4, .inl (E.2.2.2.2.1 0, 8, .inl f7))]) (f := f35) rfl (by decide) dX7_init_250 (fun f36 ef36 => ?_)
  refine rc_dup dX7_init_251 rfl ?_
  refine rc_bipush dX7_init_252 (by decide) ?_
  refine rc_bipush dX7_init_254 (by decide) ?_
  refine rc_iastL (l0 := [(h0, .inr (7, [.ref q1, .ref q2, .int 0, .ref q3, .int 0, .int 0, .int 0, .int 0, .int 0, .int 0, .int 0, .int 0, .ref q4, .null, .int 0, .null, .int 0, .int 0, .int 0, .null, .int 0, .null, .null, .null, .null, .null, .int 0])), (q1, .inl (E.2.2.2.2.1 0, 180, .inl (fun _ => 0))), (q2, .inl (E.2.2.2.2.1 0, 36, .inl (fun _ => 0))), (q3, .inl (E.2.2.2.2.1 0, 160, .inl (fun _ => 0))), (q4, .inl (E.2.2.2.2.1 0, 8, .inl f7))]) (f := f36) rfl (by decide) dX7_init_256 (fun f37 ef37 => ?_)
  refine rc_dup dX7_init_257 rfl ?_
  refine rc_bipush dX7_init_258 (by decide) ?_
  refine rc_bipush dX7_init_260 (by decide) ?_
  refine rc_iastL (l0 := [(h0, .inr (7, [.ref q1, .ref q2, .int 0, .ref q3, .int 0, .int 0, .int 0, .int 0, .int 0, .int 0, .int 0, .int 0, .ref q4, .null, .int 0, .null, .int 0, .int 0, .int 0, .null, .int 0, .null, .null, .null, .null, .null, .int 0])), (q1, .inl (E.2.2.2.2.1 0, 180, .inl (fun _ => 0))), (q2, .inl (E.2.2.2.2.1 0, 36, .inl (fun _ => 0))), (q3, .inl (E.2.2.2.2.1 0, 160, .inl (fun _ => 0))), (q4, .inl (E.2.2.2.2.1 0, 8, .inl f7))]) (f := f37) rfl (by decide) dX7_init_262 (fun f38 ef38 => ?_)
  refine rc_dup dX7_init_263 rfl ?_
  refine rc_bipush dX7_init_264 (by decide) ?_
  refine rc_bipush dX7_init_266 (by decide) ?_
  refine rc_iastL (l0 := [(h0, .inr (7, [.ref q1, .ref q2, .int 0, .ref q3, .int 0, .int 0, .int 0, .int 0, .int 0, .int 0, .int 0, .int 0, .ref q4, .null, .int 0, .null, .int 0, .int 0, .int 0, .null, .int 0, .null, .null, .null, .null, .null, .int 0])), (q1, .inl (E.2.2.2.2.1 0, 180, .inl (fun _ => 0))), (q2, .inl (E.2.2.2.2.1 0, 36, .inl (fun _ => 0))), (q3, .inl (E.2.2.2.2.1 0, 160, .inl (fun _ => 0))), (q4, .inl (E.2.2.2.2.1 0, 8, .inl f7))]) (f := f38) rfl (by decide) dX7_init_268 (fun f39 ef39 => ?_)
  refine rc_dup dX7_init_269 rfl ?_
  refine rc_bipush dX7_init_270 (by decide) ?_
  refine rc_bipush dX7_init_272 (by decide) ?_
  refine rc_iastL (l0 := [(h0, .inr (7, [.ref q1, .ref q2, .int 0, .ref q3, .int 0, .int 0, .int 0, .int 0, .int 0, .int 0, .int 0, .int 0, .ref q4, .null, .int 0, .null, .int 0, .int 0, .int 0, .null, .int 0, .null, .null, .null, .null, .null, .int 0])), (q1, .inl (E.2.2.2.2.1 0, 180, .inl (fun _ => 0))), (q2, .inl (E.2.2.2.2.1 0, 36, .inl (fun _ => 0))), (q3, .inl (E.2.2.2.2.1 0, 160, .inl (fun _ => 0))), (q4, .inl (E.2.2.2.2.1 0, 8, .inl f7))]) (f := f39) rfl (by decide) dX7_init_274 (fun f40 ef40 => ?_)
  refine rc_dup dX7_init_275 rfl ?_
  refine rc_bipush dX7_init_276 (by decide) ?_
  refine rc_bipush dX7_init_278 (by decide) ?_
  refine rc_iastL (l0 := [(h0, .inr (7, [.ref q1, .ref q2, .int 0, .ref q3, .int 0, .int 0, .int 0, .int 0, .int 0, .int 0, .int 0, .int 0, .ref q4, .null, .int 0, .null, .int 0, .int 0, .int 0, .null, .int 0, .null, .null, .null, .null, .null, .int 0])), (q1, .inl (E.2.2.2.2.1 0, 180, .inl (fun _ => 0))), (q2, .inl (E.2.2.2.2.1 0, 36, .inl (fun _ => 0))), (q3, .inl (E.2.2.2.2.1 0, 160, .inl (fun _ => 0))), (q4, .inl (E.2.2.2.2.1 0, 8, .inl f7))]) (f := f40) rfl (by decide) dX7_init_280 (fun f41 ef41 => ?_)
  refine rc_dup dX7_init_281 rfl ?_
  refine rc_bipush dX7_init_282 (by decide) ?_
  refine rc_bipush dX7_init_284 (by decide) ?_
  refine rc_iastL (l0 := [(h0, .inr (7, [.ref q1, .ref q2, .int 0, .ref q3, .int 0, .int 0, .int 0, .int 0, .int 0, .int 0, .int 0, .int 0, .ref q4, .null, .int 0, .null, .int 0, .int 0, .int 0, .null, .int 0, .null, .null, .null, .null, .null, .int 0])), (q1, .inl (E.2.2.2.2.1 0, 180, .inl (fun _ => 0))), (q2, .inl (E.2.2.2.2.1 0, 36, .inl (fun _ => 0))), (q3, .inl (E.2.2.2.2.1 0, 160, .inl (fun _ => 0))), (q4, .inl (E.2.2.2.2.1 0, 8, .inl f7))]) (f := f41) rfl (by decide) dX7_init_286 (fun f42 ef42 => ?_)
  refine rc_dup dX7_init_287 rfl ?_
  refine rc_bipush dX7_init_288 (by decide) ?_
  refine rc_bipush dX7_init_290 (by decide) ?_
  refine rc_iastL (l0 := [(h0, .inr (7, [.ref q1, .ref q2, .int 0, .ref q3, .int 0, .int 0, .int 0, .int 0, .int 0, .int 0, .int 0, .int 0, .ref q4, .null, .int 0, .null, .int 0, .int 0, .int 0, .null, .int 0, .null, .null, .null, .null, .null, .int 0])), (q1, .inl (E.2.2.2.2.1 0, 180, .inl (fun _ => 0))), (q2, .inl (E.2.2.2.2.1 0, 36, .inl (fun _ => 0))), (q3, .inl (E.2.2.2.2.1 0, 160, .inl (fun _ => 0))), (q4, .inl (E.2.2.2.2.1 0, 8, .inl f7))]) (f := f42) rfl (by decide) dX7_init_292 (fun f43 ef43 => ?_)
  refine rc_putF (i := 0) (k := 13) rfl ffX7_22 rfl rfl (Nat.le_of_ble_eq_true rfl) (fun _ _ _ z => z) dX7_init_293 ?_
  refine rc_aload_n (x := h0) dX7_init_296 rfl ?_
  refine rc_bipush dX7_init_297 (by decide) ?_
  refine rc_newa (n := 24) (t := 0) rfl (by decide) rfl arC0 (by decide) rfl (Nat.le_of_ble_eq_true rfl) (Nat.le_of_ble_eq_true rfl) (Nat.le_of_ble_eq_true rfl) dX7_init_299 (fun q6 => ?_)
  refine rc_putF (i := 0) (k := 15) rfl ffX7_25 rfl rfl (Nat.le_of_ble_eq_true rfl) (fun _ _ _ z => z) dX7_init_301 ?_
  refine rc_aload_n (x := h0) dX7_init_304 rfl ?_
  refine rc_bipush dX7_init_305 (by decide) ?_
  refine rc_newa (n := 12) (t := 0) rfl (by decide) rfl arC0 (by decide) rfl (Nat.le_of_ble_eq_true rfl) (Nat.le_of_ble_eq_true rfl) (Nat.le_of_ble_eq_true rfl) dX7_init_307 (fun q7 => ?_)
  refine rc_putF (i := 0) (k := 19) rfl ffX7_28 rfl rfl (Nat.le_of_ble_eq_true rfl) (fun _ _ _ z => z) dX7_init_309 ?_
  refine rc_aload_n (x := h0) dX7_init_312 rfl ?_
  refine rc_bipush dX7_init_313 (by decide) ?_
  refine rc_newa (n := 54) (t := 0) rfl (by decide) rfl arC0 (by decide) rfl (Nat.le_of_ble_eq_true rfl) (Nat.le_of_ble_eq_true rfl) (Nat.le_of_ble_eq_true rfl) dX7_init_315 (fun q8 => ?_)
  refine rc_putF (i := 0) (k := 21) rfl ffX7_31 rfl rfl (Nat.le_of_ble_eq_true rfl) (fun _ _ _ z => z) dX7_init_317 ?_
  refine rc_aload_n (x := h0) dX7_init_320 rfl ?_
  refine rc_iconst dX7_init_321 ?_
  refine rc_newa (n := 2) (t := 2) rfl (by decide) rfl arC2 (by decide) rfl (Nat.le_of_ble_eq_true rfl) (Nat.le_of_ble_eq_true rfl) (Nat.le_of_ble_eq_true rfl) dX7_init_322 (fun q9 => ?_)
  refine rc_putF (i := 0) (k := 22) rfl ffX7_34 rfl rfl (Nat.le_of_ble_eq_true rfl) (fun _ _ _ z => z) dX7_init_324 ?_
  refine rc_aload_n (x := h0) dX7_init_327 rfl ?_
  refine rc_iconst dX7_init_328 ?_
  refine rc_newa (n := 4) (t := 0) rfl (by decide) rfl arC0 (by decide) rfl (Nat.le_of_ble_eq_true rfl) (Nat.le_of_ble_eq_true rfl) (Nat.le_of_ble_eq_true rfl) dX7_init_329 (fun q10 => ?_)
  refine rc_dup dX7_init_331 rfl ?_
  refine rc_iconst dX7_init_332 ?_
  refine rc_bipush dX7_init_333 (by decide) ?_
  refine rc_iastL (l0 := [(h0, .inr (7, [.ref q1, .ref q2, .int 0, .ref q3, .int 0, .int 0, .int 0, .int 0, .int 0, .int 0, .int 0, .int 0, .ref q4, .ref q5, .int 0, .ref q6, .int 0, .int 0, .int 0, .ref q7, .int 0, .ref q8, .ref q9, .null, .null, .null, .int 0])), (q1, .inl (E.2.2.2.2.1 0, 180, .inl (fun _ => 0))), (q2, .inl (E.2.2.2.2.1 0, 36, .inl (fun _ => 0))), (q3, .inl (E.2.2.2.2.1 0, 160, .inl (fun _ => 0))), (q4, .inl (E.2.2.2.2.1 0, 8, .inl f7)), (q5, .inl (E.2.2.2.2.1 0, 36, .inl f43)), (q6, .inl (E.2.2.2.2.1 0, 24, .inl (fun _ => 0))), (q7, .inl (E.2.2.2.2.1 0, 12, .inl (fun _ => 0))), (q8, .inl (E.2.2.2.2.1 0, 54, .inl (fun _ => 0))), (q9, .inl (E.2.2.2.2.1 2, 2, .inl (fun _ => 0)))]) (f := (fun _ => 0)) rfl (by decide) dX7_init_335 (fun f44 ef44 => ?_)
  refine rc_dup dX7_init_336 rfl ?_
  refine rc_iconst dX7_init_337 ?_
  refine rc_bipush dX7_init_338 (by decide) ?_
  refine rc_iastL (l0 := [(h0, .inr (7, [.ref q1, .ref q2, .int 0, .ref q3, .int 0, .int 0, .int 0, .int 0, .int 0, .int 0, .int 0, .int 0, .ref q4, .ref q5, .int 0, .ref q6, .int 0, .int 0, .int 0, .ref q7, .int 0, .ref q8, .ref q9, .null, .null, .null, .int 0])), (q1, .inl (E.2.2.2.2.1 0, 180, .inl (fun _ => 0))), (q2, .inl (E.2.2.2.2.1 0, 36, .inl (fun _ => 0))), (q3, .inl (E.2.2.2.2.1 0, 160, .inl (fun _ => 0))), (q4, .inl (E.2.2.2.2.1 0, 8, .inl f7)), (q5, .inl (E.2.2.2.2.1 0, 36, .inl f43)), (q6, .inl (E.2.2.2.2.1 0, 24, .inl (fun _ => 0))), (q7, .inl (E.2.2.2.2.1 0, 12, .inl (fun _ => 0))), (q8, .inl (E.2.2.2.2.1 0, 54, .inl (fun _ => 0))), (q9, .inl (E.2.2.2.2.1 2, 2, .inl (fun _ => 0)))]) (f := f44) rfl (by decide) dX7_init_340 (fun f45 ef45 => ?_)
  refine rc_dup dX7_init_341 rfl ?_
  refine rc_iconst dX7_init_342 ?_
  refine rc_bipush dX7_init_343 (by decide) ?_
  refine rc_iastL (l0 := [(h0, .inr (7, [.ref q1, .ref q2, .int 0, .ref q3, .int 0, .int 0, .int 0, .int 0, .int 0, .int 0, .int 0, .int 0, .ref q4, .ref q5, .int 0, .ref q6, .int 0, .int 0, .int 0, .ref q7, .int 0, .ref q8, .ref q9, .null, .null, .null, .int 0])), (q1, .inl (E.2.2.2.2.1 0, 180, .inl (fun _ => 0))), (q2, .inl (E.2.2.2.2.1 0, 36, .inl (fun _ => 0))), (q3, .inl (E.2.2.2.2.1 0, 160, .inl (fun _ => 0))), (q4, .inl (E.2.2.2.2.1 0, 8, .inl f7)), (q5, .inl (E.2.2.2.2.1 0, 36, .inl f43)), (q6, .inl (E.2.2.2.2.1 0, 24, .inl (fun _ => 0))), (q7, .inl (E.2.2.2.2.1 0, 12, .inl (fun _ => 0))), (q8, .inl (E.2.2.2.2.1 0, 54, .inl (fun _ => 0))), (q9, .inl (E.2.2.2.2.1 2, 2, .inl (fun _ => 0)))]) (f := f45) rfl (by decide) dX7_init_345 (fun f46 ef46 => ?_)
  refine rc_dup dX7_init_346 rfl ?_
  refine rc_iconst dX7_init_347 ?_
  refine rc_bipush dX7_init_348 (by decide) ?_
  refine rc_iastL (l0 := [(h0, .inr (7, [.ref q1, .ref q2, .int 0, .ref q3, .int 0, .int 0, .int 0, .int 0, .int 0, .int 0, .int 0, .int 0, .ref q4, .ref q5, .int 0, .ref q6, .int 0, .int 0, .int 0, .ref q7, .int 0, .ref q8, .ref q9, .null, .null, .null, .int 0])), (q1, .inl (E.2.2.2.2.1 0, 180, .inl (fun _ => 0))), (q2, .inl (E.2.2.2.2.1 0, 36, .inl (fun _ => 0))), (q3, .inl (E.2.2.2.2.1 0, 160, .inl (fun _ => 0))), (q4, .inl (E.2.2.2.2.1 0, 8, .inl f7)), (q5, .inl (E.2.2.2.2.1 0, 36, .inl f43)), (q6, .inl (E.2.2.2.2.1 0, 24, .inl (fun _ => 0))), (q7, .inl (E.2.2.2.2.1 0, 12, .inl (fun _ => 0))), (q8, .inl (E.2.2.2.2.1 0, 54, .inl (fun _ => 0))), (q9, .inl (E.2.2.2.2.1 2, 2, .inl (fun _ => 0)))]) (f := f46) rfl (by decide) dX7_init_350 (fun f47 ef47 => ?_)
  refine rc_putF (i := 0) (k := 23) rfl ffX7_38 rfl rfl (Nat.le_of_ble_eq_true rfl) (fun _ _ _ z => z) dX7_init_351 ?_
  refine rc_aload_n (x := h0) dX7_init_354 rfl ?_
  refine rc_iconst dX7_init_355 ?_
  refine rc_newa (n := 4) (t := 0) rfl (by decide) rfl arC0 (by decide) rfl (Nat.le_of_ble_eq_true rfl) (Nat.le_of_ble_eq_true rfl) (Nat.le_of_ble_eq_true rfl) dX7_init_356 (fun q11 => ?_)
  refine rc_putF (i := 0) (k := 24) rfl ffX7_41 rfl rfl (Nat.le_of_ble_eq_true rfl) (fun _ _ _ z => z) dX7_init_358 ?_
  refine rc_aload_n (x := h0) dX7_init_361 rfl ?_
  refine rc_sipush dX7_init_362 (by decide) ?_
  refine rc_newa (n := 160) (t := 0) rfl (by decide) rfl arC0 (by decide) rfl (Nat.le_of_ble_eq_true rfl) (Nat.le_of_ble_eq_true rfl) (Nat.le_of_ble_eq_true rfl) dX7_init_365 (fun q12 => ?_)
  refine rc_putF (i := 0) (k := 25) rfl ffX7_44 rfl rfl (Nat.le_of_ble_eq_true rfl) (fun _ _ _ z => z) dX7_init_367 ?_
  subst ef0
  subst ef1
  subst ef2
  subst ef3
  subst ef4
  subst ef5
  subst ef6
  subst ef7
  subst ef8
  subst ef9
  subst ef10
  subst ef11
  subst ef12
  subst ef13
  subst ef14
  subst ef15
  subst ef16
  subst ef17
  subst ef18
  subst ef19
  subst ef20
  subst ef21
  subst ef22
  subst ef23
  subst ef24
  subst ef25
  subst ef26
  subst ef27
  subst ef28
  subst ef29
  subst ef30
  subst ef31
  subst ef32
  subst ef33
  subst ef34
  subst ef35
  subst ef36
  subst ef37
  subst ef38
  subst ef39
  subst ef40
  subst ef41
  subst ef42
  subst ef43
  subst ef44
  subst ef45
  subst ef46
  subst ef47
  exact rc_ret ⟨q1, q2, q3, q4, q5, q6, q7, q8, q9, q10, q11, q12, rfl⟩ rfl dX7_init_370
