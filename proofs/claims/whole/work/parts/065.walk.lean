/-! java/lang/Integer.bitCount(I)I -/
abbrev rmJ6_bitCount_0f7a4 : Room := { frames := 0, cells := 0, slots := 0, locals := 0 }
def fJ6_bitCount_0f7a4  (v0 : Int32) : Option (Int32) :=
  (some ((((((((v0 - (((v0.toUInt32 >>> ((rI 1).toUInt32 &&& Int32.toUInt32 31)).toInt32) &&& (rI 1431655765))) &&& (rI 858993459)) + ((((v0 - (((v0.toUInt32 >>> ((rI 1).toUInt32 &&& Int32.toUInt32 31)).toInt32) &&& (rI 1431655765))).toUInt32 >>> ((rI 2).toUInt32 &&& Int32.toUInt32 31)).toInt32) &&& (rI 858993459))) + (((((v0 - (((v0.toUInt32 >>> ((rI 1).toUInt32 &&& Int32.toUInt32 31)).toInt32) &&& (rI 1431655765))) &&& (rI 858993459)) + ((((v0 - (((v0.toUInt32 >>> ((rI 1).toUInt32 &&& Int32.toUInt32 31)).toInt32) &&& (rI 1431655765))).toUInt32 >>> ((rI 2).toUInt32 &&& Int32.toUInt32 31)).toInt32) &&& (rI 858993459))).toUInt32 >>> ((rI 4).toUInt32 &&& Int32.toUInt32 31)).toInt32)) &&& (rI 252645135)) + (((((((v0 - (((v0.toUInt32 >>> ((rI 1).toUInt32 &&& Int32.toUInt32 31)).toInt32) &&& (rI 1431655765))) &&& (rI 858993459)) + ((((v0 - (((v0.toUInt32 >>> ((rI 1).toUInt32 &&& Int32.toUInt32 31)).toInt32) &&& (rI 1431655765))).toUInt32 >>> ((rI 2).toUInt32 &&& Int32.toUInt32 31)).toInt32) &&& (rI 858993459))) + (((((v0 - (((v0.toUInt32 >>> ((rI 1).toUInt32 &&& Int32.toUInt32 31)).toInt32) &&& (rI 1431655765))) &&& (rI 858993459)) + ((((v0 - (((v0.toUInt32 >>> ((rI 1).toUInt32 &&& Int32.toUInt32 31)).toInt32) &&& (rI 1431655765))).toUInt32 >>> ((rI 2).toUInt32 &&& Int32.toUInt32 31)).toInt32) &&& (rI 858993459))).toUInt32 >>> ((rI 4).toUInt32 &&& Int32.toUInt32 31)).toInt32)) &&& (rI 252645135)).toUInt32 >>> ((rI 8).toUInt32 &&& Int32.toUInt32 31)).toInt32)) + ((((((((v0 - (((v0.toUInt32 >>> ((rI 1).toUInt32 &&& Int32.toUInt32 31)).toInt32) &&& (rI 1431655765))) &&& (rI 858993459)) + ((((v0 - (((v0.toUInt32 >>> ((rI 1).toUInt32 &&& Int32.toUInt32 31)).toInt32) &&& (rI 1431655765))).toUInt32 >>> ((rI 2).toUInt32 &&& Int32.toUInt32 31)).toInt32) &&& (rI 858993459))) + (((((v0 - (((v0.toUInt32 >>> ((rI 1).toUInt32 &&& Int32.toUInt32 31)).toInt32) &&& (rI 1431655765))) &&& (rI 858993459)) + ((((v0 - (((v0.toUInt32 >>> ((rI 1).toUInt32 &&& Int32.toUInt32 31)).toInt32) &&& (rI 1431655765))).toUInt32 >>> ((rI 2).toUInt32 &&& Int32.toUInt32 31)).toInt32) &&& (rI 858993459))).toUInt32 >>> ((rI 4).toUInt32 &&& Int32.toUInt32 31)).toInt32)) &&& (rI 252645135)) + (((((((v0 - (((v0.toUInt32 >>> ((rI 1).toUInt32 &&& Int32.toUInt32 31)).toInt32) &&& (rI 1431655765))) &&& (rI 858993459)) + ((((v0 - (((v0.toUInt32 >>> ((rI 1).toUInt32 &&& Int32.toUInt32 31)).toInt32) &&& (rI 1431655765))).toUInt32 >>> ((rI 2).toUInt32 &&& Int32.toUInt32 31)).toInt32) &&& (rI 858993459))) + (((((v0 - (((v0.toUInt32 >>> ((rI 1).toUInt32 &&& Int32.toUInt32 31)).toInt32) &&& (rI 1431655765))) &&& (rI 858993459)) + ((((v0 - (((v0.toUInt32 >>> ((rI 1).toUInt32 &&& Int32.toUInt32 31)).toInt32) &&& (rI 1431655765))).toUInt32 >>> ((rI 2).toUInt32 &&& Int32.toUInt32 31)).toInt32) &&& (rI 858993459))).toUInt32 >>> ((rI 4).toUInt32 &&& Int32.toUInt32 31)).toInt32)) &&& (rI 252645135)).toUInt32 >>> ((rI 8).toUInt32 &&& Int32.toUInt32 31)).toInt32)).toUInt32 >>> ((rI 16).toUInt32 &&& Int32.toUInt32 31)).toInt32)) &&& (rI 63)))
set_option maxRecDepth 100000 in
theorem rJ6_bitCount_0f7a4 {E : rp_E} (σ : rp_S) (v0 : Int32)   : rp_R E (rp_mK E rmJ6_bitCount_0f7a4) mJ6_bitCount_0f7a4 0 [some (.int v0)] [] σ (rp_hi σ) (fJ6_bitCount_0f7a4 v0) := by
  rw [fJ6_bitCount_0f7a4]
  refine rp_iload_n (x := v0) dJ6_bitCount_0f7a4_0 rfl ?_
  refine rp_iload_n (x := v0) dJ6_bitCount_0f7a4_1 rfl ?_
  refine rp_iconst dJ6_bitCount_0f7a4_2 ?_
  refine rp_iushr dJ6_bitCount_0f7a4_3 ?_
  refine rp_ldcw (v := (rI 1431655765)) ciJ6_265 dJ6_bitCount_0f7a4_4 ?_
  refine rp_iand dJ6_bitCount_0f7a4_7 ?_
  refine rp_isub dJ6_bitCount_0f7a4_8 ?_
  refine rp_istore_n dJ6_bitCount_0f7a4_9 (by decide) rfl ?_
  refine rp_iload_n (x := (v0 - (((v0.toUInt32 >>> ((rI 1).toUInt32 &&& Int32.toUInt32 31)).toInt32) &&& (rI 1431655765)))) dJ6_bitCount_0f7a4_10 rfl ?_
  refine rp_ldcw (v := (rI 858993459)) ciJ6_266 dJ6_bitCount_0f7a4_11 ?_
  refine rp_iand dJ6_bitCount_0f7a4_14 ?_
  refine rp_iload_n (x := (v0 - (((v0.toUInt32 >>> ((rI 1).toUInt32 &&& Int32.toUInt32 31)).toInt32) &&& (rI 1431655765)))) dJ6_bitCount_0f7a4_15 rfl ?_
  refine rp_iconst dJ6_bitCount_0f7a4_16 ?_
  refine rp_iushr dJ6_bitCount_0f7a4_17 ?_
  refine rp_ldcw (v := (rI 858993459)) ciJ6_266 dJ6_bitCount_0f7a4_18 ?_
  refine rp_iand dJ6_bitCount_0f7a4_21 ?_
  refine rp_iadd dJ6_bitCount_0f7a4_22 ?_
  refine rp_istore_n dJ6_bitCount_0f7a4_23 (by decide) rfl ?_
  refine rp_iload_n (x := (((v0 - (((v0.toUInt32 >>> ((rI 1).toUInt32 &&& Int32.toUInt32 31)).toInt32) &&& (rI 1431655765))) &&& (rI 858993459)) + ((((v0 - (((v0.toUInt32 >>> ((rI 1).toUInt32 &&& Int32.toUInt32 31)).toInt32) &&& (rI 1431655765))).toUInt32 >>> ((rI 2).toUInt32 &&& Int32.toUInt32 31)).toInt32) &&& (rI 858993459)))) dJ6_bitCount_0f7a4_24 rfl ?_
  refine rp_iload_n (x := (((v0 - (((v0.toUInt32 >>> ((rI 1).toUInt32 &&& Int32.toUInt32 31)).toInt32) &&& (rI 1431655765))) &&& (rI 858993459)) + ((((v0 - (((v0.toUInt32 >>> ((rI 1).toUInt32 &&& Int32.toUInt32 31)).toInt32) &&& (rI 1431655765))).toUInt32 >>> ((rI 2).toUInt32 &&& Int32.toUInt32 31)).toInt32) &&& (rI 858993459)))) dJ6_bitCount_0f7a4_25 rfl ?_
  refine rp_iconst dJ6_bitCount_0f7a4_26 ?_
  refine rp_iushr dJ6_bitCount_0f7a4_27 ?_
  refine rp_iadd dJ6_bitCount_0f7a4_28 ?_
  refine rp_ldcw (v := (rI 252645135)) ciJ6_267 dJ6_bitCount_0f7a4_29 ?_
  refine rp_iand dJ6_bitCount_0f7a4_32 ?_
  refine rp_istore_n dJ6_bitCount_0f7a4_33 (by decide) rfl ?_
  refine rp_iload_n (x := (((((v0 - (((v0.toUInt32 >>> ((rI 1).toUInt32 &&& Int32.toUInt32 31)).toInt32) &&& (rI 1431655765))) &&& (rI 858993459)) + ((((v0 - (((v0.toUInt32 >>> ((rI 1).toUInt32 &&& Int32.toUInt32 31)).toInt32) &&& (rI 1431655765))).toUInt32 >>> ((rI 2).toUInt32 &&& Int32.toUInt32 31)).toInt32) &&& (rI 858993459))) + (((((v0 - (((v0.toUInt32 >>> ((rI 1).toUInt32 &&& Int32.toUInt32 31)).toInt32) &&& (rI 1431655765))) &&& (rI 858993459)) + ((((v0 - (((v0.toUInt32 >>> ((rI 1).toUInt32 &&& Int32.toUInt32 31)).toInt32) &&& (rI 1431655765))).toUInt32 >>> ((rI 2).toUInt32 &&& Int32.toUInt32 31)).toInt32) &&& (rI 858993459))).toUInt32 >>> ((rI 4).toUInt32 &&& Int32.toUInt32 31)).toInt32)) &&& (rI 252645135))) dJ6_bitCount_0f7a4_34 rfl ?_
  refine rp_iload_n (x := (((((v0 - (((v0.toUInt32 >>> ((rI 1).toUInt32 &&& Int32.toUInt32 31)).toInt32) &&& (rI 1431655765))) &&& (rI 858993459)) + ((((v0 - (((v0.toUInt32 >>> ((rI 1).toUInt32 &&& Int32.toUInt32 31)).toInt32) &&& (rI 1431655765))).toUInt32 >>> ((rI 2).toUInt32 &&& Int32.toUInt32 31)).toInt32) &&& (rI 858993459))) + (((((v0 - (((v0.toUInt32 >>> ((rI 1).toUInt32 &&& Int32.toUInt32 31)).toInt32) &&& (rI 1431655765))) &&& (rI 858993459)) + ((((v0 - (((v0.toUInt32 >>> ((rI 1).toUInt32 &&& Int32.toUInt32 31)).toInt32) &&& (rI 1431655765))).toUInt32 >>> ((rI 2).toUInt32 &&& Int32.toUInt32 31)).toInt32) &&& (rI 858993459))).toUInt32 >>> ((rI 4).toUInt32 &&& Int32.toUInt32 31)).toInt32)) &&& (rI 252645135))) dJ6_bitCount_0f7a4_35 rfl ?_
  refine rp_bipush dJ6_bitCount_0f7a4_36 (by decide) ?_
  refine rp_iushr dJ6_bitCount_0f7a4_38 ?_
  refine rp_iadd dJ6_bitCount_0f7a4_39 ?_
  refine rp_istore_n dJ6_bitCount_0f7a4_40 (by decide) rfl ?_
  refine rp_iload_n (x := ((((((v0 - (((v0.toUInt32 >>> ((rI 1).toUInt32 &&& Int32.toUInt32 31)).toInt32) &&& (rI 1431655765))) &&& (rI 858993459)) + ((((v0 - (((v0.toUInt32 >>> ((rI 1).toUInt32 &&& Int32.toUInt32 31)).toInt32) &&& (rI 1431655765))).toUInt32 >>> ((rI 2).toUInt32 &&& Int32.toUInt32 31)).toInt32) &&& (rI 858993459))) + (((((v0 - (((v0.toUInt32 >>> ((rI 1).toUInt32 &&& Int32.toUInt32 31)).toInt32) &&& (rI 1431655765))) &&& (rI 858993459)) + ((((v0 - (((v0.toUInt32 >>> ((rI 1).toUInt32 &&& Int32.toUInt32 31)).toInt32) &&& (rI 1431655765))).toUInt32 >>> ((rI 2).toUInt32 &&& Int32.toUInt32 31)).toInt32) &&& (rI 858993459))).toUInt32 >>> ((rI 4).toUInt32 &&& Int32.toUInt32 31)).toInt32)) &&& (rI 252645135)) + (((((((v0 - (((v0.toUInt32 >>> ((rI 1).toUInt32 &&& Int32.toUInt32 31)).toInt32) &&& (rI 1431655765))) &&& (rI 858993459)) + ((((v0 - (((v0.toUInt32 >>> ((rI 1).toUInt32 &&& Int32.toUInt32 31)).toInt32) &&& (rI 1431655765))).toUInt32 >>> ((rI 2).toUInt32 &&& Int32.toUInt32 31)).toInt32) &&& (rI 858993459))) + (((((v0 - (((v0.toUInt32 >>> ((rI 1).toUInt32 &&& Int32.toUInt32 31)).toInt32) &&& (rI 1431655765))) &&& (rI 858993459)) + ((((v0 - (((v0.toUInt32 >>> ((rI 1).toUInt32 &&& Int32.toUInt32 31)).toInt32) &&& (rI 1431655765))).toUInt32 >>> ((rI 2).toUInt32 &&& Int32.toUInt32 31)).toInt32) &&& (rI 858993459))).toUInt32 >>> ((rI 4).toUInt32 &&& Int32.toUInt32 31)).toInt32)) &&& (rI 252645135)).toUInt32 >>> ((rI 8).toUInt32 &&& Int32.toUInt32 31)).toInt32))) dJ6_bitCount_0f7a4_41 rfl ?_
  refine rp_iload_n (x := ((((((v0 - (((v0.toUInt32 >>> ((rI 1).toUInt32 &&& Int32.toUInt32 31)).toInt32) &&& (rI 1431655765))) &&& (rI 858993459)) + ((((v0 - (((v0.toUInt32 >>> ((rI 1).toUInt32 &&& Int32.toUInt32 31)).toInt32) &&& (rI 1431655765))).toUInt32 >>> ((rI 2).toUInt32 &&& Int32.toUInt32 31)).toInt32) &&& (rI 858993459))) + (((((v0 - (((v0.toUInt32 >>> ((rI 1).toUInt32 &&& Int32.toUInt32 31)).toInt32) &&& (rI 1431655765))) &&& (rI 858993459)) + ((((v0 - (((v0.toUInt32 >>> ((rI 1).toUInt32 &&& Int32.toUInt32 31)).toInt32) &&& (rI 1431655765))).toUInt32 >>> ((rI 2).toUInt32 &&& Int32.toUInt32 31)).toInt32) &&& (rI 858993459))).toUInt32 >>> ((rI 4).toUInt32 &&& Int32.toUInt32 31)).toInt32)) &&& (rI 252645135)) + (((((((v0 - (((v0.toUInt32 >>> ((rI 1).toUInt32 &&& Int32.toUInt32 31)).toInt32) &&& (rI 1431655765))) &&& (rI 858993459)) + ((((v0 - (((v0.toUInt32 >>> ((rI 1).toUInt32 &&& Int32.toUInt32 31)).toInt32) &&& (rI 1431655765))).toUInt32 >>> ((rI 2).toUInt32 &&& Int32.toUInt32 31)).toInt32) &&& (rI 858993459))) + (((((v0 - (((v0.toUInt32 >>> ((rI 1).toUInt32 &&& Int32.toUInt32 31)).toInt32) &&& (rI 1431655765))) &&& (rI 858993459)) + ((((v0 - (((v0.toUInt32 >>> ((rI 1).toUInt32 &&& Int32.toUInt32 31)).toInt32) &&& (rI 1431655765))).toUInt32 >>> ((rI 2).toUInt32 &&& Int32.toUInt32 31)).toInt32) &&& (rI 858993459))).toUInt32 >>> ((rI 4).toUInt32 &&& Int32.toUInt32 31)).toInt32)) &&& (rI 252645135)).toUInt32 >>> ((rI 8).toUInt32 &&& Int32.toUInt32 31)).toInt32))) dJ6_bitCount_0f7a4_42 rfl ?_
  refine rp_bipush dJ6_bitCount_0f7a4_43 (by decide) ?_
  refine rp_iushr dJ6_bitCount_0f7a4_45 ?_
  refine rp_iadd dJ6_bitCount_0f7a4_46 ?_
  refine rp_istore_n dJ6_bitCount_0f7a4_47 (by decide) rfl ?_
  refine rp_iload_n (x := (((((((v0 - (((v0.toUInt32 >>> ((rI 1).toUInt32 &&& Int32.toUInt32 31)).toInt32) &&& (rI 1431655765))) &&& (rI 858993459)) + ((((v0 - (((v0.toUInt32 >>> ((rI 1).toUInt32 &&& Int32.toUInt32 31)).toInt32) &&& (rI 1431655765))).toUInt32 >>> ((rI 2).toUInt32 &&& Int32.toUInt32 31)).toInt32) &&& (rI 858993459))) + (((((v0 - (((v0.toUInt32 >>> ((rI 1).toUInt32 &&& Int32.toUInt32 31)).toInt32) &&& (rI 1431655765))) &&& (rI 858993459)) + ((((v0 - (((v0.toUInt32 >>> ((rI 1).toUInt32 &&& Int32.toUInt32 31)).toInt32) &&& (rI 1431655765))).toUInt32 >>> ((rI 2).toUInt32 &&& Int32.toUInt32 31)).toInt32) &&& (rI 858993459))).toUInt32 >>> ((rI 4).toUInt32 &&& Int32.toUInt32 31)).toInt32)) &&& (rI 252645135)) + (((((((v0 - (((v0.toUInt32 >>> ((rI 1).toUInt32 &&& Int32.toUInt32 31)).toInt32) &&& (rI 1431655765))) &&& (rI 858993459)) + ((((v0 - (((v0.toUInt32 >>> ((rI 1).toUInt32 &&& Int32.toUInt32 31)).toInt32) &&& (rI 1431655765))).toUInt32 >>> ((rI 2).toUInt32 &&& Int32.toUInt32 31)).toInt32) &&& (rI 858993459))) + (((((v0 - (((v0.toUInt32 >>> ((rI 1).toUInt32 &&& Int32.toUInt32 31)).toInt32) &&& (rI 1431655765))) &&& (rI 858993459)) + ((((v0 - (((v0.toUInt32 >>> ((rI 1).toUInt32 &&& Int32.toUInt32 31)).toInt32) &&& (rI 1431655765))).toUInt32 >>> ((rI 2).toUInt32 &&& Int32.toUInt32 31)).toInt32) &&& (rI 858993459))).toUInt32 >>> ((rI 4).toUInt32 &&& Int32.toUInt32 31)).toInt32)) &&& (rI 252645135)).toUInt32 >>> ((rI 8).toUInt32 &&& Int32.toUInt32 31)).toInt32)) + ((((((((v0 - (((v0.toUInt32 >>> ((rI 1).toUInt32 &&& Int32.toUInt32 31)).toInt32) &&& (rI 1431655765))) &&& (rI 858993459)) + ((((v0 - (((v0.toUInt32 >>> ((rI 1).toUInt32 &&& Int32.toUInt32 31)).toInt32) &&& (rI 1431655765))).toUInt32 >>> ((rI 2).toUInt32 &&& Int32.toUInt32 31)).toInt32) &&& (rI 858993459))) + (((((v0 - (((v0.toUInt32 >>> ((rI 1).toUInt32 &&& Int32.toUInt32 31)).toInt32) &&& (rI 1431655765))) &&& (rI 858993459)) + ((((v0 - (((v0.toUInt32 >>> ((rI 1).toUInt32 &&& Int32.toUInt32 31)).toInt32) &&& (rI 1431655765))).toUInt32 >>> ((rI 2).toUInt32 &&& Int32.toUInt32 31)).toInt32) &&& (rI 858993459))).toUInt32 >>> ((rI 4).toUInt32 &&& Int32.toUInt32 31)).toInt32)) &&& (rI 252645135)) + (((((((v0 - (((v0.toUInt32 >>> ((rI 1).toUInt32 &&& Int32.toUInt32 31)).toInt32) &&& (rI 1431655765))) &&& (rI 858993459)) + ((((v0 - (((v0.toUInt32 >>> ((rI 1).toUInt32 &&& Int32.toUInt32 31)).toInt32) &&& (rI 1431655765))).toUInt32 >>> ((rI 2).toUInt32 &&& Int32.toUInt32 31)).toInt32) &&& (rI 858993459))) + (((((v0 - (((v0.toUInt32 >>> ((rI 1).toUInt32 &&& Int32.toUInt32 31)).toInt32) &&& (rI 1431655765))) &&& (rI 858993459)) + ((((v0 - (((v0.toUInt32 >>> ((rI 1).toUInt32 &&& Int32.toUInt32 31)).toInt32) &&& (rI 1431655765))).toUInt32 >>> ((rI 2).toUInt32 &&& Int32.toUInt32 31)).toInt32) &&& (rI 858993459))).toUInt32 >>> ((rI 4).toUInt32 &&& Int32.toUInt32 31)).toInt32)) &&& (rI 252645135)).toUInt32 >>> ((rI 8).toUInt32 &&& Int32.toUInt32 31)).toInt32)).toUInt32 >>> ((rI 16).toUInt32 &&& Int32.toUInt32 31)).toInt32))) dJ6_bitCount_0f7a4_48 rfl ?_
  refine rp_bipush dJ6_bitCount_0f7a4_49 (by decide) ?_
  refine rp_iand dJ6_bitCount_0f7a4_51 ?_
  exact rp_iret rfl rfl dJ6_bitCount_0f7a4_52
/-! RocketPrint.when(II)I -/
abbrev rmX6_when : Room := { frames := 6, cells := 0, slots := 0, locals := 138 }
def fX6_when_43  : Nat → rp_S → Int32 → Int32 → Int32 → Option (Int32 × rp_S)
  | 0, _, _, _, _ => none
  | n + 1, σ, v1, v2, v3 =>
    ((rq_td 1 (rI 2)).bind fun x5 =>
    (if x5 < v3 then
    ((fX0_answer σ v2).bind fun x6 =>
    (some (x6, σ)))
  else
    ((fX1_setWork σ 5 v1 (rI 2) v3).bind fun σ7 =>
    ((fX3_settle σ7).bind fun σ8 =>
    ((fX3_readersWhole σ8 v1).bind fun x9 =>
    ((fJ6_bitCount_0f7a4 x9).bind fun x10 =>
    ((fX0_offer σ8 v3 x10).bind fun σ11 =>
    (fX6_when_43 n σ11 v1 v2 (v3 + (rI 1))))))))))
set_option maxRecDepth 100000 in
theorem rX6_when_43 {E : rp_E}  : ∀ (n : Nat) (σ : rp_S) (v1 : Int32) (v2 : Int32) (v3 : Int32), rp_R E (rp_mK E rmX6_when) mX6_when 43 [some (.ref (E.2.2.2.1 0)), some (.int v1), some (.int v2), some (.int v3)] [] σ rp_hI (fX6_when_43 n σ v1 v2 v3) := by
  intro n
  induction n with
  | zero =>
    intro σ v1 v2 v3
    rw [fX6_when_43]
    exact rp_none
  | succ n ih =>
    intro σ v1 v2 v3
    rw [fX6_when_43]
    refine rp_iload_n (x := v3) dX6_when_43 rfl ?_
    refine rp_gets (i := 1) (by decide) slX6_197 dX6_when_44 ?_
    refine rp_iconst dX6_when_47 ?_
    refine rp_tald (i := 1) (by decide) dX6_when_48 (fun x5 => ?_)
    refine rp_icmp_gt (tgt := 97) dX6_when_49 (by decide) ?_ ?_
    · refine rp_aload_n (x := (E.2.2.2.1 0)) dX6_when_97 rfl ?_
      refine rp_getR (k := 2) (b := 12) sh0 rfl fdX6_26 dX6_when_98 ?_
      refine rp_iload_n (x := v2) dX6_when_101 rfl ?_
      refine rp_callV_hi (As := [.int v2]) (rest := []) (b := (E.2.2.2.1 12)) (rX0_answer σ v2) cbX0_answer lkX6_194 viX0_answer (rp_rcO sh12 rfl) rfl (Nat.le_of_ble_eq_true rfl) ⟨rfl, rfl, ⟨Nat.le_of_ble_eq_true rfl, Nat.le_of_ble_eq_true rfl⟩, Nat.zero_le _, Nat.zero_le _⟩ rfl (Nat.le_of_ble_eq_true rfl) dX6_when_102 (fun x6 hx6 => ?_)
      exact rp_iret rfl rfl dX6_when_105
    · refine rp_aload_n (x := (E.2.2.2.1 0)) dX6_when_52 rfl ?_
      refine rp_getR (k := 1) (b := 4) sh0 rfl fdX6_19 dX6_when_53 ?_
      refine rp_getR (k := 0) (b := 5) sh4 rfl fdX6_69 dX6_when_56 ?_
      refine rp_iload_n (x := v1) dX6_when_59 rfl ?_
      refine rp_iconst dX6_when_60 ?_
      refine rp_iload_n (x := v3) dX6_when_61 rfl ?_
      refine rp_callV_hv (As := [.int v1, .int (rI 2), .int v3]) (rest := []) (b := (E.2.2.2.1 5)) (rX1_setWork σ 5 v1 (rI 2) v3 ni5) cbX1_setWork lkX6_163 viX1_setWork (rp_rcO sh5 rfl) rfl (Nat.le_of_ble_eq_true rfl) ⟨rfl, rfl, ⟨Nat.le_of_ble_eq_true rfl, Nat.le_of_ble_eq_true rfl⟩, Nat.zero_le _, Nat.zero_le _⟩ rfl (Nat.le_of_ble_eq_true rfl) dX6_when_62 (fun σ7 hσ7 => ?_)
      refine rp_aload_n (x := (E.2.2.2.1 0)) dX6_when_65 rfl ?_
      refine rp_getR (k := 1) (b := 4) sh0 rfl fdX6_19 dX6_when_66 ?_
      refine rp_callV_hv (As := []) (rest := []) (b := (E.2.2.2.1 4)) (rX3_settle σ7) cbX3_settle lkX6_201 viX3_settle (rp_rcO sh4 rfl) rfl (Nat.le_of_ble_eq_true rfl) ⟨rfl, rfl, ⟨Nat.le_of_ble_eq_true rfl, Nat.le_of_ble_eq_true rfl⟩, Nat.zero_le _, Nat.zero_le _⟩ rfl (Nat.le_of_ble_eq_true rfl) dX6_when_69 (fun σ8 hσ8 => ?_)
      refine rp_aload_n (x := (E.2.2.2.1 0)) dX6_when_72 rfl ?_
      refine rp_getR (k := 2) (b := 12) sh0 rfl fdX6_26 dX6_when_73 ?_
      refine rp_iload_n (x := v3) dX6_when_76 rfl ?_
      refine rp_aload_n (x := (E.2.2.2.1 0)) dX6_when_77 rfl ?_
      refine rp_getR (k := 1) (b := 4) sh0 rfl fdX6_19 dX6_when_78 ?_
      refine rp_iload_n (x := v1) dX6_when_81 rfl ?_
      refine rp_callV_hi (As := [.int v1]) (rest := [.int v3, .ref (E.2.2.2.1 12)]) (b := (E.2.2.2.1 4)) (rX3_readersWhole σ8 v1) cbX3_readersWhole lkX6_135 viX3_readersWhole (rp_rcO sh4 rfl) rfl (Nat.le_of_ble_eq_true rfl) ⟨rfl, rfl, ⟨Nat.le_of_ble_eq_true rfl, Nat.le_of_ble_eq_true rfl⟩, Nat.zero_le _, Nat.zero_le _⟩ rfl (Nat.le_of_ble_eq_true rfl) dX6_when_82 (fun x9 hx9 => ?_)
      refine rp_callS_hi (As := [.int x9]) (rest := [.int v3, .ref (E.2.2.2.1 12)]) (rJ6_bitCount_0f7a4 σ8 x9) cbJ6_bitCount_0f7a4 lkX6_204 stJ6_bitCount_0f7a4 rfl (Nat.le_of_ble_eq_true rfl) ⟨rfl, rfl, ⟨Nat.le_of_ble_eq_true rfl, Nat.le_of_ble_eq_true rfl⟩, Nat.zero_le _, Nat.zero_le _⟩ rfl (Nat.le_of_ble_eq_true rfl) dX6_when_85 (fun x10 hx10 => ?_)
      refine rp_callV_hv (As := [.int v3, .int x10]) (rest := []) (b := (E.2.2.2.1 12)) (rX0_offer σ8 v3 x10) cbX0_offer lkX6_190 viX0_offer (rp_rcO sh12 rfl) rfl (Nat.le_of_ble_eq_true rfl) ⟨rfl, rfl, ⟨Nat.le_of_ble_eq_true rfl, Nat.le_of_ble_eq_true rfl⟩, Nat.zero_le _, Nat.zero_le _⟩ rfl (Nat.le_of_ble_eq_true rfl) dX6_when_88 (fun σ11 hσ11 => ?_)
      refine rp_iinc (x := v3) dX6_when_91 rfl (by decide) rfl ?_
      refine rp_goto (tgt := 43) dX6_when_94 (by decide) ?_
      refine rp_mask [true, true, true, true] (vs2 := [some (.ref (E.2.2.2.1 0)), some (.int v1), some (.int v2), some (.int (v3 + (rI 1)))]) rfl rfl ?_
      exact ih σ11 v1 v2 (v3 + (rI 1))
def fX6_when (σ : rp_S) (v1 : Int32) (v2 : Int32) : Option (Int32 × rp_S) :=
  ((fX1_hasWork σ 1 v1).bind fun x1 =>
    (if x1 = 0 then
    (some ((rI (-1)), σ))
  else
    ((fX6_within v2 (rI 0) (rI 1)).bind fun x2 =>
    (if x2 = 0 then
    (some ((rI (-1)), σ))
  else
    ((fX3_begin σ 1).bind fun σ3 =>
    ((fX0_beginAbove σ3 (rI (-1))).bind fun σ4 =>
    (fX6_when_43 1000 σ4 v1 v2 (rI 0))))))))
set_option maxRecDepth 100000 in
theorem rX6_when {E : rp_E} (σ : rp_S) (v1 : Int32) (v2 : Int32)   : rp_R E (rp_mK E rmX6_when) mX6_when 0 [some (.ref (E.2.2.2.1 0)), some (.int v1), some (.int v2), none] [] σ rp_hI (fX6_when σ v1 v2) := by
  rw [fX6_when]
  refine rp_aload_n (x := (E.2.2.2.1 0)) dX6_when_0 rfl ?_
  refine rp_getR (k := 0) (b := 1) sh0 rfl fdX6_10 dX6_when_1 ?_
  refine rp_iload_n (x := v1) dX6_when_4 rfl ?_
  refine rp_callV_hi (As := [.int v1]) (rest := []) (b := (E.2.2.2.1 1)) (rX1_hasWork σ 1 v1 ni1) cbX1_hasWork lkX6_114 viX1_hasWork (rp_rcO sh1 rfl) rfl (Nat.le_of_ble_eq_true rfl) ⟨rfl, rfl, ⟨Nat.le_of_ble_eq_true rfl, Nat.le_of_ble_eq_true rfl⟩, Nat.zero_le _, Nat.zero_le _⟩ rfl (Nat.le_of_ble_eq_true rfl) dX6_when_5 (fun x1 hx1 => ?_)
  refine rp_if_eq (tgt := 20) dX6_when_8 (by decide) ?_ ?_
  · refine rp_iconst dX6_when_20 ?_
    exact rp_iret rfl rfl dX6_when_21
  · refine rp_iload_n (x := v2) dX6_when_11 rfl ?_
    refine rp_iconst dX6_when_12 ?_
    refine rp_iconst dX6_when_13 ?_
    refine rp_callS_hi (As := [.int v2, .int (rI 0), .int (rI 1)]) (rest := []) (rX6_within σ v2 (rI 0) (rI 1)) cbX6_within lkX6_57 stX6_within rfl (Nat.le_of_ble_eq_true rfl) ⟨rfl, rfl, ⟨Nat.le_of_ble_eq_true rfl, Nat.le_of_ble_eq_true rfl⟩, Nat.zero_le _, Nat.zero_le _⟩ rfl (Nat.le_of_ble_eq_true rfl) dX6_when_14 (fun x2 hx2 => ?_)
    refine rp_if_ne (tgt := 22) dX6_when_17 (by decide) ?_ ?_
    · refine rp_aload_n (x := (E.2.2.2.1 0)) dX6_when_22 rfl ?_
      refine rp_getR (k := 1) (b := 4) sh0 rfl fdX6_19 dX6_when_23 ?_
      refine rp_aload_n (x := (E.2.2.2.1 0)) dX6_when_26 rfl ?_
      refine rp_getR (k := 0) (b := 1) sh0 rfl fdX6_10 dX6_when_27 ?_
      refine rp_callV_hv (As := [.ref (E.2.2.2.1 1)]) (rest := []) (b := (E.2.2.2.1 4)) (rX3_begin σ 1 ni1) cbX3_begin lkX6_104 viX3_begin (rp_rcO sh4 rfl) rfl (Nat.le_of_ble_eq_true rfl) ⟨rfl, rfl, ⟨Nat.le_of_ble_eq_true rfl, Nat.le_of_ble_eq_true rfl⟩, Nat.zero_le _, Nat.zero_le _⟩ rfl (Nat.le_of_ble_eq_true rfl) dX6_when_30 (fun σ3 hσ3 => ?_)
      refine rp_aload_n (x := (E.2.2.2.1 0)) dX6_when_33 rfl ?_
      refine rp_getR (k := 2) (b := 12) sh0 rfl fdX6_26 dX6_when_34 ?_
      refine rp_iconst dX6_when_37 ?_
      refine rp_callV_hv (As := [.int (rI (-1))]) (rest := []) (b := (E.2.2.2.1 12)) (rX0_beginAbove σ3 (rI (-1))) cbX0_beginAbove lkX6_183 viX0_beginAbove (rp_rcO sh12 rfl) rfl (Nat.le_of_ble_eq_true rfl) ⟨rfl, rfl, ⟨Nat.le_of_ble_eq_true rfl, Nat.le_of_ble_eq_true rfl⟩, Nat.zero_le _, Nat.zero_le _⟩ rfl (Nat.le_of_ble_eq_true rfl) dX6_when_38 (fun σ4 hσ4 => ?_)
      refine rp_iconst dX6_when_41 ?_
      refine rp_istore_n dX6_when_42 (by decide) rfl ?_
      refine rp_mask [true, true, true, true] (vs2 := [some (.ref (E.2.2.2.1 0)), some (.int v1), some (.int v2), some (.int (rI 0))]) rfl rfl ?_
      exact rX6_when_43 1000 σ4 v1 v2 (rI 0)
    · refine rp_iconst dX6_when_20 ?_
      exact rp_iret rfl rfl dX6_when_21
/-! RocketPrintModel.copies(II)V -/
abbrev rmX7_copies : Room := { frames := 0, cells := 0, slots := 0, locals := 0 }
def fX7_copies_2  : Nat → rp_S → Int32 → Int32 → Int32 → Option (rp_S)
  | 0, _, _, _, _ => none
  | n + 1, σ, v1, v2, v3 =>
    (if (rI 36) ≤ v3 then
    (some σ)
  else
    ((rq_rd σ 29 180 (v1 + v3)).bind fun x1 =>
    ((rq_wr σ 29 180 (v2 + v3) x1).bind fun σ2 =>
    (fX7_copies_2 n σ2 v1 v2 (v3 + (rI 1))))))
set_option maxRecDepth 100000 in
theorem rX7_copies_2 {E : rp_E}  : ∀ (n : Nat) (σ : rp_S) (v1 : Int32) (v2 : Int32) (v3 : Int32), rp_R E (rp_mK E rmX7_copies) mX7_copies 2 [some (.ref (E.2.2.2.1 28)), some (.int v1), some (.int v2), some (.int v3)] [] σ rp_hv (fX7_copies_2 n σ v1 v2 v3) := by
  intro n
  induction n with
  | zero =>
    intro σ v1 v2 v3
    rw [fX7_copies_2]
    exact rp_none
  | succ n ih =>
    intro σ v1 v2 v3
    rw [fX7_copies_2]
    refine rp_iload_n (x := v3) dX7_copies_2 rfl ?_
    refine rp_bipush dX7_copies_3 (by decide) ?_
    refine rp_icmp_ge (tgt := 30) dX7_copies_5 (by decide) ?_ ?_
    · exact rp_vret rfl rfl dX7_copies_30
    · refine rp_aload_n (x := (E.2.2.2.1 28)) dX7_copies_8 rfl ?_
      refine rp_getR (k := 0) (b := 29) sh28 rfl fdX7_7 dX7_copies_9 ?_
      refine rp_iload_n (x := v2) dX7_copies_12 rfl ?_
      refine rp_iload_n (x := v3) dX7_copies_13 rfl ?_
      refine rp_iadd dX7_copies_14 ?_
      refine rp_aload_n (x := (E.2.2.2.1 28)) dX7_copies_15 rfl ?_
      refine rp_getR (k := 0) (b := 29) sh28 rfl fdX7_7 dX7_copies_16 ?_
      refine rp_iload_n (x := v1) dX7_copies_19 rfl ?_
      refine rp_iload_n (x := v3) dX7_copies_20 rfl ?_
      refine rp_iadd dX7_copies_21 ?_
      refine rp_iaload sh29 dX7_copies_22 (fun x1 => ?_)
      refine rp_iastore sh29 dX7_copies_23 (fun σ2 => ?_)
      refine rp_iinc (x := v3) dX7_copies_24 rfl (by decide) rfl ?_
      refine rp_goto (tgt := 2) dX7_copies_27 (by decide) ?_
      refine rp_mask [true, true, true, true] (vs2 := [some (.ref (E.2.2.2.1 28)), some (.int v1), some (.int v2), some (.int (v3 + (rI 1)))]) rfl rfl ?_
      exact ih σ2 v1 v2 (v3 + (rI 1))
def fX7_copies (σ : rp_S) (v1 : Int32) (v2 : Int32) : Option (rp_S) :=
  (fX7_copies_2 1000 σ v1 v2 (rI 0))
set_option maxRecDepth 100000 in
theorem rX7_copies {E : rp_E} (σ : rp_S) (v1 : Int32) (v2 : Int32)   : rp_R E (rp_mK E rmX7_copies) mX7_copies 0 [some (.ref (E.2.2.2.1 28)), some (.int v1), some (.int v2), none] [] σ rp_hv (fX7_copies σ v1 v2) := by
  rw [fX7_copies]
  refine rp_iconst dX7_copies_0 ?_
  refine rp_istore_n dX7_copies_1 (by decide) rfl ?_
  refine rp_mask [true, true, true, true] (vs2 := [some (.ref (E.2.2.2.1 28)), some (.int v1), some (.int v2), some (.int (rI 0))]) rfl rfl ?_
  exact rX7_copies_2 1000 σ v1 v2 (rI 0)
/-! RocketPrintModel.bitsOf(I)I -/
abbrev rmX7_bitsOf : Room := { frames := 0, cells := 0, slots := 0, locals := 0 }
def fX7_bitsOf_4  : Nat → Int32 → Int32 → Option (Int32)
  | 0, _, _ => none
  | n + 1, v1, v2 =>
    (if v2 ≤ 0 then
    (some v1)
  else
    (fX7_bitsOf_4 n (v1 + (v2 &&& (rI 1))) (v2 >>> ((rI 1) &&& 31))))
set_option maxRecDepth 100000 in
theorem rX7_bitsOf_4 {E : rp_E} (σ : rp_S) : ∀ (n : Nat) (v1 : Int32) (v2 : Int32), rp_R E (rp_mK E rmX7_bitsOf) mX7_bitsOf 4 [none, some (.int v1), some (.int v2)] [] σ (rp_hi σ) (fX7_bitsOf_4 n v1 v2) := by
  intro n
  induction n with
  | zero =>
    intro v1 v2
    rw [fX7_bitsOf_4]
    exact rp_none
  | succ n ih =>
    intro v1 v2
    rw [fX7_bitsOf_4]
    refine rp_iload_n (x := v2) dX7_bitsOf_4 rfl ?_
    refine rp_if_le (tgt := 21) dX7_bitsOf_5 (by decide) ?_ ?_
    · refine rp_iload_n (x := v1) dX7_bitsOf_21 rfl ?_
      exact rp_iret rfl rfl dX7_bitsOf_22
    · refine rp_iload_n (x := v1) dX7_bitsOf_8 rfl ?_
      refine rp_iload_n (x := v2) dX7_bitsOf_9 rfl ?_
      refine rp_iconst dX7_bitsOf_10 ?_
      refine rp_iand dX7_bitsOf_11 ?_
      refine rp_iadd dX7_bitsOf_12 ?_
      refine rp_istore_n dX7_bitsOf_13 (by decide) rfl ?_
      refine rp_iload_n (x := v2) dX7_bitsOf_14 rfl ?_
      refine rp_iconst dX7_bitsOf_15 ?_
      refine rp_ishr dX7_bitsOf_16 ?_
      refine rp_istore_n dX7_bitsOf_17 (by decide) rfl ?_
      refine rp_goto (tgt := 4) dX7_bitsOf_18 (by decide) ?_
      refine rp_mask [false, true, true] (vs2 := [none, some (.int (v1 + (v2 &&& (rI 1)))), some (.int (v2 >>> ((rI 1) &&& 31)))]) rfl rfl ?_
      exact ih (v1 + (v2 &&& (rI 1))) (v2 >>> ((rI 1) &&& 31))
def fX7_bitsOf  (v0 : Int32) : Option (Int32) :=
  (fX7_bitsOf_4 1000 (rI 0) v0)
set_option maxRecDepth 100000 in
theorem rX7_bitsOf {E : rp_E} (σ : rp_S) (v0 : Int32)   : rp_R E (rp_mK E rmX7_bitsOf) mX7_bitsOf 0 [some (.int v0), none, none] [] σ (rp_hi σ) (fX7_bitsOf v0) := by
  rw [fX7_bitsOf]
  refine rp_iconst dX7_bitsOf_0 ?_
  refine rp_istore_n dX7_bitsOf_1 (by decide) rfl ?_
  refine rp_iload_n (x := v0) dX7_bitsOf_2 rfl ?_
  refine rp_istore_n dX7_bitsOf_3 (by decide) rfl ?_
  refine rp_mask [false, true, true] (vs2 := [none, some (.int (rI 0)), some (.int v0)]) rfl rfl ?_
  exact rX7_bitsOf_4 σ 1000 (rI 0) v0
/-! RocketPrintModel.when(II)I -/
abbrev rmX7_when : Room := { frames := 4, cells := 0, slots := 0, locals := 101 }
def fX7_when_102 (k36 : rp_S → Int32 → Int32 → Int32 → Int32 → Int32 → Option (Int32 × rp_S)) (σ : rp_S) (v1 : Int32) (v2 : Int32) (v4 : Int32) (v5 : Int32) (s0 : Int32) : Option (Int32 × rp_S) :=
  (k36 σ v1 v2 s0 v4 (v5 + (rI 1)))
set_option maxRecDepth 100000 in
theorem rX7_when_102 {E : rp_E} (k36 : rp_S → Int32 → Int32 → Int32 → Int32 → Int32 → Option (Int32 × rp_S)) (hk36 : ∀ (σ : rp_S) (v1 : Int32) (v2 : Int32) (v3 : Int32) (v4 : Int32) (v5 : Int32), rp_R E (rp_mK E rmX7_when) mX7_when 36 [some (.ref (E.2.2.2.1 28)), some (.int v1), some (.int v2), some (.int v3), some (.int v4), some (.int v5), none] [] σ rp_hI (k36 σ v1 v2 v3 v4 v5)) (σ : rp_S) (v1 : Int32) (v2 : Int32) (v4 : Int32) (v5 : Int32) (s0 : Int32) : rp_R E (rp_mK E rmX7_when) mX7_when 102 [some (.ref (E.2.2.2.1 28)), some (.int v1), some (.int v2), none, some (.int v4), some (.int v5), none] [.int s0] σ rp_hI (fX7_when_102 k36 σ v1 v2 v4 v5 s0) := by
  rw [fX7_when_102]
  refine rp_istore_n dX7_when_102 (by decide) rfl ?_
  refine rp_iinc (x := v5) dX7_when_103 rfl (by decide) rfl ?_
  refine rp_goto (tgt := 36) dX7_when_106 (by decide) ?_
  refine rp_mask [true, true, true, true, true, true, false] (vs2 := [some (.ref (E.2.2.2.1 28)), some (.int v1), some (.int v2), some (.int s0), some (.int v4), some (.int (v5 + (rI 1))), none]) rfl rfl ?_
  exact hk36 σ v1 v2 s0 v4 (v5 + (rI 1))
def fX7_when_88 (k36 : rp_S → Int32 → Int32 → Int32 → Int32 → Int32 → Option (Int32 × rp_S)) (σ : rp_S) (v1 : Int32) (v2 : Int32) (v3 : Int32) (v5 : Int32) (v6 : Int32) (s0 : Int32) : Option (Int32 × rp_S) :=
  (if v6 ≤ v3 then
    (fX7_when_102 k36 σ v1 v2 s0 v5 v3)
  else
    (fX7_when_102 k36 σ v1 v2 s0 v5 v6))
set_option maxRecDepth 100000 in
theorem rX7_when_88 {E : rp_E} (k36 : rp_S → Int32 → Int32 → Int32 → Int32 → Int32 → Option (Int32 × rp_S)) (hk36 : ∀ (σ : rp_S) (v1 : Int32) (v2 : Int32) (v3 : Int32) (v4 : Int32) (v5 : Int32), rp_R E (rp_mK E rmX7_when) mX7_when 36 [some (.ref (E.2.2.2.1 28)), some (.int v1), some (.int v2), some (.int v3), some (.int v4), some (.int v5), none] [] σ rp_hI (k36 σ v1 v2 v3 v4 v5)) (σ : rp_S) (v1 : Int32) (v2 : Int32) (v3 : Int32) (v5 : Int32) (v6 : Int32) (s0 : Int32) : rp_R E (rp_mK E rmX7_when) mX7_when 88 [some (.ref (E.2.2.2.1 28)), some (.int v1), some (.int v2), some (.int v3), none, some (.int v5), some (.int v6)] [.int s0] σ rp_hI (fX7_when_88 k36 σ v1 v2 v3 v5 v6 s0) := by
  rw [fX7_when_88]
  refine rp_istore dX7_when_88 (by decide) rfl ?_
  refine rp_iload (x := v6) dX7_when_90 rfl ?_
  refine rp_iload_n (x := v3) dX7_when_92 rfl ?_
  refine rp_icmp_le (tgt := 101) dX7_when_93 (by decide) ?_ ?_
  · refine rp_iload_n (x := v3) dX7_when_101 rfl ?_
    refine rp_mask [true, true, true, false, true, true, false] (vs2 := [some (.ref (E.2.2.2.1 28)), some (.int v1), some (.int v2), none, some (.int s0), some (.int v5), none]) rfl rfl ?_
    exact rX7_when_102 k36 hk36 σ v1 v2 s0 v5 v3
  · refine rp_iload (x := v6) dX7_when_96 rfl ?_
    refine rp_goto (tgt := 102) dX7_when_98 (by decide) ?_
    refine rp_mask [true, true, true, false, true, true, false] (vs2 := [some (.ref (E.2.2.2.1 28)), some (.int v1), some (.int v2), none, some (.int s0), some (.int v5), none]) rfl rfl ?_
    exact rX7_when_102 k36 hk36 σ v1 v2 s0 v5 v6
def fX7_when_36  : Nat → rp_S → Int32 → Int32 → Int32 → Int32 → Int32 → Option (Int32 × rp_S)
  | 0, _, _, _, _, _, _ => none
  | n + 1, σ, v1, v2, v3, v4, v5 =>
    (if (rI 59) < v5 then
    (if v2 = 0 then
    (some (v4, σ))
  else
    (some (v3, σ)))
  else
    ((rq_wr σ 29 180 ((rI 156) + v1) v5).bind fun σ4 =>
    ((fX7_nightOn σ4 (rI 144)).bind fun σ5 =>
    ((fX7_wholeBy σ5 (rI 144) v1).bind fun x6 =>
    ((fX7_bitsOf x6).bind fun x7 =>
    (if x7 ≤ v3 then
    (fX7_when_88 (fun σ v1 v2 v3 v4 v5 => fX7_when_36 n σ v1 v2 v3 v4 v5) σ5 v1 v2 v3 v5 x7 v4)
  else
    (fX7_when_88 (fun σ v1 v2 v3 v4 v5 => fX7_when_36 n σ v1 v2 v3 v4 v5) σ5 v1 v2 v3 v5 x7 v5)))))))
set_option maxRecDepth 100000 in
theorem rX7_when_36 {E : rp_E}  : ∀ (n : Nat) (σ : rp_S) (v1 : Int32) (v2 : Int32) (v3 : Int32) (v4 : Int32) (v5 : Int32), rp_R E (rp_mK E rmX7_when) mX7_when 36 [some (.ref (E.2.2.2.1 28)), some (.int v1), some (.int v2), some (.int v3), some (.int v4), some (.int v5), none] [] σ rp_hI (fX7_when_36 n σ v1 v2 v3 v4 v5) := by
  intro n
  induction n with
  | zero =>
    intro σ v1 v2 v3 v4 v5
    rw [fX7_when_36]
    exact rp_none
  | succ n ih =>
    intro σ v1 v2 v3 v4 v5
    rw [fX7_when_36]
    refine rp_iload (x := v5) dX7_when_36 rfl ?_
    refine rp_bipush dX7_when_38 (by decide) ?_
    refine rp_icmp_gt (tgt := 109) dX7_when_40 (by decide) ?_ ?_
    · refine rp_iload_n (x := v2) dX7_when_109 rfl ?_
      refine rp_if_ne (tgt := 118) dX7_when_110 (by decide) ?_ ?_
      · refine rp_iload_n (x := v3) dX7_when_118 rfl ?_
        exact rp_iret rfl rfl dX7_when_119
      · refine rp_iload (x := v4) dX7_when_113 rfl ?_
        refine rp_goto (tgt := 119) dX7_when_115 (by decide) ?_
        exact rp_iret rfl rfl dX7_when_119
    · refine rp_aload_n (x := (E.2.2.2.1 28)) dX7_when_43 rfl ?_
      refine rp_getR (k := 0) (b := 29) sh28 rfl fdX7_7 dX7_when_44 ?_
      refine rp_sipush dX7_when_47 (by decide) ?_
      refine rp_iload_n (x := v1) dX7_when_50 rfl ?_
      refine rp_iadd dX7_when_51 ?_
      refine rp_iload (x := v5) dX7_when_52 rfl ?_
      refine rp_iastore sh29 dX7_when_54 (fun σ4 => ?_)
      refine rp_aload_n (x := (E.2.2.2.1 28)) dX7_when_55 rfl ?_
      refine rp_sipush dX7_when_56 (by decide) ?_
      refine rp_callV_hv (As := [.int (rI 144)]) (rest := []) (b := (E.2.2.2.1 28)) (rX7_nightOn σ4 (rI 144)) cbX7_nightOn lkX7_165 viX7_nightOn (rp_rcO sh28 rfl) rfl (Nat.le_of_ble_eq_true rfl) ⟨rfl, rfl, ⟨Nat.le_of_ble_eq_true rfl, Nat.le_of_ble_eq_true rfl⟩, Nat.zero_le _, Nat.zero_le _⟩ rfl (Nat.le_of_ble_eq_true rfl) dX7_when_59 (fun σ5 hσ5 => ?_)
      refine rp_aload_n (x := (E.2.2.2.1 28)) dX7_when_62 rfl ?_
      refine rp_sipush dX7_when_63 (by decide) ?_
      refine rp_iload_n (x := v1) dX7_when_66 rfl ?_
      refine rp_callV_hi (As := [.int (rI 144), .int v1]) (rest := []) (b := (E.2.2.2.1 28)) (rX7_wholeBy σ5 (rI 144) v1) cbX7_wholeBy lkX7_175 viX7_wholeBy (rp_rcO sh28 rfl) rfl (Nat.le_of_ble_eq_true rfl) ⟨rfl, rfl, ⟨Nat.le_of_ble_eq_true rfl, Nat.le_of_ble_eq_true rfl⟩, Nat.zero_le _, Nat.zero_le _⟩ rfl (Nat.le_of_ble_eq_true rfl) dX7_when_67 (fun x6 hx6 => ?_)
      refine rp_callS_hi (As := [.int x6]) (rest := []) (rX7_bitsOf σ5 x6) cbX7_bitsOf lkX7_213 stX7_bitsOf rfl (Nat.le_of_ble_eq_true rfl) ⟨rfl, rfl, ⟨Nat.le_of_ble_eq_true rfl, Nat.le_of_ble_eq_true rfl⟩, Nat.zero_le _, Nat.zero_le _⟩ rfl (Nat.le_of_ble_eq_true rfl) dX7_when_70 (fun x7 hx7 => ?_)
      refine rp_istore dX7_when_73 (by decide) rfl ?_
      refine rp_iload (x := x7) dX7_when_75 rfl ?_
      refine rp_iload_n (x := v3) dX7_when_77 rfl ?_
      refine rp_icmp_le (tgt := 86) dX7_when_78 (by decide) ?_ ?_
      · refine rp_iload (x := v4) dX7_when_86 rfl ?_
        refine rp_mask [true, true, true, true, false, true, true] (vs2 := [some (.ref (E.2.2.2.1 28)), some (.int v1), some (.int v2), some (.int v3), none, some (.int v5), some (.int x7)]) rfl rfl ?_
        exact rX7_when_88 (fun σ v1 v2 v3 v4 v5 => fX7_when_36 n σ v1 v2 v3 v4 v5) (fun σ v1 v2 v3 v4 v5 => ih σ v1 v2 v3 v4 v5) σ5 v1 v2 v3 v5 x7 v4
      · refine rp_iload (x := v5) dX7_when_81 rfl ?_
        refine rp_goto (tgt := 88) dX7_when_83 (by decide) ?_
        refine rp_mask [true, true, true, true, false, true, true] (vs2 := [some (.ref (E.2.2.2.1 28)), some (.int v1), some (.int v2), some (.int v3), none, some (.int v5), some (.int x7)]) rfl rfl ?_
        exact rX7_when_88 (fun σ v1 v2 v3 v4 v5 => fX7_when_36 n σ v1 v2 v3 v4 v5) (fun σ v1 v2 v3 v4 v5 => ih σ v1 v2 v3 v4 v5) σ5 v1 v2 v3 v5 x7 v5
def fX7_when (σ : rp_S) (v1 : Int32) (v2 : Int32) : Option (Int32 × rp_S) :=
  ((fX7_isWork σ v1).bind fun x1 =>
    (if x1 = 0 then
    (some ((rI (-1)), σ))
  else
    ((fX7_in (v2.toInt64) (rJ 0) (rJ 1)).bind fun x2 =>
    (if x2 = 0 then
    (some ((rI (-1)), σ))
  else
    ((fX7_copies σ (rI 0) (rI 144)).bind fun σ3 =>
    (fX7_when_36 1000 σ3 v1 v2 (rI (-1)) (rI 0) (rI 0)))))))
set_option maxRecDepth 100000 in
theorem rX7_when {E : rp_E} (σ : rp_S) (v1 : Int32) (v2 : Int32)   : rp_R E (rp_mK E rmX7_when) mX7_when 0 [some (.ref (E.2.2.2.1 28)), some (.int v1), some (.int v2), none, none, none, none] [] σ rp_hI (fX7_when σ v1 v2) := by
  rw [fX7_when]
  refine rp_aload_n (x := (E.2.2.2.1 28)) dX7_when_0 rfl ?_
  refine rp_iload_n (x := v1) dX7_when_1 rfl ?_
  refine rp_callV_hi (As := [.int v1]) (rest := []) (b := (E.2.2.2.1 28)) (rX7_isWork σ v1) cbX7_isWork lkX7_168 viX7_isWork (rp_rcO sh28 rfl) rfl (Nat.le_of_ble_eq_true rfl) ⟨rfl, rfl, ⟨Nat.le_of_ble_eq_true rfl, Nat.le_of_ble_eq_true rfl⟩, Nat.zero_le _, Nat.zero_le _⟩ rfl (Nat.le_of_ble_eq_true rfl) dX7_when_2 (fun x1 hx1 => ?_)
  refine rp_if_eq (tgt := 18) dX7_when_5 (by decide) ?_ ?_
  · refine rp_iconst dX7_when_18 ?_
    exact rp_iret rfl rfl dX7_when_19
  · refine rp_iload_n (x := v2) dX7_when_8 rfl ?_
    refine rp_i2l dX7_when_9 ?_
    refine rp_lconst dX7_when_10 0 (by decide) ?_
    refine rp_lconst dX7_when_11 1 (by decide) ?_
    refine rp_callS_hi (As := [.long (v2.toInt64), .long (rJ 0), .long (rJ 1)]) (rest := []) (rX7_in σ (v2.toInt64) (rJ 0) (rJ 1)) cbX7_in lkX7_49 stX7_in rfl (Nat.le_of_ble_eq_true rfl) ⟨rfl, rfl, ⟨Nat.le_of_ble_eq_true rfl, Nat.le_of_ble_eq_true rfl⟩, Nat.zero_le _, Nat.zero_le _⟩ rfl (Nat.le_of_ble_eq_true rfl) dX7_when_12 (fun x2 hx2 => ?_)
    refine rp_if_ne (tgt := 20) dX7_when_15 (by decide) ?_ ?_
    · refine rp_iconst dX7_when_20 ?_
      refine rp_istore_n dX7_when_21 (by decide) rfl ?_
      refine rp_iconst dX7_when_22 ?_
      refine rp_istore dX7_when_23 (by decide) rfl ?_
      refine rp_aload_n (x := (E.2.2.2.1 28)) dX7_when_25 rfl ?_
      refine rp_iconst dX7_when_26 ?_
      refine rp_sipush dX7_when_27 (by decide) ?_
      refine rp_callV_hv (As := [.int (rI 0), .int (rI 144)]) (rest := []) (b := (E.2.2.2.1 28)) (rX7_copies σ (rI 0) (rI 144)) cbX7_copies lkX7_209 viX7_copies (rp_rcO sh28 rfl) rfl (Nat.le_of_ble_eq_true rfl) ⟨rfl, rfl, ⟨Nat.le_of_ble_eq_true rfl, Nat.le_of_ble_eq_true rfl⟩, Nat.zero_le _, Nat.zero_le _⟩ rfl (Nat.le_of_ble_eq_true rfl) dX7_when_30 (fun σ3 hσ3 => ?_)
      refine rp_iconst dX7_when_33 ?_
      refine rp_istore dX7_when_34 (by decide) rfl ?_
      refine rp_mask [true, true, true, true, true, true, false] (vs2 := [some (.ref (E.2.2.2.1 28)), some (.int v1), some (.int v2), some (.int (rI (-1))), some (.int (rI 0)), some (.int (rI 0)), none]) rfl rfl ?_
      exact rX7_when_36 1000 σ3 v1 v2 (rI (-1)) (rI 0) (rI 0)
    · refine rp_iconst dX7_when_18 ?_
      exact rp_iret rfl rfl dX7_when_19
/-! RocketPrint.stand(II)I -/
abbrev rmX6_stand : Room := { frames := 5, cells := 0, slots := 0, locals := 119 }
def fX6_stand_43  : Nat → rp_S → Int32 → Int32 → Int32 → Option (Int32 × rp_S)
  | 0, _, _, _, _ => none
  | n + 1, σ, v1, v2, v3 =>
    (if (rI 12) ≤ v3 then
    ((fX0_answer σ v2).bind fun x5 =>
    (some (x5, σ)))
  else
    ((fX1_setReader σ 5 v1 (rI 0) v3).bind fun σ6 =>
    ((fX3_minutesOf σ6 v1).bind fun x7 =>
    ((fX0_offer σ6 v3 x7).bind fun σ8 =>
    (fX6_stand_43 n σ8 v1 v2 (v3 + (rI 1)))))))
set_option maxRecDepth 100000 in
theorem rX6_stand_43 {E : rp_E}  : ∀ (n : Nat) (σ : rp_S) (v1 : Int32) (v2 : Int32) (v3 : Int32), rp_R E (rp_mK E rmX6_stand) mX6_stand 43 [some (.ref (E.2.2.2.1 0)), some (.int v1), some (.int v2), some (.int v3)] [] σ rp_hI (fX6_stand_43 n σ v1 v2 v3) := by
  intro n
  induction n with
  | zero =>
    intro σ v1 v2 v3
    rw [fX6_stand_43]
    exact rp_none
  | succ n ih =>
    intro σ v1 v2 v3
    rw [fX6_stand_43]
    refine rp_iload_n (x := v3) dX6_stand_43 rfl ?_
    refine rp_bipush dX6_stand_44 (by decide) ?_
    refine rp_icmp_ge (tgt := 84) dX6_stand_46 (by decide) ?_ ?_
    · refine rp_aload_n (x := (E.2.2.2.1 0)) dX6_stand_84 rfl ?_
      refine rp_getR (k := 2) (b := 12) sh0 rfl fdX6_26 dX6_stand_85 ?_
      refine rp_iload_n (x := v2) dX6_stand_88 rfl ?_
      refine rp_callV_hi (As := [.int v2]) (rest := []) (b := (E.2.2.2.1 12)) (rX0_answer σ v2) cbX0_answer lkX6_194 viX0_answer (rp_rcO sh12 rfl) rfl (Nat.le_of_ble_eq_true rfl) ⟨rfl, rfl, ⟨Nat.le_of_ble_eq_true rfl, Nat.le_of_ble_eq_true rfl⟩, Nat.zero_le _, Nat.zero_le _⟩ rfl (Nat.le_of_ble_eq_true rfl) dX6_stand_89 (fun x5 hx5 => ?_)
      exact rp_iret rfl rfl dX6_stand_92
    · refine rp_aload_n (x := (E.2.2.2.1 0)) dX6_stand_49 rfl ?_
      refine rp_getR (k := 1) (b := 4) sh0 rfl fdX6_19 dX6_stand_50 ?_
      refine rp_getR (k := 0) (b := 5) sh4 rfl fdX6_69 dX6_stand_53 ?_
      refine rp_iload_n (x := v1) dX6_stand_56 rfl ?_
      refine rp_iconst dX6_stand_57 ?_
      refine rp_iload_n (x := v3) dX6_stand_58 rfl ?_
      refine rp_callV_hv (As := [.int v1, .int (rI 0), .int v3]) (rest := []) (b := (E.2.2.2.1 5)) (rX1_setReader σ 5 v1 (rI 0) v3 ni5) cbX1_setReader lkX6_170 viX1_setReader (rp_rcO sh5 rfl) rfl (Nat.le_of_ble_eq_true rfl) ⟨rfl, rfl, ⟨Nat.le_of_ble_eq_true rfl, Nat.le_of_ble_eq_true rfl⟩, Nat.zero_le _, Nat.zero_le _⟩ rfl (Nat.le_of_ble_eq_true rfl) dX6_stand_59 (fun σ6 hσ6 => ?_)
      refine rp_aload_n (x := (E.2.2.2.1 0)) dX6_stand_62 rfl ?_
      refine rp_getR (k := 2) (b := 12) sh0 rfl fdX6_26 dX6_stand_63 ?_
      refine rp_iload_n (x := v3) dX6_stand_66 rfl ?_
      refine rp_aload_n (x := (E.2.2.2.1 0)) dX6_stand_67 rfl ?_
      refine rp_getR (k := 1) (b := 4) sh0 rfl fdX6_19 dX6_stand_68 ?_
      refine rp_iload_n (x := v1) dX6_stand_71 rfl ?_
      refine rp_callV_hi (As := [.int v1]) (rest := [.int v3, .ref (E.2.2.2.1 12)]) (b := (E.2.2.2.1 4)) (rX3_minutesOf σ6 v1) cbX3_minutesOf lkX6_147 viX3_minutesOf (rp_rcO sh4 rfl) rfl (Nat.le_of_ble_eq_true rfl) ⟨rfl, rfl, ⟨Nat.le_of_ble_eq_true rfl, Nat.le_of_ble_eq_true rfl⟩, Nat.zero_le _, Nat.zero_le _⟩ rfl (Nat.le_of_ble_eq_true rfl) dX6_stand_72 (fun x7 hx7 => ?_)
      refine rp_callV_hv (As := [.int v3, .int x7]) (rest := []) (b := (E.2.2.2.1 12)) (rX0_offer σ6 v3 x7) cbX0_offer lkX6_190 viX0_offer (rp_rcO sh12 rfl) rfl (Nat.le_of_ble_eq_true rfl) ⟨rfl, rfl, ⟨Nat.le_of_ble_eq_true rfl, Nat.le_of_ble_eq_true rfl⟩, Nat.zero_le _, Nat.zero_le _⟩ rfl (Nat.le_of_ble_eq_true rfl) dX6_stand_75 (fun σ8 hσ8 => ?_)
      refine rp_iinc (x := v3) dX6_stand_78 rfl (by decide) rfl ?_
      refine rp_goto (tgt := 43) dX6_stand_81 (by decide) ?_
      refine rp_mask [true, true, true, true] (vs2 := [some (.ref (E.2.2.2.1 0)), some (.int v1), some (.int v2), some (.int (v3 + (rI 1)))]) rfl rfl ?_
      exact ih σ8 v1 v2 (v3 + (rI 1))
def fX6_stand (σ : rp_S) (v1 : Int32) (v2 : Int32) : Option (Int32 × rp_S) :=
  ((fX1_hasReader σ 1 v1).bind fun x1 =>
    (if x1 = 0 then
    (some ((rI (-1)), σ))
  else
    ((fX6_within v2 (rI 0) (rI 1)).bind fun x2 =>
    (if x2 = 0 then
    (some ((rI (-1)), σ))
  else
    ((fX3_begin σ 1).bind fun σ3 =>
    ((fX0_beginAbove σ3 (rI (-1))).bind fun σ4 =>
    (fX6_stand_43 1000 σ4 v1 v2 (rI 0))))))))
set_option maxRecDepth 100000 in
theorem rX6_stand {E : rp_E} (σ : rp_S) (v1 : Int32) (v2 : Int32)   : rp_R E (rp_mK E rmX6_stand) mX6_stand 0 [some (.ref (E.2.2.2.1 0)), some (.int v1), some (.int v2), none] [] σ rp_hI (fX6_stand σ v1 v2) := by
  rw [fX6_stand]
  refine rp_aload_n (x := (E.2.2.2.1 0)) dX6_stand_0 rfl ?_
  refine rp_getR (k := 0) (b := 1) sh0 rfl fdX6_10 dX6_stand_1 ?_
  refine rp_iload_n (x := v1) dX6_stand_4 rfl ?_
  refine rp_callV_hi (As := [.int v1]) (rest := []) (b := (E.2.2.2.1 1)) (rX1_hasReader σ 1 v1 ni1) cbX1_hasReader lkX6_138 viX1_hasReader (rp_rcO sh1 rfl) rfl (Nat.le_of_ble_eq_true rfl) ⟨rfl, rfl, ⟨Nat.le_of_ble_eq_true rfl, Nat.le_of_ble_eq_true rfl⟩, Nat.zero_le _, Nat.zero_le _⟩ rfl (Nat.le_of_ble_eq_true rfl) dX6_stand_5 (fun x1 hx1 => ?_)
  refine rp_if_eq (tgt := 20) dX6_stand_8 (by decide) ?_ ?_
  · refine rp_iconst dX6_stand_20 ?_
    exact rp_iret rfl rfl dX6_stand_21
  · refine rp_iload_n (x := v2) dX6_stand_11 rfl ?_
    refine rp_iconst dX6_stand_12 ?_
    refine rp_iconst dX6_stand_13 ?_
    refine rp_callS_hi (As := [.int v2, .int (rI 0), .int (rI 1)]) (rest := []) (rX6_within σ v2 (rI 0) (rI 1)) cbX6_within lkX6_57 stX6_within rfl (Nat.le_of_ble_eq_true rfl) ⟨rfl, rfl, ⟨Nat.le_of_ble_eq_true rfl, Nat.le_of_ble_eq_true rfl⟩, Nat.zero_le _, Nat.zero_le _⟩ rfl (Nat.le_of_ble_eq_true rfl) dX6_stand_14 (fun x2 hx2 => ?_)
    refine rp_if_ne (tgt := 22) dX6_stand_17 (by decide) ?_ ?_
    · refine rp_aload_n (x := (E.2.2.2.1 0)) dX6_stand_22 rfl ?_
      refine rp_getR (k := 1) (b := 4) sh0 rfl fdX6_19 dX6_stand_23 ?_
      refine rp_aload_n (x := (E.2.2.2.1 0)) dX6_stand_26 rfl ?_
      refine rp_getR (k := 0) (b := 1) sh0 rfl fdX6_10 dX6_stand_27 ?_
      refine rp_callV_hv (As := [.ref (E.2.2.2.1 1)]) (rest := []) (b := (E.2.2.2.1 4)) (rX3_begin σ 1 ni1) cbX3_begin lkX6_104 viX3_begin (rp_rcO sh4 rfl) rfl (Nat.le_of_ble_eq_true rfl) ⟨rfl, rfl, ⟨Nat.le_of_ble_eq_true rfl, Nat.le_of_ble_eq_true rfl⟩, Nat.zero_le _, Nat.zero_le _⟩ rfl (Nat.le_of_ble_eq_true rfl) dX6_stand_30 (fun σ3 hσ3 => ?_)
      refine rp_aload_n (x := (E.2.2.2.1 0)) dX6_stand_33 rfl ?_
      refine rp_getR (k := 2) (b := 12) sh0 rfl fdX6_26 dX6_stand_34 ?_
      refine rp_iconst dX6_stand_37 ?_
      refine rp_callV_hv (As := [.int (rI (-1))]) (rest := []) (b := (E.2.2.2.1 12)) (rX0_beginAbove σ3 (rI (-1))) cbX0_beginAbove lkX6_183 viX0_beginAbove (rp_rcO sh12 rfl) rfl (Nat.le_of_ble_eq_true rfl) ⟨rfl, rfl, ⟨Nat.le_of_ble_eq_true rfl, Nat.le_of_ble_eq_true rfl⟩, Nat.zero_le _, Nat.zero_le _⟩ rfl (Nat.le_of_ble_eq_true rfl) dX6_stand_38 (fun σ4 hσ4 => ?_)
      refine rp_iconst dX6_stand_41 ?_
      refine rp_istore_n dX6_stand_42 (by decide) rfl ?_
      refine rp_mask [true, true, true, true] (vs2 := [some (.ref (E.2.2.2.1 0)), some (.int v1), some (.int v2), some (.int (rI 0))]) rfl rfl ?_
      exact rX6_stand_43 1000 σ4 v1 v2 (rI 0)
    · refine rp_iconst dX6_stand_20 ?_
      exact rp_iret rfl rfl dX6_stand_21
/-! RocketPrintModel.stand(II)I -/
abbrev rmX7_stand : Room := { frames := 4, cells := 0, slots := 0, locals := 101 }
def fX7_stand_96 (k36 : rp_S → Int32 → Int32 → Int32 → Int32 → Int32 → Option (Int32 × rp_S)) (σ : rp_S) (v1 : Int32) (v2 : Int32) (v4 : Int32) (v5 : Int32) (s0 : Int32) : Option (Int32 × rp_S) :=
  (k36 σ v1 v2 s0 v4 (v5 + (rI 1)))
set_option maxRecDepth 100000 in
theorem rX7_stand_96 {E : rp_E} (k36 : rp_S → Int32 → Int32 → Int32 → Int32 → Int32 → Option (Int32 × rp_S)) (hk36 : ∀ (σ : rp_S) (v1 : Int32) (v2 : Int32) (v3 : Int32) (v4 : Int32) (v5 : Int32), rp_R E (rp_mK E rmX7_stand) mX7_stand 36 [some (.ref (E.2.2.2.1 28)), some (.int v1), some (.int v2), some (.int v3), some (.int v4), some (.int v5), none] [] σ rp_hI (k36 σ v1 v2 v3 v4 v5)) (σ : rp_S) (v1 : Int32) (v2 : Int32) (v4 : Int32) (v5 : Int32) (s0 : Int32) : rp_R E (rp_mK E rmX7_stand) mX7_stand 96 [some (.ref (E.2.2.2.1 28)), some (.int v1), some (.int v2), none, some (.int v4), some (.int v5), none] [.int s0] σ rp_hI (fX7_stand_96 k36 σ v1 v2 v4 v5 s0) := by
  rw [fX7_stand_96]
  refine rp_istore_n dX7_stand_96 (by decide) rfl ?_
  refine rp_iinc (x := v5) dX7_stand_97 rfl (by decide) rfl ?_
  refine rp_goto (tgt := 36) dX7_stand_100 (by decide) ?_
  refine rp_mask [true, true, true, true, true, true, false] (vs2 := [some (.ref (E.2.2.2.1 28)), some (.int v1), some (.int v2), some (.int s0), some (.int v4), some (.int (v5 + (rI 1))), none]) rfl rfl ?_
  exact hk36 σ v1 v2 s0 v4 (v5 + (rI 1))
def fX7_stand_82 (k36 : rp_S → Int32 → Int32 → Int32 → Int32 → Int32 → Option (Int32 × rp_S)) (σ : rp_S) (v1 : Int32) (v2 : Int32) (v3 : Int32) (v5 : Int32) (v6 : Int32) (s0 : Int32) : Option (Int32 × rp_S) :=
  (if v6 ≤ v3 then
    (fX7_stand_96 k36 σ v1 v2 s0 v5 v3)
  else
    (fX7_stand_96 k36 σ v1 v2 s0 v5 v6))
set_option maxRecDepth 100000 in
theorem rX7_stand_82 {E : rp_E} (k36 : rp_S → Int32 → Int32 → Int32 → Int32 → Int32 → Option (Int32 × rp_S)) (hk36 : ∀ (σ : rp_S) (v1 : Int32) (v2 : Int32) (v3 : Int32) (v4 : Int32) (v5 : Int32), rp_R E (rp_mK E rmX7_stand) mX7_stand 36 [some (.ref (E.2.2.2.1 28)), some (.int v1), some (.int v2), some (.int v3), some (.int v4), some (.int v5), none] [] σ rp_hI (k36 σ v1 v2 v3 v4 v5)) (σ : rp_S) (v1 : Int32) (v2 : Int32) (v3 : Int32) (v5 : Int32) (v6 : Int32) (s0 : Int32) : rp_R E (rp_mK E rmX7_stand) mX7_stand 82 [some (.ref (E.2.2.2.1 28)), some (.int v1), some (.int v2), some (.int v3), none, some (.int v5), some (.int v6)] [.int s0] σ rp_hI (fX7_stand_82 k36 σ v1 v2 v3 v5 v6 s0) := by
  rw [fX7_stand_82]
  refine rp_istore dX7_stand_82 (by decide) rfl ?_
  refine rp_iload (x := v6) dX7_stand_84 rfl ?_
  refine rp_iload_n (x := v3) dX7_stand_86 rfl ?_
  refine rp_icmp_le (tgt := 95) dX7_stand_87 (by decide) ?_ ?_
  · refine rp_iload_n (x := v3) dX7_stand_95 rfl ?_
    refine rp_mask [true, true, true, false, true, true, false] (vs2 := [some (.ref (E.2.2.2.1 28)), some (.int v1), some (.int v2), none, some (.int s0), some (.int v5), none]) rfl rfl ?_
    exact rX7_stand_96 k36 hk36 σ v1 v2 s0 v5 v3
  · refine rp_iload (x := v6) dX7_stand_90 rfl ?_
    refine rp_goto (tgt := 96) dX7_stand_92 (by decide) ?_
    refine rp_mask [true, true, true, false, true, true, false] (vs2 := [some (.ref (E.2.2.2.1 28)), some (.int v1), some (.int v2), none, some (.int s0), some (.int v5), none]) rfl rfl ?_
    exact rX7_stand_96 k36 hk36 σ v1 v2 s0 v5 v6
def fX7_stand_36  : Nat → rp_S → Int32 → Int32 → Int32 → Int32 → Int32 → Option (Int32 × rp_S)
  | 0, _, _, _, _, _, _ => none
  | n + 1, σ, v1, v2, v3, v4, v5 =>
    (if (rI 12) ≤ v5 then
    (if v2 = 0 then
    (some (v4, σ))
  else
    (some (v3, σ)))
  else
    ((rq_wr σ 29 180 ((rI 169) + v1) v5).bind fun σ4 =>
    ((fX7_nightOn σ4 (rI 144)).bind fun σ5 =>
    ((fX7_minutesOf σ5 v1).bind fun x6 =>
    (if x6 ≤ v3 then
    (fX7_stand_82 (fun σ v1 v2 v3 v4 v5 => fX7_stand_36 n σ v1 v2 v3 v4 v5) σ5 v1 v2 v3 v5 x6 v4)
  else
    (fX7_stand_82 (fun σ v1 v2 v3 v4 v5 => fX7_stand_36 n σ v1 v2 v3 v4 v5) σ5 v1 v2 v3 v5 x6 v5))))))
set_option maxRecDepth 100000 in
theorem rX7_stand_36 {E : rp_E}  : ∀ (n : Nat) (σ : rp_S) (v1 : Int32) (v2 : Int32) (v3 : Int32) (v4 : Int32) (v5 : Int32), rp_R E (rp_mK E rmX7_stand) mX7_stand 36 [some (.ref (E.2.2.2.1 28)), some (.int v1), some (.int v2), some (.int v3), some (.int v4), some (.int v5), none] [] σ rp_hI (fX7_stand_36 n σ v1 v2 v3 v4 v5) := by
  intro n
  induction n with
  | zero =>
    intro σ v1 v2 v3 v4 v5
    rw [fX7_stand_36]
    exact rp_none
  | succ n ih =>
    intro σ v1 v2 v3 v4 v5
    rw [fX7_stand_36]
    refine rp_iload (x := v5) dX7_stand_36 rfl ?_
    refine rp_bipush dX7_stand_38 (by decide) ?_
    refine rp_icmp_ge (tgt := 103) dX7_stand_40 (by decide) ?_ ?_
    · refine rp_iload_n (x := v2) dX7_stand_103 rfl ?_
      refine rp_if_ne (tgt := 112) dX7_stand_104 (by decide) ?_ ?_
      · refine rp_iload_n (x := v3) dX7_stand_112 rfl ?_
        exact rp_iret rfl rfl dX7_stand_113
      · refine rp_iload (x := v4) dX7_stand_107 rfl ?_
        refine rp_goto (tgt := 113) dX7_stand_109 (by decide) ?_
        exact rp_iret rfl rfl dX7_stand_113
    · refine rp_aload_n (x := (E.2.2.2.1 28)) dX7_stand_43 rfl ?_
      refine rp_getR (k := 0) (b := 29) sh28 rfl fdX7_7 dX7_stand_44 ?_
      refine rp_sipush dX7_stand_47 (by decide) ?_
      refine rp_iload_n (x := v1) dX7_stand_50 rfl ?_
      refine rp_iadd dX7_stand_51 ?_
      refine rp_iload (x := v5) dX7_stand_52 rfl ?_
      refine rp_iastore sh29 dX7_stand_54 (fun σ4 => ?_)
      refine rp_aload_n (x := (E.2.2.2.1 28)) dX7_stand_55 rfl ?_
      refine rp_sipush dX7_stand_56 (by decide) ?_
      refine rp_callV_hv (As := [.int (rI 144)]) (rest := []) (b := (E.2.2.2.1 28)) (rX7_nightOn σ4 (rI 144)) cbX7_nightOn lkX7_165 viX7_nightOn (rp_rcO sh28 rfl) rfl (Nat.le_of_ble_eq_true rfl) ⟨rfl, rfl, ⟨Nat.le_of_ble_eq_true rfl, Nat.le_of_ble_eq_true rfl⟩, Nat.zero_le _, Nat.zero_le _⟩ rfl (Nat.le_of_ble_eq_true rfl) dX7_stand_59 (fun σ5 hσ5 => ?_)
      refine rp_aload_n (x := (E.2.2.2.1 28)) dX7_stand_62 rfl ?_
      refine rp_iload_n (x := v1) dX7_stand_63 rfl ?_
      refine rp_callV_hi (As := [.int v1]) (rest := []) (b := (E.2.2.2.1 28)) (rX7_minutesOf σ5 v1) cbX7_minutesOf lkX7_183 viX7_minutesOf (rp_rcO sh28 rfl) rfl (Nat.le_of_ble_eq_true rfl) ⟨rfl, rfl, ⟨Nat.le_of_ble_eq_true rfl, Nat.le_of_ble_eq_true rfl⟩, Nat.zero_le _, Nat.zero_le _⟩ rfl (Nat.le_of_ble_eq_true rfl) dX7_stand_64 (fun x6 hx6 => ?_)
      refine rp_istore dX7_stand_67 (by decide) rfl ?_
      refine rp_iload (x := x6) dX7_stand_69 rfl ?_
      refine rp_iload_n (x := v3) dX7_stand_71 rfl ?_
      refine rp_icmp_le (tgt := 80) dX7_stand_72 (by decide) ?_ ?_
      · refine rp_iload (x := v4) dX7_stand_80 rfl ?_
        refine rp_mask [true, true, true, true, false, true, true] (vs2 := [some (.ref (E.2.2.2.1 28)), some (.int v1), some (.int v2), some (.int v3), none, some (.int v5), some (.int x6)]) rfl rfl ?_
        exact rX7_stand_82 (fun σ v1 v2 v3 v4 v5 => fX7_stand_36 n σ v1 v2 v3 v4 v5) (fun σ v1 v2 v3 v4 v5 => ih σ v1 v2 v3 v4 v5) σ5 v1 v2 v3 v5 x6 v4
      · refine rp_iload (x := v5) dX7_stand_75 rfl ?_
        refine rp_goto (tgt := 82) dX7_stand_77 (by decide) ?_
        refine rp_mask [true, true, true, true, false, true, true] (vs2 := [some (.ref (E.2.2.2.1 28)), some (.int v1), some (.int v2), some (.int v3), none, some (.int v5), some (.int x6)]) rfl rfl ?_
        exact rX7_stand_82 (fun σ v1 v2 v3 v4 v5 => fX7_stand_36 n σ v1 v2 v3 v4 v5) (fun σ v1 v2 v3 v4 v5 => ih σ v1 v2 v3 v4 v5) σ5 v1 v2 v3 v5 x6 v5
def fX7_stand (σ : rp_S) (v1 : Int32) (v2 : Int32) : Option (Int32 × rp_S) :=
  ((fX7_isReader σ v1).bind fun x1 =>
    (if x1 = 0 then
    (some ((rI (-1)), σ))
  else
    ((fX7_in (v2.toInt64) (rJ 0) (rJ 1)).bind fun x2 =>
    (if x2 = 0 then
    (some ((rI (-1)), σ))
  else
    ((fX7_copies σ (rI 0) (rI 144)).bind fun σ3 =>
    (fX7_stand_36 1000 σ3 v1 v2 (rI (-1)) (rI 0) (rI 0)))))))
set_option maxRecDepth 100000 in
theorem rX7_stand {E : rp_E} (σ : rp_S) (v1 : Int32) (v2 : Int32)   : rp_R E (rp_mK E rmX7_stand) mX7_stand 0 [some (.ref (E.2.2.2.1 28)), some (.int v1), some (.int v2), none, none, none, none] [] σ rp_hI (fX7_stand σ v1 v2) := by
  rw [fX7_stand]
  refine rp_aload_n (x := (E.2.2.2.1 28)) dX7_stand_0 rfl ?_
  refine rp_iload_n (x := v1) dX7_stand_1 rfl ?_
  refine rp_callV_hi (As := [.int v1]) (rest := []) (b := (E.2.2.2.1 28)) (rX7_isReader σ v1) cbX7_isReader lkX7_178 viX7_isReader (rp_rcO sh28 rfl) rfl (Nat.le_of_ble_eq_true rfl) ⟨rfl, rfl, ⟨Nat.le_of_ble_eq_true rfl, Nat.le_of_ble_eq_true rfl⟩, Nat.zero_le _, Nat.zero_le _⟩ rfl (Nat.le_of_ble_eq_true rfl) dX7_stand_2 (fun x1 hx1 => ?_)
  refine rp_if_eq (tgt := 18) dX7_stand_5 (by decide) ?_ ?_
  · refine rp_iconst dX7_stand_18 ?_
    exact rp_iret rfl rfl dX7_stand_19
  · refine rp_iload_n (x := v2) dX7_stand_8 rfl ?_
    refine rp_i2l dX7_stand_9 ?_
    refine rp_lconst dX7_stand_10 0 (by decide) ?_
    refine rp_lconst dX7_stand_11 1 (by decide) ?_
    refine rp_callS_hi (As := [.long (v2.toInt64), .long (rJ 0), .long (rJ 1)]) (rest := []) (rX7_in σ (v2.toInt64) (rJ 0) (rJ 1)) cbX7_in lkX7_49 stX7_in rfl (Nat.le_of_ble_eq_true rfl) ⟨rfl, rfl, ⟨Nat.le_of_ble_eq_true rfl, Nat.le_of_ble_eq_true rfl⟩, Nat.zero_le _, Nat.zero_le _⟩ rfl (Nat.le_of_ble_eq_true rfl) dX7_stand_12 (fun x2 hx2 => ?_)
    refine rp_if_ne (tgt := 20) dX7_stand_15 (by decide) ?_ ?_
    · refine rp_iconst dX7_stand_20 ?_
      refine rp_istore_n dX7_stand_21 (by decide) rfl ?_
      refine rp_iconst dX7_stand_22 ?_
      refine rp_istore dX7_stand_23 (by decide) rfl ?_
      refine rp_aload_n (x := (E.2.2.2.1 28)) dX7_stand_25 rfl ?_
      refine rp_iconst dX7_stand_26 ?_
      refine rp_sipush dX7_stand_27 (by decide) ?_
      refine rp_callV_hv (As := [.int (rI 0), .int (rI 144)]) (rest := []) (b := (E.2.2.2.1 28)) (rX7_copies σ (rI 0) (rI 144)) cbX7_copies lkX7_209 viX7_copies (rp_rcO sh28 rfl) rfl (Nat.le_of_ble_eq_true rfl) ⟨rfl, rfl, ⟨Nat.le_of_ble_eq_true rfl, Nat.le_of_ble_eq_true rfl⟩, Nat.zero_le _, Nat.zero_le _⟩ rfl (Nat.le_of_ble_eq_true rfl) dX7_stand_30 (fun σ3 hσ3 => ?_)
      refine rp_iconst dX7_stand_33 ?_
      refine rp_istore dX7_stand_34 (by decide) rfl ?_
      refine rp_mask [true, true, true, true, true, true, false] (vs2 := [some (.ref (E.2.2.2.1 28)), some (.int v1), some (.int v2), some (.int (rI (-1))), some (.int (rI 0)), some (.int (rI 0)), none]) rfl rfl ?_
      exact rX7_stand_36 1000 σ3 v1 v2 (rI (-1)) (rI 0) (rI 0)
    · refine rp_iconst dX7_stand_18 ?_
      exact rp_iret rfl rfl dX7_stand_19
/-! RocketPrint.minutesIfSwapped(II)I -/
abbrev rmX6_minutesIfSwapped : Room := { frames := 5, cells := 0, slots := 0, locals := 119 }
def fX6_minutesIfSwapped (σ : rp_S) (v1 : Int32) (v2 : Int32) : Option (Int32 × rp_S) :=
  ((fX1_become σ 5 1).bind fun σ1 =>
    ((fX1_ofWork σ1 1 v2 (rI 2)).bind fun x2 =>
    ((fX1_setWork σ1 5 v1 (rI 2) x2).bind fun σ3 =>
    ((fX1_ofWork σ3 1 v1 (rI 2)).bind fun x4 =>
    ((fX1_setWork σ3 5 v2 (rI 2) x4).bind fun σ5 =>
    ((fX3_settle σ5).bind fun σ6 =>
    ((fX3_minutesOfAll σ6).bind fun x7 =>
    (some (x7, σ6)))))))))
set_option maxRecDepth 100000 in
theorem rX6_minutesIfSwapped {E : rp_E} (σ : rp_S) (v1 : Int32) (v2 : Int32)   : rp_R E (rp_mK E rmX6_minutesIfSwapped) mX6_minutesIfSwapped 0 [some (.ref (E.2.2.2.1 0)), some (.int v1), some (.int v2)] [] σ rp_hI (fX6_minutesIfSwapped σ v1 v2) := by
  rw [fX6_minutesIfSwapped]
  refine rp_aload_n (x := (E.2.2.2.1 0)) dX6_minutesIfSwapped_0 rfl ?_
  refine rp_getR (k := 1) (b := 4) sh0 rfl fdX6_19 dX6_minutesIfSwapped_1 ?_
  refine rp_getR (k := 0) (b := 5) sh4 rfl fdX6_69 dX6_minutesIfSwapped_4 ?_
  refine rp_aload_n (x := (E.2.2.2.1 0)) dX6_minutesIfSwapped_7 rfl ?_
  refine rp_getR (k := 0) (b := 1) sh0 rfl fdX6_10 dX6_minutesIfSwapped_8 ?_
  refine rp_callV_hv (As := [.ref (E.2.2.2.1 1)]) (rest := []) (b := (E.2.2.2.1 5)) (rX1_become σ 5 1 ni5 ni1) cbX1_become lkX6_82 viX1_become (rp_rcO sh5 rfl) rfl (Nat.le_of_ble_eq_true rfl) ⟨rfl, rfl, ⟨Nat.le_of_ble_eq_true rfl, Nat.le_of_ble_eq_true rfl⟩, Nat.zero_le _, Nat.zero_le _⟩ rfl (Nat.le_of_ble_eq_true rfl) dX6_minutesIfSwapped_11 (fun σ1 hσ1 => ?_)
  refine rp_aload_n (x := (E.2.2.2.1 0)) dX6_minutesIfSwapped_14 rfl ?_
  refine rp_getR (k := 1) (b := 4) sh0 rfl fdX6_19 dX6_minutesIfSwapped_15 ?_
  refine rp_getR (k := 0) (b := 5) sh4 rfl fdX6_69 dX6_minutesIfSwapped_18 ?_
  refine rp_iload_n (x := v1) dX6_minutesIfSwapped_21 rfl ?_
  refine rp_iconst dX6_minutesIfSwapped_22 ?_
  refine rp_aload_n (x := (E.2.2.2.1 0)) dX6_minutesIfSwapped_23 rfl ?_
  refine rp_getR (k := 0) (b := 1) sh0 rfl fdX6_10 dX6_minutesIfSwapped_24 ?_
  refine rp_iload_n (x := v2) dX6_minutesIfSwapped_27 rfl ?_
  refine rp_iconst dX6_minutesIfSwapped_28 ?_
  refine rp_callV_hi (As := [.int v2, .int (rI 2)]) (rest := [.int (rI 2), .int v1, .ref (E.2.2.2.1 5)]) (b := (E.2.2.2.1 1)) (rX1_ofWork σ1 1 v2 (rI 2) ni1) cbX1_ofWork lkX6_118 viX1_ofWork (rp_rcO sh1 rfl) rfl (Nat.le_of_ble_eq_true rfl) ⟨rfl, rfl, ⟨Nat.le_of_ble_eq_true rfl, Nat.le_of_ble_eq_true rfl⟩, Nat.zero_le _, Nat.zero_le _⟩ rfl (Nat.le_of_ble_eq_true rfl) dX6_minutesIfSwapped_29 (fun x2 hx2 => ?_)
  refine rp_callV_hv (As := [.int v1, .int (rI 2), .int x2]) (rest := []) (b := (E.2.2.2.1 5)) (rX1_setWork σ1 5 v1 (rI 2) x2 ni5) cbX1_setWork lkX6_163 viX1_setWork (rp_rcO sh5 rfl) rfl (Nat.le_of_ble_eq_true rfl) ⟨rfl, rfl, ⟨Nat.le_of_ble_eq_true rfl, Nat.le_of_ble_eq_true rfl⟩, Nat.zero_le _, Nat.zero_le _⟩ rfl (Nat.le_of_ble_eq_true rfl) dX6_minutesIfSwapped_32 (fun σ3 hσ3 => ?_)
  refine rp_aload_n (x := (E.2.2.2.1 0)) dX6_minutesIfSwapped_35 rfl ?_
  refine rp_getR (k := 1) (b := 4) sh0 rfl fdX6_19 dX6_minutesIfSwapped_36 ?_
  refine rp_getR (k := 0) (b := 5) sh4 rfl fdX6_69 dX6_minutesIfSwapped_39 ?_
  refine rp_iload_n (x := v2) dX6_minutesIfSwapped_42 rfl ?_
  refine rp_iconst dX6_minutesIfSwapped_43 ?_
  refine rp_aload_n (x := (E.2.2.2.1 0)) dX6_minutesIfSwapped_44 rfl ?_
  refine rp_getR (k := 0) (b := 1) sh0 rfl fdX6_10 dX6_minutesIfSwapped_45 ?_
  refine rp_iload_n (x := v1) dX6_minutesIfSwapped_48 rfl ?_
  refine rp_iconst dX6_minutesIfSwapped_49 ?_
  refine rp_callV_hi (As := [.int v1, .int (rI 2)]) (rest := [.int (rI 2), .int v2, .ref (E.2.2.2.1 5)]) (b := (E.2.2.2.1 1)) (rX1_ofWork σ3 1 v1 (rI 2) ni1) cbX1_ofWork lkX6_118 viX1_ofWork (rp_rcO sh1 rfl) rfl (Nat.le_of_ble_eq_true rfl) ⟨rfl, rfl, ⟨Nat.le_of_ble_eq_true rfl, Nat.le_of_ble_eq_true rfl⟩, Nat.zero_le _, Nat.zero_le _⟩ rfl (Nat.le_of_ble_eq_true rfl) dX6_minutesIfSwapped_50 (fun x4 hx4 => ?_)
  refine rp_callV_hv (As := [.int v2, .int (rI 2), .int x4]) (rest := []) (b := (E.2.2.2.1 5)) (rX1_setWork σ3 5 v2 (rI 2) x4 ni5) cbX1_setWork lkX6_163 viX1_setWork (rp_rcO sh5 rfl) rfl (Nat.le_of_ble_eq_true rfl) ⟨rfl, rfl, ⟨Nat.le_of_ble_eq_true rfl, Nat.le_of_ble_eq_true rfl⟩, Nat.zero_le _, Nat.zero_le _⟩ rfl (Nat.le_of_ble_eq_true rfl) dX6_minutesIfSwapped_53 (fun σ5 hσ5 => ?_)
  refine rp_aload_n (x := (E.2.2.2.1 0)) dX6_minutesIfSwapped_56 rfl ?_
  refine rp_getR (k := 1) (b := 4) sh0 rfl fdX6_19 dX6_minutesIfSwapped_57 ?_
  refine rp_callV_hv (As := []) (rest := []) (b := (E.2.2.2.1 4)) (rX3_settle σ5) cbX3_settle lkX6_201 viX3_settle (rp_rcO sh4 rfl) rfl (Nat.le_of_ble_eq_true rfl) ⟨rfl, rfl, ⟨Nat.le_of_ble_eq_true rfl, Nat.le_of_ble_eq_true rfl⟩, Nat.zero_le _, Nat.zero_le _⟩ rfl (Nat.le_of_ble_eq_true rfl) dX6_minutesIfSwapped_60 (fun σ6 hσ6 => ?_)
  refine rp_aload_n (x := (E.2.2.2.1 0)) dX6_minutesIfSwapped_63 rfl ?_
  refine rp_getR (k := 1) (b := 4) sh0 rfl fdX6_19 dX6_minutesIfSwapped_64 ?_
  refine rp_callV_hi (As := []) (rest := []) (b := (E.2.2.2.1 4)) (rX3_minutesOfAll σ6) cbX3_minutesOfAll lkX6_107 viX3_minutesOfAll (rp_rcO sh4 rfl) rfl (Nat.le_of_ble_eq_true rfl) ⟨rfl, rfl, ⟨Nat.le_of_ble_eq_true rfl, Nat.le_of_ble_eq_true rfl⟩, Nat.zero_le _, Nat.zero_le _⟩ rfl (Nat.le_of_ble_eq_true rfl) dX6_minutesIfSwapped_67 (fun x7 hx7 => ?_)
  exact rp_iret rfl rfl dX6_minutesIfSwapped_70
/-! RocketPrint.swap(I)I -/
abbrev rmX6_swap : Room := { frames := 6, cells := 0, slots := 0, locals := 141 }
def fX6_swap_53 (k38 : rp_S → Int32 → Int32 → Option (Int32 × rp_S)) : Nat → rp_S → Int32 → Int32 → Int32 → Option (Int32 × rp_S)
  | 0, _, _, _, _ => none
  | n + 1, σ, v1, v2, v3 =>
    (if (σ 1 2) ≤ v3 then
    (k38 σ v1 (v2 + (rI 1)))
  else
    ((fX6_minutesIfSwapped σ v2 v3).bind fun p6 =>
    ((fX0_offer p6.2 (((rI 10) * v2) + v3) (p6.1)).bind fun σ7 =>
    (fX6_swap_53 k38 n σ7 v1 v2 (v3 + (rI 1))))))
set_option maxRecDepth 100000 in
theorem rX6_swap_53 {E : rp_E} (k38 : rp_S → Int32 → Int32 → Option (Int32 × rp_S)) (hk38 : ∀ (σ : rp_S) (v1 : Int32) (v2 : Int32), rp_R E (rp_mK E rmX6_swap) mX6_swap 38 [some (.ref (E.2.2.2.1 0)), some (.int v1), some (.int v2), none] [] σ rp_hI (k38 σ v1 v2)) : ∀ (n : Nat) (σ : rp_S) (v1 : Int32) (v2 : Int32) (v3 : Int32), rp_R E (rp_mK E rmX6_swap) mX6_swap 53 [some (.ref (E.2.2.2.1 0)), some (.int v1), some (.int v2), some (.int v3)] [] σ rp_hI (fX6_swap_53 k38 n σ v1 v2 v3) := by
  intro n
  induction n with
  | zero =>
    intro σ v1 v2 v3
    rw [fX6_swap_53]
    exact rp_none
  | succ n ih =>
    intro σ v1 v2 v3
    rw [fX6_swap_53]
    refine rp_iload_n (x := v3) dX6_swap_53 rfl ?_
    refine rp_aload_n (x := (E.2.2.2.1 0)) dX6_swap_54 rfl ?_
    refine rp_getR (k := 0) (b := 1) sh0 rfl fdX6_10 dX6_swap_55 ?_
    refine rp_getI (k := 2) sh1 rfl fdX6_92 dX6_swap_58 ?_
    refine rp_icmp_ge (tgt := 89) dX6_swap_61 (by decide) ?_ ?_
    · refine rp_iinc (x := v2) dX6_swap_89 rfl (by decide) rfl ?_
      refine rp_goto (tgt := 38) dX6_swap_92 (by decide) ?_
      refine rp_mask [true, true, true, false] (vs2 := [some (.ref (E.2.2.2.1 0)), some (.int v1), some (.int (v2 + (rI 1))), none]) rfl rfl ?_
      exact hk38 σ v1 (v2 + (rI 1))
    · refine rp_aload_n (x := (E.2.2.2.1 0)) dX6_swap_64 rfl ?_
      refine rp_getR (k := 2) (b := 12) sh0 rfl fdX6_26 dX6_swap_65 ?_
      refine rp_bipush dX6_swap_68 (by decide) ?_
      refine rp_iload_n (x := v2) dX6_swap_70 rfl ?_
      refine rp_imul dX6_swap_71 ?_
      refine rp_iload_n (x := v3) dX6_swap_72 rfl ?_
      refine rp_iadd dX6_swap_73 ?_
      refine rp_aload_n (x := (E.2.2.2.1 0)) dX6_swap_74 rfl ?_
      refine rp_iload_n (x := v2) dX6_swap_75 rfl ?_
      refine rp_iload_n (x := v3) dX6_swap_76 rfl ?_
      refine rp_callV_hI (As := [.int v2, .int v3]) (rest := [.int (((rI 10) * v2) + v3), .ref (E.2.2.2.1 12)]) (b := (E.2.2.2.1 0)) (rX6_minutesIfSwapped σ v2 v3) cbX6_minutesIfSwapped lkX6_209 viX6_minutesIfSwapped (rp_rcO sh0 rfl) rfl (Nat.le_of_ble_eq_true rfl) ⟨rfl, rfl, ⟨Nat.le_of_ble_eq_true rfl, Nat.le_of_ble_eq_true rfl⟩, Nat.zero_le _, Nat.zero_le _⟩ rfl (Nat.le_of_ble_eq_true rfl) dX6_swap_77 (fun p6 hp6 => ?_)
      refine rp_callV_hv (As := [.int (((rI 10) * v2) + v3), .int p6.1]) (rest := []) (b := (E.2.2.2.1 12)) (rX0_offer p6.2 (((rI 10) * v2) + v3) (p6.1)) cbX0_offer lkX6_190 viX0_offer (rp_rcO sh12 rfl) rfl (Nat.le_of_ble_eq_true rfl) ⟨rfl, rfl, ⟨Nat.le_of_ble_eq_true rfl, Nat.le_of_ble_eq_true rfl⟩, Nat.zero_le _, Nat.zero_le _⟩ rfl (Nat.le_of_ble_eq_true rfl) dX6_swap_80 (fun σ7 hσ7 => ?_)
      refine rp_iinc (x := v3) dX6_swap_83 rfl (by decide) rfl ?_
      refine rp_goto (tgt := 53) dX6_swap_86 (by decide) ?_
      refine rp_mask [true, true, true, true] (vs2 := [some (.ref (E.2.2.2.1 0)), some (.int v1), some (.int v2), some (.int (v3 + (rI 1)))]) rfl rfl ?_
      exact ih σ7 v1 v2 (v3 + (rI 1))
def fX6_swap_38  : Nat → rp_S → Int32 → Int32 → Option (Int32 × rp_S)
  | 0, _, _, _ => none
  | n + 1, σ, v1, v2 =>
    (if (σ 1 2) ≤ v2 then
    ((fX0_answer σ v1).bind fun x5 =>
    (some (x5, σ)))
  else
    (fX6_swap_53 (fun σ v1 v2 => fX6_swap_38 n σ v1 v2) 1000 σ v1 v2 (v2 + (rI 1))))
set_option maxRecDepth 100000 in
theorem rX6_swap_38 {E : rp_E}  : ∀ (n : Nat) (σ : rp_S) (v1 : Int32) (v2 : Int32), rp_R E (rp_mK E rmX6_swap) mX6_swap 38 [some (.ref (E.2.2.2.1 0)), some (.int v1), some (.int v2), none] [] σ rp_hI (fX6_swap_38 n σ v1 v2) := by
  intro n
  induction n with
  | zero =>
    intro σ v1 v2
    rw [fX6_swap_38]
    exact rp_none
  | succ n ih =>
    intro σ v1 v2
    rw [fX6_swap_38]
    refine rp_iload_n (x := v2) dX6_swap_38 rfl ?_
    refine rp_aload_n (x := (E.2.2.2.1 0)) dX6_swap_39 rfl ?_
    refine rp_getR (k := 0) (b := 1) sh0 rfl fdX6_10 dX6_swap_40 ?_
    refine rp_getI (k := 2) sh1 rfl fdX6_92 dX6_swap_43 ?_
    refine rp_icmp_ge (tgt := 95) dX6_swap_46 (by decide) ?_ ?_
    · refine rp_aload_n (x := (E.2.2.2.1 0)) dX6_swap_95 rfl ?_
      refine rp_getR (k := 2) (b := 12) sh0 rfl fdX6_26 dX6_swap_96 ?_
      refine rp_iload_n (x := v1) dX6_swap_99 rfl ?_
      refine rp_callV_hi (As := [.int v1]) (rest := []) (b := (E.2.2.2.1 12)) (rX0_answer σ v1) cbX0_answer lkX6_194 viX0_answer (rp_rcO sh12 rfl) rfl (Nat.le_of_ble_eq_true rfl) ⟨rfl, rfl, ⟨Nat.le_of_ble_eq_true rfl, Nat.le_of_ble_eq_true rfl⟩, Nat.zero_le _, Nat.zero_le _⟩ rfl (Nat.le_of_ble_eq_true rfl) dX6_swap_100 (fun x5 hx5 => ?_)
      exact rp_iret rfl rfl dX6_swap_103
    · refine rp_iload_n (x := v2) dX6_swap_49 rfl ?_
      refine rp_iconst dX6_swap_50 ?_
      refine rp_iadd dX6_swap_51 ?_
      refine rp_istore_n dX6_swap_52 (by decide) rfl ?_
      refine rp_mask [true, true, true, true] (vs2 := [some (.ref (E.2.2.2.1 0)), some (.int v1), some (.int v2), some (.int (v2 + (rI 1)))]) rfl rfl ?_
      exact rX6_swap_53 (fun σ v1 v2 => fX6_swap_38 n σ v1 v2) (fun σ v1 v2 => ih σ v1 v2) 1000 σ v1 v2 (v2 + (rI 1))
def fX6_swap (σ : rp_S) (v1 : Int32) : Option (Int32 × rp_S) :=
  ((fX6_within v1 (rI 0) (rI 1)).bind fun x1 =>
    (if x1 = 0 then
    (some ((rI (-1)), σ))
  else
    ((fX3_begin σ 1).bind fun σ2 =>
    ((fX3_minutesOfAll σ2).bind fun x3 =>
    ((fX0_beginAbove σ2 x3).bind fun σ4 =>
    (fX6_swap_38 1000 σ4 v1 (rI 0)))))))
set_option maxRecDepth 100000 in
theorem rX6_swap {E : rp_E} (σ : rp_S) (v1 : Int32)   : rp_R E (rp_mK E rmX6_swap) mX6_swap 0 [some (.ref (E.2.2.2.1 0)), some (.int v1), none, none] [] σ rp_hI (fX6_swap σ v1) := by
  rw [fX6_swap]
  refine rp_iload_n (x := v1) dX6_swap_0 rfl ?_
  refine rp_iconst dX6_swap_1 ?_
  refine rp_iconst dX6_swap_2 ?_
  refine rp_callS_hi (As := [.int v1, .int (rI 0), .int (rI 1)]) (rest := []) (rX6_within σ v1 (rI 0) (rI 1)) cbX6_within lkX6_57 stX6_within rfl (Nat.le_of_ble_eq_true rfl) ⟨rfl, rfl, ⟨Nat.le_of_ble_eq_true rfl, Nat.le_of_ble_eq_true rfl⟩, Nat.zero_le _, Nat.zero_le _⟩ rfl (Nat.le_of_ble_eq_true rfl) dX6_swap_3 (fun x1 hx1 => ?_)
  refine rp_if_ne (tgt := 11) dX6_swap_6 (by decide) ?_ ?_
  · refine rp_aload_n (x := (E.2.2.2.1 0)) dX6_swap_11 rfl ?_
    refine rp_getR (k := 1) (b := 4) sh0 rfl fdX6_19 dX6_swap_12 ?_
    refine rp_aload_n (x := (E.2.2.2.1 0)) dX6_swap_15 rfl ?_
    refine rp_getR (k := 0) (b := 1) sh0 rfl fdX6_10 dX6_swap_16 ?_
    refine rp_callV_hv (As := [.ref (E.2.2.2.1 1)]) (rest := []) (b := (E.2.2.2.1 4)) (rX3_begin σ 1 ni1) cbX3_begin lkX6_104 viX3_begin (rp_rcO sh4 rfl) rfl (Nat.le_of_ble_eq_true rfl) ⟨rfl, rfl, ⟨Nat.le_of_ble_eq_true rfl, Nat.le_of_ble_eq_true rfl⟩, Nat.zero_le _, Nat.zero_le _⟩ rfl (Nat.le_of_ble_eq_true rfl) dX6_swap_19 (fun σ2 hσ2 => ?_)
    refine rp_aload_n (x := (E.2.2.2.1 0)) dX6_swap_22 rfl ?_
    refine rp_getR (k := 2) (b := 12) sh0 rfl fdX6_26 dX6_swap_23 ?_
    refine rp_aload_n (x := (E.2.2.2.1 0)) dX6_swap_26 rfl ?_
    refine rp_getR (k := 1) (b := 4) sh0 rfl fdX6_19 dX6_swap_27 ?_
    refine rp_callV_hi (As := []) (rest := [.ref (E.2.2.2.1 12)]) (b := (E.2.2.2.1 4)) (rX3_minutesOfAll σ2) cbX3_minutesOfAll lkX6_107 viX3_minutesOfAll (rp_rcO sh4 rfl) rfl (Nat.le_of_ble_eq_true rfl) ⟨rfl, rfl, ⟨Nat.le_of_ble_eq_true rfl, Nat.le_of_ble_eq_true rfl⟩, Nat.zero_le _, Nat.zero_le _⟩ rfl (Nat.le_of_ble_eq_true rfl) dX6_swap_30 (fun x3 hx3 => ?_)
    refine rp_callV_hv (As := [.int x3]) (rest := []) (b := (E.2.2.2.1 12)) (rX0_beginAbove σ2 x3) cbX0_beginAbove lkX6_183 viX0_beginAbove (rp_rcO sh12 rfl) rfl (Nat.le_of_ble_eq_true rfl) ⟨rfl, rfl, ⟨Nat.le_of_ble_eq_true rfl, Nat.le_of_ble_eq_true rfl⟩, Nat.zero_le _, Nat.zero_le _⟩ rfl (Nat.le_of_ble_eq_true rfl) dX6_swap_33 (fun σ4 hσ4 => ?_)
    refine rp_iconst dX6_swap_36 ?_
    refine rp_istore_n dX6_swap_37 (by decide) rfl ?_
    refine rp_mask [true, true, true, false] (vs2 := [some (.ref (E.2.2.2.1 0)), some (.int v1), some (.int (rI 0)), none]) rfl rfl ?_
    exact rX6_swap_38 1000 σ4 v1 (rI 0)
  · refine rp_iconst dX6_swap_9 ?_
    exact rp_iret rfl rfl dX6_swap_10
/-! RocketPrintModel.swap(I)I -/
abbrev rmX7_swap : Room := { frames := 4, cells := 0, slots := 0, locals := 101 }
def fX7_swap_152 (k28 : rp_S → Int32 → Int32 → Int32 → Int32 → Option (Int32 × rp_S)) (k46 : rp_S → Int32 → Int32 → Int32 → Int32 → Int32 → Option (Int32 × rp_S)) (σ : rp_S) (v1 : Int32) (v3 : Int32) (v4 : Int32) (v5 : Int32) (s0 : Int32) : Option (Int32 × rp_S) :=
  (k46 σ v1 s0 v3 v4 (v5 + (rI 1)))
set_option maxRecDepth 100000 in
theorem rX7_swap_152 {E : rp_E} (k28 : rp_S → Int32 → Int32 → Int32 → Int32 → Option (Int32 × rp_S)) (hk28 : ∀ (σ : rp_S) (v1 : Int32) (v2 : Int32) (v3 : Int32) (v4 : Int32), rp_R E (rp_mK E rmX7_swap) mX7_swap 28 [some (.ref (E.2.2.2.1 28)), some (.int v1), some (.int v2), some (.int v3), some (.int v4), none] [] σ rp_hI (k28 σ v1 v2 v3 v4)) (k46 : rp_S → Int32 → Int32 → Int32 → Int32 → Int32 → Option (Int32 × rp_S)) (hk46 : ∀ (σ : rp_S) (v1 : Int32) (v2 : Int32) (v3 : Int32) (v4 : Int32) (v5 : Int32), rp_R E (rp_mK E rmX7_swap) mX7_swap 46 [some (.ref (E.2.2.2.1 28)), some (.int v1), some (.int v2), some (.int v3), some (.int v4), some (.int v5)] [] σ rp_hI (k46 σ v1 v2 v3 v4 v5)) (σ : rp_S) (v1 : Int32) (v3 : Int32) (v4 : Int32) (v5 : Int32) (s0 : Int32) : rp_R E (rp_mK E rmX7_swap) mX7_swap 152 [some (.ref (E.2.2.2.1 28)), some (.int v1), none, some (.int v3), some (.int v4), some (.int v5)] [.int s0] σ rp_hI (fX7_swap_152 k28 k46 σ v1 v3 v4 v5 s0) := by
  rw [fX7_swap_152]
  refine rp_istore_n dX7_swap_152 (by decide) rfl ?_
  refine rp_iinc (x := v5) dX7_swap_153 rfl (by decide) rfl ?_
  refine rp_goto (tgt := 46) dX7_swap_156 (by decide) ?_
  refine rp_mask [true, true, true, true, true, true] (vs2 := [some (.ref (E.2.2.2.1 28)), some (.int v1), some (.int s0), some (.int v3), some (.int v4), some (.int (v5 + (rI 1)))]) rfl rfl ?_
  exact hk46 σ v1 s0 v3 v4 (v5 + (rI 1))
def fX7_swap_135 (k28 : rp_S → Int32 → Int32 → Int32 → Int32 → Option (Int32 × rp_S)) (k46 : rp_S → Int32 → Int32 → Int32 → Int32 → Int32 → Option (Int32 × rp_S)) (σ : rp_S) (v1 : Int32) (v2 : Int32) (v4 : Int32) (v5 : Int32) (s0 : Int32) : Option (Int32 × rp_S) :=
  (if (σ 28 16) ≤ v2 then
    (fX7_swap_152 k28 k46 σ v1 s0 v4 v5 v2)
  else
    (fX7_swap_152 k28 k46 σ v1 s0 v4 v5 (σ 28 16)))
set_option maxRecDepth 100000 in
theorem rX7_swap_135 {E : rp_E} (k28 : rp_S → Int32 → Int32 → Int32 → Int32 → Option (Int32 × rp_S)) (hk28 : ∀ (σ : rp_S) (v1 : Int32) (v2 : Int32) (v3 : Int32) (v4 : Int32), rp_R E (rp_mK E rmX7_swap) mX7_swap 28 [some (.ref (E.2.2.2.1 28)), some (.int v1), some (.int v2), some (.int v3), some (.int v4), none] [] σ rp_hI (k28 σ v1 v2 v3 v4)) (k46 : rp_S → Int32 → Int32 → Int32 → Int32 → Int32 → Option (Int32 × rp_S)) (hk46 : ∀ (σ : rp_S) (v1 : Int32) (v2 : Int32) (v3 : Int32) (v4 : Int32) (v5 : Int32), rp_R E (rp_mK E rmX7_swap) mX7_swap 46 [some (.ref (E.2.2.2.1 28)), some (.int v1), some (.int v2), some (.int v3), some (.int v4), some (.int v5)] [] σ rp_hI (k46 σ v1 v2 v3 v4 v5)) (σ : rp_S) (v1 : Int32) (v2 : Int32) (v4 : Int32) (v5 : Int32) (s0 : Int32) : rp_R E (rp_mK E rmX7_swap) mX7_swap 135 [some (.ref (E.2.2.2.1 28)), some (.int v1), some (.int v2), none, some (.int v4), some (.int v5)] [.int s0] σ rp_hI (fX7_swap_135 k28 k46 σ v1 v2 v4 v5 s0) := by
  rw [fX7_swap_135]
  refine rp_istore_n dX7_swap_135 (by decide) rfl ?_
  refine rp_aload_n (x := (E.2.2.2.1 28)) dX7_swap_136 rfl ?_
  refine rp_getI (k := 16) sh28 rfl fdX7_149 dX7_swap_137 ?_
  refine rp_iload_n (x := v2) dX7_swap_140 rfl ?_
  refine rp_icmp_le (tgt := 151) dX7_swap_141 (by decide) ?_ ?_
  · refine rp_iload_n (x := v2) dX7_swap_151 rfl ?_
    refine rp_mask [true, true, false, true, true, true] (vs2 := [some (.ref (E.2.2.2.1 28)), some (.int v1), none, some (.int s0), some (.int v4), some (.int v5)]) rfl rfl ?_
    exact rX7_swap_152 k28 hk28 k46 hk46 σ v1 s0 v4 v5 v2
  · refine rp_aload_n (x := (E.2.2.2.1 28)) dX7_swap_144 rfl ?_
    refine rp_getI (k := 16) sh28 rfl fdX7_149 dX7_swap_145 ?_
    refine rp_goto (tgt := 152) dX7_swap_148 (by decide) ?_
    refine rp_mask [true, true, false, true, true, true] (vs2 := [some (.ref (E.2.2.2.1 28)), some (.int v1), none, some (.int s0), some (.int v4), some (.int v5)]) rfl rfl ?_
    exact rX7_swap_152 k28 hk28 k46 hk46 σ v1 s0 v4 v5 (σ 28 16)
def fX7_swap_46 (k28 : rp_S → Int32 → Int32 → Int32 → Int32 → Option (Int32 × rp_S)) : Nat → rp_S → Int32 → Int32 → Int32 → Int32 → Int32 → Option (Int32 × rp_S)
  | 0, _, _, _, _, _, _ => none
  | n + 1, σ, v1, v2, v3, v4, v5 =>
    ((rq_rd σ 29 180 (rI 24)).bind fun x4 =>
    (if x4 ≤ v5 then
    (k28 σ v1 v2 v3 (v4 + (rI 1)))
  else
    ((fX7_copies σ (rI 0) (rI 144)).bind fun σ5 =>
    ((rq_rd σ5 29 180 ((rI 12) + v5)).bind fun x6 =>
    ((rq_wr σ5 29 180 ((rI 156) + v4) x6).bind fun σ7 =>
    ((rq_rd σ7 29 180 ((rI 12) + v4)).bind fun x8 =>
    ((rq_wr σ7 29 180 ((rI 156) + v5) x8).bind fun σ9 =>
    ((fX7_nightOn σ9 (rI 144)).bind fun σ10 =>
    (if (σ10 28 16) ≤ v2 then
    (fX7_swap_135 k28 (fun σ v1 v2 v3 v4 v5 => fX7_swap_46 k28 n σ v1 v2 v3 v4 v5) σ10 v1 v2 v4 v5 v3)
  else
    (fX7_swap_135 k28 (fun σ v1 v2 v3 v4 v5 => fX7_swap_46 k28 n σ v1 v2 v3 v4 v5) σ10 v1 v2 v4 v5 (((rI 10) * v4) + v5)))))))))))
set_option maxRecDepth 100000 in
theorem rX7_swap_46 {E : rp_E} (k28 : rp_S → Int32 → Int32 → Int32 → Int32 → Option (Int32 × rp_S)) (hk28 : ∀ (σ : rp_S) (v1 : Int32) (v2 : Int32) (v3 : Int32) (v4 : Int32), rp_R E (rp_mK E rmX7_swap) mX7_swap 28 [some (.ref (E.2.2.2.1 28)), some (.int v1), some (.int v2), some (.int v3), some (.int v4), none] [] σ rp_hI (k28 σ v1 v2 v3 v4)) : ∀ (n : Nat) (σ : rp_S) (v1 : Int32) (v2 : Int32) (v3 : Int32) (v4 : Int32) (v5 : Int32), rp_R E (rp_mK E rmX7_swap) mX7_swap 46 [some (.ref (E.2.2.2.1 28)), some (.int v1), some (.int v2), some (.int v3), some (.int v4), some (.int v5)] [] σ rp_hI (fX7_swap_46 k28 n σ v1 v2 v3 v4 v5) := by
  intro n
  induction n with
  | zero =>
    intro σ v1 v2 v3 v4 v5
    rw [fX7_swap_46]
    exact rp_none
  | succ n ih =>
    intro σ v1 v2 v3 v4 v5
    rw [fX7_swap_46]
    refine rp_iload (x := v5) dX7_swap_46 rfl ?_
    refine rp_aload_n (x := (E.2.2.2.1 28)) dX7_swap_48 rfl ?_
    refine rp_getR (k := 0) (b := 29) sh28 rfl fdX7_7 dX7_swap_49 ?_
    refine rp_bipush dX7_swap_52 (by decide) ?_
    refine rp_iaload sh29 dX7_swap_54 (fun x4 => ?_)
    refine rp_icmp_ge (tgt := 159) dX7_swap_55 (by decide) ?_ ?_
    · refine rp_iinc (x := v4) dX7_swap_159 rfl (by decide) rfl ?_
      refine rp_goto (tgt := 28) dX7_swap_162 (by decide) ?_
      refine rp_mask [true, true, true, true, true, false] (vs2 := [some (.ref (E.2.2.2.1 28)), some (.int v1), some (.int v2), some (.int v3), some (.int (v4 + (rI 1))), none]) rfl rfl ?_
      exact hk28 σ v1 v2 v3 (v4 + (rI 1))
    · refine rp_aload_n (x := (E.2.2.2.1 28)) dX7_swap_58 rfl ?_
      refine rp_iconst dX7_swap_59 ?_
      refine rp_sipush dX7_swap_60 (by decide) ?_
      refine rp_callV_hv (As := [.int (rI 0), .int (rI 144)]) (rest := []) (b := (E.2.2.2.1 28)) (rX7_copies σ (rI 0) (rI 144)) cbX7_copies lkX7_209 viX7_copies (rp_rcO sh28 rfl) rfl (Nat.le_of_ble_eq_true rfl) ⟨rfl, rfl, ⟨Nat.le_of_ble_eq_true rfl, Nat.le_of_ble_eq_true rfl⟩, Nat.zero_le _, Nat.zero_le _⟩ rfl (Nat.le_of_ble_eq_true rfl) dX7_swap_63 (fun σ5 hσ5 => ?_)
      refine rp_aload_n (x := (E.2.2.2.1 28)) dX7_swap_66 rfl ?_
      refine rp_getR (k := 0) (b := 29) sh28 rfl fdX7_7 dX7_swap_67 ?_
      refine rp_sipush dX7_swap_70 (by decide) ?_
      refine rp_iload (x := v4) dX7_swap_73 rfl ?_
      refine rp_iadd dX7_swap_75 ?_
      refine rp_aload_n (x := (E.2.2.2.1 28)) dX7_swap_76 rfl ?_
      refine rp_getR (k := 0) (b := 29) sh28 rfl fdX7_7 dX7_swap_77 ?_
      refine rp_bipush dX7_swap_80 (by decide) ?_
      refine rp_iload (x := v5) dX7_swap_82 rfl ?_
      refine rp_iadd dX7_swap_84 ?_
      refine rp_iaload sh29 dX7_swap_85 (fun x6 => ?_)
      refine rp_iastore sh29 dX7_swap_86 (fun σ7 => ?_)
      refine rp_aload_n (x := (E.2.2.2.1 28)) dX7_swap_87 rfl ?_
      refine rp_getR (k := 0) (b := 29) sh28 rfl fdX7_7 dX7_swap_88 ?_
      refine rp_sipush dX7_swap_91 (by decide) ?_
      refine rp_iload (x := v5) dX7_swap_94 rfl ?_
      refine rp_iadd dX7_swap_96 ?_
      refine rp_aload_n (x := (E.2.2.2.1 28)) dX7_swap_97 rfl ?_
      refine rp_getR (k := 0) (b := 29) sh28 rfl fdX7_7 dX7_swap_98 ?_
      refine rp_bipush dX7_swap_101 (by decide) ?_
      refine rp_iload (x := v4) dX7_swap_103 rfl ?_
      refine rp_iadd dX7_swap_105 ?_
      refine rp_iaload sh29 dX7_swap_106 (fun x8 => ?_)
      refine rp_iastore sh29 dX7_swap_107 (fun σ9 => ?_)
      refine rp_aload_n (x := (E.2.2.2.1 28)) dX7_swap_108 rfl ?_
      refine rp_sipush dX7_swap_109 (by decide) ?_
      refine rp_callV_hv (As := [.int (rI 144)]) (rest := []) (b := (E.2.2.2.1 28)) (rX7_nightOn σ9 (rI 144)) cbX7_nightOn lkX7_165 viX7_nightOn (rp_rcO sh28 rfl) rfl (Nat.le_of_ble_eq_true rfl) ⟨rfl, rfl, ⟨Nat.le_of_ble_eq_true rfl, Nat.le_of_ble_eq_true rfl⟩, Nat.zero_le _, Nat.zero_le _⟩ rfl (Nat.le_of_ble_eq_true rfl) dX7_swap_112 (fun σ10 hσ10 => ?_)
      refine rp_aload_n (x := (E.2.2.2.1 28)) dX7_swap_115 rfl ?_
      refine rp_getI (k := 16) sh28 rfl fdX7_149 dX7_swap_116 ?_
      refine rp_iload_n (x := v2) dX7_swap_119 rfl ?_
      refine rp_icmp_le (tgt := 134) dX7_swap_120 (by decide) ?_ ?_
      · refine rp_iload_n (x := v3) dX7_swap_134 rfl ?_
        refine rp_mask [true, true, true, false, true, true] (vs2 := [some (.ref (E.2.2.2.1 28)), some (.int v1), some (.int v2), none, some (.int v4), some (.int v5)]) rfl rfl ?_
        exact rX7_swap_135 k28 hk28 (fun σ v1 v2 v3 v4 v5 => fX7_swap_46 k28 n σ v1 v2 v3 v4 v5) (fun σ v1 v2 v3 v4 v5 => ih σ v1 v2 v3 v4 v5) σ10 v1 v2 v4 v5 v3
      · refine rp_bipush dX7_swap_123 (by decide) ?_
        refine rp_iload (x := v4) dX7_swap_125 rfl ?_
        refine rp_imul dX7_swap_127 ?_
        refine rp_iload (x := v5) dX7_swap_128 rfl ?_
        refine rp_iadd dX7_swap_130 ?_
        refine rp_goto (tgt := 135) dX7_swap_131 (by decide) ?_
        refine rp_mask [true, true, true, false, true, true] (vs2 := [some (.ref (E.2.2.2.1 28)), some (.int v1), some (.int v2), none, some (.int v4), some (.int v5)]) rfl rfl ?_
        exact rX7_swap_135 k28 hk28 (fun σ v1 v2 v3 v4 v5 => fX7_swap_46 k28 n σ v1 v2 v3 v4 v5) (fun σ v1 v2 v3 v4 v5 => ih σ v1 v2 v3 v4 v5) σ10 v1 v2 v4 v5 (((rI 10) * v4) + v5)
def fX7_swap_28  : Nat → rp_S → Int32 → Int32 → Int32 → Int32 → Option (Int32 × rp_S)
  | 0, _, _, _, _, _ => none
  | n + 1, σ, v1, v2, v3, v4 =>
    ((rq_rd σ 29 180 (rI 24)).bind fun x3 =>
    (if x3 ≤ v4 then
    (if v3 = (rI (-4)) then
    (some (v3, σ))
  else
    (if v1 = 0 then
    (some (v3, σ))
  else
    (some (v2, σ))))
  else
    (fX7_swap_46 (fun σ v1 v2 v3 v4 => fX7_swap_28 n σ v1 v2 v3 v4) 1000 σ v1 v2 v3 v4 (v4 + (rI 1)))))
set_option maxRecDepth 100000 in
theorem rX7_swap_28 {E : rp_E}  : ∀ (n : Nat) (σ : rp_S) (v1 : Int32) (v2 : Int32) (v3 : Int32) (v4 : Int32), rp_R E (rp_mK E rmX7_swap) mX7_swap 28 [some (.ref (E.2.2.2.1 28)), some (.int v1), some (.int v2), some (.int v3), some (.int v4), none] [] σ rp_hI (fX7_swap_28 n σ v1 v2 v3 v4) := by
  intro n
  induction n with
  | zero =>
    intro σ v1 v2 v3 v4
    rw [fX7_swap_28]
    exact rp_none
  | succ n ih =>
    intro σ v1 v2 v3 v4
    rw [fX7_swap_28]
    refine rp_iload (x := v4) dX7_swap_28 rfl ?_
    refine rp_aload_n (x := (E.2.2.2.1 28)) dX7_swap_30 rfl ?_
    refine rp_getR (k := 0) (b := 29) sh28 rfl fdX7_7 dX7_swap_31 ?_
    refine rp_bipush dX7_swap_34 (by decide) ?_
    refine rp_iaload sh29 dX7_swap_36 (fun x3 => ?_)
    refine rp_icmp_ge (tgt := 165) dX7_swap_37 (by decide) ?_ ?_
    · refine rp_iload_n (x := v3) dX7_swap_165 rfl ?_
      refine rp_bipush dX7_swap_166 (by decide) ?_
      refine rp_icmp_eq (tgt := 175) dX7_swap_168 (by decide) ?_ ?_
      · refine rp_iload_n (x := v3) dX7_swap_175 rfl ?_
        refine rp_goto (tgt := 180) dX7_swap_176 (by decide) ?_
        exact rp_iret rfl rfl dX7_swap_180
      · refine rp_iload_n (x := v1) dX7_swap_171 rfl ?_
        refine rp_if_ne (tgt := 179) dX7_swap_172 (by decide) ?_ ?_
        · refine rp_iload_n (x := v2) dX7_swap_179 rfl ?_
          exact rp_iret rfl rfl dX7_swap_180
        · refine rp_iload_n (x := v3) dX7_swap_175 rfl ?_
          refine rp_goto (tgt := 180) dX7_swap_176 (by decide) ?_
          exact rp_iret rfl rfl dX7_swap_180
    · refine rp_iload (x := v4) dX7_swap_40 rfl ?_
      refine rp_iconst dX7_swap_42 ?_
      refine rp_iadd dX7_swap_43 ?_
      refine rp_istore dX7_swap_44 (by decide) rfl ?_
      refine rp_mask [true, true, true, true, true, true] (vs2 := [some (.ref (E.2.2.2.1 28)), some (.int v1), some (.int v2), some (.int v3), some (.int v4), some (.int (v4 + (rI 1)))]) rfl rfl ?_
      exact rX7_swap_46 (fun σ v1 v2 v3 v4 => fX7_swap_28 n σ v1 v2 v3 v4) (fun σ v1 v2 v3 v4 => ih σ v1 v2 v3 v4) 1000 σ v1 v2 v3 v4 (v4 + (rI 1))
def fX7_swap (σ : rp_S) (v1 : Int32) : Option (Int32 × rp_S) :=
  ((fX7_in (v1.toInt64) (rJ 0) (rJ 1)).bind fun x1 =>
    (if x1 = 0 then
    (some ((rI (-1)), σ))
  else
    ((fX7_nightOn σ (rI 0)).bind fun σ2 =>
    (fX7_swap_28 1000 σ2 v1 (σ2 28 16) (rI (-4)) (rI 0)))))
set_option maxRecDepth 100000 in
theorem rX7_swap {E : rp_E} (σ : rp_S) (v1 : Int32)   : rp_R E (rp_mK E rmX7_swap) mX7_swap 0 [some (.ref (E.2.2.2.1 28)), some (.int v1), none, none, none, none] [] σ rp_hI (fX7_swap σ v1) := by
  rw [fX7_swap]
  refine rp_iload_n (x := v1) dX7_swap_0 rfl ?_
  refine rp_i2l dX7_swap_1 ?_
  refine rp_lconst dX7_swap_2 0 (by decide) ?_
  refine rp_lconst dX7_swap_3 1 (by decide) ?_
  refine rp_callS_hi (As := [.long (v1.toInt64), .long (rJ 0), .long (rJ 1)]) (rest := []) (rX7_in σ (v1.toInt64) (rJ 0) (rJ 1)) cbX7_in lkX7_49 stX7_in rfl (Nat.le_of_ble_eq_true rfl) ⟨rfl, rfl, ⟨Nat.le_of_ble_eq_true rfl, Nat.le_of_ble_eq_true rfl⟩, Nat.zero_le _, Nat.zero_le _⟩ rfl (Nat.le_of_ble_eq_true rfl) dX7_swap_4 (fun x1 hx1 => ?_)
  refine rp_if_ne (tgt := 12) dX7_swap_7 (by decide) ?_ ?_
  · refine rp_aload_n (x := (E.2.2.2.1 28)) dX7_swap_12 rfl ?_
    refine rp_iconst dX7_swap_13 ?_
    refine rp_callV_hv (As := [.int (rI 0)]) (rest := []) (b := (E.2.2.2.1 28)) (rX7_nightOn σ (rI 0)) cbX7_nightOn lkX7_165 viX7_nightOn (rp_rcO sh28 rfl) rfl (Nat.le_of_ble_eq_true rfl) ⟨rfl, rfl, ⟨Nat.le_of_ble_eq_true rfl, Nat.le_of_ble_eq_true rfl⟩, Nat.zero_le _, Nat.zero_le _⟩ rfl (Nat.le_of_ble_eq_true rfl) dX7_swap_14 (fun σ2 hσ2 => ?_)
    refine rp_aload_n (x := (E.2.2.2.1 28)) dX7_swap_17 rfl ?_
    refine rp_getI (k := 16) sh28 rfl fdX7_149 dX7_swap_18 ?_
    refine rp_istore_n dX7_swap_21 (by decide) rfl ?_
    refine rp_bipush dX7_swap_22 (by decide) ?_
    refine rp_istore_n dX7_swap_24 (by decide) rfl ?_
    refine rp_iconst dX7_swap_25 ?_
    refine rp_istore dX7_swap_26 (by decide) rfl ?_
    refine rp_mask [true, true, true, true, true, false] (vs2 := [some (.ref (E.2.2.2.1 28)), some (.int v1), some (.int (σ2 28 16)), some (.int (rI (-4))), some (.int (rI 0)), none]) rfl rfl ?_
    exact rX7_swap_28 1000 σ2 v1 (σ2 28 16) (rI (-4)) (rI 0)
  · refine rp_iconst dX7_swap_10 ?_
    exact rp_iret rfl rfl dX7_swap_11
/-! RocketPrint$Show.putOut(I)V -/
abbrev rmX3_putOut : Room := { frames := 0, cells := 0, slots := 0, locals := 0 }
def fX3_putOut (σ : rp_S) (v1 : Int32) : Option (rp_S) :=
  ((rq_rd σ 8 6 v1).bind fun x1 =>
    ((rq_wr σ 9 6 v1 x1).bind fun σ2 =>
    (some σ2)))
set_option maxRecDepth 100000 in
theorem rX3_putOut {E : rp_E} (σ : rp_S) (v1 : Int32)   : rp_R E (rp_mK E rmX3_putOut) mX3_putOut 0 [some (.ref (E.2.2.2.1 4)), some (.int v1)] [] σ rp_hv (fX3_putOut σ v1) := by
  rw [fX3_putOut]
  refine rp_aload_n (x := (E.2.2.2.1 4)) dX3_putOut_0 rfl ?_
  refine rp_getR (k := 2) (b := 9) sh4 rfl fdX3_22 dX3_putOut_1 ?_
  refine rp_iload_n (x := v1) dX3_putOut_4 rfl ?_
  refine rp_aload_n (x := (E.2.2.2.1 4)) dX3_putOut_5 rfl ?_
  refine rp_getR (k := 1) (b := 8) sh4 rfl fdX3_18 dX3_putOut_6 ?_
  refine rp_iload_n (x := v1) dX3_putOut_9 rfl ?_
  refine rp_iaload sh8 dX3_putOut_10 (fun x1 => ?_)
  refine rp_iastore sh9 dX3_putOut_11 (fun σ2 => ?_)
  exact rp_vret rfl rfl dX3_putOut_12
/-! RocketPrint.lose(I)I -/
abbrev rmX6_lose : Room := { frames := 6, cells := 0, slots := 0, locals := 138 }
def fX6_lose_38  : Nat → rp_S → Int32 → Int32 → Option (Int32 × rp_S)
  | 0, _, _, _ => none
  | n + 1, σ, v1, v2 =>
    (if (σ 1 2) ≤ v2 then
    ((fX0_answer σ v1).bind fun x5 =>
    (some (x5, σ)))
  else
    ((fX3_settle σ).bind fun σ6 =>
    ((fX3_putOut σ6 v2).bind fun σ7 =>
    ((fX3_wholesOfAll σ7).bind fun x8 =>
    ((fX0_offer σ7 v2 x8).bind fun σ9 =>
    (fX6_lose_38 n σ9 v1 (v2 + (rI 1))))))))
set_option maxRecDepth 100000 in
theorem rX6_lose_38 {E : rp_E}  : ∀ (n : Nat) (σ : rp_S) (v1 : Int32) (v2 : Int32), rp_R E (rp_mK E rmX6_lose) mX6_lose 38 [some (.ref (E.2.2.2.1 0)), some (.int v1), some (.int v2)] [] σ rp_hI (fX6_lose_38 n σ v1 v2) := by
  intro n
  induction n with
  | zero =>
    intro σ v1 v2
    rw [fX6_lose_38]
    exact rp_none
  | succ n ih =>
    intro σ v1 v2
    rw [fX6_lose_38]
    refine rp_iload_n (x := v2) dX6_lose_38 rfl ?_
    refine rp_aload_n (x := (E.2.2.2.1 0)) dX6_lose_39 rfl ?_
    refine rp_getR (k := 0) (b := 1) sh0 rfl fdX6_10 dX6_lose_40 ?_
    refine rp_getI (k := 2) sh1 rfl fdX6_92 dX6_lose_43 ?_
    refine rp_icmp_ge (tgt := 85) dX6_lose_46 (by decide) ?_ ?_
    · refine rp_aload_n (x := (E.2.2.2.1 0)) dX6_lose_85 rfl ?_
      refine rp_getR (k := 2) (b := 12) sh0 rfl fdX6_26 dX6_lose_86 ?_
      refine rp_iload_n (x := v1) dX6_lose_89 rfl ?_
      refine rp_callV_hi (As := [.int v1]) (rest := []) (b := (E.2.2.2.1 12)) (rX0_answer σ v1) cbX0_answer lkX6_194 viX0_answer (rp_rcO sh12 rfl) rfl (Nat.le_of_ble_eq_true rfl) ⟨rfl, rfl, ⟨Nat.le_of_ble_eq_true rfl, Nat.le_of_ble_eq_true rfl⟩, Nat.zero_le _, Nat.zero_le _⟩ rfl (Nat.le_of_ble_eq_true rfl) dX6_lose_90 (fun x5 hx5 => ?_)
      exact rp_iret rfl rfl dX6_lose_93
    · refine rp_aload_n (x := (E.2.2.2.1 0)) dX6_lose_49 rfl ?_
      refine rp_getR (k := 1) (b := 4) sh0 rfl fdX6_19 dX6_lose_50 ?_
      refine rp_callV_hv (As := []) (rest := []) (b := (E.2.2.2.1 4)) (rX3_settle σ) cbX3_settle lkX6_201 viX3_settle (rp_rcO sh4 rfl) rfl (Nat.le_of_ble_eq_true rfl) ⟨rfl, rfl, ⟨Nat.le_of_ble_eq_true rfl, Nat.le_of_ble_eq_true rfl⟩, Nat.zero_le _, Nat.zero_le _⟩ rfl (Nat.le_of_ble_eq_true rfl) dX6_lose_53 (fun σ6 hσ6 => ?_)
      refine rp_aload_n (x := (E.2.2.2.1 0)) dX6_lose_56 rfl ?_
      refine rp_getR (k := 1) (b := 4) sh0 rfl fdX6_19 dX6_lose_57 ?_
      refine rp_iload_n (x := v2) dX6_lose_60 rfl ?_
      refine rp_callV_hv (As := [.int v2]) (rest := []) (b := (E.2.2.2.1 4)) (rX3_putOut σ6 v2) cbX3_putOut lkX6_212 viX3_putOut (rp_rcO sh4 rfl) rfl (Nat.le_of_ble_eq_true rfl) ⟨rfl, rfl, ⟨Nat.le_of_ble_eq_true rfl, Nat.le_of_ble_eq_true rfl⟩, Nat.zero_le _, Nat.zero_le _⟩ rfl (Nat.le_of_ble_eq_true rfl) dX6_lose_61 (fun σ7 hσ7 => ?_)
      refine rp_aload_n (x := (E.2.2.2.1 0)) dX6_lose_64 rfl ?_
      refine rp_getR (k := 2) (b := 12) sh0 rfl fdX6_26 dX6_lose_65 ?_
      refine rp_iload_n (x := v2) dX6_lose_68 rfl ?_
      refine rp_aload_n (x := (E.2.2.2.1 0)) dX6_lose_69 rfl ?_
      refine rp_getR (k := 1) (b := 4) sh0 rfl fdX6_19 dX6_lose_70 ?_
      refine rp_callV_hi (As := []) (rest := [.int v2, .ref (E.2.2.2.1 12)]) (b := (E.2.2.2.1 4)) (rX3_wholesOfAll σ7) cbX3_wholesOfAll lkX6_111 viX3_wholesOfAll (rp_rcO sh4 rfl) rfl (Nat.le_of_ble_eq_true rfl) ⟨rfl, rfl, ⟨Nat.le_of_ble_eq_true rfl, Nat.le_of_ble_eq_true rfl⟩, Nat.zero_le _, Nat.zero_le _⟩ rfl (Nat.le_of_ble_eq_true rfl) dX6_lose_73 (fun x8 hx8 => ?_)
      refine rp_callV_hv (As := [.int v2, .int x8]) (rest := []) (b := (E.2.2.2.1 12)) (rX0_offer σ7 v2 x8) cbX0_offer lkX6_190 viX0_offer (rp_rcO sh12 rfl) rfl (Nat.le_of_ble_eq_true rfl) ⟨rfl, rfl, ⟨Nat.le_of_ble_eq_true rfl, Nat.le_of_ble_eq_true rfl⟩, Nat.zero_le _, Nat.zero_le _⟩ rfl (Nat.le_of_ble_eq_true rfl) dX6_lose_76 (fun σ9 hσ9 => ?_)
      refine rp_iinc (x := v2) dX6_lose_79 rfl (by decide) rfl ?_
      refine rp_goto (tgt := 38) dX6_lose_82 (by decide) ?_
      refine rp_mask [true, true, true] (vs2 := [some (.ref (E.2.2.2.1 0)), some (.int v1), some (.int (v2 + (rI 1)))]) rfl rfl ?_
      exact ih σ9 v1 (v2 + (rI 1))
def fX6_lose (σ : rp_S) (v1 : Int32) : Option (Int32 × rp_S) :=
  ((fX6_within v1 (rI 0) (rI 1)).bind fun x1 =>
    (if x1 = 0 then
    (some ((rI (-1)), σ))
  else
    ((fX3_begin σ 1).bind fun σ2 =>
    ((fX3_wholesOfAll σ2).bind fun x3 =>
    ((fX0_beginAbove σ2 x3).bind fun σ4 =>
    (fX6_lose_38 1000 σ4 v1 (rI 0)))))))
set_option maxRecDepth 100000 in
theorem rX6_lose {E : rp_E} (σ : rp_S) (v1 : Int32)   : rp_R E (rp_mK E rmX6_lose) mX6_lose 0 [some (.ref (E.2.2.2.1 0)), some (.int v1), none] [] σ rp_hI (fX6_lose σ v1) := by
  rw [fX6_lose]
  refine rp_iload_n (x := v1) dX6_lose_0 rfl ?_
  refine rp_iconst dX6_lose_1 ?_
  refine rp_iconst dX6_lose_2 ?_
  refine rp_callS_hi (As := [.int v1, .int (rI 0), .int (rI 1)]) (rest := []) (rX6_within σ v1 (rI 0) (rI 1)) cbX6_within lkX6_57 stX6_within rfl (Nat.le_of_ble_eq_true rfl) ⟨rfl, rfl, ⟨Nat.le_of_ble_eq_true rfl, Nat.le_of_ble_eq_true rfl⟩, Nat.zero_le _, Nat.zero_le _⟩ rfl (Nat.le_of_ble_eq_true rfl) dX6_lose_3 (fun x1 hx1 => ?_)
  refine rp_if_ne (tgt := 11) dX6_lose_6 (by decide) ?_ ?_
  · refine rp_aload_n (x := (E.2.2.2.1 0)) dX6_lose_11 rfl ?_
    refine rp_getR (k := 1) (b := 4) sh0 rfl fdX6_19 dX6_lose_12 ?_
    refine rp_aload_n (x := (E.2.2.2.1 0)) dX6_lose_15 rfl ?_
    refine rp_getR (k := 0) (b := 1) sh0 rfl fdX6_10 dX6_lose_16 ?_
    refine rp_callV_hv (As := [.ref (E.2.2.2.1 1)]) (rest := []) (b := (E.2.2.2.1 4)) (rX3_begin σ 1 ni1) cbX3_begin lkX6_104 viX3_begin (rp_rcO sh4 rfl) rfl (Nat.le_of_ble_eq_true rfl) ⟨rfl, rfl, ⟨Nat.le_of_ble_eq_true rfl, Nat.le_of_ble_eq_true rfl⟩, Nat.zero_le _, Nat.zero_le _⟩ rfl (Nat.le_of_ble_eq_true rfl) dX6_lose_19 (fun σ2 hσ2 => ?_)
    refine rp_aload_n (x := (E.2.2.2.1 0)) dX6_lose_22 rfl ?_
    refine rp_getR (k := 2) (b := 12) sh0 rfl fdX6_26 dX6_lose_23 ?_
    refine rp_aload_n (x := (E.2.2.2.1 0)) dX6_lose_26 rfl ?_
    refine rp_getR (k := 1) (b := 4) sh0 rfl fdX6_19 dX6_lose_27 ?_
    refine rp_callV_hi (As := []) (rest := [.ref (E.2.2.2.1 12)]) (b := (E.2.2.2.1 4)) (rX3_wholesOfAll σ2) cbX3_wholesOfAll lkX6_111 viX3_wholesOfAll (rp_rcO sh4 rfl) rfl (Nat.le_of_ble_eq_true rfl) ⟨rfl, rfl, ⟨Nat.le_of_ble_eq_true rfl, Nat.le_of_ble_eq_true rfl⟩, Nat.zero_le _, Nat.zero_le _⟩ rfl (Nat.le_of_ble_eq_true rfl) dX6_lose_30 (fun x3 hx3 => ?_)
    refine rp_callV_hv (As := [.int x3]) (rest := []) (b := (E.2.2.2.1 12)) (rX0_beginAbove σ2 x3) cbX0_beginAbove lkX6_183 viX0_beginAbove (rp_rcO sh12 rfl) rfl (Nat.le_of_ble_eq_true rfl) ⟨rfl, rfl, ⟨Nat.le_of_ble_eq_true rfl, Nat.le_of_ble_eq_true rfl⟩, Nat.zero_le _, Nat.zero_le _⟩ rfl (Nat.le_of_ble_eq_true rfl) dX6_lose_33 (fun σ4 hσ4 => ?_)
    refine rp_iconst dX6_lose_36 ?_
    refine rp_istore_n dX6_lose_37 (by decide) rfl ?_
    refine rp_mask [true, true, true] (vs2 := [some (.ref (E.2.2.2.1 0)), some (.int v1), some (.int (rI 0))]) rfl rfl ?_
    exact rX6_lose_38 1000 σ4 v1 (rI 0)
  · refine rp_iconst dX6_lose_9 ?_
    exact rp_iret rfl rfl dX6_lose_10
/-! RocketPrintModel.lose(I)I -/
abbrev rmX7_lose : Room := { frames := 4, cells := 0, slots := 0, locals := 101 }
def fX7_lose_89 (k28 : rp_S → Int32 → Int32 → Int32 → Int32 → Option (Int32 × rp_S)) (σ : rp_S) (v1 : Int32) (v3 : Int32) (v4 : Int32) (s0 : Int32) : Option (Int32 × rp_S) :=
  (k28 σ v1 s0 v3 (v4 + (rI 1)))
set_option maxRecDepth 100000 in
theorem rX7_lose_89 {E : rp_E} (k28 : rp_S → Int32 → Int32 → Int32 → Int32 → Option (Int32 × rp_S)) (hk28 : ∀ (σ : rp_S) (v1 : Int32) (v2 : Int32) (v3 : Int32) (v4 : Int32), rp_R E (rp_mK E rmX7_lose) mX7_lose 28 [some (.ref (E.2.2.2.1 28)), some (.int v1), some (.int v2), some (.int v3), some (.int v4)] [] σ rp_hI (k28 σ v1 v2 v3 v4)) (σ : rp_S) (v1 : Int32) (v3 : Int32) (v4 : Int32) (s0 : Int32) : rp_R E (rp_mK E rmX7_lose) mX7_lose 89 [some (.ref (E.2.2.2.1 28)), some (.int v1), none, some (.int v3), some (.int v4)] [.int s0] σ rp_hI (fX7_lose_89 k28 σ v1 v3 v4 s0) := by
  rw [fX7_lose_89]
  refine rp_istore_n dX7_lose_89 (by decide) rfl ?_
  refine rp_iinc (x := v4) dX7_lose_90 rfl (by decide) rfl ?_
  refine rp_goto (tgt := 28) dX7_lose_93 (by decide) ?_
  refine rp_mask [true, true, true, true, true] (vs2 := [some (.ref (E.2.2.2.1 28)), some (.int v1), some (.int s0), some (.int v3), some (.int (v4 + (rI 1)))]) rfl rfl ?_
  exact hk28 σ v1 s0 v3 (v4 + (rI 1))
def fX7_lose_72 (k28 : rp_S → Int32 → Int32 → Int32 → Int32 → Option (Int32 × rp_S)) (σ : rp_S) (v1 : Int32) (v2 : Int32) (v4 : Int32) (s0 : Int32) : Option (Int32 × rp_S) :=
  (if (σ 28 18) ≤ v2 then
    (fX7_lose_89 k28 σ v1 s0 v4 v2)
  else
    (fX7_lose_89 k28 σ v1 s0 v4 (σ 28 18)))
set_option maxRecDepth 100000 in
theorem rX7_lose_72 {E : rp_E} (k28 : rp_S → Int32 → Int32 → Int32 → Int32 → Option (Int32 × rp_S)) (hk28 : ∀ (σ : rp_S) (v1 : Int32) (v2 : Int32) (v3 : Int32) (v4 : Int32), rp_R E (rp_mK E rmX7_lose) mX7_lose 28 [some (.ref (E.2.2.2.1 28)), some (.int v1), some (.int v2), some (.int v3), some (.int v4)] [] σ rp_hI (k28 σ v1 v2 v3 v4)) (σ : rp_S) (v1 : Int32) (v2 : Int32) (v4 : Int32) (s0 : Int32) : rp_R E (rp_mK E rmX7_lose) mX7_lose 72 [some (.ref (E.2.2.2.1 28)), some (.int v1), some (.int v2), none, some (.int v4)] [.int s0] σ rp_hI (fX7_lose_72 k28 σ v1 v2 v4 s0) := by
  rw [fX7_lose_72]
  refine rp_istore_n dX7_lose_72 (by decide) rfl ?_
  refine rp_aload_n (x := (E.2.2.2.1 28)) dX7_lose_73 rfl ?_
  refine rp_getI (k := 18) sh28 rfl fdX7_155 dX7_lose_74 ?_
  refine rp_iload_n (x := v2) dX7_lose_77 rfl ?_
  refine rp_icmp_le (tgt := 88) dX7_lose_78 (by decide) ?_ ?_
  · refine rp_iload_n (x := v2) dX7_lose_88 rfl ?_
    refine rp_mask [true, true, false, true, true] (vs2 := [some (.ref (E.2.2.2.1 28)), some (.int v1), none, some (.int s0), some (.int v4)]) rfl rfl ?_
    exact rX7_lose_89 k28 hk28 σ v1 s0 v4 v2
  · refine rp_aload_n (x := (E.2.2.2.1 28)) dX7_lose_81 rfl ?_
    refine rp_getI (k := 18) sh28 rfl fdX7_155 dX7_lose_82 ?_
    refine rp_goto (tgt := 89) dX7_lose_85 (by decide) ?_
    refine rp_mask [true, true, false, true, true] (vs2 := [some (.ref (E.2.2.2.1 28)), some (.int v1), none, some (.int s0), some (.int v4)]) rfl rfl ?_
    exact rX7_lose_89 k28 hk28 σ v1 s0 v4 (σ 28 18)
def fX7_lose_28  : Nat → rp_S → Int32 → Int32 → Int32 → Int32 → Option (Int32 × rp_S)
  | 0, _, _, _, _, _ => none
  | n + 1, σ, v1, v2, v3, v4 =>
    ((rq_rd σ 29 180 (rI 24)).bind fun x3 =>
    (if x3 ≤ v4 then
    (if v3 = (rI (-4)) then
    (some (v3, σ))
  else
    (if v1 = 0 then
    (some (v3, σ))
  else
    (some (v2, σ))))
  else
    ((some (rp_up σ 28 14 ((rI 1) <<< (v4 &&& 31)))).bind fun σ4 =>
    ((fX7_nightOn σ4 (rI 0)).bind fun σ5 =>
    ((some (rp_up σ5 28 14 (rI 0))).bind fun σ6 =>
    (if (σ6 28 18) ≤ v2 then
    (fX7_lose_72 (fun σ v1 v2 v3 v4 => fX7_lose_28 n σ v1 v2 v3 v4) σ6 v1 v2 v4 v3)
  else
    (fX7_lose_72 (fun σ v1 v2 v3 v4 => fX7_lose_28 n σ v1 v2 v3 v4) σ6 v1 v2 v4 v4)))))))
set_option maxRecDepth 100000 in
theorem rX7_lose_28 {E : rp_E}  : ∀ (n : Nat) (σ : rp_S) (v1 : Int32) (v2 : Int32) (v3 : Int32) (v4 : Int32), rp_R E (rp_mK E rmX7_lose) mX7_lose 28 [some (.ref (E.2.2.2.1 28)), some (.int v1), some (.int v2), some (.int v3), some (.int v4)] [] σ rp_hI (fX7_lose_28 n σ v1 v2 v3 v4) := by
  intro n
  induction n with
  | zero =>
    intro σ v1 v2 v3 v4
    rw [fX7_lose_28]
    exact rp_none
  | succ n ih =>
    intro σ v1 v2 v3 v4
    rw [fX7_lose_28]
    refine rp_iload (x := v4) dX7_lose_28 rfl ?_
    refine rp_aload_n (x := (E.2.2.2.1 28)) dX7_lose_30 rfl ?_
    refine rp_getR (k := 0) (b := 29) sh28 rfl fdX7_7 dX7_lose_31 ?_
    refine rp_bipush dX7_lose_34 (by decide) ?_
    refine rp_iaload sh29 dX7_lose_36 (fun x3 => ?_)
    refine rp_icmp_ge (tgt := 96) dX7_lose_37 (by decide) ?_ ?_
    · refine rp_iload_n (x := v3) dX7_lose_96 rfl ?_
      refine rp_bipush dX7_lose_97 (by decide) ?_
      refine rp_icmp_eq (tgt := 106) dX7_lose_99 (by decide) ?_ ?_
      · refine rp_iload_n (x := v3) dX7_lose_106 rfl ?_
        refine rp_goto (tgt := 111) dX7_lose_107 (by decide) ?_
        exact rp_iret rfl rfl dX7_lose_111
      · refine rp_iload_n (x := v1) dX7_lose_102 rfl ?_
        refine rp_if_ne (tgt := 110) dX7_lose_103 (by decide) ?_ ?_
        · refine rp_iload_n (x := v2) dX7_lose_110 rfl ?_
          exact rp_iret rfl rfl dX7_lose_111
        · refine rp_iload_n (x := v3) dX7_lose_106 rfl ?_
          refine rp_goto (tgt := 111) dX7_lose_107 (by decide) ?_
          exact rp_iret rfl rfl dX7_lose_111
    · refine rp_aload_n (x := (E.2.2.2.1 28)) dX7_lose_40 rfl ?_
      refine rp_iconst dX7_lose_41 ?_
      refine rp_iload (x := v4) dX7_lose_42 rfl ?_
      refine rp_ishl dX7_lose_44 ?_
      refine rp_putB (k := 14) sh28 rfl fpX7_132 (vp_nar_int _) rfl dX7_lose_45 (fun σ4 => ?_)
      refine rp_aload_n (x := (E.2.2.2.1 28)) dX7_lose_48 rfl ?_
      refine rp_iconst dX7_lose_49 ?_
      refine rp_callV_hv (As := [.int (rI 0)]) (rest := []) (b := (E.2.2.2.1 28)) (rX7_nightOn σ4 (rI 0)) cbX7_nightOn lkX7_165 viX7_nightOn (rp_rcO sh28 rfl) rfl (Nat.le_of_ble_eq_true rfl) ⟨rfl, rfl, ⟨Nat.le_of_ble_eq_true rfl, Nat.le_of_ble_eq_true rfl⟩, Nat.zero_le _, Nat.zero_le _⟩ rfl (Nat.le_of_ble_eq_true rfl) dX7_lose_50 (fun σ5 hσ5 => ?_)
      refine rp_aload_n (x := (E.2.2.2.1 28)) dX7_lose_53 rfl ?_
      refine rp_iconst dX7_lose_54 ?_
      refine rp_putB (k := 14) sh28 rfl fpX7_132 (vp_nar_int _) rfl dX7_lose_55 (fun σ6 => ?_)
      refine rp_aload_n (x := (E.2.2.2.1 28)) dX7_lose_58 rfl ?_
      refine rp_getI (k := 18) sh28 rfl fdX7_155 dX7_lose_59 ?_
      refine rp_iload_n (x := v2) dX7_lose_62 rfl ?_
      refine rp_icmp_le (tgt := 71) dX7_lose_63 (by decide) ?_ ?_
      · refine rp_iload_n (x := v3) dX7_lose_71 rfl ?_
        refine rp_mask [true, true, true, false, true] (vs2 := [some (.ref (E.2.2.2.1 28)), some (.int v1), some (.int v2), none, some (.int v4)]) rfl rfl ?_
        exact rX7_lose_72 (fun σ v1 v2 v3 v4 => fX7_lose_28 n σ v1 v2 v3 v4) (fun σ v1 v2 v3 v4 => ih σ v1 v2 v3 v4) σ6 v1 v2 v4 v3
      · refine rp_iload (x := v4) dX7_lose_66 rfl ?_
        refine rp_goto (tgt := 72) dX7_lose_68 (by decide) ?_
        refine rp_mask [true, true, true, false, true] (vs2 := [some (.ref (E.2.2.2.1 28)), some (.int v1), some (.int v2), none, some (.int v4)]) rfl rfl ?_
        exact rX7_lose_72 (fun σ v1 v2 v3 v4 => fX7_lose_28 n σ v1 v2 v3 v4) (fun σ v1 v2 v3 v4 => ih σ v1 v2 v3 v4) σ6 v1 v2 v4 v4
def fX7_lose (σ : rp_S) (v1 : Int32) : Option (Int32 × rp_S) :=
  ((fX7_in (v1.toInt64) (rJ 0) (rJ 1)).bind fun x1 =>
    (if x1 = 0 then
    (some ((rI (-1)), σ))
  else
    ((fX7_nightOn σ (rI 0)).bind fun σ2 =>
    (fX7_lose_28 1000 σ2 v1 (σ2 28 18) (rI (-4)) (rI 0)))))
set_option maxRecDepth 100000 in
theorem rX7_lose {E : rp_E} (σ : rp_S) (v1 : Int32)   : rp_R E (rp_mK E rmX7_lose) mX7_lose 0 [some (.ref (E.2.2.2.1 28)), some (.int v1), none, none, none] [] σ rp_hI (fX7_lose σ v1) := by
  rw [fX7_lose]
  refine rp_iload_n (x := v1) dX7_lose_0 rfl ?_
  refine rp_i2l dX7_lose_1 ?_
  refine rp_lconst dX7_lose_2 0 (by decide) ?_
  refine rp_lconst dX7_lose_3 1 (by decide) ?_
  refine rp_callS_hi (As := [.long (v1.toInt64), .long (rJ 0), .long (rJ 1)]) (rest := []) (rX7_in σ (v1.toInt64) (rJ 0) (rJ 1)) cbX7_in lkX7_49 stX7_in rfl (Nat.le_of_ble_eq_true rfl) ⟨rfl, rfl, ⟨Nat.le_of_ble_eq_true rfl, Nat.le_of_ble_eq_true rfl⟩, Nat.zero_le _, Nat.zero_le _⟩ rfl (Nat.le_of_ble_eq_true rfl) dX7_lose_4 (fun x1 hx1 => ?_)
  refine rp_if_ne (tgt := 12) dX7_lose_7 (by decide) ?_ ?_
  · refine rp_aload_n (x := (E.2.2.2.1 28)) dX7_lose_12 rfl ?_
    refine rp_iconst dX7_lose_13 ?_
    refine rp_callV_hv (As := [.int (rI 0)]) (rest := []) (b := (E.2.2.2.1 28)) (rX7_nightOn σ (rI 0)) cbX7_nightOn lkX7_165 viX7_nightOn (rp_rcO sh28 rfl) rfl (Nat.le_of_ble_eq_true rfl) ⟨rfl, rfl, ⟨Nat.le_of_ble_eq_true rfl, Nat.le_of_ble_eq_true rfl⟩, Nat.zero_le _, Nat.zero_le _⟩ rfl (Nat.le_of_ble_eq_true rfl) dX7_lose_14 (fun σ2 hσ2 => ?_)
    refine rp_aload_n (x := (E.2.2.2.1 28)) dX7_lose_17 rfl ?_
    refine rp_getI (k := 18) sh28 rfl fdX7_155 dX7_lose_18 ?_
    refine rp_istore_n dX7_lose_21 (by decide) rfl ?_
    refine rp_bipush dX7_lose_22 (by decide) ?_
    refine rp_istore_n dX7_lose_24 (by decide) rfl ?_
    refine rp_iconst dX7_lose_25 ?_
    refine rp_istore dX7_lose_26 (by decide) rfl ?_
    refine rp_mask [true, true, true, true, true] (vs2 := [some (.ref (E.2.2.2.1 28)), some (.int v1), some (.int (σ2 28 18)), some (.int (rI (-4))), some (.int (rI 0))]) rfl rfl ?_
    exact rX7_lose_28 1000 σ2 v1 (σ2 28 18) (rI (-4)) (rI 0)
  · refine rp_iconst dX7_lose_10 ?_
    exact rp_iret rfl rfl dX7_lose_11
/-! RocketPrint.need(II)I -/
abbrev rmX6_need : Room := { frames := 5, cells := 0, slots := 0, locals := 115 }
def fX6_need_41  : Nat → rp_S → Int32 → Int32 → Int32 → Option (Int32 × rp_S)
  | 0, _, _, _, _ => none
  | n + 1, σ, v1, v2, v3 =>
    ((rq_td 1 (rI 3)).bind fun x5 =>
    (if x5 < v3 then
    (some ((rI (-4)), σ))
  else
    ((fX1_setWork σ 5 v1 (rI 3) v3).bind fun σ6 =>
    ((fX3_settle σ6).bind fun σ7 =>
    ((fX3_isWhole σ7 v2 v1).bind fun x8 =>
    (if x8 = 0 then
    (fX6_need_41 n σ7 v1 v2 (v3 + (rI 1)))
  else
    (some (v3, σ7))))))))
set_option maxRecDepth 100000 in
theorem rX6_need_41 {E : rp_E}  : ∀ (n : Nat) (σ : rp_S) (v1 : Int32) (v2 : Int32) (v3 : Int32), rp_R E (rp_mK E rmX6_need) mX6_need 41 [some (.ref (E.2.2.2.1 0)), some (.int v1), some (.int v2), some (.int v3)] [] σ rp_hI (fX6_need_41 n σ v1 v2 v3) := by
  intro n
  induction n with
  | zero =>
    intro σ v1 v2 v3
    rw [fX6_need_41]
    exact rp_none
  | succ n ih =>
    intro σ v1 v2 v3
    rw [fX6_need_41]
    refine rp_iload_n (x := v3) dX6_need_41 rfl ?_
    refine rp_gets (i := 1) (by decide) slX6_197 dX6_need_42 ?_
    refine rp_iconst dX6_need_45 ?_
    refine rp_tald (i := 1) (by decide) dX6_need_46 (fun x5 => ?_)
    refine rp_icmp_gt (tgt := 90) dX6_need_47 (by decide) ?_ ?_
    · refine rp_bipush dX6_need_90 (by decide) ?_
      exact rp_iret rfl rfl dX6_need_92
    · refine rp_aload_n (x := (E.2.2.2.1 0)) dX6_need_50 rfl ?_
      refine rp_getR (k := 1) (b := 4) sh0 rfl fdX6_19 dX6_need_51 ?_
      refine rp_getR (k := 0) (b := 5) sh4 rfl fdX6_69 dX6_need_54 ?_
      refine rp_iload_n (x := v1) dX6_need_57 rfl ?_
      refine rp_iconst dX6_need_58 ?_
      refine rp_iload_n (x := v3) dX6_need_59 rfl ?_
      refine rp_callV_hv (As := [.int v1, .int (rI 3), .int v3]) (rest := []) (b := (E.2.2.2.1 5)) (rX1_setWork σ 5 v1 (rI 3) v3 ni5) cbX1_setWork lkX6_163 viX1_setWork (rp_rcO sh5 rfl) rfl (Nat.le_of_ble_eq_true rfl) ⟨rfl, rfl, ⟨Nat.le_of_ble_eq_true rfl, Nat.le_of_ble_eq_true rfl⟩, Nat.zero_le _, Nat.zero_le _⟩ rfl (Nat.le_of_ble_eq_true rfl) dX6_need_60 (fun σ6 hσ6 => ?_)
      refine rp_aload_n (x := (E.2.2.2.1 0)) dX6_need_63 rfl ?_
      refine rp_getR (k := 1) (b := 4) sh0 rfl fdX6_19 dX6_need_64 ?_
      refine rp_callV_hv (As := []) (rest := []) (b := (E.2.2.2.1 4)) (rX3_settle σ6) cbX3_settle lkX6_201 viX3_settle (rp_rcO sh4 rfl) rfl (Nat.le_of_ble_eq_true rfl) ⟨rfl, rfl, ⟨Nat.le_of_ble_eq_true rfl, Nat.le_of_ble_eq_true rfl⟩, Nat.zero_le _, Nat.zero_le _⟩ rfl (Nat.le_of_ble_eq_true rfl) dX6_need_67 (fun σ7 hσ7 => ?_)
      refine rp_aload_n (x := (E.2.2.2.1 0)) dX6_need_70 rfl ?_
      refine rp_getR (k := 1) (b := 4) sh0 rfl fdX6_19 dX6_need_71 ?_
      refine rp_iload_n (x := v2) dX6_need_74 rfl ?_
      refine rp_iload_n (x := v1) dX6_need_75 rfl ?_
      refine rp_callV_hi (As := [.int v2, .int v1]) (rest := []) (b := (E.2.2.2.1 4)) (rX3_isWhole σ7 v2 v1) cbX3_isWhole lkX6_218 viX3_isWhole (rp_rcO sh4 rfl) rfl (Nat.le_of_ble_eq_true rfl) ⟨rfl, rfl, ⟨Nat.le_of_ble_eq_true rfl, Nat.le_of_ble_eq_true rfl⟩, Nat.zero_le _, Nat.zero_le _⟩ rfl (Nat.le_of_ble_eq_true rfl) dX6_need_76 (fun x8 hx8 => ?_)
      refine rp_if_eq (tgt := 84) dX6_need_79 (by decide) ?_ ?_
      · refine rp_iinc (x := v3) dX6_need_84 rfl (by decide) rfl ?_
        refine rp_goto (tgt := 41) dX6_need_87 (by decide) ?_
        refine rp_mask [true, true, true, true] (vs2 := [some (.ref (E.2.2.2.1 0)), some (.int v1), some (.int v2), some (.int (v3 + (rI 1)))]) rfl rfl ?_
        exact ih σ7 v1 v2 (v3 + (rI 1))
      · refine rp_iload_n (x := v3) dX6_need_82 rfl ?_
        exact rp_iret rfl rfl dX6_need_83
def fX6_need (σ : rp_S) (v1 : Int32) (v2 : Int32) : Option (Int32 × rp_S) :=
  ((fX1_hasWork σ 1 v1).bind fun x1 =>
    (if x1 = 0 then
    (some ((rI (-1)), σ))
  else
    ((fX1_hasReader σ 1 v2).bind fun x2 =>
    (if x2 = 0 then
    (some ((rI (-1)), σ))
  else
    ((fX3_begin σ 1).bind fun σ3 =>
    ((rq_td 0 (rI 3)).bind fun x4 =>
    (fX6_need_41 1000 σ3 v1 v2 x4)))))))
set_option maxRecDepth 100000 in
theorem rX6_need {E : rp_E} (σ : rp_S) (v1 : Int32) (v2 : Int32)   : rp_R E (rp_mK E rmX6_need) mX6_need 0 [some (.ref (E.2.2.2.1 0)), some (.int v1), some (.int v2), none] [] σ rp_hI (fX6_need σ v1 v2) := by
  rw [fX6_need]
  refine rp_aload_n (x := (E.2.2.2.1 0)) dX6_need_0 rfl ?_
  refine rp_getR (k := 0) (b := 1) sh0 rfl fdX6_10 dX6_need_1 ?_
  refine rp_iload_n (x := v1) dX6_need_4 rfl ?_
  refine rp_callV_hi (As := [.int v1]) (rest := []) (b := (E.2.2.2.1 1)) (rX1_hasWork σ 1 v1 ni1) cbX1_hasWork lkX6_114 viX1_hasWork (rp_rcO sh1 rfl) rfl (Nat.le_of_ble_eq_true rfl) ⟨rfl, rfl, ⟨Nat.le_of_ble_eq_true rfl, Nat.le_of_ble_eq_true rfl⟩, Nat.zero_le _, Nat.zero_le _⟩ rfl (Nat.le_of_ble_eq_true rfl) dX6_need_5 (fun x1 hx1 => ?_)
  refine rp_if_eq (tgt := 22) dX6_need_8 (by decide) ?_ ?_
  · refine rp_iconst dX6_need_22 ?_
    exact rp_iret rfl rfl dX6_need_23
  · refine rp_aload_n (x := (E.2.2.2.1 0)) dX6_need_11 rfl ?_
    refine rp_getR (k := 0) (b := 1) sh0 rfl fdX6_10 dX6_need_12 ?_
    refine rp_iload_n (x := v2) dX6_need_15 rfl ?_
    refine rp_callV_hi (As := [.int v2]) (rest := []) (b := (E.2.2.2.1 1)) (rX1_hasReader σ 1 v2 ni1) cbX1_hasReader lkX6_138 viX1_hasReader (rp_rcO sh1 rfl) rfl (Nat.le_of_ble_eq_true rfl) ⟨rfl, rfl, ⟨Nat.le_of_ble_eq_true rfl, Nat.le_of_ble_eq_true rfl⟩, Nat.zero_le _, Nat.zero_le _⟩ rfl (Nat.le_of_ble_eq_true rfl) dX6_need_16 (fun x2 hx2 => ?_)
    refine rp_if_ne (tgt := 24) dX6_need_19 (by decide) ?_ ?_
    · refine rp_aload_n (x := (E.2.2.2.1 0)) dX6_need_24 rfl ?_
      refine rp_getR (k := 1) (b := 4) sh0 rfl fdX6_19 dX6_need_25 ?_
      refine rp_aload_n (x := (E.2.2.2.1 0)) dX6_need_28 rfl ?_
      refine rp_getR (k := 0) (b := 1) sh0 rfl fdX6_10 dX6_need_29 ?_
      refine rp_callV_hv (As := [.ref (E.2.2.2.1 1)]) (rest := []) (b := (E.2.2.2.1 4)) (rX3_begin σ 1 ni1) cbX3_begin lkX6_104 viX3_begin (rp_rcO sh4 rfl) rfl (Nat.le_of_ble_eq_true rfl) ⟨rfl, rfl, ⟨Nat.le_of_ble_eq_true rfl, Nat.le_of_ble_eq_true rfl⟩, Nat.zero_le _, Nat.zero_le _⟩ rfl (Nat.le_of_ble_eq_true rfl) dX6_need_32 (fun σ3 hσ3 => ?_)
      refine rp_gets (i := 0) (by decide) slX6_215 dX6_need_35 ?_
      refine rp_iconst dX6_need_38 ?_
      refine rp_tald (i := 0) (by decide) dX6_need_39 (fun x4 => ?_)
      refine rp_istore_n dX6_need_40 (by decide) rfl ?_
      refine rp_mask [true, true, true, true] (vs2 := [some (.ref (E.2.2.2.1 0)), some (.int v1), some (.int v2), some (.int x4)]) rfl rfl ?_
      exact rX6_need_41 1000 σ3 v1 v2 x4
    · refine rp_iconst dX6_need_22 ?_
      exact rp_iret rfl rfl dX6_need_23
/-! RocketPrintModel.need(II)I -/
abbrev rmX7_need : Room := { frames := 4, cells := 0, slots := 0, locals := 101 }
def fX7_need_28  : Nat → rp_S → Int32 → Int32 → Int32 → Option (Int32 × rp_S)
  | 0, _, _, _, _ => none
  | n + 1, σ, v1, v2, v3 =>
    (if (rI 9) < v3 then
    (some ((rI (-4)), σ))
  else
    ((rq_wr σ 29 180 ((rI 162) + v1) v3).bind fun σ4 =>
    ((fX7_nightOn σ4 (rI 144)).bind fun σ5 =>
    ((fX7_isWhole σ5 (rI 144) v2 v1).bind fun x6 =>
    (if x6 = 0 then
    (fX7_need_28 n σ5 v1 v2 (v3 + (rI 1)))
  else
    (some (v3, σ5)))))))
set_option maxRecDepth 100000 in
theorem rX7_need_28 {E : rp_E}  : ∀ (n : Nat) (σ : rp_S) (v1 : Int32) (v2 : Int32) (v3 : Int32), rp_R E (rp_mK E rmX7_need) mX7_need 28 [some (.ref (E.2.2.2.1 28)), some (.int v1), some (.int v2), some (.int v3)] [] σ rp_hI (fX7_need_28 n σ v1 v2 v3) := by
  intro n
  induction n with
  | zero =>
    intro σ v1 v2 v3
    rw [fX7_need_28]
    exact rp_none
  | succ n ih =>
    intro σ v1 v2 v3
    rw [fX7_need_28]
    refine rp_iload_n (x := v3) dX7_need_28 rfl ?_
    refine rp_bipush dX7_need_29 (by decide) ?_
    refine rp_icmp_gt (tgt := 72) dX7_need_31 (by decide) ?_ ?_
    · refine rp_bipush dX7_need_72 (by decide) ?_
      exact rp_iret rfl rfl dX7_need_74
    · refine rp_aload_n (x := (E.2.2.2.1 28)) dX7_need_34 rfl ?_
      refine rp_getR (k := 0) (b := 29) sh28 rfl fdX7_7 dX7_need_35 ?_
      refine rp_sipush dX7_need_38 (by decide) ?_
      refine rp_iload_n (x := v1) dX7_need_41 rfl ?_
      refine rp_iadd dX7_need_42 ?_
      refine rp_iload_n (x := v3) dX7_need_43 rfl ?_
      refine rp_iastore sh29 dX7_need_44 (fun σ4 => ?_)
      refine rp_aload_n (x := (E.2.2.2.1 28)) dX7_need_45 rfl ?_
      refine rp_sipush dX7_need_46 (by decide) ?_
      refine rp_callV_hv (As := [.int (rI 144)]) (rest := []) (b := (E.2.2.2.1 28)) (rX7_nightOn σ4 (rI 144)) cbX7_nightOn lkX7_165 viX7_nightOn (rp_rcO sh28 rfl) rfl (Nat.le_of_ble_eq_true rfl) ⟨rfl, rfl, ⟨Nat.le_of_ble_eq_true rfl, Nat.le_of_ble_eq_true rfl⟩, Nat.zero_le _, Nat.zero_le _⟩ rfl (Nat.le_of_ble_eq_true rfl) dX7_need_49 (fun σ5 hσ5 => ?_)
      refine rp_aload_n (x := (E.2.2.2.1 28)) dX7_need_52 rfl ?_
      refine rp_sipush dX7_need_53 (by decide) ?_
      refine rp_iload_n (x := v2) dX7_need_56 rfl ?_
      refine rp_iload_n (x := v1) dX7_need_57 rfl ?_
      refine rp_callV_hi (As := [.int (rI 144), .int v2, .int v1]) (rest := []) (b := (E.2.2.2.1 28)) (rX7_isWhole σ5 (rI 144) v2 v1) cbX7_isWhole lkX7_162 viX7_isWhole (rp_rcO sh28 rfl) rfl (Nat.le_of_ble_eq_true rfl) ⟨rfl, rfl, ⟨Nat.le_of_ble_eq_true rfl, Nat.le_of_ble_eq_true rfl⟩, Nat.zero_le _, Nat.zero_le _⟩ rfl (Nat.le_of_ble_eq_true rfl) dX7_need_58 (fun x6 hx6 => ?_)
      refine rp_if_eq (tgt := 66) dX7_need_61 (by decide) ?_ ?_
      · refine rp_iinc (x := v3) dX7_need_66 rfl (by decide) rfl ?_
        refine rp_goto (tgt := 28) dX7_need_69 (by decide) ?_
        refine rp_mask [true, true, true, true] (vs2 := [some (.ref (E.2.2.2.1 28)), some (.int v1), some (.int v2), some (.int (v3 + (rI 1)))]) rfl rfl ?_
        exact ih σ5 v1 v2 (v3 + (rI 1))
      · refine rp_iload_n (x := v3) dX7_need_64 rfl ?_
        exact rp_iret rfl rfl dX7_need_65
def fX7_need (σ : rp_S) (v1 : Int32) (v2 : Int32) : Option (Int32 × rp_S) :=
  ((fX7_isWork σ v1).bind fun x1 =>
    (if x1 = 0 then
    (some ((rI (-1)), σ))
  else
    ((fX7_isReader σ v2).bind fun x2 =>
    (if x2 = 0 then
    (some ((rI (-1)), σ))
  else
    ((fX7_copies σ (rI 0) (rI 144)).bind fun σ3 =>
    (fX7_need_28 1000 σ3 v1 v2 (rI 1)))))))
set_option maxRecDepth 100000 in
theorem rX7_need {E : rp_E} (σ : rp_S) (v1 : Int32) (v2 : Int32)   : rp_R E (rp_mK E rmX7_need) mX7_need 0 [some (.ref (E.2.2.2.1 28)), some (.int v1), some (.int v2), none] [] σ rp_hI (fX7_need σ v1 v2) := by
  rw [fX7_need]
  refine rp_aload_n (x := (E.2.2.2.1 28)) dX7_need_0 rfl ?_
  refine rp_iload_n (x := v1) dX7_need_1 rfl ?_
  refine rp_callV_hi (As := [.int v1]) (rest := []) (b := (E.2.2.2.1 28)) (rX7_isWork σ v1) cbX7_isWork lkX7_168 viX7_isWork (rp_rcO sh28 rfl) rfl (Nat.le_of_ble_eq_true rfl) ⟨rfl, rfl, ⟨Nat.le_of_ble_eq_true rfl, Nat.le_of_ble_eq_true rfl⟩, Nat.zero_le _, Nat.zero_le _⟩ rfl (Nat.le_of_ble_eq_true rfl) dX7_need_2 (fun x1 hx1 => ?_)
  refine rp_if_eq (tgt := 16) dX7_need_5 (by decide) ?_ ?_
  · refine rp_iconst dX7_need_16 ?_
    exact rp_iret rfl rfl dX7_need_17
  · refine rp_aload_n (x := (E.2.2.2.1 28)) dX7_need_8 rfl ?_
    refine rp_iload_n (x := v2) dX7_need_9 rfl ?_
    refine rp_callV_hi (As := [.int v2]) (rest := []) (b := (E.2.2.2.1 28)) (rX7_isReader σ v2) cbX7_isReader lkX7_178 viX7_isReader (rp_rcO sh28 rfl) rfl (Nat.le_of_ble_eq_true rfl) ⟨rfl, rfl, ⟨Nat.le_of_ble_eq_true rfl, Nat.le_of_ble_eq_true rfl⟩, Nat.zero_le _, Nat.zero_le _⟩ rfl (Nat.le_of_ble_eq_true rfl) dX7_need_10 (fun x2 hx2 => ?_)
    refine rp_if_ne (tgt := 18) dX7_need_13 (by decide) ?_ ?_
    · refine rp_aload_n (x := (E.2.2.2.1 28)) dX7_need_18 rfl ?_
      refine rp_iconst dX7_need_19 ?_
      refine rp_sipush dX7_need_20 (by decide) ?_
      refine rp_callV_hv (As := [.int (rI 0), .int (rI 144)]) (rest := []) (b := (E.2.2.2.1 28)) (rX7_copies σ (rI 0) (rI 144)) cbX7_copies lkX7_209 viX7_copies (rp_rcO sh28 rfl) rfl (Nat.le_of_ble_eq_true rfl) ⟨rfl, rfl, ⟨Nat.le_of_ble_eq_true rfl, Nat.le_of_ble_eq_true rfl⟩, Nat.zero_le _, Nat.zero_le _⟩ rfl (Nat.le_of_ble_eq_true rfl) dX7_need_23 (fun σ3 hσ3 => ?_)
      refine rp_iconst dX7_need_26 ?_
      refine rp_istore_n dX7_need_27 (by decide) rfl ?_
      refine rp_mask [true, true, true, true] (vs2 := [some (.ref (E.2.2.2.1 28)), some (.int v1), some (.int v2), some (.int (rI 1))]) rfl rfl ?_
      exact rX7_need_28 1000 σ3 v1 v2 (rI 1)
    · refine rp_iconst dX7_need_16 ?_
      exact rp_iret rfl rfl dX7_need_17
