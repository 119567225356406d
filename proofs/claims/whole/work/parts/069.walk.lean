/-! RocketPrintModel.count(I)I -/
abbrev rmX7_count : Room := { frames := 0, cells := 0, slots := 0, locals := 0 }
def fX7_count_145 (σ : rp_S) (s0 : Int32) (s1 : Int32) : Option (Int32) :=
  (some (s1 + s0))
set_option maxRecDepth 100000 in
theorem rX7_count_145 {E : rp_E} (σ : rp_S) (s0 : Int32) (s1 : Int32) : rp_R E (rp_mK E rmX7_count) mX7_count 145 [none, none, none, none, none] [.int s0, .int s1] σ (rp_hi σ) (fX7_count_145 σ s0 s1) := by
  rw [fX7_count_145]
  refine rp_iadd dX7_count_145 ?_
  exact rp_iret rfl rfl dX7_count_146
def fX7_count_131 (σ : rp_S) (s0 : Int32) : Option (Int32) :=
  ((rq_rd σ 37 2 (rI 1)).bind fun x4 =>
    (if x4 = 0 then
    (fX7_count_145 σ (rI 0) s0)
  else
    (fX7_count_145 σ (rI 1) s0)))
set_option maxRecDepth 100000 in
theorem rX7_count_131 {E : rp_E} (σ : rp_S) (s0 : Int32) : rp_R E (rp_mK E rmX7_count) mX7_count 131 [some (.ref (E.2.2.2.1 28)), none, none, none, none] [.int s0] σ (rp_hi σ) (fX7_count_131 σ s0) := by
  rw [fX7_count_131]
  refine rp_aload_n (x := (E.2.2.2.1 28)) dX7_count_131 rfl ?_
  refine rp_getR (k := 22) (b := 37) sh28 rfl fdX7_34 dX7_count_132 ?_
  refine rp_iconst dX7_count_135 ?_
  refine rp_baloadZ sh37 dX7_count_136 (fun x4 => ?_)
  refine rp_if_eq (tgt := 144) dX7_count_137 (by decide) ?_ ?_
  · refine rp_iconst dX7_count_144 ?_
    refine rp_mask [false, false, false, false, false] (vs2 := [none, none, none, none, none]) rfl rfl ?_
    exact rX7_count_145 σ (rI 0) s0
  · refine rp_iconst dX7_count_140 ?_
    refine rp_goto (tgt := 145) dX7_count_141 (by decide) ?_
    refine rp_mask [false, false, false, false, false] (vs2 := [none, none, none, none, none]) rfl rfl ?_
    exact rX7_count_145 σ (rI 1) s0
def fX7_count_41 (σ : rp_S) : Nat → Int32 → Int32 → Int32 → Int32 → Option (Int32)
  | 0, _, _, _, _ => none
  | n + 1, v1, v2, v3, v4 =>
    ((rq_rd σ 29 180 (rI 33)).bind fun x2 =>
    (if x2 ≤ v4 then
    (if v1 = (rI 0) then
    (some (σ 28 20))
  else
    (if v1 = (rI 1) then
    ((rq_rd σ 37 2 (rI 0)).bind fun x3 =>
    (if x3 = 0 then
    (fX7_count_131 σ (rI 0))
  else
    (fX7_count_131 σ (rI 1))))
  else
    (if v1 = (rI 2) then
    (some (σ 28 4))
  else
    (if v1 = (rI 3) then
    ((rq_rd σ 38 4 (rI 0)).bind fun x5 =>
    (if x5 = (rI (-4)) then
    (some (rI (-4)))
  else
    ((rq_rd σ 39 4 (rI 0)).bind fun x6 =>
    (some x6))))
  else
    (if v1 = (rI 4) then
    (some v2)
  else
    (if v1 = (rI 5) then
    (some v3)
  else
    (some (rI (-1)))))))))
  else
    ((rq_rd σ 29 180 ((rI 29) + v4)).bind fun x7 =>
    (fX7_count_41 σ n v1 v2 (v3 + x7) (v4 + (rI 1))))))
set_option maxRecDepth 100000 in
theorem rX7_count_41 {E : rp_E} (σ : rp_S) : ∀ (n : Nat) (v1 : Int32) (v2 : Int32) (v3 : Int32) (v4 : Int32), rp_R E (rp_mK E rmX7_count) mX7_count 41 [some (.ref (E.2.2.2.1 28)), some (.int v1), some (.int v2), some (.int v3), some (.int v4)] [] σ (rp_hi σ) (fX7_count_41 σ n v1 v2 v3 v4) := by
  intro n
  induction n with
  | zero =>
    intro v1 v2 v3 v4
    rw [fX7_count_41]
    exact rp_none
  | succ n ih =>
    intro v1 v2 v3 v4
    rw [fX7_count_41]
    refine rp_iload (x := v4) dX7_count_41 rfl ?_
    refine rp_aload_n (x := (E.2.2.2.1 28)) dX7_count_43 rfl ?_
    refine rp_getR (k := 0) (b := 29) sh28 rfl fdX7_7 dX7_count_44 ?_
    refine rp_bipush dX7_count_47 (by decide) ?_
    refine rp_iaload sh29 dX7_count_49 (fun x2 => ?_)
    refine rp_icmp_ge (tgt := 72) dX7_count_50 (by decide) ?_ ?_
    · refine rp_iload_n (x := v1) dX7_count_72 rfl ?_
      refine rp_if2 (fun h0 => ?_) (fun h0 => ?_)
      · refine rp_tswIn (tgt := 112) 0 (by rw [h0]; decide) dX7_count_73 (by decide) (by decide) rfl (by decide) ?_
        refine rp_aload_n (x := (E.2.2.2.1 28)) dX7_count_112 rfl ?_
        refine rp_getI (k := 20) sh28 rfl fdX7_116 dX7_count_113 ?_
        exact rp_iret rfl rfl dX7_count_116
      · refine rp_if2 (fun h1 => ?_) (fun h1 => ?_)
        · refine rp_tswIn (tgt := 117) 1 (by rw [h1]; decide) dX7_count_73 (by decide) (by decide) rfl (by decide) ?_
          refine rp_aload_n (x := (E.2.2.2.1 28)) dX7_count_117 rfl ?_
          refine rp_getR (k := 22) (b := 37) sh28 rfl fdX7_34 dX7_count_118 ?_
          refine rp_iconst dX7_count_121 ?_
          refine rp_baloadZ sh37 dX7_count_122 (fun x3 => ?_)
          refine rp_if_eq (tgt := 130) dX7_count_123 (by decide) ?_ ?_
          · refine rp_iconst dX7_count_130 ?_
            refine rp_mask [true, false, false, false, false] (vs2 := [some (.ref (E.2.2.2.1 28)), none, none, none, none]) rfl rfl ?_
            exact rX7_count_131 σ (rI 0)
          · refine rp_iconst dX7_count_126 ?_
            refine rp_goto (tgt := 131) dX7_count_127 (by decide) ?_
            refine rp_mask [true, false, false, false, false] (vs2 := [some (.ref (E.2.2.2.1 28)), none, none, none, none]) rfl rfl ?_
            exact rX7_count_131 σ (rI 1)
        · refine rp_if2 (fun h2 => ?_) (fun h2 => ?_)
          · refine rp_tswIn (tgt := 147) 2 (by rw [h2]; decide) dX7_count_73 (by decide) (by decide) rfl (by decide) ?_
            refine rp_aload_n (x := (E.2.2.2.1 28)) dX7_count_147 rfl ?_
            refine rp_getI (k := 4) sh28 rfl fdX7_53 dX7_count_148 ?_
            exact rp_iret rfl rfl dX7_count_151
          · refine rp_if2 (fun h3 => ?_) (fun h3 => ?_)
            · refine rp_tswIn (tgt := 152) 3 (by rw [h3]; decide) dX7_count_73 (by decide) (by decide) rfl (by decide) ?_
              refine rp_aload_n (x := (E.2.2.2.1 28)) dX7_count_152 rfl ?_
              refine rp_getR (k := 23) (b := 38) sh28 rfl fdX7_38 dX7_count_153 ?_
              refine rp_iconst dX7_count_156 ?_
              refine rp_iaload sh38 dX7_count_157 (fun x5 => ?_)
              refine rp_bipush dX7_count_158 (by decide) ?_
              refine rp_icmp_ne (tgt := 168) dX7_count_160 (by decide) ?_ ?_
              · refine rp_aload_n (x := (E.2.2.2.1 28)) dX7_count_168 rfl ?_
                refine rp_getR (k := 24) (b := 39) sh28 rfl fdX7_41 dX7_count_169 ?_
                refine rp_iconst dX7_count_172 ?_
                refine rp_iaload sh39 dX7_count_173 (fun x6 => ?_)
                exact rp_iret rfl rfl dX7_count_174
              · refine rp_bipush dX7_count_163 (by decide) ?_
                refine rp_goto (tgt := 174) dX7_count_165 (by decide) ?_
                exact rp_iret rfl rfl dX7_count_174
            · refine rp_if2 (fun h4 => ?_) (fun h4 => ?_)
              · refine rp_tswIn (tgt := 175) 4 (by rw [h4]; decide) dX7_count_73 (by decide) (by decide) rfl (by decide) ?_
                refine rp_iload_n (x := v2) dX7_count_175 rfl ?_
                exact rp_iret rfl rfl dX7_count_176
              · refine rp_if2 (fun h5 => ?_) (fun h5 => ?_)
                · refine rp_tswIn (tgt := 177) 5 (by rw [h5]; decide) dX7_count_73 (by decide) (by decide) rfl (by decide) ?_
                  refine rp_iload_n (x := v3) dX7_count_177 rfl ?_
                  exact rp_iret rfl rfl dX7_count_178
                · refine rp_tswOut (tgt := 179) dX7_count_73 (by have q0 := lv_neT (a := 0) h0 (by decide); have q1 := lv_neT (a := 1) h1 (by decide); have q2 := lv_neT (a := 2) h2 (by decide); have q3 := lv_neT (a := 3) h3 (by decide); have q4 := lv_neT (a := 4) h4 (by decide); have q5 := lv_neT (a := 5) h5 (by decide); omega) (by decide) ?_
                  refine rp_iconst dX7_count_179 ?_
                  exact rp_iret rfl rfl dX7_count_180
    · refine rp_iload_n (x := v3) dX7_count_53 rfl ?_
      refine rp_aload_n (x := (E.2.2.2.1 28)) dX7_count_54 rfl ?_
      refine rp_getR (k := 0) (b := 29) sh28 rfl fdX7_7 dX7_count_55 ?_
      refine rp_bipush dX7_count_58 (by decide) ?_
      refine rp_iload (x := v4) dX7_count_60 rfl ?_
      refine rp_iadd dX7_count_62 ?_
      refine rp_iaload sh29 dX7_count_63 (fun x7 => ?_)
      refine rp_iadd dX7_count_64 ?_
      refine rp_istore_n dX7_count_65 (by decide) rfl ?_
      refine rp_iinc (x := v4) dX7_count_66 rfl (by decide) rfl ?_
      refine rp_goto (tgt := 41) dX7_count_69 (by decide) ?_
      refine rp_mask [true, true, true, true, true] (vs2 := [some (.ref (E.2.2.2.1 28)), some (.int v1), some (.int v2), some (.int (v3 + x7)), some (.int (v4 + (rI 1)))]) rfl rfl ?_
      exact ih v1 v2 (v3 + x7) (v4 + (rI 1))
def fX7_count_7 (σ : rp_S) : Nat → Int32 → Int32 → Int32 → Int32 → Option (Int32)
  | 0, _, _, _, _ => none
  | n + 1, v1, v2, v3, v4 =>
    ((rq_rd σ 29 180 (rI 24)).bind fun x1 =>
    (if x1 ≤ v4 then
    (fX7_count_41 σ 1000 v1 v2 v3 (rI 0))
  else
    ((rq_rd σ 29 180 ((rI 18) + v4)).bind fun x8 =>
    (fX7_count_7 σ n v1 (v2 + x8) v3 (v4 + (rI 1))))))
set_option maxRecDepth 100000 in
theorem rX7_count_7 {E : rp_E} (σ : rp_S) : ∀ (n : Nat) (v1 : Int32) (v2 : Int32) (v3 : Int32) (v4 : Int32), rp_R E (rp_mK E rmX7_count) mX7_count 7 [some (.ref (E.2.2.2.1 28)), some (.int v1), some (.int v2), some (.int v3), some (.int v4)] [] σ (rp_hi σ) (fX7_count_7 σ n v1 v2 v3 v4) := by
  intro n
  induction n with
  | zero =>
    intro v1 v2 v3 v4
    rw [fX7_count_7]
    exact rp_none
  | succ n ih =>
    intro v1 v2 v3 v4
    rw [fX7_count_7]
    refine rp_iload (x := v4) dX7_count_7 rfl ?_
    refine rp_aload_n (x := (E.2.2.2.1 28)) dX7_count_9 rfl ?_
    refine rp_getR (k := 0) (b := 29) sh28 rfl fdX7_7 dX7_count_10 ?_
    refine rp_bipush dX7_count_13 (by decide) ?_
    refine rp_iaload sh29 dX7_count_15 (fun x1 => ?_)
    refine rp_icmp_ge (tgt := 38) dX7_count_16 (by decide) ?_ ?_
    · refine rp_iconst dX7_count_38 ?_
      refine rp_istore dX7_count_39 (by decide) rfl ?_
      refine rp_mask [true, true, true, true, true] (vs2 := [some (.ref (E.2.2.2.1 28)), some (.int v1), some (.int v2), some (.int v3), some (.int (rI 0))]) rfl rfl ?_
      exact rX7_count_41 σ 1000 v1 v2 v3 (rI 0)
    · refine rp_iload_n (x := v2) dX7_count_19 rfl ?_
      refine rp_aload_n (x := (E.2.2.2.1 28)) dX7_count_20 rfl ?_
      refine rp_getR (k := 0) (b := 29) sh28 rfl fdX7_7 dX7_count_21 ?_
      refine rp_bipush dX7_count_24 (by decide) ?_
      refine rp_iload (x := v4) dX7_count_26 rfl ?_
      refine rp_iadd dX7_count_28 ?_
      refine rp_iaload sh29 dX7_count_29 (fun x8 => ?_)
      refine rp_iadd dX7_count_30 ?_
      refine rp_istore_n dX7_count_31 (by decide) rfl ?_
      refine rp_iinc (x := v4) dX7_count_32 rfl (by decide) rfl ?_
      refine rp_goto (tgt := 7) dX7_count_35 (by decide) ?_
      refine rp_mask [true, true, true, true, true] (vs2 := [some (.ref (E.2.2.2.1 28)), some (.int v1), some (.int (v2 + x8)), some (.int v3), some (.int (v4 + (rI 1)))]) rfl rfl ?_
      exact ih v1 (v2 + x8) v3 (v4 + (rI 1))
def fX7_count (σ : rp_S) (v1 : Int32) : Option (Int32) :=
  (fX7_count_7 σ 1000 v1 (rI 0) (rI 0) (rI 0))
set_option maxRecDepth 100000 in
theorem rX7_count {E : rp_E} (σ : rp_S) (v1 : Int32)   : rp_R E (rp_mK E rmX7_count) mX7_count 0 [some (.ref (E.2.2.2.1 28)), some (.int v1), none, none, none] [] σ (rp_hi σ) (fX7_count σ v1) := by
  rw [fX7_count]
  refine rp_iconst dX7_count_0 ?_
  refine rp_istore_n dX7_count_1 (by decide) rfl ?_
  refine rp_iconst dX7_count_2 ?_
  refine rp_istore_n dX7_count_3 (by decide) rfl ?_
  refine rp_iconst dX7_count_4 ?_
  refine rp_istore dX7_count_5 (by decide) rfl ?_
  refine rp_mask [true, true, true, true, true] (vs2 := [some (.ref (E.2.2.2.1 28)), some (.int v1), some (.int (rI 0)), some (.int (rI 0)), some (.int (rI 0))]) rfl rfl ?_
  exact rX7_count_7 σ 1000 v1 (rI 0) (rI 0) (rI 0)
