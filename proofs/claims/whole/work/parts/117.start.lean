/-! the start: what the Statement gives -/
theorem st_t : ∀ i : Nat, i < 3 → Cond.arrayOf (.static "RocketPrint" (rp_tn i) "[I") .int ∈ flatC (Jvm.Cond.and given_1 narrow_1) ∧ Cond.eq (.length (.static "RocketPrint" (rp_tn i) "[I")) (.int (Int32.ofNat (rp_tab i).length)) ∈ flatC (Jvm.Cond.and given_1 narrow_1) ∧ ∀ j : Nat, j < (rp_tab i).length → Cond.eq (.elem (.static "RocketPrint" (rp_tn i) "[I") (.int (Int32.ofNat j))) (.int ((rp_tab i).getD j 0)) ∈ flatC (Jvm.Cond.and given_1 narrow_1) := by decide +kernel
theorem st_s : ∀ i : Nat, i < 7 → Cond.exactly (.string "RocketPrint$Tape" (rp_si i)) "java/lang/String" ∈ flatC (Jvm.Cond.and given_1 narrow_1) ∧ Cond.eq (.field (.string "RocketPrint$Tape" (rp_si i)) "java/lang/String" "coder" "B") (.int 0) ∈ flatC (Jvm.Cond.and given_1 narrow_1) ∧ Cond.arrayOf (.field (.string "RocketPrint$Tape" (rp_si i)) "java/lang/String" "value" "[B") .byte ∈ flatC (Jvm.Cond.and given_1 narrow_1) ∧ Cond.eq (.length (.field (.string "RocketPrint$Tape" (rp_si i)) "java/lang/String" "value" "[B")) (.int (Int32.ofNat (rp_sl.getD i 0))) ∈ flatC (Jvm.Cond.and given_1 narrow_1) := by decide +kernel
theorem st_e : ∀ i : Nat, i < 7 → ∀ j : Nat, j < rp_sl.getD i 0 → Cond.eq (.elem (.field (.string "RocketPrint$Tape" (rp_si i)) "java/lang/String" "value" "[B") (.int (Int32.ofNat j))) (.int ((rp_sb.getD i []).getD j 0)) ∈ flatC (Jvm.Cond.and given_1 narrow_1) := by decide +kernel
theorem st_n : ∀ i : Nat, i < 7 → ∀ j : Nat, j < 7 → i ≠ j → Cond.not (Cond.eq (.string "RocketPrint$Tape" (rp_si i)) (.string "RocketPrint$Tape" (rp_si j))) ∈ flatC (Jvm.Cond.and given_1 narrow_1) ∨ Cond.not (Cond.eq (.string "RocketPrint$Tape" (rp_si j)) (.string "RocketPrint$Tape" (rp_si i))) ∈ flatC (Jvm.Cond.and given_1 narrow_1) := by decide +kernel
theorem st_r : ∀ i : Nat, i < 7 → Cond.stringRef "RocketPrint$Tape" (rp_si i) (rp_sx i) ∈ tables_1_2 := by decide +kernel
theorem st_c : Cond.eq (.static "java/lang/String" "COMPACT_STRINGS" "Z") (.int 1) ∈ flatC (Jvm.Cond.and given_1 narrow_1) ∧ Cond.isRef (.static "jdk/internal/util/Preconditions" "SIOOBE_FORMATTER" "Ljava/util/function/BiFunction;") ∈ flatC (Jvm.Cond.and given_1 narrow_1) := by decide +kernel
def mkAx (t0 t1 t2 : Nat) (adK adV : Nat → Nat) : Nat → Nat := fun n => if n < 10 then (match n with | 0 => t0 | 1 => t1 | _ => t2) else if n < 20 then adK (n - 10) else adV (n - 20)
theorem mkAx_k {t0 t1 t2 : Nat} {adK adV : Nat → Nat} {i : Nat} (h : i < 7) : mkAx t0 t1 t2 adK adV (10 + i) = adK i := by
  unfold mkAx; rw [if_neg (by omega), if_pos (by omega), Nat.add_sub_cancel_left]
theorem mkAx_v {t0 t1 t2 : Nat} {adK adV : Nat → Nat} {i : Nat} (h : i < 7) : mkAx t0 t1 t2 adK adV (20 + i) = adV i := by
  unfold mkAx; rw [if_neg (by omega), if_neg (by omega), Nat.add_sub_cancel_left]
set_option maxRecDepth 100000 in
set_option maxHeartbeats 4000000 in
theorem whole_start {p : Program} {e : Env} {s : State} {m : MethodId} {below : List Frame} {meth : Method} {c : Code} (l : Launch) (hflags : l.flags = flags0) {b L : Nat} {xs : Nat → Int32} (hL : L ≤ 320) (C0 : lw_At p s m meth c b L xs) : W p l e room_1 s m #[Value.ref b] below meth c s.heap [] 0 0 (lw_Z below #[Value.ref b] s) (entryFrame m ([Value.ref b] : List Value).toArray 4) := by
  obtain ⟨hx, hb, hr, hml, hown, hts, hX, hbl, hlocks, hgv⟩ := id C0
  have htg : ∀ w ∈ rp_TG, w.before #[Value.ref b] s = true := fun w hw => hts w (List.mem_filter.mp hw).1
  have hnw : ∀ w ∈ rp_NW, va_Nw w s := fun w hw => va_Nw.of (rp_nest hw) (hts w (List.mem_append_right _ (List.mem_filter.mp hw).1))
  have hs := flat_of_before _ hgv
  obtain ⟨A, hAe⟩ : ∃ A : Nat → Prop, A = fun q => s.heap.size ≤ q := ⟨_, rfl⟩
  have hA : ∀ a : Nat, a < s.heap.size → ¬ A a := fun a ha => by rw [hAe]; exact Nat.not_le.mpr ha
  obtain ⟨c0, i0, k0⟩ := u_known (C := RX0) (T := TX0) (N := 2) (n := 2) htg inw0 (htg _ nsX0)
  obtain ⟨c1, i1, k1⟩ := u_known (C := RX1) (T := TX1) (N := 6) (n := 6) htg inw1 (htg _ nsX1)
  obtain ⟨c2, i2, k2⟩ := u_known (C := RX2) (T := TX2) (N := 4) (n := 4) htg inw2 (htg _ nsX2)
  obtain ⟨c3, i3, k3⟩ := u_known (C := RX3) (T := TX3) (N := 5) (n := 5) htg inw3 (htg _ nsX3)
  obtain ⟨c4, i4, k4⟩ := u_known (C := RX4) (T := TX4) (N := 3) (n := 3) htg inw4 (htg _ nsX4)
  obtain ⟨c5, i5, k5⟩ := u_known (C := RX5) (T := TX5) (N := 9) (n := 9) htg inw5 (htg _ nsX5)
  obtain ⟨c6, i6, k6⟩ := u_known (C := RX6) (T := TX6) (N := 10) (n := 10) htg inw6 (htg _ nsX6)
  obtain ⟨c7, i7, k7⟩ := u_known (C := RX7) (T := TX7) (N := 27) (n := 27) htg inw7 (htg _ nsX7)
  obtain ⟨dC, dI, hKc⟩ : ∃ (dC : Nat → ClassId) (dI : Nat → Nat → Nat), ∀ (k : Nat) (q : vw_C), vwCl[k]? = some q → u_Kn s q.1 q.2.1 q.2.2 (dC k) (dI k) := by
    refine ⟨fun k => match k with | 0 => c0 | 1 => c1 | 2 => c2 | 3 => c3 | 4 => c4 | 5 => c5 | 6 => c6 | _ => c7, fun k => match k with | 0 => i0 | 1 => i1 | 2 => i2 | 3 => i3 | 4 => i4 | 5 => i5 | 6 => i6 | _ => i7, ?_⟩
    intro k q hq
    match k, hq with
    | 0, hq => cases hq; exact k0
    | 1, hq => cases hq; exact k1
    | 2, hq => cases hq; exact k2
    | 3, hq => cases hq; exact k3
    | 4, hq => cases hq; exact k4
    | 5, hq => cases hq; exact k5
    | 6, hq => cases hq; exact k6
    | 7, hq => cases hq; exact k7
    | k + 8, hq => simp [vwCl] at hq
  obtain ⟨a0, kA0, co0, fa0, fb0, fc0⟩ := Cond.arrayClass_spec (htg _ arC0)
  obtain ⟨a1, kA1, co1, fa1, fb1, fc1⟩ := Cond.arrayClass_spec (htg _ arC1)
  obtain ⟨a2, kA2, co2, fa2, fb2, fc2⟩ := Cond.arrayClass_spec (htg _ arC2)
  have hK : va_K (dC, dI) vwCl [(a0, .int), (a1, .byte), (a2, .boolean)] s := by
    refine ⟨hKc, fun k q hq => ?_⟩
    match k, hq with
    | 0, hq => cases hq; exact ⟨fun n z => ⟨fun k h => (by cases h), kA0, fb0, co0, fc0⟩, fa0⟩
    | 1, hq => cases hq; exact ⟨fun n z => ⟨fun k h => (by cases h), kA1, fb1, co1, fc1⟩, fa1⟩
    | 2, hq => cases hq; exact ⟨fun n z => ⟨fun k h => (by cases h), kA2, fb2, co2, fc2⟩, fa2⟩
    | k + 3, hq => simp at hq
  obtain ⟨t0, et0, hT0⟩ := va_Tof (tm := .static "RocketPrint" (rp_tn 0) "[I") (ty := .int) (N := (rp_tab 0).length) (f := fun j => .int ((rp_tab 0).getD j 0)) (A := A) (by decide) (hs _ (st_t 0 (by decide)).1) (va_eqt (hs _ (st_t 0 (by decide)).2.1)) (fun j hj => va_eqt (hs _ ((st_t 0 (by decide)).2.2 j hj))) hA
  have hZ0 : va_Z "RocketPrint" (rp_tn 0) "[I" (.ref t0) A s s.heap := va_Zof (hts _ (List.mem_append_right _ (tt2 (List.mem_of_getElem? (i := 75) (by decide +kernel))))) (hts _ (List.mem_append_right _ (tt1 (List.mem_of_getElem? (i := 1) (by decide +kernel))))) et0 hA
  obtain ⟨t1, et1, hT1⟩ := va_Tof (tm := .static "RocketPrint" (rp_tn 1) "[I") (ty := .int) (N := (rp_tab 1).length) (f := fun j => .int ((rp_tab 1).getD j 0)) (A := A) (by decide) (hs _ (st_t 1 (by decide)).1) (va_eqt (hs _ (st_t 1 (by decide)).2.1)) (fun j hj => va_eqt (hs _ ((st_t 1 (by decide)).2.2 j hj))) hA
  have hZ1 : va_Z "RocketPrint" (rp_tn 1) "[I" (.ref t1) A s s.heap := va_Zof (hts _ (List.mem_append_right _ (tt2 (List.mem_of_getElem? (i := 77) (by decide +kernel))))) (hts _ (List.mem_append_right _ (tt1 (List.mem_of_getElem? (i := 1) (by decide +kernel))))) et1 hA
  obtain ⟨t2, et2, hT2⟩ := va_Tof (tm := .static "RocketPrint" (rp_tn 2) "[I") (ty := .int) (N := (rp_tab 2).length) (f := fun j => .int ((rp_tab 2).getD j 0)) (A := A) (by decide) (hs _ (st_t 2 (by decide)).1) (va_eqt (hs _ (st_t 2 (by decide)).2.1)) (fun j hj => va_eqt (hs _ ((st_t 2 (by decide)).2.2 j hj))) hA
  have hZ2 : va_Z "RocketPrint" (rp_tn 2) "[I" (.ref t2) A s s.heap := va_Zof (hts _ (List.mem_append_right _ (tt2 (List.mem_of_getElem? (i := 105) (by decide +kernel))))) (hts _ (List.mem_append_right _ (tt1 (List.mem_of_getElem? (i := 1) (by decide +kernel))))) et2 hA
  have hZc : va_Z "java/lang/String" "COMPACT_STRINGS" "Z" (.int 1) A s s.heap := va_Zof (hts _ (List.mem_append_right _ (tt2 (List.mem_of_getElem? (i := 25) (by decide +kernel))))) (hts _ (List.mem_append_right _ (tt1 (List.mem_of_getElem? (i := 9) (by decide +kernel))))) (va_eqi (hs _ st_c.1)) hA
  obtain ⟨vf, evf, rvf⟩ := Cond.isRef_spec (hs _ st_c.2)
  obtain ⟨fm, efm⟩ : ∃ fm : Option Nat, vf = rp_fm fm := by
    cases vf with
    | null => exact ⟨none, rfl⟩
    | ref a => exact ⟨some a, rfl⟩
    | _ => simp [Value.isRef] at rvf
  subst efm
  have hZf : va_Z "jdk/internal/util/Preconditions" "SIOOBE_FORMATTER" "Ljava/util/function/BiFunction;" (rp_fm fm) A s s.heap := va_Zof (hts _ (List.mem_append_right _ (tt2 (List.mem_of_getElem? (i := 41) (by decide +kernel))))) (hts _ (List.mem_append_right _ (tt1 (List.mem_of_getElem? (i := 11) (by decide +kernel))))) evf hA
  obtain ⟨adK, adV, hSt, hev⟩ := vk_Sof (args := #[Value.ref b]) (s := s) (N := 7) (tm := fun i => .string "RocketPrint$Tape" (rp_si i)) (len := rp_sl) (byt := rp_sb) (A := A) (by decide) (fun i hi => hs _ (st_s i hi).1) (fun i hi => hs _ (st_s i hi).2.1) (fun i hi => hs _ (st_s i hi).2.2.1) (fun i hi => hs _ (st_s i hi).2.2.2) (fun i hi j hj => hs _ (st_e i hi j hj)) (fun i j hi hj hij => (st_n i hi j hj hij).imp (hs _) (hs _)) hA
  obtain ⟨E, hE⟩ : ∃ E : rp_E, E = (l, (dC, dI), A, (fun _ => 0), (fun t => match t with | 0 => a0 | 1 => a1 | _ => a2), mkAx t0 t1 t2 adK adV, fm) := ⟨_, rfl⟩
  have hXt : rp_Xt E s s.heap := by
    rw [hE]
    refine ⟨fun i hi => ?_, ⟨fun i hi => ?_, fun i j hi hj ee => ?_⟩, fun i hi => ?_, hZc, hZf⟩
    · match i, hi with
      | 0, _ => exact ⟨hZ0, hT0⟩
      | 1, _ => exact ⟨hZ1, hT1⟩
      | 2, _ => exact ⟨hZ2, hT2⟩
      | k + 3, hk => exact absurd hk (by omega)
    · show va_O _ (mkAx t0 t1 t2 adK adV (10 + i)) _ _ _ ∧ va_OF _ _ _ _ (mkAx t0 t1 t2 adK adV (10 + i)) _ _ _ ∧ va_OF _ _ _ (.ref (mkAx t0 t1 t2 adK adV (20 + i))) (mkAx t0 t1 t2 adK adV (10 + i)) _ _ _ ∧ va_T _ (mkAx t0 t1 t2 adK adV (20 + i)) _ _ _ _ _
      rw [mkAx_k hi, mkAx_v hi]
      exact hSt.1 i hi
    · have ee2 : mkAx t0 t1 t2 adK adV (10 + i) = mkAx t0 t1 t2 adK adV (10 + j) := ee
      rw [mkAx_k hi, mkAx_k hj] at ee2
      exact hSt.2 i j hi hj ee2
    · show vk_R _ _ _ (mkAx t0 t1 t2 adK adV (10 + i)) s
      rw [mkAx_k hi]
      exact vk_R.of (A := #[Value.ref b]) (hts _ (List.mem_append_right _ (tt2 (st_r i hi)))) (hev i hi)
  have he := lv_entry ([Value.ref b] : List Value) (n := 4) (Nat.le_of_ble_eq_true rfl)
  rw [lg_entry_eq]
  have eA : E.2.2.1 = fun q => s.heap.size ≤ q := by rw [hE]; exact hAe
  have hE1 : E.1 = l := by rw [hE]
  have hKE : va_K E.2.1 vwCl (rp_ty E) s := by rw [hE]; exact hK
  generalize (lg_sl ([Value.ref b] : List Value) ++ List.replicate (4 - (lg_sl ([Value.ref b] : List Value)).length) Slot.unset).toArray = ls at he ⊢
  have hLL : rp_L ls 4 [some (.ref b), none, none, none] := by
    refine ⟨he.1, he.2.1, rfl, fun i v q => ?_⟩
    match i, q with
    | 0, q => simp at q; subst q; exact he.2.2 (0, .ref b) (by simp [lv_args])
    | 1, q => simp at q
    | 2, q => simp at q
    | 3, q => simp at q
    | k + 4, q => simp at q
  have fin := law_make (E := E) (b := b) (L := L) (xs := xs) hL p e s m #[Value.ref b] below meth c s.heap [] ls ⟨hx, hb, hr, hml, hown, htg, hnw, hlocks⟩ ⟨⟨rfl, hX, hbl, by rw [eA]; exact Nat.not_le.mpr hbl, fun q h => by rw [eA] at h; exact h⟩, hXt⟩ ⟨fun k q h => by simp at h, ⟨fun i j p q h => by simp at h, fun k q h => by simp at h⟩, hKE, va_S.rf, fun q h => by rw [eA]; exact h⟩ hLL
  rw [hE1] at fin
  exact fin
