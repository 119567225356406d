/-! CONSTRUCTORS: a world that grows; pre: what was there, l: what has come since -/
abbrev rc_K : Type := Room × (State → Array Value → List Frame → State → Prop) × (State → Array Value → Method → Prop)
def rc_W (E : rp_E) (ws : va_W) (s : State) (H : Heap) (locs : List Loc) : Prop := va_P E.2.1 vwCl ws H ∧ va_D E.2.2.1 ws ∧ va_K E.2.1 vwCl (rp_ty E) s ∧ va_S E.2.2.1 s.heap H locs ∧ ∀ q : Nat, s.heap.size ≤ q → E.2.2.1 q
def rc_R (E : rp_E) (K : rc_K) (mi : rp_MI) (kc ks pc : Nat) (vs : List (Option Value)) (st : List Value) (pre l : va_W) : Prop :=
  ∀ (p : Program) (e : Env) (s : State) (m : MethodId) (args : Array Value) (below : List Frame) (meth : Method) (c : Code) (H : Heap) (locs : List Loc) (arr : Array Slot), rp_Gd mi p s m args meth c → K.2.2 s args meth → rc_W E (pre ++ l) s H locs → rp_L arr mi.2.2.1 vs →
    W p E.1 e K.1 s m args below meth c H locs kc ks (K.2.1 s args below) (F0 m pc arr st)
theorem rc_at {pre l : va_W} {i : Nat} {x : Nat × va_E} (h : l[i]? = some x) : (pre ++ l)[pre.length + i]? = some x := by
  rw [List.getElem?_append_right (by omega), Nat.add_sub_cancel_left]; exact h
theorem rc_set {pre l : va_W} {i : Nat} {x : Nat × va_E} : (pre ++ l).set (pre.length + i) x = pre ++ l.set i x := by
  rw [List.set_append_right _ _ (by omega), Nat.add_sub_cancel_left]
theorem rc_RA {U : State} {c d : ClassId} {ty : FieldType} (hty : ty = .int ∨ ty = .byte ∨ ty = .boolean) (h : va_RA U c ty) (k : va_RA U d ty) : c = d := by
  rcases hty with rfl | rfl | rfl
  all_goals
    have h' : U.vm.findClass _ = some c := h
    have k' : U.vm.findClass _ = some d := k
    exact Option.some.inj (h'.symm.trans k')
section RCR
variable {E : rp_E} {K : rc_K} {mi : rp_MI} {kc ks pc : Nat} {vs : List (Option Value)} {st : List Value} {pre l : va_W}
theorem rc_aload_n {k0 : Fin 4} {x : Nat} (hd : decode mi.2.1 pc = .ok (.aload_n k0, 1)) (hx : vs[(k0 : Nat)]? = some (some (.ref x))) (k : rc_R E K mi kc ks (pc + 1) vs (.ref x :: st) pre l) : rc_R E K mi kc ks pc vs st pre l := fun p e s m args below meth c H locs arr G X D hl => lv_aload_n G.1 G.2.1 hd rfl (hl.2.2.2 _ _ hx) (k p e s m args below meth c H locs arr G X D hl)
theorem rc_iconst {n : Int} (hd : decode mi.2.1 pc = .ok (.iconst n, 1)) (k : rc_R E K mi kc ks (pc + 1) vs (.int (Int32.ofInt n) :: st) pre l) : rc_R E K mi kc ks pc vs st pre l := fun p e s m args below meth c H locs arr G X D hl => lv_iconst G.1 G.2.1 hd rfl (k p e s m args below meth c H locs arr G X D hl)
theorem rc_bipush {n : Int} (hd : decode mi.2.1 pc = .ok (.bipush n, 2)) (hv : (Int8.ofInt n).toInt32 = Int32.ofInt n) (k : rc_R E K mi kc ks (pc + 2) vs (.int (Int32.ofInt n) :: st) pre l) : rc_R E K mi kc ks pc vs st pre l := fun p e s m args below meth c H locs arr G X D hl => lv_bipush G.1 G.2.1 hd hv (k p e s m args below meth c H locs arr G X D hl)
theorem rc_sipush {n : Int} (hd : decode mi.2.1 pc = .ok (.sipush n, 3)) (hv : (Int16.ofInt n).toInt32 = Int32.ofInt n) (k : rc_R E K mi kc ks (pc + 3) vs (.int (Int32.ofInt n) :: st) pre l) : rc_R E K mi kc ks pc vs st pre l := fun p e s m args below meth c H locs arr G X D hl => lv_sipush G.1 G.2.1 hd hv (k p e s m args below meth c H locs arr G X D hl)
theorem rc_dup {va : Value} (hd : decode mi.2.1 pc = .ok (.dup, 1)) (hv : va.category = 1) (k : rc_R E K mi kc ks (pc + 1) vs (va :: va :: st) pre l) : rc_R E K mi kc ks pc vs (va :: st) pre l := fun p e s m args below meth c H locs arr G X D hl => lv_dup G.1 G.2.1 hd hv (k p e s m args below meth c H locs arr G X D hl)
theorem rc_astore_n {k0 : Fin 4} {x : Nat} (hd : decode mi.2.1 pc = .ok (.astore_n k0, 1)) (hi : (k0 : Nat) < mi.2.2.1) (hc : rp_c1 vs (k0 : Nat) = true) (k : rc_R E K mi kc ks (pc + 1) (vs.set (k0 : Nat) (some (.ref x))) st pre l) : rc_R E K mi kc ks pc vs (.ref x :: st) pre l := fun p e s m args below meth c H locs arr G X D hl => lv_astore_n G.1 G.2.1 hd rfl hl.has hi rfl (fun ls2 hl2 => k p e s m args below meth c H locs ls2 G X D (rp_L.st1 hl.2.2.1 hc hi hl2))
theorem rc_istore_n {k0 : Fin 4} {x : Int32} (hd : decode mi.2.1 pc = .ok (.istore_n k0, 1)) (hi : (k0 : Nat) < mi.2.2.1) (hc : rp_c1 vs (k0 : Nat) = true) (k : rc_R E K mi kc ks (pc + 1) (vs.set (k0 : Nat) (some (.int x))) st pre l) : rc_R E K mi kc ks pc vs (.int x :: st) pre l := fun p e s m args below meth c H locs arr G X D hl => lv_istore_n G.1 G.2.1 hd rfl hl.has hi rfl (fun ls2 hl2 => k p e s m args below meth c H locs ls2 G X D (rp_L.st1 hl.2.2.1 hc hi hl2))
/-- Object's own constructor -/
theorem rc_obj {a idx : Nat} (h1 : Cond.methodLink mi.1.cls idx Lib.objectInit ∈ rp_TG) (h2 : Cond.instanceMethod Lib.objectInit ∈ rp_TG) (h3 : Cond.code Lib.objectInit ⟨#[0xb1]⟩ 1 none ∈ rp_TG) (hd : decode mi.2.1 pc = .ok (.invokespecial idx, 3)) (hf : 1 ≤ K.1.frames) (hloc : (st.map fun v => v.category).sum + 12 ≤ K.1.locals) (k : rc_R E K mi kc ks (pc + 3) vs st pre l) : rc_R E K mi kc ks pc vs (.ref a :: st) pre l := by
  intro p e s m args below meth c H locs arr G X D hl
  have ht := G.2.2.2.2.2.1
  refine W.objInit G.1 G.2.1 G.2.2.2.2.1 (ht _ h1) (ht _ h2) (ht _ h3) rfl (by rw [G.2.2.2.1]; exact hl.1) rfl hd hf ?_ (k p e s m args below meth c H locs arr G X D hl)
  show 2 * 0 + _ + 12 ≤ K.1.locals
  omega
/-- a new array -/
theorem rc_newa {atype : ArrayType} {ty : FieldType} {t n : Nat} {x : Int32} (hty : newarray.typeOf atype = ty) (hty3 : ty = .int ∨ ty = .byte ∨ ty = .boolean) (htt : (rp_ty E)[t]? = some (E.2.2.2.2.1 t, ty)) (hw : Cond.arrayClass (newarray.typeOf atype) ∈ rp_TG) (hx : x.toInt = n) (hdef : defaultValue ty = .int 0) (hb : n * componentBytes ty ≤ 536870912) (hc : kc + 1 ≤ K.1.cells) (hs : ks + n ≤ K.1.slots) (hd : decode mi.2.1 pc = .ok (.newarray atype, 2)) (k : ∀ q : Nat, rc_R E K mi (kc + 1) (ks + n) (pc + 2) vs (.ref q :: st) pre (l ++ [(q, .inl (E.2.2.2.2.1 t, n, .inl (fun _ => 0)))])) : rc_R E K mi kc ks pc vs (.int x :: st) pre l := by
  intro p e s m args below meth c H locs arr G X D hl
  have hn : x.toNatClampNeg = n := by show x.toInt.toNat = n; omega
  refine va_newa G.1 G.2.1 (G.2.2.2.2.2.1 _ hw) hty D.2.2.1 D.1 D.2.1 D.2.2.2.1 D.2.2.2.2 (a0 := (n, .inl (fun _ => 0))) (fun cA => by rw [vp_cell_i, hdef]) (by rw [Int32.lt_iff_toInt_lt, hx, Int32.toInt_zero]; omega) hn hb hc hs hd (fun q cA H1 hK1 hP1 hD1 hS1 => ?_)
  have r1 := (hK1.2 (rp_ty E).length (cA, ty) (by rw [List.getElem?_append_right (Nat.le_refl _), Nat.sub_self]; rfl)).2
  have r2 := (D.2.2.1.2 t (E.2.2.2.2.1 t, ty) htt).2
  have ec : cA = E.2.2.2.2.1 t := rc_RA hty3 r1 r2
  subst ec
  rw [List.append_assoc] at hP1 hD1
  exact k q p e s m args below meth c H1 locs arr G X ⟨hP1, hD1, D.2.2.1, hS1, D.2.2.2.2⟩ hl
/-- a final field, in its class's constructor -/
def rc_Ff (own : String) (idx ci k : Nat) (ty : FieldType) : Prop := ∃ q : vw_C, vwCl[ci]? = some q ∧ rp_Cf q ∧ k < q.2.2 ∧ Cond.fieldLink own idx (q.2.1 k).1 (q.2.1 k).2.1 (q.2.1 k).2.2.1 ∈ rp_TG ∧ (q.2.1 k).2.2.2 = true ∧ (q.2.1 k).1 = own ∧ parseFieldDescriptor (q.2.1 k).2.2.1 = some ty
theorem rc_putF {i a ci k idx : Nat} {fs : List Value} {v : Value} {ty : FieldType} (he : l[i]? = some (a, .inr (ci, fs))) (F : rc_Ff mi.1.cls idx ci k ty) (hn : narrow ty v = v) (hf : fits ty v = true) (hk : k < fs.length) (hin : ∀ (s : State) (args : Array Value) (meth : Method), K.2.2 s args meth → meth.name = "<init>") (hd : decode mi.2.1 pc = .ok (.putfield idx, 3)) (kk : rc_R E K mi kc ks (pc + 3) vs st pre (l.set i (a, .inr (ci, fs.set k v)))) : rc_R E K mi kc ks pc vs (v :: .ref a :: st) pre l := by
  intro p e s m args below meth c H locs arr G X D hl
  obtain ⟨q, hq, ⟨c1, ⟨ty0, c2⟩, c3⟩, hk2, hlk, hfin, hown, hty⟩ := F
  refine va_putF (D := E.2.1) (cl := vwCl) (C := q.1) (T := q.2.1) (N := q.2.2) (ty := ty) G.1 G.2.1 G.2.2.2.2.2.1 c1 ty0 c2 c3 G.2.2.2.2.1 D.2.2.1 D.1 D.2.1 D.2.2.2.1 (pre.length + i) (rc_at he) hq k hk2 (G.2.2.2.2.2.1 _ hlk) (fun _ z => z) hfin (hin s args meth X) hown hty hn hf hk hd (fun H1 locs1 hP hD hS => ?_)
  rw [rc_set] at hP hD
  exact kk p e s m args below meth c H1 locs1 arr G X ⟨hP, hD, D.2.2.1, hS, D.2.2.2.2⟩ hl
theorem rc_putI {i a ci k idx : Nat} {fs : List Value} {v : Value} {ty : FieldType} (he : l[i]? = some (a, .inr (ci, fs))) (F : rp_Fp mi.1.cls idx ci k ty) (hn : narrow ty v = v) (hf : fits ty v = true) (hk : k < fs.length) (hd : decode mi.2.1 pc = .ok (.putfield idx, 3)) (kk : rc_R E K mi kc ks (pc + 3) vs st pre (l.set i (a, .inr (ci, fs.set k v)))) : rc_R E K mi kc ks pc vs (v :: .ref a :: st) pre l := by
  intro p e s m args below meth c H locs arr G X D hl
  obtain ⟨⟨q, hq, ⟨c1, ⟨ty0, c2⟩, c3⟩, hk2, hlk⟩, q2, hq2, hfin, hty⟩ := F
  cases hq.symm.trans hq2
  rcases hlk with hlk | ⟨host, hlk⟩
  · refine va_put (D := E.2.1) (cl := vwCl) (C := q.1) (T := q.2.1) (N := q.2.2) (ty := ty) G.1 G.2.1 G.2.2.2.2.2.1 c1 ty0 c2 c3 G.2.2.2.2.1 D.2.2.1 D.1 D.2.1 D.2.2.2.1 (pre.length + i) (rc_at he) hq k hk2 (G.2.2.2.2.2.1 _ hlk) (fun _ z => z) hfin hty hn hf hk hd (fun H1 locs1 hP hD hS => ?_)
    rw [rc_set] at hP hD
    exact kk p e s m args below meth c H1 locs1 arr G X ⟨hP, hD, D.2.2.1, hS, D.2.2.2.2⟩ hl
  · refine va_putN (D := E.2.1) (cl := vwCl) (C := q.1) (T := q.2.1) (N := q.2.2) (ty := ty) G.1 G.2.1 G.2.2.2.2.2.1 c1 ty0 c2 c3 G.2.2.2.2.1 D.2.2.1 D.1 D.2.1 D.2.2.2.1 (pre.length + i) (rc_at he) hq k hk2 (va_Nw.use rfl (G.2.2.2.2.2.2.1 _ hlk)) (fun _ z => z) hfin hty hn hf hk hd (fun H1 locs1 hP hD hS => ?_)
    rw [rc_set] at hP hD
    exact kk p e s m args below meth c H1 locs1 arr G X ⟨hP, hD, D.2.2.1, hS, D.2.2.2.2⟩ hl
theorem rc_iast {i a n : Nat} {j x : Int32} {f : Nat → Int32} (he : l[i]? = some (a, .inl (E.2.2.2.2.1 0, n, .inl f))) (hj : 0 ≤ j.toInt ∧ j.toInt < n) (hd : decode mi.2.1 pc = .ok (.iastore, 1)) (kk : rc_R E K mi kc ks (pc + 1) vs st pre (l.set i (a, .inl (E.2.2.2.2.1 0, n, .inl (upd f j.toNatClampNeg x))))) : rc_R E K mi kc ks pc vs (.int x :: .int j :: .ref a :: st) pre l := by
  intro p e s m args below meth c H locs arr G X D hl
  refine va_iast G.1 G.2.1 D.2.2.1 D.1 D.2.1 D.2.2.2.1 (pre.length + i) 0 (rc_at he) rfl (vp_in_iff.mpr hj) hd (fun H1 locs1 hP hD hS => ?_)
  rw [rc_set] at hP hD
  exact kk p e s m args below meth c H1 locs1 arr G X ⟨hP, hD, D.2.2.1, hS, D.2.2.2.2⟩ hl
/-- the last that came is an array: one of its places -/
theorem rc_iastL {a n : Nat} {j x : Int32} {f : Nat → Int32} {l0 : va_W} (hl : l = l0 ++ [(a, .inl (E.2.2.2.2.1 0, n, .inl f))]) (hj : 0 ≤ j.toInt ∧ j.toInt < n) (hd : decode mi.2.1 pc = .ok (.iastore, 1)) (kk : ∀ f' : Nat → Int32, f' = upd f j.toNatClampNeg x → rc_R E K mi kc ks (pc + 1) vs st pre (l0 ++ [(a, .inl (E.2.2.2.2.1 0, n, .inl f'))])) : rc_R E K mi kc ks pc vs (.int x :: .int j :: .ref a :: st) pre l := by
  subst hl
  refine rc_iast (i := l0.length) (f := f) ?_ hj hd ?_
  · rw [List.getElem?_append_right (Nat.le_refl _), Nat.sub_self]; rfl
  · rw [List.set_append_right _ _ (Nat.le_refl _), Nat.sub_self]
    exact kk _ rfl
/-- a new object -/
theorem rc_new {ci idx : Nat} {q : vw_C} {fs : List Value} (ty0 : Nat → FieldType) (hq : vwCl[ci]? = some q) (hin : ∀ w ∈ u_ws q.1 q.2.1 q.2.2, w ∈ rp_TG) (hty : ∀ k, k < q.2.2 → parseFieldDescriptor (q.2.1 k).2.2.1 = some (ty0 k)) (h1 : Cond.classLink mi.1.cls idx q.1 ∈ rp_TG) (h2 : Cond.instantiable q.1 q.2.2 ∈ rp_TG) (h3 : Cond.initialized q.1 ∈ rp_TG) (hfs : ∀ j, j < q.2.2 → defaultValue (ty0 j) = vp_V fs j) (hc : kc + 1 ≤ K.1.cells) (hs : ks + q.2.2 ≤ K.1.slots) (hd : decode mi.2.1 pc = .ok (.new idx, 3)) (k : ∀ a : Nat, rc_R E K mi (kc + 1) (ks + q.2.2) (pc + 3) vs (.ref a :: st) pre (l ++ [(a, .inr (ci, fs))])) : rc_R E K mi kc ks pc vs st pre l := by
  intro p e s m args below meth c H locs arr G X D hl
  have ht := G.2.2.2.2.2.1
  refine va_new (cl := vwCl) (C := q.1) (T := q.2.1) (N := q.2.2) (ci := ci) (fs := fs) G.1 G.2.1 ht hin ty0 hty G.2.2.2.2.1 (ht _ h1) (ht _ h2) (ht _ h3) D.2.2.1 D.1 D.2.1 D.2.2.2.1 D.2.2.2.2 hq hfs hc hs hd (fun a H1 hP1 hD1 hS1 => ?_)
  rw [List.append_assoc] at hP1 hD1
  exact k a p e s m args below meth c H1 locs arr G X ⟨hP1, hD1, D.2.2.1, hS1, D.2.2.2.2⟩ hl
end RCR
/-! a constructor's contract: its object is the last that came -/
def rc_Pc (E : rp_E) (ws : va_W) (av : List Value) : Array Value → State → Prop := va_Pc av (fun U => va_P E.2.1 vwCl ws U.heap ∧ va_K E.2.1 vwCl (rp_ty E) U ∧ va_D E.2.2.1 ws ∧ (∀ q : Nat, U.heap.size ≤ q → E.2.2.1 q) ∧ ∀ w ∈ rp_NW, va_Nw w U)
def rc_Qc (E : rp_E) (Po : va_W → Prop) : Array Value → State → Outcome → State → Prop := fun _ st oc t => oc = .returned none ∧ (∃ w, Po w ∧ va_P E.2.1 vwCl w t.heap ∧ va_D E.2.2.1 w) ∧ va_F E.2.2.1 st t
abbrev rc_Po (pre : va_W) (h0 : Nat) (Post : Nat → va_W → Prop) : va_W → Prop := fun w => ∃ l1, Post h0 l1 ∧ w = pre ++ l1
def rc_mK (E : rp_E) (rm : Room) (mc ms : Nat) (pre : va_W) (h0 : Nat) (Post : Nat → va_W → Prop) : rc_K := (rm, fun s args below => MQ below (rc_Qc E (rc_Po pre h0 Post)) args s mc ms E.2.2.1, fun _ _ meth => meth.name = "<init>")
def rc_C (E : rp_E) (mi : rp_MI) (rm : Room) (mc ms : Nat) (o : va_E) (Post : Nat → va_W → Prop) : Prop := ∀ (pre : va_W) (h0 : Nat), Met E.1 mi.1 (rp_ws mi) rm (rc_Pc E (pre ++ [(h0, o)]) [.ref h0]) (rc_Qc E (rc_Po pre h0 Post)) mc ms E.2.2.1
theorem rc_blind (E : rp_E) (ws : va_W) (av : List Value) : FrameBlind (rc_Pc E ws av) := by
  intro a U g mk q
  obtain ⟨h0, h1, h2, h3, h4, h5⟩ := q
  exact ⟨h0, h1, va_K.moved (u := U) (U := U.calling g mk a) (Vm.Alike.refl U.vm) h2, h3, h4, fun w hw => va_Nw.same (rp_nest hw) (u := U) (U := U.calling g mk a) rfl (h5 w hw)⟩
theorem rc_met {E : rp_E} {rm : Room} {mc ms : Nat} {mi : rp_MI} {o : va_E} {Post : Nat → va_W → Prop} (hpl : plainName mi.1.cls = true) (hnm : mi.1.name = "<init>") (hml : mi.2.2.1 = 1) (hr : ∀ (pre : va_W) (h0 : Nat), rc_R E (rc_mK E rm mc ms pre h0 Post) mi 0 0 0 [some (.ref h0)] [] pre [(h0, o)]) : rc_C E mi rm mc ms o Post := by
  intro pre h0
  refine Met.ofW (cc := mi.2.1) (maxL := mi.2.2.1) (ret := mi.2.2.2) hpl rfl ?_
  intro p e s m args below meth c s₁ B hml0 hv0
  obtain ⟨rfl, hP, hK, hD, hA, hN⟩ := hv0
  have hts := atoms_spec (ws := rp_ws mi) B.pre
  rw [lg_entry_eq]
  have he := lv_entry [.ref h0] (n := mi.2.2.1) (by rw [hml]; exact Nat.le_of_ble_eq_true rfl)
  have nm : meth.name = "<init>" := (name_of_methodNamed B.named B.method).1.trans hnm
  refine hr pre h0 p e s m #[.ref h0] below meth c s.heap [] _ ⟨B.exec, B.bytes, B.returns, hml0, findClass_of_methodNamed B.named, fun w hw => hts w (List.mem_cons_of_mem _ hw), hN, B.notSynchronized⟩ nm ⟨hP, hD, hK, va_S.rf, hA⟩ ?_
  refine ⟨he.1, he.2.1, ?_, fun i v q => ?_⟩
  · rw [hml]; rfl
  · have : i = 0 := by
      cases i with
      | zero => rfl
      | succ i => simp at q
    subst this
    simp at q
    subst q
    exact he.2.2 (0, .ref h0) (by simp [lv_args])
section RCC
variable {E : rp_E} {K : rc_K} {mi : rp_MI} {kc ks pc : Nat} {vs : List (Option Value)} {st : List Value} {pre l : va_W}
theorem rc_ret {rm : Room} {mc ms h0 : Nat} {Post : Nat → va_W → Prop} (hp : Post h0 l) (hr : mi.2.2.2 = none) (hd : decode mi.2.1 pc = .ok (.return_, 1)) : rc_R E (rc_mK E rm mc ms pre h0 Post) mi mc ms pc vs [] pre l := by
  intro p e s m args below meth c H locs arr G X D hl
  exact W.vret G.1 G.2.1 (G.2.2.1.trans hr) (fun t ht hW => ⟨rfl, ⟨_, ⟨l, hp, rfl⟩, by rw [ht]; exact D.1, D.2.1⟩, D.2.2.2.1.F ht⟩) D.2.2.2.1.2.2 hd G.2.2.2.2.2.2.2
def rc_Lk (own : String) (idx : Nat) (mi : rp_MI) : Prop := (Cond.methodLink own idx mi.1 ∈ rp_TG ∨ ∃ host, Cond.methodLinkNest own idx mi.1 host ∈ rp_NW) ∧ Cond.instanceMethod mi.1 ∈ rp_TG
theorem rc_callI {mi' : rp_MI} {rm : Room} {mc ms h0 idx : Nat} {o : va_E} {Post : Nat → va_W → Prop} {l0 : va_W} (hM : rc_C E mi' rm mc ms o Post) (hl0 : l = l0 ++ [(h0, o)]) (hb : rp_Cb mi' 0) (hk : rc_Lk mi.1.cls idx mi') (hr : mi'.2.2.2 = none) (hnm : mi'.1.name = "<init>") (hm : rm.cells = mc ∧ rm.slots = ms ∧ rm.frames + 1 ≤ K.1.frames ∧ 8 + (mi'.2.2.1 + 11) + rm.locals ≤ K.1.locals) (hc : kc + mc ≤ K.1.cells ∧ ks + ms ≤ K.1.slots) (hcat : (st.map fun v => v.category).sum ≤ 8) (hd : decode mi.2.1 pc = .ok (.invokespecial idx, 3))
    (k : ∀ l1, Post h0 l1 → rc_R E K mi (kc + mc) (ks + ms) (pc + 3) vs st pre (l0 ++ l1)) : rc_R E K mi kc ks pc vs (.ref h0 :: st) pre l := by
  intro p e s m args below meth c H locs arr G X D hl
  subst hl0
  have hM1 := hM (pre ++ l0) h0
  have ht := G.2.2.2.2.2.1
  have D1 := D.1
  have D2 := D.2.1
  rw [← List.append_assoc] at D1 D2
  have hPS : PreS s H (rc_Pc E ((pre ++ l0) ++ [(h0, o)]) [.ref h0]) [.ref h0] := ⟨rc_blind _ _ _, fun U hU hW => ⟨rfl, by rw [hU]; exact D1, va_K.moved hW.alike D.2.2.1, D2, fun q hq => D.2.2.2.2 q (Nat.le_trans D.2.2.2.1.1 (by rw [← hU]; exact hq)), fun w hw => rp_nest_warm hw hW (G.2.2.2.2.2.2.1 w hw)⟩⟩
  obtain ⟨y', b', n', r'⟩ := mi'
  have er : r' = none := hr
  subst er
  have hrun : va_Run p E.1 e K.1 s m args below meth c H locs kc ks mc ms (F0 m pc arr (.ref h0 :: st)) st (rc_Qc E (rc_Po (pre ++ l0) h0 Post) ([.ref h0] : List Value).toArray) E.2.2.1 := by
    rcases hk.1 with hk1 | ⟨host, hk1⟩
    · exact va_runI (As := []) (index := idx) ⟨G.1, G.2.1, G.2.2.2.1, G.2.2.2.2.1, ht⟩ hM1 ⟨callB_of 0 ht (rp_goodIn hb) rfl hm.1 hm.2.1 (ht _ hb.1) (ht _ hk1) hb.2.2.1 hm.2.2, hnm, ht _ hk.2⟩ hPS rfl rfl hl.1 rfl (lv_room hcat) hd hc
    · exact va_runIN (As := []) (index := idx) (host := host) ⟨G.1, G.2.1, G.2.2.2.1, G.2.2.2.2.1, ht⟩ hM1 ⟨va_cnB 0 ht (rp_goodIn hb) rfl hm.1 hm.2.1 (G.2.2.2.2.2.2.1 _ hk1) (ht _ hb.1) hb.2.2.1 hm.2.2, hnm, ht _ hk.2⟩ hPS rfl rfl hl.1 rfl (lv_room hcat) hd hc
  intro T hT XT
  obtain ⟨v', st₀, t, T', L, h0', X', hL, e1, e2, ⟨hv, ⟨w, ⟨l1, hp, rfl⟩, hP, hD⟩, hz, hkq⟩, stp⟩ := hrun T hT XT
  cases hv
  rw [h0'] at hz hkq
  rw [List.append_assoc] at hP hD
  obtain ⟨t2, a1, b1⟩ := k l1 hp p e s m args below meth c T'.heap (locs ++ L) arr G X ⟨by rw [e1]; exact hP, hD, D.2.2.1, ⟨Nat.le_trans D.2.2.2.1.1 (by rw [e1]; exact hz), fun q h1 h2 => by rw [e1, hkq q (Nat.lt_of_lt_of_le h1 D.2.2.2.1.1) h2]; exact D.2.2.2.1.2.1 q h1 h2, fun q hq => by
      rcases List.mem_append.mp hq with z | z
      · exact D.2.2.2.1.2.2 q z
      · exact hL q z⟩, D.2.2.2.2⟩ hl T' rfl X'
  exact ⟨t2, stp t2 a1, b1⟩
end RCC
