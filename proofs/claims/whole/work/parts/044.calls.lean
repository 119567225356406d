/-! what a method gives back -/
def rp_Qc (E : rp_E) (v : Option Value) (τ : rp_S) : Array Value → State → Outcome → State → Prop := fun _ st oc t => oc = .returned v ∧ va_P E.2.1 vwCl (rp_wd E τ) t.heap ∧ va_F E.2.2.1 st t
def rp_mK (E : rp_E) (R : Room) : rp_K := (R, 0, 0, fun v τ s args below => MQ below (rp_Qc E v τ) args s 0 0 E.2.2.1, fun _ _ => True)
def rp_Pc (E : rp_E) (σ : rp_S) (av : List Value) : Array Value → State → Prop := va_Pc av (fun U => va_P E.2.1 vwCl (rp_wd E σ) U.heap ∧ va_K E.2.1 vwCl (rp_ty E) U ∧ va_D E.2.2.1 (rp_wd E σ) ∧ rp_Xt E U U.heap ∧ ∀ w ∈ rp_NW, va_Nw w U)
def rp_pos : List Value → List (Option Value)
  | [] => []
  | .long x :: r => some (.long x) :: none :: rp_pos r
  | .double x :: r => some (.double x) :: none :: rp_pos r
  | v :: r => some v :: rp_pos r
def rp_pad : Nat → List (Option Value) → List (Option Value)
  | 0, _ => []
  | n + 1, [] => none :: rp_pad n []
  | n + 1, a :: r => a :: rp_pad n r
theorem rp_pad_len : ∀ (n : Nat) (l : List (Option Value)), (rp_pad n l).length = n := by
  intro n
  induction n with
  | zero => intro l; rfl
  | succ n ih => intro l; cases l <;> simp [rp_pad, ih]
theorem rp_pad_at : ∀ (n : Nat) (l : List (Option Value)) (i : Nat) (v : Value), (rp_pad n l)[i]? = some (some v) → l[i]? = some (some v) := by
  intro n
  induction n with
  | zero => intro l i v h; simp [rp_pad] at h
  | succ n ih =>
    intro l i v h
    cases l with
    | nil =>
      cases i with
      | zero => simp [rp_pad] at h
      | succ i => exact absurd (ih [] i v (by simpa [rp_pad] using h)) (by simp)
    | cons a r =>
      cases i with
      | zero => simpa [rp_pad] using h
      | succ i => simpa using ih r i v (by simpa [rp_pad] using h)
theorem rp_pos_at : ∀ (l : List Value) (k i : Nat) (v : Value), (rp_pos l)[i]? = some (some v) → (k + i, v) ∈ lv_args k l := by
  intro l
  induction l with
  | nil => intro k i v h; simp [rp_pos] at h
  | cons a r ih =>
    intro k i v h
    have one : ∀ (a : Value), a.category = 1 → (some a :: rp_pos r)[i]? = some (some v) → (k + i, v) ∈ lv_args k (a :: r) := by
      intro a ha h
      rw [lv_args, if_neg (by omega)]
      cases i with
      | zero => simp at h; rw [h]; exact List.mem_cons_self
      | succ i =>
        refine List.mem_cons_of_mem _ ?_
        have := ih (k + 1) i v (by simpa using h)
        rwa [show k + 1 + i = k + (i + 1) by omega] at this
    have two : ∀ (a : Value), a.category = 2 → (some a :: none :: rp_pos r)[i]? = some (some v) → (k + i, v) ∈ lv_args k (a :: r) := by
      intro a ha h
      rw [lv_args, if_pos ha]
      cases i with
      | zero => simp at h; rw [h]; exact List.mem_cons_self
      | succ i =>
        cases i with
        | zero => simp at h
        | succ i =>
          refine List.mem_cons_of_mem _ ?_
          have := ih (k + 2) i v (by simpa using h)
          rwa [show k + 2 + i = k + (i + 1 + 1) by omega] at this
    cases a with
    | long x => exact two _ rfl (by simpa [rp_pos] using h)
    | double x => exact two _ rfl (by simpa [rp_pos] using h)
    | int x => exact one _ rfl (by simpa [rp_pos] using h)
    | float x => exact one _ rfl (by simpa [rp_pos] using h)
    | ref x => exact one _ rfl (by simpa [rp_pos] using h)
    | null => exact one _ rfl (by simpa [rp_pos] using h)
    | retAddr x => exact one _ rfl (by simpa [rp_pos] using h)
theorem rp_nest {w : Cond} (h : w ∈ rp_NW) : w.onTables = true := by
  have h1 := (List.mem_filter.mp h).2
  cases w <;> first | (simp [rp_isN] at h1; done) | rfl
theorem rp_nest_warm {w : Cond} {s U : State} (h : w ∈ rp_NW) (hW : s.WarmedH U.vm) (hw : va_Nw w s) : va_Nw w U := by
  have h1 := (List.mem_filter.mp h).2
  cases w <;> first | (simp [rp_isN] at h1; done) | exact va_Nw.warmF hW hw | exact va_Nw.warmM hW hw
theorem rp_blind (E : rp_E) (σ : rp_S) (av : List Value) : FrameBlind (rp_Pc E σ av) := by
  intro a U g mk q
  obtain ⟨h0, h1, h2, h3, h4, h5⟩ := q
  exact ⟨h0, h1, va_K.moved (u := U) (U := U.calling g mk a) (Vm.Alike.refl U.vm) h2, h3, rp_Xt.same (s := U) (U := U.calling g mk a) rfl h4, fun w hw => va_Nw.same (rp_nest hw) (u := U) (U := U.calling g mk a) rfl (h5 w hw)⟩
/-- a method's words: its code, then all good words -/
def rp_ws (mi : rp_MI) : List Cond := Cond.code mi.1 mi.2.1 mi.2.2.1 mi.2.2.2 :: rp_TG
theorem rp_met {α : Type} {E : rp_E} {rm : Room} {mi : rp_MI} {vs : List (Option Value)} {σ : rp_S} {h : α → Option Value × rp_S} {o : Option α} {av : List Value} {a : α} (hpl : plainName mi.1.cls = true) (hr : rp_R E (rp_mK E rm) mi 0 vs [] σ h o) (hv : rp_pad mi.2.2.1 (rp_pos av) = vs) (hlen : (lg_sl av).length ≤ mi.2.2.1) (ho : o = some a) :
    Met E.1 mi.1 (rp_ws mi) rm (rp_Pc E σ av) (rp_Qc E (h a).1 (h a).2) 0 0 E.2.2.1 := by
  refine Met.ofW (cc := mi.2.1) (maxL := mi.2.2.1) (ret := mi.2.2.2) hpl rfl ?_
  intro p e s m args below meth c s₁ B hml hv0
  obtain ⟨rfl, hP, hK, hD, hX, hN⟩ := hv0
  have hts := atoms_spec (ws := rp_ws mi) B.pre
  rw [lg_entry_eq]
  have he := lv_entry av (n := mi.2.2.1) hlen
  refine hr a ho p e s m av.toArray below meth c s.heap [] _ ⟨B.exec, B.bytes, B.returns, hml, findClass_of_methodNamed B.named, fun w hw => hts w (List.mem_cons_of_mem _ hw), hN, B.notSynchronized⟩ trivial ⟨hP, hD, hK, va_S.rf, hX⟩ ?_
  refine ⟨he.1, he.2.1, ?_, fun i v q => ?_⟩
  · rw [← hv, rp_pad_len]
  · rw [← hv] at q
    have := rp_pos_at av 0 i v (rp_pad_at _ _ _ _ q)
    rw [Nat.zero_add] at this
    exact he.2.2 _ this
/-! a call's words -/
def rp_Cb (mi : rp_MI) (n : Nat) : Prop := Cond.initialized mi.1.cls ∈ rp_TG ∧ Cond.code mi.1 mi.2.1 mi.2.2.1 mi.2.2.2 ∈ rp_TG ∧ (mi.1.cls ≠ "java/lang/invoke/MethodHandle" ∧ mi.1.cls ≠ "java/lang/invoke/VarHandle" ∧ (parseMethodDescriptor mi.1.desc).map (fun d => d.parameters.length) = some n) ∧ plainName mi.1.cls = true
def rp_Lk (own : String) (idx : Nat) (mi : rp_MI) : Prop := Cond.methodLink own idx mi.1 ∈ rp_TG ∨ ∃ host, Cond.methodLinkNest own idx mi.1 host ∈ rp_NW
def rp_Vi (mi : rp_MI) : Prop := Cond.instanceMethod mi.1 ∈ rp_TG ∧ Cond.selects mi.1.cls mi.1 mi.1 ∈ rp_TG
def rp_St (mi : rp_MI) : Prop := Cond.static mi.1 ∈ rp_TG
def rp_rm (K : rp_K) (rm : Room) (mi : rp_MI) : Prop := rm.cells = 0 ∧ rm.slots = 0 ∧ (rm.frames + 1 ≤ K.1.frames ∧ 8 + (mi.2.2.1 + 11) + rm.locals ≤ K.1.locals) ∧ K.2.1 ≤ K.1.cells ∧ K.2.2.1 ≤ K.1.slots
theorem rp_TG_good : ∀ w ∈ rp_TG, (w.onTables && w.keeps) = true ∨ ∃ ty, w = .arrayClass ty := fun w hw => good_of_word (List.mem_filter.mp hw).2
theorem rp_goodIn {mi : rp_MI} {n : Nat} (h : rp_Cb mi n) : GoodIn rp_TG (rp_ws mi) := by
  intro w hw
  rcases List.mem_cons.mp hw with rfl | hw
  · exact ⟨h.2.1, rp_TG_good _ h.2.1⟩
  · exact ⟨hw, rp_TG_good _ hw⟩
/-- a receiver's class -/
def rp_Rc (E : rp_E) (b : Nat) (C : String) : Prop := ∀ (σ : rp_S) (s : State) (H : Heap) (locs : List Loc), rp_Wd E σ s H locs → ∃ cell : Cell, H[b]? = some cell ∧ cell.vm.isStatics = false ∧ s.vm.findClass C = some cell.cls
theorem rp_rcO {E : rp_E} {a ci : Nat} {fds : List (Option Nat)} {C : String} (hsh : rp_sh[a]? = some (.inl (ci, fds))) (hc : vwCl[ci]?.map (fun q => q.1) = some C) : rp_Rc E (E.2.2.2.1 a) C := by
  intro σ s H locs D
  obtain ⟨q, hq, rfl⟩ := Option.map_eq_some_iff.mp hc
  exact va_recv (D := E.2.1) (cl := vwCl) D.2.2.1 D.1 hq (rp_at hsh)
theorem rp_rcS {E : rp_E} {i : Nat} (hi : i < 7) : rp_Rc E (E.2.2.2.2.2.1 (10 + i)) "java/lang/String" := by
  intro σ s H locs D
  exact vk_recv (adK := fun j => E.2.2.2.2.2.1 (10 + j)) (i := i) D.2.2.2.2.2.1 hi D.2.2.2.1
section RPC
variable {α : Type} {E : rp_E} {K : rp_K} {mi : rp_MI} {pc : Nat} {vs : List (Option Value)} {st : List Value} {σ : rp_S} {h : α → Option Value × rp_S} {o : Option α}
theorem rp_pre {p : Program} {s : State} {m : MethodId} {args : Array Value} {meth : Method} {c : Code} {H : Heap} {locs : List Loc} (G : rp_Gd mi p s m args meth c) (D : rp_Wd E σ s H locs) (av : List Value) (U : State) (hU : U.heap = H) (hW : s.WarmedH U.vm) : rp_Pc E σ av av.toArray U :=
  ⟨rfl, by rw [hU]; exact D.1, va_K.moved hW.alike D.2.2.1, D.2.1, by rw [hU]; exact (D.2.2.2.2.kept D.2.2.2.1.2.1).warm hW, fun w hw => rp_nest_warm hw hW (G.2.2.2.2.2.2.1 w hw)⟩
theorem rp_after {v : Option Value} {τ : rp_S} {p : Program} {e : Env} {s : State} {m : MethodId} {args : Array Value} {below : List Frame} {meth : Method} {c : Code} {H : Heap} {locs : List Loc} {arr : Array Slot} {st0 rest : List Value} {av : Array Value} {Q : State → Prop} (D : rp_Wd E σ s H locs)
    (hr : va_Run p E.1 e K.1 s m args below meth c H locs K.2.1 K.2.2.1 0 0 (F0 m pc arr st0) rest (rp_Qc E v τ av) E.2.2.1)
    (kk : ∀ (H1 : Heap) (locs1 : List Loc), rp_Wd E τ s H1 locs1 → W p E.1 e K.1 s m args below meth c H1 locs1 K.2.1 K.2.2.1 Q (F0 m (pc + 3) arr (v.toList ++ rest))) : W p E.1 e K.1 s m args below meth c H locs K.2.1 K.2.2.1 Q (F0 m pc arr st0) := by
  intro T hT X
  obtain ⟨v', st₀, t, T', L, h0, X', hL, e1, e2, ⟨hv, hP, hz, hk⟩, stp⟩ := hr T hT X
  cases hv
  rw [h0] at hz hk
  obtain ⟨t2, a1, b1⟩ := kk T'.heap (locs ++ L) ⟨by rw [e1]; exact hP, rp_wd_D D.2.1, D.2.2.1, ⟨Nat.le_trans D.2.2.2.1.1 (by rw [e1]; exact hz), fun q h1 h2 => by rw [e1, hk q (Nat.lt_of_lt_of_le h1 D.2.2.2.1.1) h2]; exact D.2.2.2.1.2.1 q h1 h2, fun q hq => by
      rcases List.mem_append.mp hq with z | z
      · exact D.2.2.2.1.2.2 q z
      · exact hL q z⟩, D.2.2.2.2⟩ T' rfl X'
  exact ⟨t2, stp t2 a1, b1⟩
theorem rp_callV {β : Type} {h' : β → Option Value × rp_S} {g : Option β} {F : β → Option α} {rm : Room} {mi' : rp_MI} {As rest st0 : List Value} {b idx : Nat} {vs0 : List (Option Value)} (hr : rp_R E (rp_mK E rm) mi' 0 vs0 [] σ h' g) (hb : rp_Cb mi' As.length) (hk : rp_Lk mi.1.cls idx mi') (hv : rp_Vi mi') (hc : rp_Rc E b mi'.1.cls)
    (hvs : rp_pad mi'.2.2.1 (rp_pos (.ref b :: As)) = vs0) (hln : (lg_sl (.ref b :: As)).length ≤ mi'.2.2.1) (hm : rp_rm K rm mi') (hst : st0 = As.reverse ++ .ref b :: rest) (hcat : (rest.map fun v => v.category).sum ≤ 8) (hd : decode mi.2.1 pc = .ok (.invokevirtual idx, 3))
    (k : ∀ x, g = some x → rp_R E K mi (pc + 3) vs ((h' x).1.toList ++ rest) (h' x).2 h (F x)) : rp_R E K mi pc vs st0 σ h (g.bind F) := by
  intro z ho p e s m args below meth c H locs arr G X D hl
  cases hg : g with
  | none => rw [hg] at ho; cases ho
  | some x =>
    rw [hg] at ho
    have hM := rp_met (av := .ref b :: As) hb.2.2.2 hr hvs hln hg
    obtain ⟨hm1, hm2, hm3, hm4, hm5⟩ := hm
    have ht := G.2.2.2.2.2.1
    have hPV : PreV s H mi'.1.cls b (rp_Pc E σ (.ref b :: As)) As := ⟨rp_blind _ _ _, hc σ s H locs D, fun U hU hW => rp_pre G D _ U hU hW⟩
    subst hst
    have hrun : va_Run p E.1 e K.1 s m args below meth c H locs K.2.1 K.2.2.1 0 0 (F0 m pc arr (As.reverse ++ .ref b :: rest)) rest (rp_Qc E (h' x).1 (h' x).2 (Value.ref b :: As).toArray) E.2.2.1 := by
      rcases hk with hk | ⟨host, hk⟩
      · exact va_runV (C := mi'.1.cls) (index := idx) ⟨G.1, G.2.1, G.2.2.2.1, G.2.2.2.2.1, ht⟩ hM ⟨callB_of As.length ht (rp_goodIn hb) rfl hm1 hm2 (ht _ hb.1) (ht _ hk) hb.2.2.1 hm3, ht _ hv.1, ht _ hv.2⟩ hPV rfl rfl hl.1 rfl (lv_room hcat) hd ⟨by omega, by omega⟩
      · exact va_runVN (C := mi'.1.cls) (index := idx) (host := host) ⟨G.1, G.2.1, G.2.2.2.1, G.2.2.2.2.1, ht⟩ hM ⟨va_cnB As.length ht (rp_goodIn hb) rfl hm1 hm2 (G.2.2.2.2.2.2.1 _ hk) (ht _ hb.1) hb.2.2.1 hm3, ht _ hv.1, ht _ hv.2⟩ hPV rfl rfl hl.1 rfl (lv_room hcat) hd ⟨by omega, by omega⟩
    exact rp_after D hrun (fun H1 locs1 D1 => k x hg z ho p e s m args below meth c H1 locs1 arr G X D1 hl)
theorem rp_callS {β : Type} {h' : β → Option Value × rp_S} {g : Option β} {F : β → Option α} {rm : Room} {mi' : rp_MI} {As rest st0 : List Value} {idx : Nat} {vs0 : List (Option Value)} (hr : rp_R E (rp_mK E rm) mi' 0 vs0 [] σ h' g) (hb : rp_Cb mi' As.length) (hk : rp_Lk mi.1.cls idx mi') (hv : rp_St mi')
    (hvs : rp_pad mi'.2.2.1 (rp_pos As) = vs0) (hln : (lg_sl As).length ≤ mi'.2.2.1) (hm : rp_rm K rm mi') (hst : st0 = As.reverse ++ rest) (hcat : (rest.map fun v => v.category).sum ≤ 8) (hd : decode mi.2.1 pc = .ok (.invokestatic idx, 3))
    (k : ∀ x, g = some x → rp_R E K mi (pc + 3) vs ((h' x).1.toList ++ rest) (h' x).2 h (F x)) : rp_R E K mi pc vs st0 σ h (g.bind F) := by
  intro z ho p e s m args below meth c H locs arr G X D hl
  cases hg : g with
  | none => rw [hg] at ho; cases ho
  | some x =>
    rw [hg] at ho
    have hM := rp_met (av := As) hb.2.2.2 hr hvs hln hg
    obtain ⟨hm1, hm2, hm3, hm4, hm5⟩ := hm
    have ht := G.2.2.2.2.2.1
    have hPS : PreS s H (rp_Pc E σ As) As := ⟨rp_blind _ _ _, fun U hU hW => rp_pre G D _ U hU hW⟩
    subst hst
    have hrun : va_Run p E.1 e K.1 s m args below meth c H locs K.2.1 K.2.2.1 0 0 (F0 m pc arr (As.reverse ++ rest)) rest (rp_Qc E (h' x).1 (h' x).2 As.toArray) E.2.2.1 := by
      rcases hk with hk | ⟨host, hk⟩
      · exact va_runS (index := idx) ⟨G.1, G.2.1, G.2.2.2.1, G.2.2.2.2.1, ht⟩ hM ⟨callB_of As.length ht (rp_goodIn hb) rfl hm1 hm2 (ht _ hb.1) (ht _ hk) hb.2.2.1 hm3, ht _ hv⟩ hPS rfl rfl hl.1 rfl (lv_room hcat) hd ⟨by omega, by omega⟩
      · exact va_runSN (index := idx) (host := host) ⟨G.1, G.2.1, G.2.2.2.1, G.2.2.2.2.1, ht⟩ hM ⟨va_cnB As.length ht (rp_goodIn hb) rfl hm1 hm2 (G.2.2.2.2.2.2.1 _ hk) (ht _ hb.1) hb.2.2.1 hm3, ht _ hv, trivial⟩ hPS rfl rfl hl.1 rfl (lv_room hcat) hd ⟨by omega, by omega⟩
    exact rp_after D hrun (fun H1 locs1 D1 => k x hg z ho p e s m args below meth c H1 locs1 arr G X D1 hl)
end RPC
/-! returns -/
section RPT
variable {α : Type} {E : rp_E} {R : Room} {mi : rp_MI} {pc : Nat} {vs : List (Option Value)} {σ : rp_S} {h : α → Option Value × rp_S} {a : α}
theorem rp_Wz {p : Program} {l : Launch} {e : Env} {R : Room} {s : State} {m : MethodId} {args : Array Value} {below : List Frame} {meth : Method} {c : Code} {H : Heap} {locs : List Loc} {cells slots : Nat} {cc : ByteArray} {Qc : Array Value → State → Outcome → State → Prop} {free : Addr → Prop} {v v' : Int32} {ty : FieldType} (hexec : p.tables.exec = Jvm.exec) (hb : c.code = cc) (hr : meth.sig.returnType = some ty) (hn : narrow ty (.int v) = .int v')
    (hq : ∀ t : State, t.heap = H → s.WarmedH t.vm → Qc args s (.returned (some (.int v'))) t) (hf : ∀ q ∈ locs, free q.base)
    {pc : Nat} {ls : Array Slot} (hdg : decode cc pc = .ok (.ireturn, 1)) (hlocks : meth.locks = false) : W p l e R s m args below meth c H locs cells slots (MQ below Qc args s cells slots free) (F0 m pc ls [.int v]) := by
  intro T hT X
  obtain ⟨fs, hret, hrun, hended, hW, hframe⟩ := X.leave (v := some (.int v')) (fun h => by rw [hr] at h; cases h)
  have hmeth' : T.vm.method? m = some meth := X.method'
  refine ⟨T.setFrames fs, ?_, .returned (some (.int v')), hrun, hended, hq _ hT hW, locs, ⟨⟨_, rfl⟩, hW, hframe⟩, hf⟩
  jvm_step X.here [X.here.top, hexec, hb, hdg, hmeth', hr, hn]
  (try refine ⟨rfl, ?_⟩); (try refine ⟨rfl, ?_⟩)
  first | (intro acts; rw [hret _ acts rfl rfl rfl]) | rw [hret _ _ rfl rfl rfl]
  exact Steps.refl _
theorem rp_zret {x x' : Int32} {ty : FieldType} (hr : mi.2.2.2 = some ty) (hn : narrow ty (.int x) = .int x') (ha : h a = (some (.int x'), σ)) (hd : decode mi.2.1 pc = .ok (.ireturn, 1)) : rp_R E (rp_mK E R) mi pc vs [.int x] σ h (some a) := by
  intro z ho p e s m args below meth c H locs arr G X D hl
  cases ho
  rw [ha]
  exact rp_Wz G.1 G.2.1 (G.2.2.1.trans hr) hn (fun t ht hW => ⟨rfl, by rw [ht]; exact D.1, D.2.2.2.1.F ht⟩) D.2.2.2.1.2.2 hd G.2.2.2.2.2.2.2
theorem rp_iret {x : Int32} (hr : mi.2.2.2 = some .int) (ha : h a = (some (.int x), σ)) (hd : decode mi.2.1 pc = .ok (.ireturn, 1)) : rp_R E (rp_mK E R) mi pc vs [.int x] σ h (some a) := rp_zret hr (vp_nar_int x) ha hd
theorem rp_vret (hr : mi.2.2.2 = none) (ha : h a = (none, σ)) (hd : decode mi.2.1 pc = .ok (.return_, 1)) : rp_R E (rp_mK E R) mi pc vs [] σ h (some a) := by
  intro z ho p e s m args below meth c H locs arr G X D hl
  cases ho
  rw [ha]
  exact W.vret G.1 G.2.1 (G.2.2.1.trans hr) (fun t ht hW => ⟨rfl, by rw [ht]; exact D.1, D.2.2.2.1.F ht⟩) D.2.2.2.1.2.2 hd G.2.2.2.2.2.2.2
theorem rp_lret {x : Int64} (hr : mi.2.2.2 = some .long) (ha : h a = (some (.long x), σ)) (hd : decode mi.2.1 pc = .ok (.lreturn, 1)) : rp_R E (rp_mK E R) mi pc vs [.long x] σ h (some a) := by
  intro z ho p e s m args below meth c H locs arr G X D hl
  cases ho
  rw [ha]
  exact W.lret G.1 G.2.1 (G.2.2.1.trans hr) (fun t ht hW => ⟨rfl, by rw [ht]; exact D.1, D.2.2.2.1.F ht⟩) D.2.2.2.1.2.2 hd G.2.2.2.2.2.2.2
theorem rp_aret {x : Nat} {C : String} (hr : mi.2.2.2 = some (.object C)) (ha : h a = (some (.ref x), σ)) (hd : decode mi.2.1 pc = .ok (.areturn, 1)) : rp_R E (rp_mK E R) mi pc vs [.ref x] σ h (some a) := by
  intro z ho p e s m args below meth c H locs arr G X D hl
  cases ho
  rw [ha]
  exact W.aret G.1 G.2.1 (G.2.2.1.trans hr) (Or.inl ⟨C, rfl⟩) (Or.inr ⟨x, rfl⟩) (fun t ht hW => ⟨rfl, by rw [ht]; exact D.1, D.2.2.2.1.F ht⟩) D.2.2.2.1.2.2 hd G.2.2.2.2.2.2.2
end RPT
/-- what a method's pure function stands for: an int, an int and cells, cells, a long, a long and cells, a cell, nothing -/
def rp_hi (σ : rp_S) : Int32 → Option Value × rp_S := fun x => (some (.int x), σ)
def rp_hI : Int32 × rp_S → Option Value × rp_S := fun x => (some (.int x.1), x.2)
def rp_hv : rp_S → Option Value × rp_S := fun x => (none, x)
def rp_hl (σ : rp_S) : Int64 → Option Value × rp_S := fun x => (some (.long x), σ)
def rp_hL : Int64 × rp_S → Option Value × rp_S := fun x => (some (.long x.1), x.2)
def rp_hr (E : rp_E) (σ : rp_S) : Nat → Option Value × rp_S := fun x => (some (.ref (E.2.2.2.1 x)), σ)
def rp_hu (σ : rp_S) : Unit → Option Value × rp_S := fun _ => (none, σ)
/-! the library's arithmetic, and its copy -/
section RPM
variable {α : Type} {E : rp_E} {K : rp_K} {mi : rp_MI} {pc : Nat} {vs : List (Option Value)} {st : List Value} {σ : rp_S} {h : α → Option Value × rp_S} {o : Option α}
def rq_max (x y : Int32) : Int32 := if x < y then y else x
def rq_min (x y : Int32) : Int32 := if y < x then y else x
def rq_abs (x : Int32) : Int32 := if 0 ≤ x then x else 0 - x
def rp_Ml (K : rp_K) (st : List Value) : Prop := 1 ≤ K.1.frames ∧ (st.map fun v => v.category).sum + 13 ≤ K.1.locals ∧ K.2.1 ≤ K.1.cells ∧ K.2.2.1 ≤ K.1.slots
def rp_Mw (own : String) (idx : Nat) (y : MethodName) (cc : ByteArray) (n : Nat) : Prop := Cond.methodLink own idx y ∈ rp_TG ∧ Cond.static y ∈ rp_TG ∧ Cond.initialized "java/lang/Math" ∈ rp_TG ∧ Cond.code y cc n (some .int) ∈ rp_TG
theorem rp_mmax {x y : Int32} {idx : Nat} (w : rp_Mw mi.1.cls idx Lib.Math.max.name Lib.Math.max.code 2) (hm : rp_Ml K st) (hd : decode mi.2.1 pc = .ok (.invokestatic idx, 3)) (k : rp_R E K mi (pc + 3) vs (.int (rq_max x y) :: st) σ h o) : rp_R E K mi pc vs (.int y :: .int x :: st) σ h o := fun a ho p e s m args below meth c H locs arr G X D hl => va_mmax G.1 G.2.1 (G.2.2.2.1.trans hl.1.symm) G.2.2.2.2.1 (G.2.2.2.2.2.1 _ w.1) (G.2.2.2.2.2.1 _ w.2.1) (G.2.2.2.2.2.1 _ w.2.2.1) (G.2.2.2.2.2.1 _ w.2.2.2) hm.1 hm.2.1 hm.2.2.1 hm.2.2.2 hd (k a ho p e s m args below meth c H locs arr G X D hl)
theorem rp_mmin {x y : Int32} {idx : Nat} (w : rp_Mw mi.1.cls idx Lib.Math.min.name Lib.Math.min.code 2) (hm : rp_Ml K st) (hd : decode mi.2.1 pc = .ok (.invokestatic idx, 3)) (k : rp_R E K mi (pc + 3) vs (.int (rq_min x y) :: st) σ h o) : rp_R E K mi pc vs (.int y :: .int x :: st) σ h o := fun a ho p e s m args below meth c H locs arr G X D hl => va_mmin G.1 G.2.1 (G.2.2.2.1.trans hl.1.symm) G.2.2.2.2.1 (G.2.2.2.2.2.1 _ w.1) (G.2.2.2.2.2.1 _ w.2.1) (G.2.2.2.2.2.1 _ w.2.2.1) (G.2.2.2.2.2.1 _ w.2.2.2) hm.1 hm.2.1 hm.2.2.1 hm.2.2.2 hd (k a ho p e s m args below meth c H locs arr G X D hl)
theorem rp_mabs {x : Int32} {idx : Nat} (w : rp_Mw mi.1.cls idx Lib.Math.abs.name Lib.Math.abs.code 1) (hm : rp_Ml K st) (hd : decode mi.2.1 pc = .ok (.invokestatic idx, 3)) (k : rp_R E K mi (pc + 3) vs (.int (rq_abs x) :: st) σ h o) : rp_R E K mi pc vs (.int x :: st) σ h o := fun a ho p e s m args below meth c H locs arr G X D hl => va_mabs G.1 G.2.1 (G.2.2.2.1.trans hl.1.symm) G.2.2.2.2.1 (G.2.2.2.2.2.1 _ w.1) (G.2.2.2.2.2.1 _ w.2.1) (G.2.2.2.2.2.1 _ w.2.2.1) (G.2.2.2.2.2.1 _ w.2.2.2) hm.1 hm.2.1 hm.2.2.1 hm.2.2.2 hd (k a ho p e s m args below meth c H locs arr G X D hl)
def rp_Cw (own : String) (idx : Nat) : Prop := Cond.methodLink own idx arraycopyName ∈ rp_TG ∧ Cond.native arraycopyName ∈ rp_TG ∧ Cond.static arraycopyName ∈ rp_TG ∧ Cond.initialized "java/lang/System" ∈ rp_TG
theorem rp_copy {a b n na nb idx : Nat} {x : Int32} (w : rp_Cw mi.1.cls idx) (ha : rp_sh[a]? = some (.inr (0, na))) (hb : rp_sh[b]? = some (.inr (0, nb))) (hx : x.toInt = n) (h1 : n ≤ na) (h2 : n ≤ nb) (hm : 1 ≤ K.1.frames ∧ (st.map fun v => v.category).sum + (nativeFrameWords "java/lang/System" "arraycopy" 5 + 11) ≤ K.1.locals) (hd : decode mi.2.1 pc = .ok (.invokestatic idx, 3)) (k : rp_R E K mi (pc + 3) vs st (rp_cp σ a b n) h o) :
    rp_R E K mi pc vs (.int x :: .int (Int32.ofInt 0) :: .ref (E.2.2.2.1 b) :: .int (Int32.ofInt 0) :: .ref (E.2.2.2.1 a) :: st) σ h o := by
  intro z ho p e s m args below meth c H locs arr G X D hl
  have hea : (rp_wd E σ)[a]? = some (E.2.2.2.1 a, .inl (E.2.2.2.2.1 0, na, .inl (σ a))) := rp_at ha
  have heb : (rp_wd E σ)[b]? = some (E.2.2.2.1 b, .inl (E.2.2.2.2.1 0, nb, .inl (σ b))) := rp_at hb
  have hn : x.toNatClampNeg = n := by show x.toInt.toNat = n; omega
  have h0 : (Int32.ofInt 0).toNatClampNeg = 0 := by decide
  refine va_copyi G.1 G.2.1 (G.2.2.2.1.trans hl.1.symm) G.2.2.2.2.1 (G.2.2.2.2.2.1 _ w.1) (G.2.2.2.2.2.1 _ w.2.1) (G.2.2.2.2.2.1 _ w.2.2.1) (G.2.2.2.2.2.1 _ w.2.2.2) D.2.2.1 D.1 D.2.1 D.2.2.2.1 a b 0 0 (ty := .int) hea heb rfl rfl rfl (by decide) (by decide) ?_ (by rw [h0, hn]; omega) (by rw [h0, hn]; omega) (fun i _ => rfl) hm.1 hm.2 hd (fun H1 locs1 hP hD hS => ?_)
  · rw [Int32.lt_iff_toInt_lt, hx, Int32.toInt_zero]; omega
  · rw [h0, hn] at hP hD
    have hset : (rp_wd E σ).set b (E.2.2.2.1 b, .inl (E.2.2.2.2.1 0, nb, .inl (va_cpy (σ a) (σ b) 0 0 n))) = rp_wd E (rp_cp σ a b n) := by
      have e1 : va_cpy (σ a) (σ b) 0 0 n = fun j => if j < n then σ a j else σ b j := by
        funext j
        simp [va_cpy]
      rw [e1]
      exact rp_set hb rfl
    rw [hset] at hP hD
    exact k z ho p e s m args below meth c H1 locs1 arr G X ⟨hP, hD, D.2.2.1, hS, D.2.2.2.2⟩ hl
end RPM
