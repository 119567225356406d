/-! THE FRAME: one world for every method; a method's walk against a pure function of its cells -/
abbrev rp_S : Type := Nat → Nat → Int32
/-- launch, class places, what may change, addresses, array classes (0 int, 1 byte, 2 boolean), addresses outside, the formatter -/
abbrev rp_E : Type := Launch × va_G × (Nat → Prop) × (Nat → Nat) × (Nat → ClassId) × (Nat → Nat) × Option Nat
def rp_fm (o : Option Nat) : Value := match o with
  | none => .null
  | some a => .ref a
/-- a method: its name, code, locals, answer -/
abbrev rp_MI : Type := MethodName × ByteArray × Nat × Option FieldType
/-- room, cells, slots, the end, what else is known -/
abbrev rp_K : Type := Room × Nat × Nat × (Option Value → rp_S → State → Array Value → List Frame → State → Prop) × (State → Array Value → Prop)
def rp_fv (ad : Nat → Nat) (f : Nat → Int32) : Nat → List (Option Nat) → List Value
  | _, [] => []
  | k, none :: r => .int (f k) :: rp_fv ad f (k + 1) r
  | k, some b :: r => .ref (ad b) :: rp_fv ad f (k + 1) r
def rp_en1 (E : rp_E) (f : Nat → Int32) (c : rp_C) : va_E := match c with
  | .inl (ci, fds) => .inr (ci, rp_fv E.2.2.2.1 f 0 fds)
  | .inr (t, n) => .inl (E.2.2.2.2.1 t, n, .inl f)
def rp_en (E : rp_E) (a : Nat) (f : Nat → Int32) : va_E := rp_en1 E f (rp_sh.getD a (.inr (0, 0)))
def rp_wd (E : rp_E) (σ : rp_S) : va_W := (List.range rp_sh.length).map (fun a => (E.2.2.2.1 a, rp_en E a (σ a)))
def rp_ty (E : rp_E) : List (ClassId × FieldType) := [(E.2.2.2.2.1 0, .int), (E.2.2.2.2.1 1, .byte), (E.2.2.2.2.1 2, .boolean)]
def rp_up (σ : rp_S) (a k : Nat) (v : Int32) : rp_S := fun b => if b = a then (fun j => if j = k then v else σ a j) else σ b
def rp_cp (σ : rp_S) (a b n : Nat) : rp_S := fun c => if c = b then (fun j => if j < n then σ a j else σ b j) else σ c
theorem rp_fv_at (ad : Nat → Nat) (f : Nat → Int32) : ∀ (fds : List (Option Nat)) (k0 k : Nat), (rp_fv ad f k0 fds)[k]? = fds[k]?.map (fun o => match o with | none => .int (f (k0 + k)) | some b => .ref (ad b)) := by
  intro fds
  induction fds with
  | nil => intro k0 k; simp [rp_fv]
  | cons o r ih =>
    intro k0 k
    cases k with
    | zero => cases o <;> simp [rp_fv]
    | succ k =>
      have e : k0 + 1 + k = k0 + (k + 1) := by omega
      cases o <;> simp [rp_fv, ih, e]
theorem rp_fv_len (ad : Nat → Nat) (f : Nat → Int32) : ∀ (fds : List (Option Nat)) (k0 : Nat), (rp_fv ad f k0 fds).length = fds.length := by
  intro fds
  induction fds with
  | nil => intro k0; rfl
  | cons o r ih => intro k0; cases o <;> simp [rp_fv, ih]
theorem rp_fv_set (ad : Nat → Nat) (f : Nat → Int32) (fds : List (Option Nat)) (k : Nat) (v : Int32) (h : fds[k]? = some none) : (rp_fv ad f 0 fds).set k (.int v) = rp_fv ad (fun j => if j = k then v else f j) 0 fds := by
  apply List.ext_getElem?
  intro j
  rw [List.getElem?_set, rp_fv_at, rp_fv_at, rp_fv_len]
  by_cases hj : k = j
  · subst hj
    obtain ⟨hl, hg⟩ := List.getElem?_eq_some_iff.mp h
    simp [hl, hg]
  · rw [if_neg hj]
    cases hq : fds[j]? with
    | none => rfl
    | some o =>
      cases o with
      | none =>
        have : ¬ j = k := fun q => hj q.symm
        simp [this]
      | some b => rfl
theorem rp_at {E : rp_E} {σ : rp_S} {a : Nat} {c : rp_C} (h : rp_sh[a]? = some c) : (rp_wd E σ)[a]? = some (E.2.2.2.1 a, rp_en1 E (σ a) c) := by
  obtain ⟨hl, hg⟩ := List.getElem?_eq_some_iff.mp h
  have hd : rp_sh.getD a (.inr (0, 0)) = c := by rw [List.getD_eq_getElem?_getD, h]; rfl
  simp [rp_wd, rp_en, hl, hg]
theorem rp_set {E : rp_E} {σ : rp_S} {a : Nat} {c : rp_C} {g : Nat → Int32} (h : rp_sh[a]? = some c) {e : va_E} (he : e = rp_en1 E g c) : (rp_wd E σ).set a (E.2.2.2.1 a, e) = rp_wd E (fun b => if b = a then g else σ b) := by
  obtain ⟨hl, hg⟩ := List.getElem?_eq_some_iff.mp h
  apply List.ext_getElem?
  intro j
  rw [List.getElem?_set]
  by_cases hj : a = j
  · subst hj
    simp [rp_wd, rp_en, hl, hg, he]
  · have hj' : ¬ j = a := fun q => hj q.symm
    rw [if_neg hj]
    by_cases hjl : j < rp_sh.length
    · simp [rp_wd, hjl, hj']
    · simp [rp_wd, hjl]
def rp_Xt (E : rp_E) (U : State) (H : Heap) : Prop :=
  (∀ i : Nat, i < 3 → va_Z "RocketPrint" (rp_tn i) "[I" (.ref (E.2.2.2.2.2.1 i)) E.2.2.1 U H ∧ va_T .int (E.2.2.2.2.2.1 i) (rp_tab i).length (fun j => .int ((rp_tab i).getD j 0)) E.2.2.1 U H) ∧
  vk_S 7 rp_sl rp_sb (fun i => E.2.2.2.2.2.1 (10 + i)) (fun i => E.2.2.2.2.2.1 (20 + i)) E.2.2.1 U H ∧
  (∀ i : Nat, i < 7 → vk_R "RocketPrint$Tape" (rp_si i) (rp_sx i) (E.2.2.2.2.2.1 (10 + i)) U) ∧
  va_Z "java/lang/String" "COMPACT_STRINGS" "Z" (.int 1) E.2.2.1 U H ∧ va_Z "jdk/internal/util/Preconditions" "SIOOBE_FORMATTER" "Ljava/util/function/BiFunction;" (rp_fm E.2.2.2.2.2.2) E.2.2.1 U H
theorem rp_Xt.warm {E : rp_E} {s U : State} {H : Heap} (hW : s.WarmedH U.vm) (h : rp_Xt E s H) : rp_Xt E U H :=
  ⟨fun i hi => ⟨(h.1 i hi).1.moved hW.alike, (h.1 i hi).2.moved hW.alike⟩, h.2.1.moved hW.alike, fun i hi => (h.2.2.1 i hi).warm hW, h.2.2.2.1.moved hW.alike, h.2.2.2.2.moved hW.alike⟩
theorem rp_Xt.same {E : rp_E} {s U : State} {H : Heap} (hv : U.vm = s.vm) (h : rp_Xt E s H) : rp_Xt E U H := by
  have ha : s.vm.Alike U.vm := by rw [hv]; exact Vm.Alike.refl _
  exact ⟨fun i hi => ⟨(h.1 i hi).1.moved ha, (h.1 i hi).2.moved ha⟩, h.2.1.moved ha, fun i hi => (h.2.2.1 i hi).same hv, h.2.2.2.1.moved ha, h.2.2.2.2.moved ha⟩
theorem rp_Xt.kept {E : rp_E} {U : State} {H H1 : Heap} (h : rp_Xt E U H) (hq : ∀ a : Nat, a < H.size → ¬ E.2.2.1 a → H1[a]? = H[a]?) : rp_Xt E U H1 :=
  ⟨fun i hi => ⟨(h.1 i hi).1.kept hq, (h.1 i hi).2.kept hq⟩, h.2.1.kept hq, h.2.2.1, h.2.2.2.1.kept hq, h.2.2.2.2.kept hq⟩
def rp_Wd (E : rp_E) (σ : rp_S) (s : State) (H : Heap) (locs : List Loc) : Prop := va_P E.2.1 vwCl (rp_wd E σ) H ∧ va_D E.2.2.1 (rp_wd E σ) ∧ va_K E.2.1 vwCl (rp_ty E) s ∧ va_S E.2.2.1 s.heap H locs ∧ rp_Xt E s s.heap
/-- the good words, and the words on nest mates -/
def rp_TG : List Cond := lw_tbl.filter goodWord
def rp_isN : Cond → Bool
  | .fieldLinkNest .. => true
  | .methodLinkNest .. => true
  | _ => false
def rp_NW : List Cond := tables_1.filter rp_isN
def rp_Gd (mi : rp_MI) (p : Program) (s : State) (m : MethodId) (args : Array Value) (meth : Method) (c : Code) : Prop :=
  p.tables.exec = Jvm.exec ∧ c.code = mi.2.1 ∧ meth.sig.returnType = mi.2.2.2 ∧ c.maxLocals = mi.2.2.1 ∧ s.vm.findClass mi.1.cls = some m.cls ∧ (∀ w ∈ rp_TG, w.before args s = true) ∧ (∀ w ∈ rp_NW, va_Nw w s) ∧ meth.locks = false
/-- the locals, by places -/
def rp_L (arr : Array Slot) (n : Nat) (vs : List (Option Value)) : Prop := arr.size = n ∧ lv_wf arr ∧ vs.length = n ∧ ∀ (i : Nat) (v : Value), vs[i]? = some (some v) → arr[i]? = some (.val v)
def rp_R {α : Type} (E : rp_E) (K : rp_K) (mi : rp_MI) (pc : Nat) (vs : List (Option Value)) (st : List Value) (σ : rp_S) (h : α → Option Value × rp_S) (o : Option α) : Prop :=
  ∀ a : α, o = some a → ∀ (p : Program) (e : Env) (s : State) (m : MethodId) (args : Array Value) (below : List Frame) (meth : Method) (c : Code) (H : Heap) (locs : List Loc) (arr : Array Slot), rp_Gd mi p s m args meth c → K.2.2.2.2 s args → rp_Wd E σ s H locs → rp_L arr mi.2.2.1 vs →
    W p E.1 e K.1 s m args below meth c H locs K.2.1 K.2.2.1 (K.2.2.2.1 (h a).1 (h a).2 s args below) (F0 m pc arr st)
theorem rp_none {α : Type} {E : rp_E} {K : rp_K} {mi : rp_MI} {pc : Nat} {vs : List (Option Value)} {st : List Value} {σ : rp_S} {h : α → Option Value × rp_S} : rp_R E K mi pc vs st σ h none := fun _ ho => by cases ho
def rp_c1 (vs : List (Option Value)) (i : Nat) : Bool := match i with
  | 0 => true
  | j + 1 => match vs[j]? with
    | some (some (.long _)) => false
    | some (some (.double _)) => false
    | _ => true
/-- fewer locals -/
def rp_le : List (Option Value) → List (Option Value) → Prop
  | [], [] => True
  | none :: r, _ :: t => rp_le r t
  | some v :: r, some w :: t => v = w ∧ rp_le r t
  | _, _ => False
theorem rp_le_at : ∀ (xs ys : List (Option Value)), rp_le xs ys → xs.length = ys.length ∧ ∀ (i : Nat) (v : Value), xs[i]? = some (some v) → ys[i]? = some (some v) := by
  intro xs
  induction xs with
  | nil => intro ys h; cases ys with | nil => exact ⟨rfl, fun i v q => by simp at q⟩ | cons b t => exact absurd h (by simp [rp_le])
  | cons a r ih =>
    intro ys h
    cases ys with
    | nil => cases a <;> exact absurd h (by simp [rp_le])
    | cons b t =>
      cases a with
      | none =>
        obtain ⟨e1, e2⟩ := ih t (by simpa [rp_le] using h)
        refine ⟨by simp [e1], fun i v q => ?_⟩
        cases i with
        | zero => simp at q
        | succ i => simpa using e2 i v (by simpa using q)
      | some v0 =>
        cases b with
        | none => exact absurd h (by simp [rp_le])
        | some w0 =>
          obtain ⟨h1, h2⟩ : v0 = w0 ∧ rp_le r t := by simpa [rp_le] using h
          obtain ⟨e1, e2⟩ := ih t h2
          refine ⟨by simp [e1], fun i v q => ?_⟩
          cases i with
          | zero => simpa [h1] using q
          | succ i => simpa using e2 i v (by simpa using q)
def rp_ls : Nat → List (Option Value) → List (Nat × Value)
  | _, [] => []
  | i, none :: r => rp_ls (i + 1) r
  | i, some v :: r => (i, v) :: rp_ls (i + 1) r
theorem rp_ls_mem : ∀ (vs : List (Option Value)) (k i : Nat) (v : Value), (i, v) ∈ rp_ls k vs ↔ ∃ j, i = k + j ∧ vs[j]? = some (some v) := by
  intro vs
  induction vs with
  | nil => intro k i v; simp [rp_ls]
  | cons a r ih =>
    intro k i v
    cases a with
    | none =>
      rw [rp_ls, ih]
      constructor
      · rintro ⟨j, h1, h2⟩; exact ⟨j + 1, by omega, by simpa using h2⟩
      · rintro ⟨j, h1, h2⟩
        cases j with
        | zero => simp at h2
        | succ j => exact ⟨j, by omega, by simpa using h2⟩
    | some w =>
      rw [rp_ls, List.mem_cons, ih]
      constructor
      · rintro (h | ⟨j, h1, h2⟩)
        · cases h; exact ⟨0, by omega, by simp⟩
        · exact ⟨j + 1, by omega, by simpa using h2⟩
      · rintro ⟨j, h1, h2⟩
        cases j with
        | zero => left; simp at h2; rw [h2, h1]; rfl
        | succ j => right; exact ⟨j, by omega, by simpa using h2⟩
theorem rp_L.has {arr : Array Slot} {n : Nat} {vs : List (Option Value)} (h : rp_L arr n vs) : lv_has arr n (rp_ls 0 vs) := by
  refine ⟨h.1, h.2.1, fun q hq => ?_⟩
  obtain ⟨j, h1, h2⟩ := (rp_ls_mem vs 0 q.1 q.2).mp hq
  have : q.1 = j := by omega
  rw [this]
  exact h.2.2.2 j q.2 h2
theorem rp_c1_ok {vs : List (Option Value)} {i j : Nat} {w : Value} (h : rp_c1 vs i = true) (hj : j + 1 = i) (hw : vs[j]? = some (some w)) : ¬ w.category = 2 := by
  subst hj
  simp only [rp_c1, hw] at h
  cases w <;> simp_all [Value.category]
theorem rp_L.st1 {arr : Array Slot} {n i : Nat} {vs : List (Option Value)} {v : Value} (hv : vs.length = n) (hc : rp_c1 vs i = true) (hi : i < n) (h : lv_has arr n ((i, v) :: (rp_ls 0 vs).filter (fun q => !(q.1 == i) && !(q.1 + 1 == i && q.2.category == 2)))) : rp_L arr n (vs.set i (some v)) := by
  refine ⟨h.1, h.2.1, by simp [hv], fun j w hw => ?_⟩
  rw [List.getElem?_set] at hw
  by_cases hj : i = j
  · subst hj
    rw [if_pos rfl, if_pos (by omega)] at hw
    cases hw
    exact h.2.2 _ List.mem_cons_self
  · rw [if_neg hj] at hw
    refine h.2.2 (j, w) (List.mem_cons_of_mem _ (List.mem_filter.mpr ⟨(rp_ls_mem vs 0 j w).mpr ⟨j, by omega, hw⟩, ?_⟩))
    have hj' : ¬ j = i := fun q => hj q.symm
    by_cases h1 : j + 1 = i
    · have := rp_c1_ok hc h1 hw
      simp [hj', this]
    · simp [hj', h1]
theorem rp_L.st2 {arr : Array Slot} {n i : Nat} {vs : List (Option Value)} {v : Value} (hv : vs.length = n) (hc : rp_c1 vs i = true) (hi : i + 1 < n) (h : lv_has arr n ((i, v) :: (rp_ls 0 vs).filter (fun q => !(q.1 == i) && (!(q.1 == i + 1) && !(q.1 + 1 == i && q.2.category == 2))))) : rp_L arr n ((vs.set i (some v)).set (i + 1) none) := by
  refine ⟨h.1, h.2.1, by simp [hv], fun j w hw => ?_⟩
  rw [List.getElem?_set, List.getElem?_set] at hw
  by_cases hj1 : i + 1 = j
  · rw [if_pos hj1, if_pos (by simp; omega)] at hw
    cases hw
  · rw [if_neg hj1] at hw
    by_cases hj : i = j
    · subst hj
      rw [if_pos rfl, if_pos (by omega)] at hw
      cases hw
      exact h.2.2 _ List.mem_cons_self
    · rw [if_neg hj] at hw
      refine h.2.2 (j, w) (List.mem_cons_of_mem _ (List.mem_filter.mpr ⟨(rp_ls_mem vs 0 j w).mpr ⟨j, by omega, hw⟩, ?_⟩))
      have hj' : ¬ j = i := fun q => hj q.symm
      have hj1' : ¬ j = i + 1 := fun q => hj1 q.symm
      by_cases h1 : j + 1 = i
      · have := rp_c1_ok hc h1 hw
        simp [hj', hj1', this]
      · simp [hj', hj1', h1]
