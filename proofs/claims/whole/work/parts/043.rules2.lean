/-- a class of the world, by its number: its field words stand, its field types -/
def rp_Cf (q : vw_C) : Prop := (∀ w ∈ u_ws q.1 q.2.1 q.2.2, w ∈ rp_TG) ∧ (∃ ty0 : Nat → FieldType, ∀ k, k < q.2.2 → parseFieldDescriptor (q.2.1 k).2.2.1 = some (ty0 k)) ∧ ∀ a, a < q.2.2 → ∀ b, b < q.2.2 → a ≠ b → (q.2.1 a).2.1 ≠ (q.2.1 b).2.1
/-- a field's link -/
def rp_Fd (own : String) (idx ci k : Nat) : Prop := ∃ q : vw_C, vwCl[ci]? = some q ∧ rp_Cf q ∧ k < q.2.2 ∧ (Cond.fieldLink own idx (q.2.1 k).1 (q.2.1 k).2.1 (q.2.1 k).2.2.1 ∈ rp_TG ∨ ∃ host, Cond.fieldLinkNest own idx (q.2.1 k).1 (q.2.1 k).2.1 (q.2.1 k).2.2.1 host ∈ rp_NW)
def rp_Fp (own : String) (idx ci k : Nat) (ty : FieldType) : Prop := rp_Fd own idx ci k ∧ ∃ q : vw_C, vwCl[ci]? = some q ∧ (q.2.1 k).2.2.2 = false ∧ parseFieldDescriptor (q.2.1 k).2.2.1 = some ty
theorem rp_wd_D {E : rp_E} {A : Nat → Prop} {σ τ : rp_S} (h : va_D A (rp_wd E σ)) : va_D A (rp_wd E τ) := by
  have at1 : ∀ (σ : rp_S) (i : Nat) (p : Nat × va_E), (rp_wd E σ)[i]? = some p → i < rp_sh.length ∧ p.1 = E.2.2.2.1 i := by
    intro σ i p hp
    by_cases hi : i < rp_sh.length
    · refine ⟨hi, ?_⟩
      simp [rp_wd, hi] at hp
      rw [← hp]
    · simp [rp_wd, hi] at hp
  have at2 : ∀ (σ : rp_S) (i : Nat), i < rp_sh.length → ∃ p, (rp_wd E σ)[i]? = some p ∧ p.1 = E.2.2.2.1 i := by
    intro σ i hi
    exact ⟨(E.2.2.2.1 i, rp_en E i (σ i)), by simp [rp_wd, hi], rfl⟩
  refine ⟨fun i j p q hp hq e => ?_, fun k q hq => ?_⟩
  · obtain ⟨i1, i2⟩ := at1 τ i p hp
    obtain ⟨j1, j2⟩ := at1 τ j q hq
    obtain ⟨p', hp', ep⟩ := at2 σ i i1
    obtain ⟨q', hq', eq'⟩ := at2 σ j j1
    exact h.1 i j p' q' hp' hq' (by rw [ep, eq', ← i2, ← j2]; exact e)
  · obtain ⟨k1, k2⟩ := at1 τ k q hq
    obtain ⟨p', hp', ep⟩ := at2 σ k k1
    rw [k2, ← ep]
    exact h.2 k p' hp'
section RPW
variable {α : Type} {E : rp_E} {K : rp_K} {mi : rp_MI} {pc : Nat} {vs : List (Option Value)} {st : List Value} {σ : rp_S} {h : α → Option Value × rp_S} {o : Option α}
theorem rp_getV {a ci k idx : Nat} {fds : List (Option Nat)} {v : Value} (hsh : rp_sh[a]? = some (.inl (ci, fds))) (F : rp_Fd mi.1.cls idx ci k) (hv : (rp_fv E.2.2.2.1 (σ a) 0 fds)[k]? = some v) (hd : decode mi.2.1 pc = .ok (.getfield idx, 3)) (kk : rp_R E K mi (pc + 3) vs (v :: st) σ h o) : rp_R E K mi pc vs (.ref (E.2.2.2.1 a) :: st) σ h o := by
  intro x ho p e s m args below meth c H locs arr G X D hl
  obtain ⟨q, hq, ⟨c1, c2, c3⟩, hk, hlk⟩ := F
  have he : (rp_wd E σ)[a]? = some (E.2.2.2.1 a, .inr (ci, rp_fv E.2.2.2.1 (σ a) 0 fds)) := rp_at hsh
  rcases hlk with hlk | ⟨host, hlk⟩
  · exact va_get (D := E.2.1) (cl := vwCl) (C := q.1) (T := q.2.1) (N := q.2.2) G.1 G.2.1 G.2.2.2.2.2.1 c1 G.2.2.2.2.1 D.2.2.1 D.1 a he hq k hk (G.2.2.2.2.2.1 _ hlk) (fun _ z => z) hv hd (kk x ho p e s m args below meth c H locs arr G X D hl)
  · exact va_getN (D := E.2.1) (cl := vwCl) (C := q.1) (T := q.2.1) (N := q.2.2) G.1 G.2.1 G.2.2.2.2.2.1 c1 G.2.2.2.2.1 D.2.2.1 D.1 a he hq k hk (va_Nw.use rfl (G.2.2.2.2.2.2.1 _ hlk)) (fun _ z => z) hv hd (kk x ho p e s m args below meth c H locs arr G X D hl)
theorem rp_getI {a ci k idx : Nat} {fds : List (Option Nat)} (hsh : rp_sh[a]? = some (.inl (ci, fds))) (hk : fds[k]? = some none) (F : rp_Fd mi.1.cls idx ci k) (hd : decode mi.2.1 pc = .ok (.getfield idx, 3)) (kk : rp_R E K mi (pc + 3) vs (.int (σ a k) :: st) σ h o) : rp_R E K mi pc vs (.ref (E.2.2.2.1 a) :: st) σ h o :=
  rp_getV hsh F (by rw [rp_fv_at, hk, Nat.zero_add]; rfl) hd kk
theorem rp_getR {a ci k idx b : Nat} {fds : List (Option Nat)} (hsh : rp_sh[a]? = some (.inl (ci, fds))) (hk : fds[k]? = some (some b)) (F : rp_Fd mi.1.cls idx ci k) (hd : decode mi.2.1 pc = .ok (.getfield idx, 3)) (kk : rp_R E K mi (pc + 3) vs (.ref (E.2.2.2.1 b) :: st) σ h o) : rp_R E K mi pc vs (.ref (E.2.2.2.1 a) :: st) σ h o :=
  rp_getV hsh F (by rw [rp_fv_at, hk]; rfl) hd kk
theorem rp_putI {a ci k idx : Nat} {fds : List (Option Nat)} {x : Int32} {ty : FieldType} (hsh : rp_sh[a]? = some (.inl (ci, fds))) (hk : fds[k]? = some none) (F : rp_Fp mi.1.cls idx ci k ty) (hn : narrow ty (.int x) = .int x) (hf : fits ty (.int x) = true) (hd : decode mi.2.1 pc = .ok (.putfield idx, 3)) (kk : rp_R E K mi (pc + 3) vs st (rp_up σ a k x) h o) : rp_R E K mi pc vs (.int x :: .ref (E.2.2.2.1 a) :: st) σ h o := by
  intro z ho p e s m args below meth c H locs arr G X D hl
  obtain ⟨⟨q, hq, ⟨c1, ⟨ty0, c2⟩, c3⟩, hk2, hlk⟩, q2, hq2, hfin, hty⟩ := F
  cases hq.symm.trans hq2
  have he : (rp_wd E σ)[a]? = some (E.2.2.2.1 a, .inr (ci, rp_fv E.2.2.2.1 (σ a) 0 fds)) := rp_at hsh
  have hl2 : k < (rp_fv E.2.2.2.1 (σ a) 0 fds).length := by rw [rp_fv_len]; exact (List.getElem?_eq_some_iff.mp hk).1
  have hset : (rp_wd E σ).set a (E.2.2.2.1 a, .inr (ci, (rp_fv E.2.2.2.1 (σ a) 0 fds).set k (.int x))) = rp_wd E (rp_up σ a k x) := by
    rw [rp_fv_set _ _ _ _ _ hk]
    exact rp_set hsh rfl
  rcases hlk with hlk | ⟨host, hlk⟩
  · refine va_put (D := E.2.1) (cl := vwCl) (C := q.1) (T := q.2.1) (N := q.2.2) (ty := ty) G.1 G.2.1 G.2.2.2.2.2.1 c1 ty0 c2 c3 G.2.2.2.2.1 D.2.2.1 D.1 D.2.1 D.2.2.2.1 a he hq k hk2 (G.2.2.2.2.2.1 _ hlk) (fun _ z => z) hfin hty hn hf hl2 hd (fun H1 locs1 hP hD hS => ?_)
    rw [hset] at hP hD
    exact kk z ho p e s m args below meth c H1 locs1 arr G X ⟨hP, hD, D.2.2.1, hS, D.2.2.2.2⟩ hl
  · refine va_putN (D := E.2.1) (cl := vwCl) (C := q.1) (T := q.2.1) (N := q.2.2) (ty := ty) G.1 G.2.1 G.2.2.2.2.2.1 c1 ty0 c2 c3 G.2.2.2.2.1 D.2.2.1 D.1 D.2.1 D.2.2.2.1 a he hq k hk2 (va_Nw.use rfl (G.2.2.2.2.2.2.1 _ hlk)) (fun _ z => z) hfin hty hn hf hl2 hd (fun H1 locs1 hP hD hS => ?_)
    rw [hset] at hP hD
    exact kk z ho p e s m args below meth c H1 locs1 arr G X ⟨hP, hD, D.2.2.1, hS, D.2.2.2.2⟩ hl
/-! arrays -/
def rq_rd (σ : rp_S) (a n : Nat) (i : Int32) : Option Int32 := if 0 ≤ i.toInt ∧ i.toInt < n then some (σ a i.toInt.toNat) else none
def rq_wr (σ : rp_S) (a n : Nat) (i x : Int32) : Option rp_S := if 0 ≤ i.toInt ∧ i.toInt < n then some (rp_up σ a i.toInt.toNat x) else none
theorem rp_iaload {a n : Nat} {i : Int32} {F : Int32 → Option α} (hsh : rp_sh[a]? = some (.inr (0, n))) (hd : decode mi.2.1 pc = .ok (.iaload, 1)) (k : ∀ x, rp_R E K mi (pc + 1) vs (.int x :: st) σ h (F x)) : rp_R E K mi pc vs (.int i :: .ref (E.2.2.2.1 a) :: st) σ h ((rq_rd σ a n i).bind F) := by
  intro z ho p e s m args below meth c H locs arr G X D hl
  unfold rq_rd at ho
  by_cases hi : 0 ≤ i.toInt ∧ i.toInt < n
  · rw [if_pos hi] at ho
    have he : (rp_wd E σ)[a]? = some (E.2.2.2.1 a, .inl (E.2.2.2.2.1 0, n, .inl (σ a))) := rp_at hsh
    exact va_iald G.1 G.2.1 D.2.2.1 D.1 a 0 he rfl (vp_in_iff.mpr hi) hd (k _ z ho p e s m args below meth c H locs arr G X D hl)
  · rw [if_neg hi] at ho; cases ho
theorem rp_baloadB {a n : Nat} {i : Int32} {F : Int32 → Option α} (hsh : rp_sh[a]? = some (.inr (1, n))) (hd : decode mi.2.1 pc = .ok (.baload, 1)) (k : ∀ x, rp_R E K mi (pc + 1) vs (.int x :: st) σ h (F x)) : rp_R E K mi pc vs (.int i :: .ref (E.2.2.2.1 a) :: st) σ h ((rq_rd σ a n i).bind F) := by
  intro z ho p e s m args below meth c H locs arr G X D hl
  unfold rq_rd at ho
  by_cases hi : 0 ≤ i.toInt ∧ i.toInt < n
  · rw [if_pos hi] at ho
    have he : (rp_wd E σ)[a]? = some (E.2.2.2.1 a, .inl (E.2.2.2.2.1 1, n, .inl (σ a))) := rp_at hsh
    exact va_bald G.1 G.2.1 D.2.2.1 D.1 a 1 he rfl (vp_in_iff.mpr hi) hd (k _ z ho p e s m args below meth c H locs arr G X D hl)
  · rw [if_neg hi] at ho; cases ho
theorem rp_baloadZ {a n : Nat} {i : Int32} {F : Int32 → Option α} (hsh : rp_sh[a]? = some (.inr (2, n))) (hd : decode mi.2.1 pc = .ok (.baload, 1)) (k : ∀ x, rp_R E K mi (pc + 1) vs (.int x :: st) σ h (F x)) : rp_R E K mi pc vs (.int i :: .ref (E.2.2.2.1 a) :: st) σ h ((rq_rd σ a n i).bind F) := by
  intro z ho p e s m args below meth c H locs arr G X D hl
  unfold rq_rd at ho
  by_cases hi : 0 ≤ i.toInt ∧ i.toInt < n
  · rw [if_pos hi] at ho
    have he : (rp_wd E σ)[a]? = some (E.2.2.2.1 a, .inl (E.2.2.2.2.1 2, n, .inl (σ a))) := rp_at hsh
    exact va_zald G.1 G.2.1 D.2.2.1 D.1 a 2 he rfl (vp_in_iff.mpr hi) hd (k _ z ho p e s m args below meth c H locs arr G X D hl)
  · rw [if_neg hi] at ho; cases ho
theorem rp_iastore {a n : Nat} {i x : Int32} {F : rp_S → Option α} (hsh : rp_sh[a]? = some (.inr (0, n))) (hd : decode mi.2.1 pc = .ok (.iastore, 1)) (k : ∀ τ, rp_R E K mi (pc + 1) vs st τ h (F τ)) : rp_R E K mi pc vs (.int x :: .int i :: .ref (E.2.2.2.1 a) :: st) σ h ((rq_wr σ a n i x).bind F) := by
  intro z ho p e s m args below meth c H locs arr G X D hl
  unfold rq_wr at ho
  by_cases hi : 0 ≤ i.toInt ∧ i.toInt < n
  · rw [if_pos hi] at ho
    have he : (rp_wd E σ)[a]? = some (E.2.2.2.1 a, .inl (E.2.2.2.2.1 0, n, .inl (σ a))) := rp_at hsh
    refine va_iast G.1 G.2.1 D.2.2.1 D.1 D.2.1 D.2.2.2.1 a 0 he rfl (vp_in_iff.mpr hi) hd (fun H1 locs1 hP hD hS => ?_)
    have hset : (rp_wd E σ).set a (E.2.2.2.1 a, .inl (E.2.2.2.2.1 0, n, .inl (upd (σ a) i.toNatClampNeg x))) = rp_wd E (rp_up σ a i.toInt.toNat x) := rp_set hsh rfl
    rw [hset] at hP hD
    exact k _ z ho p e s m args below meth c H1 locs1 arr G X ⟨hP, hD, D.2.2.1, hS, D.2.2.2.2⟩ hl
  · rw [if_neg hi] at ho; cases ho
theorem rp_bastoreB {a n : Nat} {i x : Int32} {F : rp_S → Option α} (hsh : rp_sh[a]? = some (.inr (1, n))) (hd : decode mi.2.1 pc = .ok (.bastore, 1)) (k : ∀ τ, rp_R E K mi (pc + 1) vs st τ h (F τ)) : rp_R E K mi pc vs (.int x :: .int i :: .ref (E.2.2.2.1 a) :: st) σ h ((rq_wr σ a n i (vp_nar .byte x)).bind F) := by
  intro z ho p e s m args below meth c H locs arr G X D hl
  unfold rq_wr at ho
  by_cases hi : 0 ≤ i.toInt ∧ i.toInt < n
  · rw [if_pos hi] at ho
    have he : (rp_wd E σ)[a]? = some (E.2.2.2.1 a, .inl (E.2.2.2.2.1 1, n, .inl (σ a))) := rp_at hsh
    refine va_bast G.1 G.2.1 D.2.2.1 D.1 D.2.1 D.2.2.2.1 a 1 he rfl (vp_in_iff.mpr hi) hd (fun H1 locs1 hP hD hS => ?_)
    have hset : (rp_wd E σ).set a (E.2.2.2.1 a, .inl (E.2.2.2.2.1 1, n, .inl (upd (σ a) i.toNatClampNeg (vp_nar .byte x)))) = rp_wd E (rp_up σ a i.toInt.toNat (vp_nar .byte x)) := rp_set hsh rfl
    rw [hset] at hP hD
    exact k _ z ho p e s m args below meth c H1 locs1 arr G X ⟨hP, hD, D.2.2.1, hS, D.2.2.2.2⟩ hl
  · rw [if_neg hi] at ho; cases ho
theorem rp_bastoreZ {a n : Nat} {i x : Int32} {F : rp_S → Option α} (hsh : rp_sh[a]? = some (.inr (2, n))) (hd : decode mi.2.1 pc = .ok (.bastore, 1)) (k : ∀ τ, rp_R E K mi (pc + 1) vs st τ h (F τ)) : rp_R E K mi pc vs (.int x :: .int i :: .ref (E.2.2.2.1 a) :: st) σ h ((rq_wr σ a n i (vp_nar .boolean x)).bind F) := by
  intro z ho p e s m args below meth c H locs arr G X D hl
  unfold rq_wr at ho
  by_cases hi : 0 ≤ i.toInt ∧ i.toInt < n
  · rw [if_pos hi] at ho
    have he : (rp_wd E σ)[a]? = some (E.2.2.2.1 a, .inl (E.2.2.2.2.1 2, n, .inl (σ a))) := rp_at hsh
    refine va_zast G.1 G.2.1 D.2.2.1 D.1 D.2.1 D.2.2.2.1 a 2 he rfl (vp_in_iff.mpr hi) hd (fun H1 locs1 hP hD hS => ?_)
    have hset : (rp_wd E σ).set a (E.2.2.2.1 a, .inl (E.2.2.2.2.1 2, n, .inl (upd (σ a) i.toNatClampNeg (vp_nar .boolean x)))) = rp_wd E (rp_up σ a i.toInt.toNat (vp_nar .boolean x)) := rp_set hsh rfl
    rw [hset] at hP hD
    exact k _ z ho p e s m args below meth c H1 locs1 arr G X ⟨hP, hD, D.2.2.1, hS, D.2.2.2.2⟩ hl
  · rw [if_neg hi] at ho; cases ho
/-! the class's tables, its texts, the library's own -/
def rp_Sl (own : String) (idx i : Nat) : Prop := Cond.fieldLink own idx "RocketPrint" (rp_tn i) "[I" ∈ rp_TG ∨ ∃ host, Cond.fieldLinkNest own idx "RocketPrint" (rp_tn i) "[I" host ∈ rp_NW
def rq_td (i : Nat) (j : Int32) : Option Int32 := if 0 ≤ j.toInt ∧ j.toInt < (rp_tab i).length then some ((rp_tab i).getD j.toInt.toNat 0) else none
theorem rp_gets {i idx : Nat} (hi : i < 3) (hlk : rp_Sl mi.1.cls idx i) (hd : decode mi.2.1 pc = .ok (.getstatic idx, 3)) (k : rp_R E K mi (pc + 3) vs (.ref (E.2.2.2.2.2.1 i) :: st) σ h o) : rp_R E K mi pc vs st σ h o := by
  intro z ho p e s m args below meth c H locs arr G X D hl
  rcases hlk with hlk | ⟨host, hlk⟩
  · exact va_gets G.1 G.2.1 (D.2.2.2.2.1 i hi).1 D.2.2.2.1 G.2.2.2.2.1 (G.2.2.2.2.2.1 _ hlk) (fun _ z => z) hd (k z ho p e s m args below meth c H locs arr G X D hl)
  · exact va_getsN G.1 G.2.1 (D.2.2.2.2.1 i hi).1 D.2.2.2.1 G.2.2.2.2.1 (va_Nw.use rfl (G.2.2.2.2.2.2.1 _ hlk)) (fun _ z => z) hd (k z ho p e s m args below meth c H locs arr G X D hl)
theorem rp_tald {i : Nat} {j : Int32} {F : Int32 → Option α} (hi : i < 3) (hd : decode mi.2.1 pc = .ok (.iaload, 1)) (k : ∀ x, rp_R E K mi (pc + 1) vs (.int x :: st) σ h (F x)) : rp_R E K mi pc vs (.int j :: .ref (E.2.2.2.2.2.1 i) :: st) σ h ((rq_td i j).bind F) := by
  intro z ho p e s m args below meth c H locs arr G X D hl
  unfold rq_td at ho
  by_cases hj : 0 ≤ j.toInt ∧ j.toInt < (rp_tab i).length
  · rw [if_pos hj] at ho
    exact va_ti G.1 G.2.1 (D.2.2.2.2.1 i hi).2 D.2.2.2.1 (vp_in_iff.mpr hj) rfl hd (k _ z ho p e s m args below meth c H locs arr G X D hl)
  · rw [if_neg hj] at ho; cases ho
theorem rp_ldcS {i idx : Nat} (hi : i < 7) (hc : mi.1.cls = "RocketPrint$Tape") (hx : rp_si i = idx) (hd : decode mi.2.1 pc = .ok (.ldc idx, 2)) (k : rp_R E K mi (pc + 2) vs (.ref (E.2.2.2.2.2.1 (10 + i)) :: st) σ h o) : rp_R E K mi pc vs st σ h o := by
  intro z ho p e s m args below meth c H locs arr G X D hl
  subst hx
  have hR := D.2.2.2.2.2.2.1 i hi
  rw [← hc] at hR
  exact va_ldcS G.1 G.2.1 G.2.2.2.2.1 hR hd (k z ho p e s m args below meth c H locs arr G X D hl)
theorem rp_strV {i idx : Nat} (hi : i < 7) (hlk : Cond.fieldLink mi.1.cls idx "java/lang/String" "value" "[B" ∈ rp_TG) (hd : decode mi.2.1 pc = .ok (.getfield idx, 3)) (k : rp_R E K mi (pc + 3) vs (.ref (E.2.2.2.2.2.1 (20 + i)) :: st) σ h o) : rp_R E K mi pc vs (.ref (E.2.2.2.2.2.1 (10 + i)) :: st) σ h o := by
  intro z ho p e s m args below meth c H locs arr G X D hl
  exact vk_getf G.1 G.2.1 (D.2.2.2.2.2.1.1 i hi).2.2.1 D.2.2.2.1 G.2.2.2.2.1 (G.2.2.2.2.2.1 _ hlk) (fun _ z => z) hd (k z ho p e s m args below meth c H locs arr G X D hl)
theorem rp_strC {i idx : Nat} (hi : i < 7) (hlk : Cond.fieldLink mi.1.cls idx "java/lang/String" "coder" "B" ∈ rp_TG) (hd : decode mi.2.1 pc = .ok (.getfield idx, 3)) (k : rp_R E K mi (pc + 3) vs (.int 0 :: st) σ h o) : rp_R E K mi pc vs (.ref (E.2.2.2.2.2.1 (10 + i)) :: st) σ h o := by
  intro z ho p e s m args below meth c H locs arr G X D hl
  exact vk_getf G.1 G.2.1 (D.2.2.2.2.2.1.1 i hi).2.1 D.2.2.2.1 G.2.2.2.2.1 (G.2.2.2.2.2.1 _ hlk) (fun _ z => z) hd (k z ho p e s m args below meth c H locs arr G X D hl)
theorem rp_strL {i : Nat} (hi : i < 7) (hd : decode mi.2.1 pc = .ok (.arraylength, 1)) (k : rp_R E K mi (pc + 1) vs (.int (Int32.ofNat (rp_sl.getD i 0)) :: st) σ h o) : rp_R E K mi pc vs (.ref (E.2.2.2.2.2.1 (20 + i)) :: st) σ h o := by
  intro z ho p e s m args below meth c H locs arr G X D hl
  exact va_tlen G.1 G.2.1 (D.2.2.2.2.2.1.1 i hi).2.2.2 D.2.2.2.1 rfl hd (k z ho p e s m args below meth c H locs arr G X D hl)
def rq_sb (i : Nat) (j : Int32) : Option Int32 := if 0 ≤ j.toInt ∧ j.toInt < (rp_sl.getD i 0) then some ((rp_sb.getD i []).getD j.toInt.toNat 0) else none
theorem rp_strB {i : Nat} {j : Int32} {F : Int32 → Option α} (hi : i < 7) (hd : decode mi.2.1 pc = .ok (.baload, 1)) (k : ∀ x, rp_R E K mi (pc + 1) vs (.int x :: st) σ h (F x)) : rp_R E K mi pc vs (.int j :: .ref (E.2.2.2.2.2.1 (20 + i)) :: st) σ h ((rq_sb i j).bind F) := by
  intro z ho p e s m args below meth c H locs arr G X D hl
  unfold rq_sb at ho
  by_cases hj : 0 ≤ j.toInt ∧ j.toInt < (rp_sl.getD i 0)
  · rw [if_pos hj] at ho
    exact va_tb G.1 G.2.1 (D.2.2.2.2.2.1.1 i hi).2.2.2 D.2.2.2.1 (vp_in_iff.mpr hj) rfl hd (k _ z ho p e s m args below meth c H locs arr G X D hl)
  · rw [if_neg hj] at ho; cases ho
theorem rp_getsC {idx : Nat} (hlk : Cond.fieldLink mi.1.cls idx "java/lang/String" "COMPACT_STRINGS" "Z" ∈ rp_TG) (hd : decode mi.2.1 pc = .ok (.getstatic idx, 3)) (k : rp_R E K mi (pc + 3) vs (.int 1 :: st) σ h o) : rp_R E K mi pc vs st σ h o := by
  intro z ho p e s m args below meth c H locs arr G X D hl
  exact va_gets G.1 G.2.1 D.2.2.2.2.2.2.2.1 D.2.2.2.1 G.2.2.2.2.1 (G.2.2.2.2.2.1 _ hlk) (fun _ z => z) hd (k z ho p e s m args below meth c H locs arr G X D hl)
theorem rp_getsF {idx : Nat} (hlk : Cond.fieldLink mi.1.cls idx "jdk/internal/util/Preconditions" "SIOOBE_FORMATTER" "Ljava/util/function/BiFunction;" ∈ rp_TG) (hd : decode mi.2.1 pc = .ok (.getstatic idx, 3)) (k : rp_R E K mi (pc + 3) vs (rp_fm E.2.2.2.2.2.2 :: st) σ h o) : rp_R E K mi pc vs st σ h o := by
  intro z ho p e s m args below meth c H locs arr G X D hl
  exact va_gets G.1 G.2.1 D.2.2.2.2.2.2.2.2 D.2.2.2.1 G.2.2.2.2.1 (G.2.2.2.2.2.1 _ hlk) (fun _ z => z) hd (k z ho p e s m args below meth c H locs arr G X D hl)
end RPW
