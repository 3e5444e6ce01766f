/-! one instruction, a row, over the abstract frame -/
abbrev aI (x : Int32) : AV := Sum.inl (Value.int x)
abbrev aL (x : Int32) : AV := Sum.inl (Value.long x.toInt64)
abbrev aD (x : UInt64) : AV := Sum.inl (Value.double x)
abbrev aF (x : UInt32) : AV := Sum.inl (Value.float x)
abbrev aR (t o : Nat) : AV := Sum.inr (t, o)
def cat (v : AV) : Nat := match v with
  | .inl v => v.category
  | .inr _ => 1
theorem cat_conc (G : GG) (v : AV) : (conc G v).category = cat v := by cases v <;> rfl
abbrev LOC : Type := List (Option AV)
def lcv (G : GG) (loc : LOC) : List (Nat × Value) := loc.zipIdx.filterMap fun q => q.1.map fun v => (q.2, conc G v)
theorem lcv_mem {G : GG} {loc : LOC} {i : Nat} {w : Value} : (i, w) ∈ lcv G loc ↔ ∃ v : AV, loc[i]? = some (some v) ∧ w = conc G v := by
  unfold lcv
  rw [List.mem_filterMap]
  constructor
  · rintro ⟨⟨x, j⟩, h1, h2⟩
    rw [List.mem_zipIdx_iff_getElem?] at h1
    cases x with
    | none => cases h2
    | some v =>
      have h3 := Option.some.inj h2
      cases h3
      exact ⟨v, h1, rfl⟩
  · rintro ⟨v, h1, rfl⟩
    exact ⟨(some v, i), by rw [List.mem_zipIdx_iff_getElem?]; exact h1, rfl⟩
def okst (loc : LOC) (i : Nat) : Bool := match i with
  | 0 => true
  | j + 1 => match loc[j]? with
    | some (some v) => cat v == 1
    | _ => true
theorem okst_ne {loc : LOC} {i j : Nat} {v : AV} (h : okst loc i = true) (hj : loc[j]? = some (some v)) (e : j + 1 = i) : ¬ cat v = 2 := by
  subst e
  unfold okst at h
  simp only [hj] at h
  intro q
  rw [q] at h
  exact absurd h (by decide)
theorem lcv_set {G : GG} {loc : LOC} {ls : Array Slot} {n i : Nat} {v : AV} (h : lv_has ls n ((i, conc G v) :: (lcv G loc).filter (fun q => !(q.1 == i) && !(q.1 + 1 == i && q.2.category == 2)))) (hk : okst loc i = true) : lv_has ls n (lcv G (loc.set i (some v))) := by
  refine ⟨h.1, h.2.1, fun q hq => ?_⟩
  obtain ⟨j, w⟩ := q
  obtain ⟨x, h1, rfl⟩ := lcv_mem.mp hq
  by_cases hj : i = j
  · subst hj
    rw [List.getElem?_set] at h1
    rw [if_pos rfl] at h1
    split at h1
    · cases h1
      exact h.2.2 (i, conc G v) List.mem_cons_self
    · cases h1
  · rw [List.getElem?_set_ne hj] at h1
    refine h.2.2 (j, conc G x) (List.mem_cons_of_mem _ (List.mem_filter.mpr ⟨lcv_mem.mpr ⟨x, h1, rfl⟩, ?_⟩))
    have a1 : (j == i) = false := by simp [Ne.symm hj]
    rw [a1]
    by_cases e : j + 1 = i
    · have := okst_ne hk h1 e
      have a2 : ((conc G x).category == 2) = false := by rw [cat_conc]; simp [this]
      rw [a2]; simp
    · have a3 : (j + 1 == i) = false := by simp [e]
      rw [a3]; rfl
theorem lcv_set2 {G : GG} {loc : LOC} {ls : Array Slot} {n i : Nat} {v : AV} (h : lv_has ls n ((i, conc G v) :: (lcv G loc).filter (fun q => !(q.1 == i) && (!(q.1 == i + 1) && !(q.1 + 1 == i && q.2.category == 2))))) (hk : okst loc i = true) : lv_has ls n (lcv G ((loc.set i (some v)).set (i + 1) none)) := by
  refine ⟨h.1, h.2.1, fun q hq => ?_⟩
  obtain ⟨j, w⟩ := q
  obtain ⟨x, h1, rfl⟩ := lcv_mem.mp hq
  by_cases hj2 : i + 1 = j
  · subst hj2
    rw [List.getElem?_set, if_pos rfl] at h1
    split at h1 <;> cases h1
  rw [List.getElem?_set_ne hj2] at h1
  by_cases hj : i = j
  · subst hj
    rw [List.getElem?_set] at h1
    rw [if_pos rfl] at h1
    split at h1
    · cases h1
      exact h.2.2 (i, conc G v) List.mem_cons_self
    · cases h1
  · rw [List.getElem?_set_ne hj] at h1
    refine h.2.2 (j, conc G x) (List.mem_cons_of_mem _ (List.mem_filter.mpr ⟨lcv_mem.mpr ⟨x, h1, rfl⟩, ?_⟩))
    have a1 : (j == i) = false := by simp [Ne.symm hj]
    have a4 : (j == i + 1) = false := by simp [Ne.symm hj2]
    rw [a1, a4]
    by_cases e : j + 1 = i
    · have := okst_ne hk h1 e
      have a2 : ((conc G x).category == 2) = false := by rw [cat_conc]; simp [this]
      rw [a2]; simp
    · have a3 : (j + 1 == i) = false := by simp [e]
      rw [a3]; rfl
theorem lcv_at {G : GG} {loc : LOC} {ls : Array Slot} {n i : Nat} {v : AV} (h : lv_has ls n (lcv G loc)) (hl : loc[i]? = some (some v)) : ls[i]? = some (.val (conc G v)) := h.2.2 (i, conc G v) (lcv_mem.mpr ⟨v, hl, rfl⟩)
def AW (M : MI) (u : Nat) (pc : Nat) (loc : LOC) (stk : List AV) (μ : Mem) (P : RES → Mem → Prop) : Prop :=
  ∀ (G : GG) (p : Program) (l : Launch) (e : Env) (R : Room) (s : State) (m : MethodId) (args : Array Value) (below : List Frame) (meth : Method) (c : Code), CT M G p l R s m args meth c →
  ∀ (H : Heap) (locs : List Loc) (ls : Array Slot), va_S (gA G) s.heap H locs → HW G μ s H → lv_has ls (mN M) (lcv G loc) → u ≤ mU M →
  W p l e R s m args below meth c H locs (mC M + u) (mS M + 6 * u) (vx_MQ below (QcA G P) (XcA G P) args s (mC M + mU M) (mS M + 6 * mU M) (gA G)) (F0 m pc ls (stk.map (conc G)))
section AWS
variable {M : MI} {u pc : Nat} {loc : LOC} {st : List AV} {μ : Mem} {P : RES → Mem → Prop}
/-- fewer locals known -/
theorem AW_sub {loc' : LOC} (h : ∀ (i : Nat) (v : AV), loc'[i]? = some (some v) → loc[i]? = some (some v)) (k : AW M u pc loc' st μ P) : AW M u pc loc st μ P := by
  intro G p l e R s m args below meth c C H locs ls hS hW hl hu
  refine k G p l e R s m args below meth c C H locs ls hS hW ⟨hl.1, hl.2.1, fun q hq => ?_⟩ hu
  obtain ⟨v, h1, h2⟩ := lcv_mem.mp (show (q.1, q.2) ∈ lcv G loc' from hq)
  exact hl.2.2 q (show (q.1, q.2) ∈ lcv G loc from lcv_mem.mpr ⟨v, h _ _ h1, h2⟩)
theorem AW_mono {Q : RES → Mem → Prop} (h : ∀ r μ', P r μ' → Q r μ') (k : AW M u pc loc st μ P) : AW M u pc loc st μ Q := by
  intro G p l e R s m args below meth c C H locs ls hS hW hl hu T hT X
  obtain ⟨t, a1, o, b1, b2, b3⟩ := k G p l e R s m args below meth c C H locs ls hS hW hl hu T hT X
  refine ⟨t, a1, o, b1, b2, ?_⟩
  rcases b3 with ⟨⟨v, μ', c1, c2, c3⟩, c4⟩ | ⟨q, c1, E, ce, L, ⟨μ', c2, c3⟩, c4⟩
  · exact Or.inl ⟨⟨v, μ', c1, h _ _ c2, c3⟩, c4⟩
  · exact Or.inr ⟨q, c1, E, ce, L, ⟨μ', h _ _ c2, c3⟩, c4⟩
theorem AW_iconst {n : Int} {v : Int32} (d : decode (mB M) pc = .ok (.iconst n, 1)) (hv : Int32.ofInt n = v) (k : AW M u (pc + 1) loc (aI v :: st) μ P) : AW M u pc loc st μ P := by
  intro G p l e R s m args below meth c C H locs ls hS hW hl hu
  exact lv_iconst C.1 C.2.1 d hv (k G p l e R s m args below meth c C H locs ls hS hW hl hu)
theorem AW_bipush {n : Int} {v : Int32} (d : decode (mB M) pc = .ok (.bipush n, 2)) (hv : (Int8.ofInt n).toInt32 = v) (k : AW M u (pc + 2) loc (aI v :: st) μ P) : AW M u pc loc st μ P := by
  intro G p l e R s m args below meth c C H locs ls hS hW hl hu
  exact lv_bipush C.1 C.2.1 d hv (k G p l e R s m args below meth c C H locs ls hS hW hl hu)
theorem AW_sipush {n : Int} {v : Int32} (d : decode (mB M) pc = .ok (.sipush n, 3)) (hv : (Int16.ofInt n).toInt32 = v) (k : AW M u (pc + 3) loc (aI v :: st) μ P) : AW M u pc loc st μ P := by
  intro G p l e R s m args below meth c C H locs ls hS hW hl hu
  exact lv_sipush C.1 C.2.1 d hv (k G p l e R s m args below meth c C H locs ls hS hW hl hu)
theorem AW_lconst {n : Fin 2} {v : Int32} (d : decode (mB M) pc = .ok (.lconst n, 1)) (hv : Int64.ofNat (n : Nat) = v.toInt64) (k : AW M u (pc + 1) loc (aL v :: st) μ P) : AW M u pc loc st μ P := by
  intro G p l e R s m args below meth c C H locs ls hS hW hl hu
  exact lv_lconst C.1 C.2.1 d hv (k G p l e R s m args below meth c C H locs ls hS hW hl hu)
theorem AW_dconst0  (d : decode (mB M) pc = .ok (.dconst 0, 1)) (k : AW M u (pc + 1) loc (aD 0 :: st) μ P) : AW M u pc loc st μ P := by
  intro G p l e R s m args below meth c C H locs ls hS hW hl hu
  exact lv_dconst0 C.1 C.2.1 d (k G p l e R s m args below meth c C H locs ls hS hW hl hu)
theorem AW_fconst0  (d : decode (mB M) pc = .ok (.fconst 0, 1)) (k : AW M u (pc + 1) loc (aF 0 :: st) μ P) : AW M u pc loc st μ P := by
  intro G p l e R s m args below meth c C H locs ls hS hW hl hu
  exact lv_fconst0 C.1 C.2.1 d (k G p l e R s m args below meth c C H locs ls hS hW hl hu)
theorem AW_iload_n {k : Fin 4} {x : Int32} (d : decode (mB M) pc = .ok (.iload_n k, 1)) (hl0 : loc[(k : Nat)]? = some (some (aI x))) (k : AW M u (pc + 1) loc (aI x :: st) μ P) : AW M u pc loc st μ P := by
  intro G p l e R s m args below meth c C H locs ls hS hW hl hu
  exact lv_iload_n C.1 C.2.1 d rfl (lcv_at hl hl0) (k G p l e R s m args below meth c C H locs ls hS hW hl hu)
theorem AW_iload {i : Nat} {x : Int32} (d : decode (mB M) pc = .ok (.iload i, 2)) (hl0 : loc[i]? = some (some (aI x))) (k : AW M u (pc + 2) loc (aI x :: st) μ P) : AW M u pc loc st μ P := by
  intro G p l e R s m args below meth c C H locs ls hS hW hl hu
  exact lv_iload C.1 C.2.1 d (lcv_at hl hl0) (k G p l e R s m args below meth c C H locs ls hS hW hl hu)
theorem AW_fload_n {k : Fin 4} {x : UInt32} (d : decode (mB M) pc = .ok (.fload_n k, 1)) (hl0 : loc[(k : Nat)]? = some (some (aF x))) (k : AW M u (pc + 1) loc (aF x :: st) μ P) : AW M u pc loc st μ P := by
  intro G p l e R s m args below meth c C H locs ls hS hW hl hu
  exact lv_fload_n C.1 C.2.1 d rfl (lcv_at hl hl0) (k G p l e R s m args below meth c C H locs ls hS hW hl hu)
theorem AW_fload {i : Nat} {x : UInt32} (d : decode (mB M) pc = .ok (.fload i, 2)) (hl0 : loc[i]? = some (some (aF x))) (k : AW M u (pc + 2) loc (aF x :: st) μ P) : AW M u pc loc st μ P := by
  intro G p l e R s m args below meth c C H locs ls hS hW hl hu
  exact lv_fload C.1 C.2.1 d (lcv_at hl hl0) (k G p l e R s m args below meth c C H locs ls hS hW hl hu)
theorem AW_dload_n {k : Fin 4} {x : UInt64} (d : decode (mB M) pc = .ok (.dload_n k, 1)) (hl0 : loc[(k : Nat)]? = some (some (aD x))) (k : AW M u (pc + 1) loc (aD x :: st) μ P) : AW M u pc loc st μ P := by
  intro G p l e R s m args below meth c C H locs ls hS hW hl hu
  exact lv_dload_n C.1 C.2.1 d rfl (lcv_at hl hl0) (k G p l e R s m args below meth c C H locs ls hS hW hl hu)
theorem AW_dload {i : Nat} {x : UInt64} (d : decode (mB M) pc = .ok (.dload i, 2)) (hl0 : loc[i]? = some (some (aD x))) (k : AW M u (pc + 2) loc (aD x :: st) μ P) : AW M u pc loc st μ P := by
  intro G p l e R s m args below meth c C H locs ls hS hW hl hu
  exact lv_dload C.1 C.2.1 d (lcv_at hl hl0) (k G p l e R s m args below meth c C H locs ls hS hW hl hu)
theorem AW_aload_n {k : Fin 4} {t o : Nat} (d : decode (mB M) pc = .ok (.aload_n k, 1)) (hl0 : loc[(k : Nat)]? = some (some (aR t o))) (k : AW M u (pc + 1) loc (aR t o :: st) μ P) : AW M u pc loc st μ P := by
  intro G p l e R s m args below meth c C H locs ls hS hW hl hu
  exact lv_aload_n C.1 C.2.1 d rfl (lcv_at hl hl0) (k G p l e R s m args below meth c C H locs ls hS hW hl hu)
theorem AW_aload {i t o : Nat} (d : decode (mB M) pc = .ok (.aload i, 2)) (hl0 : loc[i]? = some (some (aR t o))) (k : AW M u (pc + 2) loc (aR t o :: st) μ P) : AW M u pc loc st μ P := by
  intro G p l e R s m args below meth c C H locs ls hS hW hl hu
  exact lv_aload C.1 C.2.1 d (lcv_at hl hl0) (k G p l e R s m args below meth c C H locs ls hS hW hl hu)
theorem AW_istore_n {k : Fin 4} {x : Int32} {loc' : LOC} (d : decode (mB M) pc = .ok (.istore_n k, 1)) (hn : (k : Nat) < mN M) (hk : okst loc (k : Nat) = true) (hl2 : (loc.set (k : Nat) (some (aI x))) = loc') (k2 : AW M u (pc + 1) loc' st μ P) : AW M u pc loc (aI x :: st) μ P := by
  intro G p l e R s m args below meth c C H locs ls hS hW hl hu
  subst hl2
  exact lv_istore_n C.1 C.2.1 d rfl hl hn rfl (fun ls' hl' => k2 G p l e R s m args below meth c C H locs ls' hS hW (lcv_set (v := aI x) hl' hk) hu)
theorem AW_istore {i : Nat} {x : Int32} {loc' : LOC} (d : decode (mB M) pc = .ok (.istore i, 2)) (hn : i < mN M) (hk : okst loc i = true) (hl2 : (loc.set i (some (aI x))) = loc') (k2 : AW M u (pc + 2) loc' st μ P) : AW M u pc loc (aI x :: st) μ P := by
  intro G p l e R s m args below meth c C H locs ls hS hW hl hu
  subst hl2
  exact lv_istore C.1 C.2.1 d hl hn rfl (fun ls' hl' => k2 G p l e R s m args below meth c C H locs ls' hS hW (lcv_set (v := aI x) hl' hk) hu)
theorem AW_fstore_n {k : Fin 4} {x : UInt32} {loc' : LOC} (d : decode (mB M) pc = .ok (.fstore_n k, 1)) (hn : (k : Nat) < mN M) (hk : okst loc (k : Nat) = true) (hl2 : (loc.set (k : Nat) (some (aF x))) = loc') (k2 : AW M u (pc + 1) loc' st μ P) : AW M u pc loc (aF x :: st) μ P := by
  intro G p l e R s m args below meth c C H locs ls hS hW hl hu
  subst hl2
  exact lv_fstore_n C.1 C.2.1 d rfl hl hn rfl (fun ls' hl' => k2 G p l e R s m args below meth c C H locs ls' hS hW (lcv_set (v := aF x) hl' hk) hu)
theorem AW_fstore {i : Nat} {x : UInt32} {loc' : LOC} (d : decode (mB M) pc = .ok (.fstore i, 2)) (hn : i < mN M) (hk : okst loc i = true) (hl2 : (loc.set i (some (aF x))) = loc') (k2 : AW M u (pc + 2) loc' st μ P) : AW M u pc loc (aF x :: st) μ P := by
  intro G p l e R s m args below meth c C H locs ls hS hW hl hu
  subst hl2
  exact lv_fstore C.1 C.2.1 d hl hn rfl (fun ls' hl' => k2 G p l e R s m args below meth c C H locs ls' hS hW (lcv_set (v := aF x) hl' hk) hu)
theorem AW_dstore_n {k : Fin 4} {x : UInt64} {loc' : LOC} (d : decode (mB M) pc = .ok (.dstore_n k, 1)) (hn : (k : Nat) + 1 < mN M) (hk : okst loc (k : Nat) = true) (hl2 : ((loc.set (k : Nat) (some (aD x))).set ((k : Nat) + 1) none) = loc') (k2 : AW M u (pc + 1) loc' st μ P) : AW M u pc loc (aD x :: st) μ P := by
  intro G p l e R s m args below meth c C H locs ls hS hW hl hu
  subst hl2
  exact lv_dstore_n C.1 C.2.1 d rfl hl hn rfl (fun ls' hl' => k2 G p l e R s m args below meth c C H locs ls' hS hW (lcv_set2 (v := aD x) hl' hk) hu)
theorem AW_dstore {i : Nat} {x : UInt64} {loc' : LOC} (d : decode (mB M) pc = .ok (.dstore i, 2)) (hn : i + 1 < mN M) (hk : okst loc i = true) (hl2 : ((loc.set i (some (aD x))).set (i + 1) none) = loc') (k2 : AW M u (pc + 2) loc' st μ P) : AW M u pc loc (aD x :: st) μ P := by
  intro G p l e R s m args below meth c C H locs ls hS hW hl hu
  subst hl2
  exact lv_dstore C.1 C.2.1 d hl hn rfl (fun ls' hl' => k2 G p l e R s m args below meth c C H locs ls' hS hW (lcv_set2 (v := aD x) hl' hk) hu)
theorem AW_astore_n {k : Fin 4} {t o : Nat} {loc' : LOC} (d : decode (mB M) pc = .ok (.astore_n k, 1)) (hn : (k : Nat) < mN M) (hk : okst loc (k : Nat) = true) (hl2 : (loc.set (k : Nat) (some (aR t o))) = loc') (k2 : AW M u (pc + 1) loc' st μ P) : AW M u pc loc (aR t o :: st) μ P := by
  intro G p l e R s m args below meth c C H locs ls hS hW hl hu
  subst hl2
  exact lv_astore_n C.1 C.2.1 d rfl hl hn rfl (fun ls' hl' => k2 G p l e R s m args below meth c C H locs ls' hS hW (lcv_set (v := aR t o) hl' hk) hu)
theorem AW_astore {i : Nat} {t o : Nat} {loc' : LOC} (d : decode (mB M) pc = .ok (.astore i, 2)) (hn : i < mN M) (hk : okst loc i = true) (hl2 : (loc.set i (some (aR t o))) = loc') (k2 : AW M u (pc + 2) loc' st μ P) : AW M u pc loc (aR t o :: st) μ P := by
  intro G p l e R s m args below meth c C H locs ls hS hW hl hu
  subst hl2
  exact lv_astore C.1 C.2.1 d hl hn rfl (fun ls' hl' => k2 G p l e R s m args below meth c C H locs ls' hS hW (lcv_set (v := aR t o) hl' hk) hu)
theorem AW_astoreX_n {k : Fin 4} {q : Nat} {loc' : LOC} (d : decode (mB M) pc = .ok (.astore_n k, 1)) (hn : (k : Nat) < mN M) (hk : okst loc (k : Nat) = true) (hl2 : (loc.set (k : Nat) none) = loc') (k2 : AW M u (pc + 1) loc' st μ P) : AW M u pc loc ((Sum.inl (Value.ref q) : AV) :: st) μ P := by
  intro G p l e R s m args below meth c C H locs ls hS hW hl hu
  subst hl2
  exact lv_astore_n C.1 C.2.1 d rfl hl hn rfl (fun ls' hl' => (AW_sub (loc' := loc.set (k : Nat) none) (loc := loc.set (k : Nat) (some (Sum.inl (Value.ref q)))) (fun i v h => by
    rw [List.getElem?_set] at h ⊢
    split at h
    · split at h <;> cases h
    · rw [if_neg (by assumption)]; exact h) k2) G p l e R s m args below meth c C H locs ls' hS hW (lcv_set (v := Sum.inl (Value.ref q)) hl' hk) hu)
theorem AW_astoreX {i : Nat} {q : Nat} {loc' : LOC} (d : decode (mB M) pc = .ok (.astore i, 2)) (hn : i < mN M) (hk : okst loc i = true) (hl2 : (loc.set i none) = loc') (k2 : AW M u (pc + 2) loc' st μ P) : AW M u pc loc ((Sum.inl (Value.ref q) : AV) :: st) μ P := by
  intro G p l e R s m args below meth c C H locs ls hS hW hl hu
  subst hl2
  exact lv_astore C.1 C.2.1 d hl hn rfl (fun ls' hl' => (AW_sub (loc' := loc.set i none) (loc := loc.set i (some (Sum.inl (Value.ref q)))) (fun i v h => by
    rw [List.getElem?_set] at h ⊢
    split at h
    · split at h <;> cases h
    · rw [if_neg (by assumption)]; exact h) k2) G p l e R s m args below meth c C H locs ls' hS hW (lcv_set (v := Sum.inl (Value.ref q)) hl' hk) hu)
theorem AW_iinc {i : Nat} {n : Int} {x v : Int32} {loc' : LOC} (d : decode (mB M) pc = .ok (.iinc i n, 3)) (hl0 : loc[i]? = some (some (aI x))) (hv : x + Int32.ofInt n = v) (hn : i < mN M) (hk : okst loc i = true) (hl2 : (loc.set i (some (aI v))) = loc') (k2 : AW M u (pc + 3) loc' st μ P) : AW M u pc loc st μ P := by
  intro G p l e R s m args below meth c C H locs ls hS hW hl hu
  subst hl2
  obtain ⟨j, hj⟩ := List.getElem?_of_mem (lcv_mem.mpr ⟨aI x, hl0, rfl⟩ : (i, conc G (aI x)) ∈ lcv G loc)
  exact lv_iinc C.1 C.2.1 d hl hj hv hn rfl (fun ls' hl' => k2 G p l e R s m args below meth c C H locs ls' hS hW (lcv_set (v := aI v) hl' hk) hu)
theorem AW_iadd {x y : Int32} (d : decode (mB M) pc = .ok (.iadd, 1))  (k : AW M u (pc + 1) loc (aI (x + y) :: st) μ P) : AW M u pc loc (aI y :: aI x :: st) μ P := by
  intro G p l e R s m args below meth c C H locs ls hS hW hl hu
  exact lv_iadd C.1 C.2.1 d  (k G p l e R s m args below meth c C H locs ls hS hW hl hu)
theorem AW_isub {x y : Int32} (d : decode (mB M) pc = .ok (.isub, 1))  (k : AW M u (pc + 1) loc (aI (x - y) :: st) μ P) : AW M u pc loc (aI y :: aI x :: st) μ P := by
  intro G p l e R s m args below meth c C H locs ls hS hW hl hu
  exact lv_isub C.1 C.2.1 d  (k G p l e R s m args below meth c C H locs ls hS hW hl hu)
theorem AW_imul {x y : Int32} (d : decode (mB M) pc = .ok (.imul, 1))  (k : AW M u (pc + 1) loc (aI (x * y) :: st) μ P) : AW M u pc loc (aI y :: aI x :: st) μ P := by
  intro G p l e R s m args below meth c C H locs ls hS hW hl hu
  exact lv_imul C.1 C.2.1 d  (k G p l e R s m args below meth c C H locs ls hS hW hl hu)
theorem AW_iand {x y : Int32} (d : decode (mB M) pc = .ok (.iand, 1))  (k : AW M u (pc + 1) loc (aI (x &&& y) :: st) μ P) : AW M u pc loc (aI y :: aI x :: st) μ P := by
  intro G p l e R s m args below meth c C H locs ls hS hW hl hu
  exact lv_iand C.1 C.2.1 d  (k G p l e R s m args below meth c C H locs ls hS hW hl hu)
theorem AW_ior {x y : Int32} (d : decode (mB M) pc = .ok (.ior, 1))  (k : AW M u (pc + 1) loc (aI (x ||| y) :: st) μ P) : AW M u pc loc (aI y :: aI x :: st) μ P := by
  intro G p l e R s m args below meth c C H locs ls hS hW hl hu
  exact lv_ior C.1 C.2.1 d  (k G p l e R s m args below meth c C H locs ls hS hW hl hu)
theorem AW_ishl {x y : Int32} (d : decode (mB M) pc = .ok (.ishl, 1))  (k : AW M u (pc + 1) loc (aI (x <<< (y &&& 31)) :: st) μ P) : AW M u pc loc (aI y :: aI x :: st) μ P := by
  intro G p l e R s m args below meth c C H locs ls hS hW hl hu
  exact lv_ishl C.1 C.2.1 d  (k G p l e R s m args below meth c C H locs ls hS hW hl hu)
theorem AW_ishr {x y : Int32} (d : decode (mB M) pc = .ok (.ishr, 1))  (k : AW M u (pc + 1) loc (aI (x >>> (y &&& 31)) :: st) μ P) : AW M u pc loc (aI y :: aI x :: st) μ P := by
  intro G p l e R s m args below meth c C H locs ls hS hW hl hu
  exact lv_ishr C.1 C.2.1 d  (k G p l e R s m args below meth c C H locs ls hS hW hl hu)
theorem AW_idiv {x y : Int32} (d : decode (mB M) pc = .ok (.idiv, 1)) (hne : ¬ y = 0) (k : AW M u (pc + 1) loc (aI (x / y) :: st) μ P) : AW M u pc loc (aI y :: aI x :: st) μ P := by
  intro G p l e R s m args below meth c C H locs ls hS hW hl hu
  exact lv_idiv C.1 C.2.1 d hne (k G p l e R s m args below meth c C H locs ls hS hW hl hu)
theorem AW_irem {x y : Int32} (d : decode (mB M) pc = .ok (.irem, 1)) (hne : ¬ y = 0) (k : AW M u (pc + 1) loc (aI (x - x / y * y) :: st) μ P) : AW M u pc loc (aI y :: aI x :: st) μ P := by
  intro G p l e R s m args below meth c C H locs ls hS hW hl hu
  exact lv_irem C.1 C.2.1 d hne (k G p l e R s m args below meth c C H locs ls hS hW hl hu)
theorem AW_ineg {x : Int32} (d : decode (mB M) pc = .ok (.ineg, 1)) (k : AW M u (pc + 1) loc (aI (-x) :: st) μ P) : AW M u pc loc (aI x :: st) μ P := by
  intro G p l e R s m args below meth c C H locs ls hS hW hl hu
  exact lv_ineg C.1 C.2.1 d (k G p l e R s m args below meth c C H locs ls hS hW hl hu)
theorem AW_i2l {x : Int32} (d : decode (mB M) pc = .ok (.i2l, 1)) (k : AW M u (pc + 1) loc (aL x :: st) μ P) : AW M u pc loc (aI x :: st) μ P := by
  intro G p l e R s m args below meth c C H locs ls hS hW hl hu
  exact lv_i2l C.1 C.2.1 d rfl (k G p l e R s m args below meth c C H locs ls hS hW hl hu)
theorem AW_i2c {x v : Int32} (d : decode (mB M) pc = .ok (.i2c, 1)) (hv : (x.toUInt32 % 65536).toInt32 = v) (k : AW M u (pc + 1) loc (aI v :: st) μ P) : AW M u pc loc (aI x :: st) μ P := by
  intro G p l e R s m args below meth c C H locs ls hS hW hl hu
  exact lv_i2c C.1 C.2.1 d hv (k G p l e R s m args below meth c C H locs ls hS hW hl hu)
theorem AW_i2d {x : Int32} (d : decode (mB M) pc = .ok (.i2d, 1)) (k : AW M u (pc + 1) loc (aD (FP.i2d x) :: st) μ P) : AW M u pc loc (aI x :: st) μ P := by
  intro G p l e R s m args below meth c C H locs ls hS hW hl hu
  exact lv_i2d C.1 C.2.1 d (k G p l e R s m args below meth c C H locs ls hS hW hl hu)
theorem AW_i2f {x : Int32} (d : decode (mB M) pc = .ok (.i2f, 1)) (k : AW M u (pc + 1) loc (aF (FP.i2f x) :: st) μ P) : AW M u pc loc (aI x :: st) μ P := by
  intro G p l e R s m args below meth c C H locs ls hS hW hl hu
  exact lv_i2f C.1 C.2.1 d (k G p l e R s m args below meth c C H locs ls hS hW hl hu)
theorem AW_ddiv {x y : UInt64} (d : decode (mB M) pc = .ok (.ddiv, 1)) (hne : vf_n64 (FP.ddiv x y)) (k : AW M u (pc + 1) loc (aD (FP.ddiv x y) :: st) μ P) : AW M u pc loc (aD y :: aD x :: st) μ P := by
  intro G p l e R s m args below meth c C H locs ls hS hW hl hu
  exact lv_ddiv C.1 C.2.1 d hne (k G p l e R s m args below meth c C H locs ls hS hW hl hu)
theorem AW_fdiv {x y : UInt32} (d : decode (mB M) pc = .ok (.fdiv, 1)) (hne : vf_n32 (FP.fdiv x y)) (k : AW M u (pc + 1) loc (aF (FP.fdiv x y) :: st) μ P) : AW M u pc loc (aF y :: aF x :: st) μ P := by
  intro G p l e R s m args below meth c C H locs ls hS hW hl hu
  exact lv_fdiv C.1 C.2.1 d hne (k G p l e R s m args below meth c C H locs ls hS hW hl hu)
theorem AW_f2d {x : UInt32} (d : decode (mB M) pc = .ok (.f2d, 1)) (hne : vf_n64 (FP.f2d x)) (k : AW M u (pc + 1) loc (aD (FP.f2d x) :: st) μ P) : AW M u pc loc (aF x :: st) μ P := by
  intro G p l e R s m args below meth c C H locs ls hS hW hl hu
  exact lv_f2d C.1 C.2.1 d hne (k G p l e R s m args below meth c C H locs ls hS hW hl hu)
theorem AW_dup {v : AV} (d : decode (mB M) pc = .ok (.dup, 1)) (hc : cat v = 1) (k : AW M u (pc + 1) loc (v :: v :: st) μ P) : AW M u pc loc (v :: st) μ P := by
  intro G p l e R s m args below meth c C H locs ls hS hW hl hu
  exact lv_dup C.1 C.2.1 d ((cat_conc G v).trans hc) (k G p l e R s m args below meth c C H locs ls hS hW hl hu)
theorem AW_pop {v : AV} (d : decode (mB M) pc = .ok (.pop, 1)) (hc : cat v = 1) (k : AW M u (pc + 1) loc st μ P) : AW M u pc loc (v :: st) μ P := by
  intro G p l e R s m args below meth c C H locs ls hS hW hl hu
  exact lv_pop C.1 C.2.1 d ((cat_conc G v).trans hc) (k G p l e R s m args below meth c C H locs ls hS hW hl hu)
theorem AW_dup_x1 {v v2 : AV} (d : decode (mB M) pc = .ok (.dup_x1, 1)) (hc : cat v = 1) (hc2 : cat v2 = 1) (k : AW M u (pc + 1) loc (v :: v2 :: v :: st) μ P) : AW M u pc loc (v :: v2 :: st) μ P := by
  intro G p l e R s m args below meth c C H locs ls hS hW hl hu
  exact lv_dup_x1 C.1 C.2.1 d ((cat_conc G v).trans hc) ((cat_conc G v2).trans hc2) (k G p l e R s m args below meth c C H locs ls hS hW hl hu)
theorem AW_dup2 {v v2 : AV} (d : decode (mB M) pc = .ok (.dup2, 1)) (hc : cat v = 1) (hc2 : cat v2 = 1) (k : AW M u (pc + 1) loc (v :: v2 :: v :: v2 :: st) μ P) : AW M u pc loc (v :: v2 :: st) μ P := by
  intro G p l e R s m args below meth c C H locs ls hS hW hl hu
  exact lv_dup2_11 C.1 C.2.1 d ((cat_conc G v).trans hc) ((cat_conc G v2).trans hc2) (k G p l e R s m args below meth c C H locs ls hS hW hl hu)
theorem AW_if_eq {x : Int32} {off : Int} {tgt : Nat} (d : decode (mB M) pc = .ok (.ifCond .eq off, 3)) (ht : (pc : Int) + off = (tgt : Int)) (kt : x = 0 → AW M u tgt loc st μ P) (kf : ¬ x = 0 → AW M u (pc + 3) loc st μ P) : AW M u pc loc (aI x :: st) μ P := by
  intro G p l e R s m args below meth c C H locs ls hS hW hl hu
  exact lv_if_eq C.1 C.2.1 d ht (fun h => kt h G p l e R s m args below meth c C H locs ls hS hW hl hu) (fun h => kf h G p l e R s m args below meth c C H locs ls hS hW hl hu)
theorem AW_icmp_eq {x y : Int32} {off : Int} {tgt : Nat} (d : decode (mB M) pc = .ok (.if_icmp .eq off, 3)) (ht : (pc : Int) + off = (tgt : Int)) (kt : x = y → AW M u tgt loc st μ P) (kf : ¬ x = y → AW M u (pc + 3) loc st μ P) : AW M u pc loc (aI y :: aI x :: st) μ P := by
  intro G p l e R s m args below meth c C H locs ls hS hW hl hu
  exact lv_icmp_eq C.1 C.2.1 d ht (fun h => kt h G p l e R s m args below meth c C H locs ls hS hW hl hu) (fun h => kf h G p l e R s m args below meth c C H locs ls hS hW hl hu)
theorem AW_if_ne {x : Int32} {off : Int} {tgt : Nat} (d : decode (mB M) pc = .ok (.ifCond .ne off, 3)) (ht : (pc : Int) + off = (tgt : Int)) (kt : ¬ x = 0 → AW M u tgt loc st μ P) (kf : x = 0 → AW M u (pc + 3) loc st μ P) : AW M u pc loc (aI x :: st) μ P := by
  intro G p l e R s m args below meth c C H locs ls hS hW hl hu
  exact lv_if_ne C.1 C.2.1 d ht (fun h => kt h G p l e R s m args below meth c C H locs ls hS hW hl hu) (fun h => kf h G p l e R s m args below meth c C H locs ls hS hW hl hu)
theorem AW_icmp_ne {x y : Int32} {off : Int} {tgt : Nat} (d : decode (mB M) pc = .ok (.if_icmp .ne off, 3)) (ht : (pc : Int) + off = (tgt : Int)) (kt : ¬ x = y → AW M u tgt loc st μ P) (kf : x = y → AW M u (pc + 3) loc st μ P) : AW M u pc loc (aI y :: aI x :: st) μ P := by
  intro G p l e R s m args below meth c C H locs ls hS hW hl hu
  exact lv_icmp_ne C.1 C.2.1 d ht (fun h => kt h G p l e R s m args below meth c C H locs ls hS hW hl hu) (fun h => kf h G p l e R s m args below meth c C H locs ls hS hW hl hu)
theorem AW_if_lt {x : Int32} {off : Int} {tgt : Nat} (d : decode (mB M) pc = .ok (.ifCond .lt off, 3)) (ht : (pc : Int) + off = (tgt : Int)) (kt : x < 0 → AW M u tgt loc st μ P) (kf : ¬ x < 0 → AW M u (pc + 3) loc st μ P) : AW M u pc loc (aI x :: st) μ P := by
  intro G p l e R s m args below meth c C H locs ls hS hW hl hu
  exact lv_if_lt C.1 C.2.1 d ht (fun h => kt h G p l e R s m args below meth c C H locs ls hS hW hl hu) (fun h => kf h G p l e R s m args below meth c C H locs ls hS hW hl hu)
theorem AW_icmp_lt {x y : Int32} {off : Int} {tgt : Nat} (d : decode (mB M) pc = .ok (.if_icmp .lt off, 3)) (ht : (pc : Int) + off = (tgt : Int)) (kt : x < y → AW M u tgt loc st μ P) (kf : ¬ x < y → AW M u (pc + 3) loc st μ P) : AW M u pc loc (aI y :: aI x :: st) μ P := by
  intro G p l e R s m args below meth c C H locs ls hS hW hl hu
  exact lv_icmp_lt C.1 C.2.1 d ht (fun h => kt h G p l e R s m args below meth c C H locs ls hS hW hl hu) (fun h => kf h G p l e R s m args below meth c C H locs ls hS hW hl hu)
theorem AW_if_ge {x : Int32} {off : Int} {tgt : Nat} (d : decode (mB M) pc = .ok (.ifCond .ge off, 3)) (ht : (pc : Int) + off = (tgt : Int)) (kt : 0 ≤ x → AW M u tgt loc st μ P) (kf : ¬ 0 ≤ x → AW M u (pc + 3) loc st μ P) : AW M u pc loc (aI x :: st) μ P := by
  intro G p l e R s m args below meth c C H locs ls hS hW hl hu
  exact lv_if_ge C.1 C.2.1 d ht (fun h => kt h G p l e R s m args below meth c C H locs ls hS hW hl hu) (fun h => kf h G p l e R s m args below meth c C H locs ls hS hW hl hu)
theorem AW_icmp_ge {x y : Int32} {off : Int} {tgt : Nat} (d : decode (mB M) pc = .ok (.if_icmp .ge off, 3)) (ht : (pc : Int) + off = (tgt : Int)) (kt : y ≤ x → AW M u tgt loc st μ P) (kf : ¬ y ≤ x → AW M u (pc + 3) loc st μ P) : AW M u pc loc (aI y :: aI x :: st) μ P := by
  intro G p l e R s m args below meth c C H locs ls hS hW hl hu
  exact lv_icmp_ge C.1 C.2.1 d ht (fun h => kt h G p l e R s m args below meth c C H locs ls hS hW hl hu) (fun h => kf h G p l e R s m args below meth c C H locs ls hS hW hl hu)
theorem AW_if_gt {x : Int32} {off : Int} {tgt : Nat} (d : decode (mB M) pc = .ok (.ifCond .gt off, 3)) (ht : (pc : Int) + off = (tgt : Int)) (kt : 0 < x → AW M u tgt loc st μ P) (kf : ¬ 0 < x → AW M u (pc + 3) loc st μ P) : AW M u pc loc (aI x :: st) μ P := by
  intro G p l e R s m args below meth c C H locs ls hS hW hl hu
  exact lv_if_gt C.1 C.2.1 d ht (fun h => kt h G p l e R s m args below meth c C H locs ls hS hW hl hu) (fun h => kf h G p l e R s m args below meth c C H locs ls hS hW hl hu)
theorem AW_icmp_gt {x y : Int32} {off : Int} {tgt : Nat} (d : decode (mB M) pc = .ok (.if_icmp .gt off, 3)) (ht : (pc : Int) + off = (tgt : Int)) (kt : y < x → AW M u tgt loc st μ P) (kf : ¬ y < x → AW M u (pc + 3) loc st μ P) : AW M u pc loc (aI y :: aI x :: st) μ P := by
  intro G p l e R s m args below meth c C H locs ls hS hW hl hu
  exact lv_icmp_gt C.1 C.2.1 d ht (fun h => kt h G p l e R s m args below meth c C H locs ls hS hW hl hu) (fun h => kf h G p l e R s m args below meth c C H locs ls hS hW hl hu)
theorem AW_if_le {x : Int32} {off : Int} {tgt : Nat} (d : decode (mB M) pc = .ok (.ifCond .le off, 3)) (ht : (pc : Int) + off = (tgt : Int)) (kt : x ≤ 0 → AW M u tgt loc st μ P) (kf : ¬ x ≤ 0 → AW M u (pc + 3) loc st μ P) : AW M u pc loc (aI x :: st) μ P := by
  intro G p l e R s m args below meth c C H locs ls hS hW hl hu
  exact lv_if_le C.1 C.2.1 d ht (fun h => kt h G p l e R s m args below meth c C H locs ls hS hW hl hu) (fun h => kf h G p l e R s m args below meth c C H locs ls hS hW hl hu)
theorem AW_icmp_le {x y : Int32} {off : Int} {tgt : Nat} (d : decode (mB M) pc = .ok (.if_icmp .le off, 3)) (ht : (pc : Int) + off = (tgt : Int)) (kt : x ≤ y → AW M u tgt loc st μ P) (kf : ¬ x ≤ y → AW M u (pc + 3) loc st μ P) : AW M u pc loc (aI y :: aI x :: st) μ P := by
  intro G p l e R s m args below meth c C H locs ls hS hW hl hu
  exact lv_icmp_le C.1 C.2.1 d ht (fun h => kt h G p l e R s m args below meth c C H locs ls hS hW hl hu) (fun h => kf h G p l e R s m args below meth c C H locs ls hS hW hl hu)
theorem AW_goto {off : Int} {tgt : Nat} (d : decode (mB M) pc = .ok (.goto off, 3)) (ht : (pc : Int) + off = (tgt : Int)) (k : AW M u tgt loc st μ P) : AW M u pc loc st μ P := by
  intro G p l e R s m args below meth c C H locs ls hS hW hl hu
  exact lv_goto C.1 C.2.1 d ht (k G p l e R s m args below meth c C H locs ls hS hW hl hu)
def lswF (F : Int → Prop) (d : Int) (x : Int32) : List (Int × Int) → Prop
  | [] => F d
  | q :: r => (x.toInt = q.1 → F q.2) ∧ (¬ x.toInt = q.1 → lswF F d x r)
theorem lswF_at {F : Int → Prop} {d : Int} {x : Int32} : ∀ l : List (Int × Int), lswF F d x l → F (Op.lookupswitch.offset l d x.toInt)
  | [], h => h
  | (a, o) :: r, h => by
    rw [Op.lookupswitch.offset_cons]
    by_cases q : x.toInt = a
    · rw [if_pos q.symm]; exact h.1 q
    · rw [if_neg (fun z => q z.symm)]; exact lswF_at r (h.2 q)
theorem AW_lsw {x : Int32} {dflt : Int} {ps : Array (Int × Int)} {len : Nat} (d : decode (mB M) pc = .ok (.lookupswitch dflt ps, len)) (hp : (ps.toList.zip (ps.toList.drop 1)).all (fun (a, next) => a.1 < next.1) = true) (k : lswF (fun off => ∃ tgt : Nat, (pc : Int) + off = (tgt : Int) ∧ AW M u tgt loc st μ P) dflt x ps.toList) : AW M u pc loc (aI x :: st) μ P := by
  intro G p l e R s m args below meth c C H locs ls hS hW hl hu
  obtain ⟨tgt, ht, k⟩ := lswF_at _ k
  exact lv_lookup C.1 C.2.1 d hp rfl ht (k G p l e R s m args below meth c C H locs ls hS hW hl hu)
def tswF (F : Int → Prop) (x : Int32) : Int → List Int → Prop
  | _, [] => True
  | a, o :: r => (x.toInt = a → F o) ∧ tswF F x (a + 1) r
theorem tswF_at {F : Int → Prop} {x : Int32} : ∀ (l : List Int) (a : Int) (j : Nat) (o : Int), tswF F x a l → l[j]? = some o → x.toInt = a + j → F o
  | [], _, j, _, _, h, _ => by simp at h
  | o' :: r, a, 0, o, k, h, e => by
    simp at h
    subst h
    exact k.1 (by simpa using e)
  | o' :: r, a, j + 1, o, k, h, e => tswF_at r (a + 1) j o k.2 (by simpa using h) (by rw [e]; push_cast; omega)
theorem AW_tsw {x : Int32} {dflt lo hi : Int} {offs : Array Int} {len : Nat} (d : decode (mB M) pc = .ok (.tableswitch dflt lo hi offs, len)) (hlen : (offs.toList.length : Int) = hi - lo + 1) (ko : x.toInt < lo ∨ hi < x.toInt → ∃ tgt : Nat, (pc : Int) + dflt = (tgt : Int) ∧ AW M u tgt loc st μ P) (ki : tswF (fun off => ∃ tgt : Nat, (pc : Int) + off = (tgt : Int) ∧ AW M u tgt loc st μ P) x lo offs.toList) : AW M u pc loc (aI x :: st) μ P := by
  intro G p l e R s m args below meth c C H locs ls hS hW hl hu
  by_cases h1 : x.toInt < lo
  · obtain ⟨tgt, ht, k⟩ := ko (Or.inl h1)
    exact lv_tableOut C.1 C.2.1 d (Or.inl h1) ht (k G p l e R s m args below meth c C H locs ls hS hW hl hu)
  · by_cases h2 : hi < x.toInt
    · obtain ⟨tgt, ht, k⟩ := ko (Or.inr h2)
      exact lv_tableOut C.1 C.2.1 d (Or.inr h2) ht (k G p l e R s m args below meth c C H locs ls hS hW hl hu)
    · have hj : (x.toInt - lo).toNat < offs.toList.length := by omega
      have ho : offs.toList[(x.toInt - lo).toNat]? = some offs.toList[(x.toInt - lo).toNat] := List.getElem?_eq_getElem hj
      obtain ⟨tgt, ht, k⟩ := tswF_at _ _ _ _ ki ho (by omega)
      exact lv_tableIn C.1 C.2.1 d h1 h2 (by rw [← ho, Array.getElem?_toList]) ht (k G p l e R s m args below meth c C H locs ls hS hW hl hu)
theorem AW_dcmp {x y : UInt64} {op : CmpOp} (d : decode (mB M) pc = .ok (.dcmp op, 1)) (k : AW M u (pc + 1) loc (aI (Op.cmpValue (FP.dcmp x y) op) :: st) μ P) : AW M u pc loc (aD y :: aD x :: st) μ P := by
  intro G p l e R s m args below meth c C H locs ls hS hW hl hu
  exact lv_dcmp C.1 C.2.1 d (k G p l e R s m args below meth c C H locs ls hS hW hl hu)
theorem AW_fcmp {x y : UInt32} {op : CmpOp} (d : decode (mB M) pc = .ok (.fcmp op, 1)) (k : AW M u (pc + 1) loc (aI (Op.cmpValue (FP.fcmp x y) op) :: st) μ P) : AW M u pc loc (aF y :: aF x :: st) μ P := by
  intro G p l e R s m args below meth c C H locs ls hS hW hl hu
  exact lv_fcmp C.1 C.2.1 d (k G p l e R s m args below meth c C H locs ls hS hW hl hu)
theorem AW_lcmp {x y : Int32} (d : decode (mB M) pc = .ok (.lcmp, 1)) (k : AW M u (pc + 1) loc (aI (lg_cmp x.toInt64 y.toInt64) :: st) μ P) : AW M u pc loc (aL y :: aL x :: st) μ P := by
  intro G p l e R s m args below meth c C H locs ls hS hW hl hu
  exact W.lcmp C.1 C.2.1 d (k G p l e R s m args below meth c C H locs ls hS hW hl hu)
/-- what a field's link says: of the class own, entry idx, the field k of the cells t -/
def FF (own : String) (idx t k : Nat) : Prop := ∃ (D : String) (T : u_T) (N : Nat), vwC[ci t]? = some (D, T, N) ∧ (∀ w ∈ u_ws D T N, w ∈ gtb) ∧ k < N ∧ kd t = 0 ∧ Cond.fieldLink own idx (T k).1 (T k).2.1 (T k).2.2.1 ∈ gtb
theorem ent0 {G : GG} {μ : Mem} {t o : Nat} (h : kd t = 0) : ent G μ t o = .inr (ci t, (fsA μ t o).map (conc G)) := by unfold ent; rw [h]; rfl
theorem AW_getf {t o k idx : Nat} {x : Option (Nat × Option Nat)} (d : decode (mB M) pc = .ok (.getfield idx, 3)) (hf : FF (mY M).cls idx t k) (hx : (fl t)[k]? = some x) (hc : hasC t o = true) (k2 : AW M u (pc + 3) loc (av μ t o k x :: st) μ P) : AW M u pc loc (aR t o :: st) μ P := by
  intro G p l e R s m args below meth c C H locs ls hS hW hl hu
  obtain ⟨D, T, N, h1, h2, h3, h4, h5⟩ := hf
  exact va_get C.1 C.2.1 C.2.2.2.2.2.1 h2 C.2.2.2.2.1 hW.1 hW.2.1 (pos t o) (by rw [wl_at hc, ent0 h4]) h1 k h3 (C.2.2.2.2.2.1 _ h5) (fun _ h => h) (by rw [List.getElem?_map, fsA_at hx]; rfl) d (k2 G p l e R s m args below meth c C H locs ls hS hW hl hu)
/-- .. and for writing: its type -/
def FP2 (own : String) (idx t k : Nat) (ty : FieldType) : Prop := ∃ (D : String) (T : u_T) (N : Nat) (ty0 : Nat → FieldType), vwC[ci t]? = some (D, T, N) ∧ (∀ w ∈ u_ws D T N, w ∈ gtb) ∧ k < N ∧ kd t = 0 ∧ Cond.fieldLink own idx (T k).1 (T k).2.1 (T k).2.2.1 ∈ gtb ∧ (∀ k, k < N → parseFieldDescriptor (T k).2.2.1 = some (ty0 k)) ∧ (∀ a, a < N → ∀ b, b < N → a ≠ b → (T a).2.1 ≠ (T b).2.1) ∧ (T k).2.2.2 = false ∧ ty0 k = ty ∧ (fl t).length = N
theorem HW.setrow {G : GG} {μ : Mem} {s : State} {H H1 : Heap} {t o : Nat} {f : Nat → Int32} {e : va_E} (hW : HW G μ s H) (hc : hasC t o = true) (hk : kd t ≠ 5) (he : ent G (mset μ t o f) t o = e) (hP : va_P (gD G) vwC ((wl G μ).set (pos t o) (gad G t o, e)) H1) (hD : va_D (gA G) ((wl G μ).set (pos t o) (gad G t o, e))) (hz : gn0 G ≤ H1.size) (hq : H1[gad G 99 0]? = H[gad G 99 0]?) : HW G (mset μ t o f) s H1 := by
  rw [wl_set hc he (fun t' o' hn => ent_mset hk t' o' hn)] at hP hD
  have ht : t < 29 := by
    unfold hasC at hc
    by_cases h : t < 11
    · omega
    · rw [if_neg h] at hc
      simp only [Bool.and_eq_true, decide_eq_true_eq] at hc
      exact hc.1
  refine ⟨hW.1, hP, hD, ?_, hW.2.2.2.2.1, hz⟩
  rw [show mset μ t o f 98 0 = μ 98 0 from mset_t (by omega), show mset μ t o f 99 0 = μ 99 0 from mset_t (by omega)]
  exact va_X.kept hW.2.2.2.1 hq
theorem scr_kept {G : GG} {s : State} {H H1 : Heap} {locs locs1 : List Loc} {μ : Mem} (hW : HW G μ s H) (hn : gn0 G ≤ s.heap.size) (hS : va_S (gA G) s.heap H locs) (hS1 : va_S (gA G) s.heap H1 locs1) : H1[gad G 99 0]? = H[gad G 99 0]? := by
  have h1 : gad G 99 0 < s.heap.size := Nat.lt_of_lt_of_le hW.2.2.2.2.1 hn
  have h2 : ¬ gA G (gad G 99 0) := Nat.not_le.mpr hW.2.2.2.2.1
  rw [hS1.2.1 _ h1 h2, hS.2.1 _ h1 h2]
theorem va_P.sz {D : va_G} {cl : List vw_C} {ws : va_W} {H : Heap} (h : va_P D cl ws H) {i : Nat} {q : Nat × va_E} (hi : ws[i]? = some q) : q.1 < H.size := (h i q hi).lt
theorem AW_putf {t o k idx : Nat} {x : Int32} {ty : FieldType} {μ' : Mem} (d : decode (mB M) pc = .ok (.putfield idx, 3)) (hf : FP2 (mY M).cls idx t k ty) (hx : (fl t)[k]? = some none) (hc : hasC t o = true) (hn : narrow ty (.int x) = .int x) (hfit : fits ty (.int x) = true) (hμ : mset μ t o (upd (μ t o) k x) = μ') (k2 : AW M u (pc + 3) loc st μ' P) : AW M u pc loc (aI x :: aR t o :: st) μ P := by
  intro G p l e R s m args below meth c C H locs ls hS hW hl hu
  subst hμ
  obtain ⟨D, T, N, ty0, h1, h2, h3, h4, h5, h6, h7, h8, h9, h10⟩ := hf
  refine va_put C.1 C.2.1 C.2.2.2.2.2.1 h2 ty0 h6 h7 C.2.2.2.2.1 hW.1 hW.2.1 hW.2.2.1 hS (pos t o) (by rw [wl_at hc, ent0 h4]) h1 k h3 (C.2.2.2.2.2.1 _ h5) (fun _ h => h) h8 (by rw [h6 k h3, h9]) hn hfit (by unfold fsA; rw [List.length_map, List.length_mapIdx, h10]; exact h3) d (fun H1 locs1 hP hD hS1 => ?_)
  refine k2 G p l e R s m args below meth c C H1 locs1 ls hS1 (hW.setrow hc (by rw [h4]; decide) (ent_put h4 hx) hP hD (Nat.le_trans C.2.2.2.2.2.2.2.2.2.2.2.2 hS1.1) (scr_kept hW C.2.2.2.2.2.2.2.2.2.2.2.2 hS hS1)) hl hu
theorem ent1 {G : GG} {μ : Mem} {t o : Nat} (h : kd t = 1) : ent G μ t o = .inl (gcy G 1, ln t, .inl (μ t o)) := by unfold ent; rw [h]; rfl
theorem ent2 {G : GG} {μ : Mem} {t o : Nat} (h : kd t = 2) : ent G μ t o = .inl (gcy G 2, ln t, .inl (μ t o)) := by unfold ent; rw [h]; rfl
theorem ent3 {G : GG} {μ : Mem} {t o : Nat} (h : kd t = 3) : ent G μ t o = .inl (gcy G 3, ln t, .inr (.inr (.inr (.inr (fun i => some (gad G 0 (4 + i))))))) := by unfold ent; rw [h]; rfl
theorem ent4 {G : GG} {μ : Mem} {t o : Nat} (h : kd t = 4) : ent G μ t o = .inl (gcy G 4, ln t, .inr (.inl (fun k => (μ t o k).toInt64))) := by unfold ent; rw [h]; rfl
theorem AW_iaload {t o : Nat} {i : Int32} (d : decode (mB M) pc = .ok (.iaload, 1)) (hk : kd t = 1) (hc : hasC t o = true) (hin : vp_in i (ln t)) (k : AW M u (pc + 1) loc (aI (μ t o i.toNatClampNeg) :: st) μ P) : AW M u pc loc (aI i :: aR t o :: st) μ P := by
  intro G p l e R s m args below meth c C H locs ls hS hW hl hu
  exact va_iald C.1 C.2.1 hW.1 hW.2.1 (pos t o) 0 (by rw [wl_at hc, ent1 hk]) rfl hin d (k G p l e R s m args below meth c C H locs ls hS hW hl hu)
theorem AW_caload {t o : Nat} {i : Int32} (d : decode (mB M) pc = .ok (.caload, 1)) (hk : kd t = 2) (hc : hasC t o = true) (hin : vp_in i (ln t)) (k : AW M u (pc + 1) loc (aI (μ t o i.toNatClampNeg) :: st) μ P) : AW M u pc loc (aI i :: aR t o :: st) μ P := by
  intro G p l e R s m args below meth c C H locs ls hS hW hl hu
  exact va_cald C.1 C.2.1 hW.1 hW.2.1 (pos t o) 1 (by rw [wl_at hc, ent2 hk]) rfl hin d (k G p l e R s m args below meth c C H locs ls hS hW hl hu)
theorem AW_saload {i : Int32} (d : decode (mB M) pc = .ok (.iaload, 1)) (hin : vp_in i (μ 98 0 0).toNatClampNeg) (k : AW M u (pc + 1) loc (aI (μ 99 0 i.toNatClampNeg) :: st) μ P) : AW M u pc loc (aI i :: aR 99 0 :: st) μ P := by
  intro G p l e R s m args below meth c C H locs ls hS hW hl hu
  have hb := Nat.lt_of_lt_of_le hW.2.2.2.2.1 C.2.2.2.2.2.2.2.2.2.2.2.2
  exact va_sld C.1 C.2.1 (va_X.kept hW.2.2.2.1 (hS.2.1 _ hb (Nat.not_le.mpr hW.2.2.2.2.1)).symm) hb (Nat.not_le.mpr hW.2.2.2.2.1) hS hin d (k G p l e R s m args below meth c C H locs ls hS hW hl hu)
theorem AW_slen (d : decode (mB M) pc = .ok (.arraylength, 1)) {v : Int32} (hv : Int32.ofNat (μ 98 0 0).toNatClampNeg = v) (k : AW M u (pc + 1) loc (aI v :: st) μ P) : AW M u pc loc (aR 99 0 :: st) μ P := by
  intro G p l e R s m args below meth c C H locs ls hS hW hl hu
  subst hv
  have hb := Nat.lt_of_lt_of_le hW.2.2.2.2.1 C.2.2.2.2.2.2.2.2.2.2.2.2
  exact va_slen C.1 C.2.1 (va_X.kept hW.2.2.2.1 (hS.2.1 _ hb (Nat.not_le.mpr hW.2.2.2.2.1)).symm) hb (Nat.not_le.mpr hW.2.2.2.2.1) hS d (k G p l e R s m args below meth c C H locs ls hS hW hl hu)
theorem AW_alen {t o : Nat} {v : Int32} (d : decode (mB M) pc = .ok (.arraylength, 1)) (hk : kd t = 1) (hc : hasC t o = true) (hv : Int32.ofNat (ln t) = v) (k : AW M u (pc + 1) loc (aI v :: st) μ P) : AW M u pc loc (aR t o :: st) μ P := by
  intro G p l e R s m args below meth c C H locs ls hS hW hl hu
  exact va_alen C.1 C.2.1 hW.1 hW.2.1 (pos t o) 0 (by rw [wl_at hc, ent1 hk]) rfl hv d (k G p l e R s m args below meth c C H locs ls hS hW hl hu)
theorem AW_aaload {t o : Nat} {i : Int32} (d : decode (mB M) pc = .ok (.aaload, 1)) (hk : kd t = 3) (hc : hasC t o = true) (hin : vp_in i (ln t)) (k : AW M u (pc + 1) loc (aR 0 (4 + i.toNatClampNeg) :: st) μ P) : AW M u pc loc (aI i :: aR t o :: st) μ P := by
  intro G p l e R s m args below meth c C H locs ls hS hW hl hu
  exact va_aldq (f := fun i => some (gad G 0 (4 + i))) C.1 C.2.1 hW.1 hW.2.1 (pos t o) 2 (by rw [wl_at hc, ent3 hk]) rfl hin d (k G p l e R s m args below meth c C H locs ls hS hW hl hu)
theorem AW_laload {t o : Nat} {i : Int32} (d : decode (mB M) pc = .ok (.laload, 1)) (hk : kd t = 4) (hc : hasC t o = true) (hin : vp_in i (ln t)) (k : AW M u (pc + 1) loc (aL (μ t o i.toNatClampNeg) :: st) μ P) : AW M u pc loc (aI i :: aR t o :: st) μ P := by
  intro G p l e R s m args below meth c C H locs ls hS hW hl hu
  exact va_lald (f := fun k => (μ t o k).toInt64) C.1 C.2.1 hW.1 hW.2.1 (pos t o) 3 (by rw [wl_at hc, ent4 hk]) rfl hin d (k G p l e R s m args below meth c C H locs ls hS hW hl hu)
theorem AW_iastore {t o : Nat} {i x : Int32} {μ' : Mem} (d : decode (mB M) pc = .ok (.iastore, 1)) (hk : kd t = 1) (hc : hasC t o = true) (hin : vp_in i (ln t)) (hμ : mset μ t o (upd (μ t o) i.toNatClampNeg x) = μ') (k2 : AW M u (pc + 1) loc st μ' P) : AW M u pc loc (aI x :: aI i :: aR t o :: st) μ P := by
  intro G p l e R s m args below meth c C H locs ls hS hW hl hu
  subst hμ
  refine va_iast C.1 C.2.1 hW.1 hW.2.1 hW.2.2.1 hS (pos t o) 0 (by rw [wl_at hc, ent1 hk]) rfl hin d (fun H1 locs1 hP hD hS1 => ?_)
  exact k2 G p l e R s m args below meth c C H1 locs1 ls hS1 (hW.setrow hc (by rw [hk]; decide) (by rw [ent1 hk, mset_s]) hP hD (Nat.le_trans C.2.2.2.2.2.2.2.2.2.2.2.2 hS1.1) (scr_kept hW C.2.2.2.2.2.2.2.2.2.2.2.2 hS hS1)) hl hu
theorem AW_castore {t o : Nat} {i x y : Int32} {μ' : Mem} (d : decode (mB M) pc = .ok (.castore, 1)) (hk : kd t = 2) (hc : hasC t o = true) (hin : vp_in i (ln t)) (hy : vp_nar .char x = y) (hμ : mset μ t o (upd (μ t o) i.toNatClampNeg y) = μ') (k2 : AW M u (pc + 1) loc st μ' P) : AW M u pc loc (aI x :: aI i :: aR t o :: st) μ P := by
  intro G p l e R s m args below meth c C H locs ls hS hW hl hu
  subst hμ
  subst hy
  refine va_cast C.1 C.2.1 hW.1 hW.2.1 hW.2.2.1 hS (pos t o) 1 (by rw [wl_at hc, ent2 hk]) rfl hin d (fun H1 locs1 hP hD hS1 => ?_)
  exact k2 G p l e R s m args below meth c C H1 locs1 ls hS1 (hW.setrow hc (by rw [hk]; decide) (by rw [ent2 hk, mset_s]) hP hD (Nat.le_trans C.2.2.2.2.2.2.2.2.2.2.2.2 hS1.1) (scr_kept hW C.2.2.2.2.2.2.2.2.2.2.2.2 hS hS1)) hl hu
theorem AW_lastore {t o : Nat} {i x : Int32} {μ' : Mem} (d : decode (mB M) pc = .ok (.lastore, 1)) (hk : kd t = 4) (hc : hasC t o = true) (hin : vp_in i (ln t)) (hμ : mset μ t o (upd (μ t o) i.toNatClampNeg x) = μ') (k2 : AW M u (pc + 1) loc st μ' P) : AW M u pc loc (aL x :: aI i :: aR t o :: st) μ P := by
  intro G p l e R s m args below meth c C H locs ls hS hW hl hu
  subst hμ
  refine va_last C.1 C.2.1 hW.1 hW.2.1 hW.2.2.1 hS (pos t o) 3 (by rw [wl_at hc, ent4 hk]) rfl hin d (fun H1 locs1 hP hD hS1 => ?_)
  refine k2 G p l e R s m args below meth c C H1 locs1 ls hS1 (hW.setrow hc (by rw [hk]; decide) ?_ hP hD (Nat.le_trans C.2.2.2.2.2.2.2.2.2.2.2.2 hS1.1) (scr_kept hW C.2.2.2.2.2.2.2.2.2.2.2.2 hS hS1)) hl hu
  rw [ent4 hk, mset_s]
  congr 6
  funext j
  unfold upd vp_updL
  by_cases h : j = i.toNatClampNeg
  · rw [if_pos h, if_pos h]
  · rw [if_neg h, if_neg h]
/-- what an entry of the pool that names a method says (a static or a native one) -/
theorem AW_copy {t o t' o' idx : Nat} {n dp sp : Int32} {μ' : Mem} (d : decode (mB M) pc = .ok (.invokestatic idx, 3)) (hw : Cond.methodLink (mY M).cls idx arraycopyName ∈ gtb) (hk : kd t = 1) (hc : hasC t o = true) (hk' : kd t' = 1) (hc' : hasC t' o' = true) (h1 : ¬ sp < 0) (h2 : ¬ dp < 0) (h3 : ¬ n < 0) (h4 : sp.toNatClampNeg + n.toNatClampNeg ≤ ln t) (h5 : dp.toNatClampNeg + n.toNatClampNeg ≤ ln t') (hlv : 2 ≤ mLv M) (hst : (st.map cat).sum ≤ 8) (hμ : mset μ t' o' (va_cpy (μ t o) (μ t' o') sp.toNatClampNeg dp.toNatClampNeg n.toNatClampNeg) = μ') (k2 : AW M u (pc + 3) loc st μ' P) : AW M u pc loc (aI n :: aI dp :: aR t' o' :: aI sp :: aR t o :: st) μ P := by
  intro G p l e R s m args below meth c C H locs ls hS hW hl hu
  subst hμ
  have hR := C.2.2.2.2.2.2.2.2.1
  have hst2 : ((st.map (conc G)).map fun v => v.category).sum ≤ 8 := by
    rw [List.map_map]
    rw [show ((fun v : Value => v.category) ∘ conc G) = cat from funext fun v => cat_conc G v]
    exact hst
  have hnf : nativeFrameWords "java/lang/System" "arraycopy" 5 ≤ 40 := by decide +kernel
  refine va_copyi C.1 C.2.1 (by rw [C.2.2.2.1]; exact hl.1.symm) C.2.2.2.2.1 (C.2.2.2.2.2.1 _ hw) (C.2.2.2.2.2.1 _ gw_acn) (C.2.2.2.2.2.1 _ gw_acs) (C.2.2.2.2.2.1 _ gw_aci) hW.1 hW.2.1 hW.2.2.1 hS (pos t o) (pos t' o') 0 0 (by rw [wl_at hc, ent1 hk]) (by rw [wl_at hc', ent1 hk']) rfl rfl rfl h1 h2 h3 h4 h5 (fun _ _ => rfl) (by omega) (by omega) d (fun H1 locs1 hP hD hS1 => ?_)
  exact k2 G p l e R s m args below meth c C H1 locs1 ls hS1 (hW.setrow hc' (by rw [hk']; decide) (by rw [ent1 hk', mset_s]) hP hD (Nat.le_trans C.2.2.2.2.2.2.2.2.2.2.2.2 hS1.1) (scr_kept hW C.2.2.2.2.2.2.2.2.2.2.2.2 hS hS1)) hl hu
theorem AW_mmax {x y : Int32} {v : Int32} {idx : Nat} (d : decode (mB M) pc = .ok (.invokestatic idx, 3)) (hw : Cond.methodLink (mY M).cls idx Lib.Math.max.name ∈ gtb) (hlv : 2 ≤ mLv M) (hst : (st.map cat).sum ≤ 8) (hv : (if x < y then y else x) = v) (k : AW M u (pc + 3) loc (aI v :: st) μ P) : AW M u pc loc (aI y :: aI x :: st) μ P := by
  intro G p l e R s m args below meth c C H locs ls hS hW hl hu
  subst hv
  have hR := C.2.2.2.2.2.2.2.2.1
  have hst2 : ((st.map (conc G)).map fun v => v.category).sum ≤ 8 := by
    rw [List.map_map]
    rw [show ((fun v : Value => v.category) ∘ conc G) = cat from funext fun v => cat_conc G v]
    exact hst
  exact va_mmax C.1 C.2.1 (by rw [C.2.2.2.1]; exact hl.1.symm) C.2.2.2.2.1 (C.2.2.2.2.2.1 _ hw) (C.2.2.2.2.2.1 _ gw_maxs) (C.2.2.2.2.2.1 _ gw_mi) (C.2.2.2.2.2.1 _ gw_maxc) (by omega) (by omega) (by omega) (by omega) d (k G p l e R s m args below meth c C H locs ls hS hW hl hu)
theorem AW_mmin {x y : Int32} {v : Int32} {idx : Nat} (d : decode (mB M) pc = .ok (.invokestatic idx, 3)) (hw : Cond.methodLink (mY M).cls idx Lib.Math.min.name ∈ gtb) (hlv : 2 ≤ mLv M) (hst : (st.map cat).sum ≤ 8) (hv : (if y < x then y else x) = v) (k : AW M u (pc + 3) loc (aI v :: st) μ P) : AW M u pc loc (aI y :: aI x :: st) μ P := by
  intro G p l e R s m args below meth c C H locs ls hS hW hl hu
  subst hv
  have hR := C.2.2.2.2.2.2.2.2.1
  have hst2 : ((st.map (conc G)).map fun v => v.category).sum ≤ 8 := by
    rw [List.map_map]
    rw [show ((fun v : Value => v.category) ∘ conc G) = cat from funext fun v => cat_conc G v]
    exact hst
  exact va_mmin C.1 C.2.1 (by rw [C.2.2.2.1]; exact hl.1.symm) C.2.2.2.2.1 (C.2.2.2.2.2.1 _ hw) (C.2.2.2.2.2.1 _ gw_mins) (C.2.2.2.2.2.1 _ gw_mi) (C.2.2.2.2.2.1 _ gw_minc) (by omega) (by omega) (by omega) (by omega) d (k G p l e R s m args below meth c C H locs ls hS hW hl hu)
theorem AW_mabs {x : Int32} {v : Int32} {idx : Nat} (d : decode (mB M) pc = .ok (.invokestatic idx, 3)) (hw : Cond.methodLink (mY M).cls idx Lib.Math.abs.name ∈ gtb) (hlv : 2 ≤ mLv M) (hst : (st.map cat).sum ≤ 8) (hv : (if 0 ≤ x then x else 0 - x) = v) (k : AW M u (pc + 3) loc (aI v :: st) μ P) : AW M u pc loc (aI x :: st) μ P := by
  intro G p l e R s m args below meth c C H locs ls hS hW hl hu
  subst hv
  have hR := C.2.2.2.2.2.2.2.2.1
  have hst2 : ((st.map (conc G)).map fun v => v.category).sum ≤ 8 := by
    rw [List.map_map]
    rw [show ((fun v : Value => v.category) ∘ conc G) = cat from funext fun v => cat_conc G v]
    exact hst
  exact va_mabs C.1 C.2.1 (by rw [C.2.2.2.1]; exact hl.1.symm) C.2.2.2.2.1 (C.2.2.2.2.2.1 _ hw) (C.2.2.2.2.2.1 _ gw_abss) (C.2.2.2.2.2.1 _ gw_mi) (C.2.2.2.2.2.1 _ gw_absc) (by omega) (by omega) (by omega) (by omega) d (k G p l e R s m args below meth c C H locs ls hS hW hl hu)
end AWS
