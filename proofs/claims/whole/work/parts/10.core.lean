/-! values, memory, the world of cells -/
abbrev AV : Type := Value ⊕ (Nat × Nat)
abbrev Mem : Type := Nat → Nat → Nat → Int32
abbrev GG : Type := va_G × (Nat → Nat → Nat) × Nat × (Nat → ClassId)
abbrev gD (G : GG) : va_G := G.1
abbrev gad (G : GG) : Nat → Nat → Nat := G.2.1
abbrev gn0 (G : GG) : Nat := G.2.2.1
abbrev gcy (G : GG) : Nat → ClassId := G.2.2.2
def gA (G : GG) : Nat → Prop := fun q => gn0 G ≤ q
def conc (G : GG) : AV → Value := fun v => match v with
  | .inl v => v
  | .inr c => .ref (gad G c.1 c.2)
def kd : Nat → Nat := fun t => match t with
  | 0 => 0 | 11 => 0 | 12 => 0 | 13 => 3 | 14 => 0 | 15 => 0 | 16 => 2 | 17 => 0 | 18 => 2 | 19 => 0 | 25 => 2 | 27 => 4 | 28 => 5 | _ => 1
def ln : Nat → Nat := fun t => match t with
  | 1 => 4 | 2 => 4 | 3 => 4 | 4 => 8 | 5 => 8 | 6 => 64 | 7 => 64 | 8 => 64 | 9 => 5 | 10 => 5 | 13 => 8 | 16 => 60 | 18 => 18 | 20 => 240 | 21 => 1920 | 22 => 240 | 23 => 240 | 24 => 60 | 25 => 40 | 26 => 124 | 27 => 1 | 28 => 1 | _ => 0
def ci : Nat → Nat := fun t => match t with
  | 0 => 4 | 11 => 5 | 12 => 0 | 14 => 3 | 15 => 2 | 17 => 1 | _ => 6
def fl : Nat → List (Option (Nat × Option Nat)) := fun t => match t with
  | 0 => [none, none, none, none, none, none, none, none, some (1, none), some (2, none), some (3, none), some (4, none), some (5, none), some (6, none), some (7, none), some (8, none), some (9, none), some (10, none)]
  | 11 => [some (0, some 0), some (0, some 1), some (0, some 2), some (0, some 3), some (12, none), some (14, none), some (15, none), some (17, none), none, none]
  | 12 => [some (13, none), none, none]
  | 14 => [none, none, none, none]
  | 15 => [some (16, none), none, none, none, none, none, none]
  | 17 => [some (18, none), none]
  | 19 => [some (20, none), some (21, none), some (22, none), some (23, none), none, none, none, none, none, none, none, none, none, some (24, none), none, none, some (25, none), none, none, some (26, none), none]
  | _ => []
abbrev vwC : List vw_C := [(RX0, TX0, 3), (RX1, TX1, 2), (RX2, TX2, 7), (RX3, TX3, 4), (RX4, TX4, 18), (RX5, TX5, 10), (RX6, TX6, 21)]
def tgt (o : Nat) (q : Nat × Option Nat) : Nat × Nat := (q.1, match q.2 with
  | none => o
  | some z => z)
def av (μ : Mem) (t o k : Nat) : Option (Nat × Option Nat) → AV := fun x => match x with
  | none => .inl (.int (μ t o k))
  | some q => .inr (tgt o q)
def fsA (μ : Mem) (t o : Nat) : List AV := (fl t).mapIdx (fun k x => av μ t o k x)
def dbl (a b : Int32) : UInt64 := UInt64.ofNat (a.toBitVec.toNat * 4294967296 + b.toBitVec.toNat)
def dhi (x : UInt64) : Int32 := Int32.ofNat (x.toNat / 4294967296)
def dlo (x : UInt64) : Int32 := Int32.ofNat (x.toNat % 4294967296)
def ent (G : GG) (μ : Mem) (t o : Nat) : va_E := match kd t with
  | 0 => .inr (ci t, (fsA μ t o).map (conc G))
  | 1 => .inl (gcy G 1, ln t, .inl (μ t o))
  | 2 => .inl (gcy G 2, ln t, .inl (μ t o))
  | 3 => .inl (gcy G 3, ln t, .inr (.inr (.inr (.inr (fun i => some (gad G 0 (4 + i)))))))
  | 4 => .inl (gcy G 4, ln t, .inr (.inl (fun k => (μ t o k).toInt64)))
  | _ => .inl (gcy G 5, ln t, .inr (.inr (.inr (.inl (fun k => dbl (μ t o k) (μ t (o + 1) k))))))
def dcd (i : Nat) : Nat × Nat := if i < 132 then (i % 11, i / 11) else (i - 121, 0)
def pos (t o : Nat) : Nat := if t < 11 then 11 * o + t else t + 121
def hasC (t o : Nat) : Bool := if t < 11 then decide (o < 12) else decide (t < 29) && decide (o = 0)
theorem hasC_pos {t o : Nat} (h : hasC t o = true) : dcd (pos t o) = (t, o) ∧ pos t o < 150 := by
  unfold hasC at h
  by_cases ht : t < 11
  · rw [if_pos ht] at h
    have ho := of_decide_eq_true h
    unfold pos dcd
    rw [if_pos ht]
    have h1 : 11 * o + t < 132 := by omega
    rw [if_pos h1]
    refine ⟨?_, by omega⟩
    have e1 : (11 * o + t) % 11 = t := by omega
    have e2 : (11 * o + t) / 11 = o := by omega
    rw [e1, e2]
  · rw [if_neg ht] at h
    simp only [Bool.and_eq_true, decide_eq_true_eq] at h
    unfold pos dcd
    rw [if_neg ht]
    have h1 : ¬ t + 121 < 132 := by omega
    rw [if_neg h1]
    refine ⟨?_, by omega⟩
    have e1 : t + 121 - 121 = t := by omega
    rw [e1, h.2]
theorem dcd_inj {i j : Nat} (hi : i < 150) (hj : j < 150) (h : dcd i = dcd j) : i = j := by
  unfold dcd at h
  by_cases a : i < 132 <;> by_cases b : j < 132 <;> simp only [a, b, if_true, if_false, Prod.mk.injEq] at h <;> omega
def wl (G : GG) (μ : Mem) : va_W := (List.range 150).map fun i => (gad G (dcd i).1 (dcd i).2, ent G μ (dcd i).1 (dcd i).2)
theorem wl_get {G : GG} {μ : Mem} {i : Nat} (h : i < 150) : (wl G μ)[i]? = some (gad G (dcd i).1 (dcd i).2, ent G μ (dcd i).1 (dcd i).2) := by
  unfold wl
  rw [List.getElem?_map, List.getElem?_range h]
  rfl
theorem wl_at {G : GG} {μ : Mem} {t o : Nat} (h : hasC t o = true) : (wl G μ)[pos t o]? = some (gad G t o, ent G μ t o) := by
  obtain ⟨h1, h2⟩ := hasC_pos h
  rw [wl_get h2, h1]
theorem wl_len {G : GG} {μ : Mem} : (wl G μ).length = 150 := by unfold wl; rw [List.length_map, List.length_range]
theorem wl_set {G : GG} {μ μ' : Mem} {t o : Nat} {e : va_E} (h : hasC t o = true) (he : ent G μ' t o = e) (hn : ∀ t' o', ¬ (t' = t ∧ o' = o) → ent G μ' t' o' = ent G μ t' o') : (wl G μ).set (pos t o) (gad G t o, e) = wl G μ' := by
  obtain ⟨h1, h2⟩ := hasC_pos h
  apply List.ext_getElem?
  intro j
  by_cases hj : j < 150
  · rw [wl_get hj, List.getElem?_set]
    by_cases hp : pos t o = j
    · subst hp
      rw [if_pos rfl, if_pos (by rw [wl_len]; exact h2), h1, he]
    · rw [if_neg hp, wl_get hj, hn]
      intro q
      exact hp (dcd_inj h2 hj (by rw [h1]; exact Prod.ext q.1.symm q.2.symm))
  · rw [List.getElem?_eq_none (by rw [List.length_set, wl_len]; omega), List.getElem?_eq_none (by rw [wl_len]; omega)]
def mset (μ : Mem) (t o : Nat) (f : Nat → Int32) : Mem := fun t' o' => if t' = t ∧ o' = o then f else μ t' o'
theorem mset_s (μ : Mem) (t o : Nat) (f : Nat → Int32) : mset μ t o f t o = f := by unfold mset; rw [if_pos ⟨rfl, rfl⟩]
theorem mset_n {μ : Mem} {t o : Nat} {f : Nat → Int32} {t' o' : Nat} (h : ¬ (t' = t ∧ o' = o)) : mset μ t o f t' o' = μ t' o' := by unfold mset; rw [if_neg h]
theorem mset_t {μ : Mem} {t o : Nat} {f : Nat → Int32} {t' o' : Nat} (h : t' ≠ t) : mset μ t o f t' o' = μ t' o' := mset_n fun q => h q.1
theorem mset_o {μ : Mem} {t o : Nat} {f : Nat → Int32} {t' o' : Nat} (h : o' ≠ o) : mset μ t o f t' o' = μ t' o' := mset_n fun q => h q.2
theorem kd5 {t : Nat} : kd t = 5 ↔ t = 28 := by
  constructor
  · intro h
    unfold kd at h
    split at h <;> first | rfl | (exact absurd h (by decide))
  · intro h; subst h; rfl
theorem ent_congr {G : GG} {μ μ' : Mem} {t o : Nat} (h : μ' t o = μ t o) (h2 : t = 28 → μ' t (o + 1) = μ t (o + 1)) : ent G μ' t o = ent G μ t o := by
  by_cases ht : t = 28
  · unfold ent
    rw [h, h2 ht, kd5.mpr ht]
    rfl
  · unfold ent fsA
    have e : (fun k x => av μ' t o k x) = (fun k x => av μ t o k x) := by
      funext k x
      cases x with
      | none => show (Sum.inl (Value.int (μ' t o k)) : AV) = .inl (.int (μ t o k)); rw [h]
      | some q => rfl
    rw [e, h]
    split <;> first | rfl | skip
    rename_i hk0 hk1 hk2 hk3 hk4
    exact absurd (kd5.mp (by unfold kd at *; split at * <;> simp_all)) ht
theorem ent_mset {G : GG} {μ : Mem} {t o : Nat} {f : Nat → Int32} (hk : kd t ≠ 5) (t' o' : Nat) (hn : ¬ (t' = t ∧ o' = o)) : ent G (mset μ t o f) t' o' = ent G μ t' o' := by
  refine ent_congr (mset_n hn) (fun h => mset_t fun q => hk ?_)
  rw [← q, h]; rfl
theorem ent_put {G : GG} {μ : Mem} {t o k : Nat} {v : Int32} (h0 : kd t = 0) (hk : (fl t)[k]? = some none) : ent G (mset μ t o (upd (μ t o) k v)) t o = .inr (ci t, ((fsA μ t o).map (conc G)).set k (.int v)) := by
  unfold ent
  rw [h0]
  show (Sum.inr (ci t, _) : va_E) = _
  congr 2
  apply List.ext_getElem?
  intro j
  unfold fsA
  rw [List.getElem?_set, List.getElem?_map, List.getElem?_mapIdx]
  by_cases hj : k = j
  · subst hj
    rw [if_pos rfl, if_pos (by simp only [List.length_map, List.length_mapIdx]; exact (List.getElem?_eq_some_iff.mp hk).1), hk]
    show some (conc G (.inl (.int (mset μ t o (upd (μ t o) k v) t o k)))) = _
    rw [mset_s]
    simp [upd, conc]
  · rw [if_neg hj, List.getElem?_map, List.getElem?_mapIdx]
    cases h : (fl t)[j]? with
    | none => rfl
    | some x =>
      cases x with
      | none =>
        show some (conc G (.inl (.int (mset μ t o (upd (μ t o) k v) t o j)))) = some (conc G (.inl (.int (μ t o j))))
        rw [mset_s]
        simp [upd, Ne.symm hj]
      | some q => rfl
theorem fsA_at {μ : Mem} {t o k : Nat} {x : Option (Nat × Option Nat)} (hk : (fl t)[k]? = some x) : (fsA μ t o)[k]? = some (av μ t o k x) := by
  unfold fsA
  rw [List.getElem?_mapIdx, hk]
  rfl
theorem dbl_of (x : UInt64) : dbl (dhi x) (dlo x) = x := by
  unfold dbl dhi dlo
  have h := x.toNat_lt
  have h2 : x.toNat < 18446744073709551616 := h
  have e1 : (Int32.ofNat (x.toNat / 4294967296)).toBitVec.toNat = x.toNat / 4294967296 := by
    show (BitVec.ofNat 32 _).toNat = _
    rw [BitVec.toNat_ofNat]; omega
  have e2 : (Int32.ofNat (x.toNat % 4294967296)).toBitVec.toNat = x.toNat % 4294967296 := by
    show (BitVec.ofNat 32 _).toNat = _
    rw [BitVec.toNat_ofNat]; omega
  rw [e1, e2]
  have e3 : x.toNat / 4294967296 * 4294967296 + x.toNat % 4294967296 = x.toNat := by omega
  rw [e3]
  exact UInt64.ofNat_toNat
/-! the world at a heap; what a state is -/
def tysG (G : GG) : List (ClassId × FieldType) := [(gcy G 1, .int), (gcy G 2, .char), (gcy G 3, .object "ErrataPress$State"), (gcy G 4, .long), (gcy G 5, .double)]
def HW (G : GG) (μ : Mem) (s : State) (H : Heap) : Prop := va_K (gD G) vwC (tysG G) s ∧ va_P (gD G) vwC (wl G μ) H ∧ va_D (gA G) (wl G μ) ∧ va_X (gad G 99 0) (μ 98 0 0).toNatClampNeg (μ 99 0) s H ∧ gad G 99 0 < gn0 G ∧ gn0 G ≤ H.size
theorem HW.moved {G : GG} {μ : Mem} {u U : State} {H : Heap} (hvm : u.vm.Alike U.vm) (h : HW G μ u H) : HW G μ U H := ⟨va_K.moved hvm h.1, h.2.1, h.2.2.1, va_X.moved hvm h.2.2.2.1, h.2.2.2.2⟩
def ntb : List Cond := lw_tbl.filter fun w => match w with
  | .castable .. => true
  | .methodLinkNest .. => true
  | .declares .. => true
  | _ => false
def gtb : List Cond := lw_tbl.filter goodWord
def strw (q : String × Nat × String) : Cond := .stringRef q.1 q.2.1 q.2.2
def ncs : List (String × String) := ["java/lang/IllegalStateException", "java/lang/IllegalArgumentException", "java/lang/IndexOutOfBoundsException", "java/lang/ArithmeticException", "java/lang/UnsupportedOperationException", "java/util/NoSuchElementException"].flatMap fun a => (["java/lang/IllegalStateException", "java/lang/IllegalArgumentException", "java/lang/IndexOutOfBoundsException", "java/lang/ArithmeticException", "java/lang/UnsupportedOperationException", "java/util/NoSuchElementException"].filter (fun b => a != b)).map fun b => (a, b)
def strs : List (String × Nat × String) := lw_tbl.filterMap fun w => match w with
  | .stringRef a k t => some (a, k, t)
  | _ => none
def SW (G : GG) (U : State) (H : Heap) : Prop := vx_Zq Bundle.tN "UNASSIGNED_STACK" Bundle.steD (gA G) U H ∧ vx_Zq Bundle.tN "SUPPRESSED_SENTINEL" Bundle.listD (gA G) U H
def NS (U : State) : Prop := (∀ w ∈ ntb, va_Nw w U) ∧ (∀ q ∈ strs, ∃ sa, vk_R q.1 q.2.1 q.2.2 sa U) ∧ ∀ q ∈ ncs, va_Nc q.1 q.2 U
theorem ntb_tabs {w : Cond} (h : w ∈ ntb) : w.onTables = true := by
  have h2 := (List.mem_filter.mp h).2
  cases w <;> first | rfl | (exact absurd h2 Bool.false_ne_true)
theorem NS.same {u U : State} (hv : u.vm = U.vm) (h : NS u) : NS U := ⟨fun w hw => va_Nw.same (ntb_tabs hw) hv (h.1 w hw), fun q hq => by
  obtain ⟨sa, hs⟩ := h.2.1 q hq
  exact ⟨sa, vk_R.same hv.symm hs⟩, fun q hq => va_Nc.moved (by rw [hv]; exact Vm.Alike.refl _) (h.2.2 q hq)⟩
theorem NS.warm {s U : State} (hW : s.WarmedH U.vm) (h : NS s) : NS U := ⟨fun w hw => by
  have h1 := h.1 w hw
  have h2 := (List.mem_filter.mp hw).2
  cases w <;> first | exact va_Nw.warmM hW h1 | exact va_Nw.warmC hW h1 | exact va_Nw.warmD hW h1 | (exact absurd h2 Bool.false_ne_true), fun q hq => by
  obtain ⟨sa, hs⟩ := h.2.1 q hq
  exact ⟨sa, vk_R.warm hW hs⟩, fun q hq => va_Nc.moved hW.alike (h.2.2 q hq)⟩
/-! methods: name, bytes, locals, answer, level, exceptions made, base cells and slots, handlers -/
abbrev MI : Type := MethodName × ByteArray × Nat × Option FieldType × Nat × Nat × Nat × Nat × List (Nat × Nat × Nat × Nat)
abbrev mY (M : MI) : MethodName := M.1
abbrev mB (M : MI) : ByteArray := M.2.1
abbrev mN (M : MI) : Nat := M.2.2.1
abbrev mR (M : MI) : Option FieldType := M.2.2.2.1
abbrev mLv (M : MI) : Nat := M.2.2.2.2.1
abbrev mU (M : MI) : Nat := M.2.2.2.2.2.1
abbrev mC (M : MI) : Nat := M.2.2.2.2.2.2.1
abbrev mS (M : MI) : Nat := M.2.2.2.2.2.2.2.1
abbrev mH (M : MI) : List (Nat × Nat × Nat × Nat) := M.2.2.2.2.2.2.2.2
abbrev RES : Type := Option AV ⊕ String
def QcA (G : GG) (P : RES → Mem → Prop) : Array Value → State → Outcome → State → Prop := fun _ st o t => ∃ (v : Option AV) (μ' : Mem), o = .returned (v.map (conc G)) ∧ P (.inl v) μ' ∧ HW G μ' t t.heap ∧ va_F (gA G) st t
def XcA (G : GG) (P : RES → Mem → Prop) : String → State → State → Prop := fun E st t => ∃ μ' : Mem, P (.inr E) μ' ∧ HW G μ' t t.heap ∧ va_F (gA G) st t
def PcA (G : GG) (as : List AV) (μ : Mem) : Array Value → State → Prop := fun v U => v = (as.map (conc G)).toArray ∧ HW G μ U U.heap ∧ SW G U U.heap ∧ NS U
def wsM (M : MI) : List Cond := (match mH M with
  | [] => Cond.code (mY M) (mB M) (mN M) (mR M)
  | h :: r => Cond.codeWith (mY M) (mB M) (mN M) (mR M) (h :: r)) :: gtb
def rmM (M : MI) : Room := { frames := mLv M, cells := mU M, slots := 6 * mU M, locals := 40 * mLv M + 60 }
def MetA (M : MI) (as : List AV) (μ : Mem) (P : RES → Mem → Prop) : Prop := ∀ (G : GG) (l : Launch), l.stackTraces = false → vx_Met l (mY M) (wsM M) (rmM M) (PcA G as μ) (QcA G P) (XcA G P) (mU M) (6 * mU M) (gA G)
def CT (M : MI) (G : GG) (p : Program) (l : Launch) (R : Room) (s : State) (m : MethodId) (args : Array Value) (meth : Method) (c : Code) : Prop :=
  p.tables.exec = Jvm.exec ∧ c.code = mB M ∧ meth.sig.returnType = mR M ∧ c.maxLocals = mN M ∧ s.vm.findClass (mY M).cls = some m.cls ∧ (∀ w ∈ gtb, w.before args s = true) ∧ meth.locks = false ∧ l.stackTraces = false ∧
  (mLv M ≤ R.frames ∧ 40 * mLv M + 60 ≤ R.locals ∧ mC M + mU M ≤ R.cells ∧ mS M + 6 * mU M ≤ R.slots) ∧ c.exceptionTable.toList = tableOf (mH M) ∧ SW G s s.heap ∧ NS s ∧ gn0 G ≤ s.heap.size
