/-! building: rows an instruction, calls of constructors -/
abbrev CFG : Type := Nat × LOC × List AV × Mem × Nat × Nat × Nat
def CB (M : MI) (G : GG) (p : Program) (l : Launch) (R : Room) (s : State) (m : MethodId) (args : Array Value) (meth : Method) (c : Code) : Prop :=
  p.tables.exec = Jvm.exec ∧ c.code = mB M ∧ meth.sig.returnType = mR M ∧ c.maxLocals = mN M ∧ s.vm.findClass (mY M).cls = some m.cls ∧ (∀ w ∈ gtb, w.before args s = true) ∧ meth.locks = false ∧ l.stackTraces = false ∧
  (mLv M ≤ R.frames ∧ 40 * mLv M + 60 ≤ R.locals ∧ mC M ≤ R.cells ∧ mS M ≤ R.slots) ∧ SW G s s.heap ∧ NS s ∧ gn0 G ≤ s.heap.size ∧ ((mY M).name = "<init>" → meth.name = "<init>")
/-- from the one place the machine comes to the other -/
def BW (M : MI) (pc : Nat) (loc : LOC) (stk : List AV) (μ : Mem) (n kc ks : Nat) (X : CFG) : Prop :=
  ∀ (G : GG) (p : Program) (l : Launch) (e : Env) (R : Room) (s : State) (m : MethodId) (args : Array Value) (below : List Frame) (meth : Method) (c : Code) (Q : State → Prop), CB M G p l R s m args meth c →
  (∀ (H : Heap) (locs : List Loc) (ls : Array Slot), va_S (gA G) s.heap H locs → HB G X.2.2.2.1 X.2.2.2.2.1 s H → lv_has ls (mN M) (lcv G X.2.1) → W p l e R s m args below meth c H locs X.2.2.2.2.2.1 X.2.2.2.2.2.2 Q (F0 m X.1 ls (X.2.2.1.map (conc G)))) →
  ∀ (H : Heap) (locs : List Loc) (ls : Array Slot), va_S (gA G) s.heap H locs → HB G μ n s H → lv_has ls (mN M) (lcv G loc) → W p l e R s m args below meth c H locs kc ks Q (F0 m pc ls (stk.map (conc G)))
def PcB (G : GG) (as : List AV) (μ : Mem) (n : Nat) : Array Value → State → Prop := fun v U => v = (as.map (conc G)).toArray ∧ HB G μ n U U.heap ∧ SW G U U.heap ∧ NS U
def QcB (G : GG) (μ : Mem) (n : Nat) : Array Value → State → Outcome → State → Prop := fun _ st o t => o = .returned none ∧ HB G μ n t t.heap ∧ va_F (gA G) st t
def rmB (M : MI) : Room := { frames := mLv M, cells := mC M, slots := mS M, locals := 40 * mLv M + 60 }
def MetB (M : MI) (as : List AV) (μ : Mem) (n : Nat) (μ' : Mem) (n' : Nat) : Prop := ∀ (G : GG) (l : Launch), l.stackTraces = false → Met l (mY M) (wsM M) (rmB M) (PcB G as μ n) (QcB G μ' n') (mC M) (mS M) (gA G)
theorem PcB_blind (G : GG) (as : List AV) (μ : Mem) (n : Nat) : FrameBlind (PcB G as μ n) := fun a U g mk h =>
  ⟨h.1, HB.moved (u := U) (U := U.calling g mk a) (Vm.Alike.refl U.vm) h.2.1, ⟨vx_Zq.moved (u := U) (U := U.calling g mk a) (Vm.Alike.refl U.vm) h.2.2.1.1, vx_Zq.moved (u := U) (U := U.calling g mk a) (Vm.Alike.refl U.vm) h.2.2.1.2⟩, NS.same (u := U) (U := U.calling g mk a) rfl h.2.2.2⟩
/-- a final field that holds a reference; a field that holds a number -/
def FPF (own : String) (idx t k : Nat) : Prop := ∃ (D : String) (T : u_T) (N : Nat) (ty0 : Nat → FieldType), vwC[ci t]? = some (D, T, N) ∧ (∀ w ∈ u_ws D T N, w ∈ gtb) ∧ k < N ∧ kd t = 0 ∧ Cond.fieldLink own idx (T k).1 (T k).2.1 (T k).2.2.1 ∈ gtb ∧ (∀ k, k < N → parseFieldDescriptor (T k).2.2.1 = some (ty0 k)) ∧ (∀ a, a < N → ∀ b, b < N → a ≠ b → (T a).2.1 ≠ (T b).2.1) ∧ (T k).2.2.2 = true ∧ (T k).1 = own ∧ (fl t).length = N ∧ (∀ a, narrow (ty0 k) (.ref a) = .ref a) ∧ ∀ a, fits (ty0 k) (.ref a) = true
/-- an object of a class, as 'new' makes it -/
def dfl (t : Nat) : List Value := (fl t).map fun x => match x with
  | none => .int 0
  | some _ => .null
def FN (own : String) (idx t N : Nat) : Prop := ∃ (D : String) (T : u_T) (ty0 : Nat → FieldType), vwC[ci t]? = some (D, T, N) ∧ (∀ w ∈ u_ws D T N, w ∈ gtb) ∧ (∀ k, k < N → parseFieldDescriptor (T k).2.2.1 = some (ty0 k)) ∧ Cond.classLink own idx D ∈ gtb ∧ Cond.instantiable D N ∈ gtb ∧ Cond.initialized D ∈ gtb ∧ kd t = 0 ∧ ∀ j, j < N → defaultValue (ty0 j) = vp_V (dfl t) j
theorem fsB_0 {G : GG} {μ : Mem} {t o : Nat} (h : μ t o = fun _ => 0) : fsB G μ t o = dfl t := by
  unfold fsB dfl
  apply List.ext_getElem?
  intro j
  rw [List.getElem?_mapIdx, List.getElem?_map]
  cases hx : (fl t)[j]? with
  | none => rfl
  | some x =>
    cases x with
    | none => show some (Value.int (μ t o j)) = some (.int 0); rw [h]
    | some q => show some (if μ t o j = 0 then Value.null else _) = some Value.null; rw [h]; rfl
/-- a constructor's call: the plain one, and a nest mate's -/
def CFI0 (M2 : MI) : Prop := wsM M2 = Cond.code (mY M2) (mB M2) (mN M2) (mR M2) :: gtb ∧ Cond.code (mY M2) (mB M2) (mN M2) (mR M2) ∈ gtb ∧ Cond.initialized (mY M2).cls ∈ gtb ∧ ((mY M2).cls ≠ "java/lang/invoke/MethodHandle" ∧ (mY M2).cls ≠ "java/lang/invoke/VarHandle" ∧ (parseMethodDescriptor (mY M2).desc).map (fun d => d.parameters.length) = some 0) ∧ mN M2 ≤ 15 ∧ plainName (mY M2).cls = true ∧ (mY M2).name = "<init>" ∧ Cond.instanceMethod (mY M2) ∈ gtb ∧ mR M2 = none
def CFI (own : String) (idx : Nat) (M2 : MI) : Prop := CFI0 M2 ∧ Cond.methodLink own idx (mY M2) ∈ gtb
def CFIN (own : String) (idx : Nat) (M2 : MI) (host : String) : Prop := CFI0 M2 ∧ Cond.methodLinkNest own idx (mY M2) host ∈ ntb
section BWS
variable {M : MI} {pc n kc ks : Nat} {loc : LOC} {st : List AV} {μ : Mem} {X : CFG}
theorem BW_end : BW M pc loc st μ n kc ks (pc, loc, st, μ, n, kc, ks) := fun G p l e R s m args below meth c Q C K H locs ls hS hB hl => K H locs ls hS hB hl
theorem BW_aload_n {k : Fin 4} {t o : Nat} (d : decode (mB M) pc = .ok (.aload_n k, 1)) (hl0 : loc[(k : Nat)]? = some (some (aR t o))) (k2 : BW M (pc + 1) loc (aR t o :: st) μ n kc ks X) : BW M pc loc st μ n kc ks X := by
  intro G p l e R s m args below meth c Q C K H locs ls hS hB hl
  exact lv_aload_n C.1 C.2.1 d rfl (lcv_at hl hl0) (k2 G p l e R s m args below meth c Q C K H locs ls hS hB hl)
theorem BW_iload_n {k : Fin 4} {x : Int32} (d : decode (mB M) pc = .ok (.iload_n k, 1)) (hl0 : loc[(k : Nat)]? = some (some (aI x))) (k2 : BW M (pc + 1) loc (aI x :: st) μ n kc ks X) : BW M pc loc st μ n kc ks X := by
  intro G p l e R s m args below meth c Q C K H locs ls hS hB hl
  exact lv_iload_n C.1 C.2.1 d rfl (lcv_at hl hl0) (k2 G p l e R s m args below meth c Q C K H locs ls hS hB hl)
theorem BW_iconst {i : Int} {v : Int32} (d : decode (mB M) pc = .ok (.iconst i, 1)) (hv : Int32.ofInt i = v) (k : BW M (pc + 1) loc (aI v :: st) μ n kc ks X) : BW M pc loc st μ n kc ks X := by
  intro G p l e R s m args below meth c Q C K H locs ls hS hB hl
  exact lv_iconst C.1 C.2.1 d hv (k G p l e R s m args below meth c Q C K H locs ls hS hB hl)
theorem BW_bipush {i : Int} {v : Int32} (d : decode (mB M) pc = .ok (.bipush i, 2)) (hv : (Int8.ofInt i).toInt32 = v) (k : BW M (pc + 2) loc (aI v :: st) μ n kc ks X) : BW M pc loc st μ n kc ks X := by
  intro G p l e R s m args below meth c Q C K H locs ls hS hB hl
  exact lv_bipush C.1 C.2.1 d hv (k G p l e R s m args below meth c Q C K H locs ls hS hB hl)
theorem BW_sipush {i : Int} {v : Int32} (d : decode (mB M) pc = .ok (.sipush i, 3)) (hv : (Int16.ofInt i).toInt32 = v) (k : BW M (pc + 3) loc (aI v :: st) μ n kc ks X) : BW M pc loc st μ n kc ks X := by
  intro G p l e R s m args below meth c Q C K H locs ls hS hB hl
  exact lv_sipush C.1 C.2.1 d hv (k G p l e R s m args below meth c Q C K H locs ls hS hB hl)
theorem BW_dup {t o : Nat} (d : decode (mB M) pc = .ok (.dup, 1)) (k : BW M (pc + 1) loc (aR t o :: aR t o :: st) μ n kc ks X) : BW M pc loc (aR t o :: st) μ n kc ks X := by
  intro G p l e R s m args below meth c Q C K H locs ls hS hB hl
  exact lv_dup C.1 C.2.1 d rfl (k G p l e R s m args below meth c Q C K H locs ls hS hB hl)
theorem BW_goto {off : Int} {tgt : Nat} (d : decode (mB M) pc = .ok (.goto off, 3)) (ht : (pc : Int) + off = (tgt : Int)) (k : BW M tgt loc st μ n kc ks X) : BW M pc loc st μ n kc ks X := by
  intro G p l e R s m args below meth c Q C K H locs ls hS hB hl
  exact lv_goto C.1 C.2.1 d ht (k G p l e R s m args below meth c Q C K H locs ls hS hB hl)
theorem BW_icmp_ge {x y : Int32} {off : Int} {tgt : Nat} (d : decode (mB M) pc = .ok (.if_icmp .ge off, 3)) (ht : (pc : Int) + off = (tgt : Int)) (h1 : y ≤ x → BW M tgt loc st μ n kc ks X) (h2 : ¬ y ≤ x → BW M (pc + 3) loc st μ n kc ks X) : BW M pc loc (aI y :: aI x :: st) μ n kc ks X := by
  intro G p l e R s m args below meth c Q C K H locs ls hS hB hl
  exact lv_icmp_ge C.1 C.2.1 d ht (fun q => h1 q G p l e R s m args below meth c Q C K H locs ls hS hB hl) (fun q => h2 q G p l e R s m args below meth c Q C K H locs ls hS hB hl)
theorem BW_istore_n {k : Fin 4} {x : Int32} {loc' : LOC} (d : decode (mB M) pc = .ok (.istore_n k, 1)) (hn : (k : Nat) < mN M) (hk : okst loc (k : Nat) = true) (hl2 : (loc.set (k : Nat) (some (aI x))) = loc') (k2 : BW M (pc + 1) loc' st μ n kc ks X) : BW M pc loc (aI x :: st) μ n kc ks X := by
  intro G p l e R s m args below meth c Q C K H locs ls hS hB hl
  subst hl2
  exact lv_istore_n C.1 C.2.1 d rfl hl hn rfl (fun ls' hl' => k2 G p l e R s m args below meth c Q C K H locs ls' hS hB (lcv_set (v := aI x) hl' hk))
theorem BW_astore_n {k : Fin 4} {t o : Nat} {loc' : LOC} (d : decode (mB M) pc = .ok (.astore_n k, 1)) (hn : (k : Nat) < mN M) (hk : okst loc (k : Nat) = true) (hl2 : (loc.set (k : Nat) (some (aR t o))) = loc') (k2 : BW M (pc + 1) loc' st μ n kc ks X) : BW M pc loc (aR t o :: st) μ n kc ks X := by
  intro G p l e R s m args below meth c Q C K H locs ls hS hB hl
  subst hl2
  exact lv_astore_n C.1 C.2.1 d rfl hl hn rfl (fun ls' hl' => k2 G p l e R s m args below meth c Q C K H locs ls' hS hB (lcv_set (v := aR t o) hl' hk))
theorem BW_astore {i t o : Nat} {loc' : LOC} (d : decode (mB M) pc = .ok (.astore i, 2)) (hn : i < mN M) (hk : okst loc i = true) (hl2 : (loc.set i (some (aR t o))) = loc') (k2 : BW M (pc + 2) loc' st μ n kc ks X) : BW M pc loc (aR t o :: st) μ n kc ks X := by
  intro G p l e R s m args below meth c Q C K H locs ls hS hB hl
  subst hl2
  exact lv_astore C.1 C.2.1 d hl hn rfl (fun ls' hl' => k2 G p l e R s m args below meth c Q C K H locs ls' hS hB (lcv_set (v := aR t o) hl' hk))
theorem BW_istore {i : Nat} {x : Int32} {loc' : LOC} (d : decode (mB M) pc = .ok (.istore i, 2)) (hn : i < mN M) (hk : okst loc i = true) (hl2 : (loc.set i (some (aI x))) = loc') (k2 : BW M (pc + 2) loc' st μ n kc ks X) : BW M pc loc (aI x :: st) μ n kc ks X := by
  intro G p l e R s m args below meth c Q C K H locs ls hS hB hl
  subst hl2
  exact lv_istore C.1 C.2.1 d hl hn rfl (fun ls' hl' => k2 G p l e R s m args below meth c Q C K H locs ls' hS hB (lcv_set (v := aI x) hl' hk))
theorem BW_iinc {i : Nat} {k : Int} {x v : Int32} {loc' : LOC} (d : decode (mB M) pc = .ok (.iinc i k, 3)) (hl0 : loc[i]? = some (some (aI x))) (hv : x + Int32.ofInt k = v) (hn : i < mN M) (hk : okst loc i = true) (hl2 : (loc.set i (some (aI v))) = loc') (k2 : BW M (pc + 3) loc' st μ n kc ks X) : BW M pc loc st μ n kc ks X := by
  intro G p l e R s m args below meth c Q C K H locs ls hS hB hl
  subst hl2
  obtain ⟨j, hj⟩ := List.getElem?_of_mem (lcv_mem.mpr ⟨aI x, hl0, rfl⟩ : (i, conc G (aI x)) ∈ lcv G loc)
  exact lv_iinc C.1 C.2.1 d hl hj hv hn rfl (fun ls' hl' => k2 G p l e R s m args below meth c Q C K H locs ls' hS hB (lcv_set (v := aI v) hl' hk))
theorem BW_init {t o idx : Nat} (d : decode (mB M) pc = .ok (.invokespecial idx, 3)) (hf : Cond.methodLink (mY M).cls idx Lib.objectInit ∈ gtb) (hlv : 1 ≤ mLv M) (hcs : (st.map cat).sum ≤ 8) (k : BW M (pc + 3) loc st μ n kc ks X) : BW M pc loc (aR t o :: st) μ n kc ks X := by
  intro G p l e R s m args below meth c Q C K H locs ls hS hB hl
  have hR := C.2.2.2.2.2.2.2.2.1
  have hcs2 : ((st.map (conc G)).map fun v => v.category).sum ≤ 8 := by rw [cat_sum]; exact hcs
  refine W.objInit C.1 C.2.1 C.2.2.2.2.1 (C.2.2.2.2.2.1 _ hf) (C.2.2.2.2.2.1 _ gw_oi) (C.2.2.2.2.2.1 _ gw_oc) rfl (hl.1.trans C.2.2.2.1.symm) rfl d (by omega) ?_ (k G p l e R s m args below meth c Q C K H locs ls hS hB hl)
  show 2 * 0 + _ + 12 ≤ _
  omega
theorem BW_put {t o k idx : Nat} {v : Int32} (d : decode (mB M) pc = .ok (.putfield idx, 3)) (hf : FP2 (mY M).cls idx t k .int) (hx : (fl t)[k]? = some none) (hc : hasC t o = true) (hi : idf t o < n) (k2 : BW M (pc + 3) loc st (mset μ t o (upd (μ t o) k v)) n kc ks X) : BW M pc loc (aI v :: aR t o :: st) μ n kc ks X := by
  intro G p l e R s m args below meth c Q C K H locs ls hS hB hl
  obtain ⟨D, T, N, ty0, f1, f2, f3, f4, f5, f6, f7, f8, f9, f10⟩ := hf
  have ht : t ≠ 28 := fun h => by rw [h] at f4; exact absurd f4 (by decide)
  have hw := wlB_get (G := G) (μ := μ) hi
  rw [(idf_ok hc).1] at hw
  have h0 : entB G μ t o = .inr (ci t, fsB G μ t o) := if_pos f4
  rw [h0] at hw
  refine bb_put (v := .int v) C.1 C.2.1 C.2.2.2.2.2.1 f2 ty0 f6 f7 C.2.2.2.2.1 hB.1 hB.2.1 hB.D hS (idf t o) hw f1 k f3 (C.2.2.2.2.2.1 _ f5) (fun _ h => h) f8 (f6 k f3) (by rw [f9]; rfl) (by rw [f9]; rfl) (by rw [fsB_len, f10]; exact f3) d (fun H1 locs1 hz oq hP hS1 => ?_)
  have hg : gad G t o = gn0 G + idf t o := hB.2.2.2.2.2.1 t o hc
  refine k2 G p l e R s m args below meth c Q C K H1 locs1 ls hS1 (hB.put hc ht (fun t' o' q => mset_n q) ?_ hz (oq _ (fun q : gad G 99 0 = gad G t o => by have := hB.2.2.2.1; omega))) hl
  rw [show entB G (mset μ t o (upd (μ t o) k v)) t o = .inr (ci t, (fsB G μ t o).set k (.int v)) from by
    rw [show entB G (mset μ t o (upd (μ t o) k v)) t o = .inr (ci t, fsB G (mset μ t o (upd (μ t o) k v)) t o) from if_pos f4, fsB_set hx]
    show (Sum.inr (ci t, List.set _ k (Value.int (mset μ t o (upd (μ t o) k v) t o k))) : va_E) = _
    rw [mset_s, uget, if_pos rfl]]
  exact hP
theorem BW_putF {t o k idx t2 o2 : Nat} {q : Nat × Option Nat} (d : decode (mB M) pc = .ok (.putfield idx, 3)) (hf : FPF (mY M).cls idx t k) (hx : (fl t)[k]? = some (some q)) (htg : tgt o q = (t2, o2)) (hc : hasC t o = true) (hi : idf t o < n) (hnm : (mY M).name = "<init>") (k2 : BW M (pc + 3) loc st (mset μ t o (upd (μ t o) k 1)) n kc ks X) : BW M pc loc (aR t2 o2 :: aR t o :: st) μ n kc ks X := by
  intro G p l e R s m args below meth c Q C K H locs ls hS hB hl
  obtain ⟨D, T, N, ty0, f1, f2, f3, f4, f5, f6, f7, f8, f9, f10, f11, f12⟩ := hf
  have ht : t ≠ 28 := fun h => by rw [h] at f4; exact absurd f4 (by decide)
  have hw := wlB_get (G := G) (μ := μ) hi
  rw [(idf_ok hc).1] at hw
  have h0 : entB G μ t o = .inr (ci t, fsB G μ t o) := if_pos f4
  rw [h0] at hw
  refine bb_putF (v := .ref (gad G t2 o2)) C.1 C.2.1 C.2.2.2.2.2.1 f2 ty0 f6 f7 C.2.2.2.2.1 hB.1 hB.2.1 hB.D hS (idf t o) hw f1 k f3 (C.2.2.2.2.2.1 _ f5) (fun _ h => h) f8 (C.2.2.2.2.2.2.2.2.2.2.2.2 hnm) f9 (f6 k f3) (f11 _) (f12 _) (by rw [fsB_len, f10]; exact f3) d (fun H1 locs1 hz oq hP hS1 => ?_)
  have hg : gad G t o = gn0 G + idf t o := hB.2.2.2.2.2.1 t o hc
  refine k2 G p l e R s m args below meth c Q C K H1 locs1 ls hS1 (hB.put hc ht (fun t' o' q => mset_n q) ?_ hz (oq _ (fun q : gad G 99 0 = gad G t o => by have := hB.2.2.2.1; omega))) hl
  rw [show entB G (mset μ t o (upd (μ t o) k 1)) t o = .inr (ci t, (fsB G μ t o).set k (.ref (gad G t2 o2))) from by
    rw [show entB G (mset μ t o (upd (μ t o) k 1)) t o = .inr (ci t, fsB G (mset μ t o (upd (μ t o) k 1)) t o) from if_pos f4, fsB_set hx]
    show (Sum.inr (ci t, List.set _ k (if mset μ t o (upd (μ t o) k 1) t o k = 0 then Value.null else .ref (gad G (tgt o q).1 (tgt o q).2))) : va_E) = _
    rw [mset_s, uget, if_pos rfl, if_neg (by decide), htg]]
  exact hP
theorem BW_getf {t o k idx t2 o2 : Nat} {q : Nat × Option Nat} (d : decode (mB M) pc = .ok (.getfield idx, 3)) (hf : FF (mY M).cls idx t k) (hx : (fl t)[k]? = some (some q)) (htg : tgt o q = (t2, o2)) (hc : hasC t o = true) (hi : idf t o < n) (h1 : ¬ μ t o k = 0) (k2 : BW M (pc + 3) loc (aR t2 o2 :: st) μ n kc ks X) : BW M pc loc (aR t o :: st) μ n kc ks X := by
  intro G p l e R s m args below meth c Q C K H locs ls hS hB hl
  obtain ⟨D, T, N, f1, f2, f3, f4, f5⟩ := hf
  have hw := wlB_get (G := G) (μ := μ) hi
  rw [(idf_ok hc).1] at hw
  have h0 : entB G μ t o = .inr (ci t, fsB G μ t o) := if_pos f4
  rw [h0] at hw
  refine va_get (v := .ref (gad G t2 o2)) C.1 C.2.1 C.2.2.2.2.2.1 f2 C.2.2.2.2.1 hB.1 hB.2.1 (idf t o) hw f1 k f3 (C.2.2.2.2.2.1 _ f5) (fun _ h => h) ?_ d (k2 G p l e R s m args below meth c Q C K H locs ls hS hB hl)
  unfold fsB
  rw [List.getElem?_mapIdx, hx]
  show some (if μ t o k = 0 then Value.null else .ref (gad G (tgt o q).1 (tgt o q).2)) = _
  rw [if_neg h1, htg]
theorem BW_new {t o idx N : Nat} (d : decode (mB M) pc = .ok (.new idx, 3)) (hf : FN (mY M).cls idx t N) (ho : ordf n = (t, o)) (hn : n < 150) (h0 : μ t o = fun _ => 0) (hkc : kc + 1 ≤ mC M) (hks : ks + N ≤ mS M) (k : BW M (pc + 3) loc (aR t o :: st) μ (n + 1) (kc + 1) (ks + N) X) : BW M pc loc st μ n kc ks X := by
  intro G p l e R s m args below meth c Q C K H locs ls hS hB hl
  obtain ⟨D, T, ty0, f1, f2, f3, f4, f5, f6, f7, f8⟩ := hf
  have hR := C.2.2.2.2.2.2.2.2.1
  have hKn := hB.1.1 (ci t) _ f1
  refine W.newcK C.1 C.2.1 C.2.2.2.2.1 (C.2.2.2.2.2.1 _ f4) (C.2.2.2.2.2.1 _ f5) (C.2.2.2.2.2.1 _ f6) rfl d (by omega) (by omega) hKn.2.1 rfl fun H1 kC hkC e1 z1 o1 => ?_
  have ha : gad G t o = H.size := by
    have := hB.2.2.2.2.2.1.o hn
    rw [ho] at this
    rw [this, hB.2.2.2.2.1]
  have hB1 : HB G μ (n + 1) s H1 := by
    refine hB.push hn z1 o1 ?_
    rw [ho]
    show va_at (gD G) vwC (gad G t o, entB G μ t o) H1
    rw [show entB G μ t o = .inr (ci t, fsB G μ t o) from if_pos f7, fsB_0 h0, ha]
    exact ⟨_, f1, (u_born ty0 C.2.2.2.2.2.1 f2 hKn hkC e1 f3).to f8⟩
  have hS1 : va_S (gA G) s.heap H1 locs := ⟨Nat.le_trans hS.1 (by omega), fun x h1 h2 => (o1 x (Nat.lt_of_lt_of_le h1 hS.1)).trans (hS.2.1 x h1 h2), hS.2.2⟩
  have kk := k G p l e R s m args below meth c Q C K H1 locs ls hS1 hB1 hl
  rw [List.map_cons, show conc G (aR t o) = .ref H.size by show Value.ref (gad G t o) = _; rw [ha]] at kk
  exact kk
theorem BW_newa {t o j N : Nat} {atype : ArrayType} {ty : FieldType} {nn : Int32} {a0 : vp_A} (d : decode (mB M) pc = .ok (.newarray atype, 2)) (harr : Cond.arrayClass (newarray.typeOf atype) ∈ gtb) (hty : newarray.typeOf atype = ty) (hva : ∀ (U : State) (cA : ClassId), va_RA U cA ty → U.vm.findClass ("[" ++ ty.toString) = some cA) (hj : ∀ G : GG, (tysG G)[j]? = some (gcy G (j + 1), ty)) (ho : ordf n = (t, o)) (hn : n < 150) (hent : ∀ G : GG, entB G μ t o = .inl (gcy G (j + 1), a0)) (ha0 : ∀ cA : ClassId, vp_cell cA a0 = arrV cA N (fun _ => defaultValue ty)) (h0 : ¬ nn < 0) (hN : nn.toNatClampNeg = N) (hb : N * componentBytes ty ≤ 536870912) (hkc : kc + 1 ≤ mC M) (hks : ks + N ≤ mS M) (k : BW M (pc + 2) loc (aR t o :: st) μ (n + 1) (kc + 1) (ks + N) X) : BW M pc loc (aI nn :: st) μ n kc ks X := by
  intro G p l e R s m args below meth c Q C K H locs ls hS hB hl
  have hR := C.2.2.2.2.2.2.2.2.1
  subst hty
  refine va_newaK C.1 C.2.1 (C.2.2.2.2.2.1 _ harr) rfl d rfl h0 hN hb (by omega) (by omega) rfl fun H1 cA e1 z1 o1 hAr hNm => ?_
  have hcA : cA = gcy G (j + 1) := Option.some.inj (hNm.symm.trans (hva s _ ((hB.1.2 j _ (hj G)).2)))
  have ha : gad G t o = H.size := by
    have := hB.2.2.2.2.2.1.o hn
    rw [ho] at this
    rw [this, hB.2.2.2.2.1]
  have hB1 : HB G μ (n + 1) s H1 := by
    refine hB.push hn z1 o1 ?_
    rw [ho]
    show va_at (gD G) vwC (gad G t o, entB G μ t o) H1
    rw [hent G, ha]
    show H1[H.size]? = some (vp_cell (gcy G (j + 1)) a0)
    rw [ha0, ← hcA]
    exact e1
  have hS1 : va_S (gA G) s.heap H1 locs := ⟨Nat.le_trans hS.1 (by omega), fun x h1 h2 => (o1 x (Nat.lt_of_lt_of_le h1 hS.1)).trans (hS.2.1 x h1 h2), hS.2.2⟩
  have kk := k G p l e R s m args below meth c Q C K H1 locs ls hS1 hB1 hl
  rw [List.map_cons, show conc G (aR t o) = .ref H.size by show Value.ref (gad G t o) = _; rw [ha]] at kk
  exact kk
theorem BW_anew {idx : Nat} (d : decode (mB M) pc = .ok (.anewarray idx, 3)) (hcl : Cond.classLink (mY M).cls idx "ErrataPress$State" ∈ gtb) (ho : ordf n = (13, 0)) (hn : n < 150) (h0 : μ 13 0 = fun _ => 0) (hkc : kc + 1 ≤ mC M) (hks : ks + 8 ≤ mS M) (k : BW M (pc + 3) loc (aR 13 0 :: st) μ (n + 1) (kc + 1) (ks + 8) X) : BW M pc loc (aI 8 :: st) μ n kc ks X := by
  intro G p l e R s m args below meth c Q C K H locs ls hS hB hl
  have hR := C.2.2.2.2.2.2.2.2.1
  refine W.anew C.1 C.2.1 C.2.2.2.2.1 (C.2.2.2.2.2.1 _ hcl) (va_AO.use hB.2.2.2.2.2.2.2) rfl d rfl (by decide) (by decide) (by omega) (by show ks + 8 ≤ _; omega) fun cA kA comp f1 f2 f3 f4 => ?_
  generalize hH1 : H.push ({ cls := cA, slots := Array.replicate (8 : Int32).toNatClampNeg .null, vm := .none } : Cell) = H1
  have z1 : H1.size = H.size + 1 := by rw [← hH1, Array.size_push]
  have e1 : H1[H.size]? = some (arrV cA 8 (fun _ => .null)) := by rw [← hH1, Array.getElem?_push_size, ← arrV_new]; rfl
  have o1 : ∀ q : Nat, q < H.size → H1[q]? = H[q]? := fun q hq => by rw [← hH1, Array.getElem?_push, if_neg (Nat.ne_of_lt hq)]
  have hcA : cA = gcy G 3 := by
    obtain ⟨kA2, comp2, -, -, -, h4⟩ := (hB.1.2 2 _ (show (tysG G)[2]? = some (gcy G 3, .object "ErrataPress$State") from rfl)).2
    exact Option.some.inj (f1.symm.trans h4)
  have ha : gad G 13 0 = H.size := by
    have := hB.2.2.2.2.2.1.o hn
    rw [ho] at this
    rw [this, hB.2.2.2.2.1]
  have hB1 : HB G μ (n + 1) s H1 := by
    refine hB.push hn z1 o1 ?_
    rw [ho]
    show va_at (gD G) vwC (gad G 13 0, entB G μ 13 0) H1
    rw [ha, show entB G μ 13 0 = .inl (gcy G 3, 8, .inr (.inr (.inr (.inr (fun i => if μ 13 0 i = 0 then none else some (gad G 0 (4 + i))))))) from rfl, h0]
    show H1[H.size]? = some (vp_cell (gcy G 3) _)
    rw [vp_cell_q, ← hcA]
    exact e1
  have hS1 : va_S (gA G) s.heap H1 locs := ⟨Nat.le_trans hS.1 (by omega), fun x h1 h2 => (o1 x (Nat.lt_of_lt_of_le h1 hS.1)).trans (hS.2.1 x h1 h2), hS.2.2⟩
  have kk := k G p l e R s m args below meth c Q C K H1 locs ls hS1 hB1 hl
  rw [List.map_cons, show conc G (aR 13 0) = .ref H.size by show Value.ref (gad G 13 0) = _; rw [ha]] at kk
  exact kk
theorem BW_aastore {i : Int32} (d : decode (mB M) pc = .ok (.aastore, 1)) (hin : vp_in i 8) (h13 : 46 < n) (hi : idf 0 (4 + i.toNatClampNeg) < n) (k2 : BW M (pc + 1) loc st (mset μ 13 0 (upd (μ 13 0) i.toNatClampNeg 1)) n kc ks X) : BW M pc loc (aR 0 (4 + i.toNatClampNeg) :: aI i :: aR 13 0 :: st) μ n kc ks X := by
  intro G p l e R s m args below meth c Q C K H locs ls hS hB hl
  have h8 : i.toNatClampNeg < 8 := vp_lt hin
  have hc : hasC 0 (4 + i.toNatClampNeg) = true := decide_eq_true (by omega)
  have hw := wlB_get (G := G) (μ := μ) h13
  rw [show ordf 46 = (13, 0) from rfl] at hw
  have hw2 := wlB_get (G := G) (μ := μ) hi
  rw [(idf_ok hc).1] at hw2
  refine bb_astq C.1 C.2.1 hB.1 hB.2.1 hB.D hS 46 2 (idf 0 (4 + i.toNatClampNeg)) 4 (cA := gcy G 3) (r := (RX4, TX4, 18)) (n := 8) (f := fun i => if μ 13 0 i = 0 then none else some (gad G 0 (4 + i))) (v := gad G 0 (4 + i.toNatClampNeg)) (vs := fsB G μ 0 (4 + i.toNatClampNeg)) hw rfl hw2 rfl hin d (fun H1 locs1 hz oq hP hS1 => ?_)
  have hg : gad G 13 0 = gn0 G + 46 := hB.2.2.2.2.2.1 13 0 rfl
  refine k2 G p l e R s m args below meth c Q C K H1 locs1 ls hS1 (hB.put (t := 13) (o := 0) rfl (by decide) (fun t' o' q => mset_n q) ?_ hz (oq _ (fun q : gad G 99 0 = gad G 13 0 => by have := hB.2.2.2.1; omega))) hl
  rw [show entB G (mset μ 13 0 (upd (μ 13 0) i.toNatClampNeg 1)) 13 0 = .inl (gcy G 3, 8, .inr (.inr (.inr (.inr (va_up (fun i => if μ 13 0 i = 0 then none else some (gad G 0 (4 + i))) i.toNatClampNeg (some (gad G 0 (4 + i.toNatClampNeg)))))))) from by
    show (Sum.inl (gcy G 3, 8, .inr (.inr (.inr (.inr (fun j => if mset μ 13 0 (upd (μ 13 0) i.toNatClampNeg 1) 13 0 j = 0 then none else some (gad G 0 (4 + j))))))) : va_E) = _
    congr 7
    funext j
    rw [mset_s, uget, vget]
    by_cases h : j = i.toNatClampNeg
    · rw [if_pos h, if_pos h, if_neg (by decide), h]
    · rw [if_neg h, if_neg h]]
  exact hP
/-- behind a constructor's call -/
theorem BW_after {G : GG} {p : Program} {l : Launch} {e : Env} {R : Room} {s : State} {m : MethodId} {args : Array Value} {below : List Frame} {meth : Method} {c : Code} {H : Heap} {locs : List Loc} {cells slots mc ms n' : Nat} {ls : Array Slot} {st0 rest : List Value} {a : Array Value} {Q : State → Prop} {μ' : Mem}
    (hr : va_Run p l e R s m args below meth c H locs cells slots mc ms (F0 m pc ls st0) rest (QcB G μ' n' a) (gA G)) (hS : va_S (gA G) s.heap H locs)
    (kk : ∀ (H1 : Heap) (locs1 : List Loc), va_S (gA G) s.heap H1 locs1 → HB G μ' n' s H1 → W p l e R s m args below meth c H1 locs1 (cells + mc) (slots + ms) Q (F0 m (pc + 3) ls rest)) :
    W p l e R s m args below meth c H locs cells slots Q (F0 m pc ls st0) := by
  intro T hT X
  obtain ⟨v, st₀, t, T', L, h0, X', hL, e1, e2, ⟨hv, hw, hF⟩, st⟩ := hr T hT X
  cases hv
  obtain ⟨k1, k2, k3⟩ := vx_keep h0 e1 hS (fun _ _ h => h) (fun _ h => h) hL hF
  have ha : t.vm.Alike s.vm := by rw [← e2]; exact X'.warmed.alike.symm
  obtain ⟨t2, a1, b1⟩ := kk T'.heap (locs ++ L) k3 (by rw [e1]; exact hw.moved ha) T' rfl X'
  exact ⟨t2, st t2 a1, b1⟩
theorem PcB_at {G : GG} {p : Program} {l : Launch} {R : Room} {s : State} {m : MethodId} {args : Array Value} {meth : Method} {c : Code} (C : CB M G p l R s m args meth c) {H : Heap} {locs : List Loc} (hS : va_S (gA G) s.heap H locs) (hB : HB G μ n s H) (as : List AV) : ∀ U : State, U.heap = H → s.WarmedH U.vm → PcB G as μ n (as.map (conc G)).toArray U :=
  fun U hU hw => ⟨rfl, by rw [hU]; exact hB.moved hw.alike, C.2.2.2.2.2.2.2.2.2.1.at hw.alike hS hU, NS.warm hw C.2.2.2.2.2.2.2.2.2.2.1⟩
theorem BW_callI {t o idx n' : Nat} {M2 : MI} {μ' : Mem} (d : decode (mB M) pc = .ok (.invokespecial idx, 3)) (hf : CFI (mY M).cls idx M2) (hlv : mLv M2 + 1 ≤ mLv M) (hkc : kc + mC M2 ≤ mC M) (hks : ks + mS M2 ≤ mS M) (hcs : (st.map cat).sum ≤ 8) (hM : MetB M2 [aR t o] μ n μ' n') (k : BW M (pc + 3) loc st μ' n' (kc + mC M2) (ks + mS M2) X) : BW M pc loc (aR t o :: st) μ n kc ks X := by
  intro G p l e R s m args below meth c Q C K H locs ls hS hB hl
  obtain ⟨⟨f1, f2, f3, f4, f5, f6, f7, f8, f9⟩, g1⟩ := hf
  have hR := C.2.2.2.2.2.2.2.2.1
  have cw := cwI (bytes := mB M2) (maxL := mN M2) (ws := wsM M2) (ws' := gtb) (own := (mY M).cls) (index := idx) (rm := rmB M2) (mc := mC M2) (ms := mS M2) (R := R) 0 C.2.2.2.2.2.1 (gtb_in (fun w h => by
    rw [f1] at h
    rcases List.mem_cons.mp h with rfl | h
    · exact f2
    · exact h)) (by rw [f1, f9]) rfl rfl (C.2.2.2.2.2.1 _ f3) (C.2.2.2.2.2.1 _ g1) (C.2.2.2.2.2.1 _ f8) f7 f4 ⟨by show mLv M2 + 1 ≤ _; omega, by show 8 + (mN M2 + 11) + (40 * mLv M2 + 60) ≤ _; omega⟩
  have rn := va_runI (b := gad G t o) (As := []) (rest := st.map (conc G)) (g := F0 m pc ls ((aR t o :: st).map (conc G))) (H := H) (locs := locs) (cells := kc) (slots := ks) (e := e) (below := below) (meth := meth) (⟨C.1, C.2.1, C.2.2.2.1, C.2.2.2.2.1, C.2.2.2.2.2.1⟩ : CallFix p m c (mB M) (mN M) s args gtb (mY M).cls) (hM G l C.2.2.2.2.2.2.2.1) cw ⟨PcB_blind G _ μ n, PcB_at C hS hB [aR t o]⟩ rfl rfl hl.1 rfl (lv_room (by rw [cat_sum]; exact hcs)) d ⟨by omega, by omega⟩
  exact BW_after rn hS (fun H1 locs1 hS1 hB1 => k G p l e R s m args below meth c Q C K H1 locs1 ls hS1 hB1 hl)
theorem BW_callIN {t o idx n' : Nat} {M2 : MI} {μ' : Mem} {host : String} (d : decode (mB M) pc = .ok (.invokespecial idx, 3)) (hf : CFIN (mY M).cls idx M2 host) (hlv : mLv M2 + 1 ≤ mLv M) (hkc : kc + mC M2 ≤ mC M) (hks : ks + mS M2 ≤ mS M) (hcs : (st.map cat).sum ≤ 8) (hM : MetB M2 [aR t o] μ n μ' n') (k : BW M (pc + 3) loc st μ' n' (kc + mC M2) (ks + mS M2) X) : BW M pc loc (aR t o :: st) μ n kc ks X := by
  intro G p l e R s m args below meth c Q C K H locs ls hS hB hl
  obtain ⟨⟨f1, f2, f3, f4, f5, f6, f7, f8, f9⟩, g1⟩ := hf
  have hR := C.2.2.2.2.2.2.2.2.1
  have cw := va_cnB (bytes := mB M2) (maxL := mN M2) (ws := wsM M2) (ws' := gtb) (own := (mY M).cls) (host := host) (index := idx) (rm := rmB M2) (mc := mC M2) (ms := mS M2) (R := R) (ret := none) 0 C.2.2.2.2.2.1 (gtb_in (fun w h => by
    rw [f1] at h
    rcases List.mem_cons.mp h with rfl | h
    · exact f2
    · exact h)) (by rw [f1, f9]) rfl rfl (C.2.2.2.2.2.2.2.2.2.2.1.1 _ g1) (C.2.2.2.2.2.1 _ f3) f4 ⟨by show mLv M2 + 1 ≤ _; omega, by show 8 + (mN M2 + 11) + (40 * mLv M2 + 60) ≤ _; omega⟩
  have rn := va_runIN (b := gad G t o) (As := []) (rest := st.map (conc G)) (g := F0 m pc ls ((aR t o :: st).map (conc G))) (H := H) (locs := locs) (cells := kc) (slots := ks) (e := e) (below := below) (meth := meth) (⟨C.1, C.2.1, C.2.2.2.1, C.2.2.2.2.1, C.2.2.2.2.2.1⟩ : CallFix p m c (mB M) (mN M) s args gtb (mY M).cls) (hM G l C.2.2.2.2.2.2.2.1) ⟨cw, f7, C.2.2.2.2.2.1 _ f8⟩ ⟨PcB_blind G _ μ n, PcB_at C hS hB [aR t o]⟩ rfl rfl hl.1 rfl (lv_room (by rw [cat_sum]; exact hcs)) d ⟨by omega, by omega⟩
  exact BW_after rn hS (fun H1 locs1 hS1 hB1 => k G p l e R s m args below meth c Q C K H1 locs1 ls hS1 hB1 hl)
/-- a constructor, out of its body -/
theorem MetB.of {t o pcR n' kcR ksR : Nat} {locR : LOC} {μ' : Mem} (hf : CFI0 M) (hlen : 1 ≤ mN M) (d : decode (mB M) pcR = .ok (.return_, 1)) (hkc : kcR ≤ mC M) (hks : ksR ≤ mS M) (hloc : some (aR t o) :: List.replicate (mN M - 1) none = loc) (k : BW M 0 loc [] μ n 0 0 (pcR, locR, [], μ', n', kcR, ksR)) : MetB M [aR t o] μ n μ' n' := by
  intro G l hl
  obtain ⟨f1, f2, f3, f4, f5, f6, f7, f8, f9⟩ := hf
  refine Met.ofW (cc := mB M) (maxL := mN M) (ret := mR M) f6 f1 ?_
  intro p e s m args below meth c s₁ B hml hv
  obtain ⟨rfl, hB, hSW, hNS⟩ := hv
  have hts : ∀ w ∈ gtb, w.before ([aR t o].map (conc G)).toArray s = true := fun w hw => atoms_spec (ws := wsM M) B.pre w (by rw [f1]; exact List.mem_cons_of_mem _ hw)
  have hlv := lv_entry ([aR t o].map (conc G)) (n := mN M) (by
    show 1 ≤ mN M
    exact hlen)
  rw [lg_entry_eq]
  have hl0 : lv_has ((lg_sl ([aR t o].map (conc G)) ++ List.replicate (mN M - (lg_sl ([aR t o].map (conc G))).length) Slot.unset).toArray) (mN M) (lcv G loc) := by
    refine ⟨hlv.1, hlv.2.1, fun q hq => ?_⟩
    obtain ⟨v, h1, h2⟩ := lcv_mem.mp (show (q.1, q.2) ∈ lcv G loc from hq)
    rw [← hloc] at h1
    cases hq1 : q.1 with
    | zero =>
      rw [hq1] at h1
      cases h1
      rw [h2]
      rfl
    | succ i =>
      rw [hq1, List.getElem?_cons_succ, List.getElem?_replicate] at h1
      split at h1 <;> cases h1
  have C : CB M G p l (headSpec (wsM M) (rmB M)).room s m ([aR t o].map (conc G)).toArray meth c := ⟨B.exec, B.bytes, B.returns, hml, findClass_of_methodNamed B.named, hts, B.notSynchronized, hl, ⟨Nat.le_refl _, Nat.le_refl _, Nat.le_refl _, Nat.le_refl _⟩, hSW, hNS, by rw [hB.2.2.2.2.1]; exact Nat.le_add_right _ _, fun _ => (name_of_methodNamed B.named B.method).1.trans f7⟩
  refine k G p l e (headSpec (wsM M) (rmB M)).room s m _ below meth c _ C (fun H locs ls hS hB hl => ?_) s.heap [] _ va_S.rf hB hl0
  refine W.widen (k := mC M) (n := mS M) hkc hks ?_
  exact W.vret C.1 C.2.1 (C.2.2.1.trans f9) (fun t ht hW' => ⟨rfl, by rw [ht]; exact hB.moved hW'.alike, hS.F ht⟩) hS.2.2 d B.notSynchronized
end BWS
