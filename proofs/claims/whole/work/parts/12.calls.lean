/-! returns, calls, throws, a method out of its body -/
theorem gtb_good {w : Cond} (h : w ∈ gtb) : (w.onTables && w.keeps) = true ∨ ∃ ty, w = .arrayClass ty := good_of_word (List.mem_filter.mp h).2
theorem gtb_in {ws : List Cond} (h : ∀ w ∈ ws, w ∈ gtb) : GoodIn gtb ws := fun w hw => ⟨h w hw, gtb_good (h w hw)⟩
theorem HW.at {G : GG} {μ : Mem} {s t : State} {H : Heap} (h : HW G μ s H) (hvm : s.vm.Alike t.vm) (ht : t.heap = H) : HW G μ t t.heap := by rw [ht]; exact h.moved hvm
theorem SW.at {G : GG} {s U : State} {H : Heap} {locs : List Loc} (h : SW G s s.heap) (hvm : s.vm.Alike U.vm) (hS : va_S (gA G) s.heap H locs) (ht : U.heap = H) : SW G U U.heap := by
  rw [ht]
  exact ⟨(vx_Zq.moved hvm h.1).kept hS.2.1, (vx_Zq.moved hvm h.2).kept hS.2.1⟩
theorem PcA_blind (G : GG) (as : List AV) (μ : Mem) : FrameBlind (PcA G as μ) := fun a U g mk h =>
  ⟨h.1, HW.moved (u := U) (U := U.calling g mk a) (Vm.Alike.refl U.vm) h.2.1, ⟨vx_Zq.moved (u := U) (U := U.calling g mk a) (Vm.Alike.refl U.vm) h.2.2.1.1, vx_Zq.moved (u := U) (U := U.calling g mk a) (Vm.Alike.refl U.vm) h.2.2.1.2⟩, NS.same (u := U) (U := U.calling g mk a) rfl h.2.2.2⟩
theorem cat_sum (G : GG) (st : List AV) : ((st.map (conc G)).map fun v => v.category).sum = (st.map cat).sum := by
  rw [List.map_map]
  rw [show ((fun v : Value => v.category) ∘ conc G) = cat from funext fun v => cat_conc G v]
section AWC
variable {M : MI} {u pc : Nat} {loc : LOC} {st : List AV} {μ : Mem} {P : RES → Mem → Prop}
theorem AW_ireturn {x : Int32} {ty : FieldType} (d : decode (mB M) pc = .ok (.ireturn, 1)) (hr : mR M = some ty) (hn : narrow ty (.int x) = .int x) (h : P (.inl (some (aI x))) μ) : AW M u pc loc [aI x] μ P := by
  intro G p l e R s m args below meth c C H locs ls hS hW hl hu
  refine vx_ret (W.widen (k := mC M + mU M) (n := mS M + 6 * mU M) (by omega) (by omega) ?_)
  exact W.zret C.1 C.2.1 (C.2.2.1.trans hr) hn (fun t ht hW' => ⟨some (aI x), μ, rfl, h, hW.at hW'.alike ht, hS.F ht⟩) hS.2.2 d C.2.2.2.2.2.2.1
theorem AW_return (d : decode (mB M) pc = .ok (.return_, 1)) (hr : mR M = none) (h : P (.inl none) μ) : AW M u pc loc [] μ P := by
  intro G p l e R s m args below meth c C H locs ls hS hW hl hu
  refine vx_ret (W.widen (k := mC M + mU M) (n := mS M + 6 * mU M) (by omega) (by omega) ?_)
  exact W.vret C.1 C.2.1 (C.2.2.1.trans hr) (fun t ht hW' => ⟨none, μ, rfl, h, hW.at hW'.alike ht, hS.F ht⟩) hS.2.2 d C.2.2.2.2.2.2.1
theorem AW_dreturn {x : UInt64} (d : decode (mB M) pc = .ok (.dreturn, 1)) (hr : mR M = some .double) (h : P (.inl (some (aD x))) μ) : AW M u pc loc [aD x] μ P := by
  intro G p l e R s m args below meth c C H locs ls hS hW hl hu
  refine vx_ret (W.widen (k := mC M + mU M) (n := mS M + 6 * mU M) (by omega) (by omega) ?_)
  exact W.dret C.1 C.2.1 (C.2.2.1.trans hr) (fun t ht hW' => ⟨some (aD x), μ, rfl, h, hW.at hW'.alike ht, hS.F ht⟩) hS.2.2 d C.2.2.2.2.2.2.1
theorem AW_freturn {x : UInt32} (d : decode (mB M) pc = .ok (.freturn, 1)) (hr : mR M = some .float) (h : P (.inl (some (aF x))) μ) : AW M u pc loc [aF x] μ P := by
  intro G p l e R s m args below meth c C H locs ls hS hW hl hu
  refine vx_ret (W.widen (k := mC M + mU M) (n := mS M + 6 * mU M) (by omega) (by omega) ?_)
  exact W.fret C.1 C.2.1 (C.2.2.1.trans hr) (fun t ht hW' => ⟨some (aF x), μ, rfl, h, hW.at hW'.alike ht, hS.F ht⟩) hS.2.2 d C.2.2.2.2.2.2.1
/-- behind a call -/
theorem AW_after {G : GG} {p : Program} {l : Launch} {e : Env} {R : Room} {s : State} {m : MethodId} {args : Array Value} {below : List Frame} {meth : Method} {c : Code} {H : Heap} {locs : List Loc} {cells slots mc ms : Nat} {ls : Array Slot} {st0 rest : List Value} {a : Array Value} {Q : State → Prop} {P2 : RES → Mem → Prop}
    (hr : vx_Run p l e R s m args below meth c H locs cells slots mc ms (F0 m pc ls st0) rest (QcA G P2 a) (XcA G P2) (gA G)) (hS : va_S (gA G) s.heap H locs)
    (kk : ∀ (v : Option AV) (μ' : Mem), P2 (.inl v) μ' → ∀ (H1 : Heap) (locs1 : List Loc), va_S (gA G) s.heap H1 locs1 → HW G μ' s H1 → W p l e R s m args below meth c H1 locs1 (cells + mc) (slots + ms) Q (F0 m (pc + 3) ls ((v.map (conc G)).toList ++ rest)))
    (kx : ∀ (E : String) (μ' : Mem), P2 (.inr E) μ' → ∀ (H1 : Heap) (locs1 : List Loc) (q : Addr) (ce : Cell), va_S (gA G) s.heap H1 locs1 → HW G μ' s H1 → H1[q]? = some ce → ce.vm = .none → s.vm.findClass E = some ce.cls → vx_W p l e R s m args below meth c H1 locs1 (cells + mc) (slots + ms) Q (F0 m pc ls rest) q) :
    W p l e R s m args below meth c H locs cells slots Q (F0 m pc ls st0) := by
  intro T hT X
  rcases hr T hT X with ⟨v, st₀, t, T', L, h0, X', hL, e1, e2, ⟨v', μ', hv, hp, hw, hF⟩, st⟩ | ⟨q, st₀, t, T', L, E, ce, h0, X', hL, e1, e2, ⟨μ', hp, hw, hF⟩, hce, hcv, hcl, st⟩
  · cases hv
    obtain ⟨k1, k2, k3⟩ := vx_keep h0 e1 hS (fun _ _ h => h) (fun _ h => h) hL hF
    have ha : t.vm.Alike s.vm := by rw [← e2]; exact X'.warmed.alike.symm
    obtain ⟨t2, a1, b1⟩ := kk v' μ' hp T'.heap (locs ++ L) k3 (by rw [e1]; exact hw.moved ha) T' rfl X'
    exact ⟨t2, st t2 a1, b1⟩
  · obtain ⟨k1, k2, k3⟩ := vx_keep h0 e1 hS (fun _ _ h => h) (fun _ h => h) hL hF
    have ha : t.vm.Alike s.vm := by rw [← e2]; exact X'.warmed.alike.symm
    obtain ⟨t2, a1, b1⟩ := kx E μ' hp T'.heap (locs ++ L) q ce k3 (by rw [e1]; exact hw.moved ha) (by rw [e1]; exact hce) hcv hcl T' rfl X'
    exact ⟨t2, st.trans a1, b1⟩
/-- what a call's entry of the pool says: a method without handlers -/
def CF0 (M2 : MI) (n : Nat) : Prop := wsM M2 = Cond.code (mY M2) (mB M2) (mN M2) (mR M2) :: gtb ∧ Cond.code (mY M2) (mB M2) (mN M2) (mR M2) ∈ gtb ∧ Cond.initialized (mY M2).cls ∈ gtb ∧ ((mY M2).cls ≠ "java/lang/invoke/MethodHandle" ∧ (mY M2).cls ≠ "java/lang/invoke/VarHandle" ∧ (parseMethodDescriptor (mY M2).desc).map (fun d => d.parameters.length) = some n) ∧ mN M2 ≤ 15 ∧ plainName (mY M2).cls = true ∧ mC M2 = 0 ∧ mS M2 = 0 ∧ mH M2 = []
def CFV (own : String) (idx t : Nat) (M2 : MI) (n : Nat) : Prop := CF0 M2 n ∧ Cond.methodLink own idx (mY M2) ∈ gtb ∧ Cond.instanceMethod (mY M2) ∈ gtb ∧ Cond.selects (mY M2).cls (mY M2) (mY M2) ∈ gtb ∧ kd t = 0 ∧ ∃ (q : vw_C), vwC[ci t]? = some q ∧ q.1 = (mY M2).cls
def CFS (own : String) (idx : Nat) (M2 : MI) (n : Nat) : Prop := CF0 M2 n ∧ Cond.methodLink own idx (mY M2) ∈ gtb ∧ Cond.static (mY M2) ∈ gtb
def CFN (own : String) (idx : Nat) (M2 : MI) (n : Nat) (host : String) : Prop := CF0 M2 n ∧ Cond.methodLinkNest own idx (mY M2) host ∈ ntb ∧ Cond.static (mY M2) ∈ gtb
theorem CT.fix {G : GG} {p : Program} {l : Launch} {R : Room} {s : State} {m : MethodId} {args : Array Value} {meth : Method} {c : Code} (C : CT M G p l R s m args meth c) : CallFix p m c (mB M) (mN M) s args gtb (mY M).cls := ⟨C.1, C.2.1, C.2.2.2.1, C.2.2.2.2.1, C.2.2.2.2.2.1⟩
theorem CT.out {G : GG} {p : Program} {l : Launch} {R : Room} {s : State} {m : MethodId} {args : Array Value} {meth : Method} {c : Code} (C : CT M G p l R s m args meth c) (h : mH M = []) : ∀ x ∈ c.exceptionTable.toList, covers x pc = false := by
  rw [C.2.2.2.2.2.2.2.2.2.1, h]
  intro x hx
  cases hx
theorem PcA_at {G : GG} {p : Program} {l : Launch} {R : Room} {s : State} {m : MethodId} {args : Array Value} {meth : Method} {c : Code} (C : CT M G p l R s m args meth c) {H : Heap} {locs : List Loc} (hS : va_S (gA G) s.heap H locs) (hW : HW G μ s H) (as : List AV) : ∀ U : State, U.heap = H → s.WarmedH U.vm → PcA G as μ (as.map (conc G)).toArray U :=
  fun U hU hw => ⟨rfl, hW.at hw.alike hU, C.2.2.2.2.2.2.2.2.2.2.1.at hw.alike hS hU, NS.warm hw C.2.2.2.2.2.2.2.2.2.2.2.1⟩
theorem AW_callV {t o idx n : Nat} {M2 : MI} {stk : List AV} {P2 : RES → Mem → Prop} (as : List AV) (d : decode (mB M) pc = .ok (.invokevirtual idx, 3)) (hf : CFV (mY M).cls idx t M2 n) (hst : as.reverse ++ aR t o :: st = stk) (hn : as.length = n) (hc : hasC t o = true) (hlv : mLv M2 + 1 ≤ mLv M) (hu2 : u + mU M2 ≤ mU M) (hcs : (st.map cat).sum ≤ 8)
    (hM : MetA M2 (aR t o :: as) μ P2) (hx : ∀ E μ', P2 (.inr E) μ' → P (.inr E) μ' ∧ mH M = []) (k : ∀ v μ', P2 (.inl v) μ' → AW M (u + mU M2) (pc + 3) loc (v.toList ++ st) μ' P) : AW M u pc loc stk μ P := by
  intro G p l e R s m args below meth c C H locs ls hS hW hl hu
  subst hst
  obtain ⟨⟨f1, f2, f3, f4, f5, f6, -⟩, g1, g2, g3, g4, q, g5, g6⟩ := hf
  have hR := C.2.2.2.2.2.2.2.2.1
  have cw := cwV (C := (mY M2).cls) (own := (mY M).cls) (index := idx) (ws := wsM M2) (rm := rmM M2) (mc := mU M2) (ms := 6 * mU M2) (R := R) n C.2.2.2.2.2.1 (gtb_in (fun w hw => by
    rcases List.mem_append.mp hw with h | h
    · simp only [List.mem_cons, List.not_mem_nil, or_false] at h
      rcases h with rfl | rfl | rfl | rfl
      · exact g1
      · exact g2
      · exact g3
      · exact f3
    · rw [f1] at h
      rcases List.mem_cons.mp h with rfl | h
      · exact f2
      · exact h)) f1 rfl rfl ⟨rfl, f4⟩ ⟨by show mLv M2 + 1 ≤ _; omega, by show 8 + (mN M2 + 11) + (40 * mLv M2 + 60) ≤ _; omega⟩
  have e1 : mC M + u + mU M2 = mC M + (u + mU M2) := by omega
  have e2 : mS M + 6 * u + 6 * mU M2 = mS M + 6 * (u + mU M2) := by omega
  have rn := vx_runV (b := gad G t o) (As := as.map (conc G)) (rest := st.map (conc G)) (g := F0 m pc ls ((as.reverse ++ aR t o :: st).map (conc G))) (H := H) (locs := locs) (cells := mC M + u) (slots := mS M + 6 * u) (e := e) (below := below) (meth := meth) C.fix (hM G l C.2.2.2.2.2.2.2.1) cw ⟨PcA_blind G _ μ, va_recv hW.1 hW.2.1 g5 (by rw [wl_at hc, ent0 g4]) |>.imp (fun cell h => ⟨h.1, h.2.1, by rw [← g6]; exact h.2.2⟩), PcA_at C hS hW (aR t o :: as)⟩ rfl (by rw [List.length_map]; exact hn) hl.1 (by
    show List.map (conc G) (as.reverse ++ aR t o :: st) = _
    rw [List.map_append, List.map_reverse]; rfl) (lv_room (by rw [cat_sum]; exact hcs)) d ⟨by omega, by omega⟩
  refine AW_after rn hS (fun v μ' hp H1 locs1 hS1 hW1 => ?_) (fun E μ' hp H1 locs1 q9 ce hS1 hW1 hce hcv hcl => ?_)
  · rw [e1, e2]
    have hk := k v μ' hp G p l e R s m args below meth c C H1 locs1 ls hS1 hW1 hl hu2
    rw [List.map_append] at hk
    cases v <;> exact hk
  · obtain ⟨hp2, hH⟩ := hx E μ' hp
    exact vx_out (C.out hH) C.2.2.2.2.2.2.1 hce hcv hcl (fun t ht ha => ⟨μ', hp2, hW1.at ha ht, hS1.F ht⟩) hS1.2.2 (by omega) (by omega)
theorem AW_callS {idx n : Nat} {M2 : MI} {stk : List AV} {P2 : RES → Mem → Prop} (as : List AV) (d : decode (mB M) pc = .ok (.invokestatic idx, 3)) (hf : CFS (mY M).cls idx M2 n) (hst : as.reverse ++ st = stk) (hn : as.length = n) (hlv : mLv M2 + 1 ≤ mLv M) (hu2 : u + mU M2 ≤ mU M) (hcs : (st.map cat).sum ≤ 8)
    (hM : MetA M2 as μ P2) (hx : ∀ E μ', P2 (.inr E) μ' → P (.inr E) μ' ∧ mH M = []) (k : ∀ v μ', P2 (.inl v) μ' → AW M (u + mU M2) (pc + 3) loc (v.toList ++ st) μ' P) : AW M u pc loc stk μ P := by
  intro G p l e R s m args below meth c C H locs ls hS hW hl hu
  subst hst
  obtain ⟨⟨f1, f2, f3, f4, f5, f6, -⟩, g1, g2⟩ := hf
  have hR := C.2.2.2.2.2.2.2.2.1
  have cw := va_cwS (own := (mY M).cls) (index := idx) (ws := wsM M2) (rm := rmM M2) (mc := mU M2) (ms := 6 * mU M2) (R := R) n C.2.2.2.2.2.1 (gtb_in (fun w hw => by
    rcases List.mem_append.mp hw with h | h
    · simp only [List.mem_cons, List.not_mem_nil, or_false] at h
      rcases h with rfl | rfl | rfl
      · exact g1
      · exact g2
      · exact f3
    · rw [f1] at h
      rcases List.mem_cons.mp h with rfl | h
      · exact f2
      · exact h)) f1 rfl rfl f4 ⟨by show mLv M2 + 1 ≤ _; omega, by show 8 + (mN M2 + 11) + (40 * mLv M2 + 60) ≤ _; omega⟩
  have e1 : mC M + u + mU M2 = mC M + (u + mU M2) := by omega
  have e2 : mS M + 6 * u + 6 * mU M2 = mS M + 6 * (u + mU M2) := by omega
  have rn := vx_runS (As := as.map (conc G)) (rest := st.map (conc G)) (g := F0 m pc ls ((as.reverse ++ st).map (conc G))) (H := H) (locs := locs) (cells := mC M + u) (slots := mS M + 6 * u) (e := e) (below := below) (meth := meth) C.fix (hM G l C.2.2.2.2.2.2.2.1) cw ⟨PcA_blind G _ μ, PcA_at C hS hW as⟩ rfl (by rw [List.length_map]; exact hn) hl.1 (by
    show List.map (conc G) (as.reverse ++ st) = _
    rw [List.map_append, List.map_reverse]) (lv_room (by rw [cat_sum]; exact hcs)) d ⟨by omega, by omega⟩
  refine AW_after rn hS (fun v μ' hp H1 locs1 hS1 hW1 => ?_) (fun E μ' hp H1 locs1 q9 ce hS1 hW1 hce hcv hcl => ?_)
  · rw [e1, e2]
    have hk := k v μ' hp G p l e R s m args below meth c C H1 locs1 ls hS1 hW1 hl hu2
    rw [List.map_append] at hk
    cases v <;> exact hk
  · obtain ⟨hp2, hH⟩ := hx E μ' hp
    exact vx_out (C.out hH) C.2.2.2.2.2.2.1 hce hcv hcl (fun t ht ha => ⟨μ', hp2, hW1.at ha ht, hS1.F ht⟩) hS1.2.2 (by omega) (by omega)
theorem AW_callN {idx n : Nat} {host : String} {M2 : MI} {stk : List AV} {P2 : RES → Mem → Prop} (as : List AV) (d : decode (mB M) pc = .ok (.invokestatic idx, 3)) (hf : CFN (mY M).cls idx M2 n host) (hst : as.reverse ++ st = stk) (hn : as.length = n) (hlv : mLv M2 + 1 ≤ mLv M) (hu2 : u + mU M2 ≤ mU M) (hcs : (st.map cat).sum ≤ 8)
    (hM : MetA M2 as μ P2) (hx : ∀ E μ', P2 (.inr E) μ' → P (.inr E) μ' ∧ mH M = []) (k : ∀ v μ', P2 (.inl v) μ' → AW M (u + mU M2) (pc + 3) loc (v.toList ++ st) μ' P) : AW M u pc loc stk μ P := by
  intro G p l e R s m args below meth c C H locs ls hS hW hl hu
  subst hst
  obtain ⟨⟨f1, f2, f3, f4, f5, f6, -⟩, g1, g2⟩ := hf
  have hR := C.2.2.2.2.2.2.2.2.1
  have cw := va_cnB (own := (mY M).cls) (host := host) (index := idx) (ws := wsM M2) (rm := rmM M2) (mc := mU M2) (ms := 6 * mU M2) (R := R) n C.2.2.2.2.2.1 (gtb_in (fun w h => by
    rw [f1] at h
    rcases List.mem_cons.mp h with rfl | h
    · exact f2
    · exact h)) f1 rfl rfl (C.2.2.2.2.2.2.2.2.2.2.2.1.1 _ g1) (C.2.2.2.2.2.1 _ f3) f4 ⟨by show mLv M2 + 1 ≤ _; omega, by show 8 + (mN M2 + 11) + (40 * mLv M2 + 60) ≤ _; omega⟩
  have e1 : mC M + u + mU M2 = mC M + (u + mU M2) := by omega
  have e2 : mS M + 6 * u + 6 * mU M2 = mS M + 6 * (u + mU M2) := by omega
  have rn := vx_runSN (As := as.map (conc G)) (rest := st.map (conc G)) (g := F0 m pc ls ((as.reverse ++ st).map (conc G))) (H := H) (locs := locs) (cells := mC M + u) (slots := mS M + 6 * u) (e := e) (below := below) (meth := meth) C.fix (hM G l C.2.2.2.2.2.2.2.1) ⟨cw, C.2.2.2.2.2.1 _ g2, trivial⟩ ⟨PcA_blind G _ μ, PcA_at C hS hW as⟩ rfl (by rw [List.length_map]; exact hn) hl.1 (by
    show List.map (conc G) (as.reverse ++ st) = _
    rw [List.map_append, List.map_reverse]) (lv_room (by rw [cat_sum]; exact hcs)) d ⟨by omega, by omega⟩
  refine AW_after rn hS (fun v μ' hp H1 locs1 hS1 hW1 => ?_) (fun E μ' hp H1 locs1 q9 ce hS1 hW1 hce hcv hcl => ?_)
  · rw [e1, e2]
    have hk := k v μ' hp G p l e R s m args below meth c C H1 locs1 ls hS1 hW1 hl hu2
    rw [List.map_append] at hk
    cases v <;> exact hk
  · obtain ⟨hp2, hH⟩ := hx E μ' hp
    exact vx_out (C.out hH) C.2.2.2.2.2.2.1 hce hcv hcl (fun t ht ha => ⟨μ', hp2, hW1.at ha ht, hS1.F ht⟩) hS1.2.2 (by omega) (by omega)
/-- a method without handlers, out of its body -/
theorem MetA.of {as : List AV} {n : Nat} (hf : CF0 M n) (hn : as.all (fun v => cat v == 1) = true) (hlen : as.length ≤ mN M) (k : AW M 0 0 (as.map some) [] μ P) : MetA M as μ P := by
  intro G l hl
  obtain ⟨f1, f2, f3, f4, f5, f6, f7, f8, f9⟩ := hf
  refine vx_ofW (cc := mB M) (maxL := mN M) (ret := mR M) f6 f1 ?_
  intro p e s m args below meth c s₁ B hml htab hv
  obtain ⟨rfl, hW, hSW, hNS⟩ := hv
  have hts : ∀ w ∈ gtb, w.before (as.map (conc G)).toArray s = true := fun w hw => atoms_spec (ws := wsM M) B.pre w (by rw [f1]; exact List.mem_cons_of_mem _ hw)
  have hsl : lg_sl (as.map (conc G)) = (as.map (conc G)).map Slot.val := by
    unfold lg_sl
    have h1 : ∀ v ∈ as.map (conc G), ¬ v.category = 2 := by
      intro v hv
      obtain ⟨a, ha, rfl⟩ := List.mem_map.mp hv
      have := List.all_eq_true.mp hn a ha
      rw [cat_conc]
      simp at this
      omega
    generalize as.map (conc G) = vs at h1
    induction vs with
    | nil => rfl
    | cons v r ih =>
      rw [List.flatMap_cons, if_neg (h1 v List.mem_cons_self), List.map_cons, ih (fun x hx => h1 x (List.mem_cons_of_mem _ hx))]
      rfl
  have hlv := lv_entry (as.map (conc G)) (n := mN M) (by rw [hsl]; simp only [List.length_map]; exact hlen)
  rw [lg_entry_eq]
  have hl0 : lv_has ((lg_sl (as.map (conc G)) ++ List.replicate (mN M - (lg_sl (as.map (conc G))).length) Slot.unset).toArray) (mN M) (lcv G (as.map some)) := by
    refine ⟨hlv.1, hlv.2.1, fun q hq => ?_⟩
    obtain ⟨v, h1, h2⟩ := lcv_mem.mp (show (q.1, q.2) ∈ lcv G (as.map some) from hq)
    rw [List.getElem?_map] at h1
    cases h3 : as[q.1]? with
    | none => rw [h3] at h1; cases h1
    | some a =>
      rw [h3] at h1
      cases h1
      rw [h2, hsl, List.getElem?_toArray, List.getElem?_append_left (by simp only [List.length_map]; exact (List.getElem?_eq_some_iff.mp h3).1), List.getElem?_map, List.getElem?_map, h3]
      rfl
  have K := k G p l e (headSpec (wsM M) (rmM M)).room s m _ below meth c ⟨B.exec, B.bytes, B.returns, hml, findClass_of_methodNamed B.named, hts, B.notSynchronized, hl, ⟨Nat.le_refl _, Nat.le_refl _, by rw [f7, Nat.zero_add]; exact Nat.le_refl _, by rw [f8, Nat.zero_add]; exact Nat.le_refl _⟩, by
    rw [f9]
    cases h : c.exceptionTable.toList with
    | nil => rfl
    | cons x r => exact absurd (htab x (by rw [h]; exact List.mem_cons_self)) id, hSW, hNS, hW.2.2.2.2.2⟩ s.heap [] _ va_S.rf hW hl0 (Nat.zero_le _)
  rw [f7, f8] at K
  simp only [Nat.zero_add, Nat.mul_zero] at K
  exact K
/-- new E(text), thrown here and not caught -/
def TF (own : String) (ik is ic : Nat) (cls text : String) (names : List String) : Prop := Bundle.fit cls = true ∧ (∀ n ∈ names, Bundle.fit n = true) ∧ Cond.classLink own ik cls ∈ gtb ∧ Cond.initialized cls ∈ gtb ∧ (own, is, text) ∈ strs ∧ (∀ w ∈ (vx_atS own ic cls names).filter goodWord, w ∈ gtb) ∧ (∀ w ∈ (vx_atS own ic cls names).filter (fun w => !goodWord w), w ∈ ntb) ∧ (∀ w ∈ Cond.classLink own ik cls :: Cond.initialized cls :: vx_atS own ic cls names, vx_ot w = true) ∧ names.length ≤ 4
theorem AW_throw {ik is ic : Nat} {cls text : String} {names : List String} (hf : TF (mY M).cls ik is ic cls text names) (d0 : decode (mB M) pc = .ok (.new ik, 3)) (d3 : decode (mB M) (pc + 3) = .ok (.dup, 1)) (d4 : decode (mB M) (pc + 4) = .ok (.ldc is, 2)) (d6 : decode (mB M) (pc + 6) = .ok (.invokespecial ic, 3)) (d9 : decode (mB M) (pc + 9) = .ok (.athrow, 1))
    (hlv : 8 ≤ mLv M) (hu2 : u + 1 ≤ mU M) (hH : mH M = []) (hcs : (st.map cat).sum ≤ 8) (h : P (.inr cls) μ) : AW M u pc loc st μ P := by
  intro G p l e R s m args below meth c C H locs ls hS hW hl hu
  obtain ⟨f1, f2, f3, f4, f5, f6, f7, f8, f9⟩ := hf
  have hR := C.2.2.2.2.2.2.2.2.1
  have hNS := C.2.2.2.2.2.2.2.2.2.2.2.1
  have hSW := C.2.2.2.2.2.2.2.2.2.2.1
  obtain ⟨sa, hstr⟩ := hNS.2.1 _ f5
  have hcs2 : ((st.map (conc G)).map fun v => v.category).sum ≤ 8 := by rw [cat_sum]; exact hcs
  refine vx_throwS (A := gA G) C.1 C.2.1 C.2.2.2.2.2.2.2.1 C.2.2.2.2.1 f1 f2 (C.2.2.2.2.2.1 _ f3) (C.2.2.2.2.2.1 _ f4) hstr (vx_hat (B := ntb) (fun w hw => C.2.2.2.2.2.1 _ (f6 w hw)) f7 (fun w hw => va_Nw.use (ntb_tabs hw) (hNS.1 w hw))) f8 hSW.1 hSW.2 hS (hl.1.trans C.2.2.2.1.symm) d0 d3 d4 d6 d9 (C.out hH) (by omega) (by omega) (by omega) (by omega) C.2.2.2.2.2.2.1 (fun t ha hz hq => ?_) hS.2.2 (by omega) (by omega)
  have hk : ∀ (k : Nat) (q : Nat × va_E), (wl G μ)[k]? = some q → t.heap[q.1]? = H[q.1]? := fun k q hk => hq _ (hW.2.1 k q hk).lt
  refine ⟨μ, h, ⟨va_K.moved ha hW.1, hW.2.1.kept hk, hW.2.2.1, ?_, hW.2.2.2.2.1, Nat.le_trans hW.2.2.2.2.2 hz⟩, ⟨Nat.le_trans hS.1 hz, fun q h1 h2 => ?_⟩⟩
  · exact (va_X.moved ha hW.2.2.2.1).kept (hq _ (Nat.lt_of_lt_of_le hW.2.2.2.2.1 hW.2.2.2.2.2))
  · rw [hq q (Nat.lt_of_lt_of_le h1 hS.1)]
    exact hS.2.1 q h1 h2
end AWC
/-- answers of methods that are determined -/
def rI (v : Int32) (μ : Mem) : RES → Mem → Prop := fun r μ' => r = .inl (some (aI v)) ∧ μ' = μ
def rV (μ : Mem) : RES → Mem → Prop := fun r μ' => r = .inl none ∧ μ' = μ
def rX (E : String) (μ : Mem) : RES → Mem → Prop := fun r μ' => r = .inr E ∧ μ' = μ
