/-! THE CLAIM OUT OF ONE WALK OF THE LAW'S BODY. Your part is whole_start (and what it stands on); all else here is the same for every law, but numbers. -/
def R_law : String := "ErrataPressLaw"
def lw_P (b : Addr) (xs : List Int32) (args : Array Value) (s : State) : Prop := args = #[.ref b] ∧ s.IntsAt b xs ∧ xs.length ≤ 2048 ∧ (Jvm.Cond.and given_1 narrow_1).before args s = true
/-- what a walk over the start with the record d0 says of its end, said of the start itself -/
theorem lw_closed {s t : State} {o : Outcome} {d0 : Drawn} {L : List Loc} {k n : Nat} (hd0 : s.drawn.sameBut d0 lw_cs) (hv : ∃ v, o = .returned v) (hW : (s.setDrawn d0).WarmedH t.vm) (hs : (s.setDrawn d0).sameButNew ({ t with vm := s.vm } : State) L k n) : State.butDraws s t lw_cs (fun t1 => Framed s o t1 L k n) := by
  have h2 : t.drawn = d0 := congrArg State.drawn hs.1
  refine ⟨⟨hv, hW, State.sameButNew.setDrawn hs s.drawn⟩, ?_, by decide⟩
  rw [h2]
  exact hd0
def lw_Q (_ : Array Value) (s : State) (o : Outcome) (t : State) : Prop := o = .returned (some (.int 1)) ∧ State.butDraws s t lw_cs (fun t1 => Framed s o t1 [] 603072 7202922)
def lw_Z (below : List Frame) (a : Array Value) (s : State) : State → Prop := fun t => ∃ o, t.status = .running ∧ Ended t below o ∧ lw_Q a s o t
/-- what holds at the law's entry: the machine, the code, the tables' words (any of lw_tbl by 'hts w (by decide +kernel)'), the script of L ints xs at the cell b, what the Statement gives of the start (any of its parts by flat_of_before) -/
def lw_At (p : Program) (s : State) (m : MethodId) (meth : Method) (c : Code) (b L : Nat) (xs : Nat → Int32) : Prop :=
  p.tables.exec = Jvm.exec ∧ c.code = code ∧ meth.sig.returnType = ret ∧ c.maxLocals = 9 ∧ s.vm.findClass R_law = some m.cls ∧ (∀ w ∈ lw_tbl, w.before #[Value.ref b] s = true) ∧ va_X b L xs s s.heap ∧ b < s.heap.size ∧ meth.locks = false ∧ (Jvm.Cond.and given_1 narrow_1).before #[Value.ref b] s = true ∧ c.exceptionTable.toList = []
-- ===== YOUR PART BEGINS =====
theorem kn_of {s : State} {args : Array Value} {own : String} {idx t N : Nat} (hg : ∀ w ∈ gtb, w.before args s = true) (hf : FN own idx t N) : ∃ (cC : ClassId) (iS : Nat → Nat), ∀ q, vwC[ci t]? = some q → u_Kn s q.1 q.2.1 q.2.2 cC iS := by
  obtain ⟨D, T, ty0, f1, f2, f3, f4, f5, f6, f7, f8⟩ := hf
  obtain ⟨cC, iS, h⟩ := u_known hg f2 (hg _ f5)
  exact ⟨cC, iS, fun q hq => by cases Option.some.inj (f1.symm.trans hq); exact h⟩
theorem w_known {s : State} {args : Array Value} (hg : ∀ w ∈ gtb, w.before args s = true) : ∃ D : va_G, ∀ (c : Nat) (q : vw_C), vwC[c]? = some q → u_Kn s q.1 q.2.1 q.2.2 (D.1 c) (D.2 c) := by
  obtain ⟨c0, i0, k0⟩ := kn_of hg fn_X5_25
  obtain ⟨c1, i1, k1⟩ := kn_of hg fn_X5_46
  obtain ⟨c2, i2, k2⟩ := kn_of hg fn_X5_39
  obtain ⟨c3, i3, k3⟩ := kn_of hg fn_X5_32
  obtain ⟨c4, i4, k4⟩ := kn_of hg fn_X5_9
  obtain ⟨c5, i5, k5⟩ := kn_of hg fn_L_8
  obtain ⟨c6, i6, k6⟩ := kn_of hg fn_L_135
  refine ⟨(fun k => if k = 0 then c0 else if k = 1 then c1 else if k = 2 then c2 else if k = 3 then c3 else if k = 4 then c4 else if k = 5 then c5 else c6, fun k => if k = 0 then i0 else if k = 1 then i1 else if k = 2 then i2 else if k = 3 then i3 else if k = 4 then i4 else if k = 5 then i5 else i6), fun c q hq => ?_⟩
  have hc : c < 7 := (List.getElem?_eq_some_iff.mp hq).1
  rcases (show c = 0 ∨ c = 1 ∨ c = 2 ∨ c = 3 ∨ c = 4 ∨ c = 5 ∨ c = 6 by omega) with rfl | rfl | rfl | rfl | rfl | rfl | rfl
  · exact k0 q hq
  · exact k1 q hq
  · exact k2 q hq
  · exact k3 q hq
  · exact k4 q hq
  · exact k5 q hq
  · exact k6 q hq
theorem arr_of {s : State} {args : Array Value} {ty : FieldType} (h : (Cond.arrayClass ty).before args s = true) : ∃ cA : ClassId, ArrOfT s cA ty ∧ s.vm.findClass ("[" ++ ty.toString) = some cA := by
  obtain ⟨cA, kA, comp, h1, h2, h3⟩ := Cond.arrayClass_spec h
  exact ⟨cA, fun n z => ⟨fun k h => (by cases h), kA, h2, comp, h3⟩, h1⟩
theorem w_aoS : Cond.arrayOver (.object "ErrataPress$State") ∈ lw_tbl := by decide +kernel
theorem w_arrs {s : State} {args : Array Value} (hts : ∀ w ∈ lw_tbl, w.before args s = true) (hg : ∀ w ∈ gtb, w.before args s = true) : ∃ cy : Nat → ClassId, ∀ (k : Nat) (q : ClassId × FieldType), ([(cy 1, .int), (cy 2, .char), (cy 3, .object "ErrataPress$State"), (cy 4, .long), (cy 5, .double)] : List (ClassId × FieldType))[k]? = some q → ArrOfT s q.1 q.2 ∧ va_RA s q.1 q.2 := by
  obtain ⟨c1, a1, b1⟩ := arr_of (hg _ gw_ac_int)
  obtain ⟨c2, a2, b2⟩ := arr_of (hg _ gw_ac_char)
  obtain ⟨c4, a4, b4⟩ := arr_of (hg _ gw_ac_long)
  obtain ⟨c5, a5, b5⟩ := arr_of (hg _ gw_ac_double)
  obtain ⟨comp, c3, k3, h1, -, h2, h3, h4⟩ := Cond.arrayOver_spec (hts _ w_aoS)
  refine ⟨fun j => if j = 1 then c1 else if j = 2 then c2 else if j = 3 then c3 else if j = 4 then c4 else c5, fun k q hq => ?_⟩
  have hc : k < 5 := (List.getElem?_eq_some_iff.mp hq).1
  rcases (show k = 0 ∨ k = 1 ∨ k = 2 ∨ k = 3 ∨ k = 4 by omega) with rfl | rfl | rfl | rfl | rfl
  · cases hq; exact ⟨a1, b1⟩
  · cases hq; exact ⟨a2, b2⟩
  · cases hq; exact ⟨fun n z => ⟨fun k h => (by cases h), k3, h2, comp, h3⟩, k3, comp, h2, h3, h1, h4⟩
  · cases hq; exact ⟨a4, b4⟩
  · cases hq; exact ⟨a5, b5⟩
theorem strs_in : ∀ q ∈ strs, Cond.exactly (.string q.1 q.2.1) "java/lang/String" ∈ flatC (Jvm.Cond.and given_1 narrow_1) := by decide +kernel
theorem ncs_in : ∀ q ∈ ncs, Cond.not (.castable q.1 q.2) ∈ flatC (Jvm.Cond.and given_1 narrow_1) := by decide +kernel
theorem w_NS {s : State} {args : Array Value} (hts : ∀ w ∈ lw_tbl, w.before args s = true) (hf : ∀ w ∈ flatC (Jvm.Cond.and given_1 narrow_1), w.before args s = true) : NS s := by
  refine ⟨fun w hw => va_Nw.of (ntb_tabs hw) (hts w (List.mem_filter.mp hw).1), fun q hq => ?_, fun q hq => va_Nc.of (hf _ (ncs_in q hq))⟩
  obtain ⟨a, c, cell, k, h1, -⟩ := Cond.exactly_spec (hf _ (strs_in q hq))
  obtain ⟨w, hw, e⟩ := List.mem_filterMap.mp hq
  refine ⟨a, vk_R.of (hts _ ?_) h1⟩
  cases w <;> first | (cases e; exact hw) | (exact absurd e (by simp))
theorem w_z1 : Cond.laysStatic Bundle.tN "UNASSIGNED_STACK" Bundle.steD ∈ lw_tbl := by decide +kernel
theorem w_z2 : Cond.laysStatic Bundle.tN "SUPPRESSED_SENTINEL" Bundle.listD ∈ lw_tbl := by decide +kernel
theorem w_z3 : Cond.initialized Bundle.tN ∈ lw_tbl := by decide +kernel
theorem w_z4 : Cond.isRef (.static Bundle.tN "UNASSIGNED_STACK" Bundle.steD) ∈ flatC (Jvm.Cond.and given_1 narrow_1) := by decide +kernel
theorem w_z5 : Cond.isRef (.static Bundle.tN "SUPPRESSED_SENTINEL" Bundle.listD) ∈ flatC (Jvm.Cond.and given_1 narrow_1) := by decide +kernel
theorem w_SW {s : State} {args : Array Value} {G : GG} (hn : gn0 G = s.heap.size) (hts : ∀ w ∈ lw_tbl, w.before args s = true) (hf : ∀ w ∈ flatC (Jvm.Cond.and given_1 narrow_1), w.before args s = true) : SW G s s.heap := by
  have hA : ∀ a : Nat, a < s.heap.size → ¬ gA G a := fun a ha h => by
    have h : gn0 G ≤ a := h
    omega
  exact ⟨vx_Zqof (hts _ w_z1) (hts _ w_z3) (hf _ w_z4) hA, vx_Zqof (hts _ w_z2) (hts _ w_z3) (hf _ w_z5) hA⟩
theorem w_drop {s t : State} {L : List Loc} {k n : Nat} (h : s.sameButNew t L k n) (hL : ∀ q ∈ L, s.heap.size ≤ q.base) : s.sameButNew t [] k n := by
  obtain ⟨h1, h2, h3, h4, h5, h6⟩ := h
  refine ⟨h1, h2, h3, h4, h5, fun a c hc => ?_⟩
  obtain ⟨c', g1, g2, g3, g4⟩ := h6 a c hc
  refine ⟨c', g1, g2, g3, fun i _ => g4 i fun hm => ?_⟩
  have h7 : s.heap.size ≤ a := hL _ hm
  have h8 : a < s.heap.size := (Array.getElem?_eq_some_iff.mp hc).1
  exact absurd h7 (Nat.not_le.mpr h8)
theorem w_end {G : GG} {below : List Frame} {s : State} {b : Nat} {mc ms : Nat} (hn : gn0 G = s.heap.size) (hmc : mc ≤ 603072) (hms : ms ≤ 7202922) {t : State} (h : vx_MQ below (QcA G rT) (XcA G rT) #[Value.ref b] s mc ms (gA G) t) : lw_Z below #[Value.ref b] s t := by
  obtain ⟨o, g1, g2, g3⟩ := h
  rcases g3 with ⟨⟨v, μ', e1, e2, -, -⟩, L, ⟨f1, f2, f3⟩, f4⟩ | ⟨q, e1, cls, ce, L, ⟨μ', e2, -⟩, -⟩
  · have e2 : (Sum.inl v : RES) = .inl (some (aI 1)) := e2
    cases e2
    refine ⟨o, g1, g2, e1, ?_⟩
    exact lw_closed (d0 := s.drawn) (Drawn.sameBut.refl s.drawn lw_cs) f1 f2 (State.sameButNew.mono (w_drop f3 fun q hq => by
      show s.heap.size ≤ q.base
      rw [← hn]
      exact f4 q hq) hmc hms)
  · cases e2
/-- from the entry, for every script of at most 2048 ints, the law comes to its end with true -/
theorem whole_start {p : Program} {e : Env} {s : State} {m : MethodId} {below : List Frame} {meth : Method} {c : Code} (l : Launch) (hflags : l.flags = flags0) {b L : Nat} {xs : Nat → Int32} (hL : L ≤ 2048) (C0 : lw_At p s m meth c b L xs) : W p l e room_1 s m #[Value.ref b] below meth c s.heap [] 0 0 (lw_Z below #[Value.ref b] s) (entryFrame m ([Value.ref b] : List Value).toArray 9) := by
  obtain ⟨hexec, hcode, hret, hml, hown, hts, hX, hbl, hlk, hgv, htb⟩ := C0
  have hg : ∀ w ∈ gtb, w.before #[Value.ref b] s = true := fun w hw => hts w (List.mem_filter.mp hw).1
  have hf := flat_of_before _ hgv
  obtain ⟨D, hD⟩ := w_known hg
  obtain ⟨cy, hcy⟩ := w_arrs hts hg
  obtain ⟨G, eG⟩ : ∃ G : GG, G = (D, fun t o => if t = 99 then b else s.heap.size + idf t o, s.heap.size, cy) := ⟨_, rfl⟩
  have hn : gn0 G = s.heap.size := by rw [eG]
  have hb : gad G 99 0 = b := by
    rw [eG]
    show (if (99 : Nat) = 99 then b else s.heap.size + idf 99 0) = b
    exact if_pos rfl
  have hst : l.stackTraces = false := by
    unfold Launch.stackTraces
    rw [hflags]
    decide +kernel
  have hSW : SW G s s.heap := w_SW hn hts hf
  have hNS : NS s := w_NS hts hf
  obtain ⟨μ', hRF, hTC, hTM, h98, hBW⟩ := law_start (L := L) (xs := xs)
  have hSq : Sq μ' L xs := ⟨by rw [h98 98 (by decide)]; rfl, by rw [h98 99 (by decide)]; rfl, hL⟩
  have hAW := law_loop (L := L) (xs := xs) 2048 0 μ' T0 (by omega) (by decide) hTC hTM hSq
  have hKK : va_K (gD G) vwC (tysG G) s := by rw [eG]; exact ⟨hD, hcy⟩
  have hAD : AD G := fun t o h => by
    have := (hasC_lt h).1
    rw [eG]
    show (if t = 99 then b else s.heap.size + idf t o) = s.heap.size + idf t o
    exact if_neg (by omega)
  have hX0 : va_X (gad G 99 0) (mu0 L xs 98 0 0).toNatClampNeg (mu0 L xs 99 0) s s.heap := by
    rw [hb, show (mu0 L xs 98 0 0) = nI L from rfl, nI_clamp (by omega), show mu0 L xs 99 0 = xs from rfl]
    exact hX
  have hP0 : va_P (gD G) vwC (wlB G (mu0 L xs) 0) s.heap := fun k q hk => by
    rw [show wlB G (mu0 L xs) 0 = [] from rfl] at hk
    cases hk
  have hB0 : HB G (mu0 L xs) 0 s s.heap := ⟨hKK, hP0, hX0, (by rw [hb, hn]; exact hbl), (by rw [hn]; rfl), hAD, Nat.zero_le _, va_AO.of (hts _ w_aoS)⟩
  have CB0 : CB M_law G p l room_1 s m #[Value.ref b] meth c := ⟨hexec, hcode, hret, hml, hown, hg, hlk, hst, ⟨by decide, by decide, by decide, by decide⟩, hSW, hNS, by rw [hn]; exact Nat.le_refl _, fun h => absurd h (by decide +kernel)⟩
  have CT0 : CT M_law G p l room_1 s m #[Value.ref b] meth c := ⟨hexec, hcode, hret, hml, hown, hg, hlk, hst, ⟨by decide, by decide, by decide, by decide⟩, htb, hSW, hNS, by rw [hn]; exact Nat.le_refl _⟩
  have hlv := lv_entry ([Value.ref b] : List Value) (n := 9) (Nat.le_of_ble_eq_true rfl)
  rw [lg_entry_eq]
  have hl0 : lv_has ((lg_sl [Value.ref b] ++ List.replicate (9 - (lg_sl [Value.ref b]).length) Slot.unset).toArray) (mN M_law) (lcv G [some (aR 99 0), none, none, none, none, none, none, none, none]) := by
    refine ⟨hlv.1, hlv.2.1, fun q hq => ?_⟩
    obtain ⟨v, h1, h2⟩ := lcv_mem.mp (show (q.1, q.2) ∈ lcv G [some (aR 99 0), none, none, none, none, none, none, none, none] from hq)
    cases hq1 : q.1 with
    | zero =>
      rw [hq1] at h1
      cases h1
      rw [h2, show conc G (aR 99 0) = .ref b by show Value.ref (gad G 99 0) = _; rw [hb]]
      rfl
    | succ i =>
      rw [hq1, List.getElem?_cons_succ, show ([none, none, none, none, none, none, none, none] : List (Option AV)) = List.replicate 8 none from rfl, List.getElem?_replicate] at h1
      split at h1 <;> cases h1
  have K := hBW G p l e room_1 s m #[Value.ref b] below meth c (lw_Z below #[Value.ref b] s) CB0 (fun H locs ls hS hB hl => by
    have K2 := hAW G p l e room_1 s m #[Value.ref b] below meth c CT0 H locs ls hS (hB.hw hRF) hl (Nat.zero_le _)
    refine W.widen (k := 150) (n := 6000) (Nat.le_of_ble_eq_true rfl) (Nat.le_of_ble_eq_true rfl) ?_
    intro T hT X
    obtain ⟨t, a1, b1⟩ := K2 T hT X
    exact ⟨t, a1, w_end hn (by decide) (by decide) b1⟩) s.heap [] _ va_S.rf hB0 hl0
  exact K
-- ===== YOUR PART ENDS =====
set_option maxHeartbeats 4000000 in
theorem lw_walk (l : Launch) (hflags : l.flags = flags0) (b : Addr) (xs : List Int32) : MetFree l x (headSpec (Jvm.Cond.code x code maxLocals ret :: tables_1) room_1) (lw_P b xs) (fun _ _ _ _ _ => True) lw_Q := by
  refine MetFree.of_bodyS (code := code) (maxLocals := maxLocals) (ret := ret) (by decide) ?_ ?_
  · intro args s m h hn
    obtain ⟨meth, c, h1, h2, h3, h4, h5, h6, -, -⟩ := Cond.code_spec hn (atoms_spec (ws := Jvm.Cond.code x code maxLocals ret :: tables_1) h _ List.mem_cons_self)
    exact ⟨meth, c, h1, h2, h3, h4, h5, h6⟩
  · intro p e s m args below meth c s₁ B hml0 hP _
    obtain ⟨rfl, hx, hbd, hgv⟩ := hP
    obtain ⟨scr, harrAt, hlist, hof, hsmall⟩ := hx
    obtain ⟨hcb, hkn, -, -⟩ := State.arrayAt?_spec harrAt
    have hown : s.vm.findClass R_law = some m.cls := findClass_of_methodNamed B.named
    have hts0 : ∀ c ∈ (Jvm.Cond.code x code maxLocals ret :: tables_1), c.before #[Value.ref b] s = true := atoms_spec (ws := Jvm.Cond.code x code maxLocals ret :: tables_1) B.pre
    have hts : ∀ w ∈ lw_tbl, w.before #[Value.ref b] s = true := k2_hts_sels lw_privs (fun w hw => hts0 w (List.mem_cons_of_mem _ hw)) lw_privs_ok
    have hml : c.maxLocals = 9 := B.maxLocals_eq (hts0 _ List.mem_cons_self)
    have X₀ : Stand p l e room_1 s m #[Value.ref b] below meth c s₁ [] 0 0 := Stand.of_body B
    have hh0 : s₁.heap = s.heap := by rw [B.state]; rfl
    have htb : c.exceptionTable.toList = [] := by
      obtain ⟨meth9, c9, h1, h2, -, -, -, -, h7, -⟩ := Cond.code_spec B.named (hts0 _ List.mem_cons_self)
      cases Option.some.inj (h1.symm.trans B.method)
      cases Option.some.inj (h2.symm.trans X₀.code)
      rw [Array.isEmpty_iff.mp h7]
    have hsz : scr.slots.size = xs.length := by rw [← Array.length_toList, hlist, List.length_map]
    have hval : ∀ j : Nat, j < xs.length → scr.slots[j]? = some (.int (xs.getD j 0)) := fun j hj => by
      rw [← Array.getElem?_toList, hlist]
      simp [hj]
    have hbl : b < s.heap.size := (Array.getElem?_eq_some_iff.mp hcb).1
    have hX : va_X b xs.length (fun j => xs.getD j 0) s s.heap := ⟨scr, hcb, hof, hkn, hsz, hval⟩
    have K : W p l e room_1 s m #[Value.ref b] below meth c s₁.heap [] 0 0 (lw_Z below #[Value.ref b] s) (entryFrame m ([Value.ref b] : List Value).toArray 9) := by
      rw [hh0]
      exact whole_start l hflags hbd ⟨B.exec, B.bytes, B.returns, hml, hown, hts, hX, hbl, B.notSynchronized, hgv, htb⟩
    obtain ⟨t, a1, o, b1, b2, b3⟩ := K s₁ rfl X₀
    exact ⟨t, o, a1, b1, b2, b3⟩
theorem lw_pre_spec {args : Array Value} {s : State} (h : (Jvm.Cond.and given_1 narrow_1).before args s = true) (hr : rest_1_c.before args s = true) : ∃ (b : Addr) (xs : List Int32), lw_P b xs args s := by
  have hs := flat_of_before _ h
  have hq := flat_of_before _ hr
  have hc : (Cond.count 1).before args s = true := hs _ (by decide +kernel)
  have harr : (Cond.arrayOf (.arg 0) .int).before args s = true := hs _ (by decide +kernel)
  have hle : (Cond.le (.length (.arg 0)) (.int 2048)).before args s = true := hs _ (by decide +kernel)
  have hlen : (Cond.isInt (.length (.arg 0))).before args s = true := hq _ (by decide +kernel)
  have hall : (Cond.all (.arg 0) (.isInt (.elem (.arg 0) (.index 0)))).before args s = true := hq _ (by decide +kernel)
  obtain ⟨b, xs, hb, hx⟩ := State.ints_of_pre rfl harr hlen hall
  have hsm : xs.length < 2 ^ 31 := hx.choose_spec.2.2.2
  have hev : (Term.length (.arg 0)).eval args s none [] s = some (.int xs.length.toInt32) := hx.length_eval hb
  have hv := Cond.le_ints hev (show (Term.int 2048).eval args s none [] s = some (.int 2048) from rfl)
  have hd : xs.length.toInt32 ≤ 2048 := by
    simpa [Cond.before, Cond.holds, hv] using hle
  have hN : xs.length ≤ 2048 := (Int32.ofNat_le_ofNat hsm (by decide)).mp (show Int32.ofNat xs.length ≤ Int32.ofNat 2048 from hd)
  exact ⟨b, xs, Cond.one_arg hc (show args[0]? = some (.ref b) from hb), hx, hN, h⟩
theorem lw_comes (l : Launch) (hflags : l.flags = flags0) : Comes l x (Jvm.Cond.code x code maxLocals ret :: tables_1) room_1 (fun tb e args s => Calls_1 tb e args s ∧ rest_1 tb e args s ∧ Pre_1 tb e args s)
    (fun _ _ args s o t => lw_Q args s o t) := by
  intro p e ha hc hk s m args below hf hfit hheap happ hpre
  obtain ⟨b, xs, hP⟩ := lw_pre_spec hpre.2.2 hpre.2.1
  obtain ⟨k, o, h1, h2, h3, hQ⟩ := lw_walk l hflags b xs p e ha hc hk s m args below hf ((Spec.applies_iff_loose hf).mp happ).1 hP trivial
  exact ⟨k, o, h1, h2, h3, hQ⟩
theorem lw_frame {s t : State} {o : Outcome} {args : Array Value} (h : State.butDraws s t lw_cs (fun t1 => Framed s o t1 [] 603072 7202922)) :
    State.butDraws s t [Jvm.Choice.named "NaN.bits"] (fun t1 => Framed s o t1 (fieldLocs frame_1_writes args s ++ arrayLocs frame_1_arrays args s ++ staticLocs frame_1_statics s) 603072 7202922) := h
theorem lw_limb (L : Cond) (hL : ∀ (args : Array Value) (s t : State), L.after args s (.returned (some (.int 1))) t = true) :
    ArmFor flags0 classFile x code maxLocals ret World_1 tables_1 room_1 Calls_1 rest_1 Pre_1
      (fun tb e a s o t => postC L tb e a s o t ∧ State.butDraws s t [Jvm.Choice.named "NaN.bits"] (fun t1 => Framed s o t1 (fieldLocs frame_1_writes a s ++ arrayLocs frame_1_arrays a s ++ staticLocs frame_1_statics s) 603072 7202922)) := by
  intro l hflags _ _ p e ha hc hk s m args below hf hfit hheap happ hpre
  obtain ⟨k, o, h1, h2, h3, rfl, hF⟩ := lw_comes l hflags p e ha hc hk s m args below hf hfit hheap happ hpre
  exact ⟨k, _, h1, h2, h3, hL args s _, lw_frame hF⟩
theorem i_vc : Claimed_1_1 ∧ Claimed_1_2 := ⟨lw_limb limb_1_1 (fun args s t => by simp [limb_1_1, Cond.after, Cond.holds, Cond.value]), lw_limb limb_1_2 (fun args s t => Cond.after_iff.mpr (by
  first | (rw [show limb_1_2 = Cond.eq .result (.int 1) from rfl, Cond.eq_ints (x := 1) (y := 1) rfl rfl]; simp; done) | (simp [limb_1_2, Cond.value, Term.eval]; done)))⟩
