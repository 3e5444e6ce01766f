/-! the law: doubles in rows, methods with handlers, calls of them -/
theorem wl_set2 {G : GG} {μ μ' : Mem} {t o : Nat} {e : va_E} (h : hasC t o = true) (he : ent G μ' t o = e) (hn : ∀ j, j < 150 → ¬ dcd j = (t, o) → ent G μ' (dcd j).1 (dcd j).2 = ent G μ (dcd j).1 (dcd j).2) : (wl G μ).set (pos t o) (gad G t o, e) = wl G μ' := by
  obtain ⟨h1, h2⟩ := hasC_pos h
  apply List.ext_getElem?
  intro j
  by_cases hj : j < 150
  · rw [wl_get hj, List.getElem?_set]
    by_cases hp : pos t o = j
    · subst hp
      rw [if_pos rfl, if_pos (by rw [wl_len]; exact h2), h1, he]
    · rw [if_neg hp, wl_get hj, hn j hj]
      intro q
      exact hp (dcd_inj h2 hj (by rw [h1]; exact q.symm))
  · rw [List.getElem?_eq_none (by rw [List.length_set, wl_len]; omega), List.getElem?_eq_none (by rw [wl_len]; omega)]
def dst (μ : Mem) (i : Nat) (x : UInt64) : Mem := mset (mset μ 28 0 (upd (μ 28 0) i (dhi x))) 28 1 (upd (μ 28 1) i (dlo x))
/-- a method with handlers, as a call finds it -/
def CFW (M2 : MI) (n : Nat) : Prop := wsM M2 = Cond.codeWith (mY M2) (mB M2) (mN M2) (mR M2) (mH M2) :: gtb ∧ Cond.codeWith (mY M2) (mB M2) (mN M2) (mR M2) (mH M2) ∈ gtb ∧ Cond.initialized (mY M2).cls ∈ gtb ∧ ((mY M2).cls ≠ "java/lang/invoke/MethodHandle" ∧ (mY M2).cls ≠ "java/lang/invoke/VarHandle" ∧ (parseMethodDescriptor (mY M2).desc).map (fun d => d.parameters.length) = some n) ∧ mN M2 ≤ 15 ∧ plainName (mY M2).cls = true ∧ mC M2 = 0 ∧ mS M2 = 0
def CFSW (own : String) (idx : Nat) (M2 : MI) (n : Nat) : Prop := CFW M2 n ∧ Cond.methodLink own idx (mY M2) ∈ gtb ∧ Cond.static (mY M2) ∈ gtb
/-- the exception E, thrown at pc, is taken by the handler at h -/
def CHd (M : MI) (pc : Nat) (E : String) (h : Nat) : Prop := ∃ (pre : List ExceptionTableEntry) (x : ExceptionTableEntry) (suf : List ExceptionTableEntry), tableOf (mH M) = pre ++ x :: suf ∧ (∀ z ∈ pre, z.catchType ≠ 0 ∧ ∃ nm : String, Cond.classLink (mY M).cls z.catchType nm ∈ gtb ∧ (E, nm) ∈ ncs) ∧ covers x pc = true ∧ x.catchType ≠ 0 ∧ x.handlerPc = h ∧ Cond.classLink (mY M).cls x.catchType E ∈ gtb ∧ Cond.castable E E ∈ ntb
section LWA
variable {M : MI} {u u' pc : Nat} {loc : LOC} {st : List AV} {μ : Mem} {P : RES → Mem → Prop}
theorem AW_daload {i : Int32} (d : decode (mB M) pc = .ok (.daload, 1)) (hin : vp_in i 1) (k : AW M u (pc + 1) loc (aD (dbl (μ 28 0 i.toNatClampNeg) (μ 28 1 i.toNatClampNeg)) :: st) μ P) : AW M u pc loc (aI i :: aR 28 0 :: st) μ P := by
  intro G p l e R s m args below meth c C H locs ls hS hW hl hu
  exact va_dald (f := fun k => dbl (μ 28 0 k) (μ 28 1 k)) C.1 C.2.1 hW.1 hW.2.1 (pos 28 0) 4 (by rw [wl_at (show hasC 28 0 = true from rfl)]; rfl) rfl hin d (k G p l e R s m args below meth c C H locs ls hS hW hl hu)
theorem AW_dastore {i : Int32} {x : UInt64} (d : decode (mB M) pc = .ok (.dastore, 1)) (hin : vp_in i 1) (k2 : AW M u (pc + 1) loc st (dst μ i.toNatClampNeg x) P) : AW M u pc loc (aD x :: aI i :: aR 28 0 :: st) μ P := by
  intro G p l e R s m args below meth c C H locs ls hS hW hl hu
  refine va_dast (f := fun k => dbl (μ 28 0 k) (μ 28 1 k)) C.1 C.2.1 hW.1 hW.2.1 hW.2.2.1 hS (pos 28 0) 4 (by rw [wl_at (show hasC 28 0 = true from rfl)]; rfl) rfl hin d (fun H1 locs1 hP hD hS1 => ?_)
  have he : ent G (dst μ i.toNatClampNeg x) 28 0 = .inl (gcy G 5, 1, .inr (.inr (.inr (.inl (vf_upd (fun k => dbl (μ 28 0 k) (μ 28 1 k)) i.toNatClampNeg x))))) := by
    have e0 : dst μ i.toNatClampNeg x 28 0 = upd (μ 28 0) i.toNatClampNeg (dhi x) := by rw [dst, mset_o (by decide), mset_s]
    have e1 : dst μ i.toNatClampNeg x 28 1 = upd (μ 28 1) i.toNatClampNeg (dlo x) := mset_s _ _ _ _
    show (Sum.inl (gcy G 5, 1, .inr (.inr (.inr (.inl (fun k => dbl (dst μ i.toNatClampNeg x 28 0 k) (dst μ i.toNatClampNeg x 28 (0 + 1) k)))))) : va_E) = _
    rw [e0, show (0 + 1 : Nat) = 1 from rfl, e1]
    congr 7
    funext j
    rw [uget, uget]
    unfold vf_upd
    by_cases h : j = i.toNatClampNeg
    · rw [if_pos h, if_pos h, if_pos h, dbl_of]
    · rw [if_neg h, if_neg h, if_neg h]
  have hw := wl_set2 (G := G) (μ := μ) (μ' := dst μ i.toNatClampNeg x) (t := 28) (o := 0) rfl he (fun j hj hn => by
    have hd : ¬ (dcd j).1 = 28 := fun q => hn (by
      have : (dcd j).2 = 0 := by
        unfold dcd at q ⊢
        split at q
        · exact absurd q (by show ¬ j % 11 = 28; omega)
        · rw [if_neg (by assumption)]
      exact Prod.ext q this)
    refine ent_congr ?_ (fun h => absurd h hd)
    rw [dst, mset_t hd, mset_t hd])
  rw [hw] at hP hD
  refine k2 G p l e R s m args below meth c C H1 locs1 ls hS1 ⟨hW.1, hP, hD, ?_, hW.2.2.2.2.1, Nat.le_trans C.2.2.2.2.2.2.2.2.2.2.2.2 hS1.1⟩ hl hu
  rw [show dst μ i.toNatClampNeg x 98 0 = μ 98 0 from by rw [dst, mset_t (by decide), mset_t (by decide)], show dst μ i.toNatClampNeg x 99 0 = μ 99 0 from by rw [dst, mset_t (by decide), mset_t (by decide)]]
  exact va_X.kept hW.2.2.2.1 (scr_kept hW C.2.2.2.2.2.2.2.2.2.2.2.2 hS hS1)
/-- more room -/
theorem AW_u (h : u ≤ u') (h2 : u' ≤ mU M) (k : AW M u' pc loc st μ P) : AW M u pc loc st μ P := by
  intro G p l e R s m args below meth c C H locs ls hS hW hl hu
  exact W.widen (k := mC M + u') (n := mS M + 6 * u') (by omega) (by omega) (k G p l e R s m args below meth c C H locs ls hS hW hl h2)
theorem AW_callVE {t o idx n h : Nat} {M2 : MI} {stk : List AV} {E : String} {μ1 : Mem} (as : List AV) (d : decode (mB M) pc = .ok (.invokevirtual idx, 3)) (hf : CFV (mY M).cls idx t M2 n) (hst : as.reverse ++ aR t o :: st = stk) (hn : as.length = n) (hc : hasC t o = true) (hlv : mLv M2 + 1 ≤ mLv M) (hu2 : u + mU M2 ≤ mU M) (hcs : (st.map cat).sum ≤ 8)
    (hM : MetA M2 (aR t o :: as) μ (rX E μ1)) (hch : CHd M pc E h) (k : ∀ q : Nat, AW M (u + mU M2) h loc [.inl (.ref q)] μ1 P) : AW M u pc loc stk μ P := by
  intro G p l e R s m args below meth c C H locs ls hS hW hl hu
  subst hst
  obtain ⟨⟨f1, f2, f3, f4, f5, f6, -⟩, g1, g2, g3, g4, q, g5, g6⟩ := hf
  have hR := C.2.2.2.2.2.2.2.2.1
  have cw := cwV (C := (mY M2).cls) (own := (mY M).cls) (index := idx) (ws := wsM M2) (rm := rmM M2) (mc := mU M2) (ms := 6 * mU M2) (R := R) n C.2.2.2.2.2.1 (gtb_in (fun w hw => by
    rcases List.mem_append.mp hw with h | h
    · simp only [List.mem_cons, List.not_mem_nil, or_false] at h
      rcases h with rfl | rfl | rfl | rfl
      · exact g1
      · exact g2
      · exact g3
      · exact f3
    · rw [f1] at h
      rcases List.mem_cons.mp h with rfl | h
      · exact f2
      · exact h)) f1 rfl rfl ⟨rfl, f4⟩ ⟨by show mLv M2 + 1 ≤ _; omega, by show 8 + (mN M2 + 11) + (40 * mLv M2 + 60) ≤ _; omega⟩
  have e1 : mC M + u + mU M2 = mC M + (u + mU M2) := by omega
  have e2 : mS M + 6 * u + 6 * mU M2 = mS M + 6 * (u + mU M2) := by omega
  have rn := vx_runV (b := gad G t o) (As := as.map (conc G)) (rest := st.map (conc G)) (g := F0 m pc ls ((as.reverse ++ aR t o :: st).map (conc G))) (H := H) (locs := locs) (cells := mC M + u) (slots := mS M + 6 * u) (e := e) (below := below) (meth := meth) C.fix (hM G l C.2.2.2.2.2.2.2.1) cw ⟨PcA_blind G _ μ, va_recv hW.1 hW.2.1 g5 (by rw [wl_at hc, ent0 g4]) |>.imp (fun cell h => ⟨h.1, h.2.1, by rw [← g6]; exact h.2.2⟩), PcA_at C hS hW (aR t o :: as)⟩ rfl (by rw [List.length_map]; exact hn) hl.1 (by
    show List.map (conc G) (as.reverse ++ aR t o :: st) = _
    rw [List.map_append, List.map_reverse]; rfl) (lv_room (by rw [cat_sum]; exact hcs)) d ⟨by omega, by omega⟩
  refine AW_after rn hS (fun v μ' hp H1 locs1 hS1 hW1 => nomatch hp.1) (fun E' μ' hp H1 locs1 q9 ce hS1 hW1 hce hcv hcl => ?_)
  obtain ⟨hp1, hp2⟩ := hp
  cases hp1
  subst hp2
  obtain ⟨pre, x, suf, x1, x2, x3, x4, x5, x6, x7⟩ := hch
  rw [e1, e2]
  have hNS := C.2.2.2.2.2.2.2.2.2.2.2.1
  refine vx_catch C.2.2.2.2.1 pre x suf (by rw [C.2.2.2.2.2.2.2.2.2.1]; exact x1) (fun z hz => Or.inr ?_) x3 x4 (C.2.2.2.2.2.1 _ x6) (va_Nw.use (ntb_tabs x7) (hNS.1 _ x7)) hce hcv hcl ?_
  · obtain ⟨y1, nm, y2, y3⟩ := x2 z hz
    exact ⟨y1, nm, C.2.2.2.2.2.1 _ y2, hNS.2.2 _ y3⟩
  · rw [x5]
    exact k q9 G p l e R s m args below meth c C H1 locs1 ls hS1 hW1 hl hu2
theorem AW_callSW {idx n : Nat} {M2 : MI} {stk : List AV} {r : Int32} {μ1 : Mem} (as : List AV) (d : decode (mB M) pc = .ok (.invokestatic idx, 3)) (hf : CFSW (mY M).cls idx M2 n) (hst : as.reverse ++ st = stk) (hn : as.length = n) (hlv : mLv M2 + 1 ≤ mLv M) (hu' : u + mU M2 = u') (hu2 : u' ≤ mU M) (hcs : (st.map cat).sum ≤ 8)
    (hM : MetA M2 as μ (rI r μ1)) (k : AW M u' (pc + 3) loc (aI r :: st) μ1 P) : AW M u pc loc stk μ P := by
  intro G p l e R s m args below meth c C H locs ls hS hW hl hu
  subst hst
  subst hu'
  obtain ⟨⟨f1, f2, f3, f4, f5, f6, -⟩, g1, g2⟩ := hf
  have hR := C.2.2.2.2.2.2.2.2.1
  have cw := vx_cwSW (own := (mY M).cls) (index := idx) (hh := mH M2) (ws := wsM M2) (rm := rmM M2) (mc := mU M2) (ms := 6 * mU M2) (R := R) n C.2.2.2.2.2.1 (gtb_in (fun w hw => by
    rcases List.mem_append.mp hw with h | h
    · simp only [List.mem_cons, List.not_mem_nil, or_false] at h
      rcases h with rfl | rfl | rfl
      · exact g1
      · exact g2
      · exact f3
    · rw [f1] at h
      rcases List.mem_cons.mp h with rfl | h
      · exact f2
      · exact h)) f1 rfl rfl f4 ⟨by show mLv M2 + 1 ≤ _; omega, by show 8 + (mN M2 + 11) + (40 * mLv M2 + 60) ≤ _; omega⟩
  have e1 : mC M + u + mU M2 = mC M + (u + mU M2) := by omega
  have e2 : mS M + 6 * u + 6 * mU M2 = mS M + 6 * (u + mU M2) := by omega
  have rn := vx_runSX (hh := mH M2) (As := as.map (conc G)) (rest := st.map (conc G)) (g := F0 m pc ls ((as.reverse ++ st).map (conc G))) (H := H) (locs := locs) (cells := mC M + u) (slots := mS M + 6 * u) (e := e) (below := below) (meth := meth) C.fix (hM G l C.2.2.2.2.2.2.2.1) cw ⟨PcA_blind G _ μ, PcA_at C hS hW as⟩ rfl (by rw [List.length_map]; exact hn) hl.1 (by
    show List.map (conc G) (as.reverse ++ st) = _
    rw [List.map_append, List.map_reverse]) (lv_room (by rw [cat_sum]; exact hcs)) d ⟨by omega, by omega⟩
  refine AW_after rn hS (fun v μ' hp H1 locs1 hS1 hW1 => ?_) (fun E μ' hp H1 locs1 q9 ce hS1 hW1 hce hcv hcl => nomatch hp.1)
  rw [e1, e2]
  obtain ⟨hp1, hp2⟩ := hp
  cases hp1
  subst hp2
  have hk := k G p l e R s m args below meth c C H1 locs1 ls hS1 hW1 hl hu2
  exact hk
/-- a method with handlers, out of its body -/
theorem MetA.ofH {as : List AV} {n : Nat} {loc : LOC} (hf : CFW M n) (hn : as.all (fun v => cat v == 1) = true) (hlen : as.length ≤ mN M) (hloc : as.map some ++ List.replicate (mN M - as.length) none = loc) (k : AW M 0 0 loc [] μ P) : MetA M as μ P := by
  subst hloc
  have k : AW M 0 0 (as.map some) [] μ P := AW_sub (fun i v h => by
    by_cases hi : i < (as.map some).length
    · rwa [List.getElem?_append_left hi] at h
    · rw [List.getElem?_append_right (by omega)] at h
      rw [List.getElem?_replicate] at h
      split at h <;> cases h) k
  intro G l hl
  obtain ⟨f1, f2, f3, f4, f5, f6, f7, f8⟩ := hf
  refine vx_ofWH (cc := mB M) (maxL := mN M) (ret := mR M) f6 f1 ?_
  intro p e s m args below meth c s₁ B hml hv
  obtain ⟨rfl, hW, hSW, hNS⟩ := hv
  have hat := atoms_spec (ws := wsM M) B.pre
  have hts : ∀ w ∈ gtb, w.before (as.map (conc G)).toArray s = true := fun w hw => hat w (by rw [f1]; exact List.mem_cons_of_mem _ hw)
  have htb := vx_table (x := mY M) B (hat (Cond.codeWith (mY M) (mB M) (mN M) (mR M) (mH M)) (by rw [f1]; exact List.mem_cons_self))
  have hsl : lg_sl (as.map (conc G)) = (as.map (conc G)).map Slot.val := by
    unfold lg_sl
    have h1 : ∀ v ∈ as.map (conc G), ¬ v.category = 2 := by
      intro v hv
      obtain ⟨a, ha, rfl⟩ := List.mem_map.mp hv
      have := List.all_eq_true.mp hn a ha
      rw [cat_conc]
      simp at this
      omega
    generalize as.map (conc G) = vs at h1
    induction vs with
    | nil => rfl
    | cons v r ih =>
      rw [List.flatMap_cons, if_neg (h1 v List.mem_cons_self), List.map_cons, ih (fun x hx => h1 x (List.mem_cons_of_mem _ hx))]
      rfl
  have hlv := lv_entry (as.map (conc G)) (n := mN M) (by rw [hsl]; simp only [List.length_map]; exact hlen)
  rw [lg_entry_eq]
  have hl0 : lv_has ((lg_sl (as.map (conc G)) ++ List.replicate (mN M - (lg_sl (as.map (conc G))).length) Slot.unset).toArray) (mN M) (lcv G (as.map some)) := by
    refine ⟨hlv.1, hlv.2.1, fun q hq => ?_⟩
    obtain ⟨v, h1, h2⟩ := lcv_mem.mp (show (q.1, q.2) ∈ lcv G (as.map some) from hq)
    rw [List.getElem?_map] at h1
    cases h3 : as[q.1]? with
    | none => rw [h3] at h1; cases h1
    | some a =>
      rw [h3] at h1
      cases h1
      rw [h2, hsl, List.getElem?_toArray, List.getElem?_append_left (by simp only [List.length_map]; exact (List.getElem?_eq_some_iff.mp h3).1), List.getElem?_map, List.getElem?_map, h3]
      rfl
  have K := k G p l e (headSpec (wsM M) (rmM M)).room s m _ below meth c ⟨B.exec, B.bytes, B.returns, hml, findClass_of_methodNamed B.named, hts, B.notSynchronized, hl, ⟨Nat.le_refl _, Nat.le_refl _, by rw [f7, Nat.zero_add]; exact Nat.le_refl _, by rw [f8, Nat.zero_add]; exact Nat.le_refl _⟩, htb, hSW, hNS, hW.2.2.2.2.2⟩ s.heap [] _ va_S.rf hW hl0 (Nat.zero_le _)
  rw [f7, f8] at K
  simp only [Nat.zero_add, Nat.mul_zero] at K
  exact K
end LWA
