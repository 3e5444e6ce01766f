section AWM
variable {M : MI} {u u' pc : Nat} {loc : LOC} {st : List AV} {μ : Mem} {P : RES → Mem → Prop}
def mask (bs : List Bool) (loc : LOC) : LOC := List.zipWith (fun b v => if b then v else none) bs loc
theorem AW_mask (bs : List Bool) (k : AW M u pc (mask bs loc) st μ P) : AW M u pc loc st μ P := by
  refine AW_sub (fun i v h => ?_) k
  unfold mask at h
  rw [List.getElem?_zipWith] at h
  cases h1 : bs[i]? with
  | none => rw [h1] at h; cases h
  | some b =>
    rw [h1] at h
    cases h2 : loc[i]? with
    | none => rw [h2] at h; cases h
    | some w =>
      rw [h2] at h
      have h3 : (if b = true then w else none) = some v := Option.some.inj h
      cases b
      · cases h3
      · exact congrArg some h3
theorem vp_lt {i : Int32} {n : Nat} (h : vp_in i n) : i.toNatClampNeg < n := Nat.not_le.mp fun q => h (Or.inr q)
theorem vp_lt12 {i : Int32} (h : vp_in i 8) : 4 + i.toNatClampNeg < 12 := by
  have := vp_lt h
  omega
theorem AW_getv {t o k idx : Nat} (x : Option (Nat × Option Nat)) {v : AV} (d : decode (mB M) pc = .ok (.getfield idx, 3)) (hf : FF (mY M).cls idx t k) (hx : (fl t)[k]? = some x) (hc : hasC t o = true) (hv : av μ t o k x = v) (k2 : AW M u (pc + 3) loc (v :: st) μ P) : AW M u pc loc (aR t o :: st) μ P := by
  subst hv
  exact AW_getf d hf hx hc k2
theorem AW_ldcw {idx : Nat} {v : Int32} (d : decode (mB M) pc = .ok (.ldc_w idx, 3)) (hw : Cond.constant (mY M).cls idx v ∈ gtb) (k : AW M u (pc + 3) loc (aI v :: st) μ P) : AW M u pc loc st μ P := by
  intro G p l e R s m args below meth c C H locs ls hS hW hl hu
  exact lv_ldcw C.1 C.2.1 C.2.2.2.2.1 (C.2.2.2.2.2.1 _ hw) d (k G p l e R s m args below meth c C H locs ls hS hW hl hu)
theorem AW_iushr {x y : Int32} (d : decode (mB M) pc = .ok (.iushr, 1)) (k : AW M u (pc + 1) loc (aI ((x.toUInt32 >>> (y.toUInt32 &&& Int32.toUInt32 31)).toInt32) :: st) μ P) : AW M u pc loc (aI y :: aI x :: st) μ P := by
  intro G p l e R s m args below meth c C H locs ls hS hW hl hu
  exact lv_iushr C.1 C.2.1 d rfl (k G p l e R s m args below meth c C H locs ls hS hW hl hu)
theorem AW_callVI {t o idx n : Nat} {M2 : MI} {stk : List AV} {r : Int32} {μ1 : Mem} (as : List AV) (d : decode (mB M) pc = .ok (.invokevirtual idx, 3)) (hf : CFV (mY M).cls idx t M2 n) (hst : as.reverse ++ aR t o :: st = stk) (hn : as.length = n) (hc : hasC t o = true) (hlv : mLv M2 + 1 ≤ mLv M) (hu' : u + mU M2 = u') (hu2 : u' ≤ mU M) (hcs : (st.map cat).sum ≤ 8) (hM : MetA M2 (aR t o :: as) μ (rI r μ1)) (k : AW M u' (pc + 3) loc (aI r :: st) μ1 P) : AW M u pc loc stk μ P := by
  subst hu'
  exact AW_callV as d hf hst hn hc hlv hu2 hcs hM (fun _ _ h => nomatch h.1) (fun v μ' h => by
    obtain ⟨h1, rfl⟩ := h
    cases h1
    exact k)
theorem AW_callVV {t o idx n : Nat} {M2 : MI} {stk : List AV} {μ1 : Mem} (as : List AV) (d : decode (mB M) pc = .ok (.invokevirtual idx, 3)) (hf : CFV (mY M).cls idx t M2 n) (hst : as.reverse ++ aR t o :: st = stk) (hn : as.length = n) (hc : hasC t o = true) (hlv : mLv M2 + 1 ≤ mLv M) (hu' : u + mU M2 = u') (hu2 : u' ≤ mU M) (hcs : (st.map cat).sum ≤ 8) (hM : MetA M2 (aR t o :: as) μ (rV μ1)) (k : AW M u' (pc + 3) loc st μ1 P) : AW M u pc loc stk μ P := by
  subst hu'
  exact AW_callV as d hf hst hn hc hlv hu2 hcs hM (fun _ _ h => nomatch h.1) (fun v μ' h => by
    obtain ⟨h1, rfl⟩ := h
    cases h1
    exact k)
theorem AW_callVX {t o idx n : Nat} {M2 : MI} {stk : List AV} {E : String} {μ1 : Mem} (as : List AV) (d : decode (mB M) pc = .ok (.invokevirtual idx, 3)) (hf : CFV (mY M).cls idx t M2 n) (hst : as.reverse ++ aR t o :: st = stk) (hn : as.length = n) (hc : hasC t o = true) (hlv : mLv M2 + 1 ≤ mLv M) (hu2 : u + mU M2 ≤ mU M) (hcs : (st.map cat).sum ≤ 8) (hH : mH M = []) (hM : MetA M2 (aR t o :: as) μ (rX E μ1)) (k : P (.inr E) μ1) : AW M u pc loc stk μ P :=
  AW_callV as d hf hst hn hc hlv hu2 hcs hM (fun E' μ' h => by
    obtain ⟨h1, rfl⟩ := h
    cases h1
    exact ⟨k, hH⟩) (fun v μ' h => nomatch h.1)
theorem AW_callSI {idx n : Nat} {M2 : MI} {stk : List AV} {r : Int32} {μ1 : Mem} (as : List AV) (d : decode (mB M) pc = .ok (.invokestatic idx, 3)) (hf : CFS (mY M).cls idx M2 n) (hst : as.reverse ++ st = stk) (hn : as.length = n) (hlv : mLv M2 + 1 ≤ mLv M) (hu' : u + mU M2 = u') (hu2 : u' ≤ mU M) (hcs : (st.map cat).sum ≤ 8) (hM : MetA M2 as μ (rI r μ1)) (k : AW M u' (pc + 3) loc (aI r :: st) μ1 P) : AW M u pc loc stk μ P := by
  subst hu'
  exact AW_callS as d hf hst hn hlv hu2 hcs hM (fun _ _ h => nomatch h.1) (fun v μ' h => by
    obtain ⟨h1, rfl⟩ := h
    cases h1
    exact k)
theorem AW_callSV {idx n : Nat} {M2 : MI} {stk : List AV} {μ1 : Mem} (as : List AV) (d : decode (mB M) pc = .ok (.invokestatic idx, 3)) (hf : CFS (mY M).cls idx M2 n) (hst : as.reverse ++ st = stk) (hn : as.length = n) (hlv : mLv M2 + 1 ≤ mLv M) (hu' : u + mU M2 = u') (hu2 : u' ≤ mU M) (hcs : (st.map cat).sum ≤ 8) (hM : MetA M2 as μ (rV μ1)) (k : AW M u' (pc + 3) loc st μ1 P) : AW M u pc loc stk μ P := by
  subst hu'
  exact AW_callS as d hf hst hn hlv hu2 hcs hM (fun _ _ h => nomatch h.1) (fun v μ' h => by
    obtain ⟨h1, rfl⟩ := h
    cases h1
    exact k)
theorem AW_callNI {idx n : Nat} {host : String} {M2 : MI} {stk : List AV} {r : Int32} {μ1 : Mem} (as : List AV) (d : decode (mB M) pc = .ok (.invokestatic idx, 3)) (hf : CFN (mY M).cls idx M2 n host) (hst : as.reverse ++ st = stk) (hn : as.length = n) (hlv : mLv M2 + 1 ≤ mLv M) (hu' : u + mU M2 = u') (hu2 : u' ≤ mU M) (hcs : (st.map cat).sum ≤ 8) (hM : MetA M2 as μ (rI r μ1)) (k : AW M u' (pc + 3) loc (aI r :: st) μ1 P) : AW M u pc loc stk μ P := by
  subst hu'
  exact AW_callN as d hf hst hn hlv hu2 hcs hM (fun _ _ h => nomatch h.1) (fun v μ' h => by
    obtain ⟨h1, rfl⟩ := h
    cases h1
    exact k)
theorem AW_throwW {ik is ic : Nat} {cls text : String} {names : List String} (hf : TF (mY M).cls ik is ic cls text names) (d0 : decode (mB M) pc = .ok (.new ik, 3)) (d3 : decode (mB M) (pc + 3) = .ok (.dup, 1)) (d4 : decode (mB M) (pc + 4) = .ok (.ldc_w is, 3)) (d7 : decode (mB M) (pc + 7) = .ok (.invokespecial ic, 3)) (d10 : decode (mB M) (pc + 10) = .ok (.athrow, 1))
    (hlv : 8 ≤ mLv M) (hu2 : u + 1 ≤ mU M) (hH : mH M = []) (hcs : (st.map cat).sum ≤ 8) (h : P (.inr cls) μ) : AW M u pc loc st μ P := by
  intro G p l e R s m args below meth c C H locs ls hS hW hl hu
  obtain ⟨f1, f2, f3, f4, f5, f6, f7, f8, f9⟩ := hf
  have hR := C.2.2.2.2.2.2.2.2.1
  have hNS := C.2.2.2.2.2.2.2.2.2.2.2.1
  have hSW := C.2.2.2.2.2.2.2.2.2.2.1
  obtain ⟨sa, hstr⟩ := hNS.2.1 _ f5
  have hcs2 : ((st.map (conc G)).map fun v => v.category).sum ≤ 8 := by rw [cat_sum]; exact hcs
  refine vx_throwSW (A := gA G) C.1 C.2.1 C.2.2.2.2.2.2.2.1 C.2.2.2.2.1 f1 f2 (C.2.2.2.2.2.1 _ f3) (C.2.2.2.2.2.1 _ f4) hstr (vx_hat (B := ntb) (fun w hw => C.2.2.2.2.2.1 _ (f6 w hw)) f7 (fun w hw => va_Nw.use (ntb_tabs hw) (hNS.1 w hw))) f8 hSW.1 hSW.2 hS (hl.1.trans C.2.2.2.1.symm) d0 d3 d4 d7 d10 (C.out hH) (by omega) (by omega) (by omega) (by omega) C.2.2.2.2.2.2.1 (fun t ha hz hq => ?_) hS.2.2 (by omega) (by omega)
  have hk : ∀ (k : Nat) (q : Nat × va_E), (wl G μ)[k]? = some q → t.heap[q.1]? = H[q.1]? := fun k q hk => hq _ (hW.2.1 k q hk).lt
  refine ⟨μ, h, ⟨va_K.moved ha hW.1, hW.2.1.kept hk, hW.2.2.1, ?_, hW.2.2.2.2.1, Nat.le_trans hW.2.2.2.2.2 hz⟩, ⟨Nat.le_trans hS.1 hz, fun q h1 h2 => ?_⟩⟩
  · exact (va_X.moved ha hW.2.2.2.1).kept (hq _ (Nat.lt_of_lt_of_le hW.2.2.2.2.1 hW.2.2.2.2.2))
  · rw [hq q (Nat.lt_of_lt_of_le h1 hS.1)]
    exact hS.2.1 q h1 h2
theorem MetA.of2 {as : List AV} {n : Nat} {loc : LOC} (hf : CF0 M n) (hn : as.all (fun v => cat v == 1) = true) (hlen : as.length ≤ mN M) (hloc : as.map some ++ List.replicate (mN M - as.length) none = loc) (k : AW M 0 0 loc [] μ P) : MetA M as μ P := by
  subst hloc
  refine MetA.of hf hn hlen (AW_sub (fun i v h => ?_) k)
  by_cases hi : i < (as.map some).length
  · rwa [List.getElem?_append_left hi] at h
  · rw [List.getElem?_append_right (by omega)] at h
    rw [List.getElem?_replicate] at h
    split at h <;> cases h
theorem MetA.mono {as : List AV} {P Q : RES → Mem → Prop} (h : ∀ r μ', P r μ' → Q r μ') (k : MetA M as μ P) : MetA M as μ Q := by
  intro G l hl p e ha hc hk s m args below hf hn hw hK
  obtain ⟨t, o, a1, b1, b2, b3⟩ := k G l hl p e ha hc hk s m args below hf hn hw hK
  refine ⟨t, o, a1, b1, b2, ?_⟩
  rcases b3 with ⟨⟨v, μ', c1, c2, c3⟩, c4⟩ | ⟨q, c1, E, ce, L, ⟨μ', c2, c3⟩, c4⟩
  · exact Or.inl ⟨⟨v, μ', c1, h _ _ c2, c3⟩, c4⟩
  · exact Or.inr ⟨q, c1, E, ce, L, ⟨μ', h _ _ c2, c3⟩, c4⟩
end AWM
theorem TF_of {own : String} {ik is ic : Nat} {cls text : String} {names : List String} (h1 : Bundle.fit cls = true) (h2 : ∀ n ∈ names, Bundle.fit n = true) (h3 : Cond.classLink own ik cls ∈ gtb) (h4 : Cond.initialized cls ∈ gtb) (h5 : (own, is, text) ∈ strs) (h6 : ∀ w ∈ (vx_atS own ic cls names).filter goodWord, w ∈ lw_tbl) (h7 : ∀ w ∈ (vx_atS own ic cls names).filter (fun w => !goodWord w), w ∈ ntb) (h8 : ∀ w ∈ Cond.classLink own ik cls :: Cond.initialized cls :: vx_atS own ic cls names, vx_ot w = true) (h9 : names.length ≤ 4) : TF own ik is ic cls text names :=
  ⟨h1, h2, h3, h4, h5, fun w hw => List.mem_filter.mpr ⟨h6 w hw, (List.mem_filter.mp hw).2⟩, h7, h8, h9⟩
