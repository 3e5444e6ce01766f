/-! building: cells that come one after the other -/
theorem gw_oi : Cond.instanceMethod Lib.objectInit ∈ gtb := List.mem_filter.mpr ⟨List.mem_of_getElem? (i := 100) (by decide +kernel), by decide +kernel⟩
theorem gw_oc : Cond.code Lib.objectInit ⟨#[0xb1]⟩ 1 none ∈ gtb := List.mem_filter.mpr ⟨List.mem_of_getElem? (i := 101) (by decide +kernel), by decide +kernel⟩
theorem gw_ac_int : (Jvm.Cond.arrayClass Jvm.ClassFile.FieldType.int) ∈ gtb := List.mem_filter.mpr ⟨List.mem_of_getElem? (i := 175) (by decide +kernel), by decide +kernel⟩
theorem gw_ac_char : (Jvm.Cond.arrayClass Jvm.ClassFile.FieldType.char) ∈ gtb := List.mem_filter.mpr ⟨List.mem_of_getElem? (i := 254) (by decide +kernel), by decide +kernel⟩
theorem gw_ac_long : (Jvm.Cond.arrayClass Jvm.ClassFile.FieldType.long) ∈ gtb := List.mem_filter.mpr ⟨List.mem_of_getElem? (i := 1507) (by decide +kernel), by decide +kernel⟩
theorem gw_ac_double : (Jvm.Cond.arrayClass Jvm.ClassFile.FieldType.double) ∈ gtb := List.mem_filter.mpr ⟨List.mem_of_getElem? (i := 1508) (by decide +kernel), by decide +kernel⟩
def ordf (i : Nat) : Nat × Nat := if i = 0 then (11, 0) else if i < 45 then ((i - 1) % 11, (i - 1) / 11) else if i = 45 then (12, 0) else if i = 46 then (13, 0) else if i < 135 then ((i - 47) % 11, 4 + (i - 47) / 11) else (i - 121, 0)
def idf (t o : Nat) : Nat := if t < 11 then (if o < 4 then 1 + 11 * o + t else 47 + 11 * (o - 4) + t) else if t = 11 then 0 else if t = 12 then 45 else if t = 13 then 46 else t + 121
theorem ord_ok : ∀ i, i < 150 → idf (ordf i).1 (ordf i).2 = i ∧ hasC (ordf i).1 (ordf i).2 = true := by decide +kernel
theorem idf_ok0 : ∀ t, t < 29 → ∀ o, o < 12 → hasC t o = true → ordf (idf t o) = (t, o) ∧ idf t o < 150 := by decide +kernel
theorem hasC_lt {t o : Nat} (h : hasC t o = true) : t < 29 ∧ o < 12 := by
  unfold hasC at h
  by_cases c : t < 11
  · rw [if_pos c] at h
    exact ⟨by omega, of_decide_eq_true h⟩
  · rw [if_neg c] at h
    simp only [Bool.and_eq_true, decide_eq_true_eq] at h
    omega
theorem idf_ok {t o : Nat} (h : hasC t o = true) : ordf (idf t o) = (t, o) ∧ idf t o < 150 := idf_ok0 t (hasC_lt h).1 o (hasC_lt h).2 h
def nfB (G : GG) (μ : Mem) (t o k : Nat) (x : Option (Nat × Option Nat)) : Value := match x with
  | none => .int (μ t o k)
  | some q => if μ t o k = 0 then .null else .ref (gad G (tgt o q).1 (tgt o q).2)
def fsB (G : GG) (μ : Mem) (t o : Nat) : List Value := (fl t).mapIdx (nfB G μ t o)
def entB (G : GG) (μ : Mem) (t o : Nat) : va_E := if kd t = 0 then .inr (ci t, fsB G μ t o) else if kd t = 3 then .inl (gcy G 3, ln t, .inr (.inr (.inr (.inr (fun i => if μ t o i = 0 then none else some (gad G 0 (4 + i))))))) else ent G μ t o
def wlB (G : GG) (μ : Mem) (n : Nat) : va_W := (List.range n).map fun i => (gad G (ordf i).1 (ordf i).2, entB G μ (ordf i).1 (ordf i).2)
theorem wlB_get {G : GG} {μ : Mem} {n i : Nat} (h : i < n) : (wlB G μ n)[i]? = some (gad G (ordf i).1 (ordf i).2, entB G μ (ordf i).1 (ordf i).2) := by
  unfold wlB
  rw [List.getElem?_map, List.getElem?_range h]
  rfl
theorem wlB_len {G : GG} {μ : Mem} {n : Nat} : (wlB G μ n).length = n := by unfold wlB; rw [List.length_map, List.length_range]
def AD (G : GG) : Prop := ∀ t o, hasC t o = true → gad G t o = gn0 G + idf t o
theorem AD.o {G : GG} (a : AD G) {i : Nat} (h : i < 150) : gad G (ordf i).1 (ordf i).2 = gn0 G + i := by
  obtain ⟨h1, h2⟩ := ord_ok i h
  rw [a _ _ h2, h1]
def HB (G : GG) (μ : Mem) (n : Nat) (s : State) (H : Heap) : Prop := va_K (gD G) vwC (tysG G) s ∧ va_P (gD G) vwC (wlB G μ n) H ∧ va_X (gad G 99 0) (μ 98 0 0).toNatClampNeg (μ 99 0) s H ∧ gad G 99 0 < gn0 G ∧ H.size = gn0 G + n ∧ AD G ∧ n ≤ 150 ∧ va_AO "ErrataPress$State" s
theorem HB.moved {G : GG} {μ : Mem} {n : Nat} {u U : State} {H : Heap} (hvm : u.vm.Alike U.vm) (h : HB G μ n u H) : HB G μ n U H := ⟨va_K.moved hvm h.1, h.2.1, va_X.moved hvm h.2.2.1, h.2.2.2.1, h.2.2.2.2.1, h.2.2.2.2.2.1, h.2.2.2.2.2.2.1, va_AO.moved hvm h.2.2.2.2.2.2.2⟩
theorem HB.D {G : GG} {μ : Mem} {n : Nat} {s : State} {H : Heap} (h : HB G μ n s H) : va_D (gA G) (wlB G μ n) := by
  obtain ⟨-, -, -, -, -, a, hn, -⟩ := h
  have key : ∀ (i : Nat) (p : Nat × va_E), (wlB G μ n)[i]? = some p → i < 150 ∧ p.1 = gn0 G + i := by
    intro i p hp
    have hi : i < n := by
      have := (List.getElem?_eq_some_iff.mp hp).1
      rwa [wlB_len] at this
    rw [wlB_get hi] at hp
    cases hp
    exact ⟨by omega, a.o (by omega)⟩
  refine ⟨fun i j p q hp hq e => ?_, fun k q hq => ?_⟩
  · have h1 := (key i p hp).2
    have h2 := (key j q hq).2
    omega
  · show gn0 G ≤ q.1
    have := (key k q hq).2
    omega
theorem entB_congr {G : GG} {μ μ' : Mem} {t o : Nat} (h : μ' t o = μ t o) (h2 : t = 28 → μ' t (o + 1) = μ t (o + 1)) : entB G μ' t o = entB G μ t o := by
  unfold entB
  have e : fsB G μ' t o = fsB G μ t o := by
    unfold fsB
    congr 1
    funext k x
    cases x with
    | none => show Value.int (μ' t o k) = .int (μ t o k); rw [h]
    | some q => show (if μ' t o k = 0 then Value.null else _) = (if μ t o k = 0 then Value.null else _); rw [h]
  rw [e, h, ent_congr h h2]
theorem HB.push {G : GG} {μ : Mem} {n : Nat} {s : State} {H H1 : Heap} (h : HB G μ n s H) (hn : n < 150) (z : H1.size = H.size + 1) (o1 : ∀ q : Nat, q < H.size → H1[q]? = H[q]?) (hat : va_at (gD G) vwC (gad G (ordf n).1 (ordf n).2, entB G μ (ordf n).1 (ordf n).2) H1) : HB G μ (n + 1) s H1 := by
  obtain ⟨hK, hP, hX, hb, hz, a, hle, ao⟩ := h
  refine ⟨hK, fun k q hk => ?_, hX.kept (o1 _ (by omega)), hb, by omega, a, hn, ao⟩
  have hk1 : k < n + 1 := by
    have := (List.getElem?_eq_some_iff.mp hk).1
    rwa [wlB_len] at this
  rw [wlB_get hk1] at hk
  cases hk
  by_cases c : k = n
  · subst c
    exact hat
  · have h9 := hP k _ (wlB_get (G := G) (μ := μ) (show k < n by omega))
    exact h9.kept (o1 _ h9.lt)
theorem wlB_set {G : GG} {μ μ' : Mem} {t o n : Nat} {e : va_E} (hc : hasC t o = true) (hn : n ≤ 150) (ht : t ≠ 28) (hμ : ∀ t' o', ¬ (t' = t ∧ o' = o) → μ' t' o' = μ t' o') (he : entB G μ' t o = e) : (wlB G μ n).set (idf t o) (gad G t o, e) = wlB G μ' n := by
  obtain ⟨h1, h2⟩ := idf_ok hc
  apply List.ext_getElem?
  intro j
  by_cases hj : j < n
  · rw [wlB_get hj, List.getElem?_set]
    by_cases hp : idf t o = j
    · subst hp
      rw [if_pos rfl, if_pos (by rw [wlB_len]; exact hj), h1, he]
    · rw [if_neg hp, wlB_get hj]
      have hne : ¬ ((ordf j).1 = t ∧ (ordf j).2 = o) := fun q => hp (by
        have := (ord_ok j (by omega)).1
        rw [q.1, q.2] at this
        exact this)
      rw [entB_congr (hμ _ _ hne) (fun h => hμ _ _ (by omega))]
  · rw [List.getElem?_eq_none (by rw [List.length_set, wlB_len]; omega), List.getElem?_eq_none (by rw [wlB_len]; omega)]
theorem HB.put {G : GG} {μ μ' : Mem} {t o n : Nat} {s : State} {H H1 : Heap} (h : HB G μ n s H) (hc : hasC t o = true) (ht : t ≠ 28) (hμ : ∀ t' o', ¬ (t' = t ∧ o' = o) → μ' t' o' = μ t' o') (hP : va_P (gD G) vwC ((wlB G μ n).set (idf t o) (gad G t o, entB G μ' t o)) H1) (hz : H1.size = H.size) (hq : H1[gad G 99 0]? = H[gad G 99 0]?) : HB G μ' n s H1 := by
  obtain ⟨hK, -, hX, hb, hz0, a, hle, ao⟩ := h
  have h29 := (hasC_lt hc).1
  rw [wlB_set hc hle ht hμ rfl] at hP
  refine ⟨hK, hP, ?_, hb, by omega, a, hle, ao⟩
  rw [hμ 98 0 (by omega), hμ 99 0 (by omega)]
  exact hX.kept hq
theorem fsB_set {G : GG} {μ : Mem} {t o k : Nat} {v : Int32} {x : Option (Nat × Option Nat)} (hx : (fl t)[k]? = some x) : fsB G (mset μ t o (upd (μ t o) k v)) t o = (fsB G μ t o).set k (nfB G (mset μ t o (upd (μ t o) k v)) t o k x) := by
  have hl : k < (fl t).length := (List.getElem?_eq_some_iff.mp hx).1
  apply List.ext_getElem?
  intro j
  unfold fsB
  rw [List.getElem?_set, List.getElem?_mapIdx]
  by_cases hj : k = j
  · subst hj
    rw [if_pos rfl, if_pos (by rw [List.length_mapIdx]; exact hl), hx]
    rfl
  · rw [if_neg hj, List.getElem?_mapIdx]
    cases h : (fl t)[j]? with
    | none => rfl
    | some y =>
      cases y with
      | none =>
        show some (Value.int (mset μ t o (upd (μ t o) k v) t o j)) = some (Value.int (μ t o j))
        rw [mset_s, uget, if_neg (fun q => hj q.symm)]
      | some q =>
        show some (if mset μ t o (upd (μ t o) k v) t o j = 0 then Value.null else _) = some (if μ t o j = 0 then Value.null else _)
        rw [mset_s, uget, show (if j = k then v else μ t o j) = μ t o j from if_neg (fun q => hj q.symm)]
theorem fsB_len {G : GG} {μ : Mem} {t o : Nat} : (fsB G μ t o).length = (fl t).length := by unfold fsB; rw [List.length_mapIdx]
/-! rows of the machine that also tell the heap's size -/
section BROW
variable {p : Program} {l : Launch} {e : Env} {R : Room} {s : State} {m : MethodId} {args : Array Value} {below : List Frame} {meth : Method} {c : Code} {H H0 : Heap} {locs : List Loc} {cells slots : Nat} {Q : State → Prop}
variable {cc : ByteArray} {pc a : Nat} {ls : Array Slot} {rest : List Value} {D : va_G} {cl : List vw_C} {tys : List (ClassId × FieldType)} {ws : va_W} {A : Nat → Prop}
/-- follows va_put -/
theorem bb_put (hexec : p.tables.exec = Jvm.exec) (hb : c.code = cc) {own ref C : String} {T : u_T} {N ci index : Nat} {Ts : List Cond} (hts : ∀ w ∈ Ts, w.before args s = true) (hin : ∀ w ∈ u_ws C T N, w ∈ Ts) (ty0 : Nat → FieldType) (hty : ∀ k, k < N → parseFieldDescriptor (T k).2.2.1 = some (ty0 k)) (hnm : ∀ a, a < N → ∀ b, b < N → a ≠ b → (T a).2.1 ≠ (T b).2.1) (hown : s.vm.findClass own = some m.cls) (hK : va_K D cl tys s) (hP : va_P D cl ws H) (hD : va_D A ws) (hS0 : va_S A H0 H locs) (q0 : Nat) {fs : List Value} (he : ws[q0]? = some (a, .inr (ci, fs))) (hc : cl[ci]? = some (C, T, N)) (k : Nat) (hk : k < N) (hlink : (Cond.fieldLink own index ref (T k).2.1 (T k).2.2.1).before args s = true) (hsame : ∀ x, s.fieldFound? (T k).1 (T k).2.1 (T k).2.2.1 = some x → s.fieldFound? ref (T k).2.1 (T k).2.2.1 = some x) (hfin : (T k).2.2.2 = false) {ty : FieldType} {v : Value} (hd : parseFieldDescriptor (T k).2.2.1 = some ty) (hn : narrow ty v = v) (hfit : fits ty v = true) (hl : k < fs.length)
    (hdg : decode cc pc = .ok (.putfield index, 3)) (kk : ∀ (H1 : Heap) (locs1 : List Loc), H1.size = H.size → (∀ q : Nat, q ≠ a → H1[q]? = H[q]?) → va_P D cl (ws.set q0 (a, .inr (ci, fs.set k v))) H1 → va_S A H0 H1 locs1 → W p l e R s m args below meth c H1 locs1 cells slots Q (F0 m (pc + 3) ls rest)) : W p l e R s m args below meth c H locs cells slots Q (F0 m pc ls (v :: .ref a :: rest)) := by
  have hap := va_apart (own := own) hts hin ty0 hty hnm hK hc
  obtain ⟨r, h1, cell, q1, q2, q3, q4⟩ := hP q0 _ he
  have hr : r = (C, T, N) := Option.some.inj (h1.symm.trans hc)
  subst hr
  obtain ⟨hS, hfc, kC, hkC, hkind⟩ := hK.1 ci _ hc
  obtain ⟨cf, kf, fi, f, hi, hsl⟩ := hS k hk
  have hlay := hts _ (hin _ (u_in_lay hk))
  unfold u_lay at hlay
  rw [if_neg (by rw [hfin]; decide)] at hlay
  have hst := (u_facts hfc hkC (u_lays hts hin hk) hi).1
  have h6 := u_store hfc hkC hkind hlay hi hd hn hfit
  refine W.putK hexec hb (f := f) ⟨hown, hlink, ⟨_, _, _, hsame _ hi⟩, hst⟩ (by rw [q2]; exact h6) q1 q3 (by rw [hsl]; exact k2_hasslot (q4 k hk)) rfl rfl hdg fun H' e1 e2 e3 => ?_
  rw [hsl] at e1 ⊢
  exact kk H' _ e2 e3 (hP.set hD he ⟨_, hc, t_OB.to (V := updV (vp_V fs) k v) ⟨_, e1, q2, q3, t_set q4 hap hk v⟩ (fun j _ => vp_updV_set hl v j)⟩ e3) (hS0.put e2 e3 (hD.2 q0 _ he))
/-- follows va_putF -/
theorem bb_putF (hexec : p.tables.exec = Jvm.exec) (hb : c.code = cc) {own ref C : String} {T : u_T} {N ci index : Nat} {Ts : List Cond} (hts : ∀ w ∈ Ts, w.before args s = true) (hin : ∀ w ∈ u_ws C T N, w ∈ Ts) (ty0 : Nat → FieldType) (hty : ∀ k, k < N → parseFieldDescriptor (T k).2.2.1 = some (ty0 k)) (hnm : ∀ a, a < N → ∀ b, b < N → a ≠ b → (T a).2.1 ≠ (T b).2.1) (hown : s.vm.findClass own = some m.cls) (hK : va_K D cl tys s) (hP : va_P D cl ws H) (hD : va_D A ws) (hS0 : va_S A H0 H locs) (q0 : Nat) {fs : List Value} (he : ws[q0]? = some (a, .inr (ci, fs))) (hc : cl[ci]? = some (C, T, N)) (k : Nat) (hk : k < N) (hlink : (Cond.fieldLink own index ref (T k).2.1 (T k).2.2.1).before args s = true) (hsame : ∀ x, s.fieldFound? (T k).1 (T k).2.1 (T k).2.2.1 = some x → s.fieldFound? ref (T k).2.1 (T k).2.2.1 = some x) (hfin : (T k).2.2.2 = true) (hin2 : meth.name = "<init>") (hdecl : (T k).1 = own) {ty : FieldType} {v : Value} (hd : parseFieldDescriptor (T k).2.2.1 = some ty) (hn : narrow ty v = v) (hfit : fits ty v = true) (hl : k < fs.length)
    (hdg : decode cc pc = .ok (.putfield index, 3)) (kk : ∀ (H1 : Heap) (locs1 : List Loc), H1.size = H.size → (∀ q : Nat, q ≠ a → H1[q]? = H[q]?) → va_P D cl (ws.set q0 (a, .inr (ci, fs.set k v))) H1 → va_S A H0 H1 locs1 → W p l e R s m args below meth c H1 locs1 cells slots Q (F0 m (pc + 3) ls rest)) : W p l e R s m args below meth c H locs cells slots Q (F0 m pc ls (v :: .ref a :: rest)) := by
  have hap := va_apart (own := own) hts hin ty0 hty hnm hK hc
  obtain ⟨r, h1, cell, q1, q2, q3, q4⟩ := hP q0 _ he
  have hr : r = (C, T, N) := Option.some.inj (h1.symm.trans hc)
  subst hr
  obtain ⟨hS, hfc, kC, hkC, hkind⟩ := hK.1 ci _ hc
  obtain ⟨cf, kf, fi, f, hi, hsl⟩ := hS k hk
  have hlay := hts _ (hin _ (u_in_lay hk))
  unfold u_lay at hlay
  rw [if_pos hfin] at hlay
  have hst := (u_facts hfc hkC (u_lays hts hin hk) hi).1
  have hcf : m.cls = cf := by
    obtain ⟨_, _, c', _, _, _, -, -, hf', -, -, -, hown2, -⟩ := Cond.laysFinal_spec hlay
    have e1 : c' = cf := by have := hi.symm.trans hf'; simp at this; exact this.1.symm
    rw [hdecl] at hown2
    rw [← e1]; exact Option.some.inj (hown.symm.trans hown2)
  have h6 := u_fits hfc hkC hkind (Or.inr hlay) hi hd hn hfit
  refine W.putFinK hexec hb hown hlink (hsame _ hi) hst hcf hin2 (by rw [q2]; exact h6) q1 q3 (by rw [hsl]; exact k2_hasslot (q4 k hk)) rfl rfl hdg fun H' e1 e2 e3 => ?_
  rw [hsl] at e1 ⊢
  exact kk H' _ e2 e3 (hP.set hD he ⟨_, hc, t_OB.to (V := updV (vp_V fs) k v) ⟨_, e1, q2, q3, t_set q4 hap hk v⟩ (fun j _ => vp_updV_set hl v j)⟩ e3) (hS0.put e2 e3 (hD.2 q0 _ he))
/-- follows va_astq -/
theorem bb_astq (hexec : p.tables.exec = Jvm.exec) (hb : c.code = cc) (hK : va_K D cl tys s) (hP : va_P D cl ws H) (hD : va_D A ws) (hS : va_S A H0 H locs) (q0 t0 qk ci : Nat) {cA : ClassId} {r : vw_C} {n v : Nat} {vs : List Value} {f : Nat → Option Nat} (ha : ws[q0]? = some (a, .inl (cA, n, .inr (.inr (.inr (.inr f)))))) (ht : tys[t0]? = some (cA, .object r.1)) (hv : ws[qk]? = some (v, .inr (ci, vs))) (hc : cl[ci]? = some r) {i : Int32} (hin : vp_in i n) (hdg : decode cc pc = .ok (.aastore, 1))
    (kk : ∀ (H1 : Heap) (locs1 : List Loc), H1.size = H.size → (∀ q : Nat, q ≠ a → H1[q]? = H[q]?) → va_P D cl (ws.set q0 (a, .inl (cA, n, .inr (.inr (.inr (.inr (va_up f i.toNatClampNeg (some v)))))))) H1 → va_S A H0 H1 locs1 → W p l e R s m args below meth c H1 locs1 cells slots Q (F0 m (pc + 1) ls rest)) : W p l e R s m args below meth c H locs cells slots Q (F0 m pc ls (.ref v :: .int i :: .ref a :: rest)) := by
  have hlt : i.toNatClampNeg < n := Nat.not_le.mp fun q => hin (Or.inr q)
  have h0 : ¬ i < 0 := fun q => hin (Or.inl q)
  obtain ⟨r', hr', cellV, g1, g2, g3, -⟩ := hP qk _ hv
  have hcls := (hK.1 ci r hc).2
  obtain ⟨kA, comp, k1, k2, k3, -⟩ := (hK.2 t0 _ ht).2
  have hcomp : comp = D.1 ci := Option.some.inj (k3.symm.trans hcls.1)
  subst hcomp
  obtain ⟨kC, hkC, -⟩ := hcls.2
  refine W.aast hexec hb (hP q0 _ ha) (fun q h => by cases h) (fun h => by cases h) k1 k2 rfl hkC ⟨h0, by show _ < (arrV _ _ _).slots.size; rw [arrV_size]; exact hlt⟩ g1 (fun q h => by rw [g3] at h; cases h) (by rw [g2]; exact hkC) (by rw [g2]; exact va_assign hcls) rfl rfl hdg fun H1 e z oq => ?_
  refine kk H1 _ z oq (hP.set hD ha ?_ oq) (hS.put z oq (hD.2 q0 _ ha))
  show H1[a]? = some (vp_cell _ _)
  rw [e]
  rw [vp_cell_q, vp_cell_q, arrV_store]
  congr 2
  funext q
  by_cases hq : q = i.toNatClampNeg
  · subst hq
    simp [updV, va_up, va_rf]
  · simp [updV, va_up, hq]
end BROW
