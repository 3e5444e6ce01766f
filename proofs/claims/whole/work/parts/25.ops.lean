/-! what changes make of a press -/
theorem mget (μ : Mem) (t o : Nat) (f : Nat → Int32) (t' o' : Nat) : mset μ t o f t' o' = if t' = t ∧ o' = o then f else μ t' o' := rfl
theorem uget (f : Nat → Int32) (k : Nat) (x : Int32) (i : Nat) : upd f k x i = if i = k then x else f i := rfl
theorem vget {α : Type} (f : Nat → α) (k : Nat) (x : α) (i : Nat) : va_up f k x i = if i = k then x else f i := rfl
/-- nothing but the state j has changed -/
def Fr (j : Nat) (μ μ' : Mem) : Prop := ∀ t o, ¬ (t < 11 ∧ o = j) → μ' t o = μ t o
theorem Fr.rf {j : Nat} {μ : Mem} : Fr j μ μ := fun _ _ _ => rfl
theorem Fr.tr {j : Nat} {μ μ1 μ2 : Mem} (h1 : Fr j μ μ1) (h2 : Fr j μ1 μ2) : Fr j μ μ2 := fun t o h => (h2 t o h).trans (h1 t o h)
theorem Fr.RC {j i : Nat} {μ μ' : Mem} {A : SP} (h : Fr j μ μ') (hi : i ≠ j) (R : RC μ i A) : RC μ' i A := by
  have e : ∀ t, t < 11 → μ' t i = μ t i := fun t ht => h t i (by omega)
  unfold _root_.Jvm.Pilot.CErrataPressLaw_law_r8980_abf3f1.RC at R ⊢
  rw [e 0 (by omega), e 1 (by omega), e 2 (by omega), e 3 (by omega), e 4 (by omega), e 5 (by omega), e 6 (by omega), e 7 (by omega), e 8 (by omega), e 9 (by omega), e 10 (by omega)]
  exact R
def oAddH (A : SP) (c : Nat) : SP := ((sH A + 1, sS A, sR A), (va_up (sCn A) (sH A) c, va_up (sSh A) (sH A) 0, va_up (sFp A) (sH A) 0), A.2.2)
def oAddR (A : SP) (x y : Nat) : SP := ((sH A, sS A, sR A + 1), A.2.1, A.2.2.1, A.2.2.2.1, (va_up (sKi A) (sR A) x, va_up (sTa A) (sR A) y), sC A)
def oAddS (A : SP) (h n : Nat) (w : Nat → Nat) : SP := ((sH A, sS A + 1, sR A), A.2.1, (va_up (sOw A) (sS A) h, va_up (sLn A) (sS A) n), (va_up (sRt A) (sS A) w, va_up (sPl A) (sS A) w, va_up (sLv A) (sS A) (fun _ => 0)), A.2.2.2.2)
def skip {α : Type} (f : Nat → α) (s : Nat) : Nat → α := fun i => if i < s then f i else f (i + 1)
def oTake (A : SP) (s : Nat) : SP := ((sH A, sS A - 1, sR A), A.2.1, (skip (sOw A) s, skip (sLn A) s), (skip (sRt A) s, skip (sPl A) s, skip (sLv A) s), A.2.2.2.2)
def up2 (f : Nat → Nat → Nat) (s k v : Nat) : Nat → Nat → Nat := fun a b => if a = s ∧ b = k then v else f a b
def oPut (A : SP) (s k v : Nat) : SP := (A.1, A.2.1, A.2.2.1, (sRt A, up2 (sPl A) s k v, up2 (sLv A) s k (if v = sRt A s k then 0 else 1)), A.2.2.2.2)
def oLv (A : SP) (s k v : Nat) : SP := (A.1, A.2.1, A.2.2.1, (sRt A, sPl A, up2 (sLv A) s k v), A.2.2.2.2)
def oCn (A : SP) (h v : Nat) : SP := (A.1, (va_up (sCn A) h v, sSh A, sFp A), A.2.2)
def oSh (A : SP) (h v : Nat) : SP := (A.1, (sCn A, va_up (sSh A) h v, sFp A), A.2.2)
def oFp (A : SP) (h : Nat) (v : Int32) : SP := (A.1, (sCn A, sSh A, va_up (sFp A) h v), A.2.2)
def oC (A : SP) (k : Nat) (v : Int32) : SP := (A.1, A.2.1, A.2.2.1, A.2.2.2.1, A.2.2.2.2.1, va_up (sC A) k v)
/-! single cells of a state -/
section SC
variable {μ : Mem} {j : Nat} {A : SP} {s k h v : Nat}
theorem RC_cn (R : RC μ j A) (hh : h < sH A) (hv : v ≤ 99) : RC (mset μ 1 j (upd (μ 1 j) h (nI v))) j (oCn A h v) := by
  obtain ⟨W, R1, R2, R3, R4⟩ := R
  refine ⟨⟨W.1, fun i hi => ?_, W.2.2⟩, R1, fun i hi => ?_, R3, R4⟩
  · have := W.2.1 i hi
    show va_up (sCn A) h v i ≤ 99 ∧ _
    rw [vget]
    exact ⟨by split <;> omega, this.2⟩
  · obtain ⟨a, b, c⟩ := R2 i hi
    refine ⟨?_, b, c⟩
    rw [mset_s, uget]
    show _ = nI (va_up (sCn A) h v i)
    rw [vget]
    split <;> first | rfl | exact a
theorem RC_sh (R : RC μ j A) (hh : h < sH A) (hv : v ≤ 99) : RC (mset μ 2 j (upd (μ 2 j) h (nI v))) j (oSh A h v) := by
  obtain ⟨W, R1, R2, R3, R4⟩ := R
  refine ⟨⟨W.1, fun i hi => ?_, W.2.2⟩, R1, fun i hi => ?_, R3, R4⟩
  · have := W.2.1 i hi
    show _ ∧ va_up (sSh A) h v i ≤ 99
    rw [vget]
    exact ⟨this.1, by split <;> omega⟩
  · obtain ⟨a, b, c⟩ := R2 i hi
    refine ⟨a, ?_, c⟩
    rw [mset_s, uget]
    show _ = nI (va_up (sSh A) h v i)
    rw [vget]
    split <;> first | rfl | exact b
theorem RC_fp {v : Int32} (R : RC μ j A) (hh : h < sH A) : RC (mset μ 3 j (upd (μ 3 j) h v)) j (oFp A h v) := by
  obtain ⟨W, R1, R2, R3, R4⟩ := R
  refine ⟨W, R1, fun i hi => ?_, R3, R4⟩
  obtain ⟨a, b, c⟩ := R2 i hi
  refine ⟨a, b, ?_⟩
  rw [mset_s, uget]
  show _ = va_up (sFp A) h v i
  rw [vget]
  split <;> first | rfl | exact c
theorem RC_C {v : Int32} (R : RC μ j A) (hk : k < 5) : RC (mset μ 0 j (upd (μ 0 j) (3 + k) v)) j (oC A k v) := by
  obtain ⟨W, ⟨R1, R2, R3, R4⟩, R5⟩ := R
  refine ⟨W, ⟨?_, ?_, ?_, fun i hi => ?_⟩, R5⟩
  · rw [mset_s, uget, if_neg (by omega)]; exact R1
  · rw [mset_s, uget, if_neg (by omega)]; exact R2
  · rw [mset_s, uget, if_neg (by omega)]; exact R3
  · rw [mset_s, uget]
    show _ = va_up (sC A) k v i
    rw [vget]
    by_cases e : i = k
    · rw [if_pos (by omega), if_pos e]
    · rw [if_neg (by omega), if_neg e]; exact R4 i hi
theorem RC_lv (R : RC μ j A) (hs : s < sS A) (hk : k < sLn A s) (hv : v ≤ 3) (h0 : v = 0 ↔ sPl A s k = sRt A s k) : RC (mset μ 8 j (upd (μ 8 j) (s * 8 + k) (nI v))) j (oLv A s k v) := by
  obtain ⟨W, R1, R2, R3, R4⟩ := R
  have wl := W.ln hs
  refine ⟨⟨W.1, W.2.1, fun a ha => ?_, W.2.2.2⟩, R1, R2, fun a ha => ?_, R4⟩
  · obtain ⟨w1, w2, w3, w4⟩ := W.2.2.1 a ha
    refine ⟨w1, w2, w3, fun b hb => ?_⟩
    obtain ⟨x1, x2, x3, x4⟩ := w4 b hb
    refine ⟨x1, x2, ?_⟩
    show up2 (sLv A) s k v a b ≤ 3 ∧ (up2 (sLv A) s k v a b = 0 ↔ _)
    unfold up2
    by_cases e : a = s ∧ b = k
    · rw [if_pos e]
      obtain ⟨rfl, rfl⟩ := e
      exact ⟨hv, h0⟩
    · rw [if_neg e]
      exact ⟨x3, x4⟩
  · obtain ⟨y1, y2, y3⟩ := R3 a ha
    refine ⟨y1, y2, fun b hb => ?_⟩
    obtain ⟨z1, z2, z3⟩ := y3 b hb
    refine ⟨z1, z2, ?_⟩
    have wa := W.ln ha
    have hb' : b < sLn A a := hb
    rw [mset_s, uget]
    show _ = nI (up2 (sLv A) s k v a b)
    unfold up2
    by_cases e : a = s ∧ b = k
    · rw [if_pos e, if_pos (by omega)]
    · rw [if_neg e, if_neg (by omega)]; exact z3
theorem RC_put (R : RC μ j A) (hs : s < sS A) (hk : k < sLn A s) (hv : 1 ≤ v ∧ v ≤ 6) : RC (mset (mset μ 7 j (upd (μ 7 j) (s * 8 + k) (nI v))) 8 j (upd (μ 8 j) (s * 8 + k) (nI (if v = sRt A s k then 0 else 1)))) j (oPut A s k v) := by
  obtain ⟨W, R1, R2, R3, R4⟩ := R
  have wl := W.ln hs
  refine ⟨⟨W.1, W.2.1, fun a ha => ?_, W.2.2.2⟩, R1, R2, fun a ha => ?_, R4⟩
  · obtain ⟨w1, w2, w3, w4⟩ := W.2.2.1 a ha
    refine ⟨w1, w2, w3, fun b hb => ?_⟩
    obtain ⟨x1, x2, x3, x4⟩ := w4 b hb
    refine ⟨x1, ?_⟩
    show (1 ≤ up2 (sPl A) s k v a b ∧ up2 (sPl A) s k v a b ≤ 6) ∧ up2 (sLv A) s k _ a b ≤ 3 ∧ (up2 (sLv A) s k _ a b = 0 ↔ up2 (sPl A) s k v a b = sRt A a b)
    unfold up2
    by_cases e : a = s ∧ b = k
    · rw [if_pos e, if_pos e]
      obtain ⟨rfl, rfl⟩ := e
      refine ⟨hv, ?_, ?_⟩
      · split <;> omega
      · split <;> omega
    · rw [if_neg e, if_neg e]
      exact ⟨x2, x3, x4⟩
  · obtain ⟨y1, y2, y3⟩ := R3 a ha
    refine ⟨y1, y2, fun b hb => ?_⟩
    obtain ⟨z1, z2, z3⟩ := y3 b hb
    have wa := W.ln ha
    have hb' : b < sLn A a := hb
    refine ⟨z1, ?_, ?_⟩
    · rw [mset_t (by decide), mset_s, uget]
      show _ = nI (up2 (sPl A) s k v a b)
      unfold up2
      by_cases e : a = s ∧ b = k
      · rw [if_pos e, if_pos (by omega)]
      · rw [if_neg e, if_neg (by omega)]; exact z2
    · rw [mset_s, uget]
      show _ = nI (up2 (sLv A) s k _ a b)
      unfold up2
      by_cases e : a = s ∧ b = k
      · rw [if_pos e, if_pos (by omega)]
      · rw [if_neg e, if_neg (by omega)]; exact z3
theorem c_putLetter (hj : j < 12) (R : RC μ j A) (hs : s < sS A) (hk : k < sLn A s) (hv : 1 ≤ v ∧ v ≤ 6) : MetA M_X4_putLetter [aR 0 j, aI (nI s), aI (nI k), aI (nI v)] μ (rV (mset (mset μ 7 j (upd (μ 7 j) (s * 8 + k) (nI v))) 8 j (upd (μ 8 j) (s * 8 + k) (nI (if v = sRt A s k then 0 else 1))))) := by
  have w := R.W.sm
  have w2 := R.W.ln hs
  have w3 := R.W.rt hs hk
  have hv0 : vp_in (nI s * 8 + nI k) 64 := by simp (disch := omega) only [n0, n1, n2, n3, n4, n5, n6, n7, n8, n9, n10, n20, n99, nm1, nI_add, pk_mul, nI_clamp, nI_leI, nI_ltI, nI_eqI, vp_nI, pk_sub, nI_addneg, Nat.not_lt_zero, false_implies, not_false_eq_true, true_implies, true_and, and_true, Nat.le_refl, not_true_eq_false]
  have hc : (nI s * 8 + nI k).toNatClampNeg = s * 8 + k := by simp (disch := omega) only [n0, n1, n2, n3, n4, n5, n6, n7, n8, n9, n10, n20, n99, nm1, nI_add, pk_mul, nI_clamp, nI_leI, nI_ltI, nI_eqI, vp_nI, pk_sub, nI_addneg, Nat.not_lt_zero, false_implies, not_false_eq_true, true_implies, true_and, and_true, Nat.le_refl, not_true_eq_false]
  refine MetA.of2 k_X4_putLetter rfl (Nat.le_of_ble_eq_true rfl) rfl (B_X4_putLetter_0 hj ?_)
  rw [hc]
  refine ⟨hv0, fun m1 e1 => ⟨hv0, ?_⟩⟩
  subst e1
  rw [mset_t (by decide), mset_t (by decide), R.rt hs hk]
  refine ⟨fun q => ⟨hv0, fun m2 e2 => rV_ok ?_⟩, fun q => ⟨hv0, fun m2 e2 => rV_ok ?_⟩⟩
  · rw [e2, if_neg (fun z => q (by rw [z]))]
    rfl
  · rw [e2, if_pos (by rwa [nI_eqI (by omega) (by omega)] at q)]
    rfl
theorem c_atMostKept {a : Nat} (ha : a < 1000) : MetA M_X5_atMostKept [aI (nI a)] μ (rI (nI (min 99 a)) μ) := by
  refine MetA.of2 k_X5_atMostKept rfl (Nat.le_of_ble_eq_true rfl) rfl (B_X5_atMostKept_0 ?_)
  intro r hr
  refine rI_ok ?_ rfl
  rw [hr]
  simp (disch := omega) only [n0, n1, n2, n3, n4, n5, n6, n7, n8, n9, n10, n20, n99, nm1, nI_add, pk_mul, nI_clamp, nI_leI, nI_ltI, nI_eqI, vp_nI, pk_sub, nI_addneg, Nat.not_lt_zero, false_implies, not_false_eq_true, true_implies, true_and, and_true, Nat.le_refl, not_true_eq_false]
  rw [Nat.min_def]
  split <;> split <;> first | rfl | (congr 1; omega)
theorem c_appendHouse {c : Nat} (hj : j < 12) (R : RC μ j A) (hH : sH A < 4) (hc : c ≤ 99) : ∃ μ', MetA M_X4_appendHouse [aR 0 j, aI (nI c)] μ (rI (nI (sH A)) μ') ∧ RC μ' j (oAddH A c) ∧ Fr j μ μ' := by
  have hv : vp_in (nI (sH A)) 4 := vp_in_nI hH (by omega)
  refine ⟨mset (mset (mset (mset μ 1 j (upd (μ 1 j) (sH A) (nI c))) 2 j (upd (μ 2 j) (sH A) 0)) 3 j (upd (μ 3 j) (sH A) 0)) 0 j (upd (μ 0 j) 0 (nI (sH A + 1))), ?_, ?_, ?_⟩
  · refine MetA.of2 k_X4_appendHouse rfl (Nat.le_of_ble_eq_true rfl) rfl (B_X4_appendHouse_0 hj ?_)
    rw [R.H]
    refine ⟨hv, fun m1 e1 => ?_⟩
    have q1 : m1 0 j 0 = nI (sH A) := by rw [e1, mset_t (by decide)]; exact R.H
    rw [q1]
    refine ⟨hv, fun m2 e2 => ?_⟩
    have q2 : m2 0 j 0 = nI (sH A) := by rw [e2, mset_t (by decide)]; exact q1
    rw [q2]
    refine ⟨hv, fun m3 e3 m4 e4 => ?_⟩
    have q3 : m3 0 j 0 = nI (sH A) := by rw [e3, mset_t (by decide)]; exact q2
    have q4 : m4 0 j 0 = nI (sH A + 1) := by rw [e4, mset_s, uget, if_pos rfl, q3]; simp (disch := omega) only [n0, n1, n2, n3, n4, n5, n6, n7, n8, n9, n10, n20, n99, nm1, nI_add, pk_mul, nI_clamp, nI_leI, nI_ltI, nI_eqI, vp_nI, pk_sub, nI_addneg, Nat.not_lt_zero, false_implies, not_false_eq_true, true_implies, true_and, and_true, Nat.le_refl, not_true_eq_false]
    rw [nI_clamp (by omega)] at e1 e2 e3
    refine rI_ok ?_ ?_
    · rw [q4]; simp (disch := omega) only [n0, n1, n2, n3, n4, n5, n6, n7, n8, n9, n10, n20, n99, nm1, nI_add, pk_mul, nI_clamp, nI_leI, nI_ltI, nI_eqI, vp_nI, pk_sub, nI_addneg, Nat.not_lt_zero, false_implies, not_false_eq_true, true_implies, true_and, and_true, Nat.le_refl, not_true_eq_false]
      congr 1
    · subst e1 e2 e3
      rw [e4, q3, show (1 : Int32) = nI 1 from rfl, nI_add]
      simp only [mget]
      rfl
  · obtain ⟨W, ⟨R1, R2, R3, R4⟩, R5, R6, R7⟩ := R
    refine ⟨⟨⟨by show sH A + 1 ≤ 4; omega, W.1.2⟩, fun i hi => ?_, fun s hs => ?_, W.2.2.2⟩, ⟨by rw [mset_s]; rfl, ?_, ?_, fun k hk => ?_⟩, fun i hi => ?_, R6, R7⟩
    · show va_up (sCn A) (sH A) c i ≤ 99 ∧ va_up (sSh A) (sH A) 0 i ≤ 99
      have hi2 : i < sH A + 1 := hi
      rw [vget, vget]
      split
      · exact ⟨hc, by omega⟩
      · exact W.2.1 i (by omega)
    · obtain ⟨w1, w2⟩ := W.2.2.1 s hs
      exact ⟨Nat.lt_succ_of_lt w1, w2⟩
    · rw [mset_s, uget, if_neg (by omega)]; exact R2
    · rw [mset_s, uget, if_neg (by omega)]; exact R3
    · rw [mset_s, uget, if_neg (by omega)]; exact R4 k hk
    · have hi2 : i < sH A + 1 := hi
      show _ = nI (va_up (sCn A) (sH A) c i) ∧ _ = nI (va_up (sSh A) (sH A) 0 i) ∧ _ = va_up (sFp A) (sH A) 0 i
      rw [vget, vget, vget]
      rw [mset_t (by decide), mset_t (by decide), mset_t (by decide), mset_s, mset_t (by decide), mset_t (by decide), mset_s, mset_t (by decide), mset_s, uget, uget, uget]
      by_cases e : i = sH A
      · rw [if_pos e, if_pos e, if_pos e, if_pos e, if_pos e, if_pos e]; exact ⟨rfl, rfl, rfl⟩
      · rw [if_neg e, if_neg e, if_neg e, if_neg e, if_neg e, if_neg e]; exact R5 i (by omega)
  · intro t o h
    rw [mset_n (by omega), mset_n (by omega), mset_n (by omega), mset_n (by omega)]
theorem c_appendReader {x y : Nat} (hj : j < 12) (R : RC μ j A) (hR : sR A < 5) (hx : x ≤ 1) (hy : 1 ≤ y ∧ y ≤ 6) : ∃ μ', MetA M_X4_appendReader [aR 0 j, aI (nI x), aI (nI y)] μ (rI (nI (sR A)) μ') ∧ RC μ' j (oAddR A x y) ∧ Fr j μ μ' := by
  have hv : vp_in (nI (sR A)) 5 := vp_in_nI hR (by omega)
  refine ⟨mset (mset (mset μ 9 j (upd (μ 9 j) (sR A) (nI x))) 10 j (upd (μ 10 j) (sR A) (nI y))) 0 j (upd (μ 0 j) 2 (nI (sR A + 1))), ?_, ?_, ?_⟩
  · refine MetA.of2 k_X4_appendReader rfl (Nat.le_of_ble_eq_true rfl) rfl (B_X4_appendReader_0 hj ?_)
    rw [R.R]
    refine ⟨hv, fun m1 e1 => ?_⟩
    have q1 : m1 0 j 2 = nI (sR A) := by rw [e1, mset_t (by decide)]; exact R.R
    rw [q1]
    refine ⟨hv, fun m3 e3 m4 e4 => ?_⟩
    have q3 : m3 0 j 2 = nI (sR A) := by rw [e3, mset_t (by decide)]; exact q1
    have q4 : m4 0 j 2 = nI (sR A + 1) := by rw [e4, mset_s, uget, if_pos rfl, q3]; simp (disch := omega) only [n0, n1, n2, n3, n4, n5, n6, n7, n8, n9, n10, n20, n99, nm1, nI_add, pk_mul, nI_clamp, nI_leI, nI_ltI, nI_eqI, vp_nI, pk_sub, nI_addneg, Nat.not_lt_zero, false_implies, not_false_eq_true, true_implies, true_and, and_true, Nat.le_refl, not_true_eq_false]
    rw [nI_clamp (by omega)] at e1 e3
    refine rI_ok ?_ ?_
    · rw [q4]; simp (disch := omega) only [n0, n1, n2, n3, n4, n5, n6, n7, n8, n9, n10, n20, n99, nm1, nI_add, pk_mul, nI_clamp, nI_leI, nI_ltI, nI_eqI, vp_nI, pk_sub, nI_addneg, Nat.not_lt_zero, false_implies, not_false_eq_true, true_implies, true_and, and_true, Nat.le_refl, not_true_eq_false]
      congr 1
    · subst e1 e3
      rw [e4, q3, show (1 : Int32) = nI 1 from rfl, nI_add]
      simp only [mget]
      rfl
  · obtain ⟨W, ⟨R1, R2, R3, R4⟩, R5, R6, R7⟩ := R
    refine ⟨⟨⟨W.1.1, W.1.2.1, by show sR A + 1 ≤ 5; omega⟩, W.2.1, W.2.2.1, fun i hi => ?_⟩, ⟨?_, ?_, by rw [mset_s]; rfl, fun k hk => ?_⟩, R5, R6, fun i hi => ?_⟩
    · show va_up (sKi A) (sR A) x i ≤ 1 ∧ 1 ≤ va_up (sTa A) (sR A) y i ∧ va_up (sTa A) (sR A) y i ≤ 6
      have hi2 : i < sR A + 1 := hi
      rw [vget, vget]
      split
      · exact ⟨hx, hy⟩
      · exact W.2.2.2 i (by omega)
    · rw [mset_s, uget, if_neg (by omega)]; exact R1
    · rw [mset_s, uget, if_neg (by omega)]; exact R2
    · rw [mset_s, uget, if_neg (by omega)]; exact R4 k hk
    · have hi2 : i < sR A + 1 := hi
      show _ = nI (va_up (sKi A) (sR A) x i) ∧ _ = nI (va_up (sTa A) (sR A) y i)
      rw [vget, vget]
      rw [mset_t (by decide), mset_t (by decide), mset_s, mset_t (by decide), mset_s, uget, uget]
      by_cases e : i = sR A
      · rw [if_pos e, if_pos e, if_pos e, if_pos e]; exact ⟨rfl, rfl⟩
      · rw [if_neg e, if_neg e, if_neg e, if_neg e]; exact R7 i (by omega)
  · intro t o h
    rw [mset_n (by omega), mset_n (by omega), mset_n (by omega)]
end SC
