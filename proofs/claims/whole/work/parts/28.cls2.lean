/-! changes: what comes out -/
theorem loopF (n : Nat) (A : Nat → Prop) (h0 : A 0) (hs : ∀ k, k < n → A k → A (k + 1)) : A n := by
  have h : ∀ i, i ≤ n → A i := by
    intro i
    induction i with
    | zero => intro _; exact h0
    | succ i ih => exact fun hi => hs i (by omega) (ih (by omega))
  exact h n (Nat.le_refl n)
/-- a change: its answer and what is then; or 0 outside, 1 illegal, 2 refused with reason and detail -/
abbrev CH : Type := (Int32 × SP) ⊕ (Nat × Int32 × Int32)
def outc (c : CH) : Int32 := match c with
  | .inl p => p.1
  | .inr p => if p.1 = 0 then -1 else if p.1 = 1 then -2 else -3
def chHouse (A : SP) (a : Int32) : CH := if a < 0 ∨ nI 99 < a then .inr (1, 0, 0) else if sH A = 4 then .inr (2, 1, 4) else .inl (nI (sH A), oAddH A a.toNatClampNeg)
def chSheet (A : SP) (a w : Int32) : CH := if a < 0 ∨ nI (sH A) ≤ a then .inr (0, 0, 0) else if sLet w = 0 then .inr (1, 0, 0) else if sS A = 8 then .inr (2, 1, 8) else .inl (nI (sS A), oAddS A a.toNatClampNeg (sLet w) (dg w.toNatClampNeg (sLet w)))
def chTake (A : SP) (a : Int32) : CH := if a < 0 ∨ nI (sS A) ≤ a then .inr (0, 0, 0) else .inl (nI (sS A - 1), oTake A a.toNatClampNeg)
def noPl (A : SP) (a b : Int32) : Prop := (a < 0 ∨ nI (sS A) ≤ a) ∨ b < 0 ∨ nI (sLn A a.toNatClampNeg) ≤ b
def chSet2 (A : SP) (s k : Nat) (c : Int32) : CH := if c < 97 ∨ 102 < c then .inr (1, 0, 0) else if nI (sPl A s k) = c - 97 + 1 then .inr (2, 2, nI k) else if nI (sRt A s k) = c - 97 + 1 then .inr (2, 3, nI k) else .inl (nI (sCnt (oPut A s k (c - 97 + 1).toNatClampNeg) s 1), oPut A s k (c - 97 + 1).toNatClampNeg)
def chSet (A : SP) (a b c : Int32) : CH := if (a < 0 ∨ nI (sS A) ≤ a) ∨ b < 0 ∨ nI (sLn A a.toNatClampNeg) ≤ b then .inr (0, 0, 0) else chSet2 A a.toNatClampNeg b.toNatClampNeg c
def chLic2 (A : SP) (s k : Nat) : CH := if sLv A s k = 0 then .inr (2, 4, nI k) else if 2 ≤ sLv A s k then .inr (2, 5, nI k) else if 20 < sSh A (sOw A s) then .inr (2, 6, nI (sSh A (sOw A s))) else if sCn A (sOw A s) < sCost A (sOw A s) then .inr (2, 7, nI (sCn A (sOw A s))) else .inl (nI (sCost A (sOw A s)), oLv (oC (oCn A (sOw A s) (sCn A (sOw A s) - sCost A (sOw A s))) 4 (sC A 4 + nI (sCost A (sOw A s)))) s k 2)
def chLic (A : SP) (a b : Int32) : CH := if (a < 0 ∨ nI (sS A) ≤ a) ∨ b < 0 ∨ nI (sLn A a.toNatClampNeg) ≤ b then .inr (0, 0, 0) else chLic2 A a.toNatClampNeg b.toNatClampNeg
def chCor2 (A : SP) (s k : Nat) : CH := if sLv A s k = 0 then .inr (2, 4, nI k) else if sCn A (sOw A s) < sFine A s k then .inr (2, 7, nI (sCn A (sOw A s))) else .inl (nI (sFine A s k), oPut (oFp (oCn A (sOw A s) (sCn A (sOw A s) - sFine A s k)) (sOw A s) (sFp A (sOw A s) + nI (sFine A s k))) s k (sRt A s k))
def chCor (A : SP) (a b : Int32) : CH := if (a < 0 ∨ nI (sS A) ≤ a) ∨ b < 0 ∨ nI (sLn A a.toNatClampNeg) ≤ b then .inr (0, 0, 0) else chCor2 A a.toNatClampNeg b.toNatClampNeg
def chRead (A : SP) (a b : Int32) : CH := if a < 0 ∨ 1 < a ∨ b < 1 ∨ 6 < b then .inr (1, 0, 0) else if sR A = 5 then .inr (2, 1, 5) else .inl (nI (sR A), oAddR A a.toNatClampNeg b.toNatClampNeg)
def chEd (A : SP) : CH := if sCntA A 2 = sCntA A 3 then .inr (2, 8, sC A 1) else .inl (nI (edS A (sS A)).2, oEd A)
def chDay (A : SP) : CH := .inl (nI (sm (fun h => bi (20 < sSh (oDay A) h)) (sH A)), oDay A)
def refM (μ : Mem) (r d : Int32) : Mem := mset μ 14 0 (upd (upd (upd (upd (μ 14 0) 0 r) 1 d) 2 0) 3 0)
/-- what the class has made of a change -/
def CO (μ μ' : Mem) (c : CH) : Prop := match c with
  | .inl p => (∃ n, n < 1000 ∧ p.1 = nI n) ∧ RC μ' 0 p.2 ∧ Fr 0 μ μ'
  | .inr p => μ' = if p.1 = 2 then refM μ p.2.1 p.2.2 else μ
section SF
variable {μ : Mem} {j : Nat} {A : SP} {s k h v : Nat}
theorem skipv {f : Nat → Nat} {s i : Nat} : skip f s i = if i < s then f i else f (i + 1) := rfl
theorem skipv2 {f : Nat → Nat → Nat} {s i : Nat} : skip f s i = if i < s then f i else f (i + 1) := rfl
theorem cpy1 {f : Nat → Int32} {s L i : Nat} (h : i < s + L) : va_cpy f f (s + 1) s L i = f (if i < s then i else i + 1) := by
  by_cases c : i < s
  · rw [if_pos c, pk_cpy_out (Or.inl c)]
  · rw [if_neg c, pk_cpy_in (by omega) h]
    congr 1
    omega
theorem cpy8 {f : Nat → Int32} {s L i k : Nat} (h : i < s + L) (hk : k < 8) : va_cpy f f ((s + 1) * 8) (s * 8) (L * 8) (i * 8 + k) = f ((if i < s then i else i + 1) * 8 + k) := by
  by_cases c : i < s
  · rw [if_pos c, pk_cpy_out (Or.inl (by omega))]
  · rw [if_neg c, pk_cpy_in (by omega) (by omega)]
    congr 1
    omega
theorem c_removeSheet (hj : j < 12) (R : RC μ j A) (hs : s < sS A) : ∃ μ', MetA M_X4_removeSheet [aR 0 j, aI (nI s)] μ (rV μ') ∧ RC μ' j (oTake A s) ∧ Fr j μ μ' := by
  have w := R.W.sm
  refine ⟨mset (mset (mset (mset (mset (mset μ 4 j (va_cpy (μ 4 j) (μ 4 j) (s + 1) s (sS A - s - 1))) 5 j (va_cpy (μ 5 j) (μ 5 j) (s + 1) s (sS A - s - 1))) 6 j (va_cpy (μ 6 j) (μ 6 j) ((s + 1) * 8) (s * 8) ((sS A - s - 1) * 8))) 7 j (va_cpy (μ 7 j) (μ 7 j) ((s + 1) * 8) (s * 8) ((sS A - s - 1) * 8))) 8 j (va_cpy (μ 8 j) (μ 8 j) ((s + 1) * 8) (s * 8) ((sS A - s - 1) * 8))) 0 j (upd (μ 0 j) 1 (nI (sS A - 1))), ?_, ?_, ?_⟩
  · refine MetA.of2 k_X4_removeSheet rfl (Nat.le_of_ble_eq_true rfl) rfl (B_X4_removeSheet_0 hj ?_)
    rw [R.S]
    have e1 : nI s + 1 = nI (s + 1) := by simp (disch := omega) only [n0, n1, n2, n3, n4, n5, n6, n7, n8, n9, n10, n20, n99, nm1, nI_add, pk_mul, nI_clamp, nI_leI, nI_ltI, nI_eqI, vp_nI, pk_sub, nI_addneg, Nat.not_lt_zero, false_implies, not_false_eq_true, true_implies, true_and, and_true, Nat.le_refl, not_true_eq_false]
    have e2 : nI (sS A) - nI s - 1 = nI (sS A - s - 1) := by simp (disch := omega) only [n0, n1, n2, n3, n4, n5, n6, n7, n8, n9, n10, n20, n99, nm1, nI_add, pk_mul, nI_clamp, nI_leI, nI_ltI, nI_eqI, vp_nI, pk_sub, nI_addneg, Nat.not_lt_zero, false_implies, not_false_eq_true, true_implies, true_and, and_true, Nat.le_refl, not_true_eq_false]
    have e3 : nI (s + 1) * 8 = nI ((s + 1) * 8) := by simp (disch := omega) only [n0, n1, n2, n3, n4, n5, n6, n7, n8, n9, n10, n20, n99, nm1, nI_add, pk_mul, nI_clamp, nI_leI, nI_ltI, nI_eqI, vp_nI, pk_sub, nI_addneg, Nat.not_lt_zero, false_implies, not_false_eq_true, true_implies, true_and, and_true, Nat.le_refl, not_true_eq_false]
    have e4 : nI s * 8 = nI (s * 8) := by simp (disch := omega) only [n0, n1, n2, n3, n4, n5, n6, n7, n8, n9, n10, n20, n99, nm1, nI_add, pk_mul, nI_clamp, nI_leI, nI_ltI, nI_eqI, vp_nI, pk_sub, nI_addneg, Nat.not_lt_zero, false_implies, not_false_eq_true, true_implies, true_and, and_true, Nat.le_refl, not_true_eq_false]
    have e5 : nI (sS A - s - 1) * 8 = nI ((sS A - s - 1) * 8) := by simp (disch := omega) only [n0, n1, n2, n3, n4, n5, n6, n7, n8, n9, n10, n20, n99, nm1, nI_add, pk_mul, nI_clamp, nI_leI, nI_ltI, nI_eqI, vp_nI, pk_sub, nI_addneg, Nat.not_lt_zero, false_implies, not_false_eq_true, true_implies, true_and, and_true, Nat.le_refl, not_true_eq_false]
    have p1 : ¬ nI (s + 1) < 0 := nI_pos (by omega)
    have p2 : ¬ nI s < 0 := nI_pos (by omega)
    have p3 : ¬ nI (sS A - s - 1) < 0 := nI_pos (by omega)
    have p4 : ¬ nI ((s + 1) * 8) < 0 := nI_pos (by omega)
    have p5 : ¬ nI (s * 8) < 0 := nI_pos (by omega)
    have p6 : ¬ nI ((sS A - s - 1) * 8) < 0 := nI_pos (by omega)
    rw [e1, e2, e3, e4, e5, nI_clamp (show s + 1 < 2 ^ 31 by omega), nI_clamp (show s < 2 ^ 31 by omega), nI_clamp (show sS A - s - 1 < 2 ^ 31 by omega), nI_clamp (show (s + 1) * 8 < 2 ^ 31 by omega), nI_clamp (show s * 8 < 2 ^ 31 by omega), nI_clamp (show (sS A - s - 1) * 8 < 2 ^ 31 by omega)]
    refine ⟨p1, p2, p3, by omega, by omega, fun m1 x1 => ⟨p1, p2, p3, by omega, by omega, fun m2 x2 => ⟨p4, p5, p6, by omega, by omega, fun m3 x3 => ⟨p4, p5, p6, by omega, by omega, fun m4 x4 => ⟨p4, p5, p6, by omega, by omega, fun m5 x5 m6 x6 => rV_ok ?_⟩⟩⟩⟩⟩
    have y2 : m1 5 j = μ 5 j := by rw [x1, mset_t (by decide)]
    have y3 : m2 6 j = μ 6 j := by rw [x2, x1, mset_t (by decide), mset_t (by decide)]
    have y4 : m3 7 j = μ 7 j := by rw [x3, x2, x1, mset_t (by decide), mset_t (by decide), mset_t (by decide)]
    have y5 : m4 8 j = μ 8 j := by rw [x4, x3, x2, x1, mset_t (by decide), mset_t (by decide), mset_t (by decide), mset_t (by decide)]
    have y6 : m5 0 j = μ 0 j := by rw [x5, x4, x3, x2, x1, mset_t (by decide), mset_t (by decide), mset_t (by decide), mset_t (by decide), mset_t (by decide)]
    rw [y2] at x2
    rw [y3] at x3
    rw [y4] at x4
    rw [y5] at x5
    rw [y6, R.S, show (1 : Int32) = nI 1 from rfl, pk_sub (show 1 ≤ sS A by omega)] at x6
    rw [x6, x5, x4, x3, x2, x1]
  · obtain ⟨W0, ⟨R1, R2, R3, R4⟩, R5, R6, R7⟩ := R
    have hh : ∀ i, i < sS A - 1 → (if i < s then i else i + 1) < sS A := fun i hi => by split <;> omega
    refine ⟨⟨⟨W0.1.1, by show sS A - 1 ≤ 8; omega, W0.1.2.2⟩, W0.2.1, fun a ha => ?_, W0.2.2.2⟩, ⟨?_, by rw [mset_s]; rfl, ?_, fun k hk => ?_⟩, fun i hi => ?_, fun a ha => ?_, fun r hr => ?_⟩
    · have q := W0.2.2.1 _ (hh a ha)
      show skip (sOw A) s a < sH A ∧ 3 ≤ skip (sLn A) s a ∧ skip (sLn A) s a ≤ 8 ∧ ∀ k, k < skip (sLn A) s a → (1 ≤ skip (sRt A) s a k ∧ skip (sRt A) s a k ≤ 6) ∧ (1 ≤ skip (sPl A) s a k ∧ skip (sPl A) s a k ≤ 6) ∧ skip (sLv A) s a k ≤ 3 ∧ (skip (sLv A) s a k = 0 ↔ skip (sPl A) s a k = skip (sRt A) s a k)
      simp only [skip]
      by_cases c : a < s
      · simp only [if_pos c] at q ⊢; exact q
      · simp only [if_neg c] at q ⊢; exact q
    · rw [mset_s, uget, if_neg (by omega)]; exact R1
    · rw [mset_s, uget, if_neg (by omega)]; exact R3
    · rw [mset_s, uget, if_neg (by omega)]; exact R4 k hk
    · rw [mset_t (by decide), mset_t (by decide), mset_t (by decide), mset_t (by decide), mset_t (by decide), mset_t (by decide), mset_t (by decide), mset_t (by decide), mset_t (by decide), mset_t (by decide), mset_t (by decide), mset_t (by decide), mset_t (by decide), mset_t (by decide), mset_t (by decide), mset_t (by decide), mset_t (by decide), mset_t (by decide)]
      exact R5 i hi
    · have ha2 : a < sS A - 1 := ha
      have q := R6 _ (hh a ha)
      have wl := W0.ln (hh a ha)
      show _ = nI (skip (sOw A) s a) ∧ _ = nI (skip (sLn A) s a) ∧ ∀ k, k < skip (sLn A) s a → _ = nI (skip (sRt A) s a k) ∧ _ = nI (skip (sPl A) s a k) ∧ _ = nI (skip (sLv A) s a k)
      have z1 : skip (sOw A) s a = sOw A (if a < s then a else a + 1) := by unfold skip; split <;> rfl
      have z2 : skip (sLn A) s a = sLn A (if a < s then a else a + 1) := by unfold skip; split <;> rfl
      have z3 : skip (sRt A) s a = sRt A (if a < s then a else a + 1) := by unfold skip; split <;> rfl
      have z4 : skip (sPl A) s a = sPl A (if a < s then a else a + 1) := by unfold skip; split <;> rfl
      have z5 : skip (sLv A) s a = sLv A (if a < s then a else a + 1) := by unfold skip; split <;> rfl
      rw [z1, z2, z3, z4, z5]
      refine ⟨?_, ?_, fun k hk => ?_⟩
      · rw [mset_t (by decide), mset_t (by decide), mset_t (by decide), mset_t (by decide), mset_t (by decide), mset_s, cpy1 (by omega)]; exact q.1
      · rw [mset_t (by decide), mset_t (by decide), mset_t (by decide), mset_t (by decide), mset_s, cpy1 (by omega)]; exact q.2.1
      · have q3 := q.2.2 k hk
        refine ⟨?_, ?_, ?_⟩
        · rw [mset_t (by decide), mset_t (by decide), mset_t (by decide), mset_s, cpy8 (by omega) (by omega)]; exact q3.1
        · rw [mset_t (by decide), mset_t (by decide), mset_s, cpy8 (by omega) (by omega)]; exact q3.2.1
        · rw [mset_t (by decide), mset_s, cpy8 (by omega) (by omega)]; exact q3.2.2
    · rw [mset_t (by decide), mset_t (by decide), mset_t (by decide), mset_t (by decide), mset_t (by decide), mset_t (by decide), mset_t (by decide), mset_t (by decide), mset_t (by decide), mset_t (by decide), mset_t (by decide), mset_t (by decide)]
      exact R7 r hr
  · intro t o h
    rw [mset_n (by omega), mset_n (by omega), mset_n (by omega), mset_n (by omega), mset_n (by omega), mset_n (by omega)]
theorem c_become {r d : Int32} : MetA M_X3_become [aR 14 0, aI r, aI d] μ (rV (refM μ r d)) := by
  refine MetA.of2 k_X3_become rfl (Nat.le_of_ble_eq_true rfl) rfl (B_X3_become_0 ?_)
  intro m1 e1 m2 e2 m3 e3 m4 e4
  refine rV_ok ?_
  rw [e4, e3, e2, e1]
  funext t o
  simp only [refM, mget]
  split <;> rfl
theorem c_refuse {r d : Int32} : MetA M_X5_refuse [aR 11 0, aI r, aI d] μ (rI (-3) (refM μ r d)) := by
  refine MetA.of2 k_X5_refuse rfl (Nat.le_of_ble_eq_true rfl) rfl (B_X5_refuse_0 ?_)
  exact ⟨_, c_become, rI_ok rfl rfl⟩
theorem c_addHouse {a : Int32} (R : RC μ 0 A) : ∃ μ', MetA M_X5_addHouse [aR 11 0, aI a] μ (rI (outc (chHouse A a)) μ') ∧ CO μ μ' (chHouse A a) := by
  have w := R.W.hm
  unfold chHouse
  by_cases c1 : a < 0 ∨ nI 99 < a
  · rw [if_pos c1]
    refine ⟨μ, ?_, rfl⟩
    refine MetA.of2 k_X5_addHouse rfl (Nat.le_of_ble_eq_true rfl) rfl (B_X5_addHouse_0 ?_)
    rw [n99]
    refine ⟨fun _ => rI_ok rfl rfl, fun q => ⟨fun q2 => absurd (Int32.not_lt.mpr q2) (fun z => z (c1.resolve_left q)), fun _ => rI_ok rfl rfl⟩⟩
  · rw [if_neg c1]
    have c2 : ¬ a < 0 := fun q => c1 (Or.inl q)
    have c3 : a ≤ nI 99 := Int32.not_lt.mp fun q => c1 (Or.inr q)
    obtain ⟨n, hn, rfl⟩ := nI_of c2
    rw [nI_leI hn (by decide)] at c3
    rw [nI_clamp hn]
    by_cases c4 : sH A = 4
    · rw [if_pos c4]
      refine ⟨refM μ 1 4, ?_, rfl⟩
      refine MetA.of2 k_X5_addHouse rfl (Nat.le_of_ble_eq_true rfl) rfl (B_X5_addHouse_0 ?_)
      rw [R.H]
      refine ⟨fun q => absurd q c2, fun _ => ⟨fun _ => ⟨fun q => absurd q ?_, fun _ => ⟨_, _, c_refuse, rI_ok rfl rfl⟩⟩, fun q => absurd ?_ q⟩⟩
      · rw [c4]; decide
      · rw [n99, nI_leI hn (by decide)]; exact c3
    · rw [if_neg c4]
      obtain ⟨m, h1, h2, h3⟩ := c_appendHouse (j := 0) (c := n) (by decide) R (by omega) c3
      refine ⟨m, ?_, ⟨sH A, by omega, rfl⟩, h2, h3⟩
      refine MetA.of2 k_X5_addHouse rfl (Nat.le_of_ble_eq_true rfl) rfl (B_X5_addHouse_0 ?_)
      rw [R.H]
      refine ⟨fun q => absurd q c2, fun _ => ⟨fun _ => ⟨fun q => ⟨_, _, h1, rI_ok rfl rfl⟩, fun q => absurd ?_ q⟩, fun q => absurd ?_ q⟩⟩
      · rw [n4, nI_ltI (by omega) (by decide)]; omega
      · rw [n99, nI_leI hn (by decide)]; exact c3
theorem sLet_W {w : Int32} (h : ¬ sLet w = 0) : ∃ W, W < 2 ^ 31 ∧ w = nI W ∧ 3 ≤ sLet w ∧ sLet w ≤ 8 ∧ ∀ m, m < sLet w → 1 ≤ W / 10 ^ m % 10 ∧ W / 10 ^ m % 10 ≤ 6 := by
  unfold sLet at h ⊢
  by_cases c : w < 0
  · rw [if_pos c] at h; exact absurd rfl h
  · rw [if_neg c] at h ⊢
    obtain ⟨W, hW, rfl⟩ := nI_of c
    rw [nI_clamp hW] at h ⊢
    obtain ⟨a1, a2, a3, a4⟩ := rl_ok 8 0 W h
    exact ⟨W, hW, rfl, a3, by omega, fun m hm => a4 m (by omega)⟩
theorem nI_z {n : Nat} (hn : n < 2 ^ 31) : (nI n = 0) = (n = 0) := by rw [n0, nI_eqI hn (by decide)]
theorem c_addSheet {a x : Int32} (R : RC μ 0 A) : ∃ μ', MetA M_X5_addSheet [aR 11 0, aI a, aI x] μ (rI (outc (chSheet A a x)) μ') ∧ CO μ μ' (chSheet A a x) := by
  have w := R.W.sm
  have w2 := R.W.hm
  unfold chSheet
  rcases in_or a (n := sH A) (by omega) with c1 | ⟨h, hh, rfl⟩
  · rw [if_pos (show a < 0 ∨ nI (sH A) ≤ a from c1)]
    refine ⟨μ, ?_, rfl⟩
    refine MetA.of2 k_X5_addSheet rfl (Nat.le_of_ble_eq_true rfl) rfl (B_X5_addSheet_0 ?_)
    exact ⟨_, _, c_hasHouse_n (by decide) R c1, fun q => absurd rfl q, fun _ => rI_ok rfl rfl⟩
  · rw [if_neg (fun q => q.elim (nI_pos (by omega)) (nI_ge hh (by omega))), nI_clamp (by omega)]
    by_cases c2 : sLet x = 0
    · rw [if_pos c2]
      refine ⟨μ, ?_, rfl⟩
      refine MetA.of2 k_X5_addSheet rfl (Nat.le_of_ble_eq_true rfl) rfl (B_X5_addSheet_0 ?_)
      refine ⟨_, _, c_hasHouse_y (by decide) R hh, fun _ => ⟨_, _, c_lettersIn, fun q => absurd (by rw [c2]; rfl) q, fun _ => rI_ok rfl rfl⟩, fun q => absurd q (by decide)⟩
    · rw [if_neg c2]
      obtain ⟨W, hW, e, b1, b2, b3⟩ := sLet_W c2
      have hz : ¬ nI (sLet x) = 0 := by rw [nI_z (by omega)]; exact c2
      by_cases c4 : sS A = 8
      · rw [if_pos c4]
        refine ⟨refM μ 1 8, ?_, rfl⟩
        refine MetA.of2 k_X5_addSheet rfl (Nat.le_of_ble_eq_true rfl) rfl (B_X5_addSheet_0 ?_)
        refine ⟨_, _, c_hasHouse_y (by decide) R hh, fun _ => ⟨_, _, c_lettersIn, fun _ => ?_, fun q => absurd q hz⟩, fun q => absurd q (by decide)⟩
        rw [R.S, c4]
        exact ⟨fun q => absurd q (by decide), fun _ => ⟨_, _, c_refuse, rI_ok rfl rfl⟩⟩
      · rw [if_neg c4]
        obtain ⟨m, h1, h2, h3⟩ := c_appendSheet (j := 0) (h := h) (W := W) (n := sLet x) (by decide) R hh (by omega) hW ⟨b1, b2⟩ b3
        rw [← e] at h1
        have e2 : x.toNatClampNeg = W := by rw [e, nI_clamp hW]
        rw [e2]
        refine ⟨m, ?_, ⟨sS A, by omega, rfl⟩, h2, h3⟩
        refine MetA.of2 k_X5_addSheet rfl (Nat.le_of_ble_eq_true rfl) rfl (B_X5_addSheet_0 ?_)
        refine ⟨_, _, c_hasHouse_y (by decide) R hh, fun _ => ⟨_, _, c_lettersIn, fun _ => ?_, fun q => absurd q hz⟩, fun q => absurd q (by decide)⟩
        rw [R.S]
        refine ⟨fun _ => ⟨_, _, h1, rI_ok rfl rfl⟩, fun q => absurd ?_ q⟩
        rw [n8, nI_ltI (by omega) (by decide)]; omega
theorem c_takeSheet {a : Int32} (R : RC μ 0 A) : ∃ μ', MetA M_X5_takeSheet [aR 11 0, aI a] μ (rI (outc (chTake A a)) μ') ∧ CO μ μ' (chTake A a) := by
  have w := R.W.sm
  unfold chTake
  rcases in_or a (n := sS A) (by omega) with c1 | ⟨s, hs, rfl⟩
  · rw [if_pos (show a < 0 ∨ nI (sS A) ≤ a from c1)]
    refine ⟨μ, ?_, rfl⟩
    refine MetA.of2 k_X5_takeSheet rfl (Nat.le_of_ble_eq_true rfl) rfl (B_X5_takeSheet_0 ?_)
    exact ⟨_, _, c_hasSheet_n (by decide) R c1, fun q => absurd rfl q, fun _ => rI_ok rfl rfl⟩
  · rw [if_neg (fun q => q.elim (nI_pos (by omega)) (nI_ge hs (by omega))), nI_clamp (by omega)]
    obtain ⟨m, h1, h2, h3⟩ := c_removeSheet (j := 0) (by decide) R hs
    refine ⟨m, ?_, ⟨sS A - 1, by omega, rfl⟩, h2, h3⟩
    refine MetA.of2 k_X5_takeSheet rfl (Nat.le_of_ble_eq_true rfl) rfl (B_X5_takeSheet_0 ?_)
    exact ⟨_, _, c_hasSheet_y (by decide) R hs, fun _ => ⟨_, h1, rI_ok h2.S rfl⟩, fun q => absurd q (by decide)⟩
end SF
