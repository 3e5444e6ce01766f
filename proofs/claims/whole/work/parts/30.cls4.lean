/-! all that calls can change -/
abbrev TT : Type := SP × ((Nat → SP) × Nat) × (Bool × SP) × (Int32 × Int32 × Int32 × Int32) × (Nat × (Nat → Nat)) × Int32 × (Nat × (Nat → Int32))
def tA (T : TT) : SP := T.1
def tHf (T : TT) : Nat → SP := T.2.1.1
def tHn (T : TT) : Nat := T.2.1.2
def tSb (T : TT) : Bool := T.2.2.1.1
def tSs (T : TT) : SP := T.2.2.1.2
def tRf (T : TT) : Int32 × Int32 × Int32 × Int32 := T.2.2.2.1
def tIn (T : TT) : Nat := T.2.2.2.2.1.1
def tIf (T : TT) : Nat → Nat := T.2.2.2.2.1.2
def tE (T : TT) : Int32 := T.2.2.2.2.2.1
def tLn (T : TT) : Nat := T.2.2.2.2.2.2.1
def tLf (T : TT) : Nat → Int32 := T.2.2.2.2.2.2.2
/-- the history of the class -/
def HC (μ : Mem) (f : Nat → SP) (n : Nat) : Prop := n ≤ 8 ∧ ∃ x, x < 8 ∧ μ 12 0 1 = nI x ∧ μ 12 0 2 = nI n ∧ ∀ i, i < n → RC μ (4 + (x + 8 - n + i) % 8) (f i)
def ZC (μ : Mem) (b : Bool) (A : SP) : Prop := μ 11 0 8 = (if b then 1 else 0) ∧ (b = true → RC μ 3 A)
def FC (μ : Mem) (r : Int32 × Int32 × Int32 × Int32) : Prop := μ 14 0 0 = r.1 ∧ μ 14 0 1 = r.2.1 ∧ μ 14 0 2 = r.2.2.1 ∧ μ 14 0 3 = r.2.2.2
def IC (μ : Mem) (n : Nat) (f : Nat → Nat) : Prop := n ≤ 60 ∧ μ 15 0 1 = nI n ∧ ∀ i, i < n → μ 16 0 i = nI (f i) ∧ f i < 65536
def LC (μ : Mem) (n : Nat) (f : Nat → Int32) : Prop := n ≤ 18 ∧ μ 17 0 1 = nI n ∧ ∀ i, i < n → μ 18 0 i = f i ∧ narrow .char (.int (f i)) = .int (f i)
def TC (μ : Mem) (T : TT) : Prop := RC μ 0 (tA T) ∧ HC μ (tHf T) (tHn T) ∧ ZC μ (tSb T) (tSs T) ∧ FC μ (tRf T) ∧ IC μ (tIn T) (tIf T) ∧ μ 11 0 9 = tE T ∧ LC μ (tLn T) (tLf T)
/-- the class's own cells only -/
def Cl (μ μ' : Mem) : Prop := ∀ t, 19 ≤ t → μ' t = μ t
theorem Cl.rf {μ : Mem} : Cl μ μ := fun _ _ => rfl
theorem Cl.tr {μ μ1 μ2 : Mem} (h1 : Cl μ μ1) (h2 : Cl μ1 μ2) : Cl μ μ2 := fun t h => (h2 t h).trans (h1 t h)
theorem Cl.ms {μ : Mem} {t o : Nat} {f : Nat → Int32} (h : t < 19) : Cl μ (mset μ t o f) := fun t' ht => by
  funext o'
  exact mset_t (by omega)
theorem Cl.fr {j : Nat} {μ μ' : Mem} (h : Fr j μ μ') : Cl μ μ' := fun t ht => by
  funext o
  exact h t o (by omega)
theorem RC.mv {j : Nat} {μ μ' : Mem} {A : SP} (e : ∀ t, t < 11 → μ' t j = μ t j) (R : RC μ j A) : RC μ' j A := by
  unfold _root_.Jvm.Pilot.CErrataPressLaw_law_r8980_abf3f1.RC at R ⊢
  rw [e 0 (by omega), e 1 (by omega), e 2 (by omega), e 3 (by omega), e 4 (by omega), e 5 (by omega), e 6 (by omega), e 7 (by omega), e 8 (by omega), e 9 (by omega), e 10 (by omega)]
  exact R
theorem HC.mv {μ μ' : Mem} {f : Nat → SP} {n : Nat} (e1 : μ' 12 0 = μ 12 0) (e2 : ∀ t j, t < 11 → 4 ≤ j → μ' t j = μ t j) (h : HC μ f n) : HC μ' f n := by
  obtain ⟨hn, x, hx, h1, h2, h3⟩ := h
  refine ⟨hn, x, hx, by rw [e1]; exact h1, by rw [e1]; exact h2, fun i hi => RC.mv (fun t ht => e2 t _ ht (by omega)) (h3 i hi)⟩
theorem ZC.mv {μ μ' : Mem} {b : Bool} {A : SP} (e1 : μ' 11 0 8 = μ 11 0 8) (e2 : ∀ t, t < 11 → μ' t 3 = μ t 3) (h : ZC μ b A) : ZC μ' b A := ⟨by rw [e1]; exact h.1, fun q => RC.mv e2 (h.2 q)⟩
theorem FC.mv {μ μ' : Mem} {r : Int32 × Int32 × Int32 × Int32} (e : μ' 14 0 = μ 14 0) (h : FC μ r) : FC μ' r := by unfold FC; rw [e]; exact h
theorem IC.mv {μ μ' : Mem} {n : Nat} {f : Nat → Nat} (e : μ' 15 0 1 = μ 15 0 1) (e2 : μ' 16 0 = μ 16 0) (h : IC μ n f) : IC μ' n f := by unfold IC; rw [e, e2]; exact h
theorem LC.mv {μ μ' : Mem} {n : Nat} {f : Nat → Int32} (e : μ' 17 0 = μ 17 0) (e2 : μ' 18 0 = μ 18 0) (h : LC μ n f) : LC μ' n f := by unfold LC; rw [e, e2]; exact h
/-- nothing that calls can change has changed -/
def Sc (μ μ' : Mem) : Prop := ∀ t o, ¬ (t < 11 ∧ (o = 1 ∨ o = 2)) → μ' t o = μ t o
theorem Sc.rf {μ : Mem} : Sc μ μ := fun _ _ _ => rfl
theorem Sc.tr {μ μ1 μ2 : Mem} (h1 : Sc μ μ1) (h2 : Sc μ1 μ2) : Sc μ μ2 := fun t o h => (h2 t o h).trans (h1 t o h)
theorem Sc.fr1 {μ μ' : Mem} (h : Fr 1 μ μ') : Sc μ μ' := fun t o q => h t o (by omega)
theorem Sc.fr2 {μ μ' : Mem} (h : Fr 2 μ μ') : Sc μ μ' := fun t o q => h t o (by omega)
theorem Sc.cl {μ μ' : Mem} (h : Sc μ μ') : Cl μ μ' := fun t ht => by
  funext o
  exact h t o (by omega)
theorem TC.sc {μ μ' : Mem} {T : TT} (h : Sc μ μ') (H : TC μ T) : TC μ' T := by
  obtain ⟨a, b, c, d, e, f, g⟩ := H
  refine ⟨RC.mv (fun t ht => h t 0 (by omega)) a, HC.mv (h _ _ (by omega)) (fun t j ht hj => h t j (by omega)) b, ZC.mv (by rw [h 11 0 (by omega)]) (fun t ht => h t 3 (by omega)) c, FC.mv (h _ _ (by omega)) d, IC.mv (by rw [h 15 0 (by omega)]) (h _ _ (by omega)) e, by rw [h 11 0 (by omega)]; exact f, LC.mv (h _ _ (by omega)) (h _ _ (by omega)) g⟩
/-- one more in the history -/
def kF (f : Nat → SP) (n : Nat) (A : SP) : Nat → SP := if n = 8 then (fun i => if i = 7 then A else f (i + 1)) else (fun i => if i = n then A else f i)
def kN (n : Nat) : Nat := if n = 8 then 8 else n + 1
section SI
variable {μ : Mem} {A : SP} {T : TT}
theorem c_keep {f : Nat → SP} {n : Nat} (H : HC μ f n) (B : RC μ 1 A) : ∃ μ', MetA M_X0_keep [aR 12 0, aR 0 1] μ (rV μ') ∧ HC μ' (kF f n A) (kN n) ∧ ∀ t o, ¬ (t = 12 ∧ o = 0) → ¬ (t < 11 ∧ 4 ≤ o) → μ' t o = μ t o := by
  obtain ⟨hn, x, hx, h1, h2, h3⟩ := H
  have hv : vp_in (nI x) 8 := vp_in_nI hx (by omega)
  have hc : (nI x).toNatClampNeg = x := nI_clamp (by omega)
  have e12 : cpS μ (4 + x) 1 12 0 = μ 12 0 := cpS_Fr 12 0 (by omega)
  have hcp := c_copyFrom (μ := μ) (j := 4 + x) (o := 1) (by omega) (by omega)
  have Rn := cpS_RC (μ := μ) (j := 4 + x) (o := 1) (by omega) B
  refine ⟨mset (cpS μ (4 + x) 1) 12 0 (upd (upd (μ 12 0) 1 (nI ((x + 1) % 8))) 2 (nI (kN n))), ?_, ?_, ?_⟩
  · refine MetA.of2 k_X0_keep rfl (Nat.le_of_ble_eq_true rfl) rfl (B_X0_keep_0 (by decide) ?_)
    rw [h1, hc]
    refine ⟨hv, _, hcp, fun m6 e6 r9 e9 m11 e11 => rV_ok ?_⟩
    rw [e12, h1, show (1 : Int32) = nI 1 from rfl, nI_add, show (8 : Int32) = nI 8 from rfl, pk_rem (by omega) (by decide) (by decide)] at e6
    have f2 : m6 12 0 2 = nI n := by rw [e6, mset_s, uget, if_neg (by decide)]; exact h2
    rw [f2, show (1 : Int32) = nI 1 from rfl, nI_add, show (8 : Int32) = nI 8 from rfl] at e9
    have f9 : r9 = nI (kN n) := by
      rw [e9]
      unfold kN
      by_cases c : n = 8
      · rw [if_pos c, if_neg (by rw [nI_ltI (by omega) (by decide)]; omega)]
      · rw [if_neg c]
        by_cases c2 : n = 7
        · rw [c2]; rfl
        · rw [if_pos (by rw [nI_ltI (by omega) (by decide)]; omega)]
    rw [e11, e6, f9, mset_s]
    funext t o
    simp only [mget]
    split <;> rfl
  · refine ⟨by unfold kN; split <;> omega, (x + 1) % 8, by omega, by rw [mset_s]; rfl, by rw [mset_s]; rfl, fun i hi => ?_⟩
    have ht : ∀ t j, t < 11 → mset (cpS μ (4 + x) 1) 12 0 (upd (upd (μ 12 0) 1 (nI ((x + 1) % 8))) 2 (nI (kN n))) t j = cpS μ (4 + x) 1 t j := fun t j q => mset_t (by omega)
    have hold : ∀ i, i < n → ¬ (x + 8 - n + i) % 8 = x → RC (mset (cpS μ (4 + x) 1) 12 0 (upd (upd (μ 12 0) 1 (nI ((x + 1) % 8))) 2 (nI (kN n)))) (4 + (x + 8 - n + i) % 8) (f i) := fun i hi q => RC.mv (fun t q => ht t _ q) (cpS_Fr.RC (by omega) (h3 i hi))
    have hnew : RC (mset (cpS μ (4 + x) 1) 12 0 (upd (upd (μ 12 0) 1 (nI ((x + 1) % 8))) 2 (nI (kN n)))) (4 + x) A := RC.mv (fun t q => ht t _ q) Rn
    unfold kN kF at *
    by_cases c : n = 8
    · rw [if_pos c] at hi ⊢
      rw [if_pos c]
      by_cases c2 : i = 7
      · rw [if_pos c2, show ((x + 1) % 8 + 8 - 8 + i) % 8 = x by omega]
        exact hnew
      · rw [if_neg c2, show ((x + 1) % 8 + 8 - 8 + i) % 8 = (x + 8 - n + (i + 1)) % 8 by omega]
        exact hold (i + 1) (by omega) (by omega)
    · rw [if_neg c] at hi ⊢
      rw [if_neg c]
      by_cases c2 : i = n
      · rw [if_pos c2, show ((x + 1) % 8 + 8 - (n + 1) + i) % 8 = x by omega]
        exact hnew
      · rw [if_neg c2, show ((x + 1) % 8 + 8 - (n + 1) + i) % 8 = (x + 8 - n + i) % 8 by omega]
        exact hold i (by omega) (by omega)
  · intro t o q1 q2
    rw [mset_n q1]
    exact cpS_Fr t o (by omega)
theorem c_takeBack {f : Nat → SP} {n : Nat} (H : HC μ f n) (h0 : 0 < n) : ∃ μ', MetA M_X0_takeBack [aR 12 0, aR 0 0] μ (rV μ') ∧ HC μ' f (n - 1) ∧ RC μ' 0 (f (n - 1)) ∧ ∀ t o, ¬ (t = 12 ∧ o = 0) → ¬ (t < 11 ∧ o = 0) → μ' t o = μ t o := by
  obtain ⟨hn, x, hx, h1, h2, h3⟩ := H
  obtain ⟨m1, em1⟩ : ∃ m : Mem, m = mset μ 12 0 (upd (μ 12 0) 1 (nI ((x + 7) % 8))) := ⟨_, rfl⟩
  have hv : vp_in (nI ((x + 7) % 8)) 8 := vp_in_nI (by omega) (by omega)
  have f1 : m1 12 0 1 = nI ((x + 7) % 8) := by rw [em1, mset_s]; rfl
  have f2 : m1 12 0 2 = nI n := by rw [em1, mset_s]; exact h2
  have hc : (nI ((x + 7) % 8)).toNatClampNeg = (x + 7) % 8 := nI_clamp (by omega)
  have e12 : cpS m1 0 (4 + (x + 7) % 8) 12 0 = m1 12 0 := cpS_Fr 12 0 (by omega)
  have hcp := c_copyFrom (μ := m1) (j := 0) (o := 4 + (x + 7) % 8) (by omega) (by omega)
  have h3' : ∀ i, i < n → RC m1 (4 + (x + 8 - n + i) % 8) (f i) := fun i hi => RC.mv (fun t q => by rw [em1, mset_t (by omega)]) (h3 i hi)
  have Rn := cpS_RC (μ := m1) (j := 0) (o := 4 + (x + 7) % 8) (A := f (n - 1)) (by omega) (by
    have := h3' (n - 1) (by omega)
    rw [show (x + 8 - n + (n - 1)) % 8 = (x + 7) % 8 by omega] at this
    exact this)
  have ht : ∀ t j, t < 11 → mset (cpS m1 0 (4 + (x + 7) % 8)) 12 0 (upd (m1 12 0) 2 (nI (n - 1))) t j = cpS m1 0 (4 + (x + 7) % 8) t j := fun t j q => mset_t (by omega)
  refine ⟨mset (cpS m1 0 (4 + (x + 7) % 8)) 12 0 (upd (m1 12 0) 2 (nI (n - 1))), ?_, ?_, ?_, ?_⟩
  · refine MetA.of2 k_X0_takeBack rfl (Nat.le_of_ble_eq_true rfl) rfl (B_X0_takeBack_0 (by decide) ?_)
    rw [h1]
    have e : nI x + 8 - 1 - (nI x + 8 - 1) / 8 * 8 = nI ((x + 7) % 8) := by
      rw [show (8 : Int32) = nI 8 from rfl, nI_add, show (1 : Int32) = nI 1 from rfl, pk_sub (by omega), pk_rem (by omega) (by decide) (by decide)]
      congr 1
    rw [e]
    intro m e1
    rw [← em1] at e1
    subst e1
    rw [f1, hc]
    refine ⟨hv, _, hcp, fun m9 e9 => rV_ok ?_⟩
    rw [e9, e12, f2, show (1 : Int32) = nI 1 from rfl, pk_sub (by omega)]
  · refine ⟨by omega, (x + 7) % 8, by omega, by rw [mset_s]; exact f1, by rw [mset_s]; rfl, fun i hi => ?_⟩
    refine RC.mv (fun t q => ht t _ q) (cpS_Fr.RC (by omega) ?_)
    rw [show ((x + 7) % 8 + 8 - (n - 1) + i) % 8 = (x + 8 - n + i) % 8 by omega]
    exact h3' i (by omega)
  · exact RC.mv (fun t q => ht t _ q) Rn
  · intro t o q1 q2
    rw [mset_n q1, cpS_Fr t o q2, em1, mset_n q1]
/-- after a change -/
def aft (T : TT) (c : CH) : TT := match c with
  | .inl p => (p.2, (kF (tHf T) (tHn T) (tA T), kN (tHn T)), T.2.2)
  | .inr p => if p.1 = 2 then (tA T, T.2.1, T.2.2.1, (p.2.1, p.2.2, 0, 0), T.2.2.2.2) else T
def exn (n : Nat) : String := match n with
  | 0 => "java/lang/IndexOutOfBoundsException"
  | 1 => "java/lang/IllegalArgumentException"
  | 2 => "java/lang/UnsupportedOperationException"
  | 3 => "java/lang/IllegalStateException"
  | 4 => "java/util/NoSuchElementException"
  | _ => "java/lang/ArithmeticException"
abbrev AN : Type := Int32 ⊕ Nat
def rC (c : AN) (μ : Mem) : RES → Mem → Prop := match c with
  | .inl v => rI v μ
  | .inr E => rX (exn E) μ
def anC (c : CH) : AN := match c with
  | .inl p => .inl p.1
  | .inr p => .inr p.1
/-- what a call of the class makes -/
def CK (M : MI) (as : List AV) (μ : Mem) (r : AN) (T : TT) : Prop := ∃ μ', MetA M (aR 11 0 :: as) μ (rC r μ') ∧ TC μ' T ∧ Cl μ μ'
theorem c_settle {c : CH} {μ1 : Mem} (hc : ∀ p, c = .inr p → p.1 ≤ 2) (H : TC μ1 T) (B : RC μ1 1 (tA T)) (h : CO μ1 μ c) : ∃ μ', MetA M_X5_settle [aR 11 0, aI (outc c)] μ (rC (anC c) μ') ∧ TC μ' (aft T c) ∧ Cl μ1 μ' := by
  obtain ⟨a1, a2, a3, a4, a5, a6, a7⟩ := H
  cases c with
  | inl p =>
    obtain ⟨⟨n, hn, e⟩, b2, b3⟩ := h
    have t : ∀ t o, ¬ (t < 11 ∧ o = 0) → μ t o = μ1 t o := b3
    have a2' : HC μ (tHf T) (tHn T) := HC.mv (t _ _ (by omega)) (fun t' j ht hj => t t' j (by omega)) a2
    have B' : RC μ 1 (tA T) := RC.mv (fun t' ht => t t' 1 (by omega)) B
    obtain ⟨m, h1, h2, h3⟩ := c_keep a2' B'
    have u : ∀ t o, ¬ (t = 12 ∧ o = 0) → ¬ (t < 11 ∧ 4 ≤ o) → ¬ (t < 11 ∧ o = 0) → m t o = μ1 t o := fun t' o q1 q2 q3 => (h3 t' o q1 q2).trans (t t' o q3)
    refine ⟨m, ?_, ⟨RC.mv (fun t ht => h3 t 0 (by omega) (by omega)) b2, h2, ?_⟩, ?_⟩
    · refine MetA.of2 k_X5_settle rfl (Nat.le_of_ble_eq_true rfl) rfl (B_X5_settle_0 ?_)
      show _ ∧ _
      rw [show outc (.inl p) = nI n from e]
      have z1 : ¬ nI n = -1 := fun q => by
        have := nI_pos (n := n) (by omega)
        rw [q] at this
        exact this (by decide)
      have z2 : ¬ nI n = -2 := fun q => by
        have := nI_pos (n := n) (by omega)
        rw [q] at this
        exact this (by decide)
      have z3 : ¬ nI n = -3 := fun q => by
        have := nI_pos (n := n) (by omega)
        rw [q] at this
        exact this (by decide)
      exact ⟨fun _ => ⟨fun _ => ⟨fun _ => ⟨_, h1, rI_ok e.symm rfl⟩, fun q => absurd q z3⟩, fun q => absurd q z2⟩, fun q => absurd q z1⟩
    · refine ⟨ZC.mv (by rw [u 11 0 (by omega) (by omega) (by omega)]) (fun t' ht => u t' 3 (by omega) (by omega) (by omega)) a3, FC.mv (u _ _ (by omega) (by omega) (by omega)) a4, IC.mv (by rw [u 15 0 (by omega) (by omega) (by omega)]) (u _ _ (by omega) (by omega) (by omega)) a5, by rw [u 11 0 (by omega) (by omega) (by omega)]; exact a6, LC.mv (u _ _ (by omega) (by omega) (by omega)) (u _ _ (by omega) (by omega) (by omega)) a7⟩
    · intro t' ht
      funext o
      exact u t' o (by omega) (by omega) (by omega)
  | inr p =>
    have hp := hc p rfl
    obtain ⟨k, r, d⟩ := p
    have hk : k ≤ 2 := hp
    rcases (show k = 0 ∨ k = 1 ∨ k = 2 by omega) with rfl | rfl | rfl
    · have e : μ = μ1 := h
      subst e
      refine ⟨μ, ?_, ⟨a1, a2, a3, a4, a5, a6, a7⟩, Cl.rf⟩
      refine MetA.of2 k_X5_settle rfl (Nat.le_of_ble_eq_true rfl) rfl (B_X5_settle_0 ?_)
      exact ⟨fun q => absurd rfl q, fun _ => rX_ok rfl⟩
    · have e : μ = μ1 := h
      subst e
      refine ⟨μ, ?_, ⟨a1, a2, a3, a4, a5, a6, a7⟩, Cl.rf⟩
      refine MetA.of2 k_X5_settle rfl (Nat.le_of_ble_eq_true rfl) rfl (B_X5_settle_0 ?_)
      exact ⟨fun _ => ⟨fun q => absurd rfl q, fun _ => rX_ok rfl⟩, fun q => absurd q (show ¬ ((-2 : Int32) = -1) by decide)⟩
    · have e : μ = refM μ1 r d := h
      have u : ∀ t o, ¬ (t = 14 ∧ o = 0) → μ t o = μ1 t o := fun t o q => by rw [e]; exact mset_n q
      refine ⟨μ, ?_, ⟨RC.mv (fun t ht => u t 0 (by omega)) a1, HC.mv (u _ _ (by omega)) (fun t' j ht hj => u t' j (by omega)) a2, ZC.mv (by rw [u 11 0 (by omega)]) (fun t' ht => u t' 3 (by omega)) a3, ?_, IC.mv (by rw [u 15 0 (by omega)]) (u _ _ (by omega)) a5, by rw [u 11 0 (by omega)]; exact a6, LC.mv (u _ _ (by omega)) (u _ _ (by omega)) a7⟩, fun t' ht => by
        funext o
        exact u t' o (by omega)⟩
      · refine MetA.of2 k_X5_settle rfl (Nat.le_of_ble_eq_true rfl) rfl (B_X5_settle_0 ?_)
        exact ⟨fun _ => ⟨fun _ => ⟨fun q => absurd rfl q, fun _ => rX_ok rfl⟩, fun q => absurd q (show ¬ ((-3 : Int32) = -2) by decide)⟩, fun q => absurd q (show ¬ ((-3 : Int32) = -1) by decide)⟩
      · rw [e]
        unfold refM FC
        rw [mset_s]
        exact ⟨rfl, rfl, rfl, rfl⟩
theorem bef (H : TC μ T) : MetA M_X4_copyFrom [aR 0 1, aR 0 0] μ (rV (cpS μ 1 0)) ∧ TC (cpS μ 1 0) T ∧ RC (cpS μ 1 0) 1 (tA T) ∧ Cl μ (cpS μ 1 0) := ⟨c_copyFrom (by decide) (by decide), TC.sc (Sc.fr1 cpS_Fr) H, cpS_RC (by decide) H.1, Cl.fr cpS_Fr⟩
theorem c2_house {a : Int32} : ∀ p, chHouse A a = .inr p → p.1 ≤ 2 := by
  intro p h
  unfold chHouse at h
  repeat' split at h
  all_goals first | (cases h; exact Nat.le_of_ble_eq_true rfl) | (cases h)
theorem p_house {a : Int32} (H : TC μ T) : CK M_X5_house [aI a] μ (anC (chHouse (tA T) a)) (aft T (chHouse (tA T) a)) := by
  obtain ⟨b1, b2, b3, b4⟩ := bef H
  obtain ⟨m, h1, h2⟩ := c_addHouse (a := a) b2.1
  obtain ⟨m2, g1, g2, g3⟩ := c_settle c2_house b2 b3 h2
  refine ⟨m2, ?_, g2, b4.tr g3⟩
  refine MetA.of2 k_X5_house rfl (Nat.le_of_ble_eq_true rfl) rfl (B_X5_house_0 ?_)
  refine ⟨_, b1, _, _, h1, ?_⟩
  cases hc : chHouse (tA T) a with
  | inl p => rw [hc] at g1; exact Or.inl ⟨_, _, g1, rI_ok rfl rfl⟩
  | inr p => rw [hc] at g1; exact Or.inr ⟨_, _, g1, rX_ok rfl⟩
theorem c2_sheet {a b : Int32} : ∀ p, chSheet A a b = .inr p → p.1 ≤ 2 := by
  intro p h
  unfold chSheet at h
  repeat' split at h
  all_goals first | (cases h; exact Nat.le_of_ble_eq_true rfl) | (cases h)
theorem p_sheet {a b : Int32} (H : TC μ T) : CK M_X5_sheet [aI a, aI b] μ (anC (chSheet (tA T) a b)) (aft T (chSheet (tA T) a b)) := by
  obtain ⟨b1, b2, b3, b4⟩ := bef H
  obtain ⟨m, h1, h2⟩ := c_addSheet (a := a) (x := b) b2.1
  obtain ⟨m2, g1, g2, g3⟩ := c_settle c2_sheet b2 b3 h2
  refine ⟨m2, ?_, g2, b4.tr g3⟩
  refine MetA.of2 k_X5_sheet rfl (Nat.le_of_ble_eq_true rfl) rfl (B_X5_sheet_0 ?_)
  refine ⟨_, b1, _, _, h1, ?_⟩
  cases hc : chSheet (tA T) a b with
  | inl p => rw [hc] at g1; exact Or.inl ⟨_, _, g1, rI_ok rfl rfl⟩
  | inr p => rw [hc] at g1; exact Or.inr ⟨_, _, g1, rX_ok rfl⟩
theorem c2_take {a : Int32} : ∀ p, chTake A a = .inr p → p.1 ≤ 2 := by
  intro p h
  unfold chTake at h
  repeat' split at h
  all_goals first | (cases h; exact Nat.le_of_ble_eq_true rfl) | (cases h)
theorem p_take {a : Int32} (H : TC μ T) : CK M_X5_take [aI a] μ (anC (chTake (tA T) a)) (aft T (chTake (tA T) a)) := by
  obtain ⟨b1, b2, b3, b4⟩ := bef H
  obtain ⟨m, h1, h2⟩ := c_takeSheet (a := a) b2.1
  obtain ⟨m2, g1, g2, g3⟩ := c_settle c2_take b2 b3 h2
  refine ⟨m2, ?_, g2, b4.tr g3⟩
  refine MetA.of2 k_X5_take rfl (Nat.le_of_ble_eq_true rfl) rfl (B_X5_take_0 ?_)
  refine ⟨_, b1, _, _, h1, ?_⟩
  cases hc : chTake (tA T) a with
  | inl p => rw [hc] at g1; exact Or.inl ⟨_, _, g1, rI_ok rfl rfl⟩
  | inr p => rw [hc] at g1; exact Or.inr ⟨_, _, g1, rX_ok rfl⟩
theorem c2_set {a b c : Int32} : ∀ p, chSet A a b c = .inr p → p.1 ≤ 2 := by
  intro p h
  unfold chSet chSet2 at h
  repeat' split at h
  all_goals first | (cases h; exact Nat.le_of_ble_eq_true rfl) | (cases h)
theorem p_set {a b c : Int32} (H : TC μ T) : CK M_X5_set [aI a, aI b, aI c] μ (anC (chSet (tA T) a b c)) (aft T (chSet (tA T) a b c)) := by
  obtain ⟨b1, b2, b3, b4⟩ := bef H
  obtain ⟨m, h1, h2⟩ := c_setLetter (a := a) (b := b) (c := c) b2.1
  obtain ⟨m2, g1, g2, g3⟩ := c_settle c2_set b2 b3 h2
  refine ⟨m2, ?_, g2, b4.tr g3⟩
  refine MetA.of2 k_X5_set rfl (Nat.le_of_ble_eq_true rfl) rfl (B_X5_set_0 ?_)
  refine ⟨_, b1, _, _, h1, ?_⟩
  cases hc : chSet (tA T) a b c with
  | inl p => rw [hc] at g1; exact Or.inl ⟨_, _, g1, rI_ok rfl rfl⟩
  | inr p => rw [hc] at g1; exact Or.inr ⟨_, _, g1, rX_ok rfl⟩
theorem c2_license {a b : Int32} : ∀ p, chLic A a b = .inr p → p.1 ≤ 2 := by
  intro p h
  unfold chLic chLic2 at h
  repeat' split at h
  all_goals first | (cases h; exact Nat.le_of_ble_eq_true rfl) | (cases h)
theorem p_license {a b : Int32} (H : TC μ T) : CK M_X5_license [aI a, aI b] μ (anC (chLic (tA T) a b)) (aft T (chLic (tA T) a b)) := by
  obtain ⟨b1, b2, b3, b4⟩ := bef H
  obtain ⟨m, h1, h2⟩ := c_sellLicence (a := a) (b := b) b2.1
  obtain ⟨m2, g1, g2, g3⟩ := c_settle c2_license b2 b3 h2
  refine ⟨m2, ?_, g2, b4.tr g3⟩
  refine MetA.of2 k_X5_license rfl (Nat.le_of_ble_eq_true rfl) rfl (B_X5_license_0 ?_)
  refine ⟨_, b1, _, _, h1, ?_⟩
  cases hc : chLic (tA T) a b with
  | inl p => rw [hc] at g1; exact Or.inl ⟨_, _, g1, rI_ok rfl rfl⟩
  | inr p => rw [hc] at g1; exact Or.inr ⟨_, _, g1, rX_ok rfl⟩
theorem c2_correct {a b : Int32} : ∀ p, chCor A a b = .inr p → p.1 ≤ 2 := by
  intro p h
  unfold chCor chCor2 at h
  repeat' split at h
  all_goals first | (cases h; exact Nat.le_of_ble_eq_true rfl) | (cases h)
theorem p_correct {a b : Int32} (H : TC μ T) : CK M_X5_correct [aI a, aI b] μ (anC (chCor (tA T) a b)) (aft T (chCor (tA T) a b)) := by
  obtain ⟨b1, b2, b3, b4⟩ := bef H
  obtain ⟨m, h1, h2⟩ := c_takeFine (a := a) (b := b) b2.1
  obtain ⟨m2, g1, g2, g3⟩ := c_settle c2_correct b2 b3 h2
  refine ⟨m2, ?_, g2, b4.tr g3⟩
  refine MetA.of2 k_X5_correct rfl (Nat.le_of_ble_eq_true rfl) rfl (B_X5_correct_0 ?_)
  refine ⟨_, b1, _, _, h1, ?_⟩
  cases hc : chCor (tA T) a b with
  | inl p => rw [hc] at g1; exact Or.inl ⟨_, _, g1, rI_ok rfl rfl⟩
  | inr p => rw [hc] at g1; exact Or.inr ⟨_, _, g1, rX_ok rfl⟩
theorem c2_reader {a b : Int32} : ∀ p, chRead A a b = .inr p → p.1 ≤ 2 := by
  intro p h
  unfold chRead at h
  repeat' split at h
  all_goals first | (cases h; exact Nat.le_of_ble_eq_true rfl) | (cases h)
theorem p_reader {a b : Int32} (H : TC μ T) : CK M_X5_reader [aI a, aI b] μ (anC (chRead (tA T) a b)) (aft T (chRead (tA T) a b)) := by
  obtain ⟨b1, b2, b3, b4⟩ := bef H
  obtain ⟨m, h1, h2⟩ := c_addReader (a := a) (b := b) b2.1
  obtain ⟨m2, g1, g2, g3⟩ := c_settle c2_reader b2 b3 h2
  refine ⟨m2, ?_, g2, b4.tr g3⟩
  refine MetA.of2 k_X5_reader rfl (Nat.le_of_ble_eq_true rfl) rfl (B_X5_reader_0 ?_)
  refine ⟨_, b1, _, _, h1, ?_⟩
  cases hc : chRead (tA T) a b with
  | inl p => rw [hc] at g1; exact Or.inl ⟨_, _, g1, rI_ok rfl rfl⟩
  | inr p => rw [hc] at g1; exact Or.inr ⟨_, _, g1, rX_ok rfl⟩
theorem c2_edition  : ∀ p, chEd A = .inr p → p.1 ≤ 2 := by
  intro p h
  unfold chEd at h
  repeat' split at h
  all_goals first | (cases h; exact Nat.le_of_ble_eq_true rfl) | (cases h)
theorem p_edition  (H : TC μ T) : CK M_X5_edition [] μ (anC (chEd (tA T))) (aft T (chEd (tA T))) := by
  obtain ⟨b1, b2, b3, b4⟩ := bef H
  obtain ⟨m, h1, h2⟩ := c_printEdition  b2.1
  obtain ⟨m2, g1, g2, g3⟩ := c_settle c2_edition b2 b3 h2
  refine ⟨m2, ?_, g2, b4.tr g3⟩
  refine MetA.of2 k_X5_edition rfl (Nat.le_of_ble_eq_true rfl) rfl (B_X5_edition_0 ?_)
  refine ⟨_, b1, _, _, h1, ?_⟩
  cases hc : chEd (tA T) with
  | inl p => rw [hc] at g1; exact Or.inl ⟨_, _, g1, rI_ok rfl rfl⟩
  | inr p => rw [hc] at g1; exact Or.inr ⟨_, _, g1, rX_ok rfl⟩
theorem p_day (H : TC μ T) : CK M_X5_day [] μ (anC (chDay (tA T))) (aft T (chDay (tA T))) := by
  obtain ⟨b1, b2, b3, b4⟩ := bef H
  obtain ⟨m, h1, h2, h3⟩ := c_passDay (j := 0) (by decide) b2.1
  have w := b2.1.W.hm
  have w2 := sm_le (f := fun h => bi (20 < sSh (oDay (tA T)) h)) (c := 1) (n := sH (tA T)) (fun h _ => by show bi _ ≤ 1; unfold bi; split <;> omega)
  obtain ⟨m2, g1, g2, g3⟩ := c_settle (c := chDay (tA T)) (fun p h => by cases h) b2 b3 ⟨⟨_, by omega, rfl⟩, h2, h3⟩
  refine ⟨m2, ?_, g2, b4.tr g3⟩
  refine MetA.of2 k_X5_day rfl (Nat.le_of_ble_eq_true rfl) rfl (B_X5_day_0 ?_)
  exact ⟨_, b1, _, _, h1, Or.inl ⟨_, _, g1, rI_ok rfl rfl⟩⟩
end SI
