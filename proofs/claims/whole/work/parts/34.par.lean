/-! the text of orders -/
abbrev OD : Type := Nat × Nat × Nat × Nat
abbrev isD (n : Nat) (g : Nat → Nat) (p : Nat) : Prop := p < n ∧ 48 ≤ g p ∧ g p ≤ 57
abbrev isL (n : Nat) (g : Nat → Nat) (p : Nat) : Prop := p < n ∧ 97 ≤ g p ∧ g p ≤ 102
abbrev isC (n : Nat) (g : Nat → Nat) (p c : Nat) : Prop := p < n ∧ c ≤ g p ∧ g p ≤ c
def lc (n : Nat) (g : Nat → Nat) : Nat → Nat → Nat
  | 0, _ => 0
  | m + 1, p => if isL n g p then lc n g m (p + 1) + 1 else 0
def wv (g : Nat → Nat) (p : Nat) : Nat → Nat
  | 0 => 0
  | c + 1 => 10 * wv g p c + (g (p + c) - 96)
def pO (n : Nat) (g : Nat → Nat) (p : Nat) : Bool × Nat × OD :=
  if p < n then
    if g p = 104 then
      if isD n g (p + 1) then
        if isD n g (p + 2) then (true, p + 3, (104, 10 * (g (p + 1) - 48) + (g (p + 2) - 48), 0, 0)) else (true, p + 2, (104, g (p + 1) - 48, 0, 0))
      else (false, p + 1, (0, 0, 0, 0))
    else if g p = 115 then
      if isD n g (p + 1) then
        if isC n g (p + 2) 61 then (decide (3 ≤ lc n g 8 (p + 3)), p + 3 + lc n g 8 (p + 3), (115, g (p + 1) - 48, wv g (p + 3) (lc n g 8 (p + 3)), 0)) else (false, p + 2, (0, 0, 0, 0))
      else (false, p + 1, (0, 0, 0, 0))
    else if g p = 109 then
      if isD n g (p + 1) then
        if isD n g (p + 2) then
          if isL n g (p + 3) then (true, p + 4, (109, g (p + 1) - 48, g (p + 2) - 48, g (p + 3))) else (false, p + 3, (0, 0, 0, 0))
        else (false, p + 2, (0, 0, 0, 0))
      else (false, p + 1, (0, 0, 0, 0))
    else if g p = 108 ∨ g p = 99 ∨ g p = 114 then
      if isD n g (p + 1) then
        if isD n g (p + 2) then (true, p + 3, (g p, g (p + 1) - 48, g (p + 2) - 48, 0)) else (false, p + 2, (0, 0, 0, 0))
      else (false, p + 1, (0, 0, 0, 0))
    else if g p = 120 then
      if isD n g (p + 1) then (true, p + 2, (120, g (p + 1) - 48, 0, 0)) else (false, p + 1, (0, 0, 0, 0))
    else if g p = 101 ∨ g p = 100 then (true, p + 1, (g p, 0, 0, 0))
    else (false, p, (0, 0, 0, 0))
  else (false, p, (0, 0, 0, 0))
def nO (n : Nat) (g : Nat → Nat) (p : Nat) : Bool × Nat × OD := if p = 0 then pO n g 0 else if isC n g p 59 then pO n g (p + 1) else (false, p, (0, 0, 0, 0))
def uT (n : Nat) (g : Nat → Nat) : Nat → Nat → Bool × Nat × List OD
  | 0, p => (false, p, [])
  | f + 1, p => if (nO n g p).1 = true then (if (nO n g p).2.1 < n then ((uT n g f (nO n g p).2.1).1, (uT n g f (nO n g p).2.1).2.1, (nO n g p).2.2 :: (uT n g f (nO n g p).2.1).2.2) else (true, (nO n g p).2.1, [(nO n g p).2.2])) else (false, (nO n g p).2.1, [])
theorem lc_le {n : Nat} {g : Nat → Nat} : ∀ m p, p ≤ n → lc n g m p ≤ m ∧ p + lc n g m p ≤ n
  | 0, p, h => ⟨Nat.le_refl _, h⟩
  | m + 1, p, h => by
    rw [lc]
    by_cases c : isL n g p
    · have := lc_le (n := n) (g := g) m (p + 1) c.1
      rw [if_pos c]
      omega
    · rw [if_neg c]
      omega
theorem pO_at {n : Nat} {g : Nat → Nat} {p : Nat} (h : p ≤ n) : p ≤ (pO n g p).2.1 ∧ (pO n g p).2.1 ≤ n ∧ ((pO n g p).1 = true → p < (pO n g p).2.1) := by
  unfold pO
  repeat' split
  all_goals first | (refine ⟨?_, ?_, fun _ => ?_⟩ <;> simp only <;> omega) | exact ⟨Nat.le_refl _, h, fun q => absurd (show false = true from q) Bool.false_ne_true⟩ | skip
  have c : isC n g (p + 2) 61 := by assumption
  have := lc_le (n := n) (g := g) 8 (p + 3) c.1
  refine ⟨?_, ?_, fun _ => ?_⟩ <;> simp only <;> omega
theorem nO_at {n : Nat} {g : Nat → Nat} {p : Nat} (h : p ≤ n) : p ≤ (nO n g p).2.1 ∧ (nO n g p).2.1 ≤ n ∧ ((nO n g p).1 = true → p < (nO n g p).2.1) := by
  unfold nO
  by_cases c : p = 0
  · rw [if_pos c]
    subst c
    exact pO_at h
  · rw [if_neg c]
    by_cases c2 : isC n g p 59
    · rw [if_pos c2]
      have := pO_at (n := n) (g := g) (p := p + 1) c2.1
      exact ⟨by omega, this.2.1, fun q => by have := this.2.2 q; omega⟩
    · rw [if_neg c2]
      exact ⟨Nat.le_refl _, h, fun q => absurd (show false = true from q) Bool.false_ne_true⟩
/-- what the reader of orders has in its cells -/
def FM (φ : Nat → Int32) (o : OD) : Prop := φ 3 = nI o.1 ∧ (¬ o.1 = 100 → ¬ o.1 = 101 → φ 4 = nI o.2.1) ∧ (o.1 = 115 ∨ o.1 = 109 ∨ o.1 = 108 ∨ o.1 = 99 ∨ o.1 = 114 → φ 5 = nI o.2.2.1) ∧ (o.1 = 109 → φ 6 = nI o.2.2.2)
abbrev PS (μ : Mem) (φ : Nat → Int32) : Mem := mset μ 15 0 φ
def TX (μ : Mem) (n : Nat) (g : Nat → Nat) : Prop := n ≤ 60 ∧ ∀ i, i < n → μ 16 0 i = nI (g i) ∧ g i < 65536
def PT (φ : Nat → Int32) (n p : Nat) : Prop := φ 1 = nI n ∧ φ 2 = nI p ∧ p ≤ n
theorem mset_mset (μ : Mem) (t o : Nat) (f h : Nat → Int32) : mset (mset μ t o f) t o h = mset μ t o h := by
  funext t' o'
  unfold mset
  split <;> rfl
theorem mset_id (μ : Mem) (t o : Nat) : mset μ t o (μ t o) = μ := by
  funext t' o'
  unfold mset
  split
  · rename_i h
    rw [h.1, h.2]
  · rfl
section SM
variable {μ : Mem} {φ : Nat → Int32} {n p : Nat} {g : Nat → Nat}
theorem e15 : PS μ φ 15 0 = φ := mset_s _ _ _ _
theorem e16 : PS μ φ 16 0 = μ 16 0 := mset_t (by decide)
theorem PSu (k : Nat) (v : Int32) : mset (PS μ φ) 15 0 (upd φ k v) = PS μ (upd φ k v) := mset_mset _ _ _ _ _
theorem c_isAhead {a b : Nat} (hT : TX μ n g) (hP : PT φ n p) (ha : a < 65536) (hb : b < 65536) : MetA M_X2_isAhead [aR 15 0, aI (nI a), aI (nI b)] (PS μ φ) (rI (nI (bi (p < n ∧ a ≤ g p ∧ g p ≤ b))) (PS μ φ)) := by
  obtain ⟨h1, h2, h3⟩ := hP
  have w := hT.1
  refine MetA.of2 k_X2_isAhead rfl (Nat.le_of_ble_eq_true rfl) rfl (B_X2_isAhead_0 ?_)
  rw [e15, e16, h1, h2, nI_clamp (by omega), show (60 : Int32) = nI 60 from rfl, nI_leI (by omega) (by omega), nI_leI (by omega) (by omega)]
  refine ⟨fun q => rI_ok ?_ rfl, fun q => ⟨fun q2 => absurd q2 (by omega), fun _ => ⟨vp_in_nI (by omega) (by omega), ?_⟩⟩⟩
  · rw [bi_f (by omega)]
    rfl
  · have hp := hT.2 p (by omega)
    rw [hp.1, nI_ltI (by omega) (by omega), nI_ltI (by omega) (by omega)]
    refine ⟨fun q2 => rI_ok ?_ rfl, fun q2 => ⟨vp_in_nI (by omega) (by omega), fun q3 => rI_ok ?_ rfl, fun q3 => rI_ok ?_ rfl⟩⟩
    · rw [bi_f (by omega)]
      rfl
    · rw [bi_f (by omega)]
      rfl
    · rw [bi_t (by omega)]
      rfl
theorem c_readSign_y {c : Nat} (hT : TX μ n g) (hP : PT φ n p) (hc : c < 65536) (h : isC n g p c) : MetA M_X2_readSign [aR 15 0, aI (nI c)] (PS μ φ) (rI 1 (PS μ (upd φ 2 (nI (p + 1))))) := by
  have k := c_isAhead hT hP hc hc
  rw [bi_t h] at k
  refine MetA.of2 k_X2_readSign rfl (Nat.le_of_ble_eq_true rfl) rfl (B_X2_readSign_0 ?_)
  refine ⟨_, _, k, fun _ m e => rI_ok rfl ?_, fun q => absurd q (by decide)⟩
  rw [e, e15, hP.2.1, show (1 : Int32) = nI 1 from rfl, nI_add, PSu]
theorem c_readSign_n {c : Nat} (hT : TX μ n g) (hP : PT φ n p) (hc : c < 65536) (h : ¬ isC n g p c) : MetA M_X2_readSign [aR 15 0, aI (nI c)] (PS μ φ) (rI 0 (PS μ φ)) := by
  have k := c_isAhead hT hP hc hc
  rw [bi_f h] at k
  refine MetA.of2 k_X2_readSign rfl (Nat.le_of_ble_eq_true rfl) rfl (B_X2_readSign_0 ?_)
  exact ⟨_, _, k, fun q => absurd rfl q, fun _ => rI_ok rfl rfl⟩
theorem c_readDigit_y (hT : TX μ n g) (hP : PT φ n p) (h : isD n g p) : MetA M_X2_readDigit [aR 15 0] (PS μ φ) (rI (nI (g p - 48)) (PS μ (upd φ 2 (nI (p + 1))))) := by
  have w := hT.1
  have k := c_isAhead (a := 48) (b := 57) hT hP (by decide) (by decide)
  rw [bi_t h] at k
  refine MetA.of2 k_X2_readDigit rfl (Nat.le_of_ble_eq_true rfl) rfl (B_X2_readDigit_0 ?_)
  refine ⟨_, _, k, fun _ => ?_, fun q => absurd q (by decide)⟩
  have hp := hT.2 p h.1
  rw [e15, e16, hP.2.1, nI_clamp (by omega), hp.1, show (48 : Int32) = nI 48 from rfl, pk_sub h.2.1]
  refine ⟨vp_in_nI (by omega) (by omega), fun m e => rI_ok rfl ?_⟩
  rw [e, show (1 : Int32) = nI 1 from rfl, nI_add, PSu]
theorem c_readDigit_n (hT : TX μ n g) (hP : PT φ n p) (h : ¬ isD n g p) : MetA M_X2_readDigit [aR 15 0] (PS μ φ) (rI (-1) (PS μ φ)) := by
  have k := c_isAhead (a := 48) (b := 57) hT hP (by decide) (by decide)
  rw [bi_f h] at k
  refine MetA.of2 k_X2_readDigit rfl (Nat.le_of_ble_eq_true rfl) rfl (B_X2_readDigit_0 ?_)
  exact ⟨_, _, k, fun q => absurd rfl q, fun _ => rI_ok rfl rfl⟩
theorem nI_m1 {a : Nat} (h : a < 2 ^ 31) : ¬ nI a = -1 := fun q => by
  have := nI_pos h
  rw [q] at this
  exact this (by decide)
theorem c_readFirst_y (hT : TX μ n g) (hP : PT φ n p) (h : isD n g p) : MetA M_X2_readFirst [aR 15 0] (PS μ φ) (rI 1 (PS μ (upd (upd φ 2 (nI (p + 1))) 4 (nI (g p - 48))))) := by
  refine MetA.of2 k_X2_readFirst rfl (Nat.le_of_ble_eq_true rfl) rfl (B_X2_readFirst_0 ?_)
  refine ⟨_, _, c_readDigit_y hT hP h, fun m e => ?_⟩
  rw [e15, PSu] at e
  rw [e, e15]
  exact ⟨fun q => absurd q (nI_m1 (a := g p - 48) (by omega)), fun _ => rI_ok rfl rfl⟩
theorem c_readFirst_n (hT : TX μ n g) (hP : PT φ n p) (h : ¬ isD n g p) : MetA M_X2_readFirst [aR 15 0] (PS μ φ) (rI 0 (PS μ (upd φ 4 (-1)))) := by
  refine MetA.of2 k_X2_readFirst rfl (Nat.le_of_ble_eq_true rfl) rfl (B_X2_readFirst_0 ?_)
  refine ⟨_, _, c_readDigit_n hT hP h, fun m e => ?_⟩
  rw [e15, PSu] at e
  rw [e, e15]
  exact ⟨fun _ => rI_ok rfl rfl, fun q => absurd rfl q⟩
theorem c_readSecond_y (hT : TX μ n g) (hP : PT φ n p) (h : isD n g p) : MetA M_X2_readSecond [aR 15 0] (PS μ φ) (rI 1 (PS μ (upd (upd φ 2 (nI (p + 1))) 5 (nI (g p - 48))))) := by
  refine MetA.of2 k_X2_readSecond rfl (Nat.le_of_ble_eq_true rfl) rfl (B_X2_readSecond_0 ?_)
  refine ⟨_, _, c_readDigit_y hT hP h, fun m e => ?_⟩
  rw [e15, PSu] at e
  rw [e, e15]
  exact ⟨fun q => absurd q (nI_m1 (a := g p - 48) (by omega)), fun _ => rI_ok rfl rfl⟩
theorem c_readSecond_n (hT : TX μ n g) (hP : PT φ n p) (h : ¬ isD n g p) : MetA M_X2_readSecond [aR 15 0] (PS μ φ) (rI 0 (PS μ (upd φ 5 (-1)))) := by
  refine MetA.of2 k_X2_readSecond rfl (Nat.le_of_ble_eq_true rfl) rfl (B_X2_readSecond_0 ?_)
  refine ⟨_, _, c_readDigit_n hT hP h, fun m e => ?_⟩
  rw [e15, PSu] at e
  rw [e, e15]
  exact ⟨fun _ => rI_ok rfl rfl, fun q => absurd rfl q⟩
theorem c_readLetter_y (hT : TX μ n g) (hP : PT φ n p) (h : isL n g p) : MetA M_X2_readLetter [aR 15 0] (PS μ φ) (rI 1 (PS μ (upd (upd φ 6 (nI (g p))) 2 (nI (p + 1))))) := by
  have w := hT.1
  have k := c_isAhead (a := 97) (b := 102) hT hP (by decide) (by decide)
  rw [bi_t h] at k
  refine MetA.of2 k_X2_readLetter rfl (Nat.le_of_ble_eq_true rfl) rfl (B_X2_readLetter_0 ?_)
  refine ⟨_, _, k, fun _ => ?_, fun q => absurd q (by decide)⟩
  have hp := hT.2 p h.1
  rw [e15, e16, hP.2.1, nI_clamp (by omega), hp.1]
  refine ⟨vp_in_nI (by omega) (by omega), pk_charN hp.2, fun m e m2 e2 => rI_ok rfl ?_⟩
  rw [PSu] at e
  rw [e, e15, PSu] at e2
  rw [e2]
  show PS μ (upd (upd φ 6 (nI (g p))) 2 (φ 2 + 1)) = _
  rw [hP.2.1, show (1 : Int32) = nI 1 from rfl, nI_add]
theorem c_readLetter_n (hT : TX μ n g) (hP : PT φ n p) (h : ¬ isL n g p) : MetA M_X2_readLetter [aR 15 0] (PS μ φ) (rI 0 (PS μ φ)) := by
  have k := c_isAhead (a := 97) (b := 102) hT hP (by decide) (by decide)
  rw [bi_f h] at k
  refine MetA.of2 k_X2_readLetter rfl (Nat.le_of_ble_eq_true rfl) rfl (B_X2_readLetter_0 ?_)
  exact ⟨_, _, k, fun q => absurd rfl q, fun _ => rI_ok rfl rfl⟩
theorem c_readWord (hT : TX μ n g) (hP : PT φ n p) : ∃ φ', MetA M_X2_readWord [aR 15 0] (PS μ φ) (rI (nI (bi (3 ≤ lc n g 8 p))) (PS μ φ')) ∧ PT φ' n (p + lc n g 8 p) ∧ φ' 3 = φ 3 ∧ φ' 4 = φ 4 ∧ φ' 5 = nI (wv g p (lc n g 8 p)) := by
  have w := hT.1
  have key : ∀ m i φ, i + m = 8 → PT φ n (p + i) → φ 5 = nI (wv g p i) → ∃ φ', PT φ' n (p + (i + lc n g m (p + i))) ∧ φ' 3 = φ 3 ∧ φ' 4 = φ 4 ∧ φ' 5 = nI (wv g p (i + lc n g m (p + i))) ∧ ∀ P, P (.inl (some (aI (nI (bi (3 ≤ i + lc n g m (p + i))))))) (PS μ φ') → AW M_X2_readWord 0 7 [some (aR 15 0), some (aI (nI i))] [] (PS μ φ) P := by
    intro m
    induction m with
    | zero =>
      intro i φ hi hP h5
      refine ⟨φ, hP, rfl, rfl, h5, fun P h => B_X2_readWord_7 ?_⟩
      rw [lc] at h
      refine ⟨fun _ => ⟨fun q => absurd q ?_, fun _ => ?_⟩, fun q => absurd (nI_le (b := i) (a := 8) (by omega) (by omega)) q⟩
      · rw [n3, nI_ltI (by omega) (by decide)]
        omega
      · rw [bi_t (by omega)] at h
        exact h
    | succ m ih =>
      intro i φ hi hP h5
      rw [lc]
      by_cases c : isL n g (p + i)
      · rw [if_pos c]
        obtain ⟨φ', a1, a2, a3, a4, a5⟩ := ih (i + 1) (upd (upd (upd φ 6 (nI (g (p + i)))) 2 (nI (p + i + 1))) 5 (nI (wv g p (i + 1)))) (by omega) ⟨hP.1, rfl, c.1⟩ rfl
        have e : i + 1 + lc n g m (p + (i + 1)) = i + (lc n g m (p + i + 1) + 1) := by rw [show p + (i + 1) = p + i + 1 by omega]; omega
        rw [e] at a1 a4 a5
        refine ⟨φ', a1, a2, a3, a4, fun P h => B_X2_readWord_7 ?_⟩
        refine ⟨fun q => absurd (show nI 8 ≤ nI i from q) (nI_ge (by omega) (by decide)), fun _ => ⟨_, _, c_readLetter_y hT hP c, fun q => absurd q (by decide), fun _ m7 e7 => ?_⟩⟩
        rw [e15, PSu] at e7
        have e8 : upd (upd φ 6 (nI (g (p + i)))) 2 (nI (p + i + 1)) 5 * 10 + upd (upd φ 6 (nI (g (p + i)))) 2 (nI (p + i + 1)) 6 - 97 + 1 = nI (wv g p (i + 1)) := by
          show φ 5 * 10 + nI (g (p + i)) - 97 + 1 = _
          rw [h5, show (10 : Int32) = nI 10 from rfl, pk_mul, nI_add, show (97 : Int32) = nI 97 from rfl, pk_sub (by omega), show (1 : Int32) = nI 1 from rfl, nI_add, wv]
          congr 1
          omega
        rw [e8] at e7
        rw [e7, show (1 : Int32) = nI 1 from rfl, nI_add]
        exact a5 P h
      · rw [if_neg c]
        refine ⟨φ, hP, rfl, rfl, h5, fun P h => B_X2_readWord_7 ?_⟩
        refine ⟨fun q => absurd (show nI 8 ≤ nI i from q) (nI_ge (by omega) (by decide)), fun _ => ⟨_, _, c_readLetter_n hT hP c, fun _ => ⟨fun q => ?_, fun q => ?_⟩, fun q => absurd rfl q⟩⟩
        · rw [n3, nI_ltI (by omega) (by decide)] at q
          rw [bi_f (by omega)] at h
          exact h
        · rw [n3, nI_ltI (by omega) (by decide)] at q
          rw [bi_t (by omega)] at h
          exact h
  obtain ⟨φ', a1, a2, a3, a4, a5⟩ := key 8 0 (upd φ 5 0) rfl ⟨hP.1, hP.2.1, hP.2.2⟩ rfl
  rw [Nat.zero_add] at a1 a4 a5
  refine ⟨φ', ?_, a1, a2, a3, a4⟩
  refine MetA.of2 k_X2_readWord rfl (Nat.le_of_ble_eq_true rfl) rfl (B_X2_readWord_0 ?_)
  intro m e
  rw [e15, PSu] at e
  rw [e]
  exact a5 _ (rI_ok rfl rfl)
theorem c_readCoins_n (hT : TX μ n g) (hP : PT φ n p) (h : ¬ isD n g p) : MetA M_X2_readCoins [aR 15 0] (PS μ φ) (rI 0 (PS μ (upd φ 4 (-1)))) := by
  refine MetA.of2 k_X2_readCoins rfl (Nat.le_of_ble_eq_true rfl) rfl (B_X2_readCoins_0 ?_)
  refine ⟨_, _, c_readDigit_n hT hP h, fun m e => ?_⟩
  rw [e15, PSu] at e
  rw [e, e15]
  exact ⟨fun _ => ⟨fun _ => rI_ok rfl rfl, fun q => absurd rfl q⟩, fun q => absurd rfl q⟩
theorem c_readCoins_1 (hT : TX μ n g) (hP : PT φ n p) (h : isD n g p) (h2 : ¬ isD n g (p + 1)) : MetA M_X2_readCoins [aR 15 0] (PS μ φ) (rI 1 (PS μ (upd (upd φ 2 (nI (p + 1))) 4 (nI (g p - 48))))) := by
  have z := nI_m1 (a := g p - 48) (by omega)
  have k := c_isAhead (φ := upd (upd φ 2 (nI (p + 1))) 4 (nI (g p - 48))) (p := p + 1) (a := 48) (b := 57) hT ⟨hP.1, rfl, h.1⟩ (by decide) (by decide)
  rw [bi_f h2] at k
  refine MetA.of2 k_X2_readCoins rfl (Nat.le_of_ble_eq_true rfl) rfl (B_X2_readCoins_0 ?_)
  refine ⟨_, _, c_readDigit_y hT hP h, fun m e => ?_⟩
  rw [e15, PSu] at e
  rw [e, e15]
  refine ⟨fun q => absurd q z, fun _ => ⟨_, _, k, fun _ => ?_, fun q => absurd rfl q⟩⟩
  rw [e15]
  exact ⟨fun q => absurd q z, fun _ => rI_ok rfl rfl⟩
theorem c_readCoins_2 (hT : TX μ n g) (hP : PT φ n p) (h : isD n g p) (h2 : isD n g (p + 1)) : ∃ φ', MetA M_X2_readCoins [aR 15 0] (PS μ φ) (rI 1 (PS μ φ')) ∧ PT φ' n (p + 2) ∧ φ' 3 = φ 3 ∧ φ' 4 = nI (10 * (g p - 48) + (g (p + 1) - 48)) := by
  have z := nI_m1 (a := g p - 48) (by omega)
  have z2 := nI_m1 (a := 10 * (g p - 48) + (g (p + 1) - 48)) (by omega)
  have hP2 : PT (upd (upd φ 2 (nI (p + 1))) 4 (nI (g p - 48))) n (p + 1) := ⟨hP.1, rfl, h.1⟩
  have k := c_isAhead (a := 48) (b := 57) hT hP2 (by decide) (by decide)
  rw [bi_t h2] at k
  refine ⟨upd (upd (upd (upd φ 2 (nI (p + 1))) 4 (nI (g p - 48))) 2 (nI (p + 1 + 1))) 4 (nI (10 * (g p - 48) + (g (p + 1) - 48))), ?_, ⟨hP.1, rfl, h2.1⟩, rfl, rfl⟩
  refine MetA.of2 k_X2_readCoins rfl (Nat.le_of_ble_eq_true rfl) rfl (B_X2_readCoins_0 ?_)
  refine ⟨_, _, c_readDigit_y hT hP h, fun m e => ?_⟩
  rw [e15, PSu] at e
  rw [e, e15]
  refine ⟨fun q => absurd q z, fun _ => ⟨_, _, k, fun q => absurd q (by decide), fun _ => ⟨_, _, c_readDigit_y hT hP2 h2, fun m2 e2 => ?_⟩⟩⟩
  rw [e15, e15, PSu] at e2
  have e3 : upd (upd φ 2 (nI (p + 1))) 4 (nI (g p - 48)) 4 * 10 + nI (g (p + 1) - 48) = nI (10 * (g p - 48) + (g (p + 1) - 48)) := by
    show nI (g p - 48) * 10 + _ = _
    rw [show (10 : Int32) = nI 10 from rfl, pk_mul, nI_add]
    congr 1
    omega
  rw [e3] at e2
  rw [e2, e15]
  exact ⟨fun q => absurd q z2, fun _ => rI_ok rfl rfl⟩
theorem nb01 (c : Bool) : narrow .boolean (.int (nI (if c then 1 else 0))) = .int (nI (if c then 1 else 0)) := by cases c <;> rfl
end SM
