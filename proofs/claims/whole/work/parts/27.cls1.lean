/-! words; sheets that come and go -/
def rl : Nat → Nat → Nat → Nat
  | 0, i, X => if X = 0 ∧ 3 ≤ i then i else 0
  | f + 1, i, X => if 1 ≤ X % 10 ∧ X % 10 ≤ 6 then rl f (i + 1) (X / 10) else if X = 0 ∧ 3 ≤ i then i else 0
def dg (W n k : Nat) : Nat := W / 10 ^ (n - 1 - k) % 10
theorem rl_ok : ∀ f i X, ¬ rl f i X = 0 → i ≤ rl f i X ∧ rl f i X ≤ i + f ∧ 3 ≤ rl f i X ∧ ∀ m, m < rl f i X - i → 1 ≤ X / 10 ^ m % 10 ∧ X / 10 ^ m % 10 ≤ 6
  | 0, i, X, h => by
    rw [rl] at h ⊢
    split at h
    · rename_i c
      rw [if_pos c]
      exact ⟨Nat.le_refl _, Nat.le_refl _, c.2, fun m hm => absurd hm (by omega)⟩
    · exact absurd rfl h
  | f + 1, i, X, h => by
    rw [rl] at h ⊢
    by_cases c : 1 ≤ X % 10 ∧ X % 10 ≤ 6
    · rw [if_pos c] at h ⊢
      obtain ⟨a1, a2, a3, a4⟩ := rl_ok f (i + 1) (X / 10) h
      refine ⟨by omega, by omega, a3, fun m hm => ?_⟩
      cases m with
      | zero => simpa using c
      | succ m =>
        have := a4 m (by omega)
        rw [Nat.div_div_eq_div_mul] at this
        rw [Nat.pow_succ, Nat.mul_comm]
        exact this
    · rw [if_neg c] at h ⊢
      split at h
      · rename_i c2
        rw [if_pos c2]
        exact ⟨Nat.le_refl _, by omega, c2.2, fun m hm => absurd hm (by omega)⟩
      · exact absurd rfl h
def sLet (w : Int32) : Nat := if w < 0 then 0 else rl 8 0 w.toNatClampNeg
theorem nI_rem {X : Nat} (h : X < 2 ^ 31) : nI X - nI X / 10 * 10 = nI (X % 10) := by
  rw [n10]
  exact pk_rem h (by decide) (by decide)
theorem nI_div {X : Nat} (h : X < 2 ^ 31) : nI X / 10 = nI (X / 10) := by
  rw [n10]
  exact pk_div h (by decide) (by decide)
theorem c_lettersIn_p {μ : Mem} {X0 : Nat} (h0 : X0 < 2 ^ 31) : MetA M_X5_lettersIn [aI (nI X0)] μ (rI (nI (rl 8 0 X0)) μ) := by
  refine MetA.of2 k_X5_lettersIn rfl (Nat.le_of_ble_eq_true rfl) rfl (B_X5_lettersIn_0 ?_)
  have key : ∀ f i X, i + f = 8 → X < 2 ^ 31 → AW M_X5_lettersIn 0 4 [some (aI (nI X0)), some (aI (nI X)), some (aI (nI i))] [] μ (rI (nI (rl f i X)) μ) := by
    intro f
    induction f with
    | zero =>
      intro i X hi hX
      refine B_X5_lettersIn_4 ?_
      rw [rl]
      simp (disch := omega) only [n0, n1, n2, n3, n4, n5, n6, n7, n8, n9, n10, n20, n99, nm1, nI_add, pk_mul, nI_clamp, nI_leI, nI_ltI, nI_eqI, vp_nI, pk_sub, nI_addneg, Nat.not_lt_zero, false_implies, not_false_eq_true, true_implies, true_and, and_true, Nat.le_refl, not_true_eq_false]
      refine ⟨fun _ => ⟨fun q => rI_ok (by rw [if_neg (by omega)]) rfl, fun q => ⟨fun q2 => absurd q2 (by omega), fun q2 => rI_ok (by rw [if_pos (by omega)]) rfl⟩⟩, fun q => absurd q (by omega)⟩
    | succ f ih =>
      intro i X hi hX
      refine B_X5_lettersIn_4 ?_
      have h10 : X % 10 < 10 := Nat.mod_lt _ (by decide)
      have hd : X / 10 < 2 ^ 31 := by omega
      have ih' := ih (i + 1) (X / 10) (by omega) hd
      rw [nI_rem hX, nI_div hX]
      rw [rl]
      simp (disch := omega) only [n0, n1, n2, n3, n4, n5, n6, n7, n8, n9, n10, n20, n99, nm1, nI_add, pk_mul, nI_clamp, nI_leI, nI_ltI, nI_eqI, vp_nI, pk_sub, nI_addneg, Nat.not_lt_zero, false_implies, not_false_eq_true, true_implies, true_and, and_true, Nat.le_refl, not_true_eq_false]
      refine ⟨fun q => absurd q (by omega), fun _ => ⟨fun q => ?_, fun q => ⟨fun q2 => ?_, fun q2 => ?_⟩⟩⟩
      · rw [if_neg (by omega)]
        exact ⟨fun q3 => rI_ok (by rw [if_neg (by omega)]) rfl, fun q3 => ⟨fun q4 => rI_ok (by rw [if_neg (by omega)]) rfl, fun q4 => rI_ok (by rw [if_pos (by omega)]) rfl⟩⟩
      · rw [if_neg (by omega)]
        exact ⟨fun q3 => rI_ok (by rw [if_neg (by omega)]) rfl, fun q3 => ⟨fun q4 => rI_ok (by rw [if_neg (by omega)]) rfl, fun q4 => rI_ok (by rw [if_pos (by omega)]) rfl⟩⟩
      · rw [if_pos (by omega)]
        exact ih'
  exact key 8 0 X0 rfl h0
theorem rem_neg {a : Int32} (h : a < 0) : a - a / 10 * 10 < 1 := by
  rw [irem_eq_mod, Int32.lt_iff_toInt_lt, Int32.toInt_mod]
  have h1 : a.toInt < 0 := by
    have := Int32.lt_iff_toInt_lt.mp h
    simpa using this
  have h2 : a.toInt.tmod 10 ≤ 0 := by
    have h3 := Int.tmod_nonneg (a := -a.toInt) 10 (by omega)
    rw [Int.neg_tmod] at h3
    omega
  show a.toInt.tmod 10 < 1
  omega
theorem c_lettersIn_n {μ : Mem} {a : Int32} (h : a < 0) : MetA M_X5_lettersIn [aI a] μ (rI (nI 0) μ) := by
  have h0 : ¬ a = 0 := by
    intro q
    subst q
    exact absurd h (by decide)
  refine MetA.of2 k_X5_lettersIn rfl (Nat.le_of_ble_eq_true rfl) rfl (B_X5_lettersIn_0 ?_)
  refine B_X5_lettersIn_4 ?_
  refine ⟨fun q => absurd q (by decide), fun _ => ⟨fun _ => ⟨fun _ => rI_ok rfl rfl, fun q => absurd q h0⟩, fun q => absurd (rem_neg h) q⟩⟩
theorem c_lettersIn {μ : Mem} {a : Int32} : MetA M_X5_lettersIn [aI a] μ (rI (nI (sLet a)) μ) := by
  unfold sLet
  by_cases h : a < 0
  · rw [if_pos h]
    exact c_lettersIn_n h
  · rw [if_neg h]
    obtain ⟨X, hX, rfl⟩ := nI_of h
    rw [nI_clamp hX]
    exact c_lettersIn_p hX
section SE
variable {μ : Mem} {j : Nat} {A : SP} {s k h v : Nat}
theorem c_putLetter_raw {x : Int32} (hj : j < 12) (hs : s < 8) (hk : k < 8) : MetA M_X4_putLetter [aR 0 j, aI (nI s), aI (nI k), aI x] μ (rV (mset (mset μ 7 j (upd (μ 7 j) (s * 8 + k) x)) 8 j (upd (μ 8 j) (s * 8 + k) (if x = μ 6 j (s * 8 + k) then 0 else 1)))) := by
  have hv0 : vp_in (nI s * 8 + nI k) 64 := by simp (disch := omega) only [n0, n1, n2, n3, n4, n5, n6, n7, n8, n9, n10, n20, n99, nm1, nI_add, pk_mul, nI_clamp, nI_leI, nI_ltI, nI_eqI, vp_nI, pk_sub, nI_addneg, Nat.not_lt_zero, false_implies, not_false_eq_true, true_implies, true_and, and_true, Nat.le_refl, not_true_eq_false]
  have hc : (nI s * 8 + nI k).toNatClampNeg = s * 8 + k := by simp (disch := omega) only [n0, n1, n2, n3, n4, n5, n6, n7, n8, n9, n10, n20, n99, nm1, nI_add, pk_mul, nI_clamp, nI_leI, nI_ltI, nI_eqI, vp_nI, pk_sub, nI_addneg, Nat.not_lt_zero, false_implies, not_false_eq_true, true_implies, true_and, and_true, Nat.le_refl, not_true_eq_false]
  refine MetA.of2 k_X4_putLetter rfl (Nat.le_of_ble_eq_true rfl) rfl (B_X4_putLetter_0 hj ?_)
  rw [hc]
  refine ⟨hv0, fun m1 e1 => ⟨hv0, ?_⟩⟩
  subst e1
  rw [mset_t (by decide), mset_t (by decide)]
  refine ⟨fun q => ⟨hv0, fun m2 e2 => rV_ok ?_⟩, fun q => ⟨hv0, fun m2 e2 => rV_ok ?_⟩⟩
  · rw [e2, if_neg q]
  · rw [e2, if_pos q]
/-- memory while a sheet's letters are laid, from the last to the first -/
def layM (μ : Mem) (j S n W : Nat) : Nat → Mem
  | 0 => μ
  | i + 1 => mset (mset (mset (layM μ j S n W i) 6 j (upd (layM μ j S n W i 6 j) (S * 8 + (n - 1 - i)) (nI (W / 10 ^ i % 10)))) 7 j (upd (layM μ j S n W i 7 j) (S * 8 + (n - 1 - i)) (nI (W / 10 ^ i % 10)))) 8 j (upd (layM μ j S n W i 8 j) (S * 8 + (n - 1 - i)) 0)
theorem layM_t {S n W : Nat} {t o : Nat} (h : ¬ (t = 6 ∨ t = 7 ∨ t = 8) ∨ o ≠ j) : ∀ i, layM μ j S n W i t o = μ t o
  | 0 => rfl
  | i + 1 => by rw [layM, mset_n (by omega), mset_n (by omega), mset_n (by omega)]; exact layM_t h i
theorem layM_at {μ : Mem} {j S n W : Nat} (hn : n ≤ 8) (i : Nat) : i ≤ n → (∀ k, n - i ≤ k → k < n → layM μ j S n W i 6 j (S * 8 + k) = nI (dg W n k) ∧ layM μ j S n W i 7 j (S * 8 + k) = nI (dg W n k) ∧ layM μ j S n W i 8 j (S * 8 + k) = nI 0) ∧ ∀ x, x < S * 8 → layM μ j S n W i 6 j x = μ 6 j x ∧ layM μ j S n W i 7 j x = μ 7 j x ∧ layM μ j S n W i 8 j x = μ 8 j x := by
  induction i with
  | zero => exact fun _ => ⟨fun k h1 h2 => absurd h2 (by omega), fun x _ => ⟨rfl, rfl, rfl⟩⟩
  | succ i ih =>
    intro hi
    obtain ⟨h1, h2⟩ := ih (by omega)
    refine ⟨fun k h3 h4 => ?_, fun x hx => ?_⟩
    · rw [layM]
      simp only [mget, uget]
      by_cases e : k = n - 1 - i
      · subst e
        simp only [dg]
        rw [show n - 1 - (n - 1 - i) = i by omega]
        simp [uget]
        rfl
      · have := h1 k (by omega) h4
        simp [uget, show ¬ k = n - 1 - i from e, this]
    · rw [layM]
      simp only [mget, uget]
      have := h2 x hx
      simp [uget, show ¬ x = S * 8 + (n - 1 - i) by omega, this]
theorem c_appendSheet {W n : Nat} (hj : j < 12) (R : RC μ j A) (hh : h < sH A) (hS : sS A < 8) (hW : W < 2 ^ 31) (hn : 3 ≤ n ∧ n ≤ 8) (hd : ∀ m, m < n → 1 ≤ W / 10 ^ m % 10 ∧ W / 10 ^ m % 10 ≤ 6) : ∃ μ', MetA M_X4_appendSheet [aR 0 j, aI (nI h), aI (nI W), aI (nI n)] μ (rI (nI (sS A)) μ') ∧ RC μ' j (oAddS A h n (dg W n)) ∧ Fr j μ μ' := by
  have hv : vp_in (nI (sS A)) 8 := vp_in_nI hS (by omega)
  obtain ⟨m0, em0⟩ : ∃ m : Mem, m = mset (mset μ 4 j (upd (μ 4 j) (sS A) (nI h))) 5 j (upd (μ 5 j) (sS A) (nI n)) := ⟨_, rfl⟩
  have F0 : Fr j μ m0 := by
    intro t o h
    rw [em0, mset_n (by omega), mset_n (by omega)]
  have q0 : ∀ i, layM m0 j (sS A) n W i 0 j = μ 0 j := by
    intro i
    rw [layM_t (by omega), em0, mset_t (by decide), mset_t (by decide)]
  refine ⟨mset (layM m0 j (sS A) n W n) 0 j (upd (μ 0 j) 1 (nI (sS A + 1))), ?_, ?_, ?_⟩
  · refine MetA.of2 k_X4_appendSheet rfl (Nat.le_of_ble_eq_true rfl) rfl (B_X4_appendSheet_0 hj ?_)
    rw [R.S]
    refine ⟨hv, fun m1 e1 => ?_⟩
    have q1 : m1 0 j 1 = nI (sS A) := by rw [e1, mset_t (by decide)]; exact R.S
    rw [q1]
    refine ⟨hv, fun m2 e2 => ?_⟩
    rw [nI_clamp (by omega)] at e1 e2
    have e3 : m2 = m0 := by
      rw [em0, e2, e1]
      rfl
    subst e3
    rw [show (1 : Int32) = nI 1 from rfl, pk_sub (by omega)]
    have key : ∀ i, i ≤ n → ∀ a5 : Int32, (if i < n then a5 = nI (n - 1 - i) else a5 = -1) → AW M_X4_appendSheet 0 28 [some (aR 0 j), some (aI (nI h)), some (aI (nI W)), some (aI (nI n)), some (aI (nI (W / 10 ^ i))), some (aI a5)] [] (layM m2 j (sS A) n W i) (rI (nI (sS A)) (mset (layM m2 j (sS A) n W n) 0 j (upd (μ 0 j) 1 (nI (sS A + 1))))) := by
      intro i hi
      have hz : ∀ d i, i + d = n → ∀ a5 : Int32, (if i < n then a5 = nI (n - 1 - i) else a5 = -1) → AW M_X4_appendSheet 0 28 [some (aR 0 j), some (aI (nI h)), some (aI (nI W)), some (aI (nI n)), some (aI (nI (W / 10 ^ i))), some (aI a5)] [] (layM m2 j (sS A) n W i) (rI (nI (sS A)) (mset (layM m2 j (sS A) n W n) 0 j (upd (μ 0 j) 1 (nI (sS A + 1))))) := by
        intro d
        induction d with
        | zero =>
          intro i hin a5 ha
          rw [if_neg (by omega)] at ha
          subst ha
          obtain rfl : i = n := by omega
          refine B_X4_appendSheet_28 hj ?_
          refine ⟨fun _ m4 e4 => ?_, fun q => absurd (by decide) q⟩
          rw [q0, show μ 0 j 1 = nI (sS A) from R.S, show (1 : Int32) = nI 1 from rfl, nI_add] at e4
          rw [e4, mset_s, uget, if_pos rfl]
          refine rI_ok ?_ rfl
          simp (disch := omega) only [n0, n1, n2, n3, n4, n5, n6, n7, n8, n9, n10, n20, n99, nm1, nI_add, pk_mul, nI_clamp, nI_leI, nI_ltI, nI_eqI, vp_nI, pk_sub, nI_addneg, Nat.not_lt_zero, false_implies, not_false_eq_true, true_implies, true_and, and_true, Nat.le_refl, not_true_eq_false]
          rfl
        | succ d ih =>
          intro i hin a5 ha
          rw [if_pos (by omega)] at ha
          subst ha
          have hX : W / 10 ^ i < 2 ^ 31 := Nat.lt_of_le_of_lt (Nat.div_le_self _ _) hW
          refine B_X4_appendSheet_28 hj ?_
          have hS2 : layM m2 j (sS A) n W i 0 j 1 = nI (sS A) := by rw [q0]; exact R.S
          have hv3 : vp_in (nI (sS A) * 8 + nI (n - 1 - i)) 64 := by simp (disch := omega) only [n0, n1, n2, n3, n4, n5, n6, n7, n8, n9, n10, n20, n99, nm1, nI_add, pk_mul, nI_clamp, nI_leI, nI_ltI, nI_eqI, vp_nI, pk_sub, nI_addneg, Nat.not_lt_zero, false_implies, not_false_eq_true, true_implies, true_and, and_true, Nat.le_refl, not_true_eq_false]
          have hc3 : (nI (sS A) * 8 + nI (n - 1 - i)).toNatClampNeg = sS A * 8 + (n - 1 - i) := by simp (disch := omega) only [n0, n1, n2, n3, n4, n5, n6, n7, n8, n9, n10, n20, n99, nm1, nI_add, pk_mul, nI_clamp, nI_leI, nI_ltI, nI_eqI, vp_nI, pk_sub, nI_addneg, Nat.not_lt_zero, false_implies, not_false_eq_true, true_implies, true_and, and_true, Nat.le_refl, not_true_eq_false]
          rw [hS2, hc3, nI_rem hX, nI_div hX]
          refine ⟨fun q => absurd q (nI_pos (by omega)), fun _ => ⟨hv3, fun m7 e7 => ?_⟩⟩
          have h7 : m7 0 j 1 = nI (sS A) := by rw [e7, mset_t (by decide)]; exact hS2
          rw [h7]
          refine ⟨_, c_putLetter_raw hj hS (by omega), ?_⟩
          have e8 : mset (mset m7 7 j (upd (m7 7 j) (sS A * 8 + (n - 1 - i)) (nI (W / 10 ^ i % 10)))) 8 j (upd (m7 8 j) (sS A * 8 + (n - 1 - i)) (if nI (W / 10 ^ i % 10) = m7 6 j (sS A * 8 + (n - 1 - i)) then 0 else 1)) = layM m2 j (sS A) n W (i + 1) := by
            rw [layM, e7]
            rw [mset_t (show (7 : Nat) ≠ 6 by decide), mset_t (show (8 : Nat) ≠ 6 by decide), mset_s, uget, if_pos rfl, if_pos rfl]
          rw [e8, Nat.div_div_eq_div_mul, ← Nat.pow_succ]
          refine ih (i + 1) (by omega) _ ?_
          by_cases c : i + 1 < n
          · rw [if_pos c, show n - 1 - i = (n - 1 - (i + 1)) + 1 by omega]
            exact pk_m1 _
          · rw [if_neg c, show n - 1 - i = 0 by omega]
            rfl
      exact hz (n - i) i (by omega)
    have := key 0 (by omega) (nI (n - 1)) (by rw [if_pos (by omega)]; rfl)
    rw [Nat.pow_zero, Nat.div_one] at this
    exact this
  · obtain ⟨W0, ⟨R1, R2, R3, R4⟩, R5, R6, R7⟩ := R
    have qt : ∀ t, ¬ (t = 6 ∨ t = 7 ∨ t = 8) → t ≠ 0 → mset (layM m0 j (sS A) n W n) 0 j (upd (μ 0 j) 1 (nI (sS A + 1))) t j = m0 t j := by
      intro t ht h0
      rw [mset_t h0, layM_t (Or.inl ht)]
    refine ⟨⟨⟨W0.1.1, by show sS A + 1 ≤ 8; omega, W0.1.2.2⟩, W0.2.1, fun a ha => ?_, W0.2.2.2⟩, ⟨?_, by rw [mset_s]; rfl, ?_, fun k hk => ?_⟩, fun i hi => ?_, fun a ha => ?_, fun r hr => ?_⟩
    · have ha2 : a < sS A + 1 := ha
      show va_up (sOw A) (sS A) h a < sH A ∧ 3 ≤ va_up (sLn A) (sS A) n a ∧ va_up (sLn A) (sS A) n a ≤ 8 ∧ ∀ k, k < va_up (sLn A) (sS A) n a → (1 ≤ va_up (sRt A) (sS A) (dg W n) a k ∧ va_up (sRt A) (sS A) (dg W n) a k ≤ 6) ∧ (1 ≤ va_up (sPl A) (sS A) (dg W n) a k ∧ va_up (sPl A) (sS A) (dg W n) a k ≤ 6) ∧ va_up (sLv A) (sS A) (fun _ => 0) a k ≤ 3 ∧ (va_up (sLv A) (sS A) (fun _ => 0) a k = 0 ↔ va_up (sPl A) (sS A) (dg W n) a k = va_up (sRt A) (sS A) (dg W n) a k)
      simp only [vget]
      by_cases e : a = sS A
      · simp only [if_pos e]
        refine ⟨hh, hn.1, hn.2, fun k hk => ?_⟩
        have := hd (n - 1 - k) (by omega)
        refine ⟨this, this, by omega, trivial⟩
      · simp only [if_neg e]
        exact W0.2.2.1 a (by omega)
    · rw [mset_s, uget, if_neg (by omega)]; exact R1
    · rw [mset_s, uget, if_neg (by omega)]; exact R3
    · rw [mset_s, uget, if_neg (by omega)]; exact R4 k hk
    · rw [qt 1 (by omega) (by omega), qt 2 (by omega) (by omega), qt 3 (by omega) (by omega), em0, mset_t (by decide), mset_t (by decide), mset_t (by decide), mset_t (by decide), mset_t (by decide), mset_t (by decide)]
      exact R5 i hi
    · have ha2 : a < sS A + 1 := ha
      obtain ⟨L1, L2⟩ := layM_at (μ := m0) (j := j) (S := sS A) (W := W) hn.2 n (Nat.le_refl _)
      rw [qt 4 (by omega) (by omega), qt 5 (by omega) (by omega), em0, mset_t (by decide), mset_s, mset_s, uget, uget, ← em0]
      show _ = nI (va_up (sOw A) (sS A) h a) ∧ _ = nI (va_up (sLn A) (sS A) n a) ∧ ∀ k, k < va_up (sLn A) (sS A) n a → _ = nI (va_up (sRt A) (sS A) (dg W n) a k) ∧ _ = nI (va_up (sPl A) (sS A) (dg W n) a k) ∧ _ = nI (va_up (sLv A) (sS A) (fun _ => 0) a k)
      simp only [vget]
      by_cases e : a = sS A
      · simp only [if_pos e]
        subst e
        refine ⟨trivial, trivial, fun k hk => ?_⟩
        obtain ⟨x1, x2, x3⟩ := L1 k (by omega) hk
        rw [mset_t (by decide), mset_t (by decide), mset_t (by decide)]
        exact ⟨x1, x2, x3⟩
      · simp only [if_neg e]
        obtain ⟨y1, y2, y3⟩ := R6 a (by omega)
        refine ⟨y1, y2, fun k hk => ?_⟩
        have wl := W0.ln (show a < sS A by omega)
        obtain ⟨x1, x2, x3⟩ := L2 (a * 8 + k) (by omega)
        rw [mset_t (by decide), mset_t (by decide), mset_t (by decide), x1, x2, x3, em0]
        simp only [mget]
        exact y3 k hk
    · rw [qt 9 (by omega) (by omega), qt 10 (by omega) (by omega), em0, mset_t (by decide), mset_t (by decide), mset_t (by decide), mset_t (by decide)]
      exact R7 r hr
  · intro t o h
    rw [mset_n (by omega)]
    by_cases c : o = j
    · rw [layM_t (by omega)]
      exact F0 t o h
    · rw [layM_t (Or.inr c)]
      exact F0 t o h
end SE
