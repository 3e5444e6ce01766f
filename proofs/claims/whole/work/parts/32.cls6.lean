/-! lines -/
abbrev LT : Type := Nat × (Nat → Int32)
def wp (L : LT) (q : Nat) : LT := (L.1 + 1, va_up L.2 L.1 (nI q))
def wN (L : LT) (n : Nat) : LT := if n < 10 then wp L (48 + n % 10) else wp (wp L (48 + n / 10)) (48 + n % 10)
def lPl (A : SP) (s k : Nat) (L : LT) : LT := if sLv A s k = 2 then wp (wp L ((if sLv A s k = 0 then 96 else 64) + sPl A s k)) 39 else if sLv A s k = 3 then wp (wp L ((if sLv A s k = 0 then 96 else 64) + sPl A s k)) 33 else wp L ((if sLv A s k = 0 then 96 else 64) + sPl A s k)
def lK (A : SP) (s : Nat) (L : LT) : Nat → LT
  | 0 => L
  | k + 1 => lPl A s k (lK A s L k)
def lineT (A : SP) (s : Nat) (f : Nat → Int32) : LT := lK A s (wp (wN (0, f) (sOw A s)) 58) (sLn A s)
def hlT (A : SP) (h : Nat) (f : Nat → Int32) : LT := if 20 < sSh A h then wp (wN (wp (wN (wp (wN (0, f) h) 36) (sCn A h)) 126) (sSh A h)) 42 else wN (wp (wN (wp (wN (0, f) h) 36) (sCn A h)) 126) (sSh A h)
theorem wp1 (L : LT) (q : Nat) : (wp L q).1 = L.1 + 1 := rfl
theorem wN1 (L : LT) (n : Nat) : L.1 + 1 ≤ (wN L n).1 ∧ (wN L n).1 ≤ L.1 + 2 ∧ (n < 10 → (wN L n).1 = L.1 + 1) := by
  unfold wN
  split
  · exact ⟨Nat.le_refl _, Nat.le_succ _, fun _ => rfl⟩
  · exact ⟨Nat.le_succ _, Nat.le_refl _, fun q => absurd q (by assumption)⟩
theorem lPl1 (A : SP) (s k : Nat) (L : LT) : L.1 + 1 ≤ (lPl A s k L).1 ∧ (lPl A s k L).1 ≤ L.1 + 2 := by
  unfold lPl
  split
  · exact ⟨Nat.le_succ _, Nat.le_refl _⟩
  · split
    · exact ⟨Nat.le_succ _, Nat.le_refl _⟩
    · exact ⟨Nat.le_refl _, Nat.le_succ _⟩
theorem lK1 (A : SP) (s : Nat) (L : LT) : ∀ k, (lK A s L k).1 ≤ L.1 + 2 * k
  | 0 => Nat.le_refl _
  | k + 1 => by
    have h1 := lK1 A s L k
    have h2 := lPl1 A s k (lK A s L k)
    rw [lK]
    omega
theorem hlT_le {A : SP} {h : Nat} {f : Nat → Int32} (hh : h < 10) : (hlT A h f).1 ≤ 8 := by
  have a1 := wN1 (0, f) h
  have a2 := wN1 (wp (wN (0, f) h) 36) (sCn A h)
  have a3 := wN1 (wp (wN (wp (wN (0, f) h) 36) (sCn A h)) 126) (sSh A h)
  have e1 : ((0, f) : LT).1 = 0 := rfl
  unfold hlT
  split <;> simp only [wp1] at * <;> omega
def Wr (μ μ' : Mem) : Prop := ∀ t o, ¬ (t = 17 ∧ o = 0) → ¬ (t = 18 ∧ o = 0) → μ' t o = μ t o
theorem Wr.rf {μ : Mem} : Wr μ μ := fun _ _ _ _ => rfl
theorem Wr.tr {μ μ1 μ2 : Mem} (h1 : Wr μ μ1) (h2 : Wr μ1 μ2) : Wr μ μ2 := fun t o a b => (h2 t o a b).trans (h1 t o a b)
theorem Wr.cl {μ μ' : Mem} (h : Wr μ μ') : Cl μ μ' := fun t ht => by
  funext o
  exact h t o (by omega) (by omega)
def setL (T : TT) (L : LT) : TT := (T.1, T.2.1, T.2.2.1, T.2.2.2.1, T.2.2.2.2.1, T.2.2.2.2.2.1, L)
theorem TC.wr {μ μ' : Mem} {T : TT} {L : LT} (H : TC μ T) (w : Wr μ μ') (h : LC μ' L.1 L.2) : TC μ' (setL T L) := by
  obtain ⟨a, b, c, d, e, f, g⟩ := H
  exact ⟨RC.mv (fun t ht => w t 0 (by omega) (by omega)) a, HC.mv (w _ _ (by omega) (by omega)) (fun t j ht hj => w t j (by omega) (by omega)) b, ZC.mv (by rw [w 11 0 (by omega) (by omega)]) (fun t ht => w t 3 (by omega) (by omega)) c, FC.mv (w _ _ (by omega) (by omega)) d, IC.mv (by rw [w 15 0 (by omega) (by omega)]) (w _ _ (by omega) (by omega)) e, by rw [w 11 0 (by omega) (by omega)]; exact f, h⟩
theorem Wr.RC {μ μ' : Mem} {j : Nat} {A : SP} (w : Wr μ μ') (R : RC μ j A) : RC μ' j A := RC.mv (fun t ht => w t j (by omega) (by omega)) R
theorem LC.z {μ : Mem} {f : Nat → Int32} : LC (mset μ 17 0 (upd (μ 17 0) 1 0)) 0 f := ⟨by omega, by rw [mset_s]; rfl, fun i hi => absurd hi (by omega)⟩
section SK
variable {μ : Mem} {A : SP} {T : TT} {L : LT}
theorem c_put {q : Nat} (H : LC μ L.1 L.2) (hq : q < 65536) (hn : L.1 < 18) : ∃ μ', MetA M_X1_put [aR 17 0, aI (nI q)] μ (rV μ') ∧ LC μ' (wp L q).1 (wp L q).2 ∧ Wr μ μ' := by
  obtain ⟨h1, h2, h3⟩ := H
  refine ⟨mset (mset μ 18 0 (upd (μ 18 0) L.1 (nI q))) 17 0 (upd (μ 17 0) 1 (nI (L.1 + 1))), ?_, ⟨hn, by rw [mset_s]; rfl, fun i hi => ?_⟩, fun t o a b => by rw [mset_n a, mset_n b]⟩
  · refine MetA.of2 k_X1_put rfl (Nat.le_of_ble_eq_true rfl) rfl (B_X1_put_0 ?_)
    rw [h2, nI_clamp (by omega), nar_ok hq]
    refine ⟨fun z => absurd (show nI 18 ≤ _ from z) (nI_ge hn (by omega)), fun _ => ⟨vp_in_nI (by omega) (by omega), fun m e m' e' => rV_ok ?_⟩⟩
    rw [e', e, mset_t (show (17 : Nat) ≠ 18 by decide), h2, show (1 : Int32) = nI 1 from rfl, nI_add]
  · rw [mset_t (show (18 : Nat) ≠ 17 by decide), mset_s]
    show upd _ _ _ i = va_up _ _ _ i ∧ narrow .char (.int (va_up _ _ _ i)) = .int (va_up _ _ _ i)
    rw [uget, vget]
    by_cases c : i = L.1
    · rw [if_pos c, if_pos c]
      exact ⟨rfl, (pk_charN hq).1⟩
    · rw [if_neg c, if_neg c]
      have hi' : i < L.1 + 1 := hi
      exact h3 i (by omega)
theorem c_putNumber {n : Nat} (H : LC μ L.1 L.2) (hq : n ≤ 99) (hn : L.1 + 2 ≤ 18) : ∃ μ', MetA M_X1_putNumber [aR 17 0, aI (nI n)] μ (rV μ') ∧ LC μ' (wN L n).1 (wN L n).2 ∧ Wr μ μ' := by
  have e1 : (48 + (nI n - nI n / 10 * 10)).toUInt32 % 65536 = (nI (48 + n % 10)).toUInt32 % 65536 := by rw [nI_rem (by omega), show (48 : Int32) = nI 48 from rfl, nI_add]
  have e2 : (48 + (nI n / 10)).toUInt32 % 65536 = (nI (48 + n / 10)).toUInt32 % 65536 := by rw [nI_div (by omega), show (48 : Int32) = nI 48 from rfl, nI_add]
  unfold wN
  by_cases c : n < 10
  · rw [if_pos c]
    obtain ⟨m, a1, a2, a3⟩ := c_put (q := 48 + n % 10) H (by omega) (by omega)
    refine ⟨m, ?_, a2, a3⟩
    refine MetA.of2 k_X1_putNumber rfl (Nat.le_of_ble_eq_true rfl) rfl (B_X1_putNumber_0 ?_)
    rw [e1, e2, chr (by omega), chr (by omega)]
    exact ⟨fun _ => ⟨_, a1, rV_ok rfl⟩, fun q => absurd ((nI_ltI (by omega) (by decide)).mpr c) q⟩
  · rw [if_neg c]
    obtain ⟨m, a1, a2, a3⟩ := c_put (q := 48 + n / 10) H (by omega) (by omega)
    obtain ⟨m2, b1, b2, b3⟩ := c_put (q := 48 + n % 10) a2 (by omega) (by rw [wp1]; omega)
    refine ⟨m2, ?_, b2, a3.tr b3⟩
    refine MetA.of2 k_X1_putNumber rfl (Nat.le_of_ble_eq_true rfl) rfl (B_X1_putNumber_0 ?_)
    rw [e1, e2, chr (by omega), chr (by omega)]
    exact ⟨fun q => absurd ((nI_ltI (by omega) (by decide)).mp q) c, fun _ => ⟨_, a1, _, b1, rV_ok rfl⟩⟩
theorem c_writePlace {s k : Nat} (R : RC μ 0 A) (H : LC μ L.1 L.2) (hs : s < sS A) (hk : k < sLn A s) (hn : L.1 + 2 ≤ 18) : ∃ μ', MetA M_X5_writePlace [aR 11 0, aI (nI s), aI (nI k)] μ (rV μ') ∧ LC μ' (lPl A s k L).1 (lPl A s k L).2 ∧ Wr μ μ' := by
  have w1 := R.W.pl hs hk
  have w2 := R.W.lv hs hk
  have g1 := c_levelAt (by decide) R hs hk
  have g2 := c_placedAt (by decide) R hs hk
  have g3 := c_letterOf (μ := μ) w1
  have e : ((nI (96 + sPl A s k) - 97 + 65).toUInt32 % 65536).toInt32 = nI (64 + sPl A s k) := by
    rw [show (97 : Int32) = nI 97 from rfl, pk_sub (by omega), show (65 : Int32) = nI 65 from rfl, nI_add, chr (by omega)]
    congr 1
    omega
  have z0 : (nI (sLv A s k) = 0) = (sLv A s k = 0) := by rw [n0, nI_eqI (by omega) (by decide)]
  have z2 : (nI (sLv A s k) = 2) = (sLv A s k = 2) := by rw [n2, nI_eqI (by omega) (by decide)]
  have z3 : (nI (sLv A s k) = 3) = (sLv A s k = 3) := by rw [n3, nI_eqI (by omega) (by decide)]
  obtain ⟨m, a1, a2, a3⟩ := c_put (q := (if sLv A s k = 0 then 96 else 64) + sPl A s k) H (by split <;> omega) (by omega)
  obtain ⟨m2, b1, b2, b3⟩ := c_put (q := 39) a2 (by omega) (by rw [wp1]; omega)
  obtain ⟨m3, d1, d2, d3⟩ := c_put (q := 33) a2 (by omega) (by rw [wp1]; omega)
  unfold lPl
  by_cases c2 : sLv A s k = 2
  · rw [if_pos c2]
    refine ⟨m2, ?_, b2, a3.tr b3⟩
    refine MetA.of2 k_X5_writePlace rfl (Nat.le_of_ble_eq_true rfl) rfl (B_X5_writePlace_0 ?_)
    rw [if_neg (by omega)] at a1
    refine ⟨_, _, g1, _, _, g2, _, _, g3, ?_⟩
    rw [e, z0, z2, z3]
    exact ⟨fun _ => ⟨_, a1, fun q => absurd c2 q, fun _ => ⟨_, b1, fun _ => rV_ok rfl, fun q => absurd q (by omega)⟩⟩, fun q => absurd q (by omega)⟩
  · rw [if_neg c2]
    by_cases c3 : sLv A s k = 3
    · rw [if_pos c3]
      refine ⟨m3, ?_, d2, a3.tr d3⟩
      refine MetA.of2 k_X5_writePlace rfl (Nat.le_of_ble_eq_true rfl) rfl (B_X5_writePlace_0 ?_)
      rw [if_neg (by omega)] at a1
      refine ⟨_, _, g1, _, _, g2, _, _, g3, ?_⟩
      rw [e, z0, z2, z3]
      exact ⟨fun _ => ⟨_, a1, fun _ => ⟨fun q => absurd c3 q, fun _ => ⟨_, d1, rV_ok rfl⟩⟩, fun q => absurd q c2⟩, fun q => absurd q (by omega)⟩
    · rw [if_neg c3]
      refine ⟨m, ?_, a2, a3⟩
      refine MetA.of2 k_X5_writePlace rfl (Nat.le_of_ble_eq_true rfl) rfl (B_X5_writePlace_0 ?_)
      refine ⟨_, _, g1, _, _, g2, _, _, g3, ?_⟩
      rw [e, z0, z2, z3]
      by_cases c0 : sLv A s k = 0
      · rw [if_pos c0] at a1
        exact ⟨fun q => absurd c0 q, fun _ => ⟨_, a1, fun _ => ⟨fun _ => rV_ok rfl, fun q => absurd q c3⟩, fun q => absurd q c2⟩⟩
      · rw [if_neg c0] at a1
        exact ⟨fun _ => ⟨_, a1, fun _ => ⟨fun _ => rV_ok rfl, fun q => absurd q c3⟩, fun q => absurd q c2⟩, fun q => absurd q c0⟩
def qLi (T : TT) (a : Int32) : AN × TT := if a < 0 ∨ nI (sS (tA T)) ≤ a then (.inr 0, T) else (.inl (nI (lineT (tA T) a.toNatClampNeg (tLf T)).1), setL T (lineT (tA T) a.toNatClampNeg (tLf T)))
def qHl (T : TT) (a : Int32) : AN × TT := if a < 0 ∨ nI (sH (tA T)) ≤ a then (.inr 0, T) else (.inl (nI (hlT (tA T) a.toNatClampNeg (tLf T)).1), setL T (hlT (tA T) a.toNatClampNeg (tLf T)))
theorem Wr.z {μ : Mem} {f : Nat → Int32} : Wr μ (mset μ 17 0 f) := fun t o a b => mset_n a
theorem p_line {a : Int32} (H : TC μ T) : CK M_X5_line [aI a] μ (qLi T a).1 (qLi T a).2 := by
  have w := H.1.W.sm
  have w0 := H.1.W.hm
  unfold qLi
  rcases ss_or H.1.W a with c1 | ⟨s, hs, rfl⟩
  · rw [if_pos c1]
    refine CK.rd H ?_
    refine MetA.of2 k_X5_line rfl (Nat.le_of_ble_eq_true rfl) rfl (B_X5_line_0 ?_)
    exact ⟨_, _, c_hasSheet_n (by decide) H.1 c1, fun q => absurd rfl q, fun _ => rX_ok rfl⟩
  · rw [if_neg (in_no hs (by omega)), nI_clamp (by omega)]
    have w1 := H.1.W.ow hs
    have w2 := H.1.W.ln hs
    have hv : vp_in (nI s) 8 := vp_in_nI (by omega) (by omega)
    have z1 := Wr.z (μ := μ) (f := upd (μ 17 0) 1 0)
    obtain ⟨m1, a1, a2, a3⟩ := c_putNumber (L := (0, tLf T)) (n := sOw (tA T) s) (LC.z (μ := μ) (f := tLf T)) (by omega) (by show 0 + 2 ≤ 18; omega)
    have l1 := (wN1 (0, tLf T) (sOw (tA T) s)).2.2 (by omega)
    have l1' : (wN (0, tLf T) (sOw (tA T) s)).1 = 1 := l1
    obtain ⟨m2, b1, b2, b3⟩ := c_put (q := 58) a2 (by omega) (by omega)
    have key : ∃ m, LC m (lineT (tA T) s (tLf T)).1 (lineT (tA T) s (tLf T)).2 ∧ Wr μ m ∧ ∀ P, AW M_X5_line 0 56 [some (aR 11 0), some (aI (nI s)), some (aI (nI (sLn (tA T) s)))] [] m P → AW M_X5_line 0 56 [some (aR 11 0), some (aI (nI s)), some (aI 0)] [] m2 P := by
      refine loopF (sLn (tA T) s) (fun k => ∃ m, LC m (lK (tA T) s (wp (wN (0, tLf T) (sOw (tA T) s)) 58) k).1 (lK (tA T) s (wp (wN (0, tLf T) (sOw (tA T) s)) 58) k).2 ∧ Wr μ m ∧ ∀ P, AW M_X5_line 0 56 [some (aR 11 0), some (aI (nI s)), some (aI (nI k))] [] m P → AW M_X5_line 0 56 [some (aR 11 0), some (aI (nI s)), some (aI 0)] [] m2 P) ⟨m2, b2, z1.tr (a3.tr b3), fun P h => h⟩ ?_
      intro k hk ⟨m, Lm, Wm, hm⟩
      have l2 := lK1 (tA T) s (wp (wN (0, tLf T) (sOw (tA T) s)) 58) k
      rw [wp1, l1'] at l2
      obtain ⟨m3, d1, d2, d3⟩ := c_writePlace (k := k) (Wm.RC H.1) Lm hs hk (by omega)
      refine ⟨m3, d2, Wm.tr d3, fun P h => hm P (B_X5_line_56 ?_)⟩
      rw [nI_clamp (show s < 2 ^ 31 by omega), (Wm.RC H.1).ln hs]
      refine ⟨hv, fun q => absurd q (nI_ge hk (by omega)), fun _ => ⟨_, d1, ?_⟩⟩
      rw [show (1 : Int32) = nI 1 from rfl, nI_add]
      exact h
    obtain ⟨m, Lm, Wm, hm⟩ := key
    refine ⟨m, ?_, TC.wr H Wm Lm, Wm.cl⟩
    refine MetA.of2 k_X5_line rfl (Nat.le_of_ble_eq_true rfl) rfl (B_X5_line_0 ?_)
    refine ⟨_, _, c_hasSheet_y (by decide) H.1 hs, fun _ => fun m8 e8 => ?_, fun q => absurd q (by decide)⟩
    rw [e8, nI_clamp (show s < 2 ^ 31 by omega), (z1.RC H.1).ow hs]
    refine ⟨hv, _, a1, _, b1, hm _ (B_X5_line_56 ?_)⟩
    rw [nI_clamp (show s < 2 ^ 31 by omega), (Wm.RC H.1).ln hs]
    exact ⟨hv, fun _ => rI_ok Lm.2.1 rfl, fun q => absurd (nI_le (Nat.le_refl _) (by omega)) q⟩
theorem p_houseLine {a : Int32} (H : TC μ T) : CK M_X5_houseLine [aI a] μ (qHl T a).1 (qHl T a).2 := by
  have w0 := H.1.W.hm
  unfold qHl
  rcases hs_or H.1.W a with c1 | ⟨h, hh, rfl⟩
  · rw [if_pos c1]
    refine CK.rd H ?_
    refine MetA.of2 k_X5_houseLine rfl (Nat.le_of_ble_eq_true rfl) rfl (B_X5_houseLine_0 ?_)
    exact ⟨_, _, c_hasHouse_n (by decide) H.1 c1, fun q => absurd rfl q, fun _ => rX_ok rfl⟩
  · rw [if_neg (in_no hh (by omega)), nI_clamp (by omega)]
    have w1 := H.1.W.cn hh
    have w2 := H.1.W.sh hh
    have hv : vp_in (nI h) 4 := vp_in_nI (by omega) (by omega)
    have z1 := Wr.z (μ := μ) (f := upd (μ 17 0) 1 0)
    have l1 := wN1 (0, tLf T) h
    have l2 := wN1 (wp (wN (0, tLf T) h) 36) (sCn (tA T) h)
    have l3 := wN1 (wp (wN (wp (wN (0, tLf T) h) 36) (sCn (tA T) h)) 126) (sSh (tA T) h)
    have l0 : ((0, tLf T) : LT).1 = 0 := rfl
    rw [wp1] at l2 l3
    obtain ⟨m1, a1, a2, a3⟩ := c_putNumber (L := (0, tLf T)) (n := h) (LC.z (μ := μ) (f := tLf T)) (by omega) (by omega)
    obtain ⟨m2, b1, b2, b3⟩ := c_put (q := 36) a2 (by omega) (by omega)
    obtain ⟨m3, d1, d2, d3⟩ := c_putNumber (n := sCn (tA T) h) b2 (by omega) (by rw [wp1]; omega)
    obtain ⟨m4, e1, e2, e3⟩ := c_put (q := 126) d2 (by omega) (by omega)
    obtain ⟨m5, f1, f2, f3⟩ := c_putNumber (n := sSh (tA T) h) e2 (by omega) (by rw [wp1]; omega)
    obtain ⟨m6, g1, g2, g3⟩ := c_put (q := 42) f2 (by omega) (by omega)
    have W2 := z1.tr (a3.tr b3)
    have W4 := W2.tr (d3.tr e3)
    have W5 := W4.tr f3
    have W6 := W5.tr g3
    have ga := c_isAshamed (by decide) (W5.RC H.1) hh
    have zc := c_hasHouse_y (by decide) H.1 hh
    unfold hlT
    by_cases c : 20 < sSh (tA T) h
    · rw [if_pos c]
      rw [bi_t c] at ga
      refine ⟨m6, ?_, TC.wr H W6 g2, W6.cl⟩
      refine MetA.of2 k_X5_houseLine rfl (Nat.le_of_ble_eq_true rfl) rfl (B_X5_houseLine_0 ?_)
      refine ⟨_, _, zc, fun _ => fun m8 e8 => ?_, fun q => absurd q (by decide)⟩
      rw [e8]
      refine ⟨_, a1, _, b1, hv, ?_⟩
      rw [nI_clamp (by omega), (W2.RC H.1).cn hh]
      refine ⟨_, d1, _, e1, hv, ?_⟩
      rw [(W4.RC H.1).sh hh]
      exact ⟨_, f1, _, _, ga, fun q => absurd q (by decide), fun _ => ⟨_, g1, rI_ok g2.2.1 rfl⟩⟩
    · rw [if_neg c]
      rw [bi_f c] at ga
      refine ⟨m5, ?_, TC.wr H W5 f2, W5.cl⟩
      refine MetA.of2 k_X5_houseLine rfl (Nat.le_of_ble_eq_true rfl) rfl (B_X5_houseLine_0 ?_)
      refine ⟨_, _, zc, fun _ => fun m8 e8 => ?_, fun q => absurd q (by decide)⟩
      rw [e8]
      refine ⟨_, a1, _, b1, hv, ?_⟩
      rw [nI_clamp (by omega), (W2.RC H.1).cn hh]
      refine ⟨_, d1, _, e1, hv, ?_⟩
      rw [(W4.RC H.1).sh hh]
      exact ⟨_, f1, _, _, ga, fun _ => rI_ok f2.2.1 rfl, fun q => absurd rfl q⟩
def qCh (T : TT) (a : Int32) : AN := if a < 0 ∨ nI (tLn T) ≤ a then .inr 0 else .inl (tLf T a.toNatClampNeg)
theorem p_character {a : Int32} (H : TC μ T) : CK M_X5_character [aI a] μ (qCh T a) T := by
  have g : LC μ (tLn T) (tLf T) := H.2.2.2.2.2.2
  have w := g.1
  refine CK.rd H ?_
  refine MetA.of2 k_X5_character rfl (Nat.le_of_ble_eq_true rfl) rfl (B_X5_character_0 ?_)
  unfold qCh
  rcases (show (a < 0 ∨ nI (tLn T) ≤ a) ∨ ∃ k, k < tLn T ∧ a = nI k from in_or a (by omega)) with c1 | ⟨k, hk, rfl⟩
  · rw [g.2.1, if_pos c1]
    exact ⟨fun _ => rX_ok rfl, fun q => ⟨fun q2 => absurd (Or.resolve_left c1 q) (Int32.not_le.mpr q2), fun _ => rX_ok rfl⟩⟩
  · rw [g.2.1, if_neg (in_no hk (by omega)), nI_clamp (by omega), nI_ltI (by omega) (by omega)]
    refine ⟨fun q => absurd q (nI_pos (by omega)), fun _ => ⟨fun _ => ⟨vp_in_nI (by omega) (by omega), ?_, rI_ok (g.2.2 k hk).1 rfl⟩, fun q => absurd hk q⟩⟩
    rw [(g.2.2 k hk).1]
    exact (g.2.2 k hk).2
def setI (T : TT) (L : Nat × (Nat → Nat)) : TT := (T.1, T.2.1, T.2.2.1, T.2.2.2.1, L, T.2.2.2.2.2)
def qAp (T : TT) (c : Nat) : AN × TT := if tIn T < 60 then (.inl (nI (tIn T + 1)), setI T (tIn T + 1, va_up (tIf T) (tIn T) c)) else (.inr 3, T)
theorem p_append {c : Nat} (hc : c < 65536) (H : TC μ T) : CK M_X5_append [aI (nI c)] μ (qAp T c).1 (qAp T c).2 := by
  obtain ⟨a, b, z, d, e, f, g⟩ := H
  have e0 : IC μ (tIn T) (tIf T) := e
  obtain ⟨e1, e2, e3⟩ := e0
  unfold qAp
  by_cases c1 : tIn T < 60
  · rw [if_pos c1]
    have w : ∀ t o, ¬ (t = 15 ∧ o = 0) → ¬ (t = 16 ∧ o = 0) → mset (mset μ 16 0 (upd (μ 16 0) (tIn T) (nI c))) 15 0 (upd (μ 15 0) 1 (nI (tIn T + 1))) t o = μ t o := fun t o q1 q2 => by rw [mset_n q1, mset_n q2]
    refine ⟨mset (mset μ 16 0 (upd (μ 16 0) (tIn T) (nI c))) 15 0 (upd (μ 15 0) 1 (nI (tIn T + 1))), ?_, ⟨RC.mv (fun t ht => w t 0 (by omega) (by omega)) a, HC.mv (w _ _ (by omega) (by omega)) (fun t j ht hj => w t j (by omega) (by omega)) b, ZC.mv (by rw [w 11 0 (by omega) (by omega)]) (fun t ht => w t 3 (by omega) (by omega)) z, FC.mv (w _ _ (by omega) (by omega)) d, ⟨c1, by rw [mset_s]; rfl, fun i hi => ?_⟩, by rw [w 11 0 (by omega) (by omega)]; exact f, LC.mv (w _ _ (by omega) (by omega)) (w _ _ (by omega) (by omega)) g⟩, fun t ht => ?_⟩
    · refine MetA.of2 k_X5_append rfl (Nat.le_of_ble_eq_true rfl) rfl (B_X5_append_0 ?_)
      rw [e2, nI_clamp (by omega), nar_ok hc, show (60 : Int32) = nI 60 from rfl, nI_ltI (by omega) (by omega)]
      refine ⟨fun _ => ⟨vp_in_nI (by omega) (by omega), fun m em m8 e8 => ?_⟩, fun q => absurd c1 q⟩
      have e9 : m8 = mset (mset μ 16 0 (upd (μ 16 0) (tIn T) (nI c))) 15 0 (upd (μ 15 0) 1 (nI (tIn T + 1))) := by
        rw [e8, em, mset_t (show (15 : Nat) ≠ 16 by decide), e2, show (1 : Int32) = nI 1 from rfl, nI_add]
      exact rI_ok (by rw [e9, mset_s]; rfl) e9
    · rw [mset_t (show (16 : Nat) ≠ 15 by decide), mset_s]
      show upd _ _ _ i = nI (va_up _ _ _ i) ∧ va_up _ _ _ i < 65536
      rw [uget, vget]
      by_cases c : i = tIn T
      · rw [if_pos c, if_pos c]
        exact ⟨rfl, hc⟩
      · rw [if_neg c, if_neg c]
        have hi' : i < tIn T + 1 := hi
        exact e3 i (by omega)
    · funext o
      exact w t o (by omega) (by omega)
  · rw [if_neg c1]
    refine CK.rd ⟨a, b, z, d, e, f, g⟩ ?_
    refine MetA.of2 k_X5_append rfl (Nat.le_of_ble_eq_true rfl) rfl (B_X5_append_0 ?_)
    rw [e2, show (60 : Int32) = nI 60 from rfl, nI_ltI (by omega) (by omega)]
    exact ⟨fun q => absurd q c1, fun _ => rX_ok rfl⟩
theorem p_errorPosition (H : TC μ T) : CK M_X5_errorPosition [] μ (.inl (tE T)) T := by
  refine CK.rd H ?_
  refine MetA.of2 k_X5_errorPosition rfl (Nat.le_of_ble_eq_true rfl) rfl (B_X5_errorPosition_0 ?_)
  exact rI_ok H.2.2.2.2.2.1 rfl
def qRf (T : TT) (a b : Int32) : AN := if a = 0 then (if (tRf T).1 = 0 then .inr 4 else if b = 0 then .inl (tRf T).1 else .inl (tRf T).2.1) else (if (tRf T).2.2.1 = 0 then .inr 4 else if b = 0 then .inl (tRf T).2.2.1 else .inl (tRf T).2.2.2)
theorem p_refusal {a b : Int32} (H : TC μ T) : CK M_X5_refusal [aI a, aI b] μ (qRf T a b) T := by
  have g : FC μ (tRf T) := H.2.2.2.1
  obtain ⟨g1, g2, g3, g4⟩ := g
  refine CK.rd H ?_
  refine MetA.of2 k_X5_refusal rfl (Nat.le_of_ble_eq_true rfl) rfl (B_X5_refusal_0 ?_)
  unfold qRf
  rw [g1, g2, g3, g4]
  by_cases c : a = 0
  · rw [if_pos c]
    refine ⟨fun _ => ⟨fun q => ?_, fun q => ?_⟩, fun q => absurd c q⟩
    · rw [if_neg q]
      by_cases c2 : b = 0
      · rw [if_pos c2]
        exact ⟨fun q => absurd c2 q, fun _ => rI_ok rfl rfl⟩
      · rw [if_neg c2]
        exact ⟨fun _ => ⟨fun _ => rI_ok rfl rfl, fun q => absurd c q⟩, fun q => absurd q c2⟩
    · rw [if_pos q]
      exact rX_ok rfl
  · rw [if_neg c]
    refine ⟨fun q => absurd q c, fun _ => ⟨fun q => ?_, fun q => ?_⟩⟩
    · rw [if_neg q]
      by_cases c2 : b = 0
      · rw [if_pos c2]
        exact ⟨fun q => absurd c2 q, fun _ => rI_ok rfl rfl⟩
      · rw [if_neg c2]
        exact ⟨fun _ => ⟨fun q => absurd q c, fun _ => rI_ok rfl rfl⟩, fun q => absurd q c2⟩
    · rw [if_pos q]
      exact rX_ok rfl
def qAc (T : TT) (a : Int32) : AN := if a < 0 ∨ nI 14 < a then .inr 1 else if a = 13 then .inl (nI (tIn T)) else if a = 14 then .inl (nI (tHn T)) else .inl (sAc (tA T) a.toNatClampNeg)
theorem p_account {a : Int32} (H : TC μ T) : CK M_X5_account [aI a] μ (qAc T a) T := by
  have g : HC μ (tHf T) (tHn T) := H.2.1
  obtain ⟨_, x, _, _, g2, _⟩ := g
  have e : IC μ (tIn T) (tIf T) := H.2.2.2.2.1
  refine CK.rd H ?_
  refine MetA.of2 k_X5_account rfl (Nat.le_of_ble_eq_true rfl) rfl (B_X5_account_0 ?_)
  unfold qAc
  rw [g2, e.2.1]
  rcases bnd a (n := 14) (by decide) with c | ⟨k, hk, rfl⟩
  · rw [if_pos c]
    exact ⟨fun _ => rX_ok rfl, fun q => ⟨fun q2 => absurd (c.resolve_left q) (Int32.not_lt.mpr q2), fun _ => rX_ok rfl⟩⟩
  · rw [if_neg (bnd_no hk (by decide)), nI_clamp (by omega)]
    refine ⟨fun q => absurd q (nI_pos (by omega)), fun _ => ⟨fun _ => ?_, fun q => absurd (nI_le hk (by omega)) q⟩⟩
    have z13 : (nI k = 13) = (k = 13) := nI_eqI (b := 13) (by omega) (by decide)
    have z14 : (nI k = 14) = (k = 14) := nI_eqI (b := 14) (by omega) (by decide)
    by_cases c1 : nI k = 13
    · rw [if_pos c1]
      exact ⟨fun q => absurd c1 q, fun _ => rI_ok rfl rfl⟩
    · rw [if_neg c1]
      by_cases c2 : nI k = 14
      · rw [if_pos c2]
        exact ⟨fun _ => ⟨fun q => absurd c2 q, fun _ => rI_ok rfl rfl⟩, fun q => absurd q c1⟩
      · rw [if_neg c2]
        exact ⟨fun _ => ⟨fun _ => ⟨_, _, c_sumUp (by decide) H.1 (by rw [z13] at c1; rw [z14] at c2; omega), rI_ok rfl rfl⟩, fun q => absurd q c2⟩, fun q => absurd q c1⟩
end SK
