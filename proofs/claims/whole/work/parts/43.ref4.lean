/-! the reference's changes -/
def KH (μ : Mem) : Prop := ¬ μ 19 0 6 = 0 ∨ (μ 19 0 6 = 0 ∧ ∃ f n, HM μ f n)
def cdl : List Nat → Nat → Nat
  | [], _ => 0
  | a :: l, e => if e = a then 1 else cdl l e + 1
def Mf (μ μ' : Mem) (A : SP) : Prop := (∀ t o, ¬ (t = 19 ∧ o = 0) → ¬ (t = 21 ∧ o = 0) → ¬ (t = 20 ∧ o = 0) → μ' t o = μ t o) ∧ (∀ k, k ≠ 5 → k ≠ 7 → k ≠ 8 → μ' 19 0 k = μ 19 0 k) ∧ μ' 19 0 8 = 0 ∧ (¬ μ 19 0 6 = 0 → μ' 19 0 5 = μ 19 0 5 ∧ μ' 21 0 = μ 21 0) ∧ (μ 19 0 6 = 0 → ∀ f n, HM μ f n → HM μ' (kF f n A) (kN n))
def Rf (μ μ' : Mem) (c : Nat) (p : Nat × Int32 × Int32) : Prop := (∀ t o, ¬ (t = 19 ∧ o = 0) → μ' t o = μ t o) ∧ μ' 19 0 8 = nI c ∧ (∀ k, ¬ (7 ≤ k ∧ k ≤ 12) → μ' 19 0 k = μ 19 0 k) ∧ (if p.1 = 2 then μ' 19 0 7 = 1 ∧ μ' 19 0 9 = p.2.1 ∧ μ' 19 0 10 = p.2.2 ∧ μ' 19 0 11 = 0 ∧ μ' 19 0 12 = 0 else μ' 19 0 7 = 0 ∧ ∀ k, 9 ≤ k → k ≤ 12 → μ' 19 0 k = μ 19 0 k)
def MO (μ μ' : Mem) (A : SP) (l : List Nat) (c : CH) : Prop := match c with
  | .inl p => RM (μ' 20 0) p.2 ∧ Mf μ μ' A
  | .inr p => Rf μ μ' (cdl l p.1) p
def CI (M : MI) (as : List AV) (μ : Mem) (A : SP) (l : List Nat) (c : CH) : Prop := ∃ μ' v, MetA M (aR 19 0 :: as) μ (rI v μ') ∧ MO μ μ' A l c ∧ ∀ p, c = .inl p → v = p.1
section RE
variable {μ : Mem} {A : SP} {s k h w : Nat}
theorem m_keeps {t : Nat} (ht : t = 20 ∨ t = 23) (K : KH μ) (G : RM (μ t 0) A) : ∃ μ', MetA M_X6_keeps [aR 19 0, aR t 0] μ (rV μ') ∧ KP μ μ' A := by
  rcases K with h | ⟨h, f, n, Hh⟩
  · exact m_keepW (by rcases ht with rfl | rfl <;> rfl) (by rcases ht with rfl | rfl <;> rfl) h
  · exact m_keep0 ht h Hh G
theorem HM.fa {c : Int32} {f : Nat → SP} {n : Nat} (h : HM μ f n) : HM (faM μ c) f n := by
  obtain ⟨a, b, d⟩ := h
  exact ⟨a, by rw [faM, mset_s]; exact b, fun i hi => by rw [faM, mset_t (by decide)]; exact d i hi⟩
theorem KH.fa {c : Int32} (h : KH μ) : KH (faM μ c) := by
  have e : faM μ c 19 0 6 = μ 19 0 6 := by rw [faM, mset_s]; rfl
  rcases h with h | ⟨h, f, n, Hh⟩
  · exact Or.inl (by rw [e]; exact h)
  · exact Or.inr ⟨by rw [e]; exact h, f, n, Hh.fa⟩
theorem faM_t {c : Int32} {t : Nat} (h : t ≠ 19) : faM μ c t 0 = μ t 0 := mset_t h
theorem m_fails0 : MetA M_X6_fails [aR 19 0, aI 0] μ (rI 0 (faM μ 0)) := by
  have := m_fails (μ := μ) (c := 0)
  rw [bi_f (by decide)] at this
  exact this
theorem m_failsc {c : Int32} (h : ¬ c ≤ 0) : MetA M_X6_fails [aR 19 0, aI c] μ (rI 1 (faM μ c)) := by
  have := m_fails (μ := μ) (c := c)
  rw [bi_t h] at this
  exact this
theorem Rf_fa {c : Nat} {p : Nat × Int32 × Int32} (hp : ¬ p.1 = 2) : Rf μ (faM μ (nI c)) c p := by
  refine ⟨fun t o q => mset_n q, by rw [faM, mset_s]; rfl, fun k q => ?_, ?_⟩
  · rw [faM, mset_s, uget, if_neg (by omega), uget, if_neg (by omega)]
  · rw [if_neg hp]
    refine ⟨by rw [faM, mset_s]; rfl, fun k q1 q2 => ?_⟩
    rw [faM, mset_s, uget, if_neg (by omega), uget, if_neg (by omega)]
theorem Rf_rf {c : Nat} {r d : Int32} {m : Mem} (hm : m = μ ∨ m = faM μ 0) : Rf μ (rfM m (nI c) r d) c (2, r, d) := by
  have e : ∀ k, ¬ (7 ≤ k ∧ k ≤ 8) → m 19 0 k = μ 19 0 k := by
    intro k q
    rcases hm with rfl | rfl
    · rfl
    · rw [faM, mset_s, uget, if_neg (by omega), uget, if_neg (by omega)]
  refine ⟨fun t o q => ?_, by rw [rfM, mset_s]; rfl, fun k q => ?_, ?_⟩
  · rw [rfM, mset_n q]
    rcases hm with rfl | rfl
    · rfl
    · exact mset_n q
  · rw [rfM, mset_s, uget, if_neg (by omega), uget, if_neg (by omega), uget, if_neg (by omega), uget, if_neg (by omega), uget, if_neg (by omega), uget, if_neg (by omega)]
    exact e k (by omega)
  · rw [if_pos rfl, rfM, mset_s]
    exact ⟨rfl, rfl, rfl, rfl, rfl⟩
/-- kept, and the row changed behind it -/
theorem Mf_of {m m' μ' : Mem} (h0 : m = μ ∨ m = faM μ 0) (k : KP m m' A) (h1 : ∀ t o, ¬ (t = 20 ∧ o = 0) → μ' t o = m' t o) : Mf μ μ' A := by
  obtain ⟨k1, k2, k3, k4, k5⟩ := k
  have e : ∀ k, ¬ (7 ≤ k ∧ k ≤ 8) → m 19 0 k = μ 19 0 k := by
    intro k q
    rcases h0 with rfl | rfl
    · rfl
    · rw [faM, mset_s, uget, if_neg (by omega), uget, if_neg (by omega)]
  have eo : ∀ t o, ¬ (t = 19 ∧ o = 0) → m t o = μ t o := by
    intro t o q
    rcases h0 with rfl | rfl
    · rfl
    · exact mset_n q
  have a19 : μ' 19 0 = m' 19 0 := h1 19 0 (by omega)
  have a21 : μ' 21 0 = m' 21 0 := h1 21 0 (by omega)
  refine ⟨fun t o a b c => by rw [h1 t o c, k1 t o a b, eo t o a], fun i a b c => by rw [a19, k2 i a c, e i (by omega)], by rw [a19]; exact k3, fun q => ?_, fun q f n Hh => ?_⟩
  · have := k4 (by rw [e 6 (by omega)]; exact q)
    exact ⟨by rw [a19, this.1, e 5 (by omega)], by rw [a21, this.2, eo 21 0 (by omega)]⟩
  · have Hm : HM m f n := by
      rcases h0 with rfl | rfl
      · exact Hh
      · exact Hh.fa
    obtain ⟨x1, x2, x3⟩ := k5 (by rw [e 6 (by omega)]; exact q) f n Hm
    exact ⟨x1, by rw [a19]; exact x2, fun i hi => by rw [a21]; exact x3 i hi⟩
theorem KP.g {m m' : Mem} (k : KP m m' A) : m' 20 0 = m 20 0 := k.1 20 0 (by omega) (by omega)
def zfl (g : Nat → Int32) (x n : Nat) : Nat → Int32 := fun j => if x ≤ j ∧ j < x + n then 0 else g j
theorem zfl0 (g : Nat → Int32) (x : Nat) : zfl g x 0 = g := funext fun j => if_neg (by omega)
theorem zfl1 (g : Nat → Int32) (x n : Nat) : upd (zfl g x n) (x + n) 0 = zfl g x (n + 1) := by
  funext j
  rw [uget]
  unfold zfl
  by_cases c : j = x + n
  · rw [if_pos c, if_pos (by omega)]
  · rw [if_neg c]
    by_cases d : x ≤ j ∧ j < x + n
    · rw [if_pos d, if_pos (by omega)]
    · rw [if_neg d, if_neg (by omega)]
theorem n_house {a : Int32} (G : RM (μ 20 0) A) (K : KH μ) : CI M_X6_house [aI a] μ A [1, 2] (chHouse A a) := by
  have w := G.W.hm
  have v0 : vp_in 0 240 := vp_in_nI (n := 0) (by decide) (by decide)
  unfold chHouse CI
  rcases bnd a (n := 99) (by decide) with c | ⟨x, hx, rfl⟩
  · rw [if_pos c]
    refine ⟨faM μ (nI 1), 0, ?_, Rf_fa (by decide), fun p q => by cases q⟩
    refine MetA.of2 k_X6_house rfl (Nat.le_of_ble_eq_true rfl) rfl (B_X6_house_0 ?_)
    refine ⟨_, _, m_in, fun _ => ⟨_, _, m_failsc (by decide), fun q => absurd q (by decide), fun _ => rI_ok rfl rfl⟩, fun q => ?_⟩
    rw [show (99 : Int32) = nI 99 from rfl, bi_f (fun z => z c)] at q
    exact absurd rfl q
  · have hb : bi (¬ (nI x < 0 ∨ nI 99 < nI x)) = 1 := bi_t (bnd_no hx (by decide))
    rw [if_neg (bnd_no hx (by decide)), nI_clamp (by omega)]
    have start : ∀ P : RES → Mem → Prop, (vp_in 0 240 ∧ ((¬ (μ 20 0 0) = 4 → ∃ m20 : Mem, MetA M_X6_keeps [aR 19 0, aR 20 0] (faM μ 0) (rV m20) ∧ (vp_in 0 240 ∧ (vp_in 0 240 ∧ (vp_in 0 240 ∧ (∀ m27 : Mem, m27 = mset m20 20 0 (upd (m20 20 0) 0 ((m20 20 0 0) + 1)) → AW M_X6_house 0 69 [some (aR 19 0), some (aI (nI x)), some (aI (m20 20 0 0)), some (aI 0)] [] m27 P))))) ∧ ((μ 20 0 0) = 4 → ∃ (r34 : Int32) (m31 : Mem), MetA M_X6_refuses [aR 19 0, aI 2, aI 1, aI 4] (faM μ 0) (rI r34 m31) ∧ (P (.inl (some (aI r34))) m31)))) → MetA M_X6_house [aR 19 0, aI (nI x)] μ P := by
      intro P hP
      refine MetA.of2 k_X6_house rfl (Nat.le_of_ble_eq_true rfl) rfl (B_X6_house_0 ?_)
      refine ⟨_, _, m_in, fun q => absurd q ?_, fun _ => ⟨_, _, m_fails0, fun _ => hP, fun q => absurd rfl q⟩⟩
      rw [show (99 : Int32) = nI 99 from rfl, hb]
      decide
    have z4 : (μ 20 0 0 = 4) = (sH A = 4) := by rw [G.H, show (4 : Int32) = nI 4 from rfl, nI_eqI (by omega) (by decide)]
    by_cases c4 : sH A = 4
    · rw [if_pos c4]
      refine ⟨rfM (faM μ 0) (nI 2) 1 4, 0, start _ ⟨v0, fun q => absurd (z4.mpr c4) q, fun _ => ⟨_, _, m_refuses, rI_ok rfl rfl⟩⟩, Rf_rf (Or.inr rfl), fun p q => by cases q⟩
    · rw [if_neg c4]
      obtain ⟨mk, k1, k2⟩ := m_keeps (μ := faM μ 0) (t := 20) (Or.inl rfl) K.fa (by rw [faM_t (by decide)]; exact G)
      have eg : mk 20 0 = μ 20 0 := by rw [k2.g, faM_t (by decide)]
      obtain ⟨g1, eg1⟩ : ∃ g1 : Nat → Int32, g1 = upd (μ 20 0) 0 (nI (sH A + 1)) := ⟨_, rfl⟩
      have lp : ∀ P, AW M_X6_house 0 69 [some (aR 19 0), some (aI (nI x)), some (aI (nI (sH A))), some (aI (nI 3))] [] (mset mk 20 0 (zfl g1 (10 + 3 * sH A) 3)) P → AW M_X6_house 0 69 [some (aR 19 0), some (aI (nI x)), some (aI (nI (sH A))), some (aI (nI 0))] [] (mset mk 20 0 (zfl g1 (10 + 3 * sH A) 0)) P := by
        refine loopF 3 (fun i => ∀ P, AW M_X6_house 0 69 [some (aR 19 0), some (aI (nI x)), some (aI (nI (sH A))), some (aI (nI i))] [] (mset mk 20 0 (zfl g1 (10 + 3 * sH A) i)) P → AW M_X6_house 0 69 [some (aR 19 0), some (aI (nI x)), some (aI (nI (sH A))), some (aI (nI 0))] [] (mset mk 20 0 (zfl g1 (10 + 3 * sH A) 0)) P) (fun P h => h) ?_
        intro i hi ih P h
        refine ih P (B_X6_house_69 ?_)
        rw [i3, nI_clamp (by omega)]
        refine ⟨fun q => absurd (show nI 3 ≤ nI i from q) (nI_ge hi (by decide)), fun _ => ⟨vp_in_nI (by omega) (by decide), fun m e => ?_⟩⟩
        rw [mset_s, mset_mset, zfl1] at e
        rw [e, show (1 : Int32) = nI 1 from rfl, nI_add]
        exact h
      rw [zfl0] at lp
      refine ⟨mset mk 20 0 (upd (zfl g1 (10 + 3 * sH A) 3) (10 + 3 * sH A) (nI x)), nI (sH A), start _ ⟨v0, fun _ => ⟨mk, k1, v0, v0, v0, fun m em => ?_⟩, fun q => absurd (z4.mp q) c4⟩, ⟨?_, Mf_of (Or.inr rfl) k2 (fun t o q => mset_n q)⟩, fun p q => by cases q; rfl⟩
      · rw [eg, G.H, show (1 : Int32) = nI 1 from rfl, nI_add, ← eg1] at em
        rw [em, eg, G.H]
        have ad := m_adds (μ := mset mk 20 0 (zfl g1 (10 + 3 * sH A) 3)) (h := sH A) (w := 0) (v := nI x) (by omega) (by decide)
        rw [mset_s, mset_mset, Nat.add_zero, show zfl g1 (10 + 3 * sH A) 3 (10 + 3 * sH A) = 0 from if_pos (by omega), Int32.zero_add] at ad
        refine lp _ (B_X6_house_69 ⟨fun _ => ⟨_, ad, rI_ok rfl rfl⟩, fun q => absurd (show (3 : Int32) ≤ nI 3 by decide) q⟩)
      · rw [mset_s]
        refine RM_addH G (by omega) hx (fun j q0 q1 q2 q3 => ?_) ?_ ?_ ?_ ?_
        · rw [uget, if_neg q1, zfl, if_neg (by omega), eg1, uget, if_neg q0]
        · rw [uget, if_neg (by omega), zfl, if_neg (by omega), eg1]
          rfl
        · rw [uget, if_pos rfl]
        · rw [uget, if_neg (by omega), zfl, if_pos (by omega)]
        · rw [uget, if_neg (by omega), zfl, if_pos (by omega)]
theorem n_reader {a b : Int32} (G : RM (μ 20 0) A) (K : KH μ) : CI M_X6_reader [aI a, aI b] μ A [1, 2] (chRead A a b) := by
  have w := G.W.rm
  have v2 : vp_in 2 240 := vp_in_nI (n := 2) (by decide) (by decide)
  have bad : ∀ P, P (.inl (some (aI 0))) (faM μ 1) → AW M_X6_reader 0 25 [some (aR 19 0), some (aI a), some (aI b)] [aI 1, aR 19 0] μ P := fun P h => B_X6_reader_25 ⟨_, _, m_failsc (by decide), fun q => absurd q (by decide), fun _ => h⟩
  unfold chRead CI
  by_cases c : a < 0 ∨ 1 < a ∨ b < 1 ∨ 6 < b
  · rw [if_pos c]
    refine ⟨faM μ (nI 1), 0, ?_, Rf_fa (by decide), fun p q => by cases q⟩
    refine MetA.of2 k_X6_reader rfl (Nat.le_of_ble_eq_true rfl) rfl (B_X6_reader_0 ?_)
    refine ⟨_, _, m_in, fun _ => bad _ (rI_ok rfl rfl), fun q => ⟨_, _, m_in, fun _ => bad _ (rI_ok rfl rfl), fun q2 => ?_⟩⟩
    by_cases d : a < 0 ∨ 1 < a
    · rw [bi_f (fun z => z d)] at q
      exact absurd rfl q
    · by_cases d2 : b < 1 ∨ 6 < b
      · rw [bi_f (fun z => z d2)] at q2
        exact absurd rfl q2
      · exact absurd c (by rintro (z | z | z); exact d (Or.inl z); exact d (Or.inr z); exact d2 z)
  · rw [if_neg c]
    have d1 : ¬ (a < 0 ∨ 1 < a) := fun z => c (z.elim Or.inl fun y => Or.inr (Or.inl y))
    have d2 : ¬ (b < 1 ∨ 6 < b) := fun z => c (Or.inr (Or.inr z))
    obtain ⟨x, hx, rfl⟩ := (bnd a (n := 1) (by decide)).resolve_left d1
    obtain ⟨y, hy, rfl⟩ := (bnd b (n := 6) (by decide)).resolve_left (fun z => d2 (z.elim (fun q => Or.inl (Int32.lt_trans q (by decide))) Or.inr))
    have hy1 : 1 ≤ y := by
      refine Classical.byContradiction fun z => d2 (Or.inl ?_)
      rw [n1, nI_ltI (by omega) (by decide)]
      omega
    rw [nI_clamp (show x < 2 ^ 31 by omega), nI_clamp (show y < 2 ^ 31 by omega)]
    have z5 : (μ 20 0 (2 : Int32).toNatClampNeg = 5) = (sR A = 5) := by rw [show μ 20 0 (2 : Int32).toNatClampNeg = nI (sR A) from G.R, show (5 : Int32) = nI 5 from rfl, nI_eqI (by omega) (by decide)]
    have start : ∀ P : RES → Mem → Prop, AW M_X6_reader 0 25 [some (aR 19 0), some (aI (nI x)), some (aI (nI y))] [aI 0, aR 19 0] μ P → MetA M_X6_reader [aR 19 0, aI (nI x), aI (nI y)] μ P := by
      intro P h
      refine MetA.of2 k_X6_reader rfl (Nat.le_of_ble_eq_true rfl) rfl (B_X6_reader_0 ?_)
      refine ⟨_, _, m_in, fun q => ?_, fun _ => ⟨_, _, m_in, fun q => ?_, fun _ => h⟩⟩
      · rw [bi_t d1] at q
        exact absurd q (by decide)
      · rw [bi_t d2] at q
        exact absurd q (by decide)
    by_cases c5 : sR A = 5
    · rw [if_pos c5]
      refine ⟨rfM (faM μ 0) (nI 2) 1 5, 0, start _ (B_X6_reader_25 ⟨_, _, m_fails0, fun _ => ⟨v2, fun q => absurd ?_ q, fun _ => ⟨_, _, m_refuses, rI_ok rfl rfl⟩⟩, fun q => absurd rfl q⟩), Rf_rf (Or.inr rfl), fun p q => by cases q⟩
      rw [faM_t (by decide)]
      exact z5.mpr c5
    · rw [if_neg c5]
      obtain ⟨mk, k1, k2⟩ := m_keeps (μ := faM μ 0) (t := 20) (Or.inl rfl) K.fa (by rw [faM_t (by decide)]; exact G)
      have eg : mk 20 0 = μ 20 0 := by rw [k2.g, faM_t (by decide)]
      have i1 : (230 : Int32) + 2 * nI (sR A) = nI (230 + 2 * sR A) := by rw [show (230 : Int32) = nI 230 from rfl, show (2 : Int32) = nI 2 from rfl, pk_mul, nI_add]
      have i2 : nI (230 + 2 * sR A) + 1 = nI (230 + 2 * sR A + 1) := by rw [show (1 : Int32) = nI 1 from rfl, nI_add]
      have a1 : vp_in (nI (230 + 2 * sR A)) 240 := vp_in_nI (by omega) (by decide)
      have a2 : vp_in (nI (230 + 2 * sR A + 1)) 240 := vp_in_nI (by omega) (by decide)
      have eR : ∀ m : Mem, m 20 0 2 = nI (sR A) → m 20 0 (2 : Int32).toNatClampNeg = nI (sR A) := fun m h => h
      refine ⟨mset mk 20 0 (upd (upd (upd (μ 20 0) (230 + 2 * sR A) (nI x)) (230 + 2 * sR A + 1) (nI y)) 2 (nI (sR A + 1))), nI (sR A), start _ (B_X6_reader_25 ⟨_, _, m_fails0, fun _ => ⟨v2, fun _ => ⟨mk, k1, v2, ?_⟩, fun q => absurd ?_ c5⟩, fun q => absurd rfl q⟩), ⟨?_, Mf_of (Or.inr rfl) k2 (fun t o q => mset_n q)⟩, fun p q => by cases q; rfl⟩
      · rw [eR mk (by rw [eg]; exact G.R), i1, nI_clamp (by omega)]
        refine ⟨a1, fun m18 e18 => ?_⟩
        rw [eg] at e18
        have f18 : m18 20 0 2 = nI (sR A) := by rw [e18, mset_s, uget, if_neg (by omega)]; exact G.R
        rw [eR m18 f18, i1, i2, nI_clamp (by omega)]
        refine ⟨v2, a2, fun m24 e24 => ⟨v2, v2, fun m30 e30 => ?_⟩⟩
        rw [e18, mset_s, mset_mset] at e24
        have f24 : m24 20 0 2 = nI (sR A) := by rw [e24, mset_s, uget, if_neg (by omega), uget, if_neg (by omega)]; exact G.R
        rw [eR m24 f24, show (1 : Int32) = nI 1 from rfl, nI_add, e24, mset_s, mset_mset] at e30
        have f30 : m30 20 0 2 = nI (sR A + 1) := by rw [e30, mset_s]; rfl
        refine ⟨v2, rI_ok ?_ e30⟩
        rw [show m30 20 0 (2 : Int32).toNatClampNeg = nI (sR A + 1) from f30, show (1 : Int32) = nI 1 from rfl, pk_sub (by omega), Nat.add_sub_cancel]
      · rw [faM_t (by decide)] at *
        exact z5.mp (by assumption)
      · rw [mset_s]
        refine RM_addR G (by omega) hx ⟨hy1, hy⟩ (fun j q0 q1 q2 => ?_) ?_ ?_ ?_
        · rw [uget, if_neg q0, uget, if_neg q2, uget, if_neg q1]
        · rw [uget, if_pos rfl]
        · rw [uget, if_neg (by omega), uget, if_neg (by omega), uget, if_pos rfl]
        · rw [uget, if_neg (by omega), uget, if_pos rfl]
theorem n_set {a b c : Int32} (G : RM (μ 20 0) A) (K : KH μ) : CI M_X6_set [aI a, aI b, aI c] μ A [0, 1, 2] (chSet A a b c) := by
  have w := G.W.sm
  unfold chSet CI
  have hpl := m_isPlace (a := a) (b := b) G
  rcases plc A G.W a b with c1 | ⟨s, k, hs, hk, rfl, rfl⟩
  · rw [if_pos c1]
    rw [bi_f (fun z => z c1)] at hpl
    refine ⟨faM μ (nI 1), 0, ?_, Rf_fa (by decide), fun p q => by cases q⟩
    refine MetA.of2 k_X6_set rfl (Nat.le_of_ble_eq_true rfl) rfl (B_X6_set_0 ?_)
    exact ⟨_, _, hpl, fun q => absurd rfl q, fun _ => B_X6_set_30 ⟨_, _, m_failsc (by decide), fun q => absurd q (by decide), fun _ => rI_ok rfl rfl⟩⟩
  · have np := plc_no G.W hs hk
    rw [bi_t np] at hpl
    have w2 := G.W.ln hs
    have w3 := G.W.rt hs hk
    have w4 := G.W.pl hs hk
    rw [if_neg np, nI_clamp (show s < 2 ^ 31 by omega), nI_clamp (show k < 2 ^ 31 by omega)]
    unfold chSet2
    by_cases c2 : c < 97 ∨ 102 < c
    · rw [if_pos c2]
      refine ⟨faM μ (nI 2), 0, ?_, Rf_fa (by decide), fun p q => by cases q⟩
      refine MetA.of2 k_X6_set rfl (Nat.le_of_ble_eq_true rfl) rfl (B_X6_set_0 ?_)
      refine ⟨_, _, hpl, fun _ => ⟨_, _, m_in, fun _ => B_X6_set_30 ⟨_, _, m_failsc (by decide), fun q => absurd q (by decide), fun _ => rI_ok rfl rfl⟩, fun q => ?_⟩, fun q => absurd q (by decide)⟩
      rw [bi_f (fun z => z c2)] at q
      exact absurd rfl q
    · rw [if_neg c2]
      obtain ⟨v, hv1, hv2, ec, ev⟩ := ch_num (fun q => c2 (Or.inl q)) (fun q => c2 (Or.inr q))
      rw [ev]
      have G1 : RM (faM μ 0 20 0) A := by rw [faM_t (by decide)]; exact G
      have start : ∀ P : RES → Mem → Prop, AW M_X6_set 0 30 [some (aR 19 0), some (aI (nI s)), some (aI (nI k)), some (aI c), none] [aI 0, aR 19 0] μ P → MetA M_X6_set [aR 19 0, aI (nI s), aI (nI k), aI c] μ P := by
        intro P h
        refine MetA.of2 k_X6_set rfl (Nat.le_of_ble_eq_true rfl) rfl (B_X6_set_0 ?_)
        refine ⟨_, _, hpl, fun _ => ⟨_, _, m_in, fun q => ?_, fun _ => h⟩, fun q => absurd q (by decide)⟩
        rw [bi_t c2] at q
        exact absurd q (by decide)
      by_cases c3 : nI (sPl A s k) = nI v
      · rw [if_pos c3]
        refine ⟨rfM (faM μ 0) (nI 3) 2 (nI k), 0, start _ (B_X6_set_30 ⟨_, _, m_fails0, fun _ => ⟨_, _, m_pl G1 hs hk, ?_⟩, fun q => absurd rfl q⟩), Rf_rf (Or.inr rfl), fun p q => by cases q⟩
        rw [ev]
        exact ⟨fun q => absurd c3 q, fun _ => ⟨_, _, m_refuses, rI_ok rfl rfl⟩⟩
      · rw [if_neg c3]
        by_cases c4 : nI (sRt A s k) = nI v
        · rw [if_pos c4]
          refine ⟨rfM (faM μ 0) (nI 3) 3 (nI k), 0, start _ (B_X6_set_30 ⟨_, _, m_fails0, fun _ => ⟨_, _, m_pl G1 hs hk, ?_⟩, fun q => absurd rfl q⟩), Rf_rf (Or.inr rfl), fun p q => by cases q⟩
          rw [ev]
          exact ⟨fun _ => ⟨_, _, m_rt G1 hs hk, fun q => absurd c4 q, fun _ => ⟨_, _, m_refuses, rI_ok rfl rfl⟩⟩, fun q => absurd q c3⟩
        · rw [if_neg c4, nI_clamp (show v < 2 ^ 31 by omega)]
          have nv : ¬ v = sRt A s k := fun z => c4 (by rw [z])
          obtain ⟨mk, k1, k2⟩ := m_keeps (μ := faM μ 0) (t := 20) (Or.inl rfl) K.fa G1
          have eg : mk 20 0 = μ 20 0 := by rw [k2.g, faM_t (by decide)]
          have l1 := m_lays (μ := mk) (s := s) (w := 10 + k) (v := nI v) (by omega) (by omega)
          have l2 := m_lays (μ := mset mk 20 0 (upd (mk 20 0) (22 + 26 * s + (10 + k)) (nI v))) (s := s) (w := 18 + k) (v := 1) (by omega) (by omega)
          rw [mset_s, mset_mset, eg] at l2
          rw [eg] at l1
          have G2 : RM (mset mk 20 0 (upd (upd (μ 20 0) (22 + 26 * s + (10 + k)) (nI v)) (22 + 26 * s + (18 + k)) 1) 20 0) (oPut A s k v) := by
            rw [mset_s]
            refine RM_put G hs hk ⟨hv1, hv2⟩ (fun j q1 q2 => by rw [uget, if_neg q2, uget, if_neg q1]) ?_ ?_
            · rw [uget, if_neg (by omega), uget, if_pos rfl]
            · rw [uget, if_pos rfl, if_neg nv]
              rfl
          refine ⟨_, _, start _ (B_X6_set_30 ⟨_, _, m_fails0, fun _ => ⟨_, _, m_pl G1 hs hk, ?_⟩, fun q => absurd rfl q⟩), ⟨G2, Mf_of (Or.inr rfl) k2 (fun t o q => mset_n q)⟩, fun p q => by cases q; rfl⟩
          rw [ev]
          refine ⟨fun _ => ⟨_, _, m_rt G1 hs hk, fun _ => ⟨_, k1, ?_⟩, fun q => absurd q c4⟩, fun q => absurd q c3⟩
          rw [show (10 : Int32) = nI 10 from rfl, show (18 : Int32) = nI 18 from rfl, nI_add, nI_add]
          exact ⟨_, l1, _, l2, _, _, m_misprints (lv := 1) G2 hs (by decide), rI_ok rfl rfl⟩
end RE
