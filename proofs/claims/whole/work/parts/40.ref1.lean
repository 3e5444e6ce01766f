/-! the reference: cells and small methods -/
theorem i3 (h w : Nat) : (10 + 3 * nI h) + nI w = nI (10 + 3 * h + w) := by rw [show (10 : Int32) = nI 10 from rfl, show (3 : Int32) = nI 3 from rfl, pk_mul, nI_add, nI_add]
theorem i26 (s w : Nat) : (22 + 26 * nI s) + nI w = nI (22 + 26 * s + w) := by rw [show (22 : Int32) = nI 22 from rfl, show (26 : Int32) = nI 26 from rfl, pk_mul, nI_add, nI_add]
section RA
variable {μ : Mem} {A : SP} {s k h w : Nat}
theorem m_by (hh : h < 4) (hw : w < 3) : MetA M_X6_by [aR 19 0, aI (nI h), aI (nI w)] μ (rI (μ 20 0 (10 + 3 * h + w)) μ) := by
  refine MetA.of2 k_X6_by rfl (Nat.le_of_ble_eq_true rfl) rfl (B_X6_by_0 ?_)
  rw [i3, nI_clamp (by omega)]
  exact ⟨vp_in_nI (by omega) (by decide), rI_ok rfl rfl⟩
theorem m_of (hs : s < 8) (hw : w < 26) : MetA M_X6_of [aR 19 0, aI (nI s), aI (nI w)] μ (rI (μ 20 0 (22 + 26 * s + w)) μ) := by
  refine MetA.of2 k_X6_of rfl (Nat.le_of_ble_eq_true rfl) rfl (B_X6_of_0 ?_)
  rw [i26, nI_clamp (by omega)]
  exact ⟨vp_in_nI (by omega) (by decide), rI_ok rfl rfl⟩
theorem m_lays {v : Int32} (hs : s < 8) (hw : w < 26) : MetA M_X6_lays [aR 19 0, aI (nI s), aI (nI w), aI v] μ (rV (mset μ 20 0 (upd (μ 20 0) (22 + 26 * s + w) v))) := by
  refine MetA.of2 k_X6_lays rfl (Nat.le_of_ble_eq_true rfl) rfl (B_X6_lays_0 ?_)
  rw [i26, nI_clamp (by omega)]
  exact ⟨vp_in_nI (by omega) (by decide), fun m e => rV_ok e⟩
theorem m_adds {v : Int32} (hh : h < 4) (hw : w < 3) : MetA M_X6_adds [aR 19 0, aI (nI h), aI (nI w), aI v] μ (rV (mset μ 20 0 (upd (μ 20 0) (10 + 3 * h + w) (μ 20 0 (10 + 3 * h + w) + v)))) := by
  refine MetA.of2 k_X6_adds rfl (Nat.le_of_ble_eq_true rfl) rfl (B_X6_adds_0 ?_)
  rw [i3, nI_clamp (by omega)]
  exact ⟨vp_in_nI (by omega) (by decide), vp_in_nI (by omega) (by decide), fun m e => rV_ok e⟩
theorem m_atMost {a b : Nat} (ha : a < 2 ^ 31) (hb : b < 2 ^ 31) : MetA M_X6_atMost [aI (nI a), aI (nI b)] μ (rI (nI (min b a)) μ) := by
  refine MetA.of2 k_X6_atMost rfl (Nat.le_of_ble_eq_true rfl) rfl (B_X6_atMost_0 ?_)
  rw [nI_leI hb ha]
  exact ⟨fun q => rI_ok (by congr 1; omega) rfl, fun q => rI_ok (by congr 1; omega) rfl⟩
theorem m_gets {x y : Nat} (hh : h < 4) (hw : w < 3) (hx : μ 20 0 (10 + 3 * h + w) = nI x) (hxy : x + y < 1000) : MetA M_X6_gets [aR 19 0, aI (nI h), aI (nI w), aI (nI y)] μ (rV (mset μ 20 0 (upd (μ 20 0) (10 + 3 * h + w) (nI (min 99 (x + y)))))) := by
  refine MetA.of2 k_X6_gets rfl (Nat.le_of_ble_eq_true rfl) rfl (B_X6_gets_0 ?_)
  refine ⟨_, _, m_by hh hw, ?_⟩
  rw [hx, nI_add, i3, nI_clamp (by omega)]
  exact ⟨_, _, m_atMost (b := 99) (by omega) (by decide), vp_in_nI (by omega) (by decide), fun m e => rV_ok e⟩
theorem m_apart {a b : Nat} (ha : a < 1000) (hb : b < 1000) : MetA M_X6_apart [aI (nI a), aI (nI b)] μ (rI (nI (dist b a)) μ) := by
  refine MetA.of2 k_X6_apart rfl (Nat.le_of_ble_eq_true rfl) rfl (B_X6_apart_0 ?_)
  rw [nI_leI (by omega) (by omega)]
  unfold dist
  refine ⟨fun q => rI_ok ?_ rfl, fun q => rI_ok ?_ rfl⟩
  · rw [if_pos q, pk_sub q]
  · rw [if_neg q, pk_sub (by omega)]
theorem m_in {a x y : Int32} : MetA M_X6_in [aI a, aI x, aI y] μ (rI (nI (bi (¬ (a < x ∨ y < a)))) μ) := by
  refine MetA.of2 k_X6_in rfl (Nat.le_of_ble_eq_true rfl) rfl (B_X6_in_0 ?_)
  refine ⟨fun q => rI_ok ?_ rfl, fun q => ⟨fun q2 => rI_ok ?_ rfl, fun q2 => rI_ok ?_ rfl⟩⟩
  · rw [bi_f (fun z => z (Or.inl q))]
    rfl
  · rw [bi_f (fun z => z (Or.inr q2))]
    rfl
  · rw [bi_t (by rintro (z | z) <;> contradiction)]
    rfl
theorem nb_bi (c : Prop) [Decidable c] : narrow .boolean (.int (nI (bi c))) = .int (nI (bi c)) := by
  by_cases h : c
  · rw [bi_t h]
    rfl
  · rw [bi_f h]
    rfl
theorem bi_cong {c d : Prop} [Decidable c] [Decidable d] (h : c ↔ d) : bi c = bi d := by
  by_cases x : c
  · rw [bi_t x, bi_t (h.mp x)]
  · rw [bi_f x, bi_f (fun y => x (h.mpr y))]
/-- 'at least n' and 'above n - 1' -/
theorem le_pred {a : Int32} {n : Nat} (hn : n < 1000) (h0 : ¬ a < 0) : (nI n - 1 < a) = (nI n ≤ a) := by
  obtain ⟨x, hx, rfl⟩ := nI_of h0
  cases n with
  | zero => exact propext ⟨fun _ => nI_pos' hx, fun _ => Int32.lt_of_lt_of_le (show nI 0 - 1 < 0 by decide) (nI_pos' hx)⟩
  | succ n =>
    rw [show (1 : Int32) = nI 1 from rfl, pk_sub (by omega), nI_ltI (by omega) hx, nI_leI (by omega) hx]
    exact propext ⟨fun _ => by omega, fun _ => by omega⟩
theorem rng (a : Int32) {n : Nat} (hn : n < 1000) : (¬ (a < 0 ∨ nI n - 1 < a)) ↔ ¬ (a < 0 ∨ nI n ≤ a) := by
  by_cases c : a < 0
  · exact ⟨fun z => absurd (Or.inl c) z, fun z => absurd (Or.inl c) z⟩
  · rw [le_pred hn c]
theorem RM.W {g : Nat → Int32} {A : SP} (G : RM g A) : WF A := G.1
theorem RM.H {g : Nat → Int32} {A : SP} (G : RM g A) : g 0 = nI (sH A) := G.2.1.1
theorem RM.S {g : Nat → Int32} {A : SP} (G : RM g A) : g 1 = nI (sS A) := G.2.1.2.1
theorem RM.R {g : Nat → Int32} {A : SP} (G : RM g A) : g 2 = nI (sR A) := G.2.1.2.2.1
theorem RM.C {g : Nat → Int32} {A : SP} (G : RM g A) {k : Nat} (hk : k < 5) : g (3 + k) = sC A k := G.2.1.2.2.2.1 k hk
theorem RM.F {g : Nat → Int32} {A : SP} (G : RM g A) : g 8 = si (sFp A) (sH A) := G.2.1.2.2.2.2
theorem RM.cn {g : Nat → Int32} {A : SP} (G : RM g A) (hh : h < sH A) : g (10 + 3 * h) = nI (sCn A h) := (G.2.2.1 h hh).1
theorem RM.sh {g : Nat → Int32} {A : SP} (G : RM g A) (hh : h < sH A) : g (10 + 3 * h + 1) = nI (sSh A h) := (G.2.2.1 h hh).2.1
theorem RM.fp {g : Nat → Int32} {A : SP} (G : RM g A) (hh : h < sH A) : g (10 + 3 * h + 2) = sFp A h := (G.2.2.1 h hh).2.2
theorem RM.ow {g : Nat → Int32} {A : SP} (G : RM g A) (hs : s < sS A) : g (22 + 26 * s) = nI (sOw A s) := (G.2.2.2.1 s hs).1
theorem RM.ln {g : Nat → Int32} {A : SP} (G : RM g A) (hs : s < sS A) : g (22 + 26 * s + 1) = nI (sLn A s) := (G.2.2.2.1 s hs).2.1
theorem RM.rt8 {g : Nat → Int32} {A : SP} (G : RM g A) (hs : s < sS A) (hk : k < 8) : g (22 + 26 * s + (2 + k)) = nI (if k < sLn A s then sRt A s k else 0) := ((G.2.2.2.1 s hs).2.2 k hk).1
theorem RM.pl8 {g : Nat → Int32} {A : SP} (G : RM g A) (hs : s < sS A) (hk : k < 8) : g (22 + 26 * s + (10 + k)) = nI (if k < sLn A s then sPl A s k else 0) := ((G.2.2.2.1 s hs).2.2 k hk).2.1
theorem RM.lv8 {g : Nat → Int32} {A : SP} (G : RM g A) (hs : s < sS A) (hk : k < 8) : g (22 + 26 * s + (18 + k)) = nI (if k < sLn A s then sLv A s k else 0) := ((G.2.2.2.1 s hs).2.2 k hk).2.2
theorem RM.rt {g : Nat → Int32} {A : SP} (G : RM g A) (hs : s < sS A) (hk : k < sLn A s) : g (22 + 26 * s + (2 + k)) = nI (sRt A s k) := by rw [G.rt8 hs (by have := G.W.ln hs; omega), if_pos hk]
theorem RM.pl {g : Nat → Int32} {A : SP} (G : RM g A) (hs : s < sS A) (hk : k < sLn A s) : g (22 + 26 * s + (10 + k)) = nI (sPl A s k) := by rw [G.pl8 hs (by have := G.W.ln hs; omega), if_pos hk]
theorem RM.lv {g : Nat → Int32} {A : SP} (G : RM g A) (hs : s < sS A) (hk : k < sLn A s) : g (22 + 26 * s + (18 + k)) = nI (sLv A s k) := by rw [G.lv8 hs (by have := G.W.ln hs; omega), if_pos hk]
theorem RM.ki {r : Nat} {g : Nat → Int32} {A : SP} (G : RM g A) (hr : r < sR A) : g (230 + 2 * r) = nI (sKi A r) := (G.2.2.2.2 r hr).1
theorem RM.ta {r : Nat} {g : Nat → Int32} {A : SP} (G : RM g A) (hr : r < sR A) : g (230 + 2 * r + 1) = nI (sTa A r) := (G.2.2.2.2 r hr).2
theorem m_isHouse {a : Int32} (G : RM (μ 20 0) A) : MetA M_X6_isHouse [aR 19 0, aI a] μ (rI (nI (bi (¬ (a < 0 ∨ nI (sH A) ≤ a)))) μ) := by
  have w := G.W.hm
  refine MetA.of2 k_X6_isHouse rfl (Nat.le_of_ble_eq_true rfl) rfl (B_X6_isHouse_0 ?_)
  refine ⟨vp_in_nI (n := 0) (by decide) (by decide), _, _, m_in, nb_bi _, rI_ok ?_ rfl⟩
  rw [show μ 20 0 (0 : Int32).toNatClampNeg = nI (sH A) from G.H]
  rw [bi_cong (rng a (by omega))]
theorem m_isSheet {a : Int32} (G : RM (μ 20 0) A) : MetA M_X6_isSheet [aR 19 0, aI a] μ (rI (nI (bi (¬ (a < 0 ∨ nI (sS A) ≤ a)))) μ) := by
  have w := G.W.sm
  refine MetA.of2 k_X6_isSheet rfl (Nat.le_of_ble_eq_true rfl) rfl (B_X6_isSheet_0 ?_)
  refine ⟨vp_in_nI (n := 1) (by decide) (by decide), _, _, m_in, nb_bi _, rI_ok ?_ rfl⟩
  rw [show μ 20 0 (1 : Int32).toNatClampNeg = nI (sS A) from G.S]
  rw [bi_cong (rng a (by omega))]
theorem m_isPlace {a b : Int32} (G : RM (μ 20 0) A) : MetA M_X6_isPlace [aR 19 0, aI a, aI b] μ (rI (nI (bi (¬ ((a < 0 ∨ nI (sS A) ≤ a) ∨ b < 0 ∨ nI (sLn A a.toNatClampNeg) ≤ b)))) μ) := by
  have w := G.W.sm
  refine MetA.of2 k_X6_isPlace rfl (Nat.le_of_ble_eq_true rfl) rfl (B_X6_isPlace_0 ?_)
  refine ⟨_, _, m_isSheet G, ?_⟩
  rcases (show (a < 0 ∨ nI (sS A) ≤ a) ∨ ∃ h, h < sS A ∧ a = nI h from in_or a (by omega)) with c | ⟨s, hs, rfl⟩
  · rw [bi_f (fun z => z c), bi_f (fun z => z (Or.inl c))]
    exact ⟨fun _ => rI_ok rfl rfl, fun q => absurd rfl q⟩
  · have w2 := G.W.ln hs
    have cs := in_no hs (by omega)
    have h := m_of (μ := μ) (s := s) (w := 1) (by omega) (by decide)
    rw [G.ln hs] at h
    rw [bi_t cs, nI_clamp (show s < 2 ^ 31 by omega)]
    refine ⟨fun q => absurd q (by decide), fun _ => ⟨_, _, h, _, _, m_in, fun q => ?_, fun q => ?_⟩⟩
    · by_cases c : b < 0
      · rw [bi_f (fun z => z (Or.inr (Or.inl c)))]
        exact rI_ok rfl rfl
      · rw [bi_cong (rng b (by omega))] at q
        by_cases c2 : nI (sLn A s) ≤ b
        · rw [bi_f (fun z => z (Or.inr (Or.inr c2)))]
          exact rI_ok rfl rfl
        · rw [bi_t (by rintro (z | z) <;> contradiction)] at q
          exact absurd q (by decide)
    · by_cases c : b < 0
      · rw [bi_f (fun z => z (Or.inl c))] at q
        exact absurd rfl q
      · rw [bi_cong (rng b (by omega))] at q
        by_cases c2 : nI (sLn A s) ≤ b
        · rw [bi_f (fun z => z (Or.inr c2))] at q
          exact absurd rfl q
        · rw [bi_t (by rintro (z | z | z); exact cs z; exact c z; exact c2 z)]
          exact rI_ok rfl rfl
theorem m_mark (G : RM (μ 20 0) A) (hs : s < sS A) (hk : k < sLn A s) : MetA M_X6_mark [aR 19 0, aI (nI s), aI (nI k)] μ (rI (nI (sLv A s k)) μ) := by
  have w := G.W.sm
  have w2 := G.W.ln hs
  have h := m_of (μ := μ) (s := s) (w := 18 + k) (by omega) (by omega)
  rw [G.lv hs hk] at h
  refine MetA.of2 k_X6_mark rfl (Nat.le_of_ble_eq_true rfl) rfl (B_X6_mark_0 ?_)
  rw [show (18 : Int32) = nI 18 from rfl, nI_add]
  exact ⟨_, _, h, rI_ok rfl rfl⟩
theorem m_bad (G : RM (μ 20 0) A) (hs : s < sS A) (hk : k < sLn A s) : MetA M_X6_bad [aR 19 0, aI (nI s), aI (nI k)] μ (rI (nI (sBad A s k)) μ) := by
  have w := G.W.sm
  have w2 := G.W.ln hs
  have w3 := G.W.rt hs hk
  have w4 := G.W.pl hs hk
  have h := m_of (μ := μ) (s := s) (w := 10 + k) (by omega) (by omega)
  have h2 := m_of (μ := μ) (s := s) (w := 2 + k) (by omega) (by omega)
  rw [G.pl hs hk] at h
  rw [G.rt hs hk] at h2
  refine MetA.of2 k_X6_bad rfl (Nat.le_of_ble_eq_true rfl) rfl (B_X6_bad_0 ?_)
  rw [show (10 : Int32) = nI 10 from rfl, nI_add, show (2 : Int32) = nI 2 from rfl, nI_add]
  exact ⟨_, _, h, _, _, h2, _, _, m_apart (by omega) (by omega), rI_ok rfl rfl⟩
/-! what stands of a call -/
def faM (μ : Mem) (c : Int32) : Mem := mset μ 19 0 (upd (upd (μ 19 0) 8 c) 7 0)
theorem m_fails {c : Int32} : MetA M_X6_fails [aR 19 0, aI c] μ (rI (nI (bi (¬ c ≤ 0))) (faM μ c)) := by
  refine MetA.of2 k_X6_fails rfl (Nat.le_of_ble_eq_true rfl) rfl (B_X6_fails_0 ?_)
  intro m e m2 e2
  have e3 : m2 = faM μ c := by
    rw [e2, e, mset_s, mset_mset]
    rfl
  refine ⟨fun q => rI_ok ?_ e3, fun q => rI_ok ?_ e3⟩
  · rw [bi_f (fun z => z q)]
    rfl
  · rw [bi_t q]
    rfl
def rfM (μ : Mem) (c r d : Int32) : Mem := mset μ 19 0 (upd (upd (upd (upd (upd (upd (μ 19 0) 8 c) 7 1) 9 r) 10 d) 11 0) 12 0)
theorem m_refuses {c r d : Int32} : MetA M_X6_refuses [aR 19 0, aI c, aI r, aI d] μ (rI 0 (rfM μ c r d)) := by
  refine MetA.of2 k_X6_refuses rfl (Nat.le_of_ble_eq_true rfl) rfl (B_X6_refuses_0 ?_)
  intro m e m2 e2 m3 e3 m4 e4 m5 e5 m6 e6
  refine rI_ok rfl ?_
  rw [e6, e5, e4, e3, e2, e, mset_s, mset_s, mset_s, mset_s, mset_s, mset_mset, mset_mset, mset_mset, mset_mset, mset_mset]
  rfl
/-- a row copied -/
def cpR (μ : Mem) (t x t2 y n : Nat) : Mem := mset μ t2 0 (fun i => if y ≤ i ∧ i < y + n then μ t 0 (x + (i - y)) else μ t2 0 i)
theorem m_copies {t x t2 y : Nat} (hk : kd t = 1) (hc : hasC t 0 = true) (hk2 : kd t2 = 1) (hc2 : hasC t2 0 = true) (ht : t ≠ t2) (hx : x + 240 ≤ ln t) (hy : y + 240 ≤ ln t2) (hb : ln t ≤ 2000 ∧ ln t2 ≤ 2000) : MetA M_X6_copies [aR t 0, aI (nI x), aR t2 0, aI (nI y)] μ (rV (cpR μ t x t2 y 240)) := by
  refine MetA.of2 k_X6_copies rfl (Nat.le_of_ble_eq_true rfl) rfl (B_X6_copies_0 hk hc hk2 hc2 ?_)
  have key : ∀ P, AW M_X6_copies 0 3 [some (aR t 0), some (aI (nI x)), some (aR t2 0), some (aI (nI y)), some (aI (nI 240))] [] (cpR μ t x t2 y 240) P → AW M_X6_copies 0 3 [some (aR t 0), some (aI (nI x)), some (aR t2 0), some (aI (nI y)), some (aI (nI 0))] [] (cpR μ t x t2 y 0) P := by
    refine loopF 240 (fun n => ∀ P, AW M_X6_copies 0 3 [some (aR t 0), some (aI (nI x)), some (aR t2 0), some (aI (nI y)), some (aI (nI n))] [] (cpR μ t x t2 y n) P → AW M_X6_copies 0 3 [some (aR t 0), some (aI (nI x)), some (aR t2 0), some (aI (nI y)), some (aI (nI 0))] [] (cpR μ t x t2 y 0) P) (fun P h => h) ?_
    intro n hn ih P h
    refine ih P (B_X6_copies_3 hk hc hk2 hc2 ?_)
    rw [nI_add, nI_add, nI_clamp (by omega), nI_clamp (by omega)]
    refine ⟨fun q => absurd (show nI 240 ≤ nI n from q) (nI_ge hn (by decide)), fun _ => ⟨vp_in_nI (by omega) (by omega), vp_in_nI (by omega) (by omega), fun m e => ?_⟩⟩
    have e2 : m = cpR μ t x t2 y (n + 1) := by
      rw [e]
      unfold cpR
      rw [mset_s, mset_t ht, mset_mset]
      congr 1
      funext i
      rw [uget]
      by_cases c : i = y + n
      · rw [if_pos c, if_pos (by omega), c, Nat.add_sub_cancel_left]
      · rw [if_neg c]
        by_cases c2 : y ≤ i ∧ i < y + n
        · rw [if_pos c2, if_pos (by omega)]
        · rw [if_neg c2, if_neg (by omega)]
    rw [e2, show (1 : Int32) = nI 1 from rfl, nI_add]
    exact h
  have e0 : cpR μ t x t2 y 0 = μ := by
    unfold cpR
    rw [show (fun i => if y ≤ i ∧ i < y + 0 then μ t 0 (x + (i - y)) else μ t2 0 i) = μ t2 0 from funext fun i => if_neg (by omega), mset_id]
  rw [e0] at key
  refine key _ (B_X6_copies_3 hk hc hk2 hc2 ?_)
  exact ⟨fun _ => rV_ok rfl, fun q => absurd (show (240 : Int32) ≤ nI 240 by decide) q⟩
theorem RM.cong {g g' : Nat → Int32} {A : SP} (h : ∀ i, i < 240 → g' i = g i) (G : RM g A) : RM g' A := by
  have w1 := G.W.hm
  have w2 := G.W.sm
  have w3 := G.W.rm
  refine ⟨G.W, ⟨by rw [h 0 (by omega)]; exact G.H, by rw [h 1 (by omega)]; exact G.S, by rw [h 2 (by omega)]; exact G.R, fun k hk => by rw [h _ (by omega)]; exact G.C hk, by rw [h 8 (by omega)]; exact G.F⟩, fun i hi => ⟨by rw [h _ (by omega)]; exact G.cn hi, by rw [h _ (by omega)]; exact G.sh hi, by rw [h _ (by omega)]; exact G.fp hi⟩, fun s hs => ⟨by rw [h _ (by omega)]; exact G.ow hs, by rw [h _ (by omega)]; exact G.ln hs, fun k hk => ⟨by rw [h _ (by omega)]; exact G.rt8 hs hk, by rw [h _ (by omega)]; exact G.pl8 hs hk, by rw [h _ (by omega)]; exact G.lv8 hs hk⟩⟩, fun r hr => ⟨by rw [h _ (by omega)]; exact G.ki hr, by rw [h _ (by omega)]; exact G.ta hr⟩⟩
/-- the history of the reference -/
def HM (μ : Mem) (f : Nat → SP) (n : Nat) : Prop := n ≤ 8 ∧ μ 19 0 5 = nI n ∧ ∀ i, i < n → RM (fun k => μ 21 0 (240 * i + k)) (f i)
def KP (μ μ' : Mem) (A : SP) : Prop := (∀ t o, ¬ (t = 19 ∧ o = 0) → ¬ (t = 21 ∧ o = 0) → μ' t o = μ t o) ∧ (∀ k, k ≠ 5 → k ≠ 8 → μ' 19 0 k = μ 19 0 k) ∧ μ' 19 0 8 = 0 ∧ (¬ μ 19 0 6 = 0 → μ' 19 0 5 = μ 19 0 5 ∧ μ' 21 0 = μ 21 0) ∧ (μ 19 0 6 = 0 → ∀ f n, HM μ f n → HM μ' (kF f n A) (kN n))
theorem m_keepW {t : Nat} (hk : kd t = 1) (hc : hasC t 0 = true) (h6 : ¬ μ 19 0 6 = 0) : ∃ μ', MetA M_X6_keeps [aR 19 0, aR t 0] μ (rV μ') ∧ KP μ μ' A := by
  refine ⟨mset μ 19 0 (upd (μ 19 0) 8 0), ?_, ⟨fun t o x y => mset_n x, fun k x y => by rw [mset_s, uget, if_neg y], by rw [mset_s]; rfl, fun _ => ⟨by rw [mset_s]; rfl, mset_t (by decide)⟩, fun q => absurd q h6⟩⟩
  refine MetA.of2 k_X6_keeps rfl (Nat.le_of_ble_eq_true rfl) rfl (B_X6_keeps_0 hk hc ?_)
  intro m e
  have e6 : m 19 0 6 = μ 19 0 6 := by rw [e, mset_s]; rfl
  rw [e6]
  exact ⟨fun q => absurd q h6, fun _ => rV_ok e⟩
def shR (μ : Mem) (n : Nat) : Mem := mset μ 21 0 (fun i => if i < n then μ 21 0 (i + 240) else μ 21 0 i)
theorem m_keep0 {t n : Nat} {f : Nat → SP} (ht : t = 20 ∨ t = 23) (h6 : μ 19 0 6 = 0) (Hh : HM μ f n) (G : RM (μ t 0) A) : ∃ μ', MetA M_X6_keeps [aR 19 0, aR t 0] μ (rV μ') ∧ KP μ μ' A := by
  have hk : kd t = 1 := by rcases ht with rfl | rfl <;> rfl
  have hc : hasC t 0 = true := by rcases ht with rfl | rfl <;> rfl
  have hl : ln t = 240 := by rcases ht with rfl | rfl <;> rfl
  have t1 : t ≠ 19 := by rcases ht with rfl | rfl <;> decide
  have t2 : t ≠ 21 := by rcases ht with rfl | rfl <;> decide
  obtain ⟨hn, h5, _⟩ := Hh
  obtain ⟨m1, e1⟩ : ∃ m1 : Mem, m1 = mset μ 19 0 (upd (μ 19 0) 8 0) := ⟨_, rfl⟩
  have f5 : m1 19 0 5 = nI n := by rw [e1, mset_s]; exact h5
  have f6 : m1 19 0 6 = 0 := by rw [e1, mset_s]; exact h6
  have ft : m1 t 0 = μ t 0 := by rw [e1, mset_t t1]
  have f21 : m1 21 0 = μ 21 0 := by rw [e1, mset_t (by decide)]
  by_cases c : n = 8
  · subst c
    obtain ⟨m2, e2⟩ : ∃ m2 : Mem, m2 = mset (shR m1 1680) 19 0 (upd (m1 19 0) 5 (nI 7)) := ⟨_, rfl⟩
    have x21 : m2 21 0 = fun i => if i < 1680 then μ 21 0 (i + 240) else μ 21 0 i := by rw [e2, mset_t (by decide), shR, mset_s, f21]
    refine ⟨mset (cpR m2 t 0 21 1680 240) 19 0 (upd (m2 19 0) 5 (nI 8)), ?_, ?_⟩
    · refine MetA.of2 k_X6_keeps rfl (Nat.le_of_ble_eq_true rfl) rfl (B_X6_keeps_0 hk hc ?_)
      intro m e
      rw [← e1] at e
      subst e
      rw [f5, f6]
      refine ⟨fun _ => ⟨fun q => absurd (show nI 8 = 8 from rfl) q, fun _ => ?_⟩, fun q => absurd rfl q⟩
      have key : ∀ P, AW M_X6_keeps 0 24 [some (aR 19 0), some (aR t 0), some (aI (nI 1680))] [] (shR m 1680) P → AW M_X6_keeps 0 24 [some (aR 19 0), some (aR t 0), some (aI (nI 0))] [] (shR m 0) P := by
        refine loopF 1680 (fun n => ∀ P, AW M_X6_keeps 0 24 [some (aR 19 0), some (aR t 0), some (aI (nI n))] [] (shR m n) P → AW M_X6_keeps 0 24 [some (aR 19 0), some (aR t 0), some (aI (nI 0))] [] (shR m 0) P) (fun P h => h) ?_
        intro n hn ih P h
        refine ih P (B_X6_keeps_24 hk hc ?_)
        rw [show (240 : Int32) = nI 240 from rfl, nI_add, nI_clamp (by omega), nI_clamp (by omega)]
        refine ⟨fun q => absurd (show nI 1680 ≤ nI n from q) (nI_ge hn (by decide)), fun _ => ⟨vp_in_nI (by omega) (by omega), vp_in_nI (by omega) (by omega), fun m' e' => ?_⟩⟩
        have e2 : m' = shR m (n + 1) := by
          rw [e']
          unfold shR
          rw [mset_s, mset_mset]
          congr 1
          funext i
          rw [uget]
          by_cases c : i = n
          · rw [if_pos c, if_neg (by omega), if_pos (by omega), c]
          · rw [if_neg c]
            by_cases c2 : i < n
            · rw [if_pos c2, if_pos (by omega)]
            · rw [if_neg c2, if_neg (by omega)]
        rw [e2, show (1 : Int32) = nI 1 from rfl, nI_add]
        exact h
      have e0 : shR m 0 = m := by
        unfold shR
        rw [show (fun i => if i < 0 then m 21 0 (i + 240) else m 21 0 i) = m 21 0 from funext fun i => if_neg (by omega), mset_id]
      rw [e0] at key
      refine key _ (B_X6_keeps_24 hk hc ?_)
      have s19 : shR m 1680 19 0 = m 19 0 := mset_t (by decide)
      rw [s19, f5]
      refine ⟨fun _ => fun m' em => ?_, fun q => absurd (show (1680 : Int32) ≤ nI 1680 by decide) q⟩
      have em2 : m' = m2 := by rw [em, e2]; rfl
      subst em2
      have g5 : m' 19 0 5 = nI 7 := by rw [e2, mset_s]; rfl
      rw [g5]
      refine ⟨_, m_copies (x := 0) (y := 1680) hk hc rfl rfl t2 (by rw [hl]; decide) (by decide) (by rw [hl]; decide), fun m7 e7 => rV_ok ?_⟩
      have c19 : cpR m' t 0 21 1680 240 19 0 = m' 19 0 := mset_t (by decide)
      rw [e7, c19, g5]
      rfl
    · refine ⟨fun t' o x y => ?_, fun k x y => ?_, ?_, fun q => absurd h6 q, fun _ f' n' Hf => ?_⟩
      · rw [mset_n x, cpR, mset_n y, e2, mset_n x, shR, mset_n y, e1, mset_n x]
      · rw [mset_s, uget, if_neg x, e2, mset_s, uget, if_neg x, e1, mset_s, uget, if_neg y]
      · rw [mset_s, uget, if_neg (by decide), e2, mset_s, uget, if_neg (by decide), e1, mset_s]
        rfl
      · obtain ⟨hn', h5', hf'⟩ := Hf
        have en : n' = 8 := by
          rw [h5] at h5'
          have := (nI_eq (a := 8) (b := n') (by decide) (by omega)).mp h5'
          omega
        subst en
        refine ⟨by decide, by rw [mset_s]; rfl, fun i hi => ?_⟩
        have hi' : i < 8 := hi
        have z21 : mset (cpR m2 t 0 21 1680 240) 19 0 (upd (m2 19 0) 5 (nI 8)) 21 0 = fun i => if 1680 ≤ i ∧ i < 1920 then μ t 0 (i - 1680) else if i < 1680 then μ 21 0 (i + 240) else μ 21 0 i := by
          rw [mset_t (by decide), cpR, mset_s, x21]
          funext i
          have : m2 t 0 = μ t 0 := by rw [e2, mset_t t1, shR, mset_t t2, ft]
          rw [this, Nat.zero_add]
        rw [z21]
        show RM _ (if i = 7 then A else f' (i + 1))
        by_cases c7 : i = 7
        · rw [if_pos c7, c7]
          refine RM.cong (fun k hk => ?_) G
          show (if _ then _ else _) = _
          rw [if_pos (by omega), show 240 * 7 + k - 1680 = k by omega]
        · rw [if_neg c7]
          refine RM.cong (fun k hk => ?_) (hf' (i + 1) (by omega))
          show (if _ then _ else _) = _
          rw [if_neg (by omega), if_pos (by omega), show 240 * i + k + 240 = 240 * (i + 1) + k by omega]
  · refine ⟨mset (cpR m1 t 0 21 (240 * n) 240) 19 0 (upd (m1 19 0) 5 (nI (n + 1))), ?_, ?_⟩
    · refine MetA.of2 k_X6_keeps rfl (Nat.le_of_ble_eq_true rfl) rfl (B_X6_keeps_0 hk hc ?_)
      intro m e
      rw [← e1] at e
      subst e
      rw [f5, f6, show (240 : Int32) = nI 240 from rfl, pk_mul]
      refine ⟨fun _ => ⟨fun _ => ⟨_, m_copies (x := 0) (y := 240 * n) hk hc rfl rfl t2 (by rw [hl]; decide) (by show 240 * n + 240 ≤ 1920; omega) (by rw [hl]; decide), fun m13 e13 => rV_ok ?_⟩, fun q => absurd ((nI_eq (b := 8) (by omega) (by decide)).mp q) c⟩, fun q => absurd rfl q⟩
      have c19 : cpR m t 0 21 (240 * n) 240 19 0 = m 19 0 := mset_t (by decide)
      rw [e13, c19, f5, show (1 : Int32) = nI 1 from rfl, nI_add]
    · refine ⟨fun t' o x y => ?_, fun k x y => ?_, ?_, fun q => absurd h6 q, fun _ f' n' Hf => ?_⟩
      · rw [mset_n x, cpR, mset_n y, e1, mset_n x]
      · rw [mset_s, uget, if_neg x, e1, mset_s, uget, if_neg y]
      · rw [mset_s, uget, if_neg (by decide), e1, mset_s]
        rfl
      · obtain ⟨hn', h5', hf'⟩ := Hf
        have en : n' = n := by
          rw [h5] at h5'
          exact ((nI_eq (by omega) (by omega)).mp h5').symm
        subst en
        unfold kN kF
        rw [if_neg c, if_neg c]
        refine ⟨by omega, by rw [mset_s]; rfl, fun i hi => ?_⟩
        have z21 : mset (cpR m1 t 0 21 (240 * n') 240) 19 0 (upd (m1 19 0) 5 (nI (n' + 1))) 21 0 = fun i => if 240 * n' ≤ i ∧ i < 240 * n' + 240 then μ t 0 (i - 240 * n') else μ 21 0 i := by
          rw [mset_t (by decide), cpR, mset_s, f21, ft]
          funext i
          rw [Nat.zero_add]
        rw [z21]
        show RM _ (if i = n' then A else f' i)
        by_cases c7 : i = n'
        · rw [if_pos c7, c7]
          refine RM.cong (fun k hk => ?_) G
          show (if _ then _ else _) = _
          rw [if_pos (by omega), Nat.add_sub_cancel_left]
        · rw [if_neg c7]
          refine RM.cong (fun k hk => ?_) (hf' i (by omega))
          show (if _ then _ else _) = _
          rw [if_neg (by omega)]
end RA
