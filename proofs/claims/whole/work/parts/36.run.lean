/-! orders carried out -/
def chO (A : SP) (o : OD) : CH :=
  if o.1 = 104 then chHouse A (nI o.2.1) else if o.1 = 115 then chSheet A (nI o.2.1) (nI o.2.2.1) else if o.1 = 109 then chSet A (nI o.2.1) (nI o.2.2.1) (nI o.2.2.2) else if o.1 = 108 then chLic A (nI o.2.1) (nI o.2.2.1) else if o.1 = 99 then chCor A (nI o.2.1) (nI o.2.2.1) else if o.1 = 114 then chRead A (nI o.2.1) (nI o.2.2.1) else if o.1 = 120 then chTake A (nI o.2.1) else if o.1 = 101 then chEd A else chDay A
def exL : List OD → SP → Nat → SP ⊕ Option (Nat × Int32 × Int32)
  | [], A, _ => .inl A
  | o :: l, A, d => match chO A o with
    | .inl p => exL l p.2 (d + 1)
    | .inr p => if p.1 = 2 then .inr (some (d, p.2.1, p.2.2)) else .inr none
theorem c2_O {A : SP} {o : OD} : ∀ p, chO A o = .inr p → p.1 ≤ 2 := by
  intro p h
  unfold chO at h
  repeat' split at h
  · exact c2_house p h
  · exact c2_sheet p h
  · exact c2_set p h
  · exact c2_license p h
  · exact c2_correct p h
  · exact c2_reader p h
  · exact c2_take p h
  · exact c2_edition p h
  · exact absurd h (by unfold chDay; exact fun q => by cases q)
def okO (o : OD) : Prop := o.1 = 104 ∨ o.1 = 115 ∨ o.1 = 109 ∨ o.1 = 108 ∨ o.1 = 99 ∨ o.1 = 114 ∨ o.1 = 120 ∨ o.1 = 101 ∨ o.1 = 100
theorem pO_ok {n : Nat} {g : Nat → Nat} {p : Nat} : (pO n g p).1 = true → okO (pO n g p).2.2 := by
  unfold pO
  repeat' split
  all_goals first | exact fun h => absurd (show false = true from h) Bool.false_ne_true | skip
  all_goals intro _
  all_goals unfold okO
  all_goals first | omega | (simp only [true_or, or_true]; done) | (simp only; omega)
theorem nO_ok {n : Nat} {g : Nat → Nat} {p : Nat} (h : (nO n g p).1 = true) : okO (nO n g p).2.2 := by
  unfold nO at h ⊢
  repeat' split at h
  · rename_i c
    rw [if_pos c]
    exact pO_ok h
  · rename_i c d
    rw [if_neg c, if_pos d]
    exact pO_ok h
  · exact absurd (show false = true from h) Bool.false_ne_true
section SO
variable {μ : Mem} {A : SP} {T : TT}
theorem c_carryOutOrder {o : OD} (R : RC μ 0 A) (F : FM (μ 15 0) o) (K : okO o) : ∃ μ', MetA M_X5_carryOutOrder [aR 11 0] μ (rI (outc (chO A o)) μ') ∧ CO μ μ' (chO A o) := by
  obtain ⟨f1, f2, f3, f4⟩ := F
  have kb : o.1 < 200 := by unfold okO at K; omega
  have e : (μ 15 0 3).toInt = (o.1 : Int) := by rw [f1, nI_toInt (by omega)]
  unfold chO
  by_cases c1 : o.1 = 104
  · rw [if_pos c1]
    obtain ⟨m, h1, h2⟩ := c_addHouse (a := nI o.2.1) R
    refine ⟨m, ?_, h2⟩
    refine MetA.of2 k_X5_carryOutOrder rfl (Nat.le_of_ble_eq_true rfl) rfl (B_X5_carryOutOrder_0 ?_)
    rw [e, f2 (by omega) (by omega)]
    exact ⟨fun q => absurd q (by omega), fun q => absurd q (by omega), fun _ => ⟨_, _, h1, rI_ok rfl rfl⟩, fun q => absurd q (by omega), fun q => absurd q (by omega), fun q => absurd q (by omega), fun q => absurd q (by omega), fun q => absurd q (by omega), fun _ _ _ _ _ _ _ _ => False.elim (by omega)⟩
  rw [if_neg c1]
  by_cases c2 : o.1 = 115
  · rw [if_pos c2]
    obtain ⟨m, h1, h2⟩ := c_addSheet (a := nI o.2.1) (x := nI o.2.2.1) R
    refine ⟨m, ?_, h2⟩
    refine MetA.of2 k_X5_carryOutOrder rfl (Nat.le_of_ble_eq_true rfl) rfl (B_X5_carryOutOrder_0 ?_)
    rw [e, f2 (by omega) (by omega), f3 (by omega)]
    exact ⟨fun q => absurd q (by omega), fun q => absurd q (by omega), fun q => absurd q (by omega), fun q => absurd q (by omega), fun q => absurd q (by omega), fun q => absurd q (by omega), fun _ => ⟨_, _, h1, rI_ok rfl rfl⟩, fun q => absurd q (by omega), fun _ _ _ _ _ _ _ _ => False.elim (by omega)⟩
  rw [if_neg c2]
  by_cases c3 : o.1 = 109
  · rw [if_pos c3]
    obtain ⟨m, h1, h2⟩ := c_setLetter (a := nI o.2.1) (b := nI o.2.2.1) (c := nI o.2.2.2) R
    refine ⟨m, ?_, h2⟩
    refine MetA.of2 k_X5_carryOutOrder rfl (Nat.le_of_ble_eq_true rfl) rfl (B_X5_carryOutOrder_0 ?_)
    rw [e, f2 (by omega) (by omega), f3 (by omega), f4 c3]
    exact ⟨fun q => absurd q (by omega), fun q => absurd q (by omega), fun q => absurd q (by omega), fun q => absurd q (by omega), fun _ => ⟨_, _, h1, rI_ok rfl rfl⟩, fun q => absurd q (by omega), fun q => absurd q (by omega), fun q => absurd q (by omega), fun _ _ _ _ _ _ _ _ => False.elim (by omega)⟩
  rw [if_neg c3]
  by_cases c4 : o.1 = 108
  · rw [if_pos c4]
    obtain ⟨m, h1, h2⟩ := c_sellLicence (a := nI o.2.1) (b := nI o.2.2.1) R
    refine ⟨m, ?_, h2⟩
    refine MetA.of2 k_X5_carryOutOrder rfl (Nat.le_of_ble_eq_true rfl) rfl (B_X5_carryOutOrder_0 ?_)
    rw [e, f2 (by omega) (by omega), f3 (by omega)]
    exact ⟨fun q => absurd q (by omega), fun q => absurd q (by omega), fun q => absurd q (by omega), fun _ => ⟨_, _, h1, rI_ok rfl rfl⟩, fun q => absurd q (by omega), fun q => absurd q (by omega), fun q => absurd q (by omega), fun q => absurd q (by omega), fun _ _ _ _ _ _ _ _ => False.elim (by omega)⟩
  rw [if_neg c4]
  by_cases c5 : o.1 = 99
  · rw [if_pos c5]
    obtain ⟨m, h1, h2⟩ := c_takeFine (a := nI o.2.1) (b := nI o.2.2.1) R
    refine ⟨m, ?_, h2⟩
    refine MetA.of2 k_X5_carryOutOrder rfl (Nat.le_of_ble_eq_true rfl) rfl (B_X5_carryOutOrder_0 ?_)
    rw [e, f2 (by omega) (by omega), f3 (by omega)]
    exact ⟨fun _ => ⟨_, _, h1, rI_ok rfl rfl⟩, fun q => absurd q (by omega), fun q => absurd q (by omega), fun q => absurd q (by omega), fun q => absurd q (by omega), fun q => absurd q (by omega), fun q => absurd q (by omega), fun q => absurd q (by omega), fun _ _ _ _ _ _ _ _ => False.elim (by omega)⟩
  rw [if_neg c5]
  by_cases c6 : o.1 = 114
  · rw [if_pos c6]
    obtain ⟨m, h1, h2⟩ := c_addReader (a := nI o.2.1) (b := nI o.2.2.1) R
    refine ⟨m, ?_, h2⟩
    refine MetA.of2 k_X5_carryOutOrder rfl (Nat.le_of_ble_eq_true rfl) rfl (B_X5_carryOutOrder_0 ?_)
    rw [e, f2 (by omega) (by omega), f3 (by omega)]
    exact ⟨fun q => absurd q (by omega), fun q => absurd q (by omega), fun q => absurd q (by omega), fun q => absurd q (by omega), fun q => absurd q (by omega), fun _ => ⟨_, _, h1, rI_ok rfl rfl⟩, fun q => absurd q (by omega), fun q => absurd q (by omega), fun _ _ _ _ _ _ _ _ => False.elim (by omega)⟩
  rw [if_neg c6]
  by_cases c7 : o.1 = 120
  · rw [if_pos c7]
    obtain ⟨m, h1, h2⟩ := c_takeSheet (a := nI o.2.1) R
    refine ⟨m, ?_, h2⟩
    refine MetA.of2 k_X5_carryOutOrder rfl (Nat.le_of_ble_eq_true rfl) rfl (B_X5_carryOutOrder_0 ?_)
    rw [e, f2 (by omega) (by omega)]
    exact ⟨fun q => absurd q (by omega), fun q => absurd q (by omega), fun q => absurd q (by omega), fun q => absurd q (by omega), fun q => absurd q (by omega), fun q => absurd q (by omega), fun q => absurd q (by omega), fun _ => ⟨_, _, h1, rI_ok rfl rfl⟩, fun _ _ _ _ _ _ _ _ => False.elim (by omega)⟩
  rw [if_neg c7]
  by_cases c8 : o.1 = 101
  · rw [if_pos c8]
    obtain ⟨m, h1, h2⟩ := c_printEdition R
    refine ⟨m, ?_, h2⟩
    refine MetA.of2 k_X5_carryOutOrder rfl (Nat.le_of_ble_eq_true rfl) rfl (B_X5_carryOutOrder_0 ?_)
    rw [e]
    exact ⟨fun q => absurd q (by omega), fun _ => ⟨_, _, h1, rI_ok rfl rfl⟩, fun q => absurd q (by omega), fun q => absurd q (by omega), fun q => absurd q (by omega), fun q => absurd q (by omega), fun q => absurd q (by omega), fun q => absurd q (by omega), fun _ _ _ _ _ _ _ _ => False.elim (by omega)⟩
  rw [if_neg c8]
  have w := R.W.hm
  obtain ⟨m, h1, h2, h3⟩ := c_passDay (j := 0) (by decide) R
  have w2 := sm_le (f := fun h => bi (20 < sSh (oDay A) h)) (c := 1) (n := sH A) (fun h _ => by show bi _ ≤ 1; unfold bi; split <;> omega)
  refine ⟨m, ?_, ⟨_, by omega, rfl⟩, h2, h3⟩
  refine MetA.of2 k_X5_carryOutOrder rfl (Nat.le_of_ble_eq_true rfl) rfl (B_X5_carryOutOrder_0 ?_)
  rw [e]
  exact ⟨fun q => absurd q (by omega), fun q => absurd q (by omega), fun q => absurd q (by omega), fun q => absurd q (by omega), fun q => absurd q (by omega), fun q => absurd q (by omega), fun q => absurd q (by omega), fun q => absurd q (by omega), fun _ _ _ _ _ _ _ _ => ⟨_, _, h1, rI_ok rfl rfl⟩⟩
def stB (μ : Mem) (r d : Int32) : Mem := mset μ 14 0 (upd (upd (upd (upd (μ 14 0) 2 (μ 14 0 0)) 3 (μ 14 0 1)) 0 r) 1 d)
theorem c_standBehind {r d : Int32} : MetA M_X3_standBehind [aR 14 0, aI r, aI d] μ (rV (stB μ r d)) := by
  refine MetA.of2 k_X3_standBehind rfl (Nat.le_of_ble_eq_true rfl) rfl (B_X3_standBehind_0 ?_)
  intro m e m2 e2 m3 e3 m4 e4
  refine rV_ok ?_
  rw [e4, e3, e2, e, mset_s, mset_s, mset_s, mset_mset, mset_mset, mset_mset]
  rfl
/-- what carrying out a text can change -/
def Rn (μ μ' : Mem) : Prop := ∀ t o, ¬ (t < 11 ∧ o = 0) → ¬ (t = 15 ∧ o = 0) → ¬ (t = 14 ∧ o = 0) → μ' t o = μ t o
theorem Rn.tr {μ μ1 μ2 : Mem} (h1 : Rn μ μ1) (h2 : Rn μ1 μ2) : Rn μ μ2 := fun t o a b c => (h2 t o a b c).trans (h1 t o a b c)
def exr (x : SP ⊕ Option (Nat × Int32 × Int32)) (n : Nat) : Int32 → Prop := fun v => match x with
  | .inl _ => v = nI n
  | .inr none => v < 0 ∧ ¬ v = -3
  | .inr (some _) => v = -3
def exm (x : SP ⊕ Option (Nat × Int32 × Int32)) (μ μ' : Mem) : Prop := match x with
  | .inl A => RC μ' 0 A ∧ μ' 14 0 = μ 14 0
  | .inr none => μ' 14 0 = μ 14 0
  | .inr (some p) => FC μ' (9, nI p.1, p.2.1, p.2.2)
theorem c_carryOutAll {n : Nat} {g : Nat → Nat} (R : RC μ 0 A) (hT : TX μ n g) (h1 : μ 15 0 1 = nI n) (hok : (uT n g 61 0).1 = true) : ∃ (μ' : Mem) (v : Int32), MetA M_X5_carryOutAll [aR 11 0] μ (rI v μ') ∧ exr (exL (uT n g 61 0).2.2 A 0) (uT n g 61 0).2.2.length v ∧ exm (exL (uT n g 61 0).2.2 A 0) μ μ' ∧ Rn μ μ' ∧ μ' 15 0 1 = nI n := by
  have w := hT.1
  have key : ∀ f p k m A l, (p = n ∧ l = [] ∨ (p < n ∨ p = 0) ∧ n - p < f ∧ (uT n g f p).1 = true ∧ l = (uT n g f p).2.2) → k ≤ p → RC m 0 A → Rn μ m → m 14 0 = μ 14 0 → PT (m 15 0) n p → ∃ μ' v, exr (exL l A k) (k + l.length) v ∧ exm (exL l A k) μ μ' ∧ Rn μ μ' ∧ μ' 15 0 1 = nI n ∧ ∀ P, P (.inl (some (aI v))) μ' → AW M_X5_carryOutAll 0 12 [some (aR 11 0), some (aI (nI k)), some (aI (nI k)), none] [] m P := by
    intro f
    induction f with
    | zero =>
      intro p k m A l hp hk Rm Wm Fm hP
      rcases hp with ⟨hp, rfl⟩ | ⟨_, h, _⟩
      · refine ⟨m, nI k, by show nI k = nI (k + 0); rfl, ⟨Rm, Fm⟩, Wm, hP.1, fun P h => B_X5_carryOutAll_12 ?_⟩
        rw [hP.1, hP.2.1]
        exact ⟨fun _ => h, fun _ => ⟨fun _ => h, fun q => absurd (nI_le (by omega) (by omega)) q⟩⟩
      · omega
    | succ f ih =>
      intro p k m A l hp hk Rm Wm Fm hP
      rcases hp with ⟨hp, rfl⟩ | ⟨hp, hf, hu, hl⟩
      · refine ⟨m, nI k, by show nI k = nI (k + 0); rfl, ⟨Rm, Fm⟩, Wm, hP.1, fun P h => B_X5_carryOutAll_12 ?_⟩
        rw [hP.1, hP.2.1]
        exact ⟨fun _ => h, fun _ => ⟨fun _ => h, fun q => absurd (nI_le (by omega) (by omega)) q⟩⟩
      · have c : (nO n g p).1 = true := by
          refine Classical.byContradiction fun q => ?_
          rw [uT, if_neg q] at hu
          exact absurd (show false = true from hu) Bool.false_ne_true
        have na := nO_at (g := g) hP.2.2
        have nb := na.2.2 c
        have hTm : TX m n g := ⟨w, fun i hi => by rw [Wm 16 0 (by omega) (by omega) (by omega)]; exact hT.2 i hi⟩
        obtain ⟨φ', a1, a2, a3⟩ := c_readNext (φ := m 15 0) hTm hP
        rw [if_pos c] at a1
        rw [show PS m (m 15 0) = m from mset_id m 15 0] at a1
        have R1 : RC (PS m φ') 0 A := RC.mv (fun t ht => mset_t (by omega)) Rm
        have W1 : Rn μ (PS m φ') := fun t o x y z => by rw [show PS m φ' t o = m t o from mset_n y]; exact Wm t o x y z
        obtain ⟨m2, b1, b2⟩ := c_carryOutOrder R1 (by rw [e15]; exact a3 c) (nO_ok c)
        have hstart : ∀ P : RES → Mem → Prop, (((¬ outc (chO A (nO n g p).2.2) = -3 → (0 ≤ outc (chO A (nO n g p).2.2) → AW M_X5_carryOutAll 0 12 [some (aR 11 0), some (aI (nI k + 1)), some (aI (nI k + 1)), none] [] m2 P) ∧ (¬ 0 ≤ outc (chO A (nO n g p).2.2) → P (.inl (some (aI (outc (chO A (nO n g p).2.2))))) m2)) ∧ (outc (chO A (nO n g p).2.2) = -3 → ∃ m24 : Mem, MetA M_X3_standBehind [aR 14 0, aI 9, aI (nI k)] m2 (rV m24) ∧ ((0 ≤ outc (chO A (nO n g p).2.2) → AW M_X5_carryOutAll 0 12 [some (aR 11 0), some (aI (nI k + 1)), some (aI (nI k + 1)), none] [] m24 P) ∧ (¬ 0 ≤ outc (chO A (nO n g p).2.2) → P (.inl (some (aI (outc (chO A (nO n g p).2.2))))) m24))))) → AW M_X5_carryOutAll 0 12 [some (aR 11 0), some (aI (nI k)), some (aI (nI k)), none] [] m P := by
          intro P h
          refine B_X5_carryOutAll_12 ?_
          rw [hP.1, hP.2.1]
          refine ⟨fun q => absurd (show nI 60 ≤ nI k from q) (nI_ge (by omega) (by decide)), fun _ => ⟨fun q => absurd q (nI_ge (by omega) (by omega)), fun _ => ⟨_, _, a1, fun q => absurd q (by decide), fun _ => ⟨_, _, b1, h⟩⟩⟩⟩
        have le : l = (nO n g p).2.2 :: (if (nO n g p).2.1 < n then (uT n g f (nO n g p).2.1).2.2 else []) := by
          rw [hl, uT, if_pos c]
          split <;> rfl
        rw [le, exL]
        cases hc : chO A (nO n g p).2.2 with
        | inl q =>
          rw [hc] at b2 hstart
          obtain ⟨⟨v, hv, ev⟩, b3, b4⟩ := b2
          have W2 : Rn μ m2 := W1.tr fun t o x y z => b4 t o x
          have F2 : m2 14 0 = μ 14 0 := by rw [b4 14 0 (by omega)]; exact (mset_t (by decide)).trans Fm
          have P2 : PT (m2 15 0) n (nO n g p).2.1 := by rw [b4 15 0 (by omega), e15]; exact a2
          obtain ⟨μ', v', d1, d2, d3, d4, d5⟩ := ih (nO n g p).2.1 (k + 1) m2 q.2 (if (nO n g p).2.1 < n then (uT n g f (nO n g p).2.1).2.2 else []) (by
            by_cases c2 : (nO n g p).2.1 < n
            · rw [if_pos c2]
              refine Or.inr ⟨Or.inl c2, by omega, ?_, rfl⟩
              rw [uT, if_pos c, if_pos c2] at hu
              exact hu
            · rw [if_neg c2]
              exact Or.inl ⟨by omega, rfl⟩) (by omega) b3 W2 F2 P2
          refine ⟨μ', v', ?_, d2, d3, d4, fun P h => hstart P ?_⟩
          · rw [Nat.add_assoc k 1, Nat.add_comm 1] at d1
            exact d1
          · rw [show outc (.inl q) = nI v from ev, show (1 : Int32) = nI 1 from rfl, nI_add]
            have z3 : ¬ nI v = -3 := fun q => by
              have := nI_pos (n := v) (by omega)
              rw [q] at this
              exact this (by decide)
            exact ⟨fun _ => ⟨fun _ => d5 P h, fun z => absurd (nI_pos' (by omega)) z⟩, fun z => absurd z z3⟩
        | inr q =>
          have hk := c2_O q hc
          rw [hc] at b2 hstart
          obtain ⟨x, r, dd⟩ := q
          have hk' : x ≤ 2 := hk
          have b2' : m2 = if x = 2 then refM (PS m φ') r dd else PS m φ' := b2
          by_cases c2 : x = 2
          · subst c2
            rw [if_pos rfl] at b2'
            refine ⟨stB m2 9 (nI k), -3, rfl, ?_, ?_, ?_, fun P h => hstart P ?_⟩
            · show FC _ _
              unfold FC stB
              rw [mset_s, b2', refM, mset_s]
              exact ⟨rfl, rfl, rfl, rfl⟩
            · refine W1.tr fun t o x y z => ?_
              rw [stB, mset_n z, b2', refM, mset_n z]
            · rw [stB, mset_t (by decide), b2', refM, mset_t (by decide), e15]
              exact a2.1
            · exact ⟨fun z => absurd rfl z, fun _ => ⟨_, c_standBehind, fun z => absurd z (show ¬ (0 : Int32) ≤ -3 by decide), fun _ => h⟩⟩
          · rw [if_neg c2] at b2'
            have hx : outc (.inr (x, r, dd)) < 0 ∧ ¬ outc (.inr (x, r, dd)) = -3 ∧ ¬ 0 ≤ outc (.inr (x, r, dd)) := by
              rcases (show x = 0 ∨ x = 1 by omega) with rfl | rfl
              · exact ⟨show (-1 : Int32) < 0 by decide, show ¬ (-1 : Int32) = -3 by decide, show ¬ (0 : Int32) ≤ -1 by decide⟩
              · exact ⟨show (-2 : Int32) < 0 by decide, show ¬ (-2 : Int32) = -3 by decide, show ¬ (0 : Int32) ≤ -2 by decide⟩
            show ∃ μ' v, exr (if x = 2 then _ else _) _ v ∧ exm (if x = 2 then _ else _) μ μ' ∧ _
            rw [if_neg c2]
            refine ⟨m2, _, ⟨hx.1, hx.2.1⟩, ?_, ?_, ?_, fun P h => hstart P ?_⟩
            · show m2 14 0 = _
              rw [b2']
              exact (mset_t (by decide)).trans Fm
            · rw [b2']
              exact W1
            · rw [b2', e15]
              exact a2.1
            · exact ⟨fun _ => ⟨fun z => absurd z hx.2.2, fun _ => h⟩, fun z => absurd z hx.2.1⟩
  obtain ⟨μ', v, d1, d2, d3, d4, d5⟩ := key 61 0 0 (mset μ 15 0 (upd (μ 15 0) 2 0)) A _ (Or.inr ⟨Or.inr rfl, by omega, hok, rfl⟩) (Nat.le_refl _) (RC.mv (fun t ht => mset_t (by omega)) R) (fun t o x y z => mset_n y) (mset_t (by decide)) (by rw [mset_s]; exact ⟨h1, rfl, Nat.zero_le _⟩)
  rw [Nat.zero_add] at d1
  refine ⟨μ', v, ?_, d1, d2, d3, d4⟩
  refine MetA.of2 k_X5_carryOutAll rfl (Nat.le_of_ble_eq_true rfl) rfl (B_X5_carryOutAll_0 ?_)
  intro m e
  rw [e]
  exact d5 _ (rI_ok rfl rfl)
def qRn (T : TT) : AN × TT :=
  if (uT (tIn T) (tIf T) 61 0).1 = true then
    match exL (uT (tIn T) (tIf T) 61 0).2.2 (tA T) 0 with
    | .inl A => (.inl (nI (uT (tIn T) (tIf T) 61 0).2.2.length), (A, (kF (tHf T) (tHn T) (tA T), kN (tHn T)), T.2.2.1, tRf T, (0, tIf T), -1, T.2.2.2.2.2.2))
    | .inr none => (.inr 1, (tA T, T.2.1, T.2.2.1, tRf T, (0, tIf T), -1, T.2.2.2.2.2.2))
    | .inr (some p) => (.inr 2, (tA T, T.2.1, T.2.2.1, (9, nI p.1, p.2.1, p.2.2), (0, tIf T), -1, T.2.2.2.2.2.2))
  else (.inr 1, (tA T, T.2.1, T.2.2.1, tRf T, (0, tIf T), nI (uT (tIn T) (tIf T) 61 0).2.1, T.2.2.2.2.2.2))
theorem uT_at {n : Nat} {g : Nat → Nat} : ∀ f p, p ≤ n → (uT n g f p).2.1 ≤ n ∧ (uT n g f p).2.2.length ≤ f
  | 0, p, h => ⟨h, Nat.le_refl _⟩
  | f + 1, p, h => by
    have a := nO_at (g := g) h
    rw [uT]
    split
    · split
      · have := uT_at (n := n) (g := g) f (nO n g p).2.1 a.2.1
        exact ⟨this.1, by show _ + 1 ≤ _; omega⟩
      · exact ⟨a.2.1, by show 1 ≤ f + 1; omega⟩
    · exact ⟨a.2.1, Nat.zero_le _⟩
/-- behind a run: what stands is put together again -/
theorem TC.run {μ0 μ : Mem} {A : SP} {r : Int32 × Int32 × Int32 × Int32} {e : Int32} (H : TC μ0 T) (hA : RC μ 0 A) (hw : ∀ t o, ¬ (t < 11 ∧ o ≤ 1) → ¬ (t = 15 ∧ o = 0) → ¬ (t = 14 ∧ o = 0) → ¬ (t = 11 ∧ o = 0) → μ t o = μ0 t o) (h8 : μ 11 0 8 = μ0 11 0 8) (hr : FC μ r) (h9 : μ 11 0 9 = e) (hi : μ 15 0 1 = 0) : TC μ (A, T.2.1, T.2.2.1, r, (0, tIf T), e, T.2.2.2.2.2.2) := by
  obtain ⟨a, b, z, d, i, f, g⟩ := H
  exact ⟨hA, HC.mv (hw _ _ (by omega) (by omega) (by omega) (by omega)) (fun t j ht hj => hw t j (by omega) (by omega) (by omega) (by omega)) b, ZC.mv h8 (fun t ht => hw t 3 (by omega) (by omega) (by omega) (by omega)) z, hr, ⟨Nat.zero_le _, hi, fun i hi => absurd hi (Nat.not_lt_zero _)⟩, h9, LC.mv (hw _ _ (by omega) (by omega) (by omega) (by omega)) (hw _ _ (by omega) (by omega) (by omega) (by omega)) g⟩
theorem p_run (H : TC μ T) : CK M_X5_run [] μ (qRn T).1 (qRn T).2 := by
  have H0 := H
  obtain ⟨a, b, z, d, i, f, g⟩ := H
  have i0 : IC μ (tIn T) (tIf T) := i
  have hT : TX μ (tIn T) (tIf T) := ⟨i0.1, i0.2.2⟩
  have hr : FC μ (tRf T) := d
  obtain ⟨φ, k1, k2⟩ := c_findError (φ := μ 15 0) hT i0.2.1
  rw [show PS μ (μ 15 0) = μ from mset_id μ 15 0] at k1
  have ua := uT_at (n := tIn T) (g := tIf T) 61 0 (Nat.zero_le _)
  obtain ⟨E, hE⟩ : ∃ E : Int32, (if (uT (tIn T) (tIf T) 61 0).1 = true then -1 else nI (uT (tIn T) (tIf T) 61 0).2.1) = E := ⟨_, rfl⟩
  rw [hE] at k1
  obtain ⟨m5, e5⟩ : ∃ m5 : Mem, m5 = mset (PS μ φ) 11 0 (upd (PS μ φ 11 0) 9 E) := ⟨_, rfl⟩
  have w5 : ∀ t o, ¬ (t = 15 ∧ o = 0) → ¬ (t = 11 ∧ o = 0) → m5 t o = μ t o := fun t o x y => by rw [e5, mset_n y]; exact mset_n x
  have h511 : m5 11 0 = upd (μ 11 0) 9 E := by rw [e5, mset_s, show PS μ φ 11 0 = μ 11 0 from mset_t (by decide)]
  have h515 : m5 15 0 = φ := by rw [e5, mset_t (show (15 : Nat) ≠ 11 by decide), e15]
  have R5 : RC m5 0 (tA T) := RC.mv (fun t ht => w5 t 0 (by omega) (by omega)) a
  have k3 := c_copyFrom (μ := m5) (j := 1) (o := 0) (by decide) (by decide)
  have R81 := cpS_RC (μ := m5) (j := 1) (o := 0) (A := tA T) (by decide) R5
  obtain ⟨m8, e8⟩ : ∃ m8 : Mem, m8 = cpS m5 1 0 := ⟨_, rfl⟩
  rw [← e8] at k3 R81
  have w8 : ∀ t o, ¬ (t < 11 ∧ o = 1) → m8 t o = m5 t o := fun t o x => by rw [e8]; exact cpS_Fr t o x
  have R8 : RC m8 0 (tA T) := RC.mv (fun t ht => w8 t 0 (by omega)) R5
  have h811 : m8 11 0 = upd (μ 11 0) 9 E := by rw [w8 11 0 (by omega)]; exact h511
  have h815 : m8 15 0 = φ := by rw [w8 15 0 (by omega)]; exact h515
  have hT8 : TX m8 (tIn T) (tIf T) := ⟨i0.1, fun i hi => by rw [w8 16 0 (by omega), w5 16 0 (by omega) (by omega)]; exact hT.2 i hi⟩
  have start : ∀ P, (((¬ E = (-1) → AW M_X5_run 0 39 [some (aR 11 0), none] [aI (-2)] m8 P) ∧ (E = (-1) → ∃ (r17 : Int32) (m14 : Mem), MetA M_X5_carryOutAll [aR 11 0] m8 (rI r17 m14) ∧ (AW M_X5_run 0 39 [some (aR 11 0), none] [aI r17] m14 P))) → MetA M_X5_run [aR 11 0] μ P) := by
    intro P h
    refine MetA.of2 k_X5_run rfl (Nat.le_of_ble_eq_true rfl) rfl (B_X5_run_0 ?_)
    refine ⟨_, _, k1, fun m em => ⟨m8, ?_, ?_⟩⟩
    · rw [em, ← e5]
      exact k3
    · rw [h811]
      exact h
  -- a text that cannot be, or an order that cannot be: what was before comes back
  have back : ∀ (m14 : Mem) (v : Int32), v < 0 → Rn m8 m14 → ∃ m16 : Mem, (∀ P, (¬ v = -3 → P (.inr "java/lang/IllegalArgumentException") m16) → (v = -3 → P (.inr "java/lang/UnsupportedOperationException") m16) → AW M_X5_run 0 39 [some (aR 11 0), none] [aI v] m14 P) ∧ RC m16 0 (tA T) ∧ (∀ t o, ¬ (t < 11 ∧ o = 0) → ¬ (t = 15 ∧ o = 0) → m16 t o = m14 t o) ∧ m16 15 0 1 = 0 := by
    intro m14 v hv W
    refine ⟨cpS (mset m14 15 0 (upd (m14 15 0) 1 0)) 0 1, fun P h1 h2 => B_X5_run_39 fun m em => ⟨fun q => absurd hv (Int32.not_lt.mpr q), fun q => ⟨cpS (mset m14 15 0 (upd (m14 15 0) 1 0)) 0 1, ?_, fun q2 => ⟨fun q3 => absurd q3 q, fun _ => h1 q2⟩, h2⟩⟩, ?_, fun t o x y => ?_, ?_⟩
    · rw [em]
      exact c_copyFrom (by decide) (by decide)
    · refine cpS_RC (by decide) (RC.mv (fun t ht => ?_) R81)
      rw [mset_n (by omega)]
      exact W t 1 (by omega) (by omega) (by omega)
    · rw [show cpS (mset m14 15 0 (upd (m14 15 0) 1 0)) 0 1 t o = _ from cpS_Fr t o x]
      exact mset_n y
    · rw [show cpS (mset m14 15 0 (upd (m14 15 0) 1 0)) 0 1 15 0 = _ from cpS_Fr 15 0 (by omega), mset_s]
      rfl
  have putB : ∀ (m14 m16 : Mem) (r : Int32 × Int32 × Int32 × Int32), Rn m8 m14 → (∀ t o, ¬ (t < 11 ∧ o = 0) → ¬ (t = 15 ∧ o = 0) → m16 t o = m14 t o) → RC m16 0 (tA T) → m16 15 0 1 = 0 → FC m14 r → TC m16 (tA T, T.2.1, T.2.2.1, r, (0, tIf T), E, T.2.2.2.2.2.2) ∧ Cl μ m16 := by
    intro m14 m16 r W V R h1 h2
    have x11 : m16 11 0 = upd (μ 11 0) 9 E := by rw [V 11 0 (by omega) (by omega), W 11 0 (by omega) (by omega) (by omega)]; exact h811
    refine ⟨TC.run H0 R (fun t o x y z u => ?_) (by rw [x11]; rfl) (by unfold FC; rw [V 14 0 (by omega) (by omega)]; exact h2) (by rw [x11]; rfl) h1, fun t ht => ?_⟩
    · rw [V t o (by omega) y, W t o (by omega) y z, w8 t o (by omega), w5 t o y u]
    · funext o
      rw [V t o (by omega) (by omega), W t o (by omega) (by omega) (by omega), w8 t o (by omega), w5 t o (by omega) (by omega)]
  have hr8 : FC m8 (tRf T) := by unfold FC; rw [w8 14 0 (by omega), w5 14 0 (by omega) (by omega)]; exact hr
  unfold qRn
  by_cases c : (uT (tIn T) (tIf T) 61 0).1 = true
  · rw [if_pos c]
    rw [if_pos c] at hE
    subst hE
    obtain ⟨m14, v, g1, g2, g3, g4, g5⟩ := c_carryOutAll R8 hT8 (by rw [h815]; exact k2) c
    have st2 : ∀ P, AW M_X5_run 0 39 [some (aR 11 0), none] [aI v] m14 P → MetA M_X5_run [aR 11 0] μ P := fun P h => start P ⟨fun q => absurd rfl q, fun _ => ⟨_, _, g1, h⟩⟩
    cases hx : exL (uT (tIn T) (tIf T) 61 0).2.2 (tA T) 0 with
    | inl A' =>
      rw [hx] at g2 g3
      have ev : v = nI (uT (tIn T) (tIf T) 61 0).2.2.length := g2
      obtain ⟨R', F'⟩ : RC m14 0 A' ∧ m14 14 0 = m8 14 0 := g3
      have hm : ∀ t o, ¬ (t < 11 ∧ o = 0) → ¬ (t = 15 ∧ o = 0) → ¬ (t = 14 ∧ o = 0) → mset m14 15 0 (upd (m14 15 0) 1 0) t o = m8 t o := fun t o x y u => by rw [mset_n y]; exact g4 t o x y u
      have hb8 : HC (mset m14 15 0 (upd (m14 15 0) 1 0)) (tHf T) (tHn T) := HC.mv (μ := μ) (by rw [hm 12 0 (by omega) (by omega) (by omega), w8 12 0 (by omega), w5 12 0 (by omega) (by omega)]) (fun t j ht hj => by rw [hm t j (by omega) (by omega) (by omega), w8 t j (by omega), w5 t j (by omega) (by omega)]) b
      have R1 : RC (mset m14 15 0 (upd (m14 15 0) 1 0)) 1 (tA T) := RC.mv (fun t ht => hm t 1 (by omega) (by omega) (by omega)) R81
      obtain ⟨mk, q1, q2, q3⟩ := c_keep hb8 R1
      have y11 : mk 11 0 = upd (μ 11 0) 9 (-1) := by rw [q3 11 0 (by omega) (by omega), hm 11 0 (by omega) (by omega) (by omega)]; exact h811
      have ym : ∀ t o, ¬ (t < 11 ∧ (o ≤ 1 ∨ 4 ≤ o)) → ¬ (t = 15 ∧ o = 0) → ¬ (t = 14 ∧ o = 0) → ¬ (t = 11 ∧ o = 0) → ¬ (t = 12 ∧ o = 0) → mk t o = μ t o := fun t o x y u w1 w2 => by rw [q3 t o w2 (by omega), hm t o (by omega) y u, w8 t o (by omega), w5 t o y w1]
      refine ⟨mk, st2 _ (B_X5_run_39 fun m em => ⟨fun q => ⟨fun _ => ⟨fun _ => ⟨mk, by rw [em]; exact q1, rI_ok ev rfl⟩, fun q2 => absurd q q2⟩, fun q2 => absurd q2 ?_⟩, fun q => absurd (by rw [ev]; exact nI_pos' (by omega)) q⟩), ⟨?_, q2, ZC.mv (by rw [y11]; rfl) (fun t ht => ym t 3 (by omega) (by omega) (by omega) (by omega) (by omega)) z, ?_, ⟨Nat.zero_le _, ?_, fun i hi => absurd hi (Nat.not_lt_zero _)⟩, by rw [y11]; rfl, LC.mv (ym _ _ (by omega) (by omega) (by omega) (by omega) (by omega)) (ym _ _ (by omega) (by omega) (by omega) (by omega) (by omega)) g⟩, fun t ht => ?_⟩
      · rw [ev]
        intro q
        have := nI_pos (n := (uT (tIn T) (tIf T) 61 0).2.2.length) (by omega)
        rw [q] at this
        exact this (by decide)
      · exact RC.mv (fun t ht => by rw [q3 t 0 (by omega) (by omega), mset_n (by omega)]) R'
      · unfold FC
        rw [q3 14 0 (by omega) (by omega), mset_t (show (14 : Nat) ≠ 15 by decide), F']
        exact hr8
      · rw [q3 15 0 (by omega) (by omega), mset_s]
        rfl
      · funext o
        exact ym t o (by omega) (by omega) (by omega) (by omega) (by omega)
    | inr x =>
      rw [hx] at g2 g3
      cases x with
      | none =>
        obtain ⟨v1, v2⟩ : v < 0 ∧ ¬ v = -3 := g2
        have F' : m14 14 0 = m8 14 0 := g3
        obtain ⟨m16, b1, b2, b3, b4⟩ := back m14 v v1 g4
        obtain ⟨t1, t2⟩ := putB m14 m16 (tRf T) g4 b3 b2 b4 (by unfold FC; rw [F']; exact hr8)
        exact ⟨m16, st2 _ (b1 _ (fun _ => rX_ok rfl) (fun q => absurd q v2)), t1, t2⟩
      | some p =>
        have v1 : v = -3 := g2
        obtain ⟨m16, b1, b2, b3, b4⟩ := back m14 v (by rw [v1]; decide) g4
        obtain ⟨t1, t2⟩ := putB m14 m16 (9, nI p.1, p.2.1, p.2.2) g4 b3 b2 b4 g3
        exact ⟨m16, st2 _ (b1 _ (fun q => absurd v1 q) (fun _ => rX_ok rfl)), t1, t2⟩
  · rw [if_neg c]
    rw [if_neg c] at hE
    subst hE
    obtain ⟨m16, b1, b2, b3, b4⟩ := back m8 (-2) (by decide) (fun _ _ _ _ _ => rfl)
    obtain ⟨t1, t2⟩ := putB m8 m16 (tRf T) (fun _ _ _ _ _ => rfl) b3 b2 b4 hr8
    exact ⟨m16, start _ ⟨fun _ => b1 _ (fun _ => rX_ok rfl) (fun q => absurd q (by decide)), fun q => absurd q (nI_m1 (by have := i0.1; omega))⟩, t1, t2⟩
end SO
