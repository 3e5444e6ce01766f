/-! one order, a text -/
section SN
variable {μ : Mem} {φ : Nat → Int32} {n p : Nat} {g : Nat → Nat}
theorem PT.at {φ : Nat → Int32} {n p : Nat} (h : PT φ n p) : φ 2 = nI p := h.2.1
theorem c_readOrder (hT : TX μ n g) (hP : PT φ n p) (hp : p < n) (h3 : φ 3 = nI (g p)) : ∃ φ', MetA M_X2_readOrder [aR 15 0] (PS μ φ) (rI (nI (if (pO n g p).1 = true then 1 else 0)) (PS μ φ')) ∧ PT φ' n (pO n g p).2.1 ∧ ((pO n g p).1 = true → FM φ' (pO n g p).2.2) := by
  have w := hT.1
  have wg := (hT.2 p hp).2
  have e3 : (PS μ φ 15 0 3).toInt = (g p : Int) := by rw [e15, h3, nI_toInt (by omega)]
  have es : ∀ m : Mem, m = mset (PS μ φ) 15 0 (upd (PS μ φ 15 0) 2 (PS μ φ 15 0 2 + 1)) → m = PS μ (upd φ 2 (nI (p + 1))) := by
    intro m e
    rw [e15, hP.2.1, show (1 : Int32) = nI 1 from rfl, nI_add, PSu] at e
    exact e
  have hP1 : PT (upd φ 2 (nI (p + 1))) n (p + 1) := ⟨hP.1, rfl, hp⟩
  have no : ∀ q : Bool × Nat × OD, q = (false, q.2.1, (0, 0, 0, 0)) → (q.1 = true → FM φ q.2.2) := fun q e z => by rw [e] at z; exact absurd (show false = true from z) Bool.false_ne_true

  by_cases c : g p = 104
  · by_cases d1 : isD n g (p + 1)
    · by_cases d2 : isD n g (p + 2)
      · obtain ⟨φ2, k1, k2, k3, k4⟩ := c_readCoins_2 hT hP1 d1 d2
        have e : pO n g p = (true, p + 3, (104, 10 * (g (p + 1) - 48) + (g (p + 2) - 48), 0, 0)) := by unfold pO; rw [if_pos hp, if_pos c, if_pos d1, if_pos d2]
        rw [e]
        refine ⟨φ2, ?_, k2, fun _ => ⟨by rw [k3]; show φ 3 = _; rw [h3, c], fun _ _ => k4, fun q => absurd (show (104 : Nat) = 115 ∨ (104 : Nat) = 109 ∨ (104 : Nat) = 108 ∨ (104 : Nat) = 99 ∨ (104 : Nat) = 114 from q) (by decide), fun q => absurd q (by show ¬ ((104 : Nat) = 109); decide)⟩⟩
        refine MetA.of2 k_X2_readOrder rfl (Nat.le_of_ble_eq_true rfl) rfl (B_X2_readOrder_0 ?_)
        rw [e3]
        refine ⟨fun q => absurd q (by omega), fun q => absurd q (by omega), fun _ m e => by rw [es m e]; exact ⟨_, _, k1, rfl, rI_ok rfl rfl⟩, fun q => absurd q (by omega), fun q => absurd q (by omega), fun q => absurd q (by omega), fun _ _ _ _ _ _ _ _ _ => False.elim (by omega)⟩
      · have k1 := c_readCoins_1 hT hP1 d1 d2
        have e : pO n g p = (true, p + 2, (104, g (p + 1) - 48, 0, 0)) := by unfold pO; rw [if_pos hp, if_pos c, if_pos d1, if_neg d2]
        rw [e]
        refine ⟨upd (upd (upd φ 2 (nI (p + 1))) 2 (nI (p + 1 + 1))) 4 (nI (g (p + 1) - 48)), ?_, ⟨hP.1, rfl, d1.1⟩, fun _ => ⟨by show φ 3 = _; rw [h3, c], fun _ _ => rfl, fun q => absurd (show (104 : Nat) = 115 ∨ (104 : Nat) = 109 ∨ (104 : Nat) = 108 ∨ (104 : Nat) = 99 ∨ (104 : Nat) = 114 from q) (by decide), fun q => absurd q (by show ¬ ((104 : Nat) = 109); decide)⟩⟩
        refine MetA.of2 k_X2_readOrder rfl (Nat.le_of_ble_eq_true rfl) rfl (B_X2_readOrder_0 ?_)
        rw [e3]
        refine ⟨fun q => absurd q (by omega), fun q => absurd q (by omega), fun _ m e => by rw [es m e]; exact ⟨_, _, k1, rfl, rI_ok rfl rfl⟩, fun q => absurd q (by omega), fun q => absurd q (by omega), fun q => absurd q (by omega), fun _ _ _ _ _ _ _ _ _ => False.elim (by omega)⟩
    · have k1 := c_readCoins_n hT hP1 d1
      have e : pO n g p = (false, p + 1, (0, 0, 0, 0)) := by unfold pO; rw [if_pos hp, if_pos c, if_neg d1]
      rw [e]
      refine ⟨upd (upd φ 2 (nI (p + 1))) 4 (-1), ?_, ⟨hP.1, rfl, hp⟩, fun q => absurd (show false = true from q) Bool.false_ne_true⟩
      refine MetA.of2 k_X2_readOrder rfl (Nat.le_of_ble_eq_true rfl) rfl (B_X2_readOrder_0 ?_)
      rw [e3]
      refine ⟨fun q => absurd q (by omega), fun q => absurd q (by omega), fun _ m e => by rw [es m e]; exact ⟨_, _, k1, rfl, rI_ok rfl rfl⟩, fun q => absurd q (by omega), fun q => absurd q (by omega), fun q => absurd q (by omega), fun _ _ _ _ _ _ _ _ _ => False.elim (by omega)⟩
  by_cases c2 : g p = 115
  · by_cases d1 : isD n g (p + 1)
    · have hP2 : PT (upd (upd (upd φ 2 (nI (p + 1))) 2 (nI (p + 1 + 1))) 4 (nI (g (p + 1) - 48))) n (p + 2) := ⟨hP.1, rfl, d1.1⟩
      have k1 := c_readFirst_y hT hP1 d1
      by_cases d2 : isC n g (p + 2) 61
      · have k2 := c_readSign_y hT hP2 (by decide) d2
        have hP3 : PT (upd (upd (upd (upd φ 2 (nI (p + 1))) 2 (nI (p + 1 + 1))) 4 (nI (g (p + 1) - 48))) 2 (nI (p + 2 + 1))) n (p + 3) := ⟨hP.1, rfl, d2.1⟩
        obtain ⟨φ2, k3, k4, k5, k6, k7⟩ := c_readWord hT hP3
        have e : pO n g p = (decide (3 ≤ lc n g 8 (p + 3)), p + 3 + lc n g 8 (p + 3), (115, g (p + 1) - 48, wv g (p + 3) (lc n g 8 (p + 3)), 0)) := by unfold pO; rw [if_pos hp, if_neg c, if_pos c2, if_pos d1, if_pos d2]
        rw [e]
        refine ⟨φ2, ?_, k4, fun _ => ⟨by rw [k5]; show φ 3 = _; rw [h3, c2], fun _ _ => k6, fun _ => k7, fun q => absurd q (by show ¬ ((115 : Nat) = 109); decide)⟩⟩
        refine MetA.of2 k_X2_readOrder rfl (Nat.le_of_ble_eq_true rfl) rfl (B_X2_readOrder_0 ?_)
        rw [e3]
        refine ⟨fun q => absurd q (by omega), fun q => absurd q (by omega), fun q => absurd q (by omega), fun q => absurd q (by omega), fun _ m e => by
          rw [es m e]
          refine ⟨_, _, k1, fun q => absurd q (by decide), fun _ => ⟨_, _, k2, fun q => absurd q (by decide), fun _ => ⟨_, _, k3, ?_⟩⟩⟩
          by_cases z : 3 ≤ lc n g 8 (p + 3)
          · rw [bi_t z]
            exact ⟨fun q => absurd q (by decide), fun _ => rI_ok (by show (1 : Int32) = nI (if decide _ = true then 1 else 0); rw [decide_eq_true z]; rfl) rfl⟩
          · rw [bi_f z]
            exact ⟨fun _ => rI_ok (by show (0 : Int32) = nI (if decide _ = true then 1 else 0); rw [decide_eq_false z]; rfl) rfl, fun q => absurd rfl q⟩, fun q => absurd q (by omega), fun _ _ _ _ _ _ _ _ _ => False.elim (by omega)⟩
      · have k2 := c_readSign_n hT hP2 (by decide) d2
        have e : pO n g p = (false, p + 2, (0, 0, 0, 0)) := by unfold pO; rw [if_pos hp, if_neg c, if_pos c2, if_pos d1, if_neg d2]
        rw [e]
        refine ⟨upd (upd (upd φ 2 (nI (p + 1))) 2 (nI (p + 1 + 1))) 4 (nI (g (p + 1) - 48)), ?_, hP2, fun q => absurd (show false = true from q) Bool.false_ne_true⟩
        refine MetA.of2 k_X2_readOrder rfl (Nat.le_of_ble_eq_true rfl) rfl (B_X2_readOrder_0 ?_)
        rw [e3]
        refine ⟨fun q => absurd q (by omega), fun q => absurd q (by omega), fun q => absurd q (by omega), fun q => absurd q (by omega), fun _ m e => by rw [es m e]; exact ⟨_, _, k1, fun q => absurd q (by decide), fun _ => ⟨_, _, k2, fun _ => rI_ok rfl rfl, fun q => absurd rfl q⟩⟩, fun q => absurd q (by omega), fun _ _ _ _ _ _ _ _ _ => False.elim (by omega)⟩
    · have k1 := c_readFirst_n hT hP1 d1
      have e : pO n g p = (false, p + 1, (0, 0, 0, 0)) := by unfold pO; rw [if_pos hp, if_neg c, if_pos c2, if_neg d1]
      rw [e]
      refine ⟨upd (upd φ 2 (nI (p + 1))) 4 (-1), ?_, ⟨hP.1, rfl, hp⟩, fun q => absurd (show false = true from q) Bool.false_ne_true⟩
      refine MetA.of2 k_X2_readOrder rfl (Nat.le_of_ble_eq_true rfl) rfl (B_X2_readOrder_0 ?_)
      rw [e3]
      refine ⟨fun q => absurd q (by omega), fun q => absurd q (by omega), fun q => absurd q (by omega), fun q => absurd q (by omega), fun _ m e => by rw [es m e]; exact ⟨_, _, k1, fun _ => rI_ok rfl rfl, fun q => absurd rfl q⟩, fun q => absurd q (by omega), fun _ _ _ _ _ _ _ _ _ => False.elim (by omega)⟩
  by_cases c3 : g p = 109
  · by_cases d1 : isD n g (p + 1)
    · have hP2 : PT (upd (upd (upd φ 2 (nI (p + 1))) 2 (nI (p + 1 + 1))) 4 (nI (g (p + 1) - 48))) n (p + 2) := ⟨hP.1, rfl, d1.1⟩
      have k1 := c_readFirst_y hT hP1 d1
      by_cases d2 : isD n g (p + 2)
      · have k2 := c_readSecond_y hT hP2 d2
        have hP3 : PT (upd (upd (upd (upd (upd φ 2 (nI (p + 1))) 2 (nI (p + 1 + 1))) 4 (nI (g (p + 1) - 48))) 2 (nI (p + 2 + 1))) 5 (nI (g (p + 2) - 48))) n (p + 3) := ⟨hP.1, rfl, d2.1⟩
        by_cases d3 : isL n g (p + 3)
        · have k3 := c_readLetter_y hT hP3 d3
          have e : pO n g p = (true, p + 4, (109, g (p + 1) - 48, g (p + 2) - 48, g (p + 3))) := by unfold pO; rw [if_pos hp, if_neg c, if_neg c2, if_pos c3, if_pos d1, if_pos d2, if_pos d3]
          rw [e]
          refine ⟨upd (upd (upd (upd (upd (upd (upd φ 2 (nI (p + 1))) 2 (nI (p + 1 + 1))) 4 (nI (g (p + 1) - 48))) 2 (nI (p + 2 + 1))) 5 (nI (g (p + 2) - 48))) 6 (nI (g (p + 3)))) 2 (nI (p + 3 + 1)), ?_, ⟨hP.1, rfl, d3.1⟩, fun _ => ⟨by show φ 3 = _; rw [h3, c3], fun _ _ => rfl, fun _ => rfl, fun _ => rfl⟩⟩
          refine MetA.of2 k_X2_readOrder rfl (Nat.le_of_ble_eq_true rfl) rfl (B_X2_readOrder_0 ?_)
          rw [e3]
          refine ⟨fun q => absurd q (by omega), fun q => absurd q (by omega), fun q => absurd q (by omega), fun _ m e => by rw [es m e]; refine ⟨_, _, k1, fun q => absurd q (by decide), fun _ => ⟨_, _, k2, fun q => absurd q (by decide), fun _ => ⟨_, _, k3, fun q => absurd q (by decide), fun _ => rI_ok rfl rfl⟩⟩⟩, fun q => absurd q (by omega), fun q => absurd q (by omega), fun _ _ _ _ _ _ _ _ _ => False.elim (by omega)⟩
        · have k3 := c_readLetter_n hT hP3 d3
          have e : pO n g p = (false, p + 3, (0, 0, 0, 0)) := by unfold pO; rw [if_pos hp, if_neg c, if_neg c2, if_pos c3, if_pos d1, if_pos d2, if_neg d3]
          rw [e]
          refine ⟨upd (upd (upd (upd (upd φ 2 (nI (p + 1))) 2 (nI (p + 1 + 1))) 4 (nI (g (p + 1) - 48))) 2 (nI (p + 2 + 1))) 5 (nI (g (p + 2) - 48)), ?_, hP3, fun q => absurd (show false = true from q) Bool.false_ne_true⟩
          refine MetA.of2 k_X2_readOrder rfl (Nat.le_of_ble_eq_true rfl) rfl (B_X2_readOrder_0 ?_)
          rw [e3]
          refine ⟨fun q => absurd q (by omega), fun q => absurd q (by omega), fun q => absurd q (by omega), fun _ m e => by rw [es m e]; refine ⟨_, _, k1, fun q => absurd q (by decide), fun _ => ⟨_, _, k2, fun q => absurd q (by decide), fun _ => ⟨_, _, k3, fun _ => rI_ok rfl rfl, fun q => absurd rfl q⟩⟩⟩, fun q => absurd q (by omega), fun q => absurd q (by omega), fun _ _ _ _ _ _ _ _ _ => False.elim (by omega)⟩
      · have k2 := c_readSecond_n hT hP2 d2
        have e : pO n g p = (false, p + 2, (0, 0, 0, 0)) := by unfold pO; rw [if_pos hp, if_neg c, if_neg c2, if_pos c3, if_pos d1, if_neg d2]
        rw [e]
        refine ⟨upd (upd (upd (upd φ 2 (nI (p + 1))) 2 (nI (p + 1 + 1))) 4 (nI (g (p + 1) - 48))) 5 (-1), ?_, ⟨hP.1, rfl, d1.1⟩, fun q => absurd (show false = true from q) Bool.false_ne_true⟩
        refine MetA.of2 k_X2_readOrder rfl (Nat.le_of_ble_eq_true rfl) rfl (B_X2_readOrder_0 ?_)
        rw [e3]
        refine ⟨fun q => absurd q (by omega), fun q => absurd q (by omega), fun q => absurd q (by omega), fun _ m e => by rw [es m e]; exact ⟨_, _, k1, fun q => absurd q (by decide), fun _ => ⟨_, _, k2, fun _ => rI_ok rfl rfl, fun q => absurd rfl q⟩⟩, fun q => absurd q (by omega), fun q => absurd q (by omega), fun _ _ _ _ _ _ _ _ _ => False.elim (by omega)⟩
    · have k1 := c_readFirst_n hT hP1 d1
      have e : pO n g p = (false, p + 1, (0, 0, 0, 0)) := by unfold pO; rw [if_pos hp, if_neg c, if_neg c2, if_pos c3, if_neg d1]
      rw [e]
      refine ⟨upd (upd φ 2 (nI (p + 1))) 4 (-1), ?_, ⟨hP.1, rfl, hp⟩, fun q => absurd (show false = true from q) Bool.false_ne_true⟩
      refine MetA.of2 k_X2_readOrder rfl (Nat.le_of_ble_eq_true rfl) rfl (B_X2_readOrder_0 ?_)
      rw [e3]
      refine ⟨fun q => absurd q (by omega), fun q => absurd q (by omega), fun q => absurd q (by omega), fun _ m e => by rw [es m e]; exact ⟨_, _, k1, fun _ => rI_ok rfl rfl, fun q => absurd rfl q⟩, fun q => absurd q (by omega), fun q => absurd q (by omega), fun _ _ _ _ _ _ _ _ _ => False.elim (by omega)⟩
  by_cases c4 : g p = 108 ∨ g p = 99 ∨ g p = 114
  · by_cases d1 : isD n g (p + 1)
    · have hP2 : PT (upd (upd (upd φ 2 (nI (p + 1))) 2 (nI (p + 1 + 1))) 4 (nI (g (p + 1) - 48))) n (p + 2) := ⟨hP.1, rfl, d1.1⟩
      have k1 := c_readFirst_y hT hP1 d1
      by_cases d2 : isD n g (p + 2)
      · have k2 := c_readSecond_y hT hP2 d2
        have e : pO n g p = (true, p + 3, (g p, g (p + 1) - 48, g (p + 2) - 48, 0)) := by unfold pO; rw [if_pos hp, if_neg c, if_neg c2, if_neg c3, if_pos c4, if_pos d1, if_pos d2]
        rw [e]
        refine ⟨upd (upd (upd (upd (upd φ 2 (nI (p + 1))) 2 (nI (p + 1 + 1))) 4 (nI (g (p + 1) - 48))) 2 (nI (p + 2 + 1))) 5 (nI (g (p + 2) - 48)), ?_, ⟨hP.1, rfl, d2.1⟩, fun _ => ⟨h3, fun _ _ => rfl, fun _ => rfl, fun q => absurd q c3⟩⟩
        refine MetA.of2 k_X2_readOrder rfl (Nat.le_of_ble_eq_true rfl) rfl (B_X2_readOrder_0 ?_)
        rw [e3]
        refine ⟨fun _ m e => by rw [es m e]; exact ⟨_, _, k1, fun q => absurd q (by decide), fun _ => ⟨_, _, k2, fun q => absurd q (by decide), fun _ => rI_ok rfl rfl⟩⟩, fun q => absurd q (by omega), fun q => absurd q (by omega), fun q => absurd q (by omega), fun q => absurd q (by omega), fun q => absurd q (by omega), fun _ _ _ _ _ _ _ _ _ => False.elim (by omega)⟩
      · have k2 := c_readSecond_n hT hP2 d2
        have e : pO n g p = (false, p + 2, (0, 0, 0, 0)) := by unfold pO; rw [if_pos hp, if_neg c, if_neg c2, if_neg c3, if_pos c4, if_pos d1, if_neg d2]
        rw [e]
        refine ⟨upd (upd (upd (upd φ 2 (nI (p + 1))) 2 (nI (p + 1 + 1))) 4 (nI (g (p + 1) - 48))) 5 (-1), ?_, ⟨hP.1, rfl, d1.1⟩, fun q => absurd (show false = true from q) Bool.false_ne_true⟩
        refine MetA.of2 k_X2_readOrder rfl (Nat.le_of_ble_eq_true rfl) rfl (B_X2_readOrder_0 ?_)
        rw [e3]
        refine ⟨fun _ m e => by rw [es m e]; exact ⟨_, _, k1, fun q => absurd q (by decide), fun _ => ⟨_, _, k2, fun _ => rI_ok rfl rfl, fun q => absurd rfl q⟩⟩, fun q => absurd q (by omega), fun q => absurd q (by omega), fun q => absurd q (by omega), fun q => absurd q (by omega), fun q => absurd q (by omega), fun _ _ _ _ _ _ _ _ _ => False.elim (by omega)⟩
    · have k1 := c_readFirst_n hT hP1 d1
      have e : pO n g p = (false, p + 1, (0, 0, 0, 0)) := by unfold pO; rw [if_pos hp, if_neg c, if_neg c2, if_neg c3, if_pos c4, if_neg d1]
      rw [e]
      refine ⟨upd (upd φ 2 (nI (p + 1))) 4 (-1), ?_, ⟨hP.1, rfl, hp⟩, fun q => absurd (show false = true from q) Bool.false_ne_true⟩
      refine MetA.of2 k_X2_readOrder rfl (Nat.le_of_ble_eq_true rfl) rfl (B_X2_readOrder_0 ?_)
      rw [e3]
      refine ⟨fun _ m e => by rw [es m e]; exact ⟨_, _, k1, fun _ => rI_ok rfl rfl, fun q => absurd rfl q⟩, fun q => absurd q (by omega), fun q => absurd q (by omega), fun q => absurd q (by omega), fun q => absurd q (by omega), fun q => absurd q (by omega), fun _ _ _ _ _ _ _ _ _ => False.elim (by omega)⟩
  by_cases c5 : g p = 120
  · by_cases d1 : isD n g (p + 1)
    · have k1 := c_readFirst_y hT hP1 d1
      have e : pO n g p = (true, p + 2, (120, g (p + 1) - 48, 0, 0)) := by unfold pO; rw [if_pos hp, if_neg c, if_neg c2, if_neg c3, if_neg c4, if_pos c5, if_pos d1]
      rw [e]
      refine ⟨upd (upd (upd φ 2 (nI (p + 1))) 2 (nI (p + 1 + 1))) 4 (nI (g (p + 1) - 48)), ?_, ⟨hP.1, rfl, d1.1⟩, fun _ => ⟨by show φ 3 = _; rw [h3, c5], fun _ _ => rfl, fun q => absurd (show (120 : Nat) = 115 ∨ (120 : Nat) = 109 ∨ (120 : Nat) = 108 ∨ (120 : Nat) = 99 ∨ (120 : Nat) = 114 from q) (by decide), fun q => absurd q (by show ¬ ((120 : Nat) = 109); decide)⟩⟩
      refine MetA.of2 k_X2_readOrder rfl (Nat.le_of_ble_eq_true rfl) rfl (B_X2_readOrder_0 ?_)
      rw [e3]
      refine ⟨fun q => absurd q (by omega), fun q => absurd q (by omega), fun q => absurd q (by omega), fun q => absurd q (by omega), fun q => absurd q (by omega), fun _ m e => by rw [es m e]; exact ⟨_, _, k1, rfl, rI_ok rfl rfl⟩, fun _ _ _ _ _ _ _ _ _ => False.elim (by omega)⟩
    · have k1 := c_readFirst_n hT hP1 d1
      have e : pO n g p = (false, p + 1, (0, 0, 0, 0)) := by unfold pO; rw [if_pos hp, if_neg c, if_neg c2, if_neg c3, if_neg c4, if_pos c5, if_neg d1]
      rw [e]
      refine ⟨upd (upd φ 2 (nI (p + 1))) 4 (-1), ?_, ⟨hP.1, rfl, hp⟩, fun q => absurd (show false = true from q) Bool.false_ne_true⟩
      refine MetA.of2 k_X2_readOrder rfl (Nat.le_of_ble_eq_true rfl) rfl (B_X2_readOrder_0 ?_)
      rw [e3]
      refine ⟨fun q => absurd q (by omega), fun q => absurd q (by omega), fun q => absurd q (by omega), fun q => absurd q (by omega), fun q => absurd q (by omega), fun _ m e => by rw [es m e]; exact ⟨_, _, k1, rfl, rI_ok rfl rfl⟩, fun _ _ _ _ _ _ _ _ _ => False.elim (by omega)⟩
  by_cases c6 : g p = 101 ∨ g p = 100
  · skip
    have e : pO n g p = (true, p + 1, (g p, 0, 0, 0)) := by unfold pO; rw [if_pos hp, if_neg c, if_neg c2, if_neg c3, if_neg c4, if_neg c5, if_pos c6]
    rw [e]
    refine ⟨upd φ 2 (nI (p + 1)), ?_, hP1, fun _ => ⟨h3, fun q1 q2 => absurd c6 (by rintro (z | z); exact q2 z; exact q1 z), fun q => absurd c6 (by have z : g p = 115 ∨ g p = 109 ∨ g p = 108 ∨ g p = 99 ∨ g p = 114 := q; omega), fun q => absurd c6 (by have z : g p = 109 := q; omega)⟩⟩
    refine MetA.of2 k_X2_readOrder rfl (Nat.le_of_ble_eq_true rfl) rfl (B_X2_readOrder_0 ?_)
    rw [e3]
    refine ⟨fun q => absurd q (by omega), fun _ m e => by rw [es m e]; exact rI_ok rfl rfl, fun q => absurd q (by omega), fun q => absurd q (by omega), fun q => absurd q (by omega), fun q => absurd q (by omega), fun _ _ _ _ _ _ _ _ _ => False.elim (by omega)⟩
  · skip
    have e : pO n g p = (false, p, (0, 0, 0, 0)) := by unfold pO; rw [if_pos hp, if_neg c, if_neg c2, if_neg c3, if_neg c4, if_neg c5, if_neg c6]
    rw [e]
    refine ⟨φ, ?_, hP, fun q => absurd (show false = true from q) Bool.false_ne_true⟩
    refine MetA.of2 k_X2_readOrder rfl (Nat.le_of_ble_eq_true rfl) rfl (B_X2_readOrder_0 ?_)
    rw [e3]
    refine ⟨fun q => absurd q (by omega), fun q => absurd q (by omega), fun q => absurd q (by omega), fun q => absurd q (by omega), fun q => absurd q (by omega), fun q => absurd q (by omega), fun _ _ _ _ _ _ _ _ _ => rI_ok rfl rfl⟩
theorem c_readNext (hT : TX μ n g) (hP : PT φ n p) : ∃ φ', MetA M_X2_readNext [aR 15 0] (PS μ φ) (rI (nI (if (nO n g p).1 = true then 1 else 0)) (PS μ φ')) ∧ PT φ' n (nO n g p).2.1 ∧ ((nO n g p).1 = true → FM φ' (nO n g p).2.2) := by
  have w := hT.1
  have w2 := hP.2.2
  unfold nO
  by_cases c : p = 0
  · rw [if_pos c]
    subst c
    by_cases hp : 0 < n
    · have hg := hT.2 0 hp
      obtain ⟨φ', k1, k2, k3⟩ := c_readOrder (φ := upd φ 3 (nI (g 0))) hT ⟨hP.1, hP.2.1, hP.2.2⟩ hp rfl
      refine ⟨φ', ?_, k2, k3⟩
      refine MetA.of2 k_X2_readNext rfl (Nat.le_of_ble_eq_true rfl) rfl (B_X2_readNext_0 ?_)
      rw [e15, e16, hP.1, hP.2.1, nI_clamp (by decide), hg.1, nI_leI (by omega) (by decide)]
      refine ⟨fun _ => ⟨fun q => absurd q (by omega), fun _ => ⟨fun _ => ⟨vp_in_nI (by decide) (by decide), pk_charN hg.2, fun m e => ?_⟩, fun q => absurd (show nI 0 < nI 60 by decide) q⟩⟩, fun q => absurd (show nI 0 ≤ 0 by decide) q⟩
      rw [PSu] at e
      rw [e]
      exact ⟨_, _, k1, nb01 _, rI_ok rfl rfl⟩
    · have e : pO n g 0 = (false, 0, (0, 0, 0, 0)) := by unfold pO; rw [if_neg hp]
      rw [e]
      refine ⟨φ, ?_, hP, fun q => absurd (show false = true from q) Bool.false_ne_true⟩
      refine MetA.of2 k_X2_readNext rfl (Nat.le_of_ble_eq_true rfl) rfl (B_X2_readNext_0 ?_)
      rw [e15, hP.1, hP.2.1, nI_leI (by omega) (by decide)]
      exact ⟨fun _ => ⟨fun _ => rI_ok rfl rfl, fun q => absurd (by omega) q⟩, fun q => absurd (show nI 0 ≤ 0 by decide) q⟩
  · rw [if_neg c]
    have c0 : ¬ nI p ≤ 0 := nI_ge (a := 0) (b := p) (by omega) (by omega)
    by_cases d : isC n g p 59
    · rw [if_pos d]
      have ks := c_readSign_y hT hP (by decide) d
      by_cases hp : p + 1 < n
      · have hg := hT.2 (p + 1) hp
        obtain ⟨φ', k1, k2, k3⟩ := c_readOrder (φ := upd (upd φ 2 (nI (p + 1))) 3 (nI (g (p + 1)))) hT ⟨hP.1, rfl, Nat.le_of_lt hp⟩ hp rfl
        refine ⟨φ', ?_, k2, k3⟩
        refine MetA.of2 k_X2_readNext rfl (Nat.le_of_ble_eq_true rfl) rfl (B_X2_readNext_0 ?_)
        rw [e15, hP.2.1]
        refine ⟨fun q => absurd q c0, fun _ => ⟨_, _, ks, fun _ => ?_, fun q => absurd q (by decide)⟩⟩
        rw [e15, e16, show upd φ 2 (nI (p + 1)) 1 = nI n from hP.1, show upd φ 2 (nI (p + 1)) 2 = nI (p + 1) from rfl, nI_clamp (by omega), hg.1]
        refine ⟨fun q => absurd q (nI_ge hp (by omega)), fun _ => ⟨fun _ => ⟨vp_in_nI (by omega) (by decide), pk_charN hg.2, fun m e => ?_⟩, fun q => absurd (show nI (p + 1) < nI 60 by rw [nI_ltI (by omega) (by decide)]; omega) q⟩⟩
        rw [PSu] at e
        rw [e]
        exact ⟨_, _, k1, nb01 _, rI_ok rfl rfl⟩
      · have e : pO n g (p + 1) = (false, p + 1, (0, 0, 0, 0)) := by unfold pO; rw [if_neg hp]
        rw [e]
        refine ⟨upd φ 2 (nI (p + 1)), ?_, ⟨hP.1, rfl, d.1⟩, fun q => absurd (show false = true from q) Bool.false_ne_true⟩
        refine MetA.of2 k_X2_readNext rfl (Nat.le_of_ble_eq_true rfl) rfl (B_X2_readNext_0 ?_)
        rw [e15, hP.2.1]
        refine ⟨fun q => absurd q c0, fun _ => ⟨_, _, ks, fun _ => ?_, fun q => absurd q (by decide)⟩⟩
        rw [e15, show upd φ 2 (nI (p + 1)) 1 = nI n from hP.1, show upd φ 2 (nI (p + 1)) 2 = nI (p + 1) from rfl]
        exact ⟨fun _ => rI_ok rfl rfl, fun q => absurd (nI_le (by omega) (by omega)) q⟩
    · rw [if_neg d]
      have ks := c_readSign_n hT hP (by decide) d
      refine ⟨φ, ?_, hP, fun q => absurd (show false = true from q) Bool.false_ne_true⟩
      refine MetA.of2 k_X2_readNext rfl (Nat.le_of_ble_eq_true rfl) rfl (B_X2_readNext_0 ?_)
      rw [e15, hP.2.1]
      exact ⟨fun q => absurd q c0, fun _ => ⟨_, _, ks, fun q => absurd rfl q, fun _ => rI_ok rfl rfl⟩⟩
theorem c_findError (hT : TX μ n g) (h1 : φ 1 = nI n) : ∃ φ', MetA M_X2_findError [aR 15 0] (PS μ φ) (rI (if (uT n g 61 0).1 = true then -1 else nI (uT n g 61 0).2.1) (PS μ φ')) ∧ φ' 1 = nI n := by
  have w := hT.1
  have key : ∀ f p k φ, (p < n ∨ p = 0) → k ≤ p → n - p < f → PT φ n p → ∃ φ', φ' 1 = nI n ∧ ∀ P, P (.inl (some (aI (if (uT n g f p).1 = true then -1 else nI (uT n g f p).2.1)))) (PS μ φ') → AW M_X2_findError 0 7 [some (aR 15 0), some (aI (nI k))] [] (PS μ φ) P := by
    intro f
    induction f with
    | zero => intro p k φ _ _ h; omega
    | succ f ih =>
      intro p k φ hp hk hf hP
      have k60 : ¬ (60 : Int32) ≤ nI k := nI_ge (b := 60) (by omega) (by decide)
      obtain ⟨φ1, a1, a2, a3⟩ := c_readNext hT hP
      have na := nO_at (g := g) hP.2.2
      by_cases c : (nO n g p).1 = true
      · rw [if_pos c] at a1
        by_cases c2 : (nO n g p).2.1 < n
        · obtain ⟨φ', b1, b2⟩ := ih (nO n g p).2.1 (k + 1) φ1 (Or.inl c2) (by have := na.2.2 c; omega) (by have := na.2.2 c; omega) a2
          have e : uT n g (f + 1) p = ((uT n g f (nO n g p).2.1).1, (uT n g f (nO n g p).2.1).2.1, (nO n g p).2.2 :: (uT n g f (nO n g p).2.1).2.2) := by rw [uT, if_pos c, if_pos c2]
          rw [e]
          refine ⟨φ', b1, fun P h => B_X2_findError_7 ?_⟩
          refine ⟨fun q => absurd q k60, fun _ => ⟨_, _, a1, fun _ => ?_, fun q => absurd q (by decide)⟩⟩
          rw [e15, a2.1, a2.2.1, show (1 : Int32) = nI 1 from rfl, nI_add]
          exact ⟨fun _ => b2 P h, fun q => absurd (by rw [nI_ltI (by omega) (by omega)]; exact c2) q⟩
        · have e : uT n g (f + 1) p = (true, (nO n g p).2.1, [(nO n g p).2.2]) := by rw [uT, if_pos c, if_neg c2]
          rw [e]
          refine ⟨φ1, a2.1, fun P h => B_X2_findError_7 ?_⟩
          refine ⟨fun q => absurd q k60, fun _ => ⟨_, _, a1, fun _ => ?_, fun q => absurd q (by decide)⟩⟩
          rw [e15, a2.1, a2.2.1]
          exact ⟨fun q => absurd (by rw [nI_ltI (by omega) (by omega)] at q; exact q) c2, fun _ => h⟩
      · rw [if_neg c] at a1
        have e : uT n g (f + 1) p = (false, (nO n g p).2.1, []) := by rw [uT, if_neg c]
        rw [e]
        refine ⟨φ1, a2.1, fun P h => B_X2_findError_7 ?_⟩
        refine ⟨fun q => absurd q k60, fun _ => ⟨_, _, a1, fun q => absurd rfl q, fun _ => ?_⟩⟩
        rw [e15, a2.2.1]
        exact h
  obtain ⟨φ', b1, b2⟩ := key 61 0 0 (upd φ 2 0) (Or.inr rfl) (Nat.le_refl _) (by omega) ⟨h1, rfl, Nat.zero_le _⟩
  refine ⟨φ', ?_, b1⟩
  refine MetA.of2 k_X2_findError rfl (Nat.le_of_ble_eq_true rfl) rfl (B_X2_findError_0 ?_)
  intro m e
  rw [e15, PSu] at e
  rw [e]
  exact b2 _ (rI_ok rfl rfl)
end SN
