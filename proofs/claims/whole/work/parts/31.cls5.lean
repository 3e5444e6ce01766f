/-! what is asked of the class -/
theorem LC.ch {μ : Mem} {n : Nat} {f : Nat → Int32} (h : LC μ n f) {i : Nat} (hi : i < n) : narrow .char (.int (f i)) = .int (f i) := (h.2.2 i hi).2
theorem CK.rd {M : MI} {as : List AV} {μ : Mem} {r : AN} {T : TT} (H : TC μ T) (h : MetA M (aR 11 0 :: as) μ (rC r μ)) : CK M as μ r T := ⟨μ, h, H, Cl.rf⟩
theorem hs_or {A : SP} (W : WF A) (a : Int32) : (a < 0 ∨ nI (sH A) ≤ a) ∨ ∃ h, h < sH A ∧ a = nI h := by
  have w := W.hm
  exact in_or a (by omega)
theorem ss_or {A : SP} (W : WF A) (a : Int32) : (a < 0 ∨ nI (sS A) ≤ a) ∨ ∃ h, h < sS A ∧ a = nI h := by
  have w := W.sm
  exact in_or a (by omega)
theorem in_no {k n : Nat} (h : k < n) (hn : n < 1000) : ¬ (nI k < 0 ∨ nI n ≤ nI k) := by
  rintro (q | q)
  · exact nI_pos (by omega) q
  · exact nI_ge h (by omega) q
theorem bnd (b : Int32) {n : Nat} (hn : n < 1000) : (b < 0 ∨ nI n < b) ∨ ∃ w, w ≤ n ∧ b = nI w := by
  rcases in_or b (n := n + 1) (by omega) with (c | c) | ⟨k, hk, rfl⟩
  · exact Or.inl (Or.inl c)
  · refine Or.inl (Or.inr (Int32.lt_of_lt_of_le ?_ c))
    rw [nI_ltI (by omega) (by omega)]
    omega
  · exact Or.inr ⟨k, by omega, rfl⟩
theorem bnd_no {k n : Nat} (h : k ≤ n) (hn : n < 1000) : ¬ (nI k < 0 ∨ nI n < nI k) := by
  rintro (q | q)
  · exact nI_pos (by omega) q
  · rw [nI_ltI (by omega) (by omega)] at q
    omega
def qHo (A : SP) (a b : Int32) : AN := if a < 0 ∨ nI (sH A) ≤ a then .inr 0 else if b < 0 ∨ nI 6 < b then .inr 1 else .inl (sHo A a.toNatClampNeg b.toNatClampNeg)
def qSo (A : SP) (a b : Int32) : AN := if a < 0 ∨ nI (sS A) ≤ a then .inr 0 else if b < 0 ∨ nI 5 < b then .inr 1 else .inl (sSo A a.toNatClampNeg b.toNatClampNeg)
def qPl (A : SP) (a b : Int32) (f : Nat → Nat → Int32) : AN := if (a < 0 ∨ nI (sS A) ≤ a) ∨ b < 0 ∨ nI (sLn A a.toNatClampNeg) ≤ b then .inr 0 else .inl (f a.toNatClampNeg b.toNatClampNeg)
def qSh (A : SP) (a : Int32) (f : Nat → Int32) : AN := if a < 0 ∨ nI (sS A) ≤ a then .inr 0 else .inl (f a.toNatClampNeg)
def qHs (A : SP) (a : Int32) (f : Nat → Int32) : AN := if a < 0 ∨ nI (sH A) ≤ a then .inr 0 else .inl (f a.toNatClampNeg)
section SJ
variable {μ : Mem} {A : SP} {T : TT}
theorem p_houseOf {a b : Int32} (H : TC μ T) : CK M_X5_houseOf [aI a, aI b] μ (qHo (tA T) a b) T := by
  refine CK.rd H ?_
  have w := H.1.W.hm
  refine MetA.of2 k_X5_houseOf rfl (Nat.le_of_ble_eq_true rfl) rfl (B_X5_houseOf_0 ?_)
  unfold qHo
  rcases hs_or H.1.W a with c | ⟨h, hh, rfl⟩
  · rw [if_pos c]
    exact ⟨_, _, c_hasHouse_n (by decide) H.1 c, fun q => absurd rfl q, fun _ => rX_ok rfl⟩
  · rw [if_neg (in_no hh (by omega)), nI_clamp (by omega)]
    refine ⟨_, _, c_hasHouse_y (by decide) H.1 hh, fun _ => ?_, fun q => absurd q (by decide)⟩
    rcases bnd b (n := 6) (by decide) with c | ⟨k, hk, rfl⟩
    · rw [if_pos c]
      exact ⟨fun _ => rX_ok rfl, fun q => ⟨fun q2 => absurd (c.resolve_left q) (Int32.not_lt.mpr q2), fun _ => rX_ok rfl⟩⟩
    · rw [if_neg (bnd_no hk (by decide)), nI_clamp (by omega)]
      exact ⟨fun q => absurd q (nI_pos (by omega)), fun _ => ⟨fun _ => ⟨_, _, c_numberOfHouse (by decide) H.1 hh hk, rI_ok rfl rfl⟩, fun q => absurd (nI_le hk (by omega)) q⟩⟩
theorem p_sheetOf {a b : Int32} (H : TC μ T) : CK M_X5_sheetOf [aI a, aI b] μ (qSo (tA T) a b) T := by
  refine CK.rd H ?_
  have w := H.1.W.sm
  refine MetA.of2 k_X5_sheetOf rfl (Nat.le_of_ble_eq_true rfl) rfl (B_X5_sheetOf_0 ?_)
  unfold qSo
  rcases ss_or H.1.W a with c | ⟨h, hh, rfl⟩
  · rw [if_pos c]
    exact ⟨_, _, c_hasSheet_n (by decide) H.1 c, fun q => absurd rfl q, fun _ => rX_ok rfl⟩
  · rw [if_neg (in_no hh (by omega)), nI_clamp (by omega)]
    refine ⟨_, _, c_hasSheet_y (by decide) H.1 hh, fun _ => ?_, fun q => absurd q (by decide)⟩
    rcases bnd b (n := 5) (by decide) with c | ⟨k, hk, rfl⟩
    · rw [if_pos c]
      exact ⟨fun _ => rX_ok rfl, fun q => ⟨fun q2 => absurd (c.resolve_left q) (Int32.not_lt.mpr q2), fun _ => rX_ok rfl⟩⟩
    · rw [if_neg (bnd_no hk (by decide)), nI_clamp (by omega)]
      exact ⟨fun q => absurd q (nI_pos (by omega)), fun _ => ⟨fun _ => ⟨_, _, c_numberOfSheet (by decide) H.1 hh hk, rI_ok rfl rfl⟩, fun q => absurd (nI_le hk (by omega)) q⟩⟩
theorem nI_bv {q : Nat} (hq : q < 2 ^ 31) : (nI q).toBitVec.toNat = q := by
  show (BitVec.ofNat 32 q).toNat = q
  rw [BitVec.toNat_ofNat]
  omega
theorem chr {q : Nat} (hq : q < 65536) : ((nI q).toUInt32 % 65536).toInt32 = nI q := by
  rw [pk_char, nI_bv (by omega), Nat.mod_eq_of_lt hq]
theorem nar_ok {q : Nat} (hq : q < 65536) : vp_nar .char (nI q) = nI q := by
  have h := pk_vc (nI q)
  rw [chr hq] at h
  exact h
theorem c_letterOf {v : Nat} (hv : 1 ≤ v ∧ v ≤ 6) : MetA M_X5_letterOf [aI (nI v)] μ (rI (nI (96 + v)) μ) := by
  refine MetA.of2 k_X5_letterOf rfl (Nat.le_of_ble_eq_true rfl) rfl (B_X5_letterOf_0 ?_)
  refine ⟨pk_nc _, rI_ok ?_ rfl⟩
  rw [show (97 : Int32) = nI 97 from rfl, nI_add, show (1 : Int32) = nI 1 from rfl, pk_sub (by omega), chr (by omega)]
  congr 1
  omega
theorem p_letterAt {a b c : Int32} (H : TC μ T) : CK M_X5_letterAt [aI a, aI b, aI c] μ (qPl (tA T) a b fun s k => nI (96 + if c = 0 then sPl (tA T) s k else sRt (tA T) s k)) T := by
  refine CK.rd H ?_
  have w := H.1.W.sm
  refine MetA.of2 k_X5_letterAt rfl (Nat.le_of_ble_eq_true rfl) rfl (B_X5_letterAt_0 ?_)
  unfold qPl
  rcases plc _ H.1.W a b with c1 | ⟨s, k, hs, hk, rfl, rfl⟩
  · rw [if_pos c1]
    exact ⟨_, _, c_hasPlace_n (by decide) H.1 c1, fun q => absurd rfl q, fun _ => rX_ok rfl⟩
  · have w2 := H.1.W.ln hs
    have w3 := H.1.W.rt hs hk
    have w4 := H.1.W.pl hs hk
    rw [if_neg (plc_no H.1.W hs hk), nI_clamp (show s < 2 ^ 31 by omega), nI_clamp (show k < 2 ^ 31 by omega)]
    refine ⟨_, _, c_hasPlace_y (by decide) H.1 hs hk, fun _ => ⟨fun q => ?_, fun q => ?_⟩, fun q => absurd q (by decide)⟩
    · exact ⟨_, _, c_placedAt (by decide) H.1 hs hk, _, _, c_letterOf w4, (pk_charN (by omega)).1, rI_ok (by show _ = nI (96 + if _ then _ else _); rw [if_pos q]) rfl⟩
    · exact ⟨_, _, c_rightAt (by decide) H.1 hs hk, _, _, c_letterOf w3, (pk_charN (by omega)).1, rI_ok (by show _ = nI (96 + if _ then _ else _); rw [if_neg q]) rfl⟩
theorem p_markAt {a b : Int32} (H : TC μ T) : CK M_X5_markAt [aI a, aI b] μ (qPl (tA T) a b fun s k => nI (sLv (tA T) s k)) T := by
  refine CK.rd H ?_
  have w := H.1.W.sm
  refine MetA.of2 k_X5_markAt rfl (Nat.le_of_ble_eq_true rfl) rfl (B_X5_markAt_0 ?_)
  unfold qPl
  rcases plc _ H.1.W a b with c1 | ⟨s, k, hs, hk, rfl, rfl⟩
  · rw [if_pos c1]
    exact ⟨_, _, c_hasPlace_n (by decide) H.1 c1, fun q => absurd rfl q, fun _ => rX_ok rfl⟩
  · have w2 := H.1.W.ln hs
    rw [if_neg (plc_no H.1.W hs hk), nI_clamp (show s < 2 ^ 31 by omega), nI_clamp (show k < 2 ^ 31 by omega)]
    exact ⟨_, _, c_hasPlace_y (by decide) H.1 hs hk, fun _ => ⟨_, _, c_levelAt (by decide) H.1 hs hk, rI_ok rfl rfl⟩, fun q => absurd q (by decide)⟩
theorem p_fine {a b c : Int32} (H : TC μ T) : CK M_X5_fine [aI a, aI b, aI c] μ (qPl (tA T) a b fun s k => nI (sFine (tA T) s k)) T := by
  refine CK.rd H ?_
  have w := H.1.W.sm
  refine MetA.of2 k_X5_fine rfl (Nat.le_of_ble_eq_true rfl) rfl (B_X5_fine_0 ?_)
  unfold qPl
  rcases plc _ H.1.W a b with c1 | ⟨s, k, hs, hk, rfl, rfl⟩
  · rw [if_pos c1]
    exact ⟨_, _, c_hasPlace_n (by decide) H.1 c1, fun q => absurd rfl q, fun _ => rX_ok rfl⟩
  · have w2 := H.1.W.ln hs
    rw [if_neg (plc_no H.1.W hs hk), nI_clamp (show s < 2 ^ 31 by omega), nI_clamp (show k < 2 ^ 31 by omega)]
    exact ⟨_, _, c_hasPlace_y (by decide) H.1 hs hk, fun _ => ⟨fun _ => ⟨_, _, c_fineByRules (by decide) H.1 hs hk, rI_ok rfl rfl⟩, fun _ => ⟨_, _, c_fineAtOnce (by decide) H.1 hs hk, rI_ok rfl rfl⟩⟩, fun q => absurd q (by decide)⟩
theorem p_laughing {a b : Int32} (H : TC μ T) : CK M_X5_laughing [aI a, aI b] μ (qPl (tA T) a b fun s k => nI (sMask (tA T) s k)) T := by
  refine CK.rd H ?_
  have w := H.1.W.sm
  refine MetA.of2 k_X5_laughing rfl (Nat.le_of_ble_eq_true rfl) rfl (B_X5_laughing_0 ?_)
  unfold qPl
  rcases plc _ H.1.W a b with c1 | ⟨s, k, hs, hk, rfl, rfl⟩
  · rw [if_pos c1]
    exact ⟨_, _, c_hasPlace_n (by decide) H.1 c1, fun q => absurd rfl q, fun _ => rX_ok rfl⟩
  · have w2 := H.1.W.ln hs
    rw [if_neg (plc_no H.1.W hs hk), nI_clamp (show s < 2 ^ 31 by omega), nI_clamp (show k < 2 ^ 31 by omega)]
    exact ⟨_, _, c_hasPlace_y (by decide) H.1 hs hk, fun _ => ⟨_, _, c_laughersAt (by decide) H.1 hs hk, rI_ok rfl rfl⟩, fun q => absurd q (by decide)⟩
/-! fines in thought -/
def fiK (A : SP) (s : Nat) : Nat → SP
  | 0 => A
  | k + 1 => oPut (fiK A s k) s k (sRt A s k)
theorem fiK_inv (A : SP) (s : Nat) : ∀ k, (fiK A s k).1 = A.1 ∧ (fiK A s k).2.2.1 = A.2.2.1 ∧ sRt (fiK A s k) = sRt A ∧ ∀ i, k ≤ i → sPl (fiK A s k) s i = sPl A s i ∧ sLv (fiK A s k) s i = sLv A s i
  | 0 => ⟨rfl, rfl, rfl, fun _ _ => ⟨rfl, rfl⟩⟩
  | k + 1 => by
    have h := fiK_inv A s k
    refine ⟨h.1, h.2.1, h.2.2.1, fun i hi => ?_⟩
    have := h.2.2.2 i (by omega)
    constructor
    · show up2 _ s k _ s i = _
      unfold up2
      rw [if_neg (by omega)]
      exact this.1
    · show up2 _ s k _ s i = _
      unfold up2
      rw [if_neg (by omega)]
      exact this.2
theorem c_finesInThought {s : Nat} (R : RC μ 0 A) (hs : s < sS A) : ∃ μ', MetA M_X5_finesInThought [aR 11 0, aI (nI s)] μ (rI (nI (sFines A s)) μ') ∧ Sc μ μ' := by
  have w := R.W.sm
  have w2 := R.W.ln hs
  have hv : vp_in (nI s) 8 := vp_in_nI (by omega) (by omega)
  have key : ∃ m, RC m 2 (fiK A s (sLn A s)) ∧ Sc μ m ∧ ∀ P, AW M_X5_finesInThought 0 15 [some (aR 11 0), some (aI (nI s)), some (aI (nI (sm (sFine A s) (sLn A s)))), some (aI (nI (sLn A s)))] [] m P → AW M_X5_finesInThought 0 15 [some (aR 11 0), some (aI (nI s)), some (aI 0), some (aI 0)] [] (cpS μ 2 0) P := by
    refine loopF (sLn A s) (fun k => ∃ m, RC m 2 (fiK A s k) ∧ Sc μ m ∧ ∀ P, AW M_X5_finesInThought 0 15 [some (aR 11 0), some (aI (nI s)), some (aI (nI (sm (sFine A s) k))), some (aI (nI k))] [] m P → AW M_X5_finesInThought 0 15 [some (aR 11 0), some (aI (nI s)), some (aI 0), some (aI 0)] [] (cpS μ 2 0) P) ⟨_, cpS_RC (by decide) R, Sc.fr2 cpS_Fr, fun P h => h⟩ ?_
    intro k hk ⟨m, Rm, Sm, hm⟩
    obtain ⟨i1, i2, i3, i4⟩ := fiK_inv A s k
    have eS : sS (fiK A s k) = sS A := by show (fiK A s k).1.2.1 = A.1.2.1; rw [i1]
    have eL : sLn (fiK A s k) s = sLn A s := by show (fiK A s k).2.2.1.2 s = A.2.2.1.2 s; rw [i2]
    have eF : sFine (fiK A s k) s k = sFine A s k := by
      unfold sFine sBad
      rw [i3, (i4 k (Nat.le_refl k)).1, (i4 k (Nat.le_refl k)).2]
    have hs' : s < sS (fiK A s k) := by omega
    have hk' : k < sLn (fiK A s k) s := by omega
    have g1 := c_fineByRules (by decide) Rm hs' hk'
    rw [eF] at g1
    have g2 := c_rightAt (by decide) Rm hs' hk'
    rw [i3] at g2
    have w5 := Rm.W.rt hs' hk'
    rw [i3] at w5
    refine ⟨_, RC_put Rm hs' hk' w5, Sm.tr ?_, fun P h => hm P (B_X5_finesInThought_15 ?_)⟩
    · intro t o q
      rw [mset_n (by omega), mset_n (by omega)]
    · rw [nI_clamp (show s < 2 ^ 31 by omega), Rm.ln hs', eL]
      refine ⟨hv, fun q => absurd q (nI_ge hk (by omega)), fun _ => ⟨_, _, g1, _, _, g2, _, c_putLetter (by decide) Rm hs' hk' w5, ?_⟩⟩
      rw [nI_add, show (1 : Int32) = nI 1 from rfl, nI_add]
      exact h
  obtain ⟨m, Rm, Sm, hm⟩ := key
  refine ⟨m, ?_, Sm⟩
  refine MetA.of2 k_X5_finesInThought rfl (Nat.le_of_ble_eq_true rfl) rfl (B_X5_finesInThought_0 ?_)
  refine ⟨_, c_copyFrom (by decide) (by decide), hm _ (B_X5_finesInThought_15 ?_)⟩
  obtain ⟨i1, i2, i3, i4⟩ := fiK_inv A s (sLn A s)
  have eS : sS (fiK A s (sLn A s)) = sS A := by show (fiK A s (sLn A s)).1.2.1 = A.1.2.1; rw [i1]
  have eL : sLn (fiK A s (sLn A s)) s = sLn A s := by show (fiK A s (sLn A s)).2.2.1.2 s = A.2.2.1.2 s; rw [i2]
  rw [nI_clamp (show s < 2 ^ 31 by omega), Rm.ln (by omega), eL]
  exact ⟨hv, fun _ => rI_ok rfl rfl, fun q => absurd (nI_le (Nat.le_refl _) (by omega)) q⟩
theorem p_fines {a c : Int32} (H : TC μ T) : CK M_X5_fines [aI a, aI c] μ (qSh (tA T) a fun s => nI (sFines (tA T) s)) T := by
  have w := H.1.W.sm
  unfold qSh
  rcases ss_or H.1.W a with c1 | ⟨s, hs, rfl⟩
  · rw [if_pos c1]
    refine CK.rd H ?_
    refine MetA.of2 k_X5_fines rfl (Nat.le_of_ble_eq_true rfl) rfl (B_X5_fines_0 ?_)
    exact ⟨_, _, c_hasSheet_n (by decide) H.1 c1, fun q => absurd rfl q, fun _ => rX_ok rfl⟩
  · rw [if_neg (in_no hs (by omega)), nI_clamp (by omega)]
    by_cases c2 : c = 0
    · refine CK.rd H ?_
      refine MetA.of2 k_X5_fines rfl (Nat.le_of_ble_eq_true rfl) rfl (B_X5_fines_0 ?_)
      exact ⟨_, _, c_hasSheet_y (by decide) H.1 hs, fun _ => ⟨fun _ => ⟨_, _, c_finesByPlace (by decide) H.1 hs, rI_ok rfl rfl⟩, fun q => absurd c2 q⟩, fun q => absurd q (by decide)⟩
    · obtain ⟨m, h1, h2⟩ := c_finesInThought H.1 hs
      refine ⟨m, ?_, TC.sc h2 H, h2.cl⟩
      refine MetA.of2 k_X5_fines rfl (Nat.le_of_ble_eq_true rfl) rfl (B_X5_fines_0 ?_)
      exact ⟨_, _, c_hasSheet_y (by decide) H.1 hs, fun _ => ⟨fun q => absurd q c2, fun _ => ⟨_, _, h1, rI_ok rfl rfl⟩⟩, fun q => absurd q (by decide)⟩
theorem p_canMend {a : Int32} (H : TC μ T) : CK M_X5_canMend [aI a] μ (qSh (tA T) a fun s => nI (bi (sFines (tA T) s ≤ sCn (tA T) (sOw (tA T) s)))) T := by
  refine CK.rd H ?_
  have w := H.1.W.sm
  have w0 := H.1.W.hm
  refine MetA.of2 k_X5_canMend rfl (Nat.le_of_ble_eq_true rfl) rfl (B_X5_canMend_0 ?_)
  unfold qSh
  rcases ss_or H.1.W a with c1 | ⟨s, hs, rfl⟩
  · rw [if_pos c1]
    exact ⟨_, _, c_hasSheet_n (by decide) H.1 c1, fun q => absurd rfl q, fun _ => rX_ok rfl⟩
  · have w1 := H.1.W.ow hs
    have w2 := H.1.W.cn w1
    have w3 := sFines_le H.1.W hs
    rw [if_neg (in_no hs (by omega)), nI_clamp (by omega)]
    refine ⟨_, _, c_hasSheet_y (by decide) H.1 hs, fun _ => ⟨_, _, c_finesByPlace (by decide) H.1 hs, ?_⟩, fun q => absurd q (by decide)⟩
    rw [H.1.ow hs, nI_clamp (by omega), H.1.cn w1, nI_ltI (by omega) (by omega)]
    refine ⟨vp_in_nI (by omega) (by omega), vp_in_nI (by omega) (by omega), fun q => rI_ok ?_ rfl, fun q => rI_ok ?_ rfl⟩
    · show 0 = nI (bi _)
      rw [bi_f (by omega)]
      rfl
    · show 1 = nI (bi _)
      rw [bi_t (by omega)]
      rfl
theorem p_wouldShame {a : Int32} (H : TC μ T) : CK M_X5_wouldShame [aI a] μ (qHs (tA T) a fun h => nI (min 99 (sSh (tA T) h + sStc (tA T) h))) T := by
  refine CK.rd H ?_
  have w := H.1.W.hm
  refine MetA.of2 k_X5_wouldShame rfl (Nat.le_of_ble_eq_true rfl) rfl (B_X5_wouldShame_0 ?_)
  unfold qHs
  rcases hs_or H.1.W a with c | ⟨h, hh, rfl⟩
  · rw [if_pos c]
    exact ⟨_, _, c_hasHouse_n (by decide) H.1 c, fun q => absurd rfl q, fun _ => rX_ok rfl⟩
  · have w2 := H.1.W.sh hh
    have w3 : sStc (tA T) h ≤ 8 * 40 := by
      have w5 := H.1.W.sm
      refine Nat.le_trans (sm_le (c := 40) fun s hs => ?_) (by omega)
      show (if _ then _ else _) ≤ _
      split
      · have w4 := H.1.W.ln hs
        refine Nat.le_trans (sm_le (c := 5) fun k hk => ?_) (by omega)
        show (if _ then _ else _) ≤ _
        have := sBad_le H.1.W hs hk
        split <;> omega
      · omega
    rw [if_neg (in_no hh (by omega)), nI_clamp (by omega)]
    refine ⟨_, _, c_hasHouse_y (by decide) H.1 hh, fun _ => ⟨vp_in_nI (by omega) (by omega), _, _, c_shameToCome (by decide) H.1 hh, ?_⟩, fun q => absurd q (by decide)⟩
    rw [H.1.sh hh, nI_add]
    exact ⟨_, _, c_atMostKept (by omega), rI_ok rfl rfl⟩
theorem p_wouldLaugh {a : Int32} (H : TC μ T) : CK M_X5_wouldLaugh [aI a] μ (.inl (nI (sWl (tA T)))) T := by
  refine CK.rd H ?_
  refine MetA.of2 k_X5_wouldLaugh rfl (Nat.le_of_ble_eq_true rfl) rfl (B_X5_wouldLaugh_0 ?_)
  exact ⟨fun _ => ⟨_, _, c_laughsByMisprint (by decide) H.1, rI_ok rfl rfl⟩, fun _ => ⟨_, _, c_laughsByReader (by decide) H.1, rI_ok rfl rfl⟩⟩
theorem p_calmIn {a : Int32} (H : TC μ T) : CK M_X5_calmIn [aI a] μ (qHs (tA T) a fun h => nI (sSh (tA T) h - 20)) T := by
  refine CK.rd H ?_
  have w := H.1.W.hm
  refine MetA.of2 k_X5_calmIn rfl (Nat.le_of_ble_eq_true rfl) rfl (B_X5_calmIn_0 ?_)
  unfold qHs
  rcases hs_or H.1.W a with c | ⟨h, hh, rfl⟩
  · rw [if_pos c]
    exact ⟨_, _, c_hasHouse_n (by decide) H.1 c, fun q => absurd rfl q, fun _ => rX_ok rfl⟩
  · have w2 := H.1.W.sh hh
    rw [if_neg (in_no hh (by omega)), nI_clamp (by omega)]
    refine ⟨_, _, c_hasHouse_y (by decide) H.1 hh, fun _ => ⟨vp_in_nI (by omega) (by omega), fun r e => rI_ok ?_ rfl⟩, fun q => absurd q (by decide)⟩
    rw [H.1.sh hh] at e
    rw [e]
    show _ = nI (sSh (tA T) h - 20)
    by_cases c : 20 < sSh (tA T) h
    · rw [show (20 : Int32) = nI 20 from rfl, pk_sub (by omega), if_pos (by rw [n0, nI_ltI (by omega) (by omega)]; omega)]
    · rw [if_neg, show sSh (tA T) h - 20 = 0 by omega]
      · rfl
      · intro q
        by_cases c3 : sSh (tA T) h = 20
        · rw [c3] at q
          exact absurd q (by decide)
        · have := pk_sneg (a := sSh (tA T) h) (b := 20) (by omega) (by omega)
          exact absurd (Int32.lt_trans q this) (by decide)
/-! the nearest word, orders -/
def nr (A : SP) (s : Nat) : Nat → Nat
  | 0 => 0
  | n + 1 => if sUn A s (n + 1) < sUn A s (nr A s n) then n + 1 else nr A s n
theorem nr_le (A : SP) (s : Nat) : ∀ n, nr A s n ≤ n
  | 0 => Nat.le_refl _
  | n + 1 => by
    have := nr_le A s n
    rw [nr]
    split <;> omega
theorem sUn_le {A : SP} (W : WF A) {s o : Nat} (hs : s < sS A) (ho : o < sS A) : sUn A s o ≤ 16 := by
  have w1 := W.ln hs
  have w2 := W.ln ho
  have := sm_le (f := fun k => bi (sPl A s k ≠ sRt A o k)) (c := 1) (n := min (sLn A s) (sLn A o)) (fun k _ => by show bi _ ≤ 1; unfold bi; split <;> omega)
  unfold sUn
  omega
theorem p_nearest {a : Int32} (H : TC μ T) : CK M_X5_nearest [aI a] μ (qSh (tA T) a fun s => nI (nr (tA T) s (sS (tA T) - 1))) T := by
  refine CK.rd H ?_
  have w := H.1.W.sm
  refine MetA.of2 k_X5_nearest rfl (Nat.le_of_ble_eq_true rfl) rfl (B_X5_nearest_0 ?_)
  unfold qSh
  rcases ss_or H.1.W a with c1 | ⟨s, hs, rfl⟩
  · rw [if_pos c1]
    exact ⟨_, _, c_hasSheet_n (by decide) H.1 c1, fun q => absurd rfl q, fun _ => rX_ok rfl⟩
  · rw [if_neg (in_no hs (by omega)), nI_clamp (by omega)]
    refine ⟨_, _, c_hasSheet_y (by decide) H.1 hs, fun _ => ?_, fun q => absurd q (by decide)⟩
    refine loopN (sS (tA T) - 1) (fun n => AW M_X5_nearest 0 25 [some (aR 11 0), some (aI (nI s)), some (aI (nI (nr (tA T) s n))), some (aI (nI (n + 1)))] [] μ _) ?_ ?_
    · refine B_X5_nearest_25 ?_
      rw [H.1.S]
      exact ⟨fun _ => rI_ok rfl rfl, fun q => absurd (nI_le (by omega) (by omega)) q⟩
    · intro n hn ih
      have hb := nr_le (tA T) s n
      have u1 := sUn_le H.1.W (s := s) (o := n + 1) hs (by omega)
      have u2 := sUn_le H.1.W (s := s) (o := nr (tA T) s n) hs (by omega)
      refine B_X5_nearest_25 ?_
      rw [H.1.S]
      refine ⟨fun q => absurd q (nI_ge (by omega) (by omega)), fun _ => ⟨_, _, c_unlike (by decide) H.1 hs (by omega), _, _, c_unlike (by decide) H.1 hs (by omega), ?_⟩⟩
      rw [nr] at ih
      rw [nI_leI (by omega) (by omega), show (1 : Int32) = nI 1 from rfl, nI_add]
      by_cases c : sUn (tA T) s (n + 1) < sUn (tA T) s (nr (tA T) s n)
      · rw [if_pos c] at ih
        exact ⟨fun q => absurd q (by omega), fun _ => ih⟩
      · rw [if_neg c] at ih
        exact ⟨fun _ => ih, fun q => absurd (by omega) q⟩
def fnd (f : Nat → Nat) (p : Int32) : Nat → Nat → AN
  | 0, _ => .inr 4
  | m + 1, i => if nI (f i) = p then .inl (nI i) else fnd f p m (i + 1)
theorem p_ashamed {a : Int32} (H : TC μ T) : CK M_X5_ashamed [aI a] μ (fnd (sRkH (tA T)) a (sH (tA T)) 0) T := by
  refine CK.rd H ?_
  have w := H.1.W.hm
  refine MetA.of2 k_X5_ashamed rfl (Nat.le_of_ble_eq_true rfl) rfl (B_X5_ashamed_0 ?_)
  have key : ∀ m i, i + m = sH (tA T) → AW M_X5_ashamed 0 2 [some (aR 11 0), some (aI a), some (aI (nI i))] [] μ (rC (fnd (sRkH (tA T)) a m i) μ) := by
    intro m
    induction m with
    | zero =>
      intro i hi
      refine B_X5_ashamed_2 ?_
      rw [H.1.H, fnd]
      exact ⟨fun _ => rX_ok rfl, fun q => absurd (nI_le (by omega) (by omega)) q⟩
    | succ m ih =>
      intro i hi
      refine B_X5_ashamed_2 ?_
      rw [H.1.H, fnd]
      refine ⟨fun q => absurd q (nI_ge (by omega) (by omega)), fun _ => ⟨_, _, c_rankOfHouse (by decide) H.1 (by omega), fun q => ?_, fun q => ?_⟩⟩
      · rw [if_neg q, show (1 : Int32) = nI 1 from rfl, nI_add]
        exact ih (i + 1) (by omega)
      · rw [if_pos q]
        exact rI_ok rfl rfl
  exact key (sH (tA T)) 0 (by omega)
theorem p_worst {a : Int32} (H : TC μ T) : CK M_X5_worst [aI a] μ (fnd (sRkS (tA T)) a (sS (tA T)) 0) T := by
  refine CK.rd H ?_
  have w := H.1.W.sm
  refine MetA.of2 k_X5_worst rfl (Nat.le_of_ble_eq_true rfl) rfl (B_X5_worst_0 ?_)
  have key : ∀ m i, i + m = sS (tA T) → AW M_X5_worst 0 2 [some (aR 11 0), some (aI a), some (aI (nI i))] [] μ (rC (fnd (sRkS (tA T)) a m i) μ) := by
    intro m
    induction m with
    | zero =>
      intro i hi
      refine B_X5_worst_2 ?_
      rw [H.1.S, fnd]
      exact ⟨fun _ => rX_ok rfl, fun q => absurd (nI_le (by omega) (by omega)) q⟩
    | succ m ih =>
      intro i hi
      refine B_X5_worst_2 ?_
      rw [H.1.S, fnd]
      refine ⟨fun q => absurd q (nI_ge (by omega) (by omega)), fun _ => ⟨_, _, c_rankOfSheet (by decide) H.1 (by omega), fun q => ?_, fun q => ?_⟩⟩
      · rw [if_neg q, show (1 : Int32) = nI 1 from rfl, nI_add]
        exact ih (i + 1) (by omega)
      · rw [if_pos q]
        exact rI_ok rfl rfl
  exact key (sS (tA T)) 0 (by omega)
end SJ
