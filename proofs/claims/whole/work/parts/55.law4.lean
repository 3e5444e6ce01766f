/-! the law: what each call's case does -/
def M_law : MI := (yL_law, cL_law, 9, some .boolean, 11, 512, 150, 6000, [])
def Sq (μ : Mem) (L : Nat) (xs : Nat → Int32) : Prop := μ 98 0 0 = nI L ∧ μ 99 0 = xs ∧ L ≤ 2048
abbrev LL (x : Nat) (a b c : Option AV) : LOC := [some (aR 99 0), some (aR 11 0), some (aR 19 0), some (aR 27 0), some (aR 28 0), some (aI (nI x)), a, b, c]
abbrev rT : RES → Mem → Prop := fun r _ => r = .inl (some (aI 1))
theorem hiTM {μ μ' : Mem} {T : TT} (h : ∀ t, 19 ≤ t → t ≤ 26 → μ' t = μ t) (H : TM μ T) : TM μ' T := by
  unfold TM HM at *
  rw [h 19 (by omega) (by omega), h 20 (by omega) (by omega), h 21 (by omega) (by omega), h 22 (by omega) (by omega), h 24 (by omega) (by omega), h 25 (by omega) (by omega)]
  exact H
theorem Lw.TM {μ μ' : Mem} {T : TT} (h : Lw μ μ') (H : TM μ T) : TM μ' T := hiTM (fun t h1 h2 => h t h1 (by omega) (by omega)) H
theorem Mo.TC {μ μ' : Mem} {T : TT} (h : Mo μ μ') (H : TC μ T) : TC μ' T := TC.lo (fun t h1 => h t (Or.inl h1)) H
theorem Sq.mv {μ μ' : Mem} {L : Nat} {xs : Nat → Int32} (h : ∀ t, 98 ≤ t → μ' t = μ t) (S : Sq μ L xs) : Sq μ' L xs := ⟨by rw [h 98 (by omega)]; exact S.1, by rw [h 99 (by omega)]; exact S.2.1, S.2.2⟩
theorem Sq.lw {μ μ' : Mem} {L : Nat} {xs : Nat → Int32} (h : Lw μ μ') (S : Sq μ L xs) : Sq μ' L xs := S.mv fun t ht => h t (by omega) (by omega) (by omega)
theorem Sq.mo {μ μ' : Mem} {L : Nat} {xs : Nat → Int32} (h : Mo μ μ') (S : Sq μ L xs) : Sq μ' L xs := S.mv fun t ht => h t (Or.inr (by omega))
theorem Sq.cl {μ μ' : Mem} {L : Nat} {xs : Nat → Int32} (h : Cl μ μ') (S : Sq μ L xs) : Sq μ' L xs := S.mv fun t ht => h t (by omega)
theorem m_thrown {μ : Mem} : MetA M_X6_thrown [aR 19 0] μ (rI (μ 19 0 8) μ) := by
  refine MetA.of2 k_X6_thrown rfl (Nat.le_of_ble_eq_true rfl) rfl (B_X6_thrown_0 ?_)
  exact rI_ok rfl rfl
theorem lg_0 (x : Int64) : lg_cmp x x = 0 := (lg_cmp_eq x x).mpr rfl
theorem cdl_ne {l : List Nat} {e : Nat} (h : ¬ l = []) (hl : l.length ≤ 3) : ¬ nI (cdl l e) = 0 := by
  cases l with
  | nil => exact absurd rfl h
  | cons a l =>
    have := cdl_in l a e
    have h2 : l.length + 1 ≤ 3 := hl
    rw [nI_z (by omega)]
    omega
section LC
variable {μ : Mem} {T : TT} {L x u : Nat} {xs : Nat → Int32}
theorem AW_arg1 {pc : Nat} {st : List AV} {loc : LOC} (d0 : decode cL_law pc = .ok (.aload_n 0, 1)) (d1 : decode cL_law (pc + 1) = .ok (.iload 5, 2)) (d3 : decode cL_law (pc + 3) = .ok (.iconst 1, 1)) (d4 : decode cL_law (pc + 4) = .ok (.iadd, 1)) (d5 : decode cL_law (pc + 5) = .ok (.iaload, 1)) (h0 : loc[0]? = some (some (aR 99 0))) (h5 : loc[5]? = some (some (aI (nI x)))) (S : Sq μ L xs) (hx : x + 1 < L) (k : AW M_law u (pc + 6) loc (aI (xs (x + 1)) :: st) μ rT) : AW M_law u pc loc st μ rT := by
  obtain ⟨s1, s2, s3⟩ := S
  refine AW_aload_n (k := 0) d0 h0 ?_
  refine AW_iload d1 h5 ?_
  refine AW_iconst (v := 1) d3 (by decide) ?_
  refine AW_iadd d4 ?_
  refine AW_saload d5 ?_ ?_
  · rw [s1, show (1 : Int32) = nI 1 from rfl, nI_add, nI_clamp (by omega)]
    exact vp_in_nI (by omega) (by omega)
  · rw [show (1 : Int32) = nI 1 from rfl, nI_add, nI_clamp (by omega), s2]
    exact k
theorem AW_arg2 {pc : Nat} {st : List AV} {loc : LOC} (d0 : decode cL_law pc = .ok (.aload_n 0, 1)) (d1 : decode cL_law (pc + 1) = .ok (.iload 5, 2)) (d3 : decode cL_law (pc + 3) = .ok (.iconst 2, 1)) (d4 : decode cL_law (pc + 4) = .ok (.iadd, 1)) (d5 : decode cL_law (pc + 5) = .ok (.iaload, 1)) (h0 : loc[0]? = some (some (aR 99 0))) (h5 : loc[5]? = some (some (aI (nI x)))) (S : Sq μ L xs) (hx : x + 2 < L) (k : AW M_law u (pc + 6) loc (aI (xs (x + 2)) :: st) μ rT) : AW M_law u pc loc st μ rT := by
  obtain ⟨s1, s2, s3⟩ := S
  refine AW_aload_n (k := 0) d0 h0 ?_
  refine AW_iload d1 h5 ?_
  refine AW_iconst (v := 2) d3 (by decide) ?_
  refine AW_iadd d4 ?_
  refine AW_saload d5 ?_ ?_
  · rw [s1, show (2 : Int32) = nI 2 from rfl, nI_add, nI_clamp (by omega)]
    exact vp_in_nI (by omega) (by omega)
  · rw [show (2 : Int32) = nI 2 from rfl, nI_add, nI_clamp (by omega), s2]
    exact k
theorem AW_arg3 {pc : Nat} {st : List AV} {loc : LOC} (d0 : decode cL_law pc = .ok (.aload_n 0, 1)) (d1 : decode cL_law (pc + 1) = .ok (.iload 5, 2)) (d3 : decode cL_law (pc + 3) = .ok (.iconst 3, 1)) (d4 : decode cL_law (pc + 4) = .ok (.iadd, 1)) (d5 : decode cL_law (pc + 5) = .ok (.iaload, 1)) (h0 : loc[0]? = some (some (aR 99 0))) (h5 : loc[5]? = some (some (aI (nI x)))) (S : Sq μ L xs) (hx : x + 3 < L) (k : AW M_law u (pc + 6) loc (aI (xs (x + 3)) :: st) μ rT) : AW M_law u pc loc st μ rT := by
  obtain ⟨s1, s2, s3⟩ := S
  refine AW_aload_n (k := 0) d0 h0 ?_
  refine AW_iload d1 h5 ?_
  refine AW_iconst (v := 3) d3 (by decide) ?_
  refine AW_iadd d4 ?_
  refine AW_saload d5 ?_ ?_
  · rw [s1, show (3 : Int32) = nI 3 from rfl, nI_add, nI_clamp (by omega)]
    exact vp_in_nI (by omega) (by omega)
  · rw [show (3 : Int32) = nI 3 from rfl, nI_add, nI_clamp (by omega), s2]
    exact k
theorem AW_tail {t : Nat} {g : Int} {c : AN} {l : List Nat} {v : Int32} (d0 : decode cL_law (t + 0) = .ok (.aload_n 2, 1)) (d1 : decode cL_law (t + 1) = .ok (.invokevirtual 144, 3)) (d4 : decode cL_law (t + 4) = .ok (.iload 6, 2)) (d6 : decode cL_law (t + 6) = .ok (.if_icmp .eq 5, 3)) (d11 : decode cL_law (t + 11) = .ok (.iload 6, 2)) (d13 : decode cL_law (t + 13) = .ok (.ifCond .ne 15, 3)) (d16 : decode cL_law (t + 16) = .ok (.aload_n 3, 1)) (d17 : decode cL_law (t + 17) = .ok (.iconst 0, 1)) (d18 : decode cL_law (t + 18) = .ok (.laload, 1)) (d19 : decode cL_law (t + 19) = .ok (.iload 7, 2)) (d21 : decode cL_law (t + 21) = .ok (.i2l, 1)) (d22 : decode cL_law (t + 22) = .ok (.lcmp, 1)) (d23 : decode cL_law (t + 23) = .ok (.ifCond .eq 5, 3)) (d28 : decode cL_law (t + 28) = .ok (.goto g, 3)) (hg : ((t + 28 : Nat) : Int) + g = ((2423 : Nat) : Int)) (hu : u ≤ 512) (h8 : μ 19 0 8 = nI (cc l c)) (hl : l.length ≤ 3 ∧ ¬ l = []) (hv : ∀ w, c = .inl w → v = w) (h27 : ∀ w, c = .inl w → μ 27 0 0 = w) (k : AW M_law u 2423 (LL x none none none) [] μ rT) : AW M_law u t (LL x (some (aI (nI (cc l c)))) (some (aI v)) none) [] μ rT := by
  have fin : AW M_law u (t + 28) (LL x (some (aI (nI (cc l c)))) (some (aI v)) none) [] μ rT := AW_goto (tgt := 2423) d28 hg (AW_mask [true, true, true, true, true, true, false, false, true] k)
  refine AW_aload_n (k := 2) d0 rfl ?_
  refine AW_callVI (u' := u) [] d1 cv_L_144 rfl rfl rfl (by decide) rfl hu (by decide) m_thrown ?_
  refine AW_iload d4 rfl ?_
  refine AW_icmp_eq (tgt := t + 11) d6 (by omega) (fun _ => ?_) (fun q => absurd h8 q)
  refine AW_iload d11 rfl ?_
  cases c with
  | inr e => exact AW_if_ne (tgt := t + 28) d13 (by omega) (fun _ => fin) (fun q => absurd q (cdl_ne hl.2 hl.1))
  | inl w =>
    refine AW_if_ne (tgt := t + 28) d13 (by omega) (fun q => absurd rfl q) (fun _ => ?_)
    refine AW_aload_n (k := 3) d16 rfl ?_
    refine AW_iconst (v := 0) d17 (by decide) ?_
    refine AW_laload d18 rfl rfl (vp_in_nI (n := 0) (N := 1) (by decide) (by decide)) ?_
    refine AW_iload d19 rfl ?_
    refine AW_i2l d21 ?_
    refine AW_lcmp d22 ?_
    refine AW_if_eq (tgt := t + 28) d23 (by omega) (fun _ => fin) (fun q => absurd ?_ q)
    rw [show μ 27 0 (0 : Int32).toNatClampNeg = w from h27 w rfl, hv w rfl]
    exact lg_0 _
theorem anE {c : CH} {e : Nat} (h : anC c = .inr e) : ∃ p, c = .inr p ∧ p.1 = e := by
  cases c with
  | inl p => cases h
  | inr p => cases h; exact ⟨p, rfl, rfl⟩
theorem e_house {A : SP} {a : Int32} : ∀ e, anC (chHouse A a) = .inr e → e = 1 ∨ e = 2 := by
  intro e h
  obtain ⟨p, hp, rfl⟩ := anE h
  unfold chHouse at hp
  repeat' split at hp
  all_goals first | (cases hp; first | exact rfl | exact Or.inl rfl | exact Or.inr rfl | exact Or.inr (Or.inl rfl) | exact Or.inr (Or.inr rfl)) | (cases hp; done)
theorem e_sheet {A : SP} {a b : Int32} : ∀ e, anC (chSheet A a b) = .inr e → e = 0 ∨ e = 1 ∨ e = 2 := by
  intro e h
  obtain ⟨p, hp, rfl⟩ := anE h
  unfold chSheet at hp
  repeat' split at hp
  all_goals first | (cases hp; first | exact rfl | exact Or.inl rfl | exact Or.inr rfl | exact Or.inr (Or.inl rfl) | exact Or.inr (Or.inr rfl)) | (cases hp; done)
theorem e_take {A : SP} {a : Int32} : ∀ e, anC (chTake A a) = .inr e → e = 0 := by
  intro e h
  obtain ⟨p, hp, rfl⟩ := anE h
  unfold chTake at hp
  repeat' split at hp
  all_goals first | (cases hp; first | exact rfl | exact Or.inl rfl | exact Or.inr rfl | exact Or.inr (Or.inl rfl) | exact Or.inr (Or.inr rfl)) | (cases hp; done)
theorem e_set {A : SP} {a b c : Int32} : ∀ e, anC (chSet A a b c) = .inr e → e = 0 ∨ e = 1 ∨ e = 2 := by
  intro e h
  obtain ⟨p, hp, rfl⟩ := anE h
  unfold chSet chSet2 at hp
  repeat' split at hp
  all_goals first | (cases hp; first | exact rfl | exact Or.inl rfl | exact Or.inr rfl | exact Or.inr (Or.inl rfl) | exact Or.inr (Or.inr rfl)) | (cases hp; done)
theorem e_license {A : SP} {a b : Int32} : ∀ e, anC (chLic A a b) = .inr e → e = 0 ∨ e = 2 := by
  intro e h
  obtain ⟨p, hp, rfl⟩ := anE h
  unfold chLic chLic2 at hp
  repeat' split at hp
  all_goals first | (cases hp; first | exact rfl | exact Or.inl rfl | exact Or.inr rfl | exact Or.inr (Or.inl rfl) | exact Or.inr (Or.inr rfl)) | (cases hp; done)
theorem e_correct {A : SP} {a b : Int32} : ∀ e, anC (chCor A a b) = .inr e → e = 0 ∨ e = 2 := by
  intro e h
  obtain ⟨p, hp, rfl⟩ := anE h
  unfold chCor chCor2 at hp
  repeat' split at hp
  all_goals first | (cases hp; first | exact rfl | exact Or.inl rfl | exact Or.inr rfl | exact Or.inr (Or.inl rfl) | exact Or.inr (Or.inr rfl)) | (cases hp; done)
theorem e_reader {A : SP} {a b : Int32} : ∀ e, anC (chRead A a b) = .inr e → e = 1 ∨ e = 2 := by
  intro e h
  obtain ⟨p, hp, rfl⟩ := anE h
  unfold chRead at hp
  repeat' split at hp
  all_goals first | (cases hp; first | exact rfl | exact Or.inl rfl | exact Or.inr rfl | exact Or.inr (Or.inl rfl) | exact Or.inr (Or.inr rfl)) | (cases hp; done)
theorem e_edition {A : SP} : ∀ e, anC (chEd A ) = .inr e → e = 2 := by
  intro e h
  obtain ⟨p, hp, rfl⟩ := anE h
  unfold chEd at hp
  repeat' split at hp
  all_goals first | (cases hp; first | exact rfl | exact Or.inl rfl | exact Or.inr rfl | exact Or.inr (Or.inl rfl) | exact Or.inr (Or.inr rfl)) | (cases hp; done)
theorem e_houseOf {A : SP} {a b : Int32} : ∀ e, qHo A a b = .inr e → e = 0 ∨ e = 1 := by
  intro e h
  unfold qHo at h
  repeat' split at h
  all_goals first | (cases h; first | exact rfl | exact Or.inl rfl | exact Or.inr rfl | exact Or.inr (Or.inl rfl) | exact Or.inr (Or.inr rfl)) | (cases h; done)
theorem e_sheetOf {A : SP} {a b : Int32} : ∀ e, qSo A a b = .inr e → e = 0 ∨ e = 1 := by
  intro e h
  unfold qSo at h
  repeat' split at h
  all_goals first | (cases h; first | exact rfl | exact Or.inl rfl | exact Or.inr rfl | exact Or.inr (Or.inl rfl) | exact Or.inr (Or.inr rfl)) | (cases h; done)
theorem e_pl {A : SP} {a b : Int32} {f : Nat → Nat → Int32} : ∀ e, qPl A a b f = .inr e → e = 0 := by
  intro e h
  unfold qPl at h
  repeat' split at h
  all_goals first | (cases h; first | exact rfl | exact Or.inl rfl | exact Or.inr rfl | exact Or.inr (Or.inl rfl) | exact Or.inr (Or.inr rfl)) | (cases h; done)
theorem e_sh {A : SP} {a : Int32} {f : Nat → Int32} : ∀ e, qSh A a f = .inr e → e = 0 := by
  intro e h
  unfold qSh at h
  repeat' split at h
  all_goals first | (cases h; first | exact rfl | exact Or.inl rfl | exact Or.inr rfl | exact Or.inr (Or.inl rfl) | exact Or.inr (Or.inr rfl)) | (cases h; done)
theorem e_hs {A : SP} {a : Int32} {f : Nat → Int32} : ∀ e, qHs A a f = .inr e → e = 0 := by
  intro e h
  unfold qHs at h
  repeat' split at h
  all_goals first | (cases h; first | exact rfl | exact Or.inl rfl | exact Or.inr rfl | exact Or.inr (Or.inl rfl) | exact Or.inr (Or.inr rfl)) | (cases h; done)
theorem e_bargain {A : SP} {a : Int32} : ∀ e, qBg A a = .inr e → e = 4 := by
  intro e h
  unfold qBg at h
  repeat' split at h
  all_goals first | (cases h; first | exact rfl | exact Or.inl rfl | exact Or.inr rfl | exact Or.inr (Or.inl rfl) | exact Or.inr (Or.inr rfl)) | (cases h; done)
theorem e_line {T : TT} {a : Int32} : ∀ e, (qLi T a).1 = .inr e → e = 0 := by
  intro e h
  unfold qLi at h
  repeat' split at h
  all_goals first | (cases h; first | exact rfl | exact Or.inl rfl | exact Or.inr rfl | exact Or.inr (Or.inl rfl) | exact Or.inr (Or.inr rfl)) | (cases h; done)
theorem e_houseLine {T : TT} {a : Int32} : ∀ e, (qHl T a).1 = .inr e → e = 0 := by
  intro e h
  unfold qHl at h
  repeat' split at h
  all_goals first | (cases h; first | exact rfl | exact Or.inl rfl | exact Or.inr rfl | exact Or.inr (Or.inl rfl) | exact Or.inr (Or.inr rfl)) | (cases h; done)
theorem e_character {T : TT} {a : Int32} : ∀ e, qCh T a = .inr e → e = 0 := by
  intro e h
  unfold qCh at h
  repeat' split at h
  all_goals first | (cases h; first | exact rfl | exact Or.inl rfl | exact Or.inr rfl | exact Or.inr (Or.inl rfl) | exact Or.inr (Or.inr rfl)) | (cases h; done)
theorem e_append {T : TT} {c : Nat} : ∀ e, (qAp T c).1 = .inr e → e = 3 := by
  intro e h
  unfold qAp at h
  repeat' split at h
  all_goals first | (cases h; first | exact rfl | exact Or.inl rfl | exact Or.inr rfl | exact Or.inr (Or.inl rfl) | exact Or.inr (Or.inr rfl)) | (cases h; done)
theorem e_run {T : TT} : ∀ e, (qRn T).1 = .inr e → e = 1 ∨ e = 2 := by
  intro e h
  unfold qRn at h
  repeat' split at h
  all_goals first | (cases h; first | exact rfl | exact Or.inl rfl | exact Or.inr rfl | exact Or.inr (Or.inl rfl) | exact Or.inr (Or.inr rfl)) | (cases h; done)
theorem e_refusal {T : TT} {a b : Int32} : ∀ e, qRf T a b = .inr e → e = 4 := by
  intro e h
  unfold qRf at h
  repeat' split at h
  all_goals first | (cases h; first | exact rfl | exact Or.inl rfl | exact Or.inr rfl | exact Or.inr (Or.inl rfl) | exact Or.inr (Or.inr rfl)) | (cases h; done)
theorem e_account {T : TT} {a : Int32} : ∀ e, qAc T a = .inr e → e = 1 := by
  intro e h
  unfold qAc at h
  repeat' split at h
  all_goals first | (cases h; first | exact rfl | exact Or.inl rfl | exact Or.inr rfl | exact Or.inr (Or.inl rfl) | exact Or.inr (Or.inr rfl)) | (cases h; done)
theorem e_undo {T : TT} : ∀ e, (qUn T).1 = .inr e → e = 3 := by
  intro e h
  unfold qUn at h
  repeat' split at h
  all_goals first | (cases h; first | exact rfl | exact Or.inl rfl | exact Or.inr rfl | exact Or.inr (Or.inl rfl) | exact Or.inr (Or.inr rfl)) | (cases h; done)
theorem e_restore {T : TT} : ∀ e, (qRs T).1 = .inr e → e = 3 := by
  intro e h
  unfold qRs at h
  repeat' split at h
  all_goals first | (cases h; first | exact rfl | exact Or.inl rfl | exact Or.inr rfl | exact Or.inr (Or.inl rfl) | exact Or.inr (Or.inr rfl)) | (cases h; done)
set_option maxRecDepth 100000 in
theorem lcs_0 (H : TC μ T) (H' : TM μ T) (S : Sq μ L xs) (hx : x + 4 ≤ L) (hu : u + 1 ≤ 512) (k : ∀ μ' T', TC μ' T' → TM μ' T' → Sq μ' L xs → AW M_law (u + 1) 2423 (LL x none none none) [] μ' rT) : AW M_law u 212 (LL x none none none) [] μ rT := by
  obtain ⟨m1, h1, h2, h3, h4⟩ := l_house (p_house (a := xs (x + 1)) H) e_house
  have H1 := h3.TM H'
  have S1 := S.lw h3
  obtain ⟨m2, v, g1, g2, g3, g4, g5⟩ := q_house (a := xs (x + 1)) H1
  have S2 := S1.mo g3
  refine AW_aload_n dL_law_212 rfl ?_
  refine AW_arg1 dL_law_213 dL_law_214 dL_law_216 dL_law_217 dL_law_218 rfl rfl S (by omega) ?_
  refine AW_aload_n dL_law_219 rfl ?_
  refine AW_callSW (u' := u + 1) [aR 11 0, aI (xs (x + 1)), aR 27 0] dL_law_220 cw_L_138 rfl rfl (by decide) rfl hu (by decide) h1 ?_
  refine AW_istore dL_law_223 (Nat.le_of_ble_eq_true rfl) rfl rfl ?_
  refine AW_aload_n dL_law_225 rfl ?_
  refine AW_arg1 dL_law_226 dL_law_227 dL_law_229 dL_law_230 dL_law_231 rfl rfl S1 (by omega) ?_
  refine AW_callVI [aI (xs (x + 1))] dL_law_232 cv_L_143 rfl rfl rfl (by decide) rfl hu (Nat.le_of_ble_eq_true rfl) g1 ?_
  refine AW_istore dL_law_235 (Nat.le_of_ble_eq_true rfl) rfl rfl ?_
  refine AW_tail (t := 237) dL_law_237 dL_law_238 dL_law_241 dL_law_243 dL_law_248 dL_law_250 dL_law_253 dL_law_254 dL_law_255 dL_law_256 dL_law_258 dL_law_259 dL_law_260 dL_law_265 (by decide) hu g4 ⟨by decide, by decide⟩ g5 (fun w hw => ?_) ?_
  · rw [g3 27 (Or.inr (by decide))]
    exact h4 w hw
  · exact k _ _ (g3.TC h2) g2 S2
set_option maxRecDepth 100000 in
theorem lcs_1 (H : TC μ T) (H' : TM μ T) (S : Sq μ L xs) (hx : x + 4 ≤ L) (hu : u + 1 ≤ 512) (k : ∀ μ' T', TC μ' T' → TM μ' T' → Sq μ' L xs → AW M_law (u + 1) 2423 (LL x none none none) [] μ' rT) : AW M_law u 268 (LL x none none none) [] μ rT := by
  obtain ⟨m1, h1, h2, h3, h4⟩ := l_sheet (p_sheet (a := xs (x + 1)) (b := xs (x + 2)) H) e_sheet
  have H1 := h3.TM H'
  have S1 := S.lw h3
  obtain ⟨m2, v, g1, g2, g3, g4, g5⟩ := q_sheet (a := xs (x + 1)) (b := xs (x + 2)) H1
  have S2 := S1.mo g3
  refine AW_aload_n dL_law_268 rfl ?_
  refine AW_arg1 dL_law_269 dL_law_270 dL_law_272 dL_law_273 dL_law_274 rfl rfl S (by omega) ?_
  refine AW_arg2 dL_law_275 dL_law_276 dL_law_278 dL_law_279 dL_law_280 rfl rfl S (by omega) ?_
  refine AW_aload_n dL_law_281 rfl ?_
  refine AW_callSW (u' := u + 1) [aR 11 0, aI (xs (x + 1)), aI (xs (x + 2)), aR 27 0] dL_law_282 cw_L_147 rfl rfl (by decide) rfl hu (by decide) h1 ?_
  refine AW_istore dL_law_285 (Nat.le_of_ble_eq_true rfl) rfl rfl ?_
  refine AW_aload_n dL_law_287 rfl ?_
  refine AW_arg1 dL_law_288 dL_law_289 dL_law_291 dL_law_292 dL_law_293 rfl rfl S1 (by omega) ?_
  refine AW_arg2 dL_law_294 dL_law_295 dL_law_297 dL_law_298 dL_law_299 rfl rfl S1 (by omega) ?_
  refine AW_callVI [aI (xs (x + 1)), aI (xs (x + 2))] dL_law_300 cv_L_150 rfl rfl rfl (by decide) rfl hu (Nat.le_of_ble_eq_true rfl) g1 ?_
  refine AW_istore dL_law_303 (Nat.le_of_ble_eq_true rfl) rfl rfl ?_
  refine AW_tail (t := 305) dL_law_305 dL_law_306 dL_law_309 dL_law_311 dL_law_316 dL_law_318 dL_law_321 dL_law_322 dL_law_323 dL_law_324 dL_law_326 dL_law_327 dL_law_328 dL_law_333 (by decide) hu g4 ⟨by decide, by decide⟩ g5 (fun w hw => ?_) ?_
  · rw [g3 27 (Or.inr (by decide))]
    exact h4 w hw
  · exact k _ _ (g3.TC h2) g2 S2
set_option maxRecDepth 100000 in
theorem lcs_2 (H : TC μ T) (H' : TM μ T) (S : Sq μ L xs) (hx : x + 4 ≤ L) (hu : u + 1 ≤ 512) (k : ∀ μ' T', TC μ' T' → TM μ' T' → Sq μ' L xs → AW M_law (u + 1) 2423 (LL x none none none) [] μ' rT) : AW M_law u 336 (LL x none none none) [] μ rT := by
  obtain ⟨m1, h1, h2, h3, h4⟩ := l_take (p_take (a := xs (x + 1)) H) e_take
  have H1 := h3.TM H'
  have S1 := S.lw h3
  obtain ⟨m2, v, g1, g2, g3, g4, g5⟩ := q_take (a := xs (x + 1)) H1
  have S2 := S1.mo g3
  refine AW_aload_n dL_law_336 rfl ?_
  refine AW_arg1 dL_law_337 dL_law_338 dL_law_340 dL_law_341 dL_law_342 rfl rfl S (by omega) ?_
  refine AW_aload_n dL_law_343 rfl ?_
  refine AW_callSW (u' := u + 1) [aR 11 0, aI (xs (x + 1)), aR 27 0] dL_law_344 cw_L_151 rfl rfl (by decide) rfl hu (by decide) h1 ?_
  refine AW_istore dL_law_347 (Nat.le_of_ble_eq_true rfl) rfl rfl ?_
  refine AW_aload_n dL_law_349 rfl ?_
  refine AW_arg1 dL_law_350 dL_law_351 dL_law_353 dL_law_354 dL_law_355 rfl rfl S1 (by omega) ?_
  refine AW_callVI [aI (xs (x + 1))] dL_law_356 cv_L_153 rfl rfl rfl (by decide) rfl hu (Nat.le_of_ble_eq_true rfl) g1 ?_
  refine AW_istore dL_law_359 (Nat.le_of_ble_eq_true rfl) rfl rfl ?_
  refine AW_tail (t := 361) dL_law_361 dL_law_362 dL_law_365 dL_law_367 dL_law_372 dL_law_374 dL_law_377 dL_law_378 dL_law_379 dL_law_380 dL_law_382 dL_law_383 dL_law_384 dL_law_389 (by decide) hu g4 ⟨by decide, by decide⟩ g5 (fun w hw => ?_) ?_
  · rw [g3 27 (Or.inr (by decide))]
    exact h4 w hw
  · exact k _ _ (g3.TC h2) g2 S2
set_option maxRecDepth 100000 in
theorem lcs_3 (H : TC μ T) (H' : TM μ T) (S : Sq μ L xs) (hx : x + 4 ≤ L) (hu : u + 1 ≤ 512) (k : ∀ μ' T', TC μ' T' → TM μ' T' → Sq μ' L xs → AW M_law (u + 1) 2423 (LL x none none none) [] μ' rT) : AW M_law u 392 (LL x none none none) [] μ rT := by
  obtain ⟨cv, hc6, hcv⟩ : ∃ c, c < 65536 ∧ ((xs (x + 3)).toUInt32 % 65536).toInt32 = nI c := ⟨_, Nat.mod_lt _ (by decide), pk_char _⟩
  obtain ⟨m1, h1, h2, h3, h4⟩ := l_set (p_set (a := xs (x + 1)) (b := xs (x + 2)) (c := nI cv) H) e_set
  have H1 := h3.TM H'
  have S1 := S.lw h3
  obtain ⟨m2, v, g1, g2, g3, g4, g5⟩ := q_set (a := xs (x + 1)) (b := xs (x + 2)) (c := nI cv) H1
  have S2 := S1.mo g3
  refine AW_aload_n dL_law_392 rfl ?_
  refine AW_arg1 dL_law_393 dL_law_394 dL_law_396 dL_law_397 dL_law_398 rfl rfl S (by omega) ?_
  refine AW_arg2 dL_law_399 dL_law_400 dL_law_402 dL_law_403 dL_law_404 rfl rfl S (by omega) ?_
  refine AW_arg3 dL_law_405 dL_law_406 dL_law_408 dL_law_409 dL_law_410 rfl rfl S (by omega) ?_
  refine AW_i2c (v := nI cv) dL_law_411 hcv ?_
  refine AW_aload_n dL_law_412 rfl ?_
  refine AW_callSW (u' := u + 1) [aR 11 0, aI (xs (x + 1)), aI (xs (x + 2)), aI (nI cv), aR 27 0] dL_law_413 cw_L_154 rfl rfl (by decide) rfl hu (by decide) h1 ?_
  refine AW_istore dL_law_416 (Nat.le_of_ble_eq_true rfl) rfl rfl ?_
  refine AW_aload_n dL_law_418 rfl ?_
  refine AW_arg1 dL_law_419 dL_law_420 dL_law_422 dL_law_423 dL_law_424 rfl rfl S1 (by omega) ?_
  refine AW_arg2 dL_law_425 dL_law_426 dL_law_428 dL_law_429 dL_law_430 rfl rfl S1 (by omega) ?_
  refine AW_arg3 dL_law_431 dL_law_432 dL_law_434 dL_law_435 dL_law_436 rfl rfl S1 (by omega) ?_
  refine AW_i2c (v := nI cv) dL_law_437 hcv ?_
  refine AW_callVI [aI (xs (x + 1)), aI (xs (x + 2)), aI (nI cv)] dL_law_438 cv_L_157 rfl rfl rfl (by decide) rfl hu (Nat.le_of_ble_eq_true rfl) g1 ?_
  refine AW_istore dL_law_441 (Nat.le_of_ble_eq_true rfl) rfl rfl ?_
  refine AW_tail (t := 443) dL_law_443 dL_law_444 dL_law_447 dL_law_449 dL_law_454 dL_law_456 dL_law_459 dL_law_460 dL_law_461 dL_law_462 dL_law_464 dL_law_465 dL_law_466 dL_law_471 (by decide) hu g4 ⟨by decide, by decide⟩ g5 (fun w hw => ?_) ?_
  · rw [g3 27 (Or.inr (by decide))]
    exact h4 w hw
  · exact k _ _ (g3.TC h2) g2 S2
set_option maxRecDepth 100000 in
theorem lcs_4 (H : TC μ T) (H' : TM μ T) (S : Sq μ L xs) (hx : x + 4 ≤ L) (hu : u + 1 ≤ 512) (k : ∀ μ' T', TC μ' T' → TM μ' T' → Sq μ' L xs → AW M_law (u + 1) 2423 (LL x none none none) [] μ' rT) : AW M_law u 474 (LL x none none none) [] μ rT := by
  obtain ⟨m1, h1, h2, h3, h4⟩ := l_license (p_license (a := xs (x + 1)) (b := xs (x + 2)) H) e_license
  have H1 := h3.TM H'
  have S1 := S.lw h3
  obtain ⟨m2, v, g1, g2, g3, g4, g5⟩ := q_license (a := xs (x + 1)) (b := xs (x + 2)) H1
  have S2 := S1.mo g3
  refine AW_aload_n dL_law_474 rfl ?_
  refine AW_arg1 dL_law_475 dL_law_476 dL_law_478 dL_law_479 dL_law_480 rfl rfl S (by omega) ?_
  refine AW_arg2 dL_law_481 dL_law_482 dL_law_484 dL_law_485 dL_law_486 rfl rfl S (by omega) ?_
  refine AW_aload_n dL_law_487 rfl ?_
  refine AW_callSW (u' := u + 1) [aR 11 0, aI (xs (x + 1)), aI (xs (x + 2)), aR 27 0] dL_law_488 cw_L_158 rfl rfl (by decide) rfl hu (by decide) h1 ?_
  refine AW_istore dL_law_491 (Nat.le_of_ble_eq_true rfl) rfl rfl ?_
  refine AW_aload_n dL_law_493 rfl ?_
  refine AW_arg1 dL_law_494 dL_law_495 dL_law_497 dL_law_498 dL_law_499 rfl rfl S1 (by omega) ?_
  refine AW_arg2 dL_law_500 dL_law_501 dL_law_503 dL_law_504 dL_law_505 rfl rfl S1 (by omega) ?_
  refine AW_callVI [aI (xs (x + 1)), aI (xs (x + 2))] dL_law_506 cv_L_160 rfl rfl rfl (by decide) rfl hu (Nat.le_of_ble_eq_true rfl) g1 ?_
  refine AW_istore dL_law_509 (Nat.le_of_ble_eq_true rfl) rfl rfl ?_
  refine AW_tail (t := 511) dL_law_511 dL_law_512 dL_law_515 dL_law_517 dL_law_522 dL_law_524 dL_law_527 dL_law_528 dL_law_529 dL_law_530 dL_law_532 dL_law_533 dL_law_534 dL_law_539 (by decide) hu g4 ⟨by decide, by decide⟩ g5 (fun w hw => ?_) ?_
  · rw [g3 27 (Or.inr (by decide))]
    exact h4 w hw
  · exact k _ _ (g3.TC h2) g2 S2
set_option maxRecDepth 100000 in
theorem lcs_5 (H : TC μ T) (H' : TM μ T) (S : Sq μ L xs) (hx : x + 4 ≤ L) (hu : u + 1 ≤ 512) (k : ∀ μ' T', TC μ' T' → TM μ' T' → Sq μ' L xs → AW M_law (u + 1) 2423 (LL x none none none) [] μ' rT) : AW M_law u 542 (LL x none none none) [] μ rT := by
  obtain ⟨m1, h1, h2, h3, h4⟩ := l_correct (p_correct (a := xs (x + 1)) (b := xs (x + 2)) H) e_correct
  have H1 := h3.TM H'
  have S1 := S.lw h3
  obtain ⟨m2, v, g1, g2, g3, g4, g5⟩ := q_correct (a := xs (x + 1)) (b := xs (x + 2)) H1
  have S2 := S1.mo g3
  refine AW_aload_n dL_law_542 rfl ?_
  refine AW_arg1 dL_law_543 dL_law_544 dL_law_546 dL_law_547 dL_law_548 rfl rfl S (by omega) ?_
  refine AW_arg2 dL_law_549 dL_law_550 dL_law_552 dL_law_553 dL_law_554 rfl rfl S (by omega) ?_
  refine AW_aload_n dL_law_555 rfl ?_
  refine AW_callSW (u' := u + 1) [aR 11 0, aI (xs (x + 1)), aI (xs (x + 2)), aR 27 0] dL_law_556 cw_L_161 rfl rfl (by decide) rfl hu (by decide) h1 ?_
  refine AW_istore dL_law_559 (Nat.le_of_ble_eq_true rfl) rfl rfl ?_
  refine AW_aload_n dL_law_561 rfl ?_
  refine AW_arg1 dL_law_562 dL_law_563 dL_law_565 dL_law_566 dL_law_567 rfl rfl S1 (by omega) ?_
  refine AW_arg2 dL_law_568 dL_law_569 dL_law_571 dL_law_572 dL_law_573 rfl rfl S1 (by omega) ?_
  refine AW_callVI [aI (xs (x + 1)), aI (xs (x + 2))] dL_law_574 cv_L_163 rfl rfl rfl (by decide) rfl hu (Nat.le_of_ble_eq_true rfl) g1 ?_
  refine AW_istore dL_law_577 (Nat.le_of_ble_eq_true rfl) rfl rfl ?_
  refine AW_tail (t := 579) dL_law_579 dL_law_580 dL_law_583 dL_law_585 dL_law_590 dL_law_592 dL_law_595 dL_law_596 dL_law_597 dL_law_598 dL_law_600 dL_law_601 dL_law_602 dL_law_607 (by decide) hu g4 ⟨by decide, by decide⟩ g5 (fun w hw => ?_) ?_
  · rw [g3 27 (Or.inr (by decide))]
    exact h4 w hw
  · exact k _ _ (g3.TC h2) g2 S2
set_option maxRecDepth 100000 in
theorem lcs_6 (H : TC μ T) (H' : TM μ T) (S : Sq μ L xs) (hx : x + 4 ≤ L) (hu : u + 1 ≤ 512) (k : ∀ μ' T', TC μ' T' → TM μ' T' → Sq μ' L xs → AW M_law (u + 1) 2423 (LL x none none none) [] μ' rT) : AW M_law u 610 (LL x none none none) [] μ rT := by
  obtain ⟨m1, h1, h2, h3, h4⟩ := l_reader (p_reader (a := xs (x + 1)) (b := xs (x + 2)) H) e_reader
  have H1 := h3.TM H'
  have S1 := S.lw h3
  obtain ⟨m2, v, g1, g2, g3, g4, g5⟩ := q_reader (a := xs (x + 1)) (b := xs (x + 2)) H1
  have S2 := S1.mo g3
  refine AW_aload_n dL_law_610 rfl ?_
  refine AW_arg1 dL_law_611 dL_law_612 dL_law_614 dL_law_615 dL_law_616 rfl rfl S (by omega) ?_
  refine AW_arg2 dL_law_617 dL_law_618 dL_law_620 dL_law_621 dL_law_622 rfl rfl S (by omega) ?_
  refine AW_aload_n dL_law_623 rfl ?_
  refine AW_callSW (u' := u + 1) [aR 11 0, aI (xs (x + 1)), aI (xs (x + 2)), aR 27 0] dL_law_624 cw_L_164 rfl rfl (by decide) rfl hu (by decide) h1 ?_
  refine AW_istore dL_law_627 (Nat.le_of_ble_eq_true rfl) rfl rfl ?_
  refine AW_aload_n dL_law_629 rfl ?_
  refine AW_arg1 dL_law_630 dL_law_631 dL_law_633 dL_law_634 dL_law_635 rfl rfl S1 (by omega) ?_
  refine AW_arg2 dL_law_636 dL_law_637 dL_law_639 dL_law_640 dL_law_641 rfl rfl S1 (by omega) ?_
  refine AW_callVI [aI (xs (x + 1)), aI (xs (x + 2))] dL_law_642 cv_L_166 rfl rfl rfl (by decide) rfl hu (Nat.le_of_ble_eq_true rfl) g1 ?_
  refine AW_istore dL_law_645 (Nat.le_of_ble_eq_true rfl) rfl rfl ?_
  refine AW_tail (t := 647) dL_law_647 dL_law_648 dL_law_651 dL_law_653 dL_law_658 dL_law_660 dL_law_663 dL_law_664 dL_law_665 dL_law_666 dL_law_668 dL_law_669 dL_law_670 dL_law_675 (by decide) hu g4 ⟨by decide, by decide⟩ g5 (fun w hw => ?_) ?_
  · rw [g3 27 (Or.inr (by decide))]
    exact h4 w hw
  · exact k _ _ (g3.TC h2) g2 S2
set_option maxRecDepth 100000 in
theorem lcs_7 (H : TC μ T) (H' : TM μ T) (S : Sq μ L xs) (hx : x + 4 ≤ L) (hu : u + 1 ≤ 512) (k : ∀ μ' T', TC μ' T' → TM μ' T' → Sq μ' L xs → AW M_law (u + 1) 2423 (LL x none none none) [] μ' rT) : AW M_law u 678 (LL x none none none) [] μ rT := by
  obtain ⟨m1, h1, h2, h3, h4⟩ := l_edition (p_edition  H) e_edition
  have H1 := h3.TM H'
  have S1 := S.lw h3
  obtain ⟨m2, v, g1, g2, g3, g4, g5⟩ := q_edition  H1
  have S2 := S1.mo g3
  refine AW_aload_n dL_law_678 rfl ?_
  refine AW_aload_n dL_law_679 rfl ?_
  refine AW_callSW (u' := u + 1) [aR 11 0, aR 27 0] dL_law_680 cw_L_167 rfl rfl (by decide) rfl hu (by decide) h1 ?_
  refine AW_istore dL_law_683 (Nat.le_of_ble_eq_true rfl) rfl rfl ?_
  refine AW_aload_n dL_law_685 rfl ?_
  refine AW_callVI [] dL_law_686 cv_L_170 rfl rfl rfl (by decide) rfl hu (Nat.le_of_ble_eq_true rfl) g1 ?_
  refine AW_istore dL_law_689 (Nat.le_of_ble_eq_true rfl) rfl rfl ?_
  refine AW_tail (t := 691) dL_law_691 dL_law_692 dL_law_695 dL_law_697 dL_law_702 dL_law_704 dL_law_707 dL_law_708 dL_law_709 dL_law_710 dL_law_712 dL_law_713 dL_law_714 dL_law_719 (by decide) hu g4 ⟨by decide, by decide⟩ g5 (fun w hw => ?_) ?_
  · rw [g3 27 (Or.inr (by decide))]
    exact h4 w hw
  · exact k _ _ (g3.TC h2) g2 S2
set_option maxRecDepth 100000 in
theorem lcs_8 (H : TC μ T) (H' : TM μ T) (S : Sq μ L xs) (hx : x + 4 ≤ L) (hu : u + 1 ≤ 512) (k : ∀ μ' T', TC μ' T' → TM μ' T' → Sq μ' L xs → AW M_law (u + 1) 2423 (LL x none none none) [] μ' rT) : AW M_law u 722 (LL x none none none) [] μ rT := by
  obtain ⟨m1, h1, h2, h3⟩ := p_day  H
  have H1 : TM m1 T := hiTM (fun t q _ => h3 t (by omega)) H'
  have S1 := S.cl h3
  obtain ⟨m2, v, g1, g2, g3, g4, g5⟩ := q_day  H1
  have S2 := S1.mo g3
  refine AW_aload_n dL_law_722 rfl ?_
  refine AW_callVI [] dL_law_723 cv_L_171 rfl rfl rfl (by decide) rfl (by show u + 1 ≤ 512; omega) (by decide) h1 ?_
  refine AW_aload_n dL_law_726 rfl ?_
  refine AW_callVI [] dL_law_727 cv_L_174 rfl rfl rfl (by decide) rfl (by show u + 1 ≤ 512; omega) (Nat.le_of_ble_eq_true rfl) g1 ?_
  refine AW_icmp_eq (tgt := 2423) dL_law_730 (by decide) (fun _ => ?_) (fun q => absurd (g5 _ rfl).symm q)
  refine AW_u (u' := u + 1) (by show u + 1 ≤ u + 1; omega) hu ?_
  exact k _ _ (g3.TC h2) g2 S2
set_option maxRecDepth 100000 in
theorem lcs_9 (H : TC μ T) (H' : TM μ T) (S : Sq μ L xs) (hx : x + 4 ≤ L) (hu : u + 1 ≤ 512) (k : ∀ μ' T', TC μ' T' → TM μ' T' → Sq μ' L xs → AW M_law (u + 1) 2423 (LL x none none none) [] μ' rT) : AW M_law u 735 (LL x none none none) [] μ rT := by
  obtain ⟨m1, h1, h2, h3, h4⟩ := l_houseOf (p_houseOf (a := xs (x + 1)) (b := xs (x + 2)) H) e_houseOf
  have H1 := h3.TM H'
  have S1 := S.lw h3
  obtain ⟨m2, v, g1, g2, g3, g4, g5⟩ := q_houseOf (a := xs (x + 1)) (b := xs (x + 2)) H1
  have S2 := S1.mo g3
  refine AW_aload_n dL_law_735 rfl ?_
  refine AW_arg1 dL_law_736 dL_law_737 dL_law_739 dL_law_740 dL_law_741 rfl rfl S (by omega) ?_
  refine AW_arg2 dL_law_742 dL_law_743 dL_law_745 dL_law_746 dL_law_747 rfl rfl S (by omega) ?_
  refine AW_aload_n dL_law_748 rfl ?_
  refine AW_callSW (u' := u + 1) [aR 11 0, aI (xs (x + 1)), aI (xs (x + 2)), aR 27 0] dL_law_749 cw_L_175 rfl rfl (by decide) rfl hu (by decide) h1 ?_
  refine AW_istore dL_law_752 (Nat.le_of_ble_eq_true rfl) rfl rfl ?_
  refine AW_aload_n dL_law_754 rfl ?_
  refine AW_arg1 dL_law_755 dL_law_756 dL_law_758 dL_law_759 dL_law_760 rfl rfl S1 (by omega) ?_
  refine AW_arg2 dL_law_761 dL_law_762 dL_law_764 dL_law_765 dL_law_766 rfl rfl S1 (by omega) ?_
  refine AW_callVI [aI (xs (x + 1)), aI (xs (x + 2))] dL_law_767 cv_L_177 rfl rfl rfl (by decide) rfl hu (Nat.le_of_ble_eq_true rfl) g1 ?_
  refine AW_istore dL_law_770 (Nat.le_of_ble_eq_true rfl) rfl rfl ?_
  refine AW_tail (t := 772) dL_law_772 dL_law_773 dL_law_776 dL_law_778 dL_law_783 dL_law_785 dL_law_788 dL_law_789 dL_law_790 dL_law_791 dL_law_793 dL_law_794 dL_law_795 dL_law_800 (by decide) hu g4 ⟨by decide, by decide⟩ g5 (fun w hw => ?_) ?_
  · rw [g3 27 (Or.inr (by decide))]
    exact h4 w hw
  · exact k _ _ (g3.TC h2) g2 S2
set_option maxRecDepth 100000 in
theorem lcs_10 (H : TC μ T) (H' : TM μ T) (S : Sq μ L xs) (hx : x + 4 ≤ L) (hu : u + 1 ≤ 512) (k : ∀ μ' T', TC μ' T' → TM μ' T' → Sq μ' L xs → AW M_law (u + 1) 2423 (LL x none none none) [] μ' rT) : AW M_law u 803 (LL x none none none) [] μ rT := by
  obtain ⟨m1, h1, h2, h3, h4⟩ := l_sheetOf (p_sheetOf (a := xs (x + 1)) (b := xs (x + 2)) H) e_sheetOf
  have H1 := h3.TM H'
  have S1 := S.lw h3
  obtain ⟨m2, v, g1, g2, g3, g4, g5⟩ := q_sheetOf (a := xs (x + 1)) (b := xs (x + 2)) H1
  have S2 := S1.mo g3
  refine AW_aload_n dL_law_803 rfl ?_
  refine AW_arg1 dL_law_804 dL_law_805 dL_law_807 dL_law_808 dL_law_809 rfl rfl S (by omega) ?_
  refine AW_arg2 dL_law_810 dL_law_811 dL_law_813 dL_law_814 dL_law_815 rfl rfl S (by omega) ?_
  refine AW_aload_n dL_law_816 rfl ?_
  refine AW_callSW (u' := u + 1) [aR 11 0, aI (xs (x + 1)), aI (xs (x + 2)), aR 27 0] dL_law_817 cw_L_178 rfl rfl (by decide) rfl hu (by decide) h1 ?_
  refine AW_istore dL_law_820 (Nat.le_of_ble_eq_true rfl) rfl rfl ?_
  refine AW_aload_n dL_law_822 rfl ?_
  refine AW_arg1 dL_law_823 dL_law_824 dL_law_826 dL_law_827 dL_law_828 rfl rfl S1 (by omega) ?_
  refine AW_arg2 dL_law_829 dL_law_830 dL_law_832 dL_law_833 dL_law_834 rfl rfl S1 (by omega) ?_
  refine AW_callVI [aI (xs (x + 1)), aI (xs (x + 2))] dL_law_835 cv_L_180 rfl rfl rfl (by decide) rfl hu (Nat.le_of_ble_eq_true rfl) g1 ?_
  refine AW_istore dL_law_838 (Nat.le_of_ble_eq_true rfl) rfl rfl ?_
  refine AW_tail (t := 840) dL_law_840 dL_law_841 dL_law_844 dL_law_846 dL_law_851 dL_law_853 dL_law_856 dL_law_857 dL_law_858 dL_law_859 dL_law_861 dL_law_862 dL_law_863 dL_law_868 (by decide) hu g4 ⟨by decide, by decide⟩ g5 (fun w hw => ?_) ?_
  · rw [g3 27 (Or.inr (by decide))]
    exact h4 w hw
  · exact k _ _ (g3.TC h2) g2 S2
set_option maxRecDepth 100000 in
theorem lcs_11 (H : TC μ T) (H' : TM μ T) (S : Sq μ L xs) (hx : x + 4 ≤ L) (hu : u + 1 ≤ 512) (k : ∀ μ' T', TC μ' T' → TM μ' T' → Sq μ' L xs → AW M_law (u + 1) 2423 (LL x none none none) [] μ' rT) : AW M_law u 871 (LL x none none none) [] μ rT := by
  by_cases hb3 : xs (x + 3) = 0
  · skip
    obtain ⟨m1, h1, h2, h3, h4⟩ := l_letterAt (p_letterAt (a := xs (x + 1)) (b := xs (x + 2)) (c := 0) H) e_pl
    have H1 := h3.TM H'
    have S1 := S.lw h3
    obtain ⟨m2, v, g1, g2, g3, g4, g5⟩ := q_letterAt (a := xs (x + 1)) (b := xs (x + 2)) (c := 0) H1
    have S2 := S1.mo g3
    refine AW_aload_n dL_law_871 rfl ?_
    refine AW_arg1 dL_law_872 dL_law_873 dL_law_875 dL_law_876 dL_law_877 rfl rfl S (by omega) ?_
    refine AW_arg2 dL_law_878 dL_law_879 dL_law_881 dL_law_882 dL_law_883 rfl rfl S (by omega) ?_
    refine AW_arg3 dL_law_884 dL_law_885 dL_law_887 dL_law_888 dL_law_889 rfl rfl S (by omega) ?_
    refine AW_if_eq (tgt := 897) dL_law_890 (by decide) (fun _ => ?_) (fun q => absurd hb3 q)
    refine AW_iconst (v := 0) dL_law_897 (by decide) ?_
    refine AW_aload_n dL_law_898 rfl ?_
    refine AW_callSW (u' := u + 1) [aR 11 0, aI (xs (x + 1)), aI (xs (x + 2)), aI 0, aR 27 0] dL_law_899 cw_L_181 rfl rfl (by decide) rfl hu (by decide) h1 ?_
    refine AW_istore dL_law_902 (Nat.le_of_ble_eq_true rfl) rfl rfl ?_
    refine AW_aload_n dL_law_904 rfl ?_
    refine AW_arg1 dL_law_905 dL_law_906 dL_law_908 dL_law_909 dL_law_910 rfl rfl S1 (by omega) ?_
    refine AW_arg2 dL_law_911 dL_law_912 dL_law_914 dL_law_915 dL_law_916 rfl rfl S1 (by omega) ?_
    refine AW_arg3 dL_law_917 dL_law_918 dL_law_920 dL_law_921 dL_law_922 rfl rfl S1 (by omega) ?_
    refine AW_if_eq (tgt := 930) dL_law_923 (by decide) (fun _ => ?_) (fun q => absurd hb3 q)
    refine AW_iconst (v := 0) dL_law_930 (by decide) ?_
    refine AW_callVI [aI (xs (x + 1)), aI (xs (x + 2)), aI 0] dL_law_931 cv_L_184 rfl rfl rfl (by decide) rfl hu (Nat.le_of_ble_eq_true rfl) g1 ?_
    refine AW_istore dL_law_934 (Nat.le_of_ble_eq_true rfl) rfl rfl ?_
    refine AW_tail (t := 936) dL_law_936 dL_law_937 dL_law_940 dL_law_942 dL_law_947 dL_law_949 dL_law_952 dL_law_953 dL_law_954 dL_law_955 dL_law_957 dL_law_958 dL_law_959 dL_law_964 (by decide) hu g4 ⟨by decide, by decide⟩ g5 (fun w hw => ?_) ?_
    · rw [g3 27 (Or.inr (by decide))]
      exact h4 w hw
    · exact k _ _ (g3.TC h2) g2 S2
  · skip
    obtain ⟨m1, h1, h2, h3, h4⟩ := l_letterAt (p_letterAt (a := xs (x + 1)) (b := xs (x + 2)) (c := 1) H) e_pl
    have H1 := h3.TM H'
    have S1 := S.lw h3
    obtain ⟨m2, v, g1, g2, g3, g4, g5⟩ := q_letterAt (a := xs (x + 1)) (b := xs (x + 2)) (c := 1) H1
    have S2 := S1.mo g3
    refine AW_aload_n dL_law_871 rfl ?_
    refine AW_arg1 dL_law_872 dL_law_873 dL_law_875 dL_law_876 dL_law_877 rfl rfl S (by omega) ?_
    refine AW_arg2 dL_law_878 dL_law_879 dL_law_881 dL_law_882 dL_law_883 rfl rfl S (by omega) ?_
    refine AW_arg3 dL_law_884 dL_law_885 dL_law_887 dL_law_888 dL_law_889 rfl rfl S (by omega) ?_
    refine AW_if_eq (tgt := 897) dL_law_890 (by decide) (fun q => absurd q hb3) (fun _ => ?_)
    refine AW_iconst (v := 1) dL_law_893 (by decide) ?_
    refine AW_goto (tgt := 898) dL_law_894 (by decide) ?_
    refine AW_aload_n dL_law_898 rfl ?_
    refine AW_callSW (u' := u + 1) [aR 11 0, aI (xs (x + 1)), aI (xs (x + 2)), aI 1, aR 27 0] dL_law_899 cw_L_181 rfl rfl (by decide) rfl hu (by decide) h1 ?_
    refine AW_istore dL_law_902 (Nat.le_of_ble_eq_true rfl) rfl rfl ?_
    refine AW_aload_n dL_law_904 rfl ?_
    refine AW_arg1 dL_law_905 dL_law_906 dL_law_908 dL_law_909 dL_law_910 rfl rfl S1 (by omega) ?_
    refine AW_arg2 dL_law_911 dL_law_912 dL_law_914 dL_law_915 dL_law_916 rfl rfl S1 (by omega) ?_
    refine AW_arg3 dL_law_917 dL_law_918 dL_law_920 dL_law_921 dL_law_922 rfl rfl S1 (by omega) ?_
    refine AW_if_eq (tgt := 930) dL_law_923 (by decide) (fun q => absurd q hb3) (fun _ => ?_)
    refine AW_iconst (v := 1) dL_law_926 (by decide) ?_
    refine AW_goto (tgt := 931) dL_law_927 (by decide) ?_
    refine AW_callVI [aI (xs (x + 1)), aI (xs (x + 2)), aI 1] dL_law_931 cv_L_184 rfl rfl rfl (by decide) rfl hu (Nat.le_of_ble_eq_true rfl) g1 ?_
    refine AW_istore dL_law_934 (Nat.le_of_ble_eq_true rfl) rfl rfl ?_
    refine AW_tail (t := 936) dL_law_936 dL_law_937 dL_law_940 dL_law_942 dL_law_947 dL_law_949 dL_law_952 dL_law_953 dL_law_954 dL_law_955 dL_law_957 dL_law_958 dL_law_959 dL_law_964 (by decide) hu g4 ⟨by decide, by decide⟩ g5 (fun w hw => ?_) ?_
    · rw [g3 27 (Or.inr (by decide))]
      exact h4 w hw
    · exact k _ _ (g3.TC h2) g2 S2
set_option maxRecDepth 100000 in
theorem lcs_12 (H : TC μ T) (H' : TM μ T) (S : Sq μ L xs) (hx : x + 4 ≤ L) (hu : u + 1 ≤ 512) (k : ∀ μ' T', TC μ' T' → TM μ' T' → Sq μ' L xs → AW M_law (u + 1) 2423 (LL x none none none) [] μ' rT) : AW M_law u 967 (LL x none none none) [] μ rT := by
  obtain ⟨m1, h1, h2, h3, h4⟩ := l_markAt (p_markAt (a := xs (x + 1)) (b := xs (x + 2)) H) e_pl
  have H1 := h3.TM H'
  have S1 := S.lw h3
  obtain ⟨m2, v, g1, g2, g3, g4, g5⟩ := q_markAt (a := xs (x + 1)) (b := xs (x + 2)) H1
  have S2 := S1.mo g3
  refine AW_aload_n dL_law_967 rfl ?_
  refine AW_arg1 dL_law_968 dL_law_969 dL_law_971 dL_law_972 dL_law_973 rfl rfl S (by omega) ?_
  refine AW_arg2 dL_law_974 dL_law_975 dL_law_977 dL_law_978 dL_law_979 rfl rfl S (by omega) ?_
  refine AW_aload_n dL_law_980 rfl ?_
  refine AW_callSW (u' := u + 1) [aR 11 0, aI (xs (x + 1)), aI (xs (x + 2)), aR 27 0] dL_law_981 cw_L_185 rfl rfl (by decide) rfl hu (by decide) h1 ?_
  refine AW_istore dL_law_984 (Nat.le_of_ble_eq_true rfl) rfl rfl ?_
  refine AW_aload_n dL_law_986 rfl ?_
  refine AW_arg1 dL_law_987 dL_law_988 dL_law_990 dL_law_991 dL_law_992 rfl rfl S1 (by omega) ?_
  refine AW_arg2 dL_law_993 dL_law_994 dL_law_996 dL_law_997 dL_law_998 rfl rfl S1 (by omega) ?_
  refine AW_callVI [aI (xs (x + 1)), aI (xs (x + 2))] dL_law_999 cv_L_187 rfl rfl rfl (by decide) rfl hu (Nat.le_of_ble_eq_true rfl) g1 ?_
  refine AW_istore dL_law_1002 (Nat.le_of_ble_eq_true rfl) rfl rfl ?_
  refine AW_tail (t := 1004) dL_law_1004 dL_law_1005 dL_law_1008 dL_law_1010 dL_law_1015 dL_law_1017 dL_law_1020 dL_law_1021 dL_law_1022 dL_law_1023 dL_law_1025 dL_law_1026 dL_law_1027 dL_law_1032 (by decide) hu g4 ⟨by decide, by decide⟩ g5 (fun w hw => ?_) ?_
  · rw [g3 27 (Or.inr (by decide))]
    exact h4 w hw
  · exact k _ _ (g3.TC h2) g2 S2
set_option maxRecDepth 100000 in
theorem lcs_13 (H : TC μ T) (H' : TM μ T) (S : Sq μ L xs) (hx : x + 4 ≤ L) (hu : u + 1 ≤ 512) (k : ∀ μ' T', TC μ' T' → TM μ' T' → Sq μ' L xs → AW M_law (u + 1) 2423 (LL x none none none) [] μ' rT) : AW M_law u 1035 (LL x none none none) [] μ rT := by
  by_cases hb3 : xs (x + 3) = 0
  · skip
    obtain ⟨m1, h1, h2, h3, h4⟩ := l_fine (p_fine (a := xs (x + 1)) (b := xs (x + 2)) (c := 0) H) e_pl
    have H1 := h3.TM H'
    have S1 := S.lw h3
    obtain ⟨m2, v, g1, g2, g3, g4, g5⟩ := q_fine (a := xs (x + 1)) (b := xs (x + 2)) (c := 0) H1
    have S2 := S1.mo g3
    refine AW_aload_n dL_law_1035 rfl ?_
    refine AW_arg1 dL_law_1036 dL_law_1037 dL_law_1039 dL_law_1040 dL_law_1041 rfl rfl S (by omega) ?_
    refine AW_arg2 dL_law_1042 dL_law_1043 dL_law_1045 dL_law_1046 dL_law_1047 rfl rfl S (by omega) ?_
    refine AW_arg3 dL_law_1048 dL_law_1049 dL_law_1051 dL_law_1052 dL_law_1053 rfl rfl S (by omega) ?_
    refine AW_if_eq (tgt := 1061) dL_law_1054 (by decide) (fun _ => ?_) (fun q => absurd hb3 q)
    refine AW_iconst (v := 0) dL_law_1061 (by decide) ?_
    refine AW_aload_n dL_law_1062 rfl ?_
    refine AW_callSW (u' := u + 1) [aR 11 0, aI (xs (x + 1)), aI (xs (x + 2)), aI 0, aR 27 0] dL_law_1063 cw_L_188 rfl rfl (by decide) rfl hu (by decide) h1 ?_
    refine AW_istore dL_law_1066 (Nat.le_of_ble_eq_true rfl) rfl rfl ?_
    refine AW_aload_n dL_law_1068 rfl ?_
    refine AW_arg1 dL_law_1069 dL_law_1070 dL_law_1072 dL_law_1073 dL_law_1074 rfl rfl S1 (by omega) ?_
    refine AW_arg2 dL_law_1075 dL_law_1076 dL_law_1078 dL_law_1079 dL_law_1080 rfl rfl S1 (by omega) ?_
    refine AW_arg3 dL_law_1081 dL_law_1082 dL_law_1084 dL_law_1085 dL_law_1086 rfl rfl S1 (by omega) ?_
    refine AW_if_eq (tgt := 1094) dL_law_1087 (by decide) (fun _ => ?_) (fun q => absurd hb3 q)
    refine AW_iconst (v := 0) dL_law_1094 (by decide) ?_
    refine AW_callVI [aI (xs (x + 1)), aI (xs (x + 2)), aI 0] dL_law_1095 cv_L_190 rfl rfl rfl (by decide) rfl hu (Nat.le_of_ble_eq_true rfl) g1 ?_
    refine AW_istore dL_law_1098 (Nat.le_of_ble_eq_true rfl) rfl rfl ?_
    refine AW_tail (t := 1100) dL_law_1100 dL_law_1101 dL_law_1104 dL_law_1106 dL_law_1111 dL_law_1113 dL_law_1116 dL_law_1117 dL_law_1118 dL_law_1119 dL_law_1121 dL_law_1122 dL_law_1123 dL_law_1128 (by decide) hu g4 ⟨by decide, by decide⟩ g5 (fun w hw => ?_) ?_
    · rw [g3 27 (Or.inr (by decide))]
      exact h4 w hw
    · exact k _ _ (g3.TC h2) g2 S2
  · skip
    obtain ⟨m1, h1, h2, h3, h4⟩ := l_fine (p_fine (a := xs (x + 1)) (b := xs (x + 2)) (c := 1) H) e_pl
    have H1 := h3.TM H'
    have S1 := S.lw h3
    obtain ⟨m2, v, g1, g2, g3, g4, g5⟩ := q_fine (a := xs (x + 1)) (b := xs (x + 2)) (c := 1) H1
    have S2 := S1.mo g3
    refine AW_aload_n dL_law_1035 rfl ?_
    refine AW_arg1 dL_law_1036 dL_law_1037 dL_law_1039 dL_law_1040 dL_law_1041 rfl rfl S (by omega) ?_
    refine AW_arg2 dL_law_1042 dL_law_1043 dL_law_1045 dL_law_1046 dL_law_1047 rfl rfl S (by omega) ?_
    refine AW_arg3 dL_law_1048 dL_law_1049 dL_law_1051 dL_law_1052 dL_law_1053 rfl rfl S (by omega) ?_
    refine AW_if_eq (tgt := 1061) dL_law_1054 (by decide) (fun q => absurd q hb3) (fun _ => ?_)
    refine AW_iconst (v := 1) dL_law_1057 (by decide) ?_
    refine AW_goto (tgt := 1062) dL_law_1058 (by decide) ?_
    refine AW_aload_n dL_law_1062 rfl ?_
    refine AW_callSW (u' := u + 1) [aR 11 0, aI (xs (x + 1)), aI (xs (x + 2)), aI 1, aR 27 0] dL_law_1063 cw_L_188 rfl rfl (by decide) rfl hu (by decide) h1 ?_
    refine AW_istore dL_law_1066 (Nat.le_of_ble_eq_true rfl) rfl rfl ?_
    refine AW_aload_n dL_law_1068 rfl ?_
    refine AW_arg1 dL_law_1069 dL_law_1070 dL_law_1072 dL_law_1073 dL_law_1074 rfl rfl S1 (by omega) ?_
    refine AW_arg2 dL_law_1075 dL_law_1076 dL_law_1078 dL_law_1079 dL_law_1080 rfl rfl S1 (by omega) ?_
    refine AW_arg3 dL_law_1081 dL_law_1082 dL_law_1084 dL_law_1085 dL_law_1086 rfl rfl S1 (by omega) ?_
    refine AW_if_eq (tgt := 1094) dL_law_1087 (by decide) (fun q => absurd q hb3) (fun _ => ?_)
    refine AW_iconst (v := 1) dL_law_1090 (by decide) ?_
    refine AW_goto (tgt := 1095) dL_law_1091 (by decide) ?_
    refine AW_callVI [aI (xs (x + 1)), aI (xs (x + 2)), aI 1] dL_law_1095 cv_L_190 rfl rfl rfl (by decide) rfl hu (Nat.le_of_ble_eq_true rfl) g1 ?_
    refine AW_istore dL_law_1098 (Nat.le_of_ble_eq_true rfl) rfl rfl ?_
    refine AW_tail (t := 1100) dL_law_1100 dL_law_1101 dL_law_1104 dL_law_1106 dL_law_1111 dL_law_1113 dL_law_1116 dL_law_1117 dL_law_1118 dL_law_1119 dL_law_1121 dL_law_1122 dL_law_1123 dL_law_1128 (by decide) hu g4 ⟨by decide, by decide⟩ g5 (fun w hw => ?_) ?_
    · rw [g3 27 (Or.inr (by decide))]
      exact h4 w hw
    · exact k _ _ (g3.TC h2) g2 S2
set_option maxRecDepth 100000 in
theorem lcs_14 (H : TC μ T) (H' : TM μ T) (S : Sq μ L xs) (hx : x + 4 ≤ L) (hu : u + 1 ≤ 512) (k : ∀ μ' T', TC μ' T' → TM μ' T' → Sq μ' L xs → AW M_law (u + 1) 2423 (LL x none none none) [] μ' rT) : AW M_law u 1131 (LL x none none none) [] μ rT := by
  by_cases hb2 : xs (x + 2) = 0
  · skip
    obtain ⟨m1, h1, h2, h3, h4⟩ := l_fines (p_fines (a := xs (x + 1)) (c := 0) H) e_sh
    have H1 := h3.TM H'
    have S1 := S.lw h3
    obtain ⟨m2, v, g1, g2, g3, g4, g5⟩ := q_fines (a := xs (x + 1)) (c := 0) H1
    have S2 := S1.mo g3
    refine AW_aload_n dL_law_1131 rfl ?_
    refine AW_arg1 dL_law_1132 dL_law_1133 dL_law_1135 dL_law_1136 dL_law_1137 rfl rfl S (by omega) ?_
    refine AW_arg2 dL_law_1138 dL_law_1139 dL_law_1141 dL_law_1142 dL_law_1143 rfl rfl S (by omega) ?_
    refine AW_if_eq (tgt := 1151) dL_law_1144 (by decide) (fun _ => ?_) (fun q => absurd hb2 q)
    refine AW_iconst (v := 0) dL_law_1151 (by decide) ?_
    refine AW_aload_n dL_law_1152 rfl ?_
    refine AW_callSW (u' := u + 1) [aR 11 0, aI (xs (x + 1)), aI 0, aR 27 0] dL_law_1153 cw_L_191 rfl rfl (by decide) rfl hu (by decide) h1 ?_
    refine AW_istore dL_law_1156 (Nat.le_of_ble_eq_true rfl) rfl rfl ?_
    refine AW_aload_n dL_law_1158 rfl ?_
    refine AW_arg1 dL_law_1159 dL_law_1160 dL_law_1162 dL_law_1163 dL_law_1164 rfl rfl S1 (by omega) ?_
    refine AW_arg2 dL_law_1165 dL_law_1166 dL_law_1168 dL_law_1169 dL_law_1170 rfl rfl S1 (by omega) ?_
    refine AW_if_eq (tgt := 1178) dL_law_1171 (by decide) (fun _ => ?_) (fun q => absurd hb2 q)
    refine AW_iconst (v := 0) dL_law_1178 (by decide) ?_
    refine AW_callVI [aI (xs (x + 1)), aI 0] dL_law_1179 cv_L_194 rfl rfl rfl (by decide) rfl hu (Nat.le_of_ble_eq_true rfl) g1 ?_
    refine AW_istore dL_law_1182 (Nat.le_of_ble_eq_true rfl) rfl rfl ?_
    refine AW_tail (t := 1184) dL_law_1184 dL_law_1185 dL_law_1188 dL_law_1190 dL_law_1195 dL_law_1197 dL_law_1200 dL_law_1201 dL_law_1202 dL_law_1203 dL_law_1205 dL_law_1206 dL_law_1207 dL_law_1212 (by decide) hu g4 ⟨by decide, by decide⟩ g5 (fun w hw => ?_) ?_
    · rw [g3 27 (Or.inr (by decide))]
      exact h4 w hw
    · exact k _ _ (g3.TC h2) g2 S2
  · skip
    obtain ⟨m1, h1, h2, h3, h4⟩ := l_fines (p_fines (a := xs (x + 1)) (c := 1) H) e_sh
    have H1 := h3.TM H'
    have S1 := S.lw h3
    obtain ⟨m2, v, g1, g2, g3, g4, g5⟩ := q_fines (a := xs (x + 1)) (c := 1) H1
    have S2 := S1.mo g3
    refine AW_aload_n dL_law_1131 rfl ?_
    refine AW_arg1 dL_law_1132 dL_law_1133 dL_law_1135 dL_law_1136 dL_law_1137 rfl rfl S (by omega) ?_
    refine AW_arg2 dL_law_1138 dL_law_1139 dL_law_1141 dL_law_1142 dL_law_1143 rfl rfl S (by omega) ?_
    refine AW_if_eq (tgt := 1151) dL_law_1144 (by decide) (fun q => absurd q hb2) (fun _ => ?_)
    refine AW_iconst (v := 1) dL_law_1147 (by decide) ?_
    refine AW_goto (tgt := 1152) dL_law_1148 (by decide) ?_
    refine AW_aload_n dL_law_1152 rfl ?_
    refine AW_callSW (u' := u + 1) [aR 11 0, aI (xs (x + 1)), aI 1, aR 27 0] dL_law_1153 cw_L_191 rfl rfl (by decide) rfl hu (by decide) h1 ?_
    refine AW_istore dL_law_1156 (Nat.le_of_ble_eq_true rfl) rfl rfl ?_
    refine AW_aload_n dL_law_1158 rfl ?_
    refine AW_arg1 dL_law_1159 dL_law_1160 dL_law_1162 dL_law_1163 dL_law_1164 rfl rfl S1 (by omega) ?_
    refine AW_arg2 dL_law_1165 dL_law_1166 dL_law_1168 dL_law_1169 dL_law_1170 rfl rfl S1 (by omega) ?_
    refine AW_if_eq (tgt := 1178) dL_law_1171 (by decide) (fun q => absurd q hb2) (fun _ => ?_)
    refine AW_iconst (v := 1) dL_law_1174 (by decide) ?_
    refine AW_goto (tgt := 1179) dL_law_1175 (by decide) ?_
    refine AW_callVI [aI (xs (x + 1)), aI 1] dL_law_1179 cv_L_194 rfl rfl rfl (by decide) rfl hu (Nat.le_of_ble_eq_true rfl) g1 ?_
    refine AW_istore dL_law_1182 (Nat.le_of_ble_eq_true rfl) rfl rfl ?_
    refine AW_tail (t := 1184) dL_law_1184 dL_law_1185 dL_law_1188 dL_law_1190 dL_law_1195 dL_law_1197 dL_law_1200 dL_law_1201 dL_law_1202 dL_law_1203 dL_law_1205 dL_law_1206 dL_law_1207 dL_law_1212 (by decide) hu g4 ⟨by decide, by decide⟩ g5 (fun w hw => ?_) ?_
    · rw [g3 27 (Or.inr (by decide))]
      exact h4 w hw
    · exact k _ _ (g3.TC h2) g2 S2
set_option maxRecDepth 100000 in
theorem lcs_16 (H : TC μ T) (H' : TM μ T) (S : Sq μ L xs) (hx : x + 4 ≤ L) (hu : u + 1 ≤ 512) (k : ∀ μ' T', TC μ' T' → TM μ' T' → Sq μ' L xs → AW M_law (u + 1) 2423 (LL x none none none) [] μ' rT) : AW M_law u 1278 (LL x none none none) [] μ rT := by
  obtain ⟨m1, h1, h2, h3, h4⟩ := l_laughing (p_laughing (a := xs (x + 1)) (b := xs (x + 2)) H) e_pl
  have H1 := h3.TM H'
  have S1 := S.lw h3
  obtain ⟨m2, v, g1, g2, g3, g4, g5⟩ := q_laughing (a := xs (x + 1)) (b := xs (x + 2)) H1
  have S2 := S1.mo g3
  refine AW_aload_n dL_law_1278 rfl ?_
  refine AW_arg1 dL_law_1279 dL_law_1280 dL_law_1282 dL_law_1283 dL_law_1284 rfl rfl S (by omega) ?_
  refine AW_arg2 dL_law_1285 dL_law_1286 dL_law_1288 dL_law_1289 dL_law_1290 rfl rfl S (by omega) ?_
  refine AW_aload_n dL_law_1291 rfl ?_
  refine AW_callSW (u' := u + 1) [aR 11 0, aI (xs (x + 1)), aI (xs (x + 2)), aR 27 0] dL_law_1292 cw_L_198 rfl rfl (by decide) rfl hu (by decide) h1 ?_
  refine AW_istore dL_law_1295 (Nat.le_of_ble_eq_true rfl) rfl rfl ?_
  refine AW_aload_n dL_law_1297 rfl ?_
  refine AW_arg1 dL_law_1298 dL_law_1299 dL_law_1301 dL_law_1302 dL_law_1303 rfl rfl S1 (by omega) ?_
  refine AW_arg2 dL_law_1304 dL_law_1305 dL_law_1307 dL_law_1308 dL_law_1309 rfl rfl S1 (by omega) ?_
  refine AW_callVI [aI (xs (x + 1)), aI (xs (x + 2))] dL_law_1310 cv_L_200 rfl rfl rfl (by decide) rfl hu (Nat.le_of_ble_eq_true rfl) g1 ?_
  refine AW_istore dL_law_1313 (Nat.le_of_ble_eq_true rfl) rfl rfl ?_
  refine AW_tail (t := 1315) dL_law_1315 dL_law_1316 dL_law_1319 dL_law_1321 dL_law_1326 dL_law_1328 dL_law_1331 dL_law_1332 dL_law_1333 dL_law_1334 dL_law_1336 dL_law_1337 dL_law_1338 dL_law_1343 (by decide) hu g4 ⟨by decide, by decide⟩ g5 (fun w hw => ?_) ?_
  · rw [g3 27 (Or.inr (by decide))]
    exact h4 w hw
  · exact k _ _ (g3.TC h2) g2 S2
set_option maxRecDepth 100000 in
theorem lcs_17 (H : TC μ T) (H' : TM μ T) (S : Sq μ L xs) (hx : x + 4 ≤ L) (hu : u + 1 ≤ 512) (k : ∀ μ' T', TC μ' T' → TM μ' T' → Sq μ' L xs → AW M_law (u + 1) 2423 (LL x none none none) [] μ' rT) : AW M_law u 1346 (LL x none none none) [] μ rT := by
  by_cases hb1 : xs (x + 1) = 0
  · skip
    obtain ⟨m1, h1, h2, h3, h4⟩ := l_bargain (p_bargain (a := 0) H) e_bargain
    have H1 := h3.TM H'
    have S1 := S.lw h3
    obtain ⟨m2, v, g1, g2, g3, g4, g5⟩ := q_bargain (a := 0) H1
    have S2 := S1.mo g3
    refine AW_aload_n dL_law_1346 rfl ?_
    refine AW_arg1 dL_law_1347 dL_law_1348 dL_law_1350 dL_law_1351 dL_law_1352 rfl rfl S (by omega) ?_
    refine AW_if_eq (tgt := 1360) dL_law_1353 (by decide) (fun _ => ?_) (fun q => absurd hb1 q)
    refine AW_iconst (v := 0) dL_law_1360 (by decide) ?_
    refine AW_aload_n dL_law_1361 rfl ?_
    refine AW_callSW (u' := u + 1) [aR 11 0, aI 0, aR 27 0] dL_law_1362 cw_L_201 rfl rfl (by decide) rfl hu (by decide) h1 ?_
    refine AW_istore dL_law_1365 (Nat.le_of_ble_eq_true rfl) rfl rfl ?_
    refine AW_aload_n dL_law_1367 rfl ?_
    refine AW_arg1 dL_law_1368 dL_law_1369 dL_law_1371 dL_law_1372 dL_law_1373 rfl rfl S1 (by omega) ?_
    refine AW_if_eq (tgt := 1381) dL_law_1374 (by decide) (fun _ => ?_) (fun q => absurd hb1 q)
    refine AW_iconst (v := 0) dL_law_1381 (by decide) ?_
    refine AW_callVI [aI 0] dL_law_1382 cv_L_204 rfl rfl rfl (by decide) rfl hu (Nat.le_of_ble_eq_true rfl) g1 ?_
    refine AW_istore dL_law_1385 (Nat.le_of_ble_eq_true rfl) rfl rfl ?_
    refine AW_tail (t := 1387) dL_law_1387 dL_law_1388 dL_law_1391 dL_law_1393 dL_law_1398 dL_law_1400 dL_law_1403 dL_law_1404 dL_law_1405 dL_law_1406 dL_law_1408 dL_law_1409 dL_law_1410 dL_law_1415 (by decide) hu g4 ⟨by decide, by decide⟩ g5 (fun w hw => ?_) ?_
    · rw [g3 27 (Or.inr (by decide))]
      exact h4 w hw
    · exact k _ _ (g3.TC h2) g2 S2
  · skip
    obtain ⟨m1, h1, h2, h3, h4⟩ := l_bargain (p_bargain (a := 1) H) e_bargain
    have H1 := h3.TM H'
    have S1 := S.lw h3
    obtain ⟨m2, v, g1, g2, g3, g4, g5⟩ := q_bargain (a := 1) H1
    have S2 := S1.mo g3
    refine AW_aload_n dL_law_1346 rfl ?_
    refine AW_arg1 dL_law_1347 dL_law_1348 dL_law_1350 dL_law_1351 dL_law_1352 rfl rfl S (by omega) ?_
    refine AW_if_eq (tgt := 1360) dL_law_1353 (by decide) (fun q => absurd q hb1) (fun _ => ?_)
    refine AW_iconst (v := 1) dL_law_1356 (by decide) ?_
    refine AW_goto (tgt := 1361) dL_law_1357 (by decide) ?_
    refine AW_aload_n dL_law_1361 rfl ?_
    refine AW_callSW (u' := u + 1) [aR 11 0, aI 1, aR 27 0] dL_law_1362 cw_L_201 rfl rfl (by decide) rfl hu (by decide) h1 ?_
    refine AW_istore dL_law_1365 (Nat.le_of_ble_eq_true rfl) rfl rfl ?_
    refine AW_aload_n dL_law_1367 rfl ?_
    refine AW_arg1 dL_law_1368 dL_law_1369 dL_law_1371 dL_law_1372 dL_law_1373 rfl rfl S1 (by omega) ?_
    refine AW_if_eq (tgt := 1381) dL_law_1374 (by decide) (fun q => absurd q hb1) (fun _ => ?_)
    refine AW_iconst (v := 1) dL_law_1377 (by decide) ?_
    refine AW_goto (tgt := 1382) dL_law_1378 (by decide) ?_
    refine AW_callVI [aI 1] dL_law_1382 cv_L_204 rfl rfl rfl (by decide) rfl hu (Nat.le_of_ble_eq_true rfl) g1 ?_
    refine AW_istore dL_law_1385 (Nat.le_of_ble_eq_true rfl) rfl rfl ?_
    refine AW_tail (t := 1387) dL_law_1387 dL_law_1388 dL_law_1391 dL_law_1393 dL_law_1398 dL_law_1400 dL_law_1403 dL_law_1404 dL_law_1405 dL_law_1406 dL_law_1408 dL_law_1409 dL_law_1410 dL_law_1415 (by decide) hu g4 ⟨by decide, by decide⟩ g5 (fun w hw => ?_) ?_
    · rw [g3 27 (Or.inr (by decide))]
      exact h4 w hw
    · exact k _ _ (g3.TC h2) g2 S2
set_option maxRecDepth 100000 in
theorem lcs_18 (H : TC μ T) (H' : TM μ T) (S : Sq μ L xs) (hx : x + 4 ≤ L) (hu : u + 1 ≤ 512) (k : ∀ μ' T', TC μ' T' → TM μ' T' → Sq μ' L xs → AW M_law (u + 1) 2423 (LL x none none none) [] μ' rT) : AW M_law u 1418 (LL x none none none) [] μ rT := by
  obtain ⟨m1, h1, h2, h3, h4⟩ := l_wouldShame (p_wouldShame (a := xs (x + 1)) H) e_hs
  have H1 := h3.TM H'
  have S1 := S.lw h3
  obtain ⟨m2, v, g1, g2, g3, g4, g5⟩ := q_wouldShame (a := xs (x + 1)) H1
  have S2 := S1.mo g3
  refine AW_aload_n dL_law_1418 rfl ?_
  refine AW_arg1 dL_law_1419 dL_law_1420 dL_law_1422 dL_law_1423 dL_law_1424 rfl rfl S (by omega) ?_
  refine AW_aload_n dL_law_1425 rfl ?_
  refine AW_callSW (u' := u + 1) [aR 11 0, aI (xs (x + 1)), aR 27 0] dL_law_1426 cw_L_205 rfl rfl (by decide) rfl hu (by decide) h1 ?_
  refine AW_istore dL_law_1429 (Nat.le_of_ble_eq_true rfl) rfl rfl ?_
  refine AW_aload_n dL_law_1431 rfl ?_
  refine AW_arg1 dL_law_1432 dL_law_1433 dL_law_1435 dL_law_1436 dL_law_1437 rfl rfl S1 (by omega) ?_
  refine AW_callVI [aI (xs (x + 1))] dL_law_1438 cv_L_207 rfl rfl rfl (by decide) rfl hu (Nat.le_of_ble_eq_true rfl) g1 ?_
  refine AW_istore dL_law_1441 (Nat.le_of_ble_eq_true rfl) rfl rfl ?_
  refine AW_tail (t := 1443) dL_law_1443 dL_law_1444 dL_law_1447 dL_law_1449 dL_law_1454 dL_law_1456 dL_law_1459 dL_law_1460 dL_law_1461 dL_law_1462 dL_law_1464 dL_law_1465 dL_law_1466 dL_law_1471 (by decide) hu g4 ⟨by decide, by decide⟩ g5 (fun w hw => ?_) ?_
  · rw [g3 27 (Or.inr (by decide))]
    exact h4 w hw
  · exact k _ _ (g3.TC h2) g2 S2
set_option maxRecDepth 100000 in
theorem lcs_19 (H : TC μ T) (H' : TM μ T) (S : Sq μ L xs) (hx : x + 4 ≤ L) (hu : u + 1 ≤ 512) (k : ∀ μ' T', TC μ' T' → TM μ' T' → Sq μ' L xs → AW M_law (u + 1) 2423 (LL x none none none) [] μ' rT) : AW M_law u 1474 (LL x none none none) [] μ rT := by
  by_cases hb1 : xs (x + 1) = 0
  · skip
    obtain ⟨m1, h1, h2, h3⟩ := p_wouldLaugh (a := 0) H
    have H1 : TM m1 T := hiTM (fun t q _ => h3 t (by omega)) H'
    have S1 := S.cl h3
    obtain ⟨m2, v, g1, g2, g3, g4, g5⟩ := q_wouldLaugh (a := 0) H1
    have S2 := S1.mo g3
    refine AW_aload_n dL_law_1474 rfl ?_
    refine AW_arg1 dL_law_1475 dL_law_1476 dL_law_1478 dL_law_1479 dL_law_1480 rfl rfl S (by omega) ?_
    refine AW_if_eq (tgt := 1488) dL_law_1481 (by decide) (fun _ => ?_) (fun q => absurd hb1 q)
    refine AW_iconst (v := 0) dL_law_1488 (by decide) ?_
    refine AW_callVI [aI 0] dL_law_1489 cv_L_208 rfl rfl rfl (by decide) rfl (by show u + 0 ≤ 512; omega) (by decide) h1 ?_
    refine AW_aload_n dL_law_1492 rfl ?_
    refine AW_arg1 dL_law_1493 dL_law_1494 dL_law_1496 dL_law_1497 dL_law_1498 rfl rfl S1 (by omega) ?_
    refine AW_if_eq (tgt := 1506) dL_law_1499 (by decide) (fun _ => ?_) (fun q => absurd hb1 q)
    refine AW_iconst (v := 0) dL_law_1506 (by decide) ?_
    refine AW_callVI [aI 0] dL_law_1507 cv_L_211 rfl rfl rfl (by decide) rfl (by show u + 0 ≤ 512; omega) (Nat.le_of_ble_eq_true rfl) g1 ?_
    refine AW_icmp_eq (tgt := 2423) dL_law_1510 (by decide) (fun _ => ?_) (fun q => absurd (g5 _ rfl).symm q)
    refine AW_u (u' := u + 1) (by show u + 0 ≤ u + 1; omega) hu ?_
    exact k _ _ (g3.TC h2) g2 S2
  · skip
    obtain ⟨m1, h1, h2, h3⟩ := p_wouldLaugh (a := 1) H
    have H1 : TM m1 T := hiTM (fun t q _ => h3 t (by omega)) H'
    have S1 := S.cl h3
    obtain ⟨m2, v, g1, g2, g3, g4, g5⟩ := q_wouldLaugh (a := 1) H1
    have S2 := S1.mo g3
    refine AW_aload_n dL_law_1474 rfl ?_
    refine AW_arg1 dL_law_1475 dL_law_1476 dL_law_1478 dL_law_1479 dL_law_1480 rfl rfl S (by omega) ?_
    refine AW_if_eq (tgt := 1488) dL_law_1481 (by decide) (fun q => absurd q hb1) (fun _ => ?_)
    refine AW_iconst (v := 1) dL_law_1484 (by decide) ?_
    refine AW_goto (tgt := 1489) dL_law_1485 (by decide) ?_
    refine AW_callVI [aI 1] dL_law_1489 cv_L_208 rfl rfl rfl (by decide) rfl (by show u + 0 ≤ 512; omega) (by decide) h1 ?_
    refine AW_aload_n dL_law_1492 rfl ?_
    refine AW_arg1 dL_law_1493 dL_law_1494 dL_law_1496 dL_law_1497 dL_law_1498 rfl rfl S1 (by omega) ?_
    refine AW_if_eq (tgt := 1506) dL_law_1499 (by decide) (fun q => absurd q hb1) (fun _ => ?_)
    refine AW_iconst (v := 1) dL_law_1502 (by decide) ?_
    refine AW_goto (tgt := 1507) dL_law_1503 (by decide) ?_
    refine AW_callVI [aI 1] dL_law_1507 cv_L_211 rfl rfl rfl (by decide) rfl (by show u + 0 ≤ 512; omega) (Nat.le_of_ble_eq_true rfl) g1 ?_
    refine AW_icmp_eq (tgt := 2423) dL_law_1510 (by decide) (fun _ => ?_) (fun q => absurd (g5 _ rfl).symm q)
    refine AW_u (u' := u + 1) (by show u + 0 ≤ u + 1; omega) hu ?_
    exact k _ _ (g3.TC h2) g2 S2
set_option maxRecDepth 100000 in
theorem lcs_20 (H : TC μ T) (H' : TM μ T) (S : Sq μ L xs) (hx : x + 4 ≤ L) (hu : u + 1 ≤ 512) (k : ∀ μ' T', TC μ' T' → TM μ' T' → Sq μ' L xs → AW M_law (u + 1) 2423 (LL x none none none) [] μ' rT) : AW M_law u 1515 (LL x none none none) [] μ rT := by
  obtain ⟨m1, h1, h2, h3, h4⟩ := l_nearest (p_nearest (a := xs (x + 1)) H) e_sh
  have H1 := h3.TM H'
  have S1 := S.lw h3
  obtain ⟨m2, v, g1, g2, g3, g4, g5⟩ := q_nearest (a := xs (x + 1)) H1
  have S2 := S1.mo g3
  refine AW_aload_n dL_law_1515 rfl ?_
  refine AW_arg1 dL_law_1516 dL_law_1517 dL_law_1519 dL_law_1520 dL_law_1521 rfl rfl S (by omega) ?_
  refine AW_aload_n dL_law_1522 rfl ?_
  refine AW_callSW (u' := u + 1) [aR 11 0, aI (xs (x + 1)), aR 27 0] dL_law_1523 cw_L_212 rfl rfl (by decide) rfl hu (by decide) h1 ?_
  refine AW_istore dL_law_1526 (Nat.le_of_ble_eq_true rfl) rfl rfl ?_
  refine AW_aload_n dL_law_1528 rfl ?_
  refine AW_arg1 dL_law_1529 dL_law_1530 dL_law_1532 dL_law_1533 dL_law_1534 rfl rfl S1 (by omega) ?_
  refine AW_callVI [aI (xs (x + 1))] dL_law_1535 cv_L_214 rfl rfl rfl (by decide) rfl hu (Nat.le_of_ble_eq_true rfl) g1 ?_
  refine AW_istore dL_law_1538 (Nat.le_of_ble_eq_true rfl) rfl rfl ?_
  refine AW_tail (t := 1540) dL_law_1540 dL_law_1541 dL_law_1544 dL_law_1546 dL_law_1551 dL_law_1553 dL_law_1556 dL_law_1557 dL_law_1558 dL_law_1559 dL_law_1561 dL_law_1562 dL_law_1563 dL_law_1568 (by decide) hu g4 ⟨by decide, by decide⟩ g5 (fun w hw => ?_) ?_
  · rw [g3 27 (Or.inr (by decide))]
    exact h4 w hw
  · exact k _ _ (g3.TC h2) g2 S2
set_option maxRecDepth 100000 in
theorem lcs_21 (H : TC μ T) (H' : TM μ T) (S : Sq μ L xs) (hx : x + 4 ≤ L) (hu : u + 1 ≤ 512) (k : ∀ μ' T', TC μ' T' → TM μ' T' → Sq μ' L xs → AW M_law (u + 1) 2423 (LL x none none none) [] μ' rT) : AW M_law u 1571 (LL x none none none) [] μ rT := by
  obtain ⟨m1, h1, h2, h3, h4⟩ := l_calmIn (p_calmIn (a := xs (x + 1)) H) e_hs
  have H1 := h3.TM H'
  have S1 := S.lw h3
  obtain ⟨m2, v, g1, g2, g3, g4, g5⟩ := q_calmIn (a := xs (x + 1)) H1
  have S2 := S1.mo g3
  refine AW_aload_n dL_law_1571 rfl ?_
  refine AW_arg1 dL_law_1572 dL_law_1573 dL_law_1575 dL_law_1576 dL_law_1577 rfl rfl S (by omega) ?_
  refine AW_aload_n dL_law_1578 rfl ?_
  refine AW_callSW (u' := u + 1) [aR 11 0, aI (xs (x + 1)), aR 27 0] dL_law_1579 cw_L_215 rfl rfl (by decide) rfl hu (by decide) h1 ?_
  refine AW_istore dL_law_1582 (Nat.le_of_ble_eq_true rfl) rfl rfl ?_
  refine AW_aload_n dL_law_1584 rfl ?_
  refine AW_arg1 dL_law_1585 dL_law_1586 dL_law_1588 dL_law_1589 dL_law_1590 rfl rfl S1 (by omega) ?_
  refine AW_callVI [aI (xs (x + 1))] dL_law_1591 cv_L_217 rfl rfl rfl (by decide) rfl hu (Nat.le_of_ble_eq_true rfl) g1 ?_
  refine AW_istore dL_law_1594 (Nat.le_of_ble_eq_true rfl) rfl rfl ?_
  refine AW_tail (t := 1596) dL_law_1596 dL_law_1597 dL_law_1600 dL_law_1602 dL_law_1607 dL_law_1609 dL_law_1612 dL_law_1613 dL_law_1614 dL_law_1615 dL_law_1617 dL_law_1618 dL_law_1619 dL_law_1624 (by decide) hu g4 ⟨by decide, by decide⟩ g5 (fun w hw => ?_) ?_
  · rw [g3 27 (Or.inr (by decide))]
    exact h4 w hw
  · exact k _ _ (g3.TC h2) g2 S2
set_option maxRecDepth 100000 in
theorem lcs_22 (H : TC μ T) (H' : TM μ T) (S : Sq μ L xs) (hx : x + 4 ≤ L) (hu : u + 1 ≤ 512) (k : ∀ μ' T', TC μ' T' → TM μ' T' → Sq μ' L xs → AW M_law (u + 1) 2423 (LL x none none none) [] μ' rT) : AW M_law u 1627 (LL x none none none) [] μ rT := by
  obtain ⟨m1, h1, h2, h3, h4⟩ := l_ashamed (p_ashamed (a := xs (x + 1)) H) (fnd4 _ _)
  have H1 := h3.TM H'
  have S1 := S.lw h3
  obtain ⟨m2, v, g1, g2, g3, g4, g5⟩ := q_ashamed (a := xs (x + 1)) H1
  have S2 := S1.mo g3
  refine AW_aload_n dL_law_1627 rfl ?_
  refine AW_arg1 dL_law_1628 dL_law_1629 dL_law_1631 dL_law_1632 dL_law_1633 rfl rfl S (by omega) ?_
  refine AW_aload_n dL_law_1634 rfl ?_
  refine AW_callSW (u' := u + 1) [aR 11 0, aI (xs (x + 1)), aR 27 0] dL_law_1635 cw_L_218 rfl rfl (by decide) rfl hu (by decide) h1 ?_
  refine AW_istore dL_law_1638 (Nat.le_of_ble_eq_true rfl) rfl rfl ?_
  refine AW_aload_n dL_law_1640 rfl ?_
  refine AW_arg1 dL_law_1641 dL_law_1642 dL_law_1644 dL_law_1645 dL_law_1646 rfl rfl S1 (by omega) ?_
  refine AW_callVI [aI (xs (x + 1))] dL_law_1647 cv_L_220 rfl rfl rfl (by decide) rfl hu (Nat.le_of_ble_eq_true rfl) g1 ?_
  refine AW_istore dL_law_1650 (Nat.le_of_ble_eq_true rfl) rfl rfl ?_
  refine AW_tail (t := 1652) dL_law_1652 dL_law_1653 dL_law_1656 dL_law_1658 dL_law_1663 dL_law_1665 dL_law_1668 dL_law_1669 dL_law_1670 dL_law_1671 dL_law_1673 dL_law_1674 dL_law_1675 dL_law_1680 (by decide) hu g4 ⟨by decide, by decide⟩ g5 (fun w hw => ?_) ?_
  · rw [g3 27 (Or.inr (by decide))]
    exact h4 w hw
  · exact k _ _ (g3.TC h2) g2 S2
set_option maxRecDepth 100000 in
theorem lcs_23 (H : TC μ T) (H' : TM μ T) (S : Sq μ L xs) (hx : x + 4 ≤ L) (hu : u + 1 ≤ 512) (k : ∀ μ' T', TC μ' T' → TM μ' T' → Sq μ' L xs → AW M_law (u + 1) 2423 (LL x none none none) [] μ' rT) : AW M_law u 1683 (LL x none none none) [] μ rT := by
  obtain ⟨m1, h1, h2, h3, h4⟩ := l_worst (p_worst (a := xs (x + 1)) H) (fnd4 _ _)
  have H1 := h3.TM H'
  have S1 := S.lw h3
  obtain ⟨m2, v, g1, g2, g3, g4, g5⟩ := q_worst (a := xs (x + 1)) H1
  have S2 := S1.mo g3
  refine AW_aload_n dL_law_1683 rfl ?_
  refine AW_arg1 dL_law_1684 dL_law_1685 dL_law_1687 dL_law_1688 dL_law_1689 rfl rfl S (by omega) ?_
  refine AW_aload_n dL_law_1690 rfl ?_
  refine AW_callSW (u' := u + 1) [aR 11 0, aI (xs (x + 1)), aR 27 0] dL_law_1691 cw_L_221 rfl rfl (by decide) rfl hu (by decide) h1 ?_
  refine AW_istore dL_law_1694 (Nat.le_of_ble_eq_true rfl) rfl rfl ?_
  refine AW_aload_n dL_law_1696 rfl ?_
  refine AW_arg1 dL_law_1697 dL_law_1698 dL_law_1700 dL_law_1701 dL_law_1702 rfl rfl S1 (by omega) ?_
  refine AW_callVI [aI (xs (x + 1))] dL_law_1703 cv_L_223 rfl rfl rfl (by decide) rfl hu (Nat.le_of_ble_eq_true rfl) g1 ?_
  refine AW_istore dL_law_1706 (Nat.le_of_ble_eq_true rfl) rfl rfl ?_
  refine AW_tail (t := 1708) dL_law_1708 dL_law_1709 dL_law_1712 dL_law_1714 dL_law_1719 dL_law_1721 dL_law_1724 dL_law_1725 dL_law_1726 dL_law_1727 dL_law_1729 dL_law_1730 dL_law_1731 dL_law_1736 (by decide) hu g4 ⟨by decide, by decide⟩ g5 (fun w hw => ?_) ?_
  · rw [g3 27 (Or.inr (by decide))]
    exact h4 w hw
  · exact k _ _ (g3.TC h2) g2 S2
set_option maxRecDepth 100000 in
theorem lcs_24 (H : TC μ T) (H' : TM μ T) (S : Sq μ L xs) (hx : x + 4 ≤ L) (hu : u + 1 ≤ 512) (k : ∀ μ' T', TC μ' T' → TM μ' T' → Sq μ' L xs → AW M_law (u + 1) 2423 (LL x none none none) [] μ' rT) : AW M_law u 1739 (LL x none none none) [] μ rT := by
  obtain ⟨m1, h1, h2, h3, h4⟩ := l_line (p_line (a := xs (x + 1)) H) e_line
  have H1 := h3.TM H'
  have S1 := S.lw h3
  obtain ⟨m2, v, g1, g2, g3, g4, g5⟩ := q_line (a := xs (x + 1)) H1
  have S2 := S1.mo g3
  refine AW_aload_n dL_law_1739 rfl ?_
  refine AW_arg1 dL_law_1740 dL_law_1741 dL_law_1743 dL_law_1744 dL_law_1745 rfl rfl S (by omega) ?_
  refine AW_aload_n dL_law_1746 rfl ?_
  refine AW_callSW (u' := u + 1) [aR 11 0, aI (xs (x + 1)), aR 27 0] dL_law_1747 cw_L_224 rfl rfl (by decide) rfl hu (by decide) h1 ?_
  refine AW_istore dL_law_1750 (Nat.le_of_ble_eq_true rfl) rfl rfl ?_
  refine AW_aload_n dL_law_1752 rfl ?_
  refine AW_arg1 dL_law_1753 dL_law_1754 dL_law_1756 dL_law_1757 dL_law_1758 rfl rfl S1 (by omega) ?_
  refine AW_callVI [aI (xs (x + 1))] dL_law_1759 cv_L_226 rfl rfl rfl (by decide) rfl hu (Nat.le_of_ble_eq_true rfl) g1 ?_
  refine AW_istore dL_law_1762 (Nat.le_of_ble_eq_true rfl) rfl rfl ?_
  refine AW_tail (t := 1764) dL_law_1764 dL_law_1765 dL_law_1768 dL_law_1770 dL_law_1775 dL_law_1777 dL_law_1780 dL_law_1781 dL_law_1782 dL_law_1783 dL_law_1785 dL_law_1786 dL_law_1787 dL_law_1792 (by decide) hu g4 ⟨by decide, by decide⟩ g5 (fun w hw => ?_) ?_
  · rw [g3 27 (Or.inr (by decide))]
    exact h4 w hw
  · exact k _ _ (g3.TC h2) g2 S2
set_option maxRecDepth 100000 in
theorem lcs_25 (H : TC μ T) (H' : TM μ T) (S : Sq μ L xs) (hx : x + 4 ≤ L) (hu : u + 1 ≤ 512) (k : ∀ μ' T', TC μ' T' → TM μ' T' → Sq μ' L xs → AW M_law (u + 1) 2423 (LL x none none none) [] μ' rT) : AW M_law u 1795 (LL x none none none) [] μ rT := by
  obtain ⟨m1, h1, h2, h3, h4⟩ := l_houseLine (p_houseLine (a := xs (x + 1)) H) e_houseLine
  have H1 := h3.TM H'
  have S1 := S.lw h3
  obtain ⟨m2, v, g1, g2, g3, g4, g5⟩ := q_houseLine (a := xs (x + 1)) H1
  have S2 := S1.mo g3
  refine AW_aload_n dL_law_1795 rfl ?_
  refine AW_arg1 dL_law_1796 dL_law_1797 dL_law_1799 dL_law_1800 dL_law_1801 rfl rfl S (by omega) ?_
  refine AW_aload_n dL_law_1802 rfl ?_
  refine AW_callSW (u' := u + 1) [aR 11 0, aI (xs (x + 1)), aR 27 0] dL_law_1803 cw_L_227 rfl rfl (by decide) rfl hu (by decide) h1 ?_
  refine AW_istore dL_law_1806 (Nat.le_of_ble_eq_true rfl) rfl rfl ?_
  refine AW_aload_n dL_law_1808 rfl ?_
  refine AW_arg1 dL_law_1809 dL_law_1810 dL_law_1812 dL_law_1813 dL_law_1814 rfl rfl S1 (by omega) ?_
  refine AW_callVI [aI (xs (x + 1))] dL_law_1815 cv_L_229 rfl rfl rfl (by decide) rfl hu (Nat.le_of_ble_eq_true rfl) g1 ?_
  refine AW_istore dL_law_1818 (Nat.le_of_ble_eq_true rfl) rfl rfl ?_
  refine AW_tail (t := 1820) dL_law_1820 dL_law_1821 dL_law_1824 dL_law_1826 dL_law_1831 dL_law_1833 dL_law_1836 dL_law_1837 dL_law_1838 dL_law_1839 dL_law_1841 dL_law_1842 dL_law_1843 dL_law_1848 (by decide) hu g4 ⟨by decide, by decide⟩ g5 (fun w hw => ?_) ?_
  · rw [g3 27 (Or.inr (by decide))]
    exact h4 w hw
  · exact k _ _ (g3.TC h2) g2 S2
set_option maxRecDepth 100000 in
theorem lcs_26 (H : TC μ T) (H' : TM μ T) (S : Sq μ L xs) (hx : x + 4 ≤ L) (hu : u + 1 ≤ 512) (k : ∀ μ' T', TC μ' T' → TM μ' T' → Sq μ' L xs → AW M_law (u + 1) 2423 (LL x none none none) [] μ' rT) : AW M_law u 1851 (LL x none none none) [] μ rT := by
  obtain ⟨m1, h1, h2, h3, h4⟩ := l_character (p_character (a := xs (x + 1)) H) e_character
  have H1 := h3.TM H'
  have S1 := S.lw h3
  obtain ⟨m2, v, g1, g2, g3, g4, g5⟩ := q_character (a := xs (x + 1)) H1
  have S2 := S1.mo g3
  refine AW_aload_n dL_law_1851 rfl ?_
  refine AW_arg1 dL_law_1852 dL_law_1853 dL_law_1855 dL_law_1856 dL_law_1857 rfl rfl S (by omega) ?_
  refine AW_aload_n dL_law_1858 rfl ?_
  refine AW_callSW (u' := u + 1) [aR 11 0, aI (xs (x + 1)), aR 27 0] dL_law_1859 cw_L_230 rfl rfl (by decide) rfl hu (by decide) h1 ?_
  refine AW_istore dL_law_1862 (Nat.le_of_ble_eq_true rfl) rfl rfl ?_
  refine AW_aload_n dL_law_1864 rfl ?_
  refine AW_arg1 dL_law_1865 dL_law_1866 dL_law_1868 dL_law_1869 dL_law_1870 rfl rfl S1 (by omega) ?_
  refine AW_callVI [aI (xs (x + 1))] dL_law_1871 cv_L_232 rfl rfl rfl (by decide) rfl hu (Nat.le_of_ble_eq_true rfl) g1 ?_
  refine AW_istore dL_law_1874 (Nat.le_of_ble_eq_true rfl) rfl rfl ?_
  refine AW_tail (t := 1876) dL_law_1876 dL_law_1877 dL_law_1880 dL_law_1882 dL_law_1887 dL_law_1889 dL_law_1892 dL_law_1893 dL_law_1894 dL_law_1895 dL_law_1897 dL_law_1898 dL_law_1899 dL_law_1904 (by decide) hu g4 ⟨by decide, by decide⟩ g5 (fun w hw => ?_) ?_
  · rw [g3 27 (Or.inr (by decide))]
    exact h4 w hw
  · exact k _ _ (g3.TC h2) g2 S2
set_option maxRecDepth 100000 in
theorem lcs_27 (H : TC μ T) (H' : TM μ T) (S : Sq μ L xs) (hx : x + 4 ≤ L) (hu : u + 1 ≤ 512) (k : ∀ μ' T', TC μ' T' → TM μ' T' → Sq μ' L xs → AW M_law (u + 1) 2423 (LL x none none none) [] μ' rT) : AW M_law u 1907 (LL x none none none) [] μ rT := by
  obtain ⟨cv, hc6, hcv⟩ : ∃ c, c < 65536 ∧ ((xs (x + 1)).toUInt32 % 65536).toInt32 = nI c := ⟨_, Nat.mod_lt _ (by decide), pk_char _⟩
  obtain ⟨m1, h1, h2, h3, h4⟩ := l_append (p_append  hc6 H) e_append
  have H1 := h3.TM H'
  have S1 := S.lw h3
  obtain ⟨m2, v, g1, g2, g3, g4, g5⟩ := q_append  hc6 H1
  have S2 := S1.mo g3
  refine AW_aload_n dL_law_1907 rfl ?_
  refine AW_arg1 dL_law_1908 dL_law_1909 dL_law_1911 dL_law_1912 dL_law_1913 rfl rfl S (by omega) ?_
  refine AW_i2c (v := nI cv) dL_law_1914 hcv ?_
  refine AW_aload_n dL_law_1915 rfl ?_
  refine AW_callSW (u' := u + 1) [aR 11 0, aI (nI cv), aR 27 0] dL_law_1916 cw_L_233 rfl rfl (by decide) rfl hu (by decide) h1 ?_
  refine AW_istore dL_law_1919 (Nat.le_of_ble_eq_true rfl) rfl rfl ?_
  refine AW_aload_n dL_law_1921 rfl ?_
  refine AW_arg1 dL_law_1922 dL_law_1923 dL_law_1925 dL_law_1926 dL_law_1927 rfl rfl S1 (by omega) ?_
  refine AW_i2c (v := nI cv) dL_law_1928 hcv ?_
  refine AW_callVI [aI (nI cv)] dL_law_1929 cv_L_236 rfl rfl rfl (by decide) rfl hu (Nat.le_of_ble_eq_true rfl) g1 ?_
  refine AW_istore dL_law_1932 (Nat.le_of_ble_eq_true rfl) rfl rfl ?_
  refine AW_tail (t := 1934) dL_law_1934 dL_law_1935 dL_law_1938 dL_law_1940 dL_law_1945 dL_law_1947 dL_law_1950 dL_law_1951 dL_law_1952 dL_law_1953 dL_law_1955 dL_law_1956 dL_law_1957 dL_law_1962 (by decide) hu g4 ⟨by decide, by decide⟩ g5 (fun w hw => ?_) ?_
  · rw [g3 27 (Or.inr (by decide))]
    exact h4 w hw
  · exact k _ _ (g3.TC h2) g2 S2
set_option maxRecDepth 100000 in
theorem lcs_28 (H : TC μ T) (H' : TM μ T) (S : Sq μ L xs) (hx : x + 4 ≤ L) (hu : u + 1 ≤ 512) (k : ∀ μ' T', TC μ' T' → TM μ' T' → Sq μ' L xs → AW M_law (u + 1) 2423 (LL x none none none) [] μ' rT) : AW M_law u 1965 (LL x none none none) [] μ rT := by
  obtain ⟨m1, h1, h2, h3, h4⟩ := l_run (p_run  H) e_run
  have H1 := h3.TM H'
  have S1 := S.lw h3
  obtain ⟨m2, v, g1, g2, g3, g4, g5⟩ := q_run  H1
  have S2 := S1.mo g3
  refine AW_aload_n dL_law_1965 rfl ?_
  refine AW_aload_n dL_law_1966 rfl ?_
  refine AW_callSW (u' := u + 1) [aR 11 0, aR 27 0] dL_law_1967 cw_L_237 rfl rfl (by decide) rfl hu (by decide) h1 ?_
  refine AW_istore dL_law_1970 (Nat.le_of_ble_eq_true rfl) rfl rfl ?_
  refine AW_aload_n dL_law_1972 rfl ?_
  refine AW_callVI [] dL_law_1973 cv_L_239 rfl rfl rfl (by decide) rfl hu (Nat.le_of_ble_eq_true rfl) g1 ?_
  refine AW_istore dL_law_1976 (Nat.le_of_ble_eq_true rfl) rfl rfl ?_
  refine AW_tail (t := 1978) dL_law_1978 dL_law_1979 dL_law_1982 dL_law_1984 dL_law_1989 dL_law_1991 dL_law_1994 dL_law_1995 dL_law_1996 dL_law_1997 dL_law_1999 dL_law_2000 dL_law_2001 dL_law_2006 (by decide) hu g4 ⟨by decide, by decide⟩ g5 (fun w hw => ?_) ?_
  · rw [g3 27 (Or.inr (by decide))]
    exact h4 w hw
  · exact k _ _ (g3.TC h2) g2 S2
set_option maxRecDepth 100000 in
theorem lcs_29 (H : TC μ T) (H' : TM μ T) (S : Sq μ L xs) (hx : x + 4 ≤ L) (hu : u + 1 ≤ 512) (k : ∀ μ' T', TC μ' T' → TM μ' T' → Sq μ' L xs → AW M_law (u + 1) 2423 (LL x none none none) [] μ' rT) : AW M_law u 2009 (LL x none none none) [] μ rT := by
  obtain ⟨m1, h1, h2, h3⟩ := p_errorPosition  H
  have H1 : TM m1 T := hiTM (fun t q _ => h3 t (by omega)) H'
  have S1 := S.cl h3
  obtain ⟨m2, v, g1, g2, g3, g4, g5⟩ := q_errorPosition  H1
  have S2 := S1.mo g3
  refine AW_aload_n dL_law_2009 rfl ?_
  refine AW_callVI [] dL_law_2010 cv_L_240 rfl rfl rfl (by decide) rfl (by show u + 0 ≤ 512; omega) (by decide) h1 ?_
  refine AW_aload_n dL_law_2013 rfl ?_
  refine AW_callVI [] dL_law_2014 cv_L_243 rfl rfl rfl (by decide) rfl (by show u + 0 ≤ 512; omega) (Nat.le_of_ble_eq_true rfl) g1 ?_
  refine AW_icmp_eq (tgt := 2423) dL_law_2017 (by decide) (fun _ => ?_) (fun q => absurd (g5 _ rfl).symm q)
  refine AW_u (u' := u + 1) (by show u + 0 ≤ u + 1; omega) hu ?_
  exact k _ _ (g3.TC h2) g2 S2
set_option maxRecDepth 100000 in
theorem lcs_30 (H : TC μ T) (H' : TM μ T) (S : Sq μ L xs) (hx : x + 4 ≤ L) (hu : u + 1 ≤ 512) (k : ∀ μ' T', TC μ' T' → TM μ' T' → Sq μ' L xs → AW M_law (u + 1) 2423 (LL x none none none) [] μ' rT) : AW M_law u 2022 (LL x none none none) [] μ rT := by
  by_cases hb1 : xs (x + 1) = 0
  · skip
    by_cases hb2 : xs (x + 2) = 0
    · skip
      obtain ⟨m1, h1, h2, h3, h4⟩ := l_refusal (p_refusal (a := 0) (b := 0) H) e_refusal
      have H1 := h3.TM H'
      have S1 := S.lw h3
      obtain ⟨m2, v, g1, g2, g3, g4, g5⟩ := q_refusal (a := 0) (b := 0) H1
      have S2 := S1.mo g3
      refine AW_aload_n dL_law_2022 rfl ?_
      refine AW_arg1 dL_law_2023 dL_law_2024 dL_law_2026 dL_law_2027 dL_law_2028 rfl rfl S (by omega) ?_
      refine AW_if_eq (tgt := 2036) dL_law_2029 (by decide) (fun _ => ?_) (fun q => absurd hb1 q)
      refine AW_iconst (v := 0) dL_law_2036 (by decide) ?_
      refine AW_arg2 dL_law_2037 dL_law_2038 dL_law_2040 dL_law_2041 dL_law_2042 rfl rfl S (by omega) ?_
      refine AW_if_eq (tgt := 2050) dL_law_2043 (by decide) (fun _ => ?_) (fun q => absurd hb2 q)
      refine AW_iconst (v := 0) dL_law_2050 (by decide) ?_
      refine AW_aload_n dL_law_2051 rfl ?_
      refine AW_callSW (u' := u + 1) [aR 11 0, aI 0, aI 0, aR 27 0] dL_law_2052 cw_L_244 rfl rfl (by decide) rfl hu (by decide) h1 ?_
      refine AW_istore dL_law_2055 (Nat.le_of_ble_eq_true rfl) rfl rfl ?_
      refine AW_aload_n dL_law_2057 rfl ?_
      refine AW_arg1 dL_law_2058 dL_law_2059 dL_law_2061 dL_law_2062 dL_law_2063 rfl rfl S1 (by omega) ?_
      refine AW_if_eq (tgt := 2071) dL_law_2064 (by decide) (fun _ => ?_) (fun q => absurd hb1 q)
      refine AW_iconst (v := 0) dL_law_2071 (by decide) ?_
      refine AW_arg2 dL_law_2072 dL_law_2073 dL_law_2075 dL_law_2076 dL_law_2077 rfl rfl S1 (by omega) ?_
      refine AW_if_eq (tgt := 2085) dL_law_2078 (by decide) (fun _ => ?_) (fun q => absurd hb2 q)
      refine AW_iconst (v := 0) dL_law_2085 (by decide) ?_
      refine AW_callVI [aI 0, aI 0] dL_law_2086 cv_L_247 rfl rfl rfl (by decide) rfl hu (Nat.le_of_ble_eq_true rfl) g1 ?_
      refine AW_istore dL_law_2089 (Nat.le_of_ble_eq_true rfl) rfl rfl ?_
      refine AW_tail (t := 2091) dL_law_2091 dL_law_2092 dL_law_2095 dL_law_2097 dL_law_2102 dL_law_2104 dL_law_2107 dL_law_2108 dL_law_2109 dL_law_2110 dL_law_2112 dL_law_2113 dL_law_2114 dL_law_2119 (by decide) hu g4 ⟨by decide, by decide⟩ g5 (fun w hw => ?_) ?_
      · rw [g3 27 (Or.inr (by decide))]
        exact h4 w hw
      · exact k _ _ (g3.TC h2) g2 S2
    · skip
      obtain ⟨m1, h1, h2, h3, h4⟩ := l_refusal (p_refusal (a := 0) (b := 1) H) e_refusal
      have H1 := h3.TM H'
      have S1 := S.lw h3
      obtain ⟨m2, v, g1, g2, g3, g4, g5⟩ := q_refusal (a := 0) (b := 1) H1
      have S2 := S1.mo g3
      refine AW_aload_n dL_law_2022 rfl ?_
      refine AW_arg1 dL_law_2023 dL_law_2024 dL_law_2026 dL_law_2027 dL_law_2028 rfl rfl S (by omega) ?_
      refine AW_if_eq (tgt := 2036) dL_law_2029 (by decide) (fun _ => ?_) (fun q => absurd hb1 q)
      refine AW_iconst (v := 0) dL_law_2036 (by decide) ?_
      refine AW_arg2 dL_law_2037 dL_law_2038 dL_law_2040 dL_law_2041 dL_law_2042 rfl rfl S (by omega) ?_
      refine AW_if_eq (tgt := 2050) dL_law_2043 (by decide) (fun q => absurd q hb2) (fun _ => ?_)
      refine AW_iconst (v := 1) dL_law_2046 (by decide) ?_
      refine AW_goto (tgt := 2051) dL_law_2047 (by decide) ?_
      refine AW_aload_n dL_law_2051 rfl ?_
      refine AW_callSW (u' := u + 1) [aR 11 0, aI 0, aI 1, aR 27 0] dL_law_2052 cw_L_244 rfl rfl (by decide) rfl hu (by decide) h1 ?_
      refine AW_istore dL_law_2055 (Nat.le_of_ble_eq_true rfl) rfl rfl ?_
      refine AW_aload_n dL_law_2057 rfl ?_
      refine AW_arg1 dL_law_2058 dL_law_2059 dL_law_2061 dL_law_2062 dL_law_2063 rfl rfl S1 (by omega) ?_
      refine AW_if_eq (tgt := 2071) dL_law_2064 (by decide) (fun _ => ?_) (fun q => absurd hb1 q)
      refine AW_iconst (v := 0) dL_law_2071 (by decide) ?_
      refine AW_arg2 dL_law_2072 dL_law_2073 dL_law_2075 dL_law_2076 dL_law_2077 rfl rfl S1 (by omega) ?_
      refine AW_if_eq (tgt := 2085) dL_law_2078 (by decide) (fun q => absurd q hb2) (fun _ => ?_)
      refine AW_iconst (v := 1) dL_law_2081 (by decide) ?_
      refine AW_goto (tgt := 2086) dL_law_2082 (by decide) ?_
      refine AW_callVI [aI 0, aI 1] dL_law_2086 cv_L_247 rfl rfl rfl (by decide) rfl hu (Nat.le_of_ble_eq_true rfl) g1 ?_
      refine AW_istore dL_law_2089 (Nat.le_of_ble_eq_true rfl) rfl rfl ?_
      refine AW_tail (t := 2091) dL_law_2091 dL_law_2092 dL_law_2095 dL_law_2097 dL_law_2102 dL_law_2104 dL_law_2107 dL_law_2108 dL_law_2109 dL_law_2110 dL_law_2112 dL_law_2113 dL_law_2114 dL_law_2119 (by decide) hu g4 ⟨by decide, by decide⟩ g5 (fun w hw => ?_) ?_
      · rw [g3 27 (Or.inr (by decide))]
        exact h4 w hw
      · exact k _ _ (g3.TC h2) g2 S2
  · skip
    by_cases hb2 : xs (x + 2) = 0
    · skip
      obtain ⟨m1, h1, h2, h3, h4⟩ := l_refusal (p_refusal (a := 1) (b := 0) H) e_refusal
      have H1 := h3.TM H'
      have S1 := S.lw h3
      obtain ⟨m2, v, g1, g2, g3, g4, g5⟩ := q_refusal (a := 1) (b := 0) H1
      have S2 := S1.mo g3
      refine AW_aload_n dL_law_2022 rfl ?_
      refine AW_arg1 dL_law_2023 dL_law_2024 dL_law_2026 dL_law_2027 dL_law_2028 rfl rfl S (by omega) ?_
      refine AW_if_eq (tgt := 2036) dL_law_2029 (by decide) (fun q => absurd q hb1) (fun _ => ?_)
      refine AW_iconst (v := 1) dL_law_2032 (by decide) ?_
      refine AW_goto (tgt := 2037) dL_law_2033 (by decide) ?_
      refine AW_arg2 dL_law_2037 dL_law_2038 dL_law_2040 dL_law_2041 dL_law_2042 rfl rfl S (by omega) ?_
      refine AW_if_eq (tgt := 2050) dL_law_2043 (by decide) (fun _ => ?_) (fun q => absurd hb2 q)
      refine AW_iconst (v := 0) dL_law_2050 (by decide) ?_
      refine AW_aload_n dL_law_2051 rfl ?_
      refine AW_callSW (u' := u + 1) [aR 11 0, aI 1, aI 0, aR 27 0] dL_law_2052 cw_L_244 rfl rfl (by decide) rfl hu (by decide) h1 ?_
      refine AW_istore dL_law_2055 (Nat.le_of_ble_eq_true rfl) rfl rfl ?_
      refine AW_aload_n dL_law_2057 rfl ?_
      refine AW_arg1 dL_law_2058 dL_law_2059 dL_law_2061 dL_law_2062 dL_law_2063 rfl rfl S1 (by omega) ?_
      refine AW_if_eq (tgt := 2071) dL_law_2064 (by decide) (fun q => absurd q hb1) (fun _ => ?_)
      refine AW_iconst (v := 1) dL_law_2067 (by decide) ?_
      refine AW_goto (tgt := 2072) dL_law_2068 (by decide) ?_
      refine AW_arg2 dL_law_2072 dL_law_2073 dL_law_2075 dL_law_2076 dL_law_2077 rfl rfl S1 (by omega) ?_
      refine AW_if_eq (tgt := 2085) dL_law_2078 (by decide) (fun _ => ?_) (fun q => absurd hb2 q)
      refine AW_iconst (v := 0) dL_law_2085 (by decide) ?_
      refine AW_callVI [aI 1, aI 0] dL_law_2086 cv_L_247 rfl rfl rfl (by decide) rfl hu (Nat.le_of_ble_eq_true rfl) g1 ?_
      refine AW_istore dL_law_2089 (Nat.le_of_ble_eq_true rfl) rfl rfl ?_
      refine AW_tail (t := 2091) dL_law_2091 dL_law_2092 dL_law_2095 dL_law_2097 dL_law_2102 dL_law_2104 dL_law_2107 dL_law_2108 dL_law_2109 dL_law_2110 dL_law_2112 dL_law_2113 dL_law_2114 dL_law_2119 (by decide) hu g4 ⟨by decide, by decide⟩ g5 (fun w hw => ?_) ?_
      · rw [g3 27 (Or.inr (by decide))]
        exact h4 w hw
      · exact k _ _ (g3.TC h2) g2 S2
    · skip
      obtain ⟨m1, h1, h2, h3, h4⟩ := l_refusal (p_refusal (a := 1) (b := 1) H) e_refusal
      have H1 := h3.TM H'
      have S1 := S.lw h3
      obtain ⟨m2, v, g1, g2, g3, g4, g5⟩ := q_refusal (a := 1) (b := 1) H1
      have S2 := S1.mo g3
      refine AW_aload_n dL_law_2022 rfl ?_
      refine AW_arg1 dL_law_2023 dL_law_2024 dL_law_2026 dL_law_2027 dL_law_2028 rfl rfl S (by omega) ?_
      refine AW_if_eq (tgt := 2036) dL_law_2029 (by decide) (fun q => absurd q hb1) (fun _ => ?_)
      refine AW_iconst (v := 1) dL_law_2032 (by decide) ?_
      refine AW_goto (tgt := 2037) dL_law_2033 (by decide) ?_
      refine AW_arg2 dL_law_2037 dL_law_2038 dL_law_2040 dL_law_2041 dL_law_2042 rfl rfl S (by omega) ?_
      refine AW_if_eq (tgt := 2050) dL_law_2043 (by decide) (fun q => absurd q hb2) (fun _ => ?_)
      refine AW_iconst (v := 1) dL_law_2046 (by decide) ?_
      refine AW_goto (tgt := 2051) dL_law_2047 (by decide) ?_
      refine AW_aload_n dL_law_2051 rfl ?_
      refine AW_callSW (u' := u + 1) [aR 11 0, aI 1, aI 1, aR 27 0] dL_law_2052 cw_L_244 rfl rfl (by decide) rfl hu (by decide) h1 ?_
      refine AW_istore dL_law_2055 (Nat.le_of_ble_eq_true rfl) rfl rfl ?_
      refine AW_aload_n dL_law_2057 rfl ?_
      refine AW_arg1 dL_law_2058 dL_law_2059 dL_law_2061 dL_law_2062 dL_law_2063 rfl rfl S1 (by omega) ?_
      refine AW_if_eq (tgt := 2071) dL_law_2064 (by decide) (fun q => absurd q hb1) (fun _ => ?_)
      refine AW_iconst (v := 1) dL_law_2067 (by decide) ?_
      refine AW_goto (tgt := 2072) dL_law_2068 (by decide) ?_
      refine AW_arg2 dL_law_2072 dL_law_2073 dL_law_2075 dL_law_2076 dL_law_2077 rfl rfl S1 (by omega) ?_
      refine AW_if_eq (tgt := 2085) dL_law_2078 (by decide) (fun q => absurd q hb2) (fun _ => ?_)
      refine AW_iconst (v := 1) dL_law_2081 (by decide) ?_
      refine AW_goto (tgt := 2086) dL_law_2082 (by decide) ?_
      refine AW_callVI [aI 1, aI 1] dL_law_2086 cv_L_247 rfl rfl rfl (by decide) rfl hu (Nat.le_of_ble_eq_true rfl) g1 ?_
      refine AW_istore dL_law_2089 (Nat.le_of_ble_eq_true rfl) rfl rfl ?_
      refine AW_tail (t := 2091) dL_law_2091 dL_law_2092 dL_law_2095 dL_law_2097 dL_law_2102 dL_law_2104 dL_law_2107 dL_law_2108 dL_law_2109 dL_law_2110 dL_law_2112 dL_law_2113 dL_law_2114 dL_law_2119 (by decide) hu g4 ⟨by decide, by decide⟩ g5 (fun w hw => ?_) ?_
      · rw [g3 27 (Or.inr (by decide))]
        exact h4 w hw
      · exact k _ _ (g3.TC h2) g2 S2
set_option maxRecDepth 100000 in
theorem lcs_31 (H : TC μ T) (H' : TM μ T) (S : Sq μ L xs) (hx : x + 4 ≤ L) (hu : u + 1 ≤ 512) (k : ∀ μ' T', TC μ' T' → TM μ' T' → Sq μ' L xs → AW M_law (u + 1) 2423 (LL x none none none) [] μ' rT) : AW M_law u 2122 (LL x none none none) [] μ rT := by
  obtain ⟨m1, h1, h2, h3, h4⟩ := l_account (p_account (a := xs (x + 1)) H) e_account
  have H1 := h3.TM H'
  have S1 := S.lw h3
  obtain ⟨m2, v, g1, g2, g3, g4, g5⟩ := q_account (a := xs (x + 1)) H1
  have S2 := S1.mo g3
  refine AW_aload_n dL_law_2122 rfl ?_
  refine AW_arg1 dL_law_2123 dL_law_2124 dL_law_2126 dL_law_2127 dL_law_2128 rfl rfl S (by omega) ?_
  refine AW_aload_n dL_law_2129 rfl ?_
  refine AW_callSW (u' := u + 1) [aR 11 0, aI (xs (x + 1)), aR 27 0] dL_law_2130 cw_L_248 rfl rfl (by decide) rfl hu (by decide) h1 ?_
  refine AW_istore dL_law_2133 (Nat.le_of_ble_eq_true rfl) rfl rfl ?_
  refine AW_aload_n dL_law_2135 rfl ?_
  refine AW_arg1 dL_law_2136 dL_law_2137 dL_law_2139 dL_law_2140 dL_law_2141 rfl rfl S1 (by omega) ?_
  refine AW_callVI [aI (xs (x + 1))] dL_law_2142 cv_L_250 rfl rfl rfl (by decide) rfl hu (Nat.le_of_ble_eq_true rfl) g1 ?_
  refine AW_istore dL_law_2145 (Nat.le_of_ble_eq_true rfl) rfl rfl ?_
  refine AW_tail (t := 2147) dL_law_2147 dL_law_2148 dL_law_2151 dL_law_2153 dL_law_2158 dL_law_2160 dL_law_2163 dL_law_2164 dL_law_2165 dL_law_2166 dL_law_2168 dL_law_2169 dL_law_2170 dL_law_2175 (by decide) hu g4 ⟨by decide, by decide⟩ g5 (fun w hw => ?_) ?_
  · rw [g3 27 (Or.inr (by decide))]
    exact h4 w hw
  · exact k _ _ (g3.TC h2) g2 S2
set_option maxRecDepth 100000 in
theorem lcs_32 (H : TC μ T) (H' : TM μ T) (S : Sq μ L xs) (hx : x + 4 ≤ L) (hu : u + 1 ≤ 512) (k : ∀ μ' T', TC μ' T' → TM μ' T' → Sq μ' L xs → AW M_law (u + 1) 2423 (LL x none none none) [] μ' rT) : AW M_law u 2178 (LL x none none none) [] μ rT := by
  obtain ⟨m1, h1, h2, h3⟩ := p_isWell  H
  have H1 : TM m1 T := hiTM (fun t q _ => h3 t (by omega)) H'
  have S1 := S.cl h3
  obtain ⟨m2, v, g1, g2, g3, g4, g5⟩ := q_isWell  H1
  have S2 := S1.mo g3
  refine AW_aload_n dL_law_2178 rfl ?_
  refine AW_callVI [] dL_law_2179 cv_L_251 rfl rfl rfl (by decide) rfl (by show u + 0 ≤ 512; omega) (by decide) h1 ?_
  refine AW_aload_n dL_law_2182 rfl ?_
  refine AW_callVI [] dL_law_2183 cv_L_255 rfl rfl rfl (by decide) rfl (by show u + 0 ≤ 512; omega) (Nat.le_of_ble_eq_true rfl) g1 ?_
  refine AW_icmp_eq (tgt := 2423) dL_law_2186 (by decide) (fun _ => ?_) (fun q => absurd (g5 _ rfl).symm q)
  refine AW_u (u' := u + 1) (by show u + 0 ≤ u + 1; omega) hu ?_
  exact k _ _ (g3.TC h2) g2 S2
set_option maxRecDepth 100000 in
theorem lcs_35 (H : TC μ T) (H' : TM μ T) (S : Sq μ L xs) (hx : x + 4 ≤ L) (hu : u + 1 ≤ 512) (k : ∀ μ' T', TC μ' T' → TM μ' T' → Sq μ' L xs → AW M_law (u + 1) 2423 (LL x none none none) [] μ' rT) : AW M_law u 2322 (LL x none none none) [] μ rT := by
  obtain ⟨m1, h1, h2, h3, h4⟩ := l_undo (p_undo  H) e_undo
  have H1 := h3.TM H'
  have S1 := S.lw h3
  obtain ⟨m2, v, g1, g2, g3, g4, g5⟩ := q_undo  H1
  have S2 := S1.mo g3
  refine AW_aload_n dL_law_2322 rfl ?_
  refine AW_aload_n dL_law_2323 rfl ?_
  refine AW_callSW (u' := u + 1) [aR 11 0, aR 27 0] dL_law_2324 cw_L_263 rfl rfl (by decide) rfl hu (by decide) h1 ?_
  refine AW_istore dL_law_2327 (Nat.le_of_ble_eq_true rfl) rfl rfl ?_
  refine AW_aload_n dL_law_2329 rfl ?_
  refine AW_callVI [] dL_law_2330 cv_L_265 rfl rfl rfl (by decide) rfl hu (Nat.le_of_ble_eq_true rfl) g1 ?_
  refine AW_istore dL_law_2333 (Nat.le_of_ble_eq_true rfl) rfl rfl ?_
  refine AW_tail (t := 2335) dL_law_2335 dL_law_2336 dL_law_2339 dL_law_2341 dL_law_2346 dL_law_2348 dL_law_2351 dL_law_2352 dL_law_2353 dL_law_2354 dL_law_2356 dL_law_2357 dL_law_2358 dL_law_2363 (by decide) hu g4 ⟨by decide, by decide⟩ g5 (fun w hw => ?_) ?_
  · rw [g3 27 (Or.inr (by decide))]
    exact h4 w hw
  · exact k _ _ (g3.TC h2) g2 S2
set_option maxRecDepth 100000 in
theorem lcs_36 (H : TC μ T) (H' : TM μ T) (S : Sq μ L xs) (hx : x + 4 ≤ L) (hu : u + 1 ≤ 512) (k : ∀ μ' T', TC μ' T' → TM μ' T' → Sq μ' L xs → AW M_law (u + 1) 2423 (LL x none none none) [] μ' rT) : AW M_law u 2366 (LL x none none none) [] μ rT := by
  obtain ⟨m1, h1, h2, h3⟩ := p_save  H
  have H1 : TM m1 T := hiTM (fun t q _ => h3 t (by omega)) H'
  have S1 := S.cl h3
  obtain ⟨m2, v, g1, g2, g3, g4, g5⟩ := q_save  H1
  have S2 := S1.mo g3
  refine AW_aload_n dL_law_2366 rfl ?_
  refine AW_callVI [] dL_law_2367 cv_L_266 rfl rfl rfl (by decide) rfl (by show u + 0 ≤ 512; omega) (by decide) h1 ?_
  refine AW_aload_n dL_law_2370 rfl ?_
  refine AW_callVI [] dL_law_2371 cv_L_269 rfl rfl rfl (by decide) rfl (by show u + 0 ≤ 512; omega) (Nat.le_of_ble_eq_true rfl) g1 ?_
  refine AW_icmp_eq (tgt := 2423) dL_law_2374 (by decide) (fun _ => ?_) (fun q => absurd (g5 _ rfl).symm q)
  refine AW_u (u' := u + 1) (by show u + 0 ≤ u + 1; omega) hu ?_
  exact k _ _ (g3.TC h2) g2 S2
set_option maxRecDepth 100000 in
theorem lcs_37 (H : TC μ T) (H' : TM μ T) (S : Sq μ L xs) (hx : x + 4 ≤ L) (hu : u + 1 ≤ 512) (k : ∀ μ' T', TC μ' T' → TM μ' T' → Sq μ' L xs → AW M_law (u + 1) 2423 (LL x none none none) [] μ' rT) : AW M_law u 2379 (LL x none none none) [] μ rT := by
  obtain ⟨m1, h1, h2, h3, h4⟩ := l_restore (p_restore  H) e_restore
  have H1 := h3.TM H'
  have S1 := S.lw h3
  obtain ⟨m2, v, g1, g2, g3, g4, g5⟩ := q_restore  H1
  have S2 := S1.mo g3
  refine AW_aload_n dL_law_2379 rfl ?_
  refine AW_aload_n dL_law_2380 rfl ?_
  refine AW_callSW (u' := u + 1) [aR 11 0, aR 27 0] dL_law_2381 cw_L_270 rfl rfl (by decide) rfl hu (by decide) h1 ?_
  refine AW_istore dL_law_2384 (Nat.le_of_ble_eq_true rfl) rfl rfl ?_
  refine AW_aload_n dL_law_2386 rfl ?_
  refine AW_callVI [] dL_law_2387 cv_L_272 rfl rfl rfl (by decide) rfl hu (Nat.le_of_ble_eq_true rfl) g1 ?_
  refine AW_istore dL_law_2390 (Nat.le_of_ble_eq_true rfl) rfl rfl ?_
  refine AW_tail (t := 2392) dL_law_2392 dL_law_2393 dL_law_2396 dL_law_2398 dL_law_2403 dL_law_2405 dL_law_2408 dL_law_2409 dL_law_2410 dL_law_2411 dL_law_2413 dL_law_2414 dL_law_2415 dL_law_2420 (by decide) hu g4 ⟨by decide, by decide⟩ g5 (fun w hw => ?_) ?_
  · rw [g3 27 (Or.inr (by decide))]
    exact h4 w hw
  · exact k _ _ (g3.TC h2) g2 S2
end LC
