/-! the law: three cases more, and the loop -/
section LD
variable {μ : Mem} {T : TT} {L x u : Nat} {xs : Nat → Int32}
theorem e_shb {A : SP} {a : Int32} {f : Nat → Nat} (hf : ∀ s, f s ≤ 1) {v : Int32} (h : qSh A a (fun s => nI (f s)) = .inl v) : v = 0 ∨ v = 1 := by
  unfold qSh at h
  split at h
  · cases h
  · cases h
    have := hf a.toNatClampNeg
    show nI (f a.toNatClampNeg) = 0 ∨ nI (f a.toNatClampNeg) = 1
    rcases (show f a.toNatClampNeg = 0 ∨ f a.toNatClampNeg = 1 by omega) with e | e
    · rw [e]
      exact Or.inl rfl
    · rw [e]
      exact Or.inr rfl
theorem bi_1 (c : Prop) [Decidable c] : bi c ≤ 1 := by
  unfold bi
  split <;> omega
set_option maxRecDepth 100000 in
theorem lcs_15 (H : TC μ T) (H' : TM μ T) (S : Sq μ L xs) (hx : x + 4 ≤ L) (hu : u + 1 ≤ 512) (k : ∀ μ' T', TC μ' T' → TM μ' T' → Sq μ' L xs → AW M_law (u + 1) 2423 (LL x none none none) [] μ' rT) : AW M_law u 1215 (LL x none none none) [] μ rT := by
  have hb : ∀ v, (qSh (tA T) (xs (x + 1)) fun s => nI (bi (sFines (tA T) s ≤ sCn (tA T) (sOw (tA T) s)))) = .inl v → v = 0 ∨ v = 1 := fun v h => e_shb (f := fun s => bi (sFines (tA T) s ≤ sCn (tA T) (sOw (tA T) s))) (fun s => bi_1 _) h
  obtain ⟨c, ec⟩ : ∃ c, c = (qSh (tA T) (xs (x + 1)) fun s => nI (bi (sFines (tA T) s ≤ sCn (tA T) (sOw (tA T) s)))) := ⟨_, rfl⟩
  have hp := p_canMend (a := xs (x + 1)) H
  have he := e_sh (A := tA T) (a := xs (x + 1)) (f := fun s => nI (bi (sFines (tA T) s ≤ sCn (tA T) (sOw (tA T) s))))
  rw [← ec] at hb hp he
  obtain ⟨m1, h1, h2, h3, h4⟩ := l_canMend hp he hb
  have H1 := h3.TM H'
  have S1 := S.lw h3
  have hq := q_canMend (a := xs (x + 1)) H1
  rw [← ec] at hq
  obtain ⟨m2, v, g1, g2, g3, g4, g5⟩ := hq
  have S2 := S1.mo g3
  have e27 : ∀ w, c = .inl w → m2 27 0 0 = w := fun w hw => by
    rw [g3 27 (Or.inr (by decide))]
    exact h4 w hw
  refine AW_aload_n dL_law_1215 rfl ?_
  refine AW_arg1 dL_law_1216 dL_law_1217 dL_law_1219 dL_law_1220 dL_law_1221 rfl rfl S (by omega) ?_
  refine AW_aload_n dL_law_1222 rfl ?_
  refine AW_callSW (u' := u + 1) [aR 11 0, aI (xs (x + 1)), aR 27 0] dL_law_1223 cw_L_195 rfl rfl (by decide) rfl hu (by decide) h1 ?_
  refine AW_istore dL_law_1226 (Nat.le_of_ble_eq_true rfl) rfl rfl ?_
  refine AW_aload_n dL_law_1228 rfl ?_
  refine AW_arg1 dL_law_1229 dL_law_1230 dL_law_1232 dL_law_1233 dL_law_1234 rfl rfl S1 (by omega) ?_
  refine AW_callVI [aI (xs (x + 1))] dL_law_1235 cv_L_197 rfl rfl rfl (by decide) rfl hu (Nat.le_of_ble_eq_true rfl) g1 ?_
  refine AW_istore dL_law_1238 (Nat.le_of_ble_eq_true rfl) rfl rfl ?_
  have fin : ∀ l7, AW M_law (u + 1) 1275 (LL x (some (aI (nI (cc [0] c)))) l7 none) [] m2 rT := fun l7 => AW_goto (tgt := 2423) dL_law_1275 (by decide) (AW_mask [true, true, true, true, true, true, false, false, true] (k _ _ (g3.TC h2) g2 S2))
  refine AW_aload_n dL_law_1240 rfl ?_
  refine AW_callVI (u' := u + 1) [] dL_law_1241 cv_L_144 rfl rfl rfl (by decide) rfl hu (by decide) m_thrown ?_
  refine AW_iload dL_law_1244 rfl ?_
  refine AW_icmp_eq (tgt := 1251) dL_law_1246 (by decide) (fun _ => ?_) (fun q => absurd g4 q)
  refine AW_iload dL_law_1251 rfl ?_
  cases c with
  | inr e => exact AW_if_ne (tgt := 1275) dL_law_1253 (by decide) (fun _ => fin _) (fun q => absurd q (cdl_ne (by decide) (by decide)))
  | inl w =>
    refine AW_if_ne (tgt := 1275) dL_law_1253 (by decide) (fun q => absurd rfl q) (fun _ => ?_)
    refine AW_aload_n dL_law_1256 rfl ?_
    refine AW_iconst (v := 0) dL_law_1257 (by decide) ?_
    refine AW_laload dL_law_1258 rfl rfl (vp_in_nI (n := 0) (N := 1) (by decide) (by decide)) ?_
    refine AW_iload dL_law_1259 rfl ?_
    rw [show m2 27 0 (0 : Int32).toNatClampNeg = w from e27 w rfl]
    have ev := g5 w rfl
    rcases hb w rfl with rfl | rfl
    · refine AW_if_eq (tgt := 1268) dL_law_1261 (by decide) (fun _ => ?_) (fun q => absurd ev q)
      refine AW_lconst (v := 0) dL_law_1268 (by decide) ?_
      refine AW_lcmp dL_law_1269 ?_
      exact AW_if_eq (tgt := 1275) dL_law_1270 (by decide) (fun _ => fin _) (fun q => absurd (lg_0 _) q)
    · refine AW_if_eq (tgt := 1268) dL_law_1261 (by decide) (fun q => absurd q (by rw [ev]; decide)) (fun _ => ?_)
      refine AW_lconst (v := 1) dL_law_1264 (by decide) ?_
      refine AW_goto (tgt := 1269) dL_law_1265 (by decide) ?_
      refine AW_lcmp dL_law_1269 ?_
      exact AW_if_eq (tgt := 1275) dL_law_1270 (by decide) (fun _ => fin _) (fun q => absurd (lg_0 _) q)
theorem dst0 {μ : Mem} {v : UInt64} : dbl (dst μ 0 v 28 0 0) (dst μ 0 v 28 1 0) = v := by
  have e0 : dst μ 0 v 28 0 = upd (μ 28 0) 0 (dhi v) := by rw [dst, mset_o (by decide), mset_s]
  have e1 : dst μ 0 v 28 1 = upd (μ 28 1) 0 (dlo v) := mset_s _ _ _ _
  rw [e0, e1, upd_at, upd_at]
  exact dbl_of v
theorem dst_t {μ : Mem} {v : UInt64} {t : Nat} (h : t ≠ 28) : dst μ 0 v t = μ t := by
  funext o
  rw [dst, mset_t h, mset_t h]
theorem cmp_0 {a : UInt64} (h : FP.dcmp a a = some .eq) : Op.cmpValue (FP.dcmp a a) .l = 0 := by rw [h]; rfl
set_option maxRecDepth 100000 in
theorem lcs_33 (H : TC μ T) (H' : TM μ T) (S : Sq μ L xs) (hx : x + 4 ≤ L) (hu : u + 1 ≤ 512) (k : ∀ μ' T', TC μ' T' → TM μ' T' → Sq μ' L xs → AW M_law (u + 1) 2423 (LL x none none none) [] μ' rT) : AW M_law u 2191 (LL x none none none) [] μ rT := by
  have fin : ∀ {m : Mem} {l6 l7 l8 : Option AV}, TC m T → TM m T → Sq m L xs → AW M_law (u + 1) 2253 (LL x l6 l7 l8) [] m rT := fun a b c => AW_goto (tgt := 2423) dL_law_2253 (by decide) (AW_mask [true, true, true, true, true, true, false, false, false] (k _ _ a b c))
  by_cases c : sH (tA T) = 0
  · have h1 := l_meanShame_n ((p_meanShame H).1 c)
    obtain ⟨v, g1, g2⟩ := q_meanShame H'
    rw [if_pos c] at g1
    have c8e : faM μ 1 19 0 8 = 1 := by rw [faM, mset_s]; rfl
    refine AW_aload_n dL_law_2191 rfl ?_
    refine AW_aload dL_law_2192 rfl ?_
    refine AW_callSW (u' := u + 1) [aR 11 0, aR 28 0] dL_law_2194 cw_L_256 rfl rfl (by decide) rfl hu (by decide) h1 ?_
    refine AW_istore dL_law_2197 (Nat.le_of_ble_eq_true rfl) rfl rfl ?_
    refine AW_aload_n dL_law_2199 rfl ?_
    refine AW_callV [] dL_law_2200 cv_L_259 rfl rfl rfl (by decide) (by show u + 1 + 0 ≤ 512; omega) (by decide) g1 (fun _ _ h => nomatch h.1) (fun w μ2 h => ?_)
    obtain ⟨h2, rfl⟩ := h
    cases h2
    show AW M_law (u + 1) 2203 _ [aD v] _ _
    refine AW_dstore dL_law_2203 (Nat.le_of_ble_eq_true rfl) rfl rfl ?_
    refine AW_aload_n dL_law_2205 rfl ?_
    refine AW_callVI (u' := u + 1) [] dL_law_2206 cv_L_144 rfl rfl rfl (by decide) rfl hu (by decide) m_thrown ?_
    refine AW_iload dL_law_2209 rfl ?_
    rw [c8e]
    refine AW_icmp_eq (tgt := 2216) dL_law_2211 (by decide) (fun _ => ?_) (fun q => absurd rfl q)
    refine AW_iload dL_law_2216 rfl ?_
    exact AW_if_ne (tgt := 2253) dL_law_2218 (by decide) (fun _ => fin (Sm.fa.mo.TC H) (H'.sm Sm.fa) (S.mo Sm.fa.mo)) (fun q => absurd q (by decide))
  · obtain ⟨ok2, ok3⟩ := vMean_ok H.1.W c
    have h1 := l_meanShame_y ((p_meanShame H).2 c)
    obtain ⟨m1, e1⟩ : ∃ m1 : Mem, m1 = dst μ 0 (vMean (tA T)) := ⟨_, rfl⟩
    have K : ∀ t, t ≠ 28 → m1 t = μ t := fun t ht => by rw [e1]; exact dst_t ht
    have Hc : TC m1 T := TC.lo (fun t ht => K t (by omega)) H
    have H1 : TM m1 T := hiTM (fun t _ ht => K t (by omega)) H'
    have S1 : Sq m1 L xs := S.mv fun t ht => K t (by omega)
    rw [← e1] at h1
    obtain ⟨v, g1, g2⟩ := q_meanShame H1
    rw [if_neg c] at g1
    have ev := g2 c
    subst ev
    have c8e : faM m1 0 19 0 8 = 0 := by rw [faM, mset_s]; rfl
    have e28 : dbl (faM m1 0 28 0 (0 : Int32).toNatClampNeg) (faM m1 0 28 1 (0 : Int32).toNatClampNeg) = vMean (tA T) := by
      rw [show faM m1 0 28 0 = m1 28 0 from mset_t (by decide), show faM m1 0 28 1 = m1 28 1 from mset_t (by decide), e1]
      exact dst0
    refine AW_aload_n dL_law_2191 rfl ?_
    refine AW_aload dL_law_2192 rfl ?_
    refine AW_callSW (u' := u + 1) [aR 11 0, aR 28 0] dL_law_2194 cw_L_256 rfl rfl (by decide) rfl hu (by decide) h1 ?_
    refine AW_istore dL_law_2197 (Nat.le_of_ble_eq_true rfl) rfl rfl ?_
    refine AW_aload_n dL_law_2199 rfl ?_
    refine AW_callV [] dL_law_2200 cv_L_259 rfl rfl rfl (by decide) (by show u + 1 + 0 ≤ 512; omega) (by decide) g1 (fun _ _ h => nomatch h.1) (fun w μ2 h => ?_)
    obtain ⟨h2, rfl⟩ := h
    cases h2
    show AW M_law (u + 1) 2203 _ [aD (vMean (tA T))] _ _
    refine AW_dstore dL_law_2203 (Nat.le_of_ble_eq_true rfl) rfl rfl ?_
    refine AW_aload_n dL_law_2205 rfl ?_
    refine AW_callVI (u' := u + 1) [] dL_law_2206 cv_L_144 rfl rfl rfl (by decide) rfl hu (by decide) m_thrown ?_
    refine AW_iload dL_law_2209 rfl ?_
    rw [c8e]
    refine AW_icmp_eq (tgt := 2216) dL_law_2211 (by decide) (fun _ => ?_) (fun q => absurd rfl q)
    refine AW_iload dL_law_2216 rfl ?_
    refine AW_if_ne (tgt := 2253) dL_law_2218 (by decide) (fun q => absurd rfl q) (fun _ => ?_)
    refine AW_aload dL_law_2221 rfl ?_
    refine AW_iconst (v := 0) dL_law_2223 (by decide) ?_
    refine AW_daload dL_law_2224 (vp_in_nI (n := 0) (N := 1) (by decide) (by decide)) ?_
    rw [e28]
    refine AW_dload dL_law_2225 rfl ?_
    refine AW_dcmp dL_law_2227 ?_
    exact AW_if_eq (tgt := 2253) dL_law_2228 (by decide) (fun _ => fin (Sm.fa.mo.TC Hc) (H1.sm Sm.fa) (S1.mo Sm.fa.mo)) (fun q => absurd (cmp_0 ok3) q)
set_option maxRecDepth 100000 in
theorem lcs_34 (H : TC μ T) (H' : TM μ T) (S : Sq μ L xs) (hx : x + 4 ≤ L) (hu : u + 1 ≤ 512) (k : ∀ μ' T', TC μ' T' → TM μ' T' → Sq μ' L xs → AW M_law (u + 1) 2423 (LL x none none none) [] μ' rT) : AW M_law u 2256 (LL x none none none) [] μ rT := by
  have fin : ∀ {m : Mem} {l6 l7 l8 : Option AV}, TC m T → TM m T → Sq m L xs → AW M_law (u + 1) 2319 (LL x l6 l7 l8) [] m rT := fun a b c => AW_goto (tgt := 2423) dL_law_2319 (by decide) (AW_mask [true, true, true, true, true, true, false, false, false] (k _ _ a b c))
  by_cases c : sS (tA T) = 0
  · have h1 := l_errorShare_n ((p_errorShare H).1 c)
    obtain ⟨v, g1, g2⟩ := q_errorShare H'
    rw [if_pos c] at g1
    have c8e : faM μ 1 19 0 8 = 1 := by rw [faM, mset_s]; rfl
    refine AW_aload_n dL_law_2256 rfl ?_
    refine AW_aload dL_law_2257 rfl ?_
    refine AW_callSW (u' := u + 1) [aR 11 0, aR 28 0] dL_law_2259 cw_L_260 rfl rfl (by decide) rfl hu (by decide) h1 ?_
    refine AW_istore dL_law_2262 (Nat.le_of_ble_eq_true rfl) rfl rfl ?_
    refine AW_aload_n dL_law_2264 rfl ?_
    refine AW_callV [] dL_law_2265 cv_L_262 rfl rfl rfl (by decide) (by show u + 1 + 0 ≤ 512; omega) (by decide) g1 (fun _ _ h => nomatch h.1) (fun w μ2 h => ?_)
    obtain ⟨h2, rfl⟩ := h
    cases h2
    show AW M_law (u + 1) 2268 _ [aF v] _ _
    refine AW_fstore dL_law_2268 (Nat.le_of_ble_eq_true rfl) rfl rfl ?_
    refine AW_aload_n dL_law_2270 rfl ?_
    refine AW_callVI (u' := u + 1) [] dL_law_2271 cv_L_144 rfl rfl rfl (by decide) rfl hu (by decide) m_thrown ?_
    refine AW_iload dL_law_2274 rfl ?_
    rw [c8e]
    refine AW_icmp_eq (tgt := 2281) dL_law_2276 (by decide) (fun _ => ?_) (fun q => absurd rfl q)
    refine AW_iload dL_law_2281 rfl ?_
    exact AW_if_ne (tgt := 2319) dL_law_2283 (by decide) (fun _ => fin (Sm.fa.mo.TC H) (H'.sm Sm.fa) (S.mo Sm.fa.mo)) (fun q => absurd q (by decide))
  · obtain ⟨ok1, ok2, ok3⟩ := vShare_ok H.1.W c
    have h1 := l_errorShare_y ((p_errorShare H).2 c) ok2
    obtain ⟨m1, e1⟩ : ∃ m1 : Mem, m1 = dst μ 0 (FP.f2d (vShare (tA T))) := ⟨_, rfl⟩
    have K : ∀ t, t ≠ 28 → m1 t = μ t := fun t ht => by rw [e1]; exact dst_t ht
    have Hc : TC m1 T := TC.lo (fun t ht => K t (by omega)) H
    have H1 : TM m1 T := hiTM (fun t _ ht => K t (by omega)) H'
    have S1 : Sq m1 L xs := S.mv fun t ht => K t (by omega)
    rw [← e1] at h1
    obtain ⟨v, g1, g2⟩ := q_errorShare H1
    rw [if_neg c] at g1
    have ev := g2 c
    subst ev
    have c8e : faM m1 0 19 0 8 = 0 := by rw [faM, mset_s]; rfl
    have e28 : dbl (faM m1 0 28 0 (0 : Int32).toNatClampNeg) (faM m1 0 28 1 (0 : Int32).toNatClampNeg) = FP.f2d (vShare (tA T)) := by
      rw [show faM m1 0 28 0 = m1 28 0 from mset_t (by decide), show faM m1 0 28 1 = m1 28 1 from mset_t (by decide), e1]
      exact dst0
    refine AW_aload_n dL_law_2256 rfl ?_
    refine AW_aload dL_law_2257 rfl ?_
    refine AW_callSW (u' := u + 1) [aR 11 0, aR 28 0] dL_law_2259 cw_L_260 rfl rfl (by decide) rfl hu (by decide) h1 ?_
    refine AW_istore dL_law_2262 (Nat.le_of_ble_eq_true rfl) rfl rfl ?_
    refine AW_aload_n dL_law_2264 rfl ?_
    refine AW_callV [] dL_law_2265 cv_L_262 rfl rfl rfl (by decide) (by show u + 1 + 0 ≤ 512; omega) (by decide) g1 (fun _ _ h => nomatch h.1) (fun w μ2 h => ?_)
    obtain ⟨h2, rfl⟩ := h
    cases h2
    show AW M_law (u + 1) 2268 _ [aF (vShare (tA T))] _ _
    refine AW_fstore dL_law_2268 (Nat.le_of_ble_eq_true rfl) rfl rfl ?_
    refine AW_aload_n dL_law_2270 rfl ?_
    refine AW_callVI (u' := u + 1) [] dL_law_2271 cv_L_144 rfl rfl rfl (by decide) rfl hu (by decide) m_thrown ?_
    refine AW_iload dL_law_2274 rfl ?_
    rw [c8e]
    refine AW_icmp_eq (tgt := 2281) dL_law_2276 (by decide) (fun _ => ?_) (fun q => absurd rfl q)
    refine AW_iload dL_law_2281 rfl ?_
    refine AW_if_ne (tgt := 2319) dL_law_2283 (by decide) (fun q => absurd rfl q) (fun _ => ?_)
    refine AW_aload dL_law_2286 rfl ?_
    refine AW_iconst (v := 0) dL_law_2288 (by decide) ?_
    refine AW_daload dL_law_2289 (vp_in_nI (n := 0) (N := 1) (by decide) (by decide)) ?_
    rw [e28]
    refine AW_fload dL_law_2290 rfl ?_
    refine AW_f2d dL_law_2292 ok2 ?_
    refine AW_dcmp dL_law_2293 ?_
    exact AW_if_eq (tgt := 2319) dL_law_2294 (by decide) (fun _ => fin (Sm.fa.mo.TC Hc) (H1.sm Sm.fa) (S1.mo Sm.fa.mo)) (fun q => absurd (cmp_0 ok3) q)
theorem end_c {L u : Nat} (hL : L ≤ 2048) (hu : 4 * u ≤ 2048) : (nI L - 4 < nI (4 * u)) = (L < 4 * u + 4) := by
  by_cases c : 4 ≤ L
  · rw [show (4 : Int32) = nI 4 from rfl, pk_sub c, nI_ltI (by omega) (by omega)]
    exact propext ⟨fun _ => by omega, fun _ => by omega⟩
  · have : nI L - 4 < 0 := by
      rcases (show L = 0 ∨ L = 1 ∨ L = 2 ∨ L = 3 by omega) with rfl | rfl | rfl | rfl <;> decide
    exact propext ⟨fun _ => by omega, fun _ => Int32.lt_of_lt_of_le this (nI_pos' (by omega))⟩
set_option maxRecDepth 100000 in
theorem law_loop : ∀ (n u : Nat) (μ : Mem) (T : TT), L ≤ 4 * u + n → u ≤ 512 → TC μ T → TM μ T → Sq μ L xs → AW M_law u 28 (LL (4 * u) none none none) [] μ rT := by
  intro n
  induction n with
  | zero =>
    intro u μ T hn hu H H' S
    obtain ⟨s1, s2, s3⟩ := S
    refine AW_iload dL_law_28 rfl ?_
    refine AW_aload_n dL_law_30 rfl ?_
    refine AW_slen (v := nI L) dL_law_31 (by rw [s1, nI_clamp (by omega)]; rfl) ?_
    refine AW_iconst (v := 4) dL_law_32 (by decide) ?_
    refine AW_isub dL_law_33 ?_
    refine AW_icmp_gt (tgt := 2429) dL_law_34 (by decide) (fun _ => ?_) (fun q => absurd (by rw [end_c s3 (by omega)]; omega) q)
    refine AW_iconst (v := 1) dL_law_2429 (by decide) ?_
    exact AW_ireturn (ty := .boolean) dL_law_2430 rfl rfl rfl
  | succ n ih =>
    intro u μ T hn hu2 H H' S
    have S0 := S
    obtain ⟨s1, s2, s3⟩ := S
    refine AW_iload dL_law_28 rfl ?_
    refine AW_aload_n dL_law_30 rfl ?_
    refine AW_slen (v := nI L) dL_law_31 (by rw [s1, nI_clamp (by omega)]; rfl) ?_
    refine AW_iconst (v := 4) dL_law_32 (by decide) ?_
    refine AW_isub dL_law_33 ?_
    refine AW_icmp_gt (tgt := 2429) dL_law_34 (by decide) (fun _ => ?_) (fun q => ?_)
    · refine AW_iconst (v := 1) dL_law_2429 (by decide) ?_
      exact AW_ireturn (ty := .boolean) dL_law_2430 rfl rfl rfl
    · rw [end_c s3 (by omega)] at q
      have hu : u + 1 ≤ 512 := by omega
      have S := S0
      have nx : ∀ μ' T', TC μ' T' → TM μ' T' → Sq μ' L xs → AW M_law (u + 1) 2423 (LL (4 * u) none none none) [] μ' rT := fun μ' T' a b c => by
        refine AW_iinc (v := nI (4 * (u + 1))) (loc' := LL (4 * (u + 1)) none none none) dL_law_2423 rfl (by rw [show Int32.ofInt 4 = nI 4 from rfl, nI_add]; rfl) (Nat.le_of_ble_eq_true rfl) rfl rfl ?_
        exact AW_goto (tgt := 28) dL_law_2426 (by decide) (ih (u + 1) μ' T' (by omega) hu a b c)
      have df : AW M_law u 2423 (LL (4 * u) none none none) [] μ rT := AW_u (u' := u + 1) (by omega) hu (nx μ T H H' S)
      refine AW_aload_n dL_law_37 rfl ?_
      refine AW_iload dL_law_38 rfl ?_
      refine AW_saload dL_law_40 (by rw [s1, nI_clamp (by omega)]; exact vp_in_nI (by omega) (by omega)) ?_
      refine AW_bipush (v := 63) dL_law_41 (by decide) ?_
      refine AW_iand dL_law_43 ?_
      exact AW_tsw dL_law_44 (by decide) (fun _ => ⟨2423, by decide, df⟩) ⟨fun _ => ⟨212, by decide, lcs_0 H H' S (by omega) hu nx⟩, fun _ => ⟨268, by decide, lcs_1 H H' S (by omega) hu nx⟩, fun _ => ⟨336, by decide, lcs_2 H H' S (by omega) hu nx⟩, fun _ => ⟨392, by decide, lcs_3 H H' S (by omega) hu nx⟩, fun _ => ⟨474, by decide, lcs_4 H H' S (by omega) hu nx⟩, fun _ => ⟨542, by decide, lcs_5 H H' S (by omega) hu nx⟩, fun _ => ⟨610, by decide, lcs_6 H H' S (by omega) hu nx⟩, fun _ => ⟨678, by decide, lcs_7 H H' S (by omega) hu nx⟩, fun _ => ⟨722, by decide, lcs_8 H H' S (by omega) hu nx⟩, fun _ => ⟨735, by decide, lcs_9 H H' S (by omega) hu nx⟩, fun _ => ⟨803, by decide, lcs_10 H H' S (by omega) hu nx⟩, fun _ => ⟨871, by decide, lcs_11 H H' S (by omega) hu nx⟩, fun _ => ⟨967, by decide, lcs_12 H H' S (by omega) hu nx⟩, fun _ => ⟨1035, by decide, lcs_13 H H' S (by omega) hu nx⟩, fun _ => ⟨1131, by decide, lcs_14 H H' S (by omega) hu nx⟩, fun _ => ⟨1215, by decide, lcs_15 H H' S (by omega) hu nx⟩, fun _ => ⟨1278, by decide, lcs_16 H H' S (by omega) hu nx⟩, fun _ => ⟨1346, by decide, lcs_17 H H' S (by omega) hu nx⟩, fun _ => ⟨1418, by decide, lcs_18 H H' S (by omega) hu nx⟩, fun _ => ⟨1474, by decide, lcs_19 H H' S (by omega) hu nx⟩, fun _ => ⟨1515, by decide, lcs_20 H H' S (by omega) hu nx⟩, fun _ => ⟨1571, by decide, lcs_21 H H' S (by omega) hu nx⟩, fun _ => ⟨1627, by decide, lcs_22 H H' S (by omega) hu nx⟩, fun _ => ⟨1683, by decide, lcs_23 H H' S (by omega) hu nx⟩, fun _ => ⟨1739, by decide, lcs_24 H H' S (by omega) hu nx⟩, fun _ => ⟨1795, by decide, lcs_25 H H' S (by omega) hu nx⟩, fun _ => ⟨1851, by decide, lcs_26 H H' S (by omega) hu nx⟩, fun _ => ⟨1907, by decide, lcs_27 H H' S (by omega) hu nx⟩, fun _ => ⟨1965, by decide, lcs_28 H H' S (by omega) hu nx⟩, fun _ => ⟨2009, by decide, lcs_29 H H' S (by omega) hu nx⟩, fun _ => ⟨2022, by decide, lcs_30 H H' S (by omega) hu nx⟩, fun _ => ⟨2122, by decide, lcs_31 H H' S (by omega) hu nx⟩, fun _ => ⟨2178, by decide, lcs_32 H H' S (by omega) hu nx⟩, fun _ => ⟨2191, by decide, lcs_33 H H' S (by omega) hu nx⟩, fun _ => ⟨2256, by decide, lcs_34 H H' S (by omega) hu nx⟩, fun _ => ⟨2322, by decide, lcs_35 H H' S (by omega) hu nx⟩, fun _ => ⟨2366, by decide, lcs_36 H H' S (by omega) hu nx⟩, fun _ => ⟨2379, by decide, lcs_37 H H' S (by omega) hu nx⟩, trivial⟩
end LD
