/-! the reference's row, changed -/
/-- a memory that holds a value -/
def mO (A : SP) : Mem := fun t _ i => if t = 0 then (if i = 0 then nI (sH A) else if i = 1 then nI (sS A) else if i = 2 then nI (sR A) else sC A (i - 3)) else if t = 1 then nI (sCn A i) else if t = 2 then nI (sSh A i) else if t = 3 then sFp A i else if t = 4 then nI (sOw A i) else if t = 5 then nI (sLn A i) else if t = 6 then nI (sRt A (i / 8) (i % 8)) else if t = 7 then nI (sPl A (i / 8) (i % 8)) else if t = 8 then nI (sLv A (i / 8) (i % 8)) else if t = 9 then nI (sKi A i) else nI (sTa A i)
theorem mO_RC {A : SP} (W : WF A) : RC (mO A) 0 A := by
  refine ⟨W, ⟨rfl, rfl, rfl, fun k hk => ?_⟩, fun h hh => ⟨rfl, rfl, rfl⟩, fun s hs => ⟨rfl, rfl, fun k hk => ?_⟩, fun r hr => ⟨rfl, rfl⟩⟩
  · show (if 3 + k = 0 then _ else if 3 + k = 1 then _ else if 3 + k = 2 then _ else sC A (3 + k - 3)) = _
    rw [if_neg (by omega), if_neg (by omega), if_neg (by omega), Nat.add_sub_cancel_left]
  · have w := W.ln hs
    show nI (sRt A ((s * 8 + k) / 8) ((s * 8 + k) % 8)) = _ ∧ nI (sPl A ((s * 8 + k) / 8) ((s * 8 + k) % 8)) = _ ∧ nI (sLv A ((s * 8 + k) / 8) ((s * 8 + k) % 8)) = _
    rw [show (s * 8 + k) / 8 = s by omega, show (s * 8 + k) % 8 = k by omega]
    exact ⟨rfl, rfl, rfl⟩
section RD
variable {g g' : Nat → Int32} {A : SP} {s k h v : Nat}
theorem W_cn (W : WF A) (hh : h < sH A) (hv : v ≤ 99) : WF (oCn A h v) := (RC_cn (mO_RC W) hh hv).W
theorem W_sh (W : WF A) (hh : h < sH A) (hv : v ≤ 99) : WF (oSh A h v) := (RC_sh (mO_RC W) hh hv).W
theorem W_lv (W : WF A) (hs : s < sS A) (hk : k < sLn A s) (hv : v ≤ 3) (h0 : v = 0 ↔ sPl A s k = sRt A s k) : WF (oLv A s k v) := (RC_lv (mO_RC W) hs hk hv h0).W
theorem W_put (W : WF A) (hs : s < sS A) (hk : k < sLn A s) (hv : 1 ≤ v ∧ v ≤ 6) : WF (oPut A s k v) := (RC_put (mO_RC W) hs hk hv).W
theorem W_addH {c : Nat} (W : WF A) (hH : sH A < 4) (hc : c ≤ 99) : WF (oAddH A c) := by
  obtain ⟨_, _, R, _⟩ := c_appendHouse (by decide) (mO_RC W) hH hc
  exact R.W
theorem W_addR {x y : Nat} (W : WF A) (hR : sR A < 5) (hx : x ≤ 1) (hy : 1 ≤ y ∧ y ≤ 6) : WF (oAddR A x y) := by
  obtain ⟨_, _, R, _⟩ := c_appendReader (by decide) (mO_RC W) hR hx hy
  exact R.W
theorem W_addS {X n : Nat} (W : WF A) (hh : h < sH A) (hS : sS A < 8) (hW : X < 2 ^ 31) (hn : 3 ≤ n ∧ n ≤ 8) (hd : ∀ m, m < n → 1 ≤ X / 10 ^ m % 10 ∧ X / 10 ^ m % 10 ≤ 6) : WF (oAddS A h n (dg X n)) := by
  obtain ⟨_, _, R, _⟩ := c_appendSheet (by decide) (mO_RC W) hh hS hW hn hd
  exact R.W
theorem W_take (W : WF A) (hs : s < sS A) : WF (oTake A s) := by
  obtain ⟨_, _, R, _⟩ := c_removeSheet (by decide) (mO_RC W) hs
  exact R.W
theorem RM_cn (G : RM g A) (hh : h < sH A) (hv : v ≤ 99) (u : ∀ j, j ≠ 10 + 3 * h → g' j = g j) (x : g' (10 + 3 * h) = nI v) : RM g' (oCn A h v) := by
  have w := G.W.hm
  have w2 := G.W.sm
  have w3 := G.W.rm
  refine ⟨W_cn G.W hh hv, ⟨by rw [u _ (by omega)]; exact G.H, by rw [u _ (by omega)]; exact G.S, by rw [u _ (by omega)]; exact G.R, fun k hk => by rw [u _ (by omega)]; exact G.C hk, by rw [u _ (by omega)]; exact G.F⟩, fun i hi => ?_, fun s hs => ?_, fun r hr => ?_⟩
  · have hi' : i < sH A := hi
    show _ = nI (va_up (sCn A) h v i) ∧ _ = nI (sSh A i) ∧ _ = sFp A i
    rw [vget, u (10 + 3 * i + 1) (by omega), u (10 + 3 * i + 2) (by omega)]
    refine ⟨?_, G.sh hi', G.fp hi'⟩
    by_cases e : i = h
    · rw [if_pos e, e]
      exact x
    · rw [if_neg e, u _ (by omega)]
      exact G.cn hi'
  · have hs' : s < sS A := hs
    exact ⟨by rw [u _ (by omega)]; exact G.ow hs', by rw [u _ (by omega)]; exact G.ln hs', fun k hk => ⟨by rw [u _ (by omega)]; exact G.rt8 hs' hk, by rw [u _ (by omega)]; exact G.pl8 hs' hk, by rw [u _ (by omega)]; exact G.lv8 hs' hk⟩⟩
  · have hr' : r < sR A := hr
    exact ⟨by rw [u _ (by omega)]; exact G.ki hr', by rw [u _ (by omega)]; exact G.ta hr'⟩
theorem RM_sh (G : RM g A) (hh : h < sH A) (hv : v ≤ 99) (u : ∀ j, j ≠ 10 + 3 * h + 1 → g' j = g j) (x : g' (10 + 3 * h + 1) = nI v) : RM g' (oSh A h v) := by
  have w := G.W.hm
  have w2 := G.W.sm
  have w3 := G.W.rm
  refine ⟨W_sh G.W hh hv, ⟨by rw [u _ (by omega)]; exact G.H, by rw [u _ (by omega)]; exact G.S, by rw [u _ (by omega)]; exact G.R, fun k hk => by rw [u _ (by omega)]; exact G.C hk, by rw [u _ (by omega)]; exact G.F⟩, fun i hi => ?_, fun s hs => ?_, fun r hr => ?_⟩
  · have hi' : i < sH A := hi
    show _ = nI (sCn A i) ∧ _ = nI (va_up (sSh A) h v i) ∧ _ = sFp A i
    rw [vget, u (10 + 3 * i) (by omega), u (10 + 3 * i + 2) (by omega)]
    refine ⟨G.cn hi', ?_, G.fp hi'⟩
    by_cases e : i = h
    · rw [if_pos e, e]
      exact x
    · rw [if_neg e, u _ (by omega)]
      exact G.sh hi'
  · have hs' : s < sS A := hs
    exact ⟨by rw [u _ (by omega)]; exact G.ow hs', by rw [u _ (by omega)]; exact G.ln hs', fun k hk => ⟨by rw [u _ (by omega)]; exact G.rt8 hs' hk, by rw [u _ (by omega)]; exact G.pl8 hs' hk, by rw [u _ (by omega)]; exact G.lv8 hs' hk⟩⟩
  · have hr' : r < sR A := hr
    exact ⟨by rw [u _ (by omega)]; exact G.ki hr', by rw [u _ (by omega)]; exact G.ta hr'⟩
theorem si_no {f : Nat → Int32} {h : Nat} {v : Int32} : ∀ n, n ≤ h → si (va_up f h v) n = si f n
  | 0, _ => rfl
  | n + 1, q => by rw [si, si, si_no n (by omega), vget, if_neg (by omega)]
theorem si_up {f : Nat → Int32} {h : Nat} {v : Int32} : ∀ n, h < n → si (va_up f h (f h + v)) n = si f n + v
  | 0, q => by omega
  | n + 1, q => by
    rw [si, si, vget]
    by_cases c : n = h
    · rw [if_pos c, si_no n (by omega), c, Int32.add_assoc]
    · rw [if_neg c, si_up n (by omega), Int32.add_assoc, Int32.add_comm v, Int32.add_assoc]
theorem RM_fp {v : Int32} (G : RM g A) (hh : h < sH A) (u : ∀ j, j ≠ 10 + 3 * h + 2 → j ≠ 8 → g' j = g j) (x : g' (10 + 3 * h + 2) = sFp A h + v) (y : g' 8 = g 8 + v) : RM g' (oFp A h (sFp A h + v)) := by
  have w := G.W.hm
  have w2 := G.W.sm
  have w3 := G.W.rm
  refine ⟨G.W, ⟨by rw [u _ (by omega) (by omega)]; exact G.H, by rw [u _ (by omega) (by omega)]; exact G.S, by rw [u _ (by omega) (by omega)]; exact G.R, fun k hk => by rw [u _ (by omega) (by omega)]; exact G.C hk, ?_⟩, fun i hi => ?_, fun s hs => ?_, fun r hr => ?_⟩
  · rw [y, G.F]
    exact (si_up _ hh).symm
  · have hi' : i < sH A := hi
    show _ = nI (sCn A i) ∧ _ = nI (sSh A i) ∧ _ = va_up (sFp A) h (sFp A h + v) i
    rw [vget, u (10 + 3 * i) (by omega) (by omega), u (10 + 3 * i + 1) (by omega) (by omega)]
    refine ⟨G.cn hi', G.sh hi', ?_⟩
    by_cases e : i = h
    · rw [if_pos e, e]
      exact x
    · rw [if_neg e, u _ (by omega) (by omega)]
      exact G.fp hi'
  · have hs' : s < sS A := hs
    exact ⟨by rw [u _ (by omega) (by omega)]; exact G.ow hs', by rw [u _ (by omega) (by omega)]; exact G.ln hs', fun k hk => ⟨by rw [u _ (by omega) (by omega)]; exact G.rt8 hs' hk, by rw [u _ (by omega) (by omega)]; exact G.pl8 hs' hk, by rw [u _ (by omega) (by omega)]; exact G.lv8 hs' hk⟩⟩
  · have hr' : r < sR A := hr
    exact ⟨by rw [u _ (by omega) (by omega)]; exact G.ki hr', by rw [u _ (by omega) (by omega)]; exact G.ta hr'⟩
theorem RM_C {v : Int32} (G : RM g A) (hk : k < 5) (u : ∀ j, j ≠ 3 + k → g' j = g j) (x : g' (3 + k) = v) : RM g' (oC A k v) := by
  have w := G.W.hm
  have w2 := G.W.sm
  have w3 := G.W.rm
  refine ⟨G.W, ⟨by rw [u _ (by omega)]; exact G.H, by rw [u _ (by omega)]; exact G.S, by rw [u _ (by omega)]; exact G.R, fun i hi => ?_, by rw [u _ (by omega)]; exact G.F⟩, fun i hi => ?_, fun s hs => ?_, fun r hr => ?_⟩
  · show _ = va_up (sC A) k v i
    rw [vget]
    by_cases e : i = k
    · rw [if_pos e, e]
      exact x
    · rw [if_neg e, u _ (by omega)]
      exact G.C hi
  · have hi' : i < sH A := hi
    exact ⟨by rw [u _ (by omega)]; exact G.cn hi', by rw [u _ (by omega)]; exact G.sh hi', by rw [u _ (by omega)]; exact G.fp hi'⟩
  · have hs' : s < sS A := hs
    exact ⟨by rw [u _ (by omega)]; exact G.ow hs', by rw [u _ (by omega)]; exact G.ln hs', fun k hk => ⟨by rw [u _ (by omega)]; exact G.rt8 hs' hk, by rw [u _ (by omega)]; exact G.pl8 hs' hk, by rw [u _ (by omega)]; exact G.lv8 hs' hk⟩⟩
  · have hr' : r < sR A := hr
    exact ⟨by rw [u _ (by omega)]; exact G.ki hr', by rw [u _ (by omega)]; exact G.ta hr'⟩
theorem RM_lv (G : RM g A) (hs : s < sS A) (hk : k < sLn A s) (hv : v ≤ 3) (h0 : v = 0 ↔ sPl A s k = sRt A s k) (u : ∀ j, j ≠ 22 + 26 * s + (18 + k) → g' j = g j) (x : g' (22 + 26 * s + (18 + k)) = nI v) : RM g' (oLv A s k v) := by
  have w := G.W.hm
  have w2 := G.W.sm
  have w3 := G.W.rm
  have wl := G.W.ln hs
  refine ⟨W_lv G.W hs hk hv h0, ⟨by rw [u _ (by omega)]; exact G.H, by rw [u _ (by omega)]; exact G.S, by rw [u _ (by omega)]; exact G.R, fun k hk => by rw [u _ (by omega)]; exact G.C hk, by rw [u _ (by omega)]; exact G.F⟩, fun i hi => ?_, fun a ha => ?_, fun r hr => ?_⟩
  · have hi' : i < sH A := hi
    exact ⟨by rw [u _ (by omega)]; exact G.cn hi', by rw [u _ (by omega)]; exact G.sh hi', by rw [u _ (by omega)]; exact G.fp hi'⟩
  · have ha' : a < sS A := ha
    refine ⟨by rw [u _ (by omega)]; exact G.ow ha', by rw [u _ (by omega)]; exact G.ln ha', fun b hb => ⟨by rw [u _ (by omega)]; exact G.rt8 ha' hb, by rw [u _ (by omega)]; exact G.pl8 ha' hb, ?_⟩⟩
    show _ = nI (if b < sLn A a then up2 (sLv A) s k v a b else 0)
    unfold up2
    by_cases e : a = s ∧ b = k
    · rw [if_pos e, e.1, e.2, if_pos hk]
      exact x
    · rw [if_neg e, u _ (by omega)]
      exact G.lv8 ha' hb
  · have hr' : r < sR A := hr
    exact ⟨by rw [u _ (by omega)]; exact G.ki hr', by rw [u _ (by omega)]; exact G.ta hr'⟩
theorem RM_put (G : RM g A) (hs : s < sS A) (hk : k < sLn A s) (hv : 1 ≤ v ∧ v ≤ 6) (u : ∀ j, j ≠ 22 + 26 * s + (10 + k) → j ≠ 22 + 26 * s + (18 + k) → g' j = g j) (x : g' (22 + 26 * s + (10 + k)) = nI v) (y : g' (22 + 26 * s + (18 + k)) = nI (if v = sRt A s k then 0 else 1)) : RM g' (oPut A s k v) := by
  have w := G.W.hm
  have w2 := G.W.sm
  have w3 := G.W.rm
  have wl := G.W.ln hs
  refine ⟨W_put G.W hs hk hv, ⟨by rw [u _ (by omega) (by omega)]; exact G.H, by rw [u _ (by omega) (by omega)]; exact G.S, by rw [u _ (by omega) (by omega)]; exact G.R, fun k hk => by rw [u _ (by omega) (by omega)]; exact G.C hk, by rw [u _ (by omega) (by omega)]; exact G.F⟩, fun i hi => ?_, fun a ha => ?_, fun r hr => ?_⟩
  · have hi' : i < sH A := hi
    exact ⟨by rw [u _ (by omega) (by omega)]; exact G.cn hi', by rw [u _ (by omega) (by omega)]; exact G.sh hi', by rw [u _ (by omega) (by omega)]; exact G.fp hi'⟩
  · have ha' : a < sS A := ha
    refine ⟨by rw [u _ (by omega) (by omega)]; exact G.ow ha', by rw [u _ (by omega) (by omega)]; exact G.ln ha', fun b hb => ⟨by rw [u _ (by omega) (by omega)]; exact G.rt8 ha' hb, ?_⟩⟩
    show _ = nI (if b < sLn A a then up2 (sPl A) s k v a b else 0) ∧ _ = nI (if b < sLn A a then up2 (sLv A) s k _ a b else 0)
    unfold up2
    by_cases e : a = s ∧ b = k
    · rw [if_pos e, if_pos e, e.1, e.2, if_pos hk, if_pos hk]
      exact ⟨x, y⟩
    · rw [if_neg e, if_neg e, u _ (by omega) (by omega), u _ (by omega) (by omega)]
      exact ⟨G.pl8 ha' hb, G.lv8 ha' hb⟩
  · have hr' : r < sR A := hr
    exact ⟨by rw [u _ (by omega) (by omega)]; exact G.ki hr', by rw [u _ (by omega) (by omega)]; exact G.ta hr'⟩
theorem RM_addH {c : Nat} (G : RM g A) (hH : sH A < 4) (hc : c ≤ 99) (u : ∀ j, j ≠ 0 → j ≠ 10 + 3 * sH A → j ≠ 10 + 3 * sH A + 1 → j ≠ 10 + 3 * sH A + 2 → g' j = g j) (x0 : g' 0 = nI (sH A + 1)) (x1 : g' (10 + 3 * sH A) = nI c) (x2 : g' (10 + 3 * sH A + 1) = 0) (x3 : g' (10 + 3 * sH A + 2) = 0) : RM g' (oAddH A c) := by
  have w2 := G.W.sm
  have w3 := G.W.rm
  refine ⟨W_addH G.W hH hc, ⟨x0, by rw [u _ (by omega) (by omega) (by omega) (by omega)]; exact G.S, by rw [u _ (by omega) (by omega) (by omega) (by omega)]; exact G.R, fun k hk => by rw [u _ (by omega) (by omega) (by omega) (by omega)]; exact G.C hk, ?_⟩, fun i hi => ?_, fun s hs => ?_, fun r hr => ?_⟩
  · show _ = si (va_up (sFp A) (sH A) 0) (sH A + 1)
    rw [si, si_no _ (Nat.le_refl _), vget, if_pos rfl, Int32.add_zero, u _ (by omega) (by omega) (by omega) (by omega)]
    exact G.F
  · have hi' : i < sH A + 1 := hi
    show _ = nI (va_up (sCn A) (sH A) c i) ∧ _ = nI (va_up (sSh A) (sH A) 0 i) ∧ _ = va_up (sFp A) (sH A) 0 i
    rw [vget, vget, vget]
    by_cases e : i = sH A
    · rw [if_pos e, if_pos e, if_pos e, e]
      exact ⟨x1, x2, x3⟩
    · rw [if_neg e, if_neg e, if_neg e, u _ (by omega) (by omega) (by omega) (by omega), u _ (by omega) (by omega) (by omega) (by omega), u _ (by omega) (by omega) (by omega) (by omega)]
      exact ⟨G.cn (by omega), G.sh (by omega), G.fp (by omega)⟩
  · have hs' : s < sS A := hs
    exact ⟨by rw [u _ (by omega) (by omega) (by omega) (by omega)]; exact G.ow hs', by rw [u _ (by omega) (by omega) (by omega) (by omega)]; exact G.ln hs', fun k hk => ⟨by rw [u _ (by omega) (by omega) (by omega) (by omega)]; exact G.rt8 hs' hk, by rw [u _ (by omega) (by omega) (by omega) (by omega)]; exact G.pl8 hs' hk, by rw [u _ (by omega) (by omega) (by omega) (by omega)]; exact G.lv8 hs' hk⟩⟩
  · have hr' : r < sR A := hr
    exact ⟨by rw [u _ (by omega) (by omega) (by omega) (by omega)]; exact G.ki hr', by rw [u _ (by omega) (by omega) (by omega) (by omega)]; exact G.ta hr'⟩
theorem RM_addR {x y : Nat} (G : RM g A) (hR : sR A < 5) (hx : x ≤ 1) (hy : 1 ≤ y ∧ y ≤ 6) (u : ∀ j, j ≠ 2 → j ≠ 230 + 2 * sR A → j ≠ 230 + 2 * sR A + 1 → g' j = g j) (x0 : g' 2 = nI (sR A + 1)) (x1 : g' (230 + 2 * sR A) = nI x) (x2 : g' (230 + 2 * sR A + 1) = nI y) : RM g' (oAddR A x y) := by
  have w := G.W.hm
  have w2 := G.W.sm
  refine ⟨W_addR G.W hR hx hy, ⟨by rw [u _ (by omega) (by omega) (by omega)]; exact G.H, by rw [u _ (by omega) (by omega) (by omega)]; exact G.S, x0, fun k hk => by rw [u _ (by omega) (by omega) (by omega)]; exact G.C hk, by rw [u _ (by omega) (by omega) (by omega)]; exact G.F⟩, fun i hi => ?_, fun s hs => ?_, fun r hr => ?_⟩
  · have hi' : i < sH A := hi
    exact ⟨by rw [u _ (by omega) (by omega) (by omega)]; exact G.cn hi', by rw [u _ (by omega) (by omega) (by omega)]; exact G.sh hi', by rw [u _ (by omega) (by omega) (by omega)]; exact G.fp hi'⟩
  · have hs' : s < sS A := hs
    exact ⟨by rw [u _ (by omega) (by omega) (by omega)]; exact G.ow hs', by rw [u _ (by omega) (by omega) (by omega)]; exact G.ln hs', fun k hk => ⟨by rw [u _ (by omega) (by omega) (by omega)]; exact G.rt8 hs' hk, by rw [u _ (by omega) (by omega) (by omega)]; exact G.pl8 hs' hk, by rw [u _ (by omega) (by omega) (by omega)]; exact G.lv8 hs' hk⟩⟩
  · have hr' : r < sR A + 1 := hr
    show _ = nI (va_up (sKi A) (sR A) x r) ∧ _ = nI (va_up (sTa A) (sR A) y r)
    rw [vget, vget]
    by_cases e : r = sR A
    · rw [if_pos e, if_pos e, e]
      exact ⟨x1, x2⟩
    · rw [if_neg e, if_neg e, u _ (by omega) (by omega) (by omega), u _ (by omega) (by omega) (by omega)]
      exact ⟨G.ki (by omega), G.ta (by omega)⟩
theorem RM_addS {X n : Nat} (G : RM g A) (hh : h < sH A) (hS : sS A < 8) (hW : X < 2 ^ 31) (hn : 3 ≤ n ∧ n ≤ 8) (hd : ∀ m, m < n → 1 ≤ X / 10 ^ m % 10 ∧ X / 10 ^ m % 10 ≤ 6) (u : ∀ j, j ≠ 1 → (j < 22 + 26 * sS A ∨ 22 + 26 * sS A + 26 ≤ j) → g' j = g j) (x0 : g' 1 = nI (sS A + 1)) (x1 : g' (22 + 26 * sS A) = nI h) (x2 : g' (22 + 26 * sS A + 1) = nI n) (x3 : ∀ k, k < 8 → g' (22 + 26 * sS A + (2 + k)) = nI (if k < n then dg X n k else 0) ∧ g' (22 + 26 * sS A + (10 + k)) = nI (if k < n then dg X n k else 0) ∧ g' (22 + 26 * sS A + (18 + k)) = nI 0) : RM g' (oAddS A h n (dg X n)) := by
  have w := G.W.hm
  have w3 := G.W.rm
  refine ⟨W_addS G.W hh hS hW hn hd, ⟨by rw [u _ (by omega) (by omega)]; exact G.H, x0, by rw [u _ (by omega) (by omega)]; exact G.R, fun k hk => by rw [u _ (by omega) (by omega)]; exact G.C hk, by rw [u _ (by omega) (by omega)]; exact G.F⟩, fun i hi => ?_, fun s hs => ?_, fun r hr => ?_⟩
  · have hi' : i < sH A := hi
    exact ⟨by rw [u _ (by omega) (by omega)]; exact G.cn hi', by rw [u _ (by omega) (by omega)]; exact G.sh hi', by rw [u _ (by omega) (by omega)]; exact G.fp hi'⟩
  · have hs' : s < sS A + 1 := hs
    show _ = nI (va_up (sOw A) (sS A) h s) ∧ _ = nI (va_up (sLn A) (sS A) n s) ∧ ∀ k, k < 8 → _ = nI (if k < va_up (sLn A) (sS A) n s then va_up (sRt A) (sS A) (dg X n) s k else 0) ∧ _ = nI (if k < va_up (sLn A) (sS A) n s then va_up (sPl A) (sS A) (dg X n) s k else 0) ∧ _ = nI (if k < va_up (sLn A) (sS A) n s then va_up (sLv A) (sS A) (fun _ => 0) s k else 0)
    simp only [vget]
    by_cases e : s = sS A
    · simp only [if_pos e]
      rw [e]
      refine ⟨x1, x2, fun k hk => ⟨(x3 k hk).1, (x3 k hk).2.1, ?_⟩⟩
      rw [(x3 k hk).2.2]
      split <;> rfl
    · simp only [if_neg e]
      have hs2 : s < sS A := by omega
      exact ⟨by rw [u _ (by omega) (by omega)]; exact G.ow hs2, by rw [u _ (by omega) (by omega)]; exact G.ln hs2, fun k hk => ⟨by rw [u _ (by omega) (by omega)]; exact G.rt8 hs2 hk, by rw [u _ (by omega) (by omega)]; exact G.pl8 hs2 hk, by rw [u _ (by omega) (by omega)]; exact G.lv8 hs2 hk⟩⟩
  · have hr' : r < sR A := hr
    exact ⟨by rw [u _ (by omega) (by omega)]; exact G.ki hr', by rw [u _ (by omega) (by omega)]; exact G.ta hr'⟩
theorem RM_take (G : RM g A) (hs : s < sS A) (u : ∀ j, j ≠ 1 → (j < 22 + 26 * s ∨ 22 + 26 * sS A ≤ j) → g' j = g j) (x0 : g' 1 = nI (sS A - 1)) (x1 : ∀ j, 22 + 26 * s ≤ j → j < 22 + 26 * (sS A - 1) → g' j = g (j + 26)) : RM g' (oTake A s) := by
  have w := G.W.hm
  have w2 := G.W.sm
  have w3 := G.W.rm
  refine ⟨W_take G.W hs, ⟨by rw [u _ (by omega) (by omega)]; exact G.H, x0, by rw [u _ (by omega) (by omega)]; exact G.R, fun k hk => by rw [u _ (by omega) (by omega)]; exact G.C hk, by rw [u _ (by omega) (by omega)]; exact G.F⟩, fun i hi => ?_, fun a ha => ?_, fun r hr => ?_⟩
  · have hi' : i < sH A := hi
    exact ⟨by rw [u _ (by omega) (by omega)]; exact G.cn hi', by rw [u _ (by omega) (by omega)]; exact G.sh hi', by rw [u _ (by omega) (by omega)]; exact G.fp hi'⟩
  · have ha' : a < sS A - 1 := ha
    show _ = nI (skip (sOw A) s a) ∧ _ = nI (skip (sLn A) s a) ∧ ∀ k, k < 8 → _ = nI (if k < skip (sLn A) s a then skip (sRt A) s a k else 0) ∧ _ = nI (if k < skip (sLn A) s a then skip (sPl A) s a k else 0) ∧ _ = nI (if k < skip (sLn A) s a then skip (sLv A) s a k else 0)
    simp only [skip]
    by_cases c : a < s
    · simp only [if_pos c]
      have h2 : a < sS A := by omega
      exact ⟨by rw [u _ (by omega) (by omega)]; exact G.ow h2, by rw [u _ (by omega) (by omega)]; exact G.ln h2, fun k hk => ⟨by rw [u _ (by omega) (by omega)]; exact G.rt8 h2 hk, by rw [u _ (by omega) (by omega)]; exact G.pl8 h2 hk, by rw [u _ (by omega) (by omega)]; exact G.lv8 h2 hk⟩⟩
    · simp only [if_neg c]
      have h2 : a + 1 < sS A := by omega
      have y : ∀ i, i < 26 → g' (22 + 26 * a + i) = g (22 + 26 * (a + 1) + i) := fun i hi => by
        rw [x1 _ (by omega) (by omega), show 22 + 26 * a + i + 26 = 22 + 26 * (a + 1) + i by omega]
      exact ⟨by rw [← Nat.add_zero (22 + 26 * a), y 0 (by omega)]; exact G.ow h2, by rw [y 1 (by omega)]; exact G.ln h2, fun k hk => ⟨by rw [y _ (by omega)]; exact G.rt8 h2 hk, by rw [y _ (by omega)]; exact G.pl8 h2 hk, by rw [y _ (by omega)]; exact G.lv8 h2 hk⟩⟩
  · have hr' : r < sR A := hr
    exact ⟨by rw [u _ (by omega) (by omega)]; exact G.ki hr', by rw [u _ (by omega) (by omega)]; exact G.ta hr'⟩
end RD
