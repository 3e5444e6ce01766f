/-! more of what is told -/
def sHo (A : SP) (h w : Nat) : Int32 := if w = 0 then nI (sCn A h) else if w = 1 then nI (sSh A h) else if w = 2 then nI (sShe A h) else if w = 3 then nI (sCntH A h 1) else if w = 4 then nI (sCntH A h 2) else if w = 5 then nI (sCost A h) else sFp A h
def sSo (A : SP) (s w : Nat) : Int32 := if w = 0 then nI (sOw A s) else if w = 1 then nI (sLn A s) else if w = 2 then nI (sCnt A s 1) else if w = 3 then nI (sCnt A s 2) else if w = 4 then nI (sCnt A s 3) else nI (sBadS A s)
def sAc (A : SP) (w : Nat) : Int32 := if w = 0 then nI (sH A) else if w = 1 then nI (sS A) else if w = 2 then nI (sR A) else if w = 3 then sC A 0 else if w = 4 then sC A 1 else if w = 5 then nI (sCntA A 1) else if w = 6 then nI (sCntA A 2) else if w = 7 then nI (sCntA A 3) else if w = 8 then sC A 2 else if w = 9 then sC A 3 else if w = 10 then sC A 4 else if w = 11 then si (sFp A) (sH A) else nI (sm (sCn A) (sH A))
theorem tI {n : Nat} {i : Int} (h : (nI n).toInt = i) (hn : n < 2 ^ 31) : (n : Int) = i := by rw [nI_toInt hn] at h; exact h
def sLb (A : SP) (r s k : Nat) : Bool := if sKi A r = 0 then decide (sPl A s k = sTa A r) else decide (sTa A r ≤ sBad A s k)
def sMask (A : SP) (s k : Nat) : Nat := if sBad A s k = 0 then 0 else sm (fun r => if sLb A r s k then 2 ^ r else 0) (sR A)
def sLg (A : SP) (s k : Nat) : Nat := sm (fun r => if sLb A r s k then 1 else 0) (sR A)
def pop (m : Nat) : Nat := m % 2 + m / 2 % 2 + m / 4 % 2 + m / 8 % 2 + m / 16 % 2
theorem or_bit : ∀ r, r < 5 → ∀ m, m < 2 ^ r → (nI m ||| (nI 1 <<< (nI r &&& 31))) = nI (m + 2 ^ r) := by decide +kernel
theorem sm_bits (p : Nat → Bool) : ∀ n, n ≤ 5 → sm (fun r => if p r then 2 ^ r else 0) n < 2 ^ n := by
  intro n hn
  induction n with
  | zero => exact Nat.zero_lt_one
  | succ n ih =>
    have := ih (by omega)
    rw [sm, Nat.pow_succ]
    split <;> omega
theorem pop_sm (p : Nat → Bool) : ∀ n, n ≤ 5 → pop (sm (fun r => if p r then 2 ^ r else 0) n) = sm (fun r => if p r then 1 else 0) n := by
  intro n hn
  rcases (show n = 0 ∨ n = 1 ∨ n = 2 ∨ n = 3 ∨ n = 4 ∨ n = 5 by omega) with rfl | rfl | rfl | rfl | rfl | rfl <;>
    (simp only [sm]
     cases p 0 <;> cases p 1 <;> cases p 2 <;> cases p 3 <;> cases p 4 <;> rfl)
def bc1 (a : Int32) : Int32 := a - ((a.toUInt32 >>> ((1 : Int32).toUInt32 &&& Int32.toUInt32 31)).toInt32 &&& 1431655765)
def bc2 (a : Int32) : Int32 := (a &&& 858993459) + ((a.toUInt32 >>> ((2 : Int32).toUInt32 &&& Int32.toUInt32 31)).toInt32 &&& 858993459)
def bc3 (a : Int32) : Int32 := (a + (a.toUInt32 >>> ((4 : Int32).toUInt32 &&& Int32.toUInt32 31)).toInt32) &&& 252645135
def bc4 (a : Int32) : Int32 := a + (a.toUInt32 >>> ((8 : Int32).toUInt32 &&& Int32.toUInt32 31)).toInt32
def bc5 (a : Int32) : Int32 := (a + (a.toUInt32 >>> ((16 : Int32).toUInt32 &&& Int32.toUInt32 31)).toInt32) &&& 63
theorem bc_ok : ∀ m, m < 32 → bc5 (bc4 (bc3 (bc2 (bc1 (nI m))))) = nI (pop m) := by decide +kernel
theorem c_bitCount {μ : Mem} {m : Nat} (hm : m < 32) : MetA M_J6_bitCount_0f7a4 [aI (nI m)] μ (rI (nI (pop m)) μ) := by
  refine MetA.of2 k_J6_bitCount_0f7a4 rfl (Nat.le_of_ble_eq_true rfl) rfl (B_J6_bitCount_0f7a4_0 ?_)
  exact rI_ok (bc_ok m hm) rfl
theorem sm_add (f g : Nat → Nat) : ∀ n, sm (fun k => f k + g k) n = sm f n + sm g n
  | 0 => rfl
  | n + 1 => by rw [sm, sm, sm, sm_add f g n]; omega
theorem sm_0 : ∀ n, sm (fun _ => 0) n = 0
  | 0 => rfl
  | n + 1 => by rw [sm, sm_0 n]
theorem sm_swap (f : Nat → Nat → Nat) (m : Nat) : ∀ n, sm (fun a => sm (fun b => f a b) m) n = sm (fun b => sm (fun a => f a b) n) m
  | 0 => by rw [sm]; exact (sm_0 m).symm
  | n + 1 => by
    rw [sm, sm_swap f m n, ← sm_add]
    rfl
/-- laughs at what is to be printed -/
def sWl (A : SP) : Nat := sm (fun s => sm (fun k => if sLv A s k = 2 then sLg A s k else 0) (sLn A s)) (sS A)
def sLo (A : SP) (r : Nat) : Nat := sm (fun s => sm (fun k => if sLv A s k = 2 ∧ sLb A r s k = true then 1 else 0) (sLn A s)) (sS A)
theorem sWl_sLo (A : SP) : sm (fun r => sLo A r) (sR A) = sWl A := by
  unfold sLo
  rw [sm_swap]
  unfold sWl
  apply sm_cong
  intro s hs
  rw [sm_swap]
  apply sm_cong
  intro k hk
  by_cases h : sLv A s k = 2
  · rw [if_pos h]
    unfold sLg
    apply sm_cong
    intro r hr
    cases sLb A r s k <;> simp [h]
  · rw [if_neg h]
    refine Eq.trans (sm_cong (g := fun _ => 0) fun r hr => ?_) (sm_0 (sR A))
    simp [h]
def sStc (A : SP) (h : Nat) : Nat := sm (fun s => if sOw A s = h then sm (fun k => if sLv A s k = 2 then sBad A s k else 0) (sLn A s) else 0) (sS A)
/-- how many letters are unlike -/
def sUn (A : SP) (s o : Nat) : Nat := (max (sLn A s) (sLn A o) - min (sLn A s) (sLn A o)) + sm (fun k => bi (sPl A s k ≠ sRt A o k)) (min (sLn A s) (sLn A o))
def sMa (A : SP) (a b : Nat) : Bool := if sSh A a ≠ sSh A b then decide (sSh A b < sSh A a) else if sCn A a ≠ sCn A b then decide (sCn A a < sCn A b) else decide (a < b)
def sRkH (A : SP) (h : Nat) : Nat := sm (fun o => if sMa A o h then 1 else 0) (sH A)
def sWo (A : SP) (a b : Nat) : Bool := if sBadS A a ≠ sBadS A b then decide (sBadS A b < sBadS A a) else if sCnt A a 1 ≠ sCnt A b 1 then decide (sCnt A b 1 < sCnt A a 1) else decide (a < b)
def sRkS (A : SP) (s : Nat) : Nat := sm (fun o => if sWo A o s then 1 else 0) (sS A)
theorem bI {b : Bool} {X Y : Prop} (h1 : b = false → X) (h2 : b = true → Y) : (nI (if b then 1 else 0) = 0 → X) ∧ (¬ nI (if b then 1 else 0) = 0 → Y) := by
  cases b
  · exact ⟨fun _ => h1 rfl, fun q => absurd rfl q⟩
  · exact ⟨fun q => absurd q (by decide), fun _ => h2 rfl⟩
theorem bIn {b : Bool} {X Y : Prop} (h1 : b = true → X) (h2 : b = false → Y) : (¬ nI (if b then 1 else 0) = 0 → X) ∧ (nI (if b then 1 else 0) = 0 → Y) := ⟨(bI h2 h1).2, (bI h2 h1).1⟩
theorem biI {c : Prop} [Decidable c] {X Y : Prop} (h1 : ¬ c → X) (h2 : c → Y) : (nI (bi c) = 0 → X) ∧ (¬ nI (bi c) = 0 → Y) := by
  by_cases h : c
  · rw [bi_t h]
    exact ⟨fun q => absurd q (by decide), fun _ => h2 h⟩
  · rw [bi_f h]
    exact ⟨fun _ => h1 h, fun q => absurd rfl q⟩
theorem biIn {c : Prop} [Decidable c] {X Y : Prop} (h1 : c → X) (h2 : ¬ c → Y) : (¬ nI (bi c) = 0 → X) ∧ (nI (bi c) = 0 → Y) := ⟨(biI h2 h1).2, (biI h2 h1).1⟩
theorem sCnt_le (A : SP) (s lv : Nat) : sCnt A s lv ≤ sLn A s := by
  have := sm_le (f := fun k => bi (lv ≤ sLv A s k)) (c := 1) (n := sLn A s) (fun k _ => by unfold bi; split <;> omega)
  unfold sCnt
  omega
theorem sCntH_le {A : SP} (W : WF A) (h lv : Nat) : sCntH A h lv ≤ 64 := by
  have := sm_le (f := fun s => if sOw A s = h then sCnt A s lv else 0) (c := 8) (n := sS A) (fun s hs => by
    have h1 := sCnt_le A s lv
    have h2 := W.ln hs
    show (if sOw A s = h then sCnt A s lv else 0) ≤ 8
    split <;> omega)
  have := W.sm
  unfold sCntH
  omega
theorem sCntA_le {A : SP} (W : WF A) (lv : Nat) : sCntA A lv ≤ 64 := by
  have := sm_le (f := fun s => sCnt A s lv) (c := 8) (n := sS A) (fun s hs => by
    have h1 := sCnt_le A s lv
    have h2 := W.ln hs
    show sCnt A s lv ≤ 8
    omega)
  have := W.sm
  unfold sCntA
  omega
theorem sBadS_le {A : SP} (W : WF A) {s : Nat} (hs : s < sS A) : sBadS A s ≤ 40 := by
  have := sm_le (f := fun k => sBad A s k) (c := 5) (n := sLn A s) (fun k hk => sBad_le W hs hk)
  have := W.ln hs
  unfold sBadS
  omega
theorem sFine_le {A : SP} (W : WF A) {s k : Nat} (hs : s < sS A) (hk : k < sLn A s) : sFine A s k ≤ 16 := by
  have := sBad_le W hs hk
  unfold sFine
  split
  · omega
  · split <;> split <;> omega
theorem sFines_le {A : SP} (W : WF A) {s : Nat} (hs : s < sS A) : sFines A s ≤ 128 := by
  have := sm_le (f := fun k => sFine A s k) (c := 16) (n := sLn A s) (fun k hk => sFine_le W hs hk)
  have := W.ln hs
  unfold sFines
  omega
theorem sMask_lt {A : SP} (W : WF A) (s k : Nat) : sMask A s k < 32 := by
  unfold sMask
  split
  · decide
  · have h1 := sm_bits (fun r => sLb A r s k) (sR A) W.rm
    have h2 : 2 ^ sR A ≤ 2 ^ 5 := Nat.pow_le_pow_right (by decide) W.rm
    exact Nat.lt_of_lt_of_le h1 h2
theorem pop_sMask {A : SP} (W : WF A) {s k : Nat} (hb : ¬ sBad A s k = 0) : pop (sMask A s k) = sLg A s k := by
  unfold sMask sLg
  rw [if_neg hb]
  exact pop_sm (fun r => sLb A r s k) (sR A) W.rm
