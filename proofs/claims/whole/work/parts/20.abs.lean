/-! numbers -/
theorem n0 : (0 : Int32) = nI 0 := rfl
theorem n1 : (1 : Int32) = nI 1 := rfl
theorem n2 : (2 : Int32) = nI 2 := rfl
theorem n3 : (3 : Int32) = nI 3 := rfl
theorem n4 : (4 : Int32) = nI 4 := rfl
theorem n5 : (5 : Int32) = nI 5 := rfl
theorem n6 : (6 : Int32) = nI 6 := rfl
theorem n7 : (7 : Int32) = nI 7 := rfl
theorem n8 : (8 : Int32) = nI 8 := rfl
theorem n9 : (9 : Int32) = nI 9 := rfl
theorem n10 : (10 : Int32) = nI 10 := rfl
theorem n20 : (20 : Int32) = nI 20 := rfl
theorem n99 : (99 : Int32) = nI 99 := rfl
theorem nm1 : (-1 : Int32) = -nI 1 := rfl
theorem nI_eqI {a b : Nat} (ha : a < 2 ^ 31) (hb : b < 2 ^ 31) : (nI a = nI b) = (a = b) := propext (nI_eq ha hb)
theorem vp_nI {x n : Nat} (h : x < n) (hn : n < 2 ^ 31) : vp_in (nI x) n = True := eq_true (vp_in_nI h hn)
theorem nI_addneg {a b : Nat} (h : b ≤ a) : nI a + -nI b = nI (a - b) := by
  rw [← pk_sub h, Int32.sub_eq_add_neg]
def sm (f : Nat → Nat) : Nat → Nat
  | 0 => 0
  | n + 1 => sm f n + f n
theorem sm_cong {f g : Nat → Nat} : ∀ {n : Nat}, (∀ k, k < n → f k = g k) → sm f n = sm g n
  | 0, _ => rfl
  | n + 1, h => by rw [sm, sm, sm_cong (fun k hk => h k (by omega)), h n (by omega)]
theorem sm_le {f : Nat → Nat} {c : Nat} : ∀ {n : Nat}, (∀ k, k < n → f k ≤ c) → sm f n ≤ n * c
  | 0, _ => by simp [sm]
  | n + 1, h => by
    have h1 := sm_le (f := f) (c := c) (n := n) (fun k hk => h k (by omega))
    have h2 := h n (by omega)
    rw [sm, Nat.succ_mul]
    omega
def si (f : Nat → Int32) : Nat → Int32
  | 0 => 0
  | n + 1 => si f n + f n
theorem si_cong {f g : Nat → Int32} : ∀ {n : Nat}, (∀ k, k < n → f k = g k) → si f n = si g n
  | 0, _ => rfl
  | n + 1, h => by rw [si, si, si_cong (fun k hk => h k (by omega)), h n (by omega)]
theorem si_nI {f : Nat → Nat} : ∀ {n : Nat}, si (fun k => nI (f k)) n = nI (sm f n)
  | 0 => rfl
  | n + 1 => by rw [si, sm, si_nI, nI_add]
theorem loopN (n : Nat) (A : Nat → Prop) (hx : A n) (hs : ∀ k, k < n → A (k + 1) → A k) : A 0 := by
  have h : ∀ i, i ≤ n → A (n - i) := by
    intro i
    induction i with
    | zero => intro _; exact hx
    | succ i ih =>
      intro hi
      refine hs (n - (i + 1)) (by omega) ?_
      rw [show n - (i + 1) + 1 = n - i by omega]
      exact ih (by omega)
  have := h n (Nat.le_refl n)
  rwa [Nat.sub_self] at this
def bi (c : Prop) [Decidable c] : Nat := if c then 1 else 0
/-! a press, as a mathematical value: houses, sheets, readers; coins, shame, fines; owner, length; right, placed, level; kind, taste; days, editions, printed, laughs, licences -/
abbrev SP : Type := (Nat × Nat × Nat) × ((Nat → Nat) × (Nat → Nat) × (Nat → Int32)) × ((Nat → Nat) × (Nat → Nat)) × ((Nat → Nat → Nat) × (Nat → Nat → Nat) × (Nat → Nat → Nat)) × ((Nat → Nat) × (Nat → Nat)) × (Nat → Int32)
def sH (A : SP) : Nat := A.1.1
def sS (A : SP) : Nat := A.1.2.1
def sR (A : SP) : Nat := A.1.2.2
def sCn (A : SP) : Nat → Nat := A.2.1.1
def sSh (A : SP) : Nat → Nat := A.2.1.2.1
def sFp (A : SP) : Nat → Int32 := A.2.1.2.2
def sOw (A : SP) : Nat → Nat := A.2.2.1.1
def sLn (A : SP) : Nat → Nat := A.2.2.1.2
def sRt (A : SP) : Nat → Nat → Nat := A.2.2.2.1.1
def sPl (A : SP) : Nat → Nat → Nat := A.2.2.2.1.2.1
def sLv (A : SP) : Nat → Nat → Nat := A.2.2.2.1.2.2
def sKi (A : SP) : Nat → Nat := A.2.2.2.2.1.1
def sTa (A : SP) : Nat → Nat := A.2.2.2.2.1.2
def sC (A : SP) : Nat → Int32 := A.2.2.2.2.2
def WF (A : SP) : Prop := (sH A ≤ 4 ∧ sS A ≤ 8 ∧ sR A ≤ 5) ∧ (∀ h, h < sH A → sCn A h ≤ 99 ∧ sSh A h ≤ 99) ∧
  (∀ s, s < sS A → sOw A s < sH A ∧ 3 ≤ sLn A s ∧ sLn A s ≤ 8 ∧ ∀ k, k < sLn A s → (1 ≤ sRt A s k ∧ sRt A s k ≤ 6) ∧ (1 ≤ sPl A s k ∧ sPl A s k ≤ 6) ∧ sLv A s k ≤ 3 ∧ (sLv A s k = 0 ↔ sPl A s k = sRt A s k)) ∧
  (∀ r, r < sR A → sKi A r ≤ 1 ∧ 1 ≤ sTa A r ∧ sTa A r ≤ 6)
/-- the state j of the class holds A -/
def RC (μ : Mem) (j : Nat) (A : SP) : Prop := WF A ∧ (μ 0 j 0 = nI (sH A) ∧ μ 0 j 1 = nI (sS A) ∧ μ 0 j 2 = nI (sR A) ∧ ∀ k, k < 5 → μ 0 j (3 + k) = sC A k) ∧
  (∀ h, h < sH A → μ 1 j h = nI (sCn A h) ∧ μ 2 j h = nI (sSh A h) ∧ μ 3 j h = sFp A h) ∧
  (∀ s, s < sS A → μ 4 j s = nI (sOw A s) ∧ μ 5 j s = nI (sLn A s) ∧ ∀ k, k < sLn A s → μ 6 j (s * 8 + k) = nI (sRt A s k) ∧ μ 7 j (s * 8 + k) = nI (sPl A s k) ∧ μ 8 j (s * 8 + k) = nI (sLv A s k)) ∧
  (∀ r, r < sR A → μ 9 j r = nI (sKi A r) ∧ μ 10 j r = nI (sTa A r))
/-- the reference's row g holds A -/
def RM (g : Nat → Int32) (A : SP) : Prop := WF A ∧ (g 0 = nI (sH A) ∧ g 1 = nI (sS A) ∧ g 2 = nI (sR A) ∧ (∀ k, k < 5 → g (3 + k) = sC A k) ∧ g 8 = si (sFp A) (sH A)) ∧
  (∀ h, h < sH A → g (10 + 3 * h) = nI (sCn A h) ∧ g (10 + 3 * h + 1) = nI (sSh A h) ∧ g (10 + 3 * h + 2) = sFp A h) ∧
  (∀ s, s < sS A → g (22 + 26 * s) = nI (sOw A s) ∧ g (22 + 26 * s + 1) = nI (sLn A s) ∧ ∀ k, k < 8 → g (22 + 26 * s + (2 + k)) = nI (if k < sLn A s then sRt A s k else 0) ∧ g (22 + 26 * s + (10 + k)) = nI (if k < sLn A s then sPl A s k else 0) ∧ g (22 + 26 * s + (18 + k)) = nI (if k < sLn A s then sLv A s k else 0)) ∧
  (∀ r, r < sR A → g (230 + 2 * r) = nI (sKi A r) ∧ g (230 + 2 * r + 1) = nI (sTa A r))
/-! what is told of it -/
def dist (a b : Nat) : Nat := if a ≤ b then b - a else a - b
def sBad (A : SP) (s k : Nat) : Nat := dist (sRt A s k) (sPl A s k)
def sCnt (A : SP) (s lv : Nat) : Nat := sm (fun k => bi (lv ≤ sLv A s k)) (sLn A s)
def sCntH (A : SP) (h lv : Nat) : Nat := sm (fun s => if sOw A s = h then sCnt A s lv else 0) (sS A)
def sCntA (A : SP) (lv : Nat) : Nat := sm (fun s => sCnt A s lv) (sS A)
def sBadS (A : SP) (s : Nat) : Nat := sm (fun k => sBad A s k) (sLn A s)
def sShe (A : SP) (h : Nat) : Nat := sm (fun s => bi (sOw A s = h)) (sS A)
def sAsh (A : SP) (h : Nat) : Prop := 20 < sSh A h
def sCost (A : SP) (h : Nat) : Nat := 2 + sCntH A h 2
def sFine (A : SP) (s k : Nat) : Nat := if sLv A s k = 0 then 0 else (1 + sBad A s k + (if 2 ≤ sLv A s k then 2 else 0)) * (if sLv A s k = 3 then 2 else 1)
def sFines (A : SP) (s : Nat) : Nat := sm (fun k => sFine A s k) (sLn A s)
def sLau (A : SP) (r l bad : Nat) : Prop := if sKi A r = 0 then l = sTa A r else sTa A r ≤ bad
theorem rI_ok {v w : Int32} {μ ν : Mem} (h : v = w) (h2 : μ = ν) : rI w ν (.inl (some (aI v))) μ := ⟨by rw [h], h2⟩
theorem rV_ok {μ ν : Mem} (h2 : μ = ν) : rV ν (.inl none) μ := ⟨rfl, h2⟩
theorem rX_ok {E : String} {μ ν : Mem} (h2 : μ = ν) : rX E ν (.inr E) μ := ⟨rfl, h2⟩
theorem br {c d A B : Prop} (e : c = d) (hA : d → A) (hB : ¬ d → B) : (c → A) ∧ (¬ c → B) := by subst e; exact ⟨hA, hB⟩
theorem brn {c d A B : Prop} (e : c = d) (hA : ¬ d → A) (hB : d → B) : (¬ c → A) ∧ (c → B) := by subst e; exact ⟨hA, hB⟩
theorem RC.W {μ : Mem} {j : Nat} {A : SP} (R : RC μ j A) : WF A := R.1
theorem RC.H {μ : Mem} {j : Nat} {A : SP} (R : RC μ j A) : μ 0 j 0 = nI (sH A) := R.2.1.1
theorem RC.S {μ : Mem} {j : Nat} {A : SP} (R : RC μ j A) : μ 0 j 1 = nI (sS A) := R.2.1.2.1
theorem RC.R {μ : Mem} {j : Nat} {A : SP} (R : RC μ j A) : μ 0 j 2 = nI (sR A) := R.2.1.2.2.1
theorem RC.C {μ : Mem} {j : Nat} {A : SP} (R : RC μ j A) {k : Nat} (hk : k < 5) : μ 0 j (3 + k) = sC A k := R.2.1.2.2.2 k hk
theorem RC.cn {μ : Mem} {j h : Nat} {A : SP} (R : RC μ j A) (hh : h < sH A) : μ 1 j h = nI (sCn A h) := (R.2.2.1 h hh).1
theorem RC.sh {μ : Mem} {j h : Nat} {A : SP} (R : RC μ j A) (hh : h < sH A) : μ 2 j h = nI (sSh A h) := (R.2.2.1 h hh).2.1
theorem RC.fp {μ : Mem} {j h : Nat} {A : SP} (R : RC μ j A) (hh : h < sH A) : μ 3 j h = sFp A h := (R.2.2.1 h hh).2.2
theorem RC.ow {μ : Mem} {j s : Nat} {A : SP} (R : RC μ j A) (hs : s < sS A) : μ 4 j s = nI (sOw A s) := (R.2.2.2.1 s hs).1
theorem RC.ln {μ : Mem} {j s : Nat} {A : SP} (R : RC μ j A) (hs : s < sS A) : μ 5 j s = nI (sLn A s) := (R.2.2.2.1 s hs).2.1
theorem RC.rt {μ : Mem} {j s k : Nat} {A : SP} (R : RC μ j A) (hs : s < sS A) (hk : k < sLn A s) : μ 6 j (s * 8 + k) = nI (sRt A s k) := ((R.2.2.2.1 s hs).2.2 k hk).1
theorem RC.pl {μ : Mem} {j s k : Nat} {A : SP} (R : RC μ j A) (hs : s < sS A) (hk : k < sLn A s) : μ 7 j (s * 8 + k) = nI (sPl A s k) := ((R.2.2.2.1 s hs).2.2 k hk).2.1
theorem RC.lv {μ : Mem} {j s k : Nat} {A : SP} (R : RC μ j A) (hs : s < sS A) (hk : k < sLn A s) : μ 8 j (s * 8 + k) = nI (sLv A s k) := ((R.2.2.2.1 s hs).2.2 k hk).2.2
theorem RC.ki {μ : Mem} {j r : Nat} {A : SP} (R : RC μ j A) (hr : r < sR A) : μ 9 j r = nI (sKi A r) := (R.2.2.2.2 r hr).1
theorem RC.ta {μ : Mem} {j r : Nat} {A : SP} (R : RC μ j A) (hr : r < sR A) : μ 10 j r = nI (sTa A r) := (R.2.2.2.2 r hr).2
theorem WF.hm {A : SP} (W : WF A) : sH A ≤ 4 := W.1.1
theorem WF.sm {A : SP} (W : WF A) : sS A ≤ 8 := W.1.2.1
theorem WF.rm {A : SP} (W : WF A) : sR A ≤ 5 := W.1.2.2
theorem WF.cn {A : SP} (W : WF A) {h : Nat} (hh : h < sH A) : sCn A h ≤ 99 := (W.2.1 h hh).1
theorem WF.sh {A : SP} (W : WF A) {h : Nat} (hh : h < sH A) : sSh A h ≤ 99 := (W.2.1 h hh).2
theorem WF.ow {A : SP} (W : WF A) {s : Nat} (hs : s < sS A) : sOw A s < sH A := (W.2.2.1 s hs).1
theorem WF.ln {A : SP} (W : WF A) {s : Nat} (hs : s < sS A) : 3 ≤ sLn A s ∧ sLn A s ≤ 8 := ⟨(W.2.2.1 s hs).2.1, (W.2.2.1 s hs).2.2.1⟩
theorem WF.rt {A : SP} (W : WF A) {s k : Nat} (hs : s < sS A) (hk : k < sLn A s) : 1 ≤ sRt A s k ∧ sRt A s k ≤ 6 := ((W.2.2.1 s hs).2.2.2 k hk).1
theorem WF.pl {A : SP} (W : WF A) {s k : Nat} (hs : s < sS A) (hk : k < sLn A s) : 1 ≤ sPl A s k ∧ sPl A s k ≤ 6 := ((W.2.2.1 s hs).2.2.2 k hk).2.1
theorem WF.lv {A : SP} (W : WF A) {s k : Nat} (hs : s < sS A) (hk : k < sLn A s) : sLv A s k ≤ 3 := ((W.2.2.1 s hs).2.2.2 k hk).2.2.1
theorem WF.l0 {A : SP} (W : WF A) {s k : Nat} (hs : s < sS A) (hk : k < sLn A s) : sLv A s k = 0 ↔ sPl A s k = sRt A s k := ((W.2.2.1 s hs).2.2.2 k hk).2.2.2
theorem WF.rd {A : SP} (W : WF A) {r : Nat} (hr : r < sR A) : sKi A r ≤ 1 ∧ 1 ≤ sTa A r ∧ sTa A r ≤ 6 := W.2.2.2 r hr
def out (a : Int32) (n : Nat) : Prop := a < 0 ∨ nI n ≤ a
theorem in_or (a : Int32) {n : Nat} (hn : n < 2 ^ 31) : out a n ∨ ∃ k, k < n ∧ a = nI k := by
  rcases pk_ix a hn with h | h | h
  · exact Or.inl (Or.inl h)
  · exact Or.inl (Or.inr h)
  · exact Or.inr h
theorem sBad_le {A : SP} (W : WF A) {s k : Nat} (hs : s < sS A) (hk : k < sLn A s) : sBad A s k ≤ 5 := by
  have h1 := W.rt hs hk
  have h2 := W.pl hs hk
  unfold sBad dist
  split <;> omega
theorem sBad_0 {A : SP} (W : WF A) {s k : Nat} (hs : s < sS A) (hk : k < sLn A s) : sBad A s k = 0 ↔ sLv A s k = 0 := by
  rw [W.l0 hs hk]
  unfold sBad dist
  split <;> omega
theorem bi_t {c : Prop} [Decidable c] (h : c) : bi c = 1 := if_pos h
theorem bi_f {c : Prop} [Decidable c] (h : ¬ c) : bi c = 0 := if_neg h
theorem abs_nI {a b : Nat} (ha : a < 1000) (hb : b < 1000) : (if 0 ≤ nI a - nI b then nI a - nI b else 0 - (nI a - nI b)) = nI (dist b a) := by
  unfold dist
  by_cases h : b ≤ a
  · rw [if_pos h, pk_sub h, if_pos (nI_pos' (by omega))]
  · rw [if_neg h, if_neg]
    · rw [n0, ← pk_sub (show a ≤ b by omega), Int32.sub_eq_add_neg, Int32.neg_sub]
      rw [show nI 0 = (0 : Int32) from rfl, Int32.zero_add]
    · rw [Int32.not_le]
      exact pk_sneg (by omega) (by omega)
