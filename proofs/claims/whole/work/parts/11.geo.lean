/-! ===== the board's shape ===== -/
def rmv (d : Nat) : Int := ([-1, -1, 0, 1, 1, 1, 0, -1, -2, -2, 2, 2] : List Int).getD d 0
def cmv (d : Nat) : Int := ([0, 1, 1, 1, 0, -1, -1, -1, 1, -1, -1, 1] : List Int).getD d 0
def trn (d : Nat) : Nat := ([4, 5, 6, 7, 0, 1, 2, 3, 10, 11, 8, 9] : List Nat).getD d 0
/-- the field behind f in direction d (0 to 11), on a board of N rows -/
def nx (N d f : Nat) : Option Nat :=
  if 0 ≤ ((f / N : Nat) : Int) + rmv d ∧ ((f / N : Nat) : Int) + rmv d < N ∧ 0 ≤ ((f % N : Nat) : Int) + cmv d ∧ ((f % N : Nat) : Int) + cmv d < N then some ((((f / N : Nat) : Int) + rmv d) * N + (((f % N : Nat) : Int) + cmv d)).toNat else none
def dirOf (s b : Nat) : Nat := if s = 0 then b else trn b
/-- a field or -1 -/
def ov (o : Option Nat) : Int32 := match o with
  | none => -1
  | some g => nI g
def rmI (b : Nat) : Int32 := ([-1, -1, 0, 1, 1, 1, 0, -1, -2, -2] : List Int32).getD b 0
def cmI (b : Nat) : Int32 := ([0, 1, 1, 1, 0, -1, -1, -1, 1, -1] : List Int32).getD b 0
theorem m_rowsOf {b : Nat} (hb : b < 10) (w : Wd) : f_X10_rowsOf (nI b) w = some (rmI b, w) := by
  rcases (show b = 0 ∨ b = 1 ∨ b = 2 ∨ b = 3 ∨ b = 4 ∨ b = 5 ∨ b = 6 ∨ b = 7 ∨ b = 8 ∨ b = 9 by omega) with rfl | rfl | rfl | rfl | rfl | rfl | rfl | rfl | rfl | rfl <;> rfl
theorem m_columnsOf {b : Nat} (hb : b < 10) (w : Wd) : f_X10_columnsOf (nI b) w = some (cmI b, w) := by
  rcases (show b = 0 ∨ b = 1 ∨ b = 2 ∨ b = 3 ∨ b = 4 ∨ b = 5 ∨ b = 6 ∨ b = 7 ∨ b = 8 ∨ b = 9 by omega) with rfl | rfl | rfl | rfl | rfl | rfl | rfl | rfl | rfl | rfl <;> rfl
def alE (N r c b s : Nat) : Int32 :=
  let v := nI r + (if s = 0 then rmI b else - rmI b)
  let u := nI c + (if s = 0 then cmI b else - cmI b)
  if 0 ≤ v ∧ v ≤ nI N - 1 then (if 0 ≤ u ∧ u ≤ nI N - 1 then nI N * v + u else -1) else -1
theorem all_r {n : Nat} {p : Nat → Bool} (h : (List.range n).all p = true) {i : Nat} (hi : i < n) : p i = true := List.all_eq_true.mp h i (List.mem_range.mpr hi)
theorem al_chk : ((List.range 8).all fun N => decide (N < 5) || (List.range N).all fun r => (List.range N).all fun c => (List.range 10).all fun b => (List.range 2).all fun s => decide (alE N r c b s = ov (nx N (dirOf s b) (N * r + c)))) = true := by decide +kernel
theorem al_dec {N r c b s : Nat} (h1 : N < 8) (h2 : 5 ≤ N) (hr : r < N) (hc : c < N) (hb : b < 10) (hs : s < 2) : alE N r c b s = ov (nx N (dirOf s b) (N * r + c)) := by
  have h := all_r al_chk h1
  rw [Bool.or_eq_true, decide_eq_true_eq] at h
  rcases h with h | h
  · omega
  · exact of_decide_eq_true (all_r (all_r (all_r (all_r h hr) hc) hb) hs)
theorem ite10 {α : Type} {P : Prop} [Decidable P] {A B : α} : (if (if P then (1 : Int32) else 0) = 0 then A else B) = if P then B else A := by
  by_cases h : P <;> simp [h]
theorem nx_rev : ∀ N, N < 8 → 5 ≤ N → ∀ d, d < 12 → ∀ f, f < N * N → (nx N d f).all (fun g => decide (g < N * N) && (nx N (trn d) g == some f)) = true := by decide +kernel
theorem nx_lt {N d f g : Nat} (h1 : N ≤ 7) (h2 : 5 ≤ N) (hd : d < 12) (hf : f < N * N) (h : nx N d f = some g) : g < N * N ∧ nx N (trn d) g = some f := by
  have := nx_rev N (by omega) h2 d hd f hf
  rw [h] at this
  simpa using this
theorem trn_lt : ∀ d, d < 12 → trn d < 12 ∧ trn (trn d) = d := by decide
theorem m_along {N f b s : Nat} {w : Wd} (hn : w.1 50 0 = nI N) (h1 : N ≤ 7) (h2 : 5 ≤ N) (hf : f < N * N) (hb : b < 10) (hs : s < 2) : f_X10_along (nI f) (nI b) (nI s) w = some (ov (nx N (dirOf s b) f), w) := by
  have hr : f / N < N := Nat.div_lt_of_lt_mul hf
  have hc : f % N < N := Nat.mod_lt _ (by omega)
  have e := al_dec (by omega) h2 hr hc hb hs
  rw [Nat.div_add_mod] at e
  have hf49 : f < 2 ^ 31 := by
    have : N * N ≤ 7 * 7 := Nat.mul_le_mul h1 h1
    omega
  have hN0 : ¬ nI N = 0 := nI_ne0 (by omega) (by omega)
  have ed : nI f / nI N = nI (f / N) := pk_div hf49 (by omega) (by omega)
  have em : nI f - nI f / nI N * nI N = nI (f % N) := pk_rem hf49 (by omega) (by omega)
  rw [← e]
  unfold f_X10_along f_X10_along_22 f_X10_along_47 f_X10_along_97 f_X10_along_98 alE
  simp only [m_rowsOf hb, m_columnsOf hb, bd_s, lt_e, hn, m_in0, ite10]
  rw [em, ed]
  rcases (show s = 0 ∨ s = 1 by omega) with rfl | rfl
  · have z0 : nI 0 = (0 : Int32) := rfl
    simp only [z0, hN0, not_false_eq_true, if_true]
    by_cases q : 0 ≤ nI (f / N) + rmI b ∧ nI (f / N) + rmI b ≤ nI N - 1
    · rw [if_pos q, if_pos q]
      by_cases q2 : 0 ≤ nI (f % N) + cmI b ∧ nI (f % N) + cmI b ≤ nI N - 1
      · rw [if_pos q2, if_pos q2]
      · rw [if_neg q2, if_neg q2]
    · rw [if_neg q, if_neg q]
  · have z0 : ¬ nI 1 = (0 : Int32) := by decide
    simp only [z0, hN0, not_false_eq_true, if_true, if_false, show ¬ (1 = 0) by decide]
    by_cases q : 0 ≤ nI (f / N) + -rmI b ∧ nI (f / N) + -rmI b ≤ nI N - 1
    · rw [if_pos q, if_pos q]
      by_cases q2 : 0 ≤ nI (f % N) + -cmI b ∧ nI (f % N) + -cmI b ≤ nI N - 1
      · rw [if_pos q2, if_pos q2]
      · rw [if_neg q2, if_neg q2]
    · rw [if_neg q, if_neg q]
