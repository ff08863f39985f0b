/-! ===== pure rows: reading worlds, lets, numbers ===== -/
theorem wI_s {w : Wd} {k j : Nat} {v : Int32} : (wdI w k j v).1 k j = v := by simp [wdI, wdA, upd]
theorem wI_n {w : Wd} {k j j' : Nat} {v : Int32} (h : j' ≠ j) : (wdI w k j v).1 k j' = w.1 k j' := by simp [wdI, wdA, upd, h]
theorem wI_c {w : Wd} {k k' j : Nat} {v : Int32} (h : k' ≠ k) : (wdI w k j v).1 k' = w.1 k' := by simp [wdI, wdA, h]
theorem wI_2 {w : Wd} {k j : Nat} {v : Int32} : (wdI w k j v).2 = w.2 := rfl
theorem wA_s {w : Wd} {k : Nat} {f : Nat → Int32} : (wdA w k f).1 k = f := by simp [wdA]
theorem wA_c {w : Wd} {k k' : Nat} {f : Nat → Int32} (h : k' ≠ k) : (wdA w k f).1 k' = w.1 k' := by simp [wdA, h]
theorem wA_2 {w : Wd} {k : Nat} {f : Nat → Int32} : (wdA w k f).2 = w.2 := rfl
theorem wI_get {w : Wd} {k j k' j' : Nat} {v : Int32} : (wdI w k j v).1 k' j' = if k' = k ∧ j' = j then v else w.1 k' j' := by
  by_cases h : k' = k
  · subst h
    by_cases h2 : j' = j
    · subst h2; simp [wI_s]
    · simp [wI_n h2, h2]
  · simp [wI_c h, h]
theorem lt_e {α : Type} {v : Int32} {K : Int32 → Option (α × Wd)} : lt v K = K v := rfl
theorem lj_e {α : Type} {v : Int64} {K : Int64 → Option (α × Wd)} : lj v K = K v := rfl
theorem lw_e {α : Type} {w : Wd} {K : Wd → Option (α × Wd)} : lw w K = K w := rfl
theorem bd_s {α β : Type} {x : β} {w : Wd} {K : β → Wd → Option (α × Wd)} : bd (some (x, w)) K = K x w := rfl
theorem lit_nI (k : Nat) : (OfNat.ofNat k : Int32) = nI k := rfl
theorem nI_cl {n : Nat} (h : n < 2 ^ 31) : Int32.toNatClampNeg (nI n) = n := nI_clamp h
theorem inb_nI {n N : Nat} (h : n < N) (hN : N < 2 ^ 31) : inb (nI n) N = true := by
  have h1 : ¬ nI n < 0 := nI_pos (by omega)
  have h2 : (nI n).toNatClampNeg = n := nI_clamp (by omega)
  simp [inb, h1, h2, h]
theorem inb_iff {v : Int32} {N : Nat} (hN : N < 2 ^ 31) : inb v N = true ↔ ∃ j : Nat, j < N ∧ v = nI j := by
  constructor
  · intro h
    exact vp_in_of (inb_in h) hN
  · rintro ⟨j, h, rfl⟩
    exact inb_nI h hN
theorem i64_le (x y : Int32) : x.toInt64 ≤ y.toInt64 ↔ x ≤ y := by
  simp [Int64.le_iff_toInt_le, Int32.le_iff_toInt_le]
theorem i64_lit (k : Nat) (h : k < 2 ^ 31) : (Int64.ofNat k) = (nI k).toInt64 := (nI_l h).symm
theorem zb0 : zb 0 = true := rfl
theorem zb1 : zb 1 = true := rfl
/-- ints within bounds, as the reference asks it -/
theorem m_in (a b c : Int64) (w : Wd) : f_X10_in a b c w = some (if b ≤ a ∧ a ≤ c then 1 else 0, w) := by
  unfold f_X10_in f_X10_in_17 f_X10_in_18
  simp only [lg_cmp_lt, lg_cmp_gt, zb0, zb1, if_true]
  by_cases h1 : a < b
  · have h2 : ¬ (b ≤ a ∧ a ≤ c) := fun h => by
      have := h.1
      rw [Int64.le_iff_toInt_le] at this
      rw [Int64.lt_iff_toInt_lt] at h1
      omega
    rw [if_pos h1, if_neg h2]
  · rw [if_neg h1]
    by_cases h3 : c < a
    · have h2 : ¬ (b ≤ a ∧ a ≤ c) := fun h => by
        have := h.2
        rw [Int64.le_iff_toInt_le] at this
        rw [Int64.lt_iff_toInt_lt] at h3
        omega
      rw [if_pos h3, if_neg h2]
    · have h2 : b ≤ a ∧ a ≤ c := by
        rw [Int64.le_iff_toInt_le, Int64.le_iff_toInt_le]
        rw [Int64.lt_iff_toInt_lt] at h1 h3
        omega
      rw [if_neg h3, if_pos h2]
theorem m_inI (a b c : Int32) (w : Wd) : f_X10_in a.toInt64 b.toInt64 c.toInt64 w = some (if b ≤ a ∧ a ≤ c then 1 else 0, w) := by
  rw [m_in]
  simp only [i64_le]
theorem m_in0 (a c : Int32) (w : Wd) : f_X10_in a.toInt64 (0 : Int64) c.toInt64 w = some (if 0 ≤ a ∧ a ≤ c then 1 else 0, w) := m_inI a 0 c w
theorem m_in0l (a : Int32) (c : Nat) (h : c < 2 ^ 31) (w : Wd) : f_X10_in a.toInt64 (0 : Int64) (OfNat.ofNat c : Int64) w = some (if 0 ≤ a ∧ a ≤ nI c then 1 else 0, w) := by
  rw [show (OfNat.ofNat c : Int64) = (nI c).toInt64 from i64_lit c h]
  exact m_inI a 0 (nI c) w
theorem m_in1l (a : Int32) (b c : Nat) (hb : b < 2 ^ 31) (h : c < 2 ^ 31) (w : Wd) : f_X10_in a.toInt64 (OfNat.ofNat b : Int64) (OfNat.ofNat c : Int64) w = some (if nI b ≤ a ∧ a ≤ nI c then 1 else 0, w) := by
  rw [show (OfNat.ofNat c : Int64) = (nI c).toInt64 from i64_lit c h, show (OfNat.ofNat b : Int64) = (nI b).toInt64 from i64_lit b hb]
  exact m_inI a (nI b) (nI c) w
/-- a loop that counts up: from i to e, the state by i -/
theorem itr_up {α σ : Type} (L : Nat → Nat → σ → Option α) (e : Nat) (step : Nat → σ → σ) (K : σ → Option α) (I : Nat → σ → Prop)
    (hx : ∀ n s, I e s → L (n + 1) e s = K s) (hs : ∀ n i s, i < e → I i s → L (n + 1) i s = L n (i + 1) (step i s) ∧ I (i + 1) (step i s)) :
    ∀ (m i : Nat) (s : σ), i + m = e → I i s → ∀ n, m < n → ∃ s', L n i s = K s' ∧ I e s' ∧ s' = (List.range' i m).foldl (fun s i => step i s) s := by
  intro m
  induction m with
  | zero =>
    intro i s hi hI n hn
    obtain ⟨n, rfl⟩ : ∃ k, n = k + 1 := ⟨n - 1, by omega⟩
    have : i = e := by omega
    subst this
    exact ⟨s, hx n s hI, hI, rfl⟩
  | succ m ih =>
    intro i s hi hI n hn
    obtain ⟨n, rfl⟩ : ∃ k, n = k + 1 := ⟨n - 1, by omega⟩
    obtain ⟨h1, h2⟩ := hs n i s (by omega) hI
    obtain ⟨s', a1, a2, a3⟩ := ih (i + 1) (step i s) (by omega) h2 n (by omega)
    exact ⟨s', h1.trans a1, a2, by rw [a3]; rfl⟩
theorem FU_big {m : Nat} (h : m < 100000) : m < FU := h
/-! ===== small asks ===== -/
theorem x_isLine {N : Nat} {w : Wd} (hn : w.1 11 0 = nI N) (hN : N ≤ 7) (v : Int32) : f_X1_isLine N v w = some (if inb v N = true then 1 else 0, w) := by
  unfold f_X1_isLine f_X1_isLine_16 f_X1_isLine_17
  rw [hn]
  rcases pk_ix v (n := N) (by omega) with h | h | ⟨j, hj, rfl⟩
  · have : ¬ inb v N = true := fun q => (inb_in q) (Or.inl h)
    simp [h, this, zb0]
  · have h0 : ¬ inb v N = true := fun q => by
      obtain ⟨j, hj, rfl⟩ := (inb_iff (by omega)).mp q
      exact nI_ge hj (by omega) h
    by_cases hv : v < 0
    · simp [hv, h0, zb0]
    · simp [hv, h, h0, zb0]
  · have h1 : ¬ nI j < 0 := nI_pos (by omega)
    have h2 : ¬ nI N ≤ nI j := nI_ge hj (by omega)
    simp [h1, h2, inb_nI hj (show N < 2 ^ 31 by omega), zb1]
theorem m_isLine {N : Nat} {w : Wd} (hn : w.1 50 0 = nI N) (hN : N ≤ 7) (h5 : 5 ≤ N) (v : Int32) : f_X10_isLine v w = some (if inb v N = true then 1 else 0, w) := by
  unfold f_X10_isLine
  obtain ⟨M, rfl⟩ : ∃ M, N = M + 1 := ⟨N - 1, by omega⟩
  rw [hn, nI_pred, m_in0, bd_s]
  have e : (0 ≤ v ∧ v ≤ nI M) ↔ inb v (M + 1) = true := by
    rw [inb_iff (by omega)]
    constructor
    · rintro ⟨a, b⟩
      have hv : ¬ v < 0 := by
        rw [Int32.le_iff_toInt_le] at a
        rw [Int32.lt_iff_toInt_lt]
        omega
      obtain ⟨j, hj, rfl⟩ := nI_of hv
      exact ⟨j, by have := (nI_leI hj (show M < 2 ^ 31 by omega)).mp b; omega, rfl⟩
    · rintro ⟨j, hj, rfl⟩
      exact ⟨nI_pos' (by omega), nI_le (by omega) (by omega)⟩
  by_cases h : inb v (M + 1) = true
  · rw [if_pos (e.mpr h), if_pos h]; rfl
  · rw [if_neg (fun q => h (e.mp q)), if_neg h]; rfl
