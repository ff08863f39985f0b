/-! ===== a stand laid: the lines long enough, the items ===== -/
/-- line r can fill a row of n fields -/
def RGd (N : Nat) (wx wm : Wd) (r : Nat) : Prop := (wx.1 13 r = -1 ∧ wm.1 56 r = -1) ∨ ∃ f n : Nat, f < 3 ∧ n ≤ 12 ∧ N ≤ n ∧ wx.1 13 r = nI n ∧ wm.1 56 r = nI f ∧ ∀ i, i < n → wx.1 (15 + r) i = wm.1 58 (12 * r + i)
theorem k_short {N : Nat} {wx wm : Wd} {v1 : Int32} (h7 : N ≤ 7) (h5 : 5 ≤ N) (hn : wm.1 50 0 = nI N) (hL : RLs N wx wm) (X31 X39 : Wd → Option (Int32 × Wd)) (K55 : Wd → Option (Int32 × Wd)) (K67 : Int32 → Wd → Option (Int32 × Wd)) : ∀ (m i : Nat), i + m = N → ∀ n, m < n → (l_X1_someIsTooShort_2 N X31 X39 n (nI i) wx = X31 wx ∧ l_X10_stand_25 K55 K67 n v1 (nI i) wm = K55 wm) ∨ (l_X1_someIsTooShort_2 N X31 X39 n (nI i) wx = X39 wx ∧ l_X10_stand_25 K55 K67 n v1 (nI i) wm = K67 v1 wm ∧ ∀ r, i ≤ r → r < N → RGd N wx wm r) := by
  intro m
  induction m with
  | zero =>
    intro i hi n hn'
    obtain ⟨n, rfl⟩ : ∃ k, n = k + 1 := ⟨n - 1, by omega⟩
    refine Or.inr ⟨?_, ?_, fun r h1 h2 => by omega⟩
    · show b_X1_someIsTooShort_2 N (l_X1_someIsTooShort_2 N X31 X39 n) X31 X39 (nI i) wx = _
      unfold b_X1_someIsTooShort_2
      rw [hL.1, if_pos (nI_le (by omega) (by omega))]
    · show b_X10_stand_25 (l_X10_stand_25 K55 K67 n) K55 K67 v1 (nI i) wm = _
      unfold b_X10_stand_25
      rw [hn, if_pos (nI_le (by omega) (by omega))]
  | succ m ih =>
    intro i hi n hn'
    obtain ⟨n, rfl⟩ : ∃ k, n = k + 1 := ⟨n - 1, by omega⟩
    have iL := x_isLost (w := wx) h7 (show i < N by omega)
    have ex : l_X1_someIsTooShort_2 N X31 X39 (n + 1) (nI i) wx = b_X1_someIsTooShort_2 N (l_X1_someIsTooShort_2 N X31 X39 n) X31 X39 (nI i) wx := rfl
    have em : l_X10_stand_25 K55 K67 (n + 1) v1 (nI i) wm = b_X10_stand_25 (l_X10_stand_25 K55 K67 n) K55 K67 v1 (nI i) wm := rfl
    have go : RGd N wx wm i → b_X1_someIsTooShort_2 N (l_X1_someIsTooShort_2 N X31 X39 n) X31 X39 (nI i) wx = l_X1_someIsTooShort_2 N X31 X39 n (nI (i + 1)) wx → b_X10_stand_25 (l_X10_stand_25 K55 K67 n) K55 K67 v1 (nI i) wm = l_X10_stand_25 K55 K67 n v1 (nI (i + 1)) wm → (l_X1_someIsTooShort_2 N X31 X39 (n + 1) (nI i) wx = X31 wx ∧ l_X10_stand_25 K55 K67 (n + 1) v1 (nI i) wm = K55 wm) ∨ (l_X1_someIsTooShort_2 N X31 X39 (n + 1) (nI i) wx = X39 wx ∧ l_X10_stand_25 K55 K67 (n + 1) v1 (nI i) wm = K67 v1 wm ∧ ∀ r, i ≤ r → r < N → RGd N wx wm r) := by
      intro g gx gm
      rw [ex, em, gx, gm]
      rcases ih (i + 1) (by omega) n (by omega) with z | ⟨z1, z2, z3⟩
      · exact Or.inl z
      · refine Or.inr ⟨z1, z2, fun r h1 h2 => ?_⟩
        by_cases q : r = i
        · rw [q]; exact g
        · exact z3 r (by omega) h2
    have hN1 : ¬ nI N ≤ nI i := nI_ge (by omega) (by omega)
    rcases hL.2 i (by omega) with ⟨g1, g2⟩ | ⟨f, k, g1, g2, g3, g4, g5⟩
    · refine go (Or.inl ⟨g1, g2⟩) ?_ ?_
      · unfold b_X1_someIsTooShort_2 f_X1_someIsTooShort_33
        rw [hL.1, if_neg hN1, iL.1 g1, bd_s, if_neg (by decide), nI_1]
      · unfold b_X10_stand_25 f_X10_stand_61
        rw [hn, if_neg hN1, inb_nI (show i < 7 by omega) (by omega), if_pos rfl, nI_clamp (by omega), g2, if_pos (by decide), nI_1]
    · by_cases q : N ≤ k
      · refine go (Or.inr ⟨f, k, g1, g2, q, g4.1, g3.2, g5⟩) ?_ ?_
        · unfold b_X1_someIsTooShort_2 f_X1_someIsTooShort_33
          rw [hL.1, if_neg hN1, iL.2 k g2 g4.1, bd_s, if_pos rfl, inb_nI (show i < N by omega) (by omega), if_pos rfl, hL.1, nI_clamp (by omega), g4.1, if_pos (nI_le q (by omega)), nI_1]
        · unfold b_X10_stand_25 f_X10_stand_61
          rw [hn, if_neg hN1, inb_nI (show i < 7 by omega) (by omega), if_pos rfl, nI_clamp (by omega), g3.2, if_neg (nI_pos (by omega)), if_pos rfl, g4.2, if_pos (nI_le q (by omega)), nI_1]
      · refine Or.inl ⟨?_, ?_⟩
        · rw [ex]
          unfold b_X1_someIsTooShort_2
          rw [hL.1, if_neg hN1, iL.2 k g2 g4.1, bd_s, if_pos rfl, inb_nI (show i < N by omega) (by omega), if_pos rfl, hL.1, nI_clamp (by omega), g4.1, if_neg (nI_ge (by omega) (by omega))]
        · rw [em]
          unfold b_X10_stand_25
          rw [hn, if_neg hN1, inb_nI (show i < 7 by omega) (by omega), if_pos rfl, nI_clamp (by omega), g3.2, if_neg (nI_pos (by omega)), if_pos rfl, g4.2, if_neg (nI_ge (by omega) (by omega))]
/-- the item that the lines tell for field f -/
def itV (N : Nat) (w : Wd) (f : Nat) : Int32 := if w.1 13 (f / N) = -1 then 0 else w.1 (15 + f / N) (f % N)
def okv (K : Kd) (v : Int32) : Bool := inb v 33 && (decide (v.toNatClampNeg = 0) || (decide (rz v.toNatClampNeg = 0) || mrz K (kn v.toNatClampNeg)))
def nzw (i : Nat) : Nat := if i = 0 then 0 else 1
def kgw (s i : Nat) : Nat := if i ≠ 0 ∧ kn i = 0 ∧ sd i = s then 1 else 0
def kgc (i : Nat) : Nat := kgw 0 i + 100 * kgw 1 i
def boV (N : Nat) (w : Wd) (f : Nat) : Nat := if f < N * N then (itV N w f).toNatClampNeg else 0
theorem nI_ne_neg {n : Nat} (h : n < 2 ^ 31) : nI n ≠ (-1 : Int32) := fun z => by
  have h1 := congrArg Int32.toInt z
  rw [nI_toInt h] at h1
  have h2 : (-1 : Int32).toInt = -1 := by decide
  omega
theorem x_told {N f : Nat} {wx u : Wd} (h7 : N ≤ 7) (h5 : 5 ≤ N) (hf : f < N * N) (hs : (wx.1 13 (f / N) = -1) ∨ ∃ n, n ≤ 12 ∧ wx.1 13 (f / N) = nI n) (e1 : u.1 13 = wx.1 13) (e2 : u.1 (15 + f / N) = wx.1 (15 + f / N)) : f_X1_told N (nI (f / N)) (nI (f % N)) u = some (itV N wx f, u) := by
  have hr : f / N < N := (Nat.div_lt_iff_lt_mul (by omega)).mpr hf
  have hc : f % N < N := Nat.mod_lt _ (by omega)
  have iL := x_isLost (w := u) h7 hr
  unfold f_X1_told f_X1_told_20 itV
  rcases hs with q | ⟨n, hn, q⟩
  · rw [iL.1 (by rw [e1]; exact q), bd_s, if_neg (by decide), if_pos q]
  · rw [iL.2 n hn (by rw [e1]; exact q), bd_s, if_pos rfl, inb_nI hr (by omega), if_pos rfl, inb_nI (show f % N < 12 by omega) (by omega), if_pos rfl, nI_clamp (by omega), nI_clamp (by omega), if_neg (fun z => by rw [q] at z; exact (nI_ne_neg (by omega)) z)]
    show some (u.1 (15 + f / N) (f % N), u) = _
    rw [e2]
theorem x_hasRaised {N k : Nat} {K : Kd} {w : Wd} (hk : k < 8) (hK : XK N K w) : f_X8_hasRaised N (nI k) w = some (b2i (mrz K k), w) := by
  obtain ⟨a1, a2, a3, a4⟩ := hK.2.2.2.2.2 (8 + k) (by omega)
  unfold f_X8_hasRaised f_X8_hasRaised_27 mrz
  rw [show nI k + (8 : Int32) = nI (8 + k) from by rw [show nI k + (8 : Int32) = nI (k + 8) from nI_add k 8, Nat.add_comm], inb_nI (show 8 + k < 16 by omega) (by omega), if_pos rfl, if_pos rfl, nI_clamp (by omega), a1, a2, nI_or]
  have lt1 : K.1 (8 + k) ||| K.2.1 (8 + k) < 2 ^ 10 := Nat.or_lt_two_pow a3 (by omega)
  have e : nI (K.1 (8 + k) ||| K.2.1 (8 + k)) = (0 : Int32) ↔ K.1 (8 + k) = 0 ∧ K.2.1 (8 + k) = 0 := by
    rw [show (0 : Int32) = nI 0 from rfl, nI_inj (by omega) (by omega), Nat.or_eq_zero_iff]
  by_cases q : K.1 (8 + k) = 0 ∧ K.2.1 (8 + k) = 0
  · rw [if_pos (e.mpr q), q.1, q.2]; rfl
  · rw [if_neg (fun z => q (e.mp z))]
    have : (decide (K.1 (8 + k) ≠ 0) || decide (K.2.1 (8 + k) ≠ 0)) = true := by
      simp only [Bool.or_eq_true, decide_eq_true_eq]
      omega
    rw [this]; rfl
theorem okv_nI {K : Kd} {j : Nat} (hj : j < 33) : okv K (nI j) = (decide (j = 0) || (decide (rz j = 0) || mrz K (kn j))) := by
  unfold okv
  rw [inb_nI hj (by omega), nI_clamp (by omega), Bool.true_and]
theorem rz_lt {j : Nat} : rz j < 2 := Nat.mod_lt _ (by decide)
theorem x_ld {N i c : Nat} {K : Kd} {v : Int32} {w : Wd} {R : Int32 → Int32 → Wd → Option (Int32 × Wd)} {K91 : Int32 → Wd → Option (Int32 × Wd)} (h7 : N ≤ 7) (hK : XK N K w) (hi : i < N * N) (ht : f_X1_told N (nI (i / N)) (nI (i % N)) w = some (v, w)) : b_X6_load_4 N R (f_X6_load_42 N) (f_X6_load_67 N) K91 (nI c) (nI i) w = if okv K v = true then R (nI (c + nzw v.toNatClampNeg)) (nI (i + 1)) (wdI w 23 i v) else some ((-1 : Int32), w) := by
  have hNN := NN_le h7
  have h5 := hK.2.2.2.1
  have hN0 : ¬ nI N = (0 : Int32) := nI_ne0 (by omega) (by omega)
  have em : nI i - nI i / nI N * nI N = nI (i % N) := pk_rem (by omega) (by omega) (by omega)
  have ed : nI i / nI N = nI (i / N) := pk_div (by omega) (by omega) (by omega)
  unfold b_X6_load_4 f_X6_load_42 f_X6_load_67
  rw [hK.1, hK.2.1, if_neg (nI_ge hi (by omega)), if_pos hN0, if_pos hN0, em, ed, ht, bd_s, show (32 : Int32) = nI 32 from rfl, lo_le (by omega)]
  by_cases q : inb v (32 + 1) = true
  · obtain ⟨j, hj, rfl⟩ := (inb_iff (by omega)).mp q
    have fin : f_X6_load_69 N R (f_X6_load_42 N) (f_X6_load_67 N) K91 (nI c) (nI i) (nI j) w = R (nI (c + nzw j)) (nI (i + 1)) (wdI w 23 i (nI j)) := by
      unfold f_X6_load_69 f_X6_load_85 nzw
      rw [inb_nI hi (by omega), if_pos rfl, lw_e, nI_clamp (by omega), nI_1, nI_1]
      by_cases z : j = 0
      · rw [if_pos z, if_pos (show nI j = (0 : Int32) by rw [z]; rfl)]; rfl
      · rw [if_neg z, if_neg (nI_ne0 (by omega) (by omega))]
    rw [if_pos q, okv_nI (by omega), nI_clamp (by omega)]
    unfold f_X6_load_42 f_X6_load_67 at fin
    by_cases z : j = 0
    · subst z
      have e0 : f_X2_isRaised (nI 0) w = some (0, w) := rfl
      rw [e0, bd_s, if_pos rfl, fin]
      rfl
    · rw [x_isRaised (by omega) (by omega), bd_s]
      have hk : kn j < 8 := Nat.mod_lt _ (by decide)
      by_cases z2 : rz j = 0
      · rw [if_pos (show nI (rz j) = (0 : Int32) by rw [z2]; rfl), fin, if_pos (by simp [z2])]
      · have z3 : rz j = 1 := by have := rz_lt (j := j); omega
        rw [if_neg (show ¬ nI (rz j) = (0 : Int32) by rw [z3]; decide), x_kindOf (by omega) (by omega), bd_s, x_hasRaised hk hK, bd_s, b2_0, fin]
        have e : (decide (j = 0) || (decide (rz j = 0) || mrz K (kn j))) = mrz K (kn j) := by simp [z, z2]
        rw [e]
  · have e : okv K v = false := by
      unfold okv
      rw [show inb v 33 = false by simpa using q, Bool.false_and]
    rw [if_neg q, if_neg (by rw [e]; decide)]
theorem m_ld {N i c kk : Nat} {K : Kd} {v1 v : Int32} {w : Wd} {R : Int32 → Int32 → Int32 → Int32 → Wd → Option (Int32 × Wd)} {K194 : Wd → Option (Int32 × Wd)} {K259 : Int32 → Int32 → Int32 → Wd → Option (Int32 × Wd)} (hK : MK N K w) (hi : i < N * N) (hv : (w.1 56 (i / N) < 0 ∧ v = 0) ∨ ((0 : Int32) ≤ w.1 56 (i / N) ∧ v = w.1 58 (12 * (i / N) + i % N))) : b_X10_stand_98 R K194 K259 v1 (nI kk) (nI c) (nI i) w = if okv K v = true then R v1 (nI (kk + kgc v.toNatClampNeg)) (nI (c + nzw v.toNatClampNeg)) (nI (i + 1)) (wdI w 60 i v) else K194 w := by
  have h7 := hK.2.1
  have h5 := hK.2.2.1
  have hNN := NN_le h7
  have hN0 : ¬ nI N = (0 : Int32) := nI_ne0 (by omega) (by omega)
  have em : nI i - nI i / nI N * nI N = nI (i % N) := pk_rem (by omega) (by omega) (by omega)
  have ed : nI i / nI N = nI (i / N) := pk_div (by omega) (by omega) (by omega)
  have hr : i / N < N := (Nat.div_lt_iff_lt_mul (by omega)).mpr hi
  have hc : i % N < N := Nat.mod_lt _ (by omega)
  have fin : ∀ j, j ≤ 32 → f_X10_stand_197 R K194 K259 v1 (nI kk) (nI c) (nI i) (nI j) w = R v1 (nI (kk + kgc j)) (nI (c + nzw j)) (nI (i + 1)) (wdI w 60 i (nI j)) := by
    intro j hj
    unfold f_X10_stand_197 f_X10_stand_217 f_X10_stand_250 f_X10_stand_251 nzw kgc kgw
    rw [inb_nI (show i < 784 by omega) (by omega), if_pos rfl, lw_e, nI_clamp (by omega)]
    by_cases z : j = 0
    · subst z
      rw [if_pos (show nI 0 ≤ (0 : Int32) by decide), lt_e, if_pos (show nI 0 ≤ (0 : Int32) by decide), lt_e, nI_1]
      rw [show nI c + (0 : Int32) = nI (c + 0) from nI_add c 0, show nI kk + (0 : Int32) = nI (kk + 0) from nI_add kk 0]
      rfl
    · have hs : sd j < 2 := (man_chk j (by omega) (by omega)).2.2.2.2.2.1
      have hng : ¬ nI j ≤ (0 : Int32) := fun z2 => z (by have := (nI_leI (b := 0) (by omega) (by omega)).mp z2; omega)
      rw [if_neg hng, lt_e, if_neg hng, m_kindOf (by omega) hj, bd_s, nI_1, nI_1, if_neg z]
      by_cases z2 : kn j = 0
      · rw [if_pos (show nI (kn j) = (0 : Int32) by rw [z2]; rfl), m_sideOf (by omega) hj, bd_s]
        by_cases z3 : sd j = 0
        · rw [if_pos (show nI (sd j) = (0 : Int32) by rw [z3]; rfl), lt_e, if_pos ⟨z, z2, z3⟩, if_neg (fun y => by omega)]
          rw [nI_1 i]
        · have z4 : sd j = 1 := by omega
          rw [if_neg (show ¬ nI (sd j) = (0 : Int32) by rw [z4]; decide), lt_e, if_neg (fun y => by omega), if_pos ⟨z, z2, z4⟩]
          rw [show nI kk + (100 : Int32) = nI (kk + 100) from nI_add kk 100]
          rw [show kk + (0 + 100 * 1) = kk + 100 by omega, nI_1 i]
      · rw [if_neg (show ¬ nI (kn j) = (0 : Int32) from fun y => z2 ((nI_inj (b := 0) (by have : kn j < 8 := Nat.mod_lt _ (by decide); omega) (by omega)).mp y)), lt_e, if_neg (fun y => z2 y.2.1), if_neg (fun y => z2 y.2.1)]
        rw [show nI kk + (0 : Int32) = nI (kk + 0) from nI_add kk 0, nI_1 i]
  have e32 : f_X10_in (Int32.toInt64 v) (0 : Int64) (32 : Int64) w = some (b2i (inb v 33), w) := in0l_e (M := 32) (by omega) w
  have mid : f_X10_stand_154 R K194 K259 v1 (nI kk) (nI c) (nI i) v w = if okv K v = true then R v1 (nI (kk + kgc v.toNatClampNeg)) (nI (c + nzw v.toNatClampNeg)) (nI (i + 1)) (wdI w 60 i v) else K194 w := by
    unfold f_X10_stand_154
    rw [e32, bd_s, b2_0]
    by_cases q : inb v 33 = true
    · obtain ⟨j, hj, rfl⟩ := (inb_iff (by omega)).mp q
      rw [if_pos q, okv_nI (by omega), nI_clamp (by omega)]
      by_cases z : j = 0
      · subst z
        rw [if_pos (show nI 0 ≤ (0 : Int32) by decide), fin 0 (by omega)]
        rfl
      · have hng : ¬ nI j ≤ (0 : Int32) := fun z2 => z (by have := (nI_leI (b := 0) (by omega) (by omega)).mp z2; omega)
        have hk : kn j < 8 := Nat.mod_lt _ (by decide)
        rw [if_neg hng, m_isRaised (by omega) (by omega), bd_s]
        by_cases z2 : rz j = 0
        · rw [if_pos (show nI (rz j) = (0 : Int32) by rw [z2]; rfl), fin j (by omega), if_pos (by simp [z2])]
        · have z3 : rz j = 1 := by have := rz_lt (j := j); omega
          rw [if_neg (show ¬ nI (rz j) = (0 : Int32) by rw [z3]; decide), m_kindOf (by omega) (by omega), bd_s, m_mayRaise hk hK, bd_s, b2_0, fin j (by omega)]
          have e : (decide (j = 0) || (decide (rz j = 0) || mrz K (kn j))) = mrz K (kn j) := by simp [z, z2]
          rw [e]
    · have e : okv K v = false := by
        unfold okv
        rw [show inb v 33 = false by simpa using q, Bool.false_and]
      rw [if_neg q, if_neg (by rw [e]; decide)]
  unfold b_X10_stand_98
  rw [hK.1, pk_mul, if_neg (nI_ge hi (by omega)), if_pos hN0, ed, inb_nI (show i / N < 7 by omega) (by omega), if_pos rfl, nI_clamp (show i / N < 2 ^ 31 by omega)]
  rcases hv with ⟨q1, q2⟩ | ⟨q1, q2⟩
  · rw [if_neg (fun z => (ge0_of z) q1), ← q2]
    exact mid
  · rw [if_pos q1, if_pos hN0, if_pos hN0, show (12 : Int32) * nI (i / N) = nI (12 * (i / N)) from pk_mul 12 _]
    rw [← ed, em, nI_add, inb_nI (show 12 * (i / N) + i % N < 84 by omega) (by omega), if_pos rfl, nI_clamp (by omega), ← q2]
    exact mid
