/-! ===== digest ===== -/
theorem k_hasv {N s k : Nat} {wx wm : Wd} (h : Rl N wx wm) (hs : s < 2) (k1 : 1 ≤ k) (k2 : k < 8) : ∃ v, f_X9_inHand N (nI s) (nI k) wx = some (v, wx) ∧ f_X10_has (nI s) (nI k) wm = some (v, wm) := by
  obtain ⟨K, hB, hL, hH, hF, hT, hC, hS⟩ := h
  have q1 : isS (nI s) = true := by
    rcases (show s = 0 ∨ s = 1 by omega) with rfl | rfl <;> decide
  have q2 : isH (nI k) = true := isH_iff.mpr ⟨k, k1, k2, rfl⟩
  unfold f_X9_inHand f_X9_inHand_35 f_X10_has f_X10_has_57
  rw [m_side, bd_s, b2_0, if_pos q1, m_handKind, bd_s, b2_0, if_pos q2, ix_hk hs k2, inb_nI (show 8 * s + k < 16 by omega) (by omega), inb_nI (show 8 * s + k < 256 by omega) (by omega), nI_clamp (by omega)]
  simp only [if_true]
  rcases hS.2 with ⟨f1, f2⟩ | ⟨oc, os, hw, ps, cs, d, a, sx, m⟩
  · obtain ⟨v, g1, g2, g3, g4⟩ := hH (8 * s + k) (by omega)
    rw [if_pos f1, if_pos f2, g2, g3]
    exact ⟨_, rfl, rfl⟩
  · have e1 := (sx.2.2.1.2.2.2.1.2.1 (8 * s + k) (by omega)).1
    have e2 := (m.1.2.2.1 (8 * s + k) (by omega)).1
    rw [Nat.mul_zero, Nat.zero_add] at e2
    rw [if_neg (xs0 sx), if_neg (ms0 m), e1, e2]
    exact ⟨_, rfl, rfl⟩
theorem k_dg1 {N : Nat} {wx wm : Wd} (h : Rl N wx wm) (Kx Km : Int64 → Wd → Option (Int64 × Wd)) : ∀ (m i : Nat) (acc : Int64), i + m = N * N → ∀ n, m < n → ∃ acc', l_X9_digest_6 N Kx n acc (nI i) wx = Kx acc' wx ∧ l_X10_digest_6 Km n acc (nI i) wm = Km acc' wm := by
  obtain ⟨K, hB, hL, hH, hF, hT, hC, hS⟩ := h
  have h7 := hB.2.2.1.2.1
  have hNN := NN_le h7
  intro m
  induction m with
  | zero =>
    intro i acc hi n hn
    obtain ⟨n, rfl⟩ : ∃ k, n = k + 1 := ⟨n - 1, by omega⟩
    refine ⟨acc, ?_, ?_⟩
    · show b_X9_digest_6 N (l_X9_digest_6 N Kx n) Kx acc (nI i) wx = _
      unfold b_X9_digest_6
      rw [hB.1, if_pos (nI_le (by omega) (by omega))]
    · show b_X10_digest_6 (l_X10_digest_6 Km n) Km acc (nI i) wm = _
      unfold b_X10_digest_6
      rw [hB.2.2.1.1, pk_mul, if_pos (nI_le (by omega) (by omega))]
  | succ m ih =>
    intro i acc hi n hn
    obtain ⟨n, rfl⟩ : ∃ k, n = k + 1 := ⟨n - 1, by omega⟩
    have fin : ∀ v : Int32, f_X9_digest_39 N (l_X9_digest_6 N Kx n) Kx (nI i) ((31 : Int64) * acc) v wx = b_X9_digest_6 N (l_X9_digest_6 N Kx n) Kx acc (nI i) wx → f_X10_digest_41 (l_X10_digest_6 Km n) Km (nI i) ((31 : Int64) * acc) v wm = b_X10_digest_6 (l_X10_digest_6 Km n) Km acc (nI i) wm → ∃ acc', l_X9_digest_6 N Kx (n + 1) acc (nI i) wx = Kx acc' wx ∧ l_X10_digest_6 Km (n + 1) acc (nI i) wm = Km acc' wm := by
      intro v ex em
      obtain ⟨acc', r1, r2⟩ := ih (i + 1) ((31 : Int64) * acc + v.toInt64) (by omega) n (by omega)
      refine ⟨acc', ?_, ?_⟩
      · show b_X9_digest_6 N (l_X9_digest_6 N Kx n) Kx acc (nI i) wx = _
        rw [← ex]
        unfold f_X9_digest_39
        rw [lj_e, nI_1]
        exact r1
      · show b_X10_digest_6 (l_X10_digest_6 Km n) Km acc (nI i) wm = _
        rw [← em]
        unfold f_X10_digest_41
        rw [lj_e, nI_1]
        exact r2
    rcases hS.2 with ⟨f1, f2⟩ | ⟨oc, os, hw, ps, cs, d, a, sx, mm⟩
    · refine fin 0 ?_ ?_
      · unfold b_X9_digest_6
        rw [hB.1, if_neg (nI_ge (by omega) (by omega)), if_pos f1]
      · unfold b_X10_digest_6
        rw [hB.2.2.1.1, pk_mul, if_neg (nI_ge (by omega) (by omega)), if_pos f2]
    · have e1 := (sx.2.2.1.2.2.2.1.1 i (by omega)).1
      have e2 := (mm.1.2.1 i (by omega)).1
      rw [Nat.mul_zero, Nat.zero_add] at e2
      refine fin (nI ((ps d).1 i)) ?_ ?_
      · unfold b_X9_digest_6
        rw [hB.1, if_neg (nI_ge (by omega) (by omega)), if_neg (xs0 sx), inb_nI (show i < N * N by omega) (by omega), if_pos rfl, nI_clamp (by omega), e1]
      · unfold b_X10_digest_6
        rw [hB.2.2.1.1, pk_mul, if_neg (nI_ge (by omega) (by omega)), if_neg (ms0 mm), inb_nI (show i < 784 by omega) (by omega), if_pos rfl, nI_clamp (by omega), e2]
theorem k_dg2 {N s : Nat} {wx wm : Wd} (h : Rl N wx wm) (hs : s < 2) (Kx Km : Int64 → Int32 → Wd → Option (Int64 × Wd)) : ∀ (m k : Nat) (acc : Int64), k + m = 8 → 1 ≤ k → ∀ n, m < n → ∃ acc', l_X9_digest_58 N Kx n acc (nI s) (nI k) wx = Kx acc' (nI s) wx ∧ l_X10_digest_60 Km n acc (nI s) (nI k) wm = Km acc' (nI s) wm := by
  intro m
  induction m with
  | zero =>
    intro k acc hk k1 n hn
    obtain ⟨n, rfl⟩ : ∃ k, n = k + 1 := ⟨n - 1, by omega⟩
    refine ⟨acc, ?_, ?_⟩
    · show b_X9_digest_58 N (l_X9_digest_58 N Kx n) Kx acc (nI s) (nI k) wx = _
      unfold b_X9_digest_58
      rw [if_pos (show (8 : Int32) ≤ nI k from nI_le (a := 8) (by omega) (by omega))]
    · show b_X10_digest_60 (l_X10_digest_60 Km n) Km acc (nI s) (nI k) wm = _
      unfold b_X10_digest_60
      rw [if_pos (show (8 : Int32) ≤ nI k from nI_le (a := 8) (by omega) (by omega))]
  | succ m ih =>
    intro k acc hk k1 n hn
    obtain ⟨n, rfl⟩ : ∃ k, n = k + 1 := ⟨n - 1, by omega⟩
    obtain ⟨v, e1, e2⟩ := k_hasv h hs k1 (show k < 8 by omega)
    obtain ⟨acc', r1, r2⟩ := ih (k + 1) ((31 : Int64) * acc + v.toInt64) (by omega) (by omega) n (by omega)
    refine ⟨acc', ?_, ?_⟩
    · show b_X9_digest_58 N (l_X9_digest_58 N Kx n) Kx acc (nI s) (nI k) wx = _
      unfold b_X9_digest_58
      rw [if_neg (show ¬ (8 : Int32) ≤ nI k from nI_ge (b := 8) (by omega) (by omega)), e1, bd_s, lj_e, nI_1]
      exact r1
    · show b_X10_digest_60 (l_X10_digest_60 Km n) Km acc (nI s) (nI k) wm = _
      unfold b_X10_digest_60
      rw [if_neg (show ¬ (8 : Int32) ≤ nI k from nI_ge (b := 8) (by omega) (by omega)), e2, bd_s, lj_e, nI_1]
      exact r2
theorem k_dg3 {N : Nat} {wx wm : Wd} (h : Rl N wx wm) (Kx Km : Int64 → Wd → Option (Int64 × Wd)) : ∀ (m s : Nat) (acc : Int64), s + m = 2 → ∀ n, m < n → ∃ acc', l_X9_digest_50 N Kx n acc (nI s) wx = Kx acc' wx ∧ l_X10_digest_52 Km n acc (nI s) wm = Km acc' wm := by
  intro m
  induction m with
  | zero =>
    intro s acc hs n hn
    obtain ⟨n, rfl⟩ : ∃ k, n = k + 1 := ⟨n - 1, by omega⟩
    refine ⟨acc, ?_, ?_⟩
    · show b_X9_digest_50 N (l_X9_digest_50 N Kx n) Kx acc (nI s) wx = _
      unfold b_X9_digest_50
      rw [if_pos (show (2 : Int32) ≤ nI s from nI_le (a := 2) (by omega) (by omega))]
    · show b_X10_digest_52 (l_X10_digest_52 Km n) Km acc (nI s) wm = _
      unfold b_X10_digest_52
      rw [if_pos (show (2 : Int32) ≤ nI s from nI_le (a := 2) (by omega) (by omega))]
  | succ m ih =>
    intro s acc hs n hn
    obtain ⟨n, rfl⟩ : ∃ k, n = k + 1 := ⟨n - 1, by omega⟩
    obtain ⟨a1, e1, e2⟩ := k_dg2 (s := s) h (by omega) (f_X9_digest_86 N (l_X9_digest_50 N Kx n) Kx) (f_X10_digest_88 (l_X10_digest_52 Km n) Km) 7 1 acc (by omega) (by omega) FU (FU_big (by omega))
    have e1' : l_X9_digest_58 N (f_X9_digest_86 N (l_X9_digest_50 N Kx n) Kx) FU acc (nI s) (1 : Int32) wx = _ := e1
    have e2' : l_X10_digest_60 (f_X10_digest_88 (l_X10_digest_52 Km n) Km) FU acc (nI s) (1 : Int32) wm = _ := e2
    obtain ⟨acc', r1, r2⟩ := ih (s + 1) a1 (by omega) n (by omega)
    refine ⟨acc', ?_, ?_⟩
    · show b_X9_digest_50 N (l_X9_digest_50 N Kx n) Kx acc (nI s) wx = _
      unfold b_X9_digest_50
      rw [if_neg (show ¬ (2 : Int32) ≤ nI s from nI_ge (b := 2) (by omega) (by omega)), e1']
      unfold f_X9_digest_86
      rw [nI_1]
      exact r1
    · show b_X10_digest_52 (l_X10_digest_52 Km n) Km acc (nI s) wm = _
      unfold b_X10_digest_52
      rw [if_neg (show ¬ (2 : Int32) ≤ nI s from nI_ge (b := 2) (by omega) (by omega)), e2']
      unfold f_X10_digest_88
      rw [nI_1]
      exact r2
theorem k_dg4 {N : Nat} {wx wm : Wd} (h : Rl N wx wm) (Kx Km : Int64 → Wd → Option (Int64 × Wd)) : ∀ (m i : Nat) (acc : Int64), i + m = 5 → ∀ n, m < n → ∃ acc', l_X9_digest_94 N Kx n acc (nI i) wx = Kx acc' wx ∧ l_X10_digest_96 Km n acc (nI i) wm = Km acc' wm := by
  obtain ⟨K, hB, hL, hH, hF, hT, hC, hS⟩ := h
  intro m
  induction m with
  | zero =>
    intro i acc hi n hn
    obtain ⟨n, rfl⟩ : ∃ k, n = k + 1 := ⟨n - 1, by omega⟩
    refine ⟨acc, ?_, ?_⟩
    · show b_X9_digest_94 N (l_X9_digest_94 N Kx n) Kx acc (nI i) wx = _
      unfold b_X9_digest_94
      rw [if_pos (show (5 : Int32) ≤ nI i from nI_le (a := 5) (by omega) (by omega))]
    · show b_X10_digest_96 (l_X10_digest_96 Km n) Km acc (nI i) wm = _
      unfold b_X10_digest_96
      rw [if_pos (show (5 : Int32) ≤ nI i from nI_le (a := 5) (by omega) (by omega))]
  | succ m ih =>
    intro i acc hi n hn
    obtain ⟨n, rfl⟩ : ∃ k, n = k + 1 := ⟨n - 1, by omega⟩
    have fin : ∀ v : Int32, f_X9_digest_120 N (l_X9_digest_94 N Kx n) Kx (nI i) ((31 : Int64) * acc) v wx = b_X9_digest_94 N (l_X9_digest_94 N Kx n) Kx acc (nI i) wx → f_X10_digest_122 (l_X10_digest_96 Km n) Km (nI i) ((31 : Int64) * acc) v wm = b_X10_digest_96 (l_X10_digest_96 Km n) Km acc (nI i) wm → ∃ acc', l_X9_digest_94 N Kx (n + 1) acc (nI i) wx = Kx acc' wx ∧ l_X10_digest_96 Km (n + 1) acc (nI i) wm = Km acc' wm := by
      intro v ex em
      obtain ⟨acc', r1, r2⟩ := ih (i + 1) ((31 : Int64) * acc + v.toInt64) (by omega) n (by omega)
      refine ⟨acc', ?_, ?_⟩
      · show b_X9_digest_94 N (l_X9_digest_94 N Kx n) Kx acc (nI i) wx = _
        rw [← ex]
        unfold f_X9_digest_120
        rw [lj_e, nI_1]
        exact r1
      · show b_X10_digest_96 (l_X10_digest_96 Km n) Km acc (nI i) wm = _
        rw [← em]
        unfold f_X10_digest_122
        rw [lj_e, nI_1]
        exact r2
    have h5 : ¬ (5 : Int32) ≤ nI i := nI_ge (b := 5) (by omega) (by omega)
    rcases hS.2 with ⟨f1, f2⟩ | ⟨oc, os, hw, ps, cs, d, a, sx, mm⟩
    · refine fin 0 ?_ ?_
      · unfold b_X9_digest_94
        rw [if_neg h5, if_pos f1]
      · unfold b_X10_digest_96
        rw [if_neg h5, if_pos f2]
    · obtain ⟨v, e1, e2⟩ := k_ofPlay hB sx mm (show i ≤ 5 by omega)
      refine fin v ?_ ?_
      · unfold b_X9_digest_94
        rw [if_neg h5, if_neg (xs0 sx), e1, bd_s]
      · unfold b_X10_digest_96
        rw [if_neg h5, if_neg (ms0 mm), e2, bd_s]
theorem k_digest {N : Nat} {wx wm : Wd} (h : Rl N wx wm) : CallOk N (f_X9_digest N wx) (f_X10_digest wm) := by
  have hh := h
  obtain ⟨K, hB, hL, hH, hF, hT, hC, hS⟩ := hh
  have hNN := NN_le hB.2.2.1.2.1
  obtain ⟨a1, x1, y1⟩ := k_dg1 h (f_X9_digest_48 N) f_X10_digest_50 (N * N) 0 17 (by omega) FU (FU_big (by omega))
  obtain ⟨a2, x2, y2⟩ := k_dg3 h (f_X9_digest_92 N) f_X10_digest_94 2 0 a1 (by omega) FU (FU_big (by omega))
  obtain ⟨a3, x3, y3⟩ := k_dg4 h (f_X9_digest_129 N) f_X10_digest_131 5 0 a2 (by omega) FU (FU_big (by omega))
  exact ⟨a3, wx, wm, x1.trans (x2.trans x3), y1.trans (y2.trans y3), h⟩
