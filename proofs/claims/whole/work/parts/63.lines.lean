/-! ===== calls on the lines ===== -/
theorem XA.oth3 {N : Nat} {K : Kd} {P : Ps} {w w' : Wd} (h : XA N K P w) (e : ∀ k, (2 ≤ k ∧ k ≤ 10) ∨ (22 ≤ k ∧ k < 28 ∧ k ≠ 26) → w'.1 k = w.1 k) : XA N K P w' := by
  obtain ⟨h1, h2, h3, h4, h5, h6⟩ := h
  refine ⟨?_, ?_, ?_, ?_, ?_, ?_⟩
  · unfold XK at h1 ⊢
    rw [e 22 (by omega), e 3 (by omega), e 6 (by omega), e 7 (by omega)]
    exact h1
  · unfold XD at h2 ⊢
    rw [e 8 (by omega), e 9 (by omega)]
    exact h2
  · unfold XW at h3 ⊢
    rw [e 2 (by omega), e 4 (by omega), e 5 (by omega), e 10 (by omega)]
    exact h3
  · unfold XP XB at h4 ⊢
    rw [e 22 (by omega), e 23 (by omega), e 24 (by omega)]
    exact h4
  · unfold KG at h5 ⊢
    rw [e 25 (by omega)]
    exact h5
  · rw [e 27 (by omega)]
    exact h6
theorem RSs.gen {N : Nat} {K : Kd} {a b c d : Wd} (h : RSs N K a b) (x : ∀ k, (2 ≤ k ∧ k ≤ 10) ∨ (22 ≤ k ∧ k ≤ 28) ∨ 34 < k → c.1 k = a.1 k) (x0 : ∀ j, j = 10 ∨ j = 11 → c.1 0 j = a.1 0 j) (x2 : c.2 = a.2) (y : ∀ k, (60 ≤ k ∧ k ≤ 62) ∨ (78 ≤ k ∧ k ≤ 85) → d.1 k = b.1 k) (y2 : ∀ j, j = 25 ∨ (35 ≤ j ∧ j ≤ 38) → d.1 50 j = b.1 50 j) : RSs N K c d := by
  obtain ⟨h1, h2⟩ := h
  refine ⟨by rw [x2]; exact h1, ?_⟩
  rcases h2 with ⟨q1, q2⟩ | ⟨oc, os, hh, ps, cs, dd, aa, ⟨s1, s2, s3, s4, s5, s6⟩, ⟨m1, m2, m3, m4, m5, m6, m7, m8⟩⟩
  · exact Or.inl ⟨by rw [x0 10 (by omega)]; exact q1, by rw [y2 25 (by omega)]; exact q2⟩
  · refine Or.inr ⟨oc, os, hh, ps, cs, dd, aa, ⟨s1, by rw [x2]; exact s2, s3.oth3 (fun k hk => x k (by omega)), s4.of (x oc (by omega)) (x (oc + 1) (by omega)) (x (oc + 2) (by omega)) (by rw [x2]), ⟨?_, fun j c hj => ?_⟩, ?_⟩, ⟨?_, m2.of (fun k h1 h2 => y k (by omega)), m3, ?_, ?_, ?_, ?_, ?_⟩⟩
    · rw [x0 11 (by omega)]; exact s5.1
    · rw [x 28 (by omega)]; exact s5.2 j c hj
    · rw [x0 10 (by omega)]; exact s6
    · unfold MP at m1 ⊢
      rw [y 60 (by omega), y 61 (by omega), y 62 (by omega)]
      exact m1
    · rw [y2 25 (by omega)]; exact m4
    · rw [y2 35 (by omega)]; exact m5
    · rw [y2 36 (by omega)]; exact m6
    · rw [y2 37 (by omega)]; exact m7
    · rw [y2 38 (by omega)]; exact m8
/-- calls that change lines, told hands and the finding alone -/
theorem Rl.lin {N : Nat} {K : Kd} {wx wm vx vm : Wd} (hB : RBs N K wx wm) (hT : RTs N wx wm) (hC : RCs N wx wm) (hS : RSs N K wx wm) (hL : RLs N vx vm) (hH : RHs vx vm) (hF : RFs vx vm) (x : ∀ k, (2 ≤ k ∧ k ≤ 10) ∨ 22 ≤ k → vx.1 k = wx.1 k) (x0 : ∀ j, j ≠ 12 → vx.1 0 j = wx.1 0 j) (x2 : vx.2 = wx.2) (y : ∀ k, (53 ≤ k ∧ k ≤ 55) ∨ (60 ≤ k ∧ k ≠ 77) → vm.1 k = wm.1 k) (y0 : ∀ j, j ≠ 1 → vm.1 50 j = wm.1 50 j) : Rl N vx vm := by
  obtain ⟨b1, b2, b3, b4⟩ := hB
  refine ⟨K, ⟨by rw [x0 0 (by omega)]; exact b1, b2.of (fun k h1 h2 => x k (by omega)) ⟨by rw [x 22 (by omega)], by rw [x 22 (by omega)]⟩ (by rw [x 27 (by omega)]), ⟨by rw [y0 0 (by decide)]; exact b3.1, b3.2.1, b3.2.2.1, fun t ht => by rw [y 53 (by omega), y 54 (by omega)]; exact b3.2.2.2 t ht⟩, fun k hk => by rw [y 55 (by omega)]; exact b4 k hk⟩, hL, hH, hF, hT.top (fun k hk => x k (by omega)) (y 102 (by omega)) (y0 50 (by omega)), hC.top (fun k h1 h2 => x k (by omega)) (fun k h1 h2 => y k (by omega)) (fun j hj => y0 j (by omega)), hS.gen (fun k hk => x k (by omega)) (fun j hj => x0 j (by omega)) x2 (fun k hk => y k (by omega)) (fun j hj => y0 j (by omega))⟩
theorem Rl.fnd {N : Nat} {wx wm : Wd} (h : Rl N wx wm) (v : Int32) : Rl N (wdI wx 0 12 v) (wdI wm 50 1 v) := by
  obtain ⟨K, hB, hL, hH, hF, hT, hC, hS⟩ := h
  refine Rl.lin hB hT hC hS (hL.top hB.2.2.1.2.1 (fun k h1 h2 => wI_c (by omega)) (fun k h1 h2 => wI_c (by omega))) (hH.top (wI_c (by omega)) (wI_c (by omega))) ?_ (fun k hk => wI_c (by omega)) (fun j hj => wI_n hj) rfl (fun k hk => wI_c (by omega)) (fun j hj => wI_n hj)
  unfold RFs
  rw [wI_s, wI_s]
theorem k_found {N : Nat} {wx wm : Wd} (h : Rl N wx wm) (v : Int32) : CallOk N (f_X9_found N v wx) (f_X10_met v wm) := ⟨(-10 : Int32) - v, _, _, rfl, rfl, h.fnd v⟩
theorem CallOk.bdr {N : Nat} {fx fm : Option (Int32 × Wd)} (h : CallOk N fx fm) : CallOk N (bd fx fun a w => some (a, w)) (bd fm fun a w => some (a, w)) := by
  obtain ⟨v, a, b, rfl, rfl, hr⟩ := h
  exact ⟨v, a, b, rfl, rfl, hr⟩
theorem RLn.of {wx wm vx vm : Wd} {r : Nat} (h : RLn wx wm r) (e1 : vx.1 12 r = wx.1 12 r) (e2 : vx.1 13 r = wx.1 13 r) (e3 : vm.1 56 r = wm.1 56 r) (e4 : vm.1 57 r = wm.1 57 r) (e5 : ∀ i, i < 12 → vx.1 (15 + r) i = wx.1 (15 + r) i) (e6 : ∀ i, i < 12 → vm.1 58 (12 * r + i) = wm.1 58 (12 * r + i)) : RLn vx vm r := by
  unfold RLn at h ⊢
  rw [e1, e2, e3, e4]
  rcases h with q | ⟨f, n, q1, q2, q3, q4, q5⟩
  · exact Or.inl q
  · exact Or.inr ⟨f, n, q1, q2, q3, q4, fun i hi => by rw [e5 i (by omega), e6 i (by omega)]; exact q5 i hi⟩
theorem x_isForm {N : Nat} (v : Int32) (w : Wd) : f_X1_isForm N v w = some (b2i (inb v 3), w) := by
  unfold f_X1_isForm f_X1_isForm_13 f_X1_isForm_14
  rcases pk_ix v (n := 3) (by omega) with h | h | ⟨j, hj, rfl⟩
  · have : inb v 3 = false := by
      cases q : inb v 3 with
      | false => rfl
      | true => exact absurd (Or.inl h) (inb_in q)
    rw [if_pos h, this]; rfl
  · have h0 : inb v 3 = false := by
      cases q : inb v 3 with
      | false => rfl
      | true =>
        obtain ⟨j, hj, rfl⟩ := (inb_iff (by omega)).mp q
        exact absurd h (nI_ge hj (by omega))
    have h1 : ¬ v < 0 := by
      rw [Int32.lt_iff_toInt_lt]
      rw [Int32.le_iff_toInt_le] at h
      have : (nI 3).toInt = 3 := by decide
      have : (0 : Int32).toInt = 0 := by decide
      omega
    have h2 : (2 : Int32) < v := by
      rw [Int32.lt_iff_toInt_lt]
      rw [Int32.le_iff_toInt_le] at h
      have : (nI 3).toInt = 3 := by decide
      have : (2 : Int32).toInt = 2 := by decide
      omega
    rw [if_neg h1, if_pos h2, h0]; rfl
  · rw [if_neg (nI_pos (by omega)), if_neg (show ¬ (2 : Int32) < nI j from nI_nlt (a := 2) (by omega) (by omega)), inb_nI hj (by omega)]; rfl
theorem x_rnl {N r : Nat} (h7 : N ≤ 7) (hr : r < N) (K : Wd → Option (Unit × Wd)) : ∀ (m i : Nat) (w : Wd), i + m = 12 → (∀ j, j < i → w.1 (15 + r) j = 0) → ∀ n, m < n → ∃ w', l_X1_renew_17 N K n (nI r) (nI i) w = K w' ∧ (∀ j, j < 12 → w'.1 (15 + r) j = 0) ∧ w'.2 = w.2 ∧ ∀ k, k ≠ 15 + r → w'.1 k = w.1 k
  | 0, i, w, hi, h0, n, hn => by
    obtain ⟨n, rfl⟩ : ∃ k, n = k + 1 := ⟨n - 1, by omega⟩
    refine ⟨w, ?_, fun j hj => h0 j (by omega), rfl, fun _ _ => rfl⟩
    show b_X1_renew_17 N (l_X1_renew_17 N K n) K (nI r) (nI i) w = K w
    unfold b_X1_renew_17
    rw [if_pos (show (12 : Int32) ≤ nI i from nI_le (a := 12) (by omega) (by omega))]
  | m + 1, i, w, hi, h0, n, hn => by
    obtain ⟨n, rfl⟩ : ∃ k, n = k + 1 := ⟨n - 1, by omega⟩
    obtain ⟨w', a1, a2, a3, a4⟩ := x_rnl h7 hr K m (i + 1) (wdI w (15 + r) i 0) (by omega) (fun j hj => by
      rcases Nat.lt_succ_iff_lt_or_eq.mp hj with q | q
      · rw [wI_n (by omega)]; exact h0 j q
      · rw [q, wI_s]) n (by omega)
    refine ⟨w', ?_, a2, a3, fun k hk => (a4 k hk).trans (wI_c hk)⟩
    show b_X1_renew_17 N (l_X1_renew_17 N K n) K (nI r) (nI i) w = K w'
    unfold b_X1_renew_17
    rw [if_neg (show ¬ (12 : Int32) ≤ nI i from nI_ge (b := 12) (by omega) (by omega)), inb_nI hr (by omega), if_pos rfl, inb_nI (show i < 12 by omega) (by omega), if_pos rfl, lw_e, nI_clamp (by omega), nI_clamp (by omega), nI_1]
    exact a1
theorem x_renew {N r : Nat} {w : Wd} (h7 : N ≤ 7) (hr : r < N) (v2 v3 : Int32) : ∃ w', f_X1_renew N (nI r) v2 v3 w = some ((), w') ∧ w'.2 = w.2 ∧ (∀ k, k ≠ 12 → k ≠ 13 → k ≠ 15 + r → w'.1 k = w.1 k) ∧ (w'.1 12 r = v2 ∧ w'.1 13 r = v3) ∧ (∀ j, j ≠ r → w'.1 12 j = w.1 12 j ∧ w'.1 13 j = w.1 13 j) ∧ ∀ i, i < 12 → w'.1 (15 + r) i = 0 := by
  obtain ⟨w', a1, a2, a3, a4⟩ := x_rnl (N := N) h7 hr (f_X1_renew_40 N) 12 0 (wdI (wdI w 12 r v2) 13 r v3) (by omega) (fun j hj => by omega) FU (FU_big (by omega))
  refine ⟨w', ?_, a3, fun k h1 h2 h3 => ?_, ⟨?_, ?_⟩, fun j hj => ⟨?_, ?_⟩, a2⟩
  · unfold f_X1_renew
    rw [inb_nI hr (by omega), if_pos rfl, lw_e, if_pos rfl, lw_e, nI_clamp (by omega)]
    exact a1
  · rw [a4 k h3, wI_c h2, wI_c h1]
  · rw [a4 12 (by omega), wI_c (by decide), wI_s]
  · rw [a4 13 (by omega), wI_s]
  · rw [a4 12 (by omega), wI_c (by decide), wI_n hj]
  · rw [a4 13 (by omega), wI_n hj, wI_c (by decide)]
theorem m_lnl {r n3 : Nat} (hr : r < 7) (h3 : n3 ≤ 12) (K : Int32 → Wd → Option (Int32 × Wd)) : ∀ (m i : Nat) (w : Wd), i + m = n3 → (∀ j, j < i → w.1 58 (12 * r + j) = 0) → ∀ n, m < n → ∃ w', l_X10_line_56 K n (nI r) (nI n3) (nI i) w = K (nI n3) w' ∧ (∀ j, j < n3 → w'.1 58 (12 * r + j) = 0) ∧ w'.2 = w.2 ∧ (∀ k, k ≠ 58 → w'.1 k = w.1 k) ∧ ∀ q, q ≠ r → ∀ j, j < 12 → w'.1 58 (12 * q + j) = w.1 58 (12 * q + j)
  | 0, i, w, hi, h0, n, hn => by
    obtain ⟨n, rfl⟩ : ∃ k, n = k + 1 := ⟨n - 1, by omega⟩
    refine ⟨w, ?_, fun j hj => h0 j (by omega), rfl, fun _ _ => rfl, fun _ _ _ _ => rfl⟩
    show b_X10_line_56 (l_X10_line_56 K n) K (nI r) (nI n3) (nI i) w = K (nI n3) w
    unfold b_X10_line_56
    rw [if_pos (nI_le (by omega) (by omega))]
  | m + 1, i, w, hi, h0, n, hn => by
    obtain ⟨n, rfl⟩ : ∃ k, n = k + 1 := ⟨n - 1, by omega⟩
    obtain ⟨w', a1, a2, a3, a4, a5⟩ := m_lnl hr h3 K m (i + 1) (wdI w 58 (12 * r + i) 0) (by omega) (fun j hj => by
      rcases Nat.lt_succ_iff_lt_or_eq.mp hj with q | q
      · rw [wI_n (by omega)]; exact h0 j q
      · rw [q, wI_s]) n (by omega)
    refine ⟨w', ?_, a2, a3, fun k hk => (a4 k hk).trans (wI_c hk), fun q hq j hj => (a5 q hq j hj).trans (wI_n (by omega))⟩
    show b_X10_line_56 (l_X10_line_56 K n) K (nI r) (nI n3) (nI i) w = K (nI n3) w'
    unfold b_X10_line_56
    rw [if_neg (nI_ge (by omega) (by omega)), show (12 : Int32) * nI r = nI (12 * r) from pk_mul 12 r, nI_add, inb_nI (show 12 * r + i < 84 by omega) (by omega), if_pos rfl, lw_e, nI_clamp (by omega), nI_1]
    exact a1
theorem m_form {v : Int32} (w : Wd) : f_X10_in (Int32.toInt64 v) (0 : Int64) (2 : Int64) w = some (b2i (inb v 3), w) := in0l_e (M := 2) (by omega) w
theorem ge0_of {v : Int32} (h : (0 : Int32) ≤ v) : ¬ v < 0 := by
  rw [Int32.le_iff_toInt_le] at h
  rw [Int32.lt_iff_toInt_lt]
  omega
theorem k_line {N : Nat} {wx wm : Wd} {v1 v2 v3 : Int32} (h : Rl N wx wm) : CallOk N (f_X9_line N v1 v2 v3 wx) (f_X10_line v1 v2 v3 wm) := by
  have hh := h
  obtain ⟨K, hB, hL, hH, hF, hT, hC, hS⟩ := hh
  have h7 := hB.2.2.1.2.1
  have h5 := hB.2.2.1.2.2.1
  unfold f_X9_line f_X10_line
  rw [x_isLine hL.1 h7, m_isLine hB.2.2.1.1 h7 h5, bd_s, bd_s, ite10, ite10]
  by_cases q1 : inb v1 N = true
  · obtain ⟨r, hr, rfl⟩ := (inb_iff (by omega)).mp q1
    rw [if_pos q1, if_pos q1, x_isForm, m_form, bd_s, bd_s, b2_0, b2_0]
    by_cases q2 : inb v2 3 = true
    · obtain ⟨f, hf, rfl⟩ := (inb_iff (by omega)).mp q2
      rw [if_pos q2, if_pos q2]
      by_cases q3 : v3 ≤ (12 : Int32)
      · rw [if_pos q3, if_pos q3]
        by_cases q4 : (0 : Int32) ≤ v3
        · obtain ⟨n3, g1, rfl⟩ := nI_of (ge0_of q4)
          have g2 : n3 ≤ 12 := (nI_leI (b := 12) g1 (by omega)).mp q3
          obtain ⟨vx, a1, a2, a3, a4, a5, a6⟩ := x_renew (w := wx) h7 hr (nI f) (nI n3)
          obtain ⟨vm, b1, b2, b3, b4, b5⟩ := m_lnl (r := r) (by omega) g2 f_X10_line_81 n3 0 (wdI (wdI wm 56 r (nI f)) 57 r (nI n3)) (by omega) (fun j hj => by omega) FU (FU_big (by omega))
          have b1' : l_X10_line_56 f_X10_line_81 FU (nI r) (nI n3) (0 : Int32) (wdI (wdI wm 56 r (nI f)) 57 r (nI n3)) = f_X10_line_81 (nI n3) vm := b1
          rw [if_pos q4, if_pos q4, a1, bd_s, inb_nI (show r < 7 by omega) (by omega), if_pos rfl, lw_e, if_pos rfl, lw_e, nI_clamp (by omega), b1']
          refine ⟨nI n3, vx, vm, rfl, rfl, Rl.lin hB hT hC hS ⟨?_, fun r' hr' => ?_⟩ (hH.top (a3 1 (by omega) (by omega) (by omega)) ((b4 77 (by decide)).trans ((wI_c (by decide)).trans (wI_c (by decide))))) ?_ (fun k hk => a3 k (by omega) (by omega) (by omega)) (fun j hj => by rw [a3 0 (by omega) (by omega) (by omega)]) a2 (fun k hk => (b4 k (by omega)).trans ((wI_c (by omega)).trans (wI_c (by omega)))) (fun j hj => by rw [b4 50 (by decide), wI_c (by decide), wI_c (by decide)])⟩
          · rw [a3 11 (by omega) (by omega) (by omega)]; exact hL.1
          · by_cases e : r' = r
            · subst e
              refine Or.inr ⟨f, n3, hf, g2, ⟨a4.1, ?_⟩, ⟨a4.2, ?_⟩, fun i hi => ?_⟩
              · rw [b4 56 (by decide), wI_c (by decide), wI_s]
              · rw [b4 57 (by decide), wI_s]
              · rw [a6 i (by omega), b2 i hi]
            · refine (hL.2 r' hr').of (a5 r' e).1 (a5 r' e).2 ?_ ?_ (fun i hi => by rw [a3 (15 + r') (by omega) (by omega) (by omega)]) (fun i hi => ?_)
              · rw [b4 56 (by decide), wI_c (by decide), wI_n e]
              · rw [b4 57 (by decide), wI_n e, wI_c (by decide)]
              · rw [b5 r' e i hi, wI_c (by decide), wI_c (by decide)]
          · unfold RFs at hF ⊢
            rw [a3 0 (by omega) (by omega) (by omega), b4 50 (by decide), wI_c (by decide), wI_c (by decide)]
            exact hF
        · rw [if_neg q4, if_neg q4]
          exact (k_found h 5).bdr
      · rw [if_neg q3, if_neg q3]
        exact h.same _ rfl rfl
    · rw [if_neg q2, if_neg q2]
      exact h.same _ rfl rfl
  · rw [if_neg q1, if_neg q1]
    exact h.same _ rfl rfl
