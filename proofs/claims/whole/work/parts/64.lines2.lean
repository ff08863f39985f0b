/-! ===== calls on the lines: lose, put, get, copy ===== -/
theorem x_isLost {N r : Nat} {w : Wd} (h7 : N ≤ 7) (hr : r < N) : (w.1 13 r = -1 → f_X1_isLost N (nI r) w = some (1, w)) ∧ ∀ n, n ≤ 12 → w.1 13 r = nI n → f_X1_isLost N (nI r) w = some (0, w) := by
  unfold f_X1_isLost f_X1_isLost_14
  rw [inb_nI hr (by omega), if_pos rfl, nI_clamp (by omega)]
  refine ⟨fun e => ?_, fun n hn e => ?_⟩
  · rw [e]; rfl
  · rw [e, if_pos (nI_pos' (by omega))]; rfl
theorem k_lose {N : Nat} {wx wm : Wd} {v1 : Int32} (h : Rl N wx wm) : CallOk N (f_X9_lose N v1 wx) (f_X10_lose v1 wm) := by
  have hh := h
  obtain ⟨K, hB, hL, hH, hF, hT, hC, hS⟩ := hh
  have h7 := hB.2.2.1.2.1
  have h5 := hB.2.2.1.2.2.1
  unfold f_X9_lose f_X10_lose
  rw [x_isLine hL.1 h7, m_isLine hB.2.2.1.1 h7 h5, bd_s, bd_s, ite10, ite10]
  by_cases q1 : inb v1 N = true
  · obtain ⟨r, hr, rfl⟩ := (inb_iff (by omega)).mp q1
    have iL := x_isLost (w := wx) h7 hr
    rw [if_pos q1, if_pos q1, inb_nI (show r < 7 by omega) (by omega), if_pos rfl, nI_clamp (by omega)]
    rcases hL.2 r hr with ⟨g1, g2⟩ | ⟨f, n, g1, g2, g3, g4, g5⟩
    · rw [iL.1 g1, bd_s, if_neg (by decide), g2, if_neg (by decide)]
      exact (k_found h 1).bdr
    · rw [iL.2 n g2 g4.1, bd_s, if_pos rfl, if_pos q1, lt_e, if_pos q1, lw_e, g3.2, if_pos (nI_pos' (by omega)), if_pos rfl, lw_e, if_pos rfl, g4.1, wI_c (by decide), g4.2]
      refine ⟨nI n, _, _, rfl, rfl, Rl.lin hB hT hC hS ⟨?_, fun r' hr' => ?_⟩ (hH.top (wI_c (by decide)) (wI_c (by decide))) ?_ (fun k hk => wI_c (by omega)) (fun j hj => by rw [wI_c (by decide)]) rfl (fun k hk => wI_c (by omega)) (fun j hj => by rw [wI_c (by decide)])⟩
      · rw [wI_c (by decide)]; exact hL.1
      · by_cases e : r' = r
        · subst e
          exact Or.inl ⟨wI_s, wI_s⟩
        · refine (hL.2 r' hr').of (by rw [wI_c (by decide)]) (wI_n e) (wI_n e) (by rw [wI_c (by decide)]) (fun i hi => by rw [wI_c (by omega)]) (fun i hi => by rw [wI_c (by decide)])
      · unfold RFs at hF ⊢
        rw [wI_c (by decide), wI_c (by decide)]
        exact hF
  · rw [if_neg q1, if_neg q1]
    exact h.same _ rfl rfl
/-- what an item lacks: the same on both -/
theorem k_lacks {N r : Nat} {wx wm : Wd} {v2 v3 : Int32} (h7 : N ≤ 7) (hL : RLs N wx wm) (hr : r < N) : (∃ f n j : Nat, f < 3 ∧ n ≤ 12 ∧ j < n ∧ v2 = nI f ∧ v3 = nI j ∧ (wx.1 12 r = nI f ∧ wm.1 56 r = nI f) ∧ (wx.1 13 r = nI n ∧ wm.1 57 r = nI n) ∧ (∀ i, i < n → wx.1 (15 + r) i = wm.1 58 (12 * r + i)) ∧ f_X1_faultOfItem N (nI r) v2 v3 wx = some (0, wx) ∧ f_X10_lacks (nI r) v2 v3 wm = some (0, wm)) ∨ ∃ t : Nat, 1 ≤ t ∧ t ≤ 3 ∧ f_X1_faultOfItem N (nI r) v2 v3 wx = some (nI t, wx) ∧ f_X10_lacks (nI r) v2 v3 wm = some ((-10 : Int32) - nI t, wdI wm 50 1 (nI t)) := by
  have iL := x_isLost (w := wx) h7 hr
  unfold f_X1_faultOfItem f_X10_lacks f_X1_faultOfItem_36 f_X1_faultOfItem_41 f_X10_lacks_58
  rw [inb_nI (show r < 7 by omega) (by omega), if_pos rfl, inb_nI hr (by omega), nI_clamp (by omega), if_pos rfl]
  rcases hL.2 r hr with ⟨g1, g2⟩ | ⟨f, n, g1, g2, g3, g4, g5⟩
  · refine Or.inr ⟨1, by omega, by omega, ?_, ?_⟩
    · rw [iL.1 g1, bd_s, if_neg (by decide)]; rfl
    · rw [g2, if_neg (by decide)]; rfl
  · rw [iL.2 n g2 g4.1, bd_s, if_pos rfl, g3.1, g3.2, if_pos (nI_pos' (by omega)), if_pos rfl, g4.1, g4.2, if_pos rfl, in0_n (by omega), bd_s, b2_0, if_pos rfl]
    by_cases e : nI f = v2
    · rw [if_pos e, if_pos e, lo_hi (by omega)]
      by_cases q : inb v3 n = true
      · obtain ⟨j, hj, rfl⟩ := (inb_iff (by omega)).mp q
        rw [if_pos q, if_pos q]
        exact Or.inl ⟨f, n, j, g1, g2, hj, e.symm, rfl, ⟨rfl, rfl⟩, ⟨rfl, rfl⟩, g5, rfl, rfl⟩
      · rw [if_neg q, if_neg q]
        exact Or.inr ⟨2, by omega, by omega, rfl, rfl⟩
    · rw [if_neg e, if_neg e]
      exact Or.inr ⟨3, by omega, by omega, rfl, rfl⟩
theorem x_narrowed {N f : Nat} {v4 : Int32} (hf : f < 3) (w : Wd) : f_X1_narrowed N (nI f) v4 w = some (if nI f = (0 : Int32) then (Int32.toInt8 v4).toInt32 else if nI f = (1 : Int32) then ((Int32.toUInt32 v4) % 65536).toInt32 else (Int32.toInt16 v4).toInt32, w) := by
  unfold f_X1_narrowed f_X1_narrowed_19
  by_cases q : nI f = (0 : Int32)
  · rw [if_pos q, if_pos q]
  · rw [if_neg q, if_neg q]
    by_cases q : nI f = (1 : Int32)
    · rw [if_pos q, if_pos q]
    · rw [if_neg q, if_neg q]
theorem ng_ne {t : Nat} (h : 1 ≤ t) (h3 : t ≤ 3) : ¬ (-10 : Int32) - nI t = (0 : Int32) ∧ ¬ nI t = (0 : Int32) := by
  rcases (show t = 1 ∨ t = 2 ∨ t = 3 by omega) with rfl | rfl | rfl <;> decide
theorem k_put {N : Nat} {wx wm : Wd} {v1 v2 v3 v4 : Int32} (h : Rl N wx wm) : CallOk N (f_X9_put N v1 v2 v3 v4 wx) (f_X10_put v1 v2 v3 v4 wm) := by
  have hh := h
  obtain ⟨K, hB, hL, hH, hF, hT, hC, hS⟩ := hh
  have h7 := hB.2.2.1.2.1
  have h5 := hB.2.2.1.2.2.1
  unfold f_X9_put f_X10_put
  rw [x_isLine hL.1 h7, m_isLine hB.2.2.1.1 h7 h5, bd_s, bd_s, ite10, ite10]
  by_cases q1 : inb v1 N = true
  · obtain ⟨r, hr, rfl⟩ := (inb_iff (by omega)).mp q1
    rw [if_pos q1, if_pos q1, x_isForm, m_form, bd_s, bd_s, b2_0, b2_0]
    by_cases q2 : inb v2 3 = true
    · rw [if_pos q2, if_pos q2]
      rcases k_lacks (v2 := v2) (v3 := v3) h7 hL hr with ⟨f, n, j, g1, g2, g3, rfl, rfl, g6, g7, g8, g9, g10⟩ | ⟨t, g1, g2, g3, g4⟩
      · have em : (if nI f = (0 : Int32) then f_X10_put_74 (((12 : Int32) * nI r) + nI j) ((Int32.toInt8 v4).toInt32) wm else if nI f = (1 : Int32) then f_X10_put_74 (((12 : Int32) * nI r) + nI j) (((Int32.toUInt32 v4) % 65536).toInt32) wm else f_X10_put_74 (((12 : Int32) * nI r) + nI j) ((Int32.toInt16 v4).toInt32) wm) = some ((1 : Int32), wdI wm 58 (12 * r + j) (if nI f = (0 : Int32) then (Int32.toInt8 v4).toInt32 else if nI f = (1 : Int32) then ((Int32.toUInt32 v4) % 65536).toInt32 else (Int32.toInt16 v4).toInt32)) := by
          have ep : ∀ s2 : Int32, f_X10_put_74 (((12 : Int32) * nI r) + nI j) s2 wm = some ((1 : Int32), wdI wm 58 (12 * r + j) s2) := by
            intro s2
            unfold f_X10_put_74
            rw [show (12 : Int32) * nI r = nI (12 * r) from pk_mul 12 r, nI_add, inb_nI (show 12 * r + j < 84 by omega) (by omega), if_pos rfl, lw_e, nI_clamp (by omega)]
          rw [ep, ep, ep]
          by_cases q : nI f = (0 : Int32)
          · rw [if_pos q, if_pos q]
          · rw [if_neg q, if_neg q]
            by_cases q : nI f = (1 : Int32)
            · rw [if_pos q, if_pos q]
            · rw [if_neg q, if_neg q]
        rw [g9, g10, bd_s, bd_s, if_pos rfl, if_pos rfl, em, if_pos q1, x_narrowed g1, bd_s, inb_nI (show j < 12 by omega) (by omega), if_pos rfl, lw_e, nI_clamp (by omega), nI_clamp (by omega)]
        generalize (if nI f = (0 : Int32) then (Int32.toInt8 v4).toInt32 else if nI f = (1 : Int32) then ((Int32.toUInt32 v4) % 65536).toInt32 else (Int32.toInt16 v4).toInt32) = x
        refine ⟨1, _, _, rfl, rfl, Rl.lin hB hT hC hS ⟨?_, fun r' hr' => ?_⟩ (hH.top (wI_c (by omega)) (wI_c (by decide))) ?_ (fun k hk => wI_c (by omega)) (fun j hj => by rw [wI_c (by omega)]) rfl (fun k hk => wI_c (by omega)) (fun j hj => by rw [wI_c (by decide)])⟩
        · rw [wI_c (by omega)]; exact hL.1
        · by_cases e : r' = r
          · subst e
            refine Or.inr ⟨f, n, g1, g2, ?_, ?_, fun i hi => ?_⟩
            · rw [wI_c (by omega), wI_c (by decide)]; exact g6
            · rw [wI_c (by omega), wI_c (by decide)]; exact g7
            · show (wdI wx (15 + r') j x).1 (15 + r') i = _
              by_cases e : i = j
              · rw [e, wI_s, wI_s]
              · rw [wI_n e, wI_n (by omega)]; exact g8 i hi
          · exact (hL.2 r' hr').of (by rw [wI_c (by omega)]) (by rw [wI_c (by omega)]) (by rw [wI_c (by decide)]) (by rw [wI_c (by decide)]) (fun i hi => by rw [wI_c (by omega)]) (fun i hi => by rw [wI_n (by omega)])
        · unfold RFs at hF ⊢
          rw [wI_c (by omega), wI_c (by decide)]
          exact hF
      · have hn := ng_ne g1 g2
        rw [g3, g4, bd_s, bd_s, if_neg hn.1, if_neg hn.2]
        exact ⟨_, _, _, rfl, rfl, h.fnd (nI t)⟩
    · rw [if_neg q2, if_neg q2]
      exact h.same _ rfl rfl
  · rw [if_neg q1, if_neg q1]
    exact h.same _ rfl rfl
theorem k_get {N : Nat} {wx wm : Wd} {v1 v2 v3 : Int32} (h : Rl N wx wm) : CallOk N (f_X9_get N v1 v2 v3 wx) (f_X10_get v1 v2 v3 wm) := by
  have hh := h
  obtain ⟨K, hB, hL, hH, hF, hT, hC, hS⟩ := hh
  have h7 := hB.2.2.1.2.1
  have h5 := hB.2.2.1.2.2.1
  unfold f_X9_get f_X10_get
  rw [x_isLine hL.1 h7, m_isLine hB.2.2.1.1 h7 h5, bd_s, bd_s, ite10, ite10]
  by_cases q1 : inb v1 N = true
  · obtain ⟨r, hr, rfl⟩ := (inb_iff (by omega)).mp q1
    rw [if_pos q1, if_pos q1, x_isForm, m_form, bd_s, bd_s, b2_0, b2_0]
    by_cases q2 : inb v2 3 = true
    · rw [if_pos q2, if_pos q2]
      rcases k_lacks (v2 := v2) (v3 := v3) h7 hL hr with ⟨f, n, j, g1, g2, g3, rfl, rfl, g6, g7, g8, g9, g10⟩ | ⟨t, g1, g2, g3, g4⟩
      · rw [g9, g10, bd_s, bd_s, if_pos rfl, if_pos rfl, if_pos q1, inb_nI (show j < 12 by omega) (by omega), if_pos rfl, nI_clamp (show r < 2 ^ 31 by omega), nI_clamp (show j < 2 ^ 31 by omega), show (12 : Int32) * nI r = nI (12 * r) from pk_mul 12 r, nI_add, inb_nI (show 12 * r + j < 84 by omega) (by omega), if_pos rfl, nI_clamp (by omega)]
        exact h.same (wx.1 (15 + r) j) rfl (by rw [g8 j g3])
      · have hn := ng_ne g1 g2
        rw [g3, g4, bd_s, bd_s, if_neg hn.1, if_neg hn.2, lw_e]
        exact ⟨_, _, _, rfl, rfl, h.fnd (nI t)⟩
    · rw [if_neg q2, if_neg q2]
      exact h.same _ rfl rfl
  · rw [if_neg q1, if_neg q1]
    exact h.same _ rfl rfl
