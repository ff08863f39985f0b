/-! ===== the reference's first world; the two stand in the relation ===== -/
def tlW (w : Wd) (k : Nat) (a b c d e : Int32) : Wd := wdI (wdI (wdI (wdI (wdI w 53 k a) 54 k b) 53 (8 + k) c) 54 (8 + k) d) 55 k e
def tlA (w : Wd) : Wd := tlW (tlW (tlW (tlW (tlW (tlW (tlW (tlW w 0 255 0 0 0 0) 1 1 0 215 0 3) 2 171 0 215 0 0) 3 215 0 0 0 0) 4 0 85 170 85 0) 5 0 170 85 170 0) 6 0 1 215 0 0) 7 768 0 215 0 0
theorem m_tell0 {k : Nat} (hk : k < 8) (a b c d e : Int32) (w : Wd) : f_X10_tell (nI k) a b c d e w = some ((), tlW w k a b c d e) := by
  unfold f_X10_tell tlW
  rw [inb_nI (show k < 16 by omega) (by omega), if_pos rfl, lw_e, if_pos rfl, lw_e, show (8 : Int32) + nI k = nI (8 + k) from nI_add 8 k, inb_nI (show 8 + k < 16 by omega) (by omega), if_pos rfl, lw_e, if_pos rfl, lw_e, inb_nI hk (by omega), if_pos rfl, lw_e, nI_cl (by omega), nI_cl (by omega)]
theorem m_400 (w : Wd) : f_X10_init_400 w = some ((), tlA w) := by
  unfold f_X10_init_400 tlA
  refine (congrArg (fun z => bd z _) (m_tell0 (k := 0) (by decide) 255 0 0 0 0 _)).trans ?_
  rw [bd_s]
  refine (congrArg (fun z => bd z _) (m_tell0 (k := 1) (by decide) 1 0 215 0 3 _)).trans ?_
  rw [bd_s]
  refine (congrArg (fun z => bd z _) (m_tell0 (k := 2) (by decide) 171 0 215 0 0 _)).trans ?_
  rw [bd_s]
  refine (congrArg (fun z => bd z _) (m_tell0 (k := 3) (by decide) 215 0 0 0 0 _)).trans ?_
  rw [bd_s]
  refine (congrArg (fun z => bd z _) (m_tell0 (k := 4) (by decide) 0 85 170 85 0 _)).trans ?_
  rw [bd_s]
  refine (congrArg (fun z => bd z _) (m_tell0 (k := 5) (by decide) 0 170 85 170 0 _)).trans ?_
  rw [bd_s]
  refine (congrArg (fun z => bd z _) (m_tell0 (k := 6) (by decide) 0 1 215 0 0 _)).trans ?_
  rw [bd_s]
  refine (congrArg (fun z => bd z _) (m_tell0 (k := 7) (by decide) 768 0 215 0 0 _)).trans ?_
  rw [bd_s]
theorem tlW_c {w : Wd} {k k' : Nat} {a b c d e : Int32} (h3 : k' ≠ 53) (h4 : k' ≠ 54) (h5 : k' ≠ 55) : (tlW w k a b c d e).1 k' = w.1 k' := by
  unfold tlW
  rw [wI_c h5, wI_c h4, wI_c h3, wI_c h4, wI_c h3]
theorem tlA_c {w : Wd} {k' : Nat} (h3 : k' ≠ 53) (h4 : k' ≠ 54) (h5 : k' ≠ 55) : (tlA w).1 k' = w.1 k' := by
  unfold tlA
  rw [tlW_c h3 h4 h5, tlW_c h3 h4 h5, tlW_c h3 h4 h5, tlW_c h3 h4 h5, tlW_c h3 h4 h5, tlW_c h3 h4 h5, tlW_c h3 h4 h5, tlW_c h3 h4 h5]
theorem tlA_k (w : Wd) : ∀ t, t < 16 → (tlA w).1 53 t = nI (FS t) ∧ (tlA w).1 54 t = nI (FR t) := fun t ht => by
  rcases (show t = 0 ∨ t = 1 ∨ t = 2 ∨ t = 3 ∨ t = 4 ∨ t = 5 ∨ t = 6 ∨ t = 7 ∨ t = 8 ∨ t = 9 ∨ t = 10 ∨ t = 11 ∨ t = 12 ∨ t = 13 ∨ t = 14 ∨ t = 15 by omega) with rfl | rfl | rfl | rfl | rfl | rfl | rfl | rfl | rfl | rfl | rfl | rfl | rfl | rfl | rfl | rfl <;> exact ⟨rfl, rfl⟩
theorem tlA_m (w : Wd) : ∀ k, k < 8 → (tlA w).1 55 k = nI (if k = 1 then 3 else 0) := fun k hk => by
  rcases (show k = 0 ∨ k = 1 ∨ k = 2 ∨ k = 3 ∨ k = 4 ∨ k = 5 ∨ k = 6 ∨ k = 7 by omega) with rfl | rfl | rfl | rfl | rfl | rfl | rfl | rfl <;> rfl
theorem m_forms0 (w : Wd) (K : Wd → Option (Unit × Wd)) {e : Nat} (he : e = 7) : ∃ w', l_X10_init_381 K FU (nI 0) w = K w' ∧ (∀ r, r < e → w'.1 56 r = -1) ∧ w'.2 = w.2 ∧ ∀ k, k ≠ 56 → w'.1 k = w.1 k := by
  refine loop_up (fun n i w => l_X10_init_381 K n i w) K e (fun i w' => (∀ r, r < i → w'.1 56 r = -1) ∧ w'.2 = w.2 ∧ ∀ k, k ≠ 56 → w'.1 k = w.1 k)
    (fun n w' hI => by
      show b_X10_init_381 (l_X10_init_381 K n) K (nI e) w' = _
      unfold b_X10_init_381
      rw [if_pos (show (7 : Int32) ≤ nI e by rw [he]; decide)])
    (fun n i w' hi hI => by
      refine ⟨wdI w' 56 i (-1), ?_, fun r hr => ?_, hI.2.1, fun k hk => ?_⟩
      · show b_X10_init_381 (l_X10_init_381 K n) K (nI i) w' = _
        unfold b_X10_init_381
        rw [if_neg (show ¬ (7 : Int32) ≤ nI i from nI_ge (b := 7) (by omega) (by omega)), inb_nI (show i < 7 by omega) (by omega), if_pos rfl, lw_e, nI_cl (by omega), nI_succ]
      · by_cases q : r = i
        · rw [q, wI_s]
        · rw [wI_n q]; exact hI.1 r (by omega)
      · rw [wI_c hk]; exact hI.2.2 k hk)
    e 0 w (by omega) ⟨fun _ h => absurd h (Nat.not_lt_zero _), rfl, fun _ _ => rfl⟩ FU (FU_big (by omega))
/-- the size that a new object has -/
def szOk (v1 : Int32) (N : Nat) : Prop := (v1 < 5 ∨ ¬ v1 ≤ 7) ∧ N = 5 ∨ ¬ v1 < 5 ∧ v1 ≤ 7 ∧ v1 = nI N
theorem m_first {v1 : Int32} {N : Nat} (hv : szOk v1 N) (h1 : N ≤ 7) (h2 : 5 ≤ N) : ∃ wM, f_X10_init v1 (wb N) = some ((), wM) ∧ MK N (Kt 16) wM ∧ MM (Kt 16) wM ∧ (∀ r, r < 7 → wM.1 56 r = -1) ∧ (∀ k, k ≠ 50 → k ≠ 53 → k ≠ 54 → k ≠ 55 → k ≠ 56 → wM.1 k = (wb N).1 k) ∧ ∀ j, j ≠ 0 → wM.1 50 j = (wb N).1 50 j := by
  obtain ⟨w1, e1, i1, i2, i3⟩ := m_forms0 (wdI (wb N) 50 0 (nI N)) f_X10_init_400 (e := 7) rfl
  refine ⟨tlA w1, ?_, ⟨?_, h1, h2, fun t ht => ?_⟩, fun k hk => ?_, fun r hr => ?_, fun k h50 h53 h54 h55 h56 => ?_, fun j hj => ?_⟩
  · have e2 : f_X10_init_376 (nI N) (wb N) = some ((), tlA w1) := by
      unfold f_X10_init_376
      rw [lw_e]
      show l_X10_init_381 f_X10_init_400 FU (nI 0) _ = _
      rw [e1, m_400]
    unfold f_X10_init
    rw [m_in1l v1 5 7 (by decide) (by decide), bd_s]
    by_cases q : nI 5 ≤ v1 ∧ v1 ≤ nI 7
    · rw [if_pos q, if_neg (by decide)]
      have hlt : ¬ v1 < 5 := fun z => by
        have q1 := q.1
        rw [Int32.le_iff_toInt_le] at q1
        rw [Int32.lt_iff_toInt_lt] at z
        have : (nI 5).toInt = (5 : Int32).toInt := rfl
        omega
      rcases hv with hv | hv
      · exact absurd (hv.1.elim (fun z => absurd z hlt) (fun z => absurd q.2 z)) id
      · rw [hv.2.2]; exact e2
    · rw [if_neg q, if_pos rfl]
      rcases hv with hv | hv
      · rw [show (5 : Int32) = nI N by rw [hv.2]; rfl]; exact e2
      · exact absurd ⟨by
          have hn := hv.1
          rw [Int32.le_iff_toInt_le]
          rw [Int32.lt_iff_toInt_lt] at hn
          have : (nI 5).toInt = (5 : Int32).toInt := rfl
          omega, hv.2.1⟩ q
  · rw [tlA_c (by decide) (by decide) (by decide), i3 50 (by decide), wI_s]
  · have hk := tlA_k w1 t ht
    have hf := fs_ok t ht
    show _ = nI (if t < 16 then FS t else 0) ∧ _ = nI (if t < 16 then FR t else 0) ∧ (if t < 16 then FS t else 0) < 1024 ∧ (if t < 16 then FR t else 0) < 256
    rw [if_pos ht, if_pos ht]
    exact ⟨hk.1, hk.2, hf.2.2.1, hf.2.2.2⟩
  · refine ⟨tlA_m w1 k hk, ?_⟩
    show (if k = 1 then 3 else 0) < 4
    by_cases q : k = 1
    · rw [if_pos q]; decide
    · rw [if_neg q]; decide
  · rw [tlA_c (by decide) (by decide) (by decide)]; exact i1 r hr
  · rw [tlA_c h53 h54 h55, i3 k h56, wI_c h50]
  · rw [tlA_c (by decide) (by decide) (by decide), i3 50 (by decide), wI_n hj]
theorem rl_first {v1 : Int32} {N : Nat} (hv : szOk v1 N) (h1 : N ≤ 7) (h2 : 5 ≤ N) : ∃ wW wL wM, f_X8_init N (nI N) (wb N) = some ((), wW) ∧ wW.1 2 0 = nI N ∧ wW.1 2 1 = nI (N * N) ∧ f_X1_init N (nI N) (wb N) = some ((), wL) ∧ f_X10_init v1 (wb N) = some ((), wM) ∧ Rl N (wx0 N wW wL) wM := by
  obtain ⟨wW, a1, a2, a3, a4, a5, a6⟩ := x_ways0 h1 h2
  obtain ⟨wL, b1, b2, b3, b4⟩ := x_lines0 h1
  obtain ⟨wM, c1, c2, c3, c4, c5, c6⟩ := m_first hv h1 h2
  refine ⟨wW, wL, wM, a1, a4.1, a4.2.1, b1, c1, Kt 16, ⟨rfl, ⟨?_, a3, a4, rfl⟩, c2, c3⟩, ⟨?_, fun r hr => Or.inl ⟨b2 r hr, c4 r (by omega)⟩⟩, fun j hj => ⟨0, by omega, rfl, ?_, fun _ => rfl⟩, ?_, ⟨[], ⟨by decide, fun b hb => by cases hb⟩, ⟨rfl, rfl, fun i b hb => by cases hb⟩, ⟨?_, fun i b hb => by cases hb⟩⟩, ⟨500, 0, [], by omega, ⟨rfl, ?_⟩, ⟨rfl, ?_⟩, ⟨rfl, fun i e he => (by cases he), ⟨fun i e he => (by cases he), ?_, by decide, fun e he => by cases he⟩, Or.inl rfl⟩⟩, ⟨Or.inl rfl, Or.inl ⟨rfl, ?_⟩⟩⟩
  · exact ⟨rfl, rfl, h1, h2, a2.2.2.2.2.1, a2.2.2.2.2.2⟩
  · show wL.1 11 0 = nI N
    rw [b4 11 (by decide)]
    rfl
  · rw [c5 77 (by decide) (by decide) (by decide) (by decide) (by decide)]
    rfl
  · show (wb N).1 0 12 = wM.1 50 1
    rw [c6 1 (by decide)]
    rfl
  · rw [c6 50 (by decide)]; rfl
  · rw [c6 39 (by decide)]; rfl
  · rw [c6 40 (by decide)]; rfl
  · rw [c6 41 (by decide)]; rfl
  · rw [c6 25 (by decide)]; rfl
