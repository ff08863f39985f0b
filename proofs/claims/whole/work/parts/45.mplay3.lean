/-! ===== the reference: a move is done ===== -/
theorem m_dm133 {N h d : Nat} {K : Kd} {Q : Ps} {w : Wd} (hK : MK N K w) (h60 : ∀ q, q < 49 → w.1 60 q = nI (Q.1 q)) (h61 : ∀ q, q < 16 → w.1 61 q = nI (Q.2.1 q)) (h62 : w.1 62 1 = nI Q.2.2) (hV : VB N Q) (hh : h < 2) (hd : d < 300) :
    ∃ w', f_X10_doMove_133 (nI h) (nI d) (nI (300 * h + d)) w = some ((), w') ∧ MP N 0 Q w' ∧ HfM h w w' ∧ KpM (301 * h + (d + 1)) Q w' ∧ (∀ i, i ≤ d → ∀ P, KpM (301 * h + i) P w → KpM (301 * h + i) P w') ∧ (∀ k, 81 ≤ k → k ≤ 84 → w'.1 k = w.1 k) ∧ w'.1 85 (300 * h + d) = b2i (chk N K Q.1 Q.2.2) ∧ ∀ j, j ≠ 300 * h + d → w'.1 85 j = w.1 85 j := by
  have h7 := hK.2.1
  have hm := hV.mv
  unfold f_X10_doMove_133
  rw [if_pos (show inb (1 : Int32) 16 = true by decide), if_pos (show inb (0 : Int32) 16 = true by decide), lw_e, show Int32.toNatClampNeg (1 : Int32) = 1 from by decide, show Int32.toNatClampNeg (0 : Int32) = 0 from by decide, if_pos (show inb (0 : Int32) 16 = true by decide), wI_s, h62]
  have l1 : LyM w (wdI w 62 0 (nI Q.2.2)) := LyM.rf.i (Or.inr (Or.inr rfl))
  have hK1 : MK N K (wdI w 62 0 (nI Q.2.2)) := hK.hf (h := h) l1.hf
  have hP1 : MP N 0 Q (wdI w 62 0 (nI Q.2.2)) := ⟨by omega, fun q hq => ⟨by rw [wI_c (by decide), Nat.mul_zero, Nat.zero_add]; exact h60 q hq, hV.le q⟩, fun j hj => ⟨by rw [wI_c (by decide), Nat.mul_zero, Nat.zero_add]; exact h61 j hj, by have := hV.hd hj; omega⟩, by rw [wI_s], hm⟩
  obtain ⟨w1, s1, s2⟩ := m_inCheck (lv := 0) hm hK1 (hP1.b h7)
  have s2' : f_X10_inCheck (0 : Int32) (nI Q.2.2) (wdI w 62 0 (nI Q.2.2)) = some (b2i (chk N K Q.1 Q.2.2), w1) := s2
  rw [s2', bd_s, inb_nI (show 300 * h + d < 600 by omega) (by omega), if_pos rfl, lw_e, nI_clamp (by omega), vp_b, nI_1]
  have u1 : UpM 0 0 (wdI w 62 0 (nI Q.2.2)) w1 := s1.up
  have hP2 : MP N 0 Q (wdI w1 85 (300 * h + d) (b2i (chk N K Q.1 Q.2.2))) := by
    have := hP1.up (Nat.le_refl _) u1
    unfold MP at this ⊢
    rw [wI_c (show (60 : Nat) ≠ 85 by decide), wI_c (show (61 : Nat) ≠ 85 by decide), wI_c (show (62 : Nat) ≠ 85 by decide)]
    exact this
  obtain ⟨w2, b1, b2, b3⟩ := m_keepStand (h := h) (i := d + 1) hP2 hh (by omega)
  rw [b1, bd_s]
  have c78 : ∀ k, 78 ≤ k → k ≤ 84 → (wdI w1 85 (300 * h + d) (b2i (chk N K Q.1 Q.2.2))).1 k = w.1 k := fun k h1 h2 => by
    rw [wI_c (by omega), u1.2.1 k (by omega), wI_c (by omega)]
  refine ⟨w2, rfl, ?_, ((l1.hf.tr u1.hf).tr (HfM.i (by omega) (by omega))).tr (b2.hf (by omega)), b3, ?_, ?_, ?_, ?_⟩
  · unfold MP at hP2 ⊢
    rw [b2.2.1 60 (by decide) (by decide) (by decide), b2.2.1 61 (by decide) (by decide) (by decide), b2.2.1 62 (by decide) (by decide) (by decide)]
    exact hP2
  · intro i hi P hp
    exact (hp.of (fun k hk => c78 k (by omega) (by omega))).km b2 (by omega)
  · intro k h1 h2
    rw [b2.2.1 k (by omega) (by omega) (by omega)]
    exact c78 k (by omega) h2
  · rw [b2.2.1 85 (by decide) (by decide) (by decide), wI_s]
  · intro j hj
    rw [b2.2.1 85 (by decide) (by decide) (by decide), wI_n hj, u1.2.1 85 (by omega), wI_c (by decide)]
theorem m_doMove {N h a d m c : Nat} {K : Kd} {ps : Nat → Ps} {cs : Nat → Nat} {w : Wd} (hK : MK N K w) (hP : MP N 0 (ps d) w) (hI : MIn 0 (movL N K (ps d)) w) (hX : MPl N K h ps cs a w) (hd : d ≤ a) (hd3 : d < 300) (hm : (movL N K (ps d))[m]? = some c) :
    ∃ w', f_X10_doMove (nI h) (nI d) (nI m) w = some ((), w') ∧ MP N 0 (mkP (ps d) c) w' ∧ MPl N K h (psA ps d c) (upN cs d c) (d + 1) w' ∧ HfM h w w' := by
  have h7 := hK.2.1
  have h5 := hK.2.2.1
  obtain ⟨⟨x1, x2⟩, x3, x4, x5⟩ := hX
  have hV := x5.vp h7 h5 d hd
  have hcm : c ∈ movL N K (ps d) := List.mem_of_getElem? hm
  have hV2 := mov_VP h7 h5 hV hcm
  have hlen := mov_2000 (K := K) h7 h5 hV.mv
  have hml : m < (movL N K (ps d)).length := (List.getElem?_eq_some_iff.mp hm).1
  obtain ⟨t1, t2, t3, t4⟩ := hI.2 m c hm
  rw [Nat.mul_zero, Nat.zero_add] at t1 t2 t3 t4
  unfold f_X10_doMove
  rw [lt_e, n300, inb_nI (show m < 32000 by omega) (by omega), inb_nI (show 300 * h + d < 600 by omega) (by omega)]
  simp only [if_true, lw_e]
  rw [nI_clamp (show m < 2 ^ 31 by omega), nI_clamp (show 300 * h + d < 2 ^ 31 by omega), t1, wI_c (show (65 : Nat) ≠ 81 by decide), t2, wI_c (show (66 : Nat) ≠ 82 by decide), wI_c (show (66 : Nat) ≠ 81 by decide), t3, wI_c (show (67 : Nat) ≠ 83 by decide), wI_c (show (67 : Nat) ≠ 82 by decide), wI_c (show (67 : Nat) ≠ 81 by decide), t4]
  generalize hw5 : wdI (wdI (wdI (wdI w 81 (300 * h + d) (mF c)) 82 (300 * h + d) (mT c)) 83 (300 * h + d) (mR c)) 84 (300 * h + d) (mK c) = w5
  have c5 : ∀ k, k < 81 ∨ 84 < k → w5.1 k = w.1 k := fun k hk => by rw [← hw5, wI_c (by omega), wI_c (by omega), wI_c (by omega), wI_c (by omega)]
  have s5 : w5.1 81 (300 * h + d) = mF c ∧ w5.1 82 (300 * h + d) = mT c ∧ w5.1 83 (300 * h + d) = mR c ∧ w5.1 84 (300 * h + d) = mK c := by
    rw [← hw5]
    refine ⟨?_, ?_, ?_, ?_⟩
    · rw [wI_c (by decide), wI_c (by decide), wI_c (by decide), wI_s]
    · rw [wI_c (by decide), wI_c (by decide), wI_s]
    · rw [wI_c (by decide), wI_s]
    · rw [wI_s]
  have o5 : ∀ k, 81 ≤ k → k ≤ 84 → ∀ j, j ≠ 300 * h + d → w5.1 k j = w.1 k j := fun k h1 h2 j hj => by
    rw [← hw5, wI_get, if_neg (by omega), wI_get, if_neg (by omega), wI_get, if_neg (by omega), wI_get, if_neg (by omega)]
  have f5 : HfM h w w5 := by
    rw [← hw5]
    exact (((HfM.i (by omega) (by omega)).tr (HfM.i (by omega) (by omega))).tr (HfM.i (by omega) (by omega))).tr (HfM.i (by omega) (by omega))
  have hK5 := hK.hf f5
  have hP5 : MP N 0 (ps d) w5 := by
    unfold MP at hP ⊢
    rw [c5 60 (by omega), c5 61 (by omega), c5 62 (by omega)]
    exact hP
  have hI5 : MIn 0 (movL N K (ps d)) w5 := by
    unfold MIn at hI ⊢
    rw [c5 63 (by omega), c5 64 (by omega), c5 65 (by omega), c5 66 (by omega), c5 67 (by omega)]
    exact hI
  obtain ⟨w6, p1, p2, p3⟩ := m_mM (lv := 0) (by omega) hK5 hP5 hV hI5 hm
  have p1' : f_X10_makeMove (0 : Int32) (nI m) w5 = some ((), w6) := p1
  obtain ⟨u1, a1, a2, a3, a4, a5⟩ := m_dm70 (v1 := nI h) (v2 := nI d) (v4 := nI (300 * h + d)) (w := w6)
  have a1' : l_X10_doMove_70 f_X10_doMove_100 FU (nI h) (nI d) (nI (300 * h + d)) (0 : Int32) w6 = f_X10_doMove_100 (nI h) (nI d) (nI (300 * h + d)) u1 := a1
  obtain ⟨u2, b1, b2, b3, b4, b5⟩ := m_dm103 (v1 := nI h) (v2 := nI d) (v4 := nI (300 * h + d)) (w := u1)
  have b1' : l_X10_doMove_103 f_X10_doMove_133 FU (nI h) (nI d) (nI (300 * h + d)) (0 : Int32) u1 = f_X10_doMove_133 (nI h) (nI d) (nI (300 * h + d)) u2 := b1
  rw [p1', bd_s, a1']
  unfold f_X10_doMove_100
  rw [b1']
  have hf2 : HfM h w u2 := ((f5.tr p2.hf).tr a2.hf).tr b2.hf
  have c2 : ∀ k, 78 ≤ k → k ≤ 85 → u2.1 k = w5.1 k := fun k h1 h2 => by
    rw [b2.2 k (by omega) (by omega) (by omega), a2.2 k (by omega) (by omega) (by omega), p2.2.1 k (by omega)]
  obtain ⟨w', q1, q2, q3, q4, q5, q6, q7, q8⟩ := m_dm133 (h := h) (d := d) (Q := mkP (ps d) c) (hK.hf hf2) (fun q hq => by
      rw [b4, a3 q hq]
      exact (p3.2.1 q hq).1) (fun j hj => by
      rw [b3 j hj, a4]
      exact (p3.2.2.1 j hj).1) (by
      rw [b5, a5]
      exact p3.2.2.2.1) hV2.toVB x1 hd3
  refine ⟨w', q1, q2, ⟨⟨x1, by omega⟩, fun i hi => ?_, fun i hi => ?_, x5.add hd hcm⟩, hf2.tr q3⟩
  · by_cases e : i = d + 1
    · subst e
      rw [psA_s]
      exact q4
    · rw [psA_le (by omega)]
      refine q5 i (by omega) _ ((x3 i (by omega)).of (fun k hk => ?_))
      rw [c2 k (by omega) (by omega), c5 k (by omega)]
  · rw [q6 81 (by omega) (by omega), q6 82 (by omega) (by omega), q6 83 (by omega) (by omega), q6 84 (by omega) (by omega), c2 81 (by omega) (by omega), c2 82 (by omega) (by omega), c2 83 (by omega) (by omega), c2 84 (by omega) (by omega)]
    by_cases e : i = d
    · subst e
      rw [show upN cs i c i = c from if_pos rfl]
      refine ⟨s5.1, s5.2.1, s5.2.2.1, s5.2.2.2, ?_⟩
      rw [q7]
      unfold gvC
      rw [psA_s]
    · rw [o5 81 (by omega) (by omega) _ (by omega), o5 82 (by omega) (by omega) _ (by omega), o5 83 (by omega) (by omega) _ (by omega), o5 84 (by omega) (by omega) _ (by omega), q8 _ (by omega), c2 85 (by omega) (by omega), c5 85 (by omega), show upN cs d c i = cs i from if_neg e]
      have := x4 i (by omega)
      unfold gvC at this ⊢
      rw [psA_le (by omega)]
      exact this
