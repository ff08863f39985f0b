/-! ===== asks on a stand ===== -/
theorem Rl.ask {N oc os h d a lo hi : Nat} {K : Kd} {ps : Nat → Ps} {cs : Nat → Nat} {wx wm vx vm : Wd} (hB : RBs N K wx wm) (hL : RLs N wx wm) (hH : RHs wx wm) (hF : RFs wx wm) (hT : RTs N wx wm) (hC : RCs N wx wm) (sx : XSd N K oc os ps cs d a wx) (sm : MSd N K h ps cs d a wm) (fx : FrX N lo hi wx vx) (hA : XA N K (ps d) vx) (hlo : 2 * (27 * (N * N)) ≤ lo ∨ (lo = 0 ∧ hi = 0)) (um : UpM 0 0 wm vm) : Rl N vx vm :=
  Rl.std hB hL hH hF hT hC fx.top um.top (sx.fr fx hA hlo) (sm.up um)
/-- an ask of the reference alone -/
theorem Rl.askm {N oc os h d a : Nat} {K : Kd} {ps : Nat → Ps} {cs : Nat → Nat} {wx wm vm : Wd} (hB : RBs N K wx wm) (hL : RLs N wx wm) (hH : RHs wx wm) (hF : RFs wx wm) (hT : RTs N wx wm) (hC : RCs N wx wm) (sx : XSd N K oc os ps cs d a wx) (sm : MSd N K h ps cs d a wm) (um : UpM 0 0 wm vm) : Rl N wx vm :=
  Rl.std hB hL hH hF hT hC TopX.rf um.top sx (sm.up um)
theorem x_asNumber {N : Nat} (b : Bool) (w : Wd) : f_X9_asNumber N (b2i b) w = some (b2i b, w) := by
  cases b <;> rfl
theorem ms0 {N h d a : Nat} {K : Kd} {ps : Nat → Ps} {cs : Nat → Nat} {w : Wd} (m : MSd N K h ps cs d a w) : w.1 50 25 ≠ 0 := by rw [m.2.2.2.1]; decide
theorem xs0 {N oc os d a : Nat} {K : Kd} {ps : Nat → Ps} {cs : Nat → Nat} {w : Wd} (s : XSd N K oc os ps cs d a w) : w.1 0 10 ≠ 0 := by rw [s.2.2.2.2.2]; decide
theorem XSd.vp {N oc os d a : Nat} {K : Kd} {ps : Nat → Ps} {cs : Nat → Nat} {w : Wd} (s : XSd N K oc os ps cs d a w) : VP N K (ps d) := s.2.2.2.1.vp s.2.2.1.n7 s.2.2.1.n5 s.2.2.2.1.2.1.1
theorem k_attacks {N : Nat} {wx wm : Wd} {v1 v2 : Int32} (h : Rl N wx wm) : CallOk N (f_X9_attacks N v1 v2 wx) (f_X10_attacks v1 v2 wm) := by
  have hh := h
  obtain ⟨K, hB, hL, hH, hF, hT, hC, hS⟩ := hh
  have h7 := hB.2.2.1.2.1
  have h5 := hB.2.2.1.2.2.1
  have hNN := NN_le h7
  unfold f_X9_attacks f_X10_attacks
  rw [x_isSide, m_side, bd_s, bd_s, b2_0, b2_0, x_isField hB.1 h7, m_isField hB.2.2.1.1 h7 h5, bd_s, bd_s, b2_0, b2_0]
  by_cases q1 : isS v1 = true
  · rw [if_pos q1, if_pos q1]
    by_cases q2 : inb v2 (N * N) = true
    · obtain ⟨s, hs, rfl⟩ := isS_of q1
      obtain ⟨f, hf, rfl⟩ := (inb_iff (by omega)).mp q2
      rw [if_pos q2, if_pos q2]
      rcases hS.2 with ⟨f1, f2⟩ | ⟨oc, os, hw, ps, cs, d, a, sx, m⟩
      · rw [if_pos f1, if_pos f2]
        exact h.same _ rfl rfl
      · obtain ⟨vm, a1, a2⟩ := m_isAttacked (lv := 0) hs hf hB.2.2.1 (m.1.b h7)
        have a2' : f_X10_isAttacked (0 : Int32) (nI s) (nI f) wm = some (b2i (atk N K (ps d).1 s f), vm) := a2
        have e := atk_eq (N := N) (s := s) (f := f) (K := K) (bo := (ps d).1) h7 h5 hs hf (fun q hq => (sx.2.2.1.2.2.2.1.1 q hq).2) (fun t ht => (hB.2.2.1.2.2.2 t ht).2.2)
        rw [if_neg (xs0 sx), if_neg (ms0 m), x_attacked hs hf sx.2.2.1.1 sx.2.2.1.2.1 sx.2.2.1.2.2.2.1.1, bd_s, x_asNumber, bd_s, a2', bd_s, b2_0, e]
        refine ⟨b2i (atk N K (ps d).1 s f), wx, vm, rfl, ?_, Rl.askm hB hL hH hF hT hC sx m a1.up⟩
        cases atk N K (ps d).1 s f <;> rfl
    · rw [if_neg q2, if_neg q2]
      exact h.same _ rfl rfl
  · rw [if_neg q1, if_neg q1]
    exact h.same _ rfl rfl
theorem k_check {N : Nat} {wx wm : Wd} {v1 : Int32} (h : Rl N wx wm) : CallOk N (f_X9_check N v1 wx) (f_X10_check v1 wm) := by
  have hh := h
  obtain ⟨K, hB, hL, hH, hF, hT, hC, hS⟩ := hh
  have h7 := hB.2.2.1.2.1
  unfold f_X9_check f_X10_check
  rw [x_isSide, m_side, bd_s, bd_s, b2_0, b2_0]
  by_cases q1 : isS v1 = true
  · obtain ⟨s, hs, rfl⟩ := isS_of q1
    rw [if_pos q1, if_pos q1]
    rcases hS.2 with ⟨f1, f2⟩ | ⟨oc, os, hw, ps, cs, d, a, sx, m⟩
    · rw [if_pos f1, if_pos f2]
      exact h.same _ rfl rfl
    · obtain ⟨vm, a1, a2⟩ := m_inCheck (lv := 0) hs hB.2.2.1 (m.1.b h7)
      have a2' : f_X10_inCheck (0 : Int32) (nI s) wm = some (b2i (chk N K (ps d).1 s), vm) := a2
      rw [if_neg (xs0 sx), if_neg (ms0 m), x_inCheck sx.2.2.1 sx.vp.toVB hs, bd_s, x_asNumber, bd_s, a2', bd_s, b2_0]
      refine ⟨b2i (chk N K (ps d).1 s), wx, vm, rfl, ?_, Rl.askm hB hL hH hF hT hC sx m a1.up⟩
      cases chk N K (ps d).1 s <;> rfl
  · rw [if_neg q1, if_neg q1]
    exact h.same _ rfl rfl
theorem k_moves {N : Nat} {wx wm : Wd} (h : Rl N wx wm) : CallOk N (f_X9_moves N wx) (f_X10_moves wm) := by
  have hh := h
  obtain ⟨K, hB, hL, hH, hF, hT, hC, hS⟩ := hh
  unfold f_X9_moves f_X10_moves f_X9_moves_16
  rcases hS.2 with ⟨f1, f2⟩ | ⟨oc, os, hw, ps, cs, d, a, sx, m⟩
  · rw [if_pos f1, if_pos f2]
    exact h.same _ rfl rfl
  · obtain ⟨vm, a1, a2, a3⟩ := m_fM (lv := 0) (by omega) hB.2.2.1 hB.2.2.2 m.1 sx.vp
    have a1' : f_X10_findMoves (0 : Int32) wm = some ((), vm) := a1
    rw [if_neg (xs0 sx), if_neg (ms0 m), a1', bd_s, show inb (0 : Int32) 16 = true from rfl, if_pos rfl, show Int32.toNatClampNeg (0 : Int32) = 0 from rfl, a3.1, sx.2.2.2.2.1.1]
    exact ⟨_, _, _, rfl, rfl, Rl.askm hB hL hH hF hT hC sx m a2⟩
theorem k_why {N : Nat} {wx wm : Wd} {v1 v2 v3 : Int32} (h : Rl N wx wm) : CallOk N (f_X9_why N v1 v2 v3 wx) (f_X10_why v1 v2 v3 wm) := by
  have hh := h
  obtain ⟨K, hB, hL, hH, hF, hT, hC, hS⟩ := hh
  have h7 := hB.2.2.1.2.1
  have h5 := hB.2.2.1.2.2.1
  have hNN := NN_le h7
  have hx := x_isField (N := N) (w := wx) hB.1 h7
  have hm := m_isField (N := N) (w := wm) hB.2.2.1.1 h7 h5
  by_cases q1 : inb v1 (N * N) = true
  · by_cases q2 : inb v2 (N * N) = true
    · rcases hS.2 with ⟨f1, f2⟩ | ⟨oc, os, hw, ps, cs, d, a, sx, m⟩
      · refine h.same (-3) ?_ ?_
        · unfold f_X9_why
          rw [hx, bd_s, b2_0, if_pos q1, hx, bd_s, b2_0, if_pos q2, if_pos f1]
        · unfold f_X10_why
          rw [hm, bd_s, b2_0, if_pos q1, hm, bd_s, b2_0, if_pos q2, if_pos f2]
      · obtain ⟨f, hf, rfl⟩ := (inb_iff (by omega)).mp q1
        obtain ⟨t, ht, rfl⟩ := (inb_iff (by omega)).mp q2
        obtain ⟨vm, a1, a2⟩ := m_why (v := v3) hB.2.2.1 m.1 sx.vp.toVB hf ht (ms0 m)
        obtain ⟨vx, b1, b2, b3⟩ := x_faultOf sx.2.2.1 sx.vp (okF_go (f := f) (t := t) (r := if v3 = 0 then 0 else 1) h7 hf ht (by split <;> omega))
        refine ⟨_, vx, vm, ?_, a1, Rl.ask hB hL hH hF hT hC sx m b2 b3 (Or.inr ⟨rfl, rfl⟩) a2⟩
        unfold f_X9_why
        rw [hx, bd_s, b2_0, if_pos q1, hx, bd_s, b2_0, if_pos q2, if_neg (xs0 sx), x_going (by omega) (by omega), bd_s, b1, bd_s]
    · refine h.same (-2) ?_ ?_
      · unfold f_X9_why
        rw [hx, bd_s, b2_0, if_pos q1, hx, bd_s, b2_0, if_neg q2]; rfl
      · unfold f_X10_why
        rw [hm, bd_s, b2_0, if_pos q1, hm, bd_s, b2_0, if_neg q2]; rfl
  · refine h.same (-2) ?_ ?_
    · unfold f_X9_why
      rw [hx, bd_s, b2_0, if_neg q1]; rfl
    · unfold f_X10_why
      rw [hm, bd_s, b2_0, if_neg q1]; rfl
theorem k_whySet {N : Nat} {wx wm : Wd} {v1 v2 : Int32} (h : Rl N wx wm) : CallOk N (f_X9_whySet N v1 v2 wx) (f_X10_whySet v1 v2 wm) := by
  have hh := h
  obtain ⟨K, hB, hL, hH, hF, hT, hC, hS⟩ := hh
  have h7 := hB.2.2.1.2.1
  have h5 := hB.2.2.1.2.2.1
  have hNN := NN_le h7
  have hx := x_isField (N := N) (w := wx) hB.1 h7
  have hm := m_isField (N := N) (w := wm) hB.2.2.1.1 h7 h5
  by_cases q1 : isH v1 = true
  · by_cases q2 : inb v2 (N * N) = true
    · rcases hS.2 with ⟨f1, f2⟩ | ⟨oc, os, hw, ps, cs, d, a, sx, m⟩
      · refine h.same (-3) ?_ ?_
        · unfold f_X9_whySet
          rw [x_isHandKind, bd_s, b2_0, if_pos q1, hx, bd_s, b2_0, if_pos q2, if_pos f1]
        · unfold f_X10_whySet
          rw [m_handKind, bd_s, b2_0, if_pos q1, hm, bd_s, b2_0, if_pos q2, if_pos f2]
      · obtain ⟨k, k1, k2, rfl⟩ := isH_of q1
        obtain ⟨t, ht, rfl⟩ := (inb_iff (by omega)).mp q2
        obtain ⟨vm, a1, a2⟩ := m_whySet hB.2.2.1 hB.2.2.2 m.1 sx.vp.toVB k1 k2 ht (ms0 m)
        obtain ⟨vx, b1, b2, b3⟩ := x_faultOf sx.2.2.1 sx.vp (okF_se h7 k1 k2 ht)
        refine ⟨_, vx, vm, ?_, a1, Rl.ask hB hL hH hF hT hC sx m b2 b3 (Or.inr ⟨rfl, rfl⟩) a2⟩
        unfold f_X9_whySet
        rw [x_isHandKind, bd_s, b2_0, if_pos q1, hx, bd_s, b2_0, if_pos q2, if_neg (xs0 sx), x_setting k2 (by omega), bd_s, b1, bd_s]
    · refine h.same (-2) ?_ ?_
      · unfold f_X9_whySet
        rw [x_isHandKind, bd_s, b2_0, if_pos q1, hx, bd_s, b2_0, if_neg q2]; rfl
      · unfold f_X10_whySet
        rw [m_handKind, bd_s, b2_0, if_pos q1, hm, bd_s, b2_0, if_neg q2]; rfl
  · refine h.same (-2) ?_ ?_
    · unfold f_X9_whySet
      rw [x_isHandKind, bd_s, b2_0, if_neg q1]; rfl
    · unfold f_X10_whySet
      rw [m_handKind, bd_s, b2_0, if_neg q1]; rfl
theorem k_rows {N : Nat} {wx wm : Wd} {v1 : Int32} (h : Rl N wx wm) : CallOk N (f_X9_rows N v1 wx) (f_X10_rows v1 wm) := by
  have hh := h
  obtain ⟨K, hB, hL, hH, hF, hT, hC, hS⟩ := hh
  have e0 : f_X10_in (Int32.toInt64 v1) (1 : Int64) (3 : Int64) wm = some (if (1 : Int32) ≤ v1 ∧ v1 ≤ nI 3 then 1 else 0, wm) := m_in1l v1 1 3 (by omega) (by omega) wm
  by_cases q : (1 : Int32) ≤ v1 ∧ v1 ≤ nI 3
  · rcases hS.2 with ⟨f1, f2⟩ | ⟨oc, os, hw, ps, cs, d, a, sx, m⟩
    · refine h.same (-3) ?_ ?_
      · unfold f_X9_rows
        rw [show (3 : Int32) = nI 3 from rfl, lo1_le (by omega) (by omega), if_pos q, if_pos f1]
      · unfold f_X10_rows
        rw [e0, bd_s, ite10, if_pos q, if_pos f2]
    · obtain ⟨k, k1, k2, rfl⟩ := (in1_e (by omega) (by omega)).mp q
      obtain ⟨vx, b1, b2, b3⟩ := x_rows sx.2.2.1 sx.vp k1 k2 (xs0 sx)
      obtain ⟨vm, a1, a2⟩ := m_rows hB.2.2.1 hB.2.2.2 m.1 sx.vp k1 k2 (ms0 m)
      exact ⟨_, vx, vm, b1, a1, Rl.ask hB hL hH hF hT hC sx m b2 b3 (Or.inl (Nat.le_refl _)) a2⟩
  · refine h.same (-2) ?_ ?_
    · unfold f_X9_rows
      rw [show (3 : Int32) = nI 3 from rfl, lo1_le (by omega) (by omega), if_neg q]; rfl
    · unfold f_X10_rows
      rw [e0, bd_s, ite10, if_neg q]
