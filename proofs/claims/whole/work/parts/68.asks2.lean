/-! ===== asks on a stand: move, play ===== -/
theorem mk_set {N c : Nat} {K : Kd} {P : Ps} (h7 : N ≤ 7) (h5 : 5 ≤ N) (hm : P.2.2 < 2) (h : c ∈ movL N K P) (hc : cf c = 63) : P.1 (ct c) = 0 := by
  have hNN := NN_le h7
  rcases mem_tri.mp (mov_tri h) with ⟨f, t, g1, g2, g3, g4, g5⟩ | ⟨k, f, g1, g2, g3, g4, g5, g6, g7⟩
  · exfalso
    have ht : t < N * N := reach_lt h7 h5 (by omega) g1 t g3
    rcases g5 with ⟨_, rfl⟩ | ⟨_, rfl⟩ <;> unfold cf goC at hc <;> omega
  · have e : c = seC k f := g7.2
    rw [e]
    unfold ct seC
    rw [show (f + 64 * 63 + 8192 * k) % 64 = f by omega]
    exact g5
theorem x_lst {N oc os d a j c : Nat} {K : Kd} {ps : Nat → Ps} {cs : Nat → Nat} {w : Wd} (s : XSd N K oc os ps cs d a w) (hj : (movL N K (ps d))[j]? = some c) : f_X5_listed N (1 : Int32) (nI j) w = some (nI (tc (ps d).1 c), w) := by
  have hl := mov_len (K := K) s.2.2.1.n7 s.2.2.1.n5 s.vp.mv
  exact x_listed (sg := 1) s.2.2.1.n7 s.2.2.1.2.2.2.2.2 s.2.2.2.2.1.2 (by omega) (by rw [List.length_map]; exact hl) (by rw [List.getElem?_map, hj]; rfl)
theorem k_move {N : Nat} {wx wm : Wd} {v1 v2 : Int32} (h : Rl N wx wm) : CallOk N (f_X9_move N v1 v2 wx) (f_X10_move v1 v2 wm) := by
  have hh := h
  obtain ⟨K, hB, hL, hH, hF, hT, hC, hS⟩ := hh
  have h7 := hB.2.2.1.2.1
  have h5 := hB.2.2.1.2.2.1
  have hNN := NN_le h7
  unfold f_X9_move f_X10_move f_X9_move_22 f_X10_move_45
  rcases hS.2 with ⟨f1, f2⟩ | ⟨oc, os, hw, ps, cs, d, a, sx, m⟩
  · rw [if_pos f1, if_pos f2]
    exact h.same _ rfl rfl
  · obtain ⟨vm, a1, a2, a3⟩ := m_fM (lv := 0) (by omega) hB.2.2.1 hB.2.2.2 m.1 sx.vp
    have a1' : f_X10_findMoves (0 : Int32) wm = some ((), vm) := a1
    have hlen := mov_2000 (K := K) h7 h5 sx.vp.mv
    have hR : Rl N wx vm := Rl.askm hB hL hH hF hT hC sx m a2
    have e4 : f_X10_in (Int32.toInt64 v2) (0 : Int64) (4 : Int64) vm = some (b2i (inb v2 5), vm) := in0l_e (M := 4) (by omega) vm
    rw [if_neg (xs0 sx), if_neg (ms0 m), a1', bd_s, show inb (0 : Int32) 16 = true from rfl, if_pos rfl, show Int32.toNatClampNeg (0 : Int32) = 0 from rfl, a3.1, sx.2.2.2.2.1.1, lo_hi (by omega), in0_n (by omega), bd_s, b2_0, e4, bd_s, b2_0]
    by_cases q1 : inb v1 (movL N K (ps d)).length = true
    · obtain ⟨j, hj, rfl⟩ := (inb_iff (by omega)).mp q1
      obtain ⟨c, hc⟩ : ∃ c, (movL N K (ps d))[j]? = some c := ⟨_, List.getElem?_eq_getElem hj⟩
      have hmem := List.mem_of_getElem? hc
      have hFo := okF_tri h7 h5 sx.vp.mv (mov_tri hmem)
      have hc6 := okF_lt h7 hFo
      have hb : (ps d).1 (ct c) ≤ 32 := sx.vp.le _
      have hI := a3.2 j c hc
      rw [Nat.mul_zero, Nat.zero_add] at hI
      rw [if_pos q1, if_pos q1, x_lst sx hc, bd_s, inb_nI (show j < 32000 by omega) (by omega), nI_clamp (show j < 2 ^ 31 by omega), hI.1, hI.2.1, hI.2.2.1, hI.2.2.2]
      simp only [if_true]
      by_cases q2 : inb v2 5 = true
      · obtain ⟨i, hi, rfl⟩ := (inb_iff (by omega)).mp q2
        rw [if_pos q2]
        have htc : tc (ps d).1 c = c + 65536 * (ps d).1 (ct c) := rfl
        rcases (show i = 0 ∨ i = 1 ∨ i = 2 ∨ i = 3 ∨ i = 4 by omega) with rfl | rfl | rfl | rfl | rfl
        · rw [if_pos (show nI 0 = (0 : Int32) from rfl), if_pos (show nI 0 = (0 : Int32) from rfl), htc, x_fromOf hc6 hb, bd_s]
          exact ⟨_, _, _, rfl, rfl, hR⟩
        · rw [if_neg (show ¬ nI 1 = (0 : Int32) by decide), if_neg (show ¬ nI 1 = (0 : Int32) by decide), if_pos (show nI 1 = (1 : Int32) from rfl), if_pos (show nI 1 = (1 : Int32) from rfl), htc]
          unfold f_X3_toOf
          rw [cd_to hc6 hb, bd_s]
          exact ⟨_, _, _, rfl, rfl, hR⟩
        · rw [if_neg (show ¬ nI 2 = (0 : Int32) by decide), if_neg (show ¬ nI 2 = (0 : Int32) by decide), if_neg (show ¬ nI 2 = (1 : Int32) by decide), if_neg (show ¬ nI 2 = (1 : Int32) by decide), if_pos (show nI 2 = (2 : Int32) from rfl), if_pos (show nI 2 = (2 : Int32) from rfl), htc, x_raises hc6 hb, bd_s]
          have hr := cr_lt c
          unfold mR
          rcases (show cr c = 0 ∨ cr c = 1 by omega) with z | z <;> rw [z] <;> exact ⟨_, _, _, rfl, rfl, hR⟩
        · rw [if_neg (show ¬ nI 3 = (0 : Int32) by decide), if_neg (show ¬ nI 3 = (0 : Int32) by decide), if_neg (show ¬ nI 3 = (1 : Int32) by decide), if_neg (show ¬ nI 3 = (1 : Int32) by decide), if_neg (show ¬ nI 3 = (2 : Int32) by decide), if_neg (show ¬ nI 3 = (2 : Int32) by decide), if_pos (show nI 3 = (3 : Int32) from rfl), if_pos (show nI 3 = (3 : Int32) from rfl), htc]
          unfold f_X6_moverKind
          rw [x_isSetting hc6 hb, bd_s, b2_0]
          by_cases q : cf c = 63
          · have e1 : mF c = -1 := by unfold mF; rw [if_pos q]
            rw [if_pos (by simpa using q), x_setKindOf hc6 hb, bd_s, e1, if_neg (by decide)]
            exact ⟨_, _, _, rfl, rfl, hR⟩
          · have e1 : mF c = nI (cf c) := by unfold mF; rw [if_neg q]
            have hcf : cf c < N * N := by
              rcases hFo.2 with z | z
              · exact absurd z.1 q
              · exact z.2.1
            have e2 := (sx.2.2.1.2.2.2.1.1 (cf c) hcf).1
            have e3 := ((m.1.up (Nat.le_refl _) a2).2.1 (cf c) (by omega)).1
            rw [Nat.mul_zero, Nat.zero_add] at e3
            rw [if_neg (by simpa using q), x_fromOf hc6 hb, bd_s, e1, inb_nI hcf (by omega), if_pos rfl, nI_clamp (by omega), if_pos (nI_pos' (by omega)), inb_nI (show cf c < 784 by omega) (by omega), if_pos rfl, e2, e3]
            exact ⟨_, _, _, rfl, rfl, hR⟩
        · rw [if_neg (show ¬ nI 4 = (0 : Int32) by decide), if_neg (show ¬ nI 4 = (0 : Int32) by decide), if_neg (show ¬ nI 4 = (1 : Int32) by decide), if_neg (show ¬ nI 4 = (1 : Int32) by decide), if_neg (show ¬ nI 4 = (2 : Int32) by decide), if_neg (show ¬ nI 4 = (2 : Int32) by decide), if_neg (show ¬ nI 4 = (3 : Int32) by decide), if_neg (show ¬ nI 4 = (3 : Int32) by decide), if_pos (show nI 4 = (4 : Int32) from rfl), htc]
          unfold f_X3_takenKindOf mT
          have e2 := (sx.2.2.1.2.2.2.1.1 (ct c) hFo.1).1
          have e3 := ((m.1.up (Nat.le_refl _) a2).2.1 (ct c) (by have := hFo.1; omega)).1
          rw [Nat.mul_zero, Nat.zero_add] at e3
          rw [cd_taken hc6 hb, lt_e, inb_nI (show ct c < 784 by have := hFo.1; omega) (by omega), if_pos rfl, if_pos rfl, nI_clamp (show ct c < 2 ^ 31 by have := hFo.1; omega), e3]
          by_cases q : cf c = 63
          · have e1 : mF c = -1 := by unfold mF; rw [if_pos q]
            rw [e1, if_pos (show (-1 : Int32) < 0 by decide), mk_set h7 h5 sx.vp.mv hmem q, if_pos (show nI 0 = (0 : Int32) from rfl)]
            exact ⟨_, _, _, rfl, rfl, hR⟩
          · have e1 : mF c = nI (cf c) := by unfold mF; rw [if_neg q]
            have hcf : cf c < 64 := by unfold cf; omega
            rw [e1, if_neg (nI_pos (by omega))]
            by_cases z : nI ((ps d).1 (ct c)) = (0 : Int32)
            · rw [if_pos z, if_pos z]
              exact ⟨_, _, _, rfl, rfl, hR⟩
            · rw [if_neg z, if_neg z]
              exact ⟨_, _, _, rfl, rfl, hR⟩
      · have ne : ∀ i : Nat, i < 5 → ¬ v2 = nI i := fun i hi z => q2 (by rw [z]; exact inb_nI hi (by omega))
        rw [if_neg q2, if_neg (show ¬ v2 = (0 : Int32) from ne 0 (by omega)), if_neg (show ¬ v2 = (1 : Int32) from ne 1 (by omega)), if_neg (show ¬ v2 = (2 : Int32) from ne 2 (by omega)), if_neg (show ¬ v2 = (3 : Int32) from ne 3 (by omega)), if_neg (show ¬ v2 = (4 : Int32) from ne 4 (by omega))]
        exact ⟨_, _, _, rfl, rfl, hR⟩
    · rw [if_neg q1, if_neg q1]
      exact ⟨_, _, _, rfl, rfl, hR⟩
theorem x_state {N oc os d a : Nat} {K : Kd} {ps : Nat → Ps} {cs : Nat → Nat} {w : Wd} (s : XSd N K oc os ps cs d a w) : f_X9_stateOfPlay N w = some (nI (stS N K ps d), w) := by
  have hl := mov_2000 (K := K) s.2.2.1.n7 s.2.2.1.n5 s.vp.mv
  have hc1 : w.2.2.1 = oc := by rw [s.2.1]
  have hok : okP oc = true := by
    rcases s.1 with ⟨rfl, _⟩ | ⟨rfl, _⟩ <;> rfl
  unfold f_X9_stateOfPlay f_X9_stateOfPlay_18 stS
  rw [s.2.2.2.2.1.1, hc1, hok, if_pos rfl, x_ending s.2.2.2.1, bd_s]
  by_cases q : (movL N K (ps d)).length = 0
  · rw [if_pos (show nI (movL N K (ps d)).length = (0 : Int32) by rw [q]; rfl), if_pos q]; rfl
  · rw [if_neg (nI_ne0 (by omega) (by omega)), if_neg q]
theorem k_ofPlay {N oc os hw d a i : Nat} {K : Kd} {ps : Nat → Ps} {cs : Nat → Nat} {wx wm : Wd} (hB : RBs N K wx wm) (sx : XSd N K oc os ps cs d a wx) (m : MSd N K hw ps cs d a wm) (hi : i ≤ 5) : ∃ v, f_X9_ofPlay N (nI i) wx = some (v, wx) ∧ f_X10_play (nI i) wm = some (v, wm) := by
  have h7 := hB.2.2.1.2.1
  have h5 := hB.2.2.1.2.2.1
  have e5 : f_X10_in (Int32.toInt64 (nI i)) (0 : Int64) (5 : Int64) wm = some (b2i (inb (nI i) 6), wm) := in0l_e (M := 5) (by omega) wm
  have hc1 : wx.2.2.1 = oc := by rw [sx.2.1]
  have hok : okP oc = true := by
    rcases sx.1 with ⟨rfl, _⟩ | ⟨rfl, _⟩ <;> rfl
  have hd := sx.2.2.2.1.2.1
  have hX := sx.2.2.2.1.1
  obtain ⟨m1, m2, m3, m4, m5, m6, m7, m8⟩ := m
  unfold f_X9_ofPlay f_X10_play
  rw [e5, bd_s, b2_0, inb_nI (show i < 6 by omega) (by omega), if_pos rfl, if_neg (show ¬ wm.1 50 25 = (0 : Int32) by rw [m4]; decide), hc1, hok, m5, m6, m7, m8]
  simp only [if_true]
  rcases (show i = 0 ∨ i = 1 ∨ i = 2 ∨ i = 3 ∨ i = 4 ∨ i = 5 by omega) with rfl | rfl | rfl | rfl | rfl | rfl
  · refine ⟨nI (ps d).2.2, ?_, ?_⟩
    · rw [if_pos (show nI 0 = (0 : Int32) from rfl), sx.2.2.1.2.2.2.1.2.2.1]
    · rw [if_pos (show nI 0 = (0 : Int32) from rfl), show inb (0 : Int32) 16 = true from rfl, if_pos rfl, show Int32.toNatClampNeg (0 : Int32) = 0 from rfl, m1.2.2.2.1]
  · refine ⟨nI (stS N K ps d), ?_, ?_⟩
    · rw [if_neg (show ¬ nI 1 = (0 : Int32) by decide), if_pos (show nI 1 = (1 : Int32) from rfl), x_state sx, bd_s]
    · rw [if_neg (show ¬ nI 1 = (0 : Int32) by decide), if_pos (show nI 1 = (1 : Int32) from rfl)]
  · refine ⟨nI d, ?_, ?_⟩
    · rw [if_neg (show ¬ nI 2 = (0 : Int32) by decide), if_neg (show ¬ nI 2 = (1 : Int32) by decide), if_pos (show nI 2 = (2 : Int32) from rfl), hX.2.2.1]
    · rw [if_neg (show ¬ nI 2 = (0 : Int32) by decide), if_neg (show ¬ nI 2 = (1 : Int32) by decide), if_pos (show nI 2 = (2 : Int32) from rfl)]
  · refine ⟨nI a - nI d, ?_, ?_⟩
    · rw [if_neg (show ¬ nI 3 = (0 : Int32) by decide), if_neg (show ¬ nI 3 = (1 : Int32) by decide), if_neg (show ¬ nI 3 = (2 : Int32) by decide), if_pos (show nI 3 = (3 : Int32) from rfl), hX.2.2.1, hX.2.2.2.1]
    · rw [if_neg (show ¬ nI 3 = (0 : Int32) by decide), if_neg (show ¬ nI 3 = (1 : Int32) by decide), if_neg (show ¬ nI 3 = (2 : Int32) by decide), if_pos (show nI 3 = (3 : Int32) from rfl)]
  · refine ⟨nI (cntS ps d), ?_, ?_⟩
    · rw [if_neg (show ¬ nI 4 = (0 : Int32) by decide), if_neg (show ¬ nI 4 = (1 : Int32) by decide), if_neg (show ¬ nI 4 = (2 : Int32) by decide), if_neg (show ¬ nI 4 = (3 : Int32) by decide), if_pos (show nI 4 = (4 : Int32) from rfl), hX.2.2.2.2]
    · rw [if_neg (show ¬ nI 4 = (0 : Int32) by decide), if_neg (show ¬ nI 4 = (1 : Int32) by decide), if_neg (show ¬ nI 4 = (2 : Int32) by decide), if_neg (show ¬ nI 4 = (3 : Int32) by decide), if_pos (show nI 4 = (4 : Int32) from rfl), m_comes h7 h5 m2 m3, bd_s]
  · refine ⟨b2i (decide (0 < d) && gvC N K ps (d - 1)), ?_, ?_⟩
    · rw [if_neg (show ¬ nI 5 = (0 : Int32) by decide), if_neg (show ¬ nI 5 = (1 : Int32) by decide), if_neg (show ¬ nI 5 = (2 : Int32) by decide), if_neg (show ¬ nI 5 = (3 : Int32) by decide), if_neg (show ¬ nI 5 = (4 : Int32) by decide), x_latest sx.2.2.2.1, bd_s, x_asNumber, bd_s]
    · rw [if_neg (show ¬ nI 5 = (0 : Int32) by decide), if_neg (show ¬ nI 5 = (1 : Int32) by decide), if_neg (show ¬ nI 5 = (2 : Int32) by decide), if_neg (show ¬ nI 5 = (3 : Int32) by decide), if_neg (show ¬ nI 5 = (4 : Int32) by decide)]
      unfold f_X10_play_134 f_X10_play_135
      by_cases q : d = 0
      · rw [if_pos (show nI d ≤ (0 : Int32) by rw [q]; decide), q]; rfl
      · have hh := m2.1.1
        have hg := (m2.2.2.1 (d - 1) (by omega)).2.2.2.2
        rw [if_neg (show ¬ nI d ≤ (0 : Int32) from fun z => q (by have := (nI_leI (b := 0) (by omega) (by omega)).mp z; omega)), show (300 : Int32) * nI hw = nI (300 * hw) from pk_mul 300 hw, nI_add, show nI (300 * hw + d) - (1 : Int32) = nI (300 * hw + (d - 1)) from by rw [show 300 * hw + d = (300 * hw + (d - 1)) + 1 by omega, nI_pred], inb_nI (show 300 * hw + (d - 1) < 600 by omega) (by omega), if_pos rfl, nI_clamp (by omega), hg, b2_0]
        have : decide (0 < d) = true := decide_eq_true (by omega)
        rw [this, Bool.true_and]
        cases gvC N K ps (d - 1) <;> rfl
theorem k_play {N : Nat} {wx wm : Wd} {v1 : Int32} (h : Rl N wx wm) : CallOk N (f_X9_play N v1 wx) (f_X10_play v1 wm) := by
  have hh := h
  obtain ⟨K, hB, hL, hH, hF, hT, hC, hS⟩ := hh
  have e5 : f_X10_in (Int32.toInt64 v1) (0 : Int64) (5 : Int64) wm = some (b2i (inb v1 6), wm) := in0l_e (M := 5) (by omega) wm
  have ex : f_X9_play N v1 wx = if inb v1 (5 + 1) = true then (if (wx.1 0 10) = (0 : Int32) then some ((-3 : Int32), wx) else bd (f_X9_ofPlay N v1 wx) fun x1 w2 => some (x1, w2)) else some ((-2 : Int32), wx) := by
    unfold f_X9_play f_X9_play_9
    rw [show (5 : Int32) = nI 5 from rfl, lo_le (by omega)]
  rw [ex]
  by_cases q : inb v1 (5 + 1) = true
  · rw [if_pos q]
    rcases hS.2 with ⟨f1, f2⟩ | ⟨oc, os, hw, ps, cs, d, a, sx, m⟩
    · rw [if_pos f1]
      refine h.same (-3) rfl ?_
      unfold f_X10_play
      rw [e5, bd_s, b2_0, if_pos (show inb v1 6 = true from q), if_pos f2]
    · obtain ⟨i, hi, rfl⟩ := (inb_iff (by omega)).mp q
      obtain ⟨v, b1, b2⟩ := k_ofPlay hB sx m (show i ≤ 5 by omega)
      rw [if_neg (xs0 sx), b1, bd_s]
      exact h.same v rfl b2
  · rw [if_neg q]
    refine h.same (-2) rfl ?_
    unfold f_X10_play
    rw [e5, bd_s, b2_0, if_neg (show ¬ inb v1 6 = true from q)]
