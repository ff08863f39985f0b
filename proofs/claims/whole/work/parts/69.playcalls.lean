/-! ===== calls that move a stand; hunts, trees, texts ===== -/
theorem x_settle {N oc os d a : Nat} {K : Kd} {ps : Nat → Ps} {cs : Nat → Nat} {w : Wd} (ho : (oc = 35 ∧ os = 39) ∨ (oc = 39 ∧ os = 35)) (hc : w.2.2 = (oc, os)) (hA : XA N K (ps d) w) (hX : XPl N K oc ps cs d a w) (h10 : w.1 0 10 = 1) : ∃ w', f_X9_lookAround N w = some ((), w') ∧ XSd N K oc os ps cs d a w' ∧ TopX w w' := by
  obtain ⟨w', a1, a2, a3, a4, a5, a6⟩ := x_lookAround hA (hX.vp hA.n7 hA.n5 hX.2.1.1)
  exact ⟨w', a1, ⟨ho, by rw [a5]; exact hc, a2, hX.of (a6 _ (by omega)) (a6 _ (by omega)) (a6 _ (by omega)) (by rw [a5]), a3, by rw [a4.2 10 (by decide)]; exact h10⟩, a4⟩
theorem m_settle {N h d a : Nat} {K : Kd} {ps : Nat → Ps} {cs : Nat → Nat} {u : Wd} (hK : MK N K u) (hM : MM K u) (hP : MP N 0 (ps d) u) (hX : MPl N K h ps cs a u) (hd : d ≤ a) (h25 : u.1 50 25 = 1) (h35 : u.1 50 35 = nI h) (h36 : u.1 50 36 = nI d) (h37 : u.1 50 37 = nI a) : ∃ u', f_X10_stateOf (nI h) (nI d) u = some (nI (stS N K ps d), u') ∧ MSd N K h ps cs d a (wdI u' 50 38 (nI (stS N K ps d))) ∧ TopM u (wdI u' 50 38 (nI (stS N K ps d))) := by
  obtain ⟨u', a1, a2, a3⟩ := m_stateOf hK hM hP hX hd
  refine ⟨u', a1, ⟨?_, (hX.up a2).of (fun k h1 h2 => wI_c (by omega)), hd, ?_, ?_, ?_, ?_, by rw [wI_s]⟩, ⟨fun k hk => (wI_c (by omega)).trans (a2.2.1 k (by omega)), fun j hj => (wI_n (by omega)).trans (a2.2.2.1 j (by omega))⟩⟩
  · have := hP.up (Nat.le_refl _) a2
    unfold MP at this ⊢
    rw [wI_c (by decide), wI_c (by decide), wI_c (by decide)]
    exact this
  · rw [wI_n (by decide), a2.2.2.1 25 (by decide)]; exact h25
  · rw [wI_n (by decide), a2.2.2.1 35 (by decide)]; exact h35
  · rw [wI_n (by decide), a2.2.2.1 36 (by decide)]; exact h36
  · rw [wI_n (by decide), a2.2.2.1 37 (by decide)]; exact h37
theorem TopM.i {w : Wd} {j : Nat} {v : Int32} (hj : 35 ≤ j ∧ j ≤ 38) : TopM w (wdI w 50 j v) := ⟨fun k hk => wI_c (by omega), fun i hi => wI_n (by omega)⟩
theorem MP.i50 {N lv j : Nat} {P : Ps} {w : Wd} {v : Int32} (h : MP N lv P w) : MP N lv P (wdI w 50 j v) := by
  unfold MP at h ⊢
  rw [wI_c (by decide), wI_c (by decide), wI_c (by decide)]
  exact h
theorem MPl.i50 {N h a j : Nat} {K : Kd} {ps : Nat → Ps} {cs : Nat → Nat} {w : Wd} {v : Int32} (x : MPl N K h ps cs a w) : MPl N K h ps cs a (wdI w 50 j v) := x.of (fun k h1 h2 => wI_c (by omega))
theorem k_go {N : Nat} {wx wm : Wd} {v1 : Int32} (h : Rl N wx wm) : CallOk N (f_X9_go N v1 wx) (f_X10_go v1 wm) := by
  have hh := h
  obtain ⟨K, hB, hL, hH, hF, hT, hC, hS⟩ := hh
  have h7 := hB.2.2.1.2.1
  have h5 := hB.2.2.1.2.2.1
  unfold f_X9_go f_X10_go f_X9_go_22
  rcases hS.2 with ⟨f1, f2⟩ | ⟨oc, os, hw, ps, cs, d, a, sx, m⟩
  · rw [if_pos f1, if_pos f2]
    exact h.same _ rfl rfl
  · obtain ⟨vm, a1, a2, a3⟩ := m_fM (lv := 0) (by omega) hB.2.2.1 hB.2.2.2 m.1 sx.vp
    have a1' : f_X10_findMoves (0 : Int32) wm = some ((), vm) := a1
    have hlen := mov_2000 (K := K) h7 h5 sx.vp.mv
    have hR : Rl N wx vm := Rl.askm hB hL hH hF hT hC sx m a2
    have hc1 : wx.2.2.1 = oc := by rw [sx.2.1]
    have hok : okP oc = true := by
      rcases sx.1 with ⟨rfl, _⟩ | ⟨rfl, _⟩ <;> rfl
    have hoc : 35 ≤ oc := by have := sx.1; omega
    have m' := m.up a2
    have hd := sx.2.2.2.1.2.1
    rw [if_neg (xs0 sx), if_neg (ms0 m), a1', bd_s, show inb (0 : Int32) 16 = true from rfl, if_pos rfl, show Int32.toNatClampNeg (0 : Int32) = 0 from rfl, a3.1, sx.2.2.2.2.1.1, lo_hi (by omega), in0_n (by omega), bd_s, b2_0]
    by_cases q1 : inb v1 (movL N K (ps d)).length = true
    · obtain ⟨j, hj, rfl⟩ := (inb_iff (by omega)).mp q1
      obtain ⟨c, hc⟩ : ∃ c, (movL N K (ps d))[j]? = some c := ⟨_, List.getElem?_eq_getElem hj⟩
      have hmem := List.mem_of_getElem? hc
      obtain ⟨m1, m2, m3, m4, m5, m6, m7, m8⟩ := m'
      rw [if_pos q1, if_pos q1, x_state sx, bd_s, m5, m6, m8]
      by_cases q2 : nI (stS N K ps d) = (0 : Int32)
      · rw [if_pos q2, if_pos q2, hc1, hok, if_pos rfl, sx.2.2.2.1.1.2.2.1]
        by_cases q3 : d = 300
        · rw [if_neg (show ¬ nI d < (300 : Int32) from nI_nlt (b := 300) (by omega) (by omega)), if_pos (show nI d = (300 : Int32) by rw [q3]; rfl)]
          exact ⟨_, _, _, rfl, rfl, hR⟩
        · obtain ⟨w1, b1, b2, b3, b4⟩ := x_advance (by omega) sx.2.2.1 sx.2.2.2.1 (show d < 300 by omega) hmem
          have b3' : XA N K (psA ps d c (d + 1)) w1 := by rw [psA_s]; exact b3
          obtain ⟨w2, c1, c2, c3⟩ := x_settle (os := os) sx.1 (by rw [b2.1]; exact sx.2.1) b3' b4 (by rw [(b2.top hoc).2 10 (by decide)]; exact sx.2.2.2.2.2)
          obtain ⟨u1, e1, e2, e3, e4⟩ := m_doMove (hB.2.2.1.up a2) m1 a3 m2 m3 (show d < 300 by omega) hc
          have e2' : MP N 0 (psA ps d c (d + 1)) u1 := by rw [psA_s]; exact e2
          have x36 : u1.1 50 36 = nI d := by rw [e4.2.2.1 36 (by decide)]; exact m6
          have x35 : u1.1 50 35 = nI hw := by rw [e4.2.2.1 35 (by decide)]; exact m5
          have tK : TopM wm (wdI (wdI u1 50 36 (nI (d + 1))) 50 37 (nI (d + 1))) := ((a2.top.tr e4.top).tr (TopM.i (by omega))).tr (TopM.i (by omega))
          obtain ⟨u2, g1, g2, g3⟩ := m_settle (h := hw) (d := d + 1) (a := d + 1) (u := wdI (wdI u1 50 36 (nI (d + 1))) 50 37 (nI (d + 1))) (hB.2.2.1.top tK) (hB.2.2.2.top tK) e2'.i50.i50 e3.i50.i50 (Nat.le_refl _) (by rw [wI_n (by decide), wI_n (by decide), e4.2.2.1 25 (by decide)]; exact m4) (by rw [wI_n (by decide), wI_n (by decide)]; exact x35) (by rw [wI_n (by decide), wI_s]) (by rw [wI_s])
          rw [if_pos (show nI d < (300 : Int32) from nI_lt (b := 300) (by omega) (by omega)), if_neg (show ¬ nI d = (300 : Int32) from fun z => q3 ((nI_inj (b := 300) (by omega) (by omega)).mp z)), x_lst sx hc, bd_s, if_pos rfl, b1, bd_s, c1, bd_s, x_state c2, bd_s, e1, bd_s, lw_e, lw_e, x36, nI_1, wI_s, wI_n (show (35 : Nat) ≠ 37 by decide), wI_n (show (35 : Nat) ≠ 36 by decide), x35, wI_n (show (36 : Nat) ≠ 37 by decide), wI_s, g1, bd_s, lw_e, wI_s]
          exact ⟨_, _, _, rfl, rfl, Rl.std hB hL hH hF hT hC ((b2.top hoc).tr c3) (tK.tr g3) c2 g2⟩
      · rw [if_neg q2, if_neg q2]
        exact ⟨_, _, _, rfl, rfl, hR⟩
    · rw [if_neg q1, if_neg q1]
      exact ⟨_, _, _, rfl, rfl, hR⟩
theorem k_back {N : Nat} {wx wm : Wd} (h : Rl N wx wm) : CallOk N (f_X9_back N wx) (f_X10_back wm) := by
  have hh := h
  obtain ⟨K, hB, hL, hH, hF, hT, hC, hS⟩ := hh
  have h7 := hB.2.2.1.2.1
  have h5 := hB.2.2.1.2.2.1
  unfold f_X9_back f_X10_back f_X9_back_17 f_X10_back_14
  rcases hS.2 with ⟨f1, f2⟩ | ⟨oc, os, hw, ps, cs, d, a, sx, m⟩
  · rw [if_pos f1, if_pos f2]
    exact h.same _ rfl rfl
  · have hc1 : wx.2.2.1 = oc := by rw [sx.2.1]
    have hok : okP oc = true := by
      rcases sx.1 with ⟨rfl, _⟩ | ⟨rfl, _⟩ <;> rfl
    have hoc : 35 ≤ oc := by have := sx.1; omega
    have hd := sx.2.2.2.1.2.1
    have mm := m
    obtain ⟨m1, m2, m3, m4, m5, m6, m7, m8⟩ := mm
    rw [if_neg (xs0 sx), if_neg (ms0 m), hc1, hok, if_pos rfl, sx.2.2.2.1.1.2.2.1, m6]
    by_cases q : nI d = (0 : Int32)
    · rw [if_pos q, if_pos q]
      exact h.same _ rfl rfl
    · obtain ⟨e, rfl⟩ : ∃ e, d = e + 1 := ⟨d - 1, by
        have : d ≠ 0 := fun z => q (by rw [z]; rfl)
        omega⟩
      obtain ⟨w1, b1, b2, b3, b4⟩ := x_withdraw (by omega) sx.2.2.1 sx.2.2.2.1
      obtain ⟨w2, c1, c2, c3⟩ := x_settle (os := os) sx.1 (by rw [b2.1]; exact sx.2.1) b3 b4 (by rw [(b2.top hoc).2 10 (by decide)]; exact sx.2.2.2.2.2)
      have hV : VP N K (ps e) := sx.2.2.2.1.vp h7 h5 (by omega)
      have t1 : TopM wm (wdI wm 50 36 (nI e)) := TopM.i (by omega)
      obtain ⟨u1, g1, g2, g3⟩ := m_layStand (N := N) hV.toVB ((m2.i50 (j := 36) (v := nI e)).2.1 e (by omega)) m2.1.1 (by omega)
      have t2 : TopM wm u1 := t1.tr (g2.hf (h := 0)).top
      have x5 : ∀ j, u1.1 50 j = (wdI wm 50 36 (nI e)).1 50 j := fun j => by rw [g2.2 50 (by decide) (by decide) (by decide)]
      have x36 : u1.1 50 36 = nI e := by rw [x5, wI_s]
      have x35 : u1.1 50 35 = nI hw := by rw [x5, wI_n (by decide)]; exact m5
      have hX1 : MPl N K hw ps cs a u1 := (m2.i50 (j := 36) (v := nI e)).of (fun k h1 h2 => g2.2 k (by omega) (by omega) (by omega))
      obtain ⟨u2, i1, i2, i3⟩ := m_settle (hB.2.2.1.top t2) (hB.2.2.2.top t2) g3 hX1 (by omega) (by rw [x5, wI_n (by decide)]; exact m4) x35 x36 (by rw [x5, wI_n (by decide)]; exact m7)
      have hc2 : w2.2.2.1 = oc := by rw [c2.2.1]
      rw [if_neg q, if_neg q, b1, bd_s, c1, bd_s, hc2, hok, if_pos rfl, c2.2.2.2.1.1.2.2.1, lw_e, nI_pred, wI_n (show (35 : Nat) ≠ 36 by decide), m5, wI_s, g1, bd_s, x35, x36, i1, bd_s, lw_e, i2.2.2.2.2.2.1]
      exact ⟨_, _, _, rfl, rfl, Rl.std hB hL hH hF hT hC ((b2.top hoc).tr c3) (t2.tr i3) c2 i2⟩
theorem k_forth {N : Nat} {wx wm : Wd} (h : Rl N wx wm) : CallOk N (f_X9_forth N wx) (f_X10_forth wm) := by
  have hh := h
  obtain ⟨K, hB, hL, hH, hF, hT, hC, hS⟩ := hh
  have h7 := hB.2.2.1.2.1
  have h5 := hB.2.2.1.2.2.1
  unfold f_X9_forth f_X10_forth f_X9_forth_24 f_X10_forth_18
  rcases hS.2 with ⟨f1, f2⟩ | ⟨oc, os, hw, ps, cs, d, a, sx, m⟩
  · rw [if_pos f1, if_pos f2]
    exact h.same _ rfl rfl
  · have hc1 : wx.2.2.1 = oc := by rw [sx.2.1]
    have hok : okP oc = true := by
      rcases sx.1 with ⟨rfl, _⟩ | ⟨rfl, _⟩ <;> rfl
    have hoc : 35 ≤ oc := by have := sx.1; omega
    have hd := sx.2.2.2.1.2.1
    have mm := m
    obtain ⟨m1, m2, m3, m4, m5, m6, m7, m8⟩ := mm
    rw [if_neg (xs0 sx), if_neg (ms0 m), hc1, hok, if_pos rfl, if_pos rfl, sx.2.2.2.1.1.2.2.1, sx.2.2.2.1.1.2.2.2.1, m6, m7]
    by_cases q : d = a
    · rw [if_neg (nI_nlt (by omega) (by omega)), if_pos (by rw [q])]
      exact h.same _ rfl rfl
    · obtain ⟨w1, b1, b2, b3, b4⟩ := x_forth (by omega) sx.2.2.1 sx.2.2.2.1 (show d < a by omega)
      obtain ⟨w2, c1, c2, c3⟩ := x_settle (os := os) sx.1 (by rw [b2.1]; exact sx.2.1) b3 b4 (by rw [(b2.top hoc).2 10 (by decide)]; exact sx.2.2.2.2.2)
      have hV : VP N K (ps (d + 1)) := sx.2.2.2.1.vp h7 h5 (by omega)
      have t1 : TopM wm (wdI wm 50 36 (nI (d + 1))) := TopM.i (by omega)
      obtain ⟨u1, g1, g2, g3⟩ := m_layStand (N := N) hV.toVB ((m2.i50 (j := 36) (v := nI (d + 1))).2.1 (d + 1) (by omega)) m2.1.1 (by omega)
      have t2 : TopM wm u1 := t1.tr (g2.hf (h := 0)).top
      have x5 : ∀ j, u1.1 50 j = (wdI wm 50 36 (nI (d + 1))).1 50 j := fun j => by rw [g2.2 50 (by decide) (by decide) (by decide)]
      have x36 : u1.1 50 36 = nI (d + 1) := by rw [x5, wI_s]
      have x35 : u1.1 50 35 = nI hw := by rw [x5, wI_n (by decide)]; exact m5
      have hX1 : MPl N K hw ps cs a u1 := (m2.i50 (j := 36) (v := nI (d + 1))).of (fun k h1 h2 => g2.2 k (by omega) (by omega) (by omega))
      obtain ⟨u2, i1, i2, i3⟩ := m_settle (hB.2.2.1.top t2) (hB.2.2.2.top t2) g3 hX1 (by omega) (by rw [x5, wI_n (by decide)]; exact m4) x35 x36 (by rw [x5, wI_n (by decide)]; exact m7)
      have hc2 : w2.2.2.1 = oc := by rw [c2.2.1]
      rw [if_pos (nI_lt (by omega) (by omega)), if_neg (fun z => q ((nI_inj (by omega) (by omega)).mp z)), if_pos rfl, b1, bd_s, c1, bd_s, hc2, hok, if_pos rfl, c2.2.2.2.1.1.2.2.1, lw_e, nI_1, wI_n (show (35 : Nat) ≠ 36 by decide), m5, wI_s, g1, bd_s, x35, x36, i1, bd_s, lw_e, i2.2.2.2.2.2.1]
      exact ⟨_, _, _, rfl, rfl, Rl.std hB hL hH hF hT hC ((b2.top hoc).tr c3) (t2.tr i3) c2 i2⟩
