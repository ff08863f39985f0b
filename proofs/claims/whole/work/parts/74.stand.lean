/-! ===== stand ===== -/
theorem Rl.pre {N : Nat} {K : Kd} {wx wm vx vm : Wd} (hB : RBs N K wx wm) (hL : RLs N wx wm) (hH : RHs wx wm) (hF : RFs wx wm) (hT : RTs N wx wm) (hC : RCs N wx wm) (x : ∀ k, (1 ≤ k ∧ k < 22) ∨ k = 27 ∨ (29 ≤ k ∧ k ≤ 34) → vx.1 k = wx.1 k) (x22 : ∀ j, j ≠ 7 → vx.1 22 j = wx.1 22 j) (x0 : ∀ j, j = 0 ∨ j = 12 → vx.1 0 j = wx.1 0 j) (y : ∀ k, (53 ≤ k ∧ k ≤ 58) ∨ k = 77 ∨ (93 ≤ k ∧ k ≤ 98) ∨ k = 102 → vm.1 k = wm.1 k) (y0 : ∀ j, j = 0 ∨ j = 1 ∨ j = 39 ∨ j = 40 ∨ j = 41 ∨ j = 50 → vm.1 50 j = wm.1 50 j) : RBs N K vx vm ∧ RLs N vx vm ∧ RHs vx vm ∧ RFs vx vm ∧ RTs N vx vm ∧ RCs N vx vm := by
  obtain ⟨b1, b2, b3, b4⟩ := hB
  refine ⟨⟨by rw [x0 0 (by omega)]; exact b1, b2.of (fun k h1 h2 => x k (by omega)) ⟨x22 1 (by decide), x22 2 (by decide)⟩ (by rw [x 27 (by omega)]), ⟨by rw [y0 0 (by omega)]; exact b3.1, b3.2.1, b3.2.2.1, fun t ht => by rw [y 53 (by omega), y 54 (by omega)]; exact b3.2.2.2 t ht⟩, fun k hk => by rw [y 55 (by omega)]; exact b4 k hk⟩, hL.top b3.2.1 (fun k h1 h2 => x k (by omega)) (fun k h1 h2 => y k (by omega)), hH.top (x 1 (by omega)) (y 77 (by omega)), ?_, hT.top (fun k hk => x k (by omega)) (y 102 (by omega)) (y0 50 (by omega)), hC.top (fun k h1 h2 => x k (by omega)) (fun k h1 h2 => y k (by omega)) (fun j hj => y0 j (by omega))⟩
  unfold RFs at hF ⊢
  rw [x0 12 (by omega), y0 1 (by omega)]
  exact hF
theorem m_clr {v1 v2 v3 : Int32} (K95 : Int32 → Int32 → Int32 → Wd → Option (Int32 × Wd)) : ∀ (m i : Nat) (w : Wd), i + m = 49 → (∀ q, q < i → w.1 60 q = 0) → ∀ n, m < n → ∃ w', l_X10_stand_74 K95 n v1 v2 v3 (nI i) w = K95 v1 v2 v3 w' ∧ (∀ q, q < 49 → w'.1 60 q = 0) ∧ w'.2 = w.2 ∧ ∀ k, k ≠ 60 → w'.1 k = w.1 k
  | 0, i, w, hi, h0, n, hn => by
    obtain ⟨n, rfl⟩ : ∃ k, n = k + 1 := ⟨n - 1, by omega⟩
    refine ⟨w, ?_, fun q hq => h0 q (by omega), rfl, fun _ _ => rfl⟩
    show b_X10_stand_74 (l_X10_stand_74 K95 n) K95 v1 v2 v3 (nI i) w = _
    unfold b_X10_stand_74
    rw [if_pos (show (49 : Int32) ≤ nI i from nI_le (a := 49) (by omega) (by omega))]
  | m + 1, i, w, hi, h0, n, hn => by
    obtain ⟨n, rfl⟩ : ∃ k, n = k + 1 := ⟨n - 1, by omega⟩
    obtain ⟨w', a1, a2, a3, a4⟩ := m_clr (v1 := v1) (v2 := v2) (v3 := v3) K95 m (i + 1) (wdI w 60 i 0) (by omega) (fun q hq => by
      rcases Nat.lt_succ_iff_lt_or_eq.mp hq with z | z
      · rw [wI_n (by omega)]; exact h0 q z
      · rw [z, wI_s]) n (by omega)
    refine ⟨w', ?_, a2, a3, fun k hk => (a4 k hk).trans (wI_c hk)⟩
    show b_X10_stand_74 (l_X10_stand_74 K95 n) K95 v1 v2 v3 (nI i) w = _
    unfold b_X10_stand_74
    rw [if_neg (show ¬ (49 : Int32) ≤ nI i from nI_ge (b := 49) (by omega) (by omega)), inb_nI (show i < 784 by omega) (by omega), if_pos rfl, lw_e, nI_clamp (by omega), nI_1]
    exact a1
theorem m_hnd {v1 v2 v3 : Int32} (K289 : Int32 → Int32 → Int32 → Wd → Option (Int32 × Wd)) : ∀ (m i : Nat) (w : Wd), i + m = 16 → (∀ j, j < i → w.1 61 j = w.1 77 j) → ∀ n, m < n → ∃ w', l_X10_stand_262 K289 n v1 v2 v3 (nI i) w = K289 v1 v2 v3 w' ∧ (∀ j, j < 16 → w'.1 61 j = w.1 77 j) ∧ w'.2 = w.2 ∧ ∀ k, k ≠ 61 → w'.1 k = w.1 k
  | 0, i, w, hi, h0, n, hn => by
    obtain ⟨n, rfl⟩ : ∃ k, n = k + 1 := ⟨n - 1, by omega⟩
    refine ⟨w, ?_, fun q hq => h0 q (by omega), rfl, fun _ _ => rfl⟩
    show b_X10_stand_262 (l_X10_stand_262 K289 n) K289 v1 v2 v3 (nI i) w = _
    unfold b_X10_stand_262
    rw [if_pos (show (16 : Int32) ≤ nI i from nI_le (a := 16) (by omega) (by omega))]
  | m + 1, i, w, hi, h0, n, hn => by
    obtain ⟨n, rfl⟩ : ∃ k, n = k + 1 := ⟨n - 1, by omega⟩
    obtain ⟨w', a1, a2, a3, a4⟩ := m_hnd (v1 := v1) (v2 := v2) (v3 := v3) K289 m (i + 1) (wdI w 61 i (w.1 77 i)) (by omega) (fun q hq => by
      rw [wI_c (show (77 : Nat) ≠ 61 by decide)]
      rcases Nat.lt_succ_iff_lt_or_eq.mp hq with z | z
      · rw [wI_n (by omega)]; exact h0 q z
      · rw [z, wI_s]) n (by omega)
    refine ⟨w', ?_, fun j hj => (a2 j hj).trans (by rw [wI_c (by decide)]), a3, fun k hk => (a4 k hk).trans (wI_c hk)⟩
    show b_X10_stand_262 (l_X10_stand_262 K289 n) K289 v1 v2 v3 (nI i) w = _
    unfold b_X10_stand_262
    rw [if_neg (show ¬ (16 : Int32) ≤ nI i from nI_ge (b := 16) (by omega) (by omega)), inb_nI (show i < 16 by omega) (by omega), if_pos rfl, inb_nI (show i < 256 by omega) (by omega), if_pos rfl, lw_e, nI_clamp (by omega), nI_1]
    exact a1
theorem k_stand {N : Nat} {wx wm : Wd} {v1 : Int32} (h : Rl N wx wm) : CallOk N (f_X9_stand N v1 wx) (f_X10_stand v1 wm) := by
  have hh := h
  obtain ⟨K, hB, hL, hH, hF, hT, hC, hS⟩ := hh
  have h7 := hB.2.2.1.2.1
  have h5 := hB.2.2.1.2.2.1
  have hNN := NN_le h7
  unfold f_X9_stand f_X10_stand
  rw [x_isSide, bd_s, b2_0, m_side, bd_s, b2_0]
  by_cases q1 : isS v1 = true
  · obtain ⟨s, hs, rfl⟩ := isS_of q1
    rw [if_pos q1, if_pos q1]
    rcases hS.fl with ⟨f1, f2⟩ | ⟨f1, f2⟩
    · rw [if_pos f1, if_pos f2]
      have bad : ∀ vx vm : Wd, vx.2 = wx.2 → (∀ k, k < 22 ∨ k = 27 ∨ (29 ≤ k ∧ k ≤ 34) → vx.1 k = wx.1 k) → (∀ j, j ≠ 7 → vx.1 22 j = wx.1 22 j) → (∀ k, (53 ≤ k ∧ k ≤ 58) ∨ k = 77 ∨ (93 ≤ k ∧ k ≤ 98) ∨ k = 102 → vm.1 k = wm.1 k) → (∀ j, j ≠ 22 → vm.1 50 j = wm.1 50 j) → CallOk N (some ((-2 : Int32), vx)) (some ((-2 : Int32), vm)) := by
        intro vx vm x2 x x22 y y0
        obtain ⟨p1, p2, p3, p4, p5, p6⟩ := Rl.pre hB hL hH hF hT hC (fun k hk => x k (by omega)) x22 (fun j hj => by rw [x 0 (by omega)]) y (fun j hj => y0 j (by omega))
        exact ⟨_, vx, vm, rfl, rfl, K, p1, p2, p3, p4, p5, p6, by rw [x2]; exact hS.1, Or.inl ⟨by rw [x 0 (by omega)]; exact f1, by rw [y0 25 (by decide)]; exact f2⟩⟩
      rcases k_short (v1 := nI s) h7 h5 hB.2.2.1.1 hL (f_X1_someIsTooShort_31 N) (f_X1_someIsTooShort_39 N) f_X10_stand_55 f_X10_stand_67 N 0 (by omega) FU (FU_big (by omega)) with ⟨g1, g2⟩ | ⟨g1, g2, g3⟩
      · have g1' : f_X1_someIsTooShort N wx = some ((1 : Int32), wx) := g1
        have g2' : l_X10_stand_25 f_X10_stand_55 f_X10_stand_67 FU (nI s) (0 : Int32) wm = f_X10_stand_55 wm := g2
        rw [g1', bd_s, if_neg (by decide), g2']
        exact (k_found h 2).bdr
      · have g1' : f_X1_someIsTooShort N wx = some ((0 : Int32), wx) := g1
        have g2' : l_X10_stand_25 f_X10_stand_55 f_X10_stand_67 FU (nI s) (0 : Int32) wm = f_X10_stand_67 (nI s) wm := g2
        rw [g1', bd_s, if_pos rfl, g2']
        obtain ⟨uc, c1, c2, c3, c4⟩ := m_clr (v1 := nI s) (v2 := 0) (v3 := 0) f_X10_stand_95 49 0 wm (by omega) (fun q hq => by omega) FU (FU_big (by omega))
        have c1' : f_X10_stand_67 (nI s) wm = f_X10_stand_95 (nI s) (0 : Int32) (0 : Int32) uc := c1
        obtain ⟨ux, um, l1, l2, l3, l4, l5⟩ := k_ld (v1 := nI s) hB.2.1.1 hB.2.2.1 (fun r hr => g3 r (by omega) hr) (f_X6_load_91 N) f_X10_stand_194 f_X10_stand_259 (N * N) 0 wx uc (by omega) rfl (fun _ _ => rfl) c3 c4 (fun q hq => by omega) (fun q _ hq => c2 q hq) FU (FU_big (by omega))
        rw [c1']
        rcases l5 with ⟨d1, d2⟩ | ⟨d1, d2, d3, d4⟩
        · have d1' : f_X6_load N wx = some ((-1 : Int32), ux) := d1
          have d2' : f_X10_stand_95 (nI s) (0 : Int32) (0 : Int32) uc = f_X10_stand_194 um := d2
          rw [d1', bd_s, if_pos (by decide), d2']
          exact bad ux um l1 (fun k hk => l2 k (by omega)) (fun j _ => by rw [l2 22 (by decide)]) (fun k hk => l4 k (by omega)) (fun j _ => by rw [l4 50 (by decide)])
        · have d1' : f_X6_load N wx = f_X6_load_91 N (nI (sumR nzw (boV N wx) (N * N))) ux := d1
          have d2' : f_X10_stand_95 (nI s) (0 : Int32) (0 : Int32) uc = f_X10_stand_259 (nI s) (nI (sumR kgc (boV N wx) (N * N))) (nI (sumR nzw (boV N wx) (N * N))) um := d2
          have hcn : sumR nzw (boV N wx) (N * N) ≤ 1 * (N * N) := sumR_le (fun i => by unfold nzw; split <;> omega) _
          have hk0 : sumR (kgw 0) (boV N wx) (N * N) ≤ 1 * (N * N) := sumR_le (fun i => kgw_le) _
          have hk1 : sumR (kgw 1) (boV N wx) (N * N) ≤ 1 * (N * N) := sumR_le (fun i => kgw_le) _
          have hkc := sumR_kgc (b := boV N wx) (N * N)
          obtain ⟨uh, e1, e2, e3, e4⟩ := m_hnd (v1 := nI s) (v2 := nI (sumR kgc (boV N wx) (N * N))) (v3 := nI (sumR nzw (boV N wx) (N * N))) f_X10_stand_289 16 0 um (by omega) (fun j hj => by omega) FU (FU_big (by omega))
          have e1' : f_X10_stand_259 (nI s) (nI (sumR kgc (boV N wx) (N * N))) (nI (sumR nzw (boV N wx) (N * N))) um = f_X10_stand_289 (nI s) (nI (sumR kgc (boV N wx) (N * N))) (nI (sumR nzw (boV N wx) (N * N))) uh := e1
          obtain ⟨uk, i1, i2, i3⟩ := x_findKings (bo := boV N wx) (w := ux) h7 (by rw [l2 22 (by decide)]; exact hB.2.1.1.2.1) (fun q hq => ⟨(d3 q hq).1, (d3 q hq).2.1⟩)
          have ym : ∀ k, k ≠ 60 → k ≠ 61 → k ≠ 62 → (wdI uh 62 0 (nI s)).1 k = wm.1 k := fun k a b c => by rw [wI_c c, e4 k b, l4 k a]
          have xk : ∀ k, k ≠ 23 → k ≠ 25 → uk.1 k = wx.1 k := fun k a b => (i2 k b).trans (l2 k a)
          have e91 : f_X6_load_91 N (nI (sumR nzw (boV N wx) (N * N))) ux = some (nI (sumR nzw (boV N wx) (N * N)), ux) := rfl
          rw [d1', e91, bd_s, if_neg (nI_pos (by omega)), d2', e1']
          unfold f_X10_stand_289 f_X10_stand_313
          rw [show inb (0 : Int32) 16 = true from rfl, if_pos rfl, lw_e, show Int32.toNatClampNeg (0 : Int32) = 0 from rfl]
          rcases i3 with ⟨j1, j2⟩ | ⟨j1, j2, kf, j3, j4⟩
          · rw [j1, bd_s, if_pos rfl, if_neg (show ¬ nI (sumR kgc (boV N wx) (N * N)) = (101 : Int32) from fun z => by
              have := (nI_inj (b := 101) (by omega) (by omega)).mp z
              exact j2 (by omega))]
            exact bad uk (wdI uh 62 0 (nI s)) (i1.trans l1) (fun k hk => xk k (by omega) (by omega)) (fun j _ => by rw [xk 22 (by decide) (by decide)]) (fun k hk => ym k (by omega) (by omega) (by omega)) (fun j _ => by rw [ym 50 (by decide) (by decide) (by decide)])
          · rw [j1, bd_s, if_neg (by decide), if_pos (show nI (sumR kgc (boV N wx) (N * N)) = (101 : Int32) from by
              have e : sumR kgc (boV N wx) (N * N) = 101 := by omega
              rw [e]; rfl)]
            -- the position
            have hbo : ∀ q, boV N wx q ≤ 32 := fun q => by
              by_cases z : q < N * N
              · exact (d3 q z).1
              · unfold boV; rw [if_neg z]; omega
            have hhd : ∀ j, j < 16 → wx.1 1 j = nI ((wx.1 1 j).toNatClampNeg) ∧ wm.1 77 j = nI ((wx.1 1 j).toNatClampNeg) ∧ (wx.1 1 j).toNatClampNeg ≤ 9 ∧ (j = 0 ∨ j = 8 → (wx.1 1 j).toNatClampNeg = 0) := fun j hj => by
              obtain ⟨v, z1, z2, z3, z4⟩ := hH j hj
              rw [z2, z3, nI_clamp (by omega)]
              exact ⟨rfl, rfl, z1, z4⟩
            have hKU : KU N (boV N wx) (kgf N (boV N wx)) := j3.c (fun t ht => kgf_e j3 ht) (fun q _ => hbo q)
            have hV : VB N (boV N wx, fun j => (wx.1 1 j).toNatClampNeg, s) := by
              refine ⟨hbo, fun q hq => if_neg (by omega), hs, hKU, (hhd 0 (by omega)).2.2.2 (Or.inl rfl), (hhd 8 (by omega)).2.2.2 (Or.inr rfl), fun k k1 k2 => ?_⟩
              have z1 := (hhd k (by omega)).2.2.1
              have z2 := (hhd (8 + k) (by omega)).2.2.1
              have z3 : sumR (wt k) (boV N wx) (N * N) ≤ 1 * (N * N) := sumR_le (fun i => by unfold wt; split <;> omega) _
              show (wx.1 1 k).toNatClampNeg + (wx.1 1 (8 + k)).toNatClampNeg + sumR (wt k) (boV N wx) (N * N) ≤ 67
              omega
            have hcp : cpok (0 : Int32) (0 : Int32) (Int32.ofNat 16) 16 16 = true := by decide
            have x24 : ∀ j, j < 16 → (va_cpy (uk.1 1) (uk.1 24) 0 0 16) j = wx.1 1 j := fun j hj => by
              rw [pk_cpy_in (by omega) (by omega), xk 1 (by decide) (by decide)]
              rw [show 0 + (j - 0) = j by omega]
            rw [hcp, if_pos rfl, lw_e, lw_e, show Int32.toNatClampNeg (Int32.ofNat 16) = 16 from rfl]
            generalize hw10 : wdI (wdA uk 24 (va_cpy (uk.1 1) (uk.1 24) 0 0 16)) 22 7 (nI s) = w10
            have x10 : ∀ k, k ≠ 22 → k ≠ 23 → k ≠ 24 → k ≠ 25 → w10.1 k = wx.1 k := fun k a b c d => by
              rw [← hw10, wI_c a, wA_c c, xk k b d]
            have x1022 : ∀ j, j ≠ 7 → w10.1 22 j = wx.1 22 j := fun j hj => by
              rw [← hw10, wI_n hj, wA_c (by decide), xk 22 (by decide) (by decide)]
            have x2 : w10.2 = wx.2 := by
              rw [← hw10]
              exact i1.trans l1
            have hXC : XC N K w10 := hB.2.1.of (fun k h1 h2 => x10 k (by omega) (by omega) (by omega) (by omega)) ⟨x1022 1 (by decide), x1022 2 (by decide)⟩ (by rw [x10 27 (by decide) (by decide) (by decide) (by decide)])
            have hA : XA N K (boV N wx, fun j => (wx.1 1 j).toNatClampNeg, s) w10 := by
              refine ⟨hXC.1, hXC.2.1, hXC.2.2.1, ⟨fun q hq => ⟨?_, hbo q⟩, fun j hj => ⟨?_, ?_⟩, ?_, hs⟩, fun t ht => ?_, hXC.2.2.2⟩
              · rw [← hw10, wI_c (by decide), wA_c (by decide), i2 23 (by decide)]
                exact (d3 q hq).2.1
              · rw [← hw10, wI_c (by decide), wA_s, x24 j hj]
                exact (hhd j hj).1
              · have := (hhd j hj).2.2.1
                show (wx.1 1 j).toNatClampNeg < 1000
                omega
              · rw [← hw10, wI_s]
              · rw [← hw10, wI_c (by decide), wA_c (by decide), j4 t ht]
                show nI (kf t) = nI (kgf N (boV N wx) t)
                rw [kgf_e j3 ht]
            have hMP : MP N 0 (boV N wx, fun j => (wx.1 1 j).toNatClampNeg, s) (wdI uh 62 0 (nI s)) := by
              refine ⟨by omega, fun q hq => ⟨?_, hbo q⟩, fun j hj => ⟨?_, ?_⟩, by rw [wI_s], hs⟩
              · rw [Nat.mul_zero, Nat.zero_add, wI_c (by decide), e4 60 (by decide)]
                by_cases z : q < N * N
                · exact (d3 q z).2.2
                · rw [d4 q (by omega) hq]
                  show (0 : Int32) = nI (boV N wx q)
                  unfold boV
                  rw [if_neg z]; rfl
              · rw [Nat.mul_zero, Nat.zero_add, wI_c (by decide), e2 j hj, l4 77 (by decide)]
                exact (hhd j hj).2.1
              · have := (hhd j hj).2.2.1
                show (wx.1 1 j).toNatClampNeg < 1000
                omega
            have t62 : TopM wm (wdI uh 62 0 (nI s)) := ⟨fun k hk => ym k (by omega) (by omega) (by omega), fun j hj => by rw [ym 50 (by decide) (by decide) (by decide)]⟩
            obtain ⟨uI, o1, o2⟩ := m_inCheck (lv := 0) (s := 1 - s) (by omega) (hB.2.2.1.top t62) (hMP.b h7)
            have o2' : f_X10_inCheck (0 : Int32) (nI (1 - s)) (wdI uh 62 0 (nI s)) = some (b2i (chk N K (boV N wx) (1 - s)), uI) := o2
            have oU : UpM 0 0 (wdI uh 62 0 (nI s)) uI := o1.up
            rw [n1s hs, x_inCheck hA hV (show 1 - s < 2 by omega), bd_s, b2_0, o2', bd_s, b2_0]
            have tI : TopM wm uI := t62.tr oU.top
            by_cases qc : chk N K (boV N wx) (1 - s) = true
            · rw [if_pos qc, if_pos qc]
              exact bad w10 uI x2 (fun k hk => x10 k (by omega) (by omega) (by omega) (by omega)) x1022 (fun k hk => tI.1 k hk) (fun j hj => by rw [oU.2.2.1 j hj, ym 50 (by decide) (by decide) (by decide)])
            · have hVP : VP N K (boV N wx, fun j => (wx.1 1 j).toNatClampNeg, s) := ⟨hV, by simpa using qc⟩
              obtain ⟨oc, os, hos, hcs⟩ : ∃ oc os, ((oc = 35 ∧ os = 39) ∨ (oc = 39 ∧ os = 35)) ∧ wx.2.2 = (oc, os) := by
                rcases hS.1 with z | z
                · exact ⟨35, 39, Or.inl ⟨rfl, rfl⟩, z⟩
                · exact ⟨39, 35, Or.inr ⟨rfl, rfl⟩, z⟩
              have hok : okP oc = true := by
                rcases hos with ⟨rfl, _⟩ | ⟨rfl, _⟩ <;> rfl
              have hoc : 35 ≤ oc := by omega
              have h13 : (wdI w10 0 10 1).2.2 = (oc, os) := by
                show w10.2.2 = _
                rw [x2]; exact hcs
              have hA13 : XA N K (boV N wx, fun j => (wx.1 1 j).toNatClampNeg, s) (wdI w10 0 10 1) := hA.oth2 (fun k a b _ => wI_c (by omega))
              obtain ⟨w14, r1, r2, r3, r4, r5⟩ := x_begin (o := oc) (by omega) hA13 hVP
              obtain ⟨w16, t1, t2, t3⟩ := x_settle (os := os) (ps := fun _ => (boV N wx, fun j => (wx.1 1 j).toNatClampNeg, s)) hos (by rw [r2.1]; exact h13) r3 r4 (by rw [(r2.top hoc).2 10 (by decide), wI_s])
              -- the reference
              generalize hu28 : wdI (wdI (wdI (wdI uI 50 25 1) 50 35 0) 50 36 0) 50 37 0 = u28
              have y28 : ∀ k, k ≠ 50 → u28.1 k = uI.1 k := fun k hk => by rw [← hu28, wI_c hk, wI_c hk, wI_c hk, wI_c hk]
              have z28 : ∀ j, j ≠ 25 → j ≠ 35 → j ≠ 36 → j ≠ 37 → u28.1 50 j = uI.1 50 j := fun j a b c d => by rw [← hu28, wI_n d, wI_n c, wI_n b, wI_n a]
              have hMP28 : MP N 0 (boV N wx, fun j => (wx.1 1 j).toNatClampNeg, s) u28 := by
                rw [← hu28]
                exact (hMP.up (Nat.le_refl _) oU).i50.i50.i50.i50
              obtain ⟨u29, k1, k2, k3⟩ := m_keepStand (h := 0) (i := 0) hMP28 (by omega) (by omega)
              have k1' : f_X10_keepStand (0 : Int32) (0 : Int32) u28 = some ((), u29) := k1
              have p28 : ∀ j, u29.1 50 j = u28.1 50 j := fun j => by rw [k2.2.1 50 (by decide) (by decide) (by decide)]
              obtain ⟨p1, p2, p3, p4, p5, p6⟩ := Rl.pre (vx := wdI w10 0 10 1) (vm := u28) hB hL hH hF hT hC (fun k hk => (wI_c (by omega)).trans (x10 k (by omega) (by omega) (by omega) (by omega))) (fun j hj => by rw [wI_c (by decide)]; exact x1022 j hj) (fun j hj => by rw [wI_n (by omega), x10 0 (by decide) (by decide) (by decide) (by decide)]) (fun k hk => (y28 k (by omega)).trans (tI.1 k hk)) (fun j hj => (z28 j (by omega) (by omega) (by omega) (by omega)).trans (tI.2 j (by omega)))
              have t29 : TopM u28 u29 := (k2.hf (h := 0) (i := 0) (by omega)).top
              have hX29 : MPl N K 0 (fun _ => (boV N wx, fun j => (wx.1 1 j).toNatClampNeg, s)) (fun _ => 0) 0 u29 := ⟨⟨by omega, by omega⟩, fun i hi => by rw [show i = 0 by omega]; exact k3, fun i hi => by omega, hVP, fun i hi => by omega⟩
              have hMP29 : MP N 0 (boV N wx, fun j => (wx.1 1 j).toNatClampNeg, s) u29 := by
                unfold MP at hMP28 ⊢
                rw [k2.2.1 60 (by decide) (by decide) (by decide), k2.2.1 61 (by decide) (by decide) (by decide), k2.2.1 62 (by decide) (by decide) (by decide)]
                exact hMP28
              have v25 : u28.1 50 25 = 1 := by rw [← hu28, wI_n (by decide), wI_n (by decide), wI_n (by decide), wI_s]
              have v35 : u28.1 50 35 = nI 0 := by rw [← hu28, wI_n (by decide), wI_n (by decide), wI_s]; rfl
              have v36 : u28.1 50 36 = nI 0 := by rw [← hu28, wI_n (by decide), wI_s]; rfl
              have v37 : u28.1 50 37 = nI 0 := by rw [← hu28, wI_s]; rfl
              obtain ⟨u31, s1, s2, s3⟩ := m_settle (h := 0) (d := 0) (a := 0) (ps := fun _ => (boV N wx, fun j => (wx.1 1 j).toNatClampNeg, s)) (p1.2.2.1.top t29) (p1.2.2.2.top t29) hMP29 hX29 (Nat.le_refl _) (by rw [p28]; exact v25) (by rw [p28]; exact v35) (by rw [p28]; exact v36) (by rw [p28]; exact v37)
              have s1' : f_X10_stateOf (0 : Int32) (0 : Int32) u29 = some (nI (stS N K (fun _ => (boV N wx, fun j => (wx.1 1 j).toNatClampNeg, s)) 0), u31) := s1
              rw [if_neg qc, if_neg qc, lw_e, show (wdI w10 0 10 1).2.2.1 = oc by rw [h13], hok, if_pos rfl, r1, bd_s, t1, bd_s, lw_e, lw_e, lw_e, lw_e, hu28, k1', bd_s, s1', bd_s, lw_e]
              exact ⟨_, _, _, rfl, rfl, Rl.std p1 p2 p3 p4 p5 p6 ((r2.top hoc).tr t3) (t29.tr s3) t2 s2⟩
    · rw [if_neg (by rw [f1]; decide), if_neg (by rw [f2]; decide)]
      exact h.same _ rfl rfl
  · rw [if_neg q1, if_neg q1]
    exact h.same _ rfl rfl
