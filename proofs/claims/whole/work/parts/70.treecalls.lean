/-! ===== hunts, trees, texts, verify ===== -/
theorem MSd.hv {N h d a : Nat} {K : Kd} {ps : Nat → Ps} {cs : Nat → Nat} {w w' : Wd} (x : MSd N K h ps cs d a w) (u : HvM w w') : MSd N K h ps cs d a w' := by
  obtain ⟨h1, h2, h3, h4, h5, h6, h7, h8⟩ := x
  refine ⟨h1.hv u, h2.of (fun k a b => u.2.1 k (by omega)), h3, ?_, ?_, ?_, ?_, ?_⟩
  · rw [u.2.2.1 25 (by decide) (by decide) (by decide)]; exact h4
  · rw [u.2.2.1 35 (by decide) (by decide) (by decide)]; exact h5
  · rw [u.2.2.1 36 (by decide) (by decide) (by decide)]; exact h6
  · rw [u.2.2.1 37 (by decide) (by decide) (by decide)]; exact h7
  · rw [u.2.2.1 38 (by decide) (by decide) (by decide)]; exact h8
theorem Rl.hun {N oc os h d a : Nat} {K : Kd} {ps : Nat → Ps} {cs : Nat → Nat} {wx wm vx vm : Wd} (hB : RBs N K wx wm) (hL : RLs N wx wm) (hH : RHs wx wm) (hF : RFs wx wm) (hT : RTs N wx wm) (sx : XSd N K oc os ps cs d a wx) (sm : MSd N K h ps cs d a wm) (cx : ChX N 2 0 wx vx) (hA : XA N K (ps d) vx) (cm : HvM wm vm) (hC : RCs N vx vm) : Rl N vx vm := by
  obtain ⟨b1, b2, b3, b4⟩ := hB
  have hlen := mov_len (K := K) sx.2.2.1.n7 sx.2.2.1.n5 sx.vp.mv
  have sx' : XSd N K oc os ps cs d a vx := by
    obtain ⟨h1, h2, h3, h4, ⟨h5, h6⟩, h7⟩ := sx
    refine ⟨h1, by rw [cx.1]; exact h2, hA, h4.of (cx.2.1 _ (by omega)) (cx.2.1 _ (by omega)) (cx.2.1 _ (by omega)) (by rw [cx.1]), ⟨by rw [cx.2.1 0 (by omega)]; exact h5, fun j c hj => ?_⟩, by rw [cx.2.1 0 (by omega)]; exact h7⟩
    have hjl := (List.getElem?_eq_some_iff.mp hj).1
    rw [List.length_map] at hjl
    rw [cx.2.2.2.1 _ (by omega) (by omega)]
    exact h6 j c hj
  refine ⟨K, ⟨by rw [cx.2.1 0 (by omega)]; exact b1, hA.xc, ⟨by rw [cm.2.2.1 0 (by decide) (by decide) (by decide)]; exact b3.1, b3.2.1, b3.2.2.1, fun t ht => by rw [cm.2.1 53 (by omega), cm.2.1 54 (by omega)]; exact b3.2.2.2 t ht⟩, fun k hk => by rw [cm.2.1 55 (by omega)]; exact b4 k hk⟩, hL.top b3.2.1 (fun k h1 h2 => cx.2.1 k (by omega)) (fun k h1 h2 => cm.2.1 k (by omega)), hH.top (cx.2.1 1 (by omega)) (cm.2.1 77 (by omega)), ?_, hT.top (fun k hk => cx.2.1 k (by omega)) (cm.2.1 102 (by omega)) (cm.2.2.1 50 (by decide) (by decide) (by decide)), hC, ?_, Or.inr ⟨oc, os, h, ps, cs, d, a, sx', sm.hv cm⟩⟩
  · unfold RFs at hF ⊢
    rw [cx.2.1 0 (by omega), cm.2.2.1 1 (by decide) (by decide) (by decide)]
    exact hF
  · rcases sx'.1 with ⟨rfl, rfl⟩ | ⟨rfl, rfl⟩
    · exact Or.inl sx'.2.1
    · exact Or.inr sx'.2.1
theorem k_hunt {N : Nat} {wx wm : Wd} {v1 : Int32} (h : Rl N wx wm) : CallOk N (f_X9_hunt N v1 wx) (f_X10_hunt v1 wm) := by
  have hh := h
  obtain ⟨K, hB, hL, hH, hF, hT, hC, hS⟩ := hh
  have h7 := hB.2.2.1.2.1
  have h5 := hB.2.2.1.2.2.1
  have e0 : f_X10_in (Int32.toInt64 v1) (1 : Int64) (4 : Int64) wm = some (if (1 : Int32) ≤ v1 ∧ v1 ≤ nI 4 then 1 else 0, wm) := m_in1l v1 1 4 (by omega) (by omega) wm
  by_cases q : (1 : Int32) ≤ v1 ∧ v1 ≤ nI 4
  · rcases hS.2 with ⟨f1, f2⟩ | ⟨oc, os, hw, ps, cs, d, a, sx, m⟩
    · refine h.same (-3) ?_ ?_
      · unfold f_X9_hunt
        rw [show (4 : Int32) = nI 4 from rfl, lo1_le (by omega) (by omega), if_pos q, if_pos f1]
      · unfold f_X10_hunt
        rw [e0, bd_s, ite10, if_pos q, if_pos f2]
    · obtain ⟨k, k1, k2, rfl⟩ := (in1_e (by omega) (by omega)).mp q
      obtain ⟨F, u, T, c1, c2, c3, c4⟩ := hC
      obtain ⟨vx, b1, b2, b3, b4, b5⟩ := x_hunt sx.2.2.1 sx.vp k1 k2 (xs0 sx) c2.1 c1
      obtain ⟨vm, a1, a2, a3, a4⟩ := m_hunt hB.2.2.1 hB.2.2.2 m.1 sx.vp k1 k2 (ms0 m) c2.2 c1
      obtain ⟨o1, o2, o3⟩ := huT_ok (F := F) (K := K) h7 h5 sx.vp.mv k 1 0
      refine ⟨_, vx, vm, b1, a1, Rl.hun hB hL hH hF hT sx m b2 b3 a2 ⟨F, _, huT (huR N K F (ps d) k 1 0), c1, ⟨b4.2.1, ?_⟩, ⟨b4.2.2, a3.2⟩, b4.1, b5, ⟨a4, a3.1, o3, o2⟩, ?_⟩⟩
      · rw [a2.2.2.1 39 (by decide) (by decide) (by decide)]; exact c2.2
      · rcases o1 with z | ⟨k', z1, z2⟩
        · exact Or.inl z
        · exact Or.inr ⟨k', by omega, z2⟩
  · refine h.same (-2) ?_ ?_
    · unfold f_X9_hunt
      rw [show (4 : Int32) = nI 4 from rfl, lo1_le (by omega) (by omega), if_neg q]; rfl
    · unfold f_X10_hunt
      rw [e0, bd_s, ite10, if_neg q]
theorem k_node {N : Nat} {wx wm : Wd} {v1 v2 : Int32} (h : Rl N wx wm) : CallOk N (f_X9_node N v1 v2 wx) (f_X10_node v1 v2 wm) := by
  have hh := h
  obtain ⟨K, hB, hL, hH, hF, hT, ⟨F, u, T, c1, c2, c3, c4, c5, c6, c7⟩, hS⟩ := hh
  have h7 := hB.2.2.1.2.1
  have hl := c6.2.2.1
  unfold f_X9_node f_X10_node f_X9_node_15
  rw [c4, c6.2.1, lo_hi (by omega), in0_n (by omega), bd_s, b2_0]
  by_cases q : inb v1 T.length = true
  · obtain ⟨i, hi, rfl⟩ := (inb_iff (by omega)).mp q
    obtain ⟨e, he⟩ : ∃ e, T[i]? = some e := ⟨_, List.getElem?_eq_getElem hi⟩
    have hok := c6.2.2.2 e (List.mem_of_getElem? he)
    have hc6 := okF_lt h7 hok
    have x1 := c5 i e he
    have y1 := c6.1 i e he
    rw [Nat.zero_add] at x1 y1
    obtain ⟨k, hk, hsh⟩ : ∃ k, k ≤ 5 ∧ shH k 0 0 (T.map Prod.snd) := by
      rcases c7 with z | z
      · rw [z] at hi; exact absurd hi (by simp)
      · exact z
    have hdb : ∀ e ∈ T, e.2.2.1 < 2000 := by
      intro e' he'
      obtain ⟨i', hi', rfl⟩ := List.mem_iff_getElem.mp he'
      have := sh_depb hsh i' (T[i']).2 (by rw [List.getElem?_map, List.getElem?_eq_getElem hi']; rfl)
      omega
    have z1 : f_X3_fromOf (nI e.1) wx = some (mF e.1, wx) := x_fromOf (a := 0) hc6 (by omega) wx
    have z2 : f_X3_toOf (nI e.1) wx = some (mT e.1, wx) := by
      unfold f_X3_toOf mT
      rw [cd_to0 hc6]
    have z3 : f_X3_raises (nI e.1) wx = some (nI (cr e.1), wx) := x_raises (a := 0) hc6 (by omega) wx
    have z4 : f_X3_setKindOf (nI e.1) wx = some (mK e.1, wx) := x_setKindOf (a := 0) hc6 (by omega) wx
    have hr := cr_lt e.1
    have z5 : f_X9_asNumber N (nI (cr e.1)) wx = some (mR e.1, wx) := by
      unfold mR
      rcases (show cr e.1 = 0 ∨ cr e.1 = 1 by omega) with z | z <;> rw [z] <;> rfl
    rw [if_pos q, if_pos q, inb_nI (show i < 1000 by omega) (by omega), inb_nI (show i < 1100 by omega) (by omega), nI_clamp (by omega), x1.1, x1.2.1, x1.2.2, y1.1, y1.2.1, y1.2.2.1, y1.2.2.2.1, y1.2.2.2.2.1, y1.2.2.2.2.2]
    simp only [if_true]
    rw [lt_e, z1, z2, z3, z4, bd_s, bd_s, bd_s, z5, bd_s, bd_s, x_depthOf hsh c4 hl c5 he, bd_s, m_within hsh c6 hdb he, bd_s]
    by_cases q0 : v2 = (0 : Int32)
    · rw [if_pos q0, if_pos q0]; exact h.same _ rfl rfl
    · rw [if_neg q0, if_neg q0]
      by_cases q0 : v2 = (1 : Int32)
      · rw [if_pos q0, if_pos q0]; exact h.same _ rfl rfl
      · rw [if_neg q0, if_neg q0]
        by_cases q0 : v2 = (2 : Int32)
        · rw [if_pos q0, if_pos q0]; exact h.same _ rfl rfl
        · rw [if_neg q0, if_neg q0]
          by_cases q0 : v2 = (3 : Int32)
          · rw [if_pos q0, if_pos q0]; exact h.same _ rfl rfl
          · rw [if_neg q0, if_neg q0]
            by_cases q0 : v2 = (4 : Int32)
            · rw [if_pos q0, if_pos q0]; exact h.same _ rfl rfl
            · rw [if_neg q0, if_neg q0]
              by_cases q0 : v2 = (5 : Int32)
              · rw [if_pos q0, if_pos q0]; exact h.same _ rfl rfl
              · rw [if_neg q0, if_neg q0]
                by_cases q0 : v2 = (6 : Int32)
                · rw [if_pos q0, if_pos q0]; exact h.same _ rfl rfl
                · rw [if_neg q0, if_neg q0]; exact h.same _ rfl rfl
  · rw [if_neg q, if_neg q]
    exact h.same _ rfl rfl
theorem k_verify {N : Nat} {wx wm : Wd} (h : Rl N wx wm) : CallOk N (f_X9_verify N wx) (f_X10_verify wm) := by
  have hh := h
  obtain ⟨K, hB, hL, hH, hF, hT, hC, hS⟩ := hh
  rcases hS.2 with ⟨f1, f2⟩ | ⟨oc, os, hw, ps, cs, d, a, sx, m⟩
  · refine h.same (-3) ?_ ?_
    · unfold f_X9_verify
      rw [if_pos f1]; rfl
    · unfold f_X10_verify
      rw [if_pos f2]; rfl
  · have hC' := hC
    obtain ⟨F, u, T, c1, c2, c3, c4, c5, c6, c7⟩ := hC'
    rcases c7 with z | ⟨k, hk, hsh⟩
    · refine h.same (-3) ?_ ?_
      · unfold f_X9_verify
        rw [if_neg (xs0 sx), c4, z, if_pos (show nI ([] : List Nd).length = (0 : Int32) from rfl)]; rfl
      · unfold f_X10_verify
        rw [if_neg (ms0 m), c6.2.1, z, if_pos (show nI ([] : List Nd).length = (0 : Int32) from rfl)]; rfl
    · by_cases hne : T = []
      · refine h.same (-3) ?_ ?_
        · unfold f_X9_verify
          rw [if_neg (xs0 sx), c4, hne, if_pos (show nI ([] : List Nd).length = (0 : Int32) from rfl)]; rfl
        · unfold f_X10_verify
          rw [if_neg (ms0 m), c6.2.1, hne, if_pos (show nI ([] : List Nd).length = (0 : Int32) from rfl)]; rfl
      · obtain ⟨vx, b1, b2, b3⟩ := x_verify sx.2.2.1 sx.vp hsh hk hne c4 c6.2.2.1 c5 c6.2.2.2 (xs0 sx)
        obtain ⟨vm, a1, a2, a3, a4, a5⟩ := m_verify hB.2.2.1 hB.2.2.2 m.1 sx.vp c6 hsh hk hne (ms0 m)
        have tm : TopM wm vm := ⟨fun k hk => by
          rcases (show (53 ≤ k ∧ k ≤ 58) ∨ k = 77 ∨ (92 < k ∧ k ≠ 99) by omega) with z | z | z
          · exact a2.2.1 k (by omega)
          · exact a2.2.1 k (by omega)
          · exact a3 k z.1 z.2, fun j hj => by
          by_cases z : j = 40
          · rw [z]; exact a4
          · by_cases z2 : j = 41
            · rw [z2]; exact a5
            · exact a2.2.2.1 j (by omega) z z2⟩
        exact ⟨_, vx, vm, b1, a1, Rl.std hB hL hH hF hT hC b2.top tm (sx.fr b2 b3 (Or.inl (Nat.le_refl _))) (m.hv a2)⟩
theorem fb_bt {N f : Nat} (hf : f < 64) : ∀ b ∈ fb N f, b < 256 := by
  intro b hb
  unfold fb at hb
  have h1 : f % N ≤ f := Nat.mod_le _ _
  have h2 : f / N ≤ f := Nat.div_le_self _ _
  simp at hb
  omega
theorem mvB_bt {N c : Nat} : ∀ b ∈ mvB N c, b < 256 := by
  intro b hb
  unfold mvB at hb
  have h1 : ct c < 64 := Nat.mod_lt _ (by decide)
  have h2 : cf c < 64 := Nat.mod_lt _ (by decide)
  have h3 : ck c < 8 := Nat.mod_lt _ (by decide)
  rcases List.mem_append.mp hb with z | z
  · by_cases q : cf c = 63
    · rw [if_pos q] at z
      simp at z
      omega
    · rw [if_neg q] at z
      exact fb_bt h2 b z
  · rcases List.mem_append.mp z with z | z
    · exact fb_bt h1 b z
    · by_cases q : cr c = 0
      · rw [if_pos q] at z; simp at z
      · rw [if_neg q] at z; simp at z; omega
theorem plB_bt {N : Nat} {cs : Nat → Nat} : ∀ i, ∀ b ∈ plB N cs i, b < 256
  | 0, b, hb => by simp [plB] at hb
  | i + 1, b, hb => by
    unfold plB at hb
    rcases List.mem_append.mp hb with z | z
    · exact plB_bt i b z
    · rcases List.mem_append.mp z with z | z
      · by_cases q : i = 0
        · rw [if_pos q] at z; simp at z
        · rw [if_neg q] at z; simp at z; omega
      · exact mvB_bt b z
theorem BtB_pl {N d : Nat} {cs : Nat → Nat} (hd : d ≤ 300) : BtB (plB N cs d) := ⟨by have := plB_len (N := N) (cs := cs) d; omega, plB_bt d⟩
theorem k_write {N : Nat} {wx wm : Wd} (h : Rl N wx wm) : CallOk N (f_X9_write N wx) (f_X10_write wm) := by
  have hh := h
  obtain ⟨K, hB, hL, hH, hF, hT, hC, hS⟩ := hh
  have h7 := hB.2.2.1.2.1
  have h5 := hB.2.2.1.2.2.1
  rcases hS.2 with ⟨f1, f2⟩ | ⟨oc, os, hw, ps, cs, d, a, sx, m⟩
  · refine h.same (-3) ?_ ?_
    · unfold f_X9_write
      rw [if_pos f1]
    · unfold f_X10_write
      rw [if_pos f2]
  · obtain ⟨B, t1, t2, t3⟩ := hT
    have hc1 : wx.2.2.1 = oc := by rw [sx.2.1]
    obtain ⟨vx, b1, b2, b3⟩ := x_write h7 h5 (by have := sx.1; omega) hc1 sx.2.2.2.1 t2 (xs0 sx)
    obtain ⟨vm, a1, a2, a3⟩ := m_write (B := B) hB.2.2.1.1 h7 h5 m.2.2.2.2.1 m.2.2.2.2.2.1 m.2.2.1 m.2.1 (ms0 m)
    refine ⟨_, vx, vm, b1, a1, Rl.low hB hL hH hF hS ⟨_, BtB_pl (by have := sx.2.2.2.1.2.1; omega), b2, a2⟩ (hC.top (fun k h1 h2 => b3.2.1 k (by omega) (by omega)) (fun k h1 h2 => a3.2.1 k (by omega) (by omega)) (fun j hj => a3.2.2 j (by omega))) (fun k h1 h2 _ _ _ _ => b3.2.1 k h1 h2) b3.1 (fun k h1 h2 => a3.2.1 k h1 (by omega)) (fun j _ _ _ _ h5 => a3.2.2 j h5)⟩
theorem k_read {N : Nat} {wx wm : Wd} (h : Rl N wx wm) : CallOk N (f_X9_read N wx) (f_X10_read wm) := by
  have hh := h
  obtain ⟨K, hB, hL, hH, hF, hT, hC, hS⟩ := hh
  rcases hS.2 with ⟨f1, f2⟩ | ⟨oc, os, hw, ps, cs, d, a, sx, m⟩
  · refine h.same (-3) ?_ ?_
    · unfold f_X9_read
      rw [if_pos f1]
    · unfold f_X10_read
      rw [if_pos f2]
  · have hT' := hT
    obtain ⟨B, t1, t2, t3⟩ := hT'
    obtain ⟨vx, b1, b2, b3, b4⟩ := x_read sx t2 t1
    obtain ⟨vm, a1, a2, a3, a4⟩ := m_read hB.2.2.1 hB.2.2.2 m t3 t1
    refine ⟨_, vx, vm, b1, a1, ?_⟩
    by_cases q : (rdA N K B (ps 0)).1 = 0
    · exact Rl.std hB hL hH hF hT hC b2 a2 (b4 q) (a4 q)
    · exact Rl.std hB hL hH hF hT hC b2 a2 (b3 q) (a3 q)
theorem set_sh {T : List Nd} {i : Nat} {e : Nd} {c : Nat} (h : T[i]? = some e) : (T.set i (c, e.2)).map Prod.snd = T.map Prod.snd := by
  apply List.ext_getElem?
  intro j
  rw [List.getElem?_map, List.getElem?_map, List.getElem?_set]
  by_cases q : i = j
  · subst q
    have hi := (List.getElem?_eq_some_iff.mp h).1
    rw [if_pos rfl, if_pos hi, h]; rfl
  · rw [if_neg q]
theorem set_get {T : List Nd} {i j : Nat} {x e : Nd} (h : (T.set i x)[j]? = some e) : (i = j ∧ e = x) ∨ (i ≠ j ∧ T[j]? = some e) := by
  rw [List.getElem?_set] at h
  by_cases q : i = j
  · rw [if_pos q] at h
    split at h
    · exact Or.inl ⟨q, (Option.some.inj h).symm⟩
    · cases h
  · rw [if_neg q] at h
    exact Or.inr ⟨q, h⟩
/-- one node's move told anew, on both -/
theorem Rl.frg {N i c : Nat} {K : Kd} {F u : Nat} {T : List Nd} {e : Nd} {wx wm : Wd} (hB : RBs N K wx wm) (hL : RLs N wx wm) (hH : RHs wx wm) (hF : RFs wx wm) (hT : RTs N wx wm) (hS : RSs N K wx wm) (c1 : F ≤ 1000) (c2 : wx.1 29 6 = nI F ∧ wm.1 50 39 = nI F) (c3 : wx.1 29 7 = nI u ∧ wm.1 50 40 = nI u) (c4 : TreeR N T wx wm) (he : T[i]? = some e) (hok : okF N c) {x4 x5 x6 x7 : Int32} (e4 : x4 = mF c) (e5 : x5 = mT c) (e6 : x6 = mR c) (e7 : x7 = mK c) : Rl N (wdI wx 30 i (nI c)) (wdI (wdI (wdI (wdI wm 94 i x4) 95 i x5) 96 i x6) 97 i x7) := by
  subst e4 e5 e6 e7
  obtain ⟨g1, g2, ⟨g3, g4, g5, g6⟩, g7⟩ := c4
  have y : ∀ k, k < 94 ∨ 97 < k → (wdI (wdI (wdI (wdI wm 94 i (mF c)) 95 i (mT c)) 96 i (mR c)) 97 i (mK c)).1 k = wm.1 k := fun k hk => by
    rw [wI_c (by omega), wI_c (by omega), wI_c (by omega), wI_c (by omega)]
  have d4 : ∀ j, (wdI (wdI (wdI (wdI wm 94 i (mF c)) 95 i (mT c)) 96 i (mR c)) 97 i (mK c)).1 94 j = (wdI wm 94 i (mF c)).1 94 j := fun j => by rw [wI_c (by decide), wI_c (by decide), wI_c (by decide)]
  have d5 : ∀ j, (wdI (wdI (wdI (wdI wm 94 i (mF c)) 95 i (mT c)) 96 i (mR c)) 97 i (mK c)).1 95 j = (wdI (wdI wm 94 i (mF c)) 95 i (mT c)).1 95 j := fun j => by rw [wI_c (by decide), wI_c (by decide)]
  have d6 : ∀ j, (wdI (wdI (wdI (wdI wm 94 i (mF c)) 95 i (mT c)) 96 i (mR c)) 97 i (mK c)).1 96 j = (wdI (wdI (wdI wm 94 i (mF c)) 95 i (mT c)) 96 i (mR c)).1 96 j := fun j => by rw [wI_c (by decide)]
  refine Rl.low hB hL hH hF hS (hT.top (fun k hk => wI_c (by omega)) (y 102 (by omega)) (by rw [y 50 (by omega)])) ⟨F, u, T.set i (c, e.2), c1, ⟨by rw [wI_c (by decide)]; exact c2.1, by rw [y 50 (by omega)]; exact c2.2⟩, ⟨by rw [wI_c (by decide)]; exact c3.1, by rw [y 50 (by omega)]; exact c3.2⟩, ?_, ?_, ⟨?_, ?_, ?_, ?_⟩, ?_⟩ (fun k _ _ _ h4 _ _ => wI_c h4) rfl (fun k h1 h2 => y k (by omega)) (fun j _ _ _ _ _ => by rw [y 50 (by omega)])
  · rw [wI_c (by decide), List.length_set]; exact g1
  · intro j e' hj
    rw [Nat.zero_add, wI_c (show (31 : Nat) ≠ 30 by decide), wI_c (show (32 : Nat) ≠ 30 by decide)]
    rcases set_get hj with ⟨z1, z2⟩ | ⟨z1, z2⟩
    · have := g2 i e he
      rw [Nat.zero_add] at this
      rw [← z1, z2, wI_s]
      exact ⟨rfl, this.2⟩
    · have := g2 j e' z2
      rw [Nat.zero_add] at this
      rw [wI_n (by omega)]
      exact this
  · intro j e' hj
    rw [Nat.zero_add, y 93 (by omega), y 98 (by omega), d4, d5, d6]
    rcases set_get hj with ⟨z1, z2⟩ | ⟨z1, z2⟩
    · have := g3 i e he
      rw [Nat.zero_add] at this
      rw [← z1, z2, wI_s, wI_s, wI_s, wI_s]
      exact ⟨this.1, rfl, rfl, rfl, rfl, this.2.2.2.2.2⟩
    · have := g3 j e' z2
      rw [Nat.zero_add] at this
      have ne : j ≠ i := by omega
      rw [wI_n ne, wI_n ne, wI_n ne, wI_n ne, wI_c (by decide), wI_c (by decide), wI_c (by decide), wI_c (by decide), wI_c (by decide), wI_c (by decide)]
      exact this
  · rw [y 50 (by omega), List.length_set]; exact g4
  · rw [List.length_set]; exact g5
  · intro e' he'
    obtain ⟨j, hj⟩ := List.mem_iff_getElem?.mp he'
    rcases set_get hj with ⟨z1, z2⟩ | ⟨z1, z2⟩
    · rw [z2]; exact hok
    · exact g6 e' (List.mem_of_getElem? z2)
  · rw [set_sh he]
    rcases g7 with z | z
    · rw [z] at he; simp at he
    · exact Or.inr z
theorem k_forge {N : Nat} {wx wm : Wd} {v1 v2 v3 v4 v5 : Int32} (h : Rl N wx wm) : CallOk N (f_X9_forge N v1 v2 v3 v4 v5 wx) (f_X10_forge v1 v2 v3 v4 v5 wm) := by
  have hh := h
  obtain ⟨K, hB, hL, hH, hF, hT, ⟨F, u, T, c1, c2, c3, c4⟩, hS⟩ := hh
  have h7 := hB.2.2.1.2.1
  have h5 := hB.2.2.1.2.2.1
  have hNN := NN_le h7
  have hl := c4.2.2.1.2.2.1
  have hx := x_isField (N := N) (w := wx) hB.1 h7
  have hm := m_isField (N := N) (w := wm) hB.2.2.1.1 h7 h5
  have no : CallOk N (some ((-2 : Int32), wx)) (some ((-2 : Int32), wm)) := h.same _ rfl rfl
  have hT5 : ∀ A B : Option (Int32 × Wd), (if v1 < (0 : Int32) then B else if nI T.length ≤ v1 then B else A) = if inb v1 T.length = true then A else B := by
    intro A B
    rw [← lo_hi (by omega)]
    by_cases z : v1 < 0
    · rw [if_pos z, if_pos z]
    · rw [if_neg z, if_neg z]
      obtain ⟨j, hj, rfl⟩ := nI_of z
      by_cases z2 : j < T.length
      · rw [if_neg (nI_ge z2 (by omega)), if_pos (nI_lt z2 (by omega))]
      · rw [if_pos (nI_le (by omega) (by omega)), if_neg (nI_nlt (by omega) (by omega))]
  have m10 : ∀ s0 : Int32, f_X10_forge_10 v1 v2 v3 v4 v5 s0 wm = if inb v1 T.length = true then (if inb v3 (N * N) = true then (if s0 = (0 : Int32) then (if inb v2 (N * N) = true then f_X10_forge_49 v1 v2 v3 v4 v5 s0 wm else some ((-2 : Int32), wm)) else f_X10_forge_49 v1 v2 v3 v4 v5 s0 wm) else some ((-2 : Int32), wm)) else some ((-2 : Int32), wm) := by
    intro s0
    unfold f_X10_forge_10 f_X10_forge_72
    rw [c4.2.2.1.2.1, in0_n (by omega), bd_s, b2_0, hm, bd_s, b2_0, hm, bd_s, b2_0]
  unfold f_X9_forge f_X10_forge f_X9_forge_23 f_X9_forge_44
  rw [m10, m10]
  unfold f_X10_forge_49 f_X10_forge_72
  rw [c4.1, hT5, hx, bd_s, b2_0]
  by_cases q1 : inb v1 T.length = true
  · obtain ⟨i, hi, rfl⟩ := (inb_iff (by omega)).mp q1
    obtain ⟨e, he⟩ : ∃ e, T[i]? = some e := ⟨_, List.getElem?_eq_getElem hi⟩
    rw [if_pos q1, if_pos q1, if_pos q1]
    by_cases q3 : inb v3 (N * N) = true
    · obtain ⟨t, ht, rfl⟩ := (inb_iff (by omega)).mp q3
      rw [if_pos q3, if_pos q3, if_pos q3]
      by_cases q2 : v2 = (-1 : Int32)
      · rw [if_pos q2, if_pos q2, if_neg (show ¬ (1 : Int32) = 0 by decide), if_neg (show ¬ (1 : Int32) = 0 by decide)]
        by_cases q4 : v4 = (0 : Int32)
        · rw [if_pos q4, if_pos q4, x_isHandKind, bd_s, b2_0, m_handKind, bd_s, b2_0]
          by_cases q5 : isH v5 = true
          · obtain ⟨k, k1, k2, rfl⟩ := isH_of q5
            obtain ⟨s1, s2, s3, s4⟩ := seC_ok (k := k) (t := t) k2 (by omega)
            rw [if_pos q5, if_pos q5, x_setting k2 (by omega), bd_s, inb_nI (show i < 1000 by omega) (by omega), if_pos rfl, lw_e, nI_clamp (by omega)]
            unfold f_X10_forge_75 f_X10_forge_104 f_X10_forge_121
            rw [inb_nI (show i < 1100 by omega) (by omega), if_pos rfl, lw_e, if_pos rfl, lw_e, if_pos q4, if_pos rfl, lw_e, if_neg (show ¬ (1 : Int32) = 0 by decide), if_pos rfl, lw_e, nI_clamp (by omega), q2]
            exact ⟨_, _, _, rfl, rfl, Rl.frg hB hL hH hF hT hS c1 c2 c3 c4 he (okF_se h7 k1 k2 ht) (by unfold mF; rw [if_pos s2]) (by unfold mT; rw [s1]) (by unfold mR; rw [s3]; rfl) (by unfold mK; rw [if_pos s2, s4])⟩
          · rw [if_neg q5, if_neg q5]
            exact no
        · rw [if_neg q4, if_neg q4]
          exact no
      · rw [if_neg q2, if_neg q2, if_pos rfl, if_pos rfl, hx, bd_s, b2_0]
        by_cases q5 : inb v2 (N * N) = true
        · obtain ⟨f, hf, rfl⟩ := (inb_iff (by omega)).mp q5
          obtain ⟨s1, s2, s3, s4⟩ := goC_ok (f := f) (t := t) (r := if v4 = 0 then 0 else 1) (by omega) (by omega) (by split <;> omega)
          have hne : ¬ cf (goC f t (if v4 = 0 then 0 else 1)) = 63 := by rw [s2]; omega
          rw [if_pos q5, if_pos q5, x_going (by omega) (by omega), bd_s, inb_nI (show i < 1000 by omega) (by omega), if_pos rfl, lw_e, nI_clamp (by omega)]
          unfold f_X10_forge_75 f_X10_forge_104 f_X10_forge_121
          rw [inb_nI (show i < 1100 by omega) (by omega), if_pos rfl, lw_e, if_pos rfl, lw_e, if_pos rfl, lw_e, lw_e, if_pos rfl, if_pos rfl, if_pos rfl, lw_e, lw_e, nI_clamp (by omega)]
          have em : (if v4 = (0 : Int32) then some ((1 : Int32), wdI (wdI (wdI (wdI wm 94 i (nI f)) 95 i (nI t)) 96 i 0) 97 i (-1)) else some ((1 : Int32), wdI (wdI (wdI (wdI wm 94 i (nI f)) 95 i (nI t)) 96 i 1) 97 i (-1))) = some ((1 : Int32), wdI (wdI (wdI (wdI wm 94 i (nI f)) 95 i (nI t)) 96 i (nI (if v4 = 0 then 0 else 1))) 97 i (-1)) := by
            by_cases z : v4 = 0
            · rw [if_pos z, if_pos z]; rfl
            · rw [if_neg z, if_neg z]; rfl
          rw [if_pos rfl, if_pos rfl, em]
          exact ⟨_, _, _, rfl, rfl, Rl.frg hB hL hH hF hT hS c1 c2 c3 c4 he (okF_go h7 hf ht (by split <;> omega)) (by unfold mF; rw [if_neg hne, s2]) (by unfold mT; rw [s1]) (by unfold mR; rw [s3]) (by unfold mK; rw [if_neg hne])⟩
        · rw [if_neg q5, if_neg q5]
          exact no
    · rw [if_neg q3, if_neg q3, if_neg q3]
      split <;> exact no
  · rw [if_neg q1, if_neg q1, if_neg q1]
    split <;> exact no
