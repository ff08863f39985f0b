/-! ===== texts: bytes, write ===== -/
def TXx (N : Nat) (B : List Nat) (w : Wd) : Prop := w.1 33 0 = nI N ∧ w.1 33 2 = nI B.length ∧ ∀ i b, B[i]? = some b → w.1 34 i = nI b
def TXm (B : List Nat) (w : Wd) : Prop := w.1 50 50 = nI B.length ∧ ∀ i b, B[i]? = some b → w.1 102 i = nI b
def TfX (w w' : Wd) : Prop := w'.2 = w.2 ∧ (∀ k, k ≠ 33 → k ≠ 34 → w'.1 k = w.1 k) ∧ ∀ j, j ≠ 2 → w'.1 33 j = w.1 33 j
def TfM (w w' : Wd) : Prop := w'.2 = w.2 ∧ (∀ k, k ≠ 50 → k ≠ 102 → w'.1 k = w.1 k) ∧ ∀ j, j ≠ 50 → w'.1 50 j = w.1 50 j
theorem TfX.rf {w : Wd} : TfX w w := ⟨rfl, fun _ _ _ => rfl, fun _ _ => rfl⟩
theorem TfX.tr {a b c : Wd} (x : TfX a b) (y : TfX b c) : TfX a c := ⟨y.1.trans x.1, fun k h1 h2 => (y.2.1 k h1 h2).trans (x.2.1 k h1 h2), fun j h => (y.2.2 j h).trans (x.2.2 j h)⟩
theorem TfM.rf {w : Wd} : TfM w w := ⟨rfl, fun _ _ _ => rfl, fun _ _ => rfl⟩
theorem TfM.tr {a b c : Wd} (x : TfM a b) (y : TfM b c) : TfM a c := ⟨y.1.trans x.1, fun k h1 h2 => (y.2.1 k h1 h2).trans (x.2.1 k h1 h2), fun j h => (y.2.2 j h).trans (x.2.2 j h)⟩
theorem getq_push {B : List Nat} {b : Nat} {i x : Nat} (h : (B ++ [b])[i]? = some x) : (i < B.length ∧ B[i]? = some x) ∨ (i = B.length ∧ x = b) := by
  rw [List.getElem?_append] at h
  split at h
  · rename_i q
    exact Or.inl ⟨q, h⟩
  · rename_i q
    have h1 : i - B.length = 0 := by
      rcases Nat.eq_zero_or_pos (i - B.length) with e | e
      · exact e
      · obtain ⟨m, hm⟩ : ∃ m, i - B.length = m + 1 := ⟨i - B.length - 1, by omega⟩
        rw [hm] at h
        simp at h
    rw [h1] at h
    exact Or.inr ⟨by omega, (Option.some.inj h).symm⟩
theorem x_add {N b : Nat} {B : List Nat} {w : Wd} (h : TXx N B w) (hl : B.length < 2000) : ∃ w', f_X7_add N (nI b) w = some ((), w') ∧ TXx N (B ++ [b]) w' ∧ TfX w w' := by
  obtain ⟨h0, h2, h3⟩ := h
  unfold f_X7_add f_X7_add_27
  rw [h2, if_neg (show ¬ (2000 : Int32) ≤ nI B.length from nI_ge (b := 2000) hl (by omega)), lw_e, inb_nI hl (by omega), if_pos rfl, lw_e, nI_clamp (by omega), nI_1]
  refine ⟨_, rfl, ⟨?_, ?_, fun i x hi => ?_⟩, ⟨rfl, fun k a b => ?_, fun j hj => ?_⟩⟩
  · rw [wI_c (by decide), wI_n (by decide)]; exact h0
  · rw [wI_c (by decide), wI_s, List.length_append, List.length_singleton]
  · rcases getq_push hi with ⟨q, g⟩ | ⟨q, g⟩
    · rw [wI_n (by omega), wI_c (by decide)]; exact h3 i x g
    · rw [q, g, wI_s]
  · rw [wI_c b, wI_c a]
  · rw [wI_c (by decide), wI_n hj]
theorem m_say {b : Nat} {B : List Nat} {w : Wd} (h : TXm B w) (hl : B.length < 2000) : ∃ w', f_X10_say (nI b) w = some ((), w') ∧ TXm (B ++ [b]) w' ∧ TfM w w' := by
  obtain ⟨h2, h3⟩ := h
  unfold f_X10_say f_X10_say_20
  rw [h2, if_neg (show ¬ (2000 : Int32) ≤ nI B.length from nI_ge (b := 2000) hl (by omega)), inb_nI hl (by omega), if_pos rfl, lw_e, nI_clamp (by omega), lw_e, wI_c (by decide), h2, nI_1]
  refine ⟨_, rfl, ⟨?_, fun i x hi => ?_⟩, ⟨rfl, fun k a b => ?_, fun j hj => ?_⟩⟩
  · rw [wI_s, List.length_append, List.length_singleton]
  · rw [wI_c (by decide)]
    rcases getq_push hi with ⟨q, g⟩ | ⟨q, g⟩
    · rw [wI_n (by omega)]; exact h3 i x g
    · rw [q, g, wI_s]
  · rw [wI_c a, wI_c b]
  · rw [wI_n hj, wI_c (by decide)]
/-- a field, a move, a play as bytes -/
def fb (N f : Nat) : List Nat := [97 + f % N, 49 + f / N]
def mvB (N c : Nat) : List Nat := (if cf c = 63 then [48 + ck c, 42] else fb N (cf c)) ++ (fb N (ct c) ++ (if cr c = 0 then [] else [43]))
theorem mvB_len {N c : Nat} : (mvB N c).length ≤ 5 := by
  unfold mvB fb
  split <;> split <;> simp
def plB (N : Nat) (cs : Nat → Nat) : Nat → List Nat
  | 0 => []
  | i + 1 => plB N cs i ++ ((if i = 0 then [] else [32]) ++ mvB N (cs i))
theorem plB_len {N : Nat} {cs : Nat → Nat} : ∀ i, (plB N cs i).length ≤ 6 * i
  | 0 => by unfold plB; simp
  | i + 1 => by
    unfold plB
    have h1 := plB_len (N := N) (cs := cs) i
    have h2 := mvB_len (N := N) (c := cs i)
    rw [List.length_append, List.length_append]
    split <;> simp <;> omega
theorem x_addField {N f : Nat} {B : List Nat} {w : Wd} (h7 : N ≤ 7) (h5 : 5 ≤ N) (hf : f < N * N) (h : TXx N B w) (hl : B.length + 2 ≤ 2000) : ∃ w', f_X7_addField N (nI f) w = some ((), w') ∧ TXx N (B ++ fb N f) w' ∧ TfX w w' := by
  have hNN := NN_le h7
  have hN0 : ¬ nI N = (0 : Int32) := nI_ne0 (by omega) (by omega)
  have em : nI f - nI f / nI N * nI N = nI (f % N) := pk_rem (by omega) (by omega) (by omega)
  have ed : nI f / nI N = nI (f / N) := pk_div (by omega) (by omega) (by omega)
  obtain ⟨w1, a1, a2, a3⟩ := x_add (b := 97 + f % N) h (by omega)
  obtain ⟨w2, b1, b2, b3⟩ := x_add (b := 49 + f / N) a2 (by rw [List.length_append, List.length_singleton]; omega)
  refine ⟨w2, ?_, ?_, a3.tr b3⟩
  · unfold f_X7_addField
    rw [h.1, if_pos hN0, em, show (97 : Int32) + nI (f % N) = nI (97 + f % N) from nI_add 97 _, a1, bd_s, a2.1, if_pos hN0, ed, show (49 : Int32) + nI (f / N) = nI (49 + f / N) from nI_add 49 _, b1, bd_s]
  · unfold fb
    rw [show B ++ [97 + f % N, 49 + f / N] = B ++ [97 + f % N] ++ [49 + f / N] by simp]
    exact b2
theorem m_sayField {N f : Nat} {B : List Nat} {w : Wd} (hn : w.1 50 0 = nI N) (h7 : N ≤ 7) (h5 : 5 ≤ N) (hf : f < N * N) (h : TXm B w) (hl : B.length + 2 ≤ 2000) : ∃ w', f_X10_sayField (nI f) w = some ((), w') ∧ TXm (B ++ fb N f) w' ∧ TfM w w' := by
  have hNN := NN_le h7
  have hN0 : ¬ nI N = (0 : Int32) := nI_ne0 (by omega) (by omega)
  have em : nI f - nI f / nI N * nI N = nI (f % N) := pk_rem (by omega) (by omega) (by omega)
  have ed : nI f / nI N = nI (f / N) := pk_div (by omega) (by omega) (by omega)
  obtain ⟨w1, a1, a2, a3⟩ := m_say (b := 97 + f % N) h (by omega)
  obtain ⟨w2, b1, b2, b3⟩ := m_say (b := 49 + f / N) a2 (by rw [List.length_append, List.length_singleton]; omega)
  refine ⟨w2, ?_, ?_, a3.tr b3⟩
  · unfold f_X10_sayField
    rw [hn, if_pos hN0, em, show (97 : Int32) + nI (f % N) = nI (97 + f % N) from nI_add 97 _, a1, bd_s, a3.2.2 0 (by decide), hn, if_pos hN0, ed, show (49 : Int32) + nI (f / N) = nI (49 + f / N) from nI_add 49 _, b1, bd_s]
  · unfold fb
    rw [show B ++ [97 + f % N, 49 + f / N] = B ++ [97 + f % N] ++ [49 + f / N] by simp]
    exact b2
theorem x_fromOf {c a : Nat} (hc : c < 65536) (ha : a ≤ 32) (w : Wd) : f_X3_fromOf (nI (c + 65536 * a)) w = some (mF c, w) := by
  unfold f_X3_fromOf f_X3_fromOf_18 mF
  rw [x_isSetting hc ha, bd_s, b2_0, cd_from hc ha]
  by_cases q : cf c = 63
  · rw [if_pos (by simpa using q), if_pos q]
  · rw [if_neg (by simpa using q), if_neg q]
theorem x_setKindOf {c a : Nat} (hc : c < 65536) (ha : a ≤ 32) (w : Wd) : f_X3_setKindOf (nI (c + 65536 * a)) w = some (mK c, w) := by
  unfold f_X3_setKindOf f_X3_setKindOf_18 mK
  rw [x_isSetting hc ha, bd_s, b2_0, cd_kind hc ha]
  by_cases q : cf c = 63
  · rw [if_pos (by simpa using q), if_pos q]
  · rw [if_neg (by simpa using q), if_neg q]
theorem x_addMove {N c a : Nat} {B : List Nat} {w : Wd} (h7 : N ≤ 7) (h5 : 5 ≤ N) (hF : okF N c) (ha : a ≤ 32) (h : TXx N B w) (hl : B.length + 5 ≤ 2000) : ∃ w', f_X7_addMove N (nI (c + 65536 * a)) w = some ((), w') ∧ TXx N (B ++ mvB N c) w' ∧ TfX w w' := by
  have hc6 := okF_lt h7 hF
  have hNN := NN_le h7
  have tail : ∀ (C : List Nat) (u : Wd), C.length + 3 ≤ 2000 → TXx N C u → ∃ w', f_X7_addMove_35 N (nI (c + 65536 * a)) u = some ((), w') ∧ TXx N (C ++ (fb N (ct c) ++ (if cr c = 0 then [] else [43]))) w' ∧ TfX u w' := by
    intro C u hC hu
    obtain ⟨u1, a1, a2, a3⟩ := x_addField h7 h5 hF.1 hu (by omega)
    unfold f_X7_addMove_35 f_X3_toOf f_X7_addMove_56
    rw [bd_s, cd_to hc6 ha, a1, bd_s, x_raises hc6 ha, bd_s]
    by_cases q : cr c = 0
    · rw [if_pos (cr_0.mpr q), if_pos q, List.append_nil]
      exact ⟨u1, rfl, a2, a3⟩
    · obtain ⟨u2, b1, b2, b3⟩ := x_add (b := 43) a2 (by rw [List.length_append]; unfold fb; simp; omega)
      have b1' : f_X7_add N (43 : Int32) u1 = some ((), u2) := b1
      rw [if_neg (fun z => q (cr_0.mp z)), if_neg q, b1', bd_s]
      refine ⟨u2, rfl, ?_, a3.tr b3⟩
      rw [← List.append_assoc]
      exact b2
  unfold f_X7_addMove mvB
  rw [x_isSetting hc6 ha, bd_s, b2_0]
  by_cases q : cf c = 63
  · obtain ⟨w1, a1, a2, a3⟩ := x_add (b := 48 + ck c) h (by omega)
    obtain ⟨w2, b1, b2, b3⟩ := x_add (b := 42) a2 (by rw [List.length_append, List.length_singleton]; omega)
    have b1' : f_X7_add N (42 : Int32) w1 = some ((), w2) := b1
    obtain ⟨w3, c1, c2, c3⟩ := tail (B ++ [48 + ck c] ++ [42]) w2 (by simp; omega) b2
    rw [if_pos (by simpa using q), x_setKindOf hc6 ha, bd_s, show mK c = nI (ck c) from by unfold mK; rw [if_pos q], show (48 : Int32) + nI (ck c) = nI (48 + ck c) from nI_add 48 _, a1, bd_s, b1', bd_s, c1, if_pos q]
    refine ⟨w3, rfl, ?_, (a3.tr b3).tr c3⟩
    rw [show B ++ ([48 + ck c, 42] ++ (fb N (ct c) ++ if cr c = 0 then [] else [43])) = B ++ [48 + ck c] ++ [42] ++ (fb N (ct c) ++ if cr c = 0 then [] else [43]) by simp]
    exact c2
  · have hcf : cf c < N * N := by
      rcases hF.2 with z | z
      · exact absurd z.1 q
      · exact z.2.1
    obtain ⟨w1, a1, a2, a3⟩ := x_addField h7 h5 hcf h (by omega)
    obtain ⟨w3, c1, c2, c3⟩ := tail (B ++ fb N (cf c)) w1 (by rw [List.length_append]; unfold fb; simp; omega) a2
    rw [if_neg (by simpa using q), x_fromOf hc6 ha, bd_s, show mF c = nI (cf c) from by unfold mF; rw [if_neg q], a1, bd_s, c1, if_neg q]
    refine ⟨w3, rfl, ?_, a3.tr c3⟩
    rw [← List.append_assoc]
    exact c2
theorem XPl.of {N o d a : Nat} {K : Kd} {ps : Nat → Ps} {cs : Nat → Nat} {w w' : Wd} (h : XPl N K o ps cs d a w) (e0 : w'.1 o = w.1 o) (e1 : w'.1 (o + 1) = w.1 (o + 1)) (e2 : w'.1 (o + 2) = w.1 (o + 2)) (e3 : w'.2.1 (o + 3) = w.2.1 (o + 3)) : XPl N K o ps cs d a w' := by
  unfold XPl XSt at h ⊢
  rw [e0, e1, e2, e3]
  exact h
/-- the class's write -/
theorem x_write {N o d a : Nat} {K : Kd} {ps : Nat → Ps} {cs : Nat → Nat} {B : List Nat} {w : Wd} (h7 : N ≤ 7) (h5 : 5 ≤ N) (ho : o = 35 ∨ o = 39) (hc : w.2.2.1 = o) (hX : XPl N K o ps cs d a w) (hT : TXx N B w) (hst : w.1 0 10 ≠ 0) : ∃ w', f_X9_write N w = some (nI (plB N cs d).length, w') ∧ TXx N (plB N cs d) w' ∧ TfX w w' := by
  have hX' := hX
  obtain ⟨⟨x4, x5, x6, x7, x8⟩, ⟨y1, y2⟩, z1, z2, z3⟩ := hX
  have hok : okP o = true := by rcases ho with rfl | rfl <;> rfl
  have main : ∀ (m i n : Nat) (u : Wd), i + m = d → m < n → TfX w u → TXx N (plB N cs i) u → ∃ u', l_X7_setDown_7 N (f_X7_setDown_40 N) n o (nI i) u = some ((), u') ∧ TXx N (plB N cs d) u' ∧ TfX w u' := by
    intro m
    induction m with
    | zero =>
      intro i n u hi hn hu hB
      obtain ⟨n, rfl⟩ : ∃ q, n = q + 1 := ⟨n - 1, by omega⟩
      refine ⟨u, ?_, by rw [show d = i by omega]; exact hB, hu⟩
      show b_X7_setDown_7 N (l_X7_setDown_7 N (f_X7_setDown_40 N) n) (f_X7_setDown_40 N) o (nI i) u = _
      unfold b_X7_setDown_7
      rw [hok, if_pos rfl, hu.2.1 o (by omega) (by omega), x6, if_pos (nI_le (by omega) (by omega))]
      rfl
    | succ m ih =>
      intro i n u hi hn hu hB
      obtain ⟨n, rfl⟩ : ∃ q, n = q + 1 := ⟨n - 1, by omega⟩
      have hci := (z3.2 i (by omega)).1
      have hVi := z3.vp h7 h5 i (by omega)
      have hF := okF_tri h7 h5 hVi.mv (mov_tri hci)
      have hb := hVi.le (ct (cs i))
      have hBl := plB_len (N := N) (cs := cs) i
      have next : ∀ (C : List Nat) (v : Wd), TfX w v → TXx N C v → C.length + 5 ≤ 2000 → plB N cs (i + 1) = C ++ mvB N (cs i) → ∃ u', f_X7_setDown_25 N (l_X7_setDown_7 N (f_X7_setDown_40 N) n) (f_X7_setDown_40 N) o (nI i) v = some ((), u') ∧ TXx N (plB N cs d) u' ∧ TfX w u' := by
        intro C v hv hC hCl hP
        obtain ⟨v1, a1, a2, a3⟩ := x_addMove h7 h5 hF hb hC hCl
        have hcd : f_X4_codeOf N o (nI i) v = some (nI (tc (ps i).1 (cs i)), v) := by
          unfold f_X4_codeOf
          rw [inb_nI (show i < 300 by omega) (by omega), if_pos rfl, nI_clamp (by omega), hv.2.1 (o + 1) (by omega) (by omega), (z1 i (by omega)).1]
        have a1' : f_X7_addMove N (nI (tc (ps i).1 (cs i))) v = some ((), v1) := a1
        unfold f_X7_setDown_25
        rw [hok, if_pos rfl, hcd, bd_s, a1', bd_s, nI_1]
        exact ih (i + 1) n v1 (by omega) (by omega) (hv.tr a3) (by rw [hP]; exact a2)
      have e1 : l_X7_setDown_7 N (f_X7_setDown_40 N) (n + 1) o (nI i) u = b_X7_setDown_7 N (l_X7_setDown_7 N (f_X7_setDown_40 N) n) (f_X7_setDown_40 N) o (nI i) u := rfl
      rw [e1]
      unfold b_X7_setDown_7
      rw [hok, if_pos rfl, hu.2.1 o (by omega) (by omega), x6, if_neg (nI_ge (by omega) (by omega))]
      rcases Nat.eq_zero_or_pos i with rfl | q
      · rw [if_pos (by decide)]
        exact next _ u hu hB (by omega) (by
          show plB N cs 0 ++ ((if 0 = 0 then [] else [32]) ++ mvB N (cs 0)) = _
          rw [if_pos rfl, List.nil_append])
      · obtain ⟨v, b1, b2, b3⟩ := x_add (b := 32) hB (by omega)
        have b1' : f_X7_add N (32 : Int32) u = some ((), v) := b1
        rw [if_neg (nI_nle q (by omega)), b1', bd_s]
        exact next _ v (hu.tr b3) b2 (by rw [List.length_append, List.length_singleton]; omega) (by
          show plB N cs i ++ ((if i = 0 then [] else [32]) ++ mvB N (cs i)) = _
          rw [if_neg (by omega), List.append_assoc])
  have hT0 : TXx N [] (wdI w 33 2 0) := ⟨by rw [wI_n (by decide)]; exact hT.1, by rw [wI_s]; rfl, fun i b hi => by simp at hi⟩
  have f0 : TfX w (wdI w 33 2 0) := ⟨rfl, fun k h1 _ => wI_c h1, fun j h => wI_n h⟩
  obtain ⟨w', a1, a2, a3⟩ := main d 0 FU (wdI w 33 2 0) (by omega) (FU_big (by omega)) f0 hT0
  have a1' : l_X7_setDown_7 N (f_X7_setDown_40 N) FU o (0 : Int32) (wdI w 33 2 0) = some ((), w') := a1
  refine ⟨w', ?_, a2, a3⟩
  unfold f_X9_write f_X7_setDown
  rw [if_neg hst, hc, lw_e, a1', bd_s, a2.2.1]
/-- the reference's write -/
theorem m_write {N h d a : Nat} {K : Kd} {ps : Nat → Ps} {cs : Nat → Nat} {B : List Nat} {w : Wd} (hn : w.1 50 0 = nI N) (h7 : N ≤ 7) (h5 : 5 ≤ N) (h35 : w.1 50 35 = nI h) (h36 : w.1 50 36 = nI d) (hd : d ≤ a) (hX : MPl N K h ps cs a w) (hst : w.1 50 25 ≠ 0) : ∃ w', f_X10_write w = some (nI (plB N cs d).length, w') ∧ TXm (plB N cs d) w' ∧ TfM w w' := by
  obtain ⟨⟨x1, x2⟩, x3, x4, x5⟩ := hX
  have main : ∀ (m i n : Nat) (u : Wd), i + m = d → m < n → TfM w u → TXm (plB N cs i) u → ∃ u', l_X10_write_17 f_X10_write_119 n (nI i) u = some (nI (plB N cs d).length, u') ∧ TXm (plB N cs d) u' ∧ TfM w u' := by
    intro m
    induction m with
    | zero =>
      intro i n u hi hn hu hB
      obtain ⟨n, rfl⟩ : ∃ q, n = q + 1 := ⟨n - 1, by omega⟩
      have e : i = d := by omega
      subst e
      refine ⟨u, ?_, hB, hu⟩
      show b_X10_write_17 (l_X10_write_17 f_X10_write_119 n) f_X10_write_119 (nI i) u = _
      unfold b_X10_write_17 f_X10_write_119
      rw [hu.2.2 36 (by decide), h36, if_pos (nI_le (by omega) (by omega)), hB.1]
    | succ m ih =>
      intro i n u hi hn' hu hB
      obtain ⟨n, rfl⟩ : ∃ q, n = q + 1 := ⟨n - 1, by omega⟩
      have hci := (x5.2 i (by omega)).1
      have hVi := x5.vp h7 h5 i (by omega)
      have hF := okF_tri h7 h5 hVi.mv (mov_tri hci)
      have hBl := plB_len (N := N) (cs := cs) i
      have hNN := NN_le h7
      obtain ⟨c1, c2, c3, c4, c5⟩ := x4 i (by omega)
      have i6 : inb (nI (300 * h + i)) 600 = true := inb_nI (by omega) (by omega)
      have cl : (nI (300 * h + i)).toNatClampNeg = 300 * h + i := nI_clamp (by omega)
      have tail : ∀ (C : List Nat) (v : Wd), TfM w v → TXm C v → C.length + 3 ≤ 2000 → plB N cs (i + 1) = C ++ (fb N (ct (cs i)) ++ (if cr (cs i) = 0 then [] else [43])) → ∃ u', f_X10_write_87 (l_X10_write_17 f_X10_write_119 n) f_X10_write_119 (nI i) (nI (300 * h + i)) v = some (nI (plB N cs d).length, u') ∧ TXm (plB N cs d) u' ∧ TfM w u' := by
        intro C v hv hC hCl hP
        obtain ⟨v1, a1, a2, a3⟩ := m_sayField (by rw [hv.2.2 0 (by decide)]; exact hn) h7 h5 hF.1 hC (by omega)
        have a1' : f_X10_sayField (mT (cs i)) v = some ((), v1) := a1
        unfold f_X10_write_87 f_X10_write_113
        rw [i6, if_pos rfl, cl, hv.2.1 82 (by decide) (by decide), c2, a1', bd_s, if_pos rfl, (hv.tr a3).2.1 83 (by decide) (by decide), c3]
        by_cases q : cr (cs i) = 0
        · rw [if_neg (show ¬ mR (cs i) = (1 : Int32) from fun z => by unfold mR at z; rw [q] at z; cases z), nI_1]
          rw [if_pos q, List.append_nil] at hP
          exact ih (i + 1) n v1 (by omega) (by omega) (hv.tr a3) (by rw [hP]; exact a2)
        · obtain ⟨v2, b1, b2, b3⟩ := m_say (b := 43) a2 (by rw [List.length_append]; unfold fb; simp; omega)
          have b1' : f_X10_say (43 : Int32) v1 = some ((), v2) := b1
          rw [if_pos (show mR (cs i) = (1 : Int32) from by unfold mR; rw [show cr (cs i) = 1 from by have := cr_lt (cs i); omega]; rfl), b1', bd_s, nI_1]
          rw [if_neg q, ← List.append_assoc] at hP
          exact ih (i + 1) n v2 (by omega) (by omega) ((hv.tr a3).tr b3) (by rw [hP]; exact b2)
      have next : ∀ (C : List Nat) (v : Wd), TfM w v → TXm C v → C.length + 5 ≤ 2000 → plB N cs (i + 1) = C ++ mvB N (cs i) → ∃ u', f_X10_write_46 (l_X10_write_17 f_X10_write_119 n) f_X10_write_119 (nI i) (nI (300 * h + i)) v = some (nI (plB N cs d).length, u') ∧ TXm (plB N cs d) u' ∧ TfM w u' := by
        intro C v hv hC hCl hP
        unfold f_X10_write_46
        rw [i6, if_pos rfl, cl, hv.2.1 81 (by decide) (by decide), c1]
        unfold mvB at hP
        by_cases q : cf (cs i) = 63
        · have em : mF (cs i) = -1 := by unfold mF; rw [if_pos q]
          have ek : mK (cs i) = nI (ck (cs i)) := by unfold mK; rw [if_pos q]
          obtain ⟨v1, a1, a2, a3⟩ := m_say (b := 48 + ck (cs i)) hC (by omega)
          obtain ⟨v2, b1, b2, b3⟩ := m_say (b := 42) a2 (by rw [List.length_append, List.length_singleton]; omega)
          have b1' : f_X10_say (42 : Int32) v1 = some ((), v2) := b1
          rw [em, if_neg (by decide), if_pos rfl, hv.2.1 84 (by decide) (by decide), c4, ek, show (48 : Int32) + nI (ck (cs i)) = nI (48 + ck (cs i)) from nI_add 48 _, a1, bd_s, b1', bd_s]
          rw [if_pos q] at hP
          exact tail _ v2 ((hv.tr a3).tr b3) b2 (by simp; omega) (by rw [hP]; simp)
        · have em : mF (cs i) = nI (cf (cs i)) := by unfold mF; rw [if_neg q]
          have hcf : cf (cs i) < N * N := by
            rcases hF.2 with z | z
            · exact absurd z.1 q
            · exact z.2.1
          obtain ⟨v1, a1, a2, a3⟩ := m_sayField (by rw [hv.2.2 0 (by decide)]; exact hn) h7 h5 hcf hC (by omega)
          rw [em, if_pos (nI_pos' (by omega)), if_pos rfl, a1, bd_s]
          rw [if_neg q] at hP
          exact tail _ v1 (hv.tr a3) a2 (by rw [List.length_append]; unfold fb; simp; omega) (by rw [hP, List.append_assoc])
      have e1 : l_X10_write_17 f_X10_write_119 (n + 1) (nI i) u = b_X10_write_17 (l_X10_write_17 f_X10_write_119 n) f_X10_write_119 (nI i) u := rfl
      rw [e1]
      unfold b_X10_write_17
      rw [hu.2.2 36 (by decide), h36, if_neg (nI_ge (by omega) (by omega)), lt_e, hu.2.2 35 (by decide), h35, n300]
      rcases Nat.eq_zero_or_pos i with rfl | q
      · rw [if_pos (by decide)]
        exact next _ u hu hB (by omega) (by
          show plB N cs 0 ++ ((if 0 = 0 then [] else [32]) ++ mvB N (cs 0)) = _
          rw [if_pos rfl, List.nil_append])
      · obtain ⟨v, b1, b2, b3⟩ := m_say (b := 32) hB (by omega)
        have b1' : f_X10_say (32 : Int32) u = some ((), v) := b1
        rw [if_neg (nI_nle q (by omega)), b1', bd_s]
        exact next _ v (hu.tr b3) b2 (by rw [List.length_append, List.length_singleton]; omega) (by
          show plB N cs i ++ ((if i = 0 then [] else [32]) ++ mvB N (cs i)) = _
          rw [if_neg (by omega), List.append_assoc])
  have hT0 : TXm [] (wdI w 50 50 0) := ⟨by rw [wI_s]; rfl, fun i b hi => by simp at hi⟩
  have f0 : TfM w (wdI w 50 50 0) := ⟨rfl, fun k h1 _ => wI_c h1, fun j h => wI_n h⟩
  obtain ⟨w', a1, a2, a3⟩ := main d 0 FU (wdI w 50 50 0) (by omega) (FU_big (by omega)) f0 hT0
  refine ⟨w', ?_, a2, a3⟩
  unfold f_X10_write
  rw [if_neg hst, lw_e]
  exact a1
