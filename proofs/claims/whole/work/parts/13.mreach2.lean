/-! ===== the reference's 'reaches' ===== -/
theorem n49 (lv g : Nat) : (49 : Int32) * nI lv + nI g = nI (49 * lv + g) := by
  rw [show (49 : Int32) = nI 49 from rfl, pk_mul, nI_add]
theorem m_r34 {K55 : Int32 → Int32 → Int32 → Int32 → Wd → Option (Unit × Wd)} {v1 v2 v4 v5 : Int32} {w : Wd} {n : Nat} (hn : 49 < n) : ∃ w', l_X10_reaches_34 K55 n v1 v2 v4 v5 (nI 0) w = K55 v1 v2 v4 v5 w' ∧ SameM w w' ∧ w'.1 50 22 = w.1 50 22 ∧ ∀ q, q < 49 → w'.1 75 q = 0 := by
  refine loop_up (fun n i w => l_X10_reaches_34 K55 n v1 v2 v4 v5 i w) (fun w => K55 v1 v2 v4 v5 w) 49 (fun i u => SameM w u ∧ u.1 50 22 = w.1 50 22 ∧ ∀ q, q < i → u.1 75 q = 0) ?_ ?_ 49 0 w rfl ⟨SameM.rf, rfl, fun q h => by omega⟩ n hn
  · intro n u _
    show b_X10_reaches_34 (l_X10_reaches_34 K55 n) K55 v1 v2 v4 v5 (nI 49) u = _
    unfold b_X10_reaches_34
    rw [if_pos (by decide)]
  · rintro n i u hi ⟨h1, h2, h3⟩
    refine ⟨wdI u 75 i 0, ?_, h1.tr SameM.i75, by rw [wI_c (by decide)]; exact h2, fun q hq => ?_⟩
    · show b_X10_reaches_34 (l_X10_reaches_34 K55 n) K55 v1 v2 v4 v5 (nI i) u = _
      unfold b_X10_reaches_34
      rw [if_neg (show ¬ (49 : Int32) ≤ nI i from nI_ge hi (by decide)), inb_nI hi (by omega), if_pos rfl, lw_e, nI_clamp (by omega), nI_1]
      rfl
    · by_cases e : q = i
      · subst e; rw [wI_s]
      · rw [wI_n e]; exact h3 q (by omega)
theorem m_r154 {K199 : Int32 → Int32 → Int32 → Int32 → Int32 → Wd → Option (Unit × Wd)} {N lv i b : Nat} {K : Kd} {bo : Nat → Nat} {v2 v4 : Int32} (hs : sd i < 2) (hb : b < 8) :
    ∀ (k : Nat) (o : Option Nat) (R : List Nat) (w : Wd) (n : Nat), ends N (dirOf (sd i) b) k o = true → k + 1 < n → (∀ g, o = some g → g < N * N) → MK N K w → MB N lv bo w → RIn R w →
      ∃ w', l_X10_reaches_154 K199 n (nI lv) v2 v4 (nI (sd i)) (nI b) (ov o) w = K199 (nI lv) v2 v4 (nI (sd i)) (nI b) w' ∧ SameM w w' ∧ RIn ((rayO N (dirOf (sd i) b) bo k o).foldl addU R) w' := by
  have none_ok : ∀ (R : List Nat) (w : Wd) (n : Nat), 0 < n → RIn R w → ∃ w', l_X10_reaches_154 K199 n (nI lv) v2 v4 (nI (sd i)) (nI b) (-1) w = K199 (nI lv) v2 v4 (nI (sd i)) (nI b) w' ∧ SameM w w' ∧ RIn R w' := by
    intro R w n hn hR
    obtain ⟨n, rfl⟩ : ∃ k, n = k + 1 := ⟨n - 1, by omega⟩
    refine ⟨w, ?_, SameM.rf, hR⟩
    show b_X10_reaches_154 (l_X10_reaches_154 K199 n) K199 (nI lv) v2 v4 (nI (sd i)) (nI b) (-1) w = _
    unfold b_X10_reaches_154
    rw [if_pos (by decide)]
  intro k
  induction k with
  | zero =>
    intro o R w n he hn hg hK hB hR
    cases o with
    | none => exact none_ok R w n (by omega) hR
    | some g => unfold ends at he; cases he
  | succ k ih =>
    intro o R w n he hn hg hK hB hR
    cases o with
    | none => exact none_ok R w n (by omega) hR
    | some g =>
      obtain ⟨n, rfl⟩ : ∃ k, n = k + 1 := ⟨n - 1, by omega⟩
      have hgN := hg g rfl
      have hNN := NN_le hK.2.1
      have hlv := hB.1
      obtain ⟨w1, c1, c2, c3⟩ := m_comesTo (g := g) (by omega) hR
      have hK1 := hK.same c2
      have hB1 := hB.same c2
      have hbo := hB1.2 g hgN
      unfold ends at he
      have step : l_X10_reaches_154 K199 (n + 1) (nI lv) v2 v4 (nI (sd i)) (nI b) (ov (some g)) w = l_X10_reaches_154 K199 n (nI lv) v2 v4 (nI (sd i)) (nI b) (if bo g = 0 then ov (nx N (dirOf (sd i) b) g) else -1) w1 := by
        show b_X10_reaches_154 (l_X10_reaches_154 K199 n) K199 (nI lv) v2 v4 (nI (sd i)) (nI b) (nI g) w = _
        unfold b_X10_reaches_154 f_X10_reaches_194
        rw [if_neg (nI_pos (by omega)), c1, bd_s, n49, inb_nI (by omega) (by omega), if_pos rfl, nI_clamp (by omega), hbo.1]
        by_cases q : bo g = 0
        · rw [if_pos q, q, if_pos (show nI 0 = (0 : Int32) from rfl), m_along hK1.1 hK1.2.1 hK1.2.2.1 hgN (by omega) hs, bd_s]
        · rw [if_neg q, if_neg (nI_ne0 (by omega) (by omega))]
      rw [step]
      show ∃ w', _ ∧ SameM w w' ∧ RIn ((g :: (if bo g = 0 then rayO N (dirOf (sd i) b) bo k (nx N (dirOf (sd i) b) g) else [])).foldl addU R) w'
      by_cases q : bo g = 0
      · rw [if_pos q, if_pos q]
        obtain ⟨w', a1, a2, a3⟩ := ih (nx N (dirOf (sd i) b) g) (addU R g) w1 n he (by omega) (fun z hz => (nx_lt hK.2.1 hK.2.2.1 (dirOf_lt hs (by omega)) hgN hz).1) hK1 hB1 c3
        exact ⟨w', a1, c2.tr a2, a3⟩
      · rw [if_neg q, if_neg q]
        obtain ⟨w', a1, a2, a3⟩ := none_ok (addU R g) w1 n (by omega) c3
        exact ⟨w', a1, c2.tr a2, a3⟩
theorem m_r58 {K113 : Int32 → Int32 → Int32 → Int32 → Wd → Option (Unit × Wd)} {N i f : Nat} {K : Kd} {v1 : Int32} {w : Wd} {n : Nat} (hn : 10 < n) (hi : 0 < i) (hi2 : i ≤ 32) (hf : f < N * N) (hK : MK N K w) (hR : RIn [] w) :
    ∃ w', l_X10_reaches_58 K113 n v1 (nI f) (nI (tp i)) (nI (sd i)) (nI 0) w = K113 v1 (nI f) (nI (tp i)) (nI (sd i)) w' ∧ SameM w w' ∧ RIn (stepsR N K i f) w' := by
  have hm := man_chk i (by omega) hi
  refine loop_up (fun n b w => l_X10_reaches_58 K113 n v1 (nI f) (nI (tp i)) (nI (sd i)) b w) (fun w => K113 v1 (nI f) (nI (tp i)) (nI (sd i)) w) 10 (fun b u => SameM w u ∧ RIn ((List.range b).foldl (fun R b => addO R (stepO N K i f b)) []) u) ?_ ?_ 10 0 w rfl ⟨SameM.rf, hR⟩ n hn
  · intro n u _
    show b_X10_reaches_58 (l_X10_reaches_58 K113 n) K113 v1 (nI f) (nI (tp i)) (nI (sd i)) (nI 10) u = _
    unfold b_X10_reaches_58
    rw [if_pos (by decide)]
  · rintro n b u hb ⟨h1, h2⟩
    have hKu := hK.same h1
    have ht := hKu.2.2.2 (tp i) hm.2.2.2.2.2.2.1
    have hNN := NN_le hK.2.1
    rw [List.range_succ, List.foldl_append]
    generalize (List.range b).foldl (fun R b => addO R (stepO N K i f b)) [] = R at h2 ⊢
    have red : ∀ u', l_X10_reaches_58 K113 n v1 (nI f) (nI (tp i)) (nI (sd i)) (nI (b + 1)) u' = f_X10_reaches_107 (l_X10_reaches_58 K113 n) K113 v1 (nI f) (nI (tp i)) (nI (sd i)) (nI b) u' := by
      intro u'
      unfold f_X10_reaches_107
      rw [nI_1]
    have go : l_X10_reaches_58 K113 (n + 1) v1 (nI f) (nI (tp i)) (nI (sd i)) (nI b) u = f_X10_reaches_94 (l_X10_reaches_58 K113 n) K113 v1 (nI f) (nI (tp i)) (nI (sd i)) (nI b) (ov (stepO N K i f b)) u := by
      show b_X10_reaches_58 (l_X10_reaches_58 K113 n) K113 v1 (nI f) (nI (tp i)) (nI (sd i)) (nI b) u = _
      unfold b_X10_reaches_58 stepO
      rw [if_neg (show ¬ (10 : Int32) ≤ nI b from nI_ge hb (by decide)), inb_nI (show tp i < 16 by omega) (by omega), if_pos rfl, nI_clamp (by omega), ht.1]
      by_cases q : bt (K.1 (tp i)) b = true
      · rw [if_pos ((bit_1 (by omega) (by omega)).mpr q), if_pos q, m_along hKu.1 hKu.2.1 hKu.2.2.1 hf (by omega) (by omega), bd_s]
      · rw [if_neg (fun z => q ((bit_1 (by omega) (by omega)).mp z)), if_neg q]
        rfl
    rw [go]
    unfold f_X10_reaches_94
    have hlt : ∀ g, stepO N K i f b = some g → g < N * N := by
      intro g hg
      unfold stepO at hg
      split at hg
      · exact (nx_lt hK.2.1 hK.2.2.1 (dirOf_lt (by omega) (by omega)) hf hg).1
      · cases hg
    cases ho : stepO N K i f b with
    | none =>
      refine ⟨u, ?_, h1, ?_⟩
      · rw [if_pos (show ov none < (0 : Int32) by decide), ← red]
      · show RIn (addO R (stepO N K i f b)) u
        rw [ho]
        exact h2
    | some g =>
      have hg := hlt g ho
      obtain ⟨u', c1, c2, c3⟩ := m_comesTo (g := g) (by omega) h2
      refine ⟨u', ?_, h1.tr c2, ?_⟩
      · show (if nI g < (0 : Int32) then _ else bd (f_X10_comesTo (nI g) u) _) = _
        rw [if_neg (nI_pos (by omega)), c1, bd_s, ← red]
      · show RIn (addO R (stepO N K i f b)) u'
        rw [ho]
        exact c3
theorem m_r116 {K205 : Wd → Option (Unit × Wd)} {N lv i f : Nat} {K : Kd} {bo : Nat → Nat} {w : Wd} {n : Nat} (hn : 8 < n) (hi : 0 < i) (hi2 : i ≤ 32) (hf : f < N * N) (hK : MK N K w) (hB : MB N lv bo w) (hR : RIn (stepsR N K i f) w) :
    ∃ w', l_X10_reaches_116 K205 n (nI lv) (nI f) (nI (tp i)) (nI (sd i)) (nI 0) w = K205 w' ∧ SameM w w' ∧ RIn (reachL N K bo i f) w' := by
  have hm := man_chk i (by omega) hi
  refine loop_up (fun n b w => l_X10_reaches_116 K205 n (nI lv) (nI f) (nI (tp i)) (nI (sd i)) b w) (fun w => K205 w) 8 (fun b u => SameM w u ∧ RIn ((List.range b).foldl (fun R b => (rayO N (dirOf (sd i) b) bo 7 (runO N K i f b)).foldl addU R) (stepsR N K i f)) u) ?_ ?_ 8 0 w rfl ⟨SameM.rf, hR⟩ n hn
  · intro n u _
    show b_X10_reaches_116 (l_X10_reaches_116 K205 n) K205 (nI lv) (nI f) (nI (tp i)) (nI (sd i)) (nI 8) u = _
    unfold b_X10_reaches_116
    rw [if_pos (by decide)]
  · rintro n b u hb ⟨h1, h2⟩
    have hKu := hK.same h1
    have hBu := hB.same h1
    have ht := hKu.2.2.2 (tp i) hm.2.2.2.2.2.2.1
    have hNN := NN_le hK.2.1
    rw [List.range_succ, List.foldl_append]
    generalize (List.range b).foldl (fun R b => (rayO N (dirOf (sd i) b) bo 7 (runO N K i f b)).foldl addU R) (stepsR N K i f) = R at h2 ⊢
    have go : l_X10_reaches_116 K205 (n + 1) (nI lv) (nI f) (nI (tp i)) (nI (sd i)) (nI b) u = f_X10_reaches_152 (l_X10_reaches_116 K205 n) K205 (nI lv) (nI f) (nI (tp i)) (nI (sd i)) (nI b) (ov (runO N K i f b)) u := by
      show b_X10_reaches_116 (l_X10_reaches_116 K205 n) K205 (nI lv) (nI f) (nI (tp i)) (nI (sd i)) (nI b) u = _
      unfold b_X10_reaches_116 runO
      rw [if_neg (show ¬ (8 : Int32) ≤ nI b from nI_ge hb (by decide)), inb_nI (show tp i < 16 by omega) (by omega), if_pos rfl, nI_clamp (by omega), ht.2.1]
      by_cases q : bt (K.2.1 (tp i)) b = true
      · rw [if_pos ((bit_1 (by omega) (by omega)).mpr q), if_pos q, m_along hKu.1 hKu.2.1 hKu.2.2.1 hf (by omega) (by omega), bd_s]
      · rw [if_neg (fun z => q ((bit_1 (by omega) (by omega)).mp z)), if_neg q]
        rfl
    have hlt : ∀ g, runO N K i f b = some g → g < N * N := by
      intro g hg
      unfold runO at hg
      split at hg
      · exact (nx_lt hK.2.1 hK.2.2.1 (dirOf_lt (by omega) (by omega)) hf hg).1
      · cases hg
    have he : ends N (dirOf (sd i) b) 7 (runO N K i f b) = true := by
      apply ends_up
      unfold runO
      split
      · exact ends_chk N (Nat.lt_succ_of_le hK.2.1) hK.2.2.1 _ (dirOf_lt8 _ (by omega) _ hb) f hf
      · unfold ends; rfl
    rw [go]
    unfold f_X10_reaches_152
    obtain ⟨u', a1, a2, a3⟩ := m_r154 (K199 := f_X10_reaches_199 (l_X10_reaches_116 K205 n) K205) (v2 := nI f) (v4 := nI (tp i)) (lv := lv) (K := K) (bo := bo) (show sd i < 2 by omega) hb 7 (runO N K i f b) R u FU he (by decide) hlt hKu hBu h2
    refine ⟨u', ?_, h1.tr a2, a3⟩
    rw [a1]
    unfold f_X10_reaches_199
    rw [nI_1]
theorem m_reaches {N lv i f : Nat} {K : Kd} {bo : Nat → Nat} {w : Wd} (hi : 0 < i) (hi2 : i ≤ 32) (hf : f < N * N) (hK : MK N K w) (hB : MB N lv bo w) :
    ∃ w', f_X10_reaches (nI lv) (nI f) (nI i) w = some ((), w') ∧ SameM w w' ∧ RIn (reachL N K bo i f) w' := by
  have hm := man_chk i (by omega) hi
  unfold f_X10_reaches
  rw [m_kindOf hi hi2, bd_s, m_isRaised hi hi2, bd_s]
  have hz : (nI (rz i) = (0 : Int32)) ↔ rz i = 0 := by
    rcases (show rz i = 0 ∨ rz i = 1 by omega) with h | h <;> rw [h] <;> decide
  have e : (if nI (rz i) = (0 : Int32) then f_X10_reaches_17 (nI lv) (nI f) (nI i) (nI (kn i)) 0 w else f_X10_reaches_17 (nI lv) (nI f) (nI i) (nI (kn i)) 8 w) = f_X10_reaches_17 (nI lv) (nI f) (nI i) (nI (kn i)) (nI (8 * rz i)) w := by
    rcases (show rz i = 0 ∨ rz i = 1 by omega) with h | h
    · rw [if_pos (hz.mpr h), h]; rfl
    · rw [if_neg (fun q => by rw [hz, h] at q; cases q), h]; rfl
  rw [e]
  unfold f_X10_reaches_17
  rw [lt_e, m_sideOf hi hi2, bd_s, lw_e, nI_add, ← hm.2.2.2.2.1]
  obtain ⟨w1, a1, a2, a3, a4⟩ := m_r34 (K55 := f_X10_reaches_55) (v1 := nI lv) (v2 := nI f) (v4 := nI (tp i)) (v5 := nI (sd i)) (w := wdI w 50 22 0) (n := FU) (by decide)
  have s1 : SameM w w1 := SameM.i50.tr a2
  have hR0 : RIn [] w1 := ⟨by rw [a3, wI_s]; rfl, fun k g h => by simp at h, fun q hq => by rw [a4 q hq]; simp, List.nodup_nil, fun g h => by simp at h⟩
  obtain ⟨w2, b1, b2, b3⟩ := m_r58 (K113 := f_X10_reaches_113) (v1 := nI lv) (n := FU) (by decide) hi hi2 hf (hK.same s1) hR0
  obtain ⟨w3, c1, c2, c3⟩ := m_r116 (K205 := f_X10_reaches_205) (lv := lv) (n := FU) (by decide) hi hi2 hf (hK.same (s1.tr b2)) (hB.same (s1.tr b2)) b3
  refine ⟨w3, ?_, (s1.tr b2).tr c2, c3⟩
  refine Eq.trans a1 ?_
  unfold f_X10_reaches_55
  refine Eq.trans b1 ?_
  unfold f_X10_reaches_113
  exact c1
