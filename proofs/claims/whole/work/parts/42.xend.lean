/-! ===== the class's Play: how it ends ===== -/
def chF (N : Nat) (K : Kd) (ps : Nat → Ps) (d s i : Nat) : Bool := (List.range' i (d - i)).all fun k => decide ((ps k).2.2 ≠ s) || gvC N K ps k
theorem chF_e {N d s i : Nat} {K : Kd} {ps : Nat → Ps} (h : d ≤ i) : chF N K ps d s i = true := by
  unfold chF
  rw [show d - i = 0 by omega]
  rfl
theorem chF_s {N d s i : Nat} {K : Kd} {ps : Nat → Ps} (h : i < d) : chF N K ps d s i = ((decide ((ps i).2.2 ≠ s) || gvC N K ps i) && chF N K ps d s (i + 1)) := by
  unfold chF
  rw [show d - i = (d - (i + 1)) + 1 by omega, List.range'_succ, List.all_cons]
theorem x_oc38 {N o d a s : Nat} {K : Kd} {ps : Nat → Ps} {cs : Nat → Nat} {w : Wd} (hX : XPl N K o ps cs d a w) :
    ∀ (m i n : Nat), d + 2 - i ≤ m → m < n → i ≤ d + 1 → (if i % 2 = 0 then (ps 0).2.2 else 1 - (ps 0).2.2) = s → l_X4_onlyChecksOf_38 N o (f_X4_onlyChecksOf_55 N o) (f_X4_onlyChecksOf_63 N o) n (nI i) w = some (b2i (chF N K ps d s i), w) := by
  obtain ⟨⟨x4, x5, x6, x7, x8⟩, ⟨y1, y2⟩, z1, z2, z3⟩ := hX
  have hm0 := z3.1.mv
  intro m
  induction m with
  | zero => intro i n h1 h2 h3; omega
  | succ m ih =>
    intro i n hm hn hi hp
    obtain ⟨n, rfl⟩ : ∃ q, n = q + 1 := ⟨n - 1, by omega⟩
    have e1 : l_X4_onlyChecksOf_38 N o (f_X4_onlyChecksOf_55 N o) (f_X4_onlyChecksOf_63 N o) (n + 1) (nI i) w = b_X4_onlyChecksOf_38 N o (l_X4_onlyChecksOf_38 N o (f_X4_onlyChecksOf_55 N o) (f_X4_onlyChecksOf_63 N o) n) (f_X4_onlyChecksOf_55 N o) (f_X4_onlyChecksOf_63 N o) (nI i) w := rfl
    rw [e1]
    unfold b_X4_onlyChecksOf_38
    rw [x6]
    by_cases hq : d ≤ i
    · rw [if_pos (nI_le hq (by omega)), chF_e hq]; rfl
    · have hs : (ps i).2.2 = s := by rw [z3.side i (by omega)]; exact hp
      rw [if_neg (nI_ge (by omega) (by omega)), inb_nI (show i < 300 by omega) (by omega), if_pos rfl, nI_clamp (by omega), (z1 i (by omega)).2, b2_0, chF_s (by omega), hs]
      cases hg : gvC N K ps i with
      | false =>
        rw [if_neg (by decide)]
        simp
        rfl
      | true =>
        rw [if_pos rfl, show nI i + (2 : Int32) = nI (i + 2) from nI_add i 2, Bool.or_true, Bool.true_and]
        by_cases h2 : i + 1 = d
        · have e2 : l_X4_onlyChecksOf_38 N o (f_X4_onlyChecksOf_55 N o) (f_X4_onlyChecksOf_63 N o) n (nI (i + 2)) w = b_X4_onlyChecksOf_38 N o (l_X4_onlyChecksOf_38 N o (f_X4_onlyChecksOf_55 N o) (f_X4_onlyChecksOf_63 N o) (n - 1)) (f_X4_onlyChecksOf_55 N o) (f_X4_onlyChecksOf_63 N o) (nI (i + 2)) w := by
            obtain ⟨q, rfl⟩ : ∃ q, n = q + 1 := ⟨n - 1, by omega⟩
            rfl
          rw [e2]
          unfold b_X4_onlyChecksOf_38
          rw [x6, if_pos (nI_le (by omega) (by omega)), chF_e (by omega)]
          rfl
        · have hs1 : (ps (i + 1)).2.2 ≠ s := by
            rw [z3.side (i + 1) (by omega)]
            rw [← hp]
            split <;> split <;> omega
          rw [chF_s (i := i + 1) (by omega), decide_eq_true hs1, Bool.true_or, Bool.true_and]
          refine ih (i + 2) n (by omega) (by omega) (by omega) ?_
          rw [← hp]
          split <;> split <;> omega
theorem x_onlyChecksOf {N o d a s : Nat} {K : Kd} {ps : Nat → Ps} {cs : Nat → Nat} {w : Wd} (hX : XPl N K o ps cs d a w) (hs : s < 2) : f_X4_onlyChecksOf N o (nI s) w = some (b2i (chsS N K ps d s), w) := by
  have hX' := hX
  obtain ⟨⟨x4, x5, x6, x7, x8⟩, ⟨y1, y2⟩, z1, z2, z3⟩ := hX
  have hm0 := z3.1.mv
  obtain ⟨f1, f2, f3⟩ := fstS_ok (ps := ps) (d := d)
  have hch : chsS N K ps d s = chF N K ps d s (fstS ps d) := rfl
  have e1 : nI (fstS ps d) &&& (1 : Int32) = nI (fstS ps d % 2) := pk_andN (k := 1) (by omega) (by decide)
  unfold f_X4_onlyChecksOf f_X4_onlyChecksOf_35
  rw [x4, x5, e1, hch]
  generalize hf : fstS ps d = f at *
  have skip : ∀ i, i ≤ d → (ps i).2.2 ≠ s → chF N K ps d s i = chF N K ps d s (i + 1) := fun i hi h => by
    by_cases q : i < d
    · rw [chF_s q, decide_eq_true h, Bool.true_or, Bool.true_and]
    · rw [chF_e (by omega), chF_e (by omega)]
  by_cases q : s = (ps 0).2.2
  · rw [if_pos (show nI s = nI (ps 0).2.2 by rw [q]), nI_add]
    by_cases p : f % 2 = 0
    · rw [p, Nat.add_zero]
      exact x_oc38 hX' (d + 2) f FU (by omega) (FU_big (by omega)) (by omega) (by rw [if_pos p]; exact q.symm)
    · rw [show f % 2 = 1 by omega, skip f f2 (by rw [z3.side f (by omega), if_neg p]; omega)]
      exact x_oc38 hX' (d + 2) (f + 1) FU (by omega) (FU_big (by omega)) (by omega) (by rw [if_pos (by omega)]; exact q.symm)
  · rw [if_neg (show ¬ nI s = nI (ps 0).2.2 from fun z => q ((nI_inj (by omega) (by omega)).mp z)), nI_1, pk_sub (by omega)]
    by_cases p : f % 2 = 0
    · rw [p, Nat.sub_zero, skip f f2 (by rw [z3.side f (by omega), if_pos p]; omega)]
      exact x_oc38 hX' (d + 2) (f + 1) FU (by omega) (FU_big (by omega)) (by omega) (by rw [if_neg (by omega)]; omega)
    · rw [show f + 1 - f % 2 = f by omega]
      exact x_oc38 hX' (d + 2) f FU (by omega) (FU_big (by omega)) (by omega) (by rw [if_neg p]; omega)
theorem x_ending {N o d a : Nat} {K : Kd} {ps : Nat → Ps} {cs : Nat → Nat} {w : Wd} (hX : XPl N K o ps cs d a w) : f_X4_ending N o w = some (nI (endS N K ps d), w) := by
  have h0 := x_onlyChecksOf (s := 0) hX (by omega)
  have h1 := x_onlyChecksOf (s := 1) hX (by omega)
  have h0' : f_X4_onlyChecksOf N o (0 : Int32) w = some (b2i (chsS N K ps d 0), w) := h0
  have h1' : f_X4_onlyChecksOf N o (1 : Int32) w = some (b2i (chsS N K ps d 1), w) := h1
  have hc : cntS ps d ≤ d + 1 := cnt_le _
  have hd := hX.2.1
  unfold f_X4_ending f_X4_ending_33 endS
  rw [hX.1.2.2.2.2]
  by_cases q : cntS ps d < 4
  · rw [if_neg (show ¬ (4 : Int32) ≤ nI (cntS ps d) from nI_ge (b := 4) q (by omega)), if_pos q]; rfl
  · rw [if_pos (show (4 : Int32) ≤ nI (cntS ps d) from nI_le (a := 4) (by omega) (by omega)), if_neg q, h0', bd_s, b2_0, h1', bd_s, b2_0]
    cases chsS N K ps d 0
    · cases chsS N K ps d 1 <;> rfl
    · rfl
theorem endS_lt {N d : Nat} {K : Kd} {ps : Nat → Ps} : endS N K ps d < 5 := by
  unfold endS
  repeat' split
  all_goals omega
theorem x_isOpen {N o d a : Nat} {K : Kd} {ps : Nat → Ps} {cs : Nat → Nat} {w : Wd} (hX : XPl N K o ps cs d a w) : f_X4_isOpen N o w = some (b2i (decide (d < 300) && decide (endS N K ps d = 0)), w) := by
  have hd := hX.2.1
  unfold f_X4_isOpen f_X4_isOpen_21 f_X4_isOpen_22
  simp only [zb0, zb1, if_true]
  rw [hX.1.2.2.1]
  by_cases q : d < 300
  · rw [if_neg (show ¬ (300 : Int32) ≤ nI d from nI_ge (b := 300) q (by omega)), x_ending hX, bd_s]
    by_cases e : endS N K ps d = 0
    · rw [e, if_pos z0]; simp [q]; rfl
    · have := endS_lt (N := N) (K := K) (ps := ps) (d := d)
      rw [if_neg (nI_ne0 (by omega) (by omega))]; simp [q, e]; rfl
  · rw [if_pos (show (300 : Int32) ≤ nI d from nI_le (a := 300) (by omega) (by omega))]; simp [q]; rfl
theorem x_latest {N o d a : Nat} {K : Kd} {ps : Nat → Ps} {cs : Nat → Nat} {w : Wd} (hX : XPl N K o ps cs d a w) : f_X4_latestGaveCheck N o w = some (b2i (decide (0 < d) && gvC N K ps (d - 1)), w) := by
  have hd := hX.2.1
  unfold f_X4_latestGaveCheck f_X4_latestGaveCheck_25 f_X4_latestGaveCheck_26
  rw [hX.1.2.2.1, zb0, zb1, if_pos rfl, if_pos rfl]
  rcases Nat.eq_zero_or_pos d with rfl | q
  · rw [if_pos (by decide)]; rfl
  · rw [if_neg (nI_nle q (by omega)), show nI d - (1 : Int32) = nI (d - 1) from pk_sub (a := d) (b := 1) (by omega), inb_nI (show d - 1 < 300 by omega) (by omega), if_pos rfl, nI_clamp (by omega), (hX.2.2.1 (d - 1) (by omega)).2, b2_0, decide_eq_true q, Bool.true_and]
    cases gvC N K ps (d - 1) <;> rfl
