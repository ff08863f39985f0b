/-! ===== fields, sides, kinds asked; the reference's why ===== -/
theorem inb_le {v : Int32} {M : Nat} (hM : M + 1 < 2 ^ 31) : (0 ≤ v ∧ v ≤ nI M) ↔ inb v (M + 1) = true := by
  rw [inb_iff (by omega)]
  constructor
  · rintro ⟨a, b⟩
    have hv : ¬ v < 0 := by
      rw [Int32.le_iff_toInt_le] at a
      rw [Int32.lt_iff_toInt_lt]
      omega
    obtain ⟨j, hj, rfl⟩ := nI_of hv
    exact ⟨j, by have := (nI_leI hj (show M < 2 ^ 31 by omega)).mp b; omega, rfl⟩
  · rintro ⟨j, hj, rfl⟩
    exact ⟨nI_pos' (by omega), nI_le (by omega) (by omega)⟩
theorem m_isField {N : Nat} {w : Wd} (hn : w.1 50 0 = nI N) (hN : N ≤ 7) (h5 : 5 ≤ N) (v : Int32) : f_X10_isField v w = some (b2i (inb v (N * N)), w) := by
  have hNN := NN_le hN
  have h1 : 1 ≤ N * N := Nat.mul_pos (by omega) (by omega)
  obtain ⟨M, hM⟩ : ∃ M, N * N = M + 1 := ⟨N * N - 1, by omega⟩
  unfold f_X10_isField
  rw [hn, nI_sq, hM, nI_pred, m_in0, bd_s]
  by_cases h : inb v (M + 1) = true
  · rw [if_pos ((inb_le (by omega)).mpr h), h]; rfl
  · rw [if_neg (fun q => h ((inb_le (by omega)).mp q)), (by simpa using h : inb v (M + 1) = false)]; rfl
theorem x_isField {N : Nat} {w : Wd} (hn : w.1 0 0 = nI (N * N)) (hN : N ≤ 7) (v : Int32) : f_X9_isField N v w = some (b2i (inb v (N * N)), w) := by
  have hNN := NN_le hN
  unfold f_X9_isField f_X9_isField_16 f_X9_isField_17
  rw [hn, zb0, zb1, if_pos rfl, if_pos rfl]
  rcases pk_ix v (n := N * N) (by omega) with h | h | ⟨j, hj, rfl⟩
  · have : ¬ inb v (N * N) = true := fun q => (inb_in q) (Or.inl h)
    rw [if_pos h, (by simpa using this : inb v (N * N) = false)]; rfl
  · have h0 : ¬ inb v (N * N) = true := fun q => by
      obtain ⟨j, hj, rfl⟩ := (inb_iff (by omega)).mp q
      exact nI_ge hj (by omega) h
    rw [(by simpa using h0 : inb v (N * N) = false)]
    by_cases hv : v < 0
    · rw [if_pos hv]; rfl
    · rw [if_neg hv, if_pos h]; rfl
  · rw [if_neg (nI_pos (by omega)), if_neg (nI_ge hj (by omega)), inb_nI hj (by omega)]; rfl
def isS (v : Int32) : Bool := decide (v = 0) || decide (v = 1)
theorem x_isSide {N : Nat} (v : Int32) (w : Wd) : f_X9_isSide N v w = some (b2i (isS v), w) := by
  unfold f_X9_isSide f_X9_isSide_9 f_X9_isSide_14 isS
  rw [zb0, zb1, if_pos rfl, if_pos rfl]
  by_cases h : v = 0
  · rw [if_pos h]; simp [h, b2i]
  · rw [if_neg h]
    by_cases h1 : v = 1
    · rw [if_pos h1]; simp [h1, b2i]
    · rw [if_neg h1]; simp [h, h1, b2i]
theorem isS_of {v : Int32} (h : isS v = true) : ∃ s : Nat, s < 2 ∧ v = nI s := by
  unfold isS at h
  simp only [Bool.or_eq_true, decide_eq_true_eq] at h
  rcases h with h | h
  · exact ⟨0, by omega, h⟩
  · exact ⟨1, by omega, h⟩
theorem m_side (v : Int32) (w : Wd) : f_X10_in (Int32.toInt64 v) (0 : Int64) (1 : Int64) w = some (b2i (isS v), w) := by
  have e := m_in0l v 1 (by omega) w
  refine Eq.trans e ?_
  have h : (0 ≤ v ∧ v ≤ nI 1) ↔ isS v = true := by
    rw [inb_le (by omega), inb_iff (by omega)]
    unfold isS
    simp only [Bool.or_eq_true, decide_eq_true_eq]
    constructor
    · rintro ⟨j, hj, rfl⟩
      rcases (show j = 0 ∨ j = 1 by omega) with rfl | rfl
      · exact Or.inl rfl
      · exact Or.inr rfl
    · rintro (h | h)
      · exact ⟨0, by omega, h⟩
      · exact ⟨1, by omega, h⟩
  by_cases q : isS v = true
  · rw [if_pos (h.mpr q), q]; rfl
  · rw [if_neg (fun z => q (h.mp z)), (by simpa using q : isS v = false)]; rfl
/-- a kind that a hand can have -/
def isH (v : Int32) : Bool := inb v 8 && !decide (v = 0)
theorem isH_of {v : Int32} (h : isH v = true) : ∃ k : Nat, 1 ≤ k ∧ k < 8 ∧ v = nI k := by
  unfold isH at h
  simp only [Bool.and_eq_true, Bool.not_eq_true', decide_eq_false_iff_not] at h
  obtain ⟨j, hj, rfl⟩ := (inb_iff (by omega)).mp h.1
  refine ⟨j, ?_, hj, rfl⟩
  rcases Nat.eq_zero_or_pos j with rfl | hp
  · exact absurd rfl h.2
  · exact hp
theorem isH_iff {v : Int32} : isH v = true ↔ ∃ k : Nat, 1 ≤ k ∧ k < 8 ∧ v = nI k := by
  constructor
  · exact isH_of
  · rintro ⟨k, h1, h2, rfl⟩
    unfold isH
    rw [inb_nI h2 (by omega), decide_eq_false (nI_ne0 (by omega) (by omega))]
    rfl
theorem isH_le {v : Int32} : ((1 : Int32) ≤ v ∧ v ≤ 7) ↔ isH v = true := by
  rw [isH_iff]
  constructor
  · rintro ⟨a, b⟩
    have hv : ¬ v < 0 := by
      rw [Int32.le_iff_toInt_le] at a
      rw [Int32.lt_iff_toInt_lt]
      have : (1 : Int32).toInt = 1 := by decide
      have : (0 : Int32).toInt = 0 := by decide
      omega
    obtain ⟨j, hj, rfl⟩ := nI_of hv
    exact ⟨j, (nI_leI (a := 1) (by omega) hj).mp a, by have := (nI_leI (b := 7) hj (by omega)).mp b; omega, rfl⟩
  · rintro ⟨k, h1, h2, rfl⟩
    exact ⟨nI_le (a := 1) h1 (by omega), nI_le (b := 7) (by omega) (by omega)⟩
theorem m_handKind (v : Int32) (w : Wd) : f_X10_in (Int32.toInt64 v) (1 : Int64) (7 : Int64) w = some (b2i (isH v), w) := by
  have e := m_in1l v 1 7 (by omega) (by omega) w
  refine Eq.trans e ?_
  by_cases q : isH v = true
  · rw [if_pos (show nI 1 ≤ v ∧ v ≤ nI 7 from isH_le.mpr q), q]; rfl
  · rw [if_neg (show ¬ (nI 1 ≤ v ∧ v ≤ nI 7) from fun z => q (isH_le.mp z)), (by simpa using q : isH v = false)]; rfl
theorem x_isHandKind {N : Nat} (v : Int32) (w : Wd) : f_X9_isHandKind N v w = some (b2i (isH v), w) := by
  unfold f_X9_isHandKind f_X9_isHandKind_15 f_X9_isHandKind_16
  rw [zb0, zb1, if_pos rfl, if_pos rfl]
  by_cases q : isH v = true
  · have := isH_le.mpr q
    rw [if_neg (fun z => by rw [Int32.lt_iff_toInt_lt] at z; have := this.1; rw [Int32.le_iff_toInt_le] at this; omega), if_neg (fun z => by rw [Int32.lt_iff_toInt_lt] at z; have := this.2; rw [Int32.le_iff_toInt_le] at this; omega), q]
    rfl
  · rw [(by simpa using q : isH v = false)]
    by_cases h1 : v < 1
    · rw [if_pos h1]; rfl
    · rw [if_neg h1]
      by_cases h7 : (7 : Int32) < v
      · rw [if_pos h7]; rfl
      · exfalso
        apply q
        apply isH_le.mp
        rw [Int32.lt_iff_toInt_lt] at h1 h7
        rw [Int32.le_iff_toInt_le, Int32.le_iff_toInt_le]
        omega
theorem x_going {f t : Nat} (hf : f < 63) (ht : t < 64) (v : Int32) (w : Wd) : f_X3_going (nI f) (nI t) v w = some (nI (goC f t (if v = 0 then 0 else 1)), w) := by
  have e : (nI f <<< ((6 : Int32) &&& 31)) ||| nI t = nI (goC f t 0) := by
    have := code_e (a := 0) (f := f) (t := t) (by omega) hf ht
    rw [Nat.mul_zero, Nat.add_zero] at this
    rw [← this]
    rw [show (nI 0 <<< ((16 : Int32) &&& 31)) = 0 from by decide, Int32.zero_or]
  have e1 : nI (goC f t 0) ||| (4096 : Int32) = nI (goC f t 1) := by
    have := code_r (a := 0) (f := f) (t := t) (by omega) hf ht
    rw [Nat.mul_zero, Nat.add_zero, Nat.add_zero] at this
    exact this
  unfold f_X3_going f_X3_going_17
  rw [e, e1]
  by_cases h : v = 0
  · rw [if_pos h, if_pos h, Int32.or_zero]
  · rw [if_neg h, if_neg h]
theorem okC_tri {N c : Nat} {K : Kd} {P : Ps} (h7 : N ≤ 7) (h5 : 5 ≤ N) (hV : VB N P) (hc : c ∈ triL N K P) : okC N P c :=
  (tri_ok h7 h5 (fun q _ => hV.le q) (fun j hj => by have := hV.hd hj; omega) hV.mv hc).1
theorem flt_go {N f t r : Nat} {K : Kd} {P : Ps} (h7 : N ≤ 7) (hf : f < N * N) (ht : t < N * N) (hr : r < 2) : flt N K P (goC f t r) = if fltG N K P (goC f t r) ≠ 0 then fltG N K P (goC f t r) else if chk N K (mkP P (goC f t r)).1 P.2.2 = true then 6 else 0 := by
  have hNN := NN_le h7
  obtain ⟨c1, c2, c3, c4⟩ := goC_ok (f := f) (t := t) (r := r) (by omega) (by omega) hr
  have h63 : cf (goC f t r) ≠ 63 := by rw [c2]; omega
  unfold flt flt0 forb safe
  rw [if_neg h63, decide_eq_false h63, if_neg h63]
  cases chk N K (mkP P (goC f t r)).1 P.2.2 <;> rfl
theorem flt_se {N k t : Nat} {K : Kd} {P : Ps} (h7 : N ≤ 7) (hk : k < 8) (ht : t < N * N) : flt N K P (seC k t) = if fltS N K P k t ≠ 0 then fltS N K P k t else if chk N K (mkP P (seC k t)).1 P.2.2 = true then 5 else if (decide (K.2.2 k / 2 % 2 ≠ 0) && mate N K (mkP P (seC k t))) = true then 6 else 0 := by
  have hNN := NN_le h7
  obtain ⟨c1, c2, c3, c4⟩ := seC_ok (k := k) (t := t) hk (by omega)
  unfold flt flt0 forb safe mk2b
  rw [if_pos c2, decide_eq_true c2, if_pos c2, c1, c4]
  cases chk N K (mkP P (seC k t)).1 P.2.2 <;> rfl
/-- the reference's why, on a stand -/
theorem m_why {N f t : Nat} {K : Kd} {P : Ps} {w : Wd} {v : Int32} (hK : MK N K w) (hP : MP N 0 P w) (hV : VB N P) (hf : f < N * N) (ht : t < N * N) (hst : w.1 50 25 ≠ 0) :
    ∃ w', f_X10_why (nI f) (nI t) v w = some (nI (flt N K P (goC f t (if v = 0 then 0 else 1))), w') ∧ UpM 0 0 w w' := by
  have h7 := hK.2.1
  have h5 := hK.2.2.1
  have hNN := NN_le h7
  have hm := hV.mv
  have hr2 : (if v = (0 : Int32) then 0 else 1) < 2 := by split <;> omega
  rw [flt_go h7 hf ht hr2]
  obtain ⟨c1, c2, c3, c4⟩ := goC_ok (f := f) (t := t) (r := if v = (0 : Int32) then 0 else 1) (by omega) (by omega) hr2
  have hb1 := hP.2.1 f (by omega)
  have hb2 := hP.2.1 t (by omega)
  rw [Nat.mul_zero, Nat.zero_add] at hb1 hb2
  have hs0 := hP.2.2.2.1
  unfold f_X10_why f_X10_why_60
  rw [m_isField hK.1 h7 h5, bd_s, inb_nI hf (by omega), show b2i true = 1 from rfl, if_neg (by decide), m_isField hK.1 h7 h5, bd_s, inb_nI ht (by omega), show b2i true = 1 from rfl, if_neg (by decide), if_neg hst, if_pos (show inb (0 : Int32) 16 = true by decide), lt_e, show Int32.toNatClampNeg (0 : Int32) = 0 from by decide, hs0, inb_nI (show f < 784 by omega) (by omega), if_pos rfl, lt_e, nI_clamp (by omega), hb1.1]
  have hG : fltG N K P (goC f t (if v = (0 : Int32) then 0 else 1)) = if ¬ (P.1 f ≠ 0 ∧ sd (P.1 f) = P.2.2) then 1 else if t ∉ reachL N K P.1 (P.1 f) f then 2 else if P.1 t ≠ 0 ∧ sd (P.1 t) = P.2.2 then 3 else if (if v = (0 : Int32) then 0 else 1) = 0 then (if stay N K (P.1 f) P.2.2 t = true then 0 else 5) else if rais N K (P.1 f) P.2.2 f t = true then 0 else 4 := by
    unfold fltG
    rw [c1, c2, c3]
  by_cases q0 : P.1 f = 0
  · rw [if_pos (show ¬ (P.1 f ≠ 0 ∧ sd (P.1 f) = P.2.2) from fun z => z.1 q0)] at hG
    rw [hG, q0, if_pos z0, if_pos (by decide)]
    exact ⟨w, rfl, UpM.rf⟩
  · have hi0 : 0 < P.1 f := by omega
    have hsd := (man_chk (P.1 f) (by omega) hi0).2.2.2.2.2.1
    rw [if_neg (nI_ne0 hi0 (by omega)), m_sideOf hi0 hb1.2, bd_s]
    by_cases q1 : sd (P.1 f) = P.2.2
    · rw [if_neg (show ¬ ¬ (P.1 f ≠ 0 ∧ sd (P.1 f) = P.2.2) from fun z => z ⟨q0, q1⟩)] at hG
      rw [if_pos (show nI (sd (P.1 f)) = nI P.2.2 by rw [q1])]
      obtain ⟨w1, r1, r2, r3⟩ := m_reaches (lv := 0) hi0 hb1.2 hf hK (hP.b h7)
      have hK1 := hK.same r2
      have hu1 : UpM 0 0 w w1 := r2.up
      have hP1 := hP.up (Nat.le_refl _) hu1
      have hb3 := hP1.2.1 t (by omega)
      rw [Nat.mul_zero, Nat.zero_add] at hb3
      have r1' : f_X10_reaches (0 : Int32) (nI f) (nI (P.1 f)) w = some ((), w1) := r1
      rw [r1', bd_s, inb_nI (show t < 49 by omega) (by omega), if_pos rfl, nI_clamp (by omega), r3.2.2.1 t (by omega)]
      by_cases q2 : t ∈ reachL N K P.1 (P.1 f) f
      · rw [if_neg (show ¬ t ∉ reachL N K P.1 (P.1 f) f from fun z => z q2)] at hG
        rw [if_pos q2, if_neg (by decide), inb_nI (show t < 784 by omega) (by omega), if_pos rfl, if_pos rfl, hb3.1]
        have tail : ¬ (P.1 t ≠ 0 ∧ sd (P.1 t) = P.2.2) → ∃ w', f_X10_why_106 (nI f) (nI t) v (nI P.2.2) (nI (P.1 f)) w1 = some (nI (if fltG N K P (goC f t (if v = (0 : Int32) then 0 else 1)) ≠ 0 then fltG N K P (goC f t (if v = (0 : Int32) then 0 else 1)) else if chk N K (mkP P (goC f t (if v = (0 : Int32) then 0 else 1))).1 P.2.2 = true then 6 else 0), w') ∧ UpM 0 0 w w' := by
          intro q3
          rw [if_neg q3] at hG
          have fin : ∀ r : Nat, r < 2 → (goC f t r) ∈ triL N K P → ∃ w', f_X10_why_156 (nI P.2.2) (0 : Int32) (nI f) (nI t) (nI r) w1 = some (nI (if chk N K (mkP P (goC f t r)).1 P.2.2 = true then 6 else 0), w') ∧ UpM 0 0 w w' := by
            intro r hr hc
            obtain ⟨d1, d2, d3, d4⟩ := goC_ok (f := f) (t := t) (r := r) (by omega) (by omega) hr
            have h63 : cf (goC f t r) ≠ 63 := by rw [d2]; omega
            obtain ⟨w2, a1, a2, a3⟩ := m_make (lv := 0) (by omega) h7 hP1 (okC_tri h7 h5 hV hc)
            have e1 : mF (goC f t r) = nI f := by unfold mF; rw [if_neg h63, d2]
            have e2 : mT (goC f t r) = nI t := by unfold mT; rw [d1]
            have e3 : mR (goC f t r) = nI r := by unfold mR; rw [d3]
            have e4 : mK (goC f t r) = -1 := by unfold mK; rw [if_neg h63]
            rw [e1, e2, e3, e4] at a1
            have a1' : f_X10_make (0 : Int32) (nI f) (nI t) (nI r) (-1 : Int32) w1 = some ((), w2) := a1
            obtain ⟨w3, s1, s2⟩ := m_inCheck (lv := 1) hm (hK1.up a2) (a3.b h7)
            have s2' : f_X10_inCheck (1 : Int32) (nI P.2.2) w2 = some (b2i (chk N K (mkP P (goC f t r)).1 P.2.2), w3) := s2
            unfold f_X10_why_156 f_X10_why_176
            rw [a1', bd_s, s2', bd_s, b2_0]
            refine ⟨w3, ?_, (hu1.tr (a2.lo (by omega) (by omega))).tr s1.up⟩
            cases chk N K (mkP P (goC f t r)).1 P.2.2 <;> rfl
          unfold f_X10_why_106 f_X10_why_125 f_X10_why_143
          by_cases hv : v = 0
          · subst hv
            rw [show (if (0 : Int32) = 0 then (0 : Nat) else 1) = 0 from rfl] at hG ⊢
            rw [if_pos rfl] at hG
            rw [if_pos rfl, if_pos rfl, m_mayStay hi0 hb1.2 hm ht hK1, bd_s, b2_0, if_pos rfl]
            cases q5 : stay N K (P.1 f) P.2.2 t with
            | false =>
              rw [q5, if_neg (by decide)] at hG
              rw [hG, if_neg (by decide), if_pos (by decide)]
              exact ⟨w1, rfl, hu1⟩
            | true =>
              rw [q5, if_pos rfl] at hG
              rw [hG, if_pos rfl, if_neg (by decide)]
              exact fin 0 (by omega) (mem_tri.mpr (Or.inl ⟨f, t, hf, ⟨q0, q1⟩, q2, q3, Or.inl ⟨q5, rfl⟩⟩))
          · rw [if_neg hv] at hG ⊢
            rw [if_neg (by decide)] at hG
            rw [m_mayRaiseSo hi0 hb1.2 hm hf ht hK1, bd_s, b2_0]
            simp only [if_neg hv]
            cases q5 : rais N K (P.1 f) P.2.2 f t with
            | false =>
              rw [q5, if_neg (by decide)] at hG
              rw [hG, if_neg (by decide), if_pos (by decide)]
              exact ⟨w1, rfl, hu1⟩
            | true =>
              rw [q5, if_pos rfl] at hG
              rw [hG, if_pos rfl, if_neg (by decide)]
              exact fin 1 (by omega) (mem_tri.mpr (Or.inl ⟨f, t, hf, ⟨q0, q1⟩, q2, q3, Or.inr ⟨q5, rfl⟩⟩))
        by_cases q4 : P.1 t = 0
        · rw [if_pos (show nI (P.1 t) = 0 by rw [q4]; rfl)]
          exact tail (fun z => z.1 q4)
        · have ht0 : 0 < P.1 t := by omega
          have hsdt := (man_chk (P.1 t) (by omega) ht0).2.2.2.2.2.1
          rw [if_neg (nI_ne0 ht0 (by omega)), m_sideOf ht0 hb3.2, bd_s]
          by_cases q5 : sd (P.1 t) = P.2.2
          · rw [if_pos (show P.1 t ≠ 0 ∧ sd (P.1 t) = P.2.2 from ⟨q4, q5⟩)] at hG
            rw [hG, if_pos (show nI (sd (P.1 t)) = nI P.2.2 by rw [q5]), if_pos (by decide)]
            exact ⟨w1, rfl, hu1⟩
          · rw [if_neg (show ¬ nI (sd (P.1 t)) = nI P.2.2 from fun z => q5 ((nI_inj (by omega) (by omega)).mp z))]
            exact tail (fun z => q5 z.2)
      · rw [if_pos q2] at hG
        rw [hG, if_neg q2, if_pos rfl, if_pos (by decide)]
        exact ⟨w1, rfl, hu1⟩
    · rw [if_pos (show ¬ (P.1 f ≠ 0 ∧ sd (P.1 f) = P.2.2) from fun z => q1 z.2)] at hG
      rw [hG, if_neg (show ¬ nI (sd (P.1 f)) = nI P.2.2 from fun z => q1 ((nI_inj (by omega) (by omega)).mp z)), if_pos (by decide)]
      exact ⟨w, rfl, UpM.rf⟩
/-- the reference's whySet, on a stand -/
theorem m_whySet {N k t : Nat} {K : Kd} {P : Ps} {w : Wd} (hK : MK N K w) (hM : MM K w) (hP : MP N 0 P w) (hV : VB N P) (hk1 : 1 ≤ k) (hk : k < 8) (ht : t < N * N) (hst : w.1 50 25 ≠ 0) :
    ∃ w', f_X10_whySet (nI k) (nI t) w = some (nI (flt N K P (seC k t)), w') ∧ UpM 0 0 w w' := by
  have h7 := hK.2.1
  have h5 := hK.2.2.1
  have hNN := NN_le h7
  have hm := hV.mv
  rw [flt_se h7 hk ht]
  obtain ⟨c1, c2, c3, c4⟩ := seC_ok (k := k) (t := t) hk (by omega)
  have hb := hP.2.1 t (by omega)
  have hh := hP.2.2.1 (8 * P.2.2 + k) (by omega)
  have hs0 := hP.2.2.2.1
  rw [Nat.mul_zero, Nat.zero_add] at hb hh
  have hmk := hM k hk
  unfold f_X10_whySet
  rw [m_handKind, bd_s, isH_iff.mpr ⟨k, hk1, hk, rfl⟩, show b2i true = 1 from rfl, if_neg (by decide), m_isField hK.1 h7 h5, bd_s, inb_nI ht (by omega), show b2i true = 1 from rfl, if_neg (by decide), if_neg hst, if_pos (show inb (0 : Int32) 16 = true by decide), lt_e, show Int32.toNatClampNeg (0 : Int32) = 0 from by decide, hs0, n8s, inb_nI (by omega) (by omega), if_pos rfl, nI_clamp (by omega), hh.1]
  unfold fltS
  by_cases q1 : P.2.1 (8 * P.2.2 + k) = 0
  · rw [q1, if_pos z0, if_pos rfl, if_pos (by decide)]
    exact ⟨w, rfl, UpM.rf⟩
  · rw [if_neg (nI_ne0 (by omega) (by omega)), if_neg q1, inb_nI (show t < 784 by omega) (by omega), if_pos rfl, nI_clamp (by omega), hb.1]
    by_cases q2 : P.1 t = 0
    · rw [q2, if_pos z0, if_neg (show ¬ (0 : Nat) ≠ 0 from fun z => z rfl), m_couldGoOn (by omega) hm ht hK, bd_s, b2_0]
      cases q3 : goOn N K k P.2.2 t with
      | false =>
        rw [if_neg (by decide), if_pos rfl, if_pos (by decide)]
        exact ⟨w, rfl, UpM.rf⟩
      | true =>
        rw [if_pos rfl, if_neg (show ¬ true = false by decide), inb_nI hk (by omega), if_pos rfl, nI_clamp (by omega), hmk.1]
        have mk1 : ∀ m, m < 4 → ((nI m &&& (1 : Int32)) = 0 ↔ m % 2 = 0) := by decide
        have tail : (K.2.2 k % 2 = 0 ∨ inCol N P.1 P.2.2 k t = false) → ∃ w', f_X10_whySet_103 (nI k) (nI t) (nI P.2.2) w = some (nI (if chk N K (mkP P (seC k t)).1 P.2.2 = true then 5 else if (decide (K.2.2 k / 2 % 2 ≠ 0) && mate N K (mkP P (seC k t))) = true then 6 else 0), w') ∧ UpM 0 0 w w' := by
          intro q4
          have hc : seC k t ∈ triL N K P := mem_tri.mpr (Or.inr ⟨k, t, hk1, hk, ht, q1, q2, q3, q4, rfl⟩)
          obtain ⟨w2, a1, a2, a3⟩ := m_make (lv := 0) (by omega) h7 hP (okC_tri h7 h5 hV hc)
          have e1 : mF (seC k t) = -1 := by unfold mF; rw [if_pos c2]
          have e2 : mT (seC k t) = nI t := by unfold mT; rw [c1]
          have e3 : mR (seC k t) = nI 0 := by unfold mR; rw [c3]
          have e4 : mK (seC k t) = nI k := by unfold mK; rw [if_pos c2, c4]
          rw [e1, e2, e3, e4] at a1
          have a1' : f_X10_make (0 : Int32) (-1 : Int32) (nI t) (0 : Int32) (nI k) w = some ((), w2) := a1
          obtain ⟨w3, s1, s2⟩ := m_inCheck (lv := 1) hm (hK.up a2) (a3.b h7)
          have s2' : f_X10_inCheck (1 : Int32) (nI P.2.2) w2 = some (b2i (chk N K (mkP P (seC k t)).1 P.2.2), w3) := s2
          have u3 : UpM 0 0 w w3 := (a2.lo (by omega) (by omega)).tr s1.up
          have hmk3 := (hM.up u3) k hk
          unfold f_X10_whySet_103 f_X10_whySet_147 f_X10_whySet_148
          rw [a1', bd_s, s2', bd_s, b2_0]
          cases hq : chk N K (mkP P (seC k t)).1 P.2.2 with
          | true =>
            rw [if_pos rfl, if_pos rfl]
            exact ⟨w3, rfl, u3⟩
          | false =>
            rw [if_neg (show ¬ false = true by decide), if_neg (show ¬ false = true by decide), inb_nI hk (by omega), if_pos rfl, nI_clamp (by omega), hmk3.1]
            by_cases q6 : K.2.2 k / 2 % 2 = 0
            · rw [if_pos ((mk2 _ hmk.2).mpr q6)]
              exact ⟨w3, by simp [q6]; rfl, u3⟩
            · rw [if_neg (fun z => q6 ((mk2 _ hmk.2).mp z)), decide_eq_true q6, Bool.true_and]
              have hP3 : MP N 1 (mkP P (seC k t)) w3 := a3.up (Nat.le_refl _) (s1.up (lv := 1) (l2 := 1))
              obtain ⟨w4, b1, b2⟩ := m_isMate (lv := 1) (by omega) (hK.up u3) (hM.up u3) hP3 (fun j hj => by
                have := mkP_hand (P := P) (c := seC k t) (j := j)
                have := hV.hd hj
                omega) (TL_ok h7 h5)
              have b1' : f_X10_isMate (1 : Int32) w3 = some (b2i (mate N K (mkP P (seC k t))), w4) := b1
              rw [b1', bd_s, b2_0]
              refine ⟨w4, ?_, u3.tr (b2.lo (by omega) (by omega))⟩
              cases mate N K (mkP P (seC k t)) <;> rfl
        by_cases q5 : K.2.2 k % 2 = 0
        · have q4 : K.2.2 k % 2 = 0 ∨ inCol N P.1 P.2.2 k t = false := Or.inl q5
          rw [if_pos ((mk1 _ hmk.2).mpr q5), if_pos q4, if_neg (by decide)]
          exact tail q4
        · have hi := m_inColumn (lv := 0) hm hk ht hK.1 h7 h5 (hP.b h7)
          have hi' : f_X10_inColumn (0 : Int32) (nI P.2.2) (nI k) (nI t) w = some (b2i (inCol N P.1 P.2.2 k t), w) := hi
          rw [if_neg (fun z => q5 ((mk1 _ hmk.2).mp z)), hi', bd_s, b2_0]
          cases q6 : inCol N P.1 P.2.2 k t with
          | true =>
            rw [if_pos rfl, if_neg (show ¬ (K.2.2 k % 2 = 0 ∨ true = false) from fun z => by rcases z with z | z; exact q5 z; cases z), if_pos (show (4 : Nat) ≠ 0 by decide)]
            exact ⟨w, rfl, UpM.rf⟩
          | false =>
            have q4 : K.2.2 k % 2 = 0 ∨ inCol N P.1 P.2.2 k t = false := Or.inr q6
            have := tail q4
            rw [if_neg (by decide), if_pos (Or.inr rfl), if_neg (by decide)]
            exact this
    · rw [if_neg (nI_ne0 (by omega) (by omega)), if_pos q2, if_pos (by decide)]
      exact ⟨w, rfl, UpM.rf⟩
