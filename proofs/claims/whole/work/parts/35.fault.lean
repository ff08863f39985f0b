/-! ===== why a move is none: the pure word, and the class's faultOf ===== -/
theorem mem_tri {N c : Nat} {K : Kd} {P : Ps} : c ∈ triL N K P ↔ (∃ f t, f < N * N ∧ (P.1 f ≠ 0 ∧ sd (P.1 f) = P.2.2) ∧ t ∈ reachL N K P.1 (P.1 f) f ∧ ¬ (P.1 t ≠ 0 ∧ sd (P.1 t) = P.2.2) ∧ ((stay N K (P.1 f) P.2.2 t = true ∧ c = goC f t 0) ∨ (rais N K (P.1 f) P.2.2 f t = true ∧ c = goC f t 1))) ∨ ∃ k f, 1 ≤ k ∧ k < 8 ∧ f < N * N ∧ P.2.1 (8 * P.2.2 + k) ≠ 0 ∧ P.1 f = 0 ∧ goOn N K k P.2.2 f = true ∧ (K.2.2 k % 2 = 0 ∨ inCol N P.1 P.2.2 k f = false) ∧ c = seC k f := by
  unfold triL
  rw [List.mem_append, List.mem_flatMap, List.mem_flatMap]
  apply or_congr
  · constructor
    · rintro ⟨f, hf, hc⟩
      rw [List.mem_range] at hf
      unfold gosAt at hc
      split at hc
      · rename_i hq
        obtain ⟨t, ht, hc⟩ := List.mem_flatMap.mp hc
        unfold goTo at hc
        split at hc
        · simp at hc
        · rename_i hfree
          refine ⟨f, t, hf, hq, ht, hfree, ?_⟩
          rcases List.mem_append.mp hc with hc | hc
          · split at hc
            · rename_i hs
              exact Or.inl ⟨hs, by simpa using hc⟩
            · simp at hc
          · split at hc
            · rename_i hs
              exact Or.inr ⟨hs, by simpa using hc⟩
            · simp at hc
      · simp at hc
    · rintro ⟨f, t, hf, hq, ht, hfree, hc⟩
      refine ⟨f, List.mem_range.mpr hf, ?_⟩
      unfold gosAt
      rw [if_pos hq]
      refine List.mem_flatMap.mpr ⟨t, ht, ?_⟩
      unfold goTo
      rw [if_neg hfree]
      rcases hc with ⟨h1, rfl⟩ | ⟨h1, rfl⟩
      · exact List.mem_append_left _ (by rw [if_pos h1]; exact List.mem_singleton_self _)
      · exact List.mem_append_right _ (by rw [if_pos h1]; exact List.mem_singleton_self _)
  · constructor
    · rintro ⟨k, hk, hc⟩
      rw [List.mem_range'_1] at hk
      unfold setsOf at hc
      split at hc
      · simp at hc
      · rename_i hh
        obtain ⟨f, hf, hc⟩ := List.mem_flatMap.mp hc
        rw [List.mem_range] at hf
        unfold setAt at hc
        split at hc
        · rename_i hq
          exact ⟨k, f, hk.1, by omega, hf, hh, hq.1, hq.2.1, hq.2.2, by simpa using hc⟩
        · simp at hc
    · rintro ⟨k, f, h1, h8, hf, hh, q1, q2, q3, rfl⟩
      refine ⟨k, List.mem_range'_1.mpr ⟨h1, by omega⟩, ?_⟩
      unfold setsOf
      rw [if_neg hh]
      refine List.mem_flatMap.mpr ⟨f, List.mem_range.mpr hf, ?_⟩
      unfold setAt
      rw [if_pos ⟨q1, q2, q3⟩]
      exact List.mem_singleton_self _
/-- a number that tells a going or a setting on the board -/
def okF (N c : Nat) : Prop := ct c < N * N ∧ ((cf c = 63 ∧ 1 ≤ ck c ∧ ck c < 8 ∧ c = seC (ck c) (ct c)) ∨ (cf c ≠ 63 ∧ cf c < N * N ∧ c = goC (cf c) (ct c) (cr c)))
theorem okF_go {N f t r : Nat} (h7 : N ≤ 7) (hf : f < N * N) (ht : t < N * N) (hr : r < 2) : okF N (goC f t r) := by
  have hNN := NN_le h7
  obtain ⟨c1, c2, c3, c4⟩ := goC_ok (f := f) (t := t) (r := r) (by omega) (by omega) hr
  exact ⟨by rw [c1]; exact ht, Or.inr ⟨by rw [c2]; omega, by rw [c2]; exact hf, by rw [c1, c2, c3]⟩⟩
theorem okF_se {N k t : Nat} (h7 : N ≤ 7) (hk1 : 1 ≤ k) (hk : k < 8) (ht : t < N * N) : okF N (seC k t) := by
  have hNN := NN_le h7
  obtain ⟨c1, c2, c3, c4⟩ := seC_ok (k := k) (t := t) hk (by omega)
  exact ⟨by rw [c1]; exact ht, Or.inl ⟨c2, by rw [c4]; exact hk1, by rw [c4]; exact hk, by rw [c1, c4]⟩⟩
theorem okF_tri {N c : Nat} {K : Kd} {P : Ps} (h7 : N ≤ 7) (h5 : 5 ≤ N) (hm : P.2.2 < 2) (h : c ∈ triL N K P) : okF N c := by
  rcases mem_tri.mp h with ⟨f, t, hf, hq, ht, hfree, hc⟩ | ⟨k, f, h1, h8, hf, hh, q1, q2, q3, rfl⟩
  · have htN := reach_lt h7 h5 (by omega) hf t ht
    rcases hc with ⟨_, rfl⟩ | ⟨_, rfl⟩
    · exact okF_go h7 hf htN (by decide)
    · exact okF_go h7 hf htN (by decide)
  · exact okF_se h7 h1 h8 hf
theorem okF_lt {N c : Nat} (h7 : N ≤ 7) (h : okF N c) : c < 65536 := by
  have hNN := NN_le h7
  have hr := cr_lt c
  rcases h with ⟨h1, ⟨h2, h3, h4, h5⟩ | ⟨h2, h3, h5⟩⟩
  · rw [h5]; unfold seC; omega
  · rw [h5]; unfold goC; omega
/-- why a going is none, but for check -/
def fltG (N : Nat) (K : Kd) (P : Ps) (c : Nat) : Nat :=
  if ¬ (P.1 (cf c) ≠ 0 ∧ sd (P.1 (cf c)) = P.2.2) then 1
  else if ct c ∉ reachL N K P.1 (P.1 (cf c)) (cf c) then 2
  else if P.1 (ct c) ≠ 0 ∧ sd (P.1 (ct c)) = P.2.2 then 3
  else if cr c = 0 then (if stay N K (P.1 (cf c)) P.2.2 (ct c) = true then 0 else 5)
  else if rais N K (P.1 (cf c)) P.2.2 (cf c) (ct c) = true then 0 else 4
def fltS (N : Nat) (K : Kd) (P : Ps) (k f : Nat) : Nat :=
  if P.2.1 (8 * P.2.2 + k) = 0 then 1
  else if P.1 f ≠ 0 then 2
  else if goOn N K k P.2.2 f = false then 3
  else if K.2.2 k % 2 = 0 ∨ inCol N P.1 P.2.2 k f = false then 0 else 4
def flt0 (N : Nat) (K : Kd) (P : Ps) (c : Nat) : Nat := if cf c = 63 then fltS N K P (ck c) (ct c) else fltG N K P c
def flt (N : Nat) (K : Kd) (P : Ps) (c : Nat) : Nat := if flt0 N K P c ≠ 0 then flt0 N K P c else if safe N K P c = false then (if cf c = 63 then 5 else 6) else if forb N K c (mkP P c) = true then 6 else 0
theorem fltG_0 {N c : Nat} {K : Kd} {P : Ps} : fltG N K P c = 0 ↔ (P.1 (cf c) ≠ 0 ∧ sd (P.1 (cf c)) = P.2.2) ∧ ct c ∈ reachL N K P.1 (P.1 (cf c)) (cf c) ∧ ¬ (P.1 (ct c) ≠ 0 ∧ sd (P.1 (ct c)) = P.2.2) ∧ ((cr c = 0 ∧ stay N K (P.1 (cf c)) P.2.2 (ct c) = true) ∨ (cr c ≠ 0 ∧ rais N K (P.1 (cf c)) P.2.2 (cf c) (ct c) = true)) := by
  unfold fltG
  by_cases q1 : P.1 (cf c) ≠ 0 ∧ sd (P.1 (cf c)) = P.2.2
  · rw [if_neg (fun z => z q1)]
    by_cases q2 : ct c ∈ reachL N K P.1 (P.1 (cf c)) (cf c)
    · rw [if_neg (fun z => z q2)]
      by_cases q3 : P.1 (ct c) ≠ 0 ∧ sd (P.1 (ct c)) = P.2.2
      · rw [if_pos q3]
        exact ⟨fun z => (by cases z), fun z => absurd q3 z.2.2.1⟩
      · rw [if_neg q3]
        by_cases q4 : cr c = 0
        · rw [if_pos q4]
          by_cases q5 : stay N K (P.1 (cf c)) P.2.2 (ct c) = true
          · rw [if_pos q5]
            exact ⟨fun _ => ⟨q1, q2, q3, Or.inl ⟨q4, q5⟩⟩, fun _ => rfl⟩
          · rw [if_neg q5]
            exact ⟨fun z => (by cases z), fun z => by rcases z.2.2.2 with z | z; exact absurd z.2 q5; exact absurd q4 z.1⟩
        · rw [if_neg q4]
          by_cases q5 : rais N K (P.1 (cf c)) P.2.2 (cf c) (ct c) = true
          · rw [if_pos q5]
            exact ⟨fun _ => ⟨q1, q2, q3, Or.inr ⟨q4, q5⟩⟩, fun _ => rfl⟩
          · rw [if_neg q5]
            exact ⟨fun z => (by cases z), fun z => by rcases z.2.2.2 with z | z; exact absurd z.1 q4; exact absurd z.2 q5⟩
    · rw [if_pos q2]
      exact ⟨fun z => (by cases z), fun z => absurd z.2.1 q2⟩
  · rw [if_pos q1]
    exact ⟨fun z => (by cases z), fun z => absurd z.1 q1⟩
theorem fltS_0 {N k f : Nat} {K : Kd} {P : Ps} : fltS N K P k f = 0 ↔ P.2.1 (8 * P.2.2 + k) ≠ 0 ∧ P.1 f = 0 ∧ goOn N K k P.2.2 f = true ∧ (K.2.2 k % 2 = 0 ∨ inCol N P.1 P.2.2 k f = false) := by
  unfold fltS
  by_cases q1 : P.2.1 (8 * P.2.2 + k) = 0
  · rw [if_pos q1]
    exact ⟨fun z => (by cases z), fun z => absurd q1 z.1⟩
  · rw [if_neg q1]
    by_cases q2 : P.1 f = 0
    · rw [if_neg (fun z => z q2)]
      cases q3 : goOn N K k P.2.2 f with
      | false =>
        rw [if_pos rfl]
        exact ⟨fun z => (by cases z), fun z => by cases z.2.2.1⟩
      | true =>
        rw [if_neg (by decide)]
        by_cases q4 : K.2.2 k % 2 = 0 ∨ inCol N P.1 P.2.2 k f = false
        · rw [if_pos q4]
          exact ⟨fun _ => ⟨q1, q2, rfl, q4⟩, fun _ => rfl⟩
        · rw [if_neg q4]
          exact ⟨fun z => (by cases z), fun z => absurd z.2.2.2 q4⟩
    · rw [if_pos q2]
      exact ⟨fun z => (by cases z), fun z => absurd z.2.1 q2⟩
theorem flt0_iff {N c : Nat} {K : Kd} {P : Ps} (h7 : N ≤ 7) (h5 : 5 ≤ N) (hm : P.2.2 < 2) (hF : okF N c) : flt0 N K P c = 0 ↔ c ∈ triL N K P := by
  have hNN := NN_le h7
  rw [mem_tri]
  unfold flt0
  rcases hF with ⟨ht, ⟨h2, h3, h4, h6⟩ | ⟨h2, h3, h6⟩⟩
  · rw [if_pos h2, fltS_0]
    constructor
    · intro z
      exact Or.inr ⟨ck c, ct c, h3, h4, ht, z.1, z.2.1, z.2.2.1, z.2.2.2, h6⟩
    · rintro (⟨f, t, hf, hq, hr, hfree, hc⟩ | ⟨k, f, k1, k8, hf, hh, q1, q2, q3, hc⟩)
      · exfalso
        have htN := reach_lt h7 h5 (by omega) hf t hr
        rcases hc with ⟨_, hc⟩ | ⟨_, hc⟩
        · rw [hc, (goC_ok (by omega) (by omega) (by omega)).2.1] at h2; omega
        · rw [hc, (goC_ok (by omega) (by omega) (by omega)).2.1] at h2; omega
      · obtain ⟨c1, c2, c3, c4⟩ := seC_ok (k := k) (t := f) k8 (by omega)
        rw [hc, c1, c4]
        exact ⟨hh, q1, q2, q3⟩
  · rw [if_neg h2, fltG_0]
    constructor
    · intro z
      refine Or.inl ⟨cf c, ct c, h3, z.1, z.2.1, z.2.2.1, ?_⟩
      rcases z.2.2.2 with ⟨a, b⟩ | ⟨a, b⟩
      · exact Or.inl ⟨b, by rw [a] at h6; exact h6⟩
      · exact Or.inr ⟨b, by rw [show cr c = 1 by have := cr_lt c; omega] at h6; exact h6⟩
    · rintro (⟨f, t, hf, hq, hr, hfree, hc⟩ | ⟨k, f, k1, k8, hf, hh, q1, q2, q3, hc⟩)
      · have htN := reach_lt h7 h5 (by omega) hf t hr
        rcases hc with ⟨hs, hc⟩ | ⟨hs, hc⟩
        · obtain ⟨c1, c2, c3, c4⟩ := goC_ok (f := f) (t := t) (r := 0) (by omega) (by omega) (by omega)
          rw [hc, c1, c2, c3]
          exact ⟨hq, hr, hfree, Or.inl ⟨rfl, hs⟩⟩
        · obtain ⟨c1, c2, c3, c4⟩ := goC_ok (f := f) (t := t) (r := 1) (by omega) (by omega) (by omega)
          rw [hc, c1, c2, c3]
          exact ⟨hq, hr, hfree, Or.inr ⟨by decide, hs⟩⟩
      · exfalso
        apply h2
        rw [hc]
        exact (seC_ok k8 (by omega)).2.1
theorem flt_iff {N c : Nat} {K : Kd} {P : Ps} (h7 : N ≤ 7) (h5 : 5 ≤ N) (hm : P.2.2 < 2) (hF : okF N c) : flt N K P c = 0 ↔ c ∈ movL N K P := by
  unfold movL
  rw [List.mem_filter, ← flt0_iff h7 h5 hm hF, lawf_e]
  unfold flt
  by_cases q : flt0 N K P c = 0
  · rw [if_neg (fun z => z q)]
    cases hs : safe N K P c with
    | false =>
      rw [if_pos rfl]
      constructor
      · intro z; split at z <;> cases z
      · intro z; cases z.2
    | true =>
      rw [if_neg (by decide)]
      cases forb N K c (mkP P c) with
      | false => exact ⟨fun _ => ⟨q, rfl⟩, fun _ => rfl⟩
      | true => exact ⟨fun z => (by cases z), fun z => by cases z.2⟩
  · rw [if_pos q]
    exact ⟨fun z => absurd z q, fun z => absurd z.1 q⟩
theorem x_reaches {N f t : Nat} {K : Kd} {bo : Nat → Nat} {w : Wd} (hf : f < N * N) (ht : t < N * N) (h0 : bo f ≠ 0) (hK : XK N K w) (hB : XB N bo w) :
    ∃ w', f_X5_reaches N (nI f) (nI t) w = some (b2i (decide (t ∈ reachL N K bo (bo f) f)), w') ∧ SameX w w' := by
  have hNN := NN_le hK.2.2.1
  obtain ⟨w1, a1, a2, a3⟩ := x_reach hf h0 hK hB
  have hlen : (reachL N K bo (bo f) f).length ≤ N * N := nodup_len _ _ a3.2.1 a3.2.2
  generalize reachL N K bo (bo f) f = R at a1 a3 hlen
  unfold f_X5_reaches
  rw [a1, bd_s]
  have key := loop_any (fun n q w => l_X5_reaches_12 N (f_X5_reaches_32 N) (f_X5_reaches_40 N) n (nI t) (nI R.length) q w) (f_X5_reaches_32 N) (f_X5_reaches_40 N) R.length (fun q => decide (R[q]? = some t)) (fun u => u = w1) ?_ ?_ R.length 0 w1 (by omega) rfl FU (FU_big (by omega))
  · obtain ⟨w', h1, h2⟩ := key
    subst h1
    refine ⟨w', ?_, a2⟩
    refine Eq.trans h2 ?_
    have e : ((List.range' 0 R.length).any fun q => decide (R[q]? = some t)) = decide (t ∈ R) := by
      rw [Bool.eq_iff_iff, List.any_eq_true, decide_eq_true_eq]
      constructor
      · rintro ⟨q, _, hq⟩
        exact List.mem_of_getElem? (of_decide_eq_true hq)
      · intro hm
        obtain ⟨q, hq⟩ := List.getElem?_of_mem hm
        exact ⟨q, by rw [List.mem_range'_1]; exact ⟨Nat.zero_le _, by have := (List.getElem?_eq_some_iff.mp hq).1; omega⟩, by simpa using hq⟩
    rw [e]
    cases decide (t ∈ R) <;> rfl
  · intro n u hu
    show b_X5_reaches_12 N (l_X5_reaches_12 N (f_X5_reaches_32 N) (f_X5_reaches_40 N) n) (f_X5_reaches_32 N) (f_X5_reaches_40 N) (nI t) (nI R.length) (nI R.length) u = _
    unfold b_X5_reaches_12
    rw [if_pos (nI_le (Nat.le_refl _) (by omega))]
  · intro n q u hq hu
    subst hu
    refine ⟨u, rfl, ?_⟩
    show b_X5_reaches_12 N (l_X5_reaches_12 N (f_X5_reaches_32 N) (f_X5_reaches_40 N) n) (f_X5_reaches_32 N) (f_X5_reaches_40 N) (nI t) (nI R.length) (nI q) u = _
    have hg : R[q]? = some R[q] := List.getElem?_eq_getElem hq
    have hc := a3.1 q _ hg
    have hlt := a3.2.2 _ (List.mem_of_getElem? hg)
    unfold b_X5_reaches_12
    rw [if_neg (nI_ge hq (by omega)), inb_nI (show q < N * N by omega) (by omega), if_pos rfl, nI_clamp (by omega), hc, nI_1, hg]
    generalize R[q] = g at hlt
    by_cases e : g = t
    · rw [if_pos (by rw [e]), if_pos (by simp [e])]
    · rw [if_neg (fun z => e ((nI_inj (by omega) (by omega)).mp z)), if_neg (by simp [e])]
