/-! ===== the class: hunterGoes, hunt ===== -/
theorem x_hg_stop {N n : Nat} {Q : Int32 → Int32 → Int32 → Int32 → Wd → Option (Int32 × Wd)} {v1 v2 v3 v4 v5 v6 : Int32} {w : Wd} (h : v5 ≠ 0 ∨ w.1 29 8 ≠ 0) : l_X0_hunterGoes_37 N Q (f_X0_hunterGoes_134 N Q) (n + 1) v1 v2 v3 v4 v5 v6 w = f_X0_hunterGoes_134 N Q v5 w := by
  show b_X0_hunterGoes_37 N Q (l_X0_hunterGoes_37 N Q (f_X0_hunterGoes_134 N Q) n) (f_X0_hunterGoes_134 N Q) v1 v2 v3 v4 v5 v6 w = _
  unfold b_X0_hunterGoes_37
  split
  · rfl
  · by_cases q : v5 = 0
    · rw [if_pos q]
      have : w.1 29 8 ≠ 0 := by
        rcases h with h | h
        · exact absurd q h
        · exact h
      rw [if_neg this]
    · rw [if_neg q]
theorem x_hg37 {N F k sg dep : Nat} {K : Kd} {P : Ps} {Qf : Int32 → Int32 → Int32 → Wd → Option (Int32 × Wd)} (hQ : HX N K F k Qf) (hV : VP N K P) (hsg : 1 ≤ sg) (hsk : sg + 2 * (k + 1) ≤ 10) (hF : F ≤ 1000) :
    ∀ (D : List Nat) (j n at_ u : Nat) (w : Wd), (triL N K P).drop j = D → j + D.length = (triL N K P).length → D.length + 1 < n → XA N K P w → LIn (sg * (27 * (N * N))) ((triL N K P).map (tc P.1)) w → ChN F at_ u false w → at_ ≤ u → u ≤ F →
      ∃ w', l_X0_hunterGoes_37 N (f_X0_answersGo N Qf) (f_X0_hunterGoes_134 N (f_X0_answersGo N Qf)) n (nI (k + 1)) (pv at_) (nI sg) (nI (sg * (27 * (N * N)) + (triL N K P).length)) (0 : Int32) (nI (sg * (27 * (N * N)) + j)) w = some (b2i (decide ((hL F (aA N K F k dep) P dep (D.filter (fun c => gch N K P c && lawf N K P c)) at_ u).1 = 1)), w') ∧ ChX N sg at_ w w' ∧ XA N K P w' ∧ ChN F (if (hL F (aA N K F k dep) P dep (D.filter (fun c => gch N K P c && lawf N K P c)) at_ u).1 = 1 then at_ + (hL F (aA N K F k dep) P dep (D.filter (fun c => gch N K P c && lawf N K P c)) at_ u).2.2.length else at_) (hL F (aA N K F k dep) P dep (D.filter (fun c => gch N K P c && lawf N K P c)) at_ u).2.1 (decide ((hL F (aA N K F k dep) P dep (D.filter (fun c => gch N K P c && lawf N K P c)) at_ u).1 = 2)) w' ∧ ((hL F (aA N K F k dep) P dep (D.filter (fun c => gch N K P c && lawf N K P c)) at_ u).1 = 1 → NdX at_ (hL F (aA N K F k dep) P dep (D.filter (fun c => gch N K P c && lawf N K P c)) at_ u).2.2 w') := by
  intro D
  induction D with
  | nil =>
    intro j n at_ u w hD hj hn hA hL0 hC hau huF
    obtain ⟨n, rfl⟩ : ∃ q, n = q + 1 := ⟨n - 1, by omega⟩
    have hNN := NN_le hA.n7
    have hlen := tri_len (K := K) hA.n7 hA.n5 hV.mv
    have b2 : (sg + 1) * (27 * (N * N)) ≤ 10 * (27 * (N * N)) := Nat.mul_le_mul_right _ (by omega)
    have b3 : (sg + 1) * (27 * (N * N)) = sg * (27 * (N * N)) + 27 * (N * N) := Nat.succ_mul _ _
    rw [List.length_nil] at hj
    rw [List.filter_nil]
    unfold hL
    refine ⟨w, ?_, ChX.rf, hA, ?_, fun z => by cases z⟩
    · show b_X0_hunterGoes_37 N (f_X0_answersGo N Qf) (l_X0_hunterGoes_37 N (f_X0_answersGo N Qf) (f_X0_hunterGoes_134 N (f_X0_answersGo N Qf)) n) (f_X0_hunterGoes_134 N (f_X0_answersGo N Qf)) (nI (k + 1)) (pv at_) (nI sg) (nI (sg * (27 * (N * N)) + (triL N K P).length)) (0 : Int32) (nI (sg * (27 * (N * N)) + j)) w = _
      unfold b_X0_hunterGoes_37
      rw [if_pos (nI_le (by omega) (by omega))]
      rfl
    · rw [if_neg (by exact (by decide : ¬ (0 : Nat) = 1))]
      exact hC
  | cons c D ih =>
    intro j n at_ u w hD hj hn hA hL0 hC hau huF
    rw [List.length_cons] at hj hn
    obtain ⟨n, rfl⟩ : ∃ q, n = q + 1 := ⟨n - 1, by omega⟩
    have h7 := hA.n7
    have h5 := hA.n5
    have hNN := NN_le h7
    have hlen := tri_len (K := K) h7 h5 hV.mv
    have b1 : 27 * (N * N) ≤ sg * (27 * (N * N)) := Nat.le_mul_of_pos_left _ hsg
    have b2 : (sg + 1) * (27 * (N * N)) ≤ 10 * (27 * (N * N)) := Nat.mul_le_mul_right _ (by omega)
    have b3 : (sg + 1) * (27 * (N * N)) = sg * (27 * (N * N)) + 27 * (N * N) := Nat.succ_mul _ _
    obtain ⟨hg, hD2⟩ := drop_c hD
    have hcm : c ∈ triL N K P := List.mem_of_getElem? hg
    have hc6 := tri_code h7 hcm
    have hb := hV.le (ct c)
    have hcell : w.1 28 (sg * (27 * (N * N)) + j) = nI (tc P.1 c) := hL0 j (tc P.1 c) (by rw [List.getElem?_map, hg]; rfl)
    obtain ⟨w1, p1, p2, p3⟩ := x_app hA hV hcm
    have hVB1 := mk_VB h7 h5 hV hcm
    have hck : f_X6_inCheck N (w1.1 22 7) w1 = some (b2i (gch N K P c), w1) := by
      rw [p3.2.2.2.1.2.2.1]
      exact x_inCheck p3 hVB1 hVB1.mv
    have e1 : l_X0_hunterGoes_37 N (f_X0_answersGo N Qf) (f_X0_hunterGoes_134 N (f_X0_answersGo N Qf)) (n + 1) (nI (k + 1)) (pv at_) (nI sg) (nI (sg * (27 * (N * N)) + (triL N K P).length)) (0 : Int32) (nI (sg * (27 * (N * N)) + j)) w = b_X0_hunterGoes_37 N (f_X0_answersGo N Qf) (l_X0_hunterGoes_37 N (f_X0_answersGo N Qf) (f_X0_hunterGoes_134 N (f_X0_answersGo N Qf)) n) (f_X0_hunterGoes_134 N (f_X0_answersGo N Qf)) (nI (k + 1)) (pv at_) (nI sg) (nI (sg * (27 * (N * N)) + (triL N K P).length)) (0 : Int32) (nI (sg * (27 * (N * N)) + j)) w := rfl
    have lmono : ∀ (x : Wd), ChX N (sg + 1) 0 w x → LIn (sg * (27 * (N * N))) ((triL N K P).map (tc P.1)) x := fun x hx => hL0.ch (s2 := 0) hx b1 (by rw [List.length_map]; omega)
    rw [e1, List.filter_cons]
    unfold b_X0_hunterGoes_37
    rw [if_neg (nI_ge (by omega) (by omega)), if_pos rfl, hC.2.2.2, show b2i false = 0 from rfl, if_pos rfl, inb_nI (show sg * (27 * (N * N)) + j < 270 * (N * N) by omega) (by omega), if_pos rfl, lt_e, nI_clamp (by omega), hcell, p1, bd_s, hck, bd_s, b2_0]
    -- a move that is passed over
    have skip : ∀ (x : Wd), (∀ s t, ChX N s t w x) → XA N K (mkP P c) x → ChN F at_ u false x → ∃ w', f_X0_hunterGoes_119 N (f_X0_answersGo N Qf) (l_X0_hunterGoes_37 N (f_X0_answersGo N Qf) (f_X0_hunterGoes_134 N (f_X0_answersGo N Qf)) n) (f_X0_hunterGoes_134 N (f_X0_answersGo N Qf)) (nI (k + 1)) (pv at_) (nI sg) (nI (sg * (27 * (N * N)) + (triL N K P).length)) (0 : Int32) (nI (sg * (27 * (N * N)) + j)) (nI (tc P.1 c)) x = some (b2i (decide ((hL F (aA N K F k dep) P dep (D.filter (fun c => gch N K P c && lawf N K P c)) at_ u).1 = 1)), w') ∧ ChX N sg at_ w w' ∧ XA N K P w' ∧ ChN F (if (hL F (aA N K F k dep) P dep (D.filter (fun c => gch N K P c && lawf N K P c)) at_ u).1 = 1 then at_ + (hL F (aA N K F k dep) P dep (D.filter (fun c => gch N K P c && lawf N K P c)) at_ u).2.2.length else at_) (hL F (aA N K F k dep) P dep (D.filter (fun c => gch N K P c && lawf N K P c)) at_ u).2.1 (decide ((hL F (aA N K F k dep) P dep (D.filter (fun c => gch N K P c && lawf N K P c)) at_ u).1 = 2)) w' ∧ ((hL F (aA N K F k dep) P dep (D.filter (fun c => gch N K P c && lawf N K P c)) at_ u).1 = 1 → NdX at_ (hL F (aA N K F k dep) P dep (D.filter (fun c => gch N K P c && lawf N K P c)) at_ u).2.2 w') := by
      intro x hx hAx hCx
      obtain ⟨w3, r1, r2, r3⟩ := x_rev hAx hV hcm
      unfold f_X0_hunterGoes_119
      rw [r1, bd_s, nI_1, Nat.add_assoc]
      have c3 : ∀ s t, ChX N s t w w3 := fun s t => (hx s t).tr r2.ch
      obtain ⟨w', i1, i2, i3, i4, i5⟩ := ih (j + 1) n at_ u w3 hD2 (by omega) (by omega) r3 (lmono w3 (c3 _ _)) (hCx.of (by rw [r2.2.1 29 (by omega)])) hau huF
      exact ⟨w', i1, (c3 _ _).tr i2, i3, i4, i5⟩
    cases hgc : gch N K P c with
    | false =>
      rw [if_neg (by decide), Bool.false_and, if_neg (by decide)]
      exact skip w1 (fun s t => p2.ch) p3 (hC.of (by rw [p2.2.1 29 (by omega)]))
    | true =>
      obtain ⟨w2, q1, q2, q3⟩ := x_holds p3 hV hcm hb
      have q1' : f_X5_holds N (nI (tc P.1 c)) w1 = some (b2i (lawf N K P c), w2) := q1
      rw [if_pos rfl, q1', bd_s, b2_0, Bool.true_and]
      have c2 : ∀ s t, ChX N s t w w2 := fun s t => p2.ch.tr q2.ch0
      have hC2 : ChN F at_ u false w2 := hC.of (by rw [q2.2.1 29 (by omega), p2.2.1 29 (by omega)])
      cases hl : lawf N K P c with
      | false =>
        rw [if_neg (by decide), if_neg (by decide)]
        exact skip w2 c2 q3 hC2
      | true =>
        have hsafe : safe N K P c = true := by
          rw [lawf_e] at hl
          cases hs : safe N K P c with
          | true => rfl
          | false => rw [hs] at hl; cases hl
        obtain ⟨w3, y1, y2, y3, y4, y5⟩ := x_answersGo (sg := sg + 1) (at_ := at_) (u := u) (dep := dep) hQ q3 (mk_VP h7 h5 hV hcm hsafe) hc6 hb (by omega) (by omega) hC2 hau huF hF
        have hok := oneH_ok (N := N) (K := K) (k := k) (dep := dep) (P := P) (c := c) (at_ := at_) huF
        obtain ⟨w4, r1, r2, r3⟩ := x_rev y3 hV hcm
        unfold f_X0_hunterGoes_119
        rw [if_pos rfl, if_pos rfl, nI_1, y1, bd_s, r1, bd_s, nI_1, Nat.add_assoc, hL_one]
        generalize oneH N K F k dep P c at_ u = o at *
        obtain ⟨k1, k2, k3, k4⟩ := hok
        have c4 : ChX N sg at_ w w4 := ((c2 _ _).tr (y2.mono (by omega) (Nat.le_refl _))).tr r2.ch
        have c4' : ChX N (sg + 1) 0 w w4 := ((c2 _ _).tr (y2.mono (Nat.le_refl _) (Nat.zero_le _))).tr r2.ch
        have h29 : w4.1 29 = w3.1 29 := r2.2.1 29 (by omega)
        by_cases ho : o.1 = 0
        · rw [if_neg (by omega)] at y4
          rw [if_pos ho, show decide (o.1 = 1) = false from decide_eq_false (by omega)]
          have hC4 : ChN F at_ o.2.1 false w4 := by
            have := y4.of h29
            rw [show decide (o.1 = 2) = false from decide_eq_false (by omega)] at this
            exact this
          obtain ⟨w', i1, i2, i3, i4, i5⟩ := ih (j + 1) n at_ o.2.1 w4 hD2 (by omega) (by omega) r3 (lmono w4 c4') hC4 (by omega) k2
          exact ⟨w', i1, c4.tr i2, i3, i4, i5⟩
        · rw [if_neg ho]
          obtain ⟨n, rfl⟩ : ∃ q, n = q + 1 := ⟨n - 1, by omega⟩
          refine ⟨w4, ?_, c4, r3, y4.of h29, fun z => ?_⟩
          · rw [x_hg_stop]
            · unfold f_X0_hunterGoes_134
              rw [b2i_zb, if_pos rfl]
            · by_cases h1 : o.1 = 1
              · exact Or.inl (by rw [decide_eq_true h1]; decide)
              · refine Or.inr ?_
                rw [h29, y4.2.2.2, decide_eq_true (show o.1 = 2 by omega)]
                decide
          · have := y5 z
            intro i e hi
            rw [r2.2.1 30 (by omega), r2.2.1 31 (by omega), r2.2.1 32 (by omega)]
            exact this i e hi
theorem x_HX {N F : Nat} {K : Kd} : ∀ (k n : Nat), k < n → HX N K F k (g_X0_hunterGoes N n)
  | 0, n, hn => by
    intro P w sg at_ u dep hA hV hsg hsk hC hau huF hF
    obtain ⟨n, rfl⟩ : ∃ q, n = q + 1 := ⟨n - 1, by omega⟩
    unfold hH
    refine ⟨w, ?_, ChX.rf, hA, ?_, fun z => by cases z⟩
    · show f_X0_hunterGoes N (f_X0_answersGo N (g_X0_hunterGoes N n)) (nI 0) (pv at_) (nI sg) w = _
      unfold f_X0_hunterGoes f_X0_hunterGoes_12
      rw [if_pos (by decide), zb0, if_pos rfl]
      rfl
    · rw [if_neg (by exact (by decide : ¬ (0 : Nat) = 1))]
      exact hC
  | k + 1, n, hn => by
    intro P w sg at_ u dep hA hV hsg hsk hC hau huF hF
    obtain ⟨n, rfl⟩ : ∃ q, n = q + 1 := ⟨n - 1, by omega⟩
    have hQ := x_HX (N := N) (F := F) (K := K) k n (by omega)
    have h7 := hA.n7
    have h5 := hA.n5
    have hNN := NN_le h7
    have hlen := tri_len (K := K) h7 h5 hV.mv
    have b2 : (sg + 1) * (27 * (N * N)) ≤ 10 * (27 * (N * N)) := Nat.mul_le_mul_right _ (by omega)
    have b3 : (sg + 1) * (27 * (N * N)) = sg * (27 * (N * N)) + 27 * (N * N) := Nat.succ_mul _ _
    obtain ⟨w1, f1, f2, f3⟩ := x_fill (sg := sg) (hi := (sg + 1) * (27 * (N * N))) (by omega) hA.2.2.2.2.2 hA.1 hA.2.1 hA.2.2.1 hA.2.2.2.1 (by omega)
    have hA1 := hA.seg f2
    obtain ⟨w2, i1, i2, i3, i4, i5⟩ := x_hg37 (dep := dep) hQ hV (by omega) hsk hF (triL N K P) 0 FU at_ u w1 rfl (by omega) (FU_big (by omega)) hA1 f3 (hC.of (f2.2.1 29 (by decide) (by decide))) hau huF
    have ef : hL F (aA N K F k dep) P dep ((triL N K P).filter (fun c => gch N K P c && lawf N K P c)) at_ u = hH N K F (k + 1) dep P at_ u := by
      unfold hH movL
      rw [List.filter_filter]
      rfl
    rw [ef] at i1 i4 i5
    rw [show sg * (27 * (N * N)) + 0 = sg * (27 * (N * N)) from rfl] at i1
    refine ⟨w2, ?_, (f2.fr.ch).tr i2, i3, i4, i5⟩
    show f_X0_hunterGoes N (f_X0_answersGo N (g_X0_hunterGoes N n)) (nI (k + 1)) (pv at_) (nI sg) w = _
    unfold f_X0_hunterGoes f_X5_startOf
    rw [if_neg (nI_nle (by omega) (by omega)), nI_1, if_pos (show nI (sg + 1) < (10 : Int32) from nI_lt (b := 10) (by omega) (by omega)), f1, bd_s, hA1.2.2.2.2.2, pk_mul, bd_s]
    exact i1
/-- hunts for q, q + 1, .., m of them: how it goes, which, the cost, the nodes -/
def huR (N : Nat) (K : Kd) (F : Nat) (P : Ps) : Nat → Nat → Nat → Nat × Nat × Nat × List Nd
  | 0, q, u => (0, q, u, [])
  | m + 1, q, u =>
    if (hH N K F q 0 P 0 u).1 = 1 then (1, q, (hH N K F q 0 P 0 u).2.1, (hH N K F q 0 P 0 u).2.2)
    else if (hH N K F q 0 P 0 u).1 = 2 then (2, q, (hH N K F q 0 P 0 u).2.1, [])
    else huR N K F P m (q + 1) (hH N K F q 0 P 0 u).2.1
/-- what hunt() answers, and the tree that is there then -/
def huA (r : Nat × Nat × Nat × List Nd) : Int32 := if r.1 = 1 then (if r.2.2.2.length ≤ 500 then nI r.2.1 else -4) else if r.1 = 2 then -5 else 0
def huT (r : Nat × Nat × Nat × List Nd) : List Nd := if r.1 = 1 ∧ r.2.2.2.length ≤ 500 then r.2.2.2 else []
theorem x_hu32 {N F k : Nat} {K : Kd} {P : Ps} (hV : VP N K P) (hk : k ≤ 4) (hF : F ≤ 1000) :
    ∀ (m q n u : Nat) (w : Wd), q + m = k + 1 → 1 ≤ q → m < n → XA N K P w → ChN F 0 u false w → u ≤ F →
      ∃ w', l_X9_hunt_32 N (f_X9_hunt_60 N) (f_X9_hunt_83 N) n (nI k) (nI q) w = some (huA (huR N K F P m q u), w') ∧ ChX N 2 0 w w' ∧ XA N K P w' ∧ (w'.1 29 5 = nI (huT (huR N K F P m q u)).length ∧ w'.1 29 6 = nI F ∧ w'.1 29 7 = nI (huR N K F P m q u).2.2.1) ∧ NdX 0 (huT (huR N K F P m q u)) w' := by
  intro m
  induction m with
  | zero =>
    intro q n u w hq h1 hn hA hC huF
    obtain ⟨n, rfl⟩ : ∃ t, n = t + 1 := ⟨n - 1, by omega⟩
    refine ⟨w, ?_, ChX.rf, hA, ⟨hC.1, hC.2.1, hC.2.2.1⟩, NdX.nil⟩
    show b_X9_hunt_32 N (l_X9_hunt_32 N (f_X9_hunt_60 N) (f_X9_hunt_83 N) n) (f_X9_hunt_60 N) (f_X9_hunt_83 N) (nI k) (nI q) w = _
    unfold b_X9_hunt_32 f_X9_hunt_83 f_X9_hunt_99
    rw [if_pos (nI_lt (by omega) (by omega)), hC.2.2.2, if_pos (show b2i false = 0 from rfl)]
    rfl
  | succ m ih =>
    intro q n u w hq h1 hn hA hC huF
    obtain ⟨n, rfl⟩ : ∃ t, n = t + 1 := ⟨n - 1, by omega⟩
    obtain ⟨w1, y1, y2, y3, y4, y5⟩ := x_HX (N := N) (F := F) (K := K) q 6 (by omega) P w 2 0 u 0 hA hV (by omega) (by omega) hC (Nat.zero_le _) huF hF
    have y1' : f_X0_hunterGoesR N (nI q) (-1 : Int32) (2 : Int32) w = some (b2i (decide ((hH N K F q 0 P 0 u).1 = 1)), w1) := y1
    have hok := hH_ok (N := N) (K := K) q 0 P 0 u huF
    have e1 : l_X9_hunt_32 N (f_X9_hunt_60 N) (f_X9_hunt_83 N) (n + 1) (nI k) (nI q) w = b_X9_hunt_32 N (l_X9_hunt_32 N (f_X9_hunt_60 N) (f_X9_hunt_83 N) n) (f_X9_hunt_60 N) (f_X9_hunt_83 N) (nI k) (nI q) w := rfl
    rw [e1]
    unfold b_X9_hunt_32 huR
    rw [if_neg (nI_nlt (by omega) (by omega)), hC.2.2.2, if_pos (show b2i false = 0 from rfl), y1', bd_s, b2_0]
    generalize hH N K F q 0 P 0 u = r at *
    obtain ⟨k1, k2, k3, k4⟩ := hok
    by_cases h : r.1 = 1
    · rw [if_pos h] at y4
      have := k4 h
      have y5' := y5 h
      rw [Nat.zero_add] at y4
      rw [decide_eq_true h, if_pos rfl, if_pos h]
      unfold f_X9_hunt_60 f_X0_fits f_X9_hunt_76 huA huT
      rw [y4.1]
      by_cases h5 : r.2.2.length ≤ 500
      · rw [if_neg (show ¬ (500 : Int32) < nI r.2.2.length from nI_nlt (a := 500) h5 (by omega)), zb1, if_pos rfl, bd_s, if_neg (by decide)]
        refine ⟨w1, ?_, y2, y3, ⟨?_, y4.2.1, y4.2.2.1⟩, ?_⟩
        · simp [h5]
        · simp [h5]; exact y4.1
        · simpa [h5] using y5'
      · rw [if_pos (show (500 : Int32) < nI r.2.2.length from nI_lt (a := 500) (by omega) (by omega)), lw_e, zb0, if_pos rfl, bd_s, if_pos rfl]
        refine ⟨wdI w1 29 5 0, ?_, y2.tr (ChX.i29 (Or.inl rfl)), y3.oth (fun k hk => wI_c (by omega)), ⟨?_, ?_, ?_⟩, ?_⟩
        · simp [h5]
        · rw [wI_s]; simp [h5]; rfl
        · rw [wI_n (by decide)]; exact y4.2.1
        · rw [wI_n (by decide)]; exact y4.2.2.1
        · simp [h5]; exact NdX.nil
    · rw [if_neg h] at y4
      rw [decide_eq_false h, if_neg (by decide), if_neg h, nI_1]
      by_cases h2 : r.1 = 2
      · rw [if_pos h2]
        obtain ⟨n, rfl⟩ : ∃ t, n = t + 1 := ⟨n - 1, by omega⟩
        refine ⟨w1, ?_, y2, y3, ⟨y4.1, y4.2.1, y4.2.2.1⟩, NdX.nil⟩
        have hd : w1.1 29 8 = 1 := by rw [y4.2.2.2, decide_eq_true h2]; rfl
        show b_X9_hunt_32 N (l_X9_hunt_32 N (f_X9_hunt_60 N) (f_X9_hunt_83 N) n) (f_X9_hunt_60 N) (f_X9_hunt_83 N) (nI k) (nI (q + 1)) w1 = _
        unfold b_X9_hunt_32 f_X9_hunt_83 f_X9_hunt_99
        rw [hd]
        split
        · rfl
        · rfl
      · rw [if_neg h2]
        obtain ⟨w', i1, i2, i3, i4, i5⟩ := ih (q + 1) n r.2.1 w1 (by omega) (by omega) (by omega) y3 (by
          have := y4
          rw [decide_eq_false h2] at this
          exact this) k2
        exact ⟨w', i1, y2.tr i2, i3, i4, i5⟩
theorem x_hunt {N F k : Nat} {K : Kd} {P : Ps} {w : Wd} (hA : XA N K P w) (hV : VP N K P) (h1 : 1 ≤ k) (h4 : k ≤ 4) (hst : w.1 0 10 ≠ 0) (hf : w.1 29 6 = nI F) (hF : F ≤ 1000) :
    ∃ w', f_X9_hunt N (nI k) w = some (huA (huR N K F P k 1 0), w') ∧ ChX N 2 0 w w' ∧ XA N K P w' ∧ (w'.1 29 5 = nI (huT (huR N K F P k 1 0)).length ∧ w'.1 29 6 = nI F ∧ w'.1 29 7 = nI (huR N K F P k 1 0).2.2.1) ∧ NdX 0 (huT (huR N K F P k 1 0)) w' := by
  have hch : ChX N 2 0 w (wdI (wdI (wdI w 29 5 0) 29 7 0) 29 8 0) := ((ChX.i29 (Or.inl rfl)).tr (ChX.i29 (Or.inr (Or.inl rfl)))).tr (ChX.i29 (Or.inr (Or.inr rfl)))
  obtain ⟨w', i1, i2, i3, i4, i5⟩ := x_hu32 hV h4 hF k 1 FU 0 (wdI (wdI (wdI w 29 5 0) 29 7 0) 29 8 0) (by omega) (by omega) (FU_big (by omega)) (hA.oth (fun k hk => by rw [wI_c (by omega), wI_c (by omega), wI_c (by omega)])) (by
    unfold ChN
    rw [wI_n (by decide), wI_n (by decide), wI_s, wI_n (by decide), wI_n (by decide), wI_n (by decide), wI_n (by decide), wI_s, wI_s]
    exact ⟨rfl, hf, rfl, rfl⟩) (Nat.zero_le _)
  refine ⟨w', ?_, hch.tr i2, i3, i4, i5⟩
  unfold f_X9_hunt f_X0_begin
  rw [if_neg (show ¬ nI k < (1 : Int32) from nI_nlt (b := 1) h1 (by omega)), if_pos (show nI k ≤ (4 : Int32) from nI_le (b := 4) h4 (by omega)), if_neg hst, lw_e, lw_e, lw_e, bd_s]
  exact i1
