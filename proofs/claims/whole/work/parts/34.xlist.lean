/-! ===== the class: listLawful lists what the reference finds ===== -/
/-- one move tried slowly: applied, looked at, gone back over -/
theorem x_ll85 {R : Int32 → Int32 → Int32 → Int32 → Int32 → Wd → Option (Int32 × Wd)} {K168 : Int32 → Int32 → Wd → Option (Int32 × Wd)} {N c : Nat} {K : Kd} {P : Ps} {w : Wd} {v2 v3 v4 v5 v6 : Int32} (hA : XA N K P w) (hV : VP N K P) (hc : c ∈ triL N K P) :
    ∃ w', f_X5_listLawful_85 N R K168 v2 v3 v4 v5 v6 (nI (tc P.1 c)) (0 : Int32) w = f_X5_listLawful_145 N R K168 v2 v3 v4 v5 v6 (nI (tc P.1 c)) (b2i (lawf N K P c)) w' ∧ FrX N 0 0 w w' ∧ XA N K P w' := by
  have hm := hV.mv
  obtain ⟨w1, a1, a2, a3⟩ := x_app hA hV hc
  unfold f_X5_listLawful_85
  rw [if_pos rfl, a1, bd_s, a3.2.2.2.1.2.2.1, mvN, n1s (by omega), show 1 - (1 - P.2.2) = P.2.2 by omega, x_inCheck a3 (mk_VB hA.n7 hA.n5 hV hc) hm, bd_s, b2_0, lawf_e]
  have es : safe N K P c = !chk N K (mkP P c).1 P.2.2 := rfl
  unfold f_X5_listLawful_133 f_X5_listLawful_134
  cases hq : chk N K (mkP P c).1 P.2.2 with
  | true =>
    obtain ⟨w2, r1, r2, r3⟩ := x_rev a3 hV hc
    refine ⟨w2, ?_, (a2.tr r2).fr, r3⟩
    rw [if_pos rfl, r1, bd_s, es, hq]
    rfl
  | false =>
    obtain ⟨w2, b1, b2, b3⟩ := x_isForbiddenMate a3 (mk_VP hA.n7 hA.n5 hV hc (by rw [es, hq]; rfl)) (tri_code hA.n7 hc) (hV.le (ct c))
    obtain ⟨w3, r1, r2, r3⟩ := x_rev b3 hV hc
    have e0 : f_X5_isForbiddenMate N (nI (tc P.1 c)) w1 = some (b2i (forb N K c (mkP P c)), w2) := b1
    refine ⟨w3, ?_, (a2.fr.tr b2).tr r2.fr, r3⟩
    rw [if_neg (by decide), e0, bd_s, b2_0, es, hq, r1, bd_s, bd_s]
    cases forb N K c (mkP P c) <;> rfl
def LIj (P : Ps) (lo j : Nat) (T : List Nat) (w : Wd) : Prop := ∀ i c, j ≤ i → T[i]? = some c → w.1 28 (lo + i) = nI (tc P.1 c)
theorem x_ll43 {N lo hi : Nat} {K : Kd} {P : Ps} {w0 : Wd} (hV : VP N K P) (hlo : 27 * (N * N) ≤ lo) (hhi : hi ≤ 270 * (N * N)) (hlen : lo + (triL N K P).length ≤ hi) :
    ∀ (m j n : Nat) (M : List Nat) (u : Wd), j + m = (triL N K P).length → m < n → M.length ≤ j → FrX N lo hi w0 u → XA N K P u → LIj P lo j (triL N K P) u → LIn lo (M.map (tc P.1)) u →
      ∃ u', l_X5_listLawful_43 N (f_X5_listLawful_168 N) n (b2i (!chk N K P.1 P.2.2)) (nI lo) (nI (lo + (triL N K P).length)) (nI (lo + M.length)) (nI (lo + j)) u = some (nI (M ++ ((triL N K P).drop j).filter (lawf N K P)).length, u') ∧ FrX N lo hi w0 u' ∧ XA N K P u' ∧ LIn lo ((M ++ ((triL N K P).drop j).filter (lawf N K P)).map (tc P.1)) u' := by
  intro m
  induction m with
  | zero =>
    intro j n M u hj hn hMj hu hA hT hM
    obtain ⟨n, rfl⟩ : ∃ k, n = k + 1 := ⟨n - 1, by omega⟩
    have hNN := NN_le hA.n7
    have e : j = (triL N K P).length := by omega
    refine ⟨u, ?_, hu, hA, by rw [e, List.drop_length]; simpa using hM⟩
    show b_X5_listLawful_43 N (l_X5_listLawful_43 N (f_X5_listLawful_168 N) n) (f_X5_listLawful_168 N) (b2i (!chk N K P.1 P.2.2)) (nI lo) (nI (lo + (triL N K P).length)) (nI (lo + M.length)) (nI (lo + j)) u = _
    unfold b_X5_listLawful_43 f_X5_listLawful_168
    rw [if_pos (nI_le (by omega) (by omega)), e, List.drop_length, pk_sub (by omega)]
    simp
  | succ m ih =>
    intro j n M u hj hn hMj hu hA hT hM
    obtain ⟨n, rfl⟩ : ∃ k, n = k + 1 := ⟨n - 1, by omega⟩
    have hNN := NN_le hA.n7
    have hjl : j < (triL N K P).length := by omega
    have hg : (triL N K P)[j]? = some (triL N K P)[j] := List.getElem?_eq_getElem hjl
    have hd : (triL N K P).drop j = (triL N K P)[j] :: (triL N K P).drop (j + 1) := List.drop_eq_getElem_cons hjl
    rw [hd]
    generalize (triL N K P)[j] = c at hg
    have hcm : c ∈ triL N K P := List.mem_of_getElem? hg
    have hcell := hT j c (Nat.le_refl _) hg
    have hc6 := tri_code hA.n7 hcm
    have hb := hV.le (ct c)
    have keep : ∀ x : Wd, FrX N 0 0 u x → LIj P lo j (triL N K P) x ∧ LIn lo (M.map (tc P.1)) x := by
      intro x hx
      refine ⟨fun i d h1 h2 => ?_, fun i d h2 => ?_⟩
      · rw [hx.2.2.2 _ (by omega) (by omega)]; exact hT i d h1 h2
      · rw [hx.2.2.2 _ (by omega) (by omega)]; exact hM i d h2
    have fin : ∀ x : Wd, FrX N 0 0 u x → XA N K P x → ∃ u', f_X5_listLawful_145 N (l_X5_listLawful_43 N (f_X5_listLawful_168 N) n) (f_X5_listLawful_168 N) (b2i (!chk N K P.1 P.2.2)) (nI lo) (nI (lo + (triL N K P).length)) (nI (lo + M.length)) (nI (lo + j)) (nI (tc P.1 c)) (b2i (lawf N K P c)) x = some (nI (M ++ (c :: (triL N K P).drop (j + 1)).filter (lawf N K P)).length, u') ∧ FrX N lo hi w0 u' ∧ XA N K P u' ∧ LIn lo ((M ++ (c :: (triL N K P).drop (j + 1)).filter (lawf N K P)).map (tc P.1)) u' := by
      intro x hx hAx
      obtain ⟨k1, k2⟩ := keep x hx
      unfold f_X5_listLawful_145 f_X5_listLawful_162
      rw [b2_0, List.filter_cons]
      cases hq : lawf N K P c with
      | false =>
        rw [if_neg (by decide), if_neg (by decide), nI_1, Nat.add_assoc]
        exact ih (j + 1) n M x (by omega) (by omega) (by omega) (hu.tr hx.no) hAx (fun i d h1 h2 => k1 i d (by omega) h2) k2
      | true =>
        rw [if_pos rfl, if_pos rfl, inb_nI (show lo + M.length < 270 * (N * N) by omega) (by omega), if_pos rfl, lw_e, nI_clamp (by omega), nI_1, nI_1, Nat.add_assoc lo j 1]
        have hs : SegX lo hi x (wdI x 28 (lo + M.length) (nI (tc P.1 c))) := SegX.i (by omega) (by omega)
        obtain ⟨u', i1, i2, i3, i4⟩ := ih (j + 1) n (M ++ [c]) (wdI x 28 (lo + M.length) (nI (tc P.1 c))) (by omega) (by omega) (by rw [List.length_append, List.length_singleton]; omega) ((hu.tr hx.no).tr hs.fr) (hAx.seg hs) (fun i d h1 h2 => by rw [wI_n (by omega)]; exact k1 i d (by omega) h2) (by
          have := k2.push (c := tc P.1 c)
          rw [List.length_map] at this
          simpa using this)
        rw [List.length_append, List.length_singleton, ← Nat.add_assoc] at i1
        exact ⟨u', by simpa using i1, i2, i3, by simpa using i4⟩
    have slow : ∃ u', f_X5_listLawful_84 N (l_X5_listLawful_43 N (f_X5_listLawful_168 N) n) (f_X5_listLawful_168 N) (b2i (!chk N K P.1 P.2.2)) (nI lo) (nI (lo + (triL N K P).length)) (nI (lo + M.length)) (nI (lo + j)) (nI (tc P.1 c)) u = some (nI (M ++ (c :: (triL N K P).drop (j + 1)).filter (lawf N K P)).length, u') ∧ FrX N lo hi w0 u' ∧ XA N K P u' ∧ LIn lo ((M ++ (c :: (triL N K P).drop (j + 1)).filter (lawf N K P)).map (tc P.1)) u' := by
      unfold f_X5_listLawful_84
      obtain ⟨x, x1, x2, x3⟩ := x_ll85 (R := l_X5_listLawful_43 N (f_X5_listLawful_168 N) n) (K168 := f_X5_listLawful_168 N) (v2 := b2i (!chk N K P.1 P.2.2)) (v3 := nI lo) (v4 := nI (lo + (triL N K P).length)) (v5 := nI (lo + M.length)) (v6 := nI (lo + j)) hA hV hcm
      rw [x1]
      exact fin x x2 x3
    have e1 : l_X5_listLawful_43 N (f_X5_listLawful_168 N) (n + 1) (b2i (!chk N K P.1 P.2.2)) (nI lo) (nI (lo + (triL N K P).length)) (nI (lo + M.length)) (nI (lo + j)) u = b_X5_listLawful_43 N (l_X5_listLawful_43 N (f_X5_listLawful_168 N) n) (f_X5_listLawful_168 N) (b2i (!chk N K P.1 P.2.2)) (nI lo) (nI (lo + (triL N K P).length)) (nI (lo + M.length)) (nI (lo + j)) u := rfl
    rw [e1]
    unfold b_X5_listLawful_43
    rw [if_neg (nI_ge (by omega) (by omega)), inb_nI (show lo + j < 270 * (N * N) by omega) (by omega), if_pos rfl, lt_e, nI_clamp (by omega), hcell, b2_0]
    cases hq : chk N K P.1 P.2.2 with
    | true =>
      rw [hq] at slow
      rw [if_neg (by decide)]
      exact slow
    | false =>
      rw [hq] at slow fin
      rw [if_pos (show (!false) = true from rfl)]
      have s1 : f_X3_isSetting (nI (tc P.1 c)) u = some (b2i (decide (cf c = 63)), u) := x_isSetting hc6 hb u
      have s2 : f_X5_hasSecondMark N (nI (tc P.1 c)) u = some (b2i (mk2b K c), u) := x_hasSecondMark hA.2.2.1 hc6 hb
      rw [s1, bd_s, b2_0]
      by_cases hs : cf c = 63
      · rw [if_pos (by simp [hs]), s2, bd_s, b2_0]
        cases hm2 : mk2b K c with
        | true =>
          rw [if_pos rfl]
          exact slow
        | false =>
          have hl : lawf N K P c = true := by
            rw [lawf_e, set_safe hA.n7 hA.n5 hV hq hcm hs]
            unfold forb
            rw [hm2]
            simp
          have hf := fin u FrX.rf hA
          rw [hl] at hf
          rw [if_neg (by decide)]
          unfold f_X5_listLawful_85
          rw [if_neg (by decide)]
          exact hf
      · rw [if_neg (by simp [hs])]
        exact slow
theorem x_listLawful {N sg : Nat} {K : Kd} {P : Ps} {w : Wd} (hA : XA N K P w) (hV : VP N K P) (h1 : 1 ≤ sg) (h9 : sg ≤ 9) :
    ∃ w', f_X5_listLawful N (nI sg) w = some (nI (movL N K P).length, w') ∧ FrX N (sg * (27 * (N * N))) ((sg + 1) * (27 * (N * N))) w w' ∧ XA N K P w' ∧ LIn (sg * (27 * (N * N))) ((movL N K P).map (tc P.1)) w' := by
  have hNN := NN_le hA.n7
  have h5 := hA.n5
  have hlen := tri_len (K := K) hA.n7 hA.n5 hV.mv
  have b1 : 27 * (N * N) ≤ sg * (27 * (N * N)) := Nat.le_mul_of_pos_left _ h1
  have b2 : (sg + 1) * (27 * (N * N)) ≤ 10 * (27 * (N * N)) := Nat.mul_le_mul_right _ (by omega)
  have b3 : (sg + 1) * (27 * (N * N)) = sg * (27 * (N * N)) + 27 * (N * N) := Nat.succ_mul _ _
  obtain ⟨w1, a1, a2, a3⟩ := x_fill (sg := sg) (hi := (sg + 1) * (27 * (N * N))) (by omega) hA.2.2.2.2.2 hA.1 hA.2.1 hA.2.2.1 hA.2.2.2.1 (by omega)
  obtain ⟨w2, c1, c2, c3, c4⟩ := x_ll43 (w0 := w) (lo := sg * (27 * (N * N))) (hi := (sg + 1) * (27 * (N * N))) hV b1 (by omega) (by omega) _ 0 FU [] w1 (Nat.zero_add _) (FU_big (by omega)) (Nat.le_refl _) a2.fr (hA.seg a2) (fun i c _ hi => a3 i (tc P.1 c) (by rw [List.getElem?_map, hi]; rfl)) (fun i c h => by simp at h)
  refine ⟨w2, ?_, c2, c3, by simpa [movL] using c4⟩
  have hmov : (movL N K P).length = ([] ++ ((triL N K P).drop 0).filter (lawf N K P)).length := by simp [movL]
  rw [hmov]
  unfold f_X5_listLawful f_X5_listLawful_22
  rw [hA.2.2.2.1.2.2.1, x_inCheck hA hV.toVB hV.mv, bd_s, b2_0, lt_e, lt_e, hA.2.2.2.2.2, pk_mul, a1, bd_s, bd_s]
  rw [List.length_nil, Nat.add_zero] at c1
  cases hq : chk N K P.1 P.2.2 with
  | true =>
    rw [hq] at c1
    rw [if_pos rfl]
    exact c1
  | false =>
    rw [hq] at c1
    rw [if_neg (by decide)]
    exact c1
