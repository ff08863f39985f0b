/-! ===== the reference: findMoves, makeMove ===== -/
def MIn (lv : Nat) (M : List Nat) (w : Wd) : Prop := w.1 63 lv = nI M.length ∧ ∀ j c, M[j]? = some c → w.1 64 (2000 * lv + j) = mF c ∧ w.1 65 (2000 * lv + j) = mT c ∧ w.1 66 (2000 * lv + j) = mR c ∧ w.1 67 (2000 * lv + j) = mK c
theorem MIn.up {lv l1 l2 : Nat} {T : List Nat} {w w' : Wd} (h : MIn lv T w) (hl : lv < l2) (hT : T.length ≤ 2000) (u : UpM l1 l2 w w') : MIn lv T w' := by
  refine ⟨by rw [(u.2.2.2.2.2.2.1 lv hl).1]; exact h.1, fun j c hj => ?_⟩
  have hjl : j < T.length := (List.getElem?_eq_some_iff.mp hj).1
  have hb : 2000 * lv + j < 2000 * l2 := by omega
  rw [u.2.2.2.2.2.2.2 _ hb 64 (by omega), u.2.2.2.2.2.2.2 _ hb 65 (by omega), u.2.2.2.2.2.2.2 _ hb 66 (by omega), u.2.2.2.2.2.2.2 _ hb 67 (by omega)]
  exact h.2 j c hj
theorem TIn.c {lv k j : Nat} {T : List Nat} {w : Wd} {v : Int32} (h : TIn lv T w) (hk : k < 68 ∨ 72 < k) : TIn lv T (wdI w k j v) := by
  unfold TIn
  rw [wI_c (show 68 ≠ k by omega), wI_c (show 69 ≠ k by omega), wI_c (show 70 ≠ k by omega), wI_c (show 71 ≠ k by omega), wI_c (show 72 ≠ k by omega)]
  exact h
theorem m_push {R : Int32 → Int32 → Wd → Option (Unit × Wd)} {K216 : Wd → Option (Unit × Wd)} {lv j c : Nat} {T M : List Nat} {w : Wd} (hl : lv < 16) (hT : TIn lv T w) (hj : T[j]? = some c) (hTl : T.length ≤ 2000) (hM : MIn lv M w) (hMl : M.length < 2000) :
    ∃ w', f_X10_findMoves_129 R K216 (nI lv) (nI (2000 * lv + j)) (1 : Int32) w = f_X10_findMoves_210 R K216 (nI lv) (nI (2000 * lv + j)) w' ∧ (∀ l1, UpM l1 lv w w') ∧ TIn lv T w' ∧ MIn lv (M ++ [c]) w' := by
  have hjl : j < T.length := (List.getElem?_eq_some_iff.mp hj).1
  obtain ⟨t1, t2, t3, t4⟩ := hT.2 j c hj
  unfold f_X10_findMoves_129
  rw [if_neg (by decide), inb_nI hl (by decide), if_pos rfl, lt_e, nI_clamp (show lv < 2 ^ 31 by omega), hM.1, n2000, inb_nI (show 2000 * lv + j < 32000 by omega) (by decide), if_pos rfl, inb_nI (show 2000 * lv + M.length < 32000 by omega) (by decide), if_pos rfl, lw_e, nI_clamp (show 2000 * lv + j < 2 ^ 31 by omega), nI_clamp (show 2000 * lv + M.length < 2 ^ 31 by omega), t1]
  rw [if_pos rfl, if_pos rfl, lw_e, wI_c (by decide), t2, if_pos rfl, if_pos rfl, lw_e, wI_c (by decide), wI_c (by decide), t3, if_pos rfl, if_pos rfl, lw_e, wI_c (by decide), wI_c (by decide), wI_c (by decide), t4, if_pos rfl, if_pos rfl, lw_e, wI_c (by decide), wI_c (by decide), wI_c (by decide), wI_c (by decide), hM.1, nI_1]
  refine ⟨_, rfl, fun l1 => ((((UpM.iL (by decide) (by omega)).tr (UpM.iL (by decide) (by omega))).tr (UpM.iL (by decide) (by omega))).tr (UpM.iL (by decide) (by omega))).tr (UpM.iC (by decide) (by omega)), ((((hT.c (by decide)).c (by decide)).c (by decide)).c (by decide)).c (by decide), ?_, ?_⟩
  · rw [wI_s, List.length_append]
    rfl
  · intro i x hi
    by_cases e : i = M.length
    · subst e
      simp at hi
      subst hi
      refine ⟨?_, ?_, ?_, ?_⟩ <;> simp [wI_get]
    · have hi2 : i < M.length := by
        have := (List.getElem?_eq_some_iff.mp hi).1
        simp at this
        omega
      rw [List.getElem?_append_left hi2] at hi
      have h := hM.2 i x hi
      refine ⟨?_, ?_, ?_, ?_⟩ <;> simp [wI_get, e, h]
theorem mk2 : ∀ m, m < 4 → ((nI m &&& (2 : Int32)) = 0 ↔ m / 2 % 2 = 0) := by decide
theorem mkP_hand {P : Ps} {c j : Nat} : (mkP P c).2.1 j ≤ P.2.1 j + 1 := by
  unfold mkP
  split
  · show upN P.2.1 _ _ j ≤ _
    unfold upN
    split
    · rename_i e; rw [e]; omega
    · omega
  · show (if P.1 (ct c) = 0 then P.2.1 else _) j ≤ _
    split
    · omega
    · unfold upN
      split
      · rename_i e; rw [e]; omega
      · omega
theorem m_findMoves {N lv : Nat} {K : Kd} {P : Ps} {w : Wd} (hl : lv + 2 < 16) (hK : MK N K w) (hM : MM K w) (hP : MP N lv P w) (hH : ∀ j, j < 16 → P.2.1 j + 2 < 1000) (hTL : TL N K) :
    ∃ w', f_X10_findMoves (nI lv) w = some ((), w') ∧ UpM lv lv w w' ∧ MIn lv (movL N K P) w' := by
  have hlen := hTL P (fun q hq => (hP.2.1 q hq).2) hP.2.2.2.2
  obtain ⟨w1, a1, a2, a3⟩ := m_findTries hK hM hP hlen
  have hlv := hP.1
  have u0 : UpM lv lv w (wdI w1 63 lv 0) := (a2.lo (by omega) (Nat.le_refl _)).tr (UpM.iC (by decide) (by omega))
  have main : ∀ (m j n : Nat) (M : List Nat) (u : Wd), j + m = (triL N K P).length → m < n → UpM lv lv w u → TIn lv (triL N K P) u → MIn lv M u → M.length ≤ j → ∃ w', l_X10_findMoves_18 f_X10_findMoves_216 n (nI lv) (nI (2000 * lv + j)) u = some ((), w') ∧ UpM lv lv w w' ∧ MIn lv (M ++ ((triL N K P).drop j).filter (lawf N K P)) w' := by
    intro m
    induction m with
    | zero =>
      intro j n M u hj hn hu hT hMi hMl
      obtain ⟨n, rfl⟩ : ∃ k, n = k + 1 := ⟨n - 1, by omega⟩
      have e : j = (triL N K P).length := by omega
      refine ⟨u, ?_, hu, by rw [e, List.drop_length]; simpa using hMi⟩
      show b_X10_findMoves_18 (l_X10_findMoves_18 f_X10_findMoves_216 n) f_X10_findMoves_216 (nI lv) (nI (2000 * lv + j)) u = _
      unfold b_X10_findMoves_18
      rw [inb_nI hlv (by decide), if_pos rfl, nI_clamp (by omega), hT.1, n2000, e, if_pos (nI_le (Nat.le_refl _) (by omega))]
      rfl
    | succ m ih =>
      intro j n M u hj hn hu hT hMi hMl
      obtain ⟨n, rfl⟩ : ∃ k, n = k + 1 := ⟨n - 1, by omega⟩
      have hjl : j < (triL N K P).length := by omega
      have hg : (triL N K P)[j]? = some (triL N K P)[j] := List.getElem?_eq_getElem hjl
      have hd : (triL N K P).drop j = (triL N K P)[j] :: (triL N K P).drop (j + 1) := List.drop_eq_getElem_cons hjl
      rw [hd]
      generalize (triL N K P)[j] = c at hg
      have hKu := hK.up hu
      have hMu := hM.up hu
      have hPu := hP.up (Nat.le_refl _) hu
      have hok := (tri_ok hK.2.1 hK.2.2.1 (fun q hq => (hP.2.1 q hq).2) (fun i hi => by have := hH i hi; omega) hP.2.2.2.2 (List.mem_of_getElem? hg))
      obtain ⟨v, v1, v2, v3, v', v4, v5⟩ := m_try1 (by omega) hKu hPu hT hg hok.1
      have hv : UpM lv 16 u v' := v1.tr v4.up
      have hMvl : M.length ≤ 2000 := by omega
      have fin : ∀ (M' : List Nat) (x : Wd), UpM lv lv w x → TIn lv (triL N K P) x → MIn lv M' x → M'.length ≤ j + 1 → ∃ w', f_X10_findMoves_210 (l_X10_findMoves_18 f_X10_findMoves_216 n) f_X10_findMoves_216 (nI lv) (nI (2000 * lv + j)) x = some ((), w') ∧ UpM lv lv w w' ∧ MIn lv (M' ++ ((triL N K P).drop (j + 1)).filter (lawf N K P)) w' := by
        intro M' x x1 x2 x3 x4
        unfold f_X10_findMoves_210
        rw [nI_1]
        exact ih (j + 1) n M' x (by omega) (by omega) x1 x2 x3 x4
      have no : ∀ x : Wd, UpM lv (lv + 1) u x → lawf N K P c = false → ∃ w', f_X10_findMoves_128 (l_X10_findMoves_18 f_X10_findMoves_216 n) f_X10_findMoves_216 (nI lv) (nI (2000 * lv + j)) x = some ((), w') ∧ UpM lv lv w w' ∧ MIn lv (M ++ (c :: (triL N K P).drop (j + 1)).filter (lawf N K P)) w' := by
        intro x x1 x2
        unfold f_X10_findMoves_128 f_X10_findMoves_129
        rw [if_pos rfl, List.filter_cons, x2]
        simpa using fin M x (hu.tr (x1.lo (Nat.le_refl _) (by omega))) (hT.up (by omega) hlen x1) (hMi.up (by omega) hMvl x1) (by omega)
      have yes : ∀ x : Wd, UpM lv (lv + 1) u x → lawf N K P c = true → ∃ w', f_X10_findMoves_124 (l_X10_findMoves_18 f_X10_findMoves_216 n) f_X10_findMoves_216 (nI lv) (nI (2000 * lv + j)) x = some ((), w') ∧ UpM lv lv w w' ∧ MIn lv (M ++ (c :: (triL N K P).drop (j + 1)).filter (lawf N K P)) w' := by
        intro x x1 x2
        obtain ⟨x', y1, y2, y3, y4⟩ := m_push (R := l_X10_findMoves_18 f_X10_findMoves_216 n) (K216 := f_X10_findMoves_216) hlv (hT.up (by omega) hlen x1) hg hlen (hMi.up (by omega) hMvl x1) (by omega)
        unfold f_X10_findMoves_124
        rw [y1, List.filter_cons, x2, if_pos rfl]
        have := fin (M ++ [c]) x' ((hu.tr (x1.lo (Nat.le_refl _) (by omega))).tr (y2 lv)) y3 y4 (by rw [List.length_append, List.length_singleton]; omega)
        simpa using this
      have e1 : l_X10_findMoves_18 f_X10_findMoves_216 (n + 1) (nI lv) (nI (2000 * lv + j)) u = b_X10_findMoves_18 (l_X10_findMoves_18 f_X10_findMoves_216 n) f_X10_findMoves_216 (nI lv) (nI (2000 * lv + j)) u := rfl
      rw [e1]
      unfold b_X10_findMoves_18
      rw [inb_nI hlv (by decide), if_pos rfl, nI_clamp (show lv < 2 ^ 31 by omega), hT.1, n2000, if_neg (nI_ge (by omega) (by omega)), inb_nI (show 2000 * lv + j < 32000 by omega) (by decide), if_pos rfl, if_pos rfl, if_pos rfl, if_pos rfl, nI_clamp (show 2000 * lv + j < 2 ^ 31 by omega), v3, bd_s, nI_1, if_pos rfl, v5, bd_s]
      have hv1 : UpM lv (lv + 1) u v' := hv.lo (Nat.le_refl _) (by omega)
      have hT' := hT.up (show lv < 16 by omega) hlen hv
      obtain ⟨t1, t2, t3, t4⟩ := hT'.2 j c hg
      unfold f_X10_findMoves_84
      cases hq : chk N K (mkP P c).1 P.2.2 with
      | true =>
        rw [if_neg (by decide), if_pos rfl]
        exact no v' hv1 (by unfold lawf safe; rw [hq]; rfl)
      | false =>
        rw [if_pos (by decide), if_neg (by decide), inb_nI (show 2000 * lv + j < 32000 by omega) (by decide), if_pos rfl, nI_clamp (show 2000 * lv + j < 2 ^ 31 by omega), t1]
        by_cases hset : cf c = 63
        · have hck := (hok.2.1 hset).2
          have eF : mF c = -1 := if_pos hset
          have eK : mK c = nI (ck c) := if_pos hset
          have hm := (hM.up (hu.tr (hv.lo (Nat.le_refl _) (by omega)))) (ck c) hck
          rw [eF, if_neg (by decide), if_pos rfl, t4, eK, inb_nI hck (by decide), if_pos rfl, nI_clamp (by omega), hm.1]
          by_cases h2 : K.2.2 (ck c) / 2 % 2 = 0
          · rw [if_pos ((mk2 _ hm.2).mpr h2)]
            exact yes v' hv1 (by unfold lawf safe; rw [hq]; simp [h2])
          · rw [if_neg (fun z => h2 ((mk2 _ hm.2).mp z)), nI_1]
            have v2' := v2.up (Nat.le_refl _) (v4.up (lv := lv + 1) (l2 := 16))
            obtain ⟨x, z1, z2⟩ := m_isMate (lv := lv + 1) (by omega) (hKu.up hv) (hMu.up hv) v2' (fun i hi => by have := hH i hi; have := mkP_hand (P := P) (c := c) (j := i); omega) hTL
            have hx : UpM lv (lv + 1) u x := hv1.tr (z2.lo (by omega) (Nat.le_refl _))
            rw [z1, bd_s]
            cases hr : mate N K (mkP P c) with
            | false =>
              rw [if_pos (by decide)]
              exact yes x hx (by unfold lawf safe; rw [hq, hr]; simp)
            | true =>
              rw [if_neg (by decide)]
              exact no x hx (by unfold lawf safe; rw [hq, hr]; simp [hset, h2])
        · have eF : mF c = nI (cf c) := if_neg hset
          rw [eF, if_pos (show (0 : Int32) ≤ nI (cf c) from nI_pos' (by have := hok.1.2.2 hset; have := NN_le hK.2.1; omega))]
          exact yes v' hv1 (by unfold lawf safe; rw [hq]; simp [hset])
  have hM0 : MIn lv [] (wdI w1 63 lv 0) := ⟨by rw [wI_s]; rfl, fun j c h => by simp at h⟩
  obtain ⟨w', r1, r2, r3⟩ := main _ 0 FU [] _ (Nat.zero_add _) (FU_big (by omega)) u0 (a3.c (by decide)) hM0 (Nat.le_refl 0)
  refine ⟨w', ?_, r2, by simpa [movL] using r3⟩
  unfold f_X10_findMoves
  rw [a1, bd_s, inb_nI hlv (by decide), if_pos rfl, lw_e, lt_e, n2000z, nI_clamp (by omega)]
  exact r1
theorem mov_tri {N c : Nat} {K : Kd} {P : Ps} (h : c ∈ movL N K P) : c ∈ triL N K P := (List.mem_filter.mp h).1
theorem m_makeMove {N lv j c : Nat} {K : Kd} {P : Ps} {w : Wd} (hl : lv + 1 < 16) (hK : MK N K w) (hP : MP N lv P w) (hH : ∀ j, j < 16 → P.2.1 j + 1 < 1000) (hTL : TL N K) (hM : MIn lv (movL N K P) w) (hj : (movL N K P)[j]? = some c) :
    ∃ w', f_X10_makeMove (nI lv) (nI j) w = some ((), w') ∧ UpM lv 16 w w' ∧ MP N (lv + 1) (mkP P c) w' := by
  have hlen := hTL P (fun q hq => (hP.2.1 q hq).2) hP.2.2.2.2
  have hml : (movL N K P).length ≤ (triL N K P).length := List.length_filter_le _ _
  have hjl : j < (movL N K P).length := (List.getElem?_eq_some_iff.mp hj).1
  have hok := (tri_ok hK.2.1 hK.2.2.1 (fun q hq => (hP.2.1 q hq).2) hH hP.2.2.2.2 (mov_tri (List.mem_of_getElem? hj))).1
  obtain ⟨t1, t2, t3, t4⟩ := hM.2 j c hj
  obtain ⟨u, a1, a2, a3⟩ := m_make hl hK.2.1 hP hok
  unfold f_X10_makeMove
  rw [lt_e, n2000, inb_nI (show 2000 * lv + j < 32000 by omega) (by decide), if_pos rfl, if_pos rfl, if_pos rfl, if_pos rfl, nI_clamp (show 2000 * lv + j < 2 ^ 31 by omega), t1, t2, t3, t4, a1, bd_s]
  exact ⟨u, rfl, a2, a3⟩
