/-! ===== the class: revert ===== -/
theorem x_revert {N c : Nat} {P : Ps} {kf : Nat → Nat} {w : Wd} (h7 : N ≤ 7) (hc6 : c < 65536) (hb32 : ∀ q, q < N * N → P.1 q ≤ 32) (hh : ∀ j, j < 16 → P.2.1 j < 1000) (hm2 : P.2.2 < 2) (hP : XP N (mkP P c) w) (hG : KG (kfN kf P c) w) (hok : okC N P c) (hne : cf c ≠ 63 → P.1 (cf c) ≠ 0) (hempty : cf c = 63 → P.1 (ct c) = 0) (hkf : cf c ≠ 63 → kn (P.1 (cf c)) = 0 → kf P.2.2 = cf c) :
    ∃ w', f_X6_revert N (nI (tc P.1 c)) w = some ((), w') ∧ AppX w w' ∧ XP N P w' ∧ KG kf w' := by
  have hNN := NN_le h7
  obtain ⟨hB, hH, hmv, hmm⟩ := hP
  have hct := hok.1
  have hbt := hb32 (ct c) hct
  have mvN : (mkP P c).2.2 = 1 - P.2.2 := by unfold mkP; split <;> rfl
  have e11 : 1 - (1 - P.2.2) = P.2.2 := by omega
  rw [mvN] at hmv hmm
  have h1m : (1 : Int32) - nI (1 - P.2.2) = nI P.2.2 := by rw [n1s (by omega), e11]
  unfold f_X6_revert tc
  rw [lt_e, lt_e, cd_to hc6 hbt, cd_from hc6 hbt, lw_e, hmv, h1m]
  have w3m : (wdI w 22 7 (nI P.2.2)).1 22 7 = nI P.2.2 := wI_s
  by_cases hset : cf c = 63
  · obtain ⟨k1, k2⟩ := hok.2.1 hset
    have hk := ck_lt c
    have hj : 8 * P.2.2 + ck c < 16 := by omega
    have eP : mkP P c = (upN P.1 (ct c) (1 + ck c + 16 * P.2.2), upN P.2.1 (8 * P.2.2 + ck c) (P.2.1 (8 * P.2.2 + ck c) - 1), 1 - P.2.2) := if_pos hset
    have eK : kfN kf P c = kf := if_neg (fun z => z.1 hset)
    rw [eP] at hB hH
    rw [eK] at hG
    have hHj : w.1 24 (8 * P.2.2 + ck c) = nI (P.2.1 (8 * P.2.2 + ck c) - 1) := by
      have := (hH _ hj).1
      rw [this]
      show nI (upN _ _ _ _) = _
      unfold upN
      rw [if_pos rfl]
    rw [hset, if_pos (show nI 63 = (63 : Int32) from rfl), inb_nI hct (by omega), if_pos rfl, lw_e, nI_clamp (by omega), cd_kind hc6 hbt, wI_c (by decide), w3m, n8s, inb_nI hj (by decide), if_pos rfl, if_pos rfl, lw_e, nI_clamp (by omega), wI_c (by decide), wI_c (by decide), hHj, nI_1]
    unfold f_X6_revert_158
    refine ⟨_, rfl, (AppX.m.tr (AppX.i (by decide))).tr (AppX.i (by decide)), ⟨fun q hq => ?_, fun j hj2 => ?_, ?_, hm2⟩, fun s hs => ?_⟩
    · rw [wI_c (by decide)]
      by_cases e : q = ct c
      · subst e
        rw [wI_s, hempty hset]
        exact ⟨rfl, by omega⟩
      · rw [wI_n e, wI_c (by decide)]
        have := (hB q hq).1
        rw [this]
        refine ⟨?_, hb32 q hq⟩
        show nI (upN _ _ _ _) = _
        unfold upN
        rw [if_neg e]
    · by_cases e : j = 8 * P.2.2 + ck c
      · subst e
        rw [wI_s, Nat.sub_add_cancel k2]
        exact ⟨rfl, hh _ hj⟩
      · rw [wI_n e, wI_c (by decide), wI_c (by decide)]
        have := (hH j hj2).1
        rw [this]
        refine ⟨?_, hh j hj2⟩
        show nI (upN _ _ _ _) = _
        unfold upN
        rw [if_neg e]
    · rw [wI_c (by decide), wI_c (by decide), wI_s]
    · rw [wI_c (by decide), wI_c (by decide), wI_c (by decide)]
      exact hG s hs
  · obtain ⟨k1, k2, k3, k4⟩ := hok.2.2 hset
    have hbf := hb32 (cf c) k1
    have hpos : 0 < P.1 (cf c) := by have := hne hset; omega
    have hkn := kn_lt (P.1 (cf c))
    have hcr := cr_lt c
    have eP : mkP P c = (upN (upN P.1 (ct c) (P.1 (cf c) + 8 * cr c)) (cf c) 0, if P.1 (ct c) = 0 then P.2.1 else upN P.2.1 (8 * P.2.2 + kn (P.1 (ct c))) (P.2.1 (8 * P.2.2 + kn (P.1 (ct c))) + 1), 1 - P.2.2) := if_neg hset
    rw [eP] at hB hH
    have hBt : w.1 23 (ct c) = nI (P.1 (cf c) + 8 * cr c) := by
      rw [(hB _ hct).1]
      show nI (upN _ _ _ _) = _
      unfold upN
      rw [if_neg (fun e => k3 e.symm), if_pos rfl]
    rw [if_neg (show ¬ nI (cf c) = (63 : Int32) from fun z => hset ((nI_inj (b := 63) (by omega) (by omega)).mp z))]
    have e89 : (if nI (c + 65536 * P.1 (ct c)) &&& (4096 : Int32) = 0 then (if inb (nI (ct c)) (N * N) = true then f_X6_revert_89 N (nI (c + 65536 * P.1 (ct c))) (nI (ct c)) (nI (cf c)) ((wdI w 22 7 (nI P.2.2)).1 23 (Int32.toNatClampNeg (nI (ct c)))) (wdI w 22 7 (nI P.2.2)) else none) else (if inb (nI (ct c)) (N * N) = true then f_X6_revert_89 N (nI (c + 65536 * P.1 (ct c))) (nI (ct c)) (nI (cf c)) (((wdI w 22 7 (nI P.2.2)).1 23 (Int32.toNatClampNeg (nI (ct c)))) - (8 : Int32)) (wdI w 22 7 (nI P.2.2)) else none)) = f_X6_revert_89 N (nI (c + 65536 * P.1 (ct c))) (nI (ct c)) (nI (cf c)) (nI (P.1 (cf c))) (wdI w 22 7 (nI P.2.2)) := by
      rw [inb_nI hct (by omega), if_pos rfl, if_pos rfl, nI_clamp (by omega), wI_c (by decide), hBt]
      rcases (show cr c = 0 ∨ cr c = 1 by omega) with h | h
      · rw [if_pos ((cd_raise hc6 hbt).mpr h), h]; rfl
      · rw [if_neg (fun z => by rw [cd_raise hc6 hbt, h] at z; cases z), h, show (8 : Int32) = nI 8 from rfl, pk_sub (by omega)]
        congr 2
    rw [e89]
    unfold f_X6_revert_89
    rw [lt_e, cd_taken hc6 hbt, inb_nI k1 (by omega), if_pos rfl, lw_e, inb_nI hct (by omega), if_pos rfl, lw_e, nI_clamp (show cf c < 2 ^ 31 by omega), nI_clamp (show ct c < 2 ^ 31 by omega)]
    have fin : ∀ u : Wd, u.1 22 7 = nI P.2.2 → (∀ s, s < 2 → u.1 25 s = nI (kfN kf P c s)) → ∃ u', f_X6_revert_140 N (nI (cf c)) (nI (P.1 (cf c))) u = some ((), u') ∧ AppX u u' ∧ u'.1 23 = u.1 23 ∧ u'.1 24 = u.1 24 ∧ u'.1 22 7 = nI P.2.2 ∧ KG kf u' := by
      intro u u1 u2
      unfold f_X6_revert_140 f_X6_revert_158
      rw [x_kindOf hpos hbf, bd_s]
      by_cases hk0 : kn (P.1 (cf c)) = 0
      · have eK : kfN kf P c = upN kf P.2.2 (ct c) := if_pos ⟨hset, hk0⟩
        rw [hk0, if_pos z0, u1, inb_nI hm2 (by decide), if_pos rfl, lw_e, nI_clamp (by omega)]
        refine ⟨_, rfl, AppX.i (by decide), by rw [wI_c (by decide)], by rw [wI_c (by decide)], by rw [wI_c (by decide)]; exact u1, fun s hs => ?_⟩
        by_cases e : s = P.2.2
        · rw [e, wI_s, hkf hset hk0]
        · rw [wI_n e, u2 s hs, eK]
          unfold upN
          rw [if_neg e]
      · have eK : kfN kf P c = kf := if_neg (fun z => hk0 z.2)
        rw [if_neg (nI_ne0 (by omega) (by omega))]
        exact ⟨u, rfl, AppX.rf, rfl, rfl, u1, fun s hs => by rw [u2 s hs, eK]⟩
    have cells : ∀ q, q < N * N → (wdI (wdI (wdI w 22 7 (nI P.2.2)) 23 (cf c) (nI (P.1 (cf c)))) 23 (ct c) (nI (P.1 (ct c)))).1 23 q = nI (P.1 q) ∧ P.1 q ≤ 32 := by
      intro q hq
      refine ⟨?_, hb32 q hq⟩
      by_cases e2 : q = ct c
      · subst e2; rw [wI_s]
      · rw [wI_n e2]
        by_cases e1 : q = cf c
        · subst e1; rw [wI_s]
        · rw [wI_n e1, wI_c (by decide), (hB q hq).1]
          show nI (upN _ _ _ _) = _
          unfold upN
          rw [if_neg e1, if_neg e2]
    by_cases h0 : P.1 (ct c) = 0
    · rw [if_pos (show nI (P.1 (ct c)) = (0 : Int32) by rw [h0]; rfl)]
      obtain ⟨u', a1, a2, a3, a4, a5, a6⟩ := fin (wdI (wdI (wdI w 22 7 (nI P.2.2)) 23 (cf c) (nI (P.1 (cf c)))) 23 (ct c) (nI (P.1 (ct c)))) (by rw [wI_c (by decide), wI_c (by decide), wI_s]) (fun s hs => by rw [wI_c (by decide), wI_c (by decide), wI_c (by decide)]; exact hG s hs)
      refine ⟨u', a1, ((AppX.m.tr (AppX.i (by decide))).tr (AppX.i (by decide))).tr a2, ⟨fun q hq => by rw [a3]; exact cells q hq, fun j hj => ?_, a5, hm2⟩, a6⟩
      rw [a4, wI_c (by decide), wI_c (by decide), wI_c (by decide), (hH j hj).1]
      refine ⟨?_, hh j hj⟩
      show nI ((if P.1 (ct c) = 0 then P.2.1 else _) j) = _
      rw [if_pos h0]
    · have hp2 : 0 < P.1 (ct c) := by omega
      have hk2 := kn_lt (P.1 (ct c))
      have hj : 8 * P.2.2 + kn (P.1 (ct c)) < 16 := by omega
      have hHj : ∀ j, j < 16 → w.1 24 j = nI (upN P.2.1 (8 * P.2.2 + kn (P.1 (ct c))) (P.2.1 (8 * P.2.2 + kn (P.1 (ct c))) + 1) j) := by
        intro j hj2
        rw [(hH j hj2).1]
        show nI ((if P.1 (ct c) = 0 then P.2.1 else _) j) = _
        rw [if_neg h0]
      rw [if_neg (nI_ne0 hp2 (by omega)), x_kindOf hp2 hbt, bd_s, wI_c (by decide), wI_c (by decide), wI_s, n8s, inb_nI hj (by decide), if_pos rfl, if_pos rfl, lw_e, nI_clamp (by omega), wI_c (show (24 : Nat) ≠ 23 by decide), wI_c (show (24 : Nat) ≠ 23 by decide), wI_c (show (24 : Nat) ≠ 22 by decide), hHj _ hj]
      have ev : upN P.2.1 (8 * P.2.2 + kn (P.1 (ct c))) (P.2.1 (8 * P.2.2 + kn (P.1 (ct c))) + 1) (8 * P.2.2 + kn (P.1 (ct c))) = P.2.1 (8 * P.2.2 + kn (P.1 (ct c))) + 1 := if_pos rfl
      rw [ev, nI_pred]
      obtain ⟨u', a1, a2, a3, a4, a5, a6⟩ := fin (wdI (wdI (wdI (wdI w 22 7 (nI P.2.2)) 23 (cf c) (nI (P.1 (cf c)))) 23 (ct c) (nI (P.1 (ct c)))) 24 (8 * P.2.2 + kn (P.1 (ct c))) (nI (P.2.1 (8 * P.2.2 + kn (P.1 (ct c)))))) (by rw [wI_c (by decide), wI_c (by decide), wI_c (by decide), wI_s]) (fun s hs => by rw [wI_c (by decide), wI_c (by decide), wI_c (by decide), wI_c (by decide)]; exact hG s hs)
      refine ⟨u', a1, (((AppX.m.tr (AppX.i (by decide))).tr (AppX.i (by decide))).tr (AppX.i (by decide))).tr a2, ⟨fun q hq => by rw [a3, wI_c (by decide)]; exact cells q hq, fun j hj2 => ?_, a5, hm2⟩, a6⟩
      rw [a4]
      by_cases e : j = 8 * P.2.2 + kn (P.1 (ct c))
      · subst e
        rw [wI_s]
        exact ⟨rfl, hh _ hj⟩
      · rw [wI_n e, wI_c (by decide), wI_c (by decide), wI_c (by decide), hHj j hj2]
        unfold upN
        rw [if_neg e]
        exact ⟨rfl, hh j hj2⟩
