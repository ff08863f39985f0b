/-! ===== the class: apply ===== -/
/-- only the table: cells, hands, kings, mover -/
def AppX (w w' : Wd) : Prop := w'.2 = w.2 ∧ (∀ k, k < 22 ∨ 25 < k → w'.1 k = w.1 k) ∧ ∀ j, j ≠ 7 → w'.1 22 j = w.1 22 j
theorem AppX.rf {w : Wd} : AppX w w := ⟨rfl, fun _ _ => rfl, fun _ _ => rfl⟩
theorem AppX.tr {a b c : Wd} (x : AppX a b) (y : AppX b c) : AppX a c := ⟨y.1.trans x.1, fun k h => (y.2.1 k h).trans (x.2.1 k h), fun j h => (y.2.2 j h).trans (x.2.2 j h)⟩
theorem AppX.i {w : Wd} {k j : Nat} {v : Int32} (h : 23 ≤ k ∧ k ≤ 25) : AppX w (wdI w k j v) := ⟨rfl, fun q hq => wI_c (by omega), fun _ _ => by rw [wI_c (by omega)]⟩
theorem AppX.m {w : Wd} {v : Int32} : AppX w (wdI w 22 7 v) := ⟨rfl, fun q hq => wI_c (by omega), fun j hj => wI_n hj⟩
theorem XK.app {N : Nat} {K : Kd} {w w' : Wd} (h : XK N K w) (s : AppX w w') : XK N K w' := by
  unfold XK
  rw [s.2.2 1 (by decide), s.2.2 2 (by decide), s.2.1 3 (by omega), s.2.1 6 (by omega), s.2.1 7 (by omega)]
  exact h
theorem XD.app {K : Kd} {w w' : Wd} (h : XD K w) (s : AppX w w') : XD K w' := by
  unfold XD
  rw [s.2.1 8 (by omega), s.2.1 9 (by omega)]
  exact h
theorem XW.app {N : Nat} {K : Kd} {w w' : Wd} (h : XW N K w) (s : AppX w w') : XW N K w' := by
  unfold XW
  rw [s.2.1 2 (by omega), s.2.1 4 (by omega), s.2.1 5 (by omega), s.2.1 10 (by omega)]
  exact h
/-- the kings' fields, as the class keeps them -/
def KG (kf : Nat → Nat) (w : Wd) : Prop := ∀ s, s < 2 → w.1 25 s = nI (kf s)
theorem x_kindOf {i : Nat} (h0 : 0 < i) (h : i ≤ 32) (w : Wd) : f_X2_kindOf (nI i) w = some (nI (kn i), w) := by
  unfold f_X2_kindOf
  rw [(man_chk i (by omega) h0).2.1]
theorem n8s (s g : Nat) : (8 : Int32) * nI s + nI g = nI (8 * s + g) := by
  rw [show (8 : Int32) = nI 8 from rfl, pk_mul, nI_add]
/-- which field a side's king is on behind a move -/
def kfN (kf : Nat → Nat) (P : Ps) (c : Nat) : Nat → Nat := if cf c ≠ 63 ∧ kn (P.1 (cf c)) = 0 then upN kf P.2.2 (ct c) else kf
theorem x_apply {N c : Nat} {P : Ps} {kf : Nat → Nat} {w : Wd} (h7 : N ≤ 7) (hc6 : c < 65536) (hP : XP N P w) (hG : KG kf w) (hok : okC N P c) (hne : cf c ≠ 63 → P.1 (cf c) ≠ 0) (hempty : cf c = 63 → P.1 (ct c) = 0) :
    ∃ w', f_X6_apply N (nI (tc P.1 c)) w = some ((), w') ∧ AppX w w' ∧ XP N (mkP P c) w' ∧ KG (kfN kf P c) w' := by
  have hNN := NN_le h7
  obtain ⟨hB, hH, hmv, hm2⟩ := hP
  have hct := hok.1
  have hbt := hB (ct c) hct
  have h1m := n1s hm2
  unfold f_X6_apply tc
  rw [lt_e, lt_e, cd_to hc6 hbt.2, cd_from hc6 hbt.2]
  by_cases hset : cf c = 63
  · obtain ⟨k1, k2⟩ := hok.2.1 hset
    have hk := ck_lt c
    have hj : 8 * P.2.2 + ck c < 16 := by omega
    have eP : mkP P c = (upN P.1 (ct c) (1 + ck c + 16 * P.2.2), upN P.2.1 (8 * P.2.2 + ck c) (P.2.1 (8 * P.2.2 + ck c) - 1), 1 - P.2.2) := if_pos hset
    have eK : kfN kf P c = kf := if_neg (fun z => z.1 hset)
    rw [hset, if_pos (show nI 63 = (63 : Int32) from rfl), lt_e, cd_kind hc6 hbt.2]
    unfold f_X2_itemOf
    rw [bd_s, hmv, n1k16, inb_nI hct (by omega), if_pos rfl, lw_e, nI_clamp (by omega), wI_c (by decide), hmv, n8s, inb_nI hj (by decide), if_pos rfl, if_pos rfl, lw_e, nI_clamp (by omega), wI_c (by decide), (hH _ hj).1]
    unfold f_X6_apply_155
    rw [lw_e, wI_c (by decide), wI_c (by decide), hmv, h1m]
    refine ⟨_, rfl, ((AppX.i (by decide)).tr (AppX.i (by decide))).tr AppX.m, ?_, ?_⟩
    · rw [eP]
      refine ⟨fun q hq => ?_, fun j hj2 => ?_, ?_, show 1 - P.2.2 < 2 by omega⟩
      · rw [wI_c (by decide), wI_c (by decide)]
        show _ = nI (upN P.1 (ct c) (1 + ck c + 16 * P.2.2) q) ∧ upN P.1 (ct c) (1 + ck c + 16 * P.2.2) q ≤ 32
        unfold upN
        by_cases e : q = ct c
        · subst e; rw [wI_s, if_pos rfl]; exact ⟨rfl, by omega⟩
        · rw [wI_n e, if_neg e]; exact hB q hq
      · rw [wI_c (by decide)]
        have hb := (hH _ hj).2
        show _ = nI (upN P.2.1 (8 * P.2.2 + ck c) (P.2.1 (8 * P.2.2 + ck c) - 1) j) ∧ upN P.2.1 (8 * P.2.2 + ck c) (P.2.1 (8 * P.2.2 + ck c) - 1) j < 1000
        unfold upN
        by_cases e : j = 8 * P.2.2 + ck c
        · subst e
          rw [wI_s, if_pos rfl]
          exact ⟨by rw [show (1 : Int32) = nI 1 from rfl, pk_sub k2], by omega⟩
        · rw [wI_n e, wI_c (by decide), if_neg e]; exact hH j hj2
      · rw [wI_s]
    · rw [eK]
      intro s hs
      rw [wI_c (by decide), wI_c (by decide), wI_c (by decide)]
      exact hG s hs
  · obtain ⟨k1, k2, k3, k4⟩ := hok.2.2 hset
    have hbf := hB (cf c) k1
    have hpos : 0 < P.1 (cf c) := by have := hne hset; omega
    have hkn := kn_lt (P.1 (cf c))
    have hcr := cr_lt c
    have eP : mkP P c = (upN (upN P.1 (ct c) (P.1 (cf c) + 8 * cr c)) (cf c) 0, if P.1 (ct c) = 0 then P.2.1 else upN P.2.1 (8 * P.2.2 + kn (P.1 (ct c))) (P.2.1 (8 * P.2.2 + kn (P.1 (ct c))) + 1), 1 - P.2.2) := if_neg hset
    rw [if_neg (show ¬ nI (cf c) = (63 : Int32) from fun z => hset ((nI_inj (b := 63) (by omega) (by omega)).mp z)), inb_nI k1 (by omega), if_pos rfl, lt_e, nI_clamp (show cf c < 2 ^ 31 by omega), hbf.1, lt_e, cd_taken hc6 hbt.2, if_pos rfl, lw_e]
    have e109 : (if nI (c + 65536 * P.1 (ct c)) &&& (4096 : Int32) = 0 then f_X6_apply_109 N (nI (ct c)) (nI (P.1 (cf c))) (nI (P.1 (ct c))) (nI (ct c)) (nI (P.1 (cf c))) (wdI w 23 (cf c) 0) else f_X6_apply_109 N (nI (ct c)) (nI (P.1 (cf c))) (nI (P.1 (ct c))) (nI (ct c)) (nI (P.1 (cf c)) + (8 : Int32)) (wdI w 23 (cf c) 0)) = f_X6_apply_109 N (nI (ct c)) (nI (P.1 (cf c))) (nI (P.1 (ct c))) (nI (ct c)) (nI (P.1 (cf c) + 8 * cr c)) (wdI w 23 (cf c) 0) := by
      rcases (show cr c = 0 ∨ cr c = 1 by omega) with h | h
      · rw [if_pos ((cd_raise hc6 hbt.2).mpr h), h]; rfl
      · rw [if_neg (fun z => by rw [cd_raise hc6 hbt.2, h] at z; cases z), h, show nI (P.1 (cf c)) + (8 : Int32) = nI (P.1 (cf c) + 8) from nI_add _ 8]
    rw [e109]
    unfold f_X6_apply_109
    rw [inb_nI hct (by omega), if_pos rfl, lw_e, nI_clamp (show ct c < 2 ^ 31 by omega)]
    -- the king, and whose turn it is
    have fin : ∀ u : Wd, u.1 22 7 = nI P.2.2 → (∀ s, s < 2 → u.1 25 s = nI (kf s)) → ∃ u', f_X6_apply_137 N (nI (ct c)) (nI (P.1 (cf c))) u = some ((), u') ∧ AppX u u' ∧ u'.1 23 = u.1 23 ∧ u'.1 24 = u.1 24 ∧ u'.1 22 7 = nI (1 - P.2.2) ∧ KG (kfN kf P c) u' := by
      intro u u1 u2
      unfold f_X6_apply_137 f_X6_apply_155
      rw [x_kindOf hpos hbf.2, bd_s]
      by_cases hk0 : kn (P.1 (cf c)) = 0
      · have eK : kfN kf P c = upN kf P.2.2 (ct c) := if_pos ⟨hset, hk0⟩
        rw [hk0, if_pos z0, u1, inb_nI hm2 (by decide), if_pos rfl, lw_e, lw_e, nI_clamp (by omega), wI_c (by decide), u1, h1m, eK]
        refine ⟨_, rfl, (AppX.i (by decide)).tr AppX.m, by rw [wI_c (by decide), wI_c (by decide)], by rw [wI_c (by decide), wI_c (by decide)], by rw [wI_s], fun s hs => ?_⟩
        rw [wI_c (by decide)]
        unfold upN
        by_cases e : s = P.2.2
        · rw [if_pos e, e, wI_s]
        · rw [if_neg e, wI_n e]; exact u2 s hs
      · have eK : kfN kf P c = kf := if_neg (fun z => hk0 z.2)
        rw [if_neg (nI_ne0 (by omega) (by omega)), lw_e, u1, h1m, eK]
        refine ⟨_, rfl, AppX.m, by rw [wI_c (by decide)], by rw [wI_c (by decide)], by rw [wI_s], fun s hs => ?_⟩
        rw [wI_c (by decide)]
        exact u2 s hs
    have cells : ∀ q, q < N * N → (wdI (wdI w 23 (cf c) 0) 23 (ct c) (nI (P.1 (cf c) + 8 * cr c))).1 23 q = nI (upN (upN P.1 (ct c) (P.1 (cf c) + 8 * cr c)) (cf c) 0 q) ∧ upN (upN P.1 (ct c) (P.1 (cf c) + 8 * cr c)) (cf c) 0 q ≤ 32 := by
      intro q hq
      unfold upN
      by_cases e1 : q = cf c
      · subst e1
        rw [wI_n k3, wI_s, if_pos rfl]
        exact ⟨rfl, by omega⟩
      · rw [if_neg e1]
        by_cases e2 : q = ct c
        · subst e2
          rw [wI_s, if_pos rfl]
          exact ⟨rfl, k2⟩
        · rw [wI_n e2, wI_n e1, if_neg e2]
          exact hB q hq
    rw [eP]
    by_cases h0 : P.1 (ct c) = 0
    · rw [if_pos h0] at *
      rw [h0, if_pos z0]
      obtain ⟨u', a1, a2, a3, a4, a5, a6⟩ := fin (wdI (wdI w 23 (cf c) 0) 23 (ct c) (nI (P.1 (cf c) + 8 * cr c))) (by rw [wI_c (by decide), wI_c (by decide)]; exact hmv) (fun s hs => by rw [wI_c (by decide), wI_c (by decide)]; exact hG s hs)
      refine ⟨u', a1, ((AppX.i (by decide)).tr (AppX.i (by decide))).tr a2, ⟨fun q hq => by rw [a3]; exact cells q hq, fun j hj => ?_, a5, show 1 - P.2.2 < 2 by omega⟩, a6⟩
      rw [a4, wI_c (by decide), wI_c (by decide)]
      exact hH j hj
    · have hp2 : 0 < P.1 (ct c) := by omega
      have hk2 := kn_lt (P.1 (ct c))
      have hj : 8 * P.2.2 + kn (P.1 (ct c)) < 16 := by omega
      rw [if_neg h0]
      rw [if_neg (nI_ne0 hp2 (by omega)), x_kindOf hp2 hbt.2, bd_s, wI_c (by decide), wI_c (by decide), hmv, n8s, inb_nI hj (by decide), if_pos rfl, if_pos rfl, lw_e, nI_clamp (by omega), wI_c (show (24 : Nat) ≠ 23 by decide), wI_c (show (24 : Nat) ≠ 23 by decide), (hH _ hj).1, nI_1]
      obtain ⟨u', a1, a2, a3, a4, a5, a6⟩ := fin (wdI (wdI (wdI w 23 (cf c) 0) 23 (ct c) (nI (P.1 (cf c) + 8 * cr c))) 24 (8 * P.2.2 + kn (P.1 (ct c))) (nI (P.2.1 (8 * P.2.2 + kn (P.1 (ct c))) + 1))) (by rw [wI_c (by decide), wI_c (by decide), wI_c (by decide)]; exact hmv) (fun s hs => by rw [wI_c (by decide), wI_c (by decide), wI_c (by decide)]; exact hG s hs)
      refine ⟨u', a1, (((AppX.i (by decide)).tr (AppX.i (by decide))).tr (AppX.i (by decide))).tr a2, ⟨fun q hq => by rw [a3, wI_c (by decide)]; exact cells q hq, fun j hj2 => ?_, a5, show 1 - P.2.2 < 2 by omega⟩, a6⟩
      rw [a4]
      show _ = nI (upN P.2.1 (8 * P.2.2 + kn (P.1 (ct c))) (P.2.1 (8 * P.2.2 + kn (P.1 (ct c))) + 1) j) ∧ upN P.2.1 (8 * P.2.2 + kn (P.1 (ct c))) (P.2.1 (8 * P.2.2 + kn (P.1 (ct c))) + 1) j < 1000
      unfold upN
      by_cases e : j = 8 * P.2.2 + kn (P.1 (ct c))
      · subst e
        rw [wI_s, if_pos rfl]
        exact ⟨rfl, k4 h0⟩
      · rw [wI_n e, wI_c (by decide), wI_c (by decide), if_neg e]
        exact hH j hj2
