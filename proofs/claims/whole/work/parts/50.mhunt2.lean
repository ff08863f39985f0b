/-! ===== the reference: hunts ===== -/
def HLp (n k lv : Nat) (w : Wd) : Option (Int32 × Wd) := l_X10_hunts_19 f_X10_hunts_41 f_X10_hunts_79 f_X10_hunts_101 f_X10_hunts_149 f_X10_hunts_186 n (nI k) (nI lv) w
/-- the next move at a level; nodes given back -/
def bump (lv : Nat) (w : Wd) : Wd := wdI w 99 lv (w.1 99 lv + 1)
def popN (lv : Nat) (w : Wd) : Wd := bump lv (wdI w 50 41 (w.1 100 lv))
def hOne (k lv n : Nat) (w : Wd) : Option (Int32 × Wd) := if lv = 0 then some (1, w) else HLp n k (lv - 1) (bump (lv - 1) w)
def hZero (k lv n : Nat) (w : Wd) : Option (Int32 × Wd) := if lv = 0 then some (0, w) else HLp n k (lv - 2) (popN (lv - 2) w)
def aOne (k lv n : Nat) (w : Wd) : Option (Int32 × Wd) := if lv = 1 then some (1, w) else HLp n k (lv - 2) (bump (lv - 2) w)
def aZero (k lv n : Nat) (w : Wd) : Option (Int32 × Wd) := HLp n k (lv - 1) (popN (lv - 1) w)
/-- where the reference stands at a level -/
def HS (N : Nat) (K : Kd) (F lv : Nat) (P : Ps) (h par at_ u : Nat) (w : Wd) : Prop := (MK N K w ∧ MM K w ∧ MP N lv P w ∧ MIn lv (movL N K P) w ∧ VP N K P) ∧ w.1 99 lv = nI h ∧ (w.1 50 39 = nI F ∧ w.1 50 40 = nI u ∧ w.1 50 41 = nI at_) ∧ PaM lv par w
def OutP (k lv at_ u : Nat) (r : Rs) (one zero : Nat → Wd → Option (Int32 × Wd)) (n0 : Nat) (w : Wd) : Prop := ∃ n' w', n0 ≤ n' + (3 * (r.2.1 - u) + 1) ∧ HuM lv at_ w w' ∧ w'.1 50 40 = nI r.2.1 ∧ (r.1 = 1 → w'.1 50 41 = nI (at_ + r.2.2.length) ∧ NdM at_ r.2.2 w' ∧ HLp n0 k lv w = one n' w') ∧ (r.1 = 0 → HLp n0 k lv w = zero n' w') ∧ (r.1 = 2 → HLp n0 k lv w = some (-5, w'))
def MH (N : Nat) (K : Kd) (F kk : Nat) : Prop := ∀ (k lv : Nat), lv % 2 = 0 → lv / 2 + (kk + 1) = k → k ≤ 4 → ∀ (cs : List Nat) (P : Ps) (h at_ u n0 : Nat) (w : Wd), ((movL N K P).drop h).filter (gch N K P) = cs → h ≤ (movL N K P).length → HS N K F lv P h at_ at_ u w → at_ ≤ u → u ≤ F → F ≤ 1000 → 3 * ((hL F (aA N K F kk lv) P lv cs at_ u).2.1 - u) + 1 < n0 → OutP k lv at_ u (hL F (aA N K F kk lv) P lv cs at_ u) (hOne k lv) (hZero k lv) n0 w
def MA (N : Nat) (K : Kd) (F kk : Nat) : Prop := ∀ (k lv : Nat), lv % 2 = 1 → lv / 2 + (kk + 1) = k → k ≤ 4 → ∀ (D : List Nat) (Q : Ps) (h par at_ u n0 : Nat) (w : Wd), (movL N K Q).drop h = D → h + D.length = (movL N K Q).length → HS N K F lv Q h par at_ u w → at_ ≤ u → u ≤ F → F ≤ 1000 → 3 * ((aL F (hH N K F kk (lv + 1)) Q par lv D at_ u).2.1 - u) + 1 < n0 → OutP k lv at_ u (aL F (hH N K F kk (lv + 1)) Q par lv D at_ u) (aOne k lv) (aZero k lv) n0 w
theorem par2 {lv : Nat} (hl : lv < 16) : nI lv - nI lv / (2 : Int32) * (2 : Int32) = nI (lv % 2) := pk_rem (a := lv) (d := 2) (by omega) (by omega) (by omega)
theorem dn1 {lv : Nat} (h : 1 ≤ lv) : nI lv + (-1 : Int32) = nI (lv - 1) := by
  obtain ⟨m, rfl⟩ : ∃ m, lv = m + 1 := ⟨lv - 1, by omega⟩
  exact pk_m1 m
theorem dn2 {lv : Nat} (h : 2 ≤ lv) : nI lv + (-2 : Int32) = nI (lv - 2) := by
  obtain ⟨m, rfl⟩ : ∃ m, lv = m + 2 := ⟨lv - 2, by omega⟩
  rw [show nI (m + 2) = nI m + 2 from (nI_add m 2).symm, Int32.add_assoc, show (2 : Int32) + (-2) = 0 from by decide, Int32.add_zero]
  rfl
theorem PaM.hu {lv par at_ : Nat} {w w' : Wd} (h : PaM lv par w) (u : HuM lv at_ w w') : PaM lv par w' := by
  rcases h with h | ⟨h1, h2⟩
  · exact Or.inl h
  · exact Or.inr ⟨h1, by rw [(u.2.2.2.2.2.2.2.2.2 _ (by omega)).2]; exact h2⟩
theorem HLp_s {n k lv : Nat} {w : Wd} : HLp (n + 1) k lv w = b_X10_hunts_19 (l_X10_hunts_19 f_X10_hunts_41 f_X10_hunts_79 f_X10_hunts_101 f_X10_hunts_149 f_X10_hunts_186 n) f_X10_hunts_41 f_X10_hunts_79 f_X10_hunts_101 f_X10_hunts_149 f_X10_hunts_186 (nI k) (nI lv) w := rfl
/-- all answers are through -/
theorem HLp_a0 {n k lv h : Nat} {w : Wd} (hl : lv < 16) (ho : lv % 2 = 1) (hh : w.1 99 lv = nI h) (hm : w.1 63 lv = nI h) : HLp (n + 1) k lv w = aOne k lv n w := by
  rw [HLp_s]
  unfold b_X10_hunts_19 aOne
  rw [if_pos (show ¬ (2 : Int32) = 0 by decide), par2 hl, ho, if_neg (show ¬ nI 1 = (0 : Int32) by decide), inb_nI hl (by omega), if_pos rfl, if_pos rfl, nI_clamp (show lv < 2 ^ 31 by omega), hh, hm, if_pos rfl]
  by_cases q : lv = 1
  · subst q
    rw [if_pos (show nI 1 = (1 : Int32) from rfl), if_pos rfl]
    rfl
  · rw [if_neg (show ¬ nI lv = (1 : Int32) from fun z => q ((nI_inj (b := 1) (by omega) (by omega)).mp z)), if_neg q, dn2 (by omega), inb_nI (show lv - 2 < 16 by omega) (by omega), if_pos rfl, if_pos rfl, lw_e, nI_clamp (show lv - 2 < 2 ^ 31 by omega)]
    rfl
/-- an answer is made -/
theorem HLp_a1 {n k lv h m : Nat} {w w1 w2 : Wd} {x : Int32} (hl : lv + 1 < 16) (ho : lv % 2 = 1) (hk : k < 16) (hh : w.1 99 lv = nI h) (hm : w.1 63 lv = nI m) (hhm : h < m) (hm2 : m ≤ 2000) (h1 : f_X10_makeMove (nI lv) (nI h) w = some ((), w1)) (h2 : f_X10_notes (nI lv) w1 = some (x, w2)) :
    HLp (n + 1) k lv w = if x = 0 then some (-5, w2) else if lv / 2 + 1 = k then HLp n k (lv - 1) (popN (lv - 1) w2) else bd (f_X10_findMoves (nI (lv + 1)) w2) fun _ w3 => HLp n k (lv + 1) (wdI w3 99 (lv + 1) 0) := by
  rw [HLp_s]
  unfold b_X10_hunts_19
  rw [if_pos (show ¬ (2 : Int32) = 0 by decide), par2 (by omega), ho, if_neg (show ¬ nI 1 = (0 : Int32) by decide), inb_nI (show lv < 16 by omega) (by omega), if_pos rfl, if_pos rfl, nI_clamp (show lv < 2 ^ 31 by omega), hh, hm, if_neg (show ¬ nI h = nI m from fun z => by have := (nI_inj (by omega) (by omega)).mp z; omega), if_pos rfl, h1, bd_s, h2, bd_s]
  by_cases q : x = 0
  · rw [if_pos q, if_pos q]; rfl
  · rw [if_neg q, if_neg q, if_pos (show ¬ (2 : Int32) = 0 by decide), show nI lv / (2 : Int32) = nI (lv / 2) from pk_div (d := 2) (by omega) (by omega) (by omega), nI_1]
    by_cases q2 : lv / 2 + 1 = k
    · rw [if_pos (show nI (lv / 2 + 1) = nI k by rw [q2]), if_pos q2, dn1 (by omega), inb_nI (show lv - 1 < 16 by omega) (by omega), if_pos rfl, lw_e, if_pos rfl, if_pos rfl, lw_e, nI_clamp (show lv - 1 < 2 ^ 31 by omega)]
      rfl
    · rw [if_neg (show ¬ nI (lv / 2 + 1) = nI k from fun z => q2 ((nI_inj (by omega) (by omega)).mp z)), if_neg q2, nI_1, inb_nI (show lv + 1 < 16 by omega) (by omega), nI_clamp (show lv + 1 < 2 ^ 31 by omega)]
      rfl
/-- no check is left -/
theorem HLp_h0 {n k lv : Nat} {w w1 : Wd} (hl : lv < 16) (ho : lv % 2 = 0) (h1 : f_X10_nextCheck (nI lv) w = some (0, w1)) : HLp (n + 1) k lv w = hZero k lv n w1 := by
  rw [HLp_s]
  unfold b_X10_hunts_19 hZero
  rw [if_pos (show ¬ (2 : Int32) = 0 by decide), par2 hl, ho, if_pos (show nI 0 = (0 : Int32) from rfl), h1, bd_s, if_pos rfl]
  by_cases q : lv = 0
  · subst q
    rw [if_pos (show nI 0 = (0 : Int32) from rfl), if_pos rfl]
    rfl
  · rw [if_neg (nI_ne0 (by omega) (by omega)), if_neg q, dn2 (by omega), inb_nI (show lv - 2 < 16 by omega) (by omega), if_pos rfl, lw_e, if_pos rfl, if_pos rfl, lw_e, nI_clamp (show lv - 2 < 2 ^ 31 by omega)]
    rfl
/-- a check is made -/
theorem HLp_h1 {n k lv m : Nat} {w w1 w2 w3 : Wd} (hl : lv + 1 < 16) (ho : lv % 2 = 0) (h1 : f_X10_nextCheck (nI lv) w = some (1, w1)) (h2 : f_X10_notes (nI lv) w1 = some (1, w2)) (h3 : f_X10_findMoves (nI (lv + 1)) w2 = some ((), w3)) (hm : w3.1 63 (lv + 1) = nI m) (hm2 : m ≤ 2000) :
    HLp (n + 1) k lv w = if m = 0 then hOne k lv n w3 else HLp n k (lv + 1) (wdI w3 99 (lv + 1) 0) := by
  rw [HLp_s]
  unfold b_X10_hunts_19 hOne
  rw [if_pos (show ¬ (2 : Int32) = 0 by decide), par2 (by omega), ho, if_pos (show nI 0 = (0 : Int32) from rfl), h1, bd_s, if_neg (by decide), h2, bd_s, if_neg (by decide), nI_1, h3, bd_s, inb_nI (show lv + 1 < 16 by omega) (by omega), if_pos rfl, nI_clamp (show lv + 1 < 2 ^ 31 by omega), hm]
  by_cases q : m = 0
  · subst q
    rw [if_pos (by decide), if_pos rfl]
    by_cases q2 : lv = 0
    · subst q2
      rw [if_pos (show nI 0 = (0 : Int32) from rfl), if_pos rfl]
      rfl
    · rw [if_neg (nI_ne0 (by omega) (by omega)), if_neg q2, dn1 (by omega), inb_nI (show lv - 1 < 16 by omega) (by omega), if_pos rfl, if_pos rfl, lw_e, nI_clamp (show lv - 1 < 2 ^ 31 by omega)]
      rfl
  · rw [if_neg (nI_nle (by omega) (by omega)), if_neg q, if_pos rfl, lw_e]
    rfl
theorem HLp_h2 {n k lv : Nat} {w w1 w2 : Wd} (hl : lv + 1 < 16) (ho : lv % 2 = 0) (h1 : f_X10_nextCheck (nI lv) w = some (1, w1)) (h2 : f_X10_notes (nI lv) w1 = some (0, w2)) : HLp (n + 1) k lv w = some (-5, w2) := by
  rw [HLp_s]
  unfold b_X10_hunts_19
  rw [if_pos (show ¬ (2 : Int32) = 0 by decide), par2 (by omega), ho, if_pos (show nI 0 = (0 : Int32) from rfl), h1, bd_s, if_neg (by decide), h2, bd_s, if_pos rfl]
  rfl
theorem m_A_of {N F kk : Nat} {K : Kd} (hyp : ∀ k', kk = k' + 1 → MH N K F k') : MA N K F kk := by
  intro k lv ho hkk hk4 D
  induction D with
  | nil =>
    intro Q h par at_ u n0 w hD hj hS hau huF hF hn
    obtain ⟨⟨s1, s2, s3, s4, s5⟩, s6, ⟨s7, s8, s9⟩, s10⟩ := hS
    have hlen := mov_2000 (K := K) s1.2.1 s1.2.2.1 s5.mv
    unfold aL at hn ⊢
    obtain ⟨n, rfl⟩ : ∃ q, n0 = q + 1 := ⟨n0 - 1, by omega⟩
    rw [List.length_nil] at hj
    refine ⟨n, w, by show n + 1 ≤ n + (3 * (u - u) + 1); omega, HuM.rf, s8, fun _ => ⟨s9, NdM.nil, ?_⟩, fun z => (by cases z), fun z => (by cases z)⟩
    exact HLp_a0 (by omega) ho s6 (by rw [s4.1]; congr 1; omega)
  | cons a D ih =>
    intro Q h par at_ u n0 w hD hj hS hau huF hF hn
    obtain ⟨⟨s1, s2, s3, s4, s5⟩, s6, ⟨s7, s8, s9⟩, s10⟩ := hS
    have h7 := s1.2.1
    have h5 := s1.2.2.1
    have hlen := mov_2000 (K := K) h7 h5 s5.mv
    rw [List.length_cons] at hj
    obtain ⟨hg, hD2⟩ := drop_c hD
    have ham : a ∈ movL N K Q := List.mem_of_getElem? hg
    have hV2 := mov_VP h7 h5 s5 ham
    obtain ⟨n, rfl⟩ : ∃ q, n0 = q + 1 := ⟨n0 - 1, by omega⟩
    obtain ⟨w1, a1, a2, a3⟩ := m_mM (lv := lv) (by omega) s1 s3 s5 s4 hg
    have g1 : ∀ t, HuM lv t w w1 := fun t => a2.hu (Nat.le_refl _) (by omega)
    have hI1 : MIn lv (movL N K Q) w1 := s4.up (by omega) hlen a2
    have e99 : w1.1 99 = w.1 99 := a2.2.1 99 (by omega)
    obtain ⟨b1, b2⟩ := m_notes (lv := lv) (par := par) (F := F) (at_ := at_) (u := u) (by omega) hI1 hlen (by rw [e99]; exact s6) hg (by rw [a2.2.2.1 39 (by decide)]; exact s7) (by rw [a2.2.2.1 40 (by decide)]; exact s8) (by rw [a2.2.2.1 41 (by decide)]; exact s9) (s10.hu (g1 0)) hau huF hF
    unfold aL at hn ⊢
    by_cases q : F ≤ u
    · rw [if_pos q] at hn ⊢
      refine ⟨n, w1, by show n + 1 ≤ n + (3 * (u - u) + 1); omega, g1 _, by rw [a2.2.2.1 40 (by decide)]; exact s8, fun z => (by cases z), fun z => (by cases z), fun _ => ?_⟩
      rw [HLp_a1 (by omega) ho (by omega) s6 s4.1 (by omega) hlen a1 (b1 q), if_pos rfl]
    · rw [if_neg q] at hn ⊢
      obtain ⟨w2, c1, c2, c3, c4, c5, c6, c7, c8⟩ := b2 q
      have g2 : HuM lv at_ w w2 := (g1 _).tr c2
      have step := HLp_a1 (n := n) (k := k) (by omega) ho (by omega) s6 s4.1 (by omega) hlen a1 c1
      rw [if_neg (by decide)] at step
      rcases kk with _ | k'
      · have e0 : hH N K F 0 (lv + 1) (mkP Q a) (at_ + 1) (u + 1) = (0, u + 1, []) := rfl
        rw [e0, if_neg (by exact (by decide : ¬ (0 : Nat) = 1))] at hn ⊢
        rw [if_pos (by omega)] at step
        exact ⟨n, w2, by show n + 1 ≤ n + (3 * (u + 1 - u) + 1); omega, g2, c3, fun z => (by cases z), fun _ => step, fun z => (by cases z)⟩
      · have hMH := hyp k' rfl
        rw [if_neg (by omega)] at step
        have hP2 : MP N (lv + 1) (mkP Q a) w2 := by
          unfold MP at a3 ⊢
          rw [c8 60 (by omega) (by omega), c8 61 (by omega) (by omega), c8 62 (by omega) (by omega)]
          exact a3
        obtain ⟨w3, d1, d2, d3⟩ := m_fM (lv := lv + 1) (by omega) (s1.hu g2) (s2.hu g2) hP2 hV2
        rw [d1, bd_s] at step
        have g3 : HuM lv at_ w (wdI w3 99 (lv + 1) 0) := (g2.tr (d2.hu (by omega) (Nat.le_refl _))).tr (HuM.i99 (by omega))
        have g3' : ∀ t, HuM lv t w2 (wdI w3 99 (lv + 1) 0) := fun t => (d2.hu (by omega) (Nat.le_refl _)).tr (HuM.i99 (by omega))
        have g4 : ∀ t, HuM (lv + 1) t w3 (wdI w3 99 (lv + 1) 0) := fun t => HuM.i99 (Nat.le_refl _)
        have hlen2 := mov_2000 (K := K) h7 h5 hV2.mv
        have w4c : ∀ j, j ≠ 22 → (wdI w3 99 (lv + 1) 0).1 50 j = w2.1 50 j := fun j hj => by
          rw [wI_c (by decide)]
          exact d2.2.2.1 j hj
        have w4e : ∀ k, 92 < k → k ≠ 99 → (wdI w3 99 (lv + 1) 0).1 k = w2.1 k := fun k h1 h2 => by
          rw [wI_c h2]
          exact d2.2.1 k (by omega)
        have hS4 : HS N K F (lv + 1) (mkP Q a) 0 (at_ + 1) (at_ + 1) (u + 1) (wdI w3 99 (lv + 1) 0) := by
          refine ⟨⟨s1.hu g3, s2.hu g3, ?_, d3.hu (g4 0) (Nat.le_refl _) hlen2, hV2⟩, by rw [wI_s]; rfl, ⟨?_, ?_, ?_⟩, Or.inr ⟨by omega, ?_⟩⟩
          · exact (hP2.up (Nat.le_refl _) d2).hu (g4 0) (Nat.le_refl _)
          · rw [g3.2.2.1 39 (by decide) (by decide) (by decide)]; exact s7
          · rw [w4c 40 (by decide)]; exact c3
          · rw [w4c 41 (by decide)]; exact c4
          · rw [Nat.add_sub_cancel, w4e 100 (by decide) (by decide), c6, pv_s]
        have hok := hH_ok (N := N) (K := K) (k' + 1) (lv + 1) (mkP Q a) (at_ + 1) (u + 1) (show u + 1 ≤ F by omega)
        have key := hMH k (lv + 1) (by omega) (by omega) hk4 ((movL N K (mkP Q a)).filter (gch N K (mkP Q a))) (mkP Q a) 0 (at_ + 1) (u + 1) n (wdI w3 99 (lv + 1) 0) rfl (by omega) hS4 (by omega) (by omega) hF
        have ehH : hL F (aA N K F k' (lv + 1)) (mkP Q a) (lv + 1) ((movL N K (mkP Q a)).filter (gch N K (mkP Q a))) (at_ + 1) (u + 1) = hH N K F (k' + 1) (lv + 1) (mkP Q a) (at_ + 1) (u + 1) := rfl
        rw [ehH] at key
        have haok := fun (x y : Nat) (hy : y ≤ F) => aL_ok (F := F) (par := par) (dep := lv) (h := hH N K F (k' + 1) (lv + 1)) (Q := Q) (fun P at_ u hu => hH_ok (N := N) (K := K) (k' + 1) (lv + 1) P at_ u hu) D x y hy
        generalize hH N K F (k' + 1) (lv + 1) (mkP Q a) (at_ + 1) (u + 1) = rr at *
        obtain ⟨k1, k2, k3, k4⟩ := hok
        by_cases hr : rr.1 = 1
        · rw [if_pos hr] at hn ⊢
          have k4' := k4 hr
          obtain ⟨l1, l2, l3, l4⟩ := haok (at_ + 1 + rr.2.2.length) rr.2.1 k2
          have hsu : (if (aL F (hH N K F (k' + 1) (lv + 1)) Q par lv D (at_ + 1 + rr.2.2.length) rr.2.1).1 = 1 then (1, (aL F (hH N K F (k' + 1) (lv + 1)) Q par lv D (at_ + 1 + rr.2.2.length) rr.2.1).2.1, (a, par, lv, rr.2.2.length) :: (rr.2.2 ++ (aL F (hH N K F (k' + 1) (lv + 1)) Q par lv D (at_ + 1 + rr.2.2.length) rr.2.1).2.2)) else ((aL F (hH N K F (k' + 1) (lv + 1)) Q par lv D (at_ + 1 + rr.2.2.length) rr.2.1).1, (aL F (hH N K F (k' + 1) (lv + 1)) Q par lv D (at_ + 1 + rr.2.2.length) rr.2.1).2.1, [])).2.1 = (aL F (hH N K F (k' + 1) (lv + 1)) Q par lv D (at_ + 1 + rr.2.2.length) rr.2.1).2.1 := by split <;> rfl
          rw [hsu] at hn
          obtain ⟨n1, w5, x1, x2, x3, x4, x5, x6⟩ := key (by omega)
          obtain ⟨y1, y2, y3⟩ := x4 hr
          unfold hOne at y3
          rw [if_neg (by omega), Nat.add_sub_cancel] at y3
          have g5 : HuM lv at_ w w5 := g3.tr (x2.mono (by omega) (by omega))
          have g6 : HuM lv at_ w (bump lv w5) := g5.tr (HuM.i99 (Nat.le_refl _))
          have hh5 : w5.1 99 lv = nI h := by
            rw [(x2.2.2.2.2.2.2.2.2.2 lv (by omega)).1, wI_n (by omega), d2.2.1 99 (by omega), c7, e99]
            exact s6
          have hS6 : HS N K F lv Q (h + 1) par (at_ + 1 + rr.2.2.length) rr.2.1 (bump lv w5) := by
            refine ⟨⟨s1.hu g6, s2.hu g6, s3.hu g6 (Nat.le_refl _), s4.hu g6 (Nat.le_refl _) hlen, s5⟩, ?_, ⟨?_, ?_, ?_⟩, s10.hu g6⟩
            · unfold bump
              rw [wI_s, hh5, nI_1]
            · rw [g6.2.2.1 39 (by decide) (by decide) (by decide)]; exact s7
            · unfold bump
              rw [wI_c (by decide)]; exact x3
            · unfold bump
              rw [wI_c (by decide)]; exact y1
          obtain ⟨n2, w7, z1, z2, z3, z4, z5, z6⟩ := ih Q (h + 1) par (at_ + 1 + rr.2.2.length) rr.2.1 n1 (bump lv w5) hD2 (by omega) hS6 (by omega) k2 hF (by omega)
          have g7 : HuM lv at_ w w7 := g6.tr (z2.mono (Nat.le_refl _) (by omega))
          generalize aL F (hH N K F (k' + 1) (lv + 1)) Q par lv D (at_ + 1 + rr.2.2.length) rr.2.1 = s at *
          have hnode : w7.1 93 at_ = pv par ∧ w7.1 94 at_ = mF a ∧ w7.1 95 at_ = mT a ∧ w7.1 96 at_ = mR a ∧ w7.1 97 at_ = mK a ∧ w7.1 98 at_ = nI lv := by
            have e7 : ∀ k, 93 ≤ k → k ≤ 98 → w7.1 k at_ = w2.1 k at_ := fun k h1 h2 => by
              rw [z2.2.2.2.2.2.2.2.2.1 k h1 h2 at_ (by omega)]
              unfold bump
              rw [wI_c (by omega), x2.2.2.2.2.2.2.2.2.1 k h1 h2 at_ (by omega), w4e k (by omega) (by omega)]
            rw [e7 93 (by omega) (by omega), e7 94 (by omega) (by omega), e7 95 (by omega) (by omega), e7 96 (by omega) (by omega), e7 97 (by omega) (by omega), e7 98 (by omega) (by omega)]
            exact c5
          have hnd5 : NdM (at_ + 1) rr.2.2 w7 := by
            have : NdM (at_ + 1) rr.2.2 (bump lv w5) := y2.hu (HuM.i99 (lv := lv) (at_ := at_ + 1 + rr.2.2.length) (Nat.le_refl _)) (Nat.le_refl _)
            exact this.hu z2 (Nat.le_refl _)
          by_cases hs : s.1 = 1
          · rw [if_pos hs]
            obtain ⟨v1, v2, v3⟩ := z4 hs
            refine ⟨n2, w7, by show n + 1 ≤ n2 + (3 * (s.2.1 - u) + 1); omega, g7, z3, fun _ => ⟨?_, ?_, ?_⟩, fun z => (by cases z), fun z => (by cases z)⟩
            · rw [v1]
              congr 1
              rw [List.length_cons, List.length_append]
              omega
            · exact NdM.cons hnode (hnd5.app v2)
            · rw [step, y3, v3]
          · rw [if_neg hs]
            refine ⟨n2, w7, by show n + 1 ≤ n2 + (3 * (s.2.1 - u) + 1); omega, g7, z3, fun z => absurd z hs, fun z => ?_, fun z => ?_⟩
            · rw [step, y3, z5 z]
            · rw [step, y3, z6 z]
        · rw [if_neg hr] at hn ⊢
          have hn' : 3 * (rr.2.1 - u) + 1 < n + 1 := hn
          obtain ⟨n1, w5, x1, x2, x3, x4, x5, x6⟩ := key (by omega)
          have g5 : HuM lv at_ w w5 := g3.tr (x2.mono (by omega) (by omega))
          refine ⟨n1, w5, by show n + 1 ≤ n1 + (3 * (rr.2.1 - u) + 1); omega, g5, x3, fun z => absurd z hr, fun z => ?_, fun z => ?_⟩
          · rw [step, x5 z]
            unfold hZero aZero
            rw [if_neg (by omega), show lv + 1 - 2 = lv - 1 by omega]
          · rw [step, x6 z]
