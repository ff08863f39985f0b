/-! ===== the reference: hunts, all of it ===== -/
theorem m_H_of {N F kk : Nat} {K : Kd} (hyp : MA N K F kk) : MH N K F kk := by
  intro k lv ho hkk hk4 cs
  induction cs with
  | nil =>
    intro P h at_ u n0 w hcs hh hS hau huF hF hn
    obtain ⟨⟨s1, s2, s3, s4, s5⟩, s6, ⟨s7, s8, s9⟩, s10⟩ := hS
    have hlen := mov_2000 (K := K) s1.2.1 s1.2.2.1 s5.mv
    obtain ⟨n, rfl⟩ : ∃ q, n0 = q + 1 := ⟨n0 - 1, by omega⟩
    obtain ⟨w1, a1, a2, a3, a4, a5⟩ := (m_nextCheck (lv := lv) (by omega) s5 ((movL N K P).drop h) h FU w rfl (by rw [List.length_drop]; omega) (by rw [List.length_drop]; exact FU_big (by omega)) s1 s3 s4 s6).1 hcs
    have a1' : f_X10_nextCheck (nI lv) w = some (0, w1) := a1
    unfold hL at hn ⊢
    refine ⟨n, w1, by show n + 1 ≤ n + (3 * (u - u) + 1); omega, a2 _, by rw [a3]; exact s8, fun z => (by cases z), fun _ => HLp_h0 (by omega) ho a1', fun z => (by cases z)⟩
  | cons c cs ih =>
    intro P h at_ u n0 w hcs hh hS hau huF hF hn
    obtain ⟨⟨s1, s2, s3, s4, s5⟩, s6, ⟨s7, s8, s9⟩, s10⟩ := hS
    have h7 := s1.2.1
    have h5 := s1.2.2.1
    have hlen := mov_2000 (K := K) h7 h5 s5.mv
    obtain ⟨n, rfl⟩ : ∃ q, n0 = q + 1 := ⟨n0 - 1, by omega⟩
    obtain ⟨w1, h', a1, a2, a3, a4, a5, a6, a7, a8, a9⟩ := (m_nextCheck (lv := lv) (by omega) s5 ((movL N K P).drop h) h FU w rfl (by rw [List.length_drop]; omega) (by rw [List.length_drop]; exact FU_big (by omega)) s1 s3 s4 s6).2 c cs hcs
    have a1' : f_X10_nextCheck (nI lv) w = some (1, w1) := a1
    have hcm : c ∈ movL N K P := List.mem_of_getElem? a7
    have hh'l : h' < (movL N K P).length := (List.getElem?_eq_some_iff.mp a7).1
    have hV2 := mov_VP h7 h5 s5 hcm
    have hlen2 := mov_2000 (K := K) h7 h5 hV2.mv
    have h39 : w1.1 50 39 = nI F := by rw [(a2 0).2.2.1 39 (by decide) (by decide) (by decide)]; exact s7
    obtain ⟨b1, b2⟩ := m_notes (lv := lv) (par := at_) (F := F) (at_ := at_) (u := u) (by omega) (s4.hu (a2 0) (Nat.le_refl _) hlen) hlen a6 a7 h39 (by rw [a3]; exact s8) (by rw [a4]; exact s9) (s10.hu (a2 0)) hau huF hF
    have hokO := oneH_ok (N := N) (K := K) (k := kk) (dep := lv) (P := P) (c := c) (at_ := at_) huF
    rw [hL_one] at hn ⊢
    by_cases q : F ≤ u
    · have eo : oneH N K F kk lv P c at_ u = (2, u, []) := by unfold oneH; rw [if_pos q]
      rw [eo, if_neg (by exact (by decide : ¬ (2 : Nat) = 0))] at hn ⊢
      exact ⟨n, w1, by show n + 1 ≤ n + (3 * (u - u) + 1); omega, a2 _, by rw [a3]; exact s8, fun z => (by cases z), fun z => (by cases z), fun _ => HLp_h2 (by omega) ho a1' (b1 q)⟩
    · obtain ⟨w2, c1, c2, c3, c4, c5, c6, c7, c8⟩ := b2 q
      have g2 : HuM lv at_ w w2 := (a2 _).tr c2
      have hP2 : MP N (lv + 1) (mkP P c) w2 := by
        unfold MP at a9 ⊢
        rw [c8 60 (by omega) (by omega), c8 61 (by omega) (by omega), c8 62 (by omega) (by omega)]
        exact a9
      obtain ⟨w3, d1, d2, d3⟩ := m_fM (lv := lv + 1) (by omega) (s1.hu g2) (s2.hu g2) hP2 hV2
      have step := HLp_h1 (n := n) (k := k) (by omega) ho a1' c1 d1 d3.1 hlen2
      have g3 : HuM lv at_ w w3 := g2.tr (d2.hu (by omega) (Nat.le_refl _))
      have w3e : ∀ k, 92 < k → w3.1 k = w2.1 k := fun k h1 => d2.2.1 k (by omega)
      by_cases hm : (movL N K (mkP P c)).length = 0
      · rw [if_pos hm] at step
        have hnil : movL N K (mkP P c) = [] := List.length_eq_zero_iff.mp hm
        have ea : aA N K F kk lv (mkP P c) (at_ + 1) (u + 1) = (1, u + 1, []) := by
          unfold aA
          rw [hnil]
          rfl
        have eo : oneH N K F kk lv P c at_ u = (1, u + 1, [(c, at_, lv, 0)]) := by
          unfold oneH
          rw [if_neg q, ea]
          rfl
        rw [eo, if_neg (by exact (by decide : ¬ (1 : Nat) = 0))] at hn ⊢
        refine ⟨n, w3, by show n + 1 ≤ n + (3 * (u + 1 - u) + 1); omega, g3, by rw [d2.2.2.1 40 (by decide)]; exact c3, fun _ => ⟨by rw [d2.2.2.1 41 (by decide)]; exact c4, NdM.cons ?_ NdM.nil, step⟩, fun z => (by cases z), fun z => (by cases z)⟩
        rw [w3e 93 (by omega), w3e 94 (by omega), w3e 95 (by omega), w3e 96 (by omega), w3e 97 (by omega), w3e 98 (by omega)]
        exact c5
      · rw [if_neg hm] at step
        have g4 : HuM lv at_ w (wdI w3 99 (lv + 1) 0) := g3.tr (HuM.i99 (by omega))
        have g4' : ∀ t, HuM (lv + 1) t w3 (wdI w3 99 (lv + 1) 0) := fun t => HuM.i99 (Nat.le_refl _)
        have w4c : ∀ j, j ≠ 22 → (wdI w3 99 (lv + 1) 0).1 50 j = w2.1 50 j := fun j hj => by
          rw [wI_c (by decide)]
          exact d2.2.2.1 j hj
        have w4e : ∀ k, 92 < k → k ≠ 99 → (wdI w3 99 (lv + 1) 0).1 k = w2.1 k := fun k h1 h2 => by
          rw [wI_c h2]
          exact w3e k h1
        have hS4 : HS N K F (lv + 1) (mkP P c) 0 (at_ + 1) (at_ + 1) (u + 1) (wdI w3 99 (lv + 1) 0) := by
          refine ⟨⟨s1.hu g4, s2.hu g4, ?_, d3.hu (g4' 0) (Nat.le_refl _) hlen2, hV2⟩, by rw [wI_s]; rfl, ⟨?_, ?_, ?_⟩, Or.inr ⟨by omega, ?_⟩⟩
          · exact (hP2.up (Nat.le_refl _) d2).hu (g4' 0) (Nat.le_refl _)
          · rw [g4.2.2.1 39 (by decide) (by decide) (by decide)]; exact s7
          · rw [w4c 40 (by decide)]; exact c3
          · rw [w4c 41 (by decide)]; exact c4
          · rw [Nat.add_sub_cancel, w4e 100 (by decide) (by decide), c6, pv_s]
        have key := hyp k (lv + 1) (by omega) (by omega) hk4 (movL N K (mkP P c)) (mkP P c) 0 (at_ + 1) (at_ + 1) (u + 1) n (wdI w3 99 (lv + 1) 0) rfl (by omega) hS4 (by omega) (by omega) hF
        have ea : aL F (hH N K F kk (lv + 1 + 1)) (mkP P c) (at_ + 1) (lv + 1) (movL N K (mkP P c)) (at_ + 1) (u + 1) = aA N K F kk lv (mkP P c) (at_ + 1) (u + 1) := rfl
        rw [ea] at key
        have hok := aA_ok (N := N) (K := K) (k := kk) (dep := lv) (Q := mkP P c) (at_ := at_ + 1) (show u + 1 ≤ F by omega)
        have eo : oneH N K F kk lv P c at_ u = if (aA N K F kk lv (mkP P c) (at_ + 1) (u + 1)).1 = 1 then (1, (aA N K F kk lv (mkP P c) (at_ + 1) (u + 1)).2.1, (c, at_, lv, (aA N K F kk lv (mkP P c) (at_ + 1) (u + 1)).2.2.length) :: (aA N K F kk lv (mkP P c) (at_ + 1) (u + 1)).2.2) else ((aA N K F kk lv (mkP P c) (at_ + 1) (u + 1)).1, (aA N K F kk lv (mkP P c) (at_ + 1) (u + 1)).2.1, []) := by
          unfold oneH
          rw [if_neg q]
        rw [eo] at hn ⊢
        have hhok := fun (y : Nat) (hy : y ≤ F) => hL_ok (F := F) (dep := lv) (g := aA N K F kk lv) (P := P) (fun P at_ u hu => aA_ok hu) cs at_ y hy
        generalize aA N K F kk lv (mkP P c) (at_ + 1) (u + 1) = ra at *
        obtain ⟨k1, k2, k3, k4⟩ := hok
        by_cases hr : ra.1 = 1
        · rw [if_pos hr, if_neg (by exact (by decide : ¬ (1 : Nat) = 0))] at hn ⊢
          have hn' : 3 * (ra.2.1 - u) + 1 < n + 1 := hn
          obtain ⟨n1, w5, x1, x2, x3, x4, x5, x6⟩ := key (by omega)
          obtain ⟨y1, y2, y3⟩ := x4 hr
          refine ⟨n1, w5, by show n + 1 ≤ n1 + (3 * (ra.2.1 - u) + 1); omega, g4.tr (x2.mono (by omega) (by omega)), x3, fun _ => ⟨?_, NdM.cons ?_ y2, ?_⟩, fun z => (by cases z), fun z => (by cases z)⟩
          · rw [y1]
            congr 1
            rw [List.length_cons]
            omega
          · have e5 : ∀ k, 93 ≤ k → k ≤ 98 → w5.1 k at_ = w2.1 k at_ := fun k h1 h2 => by
              rw [x2.2.2.2.2.2.2.2.2.1 k h1 h2 at_ (by omega), w4e k (by omega) (by omega)]
            rw [e5 93 (by omega) (by omega), e5 94 (by omega) (by omega), e5 95 (by omega) (by omega), e5 96 (by omega) (by omega), e5 97 (by omega) (by omega), e5 98 (by omega) (by omega)]
            exact c5
          · rw [step, y3]
            unfold aOne hOne
            by_cases hz : lv = 0
            · rw [if_pos (by omega), if_pos hz]
            · rw [if_neg (by omega), if_neg hz, show lv + 1 - 2 = lv - 1 by omega]
        · rw [if_neg hr] at hn ⊢
          by_cases h0 : ra.1 = 0
          · rw [if_pos (show (ra.1, ra.2.1, ([] : List Nd)).1 = 0 from h0)] at hn ⊢
            have hn' : 3 * ((hL F (aA N K F kk lv) P lv cs at_ ra.2.1).2.1 - u) + 1 < n + 1 := hn
            show OutP k lv at_ u (hL F (aA N K F kk lv) P lv cs at_ ra.2.1) (hOne k lv) (hZero k lv) (n + 1) w
            obtain ⟨l1, l2, l3, l4⟩ := hhok ra.2.1 k2
            obtain ⟨n1, w5, x1, x2, x3, x4, x5, x6⟩ := key (by omega)
            have y5 := x5 h0
            unfold aZero at y5
            rw [Nat.add_sub_cancel] at y5
            have g5 : HuM lv at_ w w5 := g4.tr (x2.mono (by omega) (by omega))
            have g6 : HuM lv at_ w (popN lv w5) := (g5.tr (HuM.i50 (Or.inr rfl))).tr (HuM.i99 (Nat.le_refl _))
            have hh5 : w5.1 99 lv = nI h' := by
              rw [(x2.2.2.2.2.2.2.2.2.2 lv (by omega)).1, wI_n (by omega), d2.2.1 99 (by omega), c7]
              exact a6
            have h100 : w5.1 100 lv = nI at_ := by
              rw [(x2.2.2.2.2.2.2.2.2.2 lv (by omega)).2, w4e 100 (by decide) (by decide)]
              exact c6
            have hS6 : HS N K F lv P (h' + 1) at_ at_ ra.2.1 (popN lv w5) := by
              refine ⟨⟨s1.hu g6, s2.hu g6, s3.hu g6 (Nat.le_refl _), s4.hu g6 (Nat.le_refl _) hlen, s5⟩, ?_, ⟨?_, ?_, ?_⟩, s10.hu g6⟩
              · unfold popN bump
                rw [wI_s, wI_c (by decide), hh5, nI_1]
              · rw [g6.2.2.1 39 (by decide) (by decide) (by decide)]; exact s7
              · unfold popN bump
                rw [wI_c (by decide), wI_n (by decide)]; exact x3
              · unfold popN bump
                rw [wI_c (by decide), wI_s]; exact h100
            obtain ⟨n2, w7, z1, z2, z3, z4, z5, z6⟩ := ih P (h' + 1) at_ ra.2.1 n1 (popN lv w5) a8 (by omega) hS6 (by omega) k2 hF (by omega)
            refine ⟨n2, w7, by omega, g6.tr z2, z3, fun z => ?_, fun z => ?_, fun z => ?_⟩
            · obtain ⟨v1, v2, v3⟩ := z4 z
              exact ⟨v1, v2, by rw [step, y5, v3]⟩
            · rw [step, y5, z5 z]
            · rw [step, y5, z6 z]
          · rw [if_neg (show ¬ (ra.1, ra.2.1, ([] : List Nd)).1 = 0 from h0)] at hn ⊢
            have hn' : 3 * (ra.2.1 - u) + 1 < n + 1 := hn
            obtain ⟨n1, w5, x1, x2, x3, x4, x5, x6⟩ := key (by omega)
            refine ⟨n1, w5, by show n + 1 ≤ n1 + (3 * (ra.2.1 - u) + 1); omega, g4.tr (x2.mono (by omega) (by omega)), x3, fun z => absurd z hr, fun z => absurd z h0, fun z => ?_⟩
            rw [step, x6 z]
theorem m_MH {N F : Nat} {K : Kd} : ∀ kk, MH N K F kk
  | 0 => m_H_of (m_A_of (fun k' h => by omega))
  | kk + 1 => m_H_of (m_A_of (fun k' h => by
      have e : kk = k' := by omega
      subst e
      exact m_MH kk))
/-- scratch, cost, nodes: all but the stand at level 0 and what is kept -/
def HvM (w w' : Wd) : Prop := w'.2 = w.2 ∧ (∀ k, (k < 60 ∧ k ≠ 50) ∨ (72 < k ∧ k ≠ 74 ∧ k ≠ 75 ∧ (k < 93 ∨ 100 < k)) → w'.1 k = w.1 k) ∧ (∀ j, j ≠ 22 → j ≠ 40 → j ≠ 41 → w'.1 50 j = w.1 50 j) ∧ (∀ j, j < 49 → w'.1 60 j = w.1 60 j) ∧ (∀ j, j < 16 → w'.1 61 j = w.1 61 j) ∧ w'.1 62 0 = w.1 62 0
theorem HvM.rf {w : Wd} : HvM w w := ⟨rfl, fun _ _ => rfl, fun _ _ _ _ => rfl, fun _ _ => rfl, fun _ _ => rfl, rfl⟩
theorem HvM.tr {a b c : Wd} (x : HvM a b) (y : HvM b c) : HvM a c := ⟨y.1.trans x.1, fun k h => (y.2.1 k h).trans (x.2.1 k h), fun j h1 h2 h3 => (y.2.2.1 j h1 h2 h3).trans (x.2.2.1 j h1 h2 h3), fun j h => (y.2.2.2.1 j h).trans (x.2.2.2.1 j h), fun j h => (y.2.2.2.2.1 j h).trans (x.2.2.2.2.1 j h), y.2.2.2.2.2.trans x.2.2.2.2.2⟩
theorem HuM.hv {lv at_ : Nat} {a b : Wd} (x : HuM lv at_ a b) : HvM a b := ⟨x.1, x.2.1, x.2.2.1, fun j h => x.2.2.2.1 j (by omega), fun j h => x.2.2.2.2.1 j (by omega), x.2.2.2.2.2.1 0 (by omega)⟩
theorem UpM.hv {lv l2 : Nat} {a b : Wd} (x : UpM lv l2 a b) : HvM a b := ⟨x.1, fun k h => x.2.1 k (by omega), fun j h _ _ => x.2.2.1 j h, fun j h => x.2.2.2.1 j (by omega), fun j h => x.2.2.2.2.1 j (by omega), x.2.2.2.2.2.1 0 (by omega)⟩
theorem MK.hv {N : Nat} {K : Kd} {w w' : Wd} (x : MK N K w) (u : HvM w w') : MK N K w' := ⟨by rw [u.2.2.1 0 (by decide) (by decide) (by decide)]; exact x.1, x.2.1, x.2.2.1, fun t ht => by rw [u.2.1 53 (by omega), u.2.1 54 (by omega)]; exact x.2.2.2 t ht⟩
theorem MM.hv {K : Kd} {w w' : Wd} (x : MM K w) (u : HvM w w') : MM K w' := fun k hk => by rw [u.2.1 55 (by omega)]; exact x k hk
theorem MP.hv {N : Nat} {P : Ps} {w w' : Wd} (h : MP N 0 P w) (u : HvM w w') : MP N 0 P w' := ⟨h.1, fun q hq => by rw [u.2.2.2.1 _ (by omega)]; exact h.2.1 q hq, fun j hj => by rw [u.2.2.2.2.1 _ (by omega)]; exact h.2.2.1 j hj, by rw [u.2.2.2.2.2]; exact h.2.2.2.1, h.2.2.2.2⟩
theorem m_hunts {N F k u : Nat} {K : Kd} {P : Ps} {w : Wd} (hK : MK N K w) (hM : MM K w) (hP : MP N 0 P w) (hV : VP N K P) (h1 : 1 ≤ k) (h4 : k ≤ 4) (h39 : w.1 50 39 = nI F) (h40 : w.1 50 40 = nI u) (huF : u ≤ F) (hF : F ≤ 1000) :
    ∃ w', f_X10_hunts (nI k) w = some (if (hH N K F k 0 P 0 u).1 = 1 then 1 else if (hH N K F k 0 P 0 u).1 = 2 then -5 else 0, w') ∧ HvM w w' ∧ w'.1 50 40 = nI (hH N K F k 0 P 0 u).2.1 ∧ ((hH N K F k 0 P 0 u).1 = 1 → w'.1 50 41 = nI (hH N K F k 0 P 0 u).2.2.length ∧ NdM 0 (hH N K F k 0 P 0 u).2.2 w') := by
  have h7 := hK.2.1
  have h5 := hK.2.2.1
  have hlen := mov_2000 (K := K) h7 h5 hV.mv
  have g0 : HuM 0 0 w (wdI (wdI w 50 41 0) 99 0 0) := (HuM.i50 (Or.inr rfl)).tr (HuM.i99 (Nat.le_refl _))
  obtain ⟨w1, a1, a2, a3⟩ := m_fM (lv := 0) (by omega) (hK.hu g0) (hM.hu g0) (hP.hu g0 (Nat.le_refl _)) hV
  have a1' : f_X10_findMoves (0 : Int32) (wdI (wdI w 50 41 0) 99 0 0) = some ((), w1) := a1
  have hu1 : ∀ k, 92 < k → w1.1 k = (wdI (wdI w 50 41 0) 99 0 0).1 k := fun k hk => a2.2.1 k (by omega)
  have hS : HS N K F 0 P 0 0 0 u w1 := by
    refine ⟨⟨(hK.hu g0).up a2, (hM.hu g0).up a2, (hP.hu g0 (Nat.le_refl _)).up (Nat.le_refl _) a2, a3, hV⟩, ?_, ⟨?_, ?_, ?_⟩, Or.inl ⟨rfl, rfl⟩⟩
    · rw [hu1 99 (by omega), wI_s]; rfl
    · rw [a2.2.2.1 39 (by decide), wI_c (by decide), wI_n (by decide)]; exact h39
    · rw [a2.2.2.1 40 (by decide), wI_c (by decide), wI_n (by decide)]; exact h40
    · rw [a2.2.2.1 41 (by decide), wI_c (by decide), wI_s]; rfl
  obtain ⟨kk, rfl⟩ : ∃ kk, k = kk + 1 := ⟨k - 1, by omega⟩
  have hok := hH_ok (N := N) (K := K) (kk + 1) 0 P 0 u huF
  have eh : hL F (aA N K F kk 0) P 0 ((movL N K P).filter (gch N K P)) 0 u = hH N K F (kk + 1) 0 P 0 u := rfl
  have key := m_MH (N := N) (F := F) (K := K) kk (kk + 1) 0 rfl (by omega) h4 ((movL N K P).filter (gch N K P)) P 0 0 u FU w1 rfl (Nat.zero_le _) hS (Nat.zero_le _) huF hF
  rw [eh] at key
  obtain ⟨n', w', x1, x2, x3, x4, x5, x6⟩ := key (FU_big (by have := hok.2.1; omega))
  generalize hH N K F (kk + 1) 0 P 0 u = r at *
  obtain ⟨k1, k2, k3, k4⟩ := hok
  unfold f_X10_hunts
  rw [lw_e, if_pos (show inb (0 : Int32) 16 = true by decide), lw_e, show Int32.toNatClampNeg (0 : Int32) = 0 from by decide, a1', bd_s]
  have hout : l_X10_hunts_19 f_X10_hunts_41 f_X10_hunts_79 f_X10_hunts_101 f_X10_hunts_149 f_X10_hunts_186 FU (nI (kk + 1)) (0 : Int32) w1 = some (if r.1 = 1 then 1 else if r.1 = 2 then -5 else 0, w') := by
    show HLp FU (kk + 1) 0 w1 = _
    by_cases q1 : r.1 = 1
    · rw [(x4 q1).2.2, if_pos q1]; rfl
    · rw [if_neg q1]
      by_cases q2 : r.1 = 2
      · rw [x6 q2, if_pos q2]
      · rw [x5 (by omega), if_neg q2]; rfl
  rw [hout]
  refine ⟨w', rfl, ?_, x3, fun z => ⟨?_, (x4 z).2.1⟩⟩
  · exact (g0.hv.tr a2.hv).tr x2.hv
  · have := (x4 z).1
    rw [Nat.zero_add] at this
    exact this
theorem m_hu32 {N F k : Nat} {K : Kd} {P : Ps} (hV : VP N K P) (hk : k ≤ 4) (hF : F ≤ 1000) :
    ∀ (m q n u : Nat) (w : Wd), q + m = k + 1 → 1 ≤ q → m < n → MK N K w → MM K w → MP N 0 P w → w.1 50 39 = nI F → w.1 50 40 = nI u → u ≤ F →
      ∃ w', l_X10_hunt_32 f_X10_hunt_64 f_X10_hunt_88 f_X10_hunt_96 n (nI k) (nI q) w = some (huA (huR N K F P m q u), w') ∧ HvM w w' ∧ (w'.1 50 41 = nI (huT (huR N K F P m q u)).length ∧ w'.1 50 40 = nI (huR N K F P m q u).2.2.1) ∧ NdM 0 (huT (huR N K F P m q u)) w' := by
  intro m
  induction m with
  | zero =>
    intro q n u w hq h1 hn hK hM hP h39 h40 huF
    obtain ⟨n, rfl⟩ : ∃ t, n = t + 1 := ⟨n - 1, by omega⟩
    refine ⟨wdI w 50 41 0, ?_, (HuM.i50 (lv := 0) (at_ := 0) (Or.inr rfl)).hv, ⟨by rw [wI_s]; rfl, by rw [wI_n (by decide)]; exact h40⟩, NdM.nil⟩
    show b_X10_hunt_32 (l_X10_hunt_32 f_X10_hunt_64 f_X10_hunt_88 f_X10_hunt_96 n) f_X10_hunt_64 f_X10_hunt_88 f_X10_hunt_96 (nI k) (nI q) w = _
    unfold b_X10_hunt_32 f_X10_hunt_96
    rw [if_pos (nI_lt (by omega) (by omega))]
    rfl
  | succ m ih =>
    intro q n u w hq h1 hn hK hM hP h39 h40 huF
    obtain ⟨n, rfl⟩ : ∃ t, n = t + 1 := ⟨n - 1, by omega⟩
    obtain ⟨w1, y1, y2, y3, y4⟩ := m_hunts (k := q) hK hM hP hV h1 (by omega) h39 h40 huF hF
    have hok := hH_ok (N := N) (K := K) q 0 P 0 u huF
    have e1 : l_X10_hunt_32 f_X10_hunt_64 f_X10_hunt_88 f_X10_hunt_96 (n + 1) (nI k) (nI q) w = b_X10_hunt_32 (l_X10_hunt_32 f_X10_hunt_64 f_X10_hunt_88 f_X10_hunt_96 n) f_X10_hunt_64 f_X10_hunt_88 f_X10_hunt_96 (nI k) (nI q) w := rfl
    rw [e1]
    unfold b_X10_hunt_32 huR
    rw [if_neg (nI_nlt (by omega) (by omega)), y1, bd_s]
    generalize hH N K F q 0 P 0 u = r at *
    obtain ⟨k1, k2, k3, k4⟩ := hok
    have h0f : HvM w (wdI w1 50 41 0) := y2.tr (HuM.i50 (lv := 0) (at_ := 0) (Or.inr rfl)).hv
    by_cases h : r.1 = 1
    · have := k4 h
      obtain ⟨z1, z2⟩ := y4 h
      rw [if_pos h, if_neg (by decide), if_pos rfl, z1, if_pos h]
      unfold f_X10_hunt_83 f_X10_hunt_64 f_X10_hunt_82 f_X10_hunt_88 huA huT
      by_cases h5 : r.2.2.length ≤ 500
      · rw [if_pos (show nI r.2.2.length ≤ (500 : Int32) from nI_le (b := 500) h5 (by omega)), if_pos rfl]
        refine ⟨w1, ?_, y2, ⟨?_, y3⟩, ?_⟩
        · simp [h5]
        · simp [h5]; exact z1
        · simpa [h5] using z2
      · rw [if_neg (show ¬ nI r.2.2.length ≤ (500 : Int32) from nI_ge (a := 500) (by omega) (by omega)), lw_e, if_neg (by decide)]
        refine ⟨wdI w1 50 41 0, ?_, h0f, ⟨?_, ?_⟩, ?_⟩
        · simp [h5]
        · rw [wI_s]; simp [h5]; rfl
        · rw [wI_n (by decide)]; exact y3
        · simp [h5]; exact NdM.nil
    · rw [if_neg h, if_neg h]
      by_cases h2 : r.1 = 2
      · rw [if_pos h2, if_pos rfl, if_pos h2]
        unfold f_X10_hunt_64 f_X10_hunt_82
        rw [lw_e, if_pos rfl]
        refine ⟨wdI w1 50 41 0, rfl, h0f, ⟨by rw [wI_s]; rfl, by rw [wI_n (by decide)]; exact y3⟩, NdM.nil⟩
      · rw [if_neg h2, if_neg (by decide), if_neg (by decide), if_neg h2]
        unfold f_X10_hunt_83
        rw [if_neg (by decide), nI_1]
        obtain ⟨w', i1, i2, i3, i4⟩ := ih (q + 1) n r.2.1 w1 (by omega) (by omega) (by omega) (hK.hv y2) (hM.hv y2) (hP.hv y2) (by rw [y2.2.2.1 39 (by decide) (by decide) (by decide)]; exact h39) y3 k2
        exact ⟨w', i1, y2.tr i2, i3, i4⟩
theorem m_hunt {N F k : Nat} {K : Kd} {P : Ps} {w : Wd} (hK : MK N K w) (hM : MM K w) (hP : MP N 0 P w) (hV : VP N K P) (h1 : 1 ≤ k) (h4 : k ≤ 4) (hst : w.1 50 25 ≠ 0) (h39 : w.1 50 39 = nI F) (hF : F ≤ 1000) :
    ∃ w', f_X10_hunt (nI k) w = some (huA (huR N K F P k 1 0), w') ∧ HvM w w' ∧ (w'.1 50 41 = nI (huT (huR N K F P k 1 0)).length ∧ w'.1 50 40 = nI (huR N K F P k 1 0).2.2.1) ∧ NdM 0 (huT (huR N K F P k 1 0)) w' := by
  have g0 : HvM w (wdI w 50 40 0) := (HuM.i50 (lv := 0) (at_ := 0) (Or.inl rfl)).hv
  have e0 := m_in1l (nI k) 1 4 (by omega) (by omega) w
  have e0' : f_X10_in (Int32.toInt64 (nI k)) (1 : Int64) (4 : Int64) w = some (1, w) := by
    refine Eq.trans e0 ?_
    rw [if_pos ⟨nI_le h1 (by omega), nI_le h4 (by omega)⟩]
  obtain ⟨w', i1, i2, i3, i4⟩ := m_hu32 hV h4 hF k 1 FU 0 (wdI w 50 40 0) (by omega) (by omega) (FU_big (by omega)) (hK.hv g0) (hM.hv g0) (hP.hv g0) (by rw [wI_n (by decide)]; exact h39) (by rw [wI_s]; rfl) (Nat.zero_le _)
  refine ⟨w', ?_, g0.tr i2, i3, i4⟩
  unfold f_X10_hunt
  rw [e0', bd_s, if_neg (by decide), if_neg hst, lw_e]
  exact i1
