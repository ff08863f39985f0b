/-! ===== the class: hunts ===== -/
/-- what a hunt of k of the class does -/
def HX (N : Nat) (K : Kd) (F k : Nat) (Qf : Int32 → Int32 → Int32 → Wd → Option (Int32 × Wd)) : Prop := ∀ (P : Ps) (w : Wd) (sg at_ u dep : Nat), XA N K P w → VP N K P → 2 ≤ sg → sg + 2 * k ≤ 10 → ChN F at_ u false w → at_ ≤ u → u ≤ F → F ≤ 1000 →
  ∃ w', Qf (nI k) (pv at_) (nI sg) w = some (b2i (decide ((hH N K F k dep P at_ u).1 = 1)), w') ∧ ChX N sg at_ w w' ∧ XA N K P w' ∧ ChN F (if (hH N K F k dep P at_ u).1 = 1 then at_ + (hH N K F k dep P at_ u).2.2.length else at_) (hH N K F k dep P at_ u).2.1 (decide ((hH N K F k dep P at_ u).1 = 2)) w' ∧ ((hH N K F k dep P at_ u).1 = 1 → NdX at_ (hH N K F k dep P at_ u).2.2 w')
theorem LIn.ch {N sg s2 at_ a : Nat} {T : List Nat} {w w' : Wd} (h : LIn a T w) (u : ChX N sg at_ w w') (h1 : 27 * (N * N) ≤ a) (h2 : a + T.length ≤ sg * (27 * (N * N))) : LIn a T w' := fun j c hj => by
  have hjl : j < T.length := (List.getElem?_eq_some_iff.mp hj).1
  rw [u.2.2.2.1 _ (by omega) (by omega)]
  exact h j c hj
theorem x_ag_stop {N n : Nat} {Qf : Int32 → Int32 → Int32 → Wd → Option (Int32 × Wd)} {v1 v4 v5 v6 v8 : Int32} {w : Wd} : l_X0_answersGo_40 N Qf (f_X0_answersGo_159 N Qf) (n + 1) v1 v4 v5 v6 (0 : Int32) v8 w = f_X0_answersGo_159 N Qf v5 (0 : Int32) w := by
  show b_X0_answersGo_40 N Qf (l_X0_answersGo_40 N Qf (f_X0_answersGo_159 N Qf) n) (f_X0_answersGo_159 N Qf) v1 v4 v5 v6 (0 : Int32) v8 w = _
  unfold b_X0_answersGo_40
  split
  · rfl
  · rw [if_pos rfl]
theorem x_ag40 {N F k sg nd dep : Nat} {K : Kd} {Q : Ps} {Qf : Int32 → Int32 → Int32 → Wd → Option (Int32 × Wd)} (hQ : HX N K F k Qf) (hV : VP N K Q) (hsg : 1 ≤ sg) (hsk : sg + 1 + 2 * k ≤ 10) (hF : F ≤ 1000) :
    ∀ (D : List Nat) (j n at_ u : Nat) (w : Wd), (triL N K Q).drop j = D → j + D.length = (triL N K Q).length → D.length + 1 < n → XA N K Q w → LIn (sg * (27 * (N * N))) ((triL N K Q).map (tc Q.1)) w → ChN F at_ u false w → at_ ≤ u → u ≤ F →
      ∃ w', l_X0_answersGo_40 N Qf (f_X0_answersGo_159 N Qf) n (nI (k + 1)) (nI sg) (nI nd) (nI (sg * (27 * (N * N)) + (triL N K Q).length)) (1 : Int32) (nI (sg * (27 * (N * N)) + j)) w = f_X0_answersGo_159 N Qf (nI nd) (b2i (decide ((aL F (hH N K F k (dep + 2)) Q (nd + 1) (dep + 1) (D.filter (lawf N K Q)) at_ u).1 = 1))) w' ∧ ChX N sg at_ w w' ∧ XA N K Q w' ∧ (w'.1 29 6 = nI F ∧ w'.1 29 7 = nI (aL F (hH N K F k (dep + 2)) Q (nd + 1) (dep + 1) (D.filter (lawf N K Q)) at_ u).2.1 ∧ w'.1 29 8 = b2i (decide ((aL F (hH N K F k (dep + 2)) Q (nd + 1) (dep + 1) (D.filter (lawf N K Q)) at_ u).1 = 2))) ∧ ((aL F (hH N K F k (dep + 2)) Q (nd + 1) (dep + 1) (D.filter (lawf N K Q)) at_ u).1 = 1 → w'.1 29 5 = nI (at_ + (aL F (hH N K F k (dep + 2)) Q (nd + 1) (dep + 1) (D.filter (lawf N K Q)) at_ u).2.2.length) ∧ NdX at_ (aL F (hH N K F k (dep + 2)) Q (nd + 1) (dep + 1) (D.filter (lawf N K Q)) at_ u).2.2 w') := by
  intro D
  induction D with
  | nil =>
    intro j n at_ u w hD hj hn hA hL hC hau huF
    obtain ⟨n, rfl⟩ : ∃ q, n = q + 1 := ⟨n - 1, by omega⟩
    have hNN := NN_le hA.n7
    have hlen := tri_len (K := K) hA.n7 hA.n5 hV.mv
    have b2 : (sg + 1) * (27 * (N * N)) ≤ 10 * (27 * (N * N)) := Nat.mul_le_mul_right _ (by omega)
    have b3 : (sg + 1) * (27 * (N * N)) = sg * (27 * (N * N)) + 27 * (N * N) := Nat.succ_mul _ _
    rw [List.length_nil] at hj
    rw [List.filter_nil]
    unfold aL
    refine ⟨w, ?_, ChX.rf, hA, ⟨hC.2.1, hC.2.2.1, hC.2.2.2⟩, fun _ => ⟨hC.1, NdX.nil⟩⟩
    show b_X0_answersGo_40 N Qf (l_X0_answersGo_40 N Qf (f_X0_answersGo_159 N Qf) n) (f_X0_answersGo_159 N Qf) (nI (k + 1)) (nI sg) (nI nd) (nI (sg * (27 * (N * N)) + (triL N K Q).length)) (1 : Int32) (nI (sg * (27 * (N * N)) + j)) w = _
    unfold b_X0_answersGo_40
    rw [if_pos (nI_le (by omega) (by omega))]
    rfl
  | cons a D ih =>
    intro j n at_ u w hD hj hn hA hL hC hau huF
    rw [List.length_cons] at hj hn
    obtain ⟨n, rfl⟩ : ∃ q, n = q + 1 := ⟨n - 1, by omega⟩
    have h7 := hA.n7
    have h5 := hA.n5
    have hNN := NN_le h7
    have hlen := tri_len (K := K) h7 h5 hV.mv
    have b1 : 27 * (N * N) ≤ sg * (27 * (N * N)) := Nat.le_mul_of_pos_left _ hsg
    have b2 : (sg + 1) * (27 * (N * N)) ≤ 10 * (27 * (N * N)) := Nat.mul_le_mul_right _ (by omega)
    have b3 : (sg + 1) * (27 * (N * N)) = sg * (27 * (N * N)) + 27 * (N * N) := Nat.succ_mul _ _
    obtain ⟨hg, hD2⟩ := drop_c hD
    have ham : a ∈ triL N K Q := List.mem_of_getElem? hg
    have ha6 := tri_code h7 ham
    have hb := hV.le (ct a)
    have hcell : w.1 28 (sg * (27 * (N * N)) + j) = nI (tc Q.1 a) := hL j (tc Q.1 a) (by rw [List.getElem?_map, hg]; rfl)
    obtain ⟨w1, p1, p2, p3⟩ := x_app hA hV ham
    obtain ⟨w2, q1, q2, q3⟩ := x_holds p3 hV ham hb
    have q1' : f_X5_holds N (nI (tc Q.1 a)) w1 = some (b2i (lawf N K Q a), w2) := q1
    have e1 : l_X0_answersGo_40 N Qf (f_X0_answersGo_159 N Qf) (n + 1) (nI (k + 1)) (nI sg) (nI nd) (nI (sg * (27 * (N * N)) + (triL N K Q).length)) (1 : Int32) (nI (sg * (27 * (N * N)) + j)) w = b_X0_answersGo_40 N Qf (l_X0_answersGo_40 N Qf (f_X0_answersGo_159 N Qf) n) (f_X0_answersGo_159 N Qf) (nI (k + 1)) (nI sg) (nI nd) (nI (sg * (27 * (N * N)) + (triL N K Q).length)) (1 : Int32) (nI (sg * (27 * (N * N)) + j)) w := rfl
    have c2 : ∀ s t, ChX N s t w w2 := fun s t => p2.ch.tr q2.ch0
    have hC2 : ChN F at_ u false w2 := hC.of (by rw [q2.2.1 29 (by omega), p2.2.1 29 (by omega)])
    rw [e1, List.filter_cons]
    unfold b_X0_answersGo_40
    rw [if_neg (nI_ge (by omega) (by omega)), if_neg (by decide), inb_nI (show sg * (27 * (N * N)) + j < 270 * (N * N) by omega) (by omega), if_pos rfl, lt_e, nI_clamp (by omega), hcell, p1, bd_s, q1', bd_s, b2_0]
    have lmono : ∀ s t (x : Wd), sg + 1 ≤ s → ChX N s t w x → LIn (sg * (27 * (N * N))) ((triL N K Q).map (tc Q.1)) x := fun s t x hs hx => by
      have hss : (sg + 1) * (27 * (N * N)) ≤ s * (27 * (N * N)) := Nat.mul_le_mul_right _ hs
      exact hL.ch (s2 := 0) hx b1 (by rw [List.length_map]; omega)
    cases hl : lawf N K Q a with
    | false =>
      obtain ⟨w3, r1, r2, r3⟩ := x_rev q3 hV ham
      rw [if_neg (by decide), if_neg (by decide)]
      unfold f_X0_answersGo_144
      rw [r1, bd_s, nI_1, Nat.add_assoc]
      have c3 : ∀ s t, ChX N s t w w3 := fun s t => (c2 s t).tr r2.ch
      obtain ⟨w', i1, i2, i3, i4, i5⟩ := ih (j + 1) n at_ u w3 hD2 (by omega) (by omega) r3 (lmono (sg + 1) 0 w3 (Nat.le_refl _) (c3 _ _)) (hC2.of (by rw [r2.2.1 29 (by omega)])) hau huF
      exact ⟨w', i1, (c3 _ _).tr i2, i3, i4, i5⟩
    | true =>
      obtain ⟨w3, s1, s2, s3, s4⟩ := x_addNode (N := N) (sg := sg + 1) (v2 := nI nd) ha6 hb hC2 hau huF hF
      have s1' : f_X0_addNode N (nI (tc Q.1 a)) (nI nd) w2 = some (if F ≤ u then -1 else nI at_, w3) := s1
      have hA3 : XA N K (mkP Q a) w3 := q3.oth (fun k hk => s3 k (by omega))
      rw [if_pos rfl, if_pos rfl, s1', bd_s]
      unfold aL
      by_cases hq : F ≤ u
      · rw [if_pos hq] at s4
        rw [if_pos hq, if_pos hq, if_pos (by decide)]
        obtain ⟨w4, r1, r2, r3⟩ := x_rev hA3 hV ham
        unfold f_X0_answersGo_120 f_X0_answersGo_121 f_X0_answersGo_144
        obtain ⟨n, rfl⟩ : ∃ q, n = q + 1 := ⟨n - 1, by omega⟩
        rw [if_pos rfl, r1, bd_s, x_ag_stop]
        refine ⟨w4, rfl, ((c2 _ _).tr (s2.mono (by omega) (Nat.le_refl _))).tr r2.ch, r3, ?_, fun z => by cases z⟩
        rw [r2.2.1 29 (by omega)]
        exact ⟨s4.2.1, s4.2.2.1, s4.2.2.2⟩
      · rw [if_neg hq] at s4
        obtain ⟨t1, t2, t3⟩ := s4
        have hsafe : safe N K Q a = true := by
          rw [lawf_e] at hl
          cases hs : safe N K Q a with
          | true => rfl
          | false => rw [hs] at hl; cases hl
        obtain ⟨w4, y1, y2, y3, y4, y5⟩ := hQ (mkP Q a) w3 (sg + 1) (at_ + 1) (u + 1) (dep + 2) hA3 (mk_VP h7 h5 hV ham hsafe) (by omega) (by omega) t1 (by omega) (by omega) hF
        have hok := hH_ok (N := N) (K := K) k (dep + 2) (mkP Q a) (at_ + 1) (u + 1) (show u + 1 ≤ F by omega)
        rw [pv_s] at y1
        rw [if_neg hq, if_neg hq, if_neg (nI_pos (by omega)), nI_pred, nI_1, y1, bd_s, b2_0]
        generalize hH N K F k (dep + 2) (mkP Q a) (at_ + 1) (u + 1) = rr at *
        obtain ⟨k1, k2, k3, k4⟩ := hok
        have c4 : ChX N sg at_ w w4 := ((c2 _ _).tr (s2.mono (by omega) (Nat.le_refl _))).tr (y2.mono (by omega) (by omega))
        have c4' : ChX N (sg + 1) 0 w w4 := ((c2 _ _).tr (s2.mono (Nat.le_refl _) (Nat.zero_le _))).tr (y2.mono (Nat.le_refl _) (Nat.zero_le _))
        by_cases hr : rr.1 = 1
        · rw [if_pos hr] at y4
          have k4' := k4 hr
          have y5' := y5 hr
          rw [decide_eq_true hr, if_pos rfl, if_pos hr]
          obtain ⟨z5, z6, z7, z8⟩ := y4
          have hin : nI (at_ + 1 + rr.2.2.length) - nI at_ - (1 : Int32) = nI rr.2.2.length := by
            rw [pk_sub (by omega), show at_ + 1 + rr.2.2.length - at_ = rr.2.2.length + 1 by omega, nI_pred]
          unfold f_X0_answersGo_121
          rw [if_neg (by decide), inb_nI (show at_ < 1000 by omega) (by omega), if_pos rfl, lw_e, nI_clamp (by omega), z5, hin]
          have hA5 : XA N K (mkP Q a) (wdI w4 32 at_ (nI rr.2.2.length)) := y3.oth (fun k hk => wI_c (by omega))
          obtain ⟨w5, r1, r2, r3⟩ := x_rev hA5 hV ham
          unfold f_X0_answersGo_144
          rw [r1, bd_s, nI_1, Nat.add_assoc]
          have c5 : ChX N sg at_ w w5 := (c4.tr (ChX.iN (by omega) (Nat.le_refl _))).tr r2.ch
          have c5' : ChX N (sg + 1) 0 w w5 := (c4'.tr (ChX.iN (by omega) (Nat.zero_le _))).tr r2.ch
          have h29 : w5.1 29 = w4.1 29 := by rw [r2.2.1 29 (by omega), wI_c (by decide)]
          have hnode : w5.1 30 at_ = nI a ∧ w5.1 31 at_ = nI nd ∧ w5.1 32 at_ = nI rr.2.2.length := by
            obtain ⟨g1, g2, g3⟩ := y2.2.2.2.2.2 at_ (by omega)
            rw [r2.2.1 30 (by omega), r2.2.1 31 (by omega), r2.2.1 32 (by omega), wI_c (by decide), wI_c (by decide), wI_s, g1, g2]
            exact ⟨t2, t3, rfl⟩
          have hnd5 : NdX (at_ + 1) rr.2.2 w5 := fun i e hi => by
            rw [r2.2.1 30 (by omega), r2.2.1 31 (by omega), r2.2.1 32 (by omega), wI_c (by decide), wI_c (by decide), wI_n (by omega)]
            exact y5' i e hi
          obtain ⟨w', i1, i2, i3, i4, i5⟩ := ih (j + 1) n (at_ + 1 + rr.2.2.length) rr.2.1 w5 hD2 (by omega) (by omega) r3 (lmono (sg + 1) 0 w5 (Nat.le_refl _) c5') (by
            unfold ChN
            rw [h29]
            refine ⟨z5, z6, z7, ?_⟩
            rw [z8, hr]
            rfl) (by omega) k2
          generalize aL F (hH N K F k (dep + 2)) Q (nd + 1) (dep + 1) (D.filter (lawf N K Q)) (at_ + 1 + rr.2.2.length) rr.2.1 = s at *
          have c6 : ChX N sg at_ w w' := c5.tr (i2.mono (Nat.le_refl _) (by omega))
          by_cases hs : s.1 = 1
          · rw [if_pos hs]
            refine ⟨w', ?_, c6, i3, ?_, fun _ => ?_⟩
            · rw [i1, hs]
            · rw [hs] at i4
              exact i4
            · obtain ⟨j1, j2⟩ := i5 hs
              refine ⟨?_, ?_⟩
              · rw [j1]
                congr 1
                rw [List.length_cons, List.length_append]
                omega
              · obtain ⟨g1, g2, g3⟩ := i2.2.2.2.2.2 at_ (by omega)
                refine NdX.cons ?_ (NdX.app (hnd5.ch i2 (by omega)) j2)
                rw [g1, g2, g3, pv_s]
                exact hnode
          · rw [if_neg hs]
            exact ⟨w', i1, c6, i3, i4, fun z => absurd z hs⟩
        · rw [if_neg hr] at y4
          rw [decide_eq_false hr, if_neg (by decide), if_neg hr]
          unfold f_X0_answersGo_120 f_X0_answersGo_121 f_X0_answersGo_144
          obtain ⟨w5, r1, r2, r3⟩ := x_rev y3 hV ham
          obtain ⟨n, rfl⟩ : ∃ q, n = q + 1 := ⟨n - 1, by omega⟩
          rw [if_pos rfl, r1, bd_s, x_ag_stop]
          refine ⟨w5, ?_, c4.tr r2.ch, r3, ?_, fun z => absurd z hr⟩
          · rw [decide_eq_false hr]; rfl
          · rw [r2.2.1 29 (by omega)]
            exact ⟨y4.2.1, y4.2.2.1, y4.2.2.2⟩
/-- a move of the hunter's with its answers -/
def oneH (N : Nat) (K : Kd) (F k dep : Nat) (P : Ps) (c at_ u : Nat) : Rs :=
  if F ≤ u then (2, u, [])
  else if (aA N K F k dep (mkP P c) (at_ + 1) (u + 1)).1 = 1 then (1, (aA N K F k dep (mkP P c) (at_ + 1) (u + 1)).2.1, (c, at_, dep, (aA N K F k dep (mkP P c) (at_ + 1) (u + 1)).2.2.length) :: (aA N K F k dep (mkP P c) (at_ + 1) (u + 1)).2.2)
  else ((aA N K F k dep (mkP P c) (at_ + 1) (u + 1)).1, (aA N K F k dep (mkP P c) (at_ + 1) (u + 1)).2.1, [])
theorem oneH_ok {N F k dep c at_ u : Nat} {K : Kd} {P : Ps} (hu : u ≤ F) : okR F u (oneH N K F k dep P c at_ u) := by
  unfold oneH
  by_cases q : F ≤ u
  · rw [if_pos q]
    exact ⟨Nat.le_refl _, hu, (by decide : (2 : Nat) ≤ 2), fun z => by cases z⟩
  · rw [if_neg q]
    have h1 := aA_ok (N := N) (K := K) (k := k) (dep := dep) (Q := mkP P c) (at_ := at_ + 1) (show u + 1 ≤ F by omega)
    generalize aA N K F k dep (mkP P c) (at_ + 1) (u + 1) = r at h1
    obtain ⟨a1, a2, a3, a4⟩ := h1
    by_cases q1 : r.1 = 1
    · rw [if_pos q1]
      have := a4 q1
      refine ⟨by show u ≤ r.2.1; omega, a2, (by decide : (1 : Nat) ≤ 2), fun _ => ?_⟩
      show u + ((c, at_, dep, r.2.2.length) :: r.2.2).length ≤ r.2.1
      rw [List.length_cons]
      omega
    · rw [if_neg q1]
      exact ⟨by show u ≤ r.2.1; omega, a2, a3, fun z => absurd z q1⟩
theorem hL_one {N F k dep c at_ u : Nat} {K : Kd} {P : Ps} {cs : List Nat} : hL F (aA N K F k dep) P dep (c :: cs) at_ u = if (oneH N K F k dep P c at_ u).1 = 0 then hL F (aA N K F k dep) P dep cs at_ (oneH N K F k dep P c at_ u).2.1 else oneH N K F k dep P c at_ u := by
  conv => lhs; unfold hL
  unfold oneH
  by_cases q : F ≤ u
  · rw [if_pos q, if_pos q, if_neg (by exact (by decide : ¬ (2 : Nat) = 0))]
  · rw [if_neg q, if_neg q]
    by_cases hu : u + 1 ≤ F
    · have h1 := aA_ok (N := N) (K := K) (k := k) (dep := dep) (Q := mkP P c) (at_ := at_ + 1) hu
      generalize aA N K F k dep (mkP P c) (at_ + 1) (u + 1) = r at h1
      obtain ⟨a1, a2, a3, a4⟩ := h1
      by_cases q1 : r.1 = 1
      · rw [if_pos q1, if_pos q1, if_neg (by exact (by decide : ¬ (1 : Nat) = 0))]
      · rw [if_neg q1, if_neg q1]
        by_cases q2 : r.1 = 2
        · rw [if_pos q2]
          rw [if_neg (show ¬ (r.1, r.2.1, ([] : List Nd)).1 = 0 from fun z => by rw [show r.1 = 0 from z] at q2; cases q2)]
          rw [q2]
        · rw [if_neg q2, if_pos (show (r.1, r.2.1, ([] : List Nd)).1 = 0 by show r.1 = 0; omega)]
    · omega
theorem x_answersGo {N F k sg at_ u dep c : Nat} {K : Kd} {P : Ps} {w : Wd} {Qf : Int32 → Int32 → Int32 → Wd → Option (Int32 × Wd)} (hQ : HX N K F k Qf) (hA : XA N K (mkP P c) w) (hV : VP N K (mkP P c)) (hc6 : c < 65536) (hb : P.1 (ct c) ≤ 32) (hsg : 1 ≤ sg) (hsk : sg + 1 + 2 * k ≤ 10) (hC : ChN F at_ u false w) (hau : at_ ≤ u) (huF : u ≤ F) (hF : F ≤ 1000) :
    ∃ w', f_X0_answersGo N Qf (nI (k + 1)) (nI (tc P.1 c)) (pv at_) (nI sg) w = some (b2i (decide ((oneH N K F k dep P c at_ u).1 = 1)), w') ∧ ChX N sg at_ w w' ∧ XA N K (mkP P c) w' ∧ ChN F (if (oneH N K F k dep P c at_ u).1 = 1 then at_ + (oneH N K F k dep P c at_ u).2.2.length else at_) (oneH N K F k dep P c at_ u).2.1 (decide ((oneH N K F k dep P c at_ u).1 = 2)) w' ∧ ((oneH N K F k dep P c at_ u).1 = 1 → NdX at_ (oneH N K F k dep P c at_ u).2.2 w') := by
  have h7 := hA.n7
  have h5 := hA.n5
  have hNN := NN_le h7
  obtain ⟨w1, s1, s2, s3, s4⟩ := x_addNode (N := N) (sg := sg) (v2 := pv at_) hc6 hb hC hau huF hF
  have s1' : f_X0_addNode N (nI (tc P.1 c)) (pv at_) w = some (if F ≤ u then -1 else nI at_, w1) := s1
  have hA1 : XA N K (mkP P c) w1 := hA.oth (fun k hk => s3 k (by omega))
  unfold f_X0_answersGo oneH
  rw [s1', bd_s]
  by_cases hq : F ≤ u
  · rw [if_pos hq] at s4
    rw [if_pos hq, if_pos hq, if_neg (by decide), zb0, if_pos rfl]
    refine ⟨w1, rfl, s2, hA1, ?_, fun z => by cases z⟩
    rw [if_neg (by exact (by decide : ¬ (2 : Nat) = 1))]
    exact s4
  · rw [if_neg hq] at s4
    obtain ⟨t1, t2, t3⟩ := s4
    have hlen := tri_len (K := K) h7 h5 hV.mv
    have b1 : 27 * (N * N) ≤ sg * (27 * (N * N)) := Nat.le_mul_of_pos_left _ hsg
    have b2 : (sg + 1) * (27 * (N * N)) ≤ 10 * (27 * (N * N)) := Nat.mul_le_mul_right _ (by omega)
    have b3 : (sg + 1) * (27 * (N * N)) = sg * (27 * (N * N)) + 27 * (N * N) := Nat.succ_mul _ _
    obtain ⟨w2, f1, f2, f3⟩ := x_fill (sg := sg) (hi := (sg + 1) * (27 * (N * N))) (by omega) hA1.2.2.2.2.2 hA1.1 hA1.2.1 hA1.2.2.1 hA1.2.2.2.1 (by omega)
    have hA2 := hA1.seg f2
    have e29 : w2.1 29 = w1.1 29 := f2.2.1 29 (by decide) (by decide)
    obtain ⟨w3, i1, i2, i3, i4, i5⟩ := x_ag40 (nd := at_) (dep := dep) hQ hV hsg hsk hF (triL N K (mkP P c)) 0 FU (at_ + 1) (u + 1) w2 rfl (by omega) (FU_big (by omega)) hA2 f3 (t1.of e29) (by omega) (by omega)
    have ea : aL F (hH N K F k (dep + 2)) (mkP P c) (at_ + 1) (dep + 1) ((triL N K (mkP P c)).filter (lawf N K (mkP P c))) (at_ + 1) (u + 1) = aA N K F k dep (mkP P c) (at_ + 1) (u + 1) := rfl
    have hok := aA_ok (N := N) (K := K) (k := k) (dep := dep) (Q := mkP P c) (at_ := at_ + 1) (show u + 1 ≤ F by omega)
    rw [ea] at i1 i4 i5
    generalize aA N K F k dep (mkP P c) (at_ + 1) (u + 1) = r at *
    obtain ⟨k1, k2, k3, k4⟩ := hok
    unfold f_X5_startOf
    rw [if_neg hq, if_neg hq, if_pos (nI_pos' (by omega)), f1, bd_s, hA2.2.2.2.2.2, pk_mul, bd_s]
    rw [show sg * (27 * (N * N)) + 0 = sg * (27 * (N * N)) from rfl] at i1
    rw [i1]
    have c3 : ChX N sg at_ w w3 := (s2.tr (f2.fr.ch)).tr (i2.mono (Nat.le_refl _) (by omega))
    have hnode : w3.1 30 at_ = nI c ∧ w3.1 31 at_ = pv at_ := by
      obtain ⟨g1, g2, g3⟩ := i2.2.2.2.2.2 at_ (by omega)
      rw [g1, g2, f2.2.1 30 (by decide) (by decide), f2.2.1 31 (by decide) (by decide)]
      exact ⟨t2, t3⟩
    unfold f_X0_answersGo_159 f_X0_answersGo_189
    by_cases hr : r.1 = 1
    · obtain ⟨j1, j2⟩ := i5 hr
      have k4' := k4 hr
      have hin : nI (at_ + 1 + r.2.2.length) - nI at_ - (1 : Int32) = nI r.2.2.length := by
        rw [pk_sub (by omega), show at_ + 1 + r.2.2.length - at_ = r.2.2.length + 1 by omega, nI_pred]
      rw [decide_eq_true hr, if_neg (by decide), inb_nI (show at_ < 1000 by omega) (by omega), if_pos rfl, lw_e, nI_clamp (by omega), j1, hin, b2i_zb, if_pos rfl, if_pos hr]
      refine ⟨_, rfl, c3.tr (ChX.iN (by omega) (Nat.le_refl _)), i3.oth (fun k hk => wI_c (by omega)), ?_, fun _ => ?_⟩
      · rw [if_pos rfl]
        unfold ChN
        rw [wI_c (by decide)]
        refine ⟨?_, i4.1, i4.2.1, ?_⟩
        · rw [j1]
          congr 1
          rw [List.length_cons]
          omega
        · rw [i4.2.2, hr]
      · refine NdX.cons ?_ (fun i e hi => ?_)
        · rw [wI_c (by decide), wI_c (by decide), wI_s]
          exact ⟨hnode.1, hnode.2, rfl⟩
        · rw [wI_c (by decide), wI_c (by decide), wI_n (by omega)]
          exact j2 i e hi
    · rw [decide_eq_false hr, if_pos (by decide), lw_e, b2i_zb, if_pos rfl, if_neg hr]
      refine ⟨wdI w3 29 5 (nI at_), ?_, c3.tr (ChX.i29 (Or.inl rfl)), i3.oth (fun k hk => wI_c (by omega)), ?_, fun z => absurd z hr⟩
      · rw [decide_eq_false hr]
      · rw [if_neg hr]
        unfold ChN
        rw [wI_s, wI_n (by decide), wI_n (by decide), wI_n (by decide)]
        exact ⟨rfl, i4.1, i4.2.1, i4.2.2⟩
