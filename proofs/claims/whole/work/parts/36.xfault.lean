/-! ===== the class: faultOf ===== -/
theorem cd_to0 {c : Nat} (hc : c < 65536) : nI c &&& (63 : Int32) = nI (ct c) := by
  have := cd_to (a := 0) hc (by omega)
  rw [Nat.mul_zero, Nat.add_zero] at this
  exact this
theorem cd_from0 {c : Nat} (hc : c < 65536) : (nI c >>> ((6 : Int32) &&& 31)) &&& (63 : Int32) = nI (cf c) := by
  have := cd_from (a := 0) hc (by omega)
  rw [Nat.mul_zero, Nat.add_zero] at this
  exact this
theorem cd_kind0 {c : Nat} (hc : c < 65536) : (nI c >>> ((13 : Int32) &&& 31)) &&& (7 : Int32) = nI (ck c) := by
  have := cd_kind (a := 0) hc (by omega)
  rw [Nat.mul_zero, Nat.add_zero] at this
  exact this
theorem x_isSetting0 {c : Nat} (hc : c < 65536) (w : Wd) : f_X3_isSetting (nI c) w = some (b2i (decide (cf c = 63)), w) := by
  have := x_isSetting (a := 0) hc (by omega) w
  rw [Nat.mul_zero, Nat.add_zero] at this
  exact this
theorem x_raises {c a : Nat} (hc : c < 65536) (ha : a ≤ 32) (w : Wd) : f_X3_raises (nI (c + 65536 * a)) w = some (nI (cr c), w) := by
  have h2 := cr_lt c
  unfold f_X3_raises f_X3_raises_13
  rw [zb0, zb1, if_pos rfl, if_pos rfl]
  by_cases q : cr c = 0
  · rw [if_pos ((cd_raise hc ha).mpr q), q]; rfl
  · rw [if_neg (fun z => q ((cd_raise hc ha).mp z)), show cr c = 1 by omega]; rfl
theorem x_raises0 {c : Nat} (hc : c < 65536) (w : Wd) : f_X3_raises (nI c) w = some (nI (cr c), w) := by
  have := x_raises (a := 0) hc (by omega) w
  rw [Nat.mul_zero, Nat.add_zero] at this
  exact this
theorem own_e {s m : Nat} (hs : s < 2) (hm : m ≤ 32) : ((if m = 0 then (-1 : Int32) else nI (sd m)) = nI s) ↔ (m ≠ 0 ∧ sd m = s) := by
  rw [isOf_e hs hm]
  unfold isOf
  rw [Bool.and_eq_true, decide_eq_true_eq, decide_eq_true_eq]
theorem cr_0 {c : Nat} : (nI (cr c) = (0 : Int32)) ↔ cr c = 0 := by
  have := cr_lt c
  rcases (show cr c = 0 ∨ cr c = 1 by omega) with h | h <;> rw [h] <;> decide
theorem SameX.fr {N lo hi : Nat} {a b : Wd} (x : SameX a b) : FrX N lo hi a b := (x.seg (lo := lo) (hi := hi)).fr
theorem XA.same {N : Nat} {K : Kd} {P : Ps} {w w' : Wd} (h : XA N K P w) (s : SameX w w') : XA N K P w' := h.seg (s.seg (lo := 0) (hi := 0))
theorem x_faultOfGoing {N c : Nat} {K : Kd} {P : Ps} {w : Wd} (hA : XA N K P w) (hV : VB N P) (hF : okF N c) (hg : cf c ≠ 63) : ∃ w', f_X5_faultOfGoing N (nI c) w = some (nI (fltG N K P c), w') ∧ SameX w w' := by
  have hNN := NN_le hA.n7
  have hc6 := okF_lt hA.n7 hF
  have hm := hV.mv
  obtain ⟨ht, hF⟩ := hF
  have hf : cf c < N * N := by
    rcases hF with h | h
    · exact absurd h.1 hg
    · exact h.2.1
  obtain ⟨hK, hD, hW, hP, hG, hwd⟩ := hA
  have hb1 := hP.1 (cf c) hf
  have hb2 := hP.1 (ct c) ht
  unfold f_X5_faultOfGoing fltG
  rw [lt_e, lt_e, cd_from0 hc6, cd_to0 hc6, inb_nI hf (by omega), if_pos rfl, lt_e, nI_clamp (show cf c < 2 ^ 31 by omega), hb1.1, inb_nI ht (by omega), if_pos rfl, lt_e, nI_clamp (show ct c < 2 ^ 31 by omega), hb2.1, x_sideOf hb1.2, bd_s, hP.2.2.1]
  by_cases q1 : P.1 (cf c) ≠ 0 ∧ sd (P.1 (cf c)) = P.2.2
  · obtain ⟨w1, a1, a2⟩ := x_reaches hf ht q1.1 hK hP.1
    have hP1 : XP N P w1 := hP.seg (a2.seg (lo := 0) (hi := 0))
    have hK1 := hK.same a2
    have hD1 : XD K w1 := hD.seg (a2.seg (lo := 0) (hi := 0))
    have hW1 : XW N K w1 := hW.seg (a2.seg (lo := 0) (hi := 0))
    have hi0 : 0 < P.1 (cf c) := Nat.pos_of_ne_zero q1.1
    rw [if_pos ((own_e hm hb1.2).mpr q1), if_neg (fun z => z q1), a1, bd_s, b2_0]
    refine ⟨w1, ?_, a2⟩
    by_cases q2 : ct c ∈ reachL N K P.1 (P.1 (cf c)) (cf c)
    · rw [if_pos (by simpa using q2), if_neg (fun z => z q2), x_sideOf hb2.2, bd_s, hP1.2.2.1]
      by_cases q3 : P.1 (ct c) ≠ 0 ∧ sd (P.1 (ct c)) = P.2.2
      · rw [if_pos ((own_e hm hb2.2).mpr q3), if_pos q3]; rfl
      · rw [if_neg (fun z => q3 ((own_e hm hb2.2).mp z)), if_neg q3, x_raises0 hc6, bd_s]
        by_cases q4 : cr c = 0
        · rw [if_pos (cr_0.mpr q4), if_pos q4, x_isRaised hi0 hb1.2, bd_s]
          unfold stay f_X5_faultOfGoing_128 f_X5_faultOfGoing_133
          by_cases q5 : rz (P.1 (cf c)) = 0
          · rw [if_pos (rz_0.mpr q5), x_goesOn hi0 hb1.2 ht hK1 hD1 hW1, bd_s, b2_0, (tp8 _ (by omega) hi0).2 q5, q1.2]
            cases goOn N K (kn (P.1 (cf c))) P.2.2 (ct c) <;> simp [q5] <;> rfl
          · rw [if_neg (fun z => q5 (rz_0.mp z))]
            simp [q5]
            rfl
        · rw [if_neg (fun z => q4 (cr_0.mp z)), if_neg q4, x_canBeRaised hi0 hb1.2 hf ht hK1 hW1, bd_s, b2_0, q1.2]
          unfold f_X5_faultOfGoing_106
          cases rais N K (P.1 (cf c)) P.2.2 (cf c) (ct c) <;> simp <;> rfl
    · rw [if_neg (by simpa using q2), if_pos q2]; rfl
  · rw [if_neg (fun z => q1 ((own_e hm hb1.2).mp z)), if_pos q1]
    exact ⟨w, rfl, SameX.rf⟩
theorem x_faultOfSetting {N k f : Nat} {K : Kd} {P : Ps} {w : Wd} (hA : XA N K P w) (hV : VB N P) (hk : k < 8) (hf : f < N * N) : f_X5_faultOfSetting N (nI k) (nI f) w = some (nI (fltS N K P k f), w) := by
  have hNN := NN_le hA.n7
  have h5 := hA.n5
  have h7 := hA.n7
  have hm := hV.mv
  obtain ⟨hK, hD, hW, hP, hG, hwd⟩ := hA
  have hb := hP.1 f hf
  have hh := hP.2.1 (8 * P.2.2 + k) (by omega)
  obtain ⟨m1, m2, m3⟩ := man_k k hk P.2.2 hm
  have hfr : f % N < N := Nat.mod_lt _ (by omega)
  unfold f_X5_faultOfSetting f_X2_itemOf fltS
  rw [bd_s, hP.2.2.1, n1k16, n8s, inb_nI (by omega) (by decide), if_pos rfl, nI_clamp (by omega), hh.1]
  by_cases q1 : P.2.1 (8 * P.2.2 + k) = 0
  · rw [q1, if_neg (by decide), if_pos rfl]; rfl
  · rw [if_pos (show (0 : Int32) < nI (P.2.1 (8 * P.2.2 + k)) from nI_lt (a := 0) (by omega) (by omega)), if_neg q1, inb_nI hf (by omega), if_pos rfl, nI_clamp (by omega), hb.1]
    by_cases q2 : P.1 f = 0
    · rw [q2, if_pos z0, if_neg (fun z => z rfl), x_goesOn (by omega) m3 hf hK hD hW, bd_s, b2_0, m1, m2]
      cases q3 : goOn N K k P.2.2 f with
      | false => rw [if_neg (by decide), if_pos rfl]; rfl
      | true =>
        rw [if_pos rfl, if_neg (by decide), x_columnsShutTo hk m3 hK hW hP.1, bd_s, hW.1, if_pos (nI_ne0 (by omega) (by omega)), pk_rem (by omega) (by omega) (by omega)]
        unfold f_X5_faultOfSetting_91
        have hsl : (if K.2.2 k % 2 = 0 then 0 else shB N P.1 (1 + k + 16 * P.2.2)) < 2 ^ 31 := by
          split
          · omega
          · have : shB N P.1 (1 + k + 16 * P.2.2) < 128 := sh_lt h7 (by omega) _ 0 (by omega)
            omega
        have hbit : bt (if K.2.2 k % 2 = 0 then 0 else shB N P.1 (1 + k + 16 * P.2.2)) (f % N) = false ↔ (K.2.2 k % 2 = 0 ∨ inCol N P.1 P.2.2 k f = false) := by
          by_cases q4 : K.2.2 k % 2 = 0
          · rw [if_pos q4]
            have : bt 0 (f % N) = false := by unfold bt; simp
            exact ⟨fun _ => Or.inl q4, fun _ => this⟩
          · rw [if_neg q4, shB_bt (by omega)]
            exact ⟨fun z => Or.inr z, fun z => z.elim (fun z => absurd z q4) id⟩
        by_cases q4 : K.2.2 k % 2 = 0 ∨ inCol N P.1 P.2.2 k f = false
        · rw [if_pos ((bit_0 hsl (by omega)).mpr (hbit.mpr q4)), if_pos q4]; rfl
        · rw [if_neg (fun z => q4 (hbit.mp ((bit_0 hsl (by omega)).mp z))), if_neg q4]; rfl
    · rw [if_neg (nI_ne0 (by omega) (by omega)), if_pos q2]; rfl
theorem tc_e (bo : Nat → Nat) {c : Nat} (hc : c < 65536) (hb : bo (ct c) ≤ 32) : nI c ||| (nI (bo (ct c)) <<< ((16 : Int32) &&& 31)) = nI (tc bo c) := by
  rw [pk_shlN _ 16 sh16 (by omega), nI_or, Nat.or_comm]
  unfold tc
  have := or_hi (a := bo (ct c)) (b := c) (n := 16) (by omega)
  rw [show bo (ct c) * 2 ^ 16 = 2 ^ 16 * bo (ct c) from Nat.mul_comm _ _, this]
  congr 1
  omega
theorem x_withTaken {N c : Nat} {P : Ps} {w : Wd} (h7 : N ≤ 7) (hB : XB N P.1 w) (hc6 : c < 65536) (ht : ct c < N * N) : f_X6_withTaken N (nI c) w = some (nI (tc P.1 c), w) := by
  have hNN := NN_le h7
  have hb := hB (ct c) ht
  unfold f_X6_withTaken f_X3_toOf
  rw [bd_s, cd_to0 hc6, inb_nI ht (by omega), if_pos rfl, nI_clamp (by omega), hb.1, tc_e P.1 hc6 hb.2]
/-- Rules.faultOf -/
theorem x_faultOf {N c : Nat} {K : Kd} {P : Ps} {w : Wd} (hA : XA N K P w) (hV : VP N K P) (hF : okF N c) : ∃ w', f_X5_faultOf N (nI c) w = some (nI (flt N K P c), w') ∧ FrX N 0 0 w w' ∧ XA N K P w' := by
  have hNN := NN_le hA.n7
  have hc6 := okF_lt hA.n7 hF
  have hm := hV.mv
  have step : ∀ (w1 : Wd), FrX N 0 0 w w1 → XA N K P w1 → ∃ w', f_X5_faultOf_32 N (nI c) (b2i (decide (cf c = 63))) (nI (flt0 N K P c)) w1 = some (nI (flt N K P c), w') ∧ FrX N 0 0 w w' ∧ XA N K P w' := by
    intro w1 hw1 hA1
    unfold f_X5_faultOf_32 flt
    by_cases q : flt0 N K P c = 0
    · have hc := (flt0_iff hA.n7 hA.n5 hm hF).mp q
      obtain ⟨w2, a1, a2, a3⟩ := x_app hA1 hV hc
      have hb := hV.le (ct c)
      rw [q, if_pos z0, if_neg (fun z => z rfl), x_withTaken hA.n7 hA1.2.2.2.1.1 hc6 hF.1, bd_s, a1, bd_s, a3.2.2.2.1.2.2.1, mvN, n1s (by omega), show 1 - (1 - P.2.2) = P.2.2 by omega, x_inCheck a3 (mk_VB hA.n7 hA.n5 hV hc) hm, bd_s, b2_0]
      have es : safe N K P c = !chk N K (mkP P c).1 P.2.2 := rfl
      unfold f_X5_faultOf_87 f_X5_faultOf_103
      cases hq : chk N K (mkP P c).1 P.2.2 with
      | true =>
        obtain ⟨w3, r1, r2, r3⟩ := x_rev a3 hV hc
        rw [if_pos rfl, b2_0, r1, bd_s, bd_s, es, hq, if_pos (show (!true) = false from rfl)]
        refine ⟨w3, ?_, hw1.tr (a2.tr r2).fr, r3⟩
        by_cases h63 : cf c = 63
        · rw [if_pos (by simpa using h63), if_pos h63]; rfl
        · rw [if_neg (by simpa using h63), if_neg h63]; rfl
      | false =>
        obtain ⟨w3, b1, b2, b3⟩ := x_isForbiddenMate a3 (mk_VP hA.n7 hA.n5 hV hc (by rw [es, hq]; rfl)) hc6 hb
        obtain ⟨w4, r1, r2, r3⟩ := x_rev b3 hV hc
        have e0 : f_X5_isForbiddenMate N (nI (tc P.1 c)) w2 = some (b2i (forb N K c (mkP P c)), w3) := b1
        refine ⟨w4, ?_, hw1.tr ((a2.fr.tr b2).tr r2.fr), r3⟩
        rw [if_neg (by decide), e0, bd_s, b2_0, es, hq, if_neg (show ¬ (!false) = false by decide), r1, bd_s, bd_s]
        cases forb N K c (mkP P c) <;> rfl
    · have hlt : flt0 N K P c < 10 := by
        unfold flt0 fltS fltG
        repeat' split
        all_goals omega
      rw [if_neg (nI_ne0 (by omega) (by omega)), if_pos q]
      exact ⟨w1, rfl, hw1, hA1⟩
  unfold f_X5_faultOf
  rw [x_isSetting0 hc6, bd_s, b2_0]
  by_cases h63 : cf c = 63
  · have hk := ck_lt c
    rw [if_pos (by simpa using h63), cd_kind0 hc6, cd_to0 hc6, x_faultOfSetting hA hV.toVB hk hF.1, bd_s]
    have := step w FrX.rf hA
    unfold flt0 at this
    rw [if_pos h63] at this
    exact this
  · rw [if_neg (by simpa using h63)]
    obtain ⟨w1, a1, a2⟩ := x_faultOfGoing hA hV.toVB hF h63
    rw [a1, bd_s]
    have := step w1 a2.fr (hA.same a2)
    unfold flt0 at this
    rw [if_neg h63] at this
    exact this
