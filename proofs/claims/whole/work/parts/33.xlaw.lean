/-! ===== the class: check, mate, lawful lists ===== -/
def XA (N : Nat) (K : Kd) (P : Ps) (w : Wd) : Prop := XK N K w ∧ XD K w ∧ XW N K w ∧ XP N P w ∧ KG (kgf N P.1) w ∧ w.1 27 2 = nI (27 * (N * N))
/-- the table (as far as not told), scratch, segment 0, and lo to hi of the list -/
def FrX (N lo hi : Nat) (w w' : Wd) : Prop := w'.2 = w.2 ∧ (∀ k, k < 22 ∨ k = 27 ∨ 28 < k → w'.1 k = w.1 k) ∧ (∀ j, j ≠ 7 → w'.1 22 j = w.1 22 j) ∧ ∀ j, 27 * (N * N) ≤ j → j < lo ∨ hi ≤ j → w'.1 28 j = w.1 28 j
theorem FrX.rf {N lo hi : Nat} {w : Wd} : FrX N lo hi w w := ⟨rfl, fun _ _ => rfl, fun _ _ => rfl, fun _ _ _ => rfl⟩
theorem FrX.tr {N lo hi : Nat} {a b c : Wd} (x : FrX N lo hi a b) (y : FrX N lo hi b c) : FrX N lo hi a c := ⟨y.1.trans x.1, fun k h => (y.2.1 k h).trans (x.2.1 k h), fun j h => (y.2.2.1 j h).trans (x.2.2.1 j h), fun j h1 h2 => (y.2.2.2 j h1 h2).trans (x.2.2.2 j h1 h2)⟩
theorem FrX.mono {N lo hi lo' hi' : Nat} {a b : Wd} (x : FrX N lo hi a b) (h1 : lo' ≤ lo) (h2 : hi ≤ hi') : FrX N lo' hi' a b := ⟨x.1, x.2.1, x.2.2.1, fun j a b => x.2.2.2 j a (by omega)⟩
theorem FrX.no {N lo hi : Nat} {a b : Wd} (x : FrX N 0 0 a b) : FrX N lo hi a b := ⟨x.1, x.2.1, x.2.2.1, fun j a _ => x.2.2.2 j a (by omega)⟩
theorem AppX.fr {N lo hi : Nat} {a b : Wd} (x : AppX a b) : FrX N lo hi a b := ⟨x.1, fun k h => x.2.1 k (by omega), x.2.2, fun j _ _ => by rw [x.2.1 28 (by omega)]⟩
theorem SegX.fr {N lo hi : Nat} {a b : Wd} (x : SegX lo hi a b) : FrX N lo hi a b := ⟨x.1, fun k h => x.2.1 k (by omega) (by omega), fun j _ => by rw [x.2.1 22 (by decide) (by decide)], fun j _ h => x.2.2 j h⟩
theorem SegX.fr0 {N : Nat} {a b : Wd} (x : SegX 0 (27 * (N * N)) a b) : FrX N 0 0 a b := ⟨x.1, fun k h => x.2.1 k (by omega) (by omega), fun j _ => by rw [x.2.1 22 (by decide) (by decide)], fun j h _ => x.2.2 j (by omega)⟩
theorem XA.seg {N lo hi : Nat} {K : Kd} {P : Ps} {w w' : Wd} (h : XA N K P w) (s : SegX lo hi w w') : XA N K P w' := ⟨h.1.seg s, h.2.1.seg s, h.2.2.1.seg s, h.2.2.2.1.seg s, fun q hq => by rw [s.2.1 25 (by decide) (by decide)]; exact h.2.2.2.2.1 q hq, by rw [s.2.1 27 (by decide) (by decide)]; exact h.2.2.2.2.2⟩
theorem XA.n7 {N : Nat} {K : Kd} {P : Ps} {w : Wd} (h : XA N K P w) : N ≤ 7 := h.1.2.2.1
theorem XA.n5 {N : Nat} {K : Kd} {P : Ps} {w : Wd} (h : XA N K P w) : 5 ≤ N := h.1.2.2.2.1
theorem b2_0 {α : Type} {b : Bool} {A B : α} : (if b2i b = (0 : Int32) then A else B) = if b = true then B else A := by cases b <;> rfl
theorem x_inCheck {N s : Nat} {K : Kd} {P : Ps} {w : Wd} (hA : XA N K P w) (hV : VB N P) (hs : s < 2) : f_X6_inCheck N (nI s) w = some (b2i (chk N K P.1 s), w) := by
  unfold f_X6_inCheck
  rw [inb_nI hs (by decide), if_pos rfl, nI_clamp (by omega), hA.2.2.2.2.1 s hs, n1s hs, x_attacked (by omega) (hV.ku.1 s hs).1 hA.1 hA.2.1 hA.2.2.2.1.1, bd_s, b2i_zb, if_pos rfl, atk_eq hA.n7 hA.n5 (by omega) (hV.ku.1 s hs).1 (fun q _ => hV.le q) (fun t ht => (hA.1.2.2.2.2.2 t ht).2.2), chk_kf hV.ku hs]
theorem x_app {N c : Nat} {K : Kd} {P : Ps} {w : Wd} (hA : XA N K P w) (hV : VP N K P) (hc : c ∈ triL N K P) : ∃ w', f_X6_apply N (nI (tc P.1 c)) w = some ((), w') ∧ AppX w w' ∧ XA N K (mkP P c) w' := by
  obtain ⟨ok, o2, o3⟩ := tri_ok hA.n7 hA.n5 (fun q _ => hV.le q) (fun j hj => by have := hV.hd hj; omega) hV.mv hc
  obtain ⟨w', a1, a2, a3, a4⟩ := x_apply hA.n7 (tri_code hA.n7 hc) hA.2.2.2.1 hA.2.2.2.2.1 ok (fun h => (o3 h).1) (fun h => (o2 h).1)
  exact ⟨w', a1, a2, hA.1.app a2, hA.2.1.app a2, hA.2.2.1.app a2, a3, fun s hs => by rw [mk_kgf hA.n7 hA.n5 hV hc hs]; exact a4 s hs, by rw [a2.2.1 27 (by omega)]; exact hA.2.2.2.2.2⟩
theorem x_rev {N c : Nat} {K : Kd} {P : Ps} {w : Wd} (hA : XA N K (mkP P c) w) (hV : VP N K P) (hc : c ∈ triL N K P) : ∃ w', f_X6_revert N (nI (tc P.1 c)) w = some ((), w') ∧ AppX w w' ∧ XA N K P w' := by
  obtain ⟨ok, o2, o3⟩ := tri_ok hA.n7 hA.n5 (fun q _ => hV.le q) (fun j hj => by have := hV.hd hj; omega) hV.mv hc
  obtain ⟨w', a1, a2, a3, a4⟩ := x_revert (kf := kgf N P.1) hA.n7 (tri_code hA.n7 hc) (fun q _ => hV.le q) (fun j hj => by have := hV.hd hj; omega) hV.mv hA.2.2.2.1 (fun s hs => by rw [← mk_kgf hA.n7 hA.n5 hV hc hs]; exact hA.2.2.2.2.1 s hs) ok (fun h => (o3 h).1) (fun h => (o2 h).1) (fun h hk => by
    have := hV.ku.2 (cf c) (ok.2.2 h).1 (o3 h).1 hk
    rw [(o3 h).2.1] at this
    exact this.symm)
  exact ⟨w', a1, a2, hA.1.app a2, hA.2.1.app a2, hA.2.2.1.app a2, a3, a4, by rw [a2.2.1 27 (by omega)]; exact hA.2.2.2.2.2⟩
theorem x_isSetting {c a : Nat} (hc : c < 65536) (ha : a ≤ 32) (w : Wd) : f_X3_isSetting (nI (c + 65536 * a)) w = some (b2i (decide (cf c = 63)), w) := by
  unfold f_X3_isSetting f_X3_isSetting_17
  have : cf c < 64 := Nat.mod_lt _ (by decide)
  rw [cd_from hc ha, zb1, zb0, if_pos rfl, if_pos rfl]
  by_cases h : cf c = 63
  · rw [h, if_pos (show nI 63 = (63 : Int32) from rfl)]; rfl
  · rw [if_neg (show ¬ nI (cf c) = (63 : Int32) from fun z => h ((nI_inj (b := 63) (by omega) (by omega)).mp z))]
    simp [h, b2i]
def mk2b (K : Kd) (c : Nat) : Bool := decide (K.2.2 (ck c) / 2 % 2 ≠ 0)
theorem x_hasSecondMark {N c a : Nat} {K : Kd} {w : Wd} (hW : XW N K w) (hc : c < 65536) (ha : a ≤ 32) : f_X5_hasSecondMark N (nI (c + 65536 * a)) w = some (b2i (mk2b K c), w) := by
  unfold f_X5_hasSecondMark f_X5_hasSecondMark_25 mk2b
  have hk := ck_lt c
  have hm := hW.2.2.2.2 (ck c) hk
  rw [cd_kind hc ha, inb_nI hk (by decide), if_pos rfl, nI_clamp (by omega), hm.1, zb1, zb0, if_pos rfl, if_pos rfl]
  by_cases h : K.2.2 (ck c) / 2 % 2 = 0
  · rw [if_pos ((mk2 _ hm.2).mpr h)]
    simp [h, b2i]
  · rw [if_neg (fun z => h ((mk2 _ hm.2).mp z))]
    simp [h, b2i]
def forb (N : Nat) (K : Kd) (c : Nat) (Q : Ps) : Bool := decide (cf c = 63) && (mk2b K c && mate N K Q)
theorem x_fm49 {N : Nat} {K : Kd} {Q : Ps} {w0 : Wd} (hV : VP N K Q) (hL : LIn 0 ((triL N K Q).map (tc Q.1)) w0) (hlen : (triL N K Q).length ≤ 27 * (N * N)) :
    ∀ (m j n : Nat) (u : Wd), j + m = (triL N K Q).length → m < n → AppX w0 u → XA N K Q u →
      ∃ u', l_X5_isForbiddenMate_49 N (f_X5_isForbiddenMate_105 N) (f_X5_isForbiddenMate_113 N) n (nI Q.2.2) (nI (triL N K Q).length) (nI j) u = some (b2i (!((triL N K Q).drop j).any (safe N K Q)), u') ∧ AppX w0 u' ∧ XA N K Q u' := by
  intro m
  induction m with
  | zero =>
    intro j n u hj hn hu hA
    obtain ⟨n, rfl⟩ : ∃ k, n = k + 1 := ⟨n - 1, by omega⟩
    have hNN := NN_le hA.n7
    refine ⟨u, ?_, hu, hA⟩
    show b_X5_isForbiddenMate_49 N (l_X5_isForbiddenMate_49 N (f_X5_isForbiddenMate_105 N) (f_X5_isForbiddenMate_113 N) n) (f_X5_isForbiddenMate_105 N) (f_X5_isForbiddenMate_113 N) (nI Q.2.2) (nI (triL N K Q).length) (nI j) u = _
    unfold b_X5_isForbiddenMate_49
    rw [if_pos (nI_le (by omega) (by omega)), show j = (triL N K Q).length by omega, List.drop_length]
    rfl
  | succ m ih =>
    intro j n u hj hn hu hA
    obtain ⟨n, rfl⟩ : ∃ k, n = k + 1 := ⟨n - 1, by omega⟩
    have hNN := NN_le hA.n7
    have hjl : j < (triL N K Q).length := by omega
    have hg : (triL N K Q)[j]? = some (triL N K Q)[j] := List.getElem?_eq_getElem hjl
    have hd : (triL N K Q).drop j = (triL N K Q)[j] :: (triL N K Q).drop (j + 1) := List.drop_eq_getElem_cons hjl
    rw [hd]
    generalize (triL N K Q)[j] = c at hg
    have hcm : c ∈ triL N K Q := List.mem_of_getElem? hg
    have hcell : u.1 28 j = nI (tc Q.1 c) := by
      have := hL j (tc Q.1 c) (by rw [List.getElem?_map, hg]; rfl)
      rw [Nat.zero_add] at this
      rw [hu.2.1 28 (by omega)]
      exact this
    obtain ⟨u1, a1, a2, a3⟩ := x_app hA hV hcm
    have hc1 := x_inCheck (s := Q.2.2) a3 (mk_VB hA.n7 hA.n5 hV hcm) hV.mv
    obtain ⟨u2, r1, r2, r3⟩ := x_rev a3 hV hcm
    obtain ⟨u3, i1, i2, i3⟩ := ih (j + 1) n u2 (by omega) (by omega) ((hu.tr a2).tr r2) r3
    have e1 : l_X5_isForbiddenMate_49 N (f_X5_isForbiddenMate_105 N) (f_X5_isForbiddenMate_113 N) (n + 1) (nI Q.2.2) (nI (triL N K Q).length) (nI j) u = b_X5_isForbiddenMate_49 N (l_X5_isForbiddenMate_49 N (f_X5_isForbiddenMate_105 N) (f_X5_isForbiddenMate_113 N) n) (f_X5_isForbiddenMate_105 N) (f_X5_isForbiddenMate_113 N) (nI Q.2.2) (nI (triL N K Q).length) (nI j) u := rfl
    rw [e1]
    unfold b_X5_isForbiddenMate_49
    rw [if_neg (nI_ge hjl (by omega)), inb_nI (show j < 270 * (N * N) by omega) (by omega), if_pos rfl, lt_e, nI_clamp (by omega), hcell, a1, bd_s, hc1, bd_s, b2_0]
    unfold f_X5_isForbiddenMate_89
    rw [r1, bd_s, bd_s, List.any_cons]
    have es : safe N K Q c = !chk N K (mkP Q c).1 Q.2.2 := rfl
    cases hq : chk N K (mkP Q c).1 Q.2.2 with
    | false =>
      rw [if_neg (by decide), if_neg (by decide), es, hq]
      exact ⟨u2, rfl, (hu.tr a2).tr r2, r3⟩
    | true =>
      rw [if_pos rfl, if_pos rfl, nI_1, es, hq]
      exact ⟨u3, by simpa using i1, i2, i3⟩
theorem x_isForbiddenMate {N c a : Nat} {K : Kd} {Q : Ps} {w : Wd} (hA : XA N K Q w) (hV : VP N K Q) (hc : c < 65536) (ha : a ≤ 32) :
    ∃ w', f_X5_isForbiddenMate N (nI (c + 65536 * a)) w = some (b2i (forb N K c Q), w') ∧ FrX N 0 0 w w' ∧ XA N K Q w' := by
  have hNN := NN_le hA.n7
  have h5 := hA.n5
  have hlen := tri_len (K := K) hA.n7 hA.n5 hV.mv
  unfold f_X5_isForbiddenMate forb mate
  rw [lt_e, hA.2.2.2.1.2.2.1, x_isSetting hc ha, bd_s, b2_0]
  by_cases h1 : cf c = 63
  · rw [if_pos (by simp [h1]), x_hasSecondMark hA.2.2.1 hc ha, bd_s, b2_0]
    cases h2 : mk2b K c with
    | false => exact ⟨w, by rw [if_neg (by decide)]; simp; rfl, FrX.rf, hA⟩
    | true =>
      rw [if_pos rfl, x_inCheck hA hV.toVB hV.mv, bd_s, b2_0]
      cases h3 : chk N K Q.1 Q.2.2 with
      | false => exact ⟨w, by rw [if_neg (by decide)]; simp; rfl, FrX.rf, hA⟩
      | true =>
        obtain ⟨w1, a1, a2, a3⟩ := x_fill (sg := 0) (hi := 27 * (N * N)) (by omega) hA.2.2.2.2.2 hA.1 hA.2.1 hA.2.2.1 hA.2.2.2.1 (by omega)
        rw [Nat.zero_mul] at a1 a2 a3
        rw [Nat.zero_add] at a1
        obtain ⟨w2, b1, b2, b3⟩ := x_fm49 hV a3 (by exact hlen) _ 0 FU w1 (Nat.zero_add _) (FU_big (by omega)) AppX.rf (hA.seg a2)
        have e0 : f_X5_fill N (0 : Int32) w = some (nI (triL N K Q).length, w1) := a1
        rw [if_pos rfl, e0, bd_s]
        unfold f_X5_startOf
        rw [(hA.seg a2).2.2.2.2.2, bd_s, show (0 : Int32) * nI (27 * (N * N)) = nI 0 from by rw [show (0 : Int32) = nI 0 from rfl, pk_mul, Nat.zero_mul], b1]
        refine ⟨w2, ?_, a2.fr0.tr b2.fr, b3⟩
        simp [h1, anyM]
  · rw [if_neg (by simp [h1])]
    exact ⟨w, by simp [h1]; rfl, FrX.rf, hA⟩
/-! a setting opens no way to the own king -/
theorem ray_mono {N d : Nat} {bo bo' : Nat → Nat} (h : ∀ g, bo' g = 0 → bo g = 0) {x : Nat} : ∀ (k : Nat) (o : Option Nat), x ∈ rayO N d bo' k o → x ∈ rayO N d bo k o
  | 0, o, hx => by simp [rayO] at hx
  | k + 1, none, hx => by simp [rayO] at hx
  | k + 1, some g, hx => by
    unfold rayO at hx ⊢
    rcases List.mem_cons.mp hx with rfl | hx
    · exact List.mem_cons_self
    · refine List.mem_cons_of_mem _ ?_
      by_cases q : bo' g = 0
      · rw [if_pos q] at hx
        rw [if_pos (h g q)]
        exact ray_mono h k _ hx
      · rw [if_neg q] at hx
        simp at hx
theorem set_safe {N c : Nat} {K : Kd} {P : Ps} (h1 : N ≤ 7) (h5 : 5 ≤ N) (hV : VP N K P) (hcalm : chk N K P.1 P.2.2 = false) (hc : c ∈ triL N K P) (hs : cf c = 63) : safe N K P c = true := by
  obtain ⟨ok, o2, o3⟩ := tri_ok h1 h5 (fun q _ => hV.le q) (fun j hj => by have := hV.hd hj; omega) hV.mv hc
  obtain ⟨s1, s2⟩ := o2 hs
  have hm := hV.mv
  have hKU := mk_KU h1 h5 hV hc
  rw [show kfN (kgf N P.1) P c = kgf N P.1 from if_neg (fun z => z.1 hs)] at hKU
  unfold safe
  rw [chk_kf hKU hm]
  rw [chk_kf hV.ku hm] at hcalm
  have e1 : (mkP P c).1 = upN P.1 (ct c) (1 + ck c + 16 * P.2.2) := by unfold mkP; rw [if_pos hs]
  rw [e1]
  generalize kgf N P.1 P.2.2 = f at hcalm
  cases hq : atk N K (upN P.1 (ct c) (1 + ck c + 16 * P.2.2)) (1 - P.2.2) f with
  | false => rfl
  | true =>
    exfalso
    unfold atk at hq hcalm
    rw [List.any_eq_true] at hq
    obtain ⟨q, hq1, hq2⟩ := hq
    simp only [Bool.and_eq_true, decide_eq_true_eq] at hq2
    have hne : q ≠ ct c := fun z => by
      have h2 := hq2.2.1
      rw [show upN P.1 (ct c) (1 + ck c + 16 * P.2.2) q = 1 + ck c + 16 * P.2.2 from if_pos z, (man_k _ s2 _ hm).2.1] at h2
      omega
    rw [show upN P.1 (ct c) (1 + ck c + 16 * P.2.2) q = P.1 q from if_neg hne] at hq2
    have hmem : f ∈ reachL N K P.1 (P.1 q) q := by
      rw [mem_reach]
      rcases mem_reach.mp hq2.2.2 with h | ⟨b, hb, h⟩
      · exact Or.inl h
      · refine Or.inr ⟨b, hb, ray_mono (fun g hg => ?_) _ _ h⟩
        unfold upN at hg
        split at hg
        · omega
        · exact hg
    have := List.any_eq_false.mp hcalm q hq1
    simp [hq2.1, hq2.2.1, hmem] at this
theorem lawf_e {N c : Nat} {K : Kd} {P : Ps} : lawf N K P c = (safe N K P c && !forb N K c (mkP P c)) := by
  unfold lawf forb mk2b
  cases safe N K P c <;> cases mate N K (mkP P c) <;> by_cases h1 : cf c = 63 <;> by_cases h2 : K.2.2 (ck c) / 2 % 2 = 0 <;> simp [h1, h2]
theorem x_holds {N c a : Nat} {K : Kd} {P : Ps} {w : Wd} (hA : XA N K (mkP P c) w) (hV : VP N K P) (hc : c ∈ triL N K P) (ha : a ≤ 32) :
    ∃ w', f_X5_holds N (nI (c + 65536 * a)) w = some (b2i (lawf N K P c), w') ∧ FrX N 0 0 w w' ∧ XA N K (mkP P c) w' := by
  have hm := hV.mv
  unfold f_X5_holds f_X5_holds_31 f_X5_holds_32
  rw [hA.2.2.2.1.2.2.1, mvN, n1s (by omega), show 1 - (1 - P.2.2) = P.2.2 by omega, x_inCheck hA (mk_VB hA.n7 hA.n5 hV hc) hm, bd_s, b2_0, lawf_e, zb0, zb1, if_pos rfl]
  have es : safe N K P c = !chk N K (mkP P c).1 P.2.2 := rfl
  cases hq : chk N K (mkP P c).1 P.2.2 with
  | true => exact ⟨w, by rw [if_pos rfl, es, hq]; rfl, FrX.rf, hA⟩
  | false =>
    obtain ⟨w1, a1, a2, a3⟩ := x_isForbiddenMate hA (mk_VP hA.n7 hA.n5 hV hc (by rw [es, hq]; rfl)) (tri_code hA.n7 hc) ha
    refine ⟨w1, ?_, a2, a3⟩
    rw [if_neg (by decide), a1, bd_s, b2_0, es, hq]
    cases forb N K c (mkP P c) <;> rfl
