/-! ===== the class: goings into the list ===== -/
/-- a move with what it takes -/
def tc (bo : Nat → Nat) (c : Nat) : Nat := c + 65536 * bo (ct c)
theorem or_hi {a b n : Nat} (h : b < 2 ^ n) : 2 ^ n * a ||| b = 2 ^ n * a + b := (Nat.two_pow_add_eq_or_of_lt h a).symm
theorem sh16 : (((16 : Int32) &&& 31).toBitVec.smod 32).toNat = 16 := by decide
theorem sh6 : (((6 : Int32) &&& 31).toBitVec.smod 32).toNat = 6 := by decide
theorem code_e {a f t : Nat} (ha : a ≤ 32) (hf : f < 63) (ht : t < 64) : ((nI a <<< ((16 : Int32) &&& 31)) ||| (nI f <<< ((6 : Int32) &&& 31))) ||| nI t = nI (goC f t 0 + 65536 * a) := by
  rw [pk_shlN _ 16 sh16 (by omega), pk_shlN _ 6 sh6 (by omega), nI_or, nI_or]
  congr 1
  rw [Nat.or_assoc, show f * 2 ^ 6 = 2 ^ 6 * f by omega, or_hi (n := 6) (by omega), show a * 2 ^ 16 = 2 ^ 16 * a by omega, or_hi (n := 16) (by omega)]
  unfold goC
  omega
theorem code_r {a f t : Nat} (ha : a ≤ 32) (hf : f < 63) (ht : t < 64) : nI (goC f t 0 + 65536 * a) ||| (4096 : Int32) = nI (goC f t 1 + 65536 * a) := by
  rw [show (4096 : Int32) = nI 4096 from rfl, nI_or]
  congr 1
  unfold goC
  have e1 : t + 64 * f + 4096 * 0 + 65536 * a = 2 ^ 16 * a ||| (t + 64 * f) := by rw [or_hi (n := 16) (by omega)]; omega
  rw [e1, Nat.or_assoc, Nat.or_comm (t + 64 * f) 4096, show (4096 : Nat) = 2 ^ 12 * 1 from rfl, or_hi (n := 12) (by omega), or_hi (n := 16) (by omega)]
  omega
/-- cells 26 and 28 alone, in 28 the places from lo to hi alone -/
def SegX (lo hi : Nat) (w w' : Wd) : Prop := w'.2 = w.2 ∧ (∀ k, k ≠ 26 → k ≠ 28 → w'.1 k = w.1 k) ∧ ∀ j, j < lo ∨ hi ≤ j → w'.1 28 j = w.1 28 j
theorem SegX.rf {lo hi : Nat} {w : Wd} : SegX lo hi w w := ⟨rfl, fun _ _ _ => rfl, fun _ _ => rfl⟩
theorem SegX.tr {lo hi : Nat} {a b c : Wd} (x : SegX lo hi a b) (y : SegX lo hi b c) : SegX lo hi a c := ⟨y.1.trans x.1, fun k h1 h2 => (y.2.1 k h1 h2).trans (x.2.1 k h1 h2), fun j h => (y.2.2 j h).trans (x.2.2 j h)⟩
theorem SegX.i {lo hi j : Nat} {w : Wd} {v : Int32} (h1 : lo ≤ j) (h2 : j < hi) : SegX lo hi w (wdI w 28 j v) := ⟨rfl, fun k _ h => wI_c h, fun q hq => wI_n (by omega)⟩
theorem SameX.seg {lo hi : Nat} {w w' : Wd} (h : SameX w w') : SegX lo hi w w' := ⟨h.1, fun k h1 _ => h.2 k h1, fun j _ => by rw [h.2 28 (by decide)]⟩
theorem XK.seg {N lo hi : Nat} {K : Kd} {w w' : Wd} (h : XK N K w) (s : SegX lo hi w w') : XK N K w' := by
  unfold XK
  rw [s.2.1 22 (by decide) (by decide), s.2.1 3 (by decide) (by decide), s.2.1 6 (by decide) (by decide), s.2.1 7 (by decide) (by decide)]
  exact h
theorem XB.seg {N lo hi : Nat} {bo : Nat → Nat} {w w' : Wd} (h : XB N bo w) (s : SegX lo hi w w') : XB N bo w' := by
  unfold XB
  rw [s.2.1 23 (by decide) (by decide)]
  exact h
theorem XD.seg {lo hi : Nat} {K : Kd} {w w' : Wd} (h : XD K w) (s : SegX lo hi w w') : XD K w' := by
  unfold XD
  rw [s.2.1 8 (by decide) (by decide), s.2.1 9 (by decide) (by decide)]
  exact h
theorem XW.seg {N lo hi : Nat} {K : Kd} {w w' : Wd} (h : XW N K w) (s : SegX lo hi w w') : XW N K w' := by
  unfold XW
  rw [s.2.1 2 (by decide) (by decide), s.2.1 4 (by decide) (by decide), s.2.1 5 (by decide) (by decide), s.2.1 10 (by decide) (by decide)]
  exact h
/-- the list from a place on -/
def LIn (lo : Nat) (T : List Nat) (w : Wd) : Prop := ∀ j c, T[j]? = some c → w.1 28 (lo + j) = nI c
theorem LIn.push {lo c : Nat} {T : List Nat} {w : Wd} (h : LIn lo T w) : LIn lo (T ++ [c]) (wdI w 28 (lo + T.length) (nI c)) := by
  intro j x hj
  by_cases e : j = T.length
  · subst e
    simp at hj
    rw [wI_s, hj]
  · have hj2 : j < T.length := by
      have := (List.getElem?_eq_some_iff.mp hj).1
      simp at this
      omega
    rw [List.getElem?_append_left hj2] at hj
    rw [wI_n (by omega)]
    exact h j x hj
theorem x_isRaised {i : Nat} (h0 : 0 < i) (h : i ≤ 32) (w : Wd) : f_X2_isRaised (nI i) w = some (nI (rz i), w) := by
  have hc := man_chk i (by omega) h0
  unfold f_X2_isRaised f_X2_isRaised_17 f_X2_isRaised_18
  rw [if_neg (nI_ne0 h0 (by omega))]
  by_cases q : rz i = 0
  · rw [if_pos (hc.2.2.1.mpr q), q]; rfl
  · rw [if_neg (fun z => q (hc.2.2.1.mp z)), show rz i = 1 by have := hc.2.2.2.2.2.2.2.2; omega]; rfl
theorem x_ag24 {K155 : Int32 → Wd → Option (Int32 × Wd)} {N i s f lo hi : Nat} {K : Kd} {bo : Nat → Nat} {R : List Nat} (h0 : 0 < i) (h32 : i ≤ 32) (hs : sd i = s) (hs2 : s < 2) (hf : f < N * N) (hhi : hi ≤ 270 * (N * N)) :
    ∀ (m j n : Nat) (T : List Nat) (w : Wd), j + m = R.length → m < n → XK N K w → XD K w → XW N K w → XB N bo w → w.1 22 7 = nI s → XR N R w → LIn lo T w → lo + T.length + ((R.drop j).flatMap (goTo N K bo i s f)).length ≤ hi →
      ∃ w', l_X5_addGoings_24 N K155 n (nI f) (nI R.length) (nI (lo + T.length)) (nI i) (nI (rz i)) (nI j) w = K155 (nI (lo + (T ++ ((R.drop j).flatMap (goTo N K bo i s f)).map (tc bo)).length)) w' ∧ SegX lo hi w w' ∧ LIn lo (T ++ ((R.drop j).flatMap (goTo N K bo i s f)).map (tc bo)) w' := by
  intro m
  induction m with
  | zero =>
    intro j n T w hj hn hK hD hW hB hmv hR hL hlen
    obtain ⟨n, rfl⟩ : ∃ k, n = k + 1 := ⟨n - 1, by omega⟩
    have hNN := NN_le hK.2.2.1
    have e : j = R.length := by omega
    have hl := nodup_len (N * N) R hR.2.1 hR.2.2
    refine ⟨w, ?_, SegX.rf, ?_⟩
    · show b_X5_addGoings_24 N (l_X5_addGoings_24 N K155 n) K155 (nI f) (nI R.length) (nI (lo + T.length)) (nI i) (nI (rz i)) (nI j) w = _
      unfold b_X5_addGoings_24
      rw [e, if_pos (nI_le (Nat.le_refl _) (by omega)), List.drop_length]
      simp
    · rw [e, List.drop_length]
      simpa using hL
  | succ m ih =>
    intro j n T w hj hn hK hD hW hB hmv hR hL hlen
    obtain ⟨n, rfl⟩ : ∃ k, n = k + 1 := ⟨n - 1, by omega⟩
    have hNN := NN_le hK.2.2.1
    have hl := nodup_len (N * N) R hR.2.1 hR.2.2
    have hjl : j < R.length := by omega
    have hg : R[j]? = some R[j] := List.getElem?_eq_getElem hjl
    have hd : R.drop j = R[j] :: R.drop (j + 1) := List.drop_eq_getElem_cons hjl
    rw [hd] at hlen ⊢
    generalize R[j] = g at hg hlen ⊢
    have hgN := hR.2.2 g (List.mem_of_getElem? hg)
    rw [List.flatMap_cons, List.length_append] at hlen
    rw [List.flatMap_cons, List.map_append, ← List.append_assoc]
    have hbg := hB g hgN
    have hrz : rz i < 2 := Nat.mod_lt _ (by decide)
    have fin : ∀ (T' : List Nat) (u : Wd), SegX lo hi w u → u.1 26 = w.1 26 → LIn lo T' u → lo + T'.length + ((R.drop (j + 1)).flatMap (goTo N K bo i s f)).length ≤ hi → ∃ w', f_X5_addGoings_149 N (l_X5_addGoings_24 N K155 n) K155 (nI f) (nI R.length) (nI (lo + T'.length)) (nI i) (nI (rz i)) (nI j) u = K155 (nI (lo + (T' ++ ((R.drop (j + 1)).flatMap (goTo N K bo i s f)).map (tc bo)).length)) w' ∧ SegX lo hi w w' ∧ LIn lo (T' ++ ((R.drop (j + 1)).flatMap (goTo N K bo i s f)).map (tc bo)) w' := by
      intro T' u t1 t2 t3 t4
      unfold f_X5_addGoings_149
      rw [nI_1]
      obtain ⟨w', a1, a2, a3⟩ := ih (j + 1) n T' u (by omega) (by omega) (hK.seg t1) (hD.seg t1) (hW.seg t1) (hB.seg t1) (by rw [t1.2.1 22 (by decide) (by decide)]; exact hmv) (by unfold XR; rw [t2]; exact hR) t3 t4
      exact ⟨w', a1, t1.tr a2, a3⟩
    have e1 : l_X5_addGoings_24 N K155 (n + 1) (nI f) (nI R.length) (nI (lo + T.length)) (nI i) (nI (rz i)) (nI j) w = b_X5_addGoings_24 N (l_X5_addGoings_24 N K155 n) K155 (nI f) (nI R.length) (nI (lo + T.length)) (nI i) (nI (rz i)) (nI j) w := rfl
    rw [e1]
    unfold b_X5_addGoings_24
    rw [if_neg (nI_ge hjl (by omega)), inb_nI (show j < N * N by omega) (by omega), if_pos rfl, lt_e, nI_clamp (show j < 2 ^ 31 by omega), hR.1 j g hg, inb_nI hgN (by omega), if_pos rfl, lt_e, nI_clamp (show g < 2 ^ 31 by omega), hbg.1, x_sideOf hbg.2, bd_s, hmv]
    by_cases q : isOf s (bo g) = true
    · rw [if_pos ((isOf_e hs2 hbg.2).mpr q)]
      have eg : goTo N K bo i s f g = [] := if_pos (by unfold isOf at q; simpa using q)
      rw [eg] at hlen ⊢
      simpa using fin T w SegX.rf rfl hL (by simpa using hlen)
    · rw [if_neg (fun z => q ((isOf_e hs2 hbg.2).mp z)), lt_e, code_e hbg.2 (by omega) (by omega)]
      have eg : goTo N K bo i s f g = (if stay N K i s g = true then [goC f g 0] else []) ++ (if rais N K i s f g = true then [goC f g 1] else []) := if_neg (by unfold isOf at q; simpa using q)
      rw [eg] at hlen ⊢
      have c0 := (goC_ok (f := f) (t := g) (r := 0) (by omega) (by omega) (by omega)).1
      have c1 := (goC_ok (f := f) (t := g) (r := 1) (by omega) (by omega) (by omega)).1
      have t0 : tc bo (goC f g 0) = goC f g 0 + 65536 * bo g := by unfold tc; rw [c0]
      have t1 : tc bo (goC f g 1) = goC f g 1 + 65536 * bo g := by unfold tc; rw [c1]
      have second : ∀ (T' : List Nat) (u : Wd), SegX lo hi w u → u.1 26 = w.1 26 → LIn lo T' u → lo + T'.length + (if rais N K i s f g = true then [goC f g 1] else []).length + ((R.drop (j + 1)).flatMap (goTo N K bo i s f)).length ≤ hi → ∃ w', f_X5_addGoings_118 N (l_X5_addGoings_24 N K155 n) K155 (nI f) (nI R.length) (nI (lo + T'.length)) (nI i) (nI (rz i)) (nI j) (nI g) (nI (goC f g 0 + 65536 * bo g)) u = K155 (nI (lo + (T' ++ (if rais N K i s f g = true then [goC f g 1] else []).map (tc bo) ++ ((R.drop (j + 1)).flatMap (goTo N K bo i s f)).map (tc bo)).length)) w' ∧ SegX lo hi w w' ∧ LIn lo (T' ++ (if rais N K i s f g = true then [goC f g 1] else []).map (tc bo) ++ ((R.drop (j + 1)).flatMap (goTo N K bo i s f)).map (tc bo)) w' := by
        intro T' u u1 u2 u3 u4
        unfold f_X5_addGoings_118
        rw [x_canBeRaised h0 h32 hf hgN (hK.seg u1) (hW.seg u1), bd_s, hs]
        cases hq : rais N K i s f g with
        | false =>
          rw [hq] at u4
          rw [if_pos (by decide)]
          simpa using fin T' u u1 u2 u3 (by simpa using u4)
        | true =>
          rw [hq] at u4
          simp only [if_true, List.length_singleton] at u4
          rw [if_neg (by decide), inb_nI (show lo + T'.length < 270 * (N * N) by omega) (by omega), if_pos rfl, lw_e, nI_clamp (by omega), code_r hbg.2 (by omega) (by omega), nI_1]
          have := fin (T' ++ [goC f g 1 + 65536 * bo g]) _ (u1.tr (SegX.i (j := lo + T'.length) (v := nI (goC f g 1 + 65536 * bo g)) (by omega) (by omega))) (by rw [wI_c (by decide)]; exact u2) u3.push (by rw [List.length_append, List.length_singleton]; omega)
          rw [List.length_append, List.length_singleton, ← Nat.add_assoc] at this
          simpa [t1] using this
      have first : ∃ w', f_X5_addGoings_106 N (l_X5_addGoings_24 N K155 n) K155 (nI f) (nI R.length) (nI (lo + T.length)) (nI i) (nI (rz i)) (nI j) (nI g) (nI (goC f g 0 + 65536 * bo g)) w = w' := ⟨_, rfl⟩
      have yes : stay N K i s g = true → ∃ w', f_X5_addGoings_106 N (l_X5_addGoings_24 N K155 n) K155 (nI f) (nI R.length) (nI (lo + T.length)) (nI i) (nI (rz i)) (nI j) (nI g) (nI (goC f g 0 + 65536 * bo g)) w = K155 (nI (lo + (T ++ ((if stay N K i s g = true then [goC f g 0] else []) ++ (if rais N K i s f g = true then [goC f g 1] else [])).map (tc bo) ++ ((R.drop (j + 1)).flatMap (goTo N K bo i s f)).map (tc bo)).length)) w' ∧ SegX lo hi w w' ∧ LIn lo (T ++ ((if stay N K i s g = true then [goC f g 0] else []) ++ (if rais N K i s f g = true then [goC f g 1] else [])).map (tc bo) ++ ((R.drop (j + 1)).flatMap (goTo N K bo i s f)).map (tc bo)) w' := by
        intro hq
        rw [hq] at hlen ⊢
        simp only [if_true, List.length_append, List.length_singleton] at hlen
        unfold f_X5_addGoings_106
        rw [inb_nI (show lo + T.length < 270 * (N * N) by omega) (by omega), if_pos rfl, lw_e, nI_clamp (by omega), nI_1]
        have := second (T ++ [goC f g 0 + 65536 * bo g]) _ (SegX.i (j := lo + T.length) (v := nI (goC f g 0 + 65536 * bo g)) (by omega) (by omega)) (by rw [wI_c (by decide)]) hL.push (by rw [List.length_append, List.length_singleton]; omega)
        rw [List.length_append, List.length_singleton, ← Nat.add_assoc] at this
        simpa [t0] using this
      by_cases hr : rz i = 0
      · rw [if_pos (rz_0.mpr hr), x_goesOn h0 h32 hgN hK hD hW, bd_s, (tp8 i (by omega) h0).2 hr, hs]
        cases hq : goOn N K (kn i) s g with
        | false =>
          have hst : stay N K i s g = false := by unfold stay; simp [hr, hq]
          rw [if_pos (by decide)]
          rw [hst] at hlen ⊢
          have := second T w SegX.rf rfl hL (by simp only [Bool.false_eq_true, if_false, List.nil_append] at hlen; omega)
          simpa using this
        | true =>
          rw [if_neg (by decide)]
          exact yes (by unfold stay; simp [hq])
      · rw [if_neg (fun z => hr (rz_0.mp z))]
        exact yes (by unfold stay; simp [hr])
