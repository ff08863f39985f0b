/-! ===== the class: addSettings, fill ===== -/
theorem mod_next {f N : Nat} (hN : 0 < N) : (f + 1) % N = if f % N + 1 < N then f % N + 1 else 0 := by
  have hc : f % N < N := Nat.mod_lt _ hN
  rw [Nat.add_mod]
  by_cases h1 : N = 1
  · subst h1; simp [Nat.mod_one]
  · rw [Nat.mod_eq_of_lt (show 1 < N by omega)]
    split
    · rename_i h; exact Nat.mod_eq_of_lt h
    · have : f % N + 1 = N := by omega
      rw [this, Nat.mod_self]
theorem x_as30 {K136 : Int32 → Wd → Option (Int32 × Wd)} {N k lo hi : Nat} {K : Kd} {P : Ps} (hk : k < 8) (hs2 : P.2.2 < 2) (hhi : hi ≤ 270 * (N * N)) :
    ∀ (m f n : Nat) (T : List Nat) (w : Wd), f + m = N * N → m < n → XK N K w → XD K w → XW N K w → XB N P.1 w → LIn lo T w → lo + T.length + ((List.range' f m).flatMap (setAt N K P k)).length ≤ hi →
      ∃ w', l_X5_addSettings_30 N K136 n (nI k) (nI (lo + T.length)) (nI (1 + k + 16 * P.2.2)) (nI (if K.2.2 k % 2 = 0 then 0 else shB N P.1 (1 + k + 16 * P.2.2))) (nI (f % N)) (nI f) w = K136 (nI (lo + (T ++ ((List.range' f m).flatMap (setAt N K P k)).map (tc P.1)).length)) w' ∧ SegX lo hi w w' ∧ w'.1 26 = w.1 26 ∧ LIn lo (T ++ ((List.range' f m).flatMap (setAt N K P k)).map (tc P.1)) w' := by
  intro m
  induction m with
  | zero =>
    intro f n T w hf hn hK hD hW hB hL hlen
    obtain ⟨n, rfl⟩ : ∃ k, n = k + 1 := ⟨n - 1, by omega⟩
    have hNN := NN_le hK.2.2.1
    have : f = N * N := by omega
    subst this
    refine ⟨w, ?_, SegX.rf, rfl, by simpa using hL⟩
    show b_X5_addSettings_30 N (l_X5_addSettings_30 N K136 n) K136 (nI k) (nI (lo + T.length)) (nI (1 + k + 16 * P.2.2)) _ (nI (N * N % N)) (nI (N * N)) w = _
    unfold b_X5_addSettings_30
    rw [hW.2.1, if_pos (nI_le (Nat.le_refl _) (by omega))]
    simp
  | succ m ih =>
    intro f n T w hfm hn hK hD hW hB hL hlen
    obtain ⟨n, rfl⟩ : ∃ k, n = k + 1 := ⟨n - 1, by omega⟩
    have hNN := NN_le hK.2.2.1
    have h7 := hK.2.2.1
    have h5 := hK.2.2.2.1
    have hf : f < N * N := by omega
    have hb := hB f hf
    have hc : f % N < N := Nat.mod_lt _ (by omega)
    have hmk := man_k k hk P.2.2 hs2
    rw [List.range'_succ, List.flatMap_cons, List.length_append] at hlen
    rw [List.range'_succ, List.flatMap_cons, List.map_append, ← List.append_assoc]
    have fin : ∀ (T' : List Nat) (u : Wd), SegX lo hi w u → u.1 26 = w.1 26 → LIn lo T' u → lo + T'.length + ((List.range' (f + 1) m).flatMap (setAt N K P k)).length ≤ hi → ∃ w', f_X5_addSettings_106 N (l_X5_addSettings_30 N K136 n) K136 (nI k) (nI (lo + T'.length)) (nI (1 + k + 16 * P.2.2)) (nI (if K.2.2 k % 2 = 0 then 0 else shB N P.1 (1 + k + 16 * P.2.2))) (nI (f % N)) (nI f) u = K136 (nI (lo + (T' ++ ((List.range' (f + 1) m).flatMap (setAt N K P k)).map (tc P.1)).length)) w' ∧ SegX lo hi w w' ∧ w'.1 26 = w.1 26 ∧ LIn lo (T' ++ ((List.range' (f + 1) m).flatMap (setAt N K P k)).map (tc P.1)) w' := by
      intro T' u t1 t2 t3 t4
      obtain ⟨w', a1, a2, a3, a4⟩ := ih (f + 1) n T' u (by omega) (by omega) (hK.seg t1) (hD.seg t1) (hW.seg t1) (hB.seg t1) t3 t4
      refine ⟨w', ?_, t1.tr a2, a3.trans t2, a4⟩
      rw [mod_next (by omega)] at a1
      unfold f_X5_addSettings_106 f_X5_addSettings_128
      rw [(hW.seg t1).1, nI_1, nI_1]
      by_cases q : f % N + 1 < N
      · rw [if_pos q] at a1
        rw [if_neg (nI_ge q (by omega))]
        exact a1
      · rw [if_neg q] at a1
        rw [if_pos (nI_le (by omega) (by omega))]
        exact a1
    have no : setAt N K P k f = [] → ∃ w', f_X5_addSettings_106 N (l_X5_addSettings_30 N K136 n) K136 (nI k) (nI (lo + T.length)) (nI (1 + k + 16 * P.2.2)) (nI (if K.2.2 k % 2 = 0 then 0 else shB N P.1 (1 + k + 16 * P.2.2))) (nI (f % N)) (nI f) w = K136 (nI (lo + (T ++ (setAt N K P k f).map (tc P.1) ++ ((List.range' (f + 1) m).flatMap (setAt N K P k)).map (tc P.1)).length)) w' ∧ SegX lo hi w w' ∧ w'.1 26 = w.1 26 ∧ LIn lo (T ++ (setAt N K P k f).map (tc P.1) ++ ((List.range' (f + 1) m).flatMap (setAt N K P k)).map (tc P.1)) w' := by
      intro eg
      rw [eg] at hlen ⊢
      simpa using fin T w SegX.rf rfl hL (by simpa using hlen)
    have hsh : (if K.2.2 k % 2 = 0 then 0 else shB N P.1 (1 + k + 16 * P.2.2)) < 128 := by
      split
      · omega
      · exact sh_lt h7 (by omega) _ 0 (by decide)
    have hbit : bt (if K.2.2 k % 2 = 0 then 0 else shB N P.1 (1 + k + 16 * P.2.2)) (f % N) = false ↔ (K.2.2 k % 2 = 0 ∨ inCol N P.1 P.2.2 k f = false) := by
      by_cases q : K.2.2 k % 2 = 0
      · rw [if_pos q]
        have : bt 0 (f % N) = false := by rw [bt_tb]; simp
        simp [q, this]
      · rw [if_neg q, shB_bt (by omega)]
        unfold inCol
        simp [q]
    have e1 : l_X5_addSettings_30 N K136 (n + 1) (nI k) (nI (lo + T.length)) (nI (1 + k + 16 * P.2.2)) (nI (if K.2.2 k % 2 = 0 then 0 else shB N P.1 (1 + k + 16 * P.2.2))) (nI (f % N)) (nI f) w = b_X5_addSettings_30 N (l_X5_addSettings_30 N K136 n) K136 (nI k) (nI (lo + T.length)) (nI (1 + k + 16 * P.2.2)) (nI (if K.2.2 k % 2 = 0 then 0 else shB N P.1 (1 + k + 16 * P.2.2))) (nI (f % N)) (nI f) w := rfl
    rw [e1]
    generalize hshut : (if K.2.2 k % 2 = 0 then 0 else shB N P.1 (1 + k + 16 * P.2.2)) = shut at *
    unfold b_X5_addSettings_30 f_X5_addSettings_69 f_X5_addSettings_70
    rw [hW.2.1, if_neg (nI_ge hf (by omega)), inb_nI hf (by omega), if_pos rfl, nI_clamp (show f < 2 ^ 31 by omega), hb.1]
    by_cases q0 : P.1 f = 0
    · rw [q0, if_pos z0]
      cases hq : bt shut (f % N) with
      | true =>
        rw [if_neg (fun z => by rw [bit_0 (by omega) (by omega), hq] at z; cases z), if_pos rfl]
        exact no (if_neg (fun z => by rw [hbit.mpr z.2.2] at hq; cases hq))
      | false =>
        rw [if_pos ((bit_0 (by omega) (by omega)).mpr hq), if_neg (by decide), x_goesOn (show 0 < 1 + k + 16 * P.2.2 by omega) hmk.2.2 hf hK hD hW, bd_s, hmk.1, hmk.2.1]
        cases hq2 : goOn N K k P.2.2 f with
        | false =>
          rw [if_pos (by decide)]
          exact no (if_neg (by simp [hq2]))
        | true =>
          have eg : setAt N K P k f = [seC k f] := if_pos ⟨q0, hq2, hbit.mp hq⟩
          rw [eg] at hlen ⊢
          have et : tc P.1 (seC k f) = seC k f := by
            unfold tc
            rw [(seC_ok hk (show f < 64 by omega)).1, q0]
            omega
          simp only [List.length_singleton] at hlen
          rw [if_neg (by decide), x_setting hk (by omega), bd_s, inb_nI (show lo + T.length < 270 * (N * N) by omega) (by omega), if_pos rfl, lw_e, nI_clamp (by omega), nI_1]
          have := fin (T ++ [seC k f]) _ (SegX.i (j := lo + T.length) (v := nI (seC k f)) (by omega) (by omega)) (by rw [wI_c (by decide)]) hL.push (by rw [List.length_append, List.length_singleton]; omega)
          rw [List.length_append, List.length_singleton, ← Nat.add_assoc] at this
          simpa [et] using this
    · rw [if_neg (nI_ne0 (by omega) (by omega)), if_pos rfl]
      exact no (if_neg (by simp [q0]))
theorem x_addSettings {N k lo hi : Nat} {K : Kd} {P : Ps} {T : List Nat} {w : Wd} (hk : k < 8) (hs2 : P.2.2 < 2) (hhi : hi ≤ 270 * (N * N)) (hK : XK N K w) (hD : XD K w) (hW : XW N K w) (hB : XB N P.1 w) (hmv : w.1 22 7 = nI P.2.2) (hL : LIn lo T w) (hlen : lo + T.length + ((List.range (N * N)).flatMap (setAt N K P k)).length ≤ hi) :
    ∃ w', f_X5_addSettings N (nI k) (nI (lo + T.length)) w = some (nI (lo + (T ++ ((List.range (N * N)).flatMap (setAt N K P k)).map (tc P.1)).length), w') ∧ SegX lo hi w w' ∧ LIn lo (T ++ ((List.range (N * N)).flatMap (setAt N K P k)).map (tc P.1)) w' := by
  have hNN := NN_le hK.2.2.1
  have hmk := man_k k hk P.2.2 hs2
  rw [List.range_eq_range'] at hlen ⊢
  obtain ⟨w', a1, a2, a3, a4⟩ := x_as30 (K136 := f_X5_addSettings_136 N) (lo := lo) (hi := hi) hk hs2 hhi (N * N) 0 FU T w (Nat.zero_add _) (FU_big (by omega)) hK hD hW hB hL hlen
  refine ⟨w', ?_, a2, a4⟩
  unfold f_X5_addSettings f_X2_itemOf
  rw [hmv, n1k16, bd_s, x_columnsShutTo hk hmk.2.2 hK hW hB, bd_s]
  rw [Nat.zero_mod] at a1
  exact a1
/-- what the class's table holds of a position -/
def XP (N : Nat) (P : Ps) (w : Wd) : Prop := XB N P.1 w ∧ (∀ j, j < 16 → w.1 24 j = nI (P.2.1 j) ∧ P.2.1 j < 1000) ∧ w.1 22 7 = nI P.2.2 ∧ P.2.2 < 2
theorem XP.seg {N lo hi : Nat} {P : Ps} {w w' : Wd} (h : XP N P w) (s : SegX lo hi w w') : XP N P w' := ⟨h.1.seg s, by rw [s.2.1 24 (by decide) (by decide)]; exact h.2.1, by rw [s.2.1 22 (by decide) (by decide)]; exact h.2.2.1, h.2.2.2⟩
theorem x_fl18 {K70 : Int32 → Int32 → Wd → Option (Int32 × Wd)} {N lo hi : Nat} {K : Kd} {P : Ps} (hhi : hi ≤ 270 * (N * N)) :
    ∀ (m f n : Nat) (T : List Nat) (w : Wd), f + m = N * N → m < n → XK N K w → XD K w → XW N K w → XP N P w → LIn lo T w → lo + T.length + ((List.range' f m).flatMap (gosAt N K P)).length ≤ hi →
      ∃ w', l_X5_fill_18 N K70 n (nI (lo + T.length)) (nI P.2.2) (nI f) w = K70 (nI (lo + (T ++ ((List.range' f m).flatMap (gosAt N K P)).map (tc P.1)).length)) (nI P.2.2) w' ∧ SegX lo hi w w' ∧ LIn lo (T ++ ((List.range' f m).flatMap (gosAt N K P)).map (tc P.1)) w' := by
  intro m
  induction m with
  | zero =>
    intro f n T w hf hn hK hD hW hP hL hlen
    obtain ⟨n, rfl⟩ : ∃ k, n = k + 1 := ⟨n - 1, by omega⟩
    have hNN := NN_le hK.2.2.1
    have : f = N * N := by omega
    subst this
    refine ⟨w, ?_, SegX.rf, by simpa using hL⟩
    show b_X5_fill_18 N (l_X5_fill_18 N K70 n) K70 (nI (lo + T.length)) (nI P.2.2) (nI (N * N)) w = _
    unfold b_X5_fill_18
    rw [hW.2.1, if_pos (nI_le (Nat.le_refl _) (by omega))]
    simp
  | succ m ih =>
    intro f n T w hfm hn hK hD hW hP hL hlen
    obtain ⟨n, rfl⟩ : ∃ k, n = k + 1 := ⟨n - 1, by omega⟩
    have hNN := NN_le hK.2.2.1
    have hf : f < N * N := by omega
    have hb := hP.1 f hf
    rw [List.range'_succ, List.flatMap_cons, List.length_append] at hlen
    rw [List.range'_succ, List.flatMap_cons, List.map_append, ← List.append_assoc]
    have fin : ∀ (T' : List Nat) (u : Wd), SegX lo hi w u → LIn lo T' u → lo + T'.length + ((List.range' (f + 1) m).flatMap (gosAt N K P)).length ≤ hi → ∃ w', f_X5_fill_64 N (l_X5_fill_18 N K70 n) K70 (nI (lo + T'.length)) (nI P.2.2) (nI f) u = K70 (nI (lo + (T' ++ ((List.range' (f + 1) m).flatMap (gosAt N K P)).map (tc P.1)).length)) (nI P.2.2) w' ∧ SegX lo hi w w' ∧ LIn lo (T' ++ ((List.range' (f + 1) m).flatMap (gosAt N K P)).map (tc P.1)) w' := by
      intro T' u t1 t2 t3
      unfold f_X5_fill_64
      rw [nI_1]
      obtain ⟨w', a1, a2, a3⟩ := ih (f + 1) n T' u (by omega) (by omega) (hK.seg t1) (hD.seg t1) (hW.seg t1) (hP.seg t1) t2 t3
      exact ⟨w', a1, t1.tr a2, a3⟩
    have e1 : l_X5_fill_18 N K70 (n + 1) (nI (lo + T.length)) (nI P.2.2) (nI f) w = b_X5_fill_18 N (l_X5_fill_18 N K70 n) K70 (nI (lo + T.length)) (nI P.2.2) (nI f) w := rfl
    rw [e1]
    unfold b_X5_fill_18
    rw [hW.2.1, if_neg (nI_ge hf (by omega)), inb_nI hf (by omega), if_pos rfl, nI_clamp (by omega), hb.1, x_sideOf hb.2, bd_s]
    cases hq : isOf P.2.2 (P.1 f) with
    | false =>
      rw [if_neg (fun z => by rw [isOf_e hP.2.2.2 hb.2, hq] at z; cases z)]
      have eg : gosAt N K P f = [] := if_neg (fun z => by unfold isOf at hq; simp [z.1, z.2] at hq)
      rw [eg] at hlen ⊢
      simpa using fin T w SegX.rf hL (by simpa using hlen)
    | true =>
      have hq2 : P.1 f ≠ 0 ∧ sd (P.1 f) = P.2.2 := by unfold isOf at hq; simpa using hq
      rw [if_pos ((isOf_e hP.2.2.2 hb.2).mpr hq)]
      obtain ⟨u, r1, r2, r3⟩ := x_reach hf hq2.1 hK hP.1
      have r2s : SegX lo hi w u := r2.seg
      have hLu : LIn lo T u := fun j c hj => by rw [r2.2 28 (by decide)]; exact hL j c hj
      obtain ⟨u', s1, s2, s3⟩ := x_addGoings (lo := lo) (hi := hi) hf hq2 hP.2.2.2 hhi (hK.seg r2s) (hD.seg r2s) (hW.seg r2s) (hP.1.seg r2s) (hP.seg r2s).2.2.1 r3 hLu (by omega)
      rw [r1, bd_s, s1, bd_s]
      obtain ⟨w', c1, c2, c3⟩ := fin _ u' (r2s.tr s2) s3 (by rw [List.length_append, List.length_map]; omega)
      exact ⟨w', c1, c2, c3⟩
theorem x_fl73 {K112 : Int32 → Wd → Option (Int32 × Wd)} {N lo hi : Nat} {K : Kd} {P : Ps} (hhi : hi ≤ 270 * (N * N)) :
    ∀ (m k n : Nat) (T : List Nat) (w : Wd), k + m = 8 → 1 ≤ k → m < n → XK N K w → XD K w → XW N K w → XP N P w → LIn lo T w → lo + T.length + ((List.range' k m).flatMap (setsOf N K P)).length ≤ hi →
      ∃ w', l_X5_fill_73 N K112 n (nI (lo + T.length)) (nI P.2.2) (nI k) w = K112 (nI (lo + (T ++ ((List.range' k m).flatMap (setsOf N K P)).map (tc P.1)).length)) w' ∧ SegX lo hi w w' ∧ LIn lo (T ++ ((List.range' k m).flatMap (setsOf N K P)).map (tc P.1)) w' := by
  intro m
  induction m with
  | zero =>
    intro k n T w hk hk1 hn hK hD hW hP hL hlen
    obtain ⟨n, rfl⟩ : ∃ k, n = k + 1 := ⟨n - 1, by omega⟩
    have : k = 8 := by omega
    subst this
    refine ⟨w, ?_, SegX.rf, by simpa using hL⟩
    show b_X5_fill_73 N (l_X5_fill_73 N K112 n) K112 (nI (lo + T.length)) (nI P.2.2) (nI 8) w = _
    unfold b_X5_fill_73
    rw [if_pos (by decide)]
    simp
  | succ m ih =>
    intro k n T w hkm hk1 hn hK hD hW hP hL hlen
    obtain ⟨n, rfl⟩ : ∃ k, n = k + 1 := ⟨n - 1, by omega⟩
    have hNN := NN_le hK.2.2.1
    have hk : k < 8 := by omega
    have hmv := hP.2.2.2
    have hhd := hP.2.1 (8 * P.2.2 + k) (by omega)
    rw [List.range'_succ, List.flatMap_cons, List.length_append] at hlen
    rw [List.range'_succ, List.flatMap_cons, List.map_append, ← List.append_assoc]
    have fin : ∀ (T' : List Nat) (u : Wd), SegX lo hi w u → LIn lo T' u → lo + T'.length + ((List.range' (k + 1) m).flatMap (setsOf N K P)).length ≤ hi → ∃ w', f_X5_fill_106 N (l_X5_fill_73 N K112 n) K112 (nI (lo + T'.length)) (nI P.2.2) (nI k) u = K112 (nI (lo + (T' ++ ((List.range' (k + 1) m).flatMap (setsOf N K P)).map (tc P.1)).length)) w' ∧ SegX lo hi w w' ∧ LIn lo (T' ++ ((List.range' (k + 1) m).flatMap (setsOf N K P)).map (tc P.1)) w' := by
      intro T' u t1 t2 t3
      unfold f_X5_fill_106
      rw [nI_1]
      obtain ⟨w', a1, a2, a3⟩ := ih (k + 1) n T' u (by omega) (by omega) (by omega) (hK.seg t1) (hD.seg t1) (hW.seg t1) (hP.seg t1) t2 t3
      exact ⟨w', a1, t1.tr a2, a3⟩
    have e1 : l_X5_fill_73 N K112 (n + 1) (nI (lo + T.length)) (nI P.2.2) (nI k) w = b_X5_fill_73 N (l_X5_fill_73 N K112 n) K112 (nI (lo + T.length)) (nI P.2.2) (nI k) w := rfl
    rw [e1]
    unfold b_X5_fill_73
    rw [if_neg (show ¬ (8 : Int32) ≤ nI k from nI_ge hk (by decide)), show (8 : Int32) * nI P.2.2 + nI k = nI (8 * P.2.2 + k) from by rw [show (8 : Int32) = nI 8 from rfl, pk_mul, nI_add], inb_nI (show 8 * P.2.2 + k < 16 by omega) (by decide), if_pos rfl, nI_clamp (by omega), hhd.1]
    by_cases h0 : P.2.1 (8 * P.2.2 + k) = 0
    · rw [h0, if_pos (by decide)]
      have es : setsOf N K P k = [] := if_pos h0
      rw [es] at hlen ⊢
      simpa using fin T w SegX.rf hL (by simpa using hlen)
    · rw [if_neg (show ¬ nI (P.2.1 (8 * P.2.2 + k)) ≤ 0 from nI_nle (by omega) (by omega))]
      have es : setsOf N K P k = (List.range (N * N)).flatMap (setAt N K P k) := if_neg h0
      rw [es] at hlen ⊢
      obtain ⟨u, a1, a2, a3⟩ := x_addSettings (lo := lo) (hi := hi) hk hmv hhi hK hD hW hP.1 hP.2.2.1 hL (by omega)
      rw [a1, bd_s]
      exact fin _ u a2 a3 (by rw [List.length_append, List.length_map]; omega)
/-- Rules.fill: the list of what can be tried, with what is taken, from the segment's first place on -/
theorem x_fill {N sg hi : Nat} {K : Kd} {P : Ps} {w : Wd} (hhi : hi ≤ 270 * (N * N)) (hw : w.1 27 2 = nI (27 * (N * N))) (hK : XK N K w) (hD : XD K w) (hW : XW N K w) (hP : XP N P w) (hlen : sg * (27 * (N * N)) + (triL N K P).length ≤ hi) :
    ∃ w', f_X5_fill N (nI sg) w = some (nI (sg * (27 * (N * N)) + (triL N K P).length), w') ∧ SegX (sg * (27 * (N * N))) hi w w' ∧ LIn (sg * (27 * (N * N))) ((triL N K P).map (tc P.1)) w' := by
  have hNN := NN_le hK.2.2.1
  unfold triL at hlen ⊢
  rw [List.length_append] at hlen
  rw [List.range_eq_range'] at hlen ⊢
  obtain ⟨w1, a1, a2, a3⟩ := x_fl18 (K70 := f_X5_fill_70 N) (lo := sg * (27 * (N * N))) (hi := hi) hhi (N * N) 0 FU [] w (Nat.zero_add _) (FU_big (by omega)) hK hD hW hP (fun j c h => by simp at h) (by simp only [List.length_nil]; omega)
  rw [List.nil_append] at a1 a3
  obtain ⟨w2, b1, b2, b3⟩ := x_fl73 (K112 := f_X5_fill_112 N) (lo := sg * (27 * (N * N))) (hi := hi) hhi 7 1 FU _ w1 rfl (Nat.le_refl 1) (by decide) (hK.seg a2) (hD.seg a2) (hW.seg a2) (hP.seg a2) a3 (by rw [List.length_map]; omega)
  refine ⟨w2, ?_, a2.tr b2, by rw [List.map_append]; exact b3⟩
  unfold f_X5_fill
  rw [lt_e, lt_e, hw, pk_mul, hP.2.2.1]
  refine Eq.trans a1 ?_
  unfold f_X5_fill_70
  refine Eq.trans b1 ?_
  unfold f_X5_fill_112
  rw [← List.map_append, List.length_map]
