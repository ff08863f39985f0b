/-! ===== the reference's plays: stands kept, laid, compared ===== -/
theorem n301 (h i : Nat) : (301 : Int32) * nI h + nI i = nI (301 * h + i) := by
  rw [show (301 : Int32) = nI 301 from rfl, pk_mul, nI_add]
theorem n300 (h i : Nat) : (300 : Int32) * nI h + nI i = nI (300 * h + i) := by
  rw [show (300 : Int32) = nI 300 from rfl, pk_mul, nI_add]
/-- only what is kept at s -/
def KM (s : Nat) (w w' : Wd) : Prop := w'.2 = w.2 ∧ (∀ k, k ≠ 78 → k ≠ 79 → k ≠ 80 → w'.1 k = w.1 k) ∧ (∀ j, j < 49 * s ∨ 49 * s + 49 ≤ j → w'.1 78 j = w.1 78 j) ∧ (∀ j, j < 16 * s ∨ 16 * s + 16 ≤ j → w'.1 79 j = w.1 79 j) ∧ ∀ j, j ≠ s → w'.1 80 j = w.1 80 j
theorem KM.rf {s : Nat} {w : Wd} : KM s w w := ⟨rfl, fun _ _ _ _ => rfl, fun _ _ => rfl, fun _ _ => rfl, fun _ _ => rfl⟩
theorem KM.a {s j : Nat} {w u : Wd} {v : Int32} (h : KM s w u) (h1 : 49 * s ≤ j) (h2 : j < 49 * s + 49) : KM s w (wdI u 78 j v) := ⟨h.1, fun k a b c => by rw [wI_c a]; exact h.2.1 k a b c, fun i hi => by rw [wI_n (by omega)]; exact h.2.2.1 i hi, fun i hi => by rw [wI_c (by decide)]; exact h.2.2.2.1 i hi, fun i hi => by rw [wI_c (by decide)]; exact h.2.2.2.2 i hi⟩
theorem KM.b {s j : Nat} {w u : Wd} {v : Int32} (h : KM s w u) (h1 : 16 * s ≤ j) (h2 : j < 16 * s + 16) : KM s w (wdI u 79 j v) := ⟨h.1, fun k a b c => by rw [wI_c b]; exact h.2.1 k a b c, fun i hi => by rw [wI_c (by decide)]; exact h.2.2.1 i hi, fun i hi => by rw [wI_n (by omega)]; exact h.2.2.2.1 i hi, fun i hi => by rw [wI_c (by decide)]; exact h.2.2.2.2 i hi⟩
theorem KM.c {s : Nat} {w u : Wd} {v : Int32} (h : KM s w u) : KM s w (wdI u 80 s v) := ⟨h.1, fun k a b c => by rw [wI_c c]; exact h.2.1 k a b c, fun i hi => by rw [wI_c (by decide)]; exact h.2.2.1 i hi, fun i hi => by rw [wI_c (by decide)]; exact h.2.2.2.1 i hi, fun i hi => by rw [wI_n hi]; exact h.2.2.2.2 i hi⟩
/-- what is kept at s -/
def KpM (s : Nat) (P : Ps) (w : Wd) : Prop := (∀ q, q < 49 → w.1 78 (49 * s + q) = nI (P.1 q)) ∧ (∀ j, j < 16 → w.1 79 (16 * s + j) = nI (P.2.1 j)) ∧ w.1 80 s = nI P.2.2
theorem KpM.km {s t : Nat} {P : Ps} {w w' : Wd} (h : KpM t P w) (k : KM s w w') (hst : t ≠ s) : KpM t P w' := ⟨fun q hq => by rw [k.2.2.1 _ (by omega)]; exact h.1 q hq, fun j hj => by rw [k.2.2.2.1 _ (by omega)]; exact h.2.1 j hj, by rw [k.2.2.2.2 _ hst]; exact h.2.2⟩
theorem m_ks11s {s q n : Nat} {u : Wd} (hs2 : s < 602) (hq : q < 49) : l_X10_keepStand_11 f_X10_keepStand_43 (n + 1) (nI s) (nI q) u = l_X10_keepStand_11 f_X10_keepStand_43 n (nI s) (nI (q + 1)) (wdI u 78 (49 * s + q) (u.1 60 q)) := by
  show b_X10_keepStand_11 (l_X10_keepStand_11 f_X10_keepStand_43 n) f_X10_keepStand_43 (nI s) (nI q) u = _
  unfold b_X10_keepStand_11
  rw [if_neg (show ¬ (49 : Int32) ≤ nI q from nI_ge (b := 49) hq (by omega)), inb_nI (show q < 784 by omega) (by omega), if_pos rfl, n49, inb_nI (show 49 * s + q < 29498 by omega) (by omega), if_pos rfl, lw_e, nI_clamp (show 49 * s + q < 2 ^ 31 by omega), nI_clamp (show q < 2 ^ 31 by omega), nI_1]
theorem m_ks11e {s n e : Nat} {u : Wd} (he : e = 49) : l_X10_keepStand_11 f_X10_keepStand_43 (n + 1) (nI s) (nI e) u = f_X10_keepStand_43 (nI s) u := by
  show b_X10_keepStand_11 (l_X10_keepStand_11 f_X10_keepStand_43 n) f_X10_keepStand_43 (nI s) (nI e) u = _
  unfold b_X10_keepStand_11
  rw [if_pos (show (49 : Int32) ≤ nI e from nI_le (a := 49) (by omega) (by omega))]
theorem m_ks11 {N s : Nat} {P : Ps} {w : Wd} (hP : MP N 0 P w) (hs2 : s < 602) : ∃ u, l_X10_keepStand_11 f_X10_keepStand_43 FU (nI s) (nI 0) w = f_X10_keepStand_43 (nI s) u ∧ KM s w u ∧ ∀ q', q' < 49 → u.1 78 (49 * s + q') = nI (P.1 q') :=
  loop_up (fun n q u => l_X10_keepStand_11 f_X10_keepStand_43 n (nI s) q u) (fun u => f_X10_keepStand_43 (nI s) u) 49 (fun q u => KM s w u ∧ ∀ q', q' < q → u.1 78 (49 * s + q') = nI (P.1 q')) (fun n u hu => m_ks11e rfl) (fun n q u hq hu => ⟨wdI u 78 (49 * s + q) (u.1 60 q), m_ks11s hs2 hq, hu.1.a (by omega) (by omega), fun q' hq' => by
    by_cases e : q' = q
    · subst e
      have e0 := (hP.2.1 q' hq).1
      rw [Nat.mul_zero, Nat.zero_add] at e0
      rw [wI_s, hu.1.2.1 60 (by decide) (by decide) (by decide), e0]
    · rw [wI_n (by omega)]; exact hu.2 q' (by omega)⟩) 49 0 w (by omega) ⟨KM.rf, fun q hq => by omega⟩ FU (by decide)
theorem m_ks46 {N s : Nat} {P : Ps} {w u1 : Wd} (hP : MP N 0 P w) (hs2 : s < 602) (a2 : KM s w u1) (a3 : ∀ q', q' < 49 → u1.1 78 (49 * s + q') = nI (P.1 q')) : ∃ u, l_X10_keepStand_46 f_X10_keepStand_78 FU (nI s) (nI 0) u1 = f_X10_keepStand_78 (nI s) u ∧ KM s w u ∧ (∀ q', q' < 49 → u.1 78 (49 * s + q') = nI (P.1 q')) ∧ ∀ q', q' < 16 → u.1 79 (16 * s + q') = nI (P.2.1 q') :=
  loop_up (fun n q u => l_X10_keepStand_46 f_X10_keepStand_78 n (nI s) q u) (fun u => f_X10_keepStand_78 (nI s) u) 16 (fun q u => KM s w u ∧ (∀ q', q' < 49 → u.1 78 (49 * s + q') = nI (P.1 q')) ∧ ∀ q', q' < q → u.1 79 (16 * s + q') = nI (P.2.1 q')) (fun n u hu => by
    show b_X10_keepStand_46 (l_X10_keepStand_46 f_X10_keepStand_78 n) f_X10_keepStand_78 (nI s) (nI 16) u = _
    unfold b_X10_keepStand_46
    rw [if_pos (by decide)]) (fun n q u hq hu => by
    refine ⟨wdI u 79 (16 * s + q) (nI (P.2.1 q)), ?_, hu.1.b (by omega) (by omega), fun q' hq' => by rw [wI_c (by decide)]; exact hu.2.1 q' hq', fun q' hq' => ?_⟩
    · show b_X10_keepStand_46 (l_X10_keepStand_46 f_X10_keepStand_78 n) f_X10_keepStand_78 (nI s) (nI q) u = _
      unfold b_X10_keepStand_46
      have e0 := (hP.2.2.1 q hq).1
      rw [Nat.mul_zero, Nat.zero_add] at e0
      rw [if_neg (show ¬ (16 : Int32) ≤ nI q from nI_ge (b := 16) hq (by omega)), inb_nI (show q < 256 by omega) (by omega), if_pos rfl, n16, inb_nI (show 16 * s + q < 9632 by omega) (by omega), if_pos rfl, lw_e, nI_clamp (show 16 * s + q < 2 ^ 31 by omega), nI_clamp (show q < 2 ^ 31 by omega), hu.1.2.1 61 (by decide) (by decide) (by decide), e0, nI_1]
    · by_cases e : q' = q
      · subst e; rw [wI_s]
      · rw [wI_n (by omega)]; exact hu.2.2 q' (by omega)) 16 0 u1 (by omega) ⟨a2, a3, fun q hq => by omega⟩ FU (by decide)
theorem m_keepStand {N h i : Nat} {P : Ps} {w : Wd} (hP : MP N 0 P w) (hh : h < 2) (hi : i ≤ 300) : ∃ w', f_X10_keepStand (nI h) (nI i) w = some ((), w') ∧ KM (301 * h + i) w w' ∧ KpM (301 * h + i) P w' := by
  have hs2 : 301 * h + i < 602 := by omega
  obtain ⟨u1, a1, a2, a3⟩ := m_ks11 hP hs2
  obtain ⟨u2, b1, b2, b3, b4⟩ := m_ks46 hP hs2 a2 a3
  unfold f_X10_keepStand
  rw [lt_e, n301, show (0 : Int32) = nI 0 from rfl, a1]
  unfold f_X10_keepStand_43
  rw [show (0 : Int32) = nI 0 from rfl, b1]
  unfold f_X10_keepStand_78
  rw [if_pos (show inb (0 : Int32) 16 = true by decide), inb_nI hs2 (by omega), if_pos rfl, lw_e, nI_clamp (by omega), show Int32.toNatClampNeg (0 : Int32) = 0 from by decide, b2.2.1 62 (by decide) (by decide) (by decide), hP.2.2.2.1]
  exact ⟨_, rfl, b2.c, fun q hq => by rw [wI_c (by decide)]; exact b3 q hq, fun j hj => by rw [wI_c (by decide)]; exact b4 j hj, by rw [wI_s]⟩
/-- only the stand at level 0 -/
def LyM (w w' : Wd) : Prop := w'.2 = w.2 ∧ ∀ k, k ≠ 60 → k ≠ 61 → k ≠ 62 → w'.1 k = w.1 k
theorem LyM.rf {w : Wd} : LyM w w := ⟨rfl, fun _ _ _ _ => rfl⟩
theorem LyM.i {w u : Wd} {k j : Nat} {v : Int32} (h : LyM w u) (hk : k = 60 ∨ k = 61 ∨ k = 62) : LyM w (wdI u k j v) := ⟨h.1, fun q a b c => by rw [wI_c (by omega)]; exact h.2 q a b c⟩
theorem m_layStand {N h i : Nat} {P : Ps} {w : Wd} (hV : VB N P) (hK : KpM (301 * h + i) P w) (hh : h < 2) (hi : i ≤ 300) : ∃ w', f_X10_layStand (nI h) (nI i) w = some ((), w') ∧ LyM w w' ∧ MP N 0 P w' := by
  unfold f_X10_layStand
  rw [lt_e, n301]
  generalize hs : 301 * h + i = s at *
  have hs2 : s < 602 := by omega
  obtain ⟨u1, a1, a2, a3⟩ := loop_up (fun n q u => l_X10_layStand_11 f_X10_layStand_43 n (nI s) q u) (fun u => f_X10_layStand_43 (nI s) u) 49 (fun q u => LyM w u ∧ ∀ q', q' < q → u.1 60 q' = nI (P.1 q')) (fun n u hu => by
    show b_X10_layStand_11 (l_X10_layStand_11 f_X10_layStand_43 n) f_X10_layStand_43 (nI s) (nI 49) u = _
    unfold b_X10_layStand_11
    rw [if_pos (by decide)]) (fun n q u hq hu => by
    refine ⟨wdI u 60 q (nI (P.1 q)), ?_, hu.1.i (Or.inl rfl), fun q' hq' => ?_⟩
    · show b_X10_layStand_11 (l_X10_layStand_11 f_X10_layStand_43 n) f_X10_layStand_43 (nI s) (nI q) u = _
      unfold b_X10_layStand_11
      rw [if_neg (show ¬ (49 : Int32) ≤ nI q from nI_ge (b := 49) hq (by omega)), n49, inb_nI (show 49 * s + q < 29498 by omega) (by omega), if_pos rfl, inb_nI (show q < 784 by omega) (by omega), if_pos rfl, lw_e, nI_clamp (by omega), nI_clamp (by omega), hu.1.2 78 (by decide) (by decide) (by decide), hK.1 q hq, nI_1]
    · by_cases e : q' = q
      · subst e; rw [wI_s]
      · rw [wI_n (by omega)]; exact hu.2 q' (by omega)) 49 0 w (by omega) ⟨LyM.rf, fun q hq => by omega⟩ FU (by decide)
  have a1' : l_X10_layStand_11 f_X10_layStand_43 FU (nI s) (0 : Int32) w = f_X10_layStand_43 (nI s) u1 := a1
  rw [a1']
  unfold f_X10_layStand_43
  obtain ⟨u2, b1, ⟨b2, b3, b4⟩⟩ := loop_up (fun n q u => l_X10_layStand_46 f_X10_layStand_78 n (nI s) q u) (fun u => f_X10_layStand_78 (nI s) u) 16 (fun q u => LyM w u ∧ (∀ q', q' < 49 → u.1 60 q' = nI (P.1 q')) ∧ ∀ q', q' < q → u.1 61 q' = nI (P.2.1 q')) (fun n u hu => by
    show b_X10_layStand_46 (l_X10_layStand_46 f_X10_layStand_78 n) f_X10_layStand_78 (nI s) (nI 16) u = _
    unfold b_X10_layStand_46
    rw [if_pos (by decide)]) (fun n q u hq hu => by
    refine ⟨wdI u 61 q (nI (P.2.1 q)), ?_, hu.1.i (Or.inr (Or.inl rfl)), fun q' hq' => by rw [wI_c (by decide)]; exact hu.2.1 q' hq', fun q' hq' => ?_⟩
    · show b_X10_layStand_46 (l_X10_layStand_46 f_X10_layStand_78 n) f_X10_layStand_78 (nI s) (nI q) u = _
      unfold b_X10_layStand_46
      rw [if_neg (show ¬ (16 : Int32) ≤ nI q from nI_ge (b := 16) hq (by omega)), n16, inb_nI (show 16 * s + q < 9632 by omega) (by omega), if_pos rfl, inb_nI (show q < 256 by omega) (by omega), if_pos rfl, lw_e, nI_clamp (by omega), nI_clamp (by omega), hu.1.2 79 (by decide) (by decide) (by decide), hK.2.1 q hq, nI_1]
    · by_cases e : q' = q
      · subst e; rw [wI_s]
      · rw [wI_n (by omega)]; exact hu.2.2 q' (by omega)) 16 0 u1 (by omega) ⟨a2, a3, fun q hq => by omega⟩ FU (by decide)
  have b1' : l_X10_layStand_46 f_X10_layStand_78 FU (nI s) (0 : Int32) u1 = f_X10_layStand_78 (nI s) u2 := b1
  rw [b1']
  unfold f_X10_layStand_78
  rw [inb_nI hs2 (by omega), if_pos rfl, if_pos (show inb (0 : Int32) 16 = true by decide), lw_e, nI_clamp (by omega), show Int32.toNatClampNeg (0 : Int32) = 0 from by decide, b2.2 80 (by decide) (by decide) (by decide), hK.2.2]
  refine ⟨_, rfl, b2.i (Or.inr (Or.inr rfl)), by omega, fun q hq => ⟨?_, hV.le q⟩, fun j hj => ⟨?_, by have := hV.hd hj; omega⟩, by rw [wI_s], hV.mv⟩
  · rw [wI_c (by decide), Nat.mul_zero, Nat.zero_add]; exact b3 q hq
  · rw [wI_c (by decide), Nat.mul_zero, Nat.zero_add]; exact b4 j hj
theorem m_as24 {s t : Nat} {P Q : Ps} {w : Wd} (hs : s < 602) (ht : t < 602) (hS : KpM s P w) (hT : KpM t Q w) (hP : ∀ q, P.1 q ≤ 32) (hQ : ∀ q, Q.1 q ≤ 32) :
    ∀ (m q n : Nat), q + m = 49 → m < n → l_X10_areSame_24 f_X10_areSame_74 n (nI s) (nI t) (1 : Int32) (nI q) w = f_X10_areSame_74 (nI s) (nI t) (b2i ((List.range' q m).all fun q => decide (P.1 q = Q.1 q))) w := by
  intro m
  induction m with
  | zero =>
    intro q n hq hn
    obtain ⟨n, rfl⟩ : ∃ k, n = k + 1 := ⟨n - 1, by omega⟩
    show b_X10_areSame_24 (l_X10_areSame_24 f_X10_areSame_74 n) f_X10_areSame_74 (nI s) (nI t) (1 : Int32) (nI q) w = _
    unfold b_X10_areSame_24
    rw [if_pos (show (49 : Int32) ≤ nI q from nI_le (a := 49) (by omega) (by omega))]
    rfl
  | succ m ih =>
    intro q n hq hn
    obtain ⟨n, rfl⟩ : ∃ k, n = k + 1 := ⟨n - 1, by omega⟩
    have e1 : l_X10_areSame_24 f_X10_areSame_74 (n + 1) (nI s) (nI t) (1 : Int32) (nI q) w = b_X10_areSame_24 (l_X10_areSame_24 f_X10_areSame_74 n) f_X10_areSame_74 (nI s) (nI t) (1 : Int32) (nI q) w := rfl
    have l1 := hP q
    have l2 := hQ q
    rw [e1]
    unfold b_X10_areSame_24 f_X10_areSame_67
    rw [if_neg (show ¬ (49 : Int32) ≤ nI q from nI_ge (b := 49) (by omega) (by omega)), if_neg (by decide), n49, n49, inb_nI (show 49 * s + q < 29498 by omega) (by omega), inb_nI (show 49 * t + q < 29498 by omega) (by omega), if_pos rfl, if_pos rfl, nI_clamp (by omega), nI_clamp (by omega), hS.1 q (by omega), hT.1 q (by omega), nI_1, List.range'_succ, List.all_cons]
    by_cases e : P.1 q = Q.1 q
    · rw [if_pos (by rw [e]), decide_eq_true e, Bool.true_and]
      exact ih (q + 1) n (by omega) (by omega)
    · rw [if_neg (fun z => e ((nI_inj (by omega) (by omega)).mp z)), decide_eq_false e, Bool.false_and]
      obtain ⟨n, rfl⟩ : ∃ k, n = k + 1 := ⟨n - 1, by omega⟩
      show b_X10_areSame_24 (l_X10_areSame_24 f_X10_areSame_74 n) f_X10_areSame_74 (nI s) (nI t) (0 : Int32) (nI (q + 1)) w = _
      unfold b_X10_areSame_24
      split
      · rfl
      · rw [if_pos rfl]; rfl
theorem m_as77 {s t : Nat} {P Q : Ps} {w : Wd} (hs : s < 602) (ht : t < 602) (hS : KpM s P w) (hT : KpM t Q w) (hP : ∀ q, q < 16 → P.2.1 q < 1000) (hQ : ∀ q, q < 16 → Q.2.1 q < 1000) :
    ∀ (m q n : Nat), q + m = 16 → m < n → l_X10_areSame_77 f_X10_areSame_127 n (nI s) (nI t) (1 : Int32) (nI q) w = some (b2i ((List.range' q m).all fun q => decide (P.2.1 q = Q.2.1 q)), w) := by
  intro m
  induction m with
  | zero =>
    intro q n hq hn
    obtain ⟨n, rfl⟩ : ∃ k, n = k + 1 := ⟨n - 1, by omega⟩
    show b_X10_areSame_77 (l_X10_areSame_77 f_X10_areSame_127 n) f_X10_areSame_127 (nI s) (nI t) (1 : Int32) (nI q) w = _
    unfold b_X10_areSame_77
    rw [if_pos (show (16 : Int32) ≤ nI q from nI_le (a := 16) (by omega) (by omega))]
    rfl
  | succ m ih =>
    intro q n hq hn
    obtain ⟨n, rfl⟩ : ∃ k, n = k + 1 := ⟨n - 1, by omega⟩
    have e1 : l_X10_areSame_77 f_X10_areSame_127 (n + 1) (nI s) (nI t) (1 : Int32) (nI q) w = b_X10_areSame_77 (l_X10_areSame_77 f_X10_areSame_127 n) f_X10_areSame_127 (nI s) (nI t) (1 : Int32) (nI q) w := rfl
    have l1 := hP q (by omega)
    have l2 := hQ q (by omega)
    rw [e1]
    unfold b_X10_areSame_77 f_X10_areSame_120
    rw [if_neg (show ¬ (16 : Int32) ≤ nI q from nI_ge (b := 16) (by omega) (by omega)), if_neg (by decide), n16, n16, inb_nI (show 16 * s + q < 9632 by omega) (by omega), inb_nI (show 16 * t + q < 9632 by omega) (by omega), if_pos rfl, if_pos rfl, nI_clamp (by omega), nI_clamp (by omega), hS.2.1 q (by omega), hT.2.1 q (by omega), nI_1, List.range'_succ, List.all_cons]
    by_cases e : P.2.1 q = Q.2.1 q
    · rw [if_pos (by rw [e]), decide_eq_true e, Bool.true_and]
      exact ih (q + 1) n (by omega) (by omega)
    · rw [if_neg (fun z => e ((nI_inj (by omega) (by omega)).mp z)), decide_eq_false e, Bool.false_and]
      obtain ⟨n, rfl⟩ : ∃ k, n = k + 1 := ⟨n - 1, by omega⟩
      show b_X10_areSame_77 (l_X10_areSame_77 f_X10_areSame_127 n) f_X10_areSame_127 (nI s) (nI t) (0 : Int32) (nI (q + 1)) w = _
      unfold b_X10_areSame_77
      split
      · rfl
      · rw [if_pos rfl]; rfl
theorem m_areSame {N s t : Nat} {P Q : Ps} {w : Wd} (hs : s < 602) (ht : t < 602) (hS : KpM s P w) (hT : KpM t Q w) (hP : VB N P) (hQ : VB N Q) : f_X10_areSame (nI s) (nI t) w = some (b2i (smP P Q), w) := by
  have m1 := hP.mv
  have m2 := hQ.mv
  have z77 : ∀ n, f_X10_areSame_74 (nI s) (nI t) (0 : Int32) n = some (0, n) := fun n => by
    unfold f_X10_areSame_74
    show b_X10_areSame_77 (l_X10_areSame_77 f_X10_areSame_127 99999) f_X10_areSame_127 (nI s) (nI t) (0 : Int32) (0 : Int32) n = _
    unfold b_X10_areSame_77
    rw [if_neg (by decide), if_pos rfl]
    rfl
  have e24 := m_as24 hs ht hS hT hP.le hQ.le 49 0 FU (by omega) (by decide)
  have e77 := m_as77 hs ht hS hT (fun q hq => by have := hP.hd hq; omega) (fun q hq => by have := hQ.hd hq; omega) 16 0 FU (by omega) (by decide)
  unfold f_X10_areSame f_X10_areSame_20 smP
  rw [inb_nI hs (by omega), inb_nI ht (by omega), if_pos rfl, if_pos rfl, nI_clamp (by omega), nI_clamp (by omega), hS.2.2, hT.2.2]
  by_cases e : P.2.2 = Q.2.2
  · rw [if_pos (by rw [e]), decide_eq_true e, Bool.true_and]
    have e24' : l_X10_areSame_24 f_X10_areSame_74 FU (nI s) (nI t) (1 : Int32) (0 : Int32) w = _ := e24
    rw [e24', ← List.range_eq_range']
    cases (List.range 49).all fun q => decide (P.1 q = Q.1 q) with
    | false => exact z77 w
    | true =>
      rw [Bool.true_and]
      rw [← List.range_eq_range'] at e77
      exact e77
  · rw [if_neg (fun z => e ((nI_inj (by omega) (by omega)).mp z)), decide_eq_false e, Bool.false_and]
    show b_X10_areSame_24 (l_X10_areSame_24 f_X10_areSame_74 99999) f_X10_areSame_74 (nI s) (nI t) (0 : Int32) (0 : Int32) w = _
    unfold b_X10_areSame_24
    rw [if_neg (by decide), if_pos rfl]
    exact z77 w
