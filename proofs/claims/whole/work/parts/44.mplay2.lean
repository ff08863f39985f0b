/-! ===== the reference's plays: state, moves done ===== -/
/-- a play in half h of the reference's cells -/
def MPl (N : Nat) (K : Kd) (h : Nat) (ps : Nat → Ps) (cs : Nat → Nat) (a : Nat) (w : Wd) : Prop :=
  (h < 2 ∧ a ≤ 300) ∧ (∀ i, i ≤ a → KpM (301 * h + i) (ps i) w) ∧ (∀ i, i < a → w.1 81 (300 * h + i) = mF (cs i) ∧ w.1 82 (300 * h + i) = mT (cs i) ∧ w.1 83 (300 * h + i) = mR (cs i) ∧ w.1 84 (300 * h + i) = mK (cs i) ∧ w.1 85 (300 * h + i) = b2i (gvC N K ps i)) ∧ Pl N K ps cs a
theorem KpM.of {s : Nat} {P : Ps} {w w' : Wd} (h : KpM s P w) (e : ∀ k, k = 78 ∨ k = 79 ∨ k = 80 → w'.1 k = w.1 k) : KpM s P w' := by
  unfold KpM at h ⊢
  rw [e 78 (by omega), e 79 (by omega), e 80 (by omega)]
  exact h
theorem MPl.of {N h a : Nat} {K : Kd} {ps : Nat → Ps} {cs : Nat → Nat} {w w' : Wd} (x : MPl N K h ps cs a w) (e : ∀ k, 78 ≤ k → k ≤ 85 → w'.1 k = w.1 k) : MPl N K h ps cs a w' := by
  obtain ⟨x1, x2, x3, x4⟩ := x
  refine ⟨x1, fun i hi => (x2 i hi).of (fun k hk => e k (by omega) (by omega)), fun i hi => ?_, x4⟩
  rw [e 81 (by omega) (by omega), e 82 (by omega) (by omega), e 83 (by omega) (by omega), e 84 (by omega) (by omega), e 85 (by omega) (by omega)]
  exact x3 i hi
theorem MPl.up {N h a lv l2 : Nat} {K : Kd} {ps : Nat → Ps} {cs : Nat → Nat} {w w' : Wd} (x : MPl N K h ps cs a w) (u : UpM lv l2 w w') : MPl N K h ps cs a w' := x.of (fun k h1 h2 => u.2.1 k (by omega))
theorem m_same {N h a i d : Nat} {K : Kd} {ps : Nat → Ps} {cs : Nat → Nat} {w : Wd} (h7 : N ≤ 7) (h5 : 5 ≤ N) (hX : MPl N K h ps cs a w) (hi : i ≤ a) (hd : d ≤ a) : f_X10_areSame (nI (301 * h + i)) (nI (301 * h + d)) w = some (b2i (smP (ps i) (ps d)), w) := by
  obtain ⟨⟨x1, x2⟩, x3, x4, x5⟩ := hX
  exact m_areSame (by omega) (by omega) (x3 i hi) (x3 d hd) (x5.vp h7 h5 i hi).toVB (x5.vp h7 h5 d hd).toVB
theorem m_comes {N h a d : Nat} {K : Kd} {ps : Nat → Ps} {cs : Nat → Nat} {w : Wd} (h7 : N ≤ 7) (h5 : 5 ≤ N) (hX : MPl N K h ps cs a w) (hd : d ≤ a) : f_X10_comes (nI h) (nI d) w = some (nI (cntS ps d), w) := by
  have hb := hX.1
  have main : ∀ (m i n : Nat), i + m = d + 1 → m < n → l_X10_comes_5 f_X10_comes_47 n (nI h) (nI d) (nI (cntTo (fun i => smP (ps i) (ps d)) i)) (nI i) w = some (nI (cntS ps d), w) := by
    intro m
    induction m with
    | zero =>
      intro i n hi hn
      obtain ⟨n, rfl⟩ : ∃ k, n = k + 1 := ⟨n - 1, by omega⟩
      have e : i = d + 1 := by omega
      subst e
      show b_X10_comes_5 (l_X10_comes_5 f_X10_comes_47 n) f_X10_comes_47 (nI h) (nI d) _ (nI (d + 1)) w = _
      unfold b_X10_comes_5
      rw [if_pos (nI_lt (by omega) (by omega))]
      rfl
    | succ m ih =>
      intro i n hi hn
      obtain ⟨n, rfl⟩ : ∃ k, n = k + 1 := ⟨n - 1, by omega⟩
      have e1 : l_X10_comes_5 f_X10_comes_47 (n + 1) (nI h) (nI d) (nI (cntTo (fun i => smP (ps i) (ps d)) i)) (nI i) w = b_X10_comes_5 (l_X10_comes_5 f_X10_comes_47 n) f_X10_comes_47 (nI h) (nI d) (nI (cntTo (fun i => smP (ps i) (ps d)) i)) (nI i) w := rfl
      have := ih (i + 1) n (by omega) (by omega)
      rw [show cntTo (fun i => smP (ps i) (ps d)) (i + 1) = cntTo (fun i => smP (ps i) (ps d)) i + (if smP (ps i) (ps d) = true then 1 else 0) from rfl] at this
      rw [e1]
      unfold b_X10_comes_5 f_X10_comes_39
      rw [if_neg (nI_nlt (by omega) (by omega)), n301, n301, m_same h7 h5 hX (by omega) hd, bd_s, b2_0]
      cases hq : smP (ps i) (ps d) with
      | false =>
        rw [hq, if_neg (by decide)] at this
        rw [if_neg (by decide), lt_e, show (0 : Int32) = nI 0 from rfl, nI_add, nI_1]
        exact this
      | true =>
        rw [hq, if_pos rfl] at this
        rw [if_pos rfl, lt_e, nI_1, nI_1]
        exact this
  exact main (d + 1) 0 FU (by omega) (FU_big (by omega))
theorem m_firstOf {N h a d : Nat} {K : Kd} {ps : Nat → Ps} {cs : Nat → Nat} {w : Wd} (h7 : N ≤ 7) (h5 : 5 ≤ N) (hX : MPl N K h ps cs a w) (hd : d ≤ a) : f_X10_firstOf (nI h) (nI d) w = some (nI (fstS ps d), w) := by
  have hb := hX.1
  obtain ⟨f1, f2, f3⟩ := fstS_ok (ps := ps) (d := d)
  have main : ∀ (m i n : Nat), i + m = fstS ps d → m < n → l_X10_firstOf_2 f_X10_firstOf_29 n (nI h) (nI d) (nI i) w = some (nI (fstS ps d), w) := by
    intro m
    induction m with
    | zero =>
      intro i n hi hn
      obtain ⟨n, rfl⟩ : ∃ k, n = k + 1 := ⟨n - 1, by omega⟩
      have e : i = fstS ps d := by omega
      show b_X10_firstOf_2 (l_X10_firstOf_2 f_X10_firstOf_29 n) f_X10_firstOf_29 (nI h) (nI d) (nI i) w = _
      unfold b_X10_firstOf_2
      rw [n301, n301, m_same h7 h5 hX (by omega) hd, bd_s, b2_0, e, f1, if_pos rfl]
      rfl
    | succ m ih =>
      intro i n hi hn
      obtain ⟨n, rfl⟩ : ∃ k, n = k + 1 := ⟨n - 1, by omega⟩
      have e1 : l_X10_firstOf_2 f_X10_firstOf_29 (n + 1) (nI h) (nI d) (nI i) w = b_X10_firstOf_2 (l_X10_firstOf_2 f_X10_firstOf_29 n) f_X10_firstOf_29 (nI h) (nI d) (nI i) w := rfl
      rw [e1]
      unfold b_X10_firstOf_2
      rw [n301, n301, m_same h7 h5 hX (by omega) hd, bd_s, b2_0, f3 i (by omega), if_neg (by decide), nI_1]
      exact ih (i + 1) n (by omega) (by omega)
  exact main (fstS ps d) 0 FU (by omega) (FU_big (by omega))
theorem m_chased {N h a d f s : Nat} {K : Kd} {ps : Nat → Ps} {cs : Nat → Nat} {w : Wd} (hX : MPl N K h ps cs a w) (h7 : N ≤ 7) (h5 : 5 ≤ N) (hd : d ≤ a) (hf : f ≤ d) (hs : s < 2) : f_X10_chased (nI h) (nI f) (nI d) (nI s) w = some (b2i (chF N K ps d s f), w) := by
  obtain ⟨⟨x1, x2⟩, x3, x4, x5⟩ := hX
  have main : ∀ (m i n : Nat) (b : Bool), i + m = d → m < n → l_X10_chased_6 f_X10_chased_64 n (nI h) (nI d) (nI s) (b2i b) (nI i) w = some (b2i (b && chF N K ps d s i), w) := by
    intro m
    induction m with
    | zero =>
      intro i n b hi hn
      obtain ⟨n, rfl⟩ : ∃ k, n = k + 1 := ⟨n - 1, by omega⟩
      show b_X10_chased_6 (l_X10_chased_6 f_X10_chased_64 n) f_X10_chased_64 (nI h) (nI d) (nI s) (b2i b) (nI i) w = _
      unfold b_X10_chased_6 f_X10_chased_64
      rw [if_pos (nI_le (by omega) (by omega)), b2i_zb, if_pos rfl, chF_e (by omega), Bool.and_true]
    | succ m ih =>
      intro i n b hi hn
      obtain ⟨n, rfl⟩ : ∃ k, n = k + 1 := ⟨n - 1, by omega⟩
      have e1 : l_X10_chased_6 f_X10_chased_64 (n + 1) (nI h) (nI d) (nI s) (b2i b) (nI i) w = b_X10_chased_6 (l_X10_chased_6 f_X10_chased_64 n) f_X10_chased_64 (nI h) (nI d) (nI s) (b2i b) (nI i) w := rfl
      have i0 := ih (i + 1) n false (by omega) (by omega)
      have i1 := ih (i + 1) n true (by omega) (by omega)
      have hsd := (x5.vp h7 h5 i (by omega)).mv
      rw [e1, chF_s (by omega)]
      unfold b_X10_chased_6 f_X10_chased_55 f_X10_chased_51 f_X10_chased_56
      rw [if_neg (nI_ge (by omega) (by omega)), nI_1, b2_0]
      cases b with
      | false =>
        rw [if_neg (by decide), Bool.false_and]
        exact i0
      | true =>
        rw [if_pos rfl, n301, inb_nI (show 301 * h + i < 602 by omega) (by omega), if_pos rfl, nI_clamp (by omega), (x3 i (by omega)).2.2, Bool.true_and]
        by_cases q : (ps i).2.2 = s
        · rw [if_pos (show nI (ps i).2.2 = nI s by rw [q]), n300, inb_nI (show 300 * h + i < 600 by omega) (by omega), if_pos rfl, nI_clamp (by omega), (x4 i (by omega)).2.2.2.2, b2_0, decide_eq_false (fun z => z q), Bool.false_or]
          cases gvC N K ps i with
          | false =>
            rw [if_neg (by decide), Bool.false_and]
            exact i0
          | true =>
            rw [if_pos rfl, Bool.true_and]
            exact i1
        · rw [if_neg (show ¬ nI (ps i).2.2 = nI s from fun z => q ((nI_inj (by omega) (by omega)).mp z)), decide_eq_true q, Bool.true_or, Bool.true_and]
          exact i1
  have := main (d - f) f FU true (by omega) (FU_big (by omega))
  rw [Bool.true_and] at this
  exact this
theorem m_stateOf {N h a d : Nat} {K : Kd} {ps : Nat → Ps} {cs : Nat → Nat} {w : Wd} (hK : MK N K w) (hM : MM K w) (hP : MP N 0 (ps d) w) (hX : MPl N K h ps cs a w) (hd : d ≤ a) : ∃ w', f_X10_stateOf (nI h) (nI d) w = some (nI (stS N K ps d), w') ∧ UpM 0 0 w w' ∧ MIn 0 (movL N K (ps d)) w' := by
  have h7 := hK.2.1
  have h5 := hK.2.2.1
  have hb := hX.1
  have hV := hX.2.2.2.vp h7 h5 d hd
  obtain ⟨w1, a1, a2, a3⟩ := m_fM (lv := 0) (by omega) hK hM hP hV
  have a1' : f_X10_findMoves (0 : Int32) w = some ((), w1) := a1
  have hX1 := hX.up a2
  have hlen := mov_2000 (K := K) h7 h5 hV.mv
  obtain ⟨f1, f2, f3⟩ := fstS_ok (ps := ps) (d := d)
  have hc : cntS ps d ≤ d + 1 := cnt_le _
  refine ⟨w1, ?_, a2, a3⟩
  unfold f_X10_stateOf stS
  rw [a1', bd_s, if_pos (show inb (0 : Int32) 16 = true by decide), show Int32.toNatClampNeg (0 : Int32) = 0 from by decide, a3.1]
  by_cases q : (movL N K (ps d)).length = 0
  · rw [q, if_pos z0, if_pos rfl]; rfl
  · have c0 := m_chased (s := 0) hX1 h7 h5 hd f2 (by omega)
    have c1 := m_chased (s := 1) hX1 h7 h5 hd f2 (by omega)
    have c0' : f_X10_chased (nI h) (nI (fstS ps d)) (nI d) (0 : Int32) w1 = some (b2i (chsS N K ps d 0), w1) := c0
    have c1' : f_X10_chased (nI h) (nI (fstS ps d)) (nI d) (1 : Int32) w1 = some (b2i (chsS N K ps d 1), w1) := c1
    unfold f_X10_stateOf_66 endS
    rw [if_neg (nI_ne0 (by omega) (by omega)), if_neg q, m_comes h7 h5 hX1 hd, bd_s]
    by_cases q4 : cntS ps d < 4
    · rw [if_neg (show ¬ (4 : Int32) ≤ nI (cntS ps d) from nI_ge (b := 4) q4 (by omega)), if_pos q4]; rfl
    · rw [if_pos (show (4 : Int32) ≤ nI (cntS ps d) from nI_le (a := 4) (by omega) (by omega)), if_neg q4, m_firstOf h7 h5 hX1 hd, bd_s, c0', bd_s, b2_0, c1', bd_s, b2_0]
      cases chsS N K ps d 0
      · cases chsS N K ps d 1 <;> rfl
      · rfl
/-- what a call may change of plays in half h, of the stand, and scratch -/
def HfM (h : Nat) (w w' : Wd) : Prop := w'.2 = w.2 ∧ (∀ k, (k < 60 ∧ k ≠ 50) ∨ (72 < k ∧ k ≠ 74 ∧ k ≠ 75 ∧ (k < 78 ∨ 85 < k)) → w'.1 k = w.1 k) ∧ (∀ j, j ≠ 22 → w'.1 50 j = w.1 50 j) ∧ (∀ j, j < 14749 * h ∨ 14749 * h + 14749 ≤ j → w'.1 78 j = w.1 78 j) ∧ (∀ j, j < 4816 * h ∨ 4816 * h + 4816 ≤ j → w'.1 79 j = w.1 79 j) ∧ (∀ j, j < 301 * h ∨ 301 * h + 301 ≤ j → w'.1 80 j = w.1 80 j) ∧ ∀ k, 81 ≤ k → k ≤ 85 → ∀ j, j < 300 * h ∨ 300 * h + 300 ≤ j → w'.1 k j = w.1 k j
theorem HfM.rf {h : Nat} {w : Wd} : HfM h w w := ⟨rfl, fun _ _ => rfl, fun _ _ => rfl, fun _ _ => rfl, fun _ _ => rfl, fun _ _ => rfl, fun _ _ _ _ _ => rfl⟩
theorem HfM.tr {h : Nat} {a b c : Wd} (x : HfM h a b) (y : HfM h b c) : HfM h a c := ⟨y.1.trans x.1, fun k q => (y.2.1 k q).trans (x.2.1 k q), fun k q => (y.2.2.1 k q).trans (x.2.2.1 k q), fun k q => (y.2.2.2.1 k q).trans (x.2.2.2.1 k q), fun k q => (y.2.2.2.2.1 k q).trans (x.2.2.2.2.1 k q), fun k q => (y.2.2.2.2.2.1 k q).trans (x.2.2.2.2.2.1 k q), fun k q r j s => (y.2.2.2.2.2.2 k q r j s).trans (x.2.2.2.2.2.2 k q r j s)⟩
theorem UpM.hf {h lv l2 : Nat} {w w' : Wd} (x : UpM lv l2 w w') : HfM h w w' := ⟨x.1, fun k q => x.2.1 k (by omega), x.2.2.1, fun j _ => by rw [x.2.1 78 (by omega)], fun j _ => by rw [x.2.1 79 (by omega)], fun j _ => by rw [x.2.1 80 (by omega)], fun k h1 h2 j _ => by rw [x.2.1 k (by omega)]⟩
theorem LyM.hf {h : Nat} {w w' : Wd} (x : LyM w w') : HfM h w w' := ⟨x.1, fun k q => x.2 k (by omega) (by omega) (by omega), fun j _ => by rw [x.2 50 (by omega) (by omega) (by omega)], fun j _ => by rw [x.2 78 (by omega) (by omega) (by omega)], fun j _ => by rw [x.2 79 (by omega) (by omega) (by omega)], fun j _ => by rw [x.2 80 (by omega) (by omega) (by omega)], fun k h1 h2 j _ => by rw [x.2 k (by omega) (by omega) (by omega)]⟩
theorem KM.hf {h i : Nat} {w w' : Wd} (hi : i ≤ 300) (x : KM (301 * h + i) w w') : HfM h w w' := ⟨x.1, fun k q => x.2.1 k (by omega) (by omega) (by omega), fun j _ => by rw [x.2.1 50 (by omega) (by omega) (by omega)], fun j q => x.2.2.1 j (by omega), fun j q => x.2.2.2.1 j (by omega), fun j q => x.2.2.2.2 j (by omega), fun k h1 h2 j _ => by rw [x.2.1 k (by omega) (by omega) (by omega)]⟩
theorem HfM.i {h k j : Nat} {w : Wd} {v : Int32} (hk : 81 ≤ k ∧ k ≤ 85) (hj : 300 * h ≤ j ∧ j < 300 * h + 300) : HfM h w (wdI w k j v) := ⟨rfl, fun q hq => wI_c (by omega), fun q _ => by rw [wI_c (by omega)], fun q _ => by rw [wI_c (by omega)], fun q _ => by rw [wI_c (by omega)], fun q _ => by rw [wI_c (by omega)], fun q h1 h2 r hr => by
  by_cases e : q = k
  · subst e; rw [wI_n (by omega)]
  · rw [wI_c e]⟩
theorem MPl.hf {N h g a : Nat} {K : Kd} {ps : Nat → Ps} {cs : Nat → Nat} {w w' : Wd} (x : MPl N K g ps cs a w) (u : HfM h w w') (hg : g ≠ h) (hh : h < 2) : MPl N K g ps cs a w' := by
  obtain ⟨⟨x1, x2⟩, x3, x4, x5⟩ := x
  refine ⟨⟨x1, x2⟩, fun i hi => ⟨fun q hq => ?_, fun j hj => ?_, ?_⟩, fun i hi => ?_, x5⟩
  · rw [u.2.2.2.1 _ (by omega)]; exact (x3 i hi).1 q hq
  · rw [u.2.2.2.2.1 _ (by omega)]; exact (x3 i hi).2.1 j hj
  · rw [u.2.2.2.2.2.1 _ (by omega)]; exact (x3 i hi).2.2
  · rw [u.2.2.2.2.2.2 81 (by omega) (by omega) _ (by omega), u.2.2.2.2.2.2 82 (by omega) (by omega) _ (by omega), u.2.2.2.2.2.2 83 (by omega) (by omega) _ (by omega), u.2.2.2.2.2.2 84 (by omega) (by omega) _ (by omega), u.2.2.2.2.2.2 85 (by omega) (by omega) _ (by omega)]
    exact x4 i hi
theorem MK.hf {N h : Nat} {K : Kd} {w w' : Wd} (x : MK N K w) (u : HfM h w w') : MK N K w' := ⟨by rw [u.2.2.1 0 (by decide)]; exact x.1, x.2.1, x.2.2.1, fun t ht => by rw [u.2.1 53 (by omega), u.2.1 54 (by omega)]; exact x.2.2.2 t ht⟩
theorem MM.hf {h : Nat} {K : Kd} {w w' : Wd} (x : MM K w) (u : HfM h w w') : MM K w' := fun k hk => by rw [u.2.1 55 (by omega)]; exact x k hk
theorem m_dm70 {v1 v2 v4 : Int32} {w : Wd} : ∃ u, l_X10_doMove_70 f_X10_doMove_100 FU v1 v2 v4 (nI 0) w = f_X10_doMove_100 v1 v2 v4 u ∧ LyM w u ∧ (∀ q, q < 49 → u.1 60 q = w.1 60 (49 + q)) ∧ u.1 61 = w.1 61 ∧ u.1 62 = w.1 62 := by
  obtain ⟨u, a1, ⟨a2, a3, a4, a5, a6⟩⟩ := loop_up (fun n q u => l_X10_doMove_70 f_X10_doMove_100 n v1 v2 v4 q u) (fun u => f_X10_doMove_100 v1 v2 v4 u) 49 (fun q u => LyM w u ∧ (∀ q', q' < q → u.1 60 q' = w.1 60 (49 + q')) ∧ u.1 61 = w.1 61 ∧ u.1 62 = w.1 62 ∧ ∀ q', q ≤ q' → u.1 60 q' = w.1 60 q') (fun n u hu => by
    show b_X10_doMove_70 (l_X10_doMove_70 f_X10_doMove_100 n) f_X10_doMove_100 v1 v2 v4 (nI 49) u = _
    unfold b_X10_doMove_70
    rw [if_pos (show (49 : Int32) ≤ nI 49 from nI_le (a := 49) (Nat.le_refl _) (by omega))]) (fun n q u hq hu => by
    refine ⟨wdI u 60 q (w.1 60 (49 + q)), ?_, hu.1.i (Or.inl rfl), fun q' hq' => ?_, by rw [wI_c (by decide)]; exact hu.2.2.1, by rw [wI_c (by decide)]; exact hu.2.2.2.1, fun q' hq' => by rw [wI_n (by omega)]; exact hu.2.2.2.2 q' (by omega)⟩
    · show b_X10_doMove_70 (l_X10_doMove_70 f_X10_doMove_100 n) f_X10_doMove_100 v1 v2 v4 (nI q) u = _
      unfold b_X10_doMove_70
      rw [if_neg (show ¬ (49 : Int32) ≤ nI q from nI_ge (b := 49) hq (by omega)), show (49 : Int32) + nI q = nI (49 + q) from nI_add 49 q, inb_nI (show 49 + q < 784 by omega) (by omega), inb_nI (show q < 784 by omega) (by omega), if_pos rfl, if_pos rfl, lw_e, nI_clamp (show q < 2 ^ 31 by omega), nI_clamp (show 49 + q < 2 ^ 31 by omega), hu.2.2.2.2 (49 + q) (by omega), nI_1]
    · by_cases e : q' = q
      · subst e; rw [wI_s]
      · rw [wI_n (by omega)]; exact hu.2.1 q' (by omega)) 49 0 w (by omega) ⟨LyM.rf, fun q hq => by omega, rfl, rfl, fun _ _ => rfl⟩ FU (by decide)
  exact ⟨u, a1, a2, a3, a4, a5⟩
theorem m_dm103 {v1 v2 v4 : Int32} {w : Wd} : ∃ u, l_X10_doMove_103 f_X10_doMove_133 FU v1 v2 v4 (nI 0) w = f_X10_doMove_133 v1 v2 v4 u ∧ LyM w u ∧ (∀ q, q < 16 → u.1 61 q = w.1 61 (16 + q)) ∧ u.1 60 = w.1 60 ∧ u.1 62 = w.1 62 := by
  obtain ⟨u, a1, ⟨a2, a3, a4, a5, a6⟩⟩ := loop_up (fun n q u => l_X10_doMove_103 f_X10_doMove_133 n v1 v2 v4 q u) (fun u => f_X10_doMove_133 v1 v2 v4 u) 16 (fun q u => LyM w u ∧ (∀ q', q' < q → u.1 61 q' = w.1 61 (16 + q')) ∧ u.1 60 = w.1 60 ∧ u.1 62 = w.1 62 ∧ ∀ q', q ≤ q' → u.1 61 q' = w.1 61 q') (fun n u hu => by
    show b_X10_doMove_103 (l_X10_doMove_103 f_X10_doMove_133 n) f_X10_doMove_133 v1 v2 v4 (nI 16) u = _
    unfold b_X10_doMove_103
    rw [if_pos (show (16 : Int32) ≤ nI 16 from nI_le (a := 16) (Nat.le_refl _) (by omega))]) (fun n q u hq hu => by
    refine ⟨wdI u 61 q (w.1 61 (16 + q)), ?_, hu.1.i (Or.inr (Or.inl rfl)), fun q' hq' => ?_, by rw [wI_c (by decide)]; exact hu.2.2.1, by rw [wI_c (by decide)]; exact hu.2.2.2.1, fun q' hq' => by rw [wI_n (by omega)]; exact hu.2.2.2.2 q' (by omega)⟩
    · show b_X10_doMove_103 (l_X10_doMove_103 f_X10_doMove_133 n) f_X10_doMove_133 v1 v2 v4 (nI q) u = _
      unfold b_X10_doMove_103
      rw [if_neg (show ¬ (16 : Int32) ≤ nI q from nI_ge (b := 16) hq (by omega)), show (16 : Int32) + nI q = nI (16 + q) from nI_add 16 q, inb_nI (show 16 + q < 256 by omega) (by omega), inb_nI (show q < 256 by omega) (by omega), if_pos rfl, if_pos rfl, lw_e, nI_clamp (show q < 2 ^ 31 by omega), nI_clamp (show 16 + q < 2 ^ 31 by omega), hu.2.2.2.2 (16 + q) (by omega), nI_1]
    · by_cases e : q' = q
      · subst e; rw [wI_s]
      · rw [wI_n (by omega)]; exact hu.2.1 q' (by omega)) 16 0 w (by omega) ⟨LyM.rf, fun q hq => by omega, rfl, rfl, fun _ _ => rfl⟩ FU (by decide)
  exact ⟨u, a1, a2, a3, a4, a5⟩
