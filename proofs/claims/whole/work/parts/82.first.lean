/-! ===== the first worlds: what the constructors' loops lay ===== -/
def lx1 (r d : Nat) : Int32 := nI r + (stV 1).getD d 0
def lx2 (c d : Nat) : Int32 := nI c + (stV 2).getD d 0
def lok (N r c d : Nat) : Bool := !(decide (lx1 r d < 0)) && (!(decide (nI N ≤ lx1 r d)) && (!(decide (lx2 c d < 0)) && !(decide (nI N ≤ lx2 c d))))
theorem lk_chk : ((List.range 8).all fun N => decide (N < 5) || (List.range N).all fun r => (List.range N).all fun c => (List.range 12).all fun d => (lok N r c d == (nx N d (N * r + c)).isSome) && (!(lok N r c d) || decide (lx1 r d * nI N + lx2 c d = ov (nx N d (N * r + c))))) = true := by decide +kernel
theorem lk_dec {N r c d : Nat} (h1 : N < 8) (h2 : 5 ≤ N) (hr : r < N) (hc : c < N) (hd : d < 12) : lok N r c d = (nx N d (N * r + c)).isSome ∧ (lok N r c d = true → lx1 r d * nI N + lx2 c d = ov (nx N d (N * r + c))) := by
  have h := all_r lk_chk h1
  rw [Bool.or_eq_true, decide_eq_true_eq] at h
  rcases h with h | h
  · omega
  · have h3 := all_r (all_r (all_r h hr) hc) hd
    rw [Bool.and_eq_true, beq_iff_eq, Bool.or_eq_true, Bool.not_eq_true', decide_eq_true_eq] at h3
    exact ⟨h3.1, fun z => h3.2.elim (fun y => by rw [y] at z; cases z) id⟩
theorem shl1 : ∀ d, d < 12 → (1 : Int32) <<< (nI d &&& 31) = nI (2 ^ d) := by decide +kernel
def lkW (N f d : Nat) (w : Wd) : Wd := if (nx N d f).isSome = true then wdI (wdI w 3 (d * (N * N) + f) (ov (nx N d f))) 4 f (w.1 4 f ||| nI (2 ^ d)) else wdI w 3 (d * (N * N) + f) (-1)
theorem x_lstep {N f d : Nat} {w : Wd} {R : Int32 → Int32 → Wd → Option (Unit × Wd)} {K : Wd → Option (Unit × Wd)} (hn : w.1 2 0 = nI N) (hnn : w.1 2 1 = nI (N * N)) (h1 : N ≤ 7) (h2 : 5 ≤ N) (hf : f < N * N) (hd : d < 12) : b_X8_linkField_2 N R K (nI f) (nI d) w = R (nI f) (nI (d + 1)) (lkW N f d w) := by
  have hNN := NN_le h1
  have hr : f / N < N := Nat.div_lt_of_lt_mul hf
  have hc : f % N < N := Nat.mod_lt _ (by omega)
  have e := lk_dec (by omega) h2 hr hc hd
  rw [Nat.div_add_mod] at e
  have hN0 : ¬ nI N = 0 := nI_ne0 (by omega) (by omega)
  have ed : nI f / nI N = nI (f / N) := pk_div (by omega) (by omega) (by omega)
  have em : nI f - nI f / nI N * nI N = nI (f % N) := pk_rem (by omega) (by omega) (by omega)
  have hdm : d * (N * N) + f < 12 * (N * N) := by
    have : d * (N * N) ≤ 11 * (N * N) := Nat.mul_le_mul_right _ (by omega)
    omega
  have eix : nI d * nI (N * N) + nI f = nI (d * (N * N) + f) := by rw [pk_mul, nI_add]
  have fin0 : ∀ x1 x2 : Int32, f_X8_linkField_65 N R K (nI f) (nI d) x1 x2 w = R (nI f) (nI (d + 1)) (wdI w 3 (d * (N * N) + f) (-1)) := fun x1 x2 => by
    unfold f_X8_linkField_65 f_X8_linkField_66
    rw [if_pos rfl, hnn, eix]
    unfold f_X8_linkField_98 f_X8_linkField_116
    rw [inb_nI hdm (by omega), if_pos rfl, lw_e, if_pos rfl, nI_cl (by omega), nI_succ]
  have fin1 : lok N (f / N) (f % N) d = true → f_X8_linkField_66 N R K (nI f) (nI d) (lx1 (f / N) d) (lx2 (f % N) d) 1 w = R (nI f) (nI (d + 1)) (wdI (wdI w 3 (d * (N * N) + f) (ov (nx N d f))) 4 f (w.1 4 f ||| nI (2 ^ d))) := fun hk => by
    unfold f_X8_linkField_66
    rw [if_neg (by decide), hnn, eix, hn, e.2 hk]
    unfold f_X8_linkField_98 f_X8_linkField_116
    rw [inb_nI hdm (by omega), if_pos rfl, lw_e, if_neg (by decide), inb_nI hf (by omega), if_pos rfl, if_pos rfl, lw_e, nI_cl (by omega), nI_cl (by omega), shl1 d hd, wI_c (show (4 : Nat) ≠ 3 by decide), nI_succ]
  unfold b_X8_linkField_2
  rw [if_neg (show ¬ (12 : Int32) ≤ nI d from nI_ge (b := 12) hd (by omega)), hn, if_pos hN0, inb_nI hd (by omega), if_pos rfl, lt_e, if_pos hN0, if_pos rfl, lt_e, em, ed, nI_cl (by omega)]
  show (if lx1 (f / N) d < 0 then f_X8_linkField_65 N R K (nI f) (nI d) (lx1 (f / N) d) (lx2 (f % N) d) w else if nI N ≤ lx1 (f / N) d then f_X8_linkField_65 N R K (nI f) (nI d) (lx1 (f / N) d) (lx2 (f % N) d) w else if lx2 (f % N) d < 0 then f_X8_linkField_65 N R K (nI f) (nI d) (lx1 (f / N) d) (lx2 (f % N) d) w else if nI N ≤ lx2 (f % N) d then f_X8_linkField_65 N R K (nI f) (nI d) (lx1 (f / N) d) (lx2 (f % N) d) w else f_X8_linkField_66 N R K (nI f) (nI d) (lx1 (f / N) d) (lx2 (f % N) d) 1 w) = _
  unfold lkW
  rw [← e.1, fin0]
  have hlok : lok N (f / N) (f % N) d = true ↔ ¬ lx1 (f / N) d < 0 ∧ ¬ nI N ≤ lx1 (f / N) d ∧ ¬ lx2 (f % N) d < 0 ∧ ¬ nI N ≤ lx2 (f % N) d := by
    unfold lok
    simp
  by_cases q1 : lx1 (f / N) d < 0
  · rw [if_pos q1, if_neg (fun z => (hlok.mp z).1 q1)]
  rw [if_neg q1]
  by_cases q2 : nI N ≤ lx1 (f / N) d
  · rw [if_pos q2, if_neg (fun z => (hlok.mp z).2.1 q2)]
  rw [if_neg q2]
  by_cases q3 : lx2 (f % N) d < 0
  · rw [if_pos q3, if_neg (fun z => (hlok.mp z).2.2.1 q3)]
  rw [if_neg q3]
  by_cases q4 : nI N ≤ lx2 (f % N) d
  · rw [if_pos q4, if_neg (fun z => (hlok.mp z).2.2.2 q4)]
  rw [if_neg q4, if_pos (hlok.mpr ⟨q1, q2, q3, q4⟩)]
  exact fin1 (hlok.mpr ⟨q1, q2, q3, q4⟩)
def opP (N f d : Nat) : Nat := (List.range d).foldl (fun a d => if (nx N d f).isSome = true then a ||| 2 ^ d else a) 0
theorem opP_s (N f d : Nat) : opP N f (d + 1) = if (nx N d f).isSome = true then opP N f d ||| 2 ^ d else opP N f d := by
  unfold opP
  rw [List.range_succ, List.foldl_append]
  rfl
def LkI (N f d : Nat) (w0 w : Wd) : Prop := w.2 = w0.2 ∧ (∀ k, k ≠ 3 → k ≠ 4 → w.1 k = w0.1 k) ∧ (∀ d', d' < d → w.1 3 (d' * (N * N) + f) = ov (nx N d' f)) ∧ (∀ j, (∀ d', d' < 12 → j ≠ d' * (N * N) + f) → w.1 3 j = w0.1 3 j) ∧ w.1 4 f = nI (opP N f d) ∧ ∀ g, g ≠ f → w.1 4 g = w0.1 4 g
theorem x_link {N f : Nat} {w : Wd} (hn : w.1 2 0 = nI N) (hnn : w.1 2 1 = nI (N * N)) (h1 : N ≤ 7) (h2 : 5 ≤ N) (hf : f < N * N) (h4 : w.1 4 f = 0) : ∃ w', f_X8_linkField N (nI f) w = some ((), w') ∧ LkI N f 12 w w' := by
  have key := loop_up (fun n i w => l_X8_linkField_2 N (f_X8_linkField_122 N) n (nI f) i w) (f_X8_linkField_122 N) 12 (fun d w' => LkI N f d w w')
    (fun n w' hI => by
      show b_X8_linkField_2 N (l_X8_linkField_2 N (f_X8_linkField_122 N) n) (f_X8_linkField_122 N) (nI f) (nI 12) w' = _
      unfold b_X8_linkField_2
      rw [if_pos (show (12 : Int32) ≤ nI 12 by decide)])
    (fun n d w' hd hI => by
      obtain ⟨i1, i2, i3, i4, i5, i6⟩ := hI
      refine ⟨lkW N f d w', ?_, ?_⟩
      · show b_X8_linkField_2 N (l_X8_linkField_2 N (f_X8_linkField_122 N) n) (f_X8_linkField_122 N) (nI f) (nI d) w' = _
        exact x_lstep (by rw [i2 2 (by decide) (by decide)]; exact hn) (by rw [i2 2 (by decide) (by decide)]; exact hnn) h1 h2 hf hd
      · have hne : ∀ d', d' < d → d' * (N * N) + f ≠ d * (N * N) + f := fun d' hd' q => by
          have h3 : d' * (N * N) = d * (N * N) := by omega
          have h4 := Nat.eq_of_mul_eq_mul_right (Nat.zero_lt_of_lt hf) h3
          omega
        unfold lkW
        by_cases q : (nx N d f).isSome = true
        · rw [if_pos q]
          refine ⟨i1, fun k h3 h4 => ?_, fun d' hd' => ?_, fun j hj => ?_, ?_, fun g hg => ?_⟩
          · rw [wI_c h4, wI_c h3]; exact i2 k h3 h4
          · rw [wI_c (by decide)]
            by_cases e : d' = d
            · rw [e, wI_s]
            · rw [wI_n (hne d' (by omega))]; exact i3 d' (by omega)
          · rw [wI_c (by decide), wI_n (hj d hd)]; exact i4 j hj
          · rw [wI_s, i5, nI_or, opP_s, if_pos q]
          · rw [wI_n hg, wI_c (by decide)]; exact i6 g hg
        · rw [if_neg q]
          have hnone : nx N d f = none := by
            cases hx : nx N d f with
            | none => rfl
            | some g => rw [hx] at q; exact absurd rfl q
          refine ⟨i1, fun k h3 h4 => ?_, fun d' hd' => ?_, fun j hj => ?_, ?_, fun g hg => ?_⟩
          · rw [wI_c h3]; exact i2 k h3 h4
          · by_cases e : d' = d
            · rw [e, wI_s, hnone]; rfl
            · rw [wI_n (hne d' (by omega))]; exact i3 d' (by omega)
          · rw [wI_n (hj d hd)]; exact i4 j hj
          · rw [wI_c (by decide), opP_s, if_neg q]; exact i5
          · rw [wI_c (by decide)]; exact i6 g hg)
    12 0 w (by omega) ⟨rfl, fun _ _ _ => rfl, fun d' h => absurd h (Nat.not_lt_zero _), fun _ _ => rfl, h4, fun _ _ => rfl⟩ FU (by decide)
  obtain ⟨w', e1, e2⟩ := key
  exact ⟨w', e1, e2⟩
theorem mz_chk : ∀ N, N < 8 → 5 ≤ N → ∀ f, f < N * N → ((nI (if N = 5 then 1 else 2) ≤ nI f / nI N ↔ zn N 0 f = false) ∧ (nI f / nI N < nI N - nI (if N = 5 then 1 else 2) ↔ zn N 1 f = false)) := by decide +kernel
theorem x_zones {N f : Nat} {w : Wd} (hn : w.1 2 0 = nI N) (hnn : w.1 2 1 = nI (N * N)) (h1 : N ≤ 7) (h2 : 5 ≤ N) (hf : f < N * N) : f_X8_markZones N (nI f) w = some ((), wdI (wdI w 5 f (b2i (zn N 0 f))) 5 (N * N + f) (b2i (zn N 1 f))) := by
  have hNN := NN_le h1
  have hN0 : ¬ nI N = 0 := nI_ne0 (by omega) (by omega)
  have hc := mz_chk N (by omega) h2 f hf
  have k3 : ∀ (w1 : Wd) (b : Bool), w1.1 2 1 = nI (N * N) → f_X8_markZones_65 N (w1.1 2 1 + nI f) (b2i b) w1 = some ((), wdI w1 5 (N * N + f) (b2i b)) := fun w1 b e => by
    unfold f_X8_markZones_65
    rw [e, nI_add, inb_nI (show N * N + f < 2 * (N * N) by omega) (by omega), if_pos rfl, lw_e, nI_cl (by omega)]
    cases b <;> rfl
  have k2 : ∀ b : Bool, f_X8_markZones_34 N (nI f) (nI (if N = 5 then 1 else 2)) (nI f) (b2i b) w = some ((), wdI (wdI w 5 f (b2i b)) 5 (N * N + f) (b2i (zn N 1 f))) := fun b => by
    unfold f_X8_markZones_34
    have hv : vp_nar .boolean (b2i b) = b2i b := by cases b <;> rfl
    rw [inb_nI (show f < 2 * (N * N) by omega) (by omega), if_pos rfl, lw_e, nI_cl (by omega), hv, wI_c (show (2 : Nat) ≠ 5 by decide), hn, if_pos hN0]
    have hw : (wdI w 5 f (b2i b)).1 2 1 = nI (N * N) := by rw [wI_c (by decide)]; exact hnn
    have a0 := k3 (wdI w 5 f (b2i b)) false hw
    have a1 := k3 (wdI w 5 f (b2i b)) true hw
    rw [wI_c (show (2 : Nat) ≠ 5 by decide)] at a0 a1
    cases hz : zn N 1 f with
    | false => rw [if_pos (hc.2.mpr hz)]; exact a0
    | true => rw [if_neg (fun z => by rw [hc.2.mp z] at hz; cases hz)]; exact a1
  have k1 : f_X8_markZones_13 N (nI f) (nI (if N = 5 then 1 else 2)) w = some ((), wdI (wdI w 5 f (b2i (zn N 0 f))) 5 (N * N + f) (b2i (zn N 1 f))) := by
    unfold f_X8_markZones_13
    rw [hn, if_pos hN0]
    cases hz : zn N 0 f with
    | false => rw [if_pos (hc.1.mpr hz)]; exact k2 false
    | true => rw [if_neg (fun z => by rw [hc.1.mp z] at hz; cases hz)]; exact k2 true
  unfold f_X8_markZones
  rw [hn]
  by_cases q : N = 5
  · rw [if_pos q] at k1
    rw [if_pos (show nI N = (5 : Int32) by rw [q]; rfl)]
    exact k1
  · rw [if_neg q] at k1
    rw [if_neg (show ¬ nI N = (5 : Int32) from fun z => q ((nI_inj (b := 5) (by omega) (by omega)).mp z))]
    exact k1
def WI (N f : Nat) (w0 w : Wd) : Prop := w.2 = w0.2 ∧ (∀ k, k ≠ 3 → k ≠ 4 → k ≠ 5 → w.1 k = w0.1 k) ∧ (∀ d, d < 12 → ∀ g, g < f → w.1 3 (d * (N * N) + g) = ov (nx N d g)) ∧ (∀ g, g < f → w.1 4 g = nI (opB N g)) ∧ (∀ g, f ≤ g → w.1 4 g = 0) ∧ ∀ s, s < 2 → ∀ g, g < f → w.1 5 (s * (N * N) + g) = b2i (zn N s g)
theorem md_ne {M d d' f g : Nat} (hf : f < M) (hg : g < M) (h : g ≠ f) : d * M + g ≠ d' * M + f := fun q => by
  have h1 := congrArg (· % M) q
  simp only [Nat.mul_add_mod_self_right, Nat.mod_eq_of_lt hf, Nat.mod_eq_of_lt hg] at h1
  exact h h1
theorem x_fields0 {N : Nat} {w : Wd} (hn : w.1 2 0 = nI N) (hnn : w.1 2 1 = nI (N * N)) (h1 : N ≤ 7) (h2 : 5 ≤ N) (h4 : ∀ g, w.1 4 g = 0) {e : Nat} (he : e = N * N) (K : Wd → Option (Unit × Wd)) : ∃ w', l_X8_init_93 N K FU (nI 0) w = K w' ∧ WI N e w w' := by
  have hNN := NN_le h1
  refine loop_up (fun n i w => l_X8_init_93 N K n i w) K e (fun f w' => WI N f w w')
    (fun n w' hI => by
      show b_X8_init_93 N (l_X8_init_93 N K n) K (nI e) w' = _
      unfold b_X8_init_93
      rw [hI.2.1 2 (by decide) (by decide) (by decide), hnn, if_pos (show nI (N * N) ≤ nI e from nI_le (by omega) (by omega))])
    (fun n f w' hf hI => by
      obtain ⟨i1, i2, i3, i4, i5, i6⟩ := hI
      have en : w'.1 2 0 = nI N := by rw [i2 2 (by decide) (by decide) (by decide)]; exact hn
      have enn : w'.1 2 1 = nI (N * N) := by rw [i2 2 (by decide) (by decide) (by decide)]; exact hnn
      subst he
      obtain ⟨w1, e1, l1, l2, l3, l4, l5, l6⟩ := x_link en enn h1 h2 hf (i5 f (Nat.le_refl _))
      have en1 : w1.1 2 0 = nI N := by rw [l2 2 (by decide) (by decide)]; exact en
      have enn1 : w1.1 2 1 = nI (N * N) := by rw [l2 2 (by decide) (by decide)]; exact enn
      have e2 := x_zones en1 enn1 h1 h2 hf
      refine ⟨wdI (wdI w1 5 f (b2i (zn N 0 f))) 5 (N * N + f) (b2i (zn N 1 f)), ?_, l1.trans i1, fun k h3 h4 h5 => ?_, fun d hd g hg => ?_, fun g hg => ?_, fun g hg => ?_, fun s hs g hg => ?_⟩
      · show b_X8_init_93 N (l_X8_init_93 N K n) K (nI f) w' = _
        unfold b_X8_init_93
        rw [enn, if_neg (nI_ge hf (by omega)), e1, bd_s, e2, bd_s, nI_succ]
      · rw [wI_c h5, wI_c h5, l2 k h3 h4]; exact i2 k h3 h4 h5
      · rw [wI_c (by decide), wI_c (by decide)]
        by_cases q : g = f
        · rw [q]; exact l3 d hd
        · rw [l4 _ (fun d' _ => md_ne hf (by omega) q)]; exact i3 d hd g (by omega)
      · rw [wI_c (by decide), wI_c (by decide)]
        by_cases q : g = f
        · rw [q]; exact l5
        · rw [l6 g q]; exact i4 g (by omega)
      · rw [wI_c (by decide), wI_c (by decide), l6 g (by omega)]; exact i5 g (by omega)
      · rcases (show s = 0 ∨ s = 1 by omega) with rfl | rfl
        · rw [Nat.zero_mul, Nat.zero_add, wI_n (by omega)]
          by_cases q : g = f
          · rw [q, wI_s]
          · rw [wI_n q, l2 5 (by decide) (by decide)]
            have := i6 0 (by omega) g (by omega)
            rwa [Nat.zero_mul, Nat.zero_add] at this
        · rw [Nat.one_mul]
          by_cases q : g = f
          · rw [q, wI_s]
          · rw [wI_n (by omega), wI_n (by omega), l2 5 (by decide) (by decide)]
            have := i6 1 (by omega) g (by omega)
            rwa [Nat.one_mul] at this)
    e 0 w (by omega) ⟨rfl, fun _ _ _ _ => rfl, fun _ _ _ h => absurd h (Nat.not_lt_zero _), fun _ h => absurd h (Nat.not_lt_zero _), fun g _ => h4 g, fun _ _ _ h => absurd h (Nat.not_lt_zero _)⟩ FU (FU_big (by omega))
/-! the kinds at the beginning -/
def FS (t : Nat) : Nat := ([255, 1, 171, 215, 0, 0, 0, 768, 0, 215, 215, 0, 170, 85, 215, 215] : List Nat).getD t 0
def FR (t : Nat) : Nat := ([0, 0, 0, 0, 85, 170, 1, 0, 0, 0, 0, 0, 85, 170, 0, 0] : List Nat).getD t 0
def Kt (n : Nat) : Kd := (fun t => if t < n then FS t else 0, fun t => if t < n then FR t else 0, fun k => if k = 1 then 3 else 0)
theorem fs_ok : ∀ t, t < 16 → (stV 3).getD t 0 = nI (FS t) ∧ (stV 4).getD t 0 = nI (FR t) ∧ FS t < 1024 ∧ FR t < 256 := by decide
theorem Kt_s (n : Nat) : kU (Kt n) n (FS n) (FR n) = Kt (n + 1) := by
  unfold kU Kt
  refine Prod.ext (funext fun q => ?_) (Prod.ext (funext fun q => ?_) rfl)
  · show (if q = n then FS n else if q < n then FS q else 0) = if q < n + 1 then FS q else 0
    by_cases e : q = n
    · rw [if_pos e, if_pos (by omega), e]
    · rw [if_neg e]
      by_cases h : q < n
      · rw [if_pos h, if_pos (by omega)]
      · rw [if_neg h, if_neg (by omega)]
  · show (if q = n then FR n else if q < n then FR q else 0) = if q < n + 1 then FR q else 0
    by_cases e : q = n
    · rw [if_pos e, if_pos (by omega), e]
    · rw [if_neg e]
      by_cases h : q < n
      · rw [if_pos h, if_pos (by omega)]
      · rw [if_neg h, if_neg (by omega)]
theorem x_tells0 {N : Nat} {w : Wd} {e : Nat} (he : e = 16) (hK : XK N (Kt 0) w) (hD : XD (Kt 0) w) (K : Wd → Option (Unit × Wd)) : ∃ w', l_X8_init_119 N K FU (nI 0) w = K w' ∧ XK N (Kt e) w' ∧ XD (Kt e) w' ∧ w'.2 = w.2 ∧ ∀ k, k ≠ 6 → k ≠ 7 → k ≠ 8 → k ≠ 9 → w'.1 k = w.1 k := by
  refine loop_up (fun n i w => l_X8_init_119 N K n i w) K e (fun t w' => XK N (Kt t) w' ∧ XD (Kt t) w' ∧ w'.2 = w.2 ∧ ∀ k, k ≠ 6 → k ≠ 7 → k ≠ 8 → k ≠ 9 → w'.1 k = w.1 k)
    (fun n w' hI => by
      show b_X8_init_119 N (l_X8_init_119 N K n) K (nI e) w' = _
      unfold b_X8_init_119
      rw [if_pos (show (16 : Int32) ≤ nI e by rw [he]; decide)])
    (fun n t w' ht hI => by
      have hf := fs_ok t (by omega)
      obtain ⟨w1, e1, a1, a2, a3, a4⟩ := x_tell hI.1 hI.2.1 (show t < 16 by omega) hf.2.2.1 hf.2.2.2
      rw [Kt_s] at a1 a2
      refine ⟨w1, ?_, a1, a2, a3.trans hI.2.2.1, fun k h6 h7 h8 h9 => (a4 k h6 h7 h8 h9).trans (hI.2.2.2 k h6 h7 h8 h9)⟩
      show b_X8_init_119 N (l_X8_init_119 N K n) K (nI t) w' = _
      unfold b_X8_init_119
      rw [if_neg (show ¬ (16 : Int32) ≤ nI t from nI_ge (b := 16) (by omega) (by omega)), inb_nI (show t < 16 by omega) (by omega), if_pos rfl, if_pos rfl, nI_cl (by omega), hf.1, hf.2.1, e1, bd_s, nI_succ])
    e 0 w (by omega) ⟨hK, hD, rfl, fun _ _ _ _ _ => rfl⟩ FU (FU_big (by omega))
theorem kt0_dir : ∀ i, i < 33 → sdir (Kt 0) i = 0 ∧ rdir (Kt 0) i = 0 := by decide +kernel
theorem x_ways0 {N : Nat} (h1 : N ≤ 7) (h2 : 5 ≤ N) : ∃ wW, f_X8_init N (nI N) (wb N) = some ((), wW) ∧ XK N (Kt 16) wW ∧ XD (Kt 16) wW ∧ XW N (Kt 16) wW ∧ wW.2 = (wb N).2 ∧ ∀ k, k < 3 ∨ 10 < k → wW.1 k = (wb N).1 k := by
  obtain ⟨w1, e1, i1, i2, i3, i4, i5, i6⟩ := x_fields0 (w := wb N) (N := N) rfl rfl h1 h2 (fun _ => rfl) (e := N * N) rfl (f_X8_init_117 N)
  have hK : XK N (Kt 0) w1 := ⟨by rw [i2 22 (by decide) (by decide) (by decide)]; rfl, by rw [i2 22 (by decide) (by decide) (by decide)]; rfl, h1, h2, i3, fun t ht => ⟨by rw [i2 6 (by decide) (by decide) (by decide)]; rfl, by rw [i2 7 (by decide) (by decide) (by decide)]; rfl, by show (if t < 0 then FS t else 0) < 1024; simp, by show (if t < 0 then FR t else 0) < 256; simp⟩⟩
  have hD : XD (Kt 0) w1 := fun i hi => by
    rw [(kt0_dir i hi).1, (kt0_dir i hi).2, i2 8 (by decide) (by decide) (by decide), i2 9 (by decide) (by decide) (by decide)]
    exact ⟨rfl, rfl, by decide, by decide⟩
  obtain ⟨w2, e2, a1, a2, a3, a4⟩ := x_tells0 (e := 16) rfl hK hD (f_X8_init_146 N)
  refine ⟨wdI w2 10 1 3, ?_, ?_, ?_, ?_, a3.trans i1, fun k hk => ?_⟩
  · show l_X8_init_93 N (f_X8_init_117 N) FU (nI 0) (wb N) = _
    rw [e1]
    show l_X8_init_119 N (f_X8_init_146 N) FU (nI 0) w1 = _
    rw [e2]
    rfl
  · obtain ⟨b1, b2, b3, b4, b5, b6⟩ := a1
    exact ⟨by rw [wI_c (by decide)]; exact b1, by rw [wI_c (by decide)]; exact b2, b3, b4, fun d hd f hf => by rw [wI_c (by decide)]; exact b5 d hd f hf, fun t ht => by rw [wI_c (by decide), wI_c (by decide)]; exact b6 t ht⟩
  · exact fun i hi => by rw [wI_c (by decide), wI_c (by decide)]; exact a2 i hi
  · refine ⟨?_, ?_, fun f hf => ?_, fun s hs f hf => ?_, fun k hk => ?_⟩
    · rw [wI_c (by decide), a4 2 (by decide) (by decide) (by decide) (by decide), i2 2 (by decide) (by decide) (by decide)]; rfl
    · rw [wI_c (by decide), a4 2 (by decide) (by decide) (by decide) (by decide), i2 2 (by decide) (by decide) (by decide)]; rfl
    · rw [wI_c (by decide), a4 4 (by decide) (by decide) (by decide) (by decide)]; exact i4 f hf
    · rw [wI_c (by decide), a4 5 (by decide) (by decide) (by decide) (by decide)]; exact i6 s hs f hf
    · have hz : w2.1 10 k = 0 := by rw [a4 10 (by decide) (by decide) (by decide) (by decide), i2 10 (by decide) (by decide) (by decide)]; rfl
      show _ = nI (if k = 1 then 3 else 0) ∧ (if k = 1 then 3 else 0) < 4
      by_cases q : k = 1
      · rw [q, wI_s]; exact ⟨rfl, by decide⟩
      · rw [wI_n q, hz, if_neg q]; exact ⟨rfl, by decide⟩
  · rw [wI_c (by omega), a4 k (by omega) (by omega) (by omega) (by omega)]; exact i2 k (by omega) (by omega) (by omega)
theorem x_lines0 {N : Nat} (h1 : N ≤ 7) : ∃ wL, f_X1_init N (nI N) (wb N) = some ((), wL) ∧ (∀ r, r < N → wL.1 13 r = -1) ∧ wL.2 = (wb N).2 ∧ ∀ k, k ≠ 13 → wL.1 k = (wb N).1 k := by
  have key := loop_up (fun n i w => l_X1_init_36 N (f_X1_init_54 N) n (nI N) i w) (f_X1_init_54 N) N (fun i w' => (∀ r, r < i → w'.1 13 r = -1) ∧ w'.2 = (wb N).2 ∧ ∀ k, k ≠ 13 → w'.1 k = (wb N).1 k)
    (fun n w' hI => by
      show b_X1_init_36 N (l_X1_init_36 N (f_X1_init_54 N) n) (f_X1_init_54 N) (nI N) (nI N) w' = _
      unfold b_X1_init_36
      rw [if_pos (nI_le (Nat.le_refl _) (by omega))])
    (fun n i w' hi hI => by
      refine ⟨wdI w' 13 i (-1), ?_, fun r hr => ?_, hI.2.1, fun k hk => ?_⟩
      · show b_X1_init_36 N (l_X1_init_36 N (f_X1_init_54 N) n) (f_X1_init_54 N) (nI N) (nI i) w' = _
        unfold b_X1_init_36
        rw [if_neg (nI_ge hi (by omega)), inb_nI hi (by omega), if_pos rfl, lw_e, nI_cl (by omega), nI_succ]
      · by_cases q : r = i
        · rw [q, wI_s]
        · rw [wI_n q]; exact hI.1 r (by omega)
      · rw [wI_c hk]; exact hI.2.2 k hk)
    N 0 (wb N) (by omega) ⟨fun _ h => absurd h (Nat.not_lt_zero _), rfl, fun _ _ => rfl⟩ FU (FU_big (by omega))
  obtain ⟨w', e1, e2⟩ := key
  exact ⟨w', e1, e2⟩
