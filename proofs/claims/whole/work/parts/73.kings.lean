/-! ===== a stand laid: the items of all lines, the kings ===== -/
theorem k_ld {N : Nat} {K : Kd} {wx wm : Wd} {v1 : Int32} (hX : XK N K wx) (hM : MK N K wm) (hG : ∀ r, r < N → RGd N wx wm r) (Kx : Int32 → Wd → Option (Int32 × Wd)) (Kf : Wd → Option (Int32 × Wd)) (Km : Int32 → Int32 → Int32 → Wd → Option (Int32 × Wd)) :
    ∀ (m i : Nat) (ux um : Wd), i + m = N * N → ux.2 = wx.2 → (∀ k, k ≠ 23 → ux.1 k = wx.1 k) → um.2 = wm.2 → (∀ k, k ≠ 60 → um.1 k = wm.1 k) → (∀ q, q < i → boV N wx q ≤ 32 ∧ ux.1 23 q = nI (boV N wx q) ∧ um.1 60 q = nI (boV N wx q)) → (∀ q, i ≤ q → q < 49 → um.1 60 q = 0) → ∀ n, m < n →
      ∃ ux' um', ux'.2 = wx.2 ∧ (∀ k, k ≠ 23 → ux'.1 k = wx.1 k) ∧ um'.2 = wm.2 ∧ (∀ k, k ≠ 60 → um'.1 k = wm.1 k) ∧ ((l_X6_load_4 N (f_X6_load_42 N) (f_X6_load_67 N) Kx n (nI (sumR nzw (boV N wx) i)) (nI i) ux = some ((-1 : Int32), ux') ∧ l_X10_stand_98 Kf Km n v1 (nI (sumR kgc (boV N wx) i)) (nI (sumR nzw (boV N wx) i)) (nI i) um = Kf um') ∨ (l_X6_load_4 N (f_X6_load_42 N) (f_X6_load_67 N) Kx n (nI (sumR nzw (boV N wx) i)) (nI i) ux = Kx (nI (sumR nzw (boV N wx) (N * N))) ux' ∧ l_X10_stand_98 Kf Km n v1 (nI (sumR kgc (boV N wx) i)) (nI (sumR nzw (boV N wx) i)) (nI i) um = Km v1 (nI (sumR kgc (boV N wx) (N * N))) (nI (sumR nzw (boV N wx) (N * N))) um' ∧ (∀ q, q < N * N → boV N wx q ≤ 32 ∧ ux'.1 23 q = nI (boV N wx q) ∧ um'.1 60 q = nI (boV N wx q)) ∧ ∀ q, N * N ≤ q → q < 49 → um'.1 60 q = 0)) := by
  have h7 := hM.2.1
  have h5 := hM.2.2.1
  have hNN := NN_le h7
  intro m
  induction m with
  | zero =>
    intro i ux um hi x2 x1 y2 y1 hb hz n hn
    obtain ⟨n, rfl⟩ : ∃ k, n = k + 1 := ⟨n - 1, by omega⟩
    have hiN : i = N * N := by omega
    subst hiN
    refine ⟨ux, um, x2, x1, y2, y1, Or.inr ⟨?_, ?_, hb, hz⟩⟩
    · show b_X6_load_4 N (l_X6_load_4 N (f_X6_load_42 N) (f_X6_load_67 N) Kx n) (f_X6_load_42 N) (f_X6_load_67 N) Kx (nI (sumR nzw (boV N wx) (N * N))) (nI (N * N)) ux = _
      unfold b_X6_load_4
      rw [x1 22 (by decide), hX.2.1, if_pos (nI_le (Nat.le_refl _) (by omega))]
    · show b_X10_stand_98 (l_X10_stand_98 Kf Km n) Kf Km v1 (nI (sumR kgc (boV N wx) (N * N))) (nI (sumR nzw (boV N wx) (N * N))) (nI (N * N)) um = _
      unfold b_X10_stand_98
      rw [y1 50 (by decide), hM.1, pk_mul, if_pos (nI_le (Nat.le_refl _) (by omega))]
  | succ m ih =>
    intro i ux um hi x2 x1 y2 y1 hb hz n hn
    obtain ⟨n, rfl⟩ : ∃ k, n = k + 1 := ⟨n - 1, by omega⟩
    have hr : i / N < N := (Nat.div_lt_iff_lt_mul (by omega)).mpr (by omega)
    have hc : i % N < N := Nat.mod_lt _ (by omega)
    have hXu : XK N K ux := by
      unfold XK at hX ⊢
      rw [x1 22 (by decide), x1 3 (by decide), x1 6 (by decide), x1 7 (by decide)]
      exact hX
    have hMu : MK N K um := by
      unfold MK at hM ⊢
      rw [y1 50 (by decide), y1 53 (by decide), y1 54 (by decide)]
      exact hM
    have hg := hG (i / N) hr
    have ht : f_X1_told N (nI (i / N)) (nI (i % N)) ux = some (itV N wx i, ux) := x_told h7 h5 (by omega) (by
      rcases hg with z | ⟨f, k, z1, z2, z3, z4, z5, z6⟩
      · exact Or.inl z.1
      · exact Or.inr ⟨k, z2, z4⟩) (x1 13 (by decide)) (x1 (15 + i / N) (by omega))
    have hv : (um.1 56 (i / N) < 0 ∧ itV N wx i = 0) ∨ ((0 : Int32) ≤ um.1 56 (i / N) ∧ itV N wx i = um.1 58 (12 * (i / N) + i % N)) := by
      rw [y1 56 (by decide), y1 58 (by decide)]
      unfold itV
      rcases hg with z | ⟨f, k, z1, z2, z3, z4, z5, z6⟩
      · exact Or.inl ⟨by rw [z.2]; decide, if_pos z.1⟩
      · refine Or.inr ⟨by rw [z5]; exact nI_pos' (by omega), ?_⟩
        rw [if_neg (by rw [z4]; exact nI_ne_neg (by omega))]
        exact z6 _ (by omega)
    have ex : l_X6_load_4 N (f_X6_load_42 N) (f_X6_load_67 N) Kx (n + 1) (nI (sumR nzw (boV N wx) i)) (nI i) ux = b_X6_load_4 N (l_X6_load_4 N (f_X6_load_42 N) (f_X6_load_67 N) Kx n) (f_X6_load_42 N) (f_X6_load_67 N) Kx (nI (sumR nzw (boV N wx) i)) (nI i) ux := rfl
    have em : l_X10_stand_98 Kf Km (n + 1) v1 (nI (sumR kgc (boV N wx) i)) (nI (sumR nzw (boV N wx) i)) (nI i) um = b_X10_stand_98 (l_X10_stand_98 Kf Km n) Kf Km v1 (nI (sumR kgc (boV N wx) i)) (nI (sumR nzw (boV N wx) i)) (nI i) um := rfl
    have hbo : boV N wx i = (itV N wx i).toNatClampNeg := if_pos (by omega)
    rw [ex, em, x_ld h7 hXu (by omega) ht, m_ld hMu (by omega) hv]
    by_cases q : okv K (itV N wx i) = true
    · have q1 : inb (itV N wx i) 33 = true := by
        unfold okv at q
        rw [Bool.and_eq_true] at q
        exact q.1
      obtain ⟨j, hj, hje⟩ := (inb_iff (by omega)).mp q1
      have hbj : boV N wx i = j := by rw [hbo, hje, nI_clamp (by omega)]
      rw [if_pos q, if_pos q, ← hbo]
      have hje' : itV N wx i = nI (boV N wx i) := by rw [hje, hbj]
      rw [hje']
      have s1 : sumR nzw (boV N wx) (i + 1) = sumR nzw (boV N wx) i + nzw (boV N wx i) := rfl
      have s2 : sumR kgc (boV N wx) (i + 1) = sumR kgc (boV N wx) i + kgc (boV N wx i) := rfl
      rw [← s1, ← s2]
      exact ih (i + 1) (wdI ux 23 i (nI (boV N wx i))) (wdI um 60 i (nI (boV N wx i))) (by omega) x2 (fun k hk => (wI_c hk).trans (x1 k hk)) y2 (fun k hk => (wI_c hk).trans (y1 k hk)) (fun p hp => by
        rcases Nat.lt_succ_iff_lt_or_eq.mp hp with z | z
        · rw [wI_n (by omega), wI_n (by omega)]; exact hb p z
        · rw [z, wI_s, wI_s]; exact ⟨by omega, rfl, rfl⟩) (fun p h1 h2 => by rw [wI_n (by omega)]; exact hz p (by omega) h2) n (by omega)
    · rw [if_neg q, if_neg q]
      exact ⟨ux, um, x2, x1, y2, y1, Or.inl ⟨rfl, rfl⟩⟩
theorem sumR_le {g b : Nat → Nat} {c : Nat} (h : ∀ i, g i ≤ c) : ∀ n, sumR g b n ≤ c * n
  | 0 => Nat.le_refl _
  | n + 1 => by
    unfold sumR
    have h1 := sumR_le (b := b) h n
    have h2 := h (b n)
    rw [Nat.mul_succ]
    omega
theorem sumR_mono {g b : Nat → Nat} {n k : Nat} (h : n ≤ k) : sumR g b n ≤ sumR g b k := by
  induction k with
  | zero => rw [show n = 0 by omega]; exact Nat.le_refl _
  | succ k ih =>
    rcases Nat.lt_or_ge n (k + 1) with q | q
    · have := ih (by omega)
      show sumR g b n ≤ sumR g b k + g (b k)
      omega
    · rw [show n = k + 1 by omega]; exact Nat.le_refl _
theorem sumR_two {g b : Nat → Nat} {p q n : Nat} (h : p < q) (hq : q < n) : g (b p) + g (b q) ≤ sumR g b n := by
  have h1 : sumR g b (p + 1) ≤ sumR g b q := sumR_mono (by omega)
  have h2 : sumR g b (q + 1) ≤ sumR g b n := sumR_mono (by omega)
  have e1 : sumR g b (p + 1) = sumR g b p + g (b p) := rfl
  have e2 : sumR g b (q + 1) = sumR g b q + g (b q) := rfl
  omega
theorem sumR_kgc {b : Nat → Nat} : ∀ n, sumR kgc b n = sumR (kgw 0) b n + 100 * sumR (kgw 1) b n
  | 0 => rfl
  | n + 1 => by
    have := sumR_kgc (b := b) n
    show sumR kgc b n + kgc (b n) = sumR (kgw 0) b n + kgw 0 (b n) + 100 * (sumR (kgw 1) b n + kgw 1 (b n))
    rw [this]
    unfold kgc
    omega
theorem kgw_le {s i : Nat} : kgw s i ≤ 1 := by
  unfold kgw
  split <;> omega
/-- kings found below field i -/
def KgI (bo : Nat → Nat) (i : Nat) (w : Wd) : Prop := ∀ s, s < 2 → (sumR (kgw s) bo i = 0 ∧ w.1 25 s = -1) ∨ (sumR (kgw s) bo i = 1 ∧ ∃ q, q < i ∧ w.1 25 s = nI q ∧ kgw s (bo q) = 1)
theorem x_fkl {N : Nat} {bo : Nat → Nat} (h7 : N ≤ 7) (K68 K83 : Wd → Option (Int32 × Wd)) : ∀ (m i : Nat) (w : Wd), i + m = N * N → w.1 22 2 = nI (N * N) → (∀ q, q < N * N → bo q ≤ 32 ∧ w.1 23 q = nI (bo q)) → KgI bo i w → ∀ n, m < n → ∃ w', w'.2 = w.2 ∧ (∀ k, k ≠ 25 → w'.1 k = w.1 k) ∧ ((l_X6_findKings_16 N K68 K83 n (nI i) w = K68 w' ∧ ∃ s, s < 2 ∧ 2 ≤ sumR (kgw s) bo (N * N)) ∨ (l_X6_findKings_16 N K68 K83 n (nI i) w = K83 w' ∧ KgI bo (N * N) w')) := by
  have hNN := NN_le h7
  intro m
  induction m with
  | zero =>
    intro i w hi h22 hb hI n hn
    obtain ⟨n, rfl⟩ : ∃ k, n = k + 1 := ⟨n - 1, by omega⟩
    have hiN : i = N * N := by omega
    subst hiN
    refine ⟨w, rfl, fun _ _ => rfl, Or.inr ⟨?_, hI⟩⟩
    show b_X6_findKings_16 N (l_X6_findKings_16 N K68 K83 n) K68 K83 (nI (N * N)) w = _
    unfold b_X6_findKings_16
    rw [h22, if_pos (nI_le (Nat.le_refl _) (by omega))]
  | succ m ih =>
    intro i w hi h22 hb hI n hn
    obtain ⟨n, rfl⟩ : ∃ k, n = k + 1 := ⟨n - 1, by omega⟩
    have hbi := hb i (by omega)
    have ex : l_X6_findKings_16 N K68 K83 (n + 1) (nI i) w = b_X6_findKings_16 N (l_X6_findKings_16 N K68 K83 n) K68 K83 (nI i) w := rfl
    have step : ∀ u, u.2 = w.2 → (∀ k, k ≠ 25 → u.1 k = w.1 k) → KgI bo (i + 1) u → b_X6_findKings_16 N (l_X6_findKings_16 N K68 K83 n) K68 K83 (nI i) w = l_X6_findKings_16 N K68 K83 n (nI (i + 1)) u → ∃ w', w'.2 = w.2 ∧ (∀ k, k ≠ 25 → w'.1 k = w.1 k) ∧ ((l_X6_findKings_16 N K68 K83 (n + 1) (nI i) w = K68 w' ∧ ∃ s, s < 2 ∧ 2 ≤ sumR (kgw s) bo (N * N)) ∨ (l_X6_findKings_16 N K68 K83 (n + 1) (nI i) w = K83 w' ∧ KgI bo (N * N) w')) := by
      intro u u2 u1 hu he
      obtain ⟨w', a1, a2, a3⟩ := ih (i + 1) u (by omega) (by rw [u1 22 (by decide)]; exact h22) (fun q hq => by rw [u1 23 (by decide)]; exact hb q hq) hu n (by omega)
      refine ⟨w', a1.trans u2, fun k hk => (a2 k hk).trans (u1 k hk), ?_⟩
      rw [ex, he]
      exact a3
    have hkeep : (∀ s, s < 2 → kgw s (bo i) = 0) → KgI bo (i + 1) w := by
      intro h0 s hs
      have e : sumR (kgw s) bo (i + 1) = sumR (kgw s) bo i + kgw s (bo i) := rfl
      rw [e, h0 s hs, Nat.add_zero]
      rcases hI s hs with z | ⟨z, q, z1, z2, z3⟩
      · exact Or.inl z
      · exact Or.inr ⟨z, q, by omega, z2, z3⟩
    have hN1 : ¬ nI (N * N) ≤ nI i := nI_ge (by omega) (by omega)
    by_cases z : bo i = 0
    · refine step w rfl (fun _ _ => rfl) (hkeep (fun s _ => by unfold kgw; rw [if_neg (fun y => y.1 z)])) ?_
      unfold b_X6_findKings_16 f_X6_findKings_77
      rw [h22, if_neg hN1, inb_nI (show i < N * N by omega) (by omega), if_pos rfl, nI_clamp (by omega), hbi.2, if_pos (show nI (bo i) = (0 : Int32) by rw [z]; rfl), nI_1]
    · have hk : kn (bo i) < 8 := Nat.mod_lt _ (by decide)
      have hsd : sd (bo i) < 2 := (man_chk (bo i) (by omega) (by omega)).2.2.2.2.2.1
      have hz0 : ¬ nI (bo i) = (0 : Int32) := nI_ne0 (by omega) (by omega)
      by_cases z2 : kn (bo i) = 0
      · have e1 : kgw (sd (bo i)) (bo i) = 1 := by unfold kgw; rw [if_pos ⟨z, z2, rfl⟩]
        have eq : b_X6_findKings_16 N (l_X6_findKings_16 N K68 K83 n) K68 K83 (nI i) w = if w.1 25 (sd (bo i)) = (-1 : Int32) then l_X6_findKings_16 N K68 K83 n (nI (i + 1)) (wdI w 25 (sd (bo i)) (nI i)) else K68 w := by
          unfold b_X6_findKings_16 f_X6_findKings_77
          rw [h22, if_neg hN1, inb_nI (show i < N * N by omega) (by omega), if_pos rfl, nI_clamp (by omega), hbi.2, if_neg hz0, if_pos rfl, x_kindOf (by omega) hbi.1, bd_s, if_pos (show nI (kn (bo i)) = (0 : Int32) by rw [z2]; rfl), if_pos rfl, hbi.2, x_sideOf hbi.1, bd_s, if_neg z, inb_nI hsd (by omega), if_pos rfl, if_pos rfl, lw_e, nI_clamp (by omega), nI_1]
        rcases hI (sd (bo i)) hsd with y | ⟨y, q, y1, y2, y3⟩
        · refine step (wdI w 25 (sd (bo i)) (nI i)) rfl (fun k hk => wI_c hk) ?_ (by rw [eq, if_pos y.2])
          intro s hs
          have e : sumR (kgw s) bo (i + 1) = sumR (kgw s) bo i + kgw s (bo i) := rfl
          by_cases es : s = sd (bo i)
          · rw [e, es, y.1, e1, wI_s]
            exact Or.inr ⟨rfl, i, by omega, rfl, e1⟩
          · have e0 : kgw s (bo i) = 0 := by unfold kgw; rw [if_neg (fun y => es y.2.2.symm)]
            rw [e, e0, Nat.add_zero, wI_n es]
            rcases hI s hs with x | ⟨x, p, x1, x2, x3⟩
            · exact Or.inl x
            · exact Or.inr ⟨x, p, by omega, x2, x3⟩
        · refine ⟨w, rfl, fun _ _ => rfl, Or.inl ⟨?_, sd (bo i), hsd, ?_⟩⟩
          · rw [ex, eq, if_neg (by rw [y2]; exact nI_ne_neg (by omega))]
          · have := sumR_two (g := kgw (sd (bo i))) (b := bo) y1 (show i < N * N by omega)
            rw [y3, e1] at this
            exact this
      · refine step w rfl (fun _ _ => rfl) (hkeep (fun s _ => by unfold kgw; rw [if_neg (fun y => z2 y.2.1)])) ?_
        unfold b_X6_findKings_16 f_X6_findKings_77
        rw [h22, if_neg hN1, inb_nI (show i < N * N by omega) (by omega), if_pos rfl, nI_clamp (by omega), hbi.2, if_neg hz0, if_pos rfl, x_kindOf (by omega) hbi.1, bd_s, if_neg (show ¬ nI (kn (bo i)) = (0 : Int32) from fun y => z2 ((nI_inj (b := 0) (by omega) (by omega)).mp y)), nI_1]
/-- one king a side, or not: as the class finds it -/
theorem x_findKings {N : Nat} {bo : Nat → Nat} {w : Wd} (h7 : N ≤ 7) (h22 : w.1 22 2 = nI (N * N)) (hb : ∀ q, q < N * N → bo q ≤ 32 ∧ w.1 23 q = nI (bo q)) : ∃ w', w'.2 = w.2 ∧ (∀ k, k ≠ 25 → w'.1 k = w.1 k) ∧ ((f_X6_findKings N w = some (0, w') ∧ ¬ (sumR (kgw 0) bo (N * N) = 1 ∧ sumR (kgw 1) bo (N * N) = 1)) ∨ (f_X6_findKings N w = some (1, w') ∧ (sumR (kgw 0) bo (N * N) = 1 ∧ sumR (kgw 1) bo (N * N) = 1) ∧ ∃ kf : Nat → Nat, KU N bo kf ∧ KG kf w')) := by
  have hNN := NN_le h7
  have h0 : KgI bo 0 (wdI (wdI w 25 0 (-1)) 25 1 (-1)) := by
    intro s hs
    refine Or.inl ⟨rfl, ?_⟩
    rcases (show s = 0 ∨ s = 1 by omega) with rfl | rfl
    · rw [wI_n (by decide), wI_s]
    · rw [wI_s]
  obtain ⟨w', a1, a2, a3⟩ := x_fkl (bo := bo) h7 (f_X6_findKings_68 N) (f_X6_findKings_83 N) (N * N) 0 (wdI (wdI w 25 0 (-1)) 25 1 (-1)) (by omega) (by rw [wI_c (by decide), wI_c (by decide)]; exact h22) (fun q hq => by rw [wI_c (by decide), wI_c (by decide)]; exact hb q hq) h0 FU (FU_big (by omega))
  have ef : f_X6_findKings N w = l_X6_findKings_16 N (f_X6_findKings_68 N) (f_X6_findKings_83 N) FU (nI 0) (wdI (wdI w 25 0 (-1)) 25 1 (-1)) := rfl
  refine ⟨w', a1, fun k hk => (a2 k hk).trans ((wI_c hk).trans (wI_c hk)), ?_⟩
  rw [ef]
  rcases a3 with ⟨b1, s, hs, b2⟩ | ⟨b1, b2⟩
  · refine Or.inl ⟨by rw [b1]; rfl, fun z => ?_⟩
    rcases (show s = 0 ∨ s = 1 by omega) with rfl | rfl <;> omega
  · have e83 : f_X6_findKings_83 N w' = if w'.1 25 0 = (-1 : Int32) then some ((0 : Int32), w') else if w'.1 25 1 = (-1 : Int32) then some ((0 : Int32), w') else some ((1 : Int32), w') := rfl
    rw [b1, e83]
    rcases b2 0 (by omega) with y | ⟨y, q0, y1, y2, y3⟩
    · exact Or.inl ⟨by rw [if_pos y.2], fun z => by omega⟩
    · rw [if_neg (by rw [y2]; exact nI_ne_neg (by omega))]
      rcases b2 1 (by omega) with x | ⟨x, q1, x1, x2, x3⟩
      · exact Or.inl ⟨by rw [if_pos x.2], fun z => by omega⟩
      · refine Or.inr ⟨by rw [if_neg (by rw [x2]; exact nI_ne_neg (by omega))], ⟨y, x⟩, fun s => if s = 0 then q0 else q1, ?_, ?_⟩
        · have k0 : ∀ {s i : Nat}, kgw s i = 1 → i ≠ 0 ∧ kn i = 0 ∧ sd i = s := by
            intro s i h
            unfold kgw at h
            split at h
            · assumption
            · omega
          refine ⟨fun s hs => ?_, fun q hq hb0 hk0 => ?_⟩
          · rcases (show s = 0 ∨ s = 1 by omega) with rfl | rfl
            · exact ⟨y1, (k0 y3).1, (k0 y3).2.1, (k0 y3).2.2⟩
            · exact ⟨x1, (k0 x3).1, (k0 x3).2.1, (k0 x3).2.2⟩
          · have hsd : sd (bo q) < 2 := (man_chk (bo q) (by have := (hb q hq).1; omega) (by omega)).2.2.2.2.2.1
            have hu : ∀ s p, p < N * N → kgw s (bo p) = 1 → sumR (kgw s) bo (N * N) = 1 → sd (bo q) = s → q = p := by
              intro s p hp hp1 hsum hsq
              have hq1 : kgw s (bo q) = 1 := by unfold kgw; rw [if_pos ⟨hb0, hk0, hsq⟩]
              rcases Nat.lt_trichotomy q p with z | z | z
              · have := sumR_two (g := kgw s) (b := bo) z hp
                omega
              · exact z
              · have := sumR_two (g := kgw s) (b := bo) z hq
                omega
            show q = if sd (bo q) = 0 then q0 else q1
            by_cases es : sd (bo q) = 0
            · rw [if_pos es]; exact hu 0 q0 y1 y3 y es
            · rw [if_neg es]; exact hu 1 q1 x1 x3 x (by omega)
        · intro s hs
          rcases (show s = 0 ∨ s = 1 by omega) with rfl | rfl
          · exact y2
          · exact x2
