/-! ===== copy, hands, what stands where ===== -/
def hasI (v l : Int32) (n : Nat) : Prop := ∃ a b : Nat, v = nI a ∧ l = nI b ∧ a + b ≤ n
theorem x_hasItems {N r n : Nat} {v l : Int32} {w : Wd} (h7 : N ≤ 7) (hr : r < N) (hn : n ≤ 12) (e : w.1 13 r = nI n) : (hasI v l n → f_X1_hasItems N (nI r) v l w = some (1, w)) ∧ (¬ hasI v l n → f_X1_hasItems N (nI r) v l w = some (0, w)) := by
  unfold f_X1_hasItems f_X1_hasItems_34 f_X1_hasItems_35
  rw [inb_nI hr (by omega), if_pos rfl, if_pos rfl, nI_clamp (by omega), e]
  refine ⟨?_, fun hh => ?_⟩
  · rintro ⟨a, b, rfl, rfl, hab⟩
    rw [if_neg (nI_pos (by omega)), if_neg (nI_pos (by omega)), if_neg (nI_nlt (by omega) (by omega)), pk_sub (by omega), if_neg (nI_nlt (by omega) (by omega))]
    rfl
  · by_cases q1 : v < 0
    · rw [if_pos q1]; rfl
    · rw [if_neg q1]
      by_cases q2 : l < 0
      · rw [if_pos q2]; rfl
      · rw [if_neg q2]
        obtain ⟨a, ha, rfl⟩ := nI_of q1
        obtain ⟨b, hb, rfl⟩ := nI_of q2
        by_cases q3 : n < b
        · rw [if_pos (nI_lt q3 hb)]; rfl
        · rw [if_neg (nI_nlt (by omega) (by omega)), pk_sub (by omega), if_pos]
          · rfl
          · refine nI_lt ?_ ha
            rcases Nat.lt_or_ge (n - b) a with z | z
            · exact z
            · exact absurd ⟨a, b, rfl, rfl, by omega⟩ hh
theorem lg_sum {a b n : Nat} (ha : a < 2 ^ 31) (hb : b < 2 ^ 31) (hn : n < 2 ^ 31) : ((0 : Int32) < lg_cmp ((nI a).toInt64 + (nI b).toInt64) (nI n).toInt64 ↔ n < a + b) ∧ (lg_cmp ((nI a).toInt64 + (nI b).toInt64) (nI n).toInt64 ≤ (0 : Int32) ↔ a + b ≤ n) := by
  have e : ((nI a).toInt64 + (nI b).toInt64).toInt = ((a + b : Nat) : Int) := by
    rw [Int64.toInt_add, Int32.toInt_toInt64, Int32.toInt_toInt64, nI_toInt ha, nI_toInt hb]
    rw [Int.bmod_eq_of_le] <;> omega
  have e2 : (nI n).toInt64.toInt = (n : Int) := by rw [Int32.toInt_toInt64, nI_toInt hn]
  rw [lg_cmp_gt, lg_cmp_le, Int64.lt_iff_toInt_lt, Int64.le_iff_toInt_le, e, e2]
  constructor <;> omega
theorem m_cpg {α : Type} {v2 v4 v5 : Int32} {n1 n3 : Nat} {A B : α} (h1 : n1 ≤ 12) (h3 : n3 ≤ 12) : (hasI v2 v5 n1 → hasI v4 v5 n3 → (if v2 < (0 : Int32) then B else if v4 < (0 : Int32) then B else if v5 < (0 : Int32) then B else if (0 : Int32) < lg_cmp (v2.toInt64 + v5.toInt64) (nI n1).toInt64 then B else if lg_cmp (v4.toInt64 + v5.toInt64) (nI n3).toInt64 ≤ (0 : Int32) then A else B) = A) ∧ (¬ (hasI v2 v5 n1 ∧ hasI v4 v5 n3) → (if v2 < (0 : Int32) then B else if v4 < (0 : Int32) then B else if v5 < (0 : Int32) then B else if (0 : Int32) < lg_cmp (v2.toInt64 + v5.toInt64) (nI n1).toInt64 then B else if lg_cmp (v4.toInt64 + v5.toInt64) (nI n3).toInt64 ≤ (0 : Int32) then A else B) = B) := by
  refine ⟨?_, fun hh => ?_⟩
  · rintro ⟨a, b, rfl, rfl, hab⟩ ⟨c, d, rfl, e2, hcd⟩
    have hd : b = d := (nI_inj (by omega) (by omega)).mp e2
    subst hd
    rw [if_neg (nI_pos (by omega)), if_neg (nI_pos (by omega)), if_neg (nI_pos (by omega)), if_neg (fun z => by have := (lg_sum (show a < 2 ^ 31 by omega) (show b < 2 ^ 31 by omega) (show n1 < 2 ^ 31 by omega)).1.mp z; omega), if_pos ((lg_sum (show c < 2 ^ 31 by omega) (show b < 2 ^ 31 by omega) (show n3 < 2 ^ 31 by omega)).2.mpr hcd)]
  · by_cases q1 : v2 < 0
    · rw [if_pos q1]
    by_cases q2 : v4 < 0
    · rw [if_neg q1, if_pos q2]
    by_cases q3 : v5 < 0
    · rw [if_neg q1, if_neg q2, if_pos q3]
    obtain ⟨a, ha, rfl⟩ := nI_of q1
    obtain ⟨c, hc, rfl⟩ := nI_of q2
    obtain ⟨b, hb, rfl⟩ := nI_of q3
    rw [if_neg q1, if_neg q2, if_neg q3]
    by_cases q4 : n1 < a + b
    · rw [if_pos ((lg_sum ha hb (by omega)).1.mpr q4)]
    · rw [if_neg (fun z => q4 ((lg_sum ha hb (by omega)).1.mp z)), if_neg]
      intro z
      have := (lg_sum hc hb (by omega)).2.mp z
      exact hh ⟨⟨a, b, rfl, rfl, by omega⟩, ⟨c, b, rfl, rfl, this⟩⟩
theorem m_cp1 {r a b : Nat} {v3 v4 : Int32} (hr : r < 7) (hb : a + b ≤ 12) (K : Int32 → Int32 → Int32 → Wd → Option (Int32 × Wd)) : ∀ (m i : Nat) (w : Wd), i + m = b → (∀ j, j < i → w.1 59 j = w.1 58 (12 * r + a + j)) → ∀ n, m < n → ∃ w', l_X10_copy_122 K n (nI r) (nI a) v3 v4 (nI b) (nI i) w = K v3 v4 (nI b) w' ∧ (∀ j, j < b → w'.1 59 j = w.1 58 (12 * r + a + j)) ∧ w'.2 = w.2 ∧ ∀ k, k ≠ 59 → w'.1 k = w.1 k
  | 0, i, w, hi, h0, n, hn => by
    obtain ⟨n, rfl⟩ : ∃ k, n = k + 1 := ⟨n - 1, by omega⟩
    refine ⟨w, ?_, fun j hj => h0 j (by omega), rfl, fun _ _ => rfl⟩
    show b_X10_copy_122 (l_X10_copy_122 K n) K (nI r) (nI a) v3 v4 (nI b) (nI i) w = K v3 v4 (nI b) w
    unfold b_X10_copy_122
    rw [if_pos (nI_le (by omega) (by omega))]
  | m + 1, i, w, hi, h0, n, hn => by
    obtain ⟨n, rfl⟩ : ∃ k, n = k + 1 := ⟨n - 1, by omega⟩
    obtain ⟨w', a1, a2, a3, a4⟩ := m_cp1 (v3 := v3) (v4 := v4) hr hb K m (i + 1) (wdI w 59 i (w.1 58 (12 * r + a + i))) (by omega) (fun j hj => by
      rw [wI_c (show (58 : Nat) ≠ 59 by decide)]
      rcases Nat.lt_succ_iff_lt_or_eq.mp hj with q | q
      · rw [wI_n (by omega)]; exact h0 j q
      · rw [q, wI_s]) n (by omega)
    refine ⟨w', ?_, fun j hj => (a2 j hj).trans (by rw [wI_c (by decide)]), a3, fun k hk => (a4 k hk).trans (wI_c hk)⟩
    show b_X10_copy_122 (l_X10_copy_122 K n) K (nI r) (nI a) v3 v4 (nI b) (nI i) w = K v3 v4 (nI b) w'
    unfold b_X10_copy_122
    rw [if_neg (nI_ge (by omega) (by omega)), show (12 : Int32) * nI r = nI (12 * r) from pk_mul 12 r, nI_add, nI_add, inb_nI (show 12 * r + a + i < 84 by omega) (by omega), if_pos rfl, inb_nI (show i < 12 by omega) (by omega), if_pos rfl, lw_e, nI_clamp (show i < 2 ^ 31 by omega), nI_clamp (show 12 * r + a + i < 2 ^ 31 by omega), nI_1]
    exact a1
theorem m_cp2 {r c b : Nat} (hr : r < 7) (hb : c + b ≤ 12) (K : Wd → Option (Int32 × Wd)) : ∀ (m i : Nat) (w : Wd), i + m = b → ∀ n, m < n → ∃ w', l_X10_copy_159 K n (nI r) (nI c) (nI b) (nI i) w = K w' ∧ (∀ j, i ≤ j → j < b → w'.1 58 (12 * r + c + j) = w.1 59 j) ∧ (∀ x, x < 12 * r + c + i ∨ 12 * r + c + b ≤ x → w'.1 58 x = w.1 58 x) ∧ w'.2 = w.2 ∧ ∀ k, k ≠ 58 → w'.1 k = w.1 k
  | 0, i, w, hi, n, hn => by
    obtain ⟨n, rfl⟩ : ∃ k, n = k + 1 := ⟨n - 1, by omega⟩
    refine ⟨w, ?_, fun j hj h2 => by omega, fun _ _ => rfl, rfl, fun _ _ => rfl⟩
    show b_X10_copy_159 (l_X10_copy_159 K n) K (nI r) (nI c) (nI b) (nI i) w = K w
    unfold b_X10_copy_159
    rw [if_pos (nI_le (by omega) (by omega))]
  | m + 1, i, w, hi, n, hn => by
    obtain ⟨n, rfl⟩ : ∃ k, n = k + 1 := ⟨n - 1, by omega⟩
    obtain ⟨w', a1, a2, a3, a4, a5⟩ := m_cp2 hr hb K m (i + 1) (wdI w 58 (12 * r + c + i) (w.1 59 i)) (by omega) n (by omega)
    refine ⟨w', ?_, fun j hj h2 => ?_, fun x hx => (a3 x (by omega)).trans (wI_n (by omega)), a4, fun k hk => (a5 k hk).trans (wI_c hk)⟩
    · show b_X10_copy_159 (l_X10_copy_159 K n) K (nI r) (nI c) (nI b) (nI i) w = K w'
      unfold b_X10_copy_159
      rw [if_neg (nI_ge (by omega) (by omega)), inb_nI (show i < 12 by omega) (by omega), if_pos rfl, show (12 : Int32) * nI r = nI (12 * r) from pk_mul 12 r, nI_add, nI_add, inb_nI (show 12 * r + c + i < 84 by omega) (by omega), if_pos rfl, lw_e, nI_clamp (show 12 * r + c + i < 2 ^ 31 by omega), nI_clamp (show i < 2 ^ 31 by omega), nI_1]
      exact a1
    · rcases Nat.eq_or_lt_of_le hj with q | q
      · rw [a3 (12 * r + c + j) (by omega), ← q, wI_s]
      · rw [a2 j q h2, wI_c (by decide)]
theorem k_copy {N : Nat} {wx wm : Wd} {v1 v2 v3 v4 v5 : Int32} (h : Rl N wx wm) : CallOk N (f_X9_copy N v1 v2 v3 v4 v5 wx) (f_X10_copy v1 v2 v3 v4 v5 wm) := by
  have hh := h
  obtain ⟨K, hB, hL, hH, hF, hT, hC, hS⟩ := hh
  have h7 := hB.2.2.1.2.1
  have h5 := hB.2.2.1.2.2.1
  unfold f_X9_copy f_X10_copy f_X9_copy_47 f_X9_copy_109 f_X10_copy_37 f_X10_copy_113
  rw [x_isLine hL.1 h7, m_isLine hB.2.2.1.1 h7 h5, bd_s, bd_s, ite10, ite10, x_isLine hL.1 h7, m_isLine hB.2.2.1.1 h7 h5, bd_s, bd_s, ite10, ite10]
  by_cases q1 : inb v1 N = true
  · by_cases q3 : inb v3 N = true
    · obtain ⟨r1, hr1, rfl⟩ := (inb_iff (by omega)).mp q1
      obtain ⟨r3, hr3, rfl⟩ := (inb_iff (by omega)).mp q3
      have iL1 := x_isLost (w := wx) h7 hr1
      have iL3 := x_isLost (w := wx) h7 hr3
      rw [q1, q3, inb_nI (show r1 < 7 by omega) (by omega), inb_nI (show r3 < 7 by omega) (by omega)]
      simp only [if_true]
      rw [nI_clamp (show r1 < 2 ^ 31 by omega), nI_clamp (show r3 < 2 ^ 31 by omega)]
      rcases hL.2 r1 hr1 with ⟨g1, g2⟩ | ⟨f1, n1, g1, g2, g3, g4, g5⟩
      · rw [iL1.1 g1, bd_s, if_neg (by decide), g2, if_pos (by decide)]
        exact (k_found h 1).bdr
      · rw [iL1.2 n1 g2 g4.1, bd_s, if_pos rfl, g3.2, if_neg (nI_pos (by omega))]
        rcases hL.2 r3 hr3 with ⟨e1, e2⟩ | ⟨f3, n3, e1, e2, e3, e4, e5⟩
        · rw [iL3.1 e1, bd_s, if_neg (by decide), e2, if_neg (by decide)]
          exact (k_found h 1).bdr
        · rw [iL3.2 n3 e2 e4.1, bd_s, if_pos rfl, e3.2, if_pos (nI_pos' (by omega)), g3.1, e3.1]
          by_cases qf : nI f1 = nI f3
          · rw [if_pos qf, if_pos qf, g4.2, e4.2]
            have mg := m_cpg (α := Option (Int32 × Wd)) (v2 := v2) (v4 := v4) (v5 := v5) (A := l_X10_copy_122 f_X10_copy_156 FU (nI r1) v2 (nI r3) v4 v5 (0 : Int32) wm) (B := bd (f_X10_met (2 : Int32) wm) fun x7 w8 => some (x7, w8)) g2 e2
            have x1 := x_hasItems (v := v2) (l := v5) h7 hr1 g2 g4.1
            have x3 := x_hasItems (v := v4) (l := v5) h7 hr3 e2 e4.1
            by_cases p1 : hasI v2 v5 n1
            · by_cases p3 : hasI v4 v5 n3
              · rw [x1.1 p1, bd_s, if_neg (by decide), x3.1 p3, bd_s, if_neg (by decide), mg.1 p1 p3]
                obtain ⟨a, b, rfl, rfl, p1⟩ := p1
                obtain ⟨c, d, rfl, p3', p3⟩ := p3
                have hd : b = d := (nI_inj (by omega) (by omega)).mp p3'
                subst hd
                obtain ⟨w1, a1, a2, a3, a4⟩ := m_cp1 (r := r1) (a := a) (b := b) (v3 := nI r3) (v4 := nI c) (by omega) (by omega) f_X10_copy_156 b 0 wm (by omega) (fun j hj => by omega) FU (FU_big (by omega))
                have a1' : l_X10_copy_122 f_X10_copy_156 FU (nI r1) (nI a) (nI r3) (nI c) (nI b) (0 : Int32) wm = f_X10_copy_156 (nI r3) (nI c) (nI b) w1 := a1
                obtain ⟨w2, b1, b2, b3, b4, b5⟩ := m_cp2 (r := r3) (c := c) (b := b) (by omega) (by omega) f_X10_copy_194 b 0 w1 (by omega) FU (FU_big (by omega))
                have b1' : l_X10_copy_159 f_X10_copy_194 FU (nI r3) (nI c) (nI b) (0 : Int32) w1 = f_X10_copy_194 w2 := b1
                have hcp : cpok (nI a) (nI c) (nI b) 12 12 = true := by
                  unfold cpok
                  rw [nI_clamp (show a < 2 ^ 31 by omega), nI_clamp (show b < 2 ^ 31 by omega), nI_clamp (show c < 2 ^ 31 by omega)]
                  have z1 : ¬ nI a < 0 := nI_pos (by omega)
                  have z2 : ¬ nI b < 0 := nI_pos (by omega)
                  have z3 : ¬ nI c < 0 := nI_pos (by omega)
                  simp [z1, z2, z3]
                  omega
                rw [hcp, if_pos rfl, lw_e, a1', nI_clamp (show a < 2 ^ 31 by omega), nI_clamp (show b < 2 ^ 31 by omega), nI_clamp (show c < 2 ^ 31 by omega)]
                unfold f_X10_copy_156
                rw [b1']
                have vm50 : w2.1 50 = wm.1 50 := (b5 50 (by decide)).trans (a4 50 (by decide))
                refine ⟨1, _, w2, rfl, rfl, Rl.lin hB hT hC hS ⟨?_, fun r' hr' => ?_⟩ (hH.top (wA_c (by omega)) ((b5 77 (by decide)).trans (a4 77 (by decide)))) ?_ (fun k hk => wA_c (by omega)) (fun j hj => by rw [wA_c (by omega)]) rfl (fun k hk => (b5 k (by omega)).trans (a4 k (by omega))) (fun j hj => by rw [vm50])⟩
                · rw [wA_c (by omega)]; exact hL.1
                · by_cases e : r' = r3
                  · subst e
                    refine Or.inr ⟨f3, n3, e1, e2, ?_, ?_, fun i hi => ?_⟩
                    · rw [wA_c (by omega), b5 56 (by decide), a4 56 (by decide)]; exact e3
                    · rw [wA_c (by omega), b5 57 (by decide), a4 57 (by decide)]; exact e4
                    · show (wdA wx (15 + r') (va_cpy (wx.1 (15 + r1)) (wx.1 (15 + r')) a c b)).1 (15 + r') i = _
                      rw [wA_s]
                      by_cases z : c ≤ i ∧ i < c + b
                      · rw [pk_cpy_in z.1 z.2, show 12 * r' + i = 12 * r' + c + (i - c) by omega, b2 (i - c) (by omega) (by omega), a2 (i - c) (by omega), g5 _ (by omega), Nat.add_assoc]
                      · rw [pk_cpy_out (by omega), b3 _ (by omega), a4 58 (by decide)]
                        exact e5 i hi
                  · refine (hL.2 r' hr').of (by rw [wA_c (by omega)]) (by rw [wA_c (by omega)]) ?_ ?_ (fun i hi => by rw [wA_c (by omega)]) (fun i hi => ?_)
                    · rw [b5 56 (by decide), a4 56 (by decide)]
                    · rw [b5 57 (by decide), a4 57 (by decide)]
                    · rw [b3 _ (by omega), a4 58 (by decide)]
                · unfold RFs at hF ⊢
                  rw [wA_c (by omega), vm50]
                  exact hF
              · rw [x1.1 p1, bd_s, if_neg (by decide), x3.2 p3, bd_s, if_pos rfl, mg.2 (fun z => p3 z.2)]
                exact (k_found h 2).bdr
            · rw [x1.2 p1, bd_s, if_pos rfl, mg.2 (fun z => p1 z.1)]
              exact (k_found h 2).bdr
          · rw [if_neg qf, if_neg qf]
            exact (k_found h 4).bdr
    · rw [if_neg q3, if_neg q3]
      split <;> exact h.same _ rfl rfl
  · rw [if_neg q1, if_neg q1]
    exact h.same _ rfl rfl
