/-! ===== the class: addGoings, settings, fill ===== -/
theorem x_addGoings {N f lo hi : Nat} {K : Kd} {P : Ps} {T : List Nat} {w : Wd} (hf : f < N * N) (hq : P.1 f ≠ 0 ∧ sd (P.1 f) = P.2.2) (hs2 : P.2.2 < 2) (hhi : hi ≤ 270 * (N * N)) (hK : XK N K w) (hD : XD K w) (hW : XW N K w) (hB : XB N P.1 w) (hmv : w.1 22 7 = nI P.2.2) (hR : XR N (reachL N K P.1 (P.1 f) f) w) (hL : LIn lo T w) (hlen : lo + T.length + (gosAt N K P f).length ≤ hi) :
    ∃ w', f_X5_addGoings N (nI f) (nI (reachL N K P.1 (P.1 f) f).length) (nI (lo + T.length)) w = some (nI (lo + (T ++ (gosAt N K P f).map (tc P.1)).length), w') ∧ SegX lo hi w w' ∧ LIn lo (T ++ (gosAt N K P f).map (tc P.1)) w' := by
  have hNN := NN_le hK.2.2.1
  have hb := hB f hf
  have h0 : 0 < P.1 f := by omega
  have eg : gosAt N K P f = (reachL N K P.1 (P.1 f) f).flatMap (goTo N K P.1 (P.1 f) P.2.2 f) := if_pos hq
  rw [eg] at hlen ⊢
  unfold f_X5_addGoings
  rw [inb_nI hf (by omega), if_pos rfl, lt_e, nI_clamp (by omega), hb.1, x_isRaised h0 hb.2, bd_s]
  obtain ⟨w', a1, a2, a3⟩ := x_ag24 (K155 := f_X5_addGoings_155 N) (lo := lo) (hi := hi) h0 hb.2 hq.2 hs2 hf hhi _ 0 FU T w (Nat.zero_add _) (FU_big (by have := nodup_len (N * N) _ hR.2.1 hR.2.2; omega)) hK hD hW hB hmv hR hL (by rw [List.drop_zero]; exact hlen)
  rw [List.drop_zero] at a1 a3
  exact ⟨w', a1, a2, a3⟩
def shB (N : Nat) (bo : Nat → Nat) (man : Nat) : Nat := (List.range (N * N)).foldl (fun a f => if bo f = man then a ||| 2 ^ (f % N) else a) 0
theorem sh_fold (N man e : Nat) (bo : Nat → Nat) : ∀ (l : List Nat) (a : Nat), bt (l.foldl (fun a f => if bo f = man then a ||| 2 ^ (f % N) else a) a) e = (bt a e || l.any fun f => decide (bo f = man) && decide (f % N = e))
  | [], a => by simp
  | b :: l, a => by
    rw [List.foldl_cons, sh_fold N man e bo l, List.any_cons]
    by_cases h : bo b = man
    · rw [if_pos h, bt_or, bt_pow, Bool.or_assoc]
      simp [h]
    · rw [if_neg h]
      simp [h]
theorem shB_bt {N man f : Nat} {bo : Nat → Nat} (h5 : 0 < N) : bt (shB N bo man) (f % N) = (List.range N).any fun r => decide (bo (f % N + r * N) = man) := by
  unfold shB
  rw [sh_fold]
  have : bt 0 (f % N) = false := by rw [bt_tb]; simp
  rw [this, Bool.false_or, Bool.eq_iff_iff, List.any_eq_true, List.any_eq_true]
  have hc : f % N < N := Nat.mod_lt _ h5
  constructor
  · rintro ⟨q, h1, h2⟩
    simp only [Bool.and_eq_true, decide_eq_true_eq] at h2
    rw [List.mem_range] at h1
    refine ⟨q / N, List.mem_range.mpr (Nat.div_lt_of_lt_mul h1), ?_⟩
    rw [decide_eq_true_eq, ← h2.2, Nat.mul_comm, Nat.mod_add_div]
    exact h2.1
  · rintro ⟨r, h1, h2⟩
    rw [List.mem_range] at h1
    rw [decide_eq_true_eq] at h2
    refine ⟨f % N + r * N, List.mem_range.mpr ?_, ?_⟩
    · have : (r + 1) * N ≤ N * N := Nat.mul_le_mul_right N (by omega)
      rw [Nat.add_mul] at this
      omega
    · simp only [Bool.and_eq_true, decide_eq_true_eq]
      exact ⟨h2, by rw [Nat.add_mul_mod_self_right, Nat.mod_eq_of_lt hc]⟩
theorem sh_lt {N man : Nat} {bo : Nat → Nat} (h7 : N ≤ 7) (h5 : 0 < N) : ∀ (l : List Nat) (a : Nat), a < 128 → l.foldl (fun a f => if bo f = man then a ||| 2 ^ (f % N) else a) a < 128
  | [], a, h => h
  | b :: l, a, h => by
    rw [List.foldl_cons]
    apply sh_lt h7 h5 l
    split
    · have hc : b % N < N := Nat.mod_lt _ h5
      exact Nat.or_lt_two_pow (n := 7) h (Nat.pow_lt_pow_right (by decide) (by omega))
    · exact h
theorem x_columnsShutTo {N k man : Nat} {K : Kd} {bo : Nat → Nat} {w : Wd} (hk : k < 8) (hm : man ≤ 32) (hK : XK N K w) (hW : XW N K w) (hB : XB N bo w) : f_X5_columnsShutTo N (nI k) (nI man) w = some (nI (if K.2.2 k % 2 = 0 then 0 else shB N bo man), w) := by
  have hNN := NN_le hK.2.2.1
  have h5 := hK.2.2.2.1
  have h7 := hK.2.2.1
  have hmk := hW.2.2.2.2 k hk
  have main : ∀ (m f n : Nat), f + m = N * N → m < n → l_X5_columnsShutTo_21 N (f_X5_columnsShutTo_68 N) n (nI man) (nI ((List.range f).foldl (fun a f => if bo f = man then a ||| 2 ^ (f % N) else a) 0)) (nI f) w = some (nI (shB N bo man), w) := by
    intro m
    induction m with
    | zero =>
      intro f n hf hn
      obtain ⟨n, rfl⟩ : ∃ k, n = k + 1 := ⟨n - 1, by omega⟩
      have : f = N * N := by omega
      subst this
      show b_X5_columnsShutTo_21 N (l_X5_columnsShutTo_21 N (f_X5_columnsShutTo_68 N) n) (f_X5_columnsShutTo_68 N) (nI man) _ (nI (N * N)) w = _
      unfold b_X5_columnsShutTo_21
      rw [hW.2.1, if_pos (nI_le (Nat.le_refl _) (by omega))]
      rfl
    | succ m ih =>
      intro f n hf hn
      obtain ⟨n, rfl⟩ : ∃ k, n = k + 1 := ⟨n - 1, by omega⟩
      have hfN : f < N * N := by omega
      have hb := hB f hfN
      have hc : f % N < N := Nat.mod_lt _ (by omega)
      have nxt := ih (f + 1) n (by omega) (by omega)
      rw [List.range_succ, List.foldl_append] at nxt
      have hlt := sh_lt (man := man) (bo := bo) h7 (by omega) (List.range f) 0 (by decide)
      show b_X5_columnsShutTo_21 N (l_X5_columnsShutTo_21 N (f_X5_columnsShutTo_68 N) n) (f_X5_columnsShutTo_68 N) (nI man) _ (nI f) w = _
      generalize (List.range f).foldl (fun a f => if bo f = man then a ||| 2 ^ (f % N) else a) 0 = a at nxt hlt ⊢
      unfold b_X5_columnsShutTo_21 f_X5_columnsShutTo_62
      rw [hW.2.1, if_neg (nI_ge hfN (by omega)), inb_nI hfN (by omega), if_pos rfl, nI_clamp (by omega), hb.1, hW.1, nI_1]
      have nxt2 : l_X5_columnsShutTo_21 N (f_X5_columnsShutTo_68 N) n (nI man) (nI (if bo f = man then a ||| 2 ^ (f % N) else a)) (nI (f + 1)) w = some (nI (shB N bo man), w) := nxt
      by_cases q : bo f = man
      · rw [if_pos q] at nxt2
        rw [if_pos (by rw [q]), if_pos (nI_ne0 (by omega) (by omega)), lt_e, pk_rem (by omega) (by omega) (by omega), show (1 : Int32) <<< (nI (f % N) &&& 31) = nI (2 ^ (f % N)) from by
          rw [show (1 : Int32) = nI 1 from rfl, pk_shlN _ (f % N) (shl_ok _ (by omega)) (by
            have : 2 ^ (f % N) < 2 ^ 7 := Nat.pow_lt_pow_right (by decide) (by omega)
            omega), Nat.one_mul], nI_or]
        exact nxt2
      · rw [if_neg q] at nxt2
        rw [if_neg (fun z => q ((nI_inj (by omega) (by omega)).mp z))]
        exact nxt2
  unfold f_X5_columnsShutTo
  rw [inb_nI hk (by decide), if_pos rfl, nI_clamp (by omega), hmk.1, show nI (K.2.2 k) &&& (1 : Int32) = nI (K.2.2 k % 2) from pk_andN (by omega) 1 rfl]
  by_cases q : K.2.2 k % 2 = 0
  · rw [q, if_pos z0, if_pos rfl]; rfl
  · rw [if_neg (nI_ne0 (by omega) (by omega)), if_neg q]
    exact main (N * N) 0 FU (by omega) (FU_big (by omega))
theorem sh13 : (((13 : Int32) &&& 31).toBitVec.smod 32).toNat = 13 := by decide
theorem x_setting {k f : Nat} (hk : k < 8) (hf : f < 64) (w : Wd) : f_X3_setting (nI k) (nI f) w = some (nI (seC k f), w) := by
  unfold f_X3_setting
  rw [pk_shlN _ 13 sh13 (by omega), show (4032 : Int32) = nI 4032 from rfl, nI_or, nI_or]
  congr 3
  rw [show k * 2 ^ 13 = 2 ^ 13 * k by omega, Nat.or_assoc, show (4032 : Nat) = 2 ^ 6 * 63 from rfl, or_hi (n := 6) (by omega), or_hi (n := 13) (by omega)]
  unfold seC
  omega
theorem man_k : ∀ k, k < 8 → ∀ s, s < 2 → tp (1 + k + 16 * s) = k ∧ sd (1 + k + 16 * s) = s ∧ 1 + k + 16 * s ≤ 32 := by decide
