/-! ===== the class's Play: packed stands, how often a stand has come ===== -/
theorem x_pf21 {N o e : Nat} {P : Ps} {w : Wd} (h7 : N ≤ 7) (hB : XB N P.1 w) (he : e ≤ N * N) :
    ∀ (m f n a : Nat), f + m = e → m < n → m ≤ 10 → a < 64 ^ (10 - m) → l_X4_packedFields_21 N o (f_X4_packedFields_50 N o) n (nI e) (lN a) (nI f) w = some (lN (pkN 64 P.1 (List.range' f m) a), w) := by
  have hNN := NN_le h7
  intro m
  induction m with
  | zero =>
    intro f n a hf hn _ _
    obtain ⟨n, rfl⟩ : ∃ q, n = q + 1 := ⟨n - 1, by omega⟩
    show b_X4_packedFields_21 N o (l_X4_packedFields_21 N o (f_X4_packedFields_50 N o) n) (f_X4_packedFields_50 N o) (nI e) (lN a) (nI f) w = _
    unfold b_X4_packedFields_21
    rw [if_pos (nI_le (by omega) (by omega))]
    rfl
  | succ m ih =>
    intro f n a hf hn hm ha
    obtain ⟨n, rfl⟩ : ∃ q, n = q + 1 := ⟨n - 1, by omega⟩
    have hb := hB f (by omega)
    have ha9 : a < 64 ^ 9 := Nat.lt_of_lt_of_le ha (Nat.pow_le_pow_right (by decide) (by omega))
    have ha9' : a < 18014398509481984 := ha9
    show b_X4_packedFields_21 N o (l_X4_packedFields_21 N o (f_X4_packedFields_50 N o) n) (f_X4_packedFields_50 N o) (nI e) (lN a) (nI f) w = _
    unfold b_X4_packedFields_21
    have ep : (lN a <<< (Int32.toInt64 (6 : Int32) &&& 63)) ||| (nI (P.1 f)).toInt64 = lN (a * 64 + P.1 f) := wb_push (k := 6) (by omega) (by omega) (by omega) (by omega)
    rw [if_neg (nI_ge (by omega) (by omega)), inb_nI (show f < N * N by omega) (by omega), if_pos rfl, lj_e, nI_clamp (by omega), hb.1, ep, nI_1, List.range'_succ]
    have h2 : a * 64 + P.1 f < 64 ^ (10 - m) := by
      rw [show 10 - m = (10 - (m + 1)) + 1 by omega, Nat.pow_succ]
      have : (a + 1) * 64 ≤ 64 ^ (10 - (m + 1)) * 64 := Nat.mul_le_mul_right _ ha
      omega
    exact ih (f + 1) n (a * 64 + P.1 f) (by omega) (by omega) (by omega) h2
theorem x_packedFields {N o j : Nat} {P : Ps} {w : Wd} (h7 : N ≤ 7) (hB : XB N P.1 w) (hj : j < 5) : f_X4_packedFields N o (nI (10 * j)) w = some (lN (pkW N P j), w) := by
  have hNN := NN_le h7
  unfold f_X4_packedFields pkW
  have e0 : (if Int32.ofNat (N * N) < nI (10 * j) + (10 : Int32) then Int32.ofNat (N * N) else nI (10 * j) + (10 : Int32)) = nI (min (10 * j + 10) (N * N)) := by
    have e1 : nI (10 * j) + (10 : Int32) = nI (10 * j + 10) := nI_add _ 10
    rw [e1, show Int32.ofNat (N * N) = nI (N * N) from rfl]
    by_cases h : N * N < 10 * j + 10
    · rw [if_pos (show nI (N * N) < nI (10 * j + 10) from nI_lt h (by omega)), show min (10 * j + 10) (N * N) = N * N by omega]
    · rw [if_neg (show ¬ nI (N * N) < nI (10 * j + 10) from nI_nlt (by omega) (by omega)), show min (10 * j + 10) (N * N) = 10 * j + 10 by omega]
  rw [lt_e, e0, if_pos hj]
  by_cases h : 10 * j ≤ min (10 * j + 10) (N * N)
  · exact x_pf21 h7 hB (e := min (10 * j + 10) (N * N)) (by omega) (min (10 * j + 10) (N * N) - 10 * j) (10 * j) FU 0 (by omega) (FU_big (by omega)) (by omega) (Nat.pow_pos (by decide))
  · rw [show min (10 * j + 10) (N * N) - 10 * j = 0 by omega]
    show b_X4_packedFields_21 N o (l_X4_packedFields_21 N o (f_X4_packedFields_50 N o) 99999) (f_X4_packedFields_50 N o) (nI (min (10 * j + 10) (N * N))) (lN 0) (nI (10 * j)) w = _
    unfold b_X4_packedFields_21
    rw [if_pos (nI_le (by omega) (by omega))]
    rfl
theorem x_ph7 {N o h : Nat} {P : Ps} {w : Wd} (hh : h < 2) (hH : ∀ j, j < 16 → w.1 24 j = nI (P.2.1 j) ∧ P.2.1 j < 128) :
    ∀ (m f n a : Nat), f + m = 8 * h + 8 → m < n → m ≤ 7 → a < 128 ^ (7 - m) → l_X4_packedHand_7 N o (f_X4_packedHand_39 N o) n (nI (8 * h)) (lN a) (nI f) w = some (lN (pkN 128 P.2.1 (List.range' f m) a), w) := by
  have e8 : nI (8 * h) + (8 : Int32) = nI (8 * h + 8) := nI_add _ 8
  intro m
  induction m with
  | zero =>
    intro f n a hf hn _ _
    obtain ⟨n, rfl⟩ : ∃ q, n = q + 1 := ⟨n - 1, by omega⟩
    show b_X4_packedHand_7 N o (l_X4_packedHand_7 N o (f_X4_packedHand_39 N o) n) (f_X4_packedHand_39 N o) (nI (8 * h)) (lN a) (nI f) w = _
    unfold b_X4_packedHand_7
    rw [e8, if_pos (nI_le (by omega) (by omega))]
    rfl
  | succ m ih =>
    intro f n a hf hn hm ha
    obtain ⟨n, rfl⟩ : ∃ q, n = q + 1 := ⟨n - 1, by omega⟩
    have hb := hH f (by omega)
    have ha9 : a < 128 ^ 6 := Nat.lt_of_lt_of_le ha (Nat.pow_le_pow_right (by decide) (by omega))
    have ha9' : a < 4398046511104 := ha9
    show b_X4_packedHand_7 N o (l_X4_packedHand_7 N o (f_X4_packedHand_39 N o) n) (f_X4_packedHand_39 N o) (nI (8 * h)) (lN a) (nI f) w = _
    unfold b_X4_packedHand_7
    have ep : (lN a <<< (Int32.toInt64 (7 : Int32) &&& 63)) ||| (nI (P.2.1 f)).toInt64 = lN (a * 128 + P.2.1 f) := wb_push (k := 7) (by omega) (by omega) (by omega) (by omega)
    rw [e8, if_neg (nI_ge (by omega) (by omega)), inb_nI (show f < 16 by omega) (by omega), if_pos rfl, lj_e, nI_clamp (by omega), hb.1, ep, nI_1, List.range'_succ]
    have h2 : a * 128 + P.2.1 f < 128 ^ (7 - m) := by
      rw [show 7 - m = (7 - (m + 1)) + 1 by omega, Nat.pow_succ]
      have : (a + 1) * 128 ≤ 128 ^ (7 - (m + 1)) * 128 := Nat.mul_le_mul_right _ ha
      omega
    exact ih (f + 1) n (a * 128 + P.2.1 f) (by omega) (by omega) (by omega) h2
theorem x_packedHand {N o h : Nat} {P : Ps} {w : Wd} (hh : h < 2) (hH : ∀ j, j < 16 → w.1 24 j = nI (P.2.1 j) ∧ P.2.1 j < 128) : f_X4_packedHand N o (nI (8 * h)) w = some (lN (pkW N P (5 + h)), w) := by
  unfold f_X4_packedHand pkW
  rw [lt_e, nI_1, if_neg (by omega), show 5 + h - 5 = h by omega]
  exact x_ph7 hh hH 7 (8 * h + 1) FU 0 (by omega) (by decide) (by omega) (by decide)
/-- the kept words of stands -/
def XSt (N o : Nat) (ps : Nat → Ps) (a : Nat) (w : Wd) : Prop := ∀ i, i ≤ a → ∀ j, j < 7 → w.2.1 (o + 3) (7 * i + j) = lN (pkW N (ps i) j)
theorem n7 (i j : Nat) : (7 : Int32) * nI i + nI j = nI (7 * i + j) := by
  rw [show (7 : Int32) = nI 7 from rfl, pk_mul, nI_add]
theorem x_isSame {N o a b : Nat} {w : Wd} (ha : a ≤ 300) (hb : b ≤ 300) : f_X4_isSameStand N o (nI a) (nI b) w = some (b2i ((List.range 7).all fun j => decide (w.2.1 (o + 3) (7 * a + j) = w.2.1 (o + 3) (7 * b + j))), w) := by
  have key := loop_any (fun n q w => l_X4_isSameStand_2 N o (f_X4_isSameStand_34 N o) (f_X4_isSameStand_42 N o) n (nI a) (nI b) q w) (f_X4_isSameStand_34 N o) (f_X4_isSameStand_42 N o) 7 (fun j => !decide (w.2.1 (o + 3) (7 * a + j) = w.2.1 (o + 3) (7 * b + j))) (fun u => u = w) ?_ ?_ 7 0 w (by omega) rfl FU (by decide)
  · obtain ⟨w', h1, h2⟩ := key
    subst h1
    unfold f_X4_isSameStand
    refine Eq.trans h2 ?_
    rw [← List.range_eq_range', ← List.not_all_eq_any_not]
    cases ((List.range 7).all fun j => decide (w'.2.1 (o + 3) (7 * a + j) = w'.2.1 (o + 3) (7 * b + j))) <;> rfl
  · intro n u hu
    show b_X4_isSameStand_2 N o (l_X4_isSameStand_2 N o (f_X4_isSameStand_34 N o) (f_X4_isSameStand_42 N o) n) (f_X4_isSameStand_34 N o) (f_X4_isSameStand_42 N o) (nI a) (nI b) (nI 7) u = _
    unfold b_X4_isSameStand_2
    rw [if_pos (by decide)]
  · intro n j u hj hu
    subst hu
    refine ⟨u, rfl, ?_⟩
    show b_X4_isSameStand_2 N o (l_X4_isSameStand_2 N o (f_X4_isSameStand_34 N o) (f_X4_isSameStand_42 N o) n) (f_X4_isSameStand_34 N o) (f_X4_isSameStand_42 N o) (nI a) (nI b) (nI j) u = _
    unfold b_X4_isSameStand_2
    rw [if_neg (show ¬ (7 : Int32) ≤ nI j from nI_ge (b := 7) hj (by decide)), n7, n7, inb_nI (show 7 * a + j < 2107 by omega) (by decide), inb_nI (show 7 * b + j < 2107 by omega) (by decide), if_pos rfl, if_pos rfl, nI_clamp (by omega), nI_clamp (by omega), nI_1]
    by_cases e : u.2.1 (o + 3) (7 * a + j) = u.2.1 (o + 3) (7 * b + j)
    · rw [if_pos ((lg_cmp_eq _ _).mpr e), if_neg (by simp [e])]
    · rw [if_neg (fun z => e ((lg_cmp_eq _ _).mp z)), if_pos (by simp [e])]
theorem x_isSameP {N o a i d : Nat} {ps : Nat → Ps} {w : Wd} (h7 : N ≤ 7) (hS : XSt N o ps a w) (hV : ∀ i, i ≤ a → VB N (ps i)) (ha : a ≤ 300) (hi : i ≤ a) (hd : d ≤ a) (hs : (ps i).2.2 = (ps d).2.2) : f_X4_isSameStand N o (nI i) (nI d) w = some (b2i (smP (ps i) (ps d)), w) := by
  rw [x_isSame (by omega) (by omega)]
  congr 2
  congr 1
  rw [Bool.eq_iff_iff, smP_iff, List.all_eq_true]
  have key := pk_same h7 (hV i hi) (hV d hd)
  constructor
  · intro h
    refine ⟨hs, key.mp (fun j hj => ?_)⟩
    have := of_decide_eq_true (h j (List.mem_range.mpr hj))
    rw [hS i hi j hj, hS d hd j hj] at this
    have l1 := pkW_lt (hV i hi) hj
    have l2 := pkW_lt (hV d hd) hj
    exact (pk_lEQ (by omega) (by omega)).mp this
  · rintro ⟨_, h⟩ j hj
    rw [List.mem_range] at hj
    apply decide_eq_true
    rw [hS i hi j hj, hS d hd j hj, key.mpr h j hj]
/-- the firsts, as the class writes them -/
def fstI (p : Nat → Bool) : Int32 → Nat → Int32
  | d, 0 => d
  | d, n + 1 => fstI p (if p n = true then nI n else d) n
theorem fstI_e {p : Nat → Bool} : ∀ (n d : Nat), fstI p (nI d) n = nI (fstTo p d n)
  | 0, _ => rfl
  | n + 1, d => by
    unfold fstI fstTo
    rw [show (if p n = true then nI n else nI d) = nI (if p n = true then n else d) by split <;> rfl]
    exact fstI_e n _
/-- only firstTime and times of play o -/
def CtX (o : Nat) (w w' : Wd) : Prop := w'.2 = w.2 ∧ (∀ k, k ≠ o → w'.1 k = w.1 k) ∧ ∀ j, j ≠ 5 → j ≠ 8 → w'.1 o j = w.1 o j
theorem CtX.rf {o : Nat} {w : Wd} : CtX o w w := ⟨rfl, fun _ _ => rfl, fun _ _ _ => rfl⟩
theorem CtX.tr {o : Nat} {a b c : Wd} (x : CtX o a b) (y : CtX o b c) : CtX o a c := ⟨y.1.trans x.1, fun k h => (y.2.1 k h).trans (x.2.1 k h), fun j h1 h2 => (y.2.2 j h1 h2).trans (x.2.2 j h1 h2)⟩
theorem CtX.i {o j : Nat} {w : Wd} {v : Int32} (h : j = 5 ∨ j = 8) : CtX o w (wdI w o j v) := ⟨rfl, fun k hk => wI_c hk, fun q h1 h2 => wI_n (by omega)⟩
theorem x_ct10 {N o a d : Nat} {K : Kd} {ps : Nat → Ps} {cs : Nat → Nat} {w : Wd} (h7 : N ≤ 7) (h5 : 5 ≤ N) (hPl : Pl N K ps cs a) (hS : XSt N o ps a w) (ha : a ≤ 300) (hd : d ≤ a) (hdn : w.1 o 6 = nI d) :
    ∀ (i t n : Nat) (u : Wd), i ≤ d → i % 2 = d % 2 → i + 1 < n → CtX o w u → u.1 o 8 = nI t →
      ∃ u', l_X4_countTimes_10 N o (f_X4_countTimes_50 N o) n (nI i) u = some ((), u') ∧ CtX o w u' ∧ u'.1 o 8 = nI (t + cntTo (fun i => smP (ps i) (ps d)) (i + 1)) ∧ u'.1 o 5 = fstI (fun i => smP (ps i) (ps d)) (u.1 o 5) (i + 1) := by
  have hVB : ∀ i, i ≤ a → VB N (ps i) := fun i hi => (hPl.vp h7 h5 i hi).toVB
  have par : ∀ i, i ≤ d → i % 2 = d % 2 → (ps i).2.2 = (ps d).2.2 := fun i hi hp => by
    rw [hPl.side i (by omega), hPl.side d hd, hp]
  have opp : ∀ i, i ≤ d → i % 2 ≠ d % 2 → smP (ps i) (ps d) = false := fun i hi hp => by
    cases h : smP (ps i) (ps d) with
    | false => rfl
    | true =>
      exfalso
      have e := (smP_iff.mp h).1
      have hm := hPl.1.mv
      rw [hPl.side i (by omega), hPl.side d hd] at e
      split at e <;> split at e <;> omega
  have one : ∀ (i t n : Nat) (u : Wd), i ≤ d → i % 2 = d % 2 → CtX o w u → u.1 o 8 = nI t → ∃ u1, CtX o w u1 ∧ u1.1 o 8 = nI (t + (if smP (ps i) (ps d) = true then 1 else 0)) ∧ u1.1 o 5 = (if smP (ps i) (ps d) = true then nI i else u.1 o 5) ∧ l_X4_countTimes_10 N o (f_X4_countTimes_50 N o) (n + 1) (nI i) u = l_X4_countTimes_10 N o (f_X4_countTimes_50 N o) n (nI i + (-2 : Int32)) u1 := by
    intro i t n u hi hp hu ht
    have e1 : l_X4_countTimes_10 N o (f_X4_countTimes_50 N o) (n + 1) (nI i) u = b_X4_countTimes_10 N o (l_X4_countTimes_10 N o (f_X4_countTimes_50 N o) n) (f_X4_countTimes_50 N o) (nI i) u := rfl
    have hSu : XSt N o ps a u := fun i hi j hj => by rw [hu.1]; exact hS i hi j hj
    have hs := x_isSameP (i := i) (d := d) h7 hSu hVB ha (by omega) hd (par i hi hp)
    rw [e1]
    unfold b_X4_countTimes_10 f_X4_countTimes_44
    rw [if_neg (nI_pos (by omega)), hu.2.2 6 (by decide) (by decide), hdn, hs, bd_s, b2_0]
    cases hq : smP (ps i) (ps d) with
    | false => exact ⟨u, hu, by simpa using ht, rfl, rfl⟩
    | true =>
      refine ⟨wdI (wdI u o 8 (u.1 o 8 + 1)) o 5 (nI i), (hu.tr (CtX.i (Or.inr rfl))).tr (CtX.i (Or.inl rfl)), ?_, ?_, rfl⟩
      · rw [wI_n (by decide), wI_s, ht, nI_1]; rfl
      · rw [wI_s]; rfl
  intro i
  induction i using Nat.strongRecOn with
  | _ i ih =>
    intro t n u hi hp hn hu ht
    obtain ⟨n, rfl⟩ : ∃ q, n = q + 1 := ⟨n - 1, by omega⟩
    obtain ⟨u1, a1, a2, a3, a4⟩ := one i t n u hi hp hu ht
    rw [a4]
    rcases (show i = 0 ∨ i = 1 ∨ ∃ k, i = k + 2 from by
      rcases i with _ | _ | k
      · exact Or.inl rfl
      · exact Or.inr (Or.inl rfl)
      · exact Or.inr (Or.inr ⟨k, rfl⟩)) with rfl | rfl | ⟨k, rfl⟩
    · rcases n with _ | n
      · omega
      · refine ⟨u1, ?_, a1, ?_, ?_⟩
        · show b_X4_countTimes_10 N o (l_X4_countTimes_10 N o (f_X4_countTimes_50 N o) n) (f_X4_countTimes_50 N o) (nI 0 + (-2 : Int32)) u1 = _
          unfold b_X4_countTimes_10
          rw [if_pos (by decide)]
          rfl
        · rw [a2]; unfold cntTo; unfold cntTo; rw [Nat.zero_add]
        · rw [a3]; rfl
    · rcases n with _ | n
      · omega
      · have o0 := opp 0 (by omega) (by omega)
        refine ⟨u1, ?_, a1, ?_, ?_⟩
        · show b_X4_countTimes_10 N o (l_X4_countTimes_10 N o (f_X4_countTimes_50 N o) n) (f_X4_countTimes_50 N o) (nI 1 + (-2 : Int32)) u1 = _
          unfold b_X4_countTimes_10
          rw [if_pos (by decide)]
          rfl
        · rw [a2]
          unfold cntTo
          unfold cntTo
          unfold cntTo
          rw [o0, if_neg (show ¬ false = true by decide), Nat.zero_add]
        · rw [a3]
          unfold fstI
          unfold fstI
          unfold fstI
          rw [o0]
          rfl
    · have o1 := opp (k + 1) (by omega) (by omega)
      have e2 : nI (k + 2) + (-2 : Int32) = nI k := by
        rw [show nI (k + 2) = nI k + 2 from (nI_add k 2).symm, Int32.add_assoc, show (2 : Int32) + (-2) = 0 from by decide, Int32.add_zero]
      rw [e2]
      obtain ⟨u2, b1, b2, b3, b4⟩ := ih k (by omega) _ n u1 (by omega) (by omega) (by omega) a1 a2
      refine ⟨u2, b1, b2, ?_, ?_⟩
      · rw [b3]
        show _ = nI (t + (cntTo (fun i => smP (ps i) (ps d)) (k + 1) + (if smP (ps (k + 1)) (ps d) = true then 1 else 0) + (if smP (ps (k + 2)) (ps d) = true then 1 else 0)))
        rw [o1, if_neg (show ¬ false = true by decide)]
        congr 1
        omega
      · rw [b4, a3]
        show _ = fstI (fun i => smP (ps i) (ps d)) (if smP (ps (k + 1)) (ps d) = true then nI (k + 1) else (if smP (ps (k + 2)) (ps d) = true then nI (k + 2) else u.1 o 5)) (k + 1)
        rw [o1]
        rfl
theorem x_countTimes {N o a d : Nat} {K : Kd} {ps : Nat → Ps} {cs : Nat → Nat} {w : Wd} (h7 : N ≤ 7) (h5 : 5 ≤ N) (hPl : Pl N K ps cs a) (hS : XSt N o ps a w) (ha : a ≤ 300) (hd : d ≤ a) (hdn : w.1 o 6 = nI d) :
    ∃ w', f_X4_countTimes N o w = some ((), w') ∧ CtX o w w' ∧ w'.1 o 8 = nI (cntS ps d) ∧ w'.1 o 5 = nI (fstS ps d) := by
  unfold f_X4_countTimes
  rw [lw_e, lt_e, wI_n (by decide), hdn]
  obtain ⟨u, a1, a2, a3, a4⟩ := x_ct10 h7 h5 hPl (w := wdI w o 8 0) (fun i hi j hj => hS i hi j hj) ha hd (by rw [wI_n (by decide)]; exact hdn) d 0 FU (wdI w o 8 0) (Nat.le_refl _) rfl (FU_big (by omega)) CtX.rf (by rw [wI_s]; rfl)
  refine ⟨u, a1, (CtX.i (Or.inr rfl)).tr a2, ?_, ?_⟩
  · rw [a3, Nat.zero_add]; rfl
  · rw [a4]
    unfold fstI fstS fstTo
    rw [smP_rf, if_pos rfl, if_pos rfl, fstI_e]
