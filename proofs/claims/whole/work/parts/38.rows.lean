/-! ===== rows of moves counted ===== -/
def sumL (g : Nat → Nat) : List Nat → Nat
  | [] => 0
  | a :: l => g a + sumL g l
def rwN (N : Nat) (K : Kd) : Nat → Ps → Nat
  | 0, _ => 1
  | k + 1, P => sumL (fun c => rwN N K k (mkP P c)) (movL N K P)
theorem sumL_one : ∀ l : List Nat, sumL (fun _ => 1) l = l.length
  | [] => rfl
  | a :: l => by unfold sumL; rw [sumL_one l, List.length_cons]; omega
theorem rw_one {N : Nat} {K : Kd} {P : Ps} : rwN N K 1 P = (movL N K P).length := sumL_one _
theorem mov_len {N : Nat} {K : Kd} {P : Ps} (h1 : N ≤ 7) (h5 : 5 ≤ N) (hm : P.2.2 < 2) : (movL N K P).length ≤ 27 * (N * N) := Nat.le_trans (List.length_filter_le _ _) (tri_len h1 h5 hm)
theorem x_listed {N sg j c : Nat} {T : List Nat} {w : Wd} (h7 : N ≤ 7) (hw : w.1 27 2 = nI (27 * (N * N))) (hL : LIn (sg * (27 * (N * N))) T w) (hs : sg ≤ 9) (hT : T.length ≤ 27 * (N * N)) (hj : T[j]? = some c) : f_X5_listed N (nI sg) (nI j) w = some (nI c, w) := by
  have hNN := NN_le h7
  have hjl : j < T.length := (List.getElem?_eq_some_iff.mp hj).1
  have b2 : (sg + 1) * (27 * (N * N)) ≤ 10 * (27 * (N * N)) := Nat.mul_le_mul_right _ (by omega)
  have b3 : (sg + 1) * (27 * (N * N)) = sg * (27 * (N * N)) + 27 * (N * N) := Nat.succ_mul _ _
  unfold f_X5_listed
  rw [hw, pk_mul, nI_add, inb_nI (show sg * (27 * (N * N)) + j < 270 * (N * N) by omega) (by omega), if_pos rfl, nI_clamp (by omega), hL j c hj]
theorem LIn.fr {N lo hi a : Nat} {T : List Nat} {w w' : Wd} (h : LIn a T w) (u : FrX N lo hi w w') (h1 : 27 * (N * N) ≤ a) (h2 : a + T.length ≤ lo) : LIn a T w' := fun j c hj => by
  have hjl : j < T.length := (List.getElem?_eq_some_iff.mp hj).1
  rw [u.2.2.2 _ (by omega) (by omega)]
  exact h j c hj
theorem x_countRows {N : Nat} {K : Kd} : ∀ (k : Nat) (P : Ps) (w : Wd) (sg most n : Nat), 1 ≤ k → k ≤ n → XA N K P w → VP N K P → 1 ≤ sg → sg + k ≤ 10 → most ≤ 20000 →
    ∃ r w', g_X5_countRows N n (nI k) (nI sg) (nI most) w = some (nI r, w') ∧ FrX N (sg * (27 * (N * N))) (10 * (27 * (N * N))) w w' ∧ XA N K P w' ∧ r ≤ most + 1323 ∧ (rwN N K k P ≤ most → r = rwN N K k P) ∧ (most < rwN N K k P → most < r) := by
  intro k
  induction k with
  | zero => intro P w sg most n h; omega
  | succ k ih =>
    intro P w sg most n _ hn hA hV hsg hsk hmost
    obtain ⟨n, rfl⟩ : ∃ m, n = m + 1 := ⟨n - 1, by omega⟩
    have hNN := NN_le hA.n7
    have hlen := mov_len (K := K) hA.n7 hA.n5 hV.mv
    have b1 : 27 * (N * N) ≤ sg * (27 * (N * N)) := Nat.le_mul_of_pos_left _ hsg
    have b2 : (sg + 1) * (27 * (N * N)) ≤ 10 * (27 * (N * N)) := Nat.mul_le_mul_right _ (by omega)
    have b3 : (sg + 1) * (27 * (N * N)) = sg * (27 * (N * N)) + 27 * (N * N) := Nat.succ_mul _ _
    obtain ⟨w1, a1, a2, a3, a4⟩ := x_listLawful (sg := sg) hA hV hsg (by omega)
    have a2' := a2.mono (Nat.le_refl (sg * (27 * (N * N)))) b2
    show ∃ r w', f_X5_countRows N (g_X5_countRows N n) (nI (k + 1)) (nI sg) (nI most) w = some (nI r, w') ∧ _
    unfold f_X5_countRows f_X5_countRows_20
    rw [a1, bd_s]
    rcases Nat.eq_zero_or_pos k with rfl | hk
    · rw [if_pos (show nI (0 + 1) ≤ (1 : Int32) by decide)]
      refine ⟨_, w1, rfl, a2', a3, by omega, fun _ => rw_one.symm, fun h => ?_⟩
      rw [rw_one] at h
      exact h
    · rw [if_neg (show ¬ nI (k + 1) ≤ (1 : Int32) from nI_ge (b := k + 1) (a := 1) (by omega) (by omega)), if_pos (show nI sg + (1 : Int32) < (10 : Int32) from by rw [nI_1]; exact nI_lt (b := 10) (by omega) (by decide))]
      have key : ∀ (D : List Nat) (i S cnt m : Nat) (u : Wd), (movL N K P).drop i = D → i + D.length = (movL N K P).length → D.length < m → FrX N (sg * (27 * (N * N))) (10 * (27 * (N * N))) w u → XA N K P u → LIn (sg * (27 * (N * N))) ((movL N K P).map (tc P.1)) u → cnt ≤ most + 1323 → (S ≤ most → cnt = S) → (most < S → most < cnt) →
          ∃ r w', l_X5_countRows_29 N (g_X5_countRows N n) (f_X5_countRows_94 N (g_X5_countRows N n)) m (nI (k + 1)) (nI sg) (nI most) (nI (movL N K P).length) (nI cnt) (nI i) u = some (nI r, w') ∧ FrX N (sg * (27 * (N * N))) (10 * (27 * (N * N))) w w' ∧ XA N K P w' ∧ r ≤ most + 1323 ∧ (S + sumL (fun c => rwN N K k (mkP P c)) D ≤ most → r = S + sumL (fun c => rwN N K k (mkP P c)) D) ∧ (most < S + sumL (fun c => rwN N K k (mkP P c)) D → most < r) := by
        intro D
        induction D with
        | nil =>
          intro i S cnt m u hD hi hm hu hAu hL hc h1 h2
          obtain ⟨m, rfl⟩ : ∃ q, m = q + 1 := ⟨m - 1, by omega⟩
          rw [List.length_nil] at hi
          refine ⟨cnt, u, ?_, hu, hAu, hc, by unfold sumL; exact h1, by unfold sumL; exact h2⟩
          show b_X5_countRows_29 N (g_X5_countRows N n) (l_X5_countRows_29 N (g_X5_countRows N n) (f_X5_countRows_94 N (g_X5_countRows N n)) m) (f_X5_countRows_94 N (g_X5_countRows N n)) (nI (k + 1)) (nI sg) (nI most) (nI (movL N K P).length) (nI cnt) (nI i) u = _
          unfold b_X5_countRows_29 f_X5_countRows_94
          rw [if_pos (nI_le (by omega) (by omega))]
        | cons c D ihD =>
          intro i S cnt m u hD hi hm hu hAu hL hc h1 h2
          rw [List.length_cons] at hi hm
          obtain ⟨m, rfl⟩ : ∃ q, m = q + 1 := ⟨m - 1, by omega⟩
          have hil : i < (movL N K P).length := by omega
          have hg : (movL N K P)[i]? = some c := by
            have := congrArg List.head? hD
            rw [List.head?_drop] at this
            exact this
          have hD2 : (movL N K P).drop (i + 1) = D := by
            have := congrArg List.tail hD
            rw [List.tail_drop] at this
            exact this
          have hcm : c ∈ movL N K P := List.mem_of_getElem? hg
          have e1 : l_X5_countRows_29 N (g_X5_countRows N n) (f_X5_countRows_94 N (g_X5_countRows N n)) (m + 1) (nI (k + 1)) (nI sg) (nI most) (nI (movL N K P).length) (nI cnt) (nI i) u = b_X5_countRows_29 N (g_X5_countRows N n) (l_X5_countRows_29 N (g_X5_countRows N n) (f_X5_countRows_94 N (g_X5_countRows N n)) m) (f_X5_countRows_94 N (g_X5_countRows N n)) (nI (k + 1)) (nI sg) (nI most) (nI (movL N K P).length) (nI cnt) (nI i) u := rfl
          rw [e1]
          unfold b_X5_countRows_29
          rw [if_neg (nI_ge hil (by omega))]
          by_cases hq : most < cnt
          · rw [if_pos (nI_lt hq (by omega))]
            refine ⟨cnt, u, rfl, hu, hAu, hc, fun h => ?_, fun _ => hq⟩
            have := h1 (by omega)
            omega
          · have hS : ¬ most < S := fun z => hq (h2 z)
            have hcS := h1 (by omega)
            rw [if_neg (nI_nlt (by omega) (by omega)), x_listed hA.n7 hAu.2.2.2.2.2 hL (by omega) (by rw [List.length_map]; exact hlen) (by rw [List.getElem?_map, hg]; rfl), bd_s]
            obtain ⟨u1, p1, p2, p3⟩ := x_app hAu hV (mov_tri hcm)
            obtain ⟨r, u2, q1, q2, q3, q4, q5, q6⟩ := ih (mkP P c) u1 (sg + 1) (most - cnt) n hk (by omega) p3 (mov_VP hA.n7 hA.n5 hV hcm) (by omega) (by omega) (by omega)
            obtain ⟨u3, s1, s2, s3⟩ := x_rev q3 hV (mov_tri hcm)
            rw [p1, bd_s, nI_pred, nI_1, pk_sub (by omega), q1, bd_s, lt_e, nI_add, s1, bd_s, nI_1]
            have f1 : FrX N ((sg + 1) * (27 * (N * N))) (10 * (27 * (N * N))) u u3 := (p2.fr.tr q2).tr s2.fr
            obtain ⟨r', w', t1, t2, t3, t4, t5, t6⟩ := ihD (i + 1) (S + rwN N K k (mkP P c)) (cnt + r) m u3 hD2 (by omega) (by omega) (hu.tr (f1.mono (by omega) (Nat.le_refl _))) s3 (hL.fr f1 b1 (by rw [List.length_map]; omega)) (by omega) (fun h => by have := q5 (by omega); omega) (fun h => by have := q6 (by omega); omega)
            refine ⟨r', w', t1, t2, t3, t4, ?_, ?_⟩
            · unfold sumL
              intro h
              have := t5 (by omega)
              omega
            · unfold sumL
              intro h
              exact t6 (by omega)
      obtain ⟨r, w', t1, t2, t3, t4, t5, t6⟩ := key (movL N K P) 0 0 0 FU w1 rfl (by omega) (FU_big (by omega)) a2' a3 a4 (by omega) (fun _ => rfl) (fun h => by omega)
      refine ⟨r, w', t1, t2, t3, t4, ?_, ?_⟩
      · unfold rwN
        intro h
        have := t5 (by omega)
        omega
      · unfold rwN
        intro h
        exact t6 (by omega)
/-- what rows() answers -/
def rowsV (N : Nat) (K : Kd) (k : Nat) (P : Ps) : Int32 := if rwN N K k P ≤ 20000 then nI (rwN N K k P) else -5
theorem x_rows {N k : Nat} {K : Kd} {P : Ps} {w : Wd} (hA : XA N K P w) (hV : VP N K P) (h1 : 1 ≤ k) (h3 : k ≤ 3) (hst : w.1 0 10 ≠ 0) : ∃ w', f_X9_rows N (nI k) w = some (rowsV N K k P, w') ∧ FrX N (2 * (27 * (N * N))) (10 * (27 * (N * N))) w w' ∧ XA N K P w' := by
  obtain ⟨r, w', t1, t2, t3, t4, t5, t6⟩ := x_countRows k P w 2 20000 12 h1 (by omega) hA hV (by omega) (by omega) (by omega)
  have t1' : f_X5_countRowsR N (nI k) (2 : Int32) (20000 : Int32) w = some (nI r, w') := t1
  unfold f_X9_rows f_X9_rows_49 rowsV
  rw [if_neg (show ¬ nI k < (1 : Int32) from nI_nlt (b := 1) h1 (by omega)), if_pos (show nI k ≤ (3 : Int32) from nI_le (b := 3) h3 (by omega)), if_neg hst, t1', bd_s]
  refine ⟨w', ?_, t2, t3⟩
  by_cases h : rwN N K k P ≤ 20000
  · rw [if_pos h, t5 h, if_pos (show nI (rwN N K k P) ≤ (20000 : Int32) from nI_le (b := 20000) h (by omega))]
  · rw [if_neg h, if_neg (show ¬ nI r ≤ (20000 : Int32) from nI_ge (a := 20000) (t6 (by omega)) (by omega))]
/-! the reference -/
theorem MP.hd {N lv : Nat} {K : Kd} {P : Ps} {w : Wd} (h : VP N K P) (_ : MP N lv P w) : ∀ j, j < 16 → P.2.1 j + 2 < 1000 := fun j hj => by
  have := h.hd hj
  omega
theorem m_fM {N lv : Nat} {K : Kd} {P : Ps} {w : Wd} (hl : lv + 2 < 16) (hK : MK N K w) (hM : MM K w) (hP : MP N lv P w) (hV : VP N K P) :
    ∃ w', f_X10_findMoves (nI lv) w = some ((), w') ∧ UpM lv lv w w' ∧ MIn lv (movL N K P) w' :=
  m_findMoves hl hK hM hP (MP.hd hV hP) (TL_ok hK.2.1 hK.2.2.1)
theorem m_mM {N lv j c : Nat} {K : Kd} {P : Ps} {w : Wd} (hl : lv + 1 < 16) (hK : MK N K w) (hP : MP N lv P w) (hV : VP N K P) (hM : MIn lv (movL N K P) w) (hj : (movL N K P)[j]? = some c) :
    ∃ w', f_X10_makeMove (nI lv) (nI j) w = some ((), w') ∧ UpM lv 16 w w' ∧ MP N (lv + 1) (mkP P c) w' :=
  m_makeMove hl hK hP (fun j hj => by have := hV.hd hj; omega) (TL_ok hK.2.1 hK.2.2.1) hM hj
theorem mov_2000 {N : Nat} {K : Kd} {P : Ps} (h1 : N ≤ 7) (h5 : 5 ≤ N) (hm : P.2.2 < 2) : (movL N K P).length ≤ 2000 := by
  have := mov_len (K := K) h1 h5 hm
  have := NN_le h1
  omega
theorem drop_c {l D : List Nat} {i c : Nat} (h : l.drop i = c :: D) : l[i]? = some c ∧ l.drop (i + 1) = D := by
  constructor
  · have := congrArg List.head? h
    rw [List.head?_drop] at this
    exact this
  · have := congrArg List.tail h
    rw [List.tail_drop] at this
    exact this
theorem m_r101 {K154 : Int32 → Int32 → Int32 → Wd → Option (Int32 × Wd)} {N : Nat} {K : Kd} {Q : Ps} {v3 : Int32} (hV : VP N K Q) :
    ∀ (D : List Nat) (j S n : Nat) (w : Wd), (movL N K Q).drop j = D → j + D.length = (movL N K Q).length → D.length < n → S ≤ 20000 → MK N K w → MM K w → MP N 1 Q w → MIn 1 (movL N K Q) w →
      ∃ w', l_X10_rows_101 f_X10_rows_145 K154 n (3 : Int32) (nI S) v3 (nI j) w = (if S + sumL (fun c => rwN N K 1 (mkP Q c)) D ≤ 20000 then K154 (3 : Int32) (nI (S + sumL (fun c => rwN N K 1 (mkP Q c)) D)) v3 w' else f_X10_rows_145 w') ∧ UpM 1 2 w w' := by
  intro D
  induction D with
  | nil =>
    intro j S n w hD hj hn hS hK hM hP hI
    obtain ⟨n, rfl⟩ : ∃ q, n = q + 1 := ⟨n - 1, by omega⟩
    have hlen := mov_2000 (K := K) hK.2.1 hK.2.2.1 hV.mv
    rw [List.length_nil] at hj
    refine ⟨w, ?_, UpM.rf⟩
    show b_X10_rows_101 (l_X10_rows_101 f_X10_rows_145 K154 n) f_X10_rows_145 K154 (3 : Int32) (nI S) v3 (nI j) w = _
    unfold b_X10_rows_101 sumL
    rw [if_pos (show inb (1 : Int32) 16 = true by decide), show Int32.toNatClampNeg (1 : Int32) = 1 from by decide, hI.1, if_pos (nI_le (by omega) (by omega)), if_pos (by omega)]
    rfl
  | cons c D ih =>
    intro j S n w hD hj hn hS hK hM hP hI
    rw [List.length_cons] at hj hn
    obtain ⟨n, rfl⟩ : ∃ q, n = q + 1 := ⟨n - 1, by omega⟩
    have hlen := mov_2000 (K := K) hK.2.1 hK.2.2.1 hV.mv
    obtain ⟨hg, hD2⟩ := drop_c hD
    have hcm : c ∈ movL N K Q := List.mem_of_getElem? hg
    have hV2 := mov_VP hK.2.1 hK.2.2.1 hV hcm
    obtain ⟨w1, a1, a2, a3⟩ := m_mM (lv := 1) (by omega) hK hP hV hI hg
    obtain ⟨w2, b1, b2, b3⟩ := m_fM (lv := 2) (by omega) (hK.up a2) (hM.up a2) a3 hV2
    have hlen2 := mov_2000 (K := K) hK.2.1 hK.2.2.1 hV2.mv
    have a1' : f_X10_makeMove (1 : Int32) (nI j) w = some ((), w1) := a1
    have b1' : f_X10_findMoves (2 : Int32) w1 = some ((), w2) := b1
    have u2 : UpM 1 2 w w2 := (a2.lo (by omega) (by omega)).tr (b2.lo (by omega) (by omega))
    have e1 : l_X10_rows_101 f_X10_rows_145 K154 (n + 1) (3 : Int32) (nI S) v3 (nI j) w = b_X10_rows_101 (l_X10_rows_101 f_X10_rows_145 K154 n) f_X10_rows_145 K154 (3 : Int32) (nI S) v3 (nI j) w := rfl
    rw [e1]
    unfold b_X10_rows_101 sumL
    rw [if_pos (show inb (1 : Int32) 16 = true by decide), show Int32.toNatClampNeg (1 : Int32) = 1 from by decide, hI.1, if_neg (nI_ge (by omega) (by omega)), if_pos rfl, a1', bd_s, b1', bd_s, if_pos (show inb (2 : Int32) 16 = true by decide), lt_e, show Int32.toNatClampNeg (2 : Int32) = 2 from by decide, b3.1, nI_add, nI_1, ← rw_one (N := N) (K := K) (P := mkP Q c)]
    have hr1 : rwN N K 1 (mkP Q c) ≤ 2000 := by rw [rw_one]; exact hlen2
    by_cases hq : S + rwN N K 1 (mkP Q c) ≤ 20000
    · rw [if_pos (show nI (S + rwN N K 1 (mkP Q c)) ≤ (20000 : Int32) from nI_le (b := 20000) hq (by omega))]
      obtain ⟨w3, c1, c2⟩ := ih (j + 1) (S + rwN N K 1 (mkP Q c)) n w2 hD2 (by omega) (by omega) hq (hK.up u2) (hM.up u2) (hP.up (Nat.le_refl _) u2) (hI.up (by omega) hlen u2)
      refine ⟨w3, ?_, u2.tr c2⟩
      rw [c1, Nat.add_assoc]
    · rw [if_neg (show ¬ nI (S + rwN N K 1 (mkP Q c)) ≤ (20000 : Int32) from nI_ge (a := 20000) (by omega) (by omega))]
      refine ⟨w2, ?_, u2⟩
      rw [if_neg (by omega)]
theorem m_r63 {N k : Nat} {K : Kd} {P : Ps} (hV : VP N K P) (hk : k = 1 ∨ k = 2) :
    ∀ (D : List Nat) (j S n : Nat) (w : Wd), (movL N K P).drop j = D → j + D.length = (movL N K P).length → D.length < n → S ≤ 20000 → MK N K w → MM K w → MP N 0 P w → MIn 0 (movL N K P) w →
      ∃ w', l_X10_rows_63 f_X10_rows_145 f_X10_rows_161 f_X10_rows_170 n (nI (k + 1)) (nI S) (nI j) w = some (if S + sumL (fun c => rwN N K k (mkP P c)) D ≤ 20000 then nI (S + sumL (fun c => rwN N K k (mkP P c)) D) else -5, w') ∧ UpM 0 1 w w' := by
  intro D
  induction D with
  | nil =>
    intro j S n w hD hj hn hS hK hM hP hI
    obtain ⟨n, rfl⟩ : ∃ q, n = q + 1 := ⟨n - 1, by omega⟩
    have hlen := mov_2000 (K := K) hK.2.1 hK.2.2.1 hV.mv
    rw [List.length_nil] at hj
    refine ⟨w, ?_, UpM.rf⟩
    show b_X10_rows_63 (l_X10_rows_63 f_X10_rows_145 f_X10_rows_161 f_X10_rows_170 n) f_X10_rows_145 f_X10_rows_161 f_X10_rows_170 (nI (k + 1)) (nI S) (nI j) w = _
    unfold b_X10_rows_63 sumL f_X10_rows_170
    rw [if_pos (show inb (0 : Int32) 16 = true by decide), show Int32.toNatClampNeg (0 : Int32) = 0 from by decide, hI.1, if_pos (nI_le (by omega) (by omega)), if_pos (by omega)]
    rfl
  | cons c D ih =>
    intro j S n w hD hj hn hS hK hM hP hI
    rw [List.length_cons] at hj hn
    obtain ⟨n, rfl⟩ : ∃ q, n = q + 1 := ⟨n - 1, by omega⟩
    have hlen := mov_2000 (K := K) hK.2.1 hK.2.2.1 hV.mv
    obtain ⟨hg, hD2⟩ := drop_c hD
    have hcm : c ∈ movL N K P := List.mem_of_getElem? hg
    have hV2 := mov_VP hK.2.1 hK.2.2.1 hV hcm
    obtain ⟨w1, a1, a2, a3⟩ := m_mM (lv := 0) (by omega) hK hP hV hI hg
    obtain ⟨w2, b1, b2, b3⟩ := m_fM (lv := 1) (by omega) (hK.up a2) (hM.up a2) a3 hV2
    have hlen2 := mov_2000 (K := K) hK.2.1 hK.2.2.1 hV2.mv
    have a1' : f_X10_makeMove (0 : Int32) (nI j) w = some ((), w1) := a1
    have b1' : f_X10_findMoves (1 : Int32) w1 = some ((), w2) := b1
    have u2 : UpM 0 1 w w2 := (a2.lo (by omega) (by omega)).tr (b2.lo (by omega) (by omega))
    have hP2 : MP N 1 (mkP P c) w2 := a3.up (Nat.le_refl _) b2
    have e1 : l_X10_rows_63 f_X10_rows_145 f_X10_rows_161 f_X10_rows_170 (n + 1) (nI (k + 1)) (nI S) (nI j) w = b_X10_rows_63 (l_X10_rows_63 f_X10_rows_145 f_X10_rows_161 f_X10_rows_170 n) f_X10_rows_145 f_X10_rows_161 f_X10_rows_170 (nI (k + 1)) (nI S) (nI j) w := rfl
    rw [e1]
    unfold b_X10_rows_63 sumL f_X10_rows_98
    rw [if_pos (show inb (0 : Int32) 16 = true by decide), show Int32.toNatClampNeg (0 : Int32) = 0 from by decide, hI.1, if_neg (nI_ge (by omega) (by omega)), a1', bd_s, b1', bd_s]
    have next : ∀ (T : Nat) (w3 : Wd), T ≤ 22000 → UpM 0 1 w w3 → ∃ w', f_X10_rows_154 (l_X10_rows_63 f_X10_rows_145 f_X10_rows_161 f_X10_rows_170 n) f_X10_rows_145 f_X10_rows_161 f_X10_rows_170 (nI (k + 1)) (nI T) (nI j) w3 = some (if T + sumL (fun c => rwN N K k (mkP P c)) D ≤ 20000 then nI (T + sumL (fun c => rwN N K k (mkP P c)) D) else -5, w') ∧ UpM 0 1 w w' := by
      intro T w3 hT u3
      unfold f_X10_rows_154 f_X10_rows_161
      by_cases hq : T ≤ 20000
      · rw [if_pos (show nI T ≤ (20000 : Int32) from nI_le (b := 20000) hq (by omega)), nI_1]
        obtain ⟨w4, c1, c2⟩ := ih (j + 1) T n w3 hD2 (by omega) (by omega) hq (hK.up u3) (hM.up u3) (hP.up (Nat.le_refl _) u3) (hI.up (by omega) hlen u3)
        exact ⟨w4, c1, u3.tr c2⟩
      · rw [if_neg (show ¬ nI T ≤ (20000 : Int32) from nI_ge (a := 20000) (by omega) (by omega)), if_neg (by omega)]
        exact ⟨w3, rfl, u3⟩
    rcases hk with rfl | rfl
    · rw [if_pos (show nI (1 + 1) = (2 : Int32) by decide), if_pos (show inb (1 : Int32) 16 = true by decide), lt_e, show Int32.toNatClampNeg (1 : Int32) = 1 from by decide, b3.1, nI_add, ← rw_one (N := N) (K := K) (P := mkP P c)]
      have hr1 : rwN N K 1 (mkP P c) ≤ 2000 := by rw [rw_one]; exact hlen2
      obtain ⟨w3, c1, c2⟩ := next (S + rwN N K 1 (mkP P c)) w2 (by omega) u2
      refine ⟨w3, ?_, c2⟩
      have e2 : l_X10_rows_101 f_X10_rows_145 (f_X10_rows_154 (l_X10_rows_63 f_X10_rows_145 f_X10_rows_161 f_X10_rows_170 n) f_X10_rows_145 f_X10_rows_161 f_X10_rows_170) FU (nI (1 + 1)) (nI (S + rwN N K 1 (mkP P c))) (nI j) (0 : Int32) w2 = b_X10_rows_101 (l_X10_rows_101 f_X10_rows_145 (f_X10_rows_154 (l_X10_rows_63 f_X10_rows_145 f_X10_rows_161 f_X10_rows_170 n) f_X10_rows_145 f_X10_rows_161 f_X10_rows_170) 99999) f_X10_rows_145 (f_X10_rows_154 (l_X10_rows_63 f_X10_rows_145 f_X10_rows_161 f_X10_rows_170 n) f_X10_rows_145 f_X10_rows_161 f_X10_rows_170) (nI (1 + 1)) (nI (S + rwN N K 1 (mkP P c))) (nI j) (0 : Int32) w2 := rfl
      rw [e2]
      unfold b_X10_rows_101
      rw [if_pos (show inb (1 : Int32) 16 = true by decide), if_neg (show ¬ nI (1 + 1) = (3 : Int32) by decide), c1, Nat.add_assoc]
      split <;> rfl
    · rw [if_neg (show ¬ nI (2 + 1) = (2 : Int32) by decide)]
      obtain ⟨w3, c1, c2⟩ := m_r101 (K154 := f_X10_rows_154 (l_X10_rows_63 f_X10_rows_145 f_X10_rows_161 f_X10_rows_170 n) f_X10_rows_145 f_X10_rows_161 f_X10_rows_170) (v3 := nI j) hV2 (movL N K (mkP P c)) 0 S FU w2 rfl (by omega) (FU_big (by omega)) hS (hK.up u2) (hM.up u2) hP2 b3
      have c1' : l_X10_rows_101 f_X10_rows_145 (f_X10_rows_154 (l_X10_rows_63 f_X10_rows_145 f_X10_rows_161 f_X10_rows_170 n) f_X10_rows_145 f_X10_rows_161 f_X10_rows_170) FU (nI (2 + 1)) (nI S) (nI j) (0 : Int32) w2 = _ := c1
      have e3 : sumL (fun d => rwN N K 1 (mkP (mkP P c) d)) (movL N K (mkP P c)) = rwN N K 2 (mkP P c) := rfl
      rw [e3] at c1'
      rw [c1']
      have u3 : UpM 0 1 w w3 := u2.tr (c2.lo (by omega) (by omega))
      by_cases hq : S + rwN N K 2 (mkP P c) ≤ 20000
      · rw [if_pos hq]
        obtain ⟨w4, d1, d2⟩ := next (S + rwN N K 2 (mkP P c)) w3 (by omega) u3
        refine ⟨w4, ?_, d2⟩
        have d1' : f_X10_rows_154 (l_X10_rows_63 f_X10_rows_145 f_X10_rows_161 f_X10_rows_170 n) f_X10_rows_145 f_X10_rows_161 f_X10_rows_170 (3 : Int32) (nI (S + rwN N K 2 (mkP P c))) (nI j) w3 = _ := d1
        rw [d1', Nat.add_assoc]
      · rw [if_neg hq, if_neg (by omega)]
        exact ⟨w3, rfl, u3⟩
theorem m_rows {N k : Nat} {K : Kd} {P : Ps} {w : Wd} (hK : MK N K w) (hM : MM K w) (hP : MP N 0 P w) (hV : VP N K P) (h1 : 1 ≤ k) (h3 : k ≤ 3) (hst : w.1 50 25 ≠ 0) : ∃ w', f_X10_rows (nI k) w = some (rowsV N K k P, w') ∧ UpM 0 0 w w' := by
  obtain ⟨w1, a1, a2, a3⟩ := m_fM (lv := 0) (by omega) hK hM hP hV
  have a1' : f_X10_findMoves (0 : Int32) w = some ((), w1) := a1
  have hlen := mov_2000 (K := K) hK.2.1 hK.2.2.1 hV.mv
  have e0 := m_in1l (nI k) 1 3 (by omega) (by omega) w
  have e0' : f_X10_in (Int32.toInt64 (nI k)) (1 : Int64) (3 : Int64) w = some (1, w) := by
    refine Eq.trans e0 ?_
    rw [if_pos ⟨nI_le h1 (by omega), nI_le h3 (by omega)⟩]
  unfold f_X10_rows rowsV
  rw [e0', bd_s, if_neg (by decide), if_neg hst, a1', bd_s]
  rcases (show k = 1 ∨ k = 2 ∨ k = 3 by omega) with rfl | hk2
  · unfold f_X10_rows_60
    rw [if_pos (show nI 1 = (1 : Int32) from rfl), if_pos (show inb (0 : Int32) 16 = true by decide), show Int32.toNatClampNeg (0 : Int32) = 0 from by decide, a3.1, if_pos (show nI (movL N K P).length ≤ (20000 : Int32) from nI_le (b := 20000) (by omega) (by omega)), if_pos (show inb (0 : Int32) 16 = true by decide), rw_one, if_pos (show (movL N K P).length ≤ 20000 by omega)]
    exact ⟨w1, rfl, a2⟩
  · obtain ⟨w2, b1, b2⟩ := m_r63 (k := k - 1) hV (by omega) (movL N K P) 0 0 FU w1 rfl (by omega) (FU_big (by omega)) (by omega) (hK.up a2) (hM.up a2) (hP.up (Nat.le_refl _) a2) a3
    rw [show k - 1 + 1 = k by omega] at b1
    have e3 : sumL (fun d => rwN N K (k - 1) (mkP P d)) (movL N K P) = rwN N K k P := by
      rcases hk2 with rfl | rfl <;> rfl
    rw [Nat.zero_add, e3] at b1
    rw [if_neg (fun z => by have := (nI_inj (a := k) (b := 1) (by omega) (by omega)).mp z; omega)]
    exact ⟨w2, b1, a2.tr (b2.lo (by omega) (by omega))⟩
