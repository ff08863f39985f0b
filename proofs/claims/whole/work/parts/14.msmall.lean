/-! ===== the reference: attacked, check, zone, going on ===== -/
theorem loop_any {α : Type} (L : Nat → Int32 → Wd → Option α) (Kt Kf : Wd → Option α) (e : Nat) (p : Nat → Bool) (I : Wd → Prop)
    (hx : ∀ n w, I w → L (n + 1) (nI e) w = Kf w) (hs : ∀ n i w, i < e → I w → ∃ w', I w' ∧ L (n + 1) (nI i) w = if p i = true then Kt w' else L n (nI (i + 1)) w') :
    ∀ (m i : Nat) (w : Wd), i + m = e → I w → ∀ n, m < n → ∃ w', I w' ∧ L n (nI i) w = if (List.range' i m).any p = true then Kt w' else Kf w' := by
  intro m
  induction m with
  | zero =>
    intro i w hi hI n hn
    obtain ⟨n, rfl⟩ : ∃ k, n = k + 1 := ⟨n - 1, by omega⟩
    have : i = e := by omega
    subst this
    exact ⟨w, hI, by rw [hx n w hI]; rfl⟩
  | succ m ih =>
    intro i w hi hI n hn
    obtain ⟨n, rfl⟩ : ∃ k, n = k + 1 := ⟨n - 1, by omega⟩
    obtain ⟨w1, h1, h2⟩ := hs n i w (by omega) hI
    rw [List.range'_succ, List.any_cons]
    by_cases q : p i = true
    · rw [if_pos q] at h2
      exact ⟨w1, h1, by rw [h2, q]; rfl⟩
    · rw [if_neg q] at h2
      obtain ⟨w', a1, a2⟩ := ih (i + 1) w1 (by omega) h1 n (by omega)
      refine ⟨w', a1, ?_⟩
      rw [h2, a2, (by simpa using q : p i = false), Bool.false_or]
theorem z0 : nI 0 = (0 : Int32) := rfl
def atk (N : Nat) (K : Kd) (bo : Nat → Nat) (s f : Nat) : Bool := (List.range (N * N)).any fun q => decide (bo q ≠ 0) && (decide (sd (bo q) = s) && decide (f ∈ reachL N K bo (bo q) q))
def b2i (b : Bool) : Int32 := if b = true then 1 else 0
theorem b2i_zb (b : Bool) : zb (b2i b) = true := by cases b <;> rfl
theorem nI_sq (N : Nat) : nI N * nI N = nI (N * N) := pk_mul N N
theorem nI_inj {a b : Nat} (ha : a < 2 ^ 31) (hb : b < 2 ^ 31) : nI a = nI b ↔ a = b := nI_eq ha hb
theorem m_isAttacked {N lv s f : Nat} {K : Kd} {bo : Nat → Nat} {w : Wd} (hs : s < 2) (hf : f < N * N) (hK : MK N K w) (hB : MB N lv bo w) :
    ∃ w', SameM w w' ∧ f_X10_isAttacked (nI lv) (nI s) (nI f) w = some (b2i (atk N K bo s f), w') := by
  have hNN := NN_le hK.2.1
  have hlv := hB.1
  have key := loop_any (fun n q w => l_X10_isAttacked_3 f_X10_isAttacked_63 f_X10_isAttacked_71 n (nI lv) (nI s) (nI f) q w) f_X10_isAttacked_63 f_X10_isAttacked_71 (N * N) (fun q => decide (bo q ≠ 0) && (decide (sd (bo q) = s) && decide (f ∈ reachL N K bo (bo q) q))) (fun u => SameM w u) ?_ ?_ (N * N) 0 w (by omega) SameM.rf FU (FU_big (by omega))
  · obtain ⟨w', h1, h2⟩ := key
    refine ⟨w', h1, ?_⟩
    unfold f_X10_isAttacked
    refine Eq.trans h2 ?_
    unfold atk
    rw [← List.range_eq_range']
    cases ((List.range (N * N)).any fun q => decide (bo q ≠ 0) && (decide (sd (bo q) = s) && decide (f ∈ reachL N K bo (bo q) q))) <;> rfl
  · intro n u hu
    have hKu := hK.same hu
    show b_X10_isAttacked_3 (l_X10_isAttacked_3 f_X10_isAttacked_63 f_X10_isAttacked_71 n) f_X10_isAttacked_63 f_X10_isAttacked_71 (nI lv) (nI s) (nI f) (nI (N * N)) u = _
    unfold b_X10_isAttacked_3
    rw [hKu.1, nI_sq, if_pos (nI_le (Nat.le_refl _) (by omega))]
  · intro n q u hq hu
    have hKu := hK.same hu
    have hBu := hB.same hu
    have hb := hBu.2 q hq
    have e1 : l_X10_isAttacked_3 f_X10_isAttacked_63 f_X10_isAttacked_71 (n + 1) (nI lv) (nI s) (nI f) (nI q) u = b_X10_isAttacked_3 (l_X10_isAttacked_3 f_X10_isAttacked_63 f_X10_isAttacked_71 n) f_X10_isAttacked_63 f_X10_isAttacked_71 (nI lv) (nI s) (nI f) (nI q) u := rfl
    show ∃ w', SameM w w' ∧ l_X10_isAttacked_3 f_X10_isAttacked_63 f_X10_isAttacked_71 (n + 1) (nI lv) (nI s) (nI f) (nI q) u = _
    rw [e1]
    unfold b_X10_isAttacked_3 f_X10_isAttacked_65
    rw [hKu.1, nI_sq, if_neg (nI_ge hq (by omega)), n49, inb_nI (by omega) (by omega), if_pos rfl, lt_e, nI_clamp (by omega), hb.1, nI_1]
    by_cases q0 : bo q = 0
    · refine ⟨u, hu, ?_⟩
      rw [q0, if_pos z0]
      simp
    · have hb0 : 0 < bo q := by omega
      rw [if_neg (nI_ne0 hb0 (by omega)), m_sideOf hb0 hb.2, bd_s]
      have hsd := (man_chk (bo q) (by omega) hb0).2.2.2.2.2.1
      by_cases q1 : sd (bo q) = s
      · rw [if_pos (by rw [q1])]
        obtain ⟨u', r1, r2, r3⟩ := m_reaches (lv := lv) hb0 hb.2 hq hKu hBu
        refine ⟨u', hu.tr r2, ?_⟩
        rw [r1, bd_s, inb_nI (by omega) (by omega), if_pos rfl, nI_clamp (by omega), r3.2.2.1 f (by omega)]
        by_cases q2 : f ∈ reachL N K bo (bo q) q
        · rw [if_pos q2, if_neg (by decide)]
          simp [q0, q1, q2]
        · rw [if_neg q2, if_pos rfl]
          simp [q2]
      · refine ⟨u, hu, ?_⟩
        rw [if_neg (fun z => q1 ((nI_inj (by omega) (by omega)).mp z))]
        simp [q1]
/-- is a side in check: its first king, by fields -/
def chk (N : Nat) (K : Kd) (bo : Nat → Nat) (s : Nat) : Bool := match (List.range (N * N)).find? (fun q => decide (bo q ≠ 0) && (decide (kn (bo q) = 0) && decide (sd (bo q) = s))) with
  | some q => atk N K bo (1 - s) q
  | none => false
theorem m_inCheck {N lv s : Nat} {K : Kd} {bo : Nat → Nat} {w : Wd} (hs : s < 2) (hK : MK N K w) (hB : MB N lv bo w) :
    ∃ w', SameM w w' ∧ f_X10_inCheck (nI lv) (nI s) w = some (b2i (chk N K bo s), w') := by
  have hNN := NN_le hK.2.1
  have hlv := hB.1
  have main : ∀ (m i n : Nat), i + m = N * N → m < n → ∃ w', SameM w w' ∧ l_X10_inCheck_2 f_X10_inCheck_50 f_X10_inCheck_66 n (nI lv) (nI s) (nI i) w = some (b2i (match (List.range' i m).find? (fun q => decide (bo q ≠ 0) && (decide (kn (bo q) = 0) && decide (sd (bo q) = s))) with
      | some q => atk N K bo (1 - s) q
      | none => false), w') := by
    intro m
    induction m with
    | zero =>
      intro i n hi hn
      obtain ⟨n, rfl⟩ : ∃ k, n = k + 1 := ⟨n - 1, by omega⟩
      have : i = N * N := by omega
      subst this
      refine ⟨w, SameM.rf, ?_⟩
      show b_X10_inCheck_2 (l_X10_inCheck_2 f_X10_inCheck_50 f_X10_inCheck_66 n) f_X10_inCheck_50 f_X10_inCheck_66 (nI lv) (nI s) (nI (N * N)) w = _
      unfold b_X10_inCheck_2
      rw [hK.1, nI_sq, if_pos (nI_le (Nat.le_refl _) (by omega))]
      rfl
    | succ m ih =>
      intro i n hi hn
      obtain ⟨n, rfl⟩ : ∃ k, n = k + 1 := ⟨n - 1, by omega⟩
      have hq : i < N * N := by omega
      have hb := hB.2 i hq
      obtain ⟨w', a1, a2⟩ := ih (i + 1) n (by omega) (by omega)
      have e1 : l_X10_inCheck_2 f_X10_inCheck_50 f_X10_inCheck_66 (n + 1) (nI lv) (nI s) (nI i) w = b_X10_inCheck_2 (l_X10_inCheck_2 f_X10_inCheck_50 f_X10_inCheck_66 n) f_X10_inCheck_50 f_X10_inCheck_66 (nI lv) (nI s) (nI i) w := rfl
      rw [e1]
      unfold b_X10_inCheck_2 f_X10_inCheck_60
      rw [hK.1, nI_sq, if_neg (nI_ge hq (by omega)), n49, inb_nI (by omega) (by omega), if_pos rfl, lt_e, nI_clamp (by omega), hb.1, nI_1, List.range'_succ, List.find?_cons]
      by_cases q0 : bo i = 0
      · rw [q0, if_pos z0]
        refine ⟨w', a1, ?_⟩
        rw [a2]
        simp
      · have hb0 : 0 < bo i := by omega
        have hm := man_chk (bo i) (by omega) hb0
        rw [if_neg (nI_ne0 hb0 (by omega)), m_kindOf hb0 hb.2, bd_s]
        by_cases q1 : kn (bo i) = 0
        · rw [q1, if_pos z0, m_sideOf hb0 hb.2, bd_s]
          by_cases q2 : sd (bo i) = s
          · rw [if_pos (by rw [q2])]
            obtain ⟨u, r1, r2⟩ := m_isAttacked (lv := lv) (s := 1 - s) (f := i) (by omega) hq hK hB
            refine ⟨u, r1, ?_⟩
            unfold f_X10_inCheck_50
            rw [show (1 : Int32) - nI s = nI (1 - s) from by
              rcases (show s = 0 ∨ s = 1 by omega) with rfl | rfl <;> rfl, r2, bd_s, b2i_zb, if_pos rfl]
            simp [q0, q1, q2]
          · rw [if_neg (fun z => q2 ((nI_inj (by omega) (by omega)).mp z))]
            refine ⟨w', a1, ?_⟩
            rw [a2]
            simp [q2]
        · rw [if_neg (nI_ne0 (by omega) (by omega))]
          refine ⟨w', a1, ?_⟩
          rw [a2]
          simp [q1]
  obtain ⟨w', h1, h2⟩ := main (N * N) 0 FU (by omega) (FU_big (by omega))
  refine ⟨w', h1, ?_⟩
  unfold f_X10_inCheck chk
  rw [List.range_eq_range']
  exact h2

theorem nI_or (a b : Nat) : nI a ||| nI b = nI (a ||| b) := by
  apply Int32.toBitVec_inj.mp
  show BitVec.ofNat 32 a ||| BitVec.ofNat 32 b = BitVec.ofNat 32 (a ||| b)
  exact BitVec.ofNat_or.symm
theorem bt_tb (x b : Nat) : bt x b = x.testBit b := by
  rw [Nat.testBit_eq_decide_div_mod_eq]
  unfold bt
  by_cases h : x / 2 ^ b % 2 = 1 <;> simp [h]
theorem bt_or (x y b : Nat) : bt (x ||| y) b = (bt x b || bt y b) := by
  rw [bt_tb, bt_tb, bt_tb, Nat.testBit_or]
theorem or_lt {x y : Nat} (hx : x < 2 ^ 31) (hy : y < 2 ^ 31) : x ||| y < 2 ^ 31 := Nat.or_lt_two_pow hx hy
/-- could a man of a type go on from f on an empty board -/
def goOn (N : Nat) (K : Kd) (t s f : Nat) : Bool := (List.range 10).any fun b => (bt (K.1 t) b || (decide (b < 8) && bt (K.2.1 t) b)) && (nx N (dirOf s b) f).isSome
theorem m_couldGoOn {N t s f : Nat} {K : Kd} {w : Wd} (ht : t < 16) (hs : s < 2) (hf : f < N * N) (hK : MK N K w) : f_X10_couldGoOn (nI t) (nI s) (nI f) w = some (b2i (goOn N K t s f), w) := by
  have hNN := NN_le hK.2.1
  have hT := hK.2.2.2 t ht
  have main : ∀ (m b n : Nat) (acc : Bool), b + m = 10 → m < n → l_X10_couldGoOn_6 f_X10_couldGoOn_75 n (nI t) (nI s) (nI f) (b2i acc) (nI b) w = some (b2i (acc || (List.range' b m).any fun b => (bt (K.1 t) b || (decide (b < 8) && bt (K.2.1 t) b)) && (nx N (dirOf s b) f).isSome), w) := by
    intro m
    induction m with
    | zero =>
      intro b n acc hb hn
      obtain ⟨n, rfl⟩ : ∃ k, n = k + 1 := ⟨n - 1, by omega⟩
      have : b = 10 := by omega
      subst this
      show b_X10_couldGoOn_6 (l_X10_couldGoOn_6 f_X10_couldGoOn_75 n) f_X10_couldGoOn_75 (nI t) (nI s) (nI f) (b2i acc) (nI 10) w = _
      unfold b_X10_couldGoOn_6 f_X10_couldGoOn_75
      rw [if_pos (by decide), b2i_zb, if_pos rfl]
      simp
    | succ m ih =>
      intro b n acc hb hn
      obtain ⟨n, rfl⟩ : ∃ k, n = k + 1 := ⟨n - 1, by omega⟩
      have hb10 : b < 10 := by omega
      have next : ∀ a : Bool, f_X10_couldGoOn_67 (l_X10_couldGoOn_6 f_X10_couldGoOn_75 n) f_X10_couldGoOn_75 (nI t) (nI s) (nI f) (nI b) (b2i a) w = some (b2i (a || (List.range' (b + 1) m).any fun b => (bt (K.1 t) b || (decide (b < 8) && bt (K.2.1 t) b)) && (nx N (dirOf s b) f).isSome), w) := by
        intro a
        unfold f_X10_couldGoOn_67
        rw [nI_1]
        exact ih (b + 1) n a (by omega) (by omega)
      show b_X10_couldGoOn_6 (l_X10_couldGoOn_6 f_X10_couldGoOn_75 n) f_X10_couldGoOn_75 (nI t) (nI s) (nI f) (b2i acc) (nI b) w = _
      unfold b_X10_couldGoOn_6
      rw [if_neg (show ¬ (10 : Int32) ≤ nI b from nI_ge hb10 (by decide)), List.range'_succ, List.any_cons]
      cases acc with
      | true =>
        rw [if_neg (by decide)]
        exact next true
      | false =>
        rw [if_pos (by decide), inb_nI ht (by decide), if_pos rfl, nI_clamp (by omega), hT.1, hT.2.1]
        have step : ∀ y : Nat, y < 256 → f_X10_couldGoOn_41 (l_X10_couldGoOn_6 f_X10_couldGoOn_75 n) f_X10_couldGoOn_75 (nI t) (nI s) (nI f) (nI b) (nI (K.1 t)) (nI y) w = f_X10_couldGoOn_67 (l_X10_couldGoOn_6 f_X10_couldGoOn_75 n) f_X10_couldGoOn_75 (nI t) (nI s) (nI f) (nI b) (b2i ((bt (K.1 t) b || bt y b) && (nx N (dirOf s b) f).isSome)) w := by
          intro y hy
          unfold f_X10_couldGoOn_41 f_X10_couldGoOn_66 f_X10_couldGoOn_62
          rw [nI_or, ← bt_or]
          by_cases q : bt (K.1 t ||| y) b = true
          · rw [if_pos ((bit_1 (or_lt (by omega) (by omega)) (by omega)).mpr q), m_along hK.1 hK.2.1 hK.2.2.1 hf (by omega) hs, bd_s, q]
            cases ho : nx N (dirOf s b) f with
            | none => rw [if_pos (by decide)]; rfl
            | some g =>
              have hg := (nx_lt hK.2.1 hK.2.2.1 (dirOf_lt hs (by omega)) hf ho).1
              rw [if_neg (show ¬ ov (some g) < 0 from nI_pos (by omega))]; rfl
          · rw [if_neg (fun z => q ((bit_1 (or_lt (by omega) (by omega)) (by omega)).mp z)), (by simpa using q : bt (K.1 t ||| y) b = false)]
            rfl
        by_cases h8 : b < 8
        · rw [if_neg (show ¬ (8 : Int32) ≤ nI b from nI_ge h8 (by decide)), step _ (by omega), next]
          simp [h8]
        · rw [if_pos (show (8 : Int32) ≤ nI b from nI_le (a := 8) (b := b) (by omega) (by omega))]
          have e := step 0 (by omega)
          rw [z0] at e
          rw [e, next]
          have : bt 0 b = false := by rw [bt_tb]; simp
          simp [h8, this]
  have h := main 10 0 FU false (by omega) (by decide)
  unfold f_X10_couldGoOn goOn
  rw [List.range_eq_range']
  refine Eq.trans h ?_
  simp
def zn (N s f : Nat) : Bool := decide ((if s = 0 then f / N else N - 1 - f / N) = 0) || (decide (5 < N) && decide ((if s = 0 then f / N else N - 1 - f / N) = 1))
theorem m_isZone {N s f : Nat} {w : Wd} (hs : s < 2) (hf : f < N * N) (hn : w.1 50 0 = nI N) (h1 : N ≤ 7) (h2 : 5 ≤ N) : f_X10_isZone (nI s) (nI f) w = some (b2i (zn N s f), w) := by
  have hNN := NN_le h1
  have hr : f / N < N := Nat.div_lt_of_lt_mul hf
  have core : ∀ r : Nat, r < N → f_X10_isZone_26 (nI r) w = some (b2i (decide (r = 0) || (decide (5 < N) && decide (r = 1))), w) := by
    intro r hr
    unfold f_X10_isZone_26 f_X10_isZone_44 f_X10_isZone_48 f_X10_isZone_49
    rw [hn]
    by_cases q : r = 0
    · rw [q, if_pos z0]; rfl
    · rw [if_neg (nI_ne0 (by omega) (by omega))]
      by_cases q5 : N ≤ 5
      · rw [if_pos (show nI N ≤ (5 : Int32) from nI_le q5 (by decide))]
        have : ¬ 5 < N := by omega
        simp [q, this, zb0, b2i]
      · rw [if_neg (show ¬ nI N ≤ (5 : Int32) from nI_ge (a := 5) (b := N) (by omega) (by omega))]
        by_cases q1 : r = 1
        · rw [q1, if_pos (show nI 1 = (1 : Int32) from rfl)]
          have : 5 < N := by omega
          simp [this, zb1, b2i]
        · rw [if_neg (show ¬ nI r = (1 : Int32) from fun z => q1 ((nI_inj (b := 1) (by omega) (by omega)).mp z))]
          simp [q, q1, zb0, b2i]
  have ed : nI f / nI N = nI (f / N) := pk_div (by omega) (by omega) (by omega)
  have hN0 : ¬ nI N = 0 := nI_ne0 (by omega) (by omega)
  unfold f_X10_isZone zn
  rw [hn, ed]
  rcases (show s = 0 ∨ s = 1 by omega) with rfl | rfl
  · rw [if_pos z0, if_pos hN0, core _ hr]
    rfl
  · rw [if_neg (by decide), if_pos hN0]
    obtain ⟨M, rfl⟩ : ∃ M, N = M + 1 := ⟨N - 1, by omega⟩
    rw [nI_pred, pk_sub (Nat.le_of_lt_succ hr), core _ (Nat.lt_succ_of_le (Nat.sub_le _ _))]
    simp
