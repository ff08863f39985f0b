/-! ===== the reference: what can be tried ===== -/
def mrz (K : Kd) (k : Nat) : Bool := decide (K.1 (8 + k) ≠ 0) || decide (K.2.1 (8 + k) ≠ 0)
theorem m_mayRaise {N k : Nat} {K : Kd} {w : Wd} (hk : k < 8) (hK : MK N K w) : f_X10_mayRaise (nI k) w = some (b2i (mrz K k), w) := by
  have h := hK.2.2.2 (8 + k) (by omega)
  unfold f_X10_mayRaise f_X10_mayRaise_24 f_X10_mayRaise_29 mrz
  rw [show (8 : Int32) + nI k = nI (8 + k) from nI_add 8 k, inb_nI (by omega) (by decide), if_pos rfl, if_pos rfl, nI_clamp (by omega), h.1, h.2.1]
  by_cases q1 : K.1 (8 + k) = 0
  · rw [q1, if_pos z0]
    by_cases q2 : K.2.1 (8 + k) = 0
    · rw [q2, if_pos z0]; rfl
    · rw [if_neg (nI_ne0 (by omega) (by omega))]
      simp [q2, zb1, b2i]
  · rw [if_neg (nI_ne0 (by omega) (by omega))]
    simp [q1, zb1, b2i]
theorem b2i_0 {b : Bool} : (b2i b = 0) ↔ b = false := by cases b <;> decide
/-- may a man (by its item) be raised as it goes from f to t; may it stay as it is at t -/
def rais (N : Nat) (K : Kd) (i s f t : Nat) : Bool := decide (rz i = 0) && (mrz K (kn i) && (zn N s f || zn N s t))
def stay (N : Nat) (K : Kd) (i s t : Nat) : Bool := decide (rz i ≠ 0) || goOn N K (kn i) s t
theorem rz_0 {i : Nat} : (nI (rz i) = (0 : Int32)) ↔ rz i = 0 := by
  have : rz i < 2 := Nat.mod_lt _ (by decide)
  rcases (show rz i = 0 ∨ rz i = 1 by omega) with h | h <;> rw [h] <;> decide
theorem m_mayRaiseSo {N i s f t : Nat} {K : Kd} {w : Wd} (h0 : 0 < i) (h32 : i ≤ 32) (hs : s < 2) (hf : f < N * N) (ht : t < N * N) (hK : MK N K w) : f_X10_mayRaiseSo (nI i) (nI s) (nI f) (nI t) w = some (b2i (rais N K i s f t), w) := by
  have hk := kn_lt i
  unfold f_X10_mayRaiseSo f_X10_mayRaiseSo_41 f_X10_mayRaiseSo_37 f_X10_mayRaiseSo_42 rais
  rw [m_isRaised h0 h32, bd_s]
  by_cases q : rz i = 0
  · rw [if_pos (rz_0.mpr q), m_kindOf h0 h32, bd_s, m_mayRaise hk hK, bd_s]
    cases h1 : mrz K (kn i) with
    | false => rw [if_pos (by decide)]; simp [zb0, b2i]
    | true =>
      rw [if_neg (by decide), m_isZone hs hf hK.1 hK.2.1 hK.2.2.1, bd_s]
      cases h2 : zn N s f with
      | true => rw [if_neg (by decide)]; simp [q, zb1, b2i]
      | false =>
        rw [if_pos (by decide), m_isZone hs ht hK.1 hK.2.1 hK.2.2.1, bd_s]
        cases h3 : zn N s t with
        | true => rw [if_neg (by decide)]; simp [q, zb1, b2i]
        | false => rw [if_pos (by decide)]; simp [zb0, b2i]
  · rw [if_neg (fun z => q (rz_0.mp z))]; simp [q, zb0, b2i]
theorem m_mayStay {N i s t : Nat} {K : Kd} {w : Wd} (h0 : 0 < i) (h32 : i ≤ 32) (hs : s < 2) (ht : t < N * N) (hK : MK N K w) : f_X10_mayStay (nI i) (nI s) (nI t) w = some (b2i (stay N K i s t), w) := by
  have hk := kn_lt i
  unfold f_X10_mayStay f_X10_mayStay_20 f_X10_mayStay_25 stay
  rw [m_isRaised h0 h32, bd_s]
  by_cases q : rz i = 0
  · rw [if_pos (rz_0.mpr q), m_kindOf h0 h32, bd_s, m_couldGoOn (by omega) hs ht hK, bd_s]
    cases h1 : goOn N K (kn i) s t with
    | false => rw [if_pos (by decide)]; simp [q, zb0, b2i]
    | true => rw [if_neg (by decide)]; simp [zb1, b2i]
  · rw [if_neg (fun z => q (rz_0.mp z))]; simp [q, zb1, b2i]
def inCol (N : Nat) (bo : Nat → Nat) (s k f : Nat) : Bool := (List.range N).any fun r => decide (bo (f % N + r * N) = 1 + k + 16 * s)
theorem m_inColumn {N lv s k f : Nat} {bo : Nat → Nat} {w : Wd} (hs : s < 2) (hk : k < 8) (hf : f < N * N) (hn : w.1 50 0 = nI N) (h1 : N ≤ 7) (h2 : 5 ≤ N) (hB : MB N lv bo w) : f_X10_inColumn (nI lv) (nI s) (nI k) (nI f) w = some (b2i (inCol N bo s k f), w) := by
  have hNN := NN_le h1
  have hlv := hB.1
  have hc : f % N < N := Nat.mod_lt _ (by omega)
  have main : ∀ (m r n : Nat) (acc : Bool), r + m = N → m < n → l_X10_inColumn_12 f_X10_inColumn_73 n (nI lv) (nI s) (nI k) (b2i acc) (nI (f % N + r * N)) w = some (b2i (acc || (List.range' r m).any fun r => decide (bo (f % N + r * N) = 1 + k + 16 * s)), w) := by
    intro m
    induction m with
    | zero =>
      intro r n acc hr hn2
      obtain ⟨n, rfl⟩ : ∃ k, n = k + 1 := ⟨n - 1, by omega⟩
      have : r = N := by omega
      subst this
      show b_X10_inColumn_12 (l_X10_inColumn_12 f_X10_inColumn_73 n) f_X10_inColumn_73 (nI lv) (nI s) (nI k) (b2i acc) (nI (f % r + r * r)) w = _
      unfold b_X10_inColumn_12 f_X10_inColumn_73
      rw [hn, nI_sq, if_pos (nI_le (Nat.le_add_left _ _) (by omega)), b2i_zb, if_pos rfl]
      simp
    | succ m ih =>
      intro r n acc hr hn2
      obtain ⟨n, rfl⟩ : ∃ k, n = k + 1 := ⟨n - 1, by omega⟩
      have hrN : r < N := by omega
      have hq : f % N + r * N < N * N := by
        have : (r + 1) * N ≤ N * N := Nat.mul_le_mul_right N (by omega)
        rw [Nat.add_mul] at this
        omega
      have hb := hB.2 _ hq
      have next : ∀ a : Bool, f_X10_inColumn_59 (l_X10_inColumn_12 f_X10_inColumn_73 n) f_X10_inColumn_73 (nI lv) (nI s) (nI k) (nI (f % N + r * N)) (b2i a) w = some (b2i (a || (List.range' (r + 1) m).any fun r => decide (bo (f % N + r * N) = 1 + k + 16 * s)), w) := by
        intro a
        unfold f_X10_inColumn_59
        rw [lt_e, hn, nI_add, show f % N + r * N + N = f % N + (r + 1) * N by rw [Nat.add_mul]; omega]
        exact ih (r + 1) n a (by omega) (by omega)
      show b_X10_inColumn_12 (l_X10_inColumn_12 f_X10_inColumn_73 n) f_X10_inColumn_73 (nI lv) (nI s) (nI k) (b2i acc) (nI (f % N + r * N)) w = _
      unfold b_X10_inColumn_12 f_X10_inColumn_54
      rw [hn, nI_sq, if_neg (nI_ge hq (by omega)), List.range'_succ, List.any_cons]
      cases acc with
      | true =>
        rw [if_neg (by decide)]
        exact next true
      | false =>
        rw [if_pos (by decide), n49, inb_nI (by omega) (by decide), if_pos rfl, nI_clamp (by omega), hb.1, n1k16]
        by_cases q : bo (f % N + r * N) = 1 + k + 16 * s
        · rw [if_pos (by rw [q])]
          refine Eq.trans (next true) ?_
          simp [q]
        · rw [if_neg (fun z => q ((nI_inj (by omega) (by omega)).mp z))]
          refine Eq.trans (next false) ?_
          simp [q]
  have h := main N 0 FU false (by omega) (FU_big (by omega))
  unfold f_X10_inColumn inCol
  rw [hn, if_pos (nI_ne0 (by omega) (by omega)), lt_e, pk_rem (by omega) (by omega) (by omega), List.range_eq_range']
  rw [Nat.zero_mul, Nat.add_zero] at h
  refine Eq.trans h ?_
  simp
/-- the list of what is tried, in the reference's cells -/
def TIn (lv : Nat) (T : List Nat) (w : Wd) : Prop := w.1 68 lv = nI T.length ∧ ∀ j c, T[j]? = some c → w.1 69 (2000 * lv + j) = mF c ∧ w.1 70 (2000 * lv + j) = mT c ∧ w.1 71 (2000 * lv + j) = mR c ∧ w.1 72 (2000 * lv + j) = mK c
/-- only the lists of tries -/
def TrM (w w' : Wd) : Prop := w'.2 = w.2 ∧ ∀ k, k < 68 ∨ 72 < k → w'.1 k = w.1 k
theorem TrM.rf {w : Wd} : TrM w w := ⟨rfl, fun _ _ => rfl⟩
theorem TrM.tr {a b c : Wd} (x : TrM a b) (y : TrM b c) : TrM a c := ⟨y.1.trans x.1, fun k h => (y.2 k h).trans (x.2 k h)⟩
theorem TrM.i {w : Wd} {k j : Nat} {v : Int32} (h : 68 ≤ k ∧ k ≤ 72) : TrM w (wdI w k j v) := ⟨rfl, fun q hq => wI_c (by omega)⟩
theorem m_tries {lv c : Nat} {T : List Nat} {w : Wd} (hl : lv < 16) (hT : TIn lv T w) (hlen : T.length < 2000) : ∃ w', f_X10_tries (nI lv) (mF c) (mT c) (mR c) (mK c) w = some ((), w') ∧ TrM w w' ∧ UpM 15 lv w w' ∧ TIn lv (T ++ [c]) w' := by
  unfold f_X10_tries
  have e1 : (2000 : Int32) * nI lv + nI T.length = nI (2000 * lv + T.length) := by
    rw [show (2000 : Int32) = nI 2000 from rfl, pk_mul, nI_add]
  rw [inb_nI hl (by decide), if_pos rfl, lt_e, nI_clamp (show lv < 2 ^ 31 by omega), hT.1, e1, inb_nI (show 2000 * lv + T.length < 32000 by omega) (by decide), if_pos rfl, lw_e, if_pos rfl, lw_e, if_pos rfl, lw_e, if_pos rfl, lw_e, if_pos rfl, if_pos rfl, lw_e, nI_clamp (show 2000 * lv + T.length < 2 ^ 31 by omega)]
  have e2 : (wdI (wdI (wdI (wdI w 69 (2000 * lv + T.length) (mF c)) 70 (2000 * lv + T.length) (mT c)) 71 (2000 * lv + T.length) (mR c)) 72 (2000 * lv + T.length) (mK c)).1 68 lv = nI T.length := by
    rw [wI_c (by decide), wI_c (by decide), wI_c (by decide), wI_c (by decide)]; exact hT.1
  rw [e2, nI_1]
  refine ⟨_, rfl, ((((TrM.i (by decide)).tr (TrM.i (by decide))).tr (TrM.i (by decide))).tr (TrM.i (by decide))).tr (TrM.i (by decide)), ((((UpM.iL (by decide) (by omega)).tr (UpM.iL (by decide) (by omega))).tr (UpM.iL (by decide) (by omega))).tr (UpM.iL (by decide) (by omega))).tr (UpM.iC (by decide) (by omega)), ?_, ?_⟩
  · rw [wI_s, List.length_append]
    rfl
  · intro j x hj
    by_cases e : j = T.length
    · subst e
      simp at hj
      subst hj
      refine ⟨?_, ?_, ?_, ?_⟩ <;> simp [wI_get]
    · have hj2 : j < T.length := by
        have := (List.getElem?_eq_some_iff.mp hj).1
        simp at this
        omega
      rw [List.getElem?_append_left hj2] at hj
      have h := hT.2 j x hj
      refine ⟨?_, ?_, ?_, ?_⟩ <;> simp [wI_get, e, h]
/-! goings of one man -/
def goC (f t r : Nat) : Nat := t + 64 * f + 4096 * r
def seC (k t : Nat) : Nat := t + 64 * 63 + 8192 * k
theorem goC_ok {f t r : Nat} (hf : f < 63) (ht : t < 64) (hr : r < 2) : ct (goC f t r) = t ∧ cf (goC f t r) = f ∧ cr (goC f t r) = r ∧ ck (goC f t r) = 0 := by
  unfold ct cf cr ck goC
  omega
theorem seC_ok {k t : Nat} (hk : k < 8) (ht : t < 64) : ct (seC k t) = t ∧ cf (seC k t) = 63 ∧ cr (seC k t) = 0 ∧ ck (seC k t) = k := by
  unfold ct cf cr ck seC
  omega
/-- the goings from f to t of a man with item i of side s -/
def goTo (N : Nat) (K : Kd) (bo : Nat → Nat) (i s f t : Nat) : List Nat := if bo t ≠ 0 ∧ sd (bo t) = s then [] else (if stay N K i s t = true then [goC f t 0] else []) ++ (if rais N K i s f t = true then [goC f t 1] else [])
theorem RIn.tr {R : List Nat} {w w' : Wd} (h : RIn R w) (u : TrM w w') : RIn R w' := by
  unfold RIn
  rw [u.2 50 (by omega), u.2 74 (by omega), u.2 75 (by omega)]
  exact h
theorem MB.tr {N lv : Nat} {bo : Nat → Nat} {w w' : Wd} (h : MB N lv bo w) (u : TrM w w') : MB N lv bo w' := by
  unfold MB
  rw [u.2 60 (by omega)]
  exact h
theorem MK.tr {N : Nat} {K : Kd} {w w' : Wd} (h : MK N K w) (u : TrM w w') : MK N K w' := by
  unfold MK
  rw [u.2 50 (by omega), u.2 53 (by omega), u.2 54 (by omega)]
  exact h
theorem m_ft67 {K181 : Int32 → Int32 → Int32 → Wd → Option (Unit × Wd)} {N lv i s f : Nat} {K : Kd} {bo : Nat → Nat} {R : List Nat} (h0 : 0 < i) (h32 : i ≤ 32) (hs : s < 2) (hf : f < N * N) (hRN : ∀ g ∈ R, g < N * N) :
    ∀ (m j n : Nat) (T : List Nat) (w : Wd), j + m = R.length → m < n → MK N K w → MB N lv bo w → RIn R w → TIn lv T w → T.length + ((R.drop j).flatMap (goTo N K bo i s f)).length ≤ 2000 →
      ∃ w', l_X10_findTries_67 K181 n (nI lv) (nI s) (nI f) (nI i) (nI j) w = K181 (nI lv) (nI s) (nI f) w' ∧ TrM w w' ∧ UpM 15 lv w w' ∧ TIn lv (T ++ (R.drop j).flatMap (goTo N K bo i s f)) w' := by
  intro m
  induction m with
  | zero =>
    intro j n T w hj hn hK hB hR hT hlen
    obtain ⟨n, rfl⟩ : ∃ k, n = k + 1 := ⟨n - 1, by omega⟩
    have e : j = R.length := by omega
    have hl := nodup_len 49 R hR.2.2.2.1 hR.2.2.2.2
    refine ⟨w, ?_, TrM.rf, UpM.rf, ?_⟩
    · show b_X10_findTries_67 (l_X10_findTries_67 K181 n) K181 (nI lv) (nI s) (nI f) (nI i) (nI j) w = _
      unfold b_X10_findTries_67
      rw [hR.1, e, if_pos (nI_le (Nat.le_refl _) (by omega))]
    · rw [e, List.drop_length]
      simpa using hT
  | succ m ih =>
    intro j n T w hj hn hK hB hR hT hlen
    obtain ⟨n, rfl⟩ : ∃ k, n = k + 1 := ⟨n - 1, by omega⟩
    have hNN := NN_le hK.2.1
    have hlv := hB.1
    have hl := nodup_len 49 R hR.2.2.2.1 hR.2.2.2.2
    have hjl : j < R.length := by omega
    have hg : R[j]? = some R[j] := List.getElem?_eq_getElem hjl
    generalize R[j] = g at hg
    have hgm : g ∈ R := List.mem_of_getElem? hg
    have hgN := hRN g hgm
    have hd : R.drop j = g :: R.drop (j + 1) := by
      rw [List.drop_eq_getElem_cons hjl]
      congr 1
      exact Option.some.inj ((List.getElem?_eq_getElem hjl).symm.trans hg)
    rw [hd] at hlen ⊢
    rw [List.flatMap_cons, List.length_append] at hlen
    rw [List.flatMap_cons, ← List.append_assoc]
    have hbg := hB.2 g hgN
    -- the end of one round
    have fin : ∀ (T' : List Nat) (u : Wd), TrM w u → UpM 15 lv w u → TIn lv T' u → T'.length + ((R.drop (j + 1)).flatMap (goTo N K bo i s f)).length ≤ 2000 → ∃ w', f_X10_findTries_175 (l_X10_findTries_67 K181 n) K181 (nI lv) (nI s) (nI f) (nI i) (nI j) u = K181 (nI lv) (nI s) (nI f) w' ∧ TrM w w' ∧ UpM 15 lv w w' ∧ TIn lv (T' ++ (R.drop (j + 1)).flatMap (goTo N K bo i s f)) w' := by
      intro T' u t1 t2 t3 t4
      unfold f_X10_findTries_175
      rw [nI_1]
      obtain ⟨w', a1, a2, a3, a4⟩ := ih (j + 1) n T' u (by omega) (by omega) (hK.tr t1) (hB.tr t1) (hR.tr t1) t3 t4
      exact ⟨w', a1, t1.tr a2, t2.tr a3, a4⟩
    have e1 : l_X10_findTries_67 K181 (n + 1) (nI lv) (nI s) (nI f) (nI i) (nI j) w = b_X10_findTries_67 (l_X10_findTries_67 K181 n) K181 (nI lv) (nI s) (nI f) (nI i) (nI j) w := rfl
    rw [e1]
    unfold b_X10_findTries_67 f_X10_findTries_113
    rw [hR.1, if_neg (nI_ge hjl (by omega)), inb_nI (show j < 64 by omega) (by decide), if_pos rfl, lt_e, nI_clamp (show j < 2 ^ 31 by omega), hR.2.1 j g hg, n49, inb_nI (show 49 * lv + g < 784 by omega) (by decide), if_pos rfl, lt_e, nI_clamp (by omega), hbg.1]
    -- a free field
    have free : goTo N K bo i s f g = (if stay N K i s g = true then [goC f g 0] else []) ++ (if rais N K i s f g = true then [goC f g 1] else []) → ∃ w', f_X10_findTries_118 (l_X10_findTries_67 K181 n) K181 (nI lv) (nI s) (nI f) (nI i) (nI j) (nI g) (1 : Int32) w = K181 (nI lv) (nI s) (nI f) w' ∧ TrM w w' ∧ UpM 15 lv w w' ∧ TIn lv (T ++ goTo N K bo i s f g ++ (R.drop (j + 1)).flatMap (goTo N K bo i s f)) w' := by
      intro eg
      rw [eg] at hlen ⊢
      have c0 := goC_ok (f := f) (t := g) (r := 0) (by omega) (by omega) (by omega)
      have c1 := goC_ok (f := f) (t := g) (r := 1) (by omega) (by omega) (by omega)
      have p0 : nI f = mF (goC f g 0) ∧ nI g = mT (goC f g 0) ∧ (0 : Int32) = mR (goC f g 0) ∧ (-1 : Int32) = mK (goC f g 0) := by
        unfold mF mT mR mK
        rw [c0.1, c0.2.1, c0.2.2.1, if_neg (by omega), if_neg (by omega)]
        exact ⟨rfl, rfl, rfl, rfl⟩
      have p1 : nI f = mF (goC f g 1) ∧ nI g = mT (goC f g 1) ∧ (1 : Int32) = mR (goC f g 1) ∧ (-1 : Int32) = mK (goC f g 1) := by
        unfold mF mT mR mK
        rw [c1.1, c1.2.1, c1.2.2.1, if_neg (by omega), if_neg (by omega)]
        exact ⟨rfl, rfl, rfl, rfl⟩
      have second : ∀ (T' : List Nat) (u : Wd), TrM w u → UpM 15 lv w u → TIn lv T' u → (T' ++ (if rais N K i s f g = true then [goC f g 1] else [])).length + ((R.drop (j + 1)).flatMap (goTo N K bo i s f)).length ≤ 2000 → ∃ w', f_X10_findTries_147 (l_X10_findTries_67 K181 n) K181 (nI lv) (nI s) (nI f) (nI i) (nI j) (nI g) (1 : Int32) u = K181 (nI lv) (nI s) (nI f) w' ∧ TrM w w' ∧ UpM 15 lv w w' ∧ TIn lv (T' ++ (if rais N K i s f g = true then [goC f g 1] else []) ++ (R.drop (j + 1)).flatMap (goTo N K bo i s f)) w' := by
        intro T' u t1 t2 t3 t4
        unfold f_X10_findTries_147
        rw [if_neg (by decide), m_mayRaiseSo h0 h32 hs hf hgN (hK.tr t1), bd_s]
        cases hq : rais N K i s f g with
        | false =>
          rw [if_pos (by decide)]
          rw [hq] at t4
          simpa using fin T' u t1 t2 t3 (by simpa using t4)
        | true =>
          rw [hq] at t4
          have t5 : T'.length < 2000 := by
            simp at t4
            omega
          obtain ⟨u', a1, a2, a3, a4⟩ := m_tries (c := goC f g 1) hlv t3 t5
          rw [← p1.1, ← p1.2.1, ← p1.2.2.1, ← p1.2.2.2] at a1
          rw [if_neg (by decide), a1, bd_s]
          simpa using fin (T' ++ [goC f g 1]) u' (t1.tr a2) (t2.tr a3) a4 (by simpa using t4)
      unfold f_X10_findTries_118
      rw [if_neg (by decide), m_mayStay h0 h32 hs hgN hK, bd_s]
      cases hq : stay N K i s g with
      | false =>
        rw [if_pos (by decide)]
        rw [hq] at hlen
        have := second T w TrM.rf UpM.rf hT (by rw [List.length_append]; simp only [Bool.false_eq_true, if_false, List.nil_append] at hlen; omega)
        simpa using this
      | true =>
        rw [hq] at hlen
        simp only [if_true, List.length_append, List.length_singleton] at hlen
        obtain ⟨u', a1, a2, a3, a4⟩ := m_tries (c := goC f g 0) hlv hT (by omega)
        rw [← p0.1, ← p0.2.1, ← p0.2.2.1, ← p0.2.2.2] at a1
        rw [if_neg (by decide), a1, bd_s]
        have := second (T ++ [goC f g 0]) u' a2 a3 a4 (by simp only [List.length_append, List.length_singleton]; omega)
        simpa using this
    by_cases q0 : bo g = 0
    · rw [q0, if_pos z0]
      exact free (by unfold goTo; rw [if_neg (by simp [q0])])
    · have hb0 : 0 < bo g := by omega
      rw [if_neg (nI_ne0 hb0 (by omega)), m_sideOf hb0 hbg.2, bd_s]
      have hsd := (man_chk (bo g) (by omega) hb0).2.2.2.2.2.1
      by_cases q1 : sd (bo g) = s
      · rw [if_pos (by rw [q1])]
        have eg : goTo N K bo i s f g = [] := if_pos ⟨q0, q1⟩
        rw [eg] at hlen ⊢
        unfold f_X10_findTries_118 f_X10_findTries_147
        rw [if_pos rfl, if_pos rfl]
        simpa using fin T w TrM.rf UpM.rf hT (by simpa using hlen)
      · rw [if_neg (fun z => q1 ((nI_inj (by omega) (by omega)).mp z))]
        exact free (by unfold goTo; rw [if_neg (fun z => q1 z.2)])
