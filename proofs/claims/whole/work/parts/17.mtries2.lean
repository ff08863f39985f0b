/-! ===== the reference: findTries ===== -/
theorem mem_fU {x : Nat} : ∀ (l R : List Nat), x ∈ l.foldl addU R ↔ x ∈ R ∨ x ∈ l
  | [], R => by simp
  | a :: l, R => by
    rw [List.foldl_cons, mem_fU l, addU_mem, List.mem_cons]
    exact or_assoc
theorem mem_fO {x : Nat} (h : Nat → Option Nat) : ∀ (l R : List Nat), x ∈ l.foldl (fun R b => addO R (h b)) R ↔ x ∈ R ∨ ∃ b, b ∈ l ∧ h b = some x
  | [], R => by simp
  | a :: l, R => by
    rw [List.foldl_cons, mem_fO h l]
    have : x ∈ addO R (h a) ↔ x ∈ R ∨ h a = some x := by
      cases ha : h a with
      | none => simp [addO]
      | some g =>
        show x ∈ addU R g ↔ _
        rw [addU_mem]
        simp [eq_comm]
    rw [this, or_assoc]
    apply or_congr_right
    constructor
    · rintro (h1 | ⟨b, h1, h2⟩)
      · exact ⟨a, List.mem_cons_self, h1⟩
      · exact ⟨b, List.mem_cons_of_mem _ h1, h2⟩
    · rintro ⟨b, h1, h2⟩
      rcases List.mem_cons.mp h1 with rfl | h1
      · exact Or.inl h2
      · exact Or.inr ⟨b, h1, h2⟩
theorem mem_fR {x : Nat} (g : Nat → List Nat) : ∀ (l R : List Nat), x ∈ l.foldl (fun R b => (g b).foldl addU R) R ↔ x ∈ R ∨ ∃ b, b ∈ l ∧ x ∈ g b
  | [], R => by simp
  | a :: l, R => by
    rw [List.foldl_cons, mem_fR g l, mem_fU, or_assoc]
    apply or_congr_right
    constructor
    · rintro (h1 | ⟨b, h1, h2⟩)
      · exact ⟨a, List.mem_cons_self, h1⟩
      · exact ⟨b, List.mem_cons_of_mem _ h1, h2⟩
    · rintro ⟨b, h1, h2⟩
      rcases List.mem_cons.mp h1 with rfl | h1
      · exact Or.inl h2
      · exact Or.inr ⟨b, h1, h2⟩
theorem mem_reach {N i f x : Nat} {K : Kd} {bo : Nat → Nat} : x ∈ reachL N K bo i f ↔ (∃ b, b < 10 ∧ stepO N K i f b = some x) ∨ ∃ b, b < 8 ∧ x ∈ rayO N (dirOf (sd i) b) bo 7 (runO N K i f b) := by
  unfold reachL stepsR
  rw [mem_fR, mem_fO]
  simp
theorem rayO_lt {N d : Nat} {bo : Nat → Nat} (h1 : N ≤ 7) (h2 : 5 ≤ N) (hd : d < 12) : ∀ (k : Nat) (o : Option Nat), (∀ g, o = some g → g < N * N) → ∀ x ∈ rayO N d bo k o, x < N * N
  | 0, _, _, x, hx => by simp [rayO] at hx
  | _ + 1, none, _, x, hx => by simp [rayO] at hx
  | k + 1, some g, ho, x, hx => by
    have hg := ho g rfl
    unfold rayO at hx
    rcases List.mem_cons.mp hx with rfl | hx
    · exact hg
    · split at hx
      · exact rayO_lt h1 h2 hd k (nx N d g) (fun z hz => (nx_lt h1 h2 hd hg hz).1) x hx
      · simp at hx
theorem reach_lt {N i f : Nat} {K : Kd} {bo : Nat → Nat} (h1 : N ≤ 7) (h2 : 5 ≤ N) (hs : sd i < 2) (hf : f < N * N) : ∀ x ∈ reachL N K bo i f, x < N * N := by
  intro x hx
  rcases mem_reach.mp hx with ⟨b, hb, h⟩ | ⟨b, hb, h⟩
  · unfold stepO at h
    split at h
    · exact (nx_lt h1 h2 (dirOf_lt hs hb) hf h).1
    · cases h
  · refine rayO_lt h1 h2 (dirOf_lt hs (by omega)) 7 _ (fun g hg => ?_) x h
    unfold runO at hg
    split at hg
    · exact (nx_lt h1 h2 (dirOf_lt hs (by omega)) hf hg).1
    · cases hg
def gosAt (N : Nat) (K : Kd) (P : Ps) (f : Nat) : List Nat := if P.1 f ≠ 0 ∧ sd (P.1 f) = P.2.2 then (reachL N K P.1 (P.1 f) f).flatMap (goTo N K P.1 (P.1 f) P.2.2 f) else []
def setAt (N : Nat) (K : Kd) (P : Ps) (k f : Nat) : List Nat := if P.1 f = 0 ∧ goOn N K k P.2.2 f = true ∧ (K.2.2 k % 2 = 0 ∨ inCol N P.1 P.2.2 k f = false) then [seC k f] else []
def setsOf (N : Nat) (K : Kd) (P : Ps) (k : Nat) : List Nat := if P.2.1 (8 * P.2.2 + k) = 0 then [] else (List.range (N * N)).flatMap (setAt N K P k)
/-- all that only check or mark 2 can forbid, in order -/
def triL (N : Nat) (K : Kd) (P : Ps) : List Nat := (List.range (N * N)).flatMap (gosAt N K P) ++ (List.range' 1 7).flatMap (setsOf N K P)
def MM (K : Kd) (w : Wd) : Prop := ∀ k, k < 8 → w.1 55 k = nI (K.2.2 k) ∧ K.2.2 k < 4
theorem MM.up {lv l2 : Nat} {K : Kd} {w w' : Wd} (h : MM K w) (u : UpM lv l2 w w') : MM K w' := fun k hk => by rw [u.2.1 55 (by omega)]; exact h k hk
theorem TIn.same {lv : Nat} {T : List Nat} {w w' : Wd} (h : TIn lv T w) (s : SameM w w') : TIn lv T w' := by
  unfold TIn
  rw [s.2.1 68 (by decide) (by decide) (by decide), s.2.1 69 (by decide) (by decide) (by decide), s.2.1 70 (by decide) (by decide) (by decide), s.2.1 71 (by decide) (by decide) (by decide), s.2.1 72 (by decide) (by decide) (by decide)]
  exact h
theorem m_ft16 {K187 : Int32 → Int32 → Wd → Option (Unit × Wd)} {N lv : Nat} {K : Kd} {P : Ps} :
    ∀ (m f n : Nat) (T : List Nat) (w : Wd), f + m = N * N → m < n → MK N K w → MP N lv P w → TIn lv T w → T.length + ((List.range' f m).flatMap (gosAt N K P)).length ≤ 2000 →
      ∃ w', l_X10_findTries_16 K187 n (nI lv) (nI P.2.2) (nI f) w = K187 (nI lv) (nI P.2.2) w' ∧ UpM 15 lv w w' ∧ TIn lv (T ++ (List.range' f m).flatMap (gosAt N K P)) w' := by
  intro m
  induction m with
  | zero =>
    intro f n T w hf hn hK hP hT hlen
    obtain ⟨n, rfl⟩ : ∃ k, n = k + 1 := ⟨n - 1, by omega⟩
    have hNN := NN_le hK.2.1
    have : f = N * N := by omega
    subst this
    refine ⟨w, ?_, UpM.rf, by simpa using hT⟩
    show b_X10_findTries_16 (l_X10_findTries_16 K187 n) K187 (nI lv) (nI P.2.2) (nI (N * N)) w = _
    unfold b_X10_findTries_16
    rw [hK.1, nI_sq, if_pos (nI_le (Nat.le_refl _) (by omega))]
  | succ m ih =>
    intro f n T w hfm hn hK hP hT hlen
    obtain ⟨n, rfl⟩ : ∃ k, n = k + 1 := ⟨n - 1, by omega⟩
    have hNN := NN_le hK.2.1
    have hlv := hP.1
    have hf : f < N * N := by omega
    have hb := hP.2.1 f (by omega)
    have hmv := hP.2.2.2.2
    rw [List.range'_succ, List.flatMap_cons, List.length_append] at hlen
    rw [List.range'_succ, List.flatMap_cons, ← List.append_assoc]
    have fin : ∀ (T' : List Nat) (u : Wd), UpM 15 lv w u → TIn lv T' u → T'.length + ((List.range' (f + 1) m).flatMap (gosAt N K P)).length ≤ 2000 → ∃ w', f_X10_findTries_181 (l_X10_findTries_16 K187 n) K187 (nI lv) (nI P.2.2) (nI f) u = K187 (nI lv) (nI P.2.2) w' ∧ UpM 15 lv w w' ∧ TIn lv (T' ++ (List.range' (f + 1) m).flatMap (gosAt N K P)) w' := by
      intro T' u t1 t2 t3
      unfold f_X10_findTries_181
      rw [nI_1]
      obtain ⟨w', a1, a2, a3⟩ := ih (f + 1) n T' u (by omega) (by omega) (hK.up t1) (hP.up (Nat.le_of_lt_succ hP.1) t1) t2 t3
      exact ⟨w', a1, t1.tr a2, a3⟩
    have e1 : l_X10_findTries_16 K187 (n + 1) (nI lv) (nI P.2.2) (nI f) w = b_X10_findTries_16 (l_X10_findTries_16 K187 n) K187 (nI lv) (nI P.2.2) (nI f) w := rfl
    rw [e1]
    unfold b_X10_findTries_16
    rw [hK.1, nI_sq, if_neg (nI_ge hf (by omega)), n49, inb_nI (show 49 * lv + f < 784 by omega) (by decide), if_pos rfl, lt_e, nI_clamp (by omega), hb.1]
    by_cases q0 : P.1 f = 0
    · have eg : gosAt N K P f = [] := if_neg (by simp [q0])
      rw [eg] at hlen ⊢
      rw [q0, if_pos z0]
      simpa using fin T w UpM.rf hT (by simpa using hlen)
    · have hb0 : 0 < P.1 f := by omega
      have hm := man_chk (P.1 f) (by omega) hb0
      rw [if_neg (nI_ne0 hb0 (by omega)), m_sideOf hb0 hb.2, bd_s]
      by_cases q1 : sd (P.1 f) = P.2.2
      · have eg : gosAt N K P f = (reachL N K P.1 (P.1 f) f).flatMap (goTo N K P.1 (P.1 f) P.2.2 f) := if_pos ⟨q0, q1⟩
        rw [eg] at hlen ⊢
        rw [if_pos (by rw [q1])]
        obtain ⟨u, r1, r2, r3⟩ := m_reaches (lv := lv) hb0 hb.2 hf hK (hP.b hK.2.1)
        rw [r1, bd_s]
        obtain ⟨u', s1, s2, s3, s4⟩ := m_ft67 (K181 := f_X10_findTries_181 (l_X10_findTries_16 K187 n) K187) (lv := lv) (K := K) (bo := P.1) hb0 hb.2 hmv hf (reach_lt hK.2.1 hK.2.2.1 (by omega) hf) _ 0 FU T u (Nat.zero_add _) (FU_big (by have := nodup_len 49 _ r3.2.2.2.1 r3.2.2.2.2; omega)) (hK.same r2) ((hP.b hK.2.1).same r2) r3 (hT.same r2) (by rw [List.drop_zero]; omega)
        rw [List.drop_zero] at s4
        obtain ⟨w', c1, c2, c3⟩ := fin _ u' (r2.up.tr s3) s4 (by rw [List.length_append]; omega)
        exact ⟨w', (Eq.trans s1 c1), c2, c3⟩
      · have eg : gosAt N K P f = [] := if_neg (fun z => q1 z.2)
        rw [eg] at hlen ⊢
        rw [if_neg (fun z => q1 ((nI_inj (by omega) (by omega)).mp z))]
        simpa using fin T w UpM.rf hT (by simpa using hlen)
theorem m_ft198 {K308 : Int32 → Int32 → Int32 → Wd → Option (Unit × Wd)} {N lv k : Nat} {K : Kd} {P : Ps} (hk : k < 8) (hk1 : 1 ≤ k) (hh : P.2.1 (8 * P.2.2 + k) ≠ 0) :
    ∀ (m f n : Nat) (T : List Nat) (w : Wd), f + m = N * N → m < n → MK N K w → MM K w → MP N lv P w → TIn lv T w → T.length + ((List.range' f m).flatMap (setAt N K P k)).length ≤ 2000 →
      ∃ w', l_X10_findTries_198 K308 n (nI lv) (nI P.2.2) (nI k) (nI f) w = K308 (nI lv) (nI P.2.2) (nI k) w' ∧ UpM 15 lv w w' ∧ TIn lv (T ++ (List.range' f m).flatMap (setAt N K P k)) w' := by
  intro m
  induction m with
  | zero =>
    intro f n T w hf hn hK hM hP hT hlen
    obtain ⟨n, rfl⟩ : ∃ k, n = k + 1 := ⟨n - 1, by omega⟩
    have hNN := NN_le hK.2.1
    have : f = N * N := by omega
    subst this
    refine ⟨w, ?_, UpM.rf, by simpa using hT⟩
    show b_X10_findTries_198 (l_X10_findTries_198 K308 n) K308 (nI lv) (nI P.2.2) (nI k) (nI (N * N)) w = _
    unfold b_X10_findTries_198
    rw [hK.1, nI_sq, if_pos (nI_le (Nat.le_refl _) (by omega))]
  | succ m ih =>
    intro f n T w hfm hn hK hM hP hT hlen
    obtain ⟨n, rfl⟩ : ∃ k, n = k + 1 := ⟨n - 1, by omega⟩
    have hNN := NN_le hK.2.1
    have hlv := hP.1
    have hf : f < N * N := by omega
    have hb := hP.2.1 f (by omega)
    have hmv := hP.2.2.2.2
    have hhd := hP.2.2.1 (8 * P.2.2 + k) (by omega)
    rw [List.range'_succ, List.flatMap_cons, List.length_append] at hlen
    rw [List.range'_succ, List.flatMap_cons, ← List.append_assoc]
    have fin : ∀ (T' : List Nat) (u : Wd), UpM 15 lv w u → TIn lv T' u → T'.length + ((List.range' (f + 1) m).flatMap (setAt N K P k)).length ≤ 2000 → ∃ w', f_X10_findTries_302 (l_X10_findTries_198 K308 n) K308 (nI lv) (nI P.2.2) (nI k) (nI f) u = K308 (nI lv) (nI P.2.2) (nI k) w' ∧ UpM 15 lv w w' ∧ TIn lv (T' ++ (List.range' (f + 1) m).flatMap (setAt N K P k)) w' := by
      intro T' u t1 t2 t3
      unfold f_X10_findTries_302
      rw [nI_1]
      obtain ⟨w', a1, a2, a3⟩ := ih (f + 1) n T' u (by omega) (by omega) (hK.up t1) (hM.up t1) (hP.up (Nat.le_of_lt_succ hP.1) t1) t2 t3
      exact ⟨w', a1, t1.tr a2, a3⟩
    have no : setAt N K P k f = [] → ∃ w', f_X10_findTries_284 (l_X10_findTries_198 K308 n) K308 (nI lv) (nI P.2.2) (nI k) (nI f) w = K308 (nI lv) (nI P.2.2) (nI k) w' ∧ UpM 15 lv w w' ∧ TIn lv (T ++ setAt N K P k f ++ (List.range' (f + 1) m).flatMap (setAt N K P k)) w' := by
      intro eg
      rw [eg] at hlen ⊢
      unfold f_X10_findTries_284 f_X10_findTries_285
      rw [if_pos rfl]
      simpa using fin T w UpM.rf hT (by simpa using hlen)
    have yes : setAt N K P k f = [seC k f] → ∃ w', f_X10_findTries_280 (l_X10_findTries_198 K308 n) K308 (nI lv) (nI P.2.2) (nI k) (nI f) w = K308 (nI lv) (nI P.2.2) (nI k) w' ∧ UpM 15 lv w w' ∧ TIn lv (T ++ setAt N K P k f ++ (List.range' (f + 1) m).flatMap (setAt N K P k)) w' := by
      intro eg
      rw [eg] at hlen ⊢
      have c0 := seC_ok (k := k) (t := f) hk (by omega)
      have p0 : (-1 : Int32) = mF (seC k f) ∧ nI f = mT (seC k f) ∧ (0 : Int32) = mR (seC k f) ∧ nI k = mK (seC k f) := by
        unfold mF mT mR mK
        rw [c0.1, c0.2.1, c0.2.2.1, c0.2.2.2, if_pos rfl, if_pos rfl]
        exact ⟨rfl, rfl, rfl, rfl⟩
      simp only [List.length_singleton] at hlen
      obtain ⟨u', a1, a2, a3, a4⟩ := m_tries (c := seC k f) hlv hT (by omega)
      rw [← p0.1, ← p0.2.1, ← p0.2.2.1, ← p0.2.2.2] at a1
      unfold f_X10_findTries_280 f_X10_findTries_285
      rw [if_neg (by decide), a1, bd_s]
      exact fin (T ++ [seC k f]) u' a3 a4 (by simp only [List.length_append, List.length_singleton]; omega)
    have e1 : l_X10_findTries_198 K308 (n + 1) (nI lv) (nI P.2.2) (nI k) (nI f) w = b_X10_findTries_198 (l_X10_findTries_198 K308 n) K308 (nI lv) (nI P.2.2) (nI k) (nI f) w := rfl
    rw [e1]
    unfold b_X10_findTries_198
    rw [hK.1, nI_sq, if_neg (nI_ge hf (by omega)), n168, inb_nI (show 16 * lv + (8 * P.2.2 + k) < 256 by omega) (by decide), if_pos rfl, nI_clamp (show 16 * lv + (8 * P.2.2 + k) < 2 ^ 31 by omega), hhd.1, if_neg (show ¬ nI (P.2.1 (8 * P.2.2 + k)) ≤ 0 from nI_nle (by omega) (by omega)), n49, inb_nI (show 49 * lv + f < 784 by omega) (by decide), if_pos rfl, nI_clamp (show 49 * lv + f < 2 ^ 31 by omega), hb.1]
    by_cases q0 : P.1 f = 0
    · rw [q0, if_pos z0, m_couldGoOn (by omega) hmv hf hK, bd_s]
      cases q1 : goOn N K k P.2.2 f with
      | false =>
        rw [if_pos (by decide)]
        exact no (if_neg (by simp [q1]))
      | true =>
        rw [if_neg (by decide), inb_nI hk (by decide), if_pos rfl, nI_clamp (by omega), (hM k hk).1, show nI (K.2.2 k) &&& (1 : Int32) = nI (K.2.2 k % 2) from pk_andN (by have := (hM k hk).2; omega) 1 rfl]
        by_cases q2 : K.2.2 k % 2 = 0
        · rw [q2, if_pos z0]
          exact yes (if_pos ⟨q0, q1, Or.inl q2⟩)
        · rw [if_neg (nI_ne0 (by omega) (by omega)), m_inColumn hmv hk hf hK.1 hK.2.1 hK.2.2.1 (hP.b hK.2.1), bd_s]
          cases q3 : inCol N P.1 P.2.2 k f with
          | false =>
            rw [if_pos (by decide)]
            exact yes (if_pos ⟨q0, q1, Or.inr q3⟩)
          | true =>
            rw [if_neg (by decide)]
            exact no (if_neg (by simp [q2, q3]))
    · rw [if_neg (nI_ne0 (by omega) (by omega))]
      exact no (if_neg (by simp [q0]))
theorem m_ft189 {K314 : Wd → Option (Unit × Wd)} {N lv : Nat} {K : Kd} {P : Ps} :
    ∀ (m k n : Nat) (T : List Nat) (w : Wd), k + m = 8 → 1 ≤ k → m < n → MK N K w → MM K w → MP N lv P w → TIn lv T w → T.length + ((List.range' k m).flatMap (setsOf N K P)).length ≤ 2000 →
      ∃ w', l_X10_findTries_189 K314 n (nI lv) (nI P.2.2) (nI k) w = K314 w' ∧ UpM 15 lv w w' ∧ TIn lv (T ++ (List.range' k m).flatMap (setsOf N K P)) w' := by
  intro m
  induction m with
  | zero =>
    intro k n T w hk hk1 hn hK hM hP hT hlen
    obtain ⟨n, rfl⟩ : ∃ k, n = k + 1 := ⟨n - 1, by omega⟩
    have : k = 8 := by omega
    subst this
    refine ⟨w, ?_, UpM.rf, by simpa using hT⟩
    show b_X10_findTries_189 (l_X10_findTries_189 K314 n) K314 (nI lv) (nI P.2.2) (nI 8) w = _
    unfold b_X10_findTries_189
    rw [if_pos (by decide)]
  | succ m ih =>
    intro k n T w hkm hk1 hn hK hM hP hT hlen
    obtain ⟨n, rfl⟩ : ∃ k, n = k + 1 := ⟨n - 1, by omega⟩
    have hNN := NN_le hK.2.1
    have hk : k < 8 := by omega
    have hlv := hP.1
    have hmv := hP.2.2.2.2
    have hhd := hP.2.2.1 (8 * P.2.2 + k) (by omega)
    rw [List.range'_succ, List.flatMap_cons, List.length_append] at hlen
    rw [List.range'_succ, List.flatMap_cons, ← List.append_assoc]
    have e1 : l_X10_findTries_189 K314 (n + 1) (nI lv) (nI P.2.2) (nI k) w = b_X10_findTries_189 (l_X10_findTries_189 K314 n) K314 (nI lv) (nI P.2.2) (nI k) w := rfl
    rw [e1]
    unfold b_X10_findTries_189
    rw [if_neg (show ¬ (8 : Int32) ≤ nI k from nI_ge hk (by decide))]
    have sub : ∃ u, l_X10_findTries_198 (f_X10_findTries_308 (l_X10_findTries_189 K314 n) K314) FU (nI lv) (nI P.2.2) (nI k) (nI 0) w = f_X10_findTries_308 (l_X10_findTries_189 K314 n) K314 (nI lv) (nI P.2.2) (nI k) u ∧ UpM 15 lv w u ∧ TIn lv (T ++ setsOf N K P k) u := by
      by_cases h0 : P.2.1 (8 * P.2.2 + k) = 0
      · refine ⟨w, ?_, UpM.rf, by unfold setsOf; rw [if_pos h0]; simpa using hT⟩
        have h5 := hK.2.2.1
        have hpos : 0 < N * N := Nat.mul_pos (Nat.lt_of_lt_of_le (by decide) h5) (Nat.lt_of_lt_of_le (by decide) h5)
        obtain ⟨F, hF⟩ : ∃ F, FU = F + 1 := ⟨99999, rfl⟩
        rw [hF]
        show b_X10_findTries_198 _ _ (nI lv) (nI P.2.2) (nI k) (nI 0) w = _
        unfold b_X10_findTries_198
        rw [hK.1, nI_sq, if_neg (nI_ge (a := 0) hpos (by omega)), n168, inb_nI (show 16 * lv + (8 * P.2.2 + k) < 256 by omega) (by decide), if_pos rfl, nI_clamp (show 16 * lv + (8 * P.2.2 + k) < 2 ^ 31 by omega), hhd.1, h0, if_pos (by decide)]
      · have es : setsOf N K P k = (List.range (N * N)).flatMap (setAt N K P k) := if_neg h0
        rw [es, List.range_eq_range'] at hlen ⊢
        exact m_ft198 hk hk1 h0 (N * N) 0 FU T w (Nat.zero_add _) (FU_big (by omega)) hK hM hP hT (by omega)
    obtain ⟨u, a1, a2, a3⟩ := sub
    obtain ⟨w', c1, c2, c3⟩ := ih (k + 1) n (T ++ setsOf N K P k) u (by omega) (by omega) (by omega) (hK.up a2) (hM.up a2) (hP.up (Nat.le_of_lt_succ hP.1) a2) a3 (by rw [List.length_append]; omega)
    refine ⟨w', ?_, a2.tr c2, c3⟩
    refine Eq.trans a1 ?_
    unfold f_X10_findTries_308
    rw [nI_1]
    exact c1
theorem m_findTries {N lv : Nat} {K : Kd} {P : Ps} {w : Wd} (hK : MK N K w) (hM : MM K w) (hP : MP N lv P w) (hlen : (triL N K P).length ≤ 2000) : ∃ w', f_X10_findTries (nI lv) w = some ((), w') ∧ UpM 15 lv w w' ∧ TIn lv (triL N K P) w' := by
  have hNN := NN_le hK.2.1
  have hlv := hP.1
  unfold triL at hlen ⊢
  rw [List.length_append] at hlen
  rw [List.range_eq_range'] at hlen ⊢
  unfold f_X10_findTries
  rw [inb_nI hlv (by decide), if_pos rfl, lt_e, if_pos rfl, lw_e, nI_clamp (by omega), hP.2.2.2.1]
  have u0 : UpM 15 lv w (wdI w 68 lv 0) := UpM.iC (by decide) (by omega)
  have t0 : TIn lv [] (wdI w 68 lv 0) := ⟨by rw [wI_s]; rfl, fun j c h => by simp at h⟩
  obtain ⟨w1, a1, a2, a3⟩ := m_ft16 (K187 := f_X10_findTries_187) (N * N) 0 FU [] _ (Nat.zero_add _) (FU_big (by omega)) (hK.up u0) (hP.up (Nat.le_of_lt_succ hP.1) u0) t0 (by simp only [List.length_nil]; omega)
  have u1 := u0.tr a2
  rw [List.nil_append] at a3
  obtain ⟨w2, b1, b2, b3⟩ := m_ft189 (K314 := f_X10_findTries_314) 7 1 FU _ w1 rfl (Nat.le_refl 1) (by decide) (hK.up u1) (hM.up u1) (hP.up (Nat.le_of_lt_succ hP.1) u1) a3 (by omega)
  refine ⟨w2, ?_, u1.tr b2, b3⟩
  refine Eq.trans a1 ?_
  unfold f_X10_findTries_187
  exact b1
