/-! ===== the class: attacked, looked at from the field ===== -/
/-- the first man from field a on in direction d, at most k fields further -/
def fman (N d : Nat) (bo : Nat → Nat) : Nat → Nat → Nat
  | 0, a => bo a
  | k + 1, a => if bo a = 0 then (match nx N d a with
    | none => 0
    | some g => fman N d bo k g) else bo a
/-- bits of a way turned about -/
def tbits (x : Nat) : Nat := (List.range 10).foldl (fun a b => if bt x b = true then a ||| 2 ^ trn b else a) 0
def sdir (K : Kd) (i : Nat) : Nat := if i = 0 then 0 else if sd i = 0 then K.1 (tp i) else tbits (K.1 (tp i))
def rdir (K : Kd) (i : Nat) : Nat := if i = 0 then 0 else if sd i = 0 then K.2.1 (tp i) else tbits (K.2.1 (tp i))
def XD (K : Kd) (w : Wd) : Prop := ∀ i, i < 33 → w.1 8 i = nI (sdir K i) ∧ w.1 9 i = nI (rdir K i) ∧ sdir K i < 4096 ∧ rdir K i < 4096
def isOf (s m : Nat) : Bool := decide (m ≠ 0) && decide (sd m = s)
theorem isOf_e {s m : Nat} (hs : s < 2) (hm : m ≤ 32) : ((if m = 0 then (-1 : Int32) else nI (sd m)) = nI s) ↔ isOf s m = true := by
  unfold isOf
  by_cases h : m = 0
  · rw [if_pos h]
    simp [h]
    rcases (show s = 0 ∨ s = 1 by omega) with rfl | rfl <;> decide
  · rw [if_neg h]
    have := (man_chk m (by omega) (by omega)).2.2.2.2.2.1
    rw [nI_inj (by omega) (by omega)]
    simp [h]
def aDir (N : Nat) (K : Kd) (bo : Nat → Nat) (s f d : Nat) : Bool := match nx N d f with
  | none => false
  | some a => (isOf s (bo a) && bt (sdir K (bo a)) (trn d)) || (isOf s (fman N d bo (if 8 ≤ d then 0 else N - 2) a) && bt (rdir K (fman N d bo (if 8 ≤ d then 0 else N - 2) a)) (trn d))
def atkX (N : Nat) (K : Kd) (bo : Nat → Nat) (s f : Nat) : Bool := (List.range 12).any (aDir N K bo s f)
theorem fman_le {N d : Nat} {bo : Nat → Nat} (h1 : N ≤ 7) (h2 : 5 ≤ N) (hd : d < 12) (hb : ∀ q, q < N * N → bo q ≤ 32) : ∀ (k a : Nat), a < N * N → fman N d bo k a ≤ 32
  | 0, a, ha => hb a ha
  | k + 1, a, ha => by
    unfold fman
    split
    · split
      · omega
      · rename_i g hg
        exact fman_le h1 h2 hd hb k g (nx_lt h1 h2 hd ha hg).1
    · exact hb a ha
theorem x_a98 {K134 K152 : Int32 → Int32 → Int32 → Int32 → Int32 → Wd → Option (Int32 × Wd)} {N d far : Nat} {K : Kd} {bo : Nat → Nat} {v1 v2 v5 : Int32} {w : Wd} (h134 : ∀ a b c d e w, K134 a b c d e w = K152 a b c d e w) (hd : d < 12) (hfar : far ≤ 7) (hK : XK N K w) (hB : XB N bo w) :
    ∀ (k stp a n : Nat), stp + k = far → k < n → a < N * N → l_X6_attacked_98 N K134 K152 n v1 v2 (nI d) (nI a) v5 (nI far) (nI (bo a)) (nI stp) w = K152 v1 v2 (nI d) v5 (nI (fman N d bo k a)) w := by
  have hNN := NN_le hK.2.2.1
  have h5 := hK.2.2.2.1
  intro k
  induction k with
  | zero =>
    intro stp a n hst hn ha
    obtain ⟨n, rfl⟩ : ∃ k, n = k + 1 := ⟨n - 1, by omega⟩
    show b_X6_attacked_98 N (l_X6_attacked_98 N K134 K152 n) K134 K152 v1 v2 (nI d) (nI a) v5 (nI far) (nI (bo a)) (nI stp) w = _
    unfold b_X6_attacked_98
    rw [if_pos (nI_le (by omega) (by omega))]
    rfl
  | succ k ih =>
    intro stp a n hst hn ha
    obtain ⟨n, rfl⟩ : ∃ k, n = k + 1 := ⟨n - 1, by omega⟩
    have hb := hB a ha
    show b_X6_attacked_98 N (l_X6_attacked_98 N K134 K152 n) K134 K152 v1 v2 (nI d) (nI a) v5 (nI far) (nI (bo a)) (nI stp) w = _
    unfold b_X6_attacked_98 fman
    rw [if_neg (nI_ge (by omega) (by omega))]
    by_cases q : bo a = 0
    · rw [q, if_pos z0, if_pos rfl, hK.2.1, xidx, inb_nI (dNN hd ha) (by omega), if_pos rfl, lt_e, nI_clamp (by have := dNN hd ha; omega), hK.2.2.2.2.1 d hd a ha]
      cases ho : nx N d a with
      | none =>
        rw [if_neg (show ¬ (0 : Int32) ≤ ov none by decide), h134]
      | some g =>
        have hg := (nx_lt hK.2.2.1 h5 hd ha ho).1
        rw [if_pos (show (0 : Int32) ≤ ov (some g) from nI_pos' (by omega))]
        show (if inb (nI g) (N * N) = true then _ else none) = _
        rw [inb_nI hg (by omega), if_pos rfl, lt_e]
        show l_X6_attacked_98 N K134 K152 n v1 v2 (nI d) (nI g) v5 (nI far) (w.1 23 (Int32.toNatClampNeg (nI g))) (nI stp + 1) w = _
        rw [nI_clamp (by omega), (hB g hg).1, nI_1]
        exact ih (stp + 1) g n (by omega) (by omega) hg
    · rw [if_neg (nI_ne0 (by omega) (by omega)), if_neg q]
theorem x_attacked {N s f : Nat} {K : Kd} {bo : Nat → Nat} {w : Wd} (hs : s < 2) (hf : f < N * N) (hK : XK N K w) (hD : XD K w) (hB : XB N bo w) : f_X6_attacked N (nI s) (nI f) w = some (b2i (atkX N K bo s f), w) := by
  have hNN := NN_le hK.2.2.1
  have h5 := hK.2.2.2.1
  have hN7 := hK.2.2.1
  have main : ∀ (m d n : Nat), d + m = 12 → m < n → l_X6_attacked_2 N (f_X6_attacked_93 N) (f_X6_attacked_179 N) (f_X6_attacked_187 N) n (nI s) (nI f) (nI d) w = some (b2i ((List.range' d m).any (aDir N K bo s f)), w) := by
    intro m
    induction m with
    | zero =>
      intro d n hd hn
      obtain ⟨n, rfl⟩ : ∃ k, n = k + 1 := ⟨n - 1, by omega⟩
      have : d = 12 := by omega
      subst this
      show b_X6_attacked_2 N (l_X6_attacked_2 N (f_X6_attacked_93 N) (f_X6_attacked_179 N) (f_X6_attacked_187 N) n) (f_X6_attacked_93 N) (f_X6_attacked_179 N) (f_X6_attacked_187 N) (nI s) (nI f) (nI 12) w = _
      unfold b_X6_attacked_2
      rw [if_pos (by decide)]
      rfl
    | succ m ih =>
      intro d n hd hn
      obtain ⟨n, rfl⟩ : ∃ k, n = k + 1 := ⟨n - 1, by omega⟩
      have hd12 : d < 12 := by omega
      have htr := (trn_lt d hd12).1
      have next : ∀ v : Wd, v = w → f_X6_attacked_181 N (l_X6_attacked_2 N (f_X6_attacked_93 N) (f_X6_attacked_179 N) (f_X6_attacked_187 N) n) (f_X6_attacked_93 N) (f_X6_attacked_179 N) (f_X6_attacked_187 N) (nI s) (nI f) (nI d) v = some (b2i ((List.range' (d + 1) m).any (aDir N K bo s f)), w) := by
        intro v hv
        subst hv
        unfold f_X6_attacked_181
        rw [nI_1]
        exact ih (d + 1) n (by omega) (by omega)
      show b_X6_attacked_2 N (l_X6_attacked_2 N (f_X6_attacked_93 N) (f_X6_attacked_179 N) (f_X6_attacked_187 N) n) (f_X6_attacked_93 N) (f_X6_attacked_179 N) (f_X6_attacked_187 N) (nI s) (nI f) (nI d) w = _
      unfold b_X6_attacked_2
      rw [if_neg (show ¬ (12 : Int32) ≤ nI d from nI_ge hd12 (by decide)), hK.2.1, xidx, inb_nI (dNN hd12 hf) (by omega), if_pos rfl, lt_e, nI_clamp (by have := dNN hd12 hf; omega), hK.2.2.2.2.1 d hd12 f hf, List.range'_succ, List.any_cons]
      cases ho : nx N d f with
      | none =>
        rw [if_neg (show ¬ (0 : Int32) ≤ ov none by decide), next w rfl]
        unfold aDir
        rw [ho]
        rfl
      | some a =>
        have ha := (nx_lt hN7 h5 hd12 hf ho).1
        have hba := hB a ha
        have hDa := hD (bo a) (by omega)
        rw [if_pos (show (0 : Int32) ≤ ov (some a) from nI_pos' (by omega)), inb_nI hd12 (by decide), if_pos rfl, lt_e, nI_clamp (by omega), turned_e d hd12]
        have ed : aDir N K bo s f d = ((isOf s (bo a) && bt (sdir K (bo a)) (trn d)) || (isOf s (fman N d bo (if 8 ≤ d then 0 else N - 2) a) && bt (rdir K (fman N d bo (if 8 ≤ d then 0 else N - 2) a)) (trn d))) := by
          unfold aDir
          rw [ho]
        have e55 : (if (8 : Int32) ≤ nI d then f_X6_attacked_55 N (l_X6_attacked_2 N (f_X6_attacked_93 N) (f_X6_attacked_179 N) (f_X6_attacked_187 N) n) (f_X6_attacked_93 N) (f_X6_attacked_179 N) (f_X6_attacked_187 N) (nI s) (nI f) (nI d) (ov (some a)) (nI (trn d)) (2 : Int32) w else f_X6_attacked_55 N (l_X6_attacked_2 N (f_X6_attacked_93 N) (f_X6_attacked_179 N) (f_X6_attacked_187 N) n) (f_X6_attacked_93 N) (f_X6_attacked_179 N) (f_X6_attacked_187 N) (nI s) (nI f) (nI d) (ov (some a)) (nI (trn d)) (w.1 22 1) w) = f_X6_attacked_55 N (l_X6_attacked_2 N (f_X6_attacked_93 N) (f_X6_attacked_179 N) (f_X6_attacked_187 N) n) (f_X6_attacked_93 N) (f_X6_attacked_179 N) (f_X6_attacked_187 N) (nI s) (nI f) (nI d) (nI a) (nI (trn d)) (nI (if 8 ≤ d then 2 else N)) w := by
          by_cases h8 : 8 ≤ d
          · rw [if_pos (show (8 : Int32) ≤ nI d from nI_le (a := 8) h8 (by omega)), if_pos h8]; rfl
          · rw [if_neg (show ¬ (8 : Int32) ≤ nI d from nI_ge (a := d) (b := 8) (by omega) (by decide)), if_neg h8, hK.1]; rfl
        rw [e55]
        unfold f_X6_attacked_55
        rw [inb_nI ha (by omega), if_pos rfl, lt_e, nI_clamp (by omega), hba.1, x_sideOf hba.2, bd_s]
        -- behind the step: the run
        have run : (isOf s (bo a) && bt (sdir K (bo a)) (trn d)) = false → f_X6_attacked_95 N (l_X6_attacked_2 N (f_X6_attacked_93 N) (f_X6_attacked_179 N) (f_X6_attacked_187 N) n) (f_X6_attacked_93 N) (f_X6_attacked_179 N) (f_X6_attacked_187 N) (nI s) (nI f) (nI d) (nI a) (nI (trn d)) (nI (if 8 ≤ d then 2 else N)) (nI (bo a)) w = some (b2i (aDir N K bo s f d || (List.range' (d + 1) m).any (aDir N K bo s f)), w) := by
          intro hz
          unfold f_X6_attacked_95
          have hr := x_a98 (K134 := f_X6_attacked_134 N (l_X6_attacked_2 N (f_X6_attacked_93 N) (f_X6_attacked_179 N) (f_X6_attacked_187 N) n) (f_X6_attacked_93 N) (f_X6_attacked_179 N) (f_X6_attacked_187 N)) (K152 := f_X6_attacked_152 N (l_X6_attacked_2 N (f_X6_attacked_93 N) (f_X6_attacked_179 N) (f_X6_attacked_187 N) n) (f_X6_attacked_93 N) (f_X6_attacked_179 N) (f_X6_attacked_187 N)) (far := if 8 ≤ d then 2 else N) (v1 := nI s) (v2 := nI f) (v5 := nI (trn d)) (fun _ _ _ _ _ _ => rfl) hd12 (by split <;> omega) hK hB (if 8 ≤ d then 0 else N - 2) 2 a FU (by split <;> omega) (FU_big (by split <;> omega)) ha
          refine Eq.trans hr ?_
          rw [ed, hz, Bool.false_or]
          have hfl := fman_le hN7 h5 hd12 (fun q hq => (hB q hq).2) (if 8 ≤ d then 0 else N - 2) a ha
          generalize fman N d bo (if 8 ≤ d then 0 else N - 2) a = mm at hfl ⊢
          have hDm := hD mm (by omega)
          unfold f_X6_attacked_152
          rw [x_sideOf hfl, bd_s]
          cases hq : isOf s mm with
          | false =>
            rw [if_neg (fun z => by rw [isOf_e hs hfl, hq] at z; cases z), next w rfl]
            rfl
          | true =>
            rw [if_pos ((isOf_e hs hfl).mpr hq), inb_nI (show mm < 33 by omega) (by decide), if_pos rfl, nI_clamp (by omega), hDm.2.1]
            cases hq2 : bt (rdir K mm) (trn d) with
            | false =>
              rw [if_pos ((bit_0 (by omega) (by omega)).mpr hq2), next w rfl]
              rfl
            | true =>
              rw [if_neg (fun z => by rw [bit_0 (by omega) (by omega), hq2] at z; cases z)]
              rfl
        cases hq : isOf s (bo a) with
        | false =>
          rw [if_neg (fun z => by rw [isOf_e hs hba.2, hq] at z; cases z)]
          exact run (by rw [hq]; rfl)
        | true =>
          rw [if_pos ((isOf_e hs hba.2).mpr hq), inb_nI (show bo a < 33 by omega) (by decide), if_pos rfl, nI_clamp (by omega), hDa.1]
          cases hq2 : bt (sdir K (bo a)) (trn d) with
          | false =>
            rw [if_pos ((bit_0 (by omega) (by omega)).mpr hq2)]
            exact run (by rw [hq2, Bool.and_false])
          | true =>
            rw [if_neg (fun z => by rw [bit_0 (by omega) (by omega), hq2] at z; cases z), ed, hq, hq2]
            rfl
  have h := main 12 0 FU (by omega) (by decide)
  unfold f_X6_attacked atkX
  rw [List.range_eq_range']
  exact h
