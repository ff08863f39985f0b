/-! ===== men, bits, what a man reaches: the reference's side ===== -/
def sd (i : Nat) : Nat := (i - 1) / 16
def tp (i : Nat) : Nat := (i - 1) % 16
def kn (i : Nat) : Nat := (i - 1) % 8
def rz (i : Nat) : Nat := (i - 1) / 8 % 2
theorem man_chk : ∀ i, i < 33 → 0 < i → (((nI i - 1) >>> ((4 : Int32) &&& 31)) &&& 1) = nI (sd i) ∧ ((nI i - 1) &&& 7) = nI (kn i) ∧ (((nI i - 1) &&& 8) = 0 ↔ rz i = 0) ∧ ((nI i - 1) &&& 15) = nI (tp i) ∧ tp i = kn i + 8 * rz i ∧ sd i < 2 ∧ tp i < 16 ∧ kn i < 8 ∧ rz i < 2 := by decide +kernel
theorem m_sideOf {i : Nat} (h0 : 0 < i) (h : i ≤ 32) (w : Wd) : f_X10_sideOf (nI i) w = some (nI (sd i), w) := by
  unfold f_X10_sideOf
  rw [(man_chk i (by omega) h0).1]
theorem m_kindOf {i : Nat} (h0 : 0 < i) (h : i ≤ 32) (w : Wd) : f_X10_kindOf (nI i) w = some (nI (kn i), w) := by
  unfold f_X10_kindOf
  rw [(man_chk i (by omega) h0).2.1]
theorem m_isRaised {i : Nat} (h0 : 0 < i) (h : i ≤ 32) (w : Wd) : f_X10_isRaised (nI i) w = some (nI (rz i), w) := by
  have hc := man_chk i (by omega) h0
  unfold f_X10_isRaised f_X10_isRaised_14
  by_cases q : rz i = 0
  · rw [if_pos (hc.2.2.1.mpr q), q]; rfl
  · rw [if_neg (fun z => q (hc.2.2.1.mp z)), show rz i = 1 by have := hc.2.2.2.2.2.2.2.2; omega]; rfl
def bt (x b : Nat) : Bool := x / 2 ^ b % 2 == 1
theorem shl_ok : ∀ n, n < 32 → ((nI n &&& 31).toBitVec.smod 32).toNat = n := by decide +kernel
theorem bit_e {x b : Nat} (hx : x < 2 ^ 31) (hb : b < 32) : ((nI x >>> (nI b &&& 31)) &&& (1 : Int32)) = nI (x / 2 ^ b % 2) := by
  rw [pk_shrN hx _ b (shl_ok b hb)]
  have : x / 2 ^ b ≤ x := Nat.div_le_self _ _
  exact pk_andN (by omega) 1 rfl
theorem bit_1 {x b : Nat} (hx : x < 2 ^ 31) (hb : b < 32) : ((nI x >>> (nI b &&& 31)) &&& (1 : Int32)) = 1 ↔ bt x b = true := by
  rw [bit_e hx hb]
  rcases (show x / 2 ^ b % 2 = 0 ∨ x / 2 ^ b % 2 = 1 by omega) with h | h <;> simp [bt, h] <;> decide
theorem bit_0 {x b : Nat} (hx : x < 2 ^ 31) (hb : b < 32) : ((nI x >>> (nI b &&& 31)) &&& (1 : Int32)) = 0 ↔ bt x b = false := by
  rw [bit_e hx hb]
  rcases (show x / 2 ^ b % 2 = 0 ∨ x / 2 ^ b % 2 = 1 by omega) with h | h <;> simp [bt, h] <;> decide
/-! lists without repetition -/
def addU (R : List Nat) (g : Nat) : List Nat := if g ∈ R then R else R ++ [g]
def addO (R : List Nat) (o : Option Nat) : List Nat := match o with
  | none => R
  | some g => addU R g
theorem nodup_len : ∀ (n : Nat) (R : List Nat), R.Nodup → (∀ g ∈ R, g < n) → R.length ≤ n
  | 0, R, _, hb => by
    cases R with
    | nil => simp
    | cons a t => exact absurd (hb a List.mem_cons_self) (by omega)
  | n + 1, R, h, hb => by
    have h1 : (R.erase n).Nodup := h.erase n
    have h2 : ∀ g ∈ R.erase n, g < n := fun g hg => by
      rw [h.mem_erase_iff] at hg
      have := hb g hg.2
      omega
    have h3 := nodup_len n (R.erase n) h1 h2
    have h4 : R.length ≤ (R.erase n).length + 1 := by
      rw [List.length_erase]
      split <;> omega
    omega
theorem addU_nodup {R : List Nat} {g : Nat} (h : R.Nodup) : (addU R g).Nodup := by
  unfold addU
  split
  · exact h
  · rename_i q
    rw [List.nodup_append]
    refine ⟨h, by simp, ?_⟩
    intro a ha b hb
    simp at hb
    subst hb
    exact fun e => q (e ▸ ha)
theorem addU_mem {R : List Nat} {g x : Nat} : x ∈ addU R g ↔ x ∈ R ∨ x = g := by
  unfold addU
  split
  · rename_i q
    constructor
    · exact Or.inl
    · rintro (h | rfl)
      · exact h
      · exact q
  · simp
/-- all but what 'reaches' writes -/
def SameM (w w' : Wd) : Prop := w'.2 = w.2 ∧ (∀ k, k ≠ 50 → k ≠ 74 → k ≠ 75 → w'.1 k = w.1 k) ∧ ∀ j, j ≠ 22 → w'.1 50 j = w.1 50 j
theorem SameM.rf {w : Wd} : SameM w w := ⟨rfl, fun _ _ _ _ => rfl, fun _ _ => rfl⟩
theorem SameM.tr {a b c : Wd} (h1 : SameM a b) (h2 : SameM b c) : SameM a c := ⟨h2.1.trans h1.1, fun k x y z => (h2.2.1 k x y z).trans (h1.2.1 k x y z), fun j x => (h2.2.2 j x).trans (h1.2.2 j x)⟩
theorem SameM.i75 {w : Wd} {j : Nat} {v : Int32} : SameM w (wdI w 75 j v) := ⟨rfl, fun k _ _ h => wI_c h, fun j _ => by rw [wI_c (by decide)]⟩
theorem SameM.i74 {w : Wd} {j : Nat} {v : Int32} : SameM w (wdI w 74 j v) := ⟨rfl, fun k _ h _ => wI_c h, fun j _ => by rw [wI_c (by decide)]⟩
theorem SameM.i50 {w : Wd} {v : Int32} : SameM w (wdI w 50 22 v) := ⟨rfl, fun k h _ _ => wI_c h, fun j h => wI_n h⟩
/-- the list of what was reached, in the reference's cells -/
def RIn (R : List Nat) (w : Wd) : Prop := w.1 50 22 = nI R.length ∧ (∀ k g, R[k]? = some g → w.1 74 k = nI g) ∧ (∀ q, q < 49 → w.1 75 q = if q ∈ R then 1 else 0) ∧ R.Nodup ∧ ∀ g ∈ R, g < 49
theorem m_comesTo {g : Nat} {R : List Nat} {w : Wd} (hg : g < 49) (h : RIn R w) : ∃ w', f_X10_comesTo (nI g) w = some ((), w') ∧ SameM w w' ∧ RIn (addU R g) w' := by
  obtain ⟨h1, h2, h3, h4, h5⟩ := h
  have hlen := nodup_len 49 R h4 h5
  unfold f_X10_comesTo f_X10_comesTo_36
  have hi : inb (nI g) 49 = true := inb_nI hg (by omega)
  have hc : Int32.toNatClampNeg (nI g) = g := nI_clamp (by omega)
  simp only [hi, if_true, hc, lw_e]
  rw [h3 g hg]
  by_cases q : g ∈ R
  · rw [if_pos q, if_neg (by decide)]
    refine ⟨w, rfl, SameM.rf, ?_⟩
    have e : addU R g = R := if_pos q
    rw [e]
    exact ⟨h1, h2, h3, h4, h5⟩
  · rw [if_neg q, if_pos rfl]
    have e0 : vp_nar .boolean 1 = 1 := rfl
    have hlt : R.length < 64 := by omega
    have e1 : (wdI w 75 g 1).1 50 22 = nI R.length := by rw [wI_c (by decide)]; exact h1
    have e2 : (wdI (wdI w 75 g 1) 74 R.length (nI g)).1 50 22 = nI R.length := by rw [wI_c (by decide)]; exact e1
    rw [e0, e1, inb_nI hlt (by omega), if_pos rfl, nI_clamp (show R.length < 2 ^ 31 by omega), e2]
    refine ⟨_, rfl, (SameM.i75.tr SameM.i74).tr SameM.i50, ?_⟩
    have e : addU R g = R ++ [g] := if_neg q
    rw [e]
    refine ⟨?_, ?_, ?_, ?_, ?_⟩
    · rw [wI_s, List.length_append]
      exact nI_1 _
    · intro k x hk
      rw [wI_c (by decide)]
      by_cases hkl : k = R.length
      · subst hkl
        rw [wI_s]
        simp at hk
        rw [hk]
      · rw [wI_n hkl, wI_c (by decide)]
        have hk2 : k < R.length := by
          have := (List.getElem?_eq_some_iff.mp hk).1
          simp at this
          omega
        rw [List.getElem?_append_left hk2] at hk
        exact h2 k x hk
    · intro x hx
      rw [wI_c (by decide), wI_c (by decide)]
      by_cases hxg : x = g
      · subst hxg
        rw [wI_s, if_pos (by simp)]
      · rw [wI_n hxg, h3 x hx]
        simp [hxg]
    · have := addU_nodup (g := g) h4
      rwa [e] at this
    · intro x hx
      rcases List.mem_append.mp hx with hx | hx
      · exact h5 x hx
      · simp at hx
        omega
/-- a loop that counts up -/
theorem loop_up {α : Type} (L : Nat → Int32 → Wd → Option α) (K : Wd → Option α) (e : Nat) (I : Nat → Wd → Prop)
    (hx : ∀ n w, I e w → L (n + 1) (nI e) w = K w) (hs : ∀ n i w, i < e → I i w → ∃ w', L (n + 1) (nI i) w = L n (nI (i + 1)) w' ∧ I (i + 1) w') :
    ∀ (m i : Nat) (w : Wd), i + m = e → I i w → ∀ n, m < n → ∃ w', L n (nI i) w = K w' ∧ I e w' := by
  intro m
  induction m with
  | zero =>
    intro i w hi hI n hn
    obtain ⟨n, rfl⟩ : ∃ k, n = k + 1 := ⟨n - 1, by omega⟩
    have : i = e := by omega
    subst this
    exact ⟨w, hx n w hI, hI⟩
  | succ m ih =>
    intro i w hi hI n hn
    obtain ⟨n, rfl⟩ : ∃ k, n = k + 1 := ⟨n - 1, by omega⟩
    obtain ⟨w1, h1, h2⟩ := hs n i w (by omega) hI
    obtain ⟨w', a1, a2⟩ := ih (i + 1) w1 (by omega) h2 n (by omega)
    exact ⟨w', h1.trans a1, a2⟩
/-! kinds: steps, runs (by type), marks -/
abbrev Kd : Type := (Nat → Nat) × (Nat → Nat) × (Nat → Nat)
def stepO (N : Nat) (K : Kd) (i f b : Nat) : Option Nat := if bt (K.1 (tp i)) b = true then nx N (dirOf (sd i) b) f else none
/-- from a field on (or none), over empty ones, at most k -/
def rayO (N d : Nat) (bo : Nat → Nat) : Nat → Option Nat → List Nat
  | 0, _ => []
  | _ + 1, none => []
  | k + 1, some g => g :: (if bo g = 0 then rayO N d bo k (nx N d g) else [])
def ends (N d : Nat) : Nat → Option Nat → Bool
  | _, none => true
  | 0, some _ => false
  | k + 1, some g => ends N d k (nx N d g)
def runO (N : Nat) (K : Kd) (i f b : Nat) : Option Nat := if bt (K.2.1 (tp i)) b = true then nx N (dirOf (sd i) b) f else none
def stepsR (N : Nat) (K : Kd) (i f : Nat) : List Nat := (List.range 10).foldl (fun R b => addO R (stepO N K i f b)) []
def reachL (N : Nat) (K : Kd) (bo : Nat → Nat) (i f : Nat) : List Nat := (List.range 8).foldl (fun R b => (rayO N (dirOf (sd i) b) bo 7 (runO N K i f b)).foldl addU R) (stepsR N K i f)
theorem ends_chk : ∀ N, N < 8 → 5 ≤ N → ∀ d, d < 8 → ∀ f, f < N * N → ends N d 6 (nx N d f) = true := by decide +kernel
theorem ends_up {N d : Nat} : ∀ (k : Nat) (o : Option Nat), ends N d k o = true → ends N d (k + 1) o = true
  | _, none, _ => by unfold ends; rfl
  | 0, some g, h => by unfold ends at h; cases h
  | k + 1, some g, h => by
    unfold ends at h ⊢
    exact ends_up k _ h
theorem rayO_st {N d : Nat} {bo : Nat → Nat} : ∀ (k : Nat) (o : Option Nat), ends N d k o = true → rayO N d bo (k + 1) o = rayO N d bo k o
  | 0, none, _ => rfl
  | k + 1, none, _ => rfl
  | 0, some g, h => by unfold ends at h; cases h
  | k + 1, some g, h => by
    unfold ends at h
    show g :: (if bo g = 0 then rayO N d bo (k + 1) (nx N d g) else []) = g :: (if bo g = 0 then rayO N d bo k (nx N d g) else [])
    rw [rayO_st k _ h]
/-- what the reference's cells hold of kinds and of a board at a level -/
def MK (N : Nat) (K : Kd) (w : Wd) : Prop := w.1 50 0 = nI N ∧ N ≤ 7 ∧ 5 ≤ N ∧ ∀ t, t < 16 → w.1 53 t = nI (K.1 t) ∧ w.1 54 t = nI (K.2.1 t) ∧ K.1 t < 1024 ∧ K.2.1 t < 256
def MB (N lv : Nat) (bo : Nat → Nat) (w : Wd) : Prop := lv < 16 ∧ ∀ q, q < N * N → w.1 60 (49 * lv + q) = nI (bo q) ∧ bo q ≤ 32
theorem MK.same {N : Nat} {K : Kd} {w w' : Wd} (h : MK N K w) (s : SameM w w') : MK N K w' := ⟨by rw [s.2.2 0 (by decide)]; exact h.1, h.2.1, h.2.2.1, fun t ht => by rw [s.2.1 53 (by decide) (by decide) (by decide), s.2.1 54 (by decide) (by decide) (by decide)]; exact h.2.2.2 t ht⟩
theorem MB.same {N lv : Nat} {bo : Nat → Nat} {w w' : Wd} (h : MB N lv bo w) (s : SameM w w') : MB N lv bo w' := ⟨h.1, fun q hq => by rw [s.2.1 60 (by decide) (by decide) (by decide)]; exact h.2 q hq⟩
theorem NN_le {N : Nat} (h : N ≤ 7) : N * N ≤ 49 := Nat.mul_le_mul h h
theorem dirOf_lt {s b : Nat} (hs : s < 2) (hb : b < 10) : dirOf s b < 12 := by
  unfold dirOf
  split
  · omega
  · exact (trn_lt b (by omega)).1
theorem dirOf_lt8 : ∀ s, s < 2 → ∀ b, b < 8 → dirOf s b < 8 := by decide
theorem ov_neg {o : Option Nat} (h : ∀ g, o = some g → g < 49) : ov o < 0 ↔ o = none := by
  cases o with
  | none => exact ⟨fun _ => rfl, fun _ => by decide⟩
  | some g =>
    have := nI_pos (n := g) (by have := h g rfl; omega)
    exact ⟨fun q => absurd q this, fun q => by cases q⟩
