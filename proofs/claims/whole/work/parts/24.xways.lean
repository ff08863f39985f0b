/-! ===== the class: going on, being raised ===== -/
def opB (N f : Nat) : Nat := (List.range 12).foldl (fun a d => if (nx N d f).isSome = true then a ||| 2 ^ d else a) 0
theorem op_fold (N f e : Nat) : ∀ (l : List Nat) (a : Nat), bt (l.foldl (fun a d => if (nx N d f).isSome = true then a ||| 2 ^ d else a) a) e = (bt a e || l.any fun d => (nx N d f).isSome && decide (d = e))
  | [], a => by simp
  | b :: l, a => by
    rw [List.foldl_cons, op_fold N f e l, List.any_cons]
    cases h : (nx N b f).isSome with
    | false => simp
    | true =>
      rw [if_pos rfl, bt_or, bt_pow, Bool.or_assoc]
      simp
theorem opB_bt {N f e : Nat} : bt (opB N f) e = true ↔ e < 12 ∧ (nx N e f).isSome = true := by
  unfold opB
  rw [op_fold]
  have : bt 0 e = false := by rw [bt_tb]; simp
  rw [this, Bool.false_or, List.any_eq_true]
  constructor
  · rintro ⟨d, h1, h2⟩
    simp only [Bool.and_eq_true, decide_eq_true_eq] at h2
    obtain ⟨h2, rfl⟩ := h2
    exact ⟨by simpa using h1, h2⟩
  · rintro ⟨h1, h2⟩
    exact ⟨e, by simpa using h1, by simp [h2]⟩
theorem bt_lt {x n : Nat} (h : ∀ e, bt x e = true → e < n) : x < 2 ^ n := by
  apply Nat.lt_pow_two_of_testBit
  intro i hi
  cases hb : x.testBit i with
  | false => rfl
  | true =>
    have := h i (by rw [bt_tb]; exact hb)
    omega
theorem opB_lt (N f : Nat) : opB N f < 4096 := bt_lt (n := 12) (fun e h => (opB_bt.mp h).1)
/-- what Ways holds beside: its sizes, open ways, zones, marks -/
def XW (N : Nat) (K : Kd) (w : Wd) : Prop := w.1 2 0 = nI N ∧ w.1 2 1 = nI (N * N) ∧ (∀ f, f < N * N → w.1 4 f = nI (opB N f)) ∧ (∀ s, s < 2 → ∀ f, f < N * N → w.1 5 (s * (N * N) + f) = b2i (zn N s f)) ∧ ∀ k, k < 8 → w.1 10 k = nI (K.2.2 k) ∧ K.2.2 k < 4
theorem nI_and (a b : Nat) : nI a &&& nI b = nI (a &&& b) := by
  apply Int32.toBitVec_inj.mp
  show BitVec.ofNat 32 a &&& BitVec.ofNat 32 b = BitVec.ofNat 32 (a &&& b)
  exact BitVec.ofNat_and.symm
theorem and_ne0 {x y : Nat} : x &&& y ≠ 0 ↔ ∃ e, bt x e = true ∧ bt y e = true := by
  constructor
  · intro h
    obtain ⟨i, hi⟩ := Nat.exists_testBit_of_ne_zero h
    rw [Nat.testBit_and, Bool.and_eq_true] at hi
    exact ⟨i, by rw [bt_tb]; exact hi.1, by rw [bt_tb]; exact hi.2⟩
  · rintro ⟨e, h1, h2⟩ h
    have : (x &&& y).testBit e = true := by
      rw [Nat.testBit_and, ← bt_tb, ← bt_tb, h1, h2]; rfl
    rw [h] at this
    simp at this
theorem x_goesOn {N i f : Nat} {K : Kd} {w : Wd} (h0 : 0 < i) (h32 : i ≤ 32) (hf : f < N * N) (hK : XK N K w) (hD : XD K w) (hW : XW N K w) : f_X8_goesOn N (nI i) (nI f) w = some (b2i (goOn N K (tp i) (sd i) f), w) := by
  have hNN := NN_le hK.2.2.1
  have hm := man_chk i (by omega) h0
  have hd := hD i (by omega)
  have hT := hK.2.2.2.2.2 (tp i) hm.2.2.2.2.2.2.1
  have key : ((sdir K i ||| rdir K i) &&& opB N f ≠ 0) ↔ goOn N K (tp i) (sd i) f = true := by
    rw [and_ne0]
    unfold goOn
    rw [List.any_eq_true]
    have e1 : ∀ e, bt (sdir K i) e = true ↔ ∃ b, b < 10 ∧ bt (K.1 (tp i)) b = true ∧ dirOf (sd i) b = e := fun e => by
      unfold sdir; rw [if_neg (by omega)]; exact dir_bt (by omega) (Nat.le_refl _) hT.2.2.1
    have e2 : ∀ e, bt (rdir K i) e = true ↔ ∃ b, b < 8 ∧ bt (K.2.1 (tp i)) b = true ∧ dirOf (sd i) b = e := fun e => by
      unfold rdir; rw [if_neg (by omega)]; exact dir_bt (by omega) (by omega) hT.2.2.2
    constructor
    · rintro ⟨e, g1, g2⟩
      rw [bt_or, Bool.or_eq_true, e1, e2] at g1
      rw [opB_bt] at g2
      rcases g1 with ⟨b, c1, c2, c3⟩ | ⟨b, c1, c2, c3⟩
      · exact ⟨b, by simpa using c1, by rw [c3, g2.2, c2]; simp⟩
      · exact ⟨b, by simp; omega, by rw [c3, g2.2, c2]; simp [c1]⟩
    · rintro ⟨b, g1, g2⟩
      have hb : b < 10 := by simpa using g1
      simp only [Bool.and_eq_true, Bool.or_eq_true, decide_eq_true_eq] at g2
      obtain ⟨g2, g3⟩ := g2
      refine ⟨dirOf (sd i) b, ?_, opB_bt.mpr ⟨dirOf_lt (by omega) hb, g3⟩⟩
      rw [bt_or, Bool.or_eq_true, e1, e2]
      rcases g2 with g2 | ⟨g2, g4⟩
      · exact Or.inl ⟨b, hb, g2, rfl⟩
      · exact Or.inr ⟨b, g2, g4, rfl⟩
  have hop := opB_lt N f
  have hlt : (sdir K i ||| rdir K i) &&& opB N f < 4096 := Nat.lt_of_le_of_lt Nat.and_le_right hop
  unfold f_X8_goesOn f_X8_goesOn_28
  rw [inb_nI (show i < 33 by omega) (by decide), if_pos rfl, if_pos rfl, inb_nI hf (by omega), if_pos rfl, nI_clamp (show i < 2 ^ 31 by omega), nI_clamp (show f < 2 ^ 31 by omega), hd.1, hd.2.1, hW.2.2.1 f hf, nI_or, nI_and]
  cases hq : goOn N K (tp i) (sd i) f with
  | false =>
    have : (sdir K i ||| rdir K i) &&& opB N f = 0 := Classical.byContradiction fun z => by
      have := key.mp z
      rw [hq] at this
      cases this
    rw [this, if_pos z0]
    rfl
  | true =>
    have := key.mpr hq
    rw [if_neg (nI_ne0 (by omega) (by omega))]
    rfl
theorem or_0 {a b : Nat} : a ||| b = 0 ↔ a = 0 ∧ b = 0 := Nat.or_eq_zero_iff
theorem sd16 : ∀ i, i < 33 → 0 < i → (i ≤ 16 ↔ sd i = 0) := by decide
theorem tp8 : ∀ i, i < 33 → 0 < i → (8 ≤ tp i ↔ rz i ≠ 0) ∧ (rz i = 0 → tp i = kn i) := by decide
theorem x_canBeRaised {N i f t : Nat} {K : Kd} {w : Wd} (h0 : 0 < i) (h32 : i ≤ 32) (hf : f < N * N) (ht : t < N * N) (hK : XK N K w) (hW : XW N K w) : f_X8_canBeRaised N (nI i) (nI f) (nI t) w = some (b2i (rais N K i (sd i) f t), w) := by
  have hNN := NN_le hK.2.2.1
  have hm := man_chk i (by omega) h0
  have h16 := sd16 i (by omega) h0
  have h8 := tp8 i (by omega) h0
  have hs := hm.2.2.2.2.2.1
  have e22 : f_X8_canBeRaised N (nI i) (nI f) (nI t) w = f_X8_canBeRaised_22 N (nI f) (nI t) (nI (tp i)) (nI (sd i * (N * N))) w := by
    unfold f_X8_canBeRaised
    rw [lt_e, hm.2.2.2.1]
    by_cases q : i ≤ 16
    · rw [if_pos (show nI i ≤ (16 : Int32) from nI_le q (by decide)), h16.mp q, Nat.zero_mul]; rfl
    · rw [if_neg (show ¬ nI i ≤ (16 : Int32) from nI_ge (a := 16) (by omega) (by omega)), hW.2.1, show sd i = 1 from by
        have : sd i ≠ 0 := fun e => q (h16.mpr e)
        omega, Nat.one_mul]
  rw [e22]
  unfold f_X8_canBeRaised_22 f_X8_canBeRaised_83 f_X8_canBeRaised_79 f_X8_canBeRaised_84 rais
  by_cases q8 : 8 ≤ tp i
  · rw [if_pos (show (8 : Int32) ≤ nI (tp i) from nI_le (a := 8) q8 (by omega))]
    have : rz i ≠ 0 := h8.1.mp q8
    simp [this, zb0, b2i]
  · have hz : rz i = 0 := Classical.byContradiction fun z => q8 (h8.1.mpr z)
    have htk := h8.2 hz
    have hT := hK.2.2.2.2.2 (8 + kn i) (by have := kn_lt i; omega)
    have b1 : sd i * (N * N) + f < 2 * (N * N) := by
      have : (sd i + 1) * (N * N) ≤ 2 * (N * N) := Nat.mul_le_mul_right _ (by omega)
      rw [Nat.add_mul] at this
      omega
    have b2 : sd i * (N * N) + t < 2 * (N * N) := by
      have : (sd i + 1) * (N * N) ≤ 2 * (N * N) := Nat.mul_le_mul_right _ (by omega)
      rw [Nat.add_mul] at this
      omega
    rw [if_neg (show ¬ (8 : Int32) ≤ nI (tp i) from nI_ge (b := 8) (by omega) (by decide)), show nI (tp i) + (8 : Int32) = nI (8 + kn i) from by rw [htk, Nat.add_comm]; exact nI_add (kn i) 8, inb_nI (by have := kn_lt i; omega) (by decide), if_pos rfl, if_pos rfl, nI_clamp (by have := kn_lt i; omega), hT.1, hT.2.1, nI_or]
    have hol : K.1 (8 + kn i) ||| K.2.1 (8 + kn i) < 2 ^ 31 := or_lt (by omega) (by omega)
    cases hq : mrz K (kn i) with
    | false =>
      unfold mrz at hq
      simp only [Bool.or_eq_false_iff, decide_eq_false_iff_not, Classical.not_not] at hq
      rw [or_0.mpr hq, if_pos z0]
      simp [zb0, b2i]
    | true =>
      have hne : K.1 (8 + kn i) ||| K.2.1 (8 + kn i) ≠ 0 := fun z => by
        have := or_0.mp z
        unfold mrz at hq
        simp [this.1, this.2] at hq
      rw [if_neg (nI_ne0 (by omega) hol), nI_add, inb_nI b1 (by omega), if_pos rfl, nI_clamp (by omega), hW.2.2.2.1 _ hs f hf]
      cases hq2 : zn N (sd i) f with
      | true => rw [if_neg (by decide)]; simp [hz, zb1, b2i]
      | false =>
        rw [if_pos (by decide), nI_add, inb_nI b2 (by omega), if_pos rfl, nI_clamp (by omega), hW.2.2.2.1 _ hs t ht]
        cases hq3 : zn N (sd i) t with
        | true => rw [if_neg (by decide)]; simp [hz, zb1, b2i]
        | false => rw [if_pos (by decide)]; simp [zb0, b2i]
