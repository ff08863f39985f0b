/-! ===== attacked from the field and by the men: the same ===== -/
theorem bt_pow (k e : Nat) : bt (2 ^ k) e = decide (k = e) := by rw [bt_tb, Nat.testBit_two_pow]
theorem tb_fold (x e : Nat) : ∀ (l : List Nat) (a : Nat), bt (l.foldl (fun a b => if bt x b = true then a ||| 2 ^ trn b else a) a) e = (bt a e || l.any fun b => bt x b && decide (trn b = e))
  | [], a => by simp
  | b :: l, a => by
    rw [List.foldl_cons, tb_fold x e l, List.any_cons]
    cases h : bt x b with
    | false => simp
    | true =>
      rw [if_pos rfl, bt_or, bt_pow, Bool.or_assoc]
      simp
theorem tbits_bt {x e : Nat} : bt (tbits x) e = true ↔ ∃ b, b < 10 ∧ bt x b = true ∧ trn b = e := by
  unfold tbits
  rw [tb_fold]
  have : bt 0 e = false := by rw [bt_tb]; simp
  rw [this, Bool.false_or, List.any_eq_true]
  simp
theorem bt_hi {x n b : Nat} (hx : x < 2 ^ n) (hb : n ≤ b) : bt x b = false := by
  rw [bt_tb]
  exact Nat.testBit_lt_two_pow (Nat.lt_of_lt_of_le hx (Nat.pow_le_pow_right (by decide) hb))
theorem dir_bt {x i e n : Nat} (hs : sd i < 2) (hn : n ≤ 10) (hx : x < 2 ^ n) : (bt (if sd i = 0 then x else tbits x) e = true) ↔ ∃ b, b < n ∧ bt x b = true ∧ dirOf (sd i) b = e := by
  have lo : ∀ b, bt x b = true → b < n := fun b h => Nat.not_le.mp fun q => by rw [bt_hi hx q] at h; cases h
  by_cases h0 : sd i = 0
  · rw [if_pos h0]
    unfold dirOf
    constructor
    · intro h
      exact ⟨e, lo e h, h, by rw [if_pos h0]⟩
    · rintro ⟨b, _, h2, h3⟩
      rw [if_pos h0] at h3
      exact h3 ▸ h2
  · rw [if_neg h0, tbits_bt]
    unfold dirOf
    constructor
    · rintro ⟨b, _, h2, h3⟩
      exact ⟨b, lo b h2, h2, by rw [if_neg h0]; exact h3⟩
    · rintro ⟨b, h1, h2, h3⟩
      rw [if_neg h0] at h3
      exact ⟨b, by omega, h2, h3⟩
/-- from q to f in direction d, m empty fields between -/
def chR (N d : Nat) (bo : Nat → Nat) : Nat → Nat → Nat → Prop
  | 0, q, f => nx N d q = some f
  | m + 1, q, f => ∃ g, nx N d q = some g ∧ bo g = 0 ∧ chR N d bo m g f
theorem ray_ch {N d : Nat} {bo : Nat → Nat} {f : Nat} : ∀ (k q : Nat), f ∈ rayO N d bo k (nx N d q) ↔ ∃ m, m < k ∧ chR N d bo m q f
  | 0, q => by simp [rayO]
  | k + 1, q => by
    cases ho : nx N d q with
    | none =>
      constructor
      · intro h; simp [rayO] at h
      · rintro ⟨m, _, h⟩
        cases m with
        | zero => unfold chR at h; rw [ho] at h; cases h
        | succ m => unfold chR at h; obtain ⟨g, h1, _⟩ := h; rw [ho] at h1; cases h1
    | some g =>
      show f ∈ g :: (if bo g = 0 then rayO N d bo k (nx N d g) else []) ↔ _
      rw [List.mem_cons]
      constructor
      · rintro (rfl | h)
        · exact ⟨0, by omega, ho⟩
        · split at h
          · rename_i hb
            obtain ⟨m, h1, h2⟩ := (ray_ch k g).mp h
            exact ⟨m + 1, by omega, g, ho, hb, h2⟩
          · simp at h
      · rintro ⟨m, h1, h2⟩
        cases m with
        | zero =>
          unfold chR at h2
          rw [ho] at h2
          exact Or.inl (Option.some.inj h2).symm
        | succ m =>
          unfold chR at h2
          obtain ⟨g', a, b, c⟩ := h2
          rw [ho] at a
          cases a
          right
          rw [if_pos b]
          exact (ray_ch k g).mpr ⟨m, by omega, c⟩
theorem ch_end {N d : Nat} {bo : Nat → Nat} {f : Nat} : ∀ (m q : Nat), chR N d bo (m + 1) q f ↔ ∃ h, chR N d bo m q h ∧ bo h = 0 ∧ nx N d h = some f
  | 0, q => by
    unfold chR
    constructor
    · rintro ⟨g, a, b, c⟩; exact ⟨g, a, b, c⟩
    · rintro ⟨g, a, b, c⟩; exact ⟨g, a, b, c⟩
  | m + 1, q => by
    constructor
    · rintro ⟨g, a, b, c⟩
      obtain ⟨h, c1, c2, c3⟩ := (ch_end m g).mp c
      exact ⟨h, ⟨g, a, b, c1⟩, c2, c3⟩
    · rintro ⟨h, ⟨g, a, b, c1⟩, c2, c3⟩
      exact ⟨g, a, b, (ch_end m g).mpr ⟨h, c1, c2, c3⟩⟩
theorem ch_at {N d : Nat} {bo : Nat → Nat} (hN : 0 < N) {f : Nat} : ∀ (m q : Nat), chR N d bo m q f → At N d (m + 1) q f
  | 0, q, h => nx_at hN h
  | m + 1, q, ⟨g, a, _, c⟩ => At.one (nx_at hN a) (ch_at hN m g c)
theorem ch_lt {N d m q f : Nat} {bo : Nat → Nat} (h5 : 5 ≤ N) (hd : d < 8) (h : chR N d bo m q f) (hq : q < N * N) (hf : f < N * N) : m + 2 ≤ N := by
  obtain ⟨a, b⟩ := ch_at (by omega) m q h
  have r1 : q / N < N := Nat.div_lt_of_lt_mul hq
  have r2 : f / N < N := Nat.div_lt_of_lt_mul hf
  have c1 : q % N < N := Nat.mod_lt _ (by omega)
  have c2 : f % N < N := Nat.mod_lt _ (by omega)
  generalize q / N = qr at *
  generalize f / N = fr at *
  generalize q % N = qc at *
  generalize f % N = fc at *
  rcases vec_tab d (by omega) with ⟨rfl, p, r⟩ | ⟨rfl, p, r⟩ | ⟨rfl, p, r⟩ | ⟨rfl, p, r⟩ | ⟨rfl, p, r⟩ | ⟨rfl, p, r⟩ | ⟨rfl, p, r⟩ | ⟨rfl, p, r⟩ | ⟨rfl, p, r⟩ | ⟨rfl, p, r⟩ | ⟨rfl, p, r⟩ | ⟨rfl, p, r⟩ <;> rw [p] at a <;> rw [r] at b <;> omega
theorem ch_in {N d : Nat} {bo : Nat → Nat} (h1 : N ≤ 7) (h5 : 5 ≤ N) (hd : d < 12) {f : Nat} : ∀ (m q : Nat), q < N * N → chR N d bo m q f → f < N * N
  | 0, q, hq, h => (nx_lt h1 h5 hd hq h).1
  | m + 1, q, hq, ⟨g, a, _, c⟩ => ch_in h1 h5 hd m g (nx_lt h1 h5 hd hq a).1 c
theorem fm_of_ch {N d : Nat} {bo : Nat → Nat} (h1 : N ≤ 7) (h5 : 5 ≤ N) (hd : d < 12) {q : Nat} (hq : q < N * N) (hb : bo q ≠ 0) : ∀ (m f : Nat), chR N d bo m q f → ∃ a, nx N (trn d) f = some a ∧ ∀ k, m ≤ k → fman N (trn d) bo k a = bo q
  | 0, f, h => by
    refine ⟨q, (nx_lt h1 h5 hd hq h).2, fun k _ => ?_⟩
    cases k with
    | zero => rfl
    | succ k => unfold fman; rw [if_neg hb]
  | m + 1, f, h => by
    obtain ⟨x, c1, c2, c3⟩ := (ch_end m q).mp h
    have hx := ch_in h1 h5 hd m q hq c1
    obtain ⟨a, a1, a2⟩ := fm_of_ch h1 h5 hd hq hb m x c1
    refine ⟨x, (nx_lt h1 h5 hd hx c3).2, fun k hk => ?_⟩
    obtain ⟨k, rfl⟩ : ∃ z, k = z + 1 := ⟨k - 1, by omega⟩
    unfold fman
    rw [if_pos c2, a1]
    exact a2 k (by omega)
theorem ch_of_fm {N e : Nat} {bo : Nat → Nat} (h1 : N ≤ 7) (h5 : 5 ≤ N) (he : e < 12) : ∀ (k f a : Nat), f < N * N → nx N e f = some a → fman N e bo k a ≠ 0 → ∃ m q, m ≤ k ∧ q < N * N ∧ bo q = fman N e bo k a ∧ chR N (trn e) bo m q f
  | 0, f, a, hf, h, hz => by
    have := nx_lt h1 h5 he hf h
    exact ⟨0, a, Nat.le_refl _, this.1, rfl, this.2⟩
  | k + 1, f, a, hf, h, hz => by
    have ha := nx_lt h1 h5 he hf h
    unfold fman at hz ⊢
    by_cases hb : bo a = 0
    · rw [if_pos hb] at hz ⊢
      cases hg : nx N e a with
      | none => rw [hg] at hz; exact absurd rfl hz
      | some g =>
        rw [hg] at hz
        obtain ⟨m, q, c1, c2, c3, c4⟩ := ch_of_fm h1 h5 he k a g ha.1 hg hz
        exact ⟨m + 1, q, by omega, c2, c3, (ch_end m q).mpr ⟨a, c4, hb, ha.2⟩⟩
    · rw [if_neg hb]
      exact ⟨0, a, by omega, ha.1, rfl, ha.2⟩
theorem trn8 : ∀ d, d < 12 → (trn d < 8 ↔ d < 8) := by decide
theorem atk_eq {N s f : Nat} {K : Kd} {bo : Nat → Nat} (h1 : N ≤ 7) (h5 : 5 ≤ N) (hs : s < 2) (hf : f < N * N) (hb : ∀ q, q < N * N → bo q ≤ 32) (hK : ∀ t, t < 16 → K.1 t < 1024 ∧ K.2.1 t < 256) : atkX N K bo s f = atk N K bo s f := by
  rw [Bool.eq_iff_iff]
  unfold atkX atk
  rw [List.any_eq_true, List.any_eq_true]
  have men : ∀ q, q < N * N → bo q ≠ 0 → sd (bo q) < 2 ∧ tp (bo q) < 16 := fun q hq h => by
    have := man_chk (bo q) (by have := hb q hq; omega) (by omega)
    exact ⟨this.2.2.2.2.2.1, this.2.2.2.2.2.2.1⟩
  have sdb : ∀ i, i ≠ 0 → sd i < 2 → tp i < 16 → ∀ e, bt (sdir K i) e = true ↔ ∃ b, b < 10 ∧ bt (K.1 (tp i)) b = true ∧ dirOf (sd i) b = e := by
    intro i hi h2 h3 e
    unfold sdir
    rw [if_neg hi]
    exact dir_bt h2 (Nat.le_refl _) (hK _ h3).1
  have rdb : ∀ i, i ≠ 0 → sd i < 2 → tp i < 16 → ∀ e, bt (rdir K i) e = true ↔ ∃ b, b < 8 ∧ bt (K.2.1 (tp i)) b = true ∧ dirOf (sd i) b = e := by
    intro i hi h2 h3 e
    unfold rdir
    rw [if_neg hi]
    exact dir_bt h2 (by omega) (hK _ h3).2
  constructor
  · rintro ⟨d, hd, h⟩
    rw [List.mem_range] at hd
    unfold aDir at h
    cases ho : nx N d f with
    | none => rw [ho] at h; cases h
    | some a =>
      rw [ho] at h
      have ha := nx_lt h1 h5 hd hf ho
      rw [Bool.or_eq_true, Bool.and_eq_true, Bool.and_eq_true] at h
      rcases h with ⟨g1, g2⟩ | ⟨g1, g2⟩
      · unfold isOf at g1
        simp only [Bool.and_eq_true, decide_eq_true_eq] at g1
        obtain ⟨m1, m2⟩ := men a ha.1 g1.1
        obtain ⟨b, c1, c2, c3⟩ := (sdb _ g1.1 m1 m2 _).mp g2
        refine ⟨a, List.mem_range.mpr ha.1, ?_⟩
        simp only [Bool.and_eq_true, decide_eq_true_eq]
        refine ⟨g1.1, g1.2, mem_reach.mpr (Or.inl ⟨b, c1, ?_⟩)⟩
        unfold stepO
        rw [if_pos c2, c3]
        exact ha.2
      · unfold isOf at g1
        simp only [Bool.and_eq_true, decide_eq_true_eq] at g1
        obtain ⟨m, q, c1, c2, c3, c4⟩ := ch_of_fm h1 h5 hd _ f a hf ho g1.1
        rw [← c3] at g1 g2
        obtain ⟨m1, m2⟩ := men q c2 g1.1
        obtain ⟨b, e1, e2, e3⟩ := (rdb _ g1.1 m1 m2 _).mp g2
        refine ⟨q, List.mem_range.mpr c2, ?_⟩
        simp only [Bool.and_eq_true, decide_eq_true_eq]
        refine ⟨g1.1, g1.2, mem_reach.mpr (Or.inr ⟨b, e1, ?_⟩)⟩
        unfold runO
        rw [if_pos e2, e3]
        refine (ray_ch 7 q).mpr ⟨m, ?_, c4⟩
        split at c1 <;> omega
  · rintro ⟨q, hq, h⟩
    rw [List.mem_range] at hq
    simp only [Bool.and_eq_true, decide_eq_true_eq] at h
    obtain ⟨g1, g2, g3⟩ := h
    obtain ⟨m1, m2⟩ := men q hq g1
    have hof : isOf s (bo q) = true := by unfold isOf; simp [g1, g2]
    rcases mem_reach.mp g3 with ⟨b, hb10, hst⟩ | ⟨b, hb8, hst⟩
    · unfold stepO at hst
      split at hst
      · rename_i hbit
        have hd := dirOf_lt m1 hb10
        have hr := (nx_lt h1 h5 hd hq hst).2
        have ht := trn_lt _ hd
        refine ⟨trn (dirOf (sd (bo q)) b), List.mem_range.mpr ht.1, ?_⟩
        unfold aDir
        rw [hr]
        rw [Bool.or_eq_true, Bool.and_eq_true]
        left
        exact ⟨hof, (sdb _ g1 m1 m2 _).mpr ⟨b, hb10, hbit, ht.2.symm⟩⟩
      · cases hst
    · unfold runO at hst
      split at hst
      · rename_i hbit
        have hd8 := dirOf_lt8 _ m1 b hb8
        obtain ⟨m, c1, c2⟩ := (ray_ch 7 q).mp hst
        have hm := ch_lt h5 hd8 c2 hq hf
        obtain ⟨a, a1, a2⟩ := fm_of_ch h1 h5 (by omega) hq g1 m f c2
        have ht := trn_lt (dirOf (sd (bo q)) b) (by omega)
        have ht8 := (trn8 (dirOf (sd (bo q)) b) (by omega)).mpr hd8
        refine ⟨trn (dirOf (sd (bo q)) b), List.mem_range.mpr ht.1, ?_⟩
        unfold aDir
        rw [a1]
        rw [Bool.or_eq_true, Bool.and_eq_true, Bool.and_eq_true]
        right
        rw [if_neg (by omega), a2 _ (by omega)]
        exact ⟨hof, (rdb _ g1 m1 m2 _).mpr ⟨b, hb8, hbit, ht.2.symm⟩⟩
      · simp [rayO] at hst
