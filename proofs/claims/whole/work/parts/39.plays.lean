/-! ===== plays, purely: stands that come again, packed stands ===== -/
/-! rows of kit/laws/BITS.to-paste: longs -/
theorem wb_tb (n : Nat) : (lN n).toBitVec = BitVec.ofNat 64 n := rfl
theorem wb_inj {a b : Int64} (h : a.toBitVec = b.toBitVec) : a = b := Int64.toBitVec_inj.mp h
theorem wb_c : ∀ k, k < 64 → ((nI k).toInt64 &&& 63) = lN k := by decide +kernel
theorem wb_sm : ∀ k, k < 64 → (BitVec.ofNat 64 k).smod 64 = BitVec.ofNat 64 k := by decide +kernel
theorem wb_shl (n : Nat) {k : Nat} (hk : k < 64) : lN n <<< ((nI k).toInt64 &&& 63) = lN (n * 2 ^ k) := by
  rw [wb_c k hk]
  apply wb_inj
  rw [Int64.toBitVec_shiftLeft, wb_tb, wb_tb, wb_tb, wb_sm k hk]
  apply BitVec.eq_of_toNat_eq
  rw [BitVec.shiftLeft_eq', BitVec.toNat_shiftLeft, BitVec.toNat_ofNat, BitVec.toNat_ofNat, BitVec.toNat_ofNat, Nat.mod_eq_of_lt (show k < 2 ^ 64 by omega), Nat.shiftLeft_eq, Nat.mul_mod, Nat.mod_mod, ← Nat.mul_mod]
theorem wb_or {a b : Nat} (ha : a < 2 ^ 64) (hb : b < 2 ^ 64) : lN a ||| lN b = lN (a ||| b) := by
  apply wb_inj
  rw [Int64.toBitVec_or, wb_tb, wb_tb, wb_tb]
  apply BitVec.eq_of_toNat_eq
  rw [BitVec.toNat_or, BitVec.toNat_ofNat, BitVec.toNat_ofNat, BitVec.toNat_ofNat, Nat.mod_eq_of_lt ha, Nat.mod_eq_of_lt hb, Nat.mod_eq_of_lt (Nat.or_lt_two_pow ha hb)]
theorem wb_push {a x k : Nat} (hk : k < 32) (hx : x < 2 ^ k) (ha : a * 2 ^ k < 2 ^ 63) (hx2 : x < 2 ^ 31) : (lN a <<< ((nI k).toInt64 &&& 63)) ||| (nI x).toInt64 = lN (a * 2 ^ k + x) := by
  rw [wb_shl a (by omega), nI_l hx2, wb_or (by omega) (by omega)]
  have := (Nat.two_pow_add_eq_or_of_lt hx a).symm
  rw [Nat.mul_comm a (2 ^ k), this]
/-! numbers packed, each below p -/
def pkN (p : Nat) (g : Nat → Nat) : List Nat → Nat → Nat
  | [], a => a
  | i :: l, a => pkN p g l (a * p + g i)
theorem pkN_lt {p : Nat} {g : Nat → Nat} : ∀ (l : List Nat) (a b : Nat), (∀ i ∈ l, g i < p) → a < p ^ b → pkN p g l a < p ^ (b + l.length)
  | [], a, b, _, h => h
  | i :: l, a, b, hg, h => by
    unfold pkN
    have h1 := hg i List.mem_cons_self
    have h2 : a * p + g i < p ^ (b + 1) := by
      rw [Nat.pow_succ]
      have : (a + 1) * p ≤ p ^ b * p := Nat.mul_le_mul_right _ h
      rw [Nat.add_mul, Nat.one_mul] at this
      omega
    have := pkN_lt l (a * p + g i) (b + 1) (fun j hj => hg j (List.mem_cons_of_mem _ hj)) h2
    rw [List.length_cons, show b + (l.length + 1) = b + 1 + l.length by omega]
    exact this
theorem pkN_inj {p : Nat} {g h : Nat → Nat} : ∀ (l : List Nat) (a b : Nat), (∀ i ∈ l, g i < p) → (∀ i ∈ l, h i < p) → pkN p g l a = pkN p h l b → a = b ∧ ∀ i ∈ l, g i = h i
  | [], a, b, _, _, e => ⟨e, fun i hi => by simp at hi⟩
  | i :: l, a, b, hg, hh, e => by
    unfold pkN at e
    obtain ⟨e1, e2⟩ := pkN_inj l _ _ (fun j hj => hg j (List.mem_cons_of_mem _ hj)) (fun j hj => hh j (List.mem_cons_of_mem _ hj)) e
    have h1 := hg i List.mem_cons_self
    have h2 := hh i List.mem_cons_self
    have hp : 0 < p := by omega
    have ea : (a * p + g i) / p = a := by rw [Nat.mul_comm, Nat.mul_add_div hp, Nat.div_eq_of_lt h1, Nat.add_zero]
    have eb : (b * p + h i) / p = b := by rw [Nat.mul_comm, Nat.mul_add_div hp, Nat.div_eq_of_lt h2, Nat.add_zero]
    have eab : a = b := by rw [← ea, ← eb, e1]
    refine ⟨eab, fun j hj => ?_⟩
    rcases List.mem_cons.mp hj with rfl | hj
    · subst eab; omega
    · exact e2 j hj
theorem pkN_cg {p : Nat} {g h : Nat → Nat} : ∀ (l : List Nat) (a : Nat), (∀ i ∈ l, g i = h i) → pkN p g l a = pkN p h l a
  | [], a, _ => rfl
  | i :: l, a, e => by
    unfold pkN
    rw [e i List.mem_cons_self]
    exact pkN_cg l _ (fun j hj => e j (List.mem_cons_of_mem _ hj))
/-- a stand as seven words -/
def pkW (N : Nat) (P : Ps) (j : Nat) : Nat :=
  if j < 5 then pkN 64 P.1 (List.range' (10 * j) (min (10 * j + 10) (N * N) - 10 * j)) 0
  else pkN 128 P.2.1 (List.range' (8 * (j - 5) + 1) 7) 0
/-- two stands are the same -/
def smP (P Q : Ps) : Bool := decide (P.2.2 = Q.2.2) && ((List.range 49).all (fun q => decide (P.1 q = Q.1 q)) && (List.range 16).all (fun j => decide (P.2.1 j = Q.2.1 j)))
theorem smP_iff {P Q : Ps} : smP P Q = true ↔ P.2.2 = Q.2.2 ∧ (∀ q, q < 49 → P.1 q = Q.1 q) ∧ ∀ j, j < 16 → P.2.1 j = Q.2.1 j := by
  unfold smP
  simp only [Bool.and_eq_true, decide_eq_true_eq, List.all_eq_true, List.mem_range]
theorem pk_same {N : Nat} {P Q : Ps} (h7 : N ≤ 7) (hP : VB N P) (hQ : VB N Q) : (∀ j, j < 7 → pkW N P j = pkW N Q j) ↔ ((∀ q, q < 49 → P.1 q = Q.1 q) ∧ ∀ j, j < 16 → P.2.1 j = Q.2.1 j) := by
  have hNN := NN_le h7
  constructor
  · intro h
    constructor
    · intro q hq
      by_cases hqN : q < N * N
      · have e := h (q / 10) (by omega)
        unfold pkW at e
        rw [if_pos (by omega), if_pos (by omega)] at e
        refine (pkN_inj _ 0 0 (fun i _ => by have := hP.le i; omega) (fun i _ => by have := hQ.le i; omega) e).2 q ?_
        rw [List.mem_range'_1]
        omega
      · rw [hP.out q (by omega), hQ.out q (by omega)]
    · intro j hj
      by_cases h0 : j = 0 ∨ j = 8
      · rcases h0 with rfl | rfl
        · rw [hP.h0, hQ.h0]
        · rw [hP.h8, hQ.h8]
      · have e := h (5 + j / 8) (by omega)
        unfold pkW at e
        rw [if_neg (by omega), if_neg (by omega)] at e
        have hin : ∀ i, i ∈ List.range' (8 * (5 + j / 8 - 5) + 1) 7 → i < 16 := fun i hi => by
          rw [List.mem_range'_1] at hi
          omega
        refine (pkN_inj _ 0 0 (fun i hi => by have := hP.hd (hin i hi); omega) (fun i hi => by have := hQ.hd (hin i hi); omega) e).2 j ?_
        rw [List.mem_range'_1]
        omega
  · rintro ⟨h1, h2⟩ j hj
    unfold pkW
    split
    · refine pkN_cg _ _ (fun i hi => ?_)
      rw [List.mem_range'_1] at hi
      exact h1 i (by omega)
    · refine pkN_cg _ _ (fun i hi => ?_)
      rw [List.mem_range'_1] at hi
      exact h2 i (by omega)
theorem pkW_lt {N j : Nat} {P : Ps} (hP : VB N P) (hj : j < 7) : pkW N P j < 2 ^ 60 := by
  unfold pkW
  split
  · have := pkN_lt (p := 64) (g := P.1) (List.range' (10 * j) (min (10 * j + 10) (N * N) - 10 * j)) 0 0 (fun i _ => by have := hP.le i; omega) (by decide)
    rw [List.length_range', Nat.zero_add] at this
    have h2 : 64 ^ (min (10 * j + 10) (N * N) - 10 * j) ≤ 64 ^ 10 := Nat.pow_le_pow_right (by decide) (by omega)
    exact Nat.lt_of_lt_of_le this h2
  · have := pkN_lt (p := 128) (g := P.2.1) (List.range' (8 * (j - 5) + 1) 7) 0 0 (fun i hi => by
      rw [List.mem_range'_1] at hi
      have := hP.hd (j := i) (by omega)
      omega) (by decide)
    rw [List.length_range', Nat.zero_add] at this
    exact Nat.lt_of_lt_of_le this (by decide)
/-! counting -/
def cntTo (p : Nat → Bool) : Nat → Nat
  | 0 => 0
  | n + 1 => cntTo p n + (if p n = true then 1 else 0)
/-- the least below n, or d -/
def fstTo (p : Nat → Bool) : Nat → Nat → Nat
  | d, 0 => d
  | d, n + 1 => fstTo p (if p n = true then n else d) n
theorem fst_spec {p : Nat → Bool} : ∀ (n d : Nat), ((∃ k, k < n ∧ p k = true) → p (fstTo p d n) = true ∧ fstTo p d n < n ∧ ∀ j, j < fstTo p d n → p j = false) ∧ ((∀ k, k < n → p k = false) → fstTo p d n = d)
  | 0, d => ⟨fun ⟨k, h, _⟩ => by omega, fun _ => rfl⟩
  | n + 1, d => by
    unfold fstTo
    obtain ⟨h1, h2⟩ := fst_spec (p := p) n (if p n = true then n else d)
    constructor
    · rintro ⟨k, hk, hp⟩
      by_cases hq : ∃ k, k < n ∧ p k = true
      · obtain ⟨a, b, c⟩ := h1 hq
        exact ⟨a, by omega, c⟩
      · have hno : ∀ k, k < n → p k = false := fun k hk => by
          cases h : p k with
          | false => rfl
          | true => exact absurd ⟨k, hk, h⟩ hq
        have hkn : k = n := Classical.byContradiction fun z => by
          have := hno k (by omega)
          rw [this] at hp
          cases hp
        subst hkn
        rw [if_pos hp] at h2 ⊢
        rw [h2 hno]
        exact ⟨hp, by omega, hno⟩
    · intro hno
      rw [h2 (fun k hk => hno k (by omega)), if_neg (by rw [hno n (by omega)]; decide)]
theorem fst_cg {p q : Nat → Bool} : ∀ (n d : Nat), (∀ i, i < n → p i = q i) → fstTo p d n = fstTo q d n
  | 0, _, _ => rfl
  | n + 1, d, h => by
    unfold fstTo
    rw [h n (by omega)]
    exact fst_cg n _ (fun i hi => h i (by omega))
theorem cnt_cg {p q : Nat → Bool} : ∀ (n : Nat), (∀ i, i < n → p i = q i) → cntTo p n = cntTo q n
  | 0, _ => rfl
  | n + 1, h => by
    unfold cntTo
    rw [h n (by omega), cnt_cg n (fun i hi => h i (by omega))]
theorem cnt_le {p : Nat → Bool} : ∀ n, cntTo p n ≤ n
  | 0 => Nat.le_refl _
  | n + 1 => by
    unfold cntTo
    have := cnt_le (p := p) n
    split <;> omega
/-- a play: stands ps, moves cs, a of them -/
def Pl (N : Nat) (K : Kd) (ps : Nat → Ps) (cs : Nat → Nat) (a : Nat) : Prop := VP N K (ps 0) ∧ ∀ i, i < a → cs i ∈ movL N K (ps i) ∧ ps (i + 1) = mkP (ps i) (cs i)
theorem Pl.vp {N a : Nat} {K : Kd} {ps : Nat → Ps} {cs : Nat → Nat} (h1 : N ≤ 7) (h5 : 5 ≤ N) (h : Pl N K ps cs a) : ∀ i, i ≤ a → VP N K (ps i)
  | 0, _ => h.1
  | i + 1, hi => by
    obtain ⟨h2, h3⟩ := h.2 i (by omega)
    rw [h3]
    exact mov_VP h1 h5 (h.vp h1 h5 i (by omega)) h2
theorem Pl.lo {N a b : Nat} {K : Kd} {ps : Nat → Ps} {cs : Nat → Nat} (h : Pl N K ps cs a) (hb : b ≤ a) : Pl N K ps cs b := ⟨h.1, fun i hi => h.2 i (by omega)⟩
theorem Pl.side {N a : Nat} {K : Kd} {ps : Nat → Ps} {cs : Nat → Nat} (h : Pl N K ps cs a) : ∀ i, i ≤ a → (ps i).2.2 = if i % 2 = 0 then (ps 0).2.2 else 1 - (ps 0).2.2
  | 0, _ => by simp
  | i + 1, hi => by
    have hm := h.1.mv
    rw [(h.2 i (by omega)).2, mvN, h.side i (by omega)]
    by_cases q : i % 2 = 0
    · rw [if_pos q, if_neg (by omega)]
    · rw [if_neg q, if_pos (by omega)]
      omega
/-- did move i give check -/
def gvC (N : Nat) (K : Kd) (ps : Nat → Ps) (i : Nat) : Bool := chk N K (ps (i + 1)).1 (ps (i + 1)).2.2
def cntS (ps : Nat → Ps) (d : Nat) : Nat := cntTo (fun i => smP (ps i) (ps d)) (d + 1)
def fstS (ps : Nat → Ps) (d : Nat) : Nat := fstTo (fun i => smP (ps i) (ps d)) 0 (d + 1)
def chsS (N : Nat) (K : Kd) (ps : Nat → Ps) (d s : Nat) : Bool := (List.range' (fstS ps d) (d - fstS ps d)).all fun k => decide ((ps k).2.2 ≠ s) || gvC N K ps k
/-- the state, as far as stands make it -/
def endS (N : Nat) (K : Kd) (ps : Nat → Ps) (d : Nat) : Nat := if cntS ps d < 4 then 0 else if chsS N K ps d 0 = true then 3 else if chsS N K ps d 1 = true then 4 else 2
def stS (N : Nat) (K : Kd) (ps : Nat → Ps) (d : Nat) : Nat := if (movL N K (ps d)).length = 0 then 1 else endS N K ps d
theorem smP_rf {P : Ps} : smP P P = true := smP_iff.mpr ⟨rfl, fun _ _ => rfl, fun _ _ => rfl⟩
theorem fstS_ok {ps : Nat → Ps} {d : Nat} : smP (ps (fstS ps d)) (ps d) = true ∧ fstS ps d ≤ d ∧ ∀ j, j < fstS ps d → smP (ps j) (ps d) = false := by
  obtain ⟨a, b, c⟩ := (fst_spec (p := fun i => smP (ps i) (ps d)) (d + 1) 0).1 ⟨d, by omega, smP_rf⟩
  exact ⟨a, by have : fstS ps d < d + 1 := b; omega, c⟩
/-- a play with one more move behind d -/
def psA (ps : Nat → Ps) (d c : Nat) : Nat → Ps := fun i => if i ≤ d then ps i else mkP (ps d) c
theorem psA_le {ps : Nat → Ps} {d c i : Nat} (h : i ≤ d) : psA ps d c i = ps i := if_pos h
theorem psA_s {ps : Nat → Ps} {d c : Nat} : psA ps d c (d + 1) = mkP (ps d) c := if_neg (by omega)
theorem Pl.add {N d a c : Nat} {K : Kd} {ps : Nat → Ps} {cs : Nat → Nat} (h : Pl N K ps cs a) (hd : d ≤ a) (hc : c ∈ movL N K (ps d)) : Pl N K (psA ps d c) (upN cs d c) (d + 1) := by
  refine ⟨by rw [psA_le (by omega)]; exact h.1, fun i hi => ?_⟩
  by_cases e : i = d
  · subst e
    rw [psA_le (by omega), psA_s, show upN cs i c i = c from if_pos rfl]
    exact ⟨hc, rfl⟩
  · rw [psA_le (by omega), psA_le (by omega), show upN cs d c i = cs i from if_neg e]
    exact h.2 i (by omega)
theorem vp_b (b : Bool) : vp_nar .boolean (b2i b) = b2i b := by cases b <;> rfl
