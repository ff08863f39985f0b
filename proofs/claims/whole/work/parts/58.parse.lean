/-! ===== texts: a move read ===== -/
def bg (B : List Nat) (i : Nat) : Nat := B.getD i 0
theorem bg_at {B : List Nat} {i : Nat} (h : i < B.length) : B[i]? = some (bg B i) := by
  unfold bg
  rw [List.getD_eq_getElem?_getD, List.getElem?_eq_getElem h]
  rfl
def fA (N : Nat) (B : List Nat) (p : Nat) : Option Nat := if 97 ≤ bg B p ∧ bg B p < 97 + N ∧ 49 ≤ bg B (p + 1) ∧ bg B (p + 1) < 49 + N then some (N * (bg B (p + 1) - 49) + (bg B p - 97)) else none
theorem fA_lt {N p f : Nat} {B : List Nat} (h : fA N B p = some f) : f < N * N := by
  unfold fA at h
  split at h
  · rename_i q
    have e := Option.some.inj h
    rw [← e]
    have h1 : bg B (p + 1) - 49 + 1 ≤ N := by omega
    have h2 : N * (bg B (p + 1) - 49 + 1) ≤ N * N := Nat.mul_le_mul_left _ h1
    rw [Nat.mul_add, Nat.mul_one] at h2
    omega
  · cases h
def BtB (B : List Nat) : Prop := B.length ≤ 2000 ∧ ∀ b ∈ B, b < 256
theorem BtB.lt {B : List Nat} (h : BtB B) (i : Nat) : bg B i < 256 := by
  by_cases q : i < B.length
  · exact h.2 _ (List.mem_of_getElem? (bg_at q))
  · unfold bg
    rw [List.getD_eq_getElem?_getD, List.getElem?_eq_none (by omega)]
    decide
theorem sub_c {b k : Nat} (hb : b < 256) (hk : k < 256) : (nI b - nI k < 0 ↔ b < k) ∧ (k ≤ b → nI b - nI k = nI (b - k)) := by
  refine ⟨⟨fun h => ?_, fun h => pk_sneg (by omega) h⟩, fun h => pk_sub h⟩
  apply Classical.byContradiction
  intro q
  rw [pk_sub (show k ≤ b by omega)] at h
  exact nI_pos (by omega) h
theorem x_fieldAt {N p : Nat} {B : List Nat} {w : Wd} (h7 : N ≤ 7) (h : TXx N B w) (hB : BtB B) (hp : p + 1 < B.length) : f_X7_fieldAt N (nI p) w = some (ov (fA N B p), w) := by
  have hl := hB.1
  have b1 := hB.lt p
  have b2 := hB.lt (p + 1)
  obtain ⟨n1, n2⟩ := sub_c (b := bg B p) (k := 97) b1 (by omega)
  obtain ⟨m1, m2⟩ := sub_c (b := bg B (p + 1)) (k := 49) b2 (by omega)
  unfold f_X7_fieldAt f_X7_fieldAt_46 f_X7_fieldAt_58 fA
  rw [inb_nI (show p < 2000 by omega) (by omega), if_pos rfl, lt_e, nI_clamp (by omega), h.2.2 p _ (bg_at (by omega)), nI_1, inb_nI (show p + 1 < 2000 by omega) (by omega), if_pos rfl, lt_e, nI_clamp (by omega), h.2.2 (p + 1) _ (bg_at hp), h.1, show (97 : Int32) = nI 97 from rfl, show (49 : Int32) = nI 49 from rfl]
  by_cases q1 : bg B p < 97
  · rw [if_pos (n1.mpr q1), if_neg (by omega)]; rfl
  · rw [if_neg (fun z => q1 (n1.mp z)), n2 (by omega)]
    by_cases q2 : N ≤ bg B p - 97
    · rw [if_pos (nI_le q2 (by omega)), if_neg (by omega)]; rfl
    · rw [if_neg (nI_ge (by omega) (by omega))]
      by_cases q3 : bg B (p + 1) < 49
      · rw [if_pos (m1.mpr q3), if_neg (by omega)]; rfl
      · rw [if_neg (fun z => q3 (m1.mp z)), m2 (by omega)]
        by_cases q4 : bg B (p + 1) - 49 < N
        · rw [if_pos (nI_lt q4 (by omega)), if_pos (by omega), pk_mul, nI_add]; rfl
        · rw [if_neg (nI_nlt (by omega) (by omega)), if_neg (by omega)]; rfl
theorem m_fieldAt {N p : Nat} {B : List Nat} {w : Wd} (hn : w.1 50 0 = nI N) (h7 : N ≤ 7) (h5 : 5 ≤ N) (h : TXm B w) (hB : BtB B) (hp : p + 1 < B.length) : f_X10_fieldAt (nI p) w = some (ov (fA N B p), w) := by
  have hl := hB.1
  have b1 := hB.lt p
  have b2 := hB.lt (p + 1)
  obtain ⟨n1, n2⟩ := sub_c (b := bg B p) (k := 97) b1 (by omega)
  obtain ⟨m1, m2⟩ := sub_c (b := bg B (p + 1)) (k := 49) b2 (by omega)
  have hin : ∀ (b k : Nat), b < 256 → k < 256 → ((0 ≤ nI b - nI k ∧ nI b - nI k ≤ nI N - 1) ↔ (k ≤ b ∧ b < k + N)) := by
    intro b k hb hk
    obtain ⟨c1, c2⟩ := sub_c hb hk
    rw [show nI N - (1 : Int32) = nI (N - 1) from pk_sub (a := N) (b := 1) (by omega)]
    constructor
    · rintro ⟨z1, z2⟩
      have hk2 : k ≤ b := by
        apply Classical.byContradiction
        intro q
        have := c1.mpr (by omega)
        rw [Int32.lt_iff_toInt_lt] at this
        rw [Int32.le_iff_toInt_le] at z1
        omega
      rw [c2 hk2] at z2
      have := (nI_leI (by omega) (by omega)).mp z2
      omega
    · rintro ⟨z1, z2⟩
      rw [c2 z1]
      exact ⟨nI_pos' (by omega), nI_le (by omega) (by omega)⟩
  unfold f_X10_fieldAt f_X10_fieldAt_65 f_X10_fieldAt_66 fA
  rw [inb_nI (show p < 2000 by omega) (by omega), if_pos rfl, lt_e, nI_clamp (by omega), h.2 p _ (bg_at (by omega)), nI_1, inb_nI (show p + 1 < 2000 by omega) (by omega), if_pos rfl, lt_e, nI_clamp (by omega), h.2 (p + 1) _ (bg_at hp), hn, show (97 : Int32) = nI 97 from rfl, show (49 : Int32) = nI 49 from rfl, m_in0, bd_s]
  have i1 := hin (bg B p) 97 b1 (by omega)
  have i2 := hin (bg B (p + 1)) 49 b2 (by omega)
  by_cases q1 : 97 ≤ bg B p ∧ bg B p < 97 + N
  · rw [if_pos (i1.mpr q1), if_neg (by decide), hn, m_in0, bd_s]
    by_cases q2 : 49 ≤ bg B (p + 1) ∧ bg B (p + 1) < 49 + N
    · rw [if_pos (i2.mpr q2), if_neg (by decide), if_pos ⟨q1.1, q1.2, q2.1, q2.2⟩, n2 q1.1, m2 q2.1, hn, pk_mul, nI_add]; rfl
    · rw [if_neg (fun z => q2 (i2.mp z)), if_pos rfl, if_neg (fun z => q2 ⟨z.2.2.1, z.2.2.2⟩)]; rfl
  · rw [if_neg (fun z => q1 (i1.mp z)), if_pos rfl, if_neg (fun z => q1 ⟨z.1, z.2.1⟩)]; rfl
/-- the move that is written from s to ahead of t -/
def mvAt (N : Nat) (B : List Nat) (s t : Nat) : Option Nat :=
  if t - s < 4 ∨ 5 < t - s then none else
  match fA N B (s + 2) with
  | none => none
  | some to_ =>
    if bg B (s + 1) = 42 then (if t - s = 4 ∧ 49 ≤ bg B s ∧ bg B s ≤ 55 then some (seC (bg B s - 48) to_) else none)
    else match fA N B s with
      | none => none
      | some fr => if t - s = 5 ∧ bg B (s + 4) ≠ 43 then none else some (goC fr to_ (if t - s = 5 then 1 else 0))
theorem mvAt_ok {N s t c : Nat} {B : List Nat} (h7 : N ≤ 7) (h : mvAt N B s t = some c) : okF N c := by
  unfold mvAt at h
  split at h
  · cases h
  · split at h
    · cases h
    · rename_i to_ e
      have ht := fA_lt e
      split at h
      · split at h
        · rename_i q
          rw [← Option.some.inj h]
          exact okF_se h7 (by omega) (by omega) ht
        · cases h
      · split at h
        · cases h
        · rename_i fr e2
          have hf := fA_lt e2
          split at h
          · cases h
          · rw [← Option.some.inj h]
            exact okF_go h7 hf ht (by split <;> omega)
theorem ov_nn {o : Option Nat} (h : ∀ g, o = some g → g < 2 ^ 31) : ((0 : Int32) ≤ ov o) ↔ o ≠ none := by
  cases o with
  | none => exact ⟨fun z => absurd z (by decide), fun z => absurd rfl z⟩
  | some g => exact ⟨fun _ => by simp, fun _ => nI_pos' (h g rfl)⟩
theorem x_moveBetween {N s t : Nat} {B : List Nat} {w : Wd} (h7 : N ≤ 7) (h5 : 5 ≤ N) (h : TXx N B w) (hB : BtB B) (hst : s ≤ t) (ht : t ≤ B.length) : f_X7_moveBetween N (nI s) (nI t) w = some (ov (mvAt N B s t), w) := by
  have hl := hB.1
  have hNN := NN_le h7
  unfold f_X7_moveBetween f_X7_moveBetween_14 mvAt
  rw [lt_e, pk_sub hst]
  by_cases q1 : t - s < 4
  · rw [if_pos (show nI (t - s) < (4 : Int32) from nI_lt (b := 4) q1 (by omega)), if_pos (Or.inl q1)]; rfl
  · rw [if_neg (show ¬ nI (t - s) < (4 : Int32) from nI_nlt (b := 4) (by omega) (by omega))]
    by_cases q2 : 5 < t - s
    · rw [if_neg (show ¬ nI (t - s) ≤ (5 : Int32) from nI_ge (a := 5) q2 (by omega)), if_pos (Or.inr q2)]; rfl
    · rw [if_pos (show nI (t - s) ≤ (5 : Int32) from nI_le (b := 5) (by omega) (by omega)), if_neg (by omega), show nI s + (2 : Int32) = nI (s + 2) from nI_add s 2, x_fieldAt h7 h hB (by omega), bd_s]
      cases e1 : fA N B (s + 2) with
      | none => rw [if_neg (by decide)]; rfl
      | some to_ =>
        have hto := fA_lt e1
        show (if (0 : Int32) ≤ nI to_ then _ else _) = _
        rw [if_pos (nI_pos' (by omega)), nI_1, inb_nI (show s + 1 < 2000 by omega) (by omega), if_pos rfl, nI_clamp (show s + 1 < 2 ^ 31 by omega), h.2.2 (s + 1) _ (bg_at (by omega))]
        have bs1 := hB.lt (s + 1)
        have bs := hB.lt s
        dsimp only
        by_cases q3 : bg B (s + 1) = 42
        · rw [if_pos (show nI (bg B (s + 1)) = (42 : Int32) by rw [q3]; rfl), if_pos q3, inb_nI (show s < 2000 by omega) (by omega), if_pos rfl, lt_e, nI_clamp (show s < 2 ^ 31 by omega), h.2.2 s _ (bg_at (by omega))]
          unfold f_X7_moveBetween_79 f_X7_moveBetween_80
          by_cases q4 : t - s = 4
          · rw [if_pos (show nI (t - s) = (4 : Int32) by rw [q4]; rfl), x_isHandKind, bd_s, b2_0]
            by_cases q5 : 49 ≤ bg B s ∧ bg B s ≤ 55
            · have e8 : nI (bg B s) - (48 : Int32) = nI (bg B s - 48) := pk_sub (a := bg B s) (b := 48) (by omega)
              rw [e8, isH_iff.mpr ⟨bg B s - 48, by omega, by omega, rfl⟩, if_pos rfl, if_pos ⟨q4, q5⟩, show ov (some to_) = nI to_ from rfl, x_setting (show bg B s - 48 < 8 by omega) (show to_ < 64 by omega), bd_s]
              rfl
            · have hH : isH (nI (bg B s) - (48 : Int32)) = false := by
                cases hq : isH (nI (bg B s) - (48 : Int32)) with
                | false => rfl
                | true =>
                  exfalso
                  obtain ⟨k, k1, k2, k3⟩ := isH_of hq
                  obtain ⟨c1, c2⟩ := sub_c (b := bg B s) (k := 48) bs (by omega)
                  have hk48 : 48 ≤ bg B s := by
                    apply Classical.byContradiction
                    intro z
                    have hneg : nI (bg B s) - nI 48 < 0 := c1.mpr (by omega)
                    rw [show nI (bg B s) - nI 48 = nI k from k3] at hneg
                    exact nI_pos (by omega) hneg
                  have e9 : nI (bg B s - 48) = nI k := (c2 hk48).symm.trans k3
                  have := (nI_inj (by omega) (by omega)).mp e9
                  omega
              rw [hH, if_neg (by decide), if_neg (fun z => q5 z.2)]
              rfl
          · rw [if_neg (show ¬ nI (t - s) = (4 : Int32) from fun z => q4 ((nI_inj (b := 4) (by omega) (by omega)).mp z)), if_neg (fun z => q4 z.1)]
            rfl
        · rw [if_neg (show ¬ nI (bg B (s + 1)) = (42 : Int32) from fun z => q3 ((nI_inj (b := 42) (by omega) (by omega)).mp z)), if_neg q3, x_fieldAt h7 h hB (by omega), bd_s]
          unfold f_X7_moveBetween_111 f_X7_moveBetween_113 f_X7_moveBetween_127
          cases e2 : fA N B s with
          | none => rw [if_pos (by decide)]; rfl
          | some fr =>
            have hfr := fA_lt e2
            show (if nI fr < (0 : Int32) then _ else _) = _
            rw [if_neg (nI_pos (by omega))]
            dsimp only
            show (if _ then (if inb (nI s + (4 : Int32)) 2000 = true then _ else _) else _) = _
            by_cases q4 : t - s = 5
            · rw [if_pos (show nI (t - s) = (5 : Int32) by rw [q4]; rfl), show nI s + (4 : Int32) = nI (s + 4) from nI_add s 4, inb_nI (show s + 4 < 2000 by omega) (by omega), if_pos rfl, nI_clamp (show s + 4 < 2 ^ 31 by omega), h.2.2 (s + 4) _ (bg_at (by omega))]
              have bs4 := hB.lt (s + 4)
              by_cases q5 : bg B (s + 4) = 43
              · have hg : f_X3_going (nI fr) (nI to_) (1 : Int32) w = some (nI (goC fr to_ 1), w) := x_going (by omega) (by omega) 1 w
                rw [if_pos (show nI (bg B (s + 4)) = (43 : Int32) by rw [q5]; rfl), if_pos (show nI (t - s) = (5 : Int32) by rw [q4]; rfl), if_neg (fun z => z.2 q5), if_pos q4]
                show bd (f_X3_going (nI fr) (nI to_) (1 : Int32) w) _ = _
                rw [hg, bd_s]
                rfl
              · rw [if_neg (show ¬ nI (bg B (s + 4)) = (43 : Int32) from fun z => q5 ((nI_inj (b := 43) (by omega) (by omega)).mp z)), if_pos ⟨q4, q5⟩]
                rfl
            · have hg : f_X3_going (nI fr) (nI to_) (0 : Int32) w = some (nI (goC fr to_ 0), w) := x_going (by omega) (by omega) 0 w
              have hne : ¬ nI (t - s) = (5 : Int32) := fun z => q4 ((nI_inj (b := 5) (by omega) (by omega)).mp z)
              rw [if_neg hne, if_neg hne, if_neg (fun z => q4 z.1), if_neg q4]
              show bd (f_X3_going (nI fr) (nI to_) (0 : Int32) w) _ = _
              rw [hg, bd_s]
              rfl
def ixO (M : List Nat) (o : Option Nat) : Int32 := match o with
  | none => -1
  | some c => ixV M 0 c
theorem m_told {N s t : Nat} {K : Kd} {P : Ps} {B : List Nat} {w : Wd} (hn : w.1 50 0 = nI N) (h7 : N ≤ 7) (h5 : 5 ≤ N) (h : TXm B w) (hB : BtB B) (hst : s ≤ t) (ht : t ≤ B.length) (hV : VP N K P) (hI : MIn 0 (movL N K P) w) : f_X10_told (nI s) (nI t) w = some (ixO (movL N K P) (mvAt N B s t), w) := by
  have hl := hB.1
  have hNN := NN_le h7
  have bs1 := hB.lt (s + 1)
  have bs := hB.lt s
  have ixS : ∀ k to_, 1 ≤ k → k < 8 → to_ < N * N → f_X10_indexOf (0 : Int32) (-1 : Int32) (nI to_) (0 : Int32) (nI k) w = some (ixV (movL N K P) 0 (seC k to_), w) := by
    intro k to_ h1 h8 hto
    obtain ⟨c1, c2, c3, c4⟩ := seC_ok (k := k) (t := to_) h8 (by omega)
    have := m_indexOf (lv := 0) h7 h5 (by omega) hV hI (okF_se h7 h1 h8 hto)
    rw [show mF (seC k to_) = -1 from by unfold mF; rw [if_pos c2], show mT (seC k to_) = nI to_ from by unfold mT; rw [c1], show mR (seC k to_) = nI 0 from by unfold mR; rw [c3], show mK (seC k to_) = nI k from by unfold mK; rw [if_pos c2, c4]] at this
    exact this
  have ixG : ∀ fr to_ r, fr < N * N → to_ < N * N → r < 2 → f_X10_indexOf (0 : Int32) (nI fr) (nI to_) (nI r) (-1 : Int32) w = some (ixV (movL N K P) 0 (goC fr to_ r), w) := by
    intro fr to_ r hf hto hr
    obtain ⟨c1, c2, c3, c4⟩ := goC_ok (f := fr) (t := to_) (r := r) (by omega) (by omega) hr
    have h63 : cf (goC fr to_ r) ≠ 63 := by rw [c2]; omega
    have := m_indexOf (lv := 0) h7 h5 (by omega) hV hI (okF_go h7 hf hto hr)
    rw [show mF (goC fr to_ r) = nI fr from by unfold mF; rw [if_neg h63, c2], show mT (goC fr to_ r) = nI to_ from by unfold mT; rw [c1], show mR (goC fr to_ r) = nI r from by unfold mR; rw [c3], show mK (goC fr to_ r) = -1 from by unfold mK; rw [if_neg h63]] at this
    exact this
  -- the rest, once the length fits
  have body : ∀ r : Nat, ((r = 0 ∧ t - s = 4) ∨ (r = 1 ∧ t - s = 5 ∧ bg B (s + 4) = 43)) → f_X10_told_41 (nI s) (nI r) w = some (ixO (movL N K P) (mvAt N B s t), w) := by
    intro r hr
    have hr2 : r < 2 := by omega
    unfold f_X10_told_41 mvAt
    rw [if_neg (by omega), show nI s + (2 : Int32) = nI (s + 2) from nI_add s 2, m_fieldAt hn h7 h5 h hB (by omega), bd_s]
    cases e1 : fA N B (s + 2) with
    | none => rw [if_neg (by decide)]; rfl
    | some to_ =>
      have hto := fA_lt e1
      show (if (0 : Int32) ≤ nI to_ then _ else _) = _
      dsimp only
      have e4 := m_in1l (nI (bg B s)) 49 55 (by omega) (by omega) w
      have e4' : f_X10_in (Int32.toInt64 (nI (bg B s))) (49 : Int64) (55 : Int64) w = some (if 49 ≤ bg B s ∧ bg B s ≤ 55 then 1 else 0, w) := by
        refine Eq.trans e4 ?_
        by_cases q : 49 ≤ bg B s ∧ bg B s ≤ 55
        · rw [if_pos q, if_pos ⟨nI_le q.1 (by omega), nI_le q.2 (by omega)⟩]
        · rw [if_neg q, if_neg (fun z => q ⟨(nI_leI (by omega) (by omega)).mp z.1, (nI_leI (by omega) (by omega)).mp z.2⟩)]
      rw [if_pos (nI_pos' (by omega)), inb_nI (show s < 2000 by omega) (by omega), if_pos rfl, nI_clamp (show s < 2 ^ 31 by omega), h.2 s _ (bg_at (by omega)), e4', bd_s]
      have r0 : (nI r = (0 : Int32)) ↔ r = 0 := by
        rcases (show r = 0 ∨ r = 1 by omega) with z | z <;> rw [z] <;> decide
      by_cases q5 : 49 ≤ bg B s ∧ bg B s ≤ 55
      · rw [if_pos q5, if_neg (by decide)]
        unfold f_X10_told_94 f_X10_told_116
        have fN : fA N B s = none := by unfold fA; rw [if_neg (by omega)]
        by_cases qr : r = 0
        · rw [if_pos (r0.mpr qr), nI_1, inb_nI (show s + 1 < 2000 by omega) (by omega), if_pos rfl, nI_clamp (show s + 1 < 2 ^ 31 by omega), h.2 (s + 1) _ (bg_at (by omega))]
          by_cases q3 : bg B (s + 1) = 42
          · rw [if_pos (show nI (bg B (s + 1)) = (42 : Int32) by rw [q3]; rfl), if_pos q3, if_pos rfl, h.2 s _ (bg_at (by omega)), show ov (some to_) = nI to_ from rfl, show nI (bg B s) - (48 : Int32) = nI (bg B s - 48) from pk_sub (a := bg B s) (b := 48) (by omega), ixS _ _ (by omega) (by omega) hto, bd_s, if_pos ⟨by omega, q5⟩]
            rfl
          · rw [if_neg (show ¬ nI (bg B (s + 1)) = (42 : Int32) from fun z => q3 ((nI_inj (b := 42) (by omega) (by omega)).mp z)), if_neg q3, fN]
            rfl
        · rw [if_neg (fun z => qr (r0.mp z))]
          by_cases q3 : bg B (s + 1) = 42
          · rw [if_pos q3, if_neg (fun z => by omega)]; rfl
          · rw [if_neg q3, fN]; rfl
      · rw [if_neg q5, if_pos rfl, m_fieldAt hn h7 h5 h hB (by omega), bd_s]
        unfold f_X10_told_149 f_X10_told_153
        by_cases q3 : bg B (s + 1) = 42
        · have fN : fA N B s = none := by unfold fA; rw [if_neg (by omega)]
          rw [fN, if_neg (by decide), if_pos q3, if_neg (fun z => q5 z.2)]
          rfl
        · rw [if_neg q3]
          cases e2 : fA N B s with
          | none => rw [if_neg (by decide)]; rfl
          | some fr =>
            have hfr := fA_lt e2
            show (if (0 : Int32) ≤ nI fr then _ else _) = _
            dsimp only
            rw [if_pos (nI_pos' (by omega))]
            rcases hr with ⟨z1, z2⟩ | ⟨z1, z2, z3⟩
            · rw [if_pos (r0.mpr z1), if_neg (fun z => by omega), if_neg (by omega)]
              have := ixG fr to_ 0 hfr hto (by omega)
              show bd (f_X10_indexOf (0 : Int32) (nI fr) (nI to_) (nI 0) (-1 : Int32) w) _ = _
              rw [this, bd_s]
              rfl
            · rw [if_neg (fun z => by have := r0.mp z; omega), if_neg (fun z => z.2 z3), if_pos z2]
              have := ixG fr to_ 1 hfr hto (by omega)
              show bd (f_X10_indexOf (0 : Int32) (nI fr) (nI to_) (nI 1) (-1 : Int32) w) _ = _
              rw [this, bd_s]
              rfl
  have none_len : t - s ≠ 4 → t - s ≠ 5 → mvAt N B s t = none := fun a b => by unfold mvAt; rw [if_pos (by omega)]
  unfold f_X10_told f_X10_told_26 f_X10_told_27
  rw [lt_e, pk_sub hst]
  by_cases q5 : t - s = 5
  · rw [if_pos (show nI (t - s) = (5 : Int32) by rw [q5]; rfl), show nI t - (1 : Int32) = nI (t - 1) from pk_sub (a := t) (b := 1) (by omega), inb_nI (show t - 1 < 2000 by omega) (by omega), if_pos rfl, nI_clamp (show t - 1 < 2 ^ 31 by omega), h.2 (t - 1) _ (bg_at (by omega)), show t - 1 = s + 4 by omega]
    have bs4 := hB.lt (s + 4)
    have n4 : ¬ nI (t - s) = (4 : Int32) := fun z => by have := (nI_inj (b := 4) (by omega) (by omega)).mp z; omega
    by_cases q6 : bg B (s + 4) = 43
    · rw [if_pos (show nI (bg B (s + 4)) = (43 : Int32) by rw [q6]; rfl), if_neg n4, if_neg (by decide)]
      exact body 1 (Or.inr ⟨rfl, q5, q6⟩)
    · rw [if_neg (show ¬ nI (bg B (s + 4)) = (43 : Int32) from fun z => q6 ((nI_inj (b := 43) (by omega) (by omega)).mp z)), if_neg n4, if_pos rfl]
      have : mvAt N B s t = none := by
        unfold mvAt
        rw [if_neg (by omega)]
        cases fA N B (s + 2) with
        | none => rfl
        | some to_ =>
          dsimp only
          by_cases q3 : bg B (s + 1) = 42
          · rw [if_pos q3, if_neg (fun z => by omega)]
          · rw [if_neg q3]
            cases fA N B s with
            | none => rfl
            | some fr =>
              dsimp only
              rw [if_pos ⟨q5, q6⟩]
      rw [this]
      rfl
  · rw [if_neg (show ¬ nI (t - s) = (5 : Int32) from fun z => q5 ((nI_inj (b := 5) (by omega) (by omega)).mp z))]
    by_cases q4 : t - s = 4
    · rw [if_pos (show nI (t - s) = (4 : Int32) by rw [q4]; rfl)]
      exact body 0 (Or.inl ⟨rfl, q4⟩)
    · rw [if_neg (show ¬ nI (t - s) = (4 : Int32) from fun z => q4 ((nI_inj (b := 4) (by omega) (by omega)).mp z)), if_pos rfl, none_len q4 q5]
      rfl
