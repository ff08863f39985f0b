/-! ===== positions, moves as numbers, what the reference may change above a level ===== -/
abbrev Ps : Type := (Nat → Nat) × (Nat → Nat) × Nat
def upN (f : Nat → Nat) (k v : Nat) : Nat → Nat := fun j => if j = k then v else f j
def ct (c : Nat) : Nat := c % 64
def cf (c : Nat) : Nat := c / 64 % 64
def cr (c : Nat) : Nat := c / 4096 % 2
def ck (c : Nat) : Nat := c / 8192 % 8
def mF (c : Nat) : Int32 := if cf c = 63 then -1 else nI (cf c)
def mT (c : Nat) : Int32 := nI (ct c)
def mR (c : Nat) : Int32 := nI (cr c)
def mK (c : Nat) : Int32 := if cf c = 63 then nI (ck c) else -1
/-- a position behind a move -/
def mkP (P : Ps) (c : Nat) : Ps :=
  if cf c = 63 then (upN P.1 (ct c) (1 + ck c + 16 * P.2.2), upN P.2.1 (8 * P.2.2 + ck c) (P.2.1 (8 * P.2.2 + ck c) - 1), 1 - P.2.2)
  else (upN (upN P.1 (ct c) (P.1 (cf c) + 8 * cr c)) (cf c) 0, if P.1 (ct c) = 0 then P.2.1 else upN P.2.1 (8 * P.2.2 + kn (P.1 (ct c))) (P.2.1 (8 * P.2.2 + kn (P.1 (ct c))) + 1), 1 - P.2.2)
/-- scratch, boards above lv, lists from lv on -/
def UpM (lv l2 : Nat) (w w' : Wd) : Prop := w'.2 = w.2 ∧ (∀ k, (k < 60 ∧ k ≠ 50) ∨ (72 < k ∧ k ≠ 74 ∧ k ≠ 75) → w'.1 k = w.1 k) ∧ (∀ j, j ≠ 22 → w'.1 50 j = w.1 50 j) ∧ (∀ j, j < 49 * (lv + 1) → w'.1 60 j = w.1 60 j) ∧ (∀ j, j < 16 * (lv + 1) → w'.1 61 j = w.1 61 j) ∧ (∀ j, j < lv + 1 → w'.1 62 j = w.1 62 j) ∧ (∀ j, j < l2 → w'.1 63 j = w.1 63 j ∧ w'.1 68 j = w.1 68 j) ∧ ∀ j, j < 2000 * l2 → ∀ k, (64 ≤ k ∧ k ≤ 67) ∨ (69 ≤ k ∧ k ≤ 72) → w'.1 k j = w.1 k j
theorem UpM.rf {lv l2 : Nat} {w : Wd} : UpM lv l2 w w := ⟨rfl, fun _ _ => rfl, fun _ _ => rfl, fun _ _ => rfl, fun _ _ => rfl, fun _ _ => rfl, fun _ _ => ⟨rfl, rfl⟩, fun _ _ _ _ => rfl⟩
theorem UpM.tr {lv l2 : Nat} {a b c : Wd} (x : UpM lv l2 a b) (y : UpM lv l2 b c) : UpM lv l2 a c := ⟨y.1.trans x.1, fun k h => (y.2.1 k h).trans (x.2.1 k h), fun j h => (y.2.2.1 j h).trans (x.2.2.1 j h), fun j h => (y.2.2.2.1 j h).trans (x.2.2.2.1 j h), fun j h => (y.2.2.2.2.1 j h).trans (x.2.2.2.2.1 j h), fun j h => (y.2.2.2.2.2.1 j h).trans (x.2.2.2.2.2.1 j h), fun j h => ⟨(y.2.2.2.2.2.2.1 j h).1.trans (x.2.2.2.2.2.2.1 j h).1, (y.2.2.2.2.2.2.1 j h).2.trans (x.2.2.2.2.2.2.1 j h).2⟩, fun j h k hk => (y.2.2.2.2.2.2.2 j h k hk).trans (x.2.2.2.2.2.2.2 j h k hk)⟩
theorem UpM.lo {l1 l2 m1 m2 : Nat} {a b : Wd} (h : l1 ≤ l2) (hm : m1 ≤ m2) (x : UpM l2 m2 a b) : UpM l1 m1 a b := ⟨x.1, x.2.1, x.2.2.1, fun j q => x.2.2.2.1 j (by omega), fun j q => x.2.2.2.2.1 j (by omega), fun j q => x.2.2.2.2.2.1 j (by omega), fun j q => x.2.2.2.2.2.2.1 j (by omega), fun j q => x.2.2.2.2.2.2.2 j (by omega)⟩
theorem SameM.up {lv l2 : Nat} {a b : Wd} (x : SameM a b) : UpM lv l2 a b := by
  have e : ∀ k, k ≠ 50 → k ≠ 74 → k ≠ 75 → b.1 k = a.1 k := x.2.1
  refine ⟨x.1, fun k h => e k (by omega) (by omega) (by omega), x.2.2, fun j _ => by rw [e 60 (by decide) (by decide) (by decide)], fun j _ => by rw [e 61 (by decide) (by decide) (by decide)], fun j _ => by rw [e 62 (by decide) (by decide) (by decide)], fun j _ => ⟨by rw [e 63 (by decide) (by decide) (by decide)], by rw [e 68 (by decide) (by decide) (by decide)]⟩, fun j _ k hk => by rw [e k (by omega) (by omega) (by omega)]⟩
theorem UpM.i60 {lv l2 j : Nat} {w : Wd} {v : Int32} (h : 49 * (lv + 1) ≤ j) : UpM lv l2 w (wdI w 60 j v) := ⟨rfl, fun k hk => wI_c (by omega), fun _ _ => by rw [wI_c (by decide)], fun q hq => wI_n (by omega), fun _ _ => by rw [wI_c (by decide)], fun _ _ => by rw [wI_c (by decide)], fun _ _ => ⟨by rw [wI_c (by decide)], by rw [wI_c (by decide)]⟩, fun _ _ k hk => by rw [wI_c (by omega)]⟩
theorem UpM.i61 {lv l2 j : Nat} {w : Wd} {v : Int32} (h : 16 * (lv + 1) ≤ j) : UpM lv l2 w (wdI w 61 j v) := ⟨rfl, fun k hk => wI_c (by omega), fun _ _ => by rw [wI_c (by decide)], fun _ _ => by rw [wI_c (by decide)], fun q hq => wI_n (by omega), fun _ _ => by rw [wI_c (by decide)], fun _ _ => ⟨by rw [wI_c (by decide)], by rw [wI_c (by decide)]⟩, fun _ _ k hk => by rw [wI_c (by omega)]⟩
theorem UpM.i62 {lv l2 j : Nat} {w : Wd} {v : Int32} (h : lv + 1 ≤ j) : UpM lv l2 w (wdI w 62 j v) := ⟨rfl, fun k hk => wI_c (by omega), fun _ _ => by rw [wI_c (by decide)], fun _ _ => by rw [wI_c (by decide)], fun _ _ => by rw [wI_c (by decide)], fun q hq => wI_n (by omega), fun _ _ => ⟨by rw [wI_c (by decide)], by rw [wI_c (by decide)]⟩, fun _ _ k hk => by rw [wI_c (by omega)]⟩
theorem UpM.iL {l1 lv k0 j : Nat} {w : Wd} {v : Int32} (hk0 : (64 ≤ k0 ∧ k0 ≤ 67) ∨ (69 ≤ k0 ∧ k0 ≤ 72)) (h : 2000 * lv ≤ j) : UpM l1 lv w (wdI w k0 j v) := ⟨rfl, fun k hk => wI_c (by omega), fun _ _ => by rw [wI_c (by omega)], fun _ _ => by rw [wI_c (by omega)], fun _ _ => by rw [wI_c (by omega)], fun _ _ => by rw [wI_c (by omega)], fun _ _ => ⟨by rw [wI_c (by omega)], by rw [wI_c (by omega)]⟩, fun q hq k hk => by
  by_cases e : k = k0
  · subst e; exact wI_n (by omega)
  · rw [wI_c e]⟩
theorem UpM.iC {l1 lv k0 j : Nat} {w : Wd} {v : Int32} (hk0 : k0 = 63 ∨ k0 = 68) (h : lv ≤ j) : UpM l1 lv w (wdI w k0 j v) := ⟨rfl, fun k hk => wI_c (by omega), fun _ _ => by rw [wI_c (by omega)], fun _ _ => by rw [wI_c (by omega)], fun _ _ => by rw [wI_c (by omega)], fun _ _ => by rw [wI_c (by omega)], fun q hq => by
  rcases hk0 with rfl | rfl
  · exact ⟨wI_n (by omega), by rw [wI_c (by decide)]⟩
  · exact ⟨by rw [wI_c (by decide)], wI_n (by omega)⟩, fun q hq k hk => by rw [wI_c (by omega)]⟩
/-- a position in the reference's cells, at a level -/
def MP (N lv : Nat) (P : Ps) (w : Wd) : Prop := lv < 16 ∧ (∀ q, q < 49 → w.1 60 (49 * lv + q) = nI (P.1 q) ∧ P.1 q ≤ 32) ∧ (∀ j, j < 16 → w.1 61 (16 * lv + j) = nI (P.2.1 j) ∧ P.2.1 j < 1000) ∧ w.1 62 lv = nI P.2.2 ∧ P.2.2 < 2
theorem MP.b {N lv : Nat} {P : Ps} {w : Wd} (hN : N ≤ 7) (h : MP N lv P w) : MB N lv P.1 w := ⟨h.1, fun q hq => h.2.1 q (by have := NN_le hN; omega)⟩
theorem MP.up {N lv l2 m2 : Nat} {P : Ps} {w w' : Wd} (hl : lv ≤ l2) (h : MP N lv P w) (u : UpM l2 m2 w w') : MP N lv P w' := ⟨h.1, fun q hq => by rw [u.2.2.2.1 _ (by omega)]; exact h.2.1 q hq, fun j hj => by rw [u.2.2.2.2.1 _ (by omega)]; exact h.2.2.1 j hj, by rw [u.2.2.2.2.2.1 _ (by omega)]; exact h.2.2.2.1, h.2.2.2.2⟩
theorem MK.up {N lv l2 : Nat} {K : Kd} {w w' : Wd} (h : MK N K w) (u : UpM lv l2 w w') : MK N K w' := ⟨by rw [u.2.2.1 0 (by decide)]; exact h.1, h.2.1, h.2.2.1, fun t ht => by rw [u.2.1 53 (by omega), u.2.1 54 (by omega)]; exact h.2.2.2 t ht⟩
theorem n16 (lv g : Nat) : (16 : Int32) * nI lv + nI g = nI (16 * lv + g) := by
  rw [show (16 : Int32) = nI 16 from rfl, pk_mul, nI_add]
theorem n168 (lv s g : Nat) : (16 : Int32) * nI lv + (8 : Int32) * nI s + nI g = nI (16 * lv + (8 * s + g)) := by
  rw [show (16 : Int32) = nI 16 from rfl, show (8 : Int32) = nI 8 from rfl, pk_mul, pk_mul, nI_add, nI_add, Nat.add_assoc]
theorem m_mk8 {K46 : Int32 → Int32 → Int32 → Int32 → Int32 → Int32 → Wd → Option (Unit × Wd)} {v2 v3 v4 v5 : Int32} {lv n : Nat} {w : Wd} (hl : lv + 1 < 16) (hn : 49 < n) :
    ∃ w', l_X10_make_8 K46 n (nI lv) v2 v3 v4 v5 (nI (lv + 1)) (nI 0) w = K46 (nI lv) v2 v3 v4 v5 (nI (lv + 1)) w' ∧ UpM lv 16 w w' ∧ ∀ q, q < 49 → w'.1 60 (49 * (lv + 1) + q) = w.1 60 (49 * lv + q) := by
  refine loop_up (fun n i w => l_X10_make_8 K46 n (nI lv) v2 v3 v4 v5 (nI (lv + 1)) i w) (fun w => K46 (nI lv) v2 v3 v4 v5 (nI (lv + 1)) w) 49 (fun i u => UpM lv 16 w u ∧ ∀ q, q < i → u.1 60 (49 * (lv + 1) + q) = w.1 60 (49 * lv + q)) ?_ ?_ 49 0 w rfl ⟨UpM.rf, fun q h => by omega⟩ n hn
  · intro n u _
    show b_X10_make_8 (l_X10_make_8 K46 n) K46 (nI lv) v2 v3 v4 v5 (nI (lv + 1)) (nI 49) u = _
    unfold b_X10_make_8
    rw [if_pos (by decide)]
  · rintro n i u hi ⟨h1, h2⟩
    refine ⟨wdI u 60 (49 * (lv + 1) + i) (w.1 60 (49 * lv + i)), ?_, h1.tr (UpM.i60 (by omega)), fun q hq => ?_⟩
    · show b_X10_make_8 (l_X10_make_8 K46 n) K46 (nI lv) v2 v3 v4 v5 (nI (lv + 1)) (nI i) u = _
      unfold b_X10_make_8
      rw [if_neg (show ¬ (49 : Int32) ≤ nI i from nI_ge hi (by decide)), n49, n49, inb_nI (by omega) (by decide), inb_nI (by omega) (by decide), if_pos rfl, if_pos rfl, lw_e, nI_clamp (by omega), nI_clamp (by omega), nI_1, h1.2.2.2.1 _ (by omega)]
    · by_cases e : q = i
      · subst e; rw [wI_s]
      · rw [wI_n (by omega)]; exact h2 q (by omega)
theorem m_mk49 {K87 : Int32 → Int32 → Int32 → Int32 → Int32 → Int32 → Wd → Option (Unit × Wd)} {v2 v3 v4 v5 : Int32} {lv n : Nat} {w : Wd} (hl : lv + 1 < 16) (hn : 16 < n) :
    ∃ w', l_X10_make_49 K87 n (nI lv) v2 v3 v4 v5 (nI (lv + 1)) (nI 0) w = K87 (nI lv) v2 v3 v4 v5 (nI (lv + 1)) w' ∧ UpM lv 16 w w' ∧ (∀ q, q < 16 → w'.1 61 (16 * (lv + 1) + q) = w.1 61 (16 * lv + q)) ∧ w'.1 60 = w.1 60 := by
  refine loop_up (fun n i w => l_X10_make_49 K87 n (nI lv) v2 v3 v4 v5 (nI (lv + 1)) i w) (fun w => K87 (nI lv) v2 v3 v4 v5 (nI (lv + 1)) w) 16 (fun i u => UpM lv 16 w u ∧ (∀ q, q < i → u.1 61 (16 * (lv + 1) + q) = w.1 61 (16 * lv + q)) ∧ u.1 60 = w.1 60) ?_ ?_ 16 0 w rfl ⟨UpM.rf, fun q h => by omega, rfl⟩ n hn
  · intro n u _
    show b_X10_make_49 (l_X10_make_49 K87 n) K87 (nI lv) v2 v3 v4 v5 (nI (lv + 1)) (nI 16) u = _
    unfold b_X10_make_49
    rw [if_pos (by decide)]
  · rintro n i u hi ⟨h1, h2, h3⟩
    refine ⟨wdI u 61 (16 * (lv + 1) + i) (w.1 61 (16 * lv + i)), ?_, h1.tr (UpM.i61 (by omega)), fun q hq => ?_, by rw [wI_c (by decide)]; exact h3⟩
    · show b_X10_make_49 (l_X10_make_49 K87 n) K87 (nI lv) v2 v3 v4 v5 (nI (lv + 1)) (nI i) u = _
      unfold b_X10_make_49
      rw [if_neg (show ¬ (16 : Int32) ≤ nI i from nI_ge hi (by decide)), n16, n16, inb_nI (by omega) (by decide), inb_nI (by omega) (by decide), if_pos rfl, if_pos rfl, lw_e, nI_clamp (by omega), nI_clamp (by omega), nI_1, h1.2.2.2.2.1 _ (by omega)]
    · by_cases e : q = i
      · subst e; rw [wI_s]
      · rw [wI_n (by omega)]; exact h2 q (by omega)
/-- a move that can be made on a position -/
def okC (N : Nat) (P : Ps) (c : Nat) : Prop := ct c < N * N ∧ (cf c = 63 → 1 ≤ ck c ∧ 1 ≤ P.2.1 (8 * P.2.2 + ck c)) ∧ (cf c ≠ 63 → cf c < N * N ∧ P.1 (cf c) + 8 * cr c ≤ 32 ∧ cf c ≠ ct c ∧ (P.1 (ct c) ≠ 0 → P.2.1 (8 * P.2.2 + kn (P.1 (ct c))) + 1 < 1000))
theorem n8m (a r : Nat) : nI a + (8 : Int32) * nI r = nI (a + 8 * r) := by
  rw [show (8 : Int32) = nI 8 from rfl, pk_mul, nI_add]
theorem n1k16 (k s : Nat) : (1 : Int32) + nI k + (16 : Int32) * nI s = nI (1 + k + 16 * s) := by
  rw [show (16 : Int32) = nI 16 from rfl, show (1 : Int32) = nI 1 from rfl, pk_mul, nI_add, nI_add]
theorem n1s {s : Nat} (h : s < 2) : (1 : Int32) - nI s = nI (1 - s) := by
  rcases (show s = 0 ∨ s = 1 by omega) with rfl | rfl <;> rfl
theorem kn_lt (i : Nat) : kn i < 8 := Nat.mod_lt _ (by decide)
theorem ck_lt (c : Nat) : ck c < 8 := Nat.mod_lt _ (by decide)
theorem cr_lt (c : Nat) : cr c < 2 := Nat.mod_lt _ (by decide)
theorem m_mk202 {N lv f t r : Nat} {P : Ps} {w w0 : Wd} (hl : lv + 1 < 16) (hN : N ≤ 7) (hf : f < N * N) (ht : t < N * N) (hr : r < 2) (hft : f ≠ t) (hP : ∀ q, q < 49 → w.1 60 (49 * lv + q) = nI (P.1 q) ∧ P.1 q ≤ 32) (hP1 : ∀ q, q < 49 → w.1 60 (49 * (lv + 1) + q) = nI (P.1 q)) (hu : UpM lv 16 w0 w) :
    ∃ w', f_X10_make_202 (nI lv) (nI f) (nI t) (nI r) (nI (lv + 1)) w = some ((), w') ∧ UpM lv 16 w0 w' ∧ (∀ q, q < 49 → w'.1 60 (49 * (lv + 1) + q) = nI (upN (upN P.1 t (P.1 f + 8 * r)) f 0 q)) ∧ w'.1 61 = w.1 61 ∧ w'.1 62 = w.1 62 := by
  have hNN := NN_le hN
  unfold f_X10_make_202 f_X10_make_244
  rw [n49, n49, n49, inb_nI (by omega) (by decide), inb_nI (by omega) (by decide), inb_nI (by omega) (by decide), if_pos rfl, if_pos rfl, lw_e, if_pos rfl, lw_e, nI_clamp (by omega), nI_clamp (by omega), nI_clamp (by omega), (hP f (by omega)).1, n8m]
  refine ⟨_, rfl, (hu.tr (UpM.i60 (by omega))).tr (UpM.i60 (by omega)), fun q hq => ?_, by rw [wI_c (by decide), wI_c (by decide)], by rw [wI_c (by decide), wI_c (by decide)]⟩
  unfold upN
  by_cases e : q = f
  · subst e; rw [wI_s, if_pos rfl]; rfl
  · rw [wI_n (by omega), if_neg e]
    by_cases e2 : q = t
    · subst e2; rw [wI_s, if_pos rfl]
    · rw [wI_n (by omega), if_neg e2]; exact hP1 q hq
theorem m_make {N lv c : Nat} {P : Ps} {w : Wd} (hl : lv + 1 < 16) (hN : N ≤ 7) (hP : MP N lv P w) (hc : okC N P c) :
    ∃ w', f_X10_make (nI lv) (mF c) (mT c) (mR c) (mK c) w = some ((), w') ∧ UpM lv 16 w w' ∧ MP N (lv + 1) (mkP P c) w' := by
  have hNN := NN_le hN
  obtain ⟨p1, p2, p3, p4, p5⟩ := hP
  unfold f_X10_make
  rw [lt_e, nI_1]
  obtain ⟨w1, a1, a2, a3⟩ := m_mk8 (K46 := f_X10_make_46) (v2 := mF c) (v3 := mT c) (v4 := mR c) (v5 := mK c) (lv := lv) (n := FU) (w := w) hl (by decide)
  obtain ⟨w2, b1, b2, b3, b4⟩ := m_mk49 (K87 := f_X10_make_87) (v2 := mF c) (v3 := mT c) (v4 := mR c) (v5 := mK c) (lv := lv) (n := FU) (w := w1) hl (by decide)
  have u2 := a2.tr b2
  have s2 : w2.1 62 lv = nI P.2.2 := by rw [u2.2.2.2.2.2.1 lv (by omega)]; exact p4
  have q1 : ∀ q, q < 49 → w2.1 60 (49 * lv + q) = nI (P.1 q) ∧ P.1 q ≤ 32 := fun q hq => ⟨by rw [u2.2.2.2.1 _ (by omega)]; exact (p2 q hq).1, (p2 q hq).2⟩
  have q2 : ∀ q, q < 49 → w2.1 60 (49 * (lv + 1) + q) = nI (P.1 q) := fun q hq => by rw [b4, a3 q hq]; exact (p2 q hq).1
  have q3 : ∀ j, j < 16 → w2.1 61 (16 * (lv + 1) + j) = nI (P.2.1 j) := fun j hj => by rw [b3 j hj, a2.2.2.2.2.1 _ (by omega)]; exact (p3 j hj).1
  have head : f_X10_make_87 (nI lv) (mF c) (mT c) (mR c) (mK c) (nI (lv + 1)) w2 = some ((), w2) ∨ True := Or.inr trivial
  have red : l_X10_make_8 f_X10_make_46 FU (nI lv) (mF c) (mT c) (mR c) (mK c) (nI (lv + 1)) (0 : Int32) w = f_X10_make_87 (nI lv) (mF c) (mT c) (mR c) (mK c) (nI (lv + 1)) w2 := by
    refine Eq.trans a1 ?_
    unfold f_X10_make_46
    exact b1
  rw [red]
  unfold f_X10_make_87
  rw [inb_nI (show lv < 16 by omega) (by decide), if_pos rfl, lt_e, nI_clamp (show lv < 2 ^ 31 by omega), s2, inb_nI (show lv + 1 < 16 by omega) (by decide), if_pos rfl, lw_e, nI_clamp (show lv + 1 < 2 ^ 31 by omega), n1s p5]
  have u3 : UpM lv 16 w (wdI w2 62 (lv + 1) (nI (1 - P.2.2))) := u2.tr (UpM.i62 (by omega))
  generalize hw3 : wdI w2 62 (lv + 1) (nI (1 - P.2.2)) = w3 at u3 ⊢
  have e60 : w3.1 60 = w2.1 60 := by rw [← hw3, wI_c (by decide)]
  have e61 : w3.1 61 = w2.1 61 := by rw [← hw3, wI_c (by decide)]
  have e62 : w3.1 62 (lv + 1) = nI (1 - P.2.2) := by rw [← hw3, wI_s]
  have hct := hc.1
  by_cases hset : cf c = 63
  · obtain ⟨k1, k2⟩ := hc.2.1 hset
    have hk := ck_lt c
    have eF : mF c = -1 := if_pos hset
    have eK : mK c = nI (ck c) := if_pos hset
    have eP : mkP P c = (upN P.1 (ct c) (1 + ck c + 16 * P.2.2), upN P.2.1 (8 * P.2.2 + ck c) (P.2.1 (8 * P.2.2 + ck c) - 1), 1 - P.2.2) := if_pos hset
    have hj : 8 * P.2.2 + ck c < 16 := by omega
    rw [eF, eK, eP, if_neg (by decide), n168, inb_nI (show 16 * (lv + 1) + (8 * P.2.2 + ck c) < 256 by omega) (by decide), if_pos rfl, if_pos rfl, lw_e, nI_clamp (by omega), e61, q3 _ hj]
    unfold mT
    rw [n49, inb_nI (show 49 * (lv + 1) + ct c < 784 by omega) (by decide), if_pos rfl, lw_e, nI_clamp (by omega), n1k16]
    unfold f_X10_make_244
    refine ⟨_, rfl, (u3.tr (UpM.i61 (by omega))).tr (UpM.i60 (by omega)), hl, fun q hq => ?_, fun j hj2 => ?_, ?_, show 1 - P.2.2 < 2 by omega⟩
    · show _ = nI (upN P.1 (ct c) (1 + ck c + 16 * P.2.2) q) ∧ upN P.1 (ct c) (1 + ck c + 16 * P.2.2) q ≤ 32
      unfold upN
      by_cases e : q = ct c
      · subst e
        rw [wI_s, if_pos rfl]
        exact ⟨rfl, by omega⟩
      · rw [wI_n (by omega), wI_c (by decide), e60, if_neg e]
        exact ⟨q2 q hq, (p2 q hq).2⟩
    · show _ = nI (upN P.2.1 (8 * P.2.2 + ck c) (P.2.1 (8 * P.2.2 + ck c) - 1) j) ∧ upN P.2.1 (8 * P.2.2 + ck c) (P.2.1 (8 * P.2.2 + ck c) - 1) j < 1000
      have hb := (p3 _ hj).2
      unfold upN
      rw [wI_c (by decide)]
      by_cases e : j = 8 * P.2.2 + ck c
      · subst e
        rw [wI_s, if_pos rfl]
        refine ⟨?_, by omega⟩
        rw [show (1 : Int32) = nI 1 from rfl, pk_sub k2]
      · rw [wI_n (by omega), e61, if_neg e]
        exact ⟨q3 j hj2, (p3 j hj2).2⟩
    · rw [wI_c (by decide), wI_c (by decide)]
      exact e62
  · obtain ⟨k1, k2, k3, k4⟩ := hc.2.2 hset
    have eF : mF c = nI (cf c) := if_neg hset
    have eP : mkP P c = (upN (upN P.1 (ct c) (P.1 (cf c) + 8 * cr c)) (cf c) 0, if P.1 (ct c) = 0 then P.2.1 else upN P.2.1 (8 * P.2.2 + kn (P.1 (ct c))) (P.2.1 (8 * P.2.2 + kn (P.1 (ct c))) + 1), 1 - P.2.2) := if_neg hset
    have hct9 := q1 (ct c) (by omega)
    rw [eF, eP, if_pos (show (0 : Int32) ≤ nI (cf c) from nI_pos' (by omega))]
    unfold mT mR
    rw [n49, inb_nI (show 49 * lv + ct c < 784 by omega) (by decide), if_pos rfl, lt_e, nI_clamp (show 49 * lv + ct c < 2 ^ 31 by omega), e60, hct9.1]
    have bfin : ∀ q, q < 49 → upN (upN P.1 (ct c) (P.1 (cf c) + 8 * cr c)) (cf c) 0 q ≤ 32 := by
      intro q hq
      unfold upN
      split
      · omega
      · split
        · exact k2
        · exact (p2 q hq).2
    by_cases h0 : P.1 (ct c) = 0
    · rw [h0, if_pos z0, if_pos rfl]
      obtain ⟨w', c1, c2, c3, c4, c5⟩ := m_mk202 (N := N) (P := P) (w := w3) hl hN k1 hct (cr_lt c) k3 (fun q hq => by rw [e60]; exact q1 q hq) (fun q hq => by rw [e60]; exact q2 q hq) u3
      refine ⟨w', c1, c2, hl, fun q hq => ⟨c3 q hq, bfin q hq⟩, fun j hj => ?_, by rw [c5]; exact e62, show 1 - P.2.2 < 2 by omega⟩
      rw [c4, e61]
      exact ⟨q3 j hj, (p3 j hj).2⟩
    · have hpos : 0 < P.1 (ct c) := by omega
      have hk := kn_lt (P.1 (ct c))
      have hj : 8 * P.2.2 + kn (P.1 (ct c)) < 16 := by omega
      rw [if_neg (nI_ne0 hpos (by omega)), if_neg h0, m_kindOf hpos hct9.2, bd_s, n168, inb_nI (show 16 * (lv + 1) + (8 * P.2.2 + kn (P.1 (ct c))) < 256 by omega) (by decide), if_pos rfl, if_pos rfl, lw_e, nI_clamp (by omega), e61, q3 _ hj, nI_1]
      obtain ⟨w', c1, c2, c3, c4, c5⟩ := m_mk202 (N := N) (P := P) (w := wdI w3 61 (16 * (lv + 1) + (8 * P.2.2 + kn (P.1 (ct c)))) (nI (P.2.1 (8 * P.2.2 + kn (P.1 (ct c))) + 1))) hl hN k1 hct (cr_lt c) k3 (fun q hq => by rw [wI_c (by decide), e60]; exact q1 q hq) (fun q hq => by rw [wI_c (by decide), e60]; exact q2 q hq) (u3.tr (UpM.i61 (by omega)))
      refine ⟨w', c1, c2, hl, fun q hq => ⟨c3 q hq, bfin q hq⟩, fun j hj2 => ?_, by rw [c5, wI_c (by decide)]; exact e62, show 1 - P.2.2 < 2 by omega⟩
      rw [c4]
      show _ = nI (upN P.2.1 (8 * P.2.2 + kn (P.1 (ct c))) (P.2.1 (8 * P.2.2 + kn (P.1 (ct c))) + 1) j) ∧ upN P.2.1 (8 * P.2.2 + kn (P.1 (ct c))) (P.2.1 (8 * P.2.2 + kn (P.1 (ct c))) + 1) j < 1000
      unfold upN
      by_cases e : j = 8 * P.2.2 + kn (P.1 (ct c))
      · subst e
        rw [wI_s, if_pos rfl]
        exact ⟨rfl, k4 h0⟩
      · rw [wI_n (by omega), e61, if_neg e]
        exact ⟨q3 j hj2, (p3 j hj2).2⟩
