/-! ===== the relation between the two systems ===== -/
def XC (N : Nat) (K : Kd) (w : Wd) : Prop := XK N K w ∧ XD K w ∧ XW N K w ∧ w.1 27 2 = nI (27 * (N * N))
def RLn (wx wm : Wd) (r : Nat) : Prop := (wx.1 13 r = -1 ∧ wm.1 56 r = -1) ∨ ∃ f n : Nat, f < 3 ∧ n ≤ 12 ∧ (wx.1 12 r = nI f ∧ wm.1 56 r = nI f) ∧ (wx.1 13 r = nI n ∧ wm.1 57 r = nI n) ∧ ∀ i, i < n → wx.1 (15 + r) i = wm.1 58 (12 * r + i)
def RBs (N : Nat) (K : Kd) (wx wm : Wd) : Prop := wx.1 0 0 = nI (N * N) ∧ XC N K wx ∧ MK N K wm ∧ MM K wm
def RLs (N : Nat) (wx wm : Wd) : Prop := wx.1 11 0 = nI N ∧ ∀ r, r < N → RLn wx wm r
def RHs (wx wm : Wd) : Prop := ∀ j, j < 16 → ∃ v : Nat, v ≤ 9 ∧ wx.1 1 j = nI v ∧ wm.1 77 j = nI v ∧ (j = 0 ∨ j = 8 → v = 0)
def RFs (wx wm : Wd) : Prop := wx.1 0 12 = wm.1 50 1
def RTs (N : Nat) (wx wm : Wd) : Prop := ∃ B, BtB B ∧ TXx N B wx ∧ TXm B wm
def TreeR (N : Nat) (T : List Nd) (wx wm : Wd) : Prop := wx.1 29 5 = nI T.length ∧ NdX 0 T wx ∧ TrP N T wm ∧ (T = [] ∨ ∃ k, k ≤ 5 ∧ shH k 0 0 (T.map Prod.snd))
def RCs (N : Nat) (wx wm : Wd) : Prop := ∃ F u T, F ≤ 1000 ∧ (wx.1 29 6 = nI F ∧ wm.1 50 39 = nI F) ∧ (wx.1 29 7 = nI u ∧ wm.1 50 40 = nI u) ∧ TreeR N T wx wm
def RSs (N : Nat) (K : Kd) (wx wm : Wd) : Prop := (wx.2.2 = (35, 39) ∨ wx.2.2 = (39, 35)) ∧ ((wx.1 0 10 = 0 ∧ wm.1 50 25 = 0) ∨ ∃ oc os h ps cs d a, XSd N K oc os ps cs d a wx ∧ MSd N K h ps cs d a wm)
def Rl (N : Nat) (wx wm : Wd) : Prop := ∃ K, RBs N K wx wm ∧ RLs N wx wm ∧ RHs wx wm ∧ RFs wx wm ∧ RTs N wx wm ∧ RCs N wx wm ∧ RSs N K wx wm
/-- one call on both: the same answer, the relation again -/
def CallOk {α : Type} (N : Nat) (fx fm : Option (α × Wd)) : Prop := ∃ v wx' wm', fx = some (v, wx') ∧ fm = some (v, wm') ∧ Rl N wx' wm'
theorem Rl.same {α : Type} {N : Nat} {wx wm : Wd} {fx fm : Option (α × Wd)} (h : Rl N wx wm) (v : α) (hx : fx = some (v, wx)) (hm : fm = some (v, wm)) : CallOk N fx fm := ⟨v, wx, wm, hx, hm, h⟩
theorem RLs.top {N : Nat} {a b c d : Wd} (h : RLs N a b) (h7 : N ≤ 7) (x : ∀ k, 11 ≤ k → k < 22 → c.1 k = a.1 k) (y : ∀ k, 56 ≤ k → k ≤ 58 → d.1 k = b.1 k) : RLs N c d := by
  unfold RLs RLn at h ⊢
  rw [x 11 (by omega) (by omega), x 12 (by omega) (by omega), x 13 (by omega) (by omega), y 56 (by omega) (by omega), y 57 (by omega) (by omega), y 58 (by omega) (by omega)]
  refine ⟨h.1, fun r hr => ?_⟩
  rcases h.2 r hr with q | ⟨f, n, q1, q2, q3, q4, q5⟩
  · exact Or.inl q
  · exact Or.inr ⟨f, n, q1, q2, q3, q4, fun i hi => by rw [x (15 + r) (by omega) (by omega)]; exact q5 i hi⟩
theorem RHs.top {a b c d : Wd} (h : RHs a b) (x : c.1 1 = a.1 1) (y : d.1 77 = b.1 77) : RHs c d := by
  unfold RHs at h ⊢
  rw [x, y]
  exact h
theorem RTs.top {N : Nat} {a b c d : Wd} (h : RTs N a b) (x : ∀ k, k = 33 ∨ k = 34 → c.1 k = a.1 k) (y : d.1 102 = b.1 102) (y2 : d.1 50 50 = b.1 50 50) : RTs N c d := by
  obtain ⟨B, h1, h2, h3⟩ := h
  refine ⟨B, h1, ?_, ?_⟩
  · unfold TXx at h2 ⊢
    rw [x 33 (by omega), x 34 (by omega)]
    exact h2
  · unfold TXm at h3 ⊢
    rw [y, y2]
    exact h3
theorem RCs.top {N : Nat} {a b c d : Wd} (h : RCs N a b) (x : ∀ k, 29 ≤ k → k ≤ 32 → c.1 k = a.1 k) (y : ∀ k, 93 ≤ k → k ≤ 98 → d.1 k = b.1 k) (y2 : ∀ j, j = 39 ∨ j = 40 ∨ j = 41 → d.1 50 j = b.1 50 j) : RCs N c d := by
  obtain ⟨F, u, T, h1, h2, h3, h4, h5, ⟨h6, h7, h8⟩, h9⟩ := h
  refine ⟨F, u, T, h1, ?_, ?_, ?_, ?_, ⟨?_, ?_, h8⟩, h9⟩
  · rw [x 29 (by omega) (by omega), y2 39 (by omega)]; exact h2
  · rw [x 29 (by omega) (by omega), y2 40 (by omega)]; exact h3
  · rw [x 29 (by omega) (by omega)]; exact h4
  · intro i e hi
    rw [x 30 (by omega) (by omega), x 31 (by omega) (by omega), x 32 (by omega) (by omega)]
    exact h5 i e hi
  · intro i e hi
    rw [y 93 (by omega) (by omega), y 94 (by omega) (by omega), y 95 (by omega) (by omega), y 96 (by omega) (by omega), y 97 (by omega) (by omega), y 98 (by omega) (by omega)]
    exact h6 i e hi
  · rw [y2 41 (by omega)]; exact h7
theorem XA.xc {N : Nat} {K : Kd} {P : Ps} {w : Wd} (h : XA N K P w) : XC N K w := ⟨h.1, h.2.1, h.2.2.1, h.2.2.2.2.2⟩
theorem MK.top {N : Nat} {K : Kd} {w w' : Wd} (x : MK N K w) (u : TopM w w') : MK N K w' := ⟨by rw [u.2 0 (by omega)]; exact x.1, x.2.1, x.2.2.1, fun t ht => by rw [u.1 53 (by omega), u.1 54 (by omega)]; exact x.2.2.2 t ht⟩
theorem MM.top {K : Kd} {w w' : Wd} (x : MM K w) (u : TopM w w') : MM K w' := fun k hk => by rw [u.1 55 (by omega)]; exact x k hk
theorem XC.of {N : Nat} {K : Kd} {w w' : Wd} (h : XC N K w) (e : ∀ k, 2 ≤ k → k ≤ 10 → w'.1 k = w.1 k) (e2 : w'.1 22 1 = w.1 22 1 ∧ w'.1 22 2 = w.1 22 2) (e3 : w'.1 27 2 = w.1 27 2) : XC N K w' := by
  obtain ⟨h1, h2, h3, h4⟩ := h
  refine ⟨?_, ?_, ?_, by rw [e3]; exact h4⟩
  · unfold XK at h1 ⊢
    rw [e2.1, e2.2, e 3 (by omega) (by omega), e 6 (by omega) (by omega), e 7 (by omega) (by omega)]
    exact h1
  · unfold XD at h2 ⊢
    rw [e 8 (by omega) (by omega), e 9 (by omega) (by omega)]
    exact h2
  · unfold XW at h3 ⊢
    rw [e 2 (by omega) (by omega), e 4 (by omega) (by omega), e 5 (by omega) (by omega), e 10 (by omega) (by omega)]
    exact h3
/-- a call on a stand: all but the stand stays -/
theorem Rl.std {N oc os h d a : Nat} {K : Kd} {ps : Nat → Ps} {cs : Nat → Nat} {wx wm vx vm : Wd} (hB : RBs N K wx wm) (hL : RLs N wx wm) (hH : RHs wx wm) (hF : RFs wx wm) (hT : RTs N wx wm) (hC : RCs N wx wm) (tx : TopX wx vx) (tm : TopM wm vm) (sx : XSd N K oc os ps cs d a vx) (sm : MSd N K h ps cs d a vm) : Rl N vx vm := by
  obtain ⟨b1, b2, b3, b4⟩ := hB
  refine ⟨K, ⟨by rw [tx.2 0 (by decide)]; exact b1, sx.2.2.1.xc, b3.top tm, b4.top tm⟩, hL.top b3.2.1 (fun k h1 h2 => tx.1 k (by omega)) (fun k h1 h2 => tm.1 k (by omega)), hH.top (tx.1 1 (by omega)) (tm.1 77 (by omega)), ?_, hT.top (fun k hk => tx.1 k (by omega)) (tm.1 102 (by omega)) (tm.2 50 (by omega)), hC.top (fun k h1 h2 => tx.1 k (by omega)) (fun k h1 h2 => tm.1 k (by omega)) (fun j hj => tm.2 j (by omega)), ?_, Or.inr ⟨oc, os, h, ps, cs, d, a, sx, sm⟩⟩
  · unfold RFs at hF ⊢
    rw [tx.2 12 (by decide), tm.2 1 (by omega)]
    exact hF
  · rcases sx.1 with ⟨rfl, rfl⟩ | ⟨rfl, rfl⟩
    · exact Or.inl sx.2.1
    · exact Or.inr sx.2.1
theorem XSd.fr {N oc os d a lo hi : Nat} {K : Kd} {ps : Nat → Ps} {cs : Nat → Nat} {w w' : Wd} (h : XSd N K oc os ps cs d a w) (x : FrX N lo hi w w') (hA : XA N K (ps d) w') (hlo : 2 * (27 * (N * N)) ≤ lo ∨ (lo = 0 ∧ hi = 0)) : XSd N K oc os ps cs d a w' := by
  obtain ⟨h1, h2, h3, h4, ⟨h5, h6⟩, h7⟩ := h
  have hlen := mov_len (K := K) h3.n7 h3.n5 (h4.vp h3.n7 h3.n5 h4.2.1.1).mv
  refine ⟨h1, by rw [x.1]; exact h2, hA, h4.fr x (by omega), ⟨by rw [x.2.1 0 (by omega)]; exact h5, fun j c hj => ?_⟩, by rw [x.2.1 0 (by omega)]; exact h7⟩
  have hjl := (List.getElem?_eq_some_iff.mp hj).1
  rw [List.length_map] at hjl
  rw [x.2.2.2 _ (by omega) (by omega)]
  exact h6 j c hj
theorem MSd.up {N h d a : Nat} {K : Kd} {ps : Nat → Ps} {cs : Nat → Nat} {w w' : Wd} (x : MSd N K h ps cs d a w) (u : UpM 0 0 w w') : MSd N K h ps cs d a w' := by
  obtain ⟨h1, h2, h3, h4, h5, h6, h7, h8⟩ := x
  refine ⟨h1.up (Nat.le_refl _) u, h2.up u, h3, ?_, ?_, ?_, ?_, ?_⟩
  · rw [u.2.2.1 25 (by decide)]; exact h4
  · rw [u.2.2.1 35 (by decide)]; exact h5
  · rw [u.2.2.1 36 (by decide)]; exact h6
  · rw [u.2.2.1 37 (by decide)]; exact h7
  · rw [u.2.2.1 38 (by decide)]; exact h8
theorem SameM.up0 {a b : Wd} (x : SameM a b) : UpM 0 0 a b := x.up
/-! simple asks -/
theorem k_finding {N : Nat} {wx wm : Wd} (h : Rl N wx wm) : CallOk N (f_X9_finding N wx) (f_X10_finding wm) := by
  have hh := h
  obtain ⟨K, hB, hL, hH, hF, hT, hC, hS⟩ := hh
  refine h.same (wx.1 0 12) rfl ?_
  unfold f_X10_finding
  rw [show wx.1 0 12 = wm.1 50 1 from hF]
theorem k_spent {N : Nat} {wx wm : Wd} (h : Rl N wx wm) : CallOk N (f_X9_spent N wx) (f_X10_spent wm) := by
  have hh := h
  obtain ⟨K, hB, hL, hH, hF, hT, ⟨F, u, T, c1, c2, c3, c4⟩, hS⟩ := hh
  refine h.same (nI u) ?_ ?_
  · unfold f_X9_spent
    rw [c3.1]
  · unfold f_X10_spent
    rw [c3.2]
theorem k_tree {N : Nat} {wx wm : Wd} (h : Rl N wx wm) : CallOk N (f_X9_tree N wx) (f_X10_tree wm) := by
  have hh := h
  obtain ⟨K, hB, hL, hH, hF, hT, ⟨F, u, T, c1, c2, c3, c4, c5, c6, c7⟩, hS⟩ := hh
  refine h.same (nI T.length) ?_ ?_
  · unfold f_X9_tree
    rw [c4]
  · unfold f_X10_tree
    rw [c6.2.1]
theorem RSs.of {N : Nat} {K : Kd} {a b c d : Wd} (h : RSs N K a b) (x : ∀ k, k ≠ 33 → k ≠ 34 → k ≠ 29 → k ≠ 30 → k ≠ 31 → k ≠ 32 → c.1 k = a.1 k) (x2 : c.2 = a.2) (y : ∀ k, k ≠ 50 → k < 93 → d.1 k = b.1 k) (y2 : ∀ j, j ≠ 22 → j ≠ 39 → j ≠ 40 → j ≠ 41 → j ≠ 50 → d.1 50 j = b.1 50 j) : RSs N K c d := by
  obtain ⟨h1, h2⟩ := h
  refine ⟨by rw [x2]; exact h1, ?_⟩
  rcases h2 with ⟨q1, q2⟩ | ⟨oc, os, hh, ps, cs, dd, aa, ⟨s1, s2, s3, s4, s5, s6⟩, ⟨m1, m2, m3, m4, m5, m6, m7, m8⟩⟩
  · exact Or.inl ⟨by rw [x 0 (by decide) (by decide) (by decide) (by decide) (by decide) (by decide)]; exact q1, by rw [y2 25 (by decide) (by decide) (by decide) (by decide) (by decide)]; exact q2⟩
  · refine Or.inr ⟨oc, os, hh, ps, cs, dd, aa, ⟨s1, by rw [x2]; exact s2, s3.oth2 (fun k a b _ => x k (by omega) (by omega) (by omega) (by omega) (by omega) (by omega)), s4.of (x oc (by omega) (by omega) (by omega) (by omega) (by omega) (by omega)) (x (oc + 1) (by omega) (by omega) (by omega) (by omega) (by omega) (by omega)) (x (oc + 2) (by omega) (by omega) (by omega) (by omega) (by omega) (by omega)) (by rw [x2]), ⟨?_, fun j c hj => ?_⟩, ?_⟩, ⟨?_, m2.of (fun k h1 h2 => y k (by omega) (by omega)), m3, ?_, ?_, ?_, ?_, ?_⟩⟩
    · rw [x 0 (by decide) (by decide) (by decide) (by decide) (by decide) (by decide)]; exact s5.1
    · rw [x 28 (by decide) (by decide) (by decide) (by decide) (by decide) (by decide)]; exact s5.2 j c hj
    · rw [x 0 (by decide) (by decide) (by decide) (by decide) (by decide) (by decide)]; exact s6
    · unfold MP at m1 ⊢
      rw [y 60 (by decide) (by decide), y 61 (by decide) (by decide), y 62 (by decide) (by decide)]
      exact m1
    · rw [y2 25 (by decide) (by decide) (by decide) (by decide) (by decide)]; exact m4
    · rw [y2 35 (by decide) (by decide) (by decide) (by decide) (by decide)]; exact m5
    · rw [y2 36 (by decide) (by decide) (by decide) (by decide) (by decide)]; exact m6
    · rw [y2 37 (by decide) (by decide) (by decide) (by decide) (by decide)]; exact m7
    · rw [y2 38 (by decide) (by decide) (by decide) (by decide) (by decide)]; exact m8
/-- calls that change texts and chases alone -/
theorem Rl.low {N : Nat} {K : Kd} {wx wm vx vm : Wd} (hB : RBs N K wx wm) (hL : RLs N wx wm) (hH : RHs wx wm) (hF : RFs wx wm) (hS : RSs N K wx wm) (hT : RTs N vx vm) (hC : RCs N vx vm) (x : ∀ k, k ≠ 33 → k ≠ 34 → k ≠ 29 → k ≠ 30 → k ≠ 31 → k ≠ 32 → vx.1 k = wx.1 k) (x2 : vx.2 = wx.2) (y : ∀ k, k ≠ 50 → k < 93 → vm.1 k = wm.1 k) (y2 : ∀ j, j ≠ 22 → j ≠ 39 → j ≠ 40 → j ≠ 41 → j ≠ 50 → vm.1 50 j = wm.1 50 j) : Rl N vx vm := by
  obtain ⟨b1, b2, b3, b4⟩ := hB
  have x' : ∀ k, k < 29 ∨ 34 < k → vx.1 k = wx.1 k := fun k hk => x k (by omega) (by omega) (by omega) (by omega) (by omega) (by omega)
  refine ⟨K, ⟨by rw [x' 0 (by omega)]; exact b1, b2.of (fun k h1 h2 => x' k (by omega)) ⟨by rw [x' 22 (by omega)], by rw [x' 22 (by omega)]⟩ (by rw [x' 27 (by omega)]), ⟨by rw [y2 0 (by decide) (by decide) (by decide) (by decide) (by decide)]; exact b3.1, b3.2.1, b3.2.2.1, fun t ht => by rw [y 53 (by decide) (by decide), y 54 (by decide) (by decide)]; exact b3.2.2.2 t ht⟩, fun k hk => by rw [y 55 (by decide) (by decide)]; exact b4 k hk⟩, hL.top b3.2.1 (fun k h1 h2 => x' k (by omega)) (fun k h1 h2 => y k (by omega) (by omega)), hH.top (x' 1 (by omega)) (y 77 (by decide) (by decide)), ?_, hT, hC, hS.of x x2 y y2⟩
  unfold RFs at hF ⊢
  rw [x' 0 (by omega), y2 1 (by decide) (by decide) (by decide) (by decide) (by decide)]
  exact hF
theorem k_wipe {N : Nat} {wx wm : Wd} (h : Rl N wx wm) : CallOk N (f_X9_wipe N wx) (f_X10_wipe wm) := by
  obtain ⟨K, hB, hL, hH, hF, ⟨B, t1, t2, t3⟩, hC, hS⟩ := h
  refine ⟨nI B.length, wdI wx 33 2 0, wdI wm 50 50 0, ?_, ?_, Rl.low hB hL hH hF hS ⟨[], ⟨by simp, fun b hb => by simp at hb⟩, ⟨by rw [wI_n (by decide)]; exact t2.1, by rw [wI_s]; rfl, fun i b hi => by simp at hi⟩, ⟨by rw [wI_s]; rfl, fun i b hi => by simp at hi⟩⟩ (hC.top (fun k h1 h2 => wI_c (by omega)) (fun k h1 h2 => wI_c (by omega)) (fun j hj => wI_n (by omega))) (fun k h1 _ _ _ _ _ => wI_c h1) rfl (fun k h1 _ => wI_c h1) (fun j _ _ _ _ h5 => wI_n h5)⟩
  · unfold f_X9_wipe
    rw [lt_e, lw_e, t2.2.1]
  · unfold f_X10_wipe
    rw [lt_e, lw_e, t3.1]
theorem in0_e {v : Int32} {M : Nat} (hM : M + 1 < 2 ^ 31) (w : Wd) : f_X10_in v.toInt64 (0 : Int64) (Int32.toInt64 (nI (M + 1) - (1 : Int32))) w = some (b2i (inb v (M + 1)), w) := by
  rw [nI_pred, m_in0]
  by_cases q : inb v (M + 1) = true
  · rw [if_pos ((inb_le hM).mpr q), q]; rfl
  · rw [if_neg (fun z => q ((inb_le hM).mp z)), (by simpa using q : inb v (M + 1) = false)]; rfl
/-- 0 to n - 1, also with n = 0 -/
theorem in0_n {v : Int32} {n : Nat} (hn : n < 2 ^ 31) (w : Wd) : f_X10_in v.toInt64 (0 : Int64) (Int32.toInt64 (nI n - (1 : Int32))) w = some (b2i (inb v n), w) := by
  rcases Nat.eq_zero_or_pos n with rfl | q
  · have e : inb v 0 = false := by
      cases h : inb v 0 with
      | false => rfl
      | true =>
        obtain ⟨j, hj, _⟩ := (inb_iff (by omega)).mp h
        omega
    rw [m_in0, e]
    rw [if_neg]
    · rfl
    · rintro ⟨a, b⟩
      rw [Int32.le_iff_toInt_le] at a b
      have h1 : (nI 0 - 1 : Int32).toInt = -1 := by decide
      have h2 : (0 : Int32).toInt = 0 := by decide
      omega
  · obtain ⟨m, rfl⟩ : ∃ m, n = m + 1 := ⟨n - 1, by omega⟩
    exact in0_e (by omega) w
theorem lo_hi {α : Type} {v : Int32} {n : Nat} {A B : α} (hn : n < 2 ^ 31) : (if v < 0 then B else if v < nI n then A else B) = if inb v n = true then A else B := by
  rcases pk_ix v (n := n) hn with h | h | ⟨j, hj, rfl⟩
  · have : ¬ inb v n = true := fun q => (inb_in q) (Or.inl h)
    rw [if_pos h, if_neg this]
  · have h0 : ¬ inb v n = true := fun q => by
      obtain ⟨j, hj, rfl⟩ := (inb_iff (by omega)).mp q
      exact nI_ge hj (by omega) h
    have h1 : ¬ v < nI n := by
      rw [Int32.lt_iff_toInt_lt]
      rw [Int32.le_iff_toInt_le] at h
      omega
    rw [if_neg h1, if_neg h0]
    split <;> rfl
  · rw [if_neg (nI_pos (by omega)), if_pos (nI_lt hj (by omega)), if_pos (inb_nI hj (by omega))]
theorem lo_le {α : Type} {v : Int32} {n : Nat} {A B : α} (hn : n + 1 < 2 ^ 31) : (if v < 0 then B else if v ≤ nI n then A else B) = if inb v (n + 1) = true then A else B := by
  rw [← lo_hi (by omega)]
  by_cases h0 : v < 0
  · rw [if_pos h0, if_pos h0]
  · rw [if_neg h0, if_neg h0]
    obtain ⟨j, hj, rfl⟩ := nI_of h0
    by_cases q : j ≤ n
    · rw [if_pos (nI_le q (by omega)), if_pos (nI_lt (by omega) (by omega))]
    · rw [if_neg (nI_ge (by omega) (by omega)), if_neg (nI_nlt (by omega) (by omega))]
theorem k_letter {N : Nat} {wx wm : Wd} {v : Int32} (h : Rl N wx wm) : CallOk N (f_X9_letter N v wx) (f_X10_letter v wm) := by
  have hh := h
  obtain ⟨K, hB, hL, hH, hF, ⟨B, t1, t2, t3⟩, hC, hS⟩ := hh
  have hl := t1.1
  unfold f_X9_letter f_X9_letter_15 f_X9_letter_28 f_X10_letter f_X10_letter_26
  rw [t2.2.1, t3.1, in0_n (by omega), bd_s, b2_0, lo_hi (by omega)]
  by_cases q : inb v B.length = true
  · obtain ⟨j, hj, rfl⟩ := (inb_iff (by omega)).mp q
    rw [if_pos q, if_pos q, inb_nI (show j < 2000 by omega) (by omega), if_pos rfl, if_pos rfl, nI_clamp (by omega), t2.2.2 j _ (bg_at hj), t3.2 j _ (bg_at hj)]
    exact h.same _ rfl rfl
  · rw [if_neg q, if_neg q]
    exact h.same _ rfl rfl
theorem in0l_e {v : Int32} {M : Nat} (hM : M + 1 < 2 ^ 31) (w : Wd) : f_X10_in v.toInt64 (0 : Int64) (OfNat.ofNat M : Int64) w = some (b2i (inb v (M + 1)), w) := by
  rw [m_in0l v M (by omega) w]
  by_cases q : inb v (M + 1) = true
  · rw [if_pos ((inb_le hM).mpr q), q]; rfl
  · rw [if_neg (fun z => q ((inb_le hM).mp z)), (by simpa using q : inb v (M + 1) = false)]; rfl
theorem k_type {N : Nat} {wx wm : Wd} {v : Int32} (h : Rl N wx wm) : CallOk N (f_X9_type N v wx) (f_X10_type v wm) := by
  have hh := h
  obtain ⟨K, hB, hL, hH, hF, ⟨B, t1, t2, t3⟩, hC, hS⟩ := hh
  have hl := t1.1
  unfold f_X9_type f_X9_type_11 f_X10_type
  have e0 : f_X10_in (Int32.toInt64 v) (0 : Int64) (255 : Int64) wm = some (b2i (inb v 256), wm) := in0l_e (M := 255) (by omega) wm
  rw [e0, bd_s, b2_0, t2.2.1, t3.1, show (255 : Int32) = nI 255 from rfl, lo_le (by omega)]
  by_cases q : inb v (255 + 1) = true
  · obtain ⟨j, hj, rfl⟩ := (inb_iff (by omega)).mp q
    rw [if_pos q, if_pos (show inb (nI j) 256 = true from q)]
    by_cases q2 : B.length = 2000
    · rw [if_neg (show ¬ nI B.length < (2000 : Int32) from nI_nlt (b := 2000) (by omega) (by omega)), if_pos (show nI B.length = (2000 : Int32) by rw [q2]; rfl)]
      exact h.same _ rfl rfl
    · obtain ⟨vx, a1, a2, a3⟩ := x_add (b := j) t2 (by omega)
      rw [if_pos (show nI B.length < (2000 : Int32) from nI_lt (b := 2000) (by omega) (by omega)), if_neg (show ¬ nI B.length = (2000 : Int32) from fun z => q2 ((nI_inj (b := 2000) (by omega) (by omega)).mp z)), a1, bd_s, inb_nI (show B.length < 2000 by omega) (by omega), if_pos rfl, lw_e, nI_clamp (by omega), lw_e, wI_c (show (50:Nat) ≠ 102 by decide), t3.1, nI_1, wI_s, a2.2.1]
      have em : TXm (B ++ [j]) (wdI (wdI wm 102 B.length (nI j)) 50 50 (nI (B.length + 1))) := by
        refine ⟨by rw [wI_s, List.length_append, List.length_singleton], fun i x hi => ?_⟩
        rw [wI_c (by decide)]
        rcases getq_push hi with ⟨g1, g2⟩ | ⟨g1, g2⟩
        · rw [wI_n (by omega)]; exact t3.2 i x g2
        · rw [g1, g2, wI_s]
      refine ⟨nI (B.length + 1), vx, _, by rw [List.length_append, List.length_singleton], rfl, Rl.low hB hL hH hF hS ⟨B ++ [j], ⟨by rw [List.length_append, List.length_singleton]; omega, fun b hb => ?_⟩, a2, em⟩ (hC.top (fun k h1 h2 => a3.2.1 k (by omega) (by omega)) (fun k h1 h2 => by rw [wI_c (by omega), wI_c (by omega)]) (fun j hj => by rw [wI_n (by omega), wI_c (by omega)])) (fun k h1 h2 _ _ _ _ => a3.2.1 k h1 h2) a3.1 (fun k h1 h2 => by rw [wI_c h1, wI_c (by omega)]) (fun j _ _ _ _ h5 => by rw [wI_n h5, wI_c (by decide)])⟩
      rcases List.mem_append.mp hb with hb | hb
      · exact t1.2 b hb
      · rw [List.mem_singleton.mp hb]; omega
  · rw [if_neg q, if_neg (show ¬ inb v 256 = true from q)]
    exact h.same _ rfl rfl
theorem in1_e {v : Int32} {M : Nat} (h1 : 1 ≤ M) (hM : M + 1 < 2 ^ 31) : ((1 : Int32) ≤ v ∧ v ≤ nI M) ↔ ∃ j : Nat, 1 ≤ j ∧ j ≤ M ∧ v = nI j := by
  constructor
  · rintro ⟨a, b⟩
    have hv : ¬ v < 0 := by
      rw [Int32.le_iff_toInt_le] at a
      rw [Int32.lt_iff_toInt_lt]
      have : (1 : Int32).toInt = 1 := by decide
      have : (0 : Int32).toInt = 0 := by decide
      omega
    obtain ⟨j, hj, rfl⟩ := nI_of hv
    exact ⟨j, (nI_leI (a := 1) (by omega) hj).mp a, (nI_leI hj (by omega)).mp b, rfl⟩
  · rintro ⟨k, h1, h2, rfl⟩
    exact ⟨nI_le (a := 1) h1 (by omega), nI_le h2 (by omega)⟩
theorem lo1_le {α : Type} {v : Int32} {M : Nat} {A B : α} (h1 : 1 ≤ M) (hM : M + 1 < 2 ^ 31) : (if v < 1 then B else if v ≤ nI M then A else B) = if (1 : Int32) ≤ v ∧ v ≤ nI M then A else B := by
  by_cases q : v < 1
  · rw [if_pos q, if_neg (fun z => by rw [Int32.lt_iff_toInt_lt] at q; have := z.1; rw [Int32.le_iff_toInt_le] at this; omega)]
  · rw [if_neg q]
    have q' : (1 : Int32) ≤ v := by
      rw [Int32.lt_iff_toInt_lt] at q
      rw [Int32.le_iff_toInt_le]
      omega
    by_cases q2 : v ≤ nI M
    · rw [if_pos q2, if_pos ⟨q', q2⟩]
    · rw [if_neg q2, if_neg (fun z => q2 z.2)]
theorem k_fuel {N : Nat} {wx wm : Wd} {v : Int32} (h : Rl N wx wm) : CallOk N (f_X9_fuel N v wx) (f_X10_fuel v wm) := by
  have hh := h
  obtain ⟨K, hB, hL, hH, hF, hT, ⟨F, u, T, c1, c2, c3, c4, c5, c6, c7⟩, hS⟩ := hh
  unfold f_X9_fuel f_X9_fuel_12 f_X10_fuel
  have e0 : f_X10_in (Int32.toInt64 v) (1 : Int64) (1000 : Int64) wm = some (if (1 : Int32) ≤ v ∧ v ≤ nI 1000 then 1 else 0, wm) := m_in1l v 1 1000 (by omega) (by omega) wm
  rw [e0, bd_s, show (1000 : Int32) = nI 1000 from rfl, lo1_le (by omega) (by omega), ite10]
  by_cases q : (1 : Int32) ≤ v ∧ v ≤ nI 1000
  · obtain ⟨j, j1, j2, rfl⟩ := (in1_e (by omega) (by omega)).mp q
    rw [if_pos q, if_pos q, lt_e, lw_e, lt_e, lw_e, c2.1, c2.2]
    refine ⟨nI F, _, _, rfl, rfl, Rl.low hB hL hH hF hS (hT.top (fun k hk => wI_c (by omega)) (wI_c (by decide)) (wI_n (by decide))) ⟨j, u, T, j2, ⟨by rw [wI_s], by rw [wI_s]⟩, ⟨by rw [wI_n (by decide)]; exact c3.1, by rw [wI_n (by decide)]; exact c3.2⟩, by rw [wI_n (by decide)]; exact c4, fun i e hi => ?_, ⟨fun i e hi => ?_, by rw [wI_n (by decide)]; exact c6.2.1, c6.2.2⟩, c7⟩ (fun k _ _ h3 _ _ _ => wI_c h3) rfl (fun k h1 _ => wI_c h1) (fun j _ h2 _ _ _ => wI_n h2)⟩
    · rw [wI_c (by decide), wI_c (by decide), wI_c (by decide)]; exact c5 i e hi
    · rw [wI_c (by decide), wI_c (by decide), wI_c (by decide), wI_c (by decide), wI_c (by decide), wI_c (by decide)]; exact c6.1 i e hi
  · rw [if_neg q, if_neg q]
    exact h.same _ rfl rfl
