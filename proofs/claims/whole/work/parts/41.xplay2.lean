/-! ===== the class's Play: its methods ===== -/
theorem wL_1 {w : Wd} {k j : Nat} {v : Int64} : (wdL w k j v).1 = w.1 := rfl
theorem wL_22 {w : Wd} {k j : Nat} {v : Int64} : (wdL w k j v).2.2 = w.2.2 := rfl
theorem wL_s {w : Wd} {k j : Nat} {v : Int64} : (wdL w k j v).2.1 k j = v := by simp [wdL, vp_updL]
theorem wL_n {w : Wd} {k j j' : Nat} {v : Int64} (h : j' ≠ j) : (wdL w k j v).2.1 k j' = w.2.1 k j' := by simp [wdL, vp_updL, h]
theorem wL_c {w : Wd} {k k' j : Nat} {v : Int64} (h : k' ≠ k) : (wdL w k j v).2.1 k' = w.2.1 k' := by simp [wdL, h]
/-- the words of stand d alone -/
def KX0 (o d : Nat) (w w' : Wd) : Prop := w'.1 = w.1 ∧ w'.2.2 = w.2.2 ∧ (∀ k, k ≠ o + 3 → w'.2.1 k = w.2.1 k) ∧ ∀ i, i < 7 * d ∨ 7 * d + 7 ≤ i → w'.2.1 (o + 3) i = w.2.1 (o + 3) i
theorem KX0.rf {o d : Nat} {w : Wd} : KX0 o d w w := ⟨rfl, rfl, fun _ _ => rfl, fun _ _ => rfl⟩
theorem KX0.l {o d j : Nat} {w u : Wd} {v : Int64} (h : KX0 o d w u) (hj : 7 * d ≤ j ∧ j < 7 * d + 7) : KX0 o d w (wdL u (o + 3) j v) := ⟨h.1, h.2.1, fun k hk => by rw [wL_c hk]; exact h.2.2.1 k hk, fun i hi => by rw [wL_n (by omega)]; exact h.2.2.2 i hi⟩
/-- stand d kept and counted -/
def KX (o d : Nat) (w w' : Wd) : Prop := w'.2.2 = w.2.2 ∧ (∀ k, k ≠ o → w'.1 k = w.1 k) ∧ (∀ j, j ≠ 5 → j ≠ 8 → w'.1 o j = w.1 o j) ∧ (∀ k, k ≠ o + 3 → w'.2.1 k = w.2.1 k) ∧ ∀ i, i < 7 * d ∨ 7 * d + 7 ≤ i → w'.2.1 (o + 3) i = w.2.1 (o + 3) i
theorem XB.oth {N : Nat} {bo : Nat → Nat} {w w' : Wd} (h : XB N bo w) (e : w'.1 23 = w.1 23) : XB N bo w' := fun q hq => by rw [e]; exact h q hq
theorem x_ks10 {N o d : Nat} {P : Ps} {w : Wd} (h7 : N ≤ 7) (hB : XB N P.1 w) (hd : d ≤ 300) :
    ∀ (m j n : Nat) (u : Wd), j + m = 5 → m < n → KX0 o d w u → (∀ q, q < j → u.2.1 (o + 3) (7 * d + q) = lN (pkW N P q)) →
      ∃ u', l_X4_keepStand_10 N o (f_X4_keepStand_37 N o) n (nI (7 * d)) (nI j) u = f_X4_keepStand_37 N o (nI (7 * d)) u' ∧ KX0 o d w u' ∧ ∀ q, q < 5 → u'.2.1 (o + 3) (7 * d + q) = lN (pkW N P q) := by
  intro m
  induction m with
  | zero =>
    intro j n u hj hn hu hq
    obtain ⟨n, rfl⟩ : ∃ q, n = q + 1 := ⟨n - 1, by omega⟩
    refine ⟨u, ?_, hu, fun q h => hq q (by omega)⟩
    show b_X4_keepStand_10 N o (l_X4_keepStand_10 N o (f_X4_keepStand_37 N o) n) (f_X4_keepStand_37 N o) (nI (7 * d)) (nI j) u = _
    unfold b_X4_keepStand_10
    rw [if_pos (show (5 : Int32) ≤ nI j from nI_le (a := 5) (by omega) (by omega))]
  | succ m ih =>
    intro j n u hj hn hu hq
    obtain ⟨n, rfl⟩ : ∃ q, n = q + 1 := ⟨n - 1, by omega⟩
    have e1 : l_X4_keepStand_10 N o (f_X4_keepStand_37 N o) (n + 1) (nI (7 * d)) (nI j) u = b_X4_keepStand_10 N o (l_X4_keepStand_10 N o (f_X4_keepStand_37 N o) n) (f_X4_keepStand_37 N o) (nI (7 * d)) (nI j) u := rfl
    have e10 : (10 : Int32) * nI j = nI (10 * j) := pk_mul 10 j
    rw [e1]
    unfold b_X4_keepStand_10
    rw [if_neg (show ¬ (5 : Int32) ≤ nI j from nI_ge (b := 5) (by omega) (by omega)), e10, x_packedFields h7 (hB.oth (by rw [hu.1])) (show j < 5 by omega), bd_s, nI_add, inb_nI (show 7 * d + j < 2107 by omega) (by omega), if_pos rfl, lw_e, nI_clamp (by omega), nI_1]
    refine ih (j + 1) n _ (by omega) (by omega) (hu.l ⟨by omega, by omega⟩) (fun q hq2 => ?_)
    by_cases e : q = j
    · subst e; rw [wL_s]
    · rw [wL_n (by omega)]; exact hq q (by omega)
theorem x_keepStand {N o d : Nat} {K : Kd} {ps : Nat → Ps} {cs : Nat → Nat} {w : Wd} (h7 : N ≤ 7) (h5 : 5 ≤ N) (ho : 29 ≤ o) (hPl : Pl N K ps cs d) (hP : XP N (ps d) w) (hd : d ≤ 300) (hdn : w.1 o 6 = nI d) (hS : ∀ i, i < d → ∀ j, j < 7 → w.2.1 (o + 3) (7 * i + j) = lN (pkW N (ps i) j)) :
    ∃ w', f_X4_keepStand N o w = some ((), w') ∧ KX o d w w' ∧ XSt N o ps d w' ∧ w'.1 o 8 = nI (cntS ps d) ∧ w'.1 o 5 = nI (fstS ps d) := by
  have hV := (hPl.vp h7 h5 d (Nat.le_refl _)).toVB
  have e7 : (7 : Int32) * nI d = nI (7 * d) := pk_mul 7 d
  obtain ⟨u, a1, a2, a3⟩ := x_ks10 (o := o) h7 hP.1 hd 5 0 FU w (by omega) (by decide) KX0.rf (fun q hq => by omega)
  have a1' : l_X4_keepStand_10 N o (f_X4_keepStand_37 N o) FU (nI (7 * d)) (0 : Int32) w = f_X4_keepStand_37 N o (nI (7 * d)) u := a1
  unfold f_X4_keepStand
  rw [lt_e, hdn, e7, a1']
  have hH : ∀ (v : Wd), v.1 = w.1 → ∀ j, j < 16 → v.1 24 j = nI ((ps d).2.1 j) ∧ (ps d).2.1 j < 128 := fun v hv j hj => by
    rw [hv]
    exact ⟨(hP.2.1 j hj).1, by have := hV.hd hj; omega⟩
  have p1 : f_X4_packedHand N o (0 : Int32) u = some (lN (pkW N (ps d) 5), u) := x_packedHand (h := 0) (by omega) (hH u a2.1)
  unfold f_X4_keepStand_37
  rw [p1, bd_s, show nI (7 * d) + (5 : Int32) = nI (7 * d + 5) from nI_add _ 5, inb_nI (show 7 * d + 5 < 2107 by omega) (by omega), if_pos rfl, lw_e, nI_clamp (by omega), nI_1]
  have a4 := a2.l (v := lN (pkW N (ps d) 5)) (j := 7 * d + 5) ⟨by omega, by omega⟩
  have p2 : f_X4_packedHand N o (8 : Int32) (wdL u (o + 3) (7 * d + 5) (lN (pkW N (ps d) 5))) = some (lN (pkW N (ps d) 6), wdL u (o + 3) (7 * d + 5) (lN (pkW N (ps d) 5))) := x_packedHand (h := 1) (by omega) (hH _ a4.1)
  rw [p2, bd_s, inb_nI (show 7 * d + 5 + 1 < 2107 by omega) (by omega), if_pos rfl, lw_e, nI_clamp (by omega)]
  have a5 := a4.l (v := lN (pkW N (ps d) 6)) (j := 7 * d + 5 + 1) ⟨by omega, by omega⟩
  have hw : ∀ q, q < 7 → (wdL (wdL u (o + 3) (7 * d + 5) (lN (pkW N (ps d) 5))) (o + 3) (7 * d + 5 + 1) (lN (pkW N (ps d) 6))).2.1 (o + 3) (7 * d + q) = lN (pkW N (ps d) q) := fun q hq => by
    by_cases e6 : q = 6
    · subst e6; rw [show 7 * d + 6 = 7 * d + 5 + 1 by omega, wL_s]
    · rw [wL_n (by omega)]
      by_cases e5 : q = 5
      · subst e5; rw [wL_s]
      · rw [wL_n (by omega)]; exact a3 q (by omega)
  have hst : XSt N o ps d (wdL (wdL u (o + 3) (7 * d + 5) (lN (pkW N (ps d) 5))) (o + 3) (7 * d + 5 + 1) (lN (pkW N (ps d) 6))) := fun i hi j hj => by
    by_cases e : i = d
    · subst e; exact hw j hj
    · rw [a5.2.2.2 _ (by omega)]; exact hS i (by omega) j hj
  obtain ⟨w', b1, b2, b3, b4⟩ := x_countTimes h7 h5 hPl hst hd (Nat.le_refl _) (by rw [a5.1]; exact hdn)
  rw [b1, bd_s]
  refine ⟨w', rfl, ⟨?_, ?_, ?_, ?_, ?_⟩, ?_, b3, b4⟩
  · rw [b2.1]; exact a5.2.1
  · intro k hk; rw [b2.2.1 k hk, a5.1]
  · intro j h1 h2; rw [b2.2.2 j h1 h2, a5.1]
  · intro k hk; rw [b2.1]; exact a5.2.2.1 k hk
  · intro i hi; rw [b2.1]; exact a5.2.2.2 i hi
  · intro i hi j hj; rw [b2.1]; exact hst i hi j hj
/-- a play in the cells from o on -/
def XPl (N : Nat) (K : Kd) (o : Nat) (ps : Nat → Ps) (cs : Nat → Nat) (d a : Nat) (w : Wd) : Prop :=
  (w.1 o 4 = nI (ps 0).2.2 ∧ w.1 o 5 = nI (fstS ps d) ∧ w.1 o 6 = nI d ∧ w.1 o 7 = nI a ∧ w.1 o 8 = nI (cntS ps d)) ∧ (d ≤ a ∧ a ≤ 300) ∧ (∀ i, i < a → w.1 (o + 1) i = nI (tc (ps i).1 (cs i)) ∧ w.1 (o + 2) i = b2i (gvC N K ps i)) ∧ XSt N o ps a w ∧ Pl N K ps cs a
/-- play o and the table alone -/
def PTX (o : Nat) (w w' : Wd) : Prop := w'.2.2 = w.2.2 ∧ (∀ k, k < 22 ∨ 25 < k → k ≠ o → k ≠ o + 1 → k ≠ o + 2 → w'.1 k = w.1 k) ∧ (∀ j, j ≠ 7 → w'.1 22 j = w.1 22 j) ∧ ∀ k, k ≠ o + 3 → w'.2.1 k = w.2.1 k
theorem PTX.rf {o : Nat} {w : Wd} : PTX o w w := ⟨rfl, fun _ _ _ _ _ => rfl, fun _ _ => rfl, fun _ _ => rfl⟩
theorem PTX.tr {o : Nat} {a b c : Wd} (x : PTX o a b) (y : PTX o b c) : PTX o a c := ⟨y.1.trans x.1, fun k h h1 h2 h3 => (y.2.1 k h h1 h2 h3).trans (x.2.1 k h h1 h2 h3), fun j h => (y.2.2.1 j h).trans (x.2.2.1 j h), fun k h => (y.2.2.2 k h).trans (x.2.2.2 k h)⟩
theorem AppX.pt {o : Nat} {w w' : Wd} (x : AppX w w') : PTX o w w' := ⟨by rw [x.1], fun k h _ _ _ => x.2.1 k h, x.2.2, fun k _ => by rw [x.1]⟩
theorem KX.pt {o d : Nat} {w w' : Wd} (ho : 29 ≤ o) (x : KX o d w w') : PTX o w w' := ⟨x.1, fun k _ h _ _ => x.2.1 k h, fun j _ => by rw [x.2.1 22 (by omega)], x.2.2.2.1⟩
theorem CtX.pt {o : Nat} {w w' : Wd} (ho : 29 ≤ o) (x : CtX o w w') : PTX o w w' := ⟨by rw [x.1], fun k _ h _ _ => x.2.1 k h, fun j _ => by rw [x.2.1 22 (by omega)], fun k _ => by rw [x.1]⟩
theorem PTX.i {o k j : Nat} {w : Wd} {v : Int32} (ho : 29 ≤ o) (hk : k = o ∨ k = o + 1 ∨ k = o + 2) : PTX o w (wdI w k j v) := ⟨rfl, fun q _ h1 h2 h3 => wI_c (by omega), fun q _ => by rw [wI_c (by omega)], fun _ _ => rfl⟩
theorem XA.oth {N : Nat} {K : Kd} {P : Ps} {w w' : Wd} (h : XA N K P w) (e : ∀ k, k < 28 → w'.1 k = w.1 k) : XA N K P w' := by
  obtain ⟨h1, h2, h3, h4, h5, h6⟩ := h
  refine ⟨?_, ?_, ?_, ?_, ?_, ?_⟩
  · unfold XK at h1 ⊢
    rw [e 22 (by omega), e 3 (by omega), e 6 (by omega), e 7 (by omega)]
    exact h1
  · unfold XD at h2 ⊢
    rw [e 8 (by omega), e 9 (by omega)]
    exact h2
  · unfold XW at h3 ⊢
    rw [e 2 (by omega), e 4 (by omega), e 5 (by omega), e 10 (by omega)]
    exact h3
  · unfold XP XB at h4 ⊢
    rw [e 22 (by omega), e 23 (by omega), e 24 (by omega)]
    exact h4
  · unfold KG at h5 ⊢
    rw [e 25 (by omega)]
    exact h5
  · rw [e 27 (by omega)]
    exact h6
theorem x_begin {N o : Nat} {K : Kd} {P : Ps} {w : Wd} (ho : 29 ≤ o) (hA : XA N K P w) (hV : VP N K P) : ∃ w', f_X4_begin N o w = some ((), w') ∧ PTX o w w' ∧ XA N K P w' ∧ XPl N K o (fun _ => P) (fun _ => 0) 0 0 w' ∧ w'.1 23 = w.1 23 ∧ w'.1 24 = w.1 24 ∧ w'.1 25 = w.1 25 ∧ w'.1 22 = w.1 22 := by
  have hPl : Pl N K (fun _ => P) (fun _ => 0) 0 := ⟨hV, fun i hi => by omega⟩
  unfold f_X4_begin
  rw [lw_e, lw_e, lw_e]
  have hc : ∀ k, k ≠ o → (wdI (wdI (wdI w o 4 (w.1 22 7)) o 6 0) o 7 0).1 k = w.1 k := fun k hk => by rw [wI_c hk, wI_c hk, wI_c hk]
  have hA1 : XA N K P (wdI (wdI (wdI w o 4 (w.1 22 7)) o 6 0) o 7 0) := hA.oth (fun k hk => hc k (by omega))
  obtain ⟨w', a1, a2, a3, a4, a5⟩ := x_keepStand (o := o) hA.n7 hA.n5 ho hPl hA1.2.2.2.1 (by omega) (by rw [wI_n (by decide), wI_s]; rfl) (fun i hi => by omega)
  rw [a1, bd_s]
  have hk : ∀ k, k ≠ o → w'.1 k = w.1 k := fun k h => (a2.2.1 k h).trans (hc k h)
  refine ⟨w', rfl, (((PTX.i ho (Or.inl rfl)).tr (PTX.i ho (Or.inl rfl))).tr (PTX.i ho (Or.inl rfl))).tr (a2.pt ho), hA.oth (fun k h => hk k (by omega)), ⟨⟨?_, a5, ?_, ?_, a4⟩, ⟨by omega, by omega⟩, fun i hi => by omega, a3, hPl⟩, hk 23 (by omega), hk 24 (by omega), hk 25 (by omega), hk 22 (by omega)⟩
  · rw [a2.2.2.1 4 (by decide) (by decide), wI_n (by decide), wI_n (by decide), wI_s]; exact hA.2.2.2.1.2.2.1
  · rw [a2.2.2.1 6 (by decide) (by decide), wI_n (by decide), wI_s]; rfl
  · rw [a2.2.2.1 7 (by decide) (by decide), wI_s]; rfl
theorem x_repeat {N o d a : Nat} {K : Kd} {ps : Nat → Ps} {cs : Nat → Nat} {w : Wd} (ho : 29 ≤ o) (hA : XA N K (ps d) w) (hPl : Pl N K ps cs a) (hda : d < a) (ha : a ≤ 300) (hdn : w.1 o 6 = nI d) (hcd : w.1 (o + 1) d = nI (tc (ps d).1 (cs d))) (hS : XSt N o ps d w) :
    ∃ w', f_X4_repeat N o w = some ((), w') ∧ PTX o w w' ∧ XA N K (ps (d + 1)) w' ∧ (w'.1 o 4 = w.1 o 4 ∧ w'.1 o 5 = nI (fstS ps (d + 1)) ∧ w'.1 o 6 = nI (d + 1) ∧ w'.1 o 7 = w.1 o 7 ∧ w'.1 o 8 = nI (cntS ps (d + 1))) ∧ w'.1 (o + 1) = w.1 (o + 1) ∧ (w'.1 (o + 2) d = b2i (gvC N K ps d) ∧ ∀ i, i ≠ d → w'.1 (o + 2) i = w.1 (o + 2) i) ∧ XSt N o ps (d + 1) w' ∧ ∀ i, 7 * (d + 1) + 7 ≤ i → w'.2.1 (o + 3) i = w.2.1 (o + 3) i := by
  obtain ⟨hc, hn⟩ := hPl.2 d hda
  have hV := hPl.vp hA.n7 hA.n5 d (by omega)
  have hV1 := hPl.vp hA.n7 hA.n5 (d + 1) (by omega)
  obtain ⟨w1, a1, a2, a3⟩ := x_app hA hV (mov_tri hc)
  rw [← hn] at a3
  unfold f_X4_repeat
  have e1 : w1.1 o 6 = nI d := by rw [a2.2.1 o (by omega)]; exact hdn
  have hck : f_X6_inCheck N (w1.1 22 7) w1 = some (b2i (gvC N K ps d), w1) := by
    rw [a3.2.2.2.1.2.2.1]
    exact x_inCheck a3 hV1.toVB hV1.mv
  rw [hdn, inb_nI (show d < 300 by omega) (by omega), if_pos rfl, nI_clamp (by omega), hcd, a1, bd_s, hck, bd_s, e1, inb_nI (show d < 300 by omega) (by omega), if_pos rfl, lw_e, nI_clamp (by omega), vp_b, lw_e, wI_c (show o ≠ o + 2 by omega), e1, nI_1]
  have hcc : ∀ k, k ≠ o → k ≠ o + 2 → (wdI (wdI w1 (o + 2) d (b2i (gvC N K ps d))) o 6 (nI (d + 1))).1 k = w1.1 k := fun k h1 h2 => by rw [wI_c h1, wI_c h2]
  have hA2 : XA N K (ps (d + 1)) (wdI (wdI w1 (o + 2) d (b2i (gvC N K ps d))) o 6 (nI (d + 1))) := a3.oth (fun k hk => hcc k (by omega) (by omega))
  obtain ⟨w2, b1, b2, b3, b4, b5⟩ := x_keepStand (o := o) (d := d + 1) hA.n7 hA.n5 ho (hPl.lo (by omega)) hA2.2.2.2.1 (by omega) (by rw [wI_s]) (fun i hi j hj => by
    show w1.2.1 (o + 3) (7 * i + j) = _
    rw [a2.1]
    exact hS i (by omega) j hj)
  rw [b1, bd_s]
  refine ⟨w2, rfl, ((a2.pt.tr (PTX.i ho (Or.inr (Or.inr rfl)))).tr (PTX.i ho (Or.inl rfl))).tr (b2.pt ho), hA2.oth (fun k h => b2.2.1 k (by omega)), ⟨?_, b5, ?_, ?_, b4⟩, ?_, ⟨?_, fun i hi => ?_⟩, b3, fun i hi => ?_⟩
  · rw [b2.2.2.1 4 (by decide) (by decide), wI_n (by decide), wI_c (by omega), a2.2.1 o (by omega)]
  · rw [b2.2.2.1 6 (by decide) (by decide), wI_s]
  · rw [b2.2.2.1 7 (by decide) (by decide), wI_n (by decide), wI_c (by omega), a2.2.1 o (by omega)]
  · rw [b2.2.1 (o + 1) (by omega), hcc _ (by omega) (by omega), a2.2.1 _ (by omega)]
  · rw [b2.2.1 (o + 2) (by omega), wI_c (by omega), wI_s]
  · rw [b2.2.1 (o + 2) (by omega), wI_c (by omega), wI_n hi, a2.2.1 _ (by omega)]
  · rw [b2.2.2.2.2 i (by omega)]
    show w1.2.1 (o + 3) i = _
    rw [a2.1]
theorem XPl.vp {N o d a : Nat} {K : Kd} {ps : Nat → Ps} {cs : Nat → Nat} {w : Wd} (h : XPl N K o ps cs d a w) (h7 : N ≤ 7) (h5 : 5 ≤ N) {i : Nat} (hi : i ≤ a) : VP N K (ps i) := h.2.2.2.2.vp h7 h5 i hi
/-- Play.repeat: a move that was gone back over is done again -/
theorem x_forth {N o d a : Nat} {K : Kd} {ps : Nat → Ps} {cs : Nat → Nat} {w : Wd} (ho : 29 ≤ o) (hA : XA N K (ps d) w) (hX : XPl N K o ps cs d a w) (hda : d < a) :
    ∃ w', f_X4_repeat N o w = some ((), w') ∧ PTX o w w' ∧ XA N K (ps (d + 1)) w' ∧ XPl N K o ps cs (d + 1) a w' := by
  obtain ⟨⟨x4, x5, x6, x7, x8⟩, ⟨y1, y2⟩, z1, z2, z3⟩ := hX
  obtain ⟨w', a1, a2, a3, ⟨a4, a5, a6, a7, a8⟩, a9, ⟨b1, b2⟩, b3, b4⟩ := x_repeat ho hA z3 hda y2 x6 (z1 d hda).1 (fun i hi j hj => z2 i (by omega) j hj)
  refine ⟨w', a1, a2, a3, ⟨a4.trans x4, a5, a6, a7.trans x7, a8⟩, ⟨by omega, y2⟩, fun i hi => ⟨by rw [a9]; exact (z1 i hi).1, ?_⟩, fun i hi j hj => ?_, z3⟩
  · by_cases e : i = d
    · subst e; exact b1
    · rw [b2 i e]; exact (z1 i hi).2
  · by_cases e : i ≤ d + 1
    · exact b3 i e j hj
    · rw [b4 _ (by omega)]; exact z2 i hi j hj
theorem cntS_cg {ps qs : Nat → Ps} {d : Nat} (h : ∀ i, i ≤ d → ps i = qs i) : cntS ps d = cntS qs d := by
  unfold cntS
  exact cnt_cg _ (fun i hi => by rw [h i (by omega), h d (by omega)])
theorem fstS_cg {ps qs : Nat → Ps} {d : Nat} (h : ∀ i, i ≤ d → ps i = qs i) : fstS ps d = fstS qs d := by
  unfold fstS
  exact fst_cg _ _ (fun i hi => by rw [h i (by omega), h d (by omega)])
/-- Play.advance -/
theorem x_advance {N o d a c : Nat} {K : Kd} {ps : Nat → Ps} {cs : Nat → Nat} {w : Wd} (ho : 29 ≤ o) (hA : XA N K (ps d) w) (hX : XPl N K o ps cs d a w) (hd : d < 300) (hc : c ∈ movL N K (ps d)) :
    ∃ w', f_X4_advance N o (nI (tc (ps d).1 c)) w = some ((), w') ∧ PTX o w w' ∧ XA N K (mkP (ps d) c) w' ∧ XPl N K o (psA ps d c) (upN cs d c) (d + 1) (d + 1) w' := by
  obtain ⟨⟨x4, x5, x6, x7, x8⟩, ⟨y1, y2⟩, z1, z2, z3⟩ := hX
  unfold f_X4_advance
  rw [x6, inb_nI (show d < 300 by omega) (by omega), if_pos rfl, lw_e, nI_clamp (by omega), lw_e, wI_c (show o ≠ o + 1 by omega), x6, nI_1]
  have hA1 : XA N K (psA ps d c d) (wdI (wdI w (o + 1) d (nI (tc (ps d).1 c))) o 7 (nI (d + 1))) := by
    rw [psA_le (Nat.le_refl _)]
    exact hA.oth (fun k hk => by rw [wI_c (by omega), wI_c (by omega)])
  have hPl2 := z3.add y1 hc
  obtain ⟨w', a1, a2, a3, ⟨a4, a5, a6, a7, a8⟩, a9, ⟨b1, b2⟩, b3, b4⟩ := x_repeat ho hA1 hPl2 (by omega) (by omega) (by rw [wI_n (by decide), wI_c (by omega)]; exact x6) (by rw [wI_c (by omega), wI_s, psA_le (Nat.le_refl _), show upN cs d c d = c from if_pos rfl]) (fun i hi j hj => by
    rw [psA_le hi]
    exact z2 i (by omega) j hj)
  rw [a1, bd_s]
  rw [psA_s] at a3
  refine ⟨w', rfl, ((PTX.i ho (Or.inr (Or.inl rfl))).tr (PTX.i ho (Or.inl rfl))).tr a2, a3, ⟨?_, a5, a6, ?_, a8⟩, ⟨by omega, by omega⟩, fun i hi => ⟨?_, ?_⟩, b3, hPl2⟩
  · rw [a4, wI_n (by decide), wI_c (by omega), psA_le (by omega)]; exact x4
  · rw [a7, wI_s]
  · rw [a9, wI_c (by omega)]
    by_cases e : i = d
    · subst e
      rw [wI_s, psA_le (Nat.le_refl _), show upN cs i c i = c from if_pos rfl]
    · rw [wI_n e, psA_le (by omega), show upN cs d c i = cs i from if_neg e]
      exact (z1 i (by omega)).1
  · by_cases e : i = d
    · subst e; exact b1
    · rw [b2 i e, wI_c (by omega), wI_c (by omega)]
      unfold gvC
      rw [psA_le (by omega)]
      exact (z1 i (by omega)).2
/-- Play.withdraw -/
theorem x_withdraw {N o d a : Nat} {K : Kd} {ps : Nat → Ps} {cs : Nat → Nat} {w : Wd} (ho : 29 ≤ o) (hA : XA N K (ps (d + 1)) w) (hX : XPl N K o ps cs (d + 1) a w) :
    ∃ w', f_X4_withdraw N o w = some ((), w') ∧ PTX o w w' ∧ XA N K (ps d) w' ∧ XPl N K o ps cs d a w' := by
  obtain ⟨⟨x4, x5, x6, x7, x8⟩, ⟨y1, y2⟩, z1, z2, z3⟩ := hX
  have h7 := hA.n7
  have h5 := hA.n5
  have hV := z3.vp h7 h5 d (by omega)
  obtain ⟨hc, hn⟩ := z3.2 d (by omega)
  unfold f_X4_withdraw
  rw [lw_e, wI_s, x6, nI_pred, inb_nI (show d < 300 by omega) (by omega), if_pos rfl, nI_clamp (by omega), wI_c (show o + 1 ≠ o by omega), (z1 d (by omega)).1]
  have hA1 : XA N K (mkP (ps d) (cs d)) (wdI w o 6 (nI d)) := by
    rw [← hn]
    exact hA.oth (fun k hk => wI_c (by omega))
  obtain ⟨w1, a1, a2, a3⟩ := x_rev hA1 hV (mov_tri hc)
  have hS1 : XSt N o ps a w1 := fun i hi j hj => by
    rw [a2.1]
    exact z2 i hi j hj
  have e1 : w1.1 o = (wdI w o 6 (nI d)).1 o := a2.2.1 o (by omega)
  obtain ⟨w2, b1, b2, b3, b4⟩ := x_countTimes (d := d) h7 h5 z3 hS1 y2 (by omega) (by rw [e1, wI_s])
  rw [a1, bd_s, b1, bd_s]
  refine ⟨w2, rfl, ((PTX.i ho (Or.inl rfl)).tr a2.pt).tr (b2.pt ho), a3.oth (fun k hk => b2.2.1 k (by omega)), ⟨?_, b4, ?_, ?_, b3⟩, ⟨by omega, y2⟩, fun i hi => ?_, fun i hi j hj => ?_, z3⟩
  · rw [b2.2.2 4 (by decide) (by decide), e1, wI_n (by decide)]; exact x4
  · rw [b2.2.2 6 (by decide) (by decide), e1, wI_s]
  · rw [b2.2.2 7 (by decide) (by decide), e1, wI_n (by decide)]; exact x7
  · rw [b2.2.1 (o + 1) (by omega), b2.2.1 (o + 2) (by omega), a2.2.1 (o + 1) (by omega), a2.2.1 (o + 2) (by omega), wI_c (by omega), wI_c (by omega)]
    exact z1 i hi
  · rw [b2.1]; exact hS1 i hi j hj
/-- Play.leave: back to the first stand -/
theorem x_leave {N o d a : Nat} {K : Kd} {ps : Nat → Ps} {cs : Nat → Nat} {w : Wd} (ho : 29 ≤ o) (hA : XA N K (ps d) w) (hX : XPl N K o ps cs d a w) :
    ∃ w', f_X4_leave N o w = some ((), w') ∧ AppX w w' ∧ XA N K (ps 0) w' := by
  have h7 := hA.n7
  have h5 := hA.n5
  obtain ⟨⟨x4, x5, x6, x7, x8⟩, ⟨y1, y2⟩, z1, z2, z3⟩ := hX
  have main : ∀ (i n : Nat) (u : Wd), i ≤ d → i < n → AppX w u → XA N K (ps i) u → ∃ u', l_X4_leave_7 N o (f_X4_leave_30 N o) n (nI i - (1 : Int32)) u = some ((), u') ∧ AppX w u' ∧ XA N K (ps 0) u' := by
    intro i
    induction i with
    | zero =>
      intro n u _ hn hu hAu
      obtain ⟨n, rfl⟩ : ∃ q, n = q + 1 := ⟨n - 1, by omega⟩
      refine ⟨u, ?_, hu, hAu⟩
      show b_X4_leave_7 N o (l_X4_leave_7 N o (f_X4_leave_30 N o) n) (f_X4_leave_30 N o) (nI 0 - (1 : Int32)) u = _
      unfold b_X4_leave_7
      rw [if_pos (by decide)]
      rfl
    | succ i ih =>
      intro n u hi hn hu hAu
      obtain ⟨n, rfl⟩ : ∃ q, n = q + 1 := ⟨n - 1, by omega⟩
      obtain ⟨hc, hm⟩ := z3.2 i (by omega)
      rw [hm] at hAu
      obtain ⟨u1, a1, a2, a3⟩ := x_rev hAu (z3.vp h7 h5 i (by omega)) (mov_tri hc)
      have e1 : l_X4_leave_7 N o (f_X4_leave_30 N o) (n + 1) (nI (i + 1) - (1 : Int32)) u = b_X4_leave_7 N o (l_X4_leave_7 N o (f_X4_leave_30 N o) n) (f_X4_leave_30 N o) (nI (i + 1) - (1 : Int32)) u := rfl
      rw [e1, nI_pred]
      unfold b_X4_leave_7
      rw [if_neg (nI_pos (by omega)), inb_nI (show i < 300 by omega) (by omega), if_pos rfl, nI_clamp (by omega), hu.2.1 (o + 1) (by omega), (z1 i (by omega)).1, a1, bd_s, show nI i + (-1 : Int32) = nI i - 1 from (Int32.sub_eq_add_neg _ _).symm]
      exact ih n u1 (by omega) (by omega) (hu.tr a2) a3
  unfold f_X4_leave
  rw [lt_e, x6]
  exact main d FU w (Nat.le_refl _) (FU_big (by omega)) AppX.rf hA
/-- Play.resume: from the first stand to the play's -/
theorem x_resume {N o d a : Nat} {K : Kd} {ps : Nat → Ps} {cs : Nat → Nat} {w : Wd} (ho : 29 ≤ o) (hA : XA N K (ps 0) w) (hX : XPl N K o ps cs d a w) :
    ∃ w', f_X4_resume N o w = some ((), w') ∧ AppX w w' ∧ XA N K (ps d) w' := by
  have h7 := hA.n7
  have h5 := hA.n5
  obtain ⟨⟨x4, x5, x6, x7, x8⟩, ⟨y1, y2⟩, z1, z2, z3⟩ := hX
  have main : ∀ (m i n : Nat) (u : Wd), i + m = d → m < n → AppX w u → XA N K (ps i) u → ∃ u', l_X4_resume_2 N o (f_X4_resume_29 N o) n (nI i) u = some ((), u') ∧ AppX w u' ∧ XA N K (ps d) u' := by
    intro m
    induction m with
    | zero =>
      intro i n u hi hn hu hAu
      obtain ⟨n, rfl⟩ : ∃ q, n = q + 1 := ⟨n - 1, by omega⟩
      refine ⟨u, ?_, hu, by rw [show d = i by omega]; exact hAu⟩
      show b_X4_resume_2 N o (l_X4_resume_2 N o (f_X4_resume_29 N o) n) (f_X4_resume_29 N o) (nI i) u = _
      unfold b_X4_resume_2
      rw [hu.2.1 o (by omega), x6, if_pos (nI_le (by omega) (by omega))]
      rfl
    | succ m ih =>
      intro i n u hi hn hu hAu
      obtain ⟨n, rfl⟩ : ∃ q, n = q + 1 := ⟨n - 1, by omega⟩
      obtain ⟨hc, hm⟩ := z3.2 i (by omega)
      obtain ⟨u1, a1, a2, a3⟩ := x_app hAu (z3.vp h7 h5 i (by omega)) (mov_tri hc)
      rw [← hm] at a3
      have e1 : l_X4_resume_2 N o (f_X4_resume_29 N o) (n + 1) (nI i) u = b_X4_resume_2 N o (l_X4_resume_2 N o (f_X4_resume_29 N o) n) (f_X4_resume_29 N o) (nI i) u := rfl
      rw [e1]
      unfold b_X4_resume_2
      rw [hu.2.1 o (by omega), x6, if_neg (nI_ge (by omega) (by omega)), inb_nI (show i < 300 by omega) (by omega), if_pos rfl, nI_clamp (by omega), hu.2.1 (o + 1) (by omega), (z1 i (by omega)).1, a1, bd_s, nI_1]
      exact ih (i + 1) n u1 (by omega) (by omega) (hu.tr a2) a3
  exact main d 0 FU w (by omega) (FU_big (by omega)) AppX.rf hA
