/-! ===== texts: a play read ===== -/
def nxtF (B : List Nat) : Nat → Nat → Nat
  | 0, s => s
  | m + 1, s => if bg B s = 32 then s else nxtF B m (s + 1)
def nxt (B : List Nat) (s : Nat) : Nat := nxtF B (B.length - s) s
theorem nxtF_le {B : List Nat} : ∀ (m s : Nat), s ≤ nxtF B m s ∧ nxtF B m s ≤ s + m
  | 0, s => ⟨Nat.le_refl _, Nat.le_refl _⟩
  | m + 1, s => by
    unfold nxtF
    have := nxtF_le (B := B) m (s + 1)
    split <;> omega
abbrev Rd : Type := Nat × (Nat → Ps) × (Nat → Nat) × Nat
/-- 1 more than the place of the first that fails (or 0), and the play till there -/
def rd (N : Nat) (K : Kd) (B : List Nat) : Nat → Nat → (Nat → Ps) → (Nat → Nat) → Nat → Rd
  | 0, s, ps, cs, d => (s + 1, ps, cs, d)
  | f + 1, s, ps, cs, d => match mvAt N B s (nxt B s) with
    | none => (s + 1, ps, cs, d)
    | some c => if d < 300 ∧ endS N K ps d = 0 ∧ c ∈ movL N K (ps d) then (if nxt B s < B.length then rd N K B f (nxt B s + 1) (psA ps d c) (upN cs d c) (d + 1) else (0, psA ps d c, upN cs d c, d + 1)) else (s + 1, ps, cs, d)
/-! the class -/
def RdX (N o : Nat) (w w' : Wd) : Prop := w'.2.2 = w.2.2 ∧ (∀ k, k < 22 ∨ k = 27 ∨ 28 < k → k ≠ o → k ≠ o + 1 → k ≠ o + 2 → w'.1 k = w.1 k) ∧ (∀ j, j ≠ 7 → w'.1 22 j = w.1 22 j) ∧ (∀ j, 27 * (N * N) ≤ j → w'.1 28 j = w.1 28 j) ∧ ∀ k, k ≠ o + 3 → w'.2.1 k = w.2.1 k
theorem RdX.rf {N o : Nat} {w : Wd} : RdX N o w w := ⟨rfl, fun _ _ _ _ _ => rfl, fun _ _ => rfl, fun _ _ => rfl, fun _ _ => rfl⟩
theorem RdX.tr {N o : Nat} {a b c : Wd} (x : RdX N o a b) (y : RdX N o b c) : RdX N o a c := ⟨y.1.trans x.1, fun k h h1 h2 h3 => (y.2.1 k h h1 h2 h3).trans (x.2.1 k h h1 h2 h3), fun j h => (y.2.2.1 j h).trans (x.2.2.1 j h), fun j h => (y.2.2.2.1 j h).trans (x.2.2.2.1 j h), fun k h => (y.2.2.2.2 k h).trans (x.2.2.2.2 k h)⟩
theorem PTX.rd {N o : Nat} {a b : Wd} (ho : 29 ≤ o) (x : PTX o a b) : RdX N o a b := ⟨x.1, fun k h h1 h2 h3 => x.2.1 k (by omega) h1 h2 h3, x.2.2.1, fun j _ => by rw [x.2.1 28 (by omega) (by omega) (by omega) (by omega)], x.2.2.2⟩
theorem FrX.rd {N o : Nat} {a b : Wd} (x : FrX N 0 0 a b) : RdX N o a b := ⟨by rw [x.1], fun k h _ _ _ => x.2.1 k (by omega), x.2.2.1, fun j h => x.2.2.2 j h (by omega), fun k _ => by rw [x.1]⟩
theorem TXx.rd {N o : Nat} {B : List Nat} {w w' : Wd} (h : TXx N B w) (x : RdX N o w w') (ho : 35 ≤ o) : TXx N B w' := by
  unfold TXx at h ⊢
  rw [x.2.1 33 (by omega) (by omega) (by omega) (by omega), x.2.1 34 (by omega) (by omega) (by omega) (by omega)]
  exact h
theorem XPl.fr {N o d a lo hi : Nat} {K : Kd} {ps : Nat → Ps} {cs : Nat → Nat} {w w' : Wd} (h : XPl N K o ps cs d a w) (x : FrX N lo hi w w') (ho : 29 ≤ o) : XPl N K o ps cs d a w' := h.of (x.2.1 o (by omega)) (x.2.1 (o + 1) (by omega)) (x.2.1 (o + 2) (by omega)) (by rw [x.1])
theorem x_scan {N s : Nat} {B : List Nat} {w : Wd} {K79 : Int32 → Wd → Option (Int32 × Wd)} {K106 : Wd → Option (Int32 × Wd)} (h : TXx N B w) (hB : BtB B) :
    ∀ (m p n : Nat), p + m = B.length → m < n → l_X9_doText_4 N K79 K106 n (nI s) (nI p) w = f_X9_doText_43 N (l_X9_doText_4 N K79 K106 (n - (nxtF B m p - p) - 1)) K79 K106 (nI s) (nI (nxtF B m p)) w := by
  have hl := hB.1
  intro m
  induction m with
  | zero =>
    intro p n hp hn
    obtain ⟨n, rfl⟩ : ∃ q, n = q + 1 := ⟨n - 1, by omega⟩
    show b_X9_doText_4 N (l_X9_doText_4 N K79 K106 n) K79 K106 (nI s) (nI p) w = _
    unfold b_X9_doText_4 nxtF
    rw [h.2.1, if_neg (nI_nlt (by omega) (by omega)), if_pos (nI_le (by omega) (by omega)), show n + 1 - (p - p) - 1 = n by omega]
  | succ m ih =>
    intro p n hp hn
    obtain ⟨n, rfl⟩ : ∃ q, n = q + 1 := ⟨n - 1, by omega⟩
    have hb := hB.lt p
    have e1 : l_X9_doText_4 N K79 K106 (n + 1) (nI s) (nI p) w = b_X9_doText_4 N (l_X9_doText_4 N K79 K106 n) K79 K106 (nI s) (nI p) w := rfl
    rw [e1]
    unfold b_X9_doText_4 f_X9_doText_100 nxtF
    rw [h.2.1, if_neg (nI_nlt (by omega) (by omega)), if_neg (nI_ge (by omega) (by omega)), inb_nI (show p < 2000 by omega) (by omega), if_pos rfl, nI_clamp (by omega), h.2.2 p _ (bg_at (by omega)), nI_1]
    by_cases q : bg B p = 32
    · rw [if_pos (show nI (bg B p) = (32 : Int32) by rw [q]; rfl), if_pos q, show n + 1 - (p - p) - 1 = n by omega]
    · have hle := nxtF_le (B := B) m (p + 1)
      rw [if_neg (show ¬ nI (bg B p) = (32 : Int32) from fun z => q ((nI_inj (b := 32) (by omega) (by omega)).mp z)), if_neg q, ih (p + 1) n (by omega) (by omega), show n + 1 - (nxtF B m (p + 1) - p) - 1 = n - (nxtF B m (p + 1) - (p + 1)) - 1 by omega]
theorem x_dt {N o : Nat} {K : Kd} {B : List Nat} (ho : o = 35 ∨ o = 39) (hB : BtB B) :
    ∀ (f s n : Nat) (ps : Nat → Ps) (cs : Nat → Nat) (d : Nat) (w : Wd), s ≤ B.length → B.length + 1 - s ≤ f → B.length + 1 - s < n → XA N K (ps d) w → XPl N K o ps cs d d w → TXx N B w → w.2.2.2 = o →
      ∃ w', l_X9_doText_4 N (f_X9_doText_79 N) (f_X9_doText_106 N) n (nI s) (nI s) w = some (if (rd N K B f s ps cs d).1 = 0 then -1 else nI ((rd N K B f s ps cs d).1 - 1), w') ∧ RdX N o w w' ∧ XA N K ((rd N K B f s ps cs d).2.1 (rd N K B f s ps cs d).2.2.2) w' ∧ XPl N K o (rd N K B f s ps cs d).2.1 (rd N K B f s ps cs d).2.2.1 (rd N K B f s ps cs d).2.2.2 (rd N K B f s ps cs d).2.2.2 w' := by
  have hl := hB.1
  have hok : okP o = true := by rcases ho with rfl | rfl <;> rfl
  have ho' : 35 ≤ o := by omega
  intro f
  induction f with
  | zero => intro s n ps cs d w h1 h2; omega
  | succ f ih =>
    intro s n ps cs d w hs hf hn hA hX hT hsp
    have h7 := hA.n7
    have h5 := hA.n5
    have hNN := NN_le h7
    have hV := hX.vp h7 h5 (Nat.le_refl d)
    have ht := nxtF_le (B := B) (B.length - s) s
    have htle : nxt B s ≤ B.length := by unfold nxt; omega
    have hst : s ≤ nxt B s := by unfold nxt; omega
    rw [x_scan hT hB (B.length - s) s n (by omega) (by omega)]
    show ∃ w', f_X9_doText_43 N (l_X9_doText_4 N (f_X9_doText_79 N) (f_X9_doText_106 N) (n - (nxt B s - s) - 1)) (f_X9_doText_79 N) (f_X9_doText_106 N) (nI s) (nI (nxt B s)) w = _ ∧ _
    unfold f_X9_doText_43
    rw [x_moveBetween h7 h5 hT hB hst htle, bd_s]
    cases hmv : mvAt N B s (nxt B s) with
    | none =>
      have hR : rd N K B (f + 1) s ps cs d = (s + 1, ps, cs, d) := by unfold rd; rw [hmv]
      rw [if_pos (show ov none = (-1 : Int32) from rfl), hR]
      refine ⟨w, ?_, RdX.rf, hA, hX⟩
      rw [if_neg (by exact (by omega : ¬ s + 1 = 0))]
      rfl
    | some c =>
      have hcF := mvAt_ok h7 hmv
      have hc6 := okF_lt h7 hcF
      rw [if_neg (show ¬ ov (some c) = (-1 : Int32) from fun z => by
        have : nI c < 0 := by rw [show nI c = ov (some c) from rfl, z]; decide
        exact nI_pos (by omega) this), show ov (some c) = nI c from rfl, hsp, hok, if_pos rfl, x_isOpen hX, bd_s, b2_0]
      have fail : ∀ (u : Wd), RdX N o w u → XA N K (ps d) u → XPl N K o ps cs d d u → ¬ (d < 300 ∧ endS N K ps d = 0 ∧ c ∈ movL N K (ps d)) → ∃ w', f_X9_doText_79 N (nI s) u = some (if (rd N K B (f + 1) s ps cs d).1 = 0 then -1 else nI ((rd N K B (f + 1) s ps cs d).1 - 1), w') ∧ RdX N o w w' ∧ XA N K ((rd N K B (f + 1) s ps cs d).2.1 (rd N K B (f + 1) s ps cs d).2.2.2) w' ∧ XPl N K o (rd N K B (f + 1) s ps cs d).2.1 (rd N K B (f + 1) s ps cs d).2.2.1 (rd N K B (f + 1) s ps cs d).2.2.2 (rd N K B (f + 1) s ps cs d).2.2.2 w' := by
        intro u hu hAu hXu hq
        have hR : rd N K B (f + 1) s ps cs d = (s + 1, ps, cs, d) := by unfold rd; rw [hmv]; dsimp only; rw [if_neg hq]
        rw [hR]
        refine ⟨u, ?_, hu, hAu, hXu⟩
        rw [if_neg (by exact (by omega : ¬ s + 1 = 0))]
        rfl
      by_cases qo : (decide (d < 300) && decide (endS N K ps d = 0)) = true
      · rw [if_pos qo]
        have qo' := qo
        rw [Bool.and_eq_true, decide_eq_true_eq, decide_eq_true_eq] at qo'
        obtain ⟨w1, p1, p2, p3⟩ := x_faultOf hA hV hcF
        have hiff := flt_iff (N := N) (K := K) (P := ps d) h7 h5 hV.mv hcF
        have hflt : flt N K (ps d) c < 100 := by
          unfold flt flt0 fltS fltG
          repeat' split
          all_goals omega
        rw [p1, bd_s]
        have hX1 := hX.fr p2 (by omega)
        have hsp1 : w1.2.2.2 = o := by rw [p2.1]; exact hsp
        by_cases qm : c ∈ movL N K (ps d)
        · have hR : rd N K B (f + 1) s ps cs d = if nxt B s < B.length then rd N K B f (nxt B s + 1) (psA ps d c) (upN cs d c) (d + 1) else (0, psA ps d c, upN cs d c, d + 1) := by
            conv => lhs; unfold rd
            rw [hmv]; dsimp only; rw [if_pos ⟨qo'.1, qo'.2, qm⟩]
          rw [hR, hiff.mpr qm, if_pos z0, x_withTaken h7 p3.2.2.2.1.1 hc6 hcF.1, bd_s, hsp1, hok, if_pos rfl]
          obtain ⟨w2, a1, a2, a3, a4⟩ := x_advance (by omega) p3 hX1 qo'.1 qm
          have hsp2 : w2.2.2.2 = o := by rw [a2.1]; exact hsp1
          have f2 : RdX N o w w2 := p2.rd.tr (a2.rd (by omega))
          have hA2 : XA N K (psA ps d c (d + 1)) w2 := by rw [psA_s]; exact a3
          rw [a1, bd_s, lt_e, nI_1]
          unfold f_X9_doText_100
          rw [nI_1]
          by_cases ql : nxt B s < B.length
          · rw [if_pos ql]
            obtain ⟨w3, b1, b2, b3, b4⟩ := ih (nxt B s + 1) (n - (nxt B s - s) - 1) (psA ps d c) (upN cs d c) (d + 1) w2 (by omega) (by omega) (by omega) hA2 a4 (hT.rd f2 ho') hsp2
            exact ⟨w3, b1, f2.tr b2, b3, b4⟩
          · rw [if_neg ql]
            refine ⟨w2, ?_, f2, hA2, a4⟩
            obtain ⟨q, hq⟩ : ∃ q, n - (nxt B s - s) - 1 = q + 1 := ⟨n - (nxt B s - s) - 1 - 1, by omega⟩
            rw [hq]
            show b_X9_doText_4 N (l_X9_doText_4 N (f_X9_doText_79 N) (f_X9_doText_106 N) q) (f_X9_doText_79 N) (f_X9_doText_106 N) (nI (nxt B s + 1)) (nI (nxt B s + 1)) w2 = _
            unfold b_X9_doText_4
            rw [(hT.rd f2 ho').2.1, if_pos (nI_lt (by omega) (by omega))]
            rfl
        · rw [if_neg (show ¬ nI (flt N K (ps d) c) = (0 : Int32) from fun z => qm (hiff.mp (Classical.byContradiction fun y => nI_ne0 (Nat.pos_of_ne_zero y) (by omega) z)))]
          exact fail w1 p2.rd p3 hX1 (fun z => qm z.2.2)
      · rw [if_neg qo]
        refine fail w RdX.rf hA hX (fun z => qo ?_)
        rw [Bool.and_eq_true, decide_eq_true_eq, decide_eq_true_eq]
        exact ⟨z.1, z.2.1⟩
