/-! ===== positions that can be: one king a side, the side that waits not in check, as many men of a kind as there were ===== -/
def KU (N : Nat) (bo kf : Nat → Nat) : Prop := (∀ s, s < 2 → kf s < N * N ∧ bo (kf s) ≠ 0 ∧ kn (bo (kf s)) = 0 ∧ sd (bo (kf s)) = s) ∧ ∀ q, q < N * N → bo q ≠ 0 → kn (bo q) = 0 → q = kf (sd (bo q))
/-- the field of a side's first king -/
def kgf (N : Nat) (bo : Nat → Nat) (s : Nat) : Nat := ((List.range (N * N)).find? (fun q => decide (bo q ≠ 0) && (decide (kn (bo q) = 0) && decide (sd (bo q) = s)))).getD 0
theorem find_kf {N s : Nat} {bo kf : Nat → Nat} (h : KU N bo kf) (hs : s < 2) : (List.range (N * N)).find? (fun q => decide (bo q ≠ 0) && (decide (kn (bo q) = 0) && decide (sd (bo q) = s))) = some (kf s) := by
  obtain ⟨a1, a2, a3, a4⟩ := h.1 s hs
  cases hf : (List.range (N * N)).find? (fun q => decide (bo q ≠ 0) && (decide (kn (bo q) = 0) && decide (sd (bo q) = s))) with
  | none =>
    have := List.find?_eq_none.mp hf (kf s) (List.mem_range.mpr a1)
    simp [a2, a3, a4] at this
  | some q =>
    have h1 := List.find?_some hf
    have h2 := List.mem_of_find?_eq_some hf
    simp only [Bool.and_eq_true, decide_eq_true_eq] at h1
    rw [h.2 q (List.mem_range.mp h2) h1.1 h1.2.1, h1.2.2]
theorem kgf_e {N s : Nat} {bo kf : Nat → Nat} (h : KU N bo kf) (hs : s < 2) : kgf N bo s = kf s := by
  unfold kgf
  rw [find_kf h hs]
  rfl
theorem chk_kf {N s : Nat} {K : Kd} {bo kf : Nat → Nat} (h : KU N bo kf) (hs : s < 2) : chk N K bo s = atk N K bo (1 - s) (kf s) := by
  unfold chk
  rw [find_kf h hs]
theorem KU.c {N : Nat} {bo kf kf' : Nat → Nat} (h : KU N bo kf) (e : ∀ s, s < 2 → kf' s = kf s) (hb : ∀ q, q < N * N → bo q ≤ 32) : KU N bo kf' := by
  refine ⟨fun s hs => by rw [e s hs]; exact h.1 s hs, fun q hq h0 hk => ?_⟩
  have := (man_chk (bo q) (by have := hb q hq; omega) (by omega)).2.2.2.2.2.1
  rw [e _ this]
  exact h.2 q hq h0 hk
def sumR (g b : Nat → Nat) : Nat → Nat
  | 0 => 0
  | n + 1 => sumR g b n + g (b n)
theorem sumR_out {g b : Nat → Nat} {t v : Nat} : ∀ n, n ≤ t → sumR g (upN b t v) n = sumR g b n
  | 0, _ => rfl
  | n + 1, h => by
    unfold sumR
    rw [sumR_out n (by omega), show upN b t v n = b n from if_neg (by omega)]
theorem sumR_up {g b : Nat → Nat} {t v : Nat} : ∀ n, t < n → sumR g (upN b t v) n + g (b t) = sumR g b n + g v
  | 0, h => by omega
  | n + 1, h => by
    unfold sumR
    by_cases e : t = n
    · subst e
      rw [sumR_out t (Nat.le_refl _), show upN b t v t = v from if_pos rfl]
      omega
    · have := sumR_up (g := g) (b := b) (t := t) (v := v) n (by omega)
      rw [show upN b t v n = b n from if_neg (fun z => e z.symm)]
      omega
def wt (k i : Nat) : Nat := if i ≠ 0 ∧ kn i = k then 1 else 0
def tot (N : Nat) (P : Ps) (k : Nat) : Nat := P.2.1 k + P.2.1 (8 + k) + sumR (wt k) P.1 (N * N)
def VB (N : Nat) (P : Ps) : Prop := (∀ q, P.1 q ≤ 32) ∧ (∀ q, N * N ≤ q → P.1 q = 0) ∧ P.2.2 < 2 ∧ KU N P.1 (kgf N P.1) ∧ P.2.1 0 = 0 ∧ P.2.1 8 = 0 ∧ ∀ k, 1 ≤ k → k < 8 → tot N P k ≤ 67
def VP (N : Nat) (K : Kd) (P : Ps) : Prop := VB N P ∧ chk N K P.1 (1 - P.2.2) = false
theorem VB.le {N : Nat} {P : Ps} (h : VB N P) : ∀ q, P.1 q ≤ 32 := h.1
theorem VB.out {N : Nat} {P : Ps} (h : VB N P) : ∀ q, N * N ≤ q → P.1 q = 0 := h.2.1
theorem VB.mv {N : Nat} {P : Ps} (h : VB N P) : P.2.2 < 2 := h.2.2.1
theorem VB.ku {N : Nat} {P : Ps} (h : VB N P) : KU N P.1 (kgf N P.1) := h.2.2.2.1
theorem VB.h0 {N : Nat} {P : Ps} (h : VB N P) : P.2.1 0 = 0 := h.2.2.2.2.1
theorem VB.h8 {N : Nat} {P : Ps} (h : VB N P) : P.2.1 8 = 0 := h.2.2.2.2.2.1
theorem VB.tt {N : Nat} {P : Ps} (h : VB N P) : ∀ k, 1 ≤ k → k < 8 → tot N P k ≤ 67 := h.2.2.2.2.2.2
theorem VP.toVB {N : Nat} {K : Kd} {P : Ps} (h : VP N K P) : VB N P := h.1
theorem VP.ok {N : Nat} {K : Kd} {P : Ps} (h : VP N K P) : chk N K P.1 (1 - P.2.2) = false := h.2
theorem VP.le {N : Nat} {K : Kd} {P : Ps} (h : VP N K P) : ∀ q, P.1 q ≤ 32 := h.1.le
theorem VP.mv {N : Nat} {K : Kd} {P : Ps} (h : VP N K P) : P.2.2 < 2 := h.1.mv
theorem VP.ku {N : Nat} {K : Kd} {P : Ps} (h : VP N K P) : KU N P.1 (kgf N P.1) := h.1.ku
theorem VP.h0 {N : Nat} {K : Kd} {P : Ps} (h : VP N K P) : P.2.1 0 = 0 := h.1.h0
theorem VP.h8 {N : Nat} {K : Kd} {P : Ps} (h : VP N K P) : P.2.1 8 = 0 := h.1.h8
theorem VP.tt {N : Nat} {K : Kd} {P : Ps} (h : VP N K P) : ∀ k, 1 ≤ k → k < 8 → tot N P k ≤ 67 := h.1.tt
theorem VB.hd {N : Nat} {P : Ps} (h : VB N P) {j : Nat} (hj : j < 16) : P.2.1 j ≤ 67 := by
  by_cases e0 : j = 0
  · rw [e0, h.h0]; omega
  · by_cases e8 : j = 8
    · rw [e8, h.h8]; omega
    · by_cases q : j < 8
      · have := h.tt j (by omega) q
        unfold tot at this
        omega
      · have := h.tt (j - 8) (by omega) (by omega)
        unfold tot at this
        rw [show 8 + (j - 8) = j by omega] at this
        omega
theorem VP.hd {N : Nat} {K : Kd} {P : Ps} (h : VP N K P) {j : Nat} (hj : j < 16) : P.2.1 j ≤ 67 := h.1.hd hj
theorem kn8 : ∀ i, i < 33 → 0 < i → rz i = 0 → kn (i + 8) = kn i ∧ sd (i + 8) = sd i := by decide
theorem kn_set : ∀ k, k < 8 → ∀ s, s < 2 → kn (1 + k + 16 * s) = k := by decide
theorem mvN (P : Ps) (c : Nat) : (mkP P c).2.2 = 1 - P.2.2 := by unfold mkP; split <;> rfl
/-- nobody takes a king -/
theorem no_king {N : Nat} {K : Kd} {P : Ps} (h1 : N ≤ 7) (h5 : 5 ≤ N) (hV : VP N K P) {c : Nat} (hc : c ∈ triL N K P) (hg : cf c ≠ 63) (hn : P.1 (ct c) ≠ 0) : kn (P.1 (ct c)) ≠ 0 := by
  intro hk
  have hm := hV.mv
  obtain ⟨ok, -, o3⟩ := tri_ok h1 h5 (fun q _ => hV.le q) (fun j hj => by have := hV.hd hj; omega) hm hc
  obtain ⟨b1, b2, b3, b4, -⟩ := o3 hg
  have hsd := (man_chk (P.1 (ct c)) (by have := hV.le (ct c); omega) (by omega)).2.2.2.2.2.1
  have e : sd (P.1 (ct c)) = 1 - P.2.2 := by
    have : sd (P.1 (ct c)) ≠ P.2.2 := fun z => b4 ⟨hn, z⟩
    omega
  have e2 := hV.ku.2 (ct c) ok.1 hn hk
  rw [e] at e2
  have h := hV.ok
  rw [chk_kf hV.ku (by omega), ← e2, show 1 - (1 - P.2.2) = P.2.2 by omega] at h
  unfold atk at h
  have : ((List.range (N * N)).any fun q => decide (P.1 q ≠ 0) && (decide (sd (P.1 q) = P.2.2) && decide (ct c ∈ reachL N K P.1 (P.1 q) q))) = true := List.any_eq_true.mpr ⟨cf c, List.mem_range.mpr (ok.2.2 hg).1, by simp [b1, b2, b3]⟩
  rw [h] at this
  cases this
/-- the man behind a going -/
theorem man_go {N : Nat} {K : Kd} {P : Ps} (h1 : N ≤ 7) (h5 : 5 ≤ N) (hV : VB N P) {c : Nat} (hc : c ∈ triL N K P) (hg : cf c ≠ 63) : P.1 (cf c) + 8 * cr c ≠ 0 ∧ kn (P.1 (cf c) + 8 * cr c) = kn (P.1 (cf c)) ∧ sd (P.1 (cf c) + 8 * cr c) = P.2.2 := by
  obtain ⟨ok, -, o3⟩ := tri_ok h1 h5 (fun q _ => hV.le q) (fun j hj => by have := hV.hd hj; omega) hV.mv hc
  obtain ⟨b1, b2, b3, b4, b5⟩ := o3 hg
  have hr := cr_lt c
  rcases (show cr c = 0 ∨ cr c = 1 by omega) with h | h
  · rw [h]
    exact ⟨by omega, rfl, b2⟩
  · have := b5 h
    unfold rais at this
    simp only [Bool.and_eq_true, decide_eq_true_eq] at this
    obtain ⟨k1, k2⟩ := kn8 (P.1 (cf c)) (by have := hV.le (cf c); omega) (by omega) this.1
    rw [h]
    exact ⟨by omega, k1, k2.trans b2⟩
theorem mk_KU {N : Nat} {K : Kd} {P : Ps} (h1 : N ≤ 7) (h5 : 5 ≤ N) (hV : VP N K P) {c : Nat} (hc : c ∈ triL N K P) : KU N (mkP P c).1 (kfN (kgf N P.1) P c) := by
  obtain ⟨ok, o2, o3⟩ := tri_ok h1 h5 (fun q _ => hV.le q) (fun j hj => by have := hV.hd hj; omega) hV.mv hc
  have hU := hV.ku
  have hm := hV.mv
  have hsdb : ∀ q, P.1 q ≠ 0 → sd (P.1 q) < 2 := fun q hq => (man_chk (P.1 q) (by have := hV.le q; omega) (by omega)).2.2.2.2.2.1
  generalize kgf N P.1 = kf at hU
  by_cases hg : cf c = 63
  · obtain ⟨s1, s2⟩ := o2 hg
    have hk := (ok.2.1 hg).1
    have e1 : (mkP P c).1 = upN P.1 (ct c) (1 + ck c + 16 * P.2.2) := by unfold mkP; rw [if_pos hg]
    have e2 : kfN kf P c = kf := if_neg (fun z => z.1 hg)
    rw [e1, e2]
    refine ⟨fun s hs => ?_, fun q hq => ?_⟩
    · obtain ⟨a1, a2, a3, a4⟩ := hU.1 s hs
      have : kf s ≠ ct c := fun z => a2 (by rw [z, s1])
      rw [show upN P.1 (ct c) (1 + ck c + 16 * P.2.2) (kf s) = P.1 (kf s) from if_neg this]
      exact ⟨a1, a2, a3, a4⟩
    · by_cases e : q = ct c
      · rw [show upN P.1 (ct c) (1 + ck c + 16 * P.2.2) q = 1 + ck c + 16 * P.2.2 from if_pos e, kn_set _ s2 _ hm]
        intro _ z
        omega
      · rw [show upN P.1 (ct c) (1 + ck c + 16 * P.2.2) q = P.1 q from if_neg e]
        exact hU.2 q hq
  · obtain ⟨b1, b2, b3, b4, b5⟩ := o3 hg
    obtain ⟨k1, k2, k3, k4⟩ := ok.2.2 hg
    obtain ⟨m1, m2, m3⟩ := man_go h1 h5 hV.toVB hc hg
    have nk := no_king h1 h5 hV hc hg
    have e1 : (mkP P c).1 = upN (upN P.1 (ct c) (P.1 (cf c) + 8 * cr c)) (cf c) 0 := by unfold mkP; rw [if_neg hg]
    rw [e1]
    generalize P.1 (cf c) + 8 * cr c = i' at m1 m2 m3
    have bt : upN (upN P.1 (ct c) i') (cf c) 0 (ct c) = i' := by unfold upN; rw [if_neg (fun z => k3 z.symm), if_pos rfl]
    have bf : upN (upN P.1 (ct c) i') (cf c) 0 (cf c) = 0 := if_pos rfl
    have bq : ∀ q, q ≠ cf c → q ≠ ct c → upN (upN P.1 (ct c) i') (cf c) 0 q = P.1 q := fun q x y => by unfold upN; rw [if_neg x, if_neg y]
    have nt : ∀ s, s < 2 → kf s ≠ ct c := fun s hs z => by
      obtain ⟨a1, a2, a3, a4⟩ := hU.1 s hs
      rw [z] at a2 a3
      exact nk a2 a3
    by_cases hk0 : kn (P.1 (cf c)) = 0
    · have e2 : kfN kf P c = upN kf P.2.2 (ct c) := if_pos ⟨hg, hk0⟩
      have ef := hU.2 (cf c) k1 b1 hk0
      rw [b2] at ef
      rw [e2]
      refine ⟨fun s hs => ?_, fun q hq h0 hk => ?_⟩
      · by_cases es : s = P.2.2
        · rw [show upN kf P.2.2 (ct c) s = ct c from if_pos es, bt]
          exact ⟨ok.1, m1, m2.trans hk0, m3.trans es.symm⟩
        · obtain ⟨a1, a2, a3, a4⟩ := hU.1 s hs
          rw [show upN kf P.2.2 (ct c) s = kf s from if_neg es, bq _ (fun z => by rw [z, b2] at a4; exact es a4.symm) (nt s hs)]
          exact ⟨a1, a2, a3, a4⟩
      · by_cases ex : q = cf c
        · rw [ex, bf] at h0; exact absurd rfl h0
        · by_cases ey : q = ct c
          · rw [ey, bt, m3]
            exact (if_pos rfl).symm
          · rw [bq q ex ey] at h0 hk ⊢
            have z := hU.2 q hq h0 hk
            by_cases es : sd (P.1 q) = P.2.2
            · rw [es] at z
              exact absurd (z.trans ef.symm) ex
            · rw [show upN kf P.2.2 (ct c) (sd (P.1 q)) = kf (sd (P.1 q)) from if_neg es]
              exact z
    · have e2 : kfN kf P c = kf := if_neg (fun z => hk0 z.2)
      rw [e2]
      refine ⟨fun s hs => ?_, fun q hq h0 hk => ?_⟩
      · obtain ⟨a1, a2, a3, a4⟩ := hU.1 s hs
        rw [bq _ (fun z => by rw [z] at a3; exact hk0 a3) (nt s hs)]
        exact ⟨a1, a2, a3, a4⟩
      · by_cases ex : q = cf c
        · rw [ex, bf] at h0; exact absurd rfl h0
        · by_cases ey : q = ct c
          · rw [ey, bt, m2] at hk
            exact absurd hk hk0
          · rw [bq q ex ey] at h0 hk ⊢
            exact hU.2 q hq h0 hk
theorem mk_le {N : Nat} {P : Ps} {c : Nat} (hV : VB N P) (hok : okC N P c) (hs : cf c = 63 → ck c < 8) : ∀ q, (mkP P c).1 q ≤ 32 := by
  intro q
  have hm := hV.mv
  unfold mkP
  split
  · rename_i h
    have := hs h
    show upN _ _ _ q ≤ 32
    unfold upN
    split
    · omega
    · exact hV.le q
  · rename_i h
    have := (hok.2.2 h).2.1
    show upN _ _ _ q ≤ 32
    unfold upN
    split
    · omega
    · split
      · omega
      · exact hV.le q
theorem mk_out {N : Nat} {P : Ps} {c : Nat} (hV : VB N P) (hok : okC N P c) : ∀ q, N * N ≤ q → (mkP P c).1 q = 0 := by
  intro q hq
  have ht := hok.1
  unfold mkP
  split
  · show upN _ _ _ q = 0
    unfold upN
    rw [if_neg (by omega)]
    exact hV.out q hq
  · rename_i h
    have hf := (hok.2.2 h).1
    show upN _ _ _ q = 0
    unfold upN
    rw [if_neg (by omega), if_neg (by omega)]
    exact hV.out q hq
theorem mk_tot {N : Nat} {K : Kd} {P : Ps} (h1 : N ≤ 7) (h5 : 5 ≤ N) (hV : VB N P) {c : Nat} (hc : c ∈ triL N K P) {k : Nat} (hk1 : 1 ≤ k) (hk8 : k < 8) : tot N (mkP P c) k ≤ tot N P k := by
  obtain ⟨ok, o2, o3⟩ := tri_ok h1 h5 (fun q _ => hV.le q) (fun j hj => by have := hV.hd hj; omega) hV.mv hc
  have hm := hV.mv
  have w0 : wt k 0 = 0 := if_neg (by simp)
  by_cases hg : cf c = 63
  · obtain ⟨s1, s2⟩ := o2 hg
    obtain ⟨g1, g2⟩ := ok.2.1 hg
    have e : mkP P c = (upN P.1 (ct c) (1 + ck c + 16 * P.2.2), upN P.2.1 (8 * P.2.2 + ck c) (P.2.1 (8 * P.2.2 + ck c) - 1), 1 - P.2.2) := if_pos hg
    have hs := sumR_up (g := wt k) (b := P.1) (t := ct c) (v := 1 + ck c + 16 * P.2.2) (N * N) ok.1
    rw [s1, w0] at hs
    have hw : wt k (1 + ck c + 16 * P.2.2) = if ck c = k then 1 else 0 := by
      unfold wt
      rw [kn_set _ s2 _ hm]
      by_cases q : ck c = k
      · rw [if_pos ⟨by omega, q⟩, if_pos q]
      · rw [if_neg (fun z => q z.2), if_neg q]
    rw [hw] at hs
    rw [e]
    unfold tot
    show upN P.2.1 _ _ k + upN P.2.1 _ _ (8 + k) + sumR (wt k) (upN _ _ _) (N * N) ≤ _
    unfold upN at hs ⊢
    by_cases q : ck c = k
    · rw [if_pos q] at hs
      rcases (show P.2.2 = 0 ∨ P.2.2 = 1 by omega) with z | z
      · rw [z] at g2 hs ⊢
        rw [if_pos (by omega), if_neg (by omega)]
        rw [q, show 8 * 0 + k = k by omega] at g2 ⊢
        rw [q] at hs
        omega
      · rw [z] at g2 hs ⊢
        rw [if_neg (by omega), if_pos (by omega)]
        rw [q, show 8 * 1 + k = 8 + k by omega] at g2 ⊢
        rw [q] at hs
        omega
    · rw [if_neg q] at hs
      rw [if_neg (by omega), if_neg (by omega)]
      omega
  · obtain ⟨b1, b2, b3, b4, b5⟩ := o3 hg
    obtain ⟨k1, k2, k3, k4⟩ := ok.2.2 hg
    obtain ⟨m1, m2, m3⟩ := man_go h1 h5 hV hc hg
    have e : mkP P c = (upN (upN P.1 (ct c) (P.1 (cf c) + 8 * cr c)) (cf c) 0, if P.1 (ct c) = 0 then P.2.1 else upN P.2.1 (8 * P.2.2 + kn (P.1 (ct c))) (P.2.1 (8 * P.2.2 + kn (P.1 (ct c))) + 1), 1 - P.2.2) := if_neg hg
    rw [e]
    have hwi : wt k (P.1 (cf c) + 8 * cr c) = wt k (P.1 (cf c)) := by
      unfold wt
      rw [m2]
      by_cases q : kn (P.1 (cf c)) = k
      · rw [if_pos ⟨m1, q⟩, if_pos ⟨b1, q⟩]
      · rw [if_neg (fun z => q z.2), if_neg (fun z => q z.2)]
    generalize P.1 (cf c) + 8 * cr c = i' at *
    have hs1 := sumR_up (g := wt k) (b := P.1) (t := ct c) (v := i') (N * N) ok.1
    have hs2 := sumR_up (g := wt k) (b := upN P.1 (ct c) i') (t := cf c) (v := 0) (N * N) k1
    rw [show upN P.1 (ct c) i' (cf c) = P.1 (cf c) from if_neg k3, w0] at hs2
    unfold tot
    show (if P.1 (ct c) = 0 then P.2.1 else _) k + (if P.1 (ct c) = 0 then P.2.1 else _) (8 + k) + sumR (wt k) (upN (upN _ _ _) _ _) (N * N) ≤ _
    by_cases q0 : P.1 (ct c) = 0
    · rw [if_pos q0]
      omega
    · rw [if_neg q0]
      have hw : wt k (P.1 (ct c)) = if kn (P.1 (ct c)) = k then 1 else 0 := by
        unfold wt
        by_cases q : kn (P.1 (ct c)) = k
        · rw [if_pos ⟨q0, q⟩, if_pos q]
        · rw [if_neg (fun z => q z.2), if_neg q]
      rw [hw] at hs1
      have hkb := kn_lt (P.1 (ct c))
      generalize kn (P.1 (ct c)) = kk at *
      generalize hS : sumR (wt k) (upN (upN P.1 (ct c) i') (cf c) 0) (N * N) = S at *
      unfold upN
      by_cases q : kk = k
      · rw [if_pos q] at hs1
        subst q
        rcases (show P.2.2 = 0 ∨ P.2.2 = 1 by omega) with z | z
        · rw [z]
          rw [if_pos (by omega), if_neg (by omega), show 8 * 0 + kk = kk by omega]
          omega
        · rw [z]
          rw [if_neg (by omega), if_pos (by omega), show 8 * 1 + kk = 8 + kk by omega]
          omega
      · rw [if_neg q] at hs1
        rw [if_neg (by omega), if_neg (by omega)]
        omega
theorem mk_h0 {N : Nat} {K : Kd} {P : Ps} (h1 : N ≤ 7) (h5 : 5 ≤ N) (hV : VP N K P) {c : Nat} (hc : c ∈ triL N K P) {j : Nat} (hj : j = 0 ∨ j = 8) : (mkP P c).2.1 j = 0 := by
  obtain ⟨ok, o2, o3⟩ := tri_ok h1 h5 (fun q _ => hV.le q) (fun j hj => by have := hV.hd hj; omega) hV.mv hc
  have h00 : P.2.1 j = 0 := by
    rcases hj with rfl | rfl
    · exact hV.h0
    · exact hV.h8
  have hm := hV.mv
  by_cases hg : cf c = 63
  · obtain ⟨s1, s2⟩ := o2 hg
    obtain ⟨g1, g2⟩ := ok.2.1 hg
    have e : (mkP P c).2.1 = upN P.2.1 (8 * P.2.2 + ck c) (P.2.1 (8 * P.2.2 + ck c) - 1) := by unfold mkP; rw [if_pos hg]
    rw [e]
    unfold upN
    rw [if_neg (by omega)]
    exact h00
  · have nk := no_king h1 h5 hV hc hg
    have e : (mkP P c).2.1 = if P.1 (ct c) = 0 then P.2.1 else upN P.2.1 (8 * P.2.2 + kn (P.1 (ct c))) (P.2.1 (8 * P.2.2 + kn (P.1 (ct c))) + 1) := by unfold mkP; rw [if_neg hg]
    rw [e]
    split
    · exact h00
    · rename_i q
      have := nk q
      have := kn_lt (P.1 (ct c))
      unfold upN
      rw [if_neg (by omega)]
      exact h00
theorem mk_kgf {N : Nat} {K : Kd} {P : Ps} (h1 : N ≤ 7) (h5 : 5 ≤ N) (hV : VP N K P) {c : Nat} (hc : c ∈ triL N K P) {s : Nat} (hs : s < 2) : kgf N (mkP P c).1 s = kfN (kgf N P.1) P c s := kgf_e (mk_KU h1 h5 hV hc) hs
theorem mk_VB {N : Nat} {K : Kd} {P : Ps} (h1 : N ≤ 7) (h5 : 5 ≤ N) (hV : VP N K P) {c : Nat} (hc : c ∈ triL N K P) : VB N (mkP P c) := by
  obtain ⟨ok, o2, o3⟩ := tri_ok h1 h5 (fun q _ => hV.le q) (fun j hj => by have := hV.hd hj; omega) hV.mv hc
  have hle := mk_le hV.toVB ok (fun h => (o2 h).2)
  exact ⟨hle, mk_out hV.toVB ok, by rw [mvN]; omega, (mk_KU h1 h5 hV hc).c (fun s hs => mk_kgf h1 h5 hV hc hs) (fun q _ => hle q), mk_h0 h1 h5 hV hc (Or.inl rfl), mk_h0 h1 h5 hV hc (Or.inr rfl), fun k a b => Nat.le_trans (mk_tot h1 h5 hV.toVB hc a b) (hV.tt k a b)⟩
theorem mk_VP {N : Nat} {K : Kd} {P : Ps} (h1 : N ≤ 7) (h5 : 5 ≤ N) (hV : VP N K P) {c : Nat} (hc : c ∈ triL N K P) (hs : safe N K P c = true) : VP N K (mkP P c) := by
  have hm := hV.mv
  refine ⟨mk_VB h1 h5 hV hc, ?_⟩
  rw [mvN, show 1 - (1 - P.2.2) = P.2.2 by omega]
  unfold safe at hs
  simpa using hs
theorem mov_safe {N c : Nat} {K : Kd} {P : Ps} (h : c ∈ movL N K P) : safe N K P c = true := by
  have := (List.mem_filter.mp h).2
  unfold lawf at this
  simp only [Bool.and_eq_true] at this
  exact this.1
theorem mov_VP {N : Nat} {K : Kd} {P : Ps} (h1 : N ≤ 7) (h5 : 5 ≤ N) (hV : VP N K P) {c : Nat} (hc : c ∈ movL N K P) : VP N K (mkP P c) := mk_VP h1 h5 hV (mov_tri hc) (mov_safe hc)
