/-! ===== the class: looking around, read ===== -/
theorem XA.oth2 {N : Nat} {K : Kd} {P : Ps} {w w' : Wd} (h : XA N K P w) (e : ∀ k, 2 ≤ k → k < 28 → k ≠ 26 → w'.1 k = w.1 k) : XA N K P w' := by
  obtain ⟨h1, h2, h3, h4, h5, h6⟩ := h
  refine ⟨?_, ?_, ?_, ?_, ?_, ?_⟩
  · unfold XK at h1 ⊢
    rw [e 22 (by omega) (by omega) (by omega), e 3 (by omega) (by omega) (by omega), e 6 (by omega) (by omega) (by omega), e 7 (by omega) (by omega) (by omega)]
    exact h1
  · unfold XD at h2 ⊢
    rw [e 8 (by omega) (by omega) (by omega), e 9 (by omega) (by omega) (by omega)]
    exact h2
  · unfold XW at h3 ⊢
    rw [e 2 (by omega) (by omega) (by omega), e 4 (by omega) (by omega) (by omega), e 5 (by omega) (by omega) (by omega), e 10 (by omega) (by omega) (by omega)]
    exact h3
  · unfold XP XB at h4 ⊢
    rw [e 22 (by omega) (by omega) (by omega), e 23 (by omega) (by omega) (by omega), e 24 (by omega) (by omega) (by omega)]
    exact h4
  · unfold KG at h5 ⊢
    rw [e 25 (by omega) (by omega) (by omega)]
    exact h5
  · rw [e 27 (by omega) (by omega) (by omega)]
    exact h6
/-- the lawful moves of the stand, as the class keeps them -/
def XLw (N : Nat) (K : Kd) (P : Ps) (w : Wd) : Prop := w.1 0 11 = nI (movL N K P).length ∧ LIn (1 * (27 * (N * N))) ((movL N K P).map (tc P.1)) w
/-- what a call on a stand leaves alone: told hands, ways, lines, chase, text, what is else in the object -/
def TopX (w w' : Wd) : Prop := (∀ k, (1 ≤ k ∧ k < 22) ∨ (29 ≤ k ∧ k ≤ 34) → w'.1 k = w.1 k) ∧ ∀ j, j ≠ 11 → w'.1 0 j = w.1 0 j
theorem TopX.rf {w : Wd} : TopX w w := ⟨fun _ _ => rfl, fun _ _ => rfl⟩
theorem TopX.tr {a b c : Wd} (x : TopX a b) (y : TopX b c) : TopX a c := ⟨fun k h => (y.1 k h).trans (x.1 k h), fun j h => (y.2 j h).trans (x.2 j h)⟩
theorem FrX.top {N lo hi : Nat} {a b : Wd} (x : FrX N lo hi a b) : TopX a b := ⟨fun k h => x.2.1 k (by omega), fun j _ => by rw [x.2.1 0 (by omega)]⟩
theorem AppX.top {a b : Wd} (x : AppX a b) : TopX a b := ⟨fun k h => x.2.1 k (by omega), fun j _ => by rw [x.2.1 0 (by omega)]⟩
theorem PTX.top {o : Nat} {a b : Wd} (ho : 35 ≤ o) (x : PTX o a b) : TopX a b := ⟨fun k h => x.2.1 k (by omega) (by omega) (by omega) (by omega), fun j _ => by rw [x.2.1 0 (by omega) (by omega) (by omega) (by omega)]⟩
theorem RdX.top {N o : Nat} {a b : Wd} (ho : 35 ≤ o) (x : RdX N o a b) : TopX a b := ⟨fun k h => x.2.1 k (by omega) (by omega) (by omega) (by omega), fun j _ => by rw [x.2.1 0 (by omega) (by omega) (by omega) (by omega)]⟩
theorem x_lookAround {N : Nat} {K : Kd} {P : Ps} {w : Wd} (hA : XA N K P w) (hV : VP N K P) : ∃ w', f_X9_lookAround N w = some ((), w') ∧ XA N K P w' ∧ XLw N K P w' ∧ TopX w w' ∧ w'.2 = w.2 ∧ ∀ k, 34 < k → w'.1 k = w.1 k := by
  obtain ⟨w1, a1, a2, a3, a4⟩ := x_listLawful (sg := 1) hA hV (by omega) (by omega)
  have a1' : f_X5_listLawful N (1 : Int32) w = some (nI (movL N K P).length, w1) := a1
  have c0 : ∀ k, k ≠ 0 → (wdI w1 0 11 (nI (movL N K P).length)).1 k = w1.1 k := fun k hk => wI_c hk
  refine ⟨wdI w1 0 11 (nI (movL N K P).length), ?_, a3.oth2 (fun k h1 h2 _ => c0 k (by omega)), ⟨by rw [wI_s], fun j c hj => ?_⟩, ⟨fun k h => ?_, fun j h => ?_⟩, a2.1, fun k h => ?_⟩
  · unfold f_X9_lookAround
    rw [a1', bd_s, lw_e]
  · rw [c0 28 (by decide)]
    exact a4 j c hj
  · rw [c0 k (by omega)]
    exact a2.2.1 k (by omega)
  · rw [wI_n h, a2.2.1 0 (by omega)]
  · rw [c0 k (by omega)]
    exact a2.2.1 k (by omega)
/-- the class on a stand -/
def XSd (N : Nat) (K : Kd) (oc os : Nat) (ps : Nat → Ps) (cs : Nat → Nat) (d a : Nat) (w : Wd) : Prop := ((oc = 35 ∧ os = 39) ∨ (oc = 39 ∧ os = 35)) ∧ w.2.2 = (oc, os) ∧ XA N K (ps d) w ∧ XPl N K oc ps cs d a w ∧ XLw N K (ps d) w ∧ w.1 0 10 = 1
/-- a play read, from the first stand on -/
def rdA (N : Nat) (K : Kd) (B : List Nat) (P : Ps) : Rd := if B.length = 0 then (0, fun _ => P, fun _ => 0, 0) else rd N K B (B.length + 1) 0 (fun _ => P) (fun _ => 0) 0
theorem x_read {N oc os d a : Nat} {K : Kd} {ps : Nat → Ps} {cs : Nat → Nat} {B : List Nat} {w : Wd} (hS : XSd N K oc os ps cs d a w) (hT : TXx N B w) (hB : BtB B) :
    ∃ w', f_X9_read N w = some (if (rdA N K B (ps 0)).1 = 0 then nI (rdA N K B (ps 0)).2.2.2 else (-100 : Int32) - nI ((rdA N K B (ps 0)).1 - 1), w') ∧ TopX w w' ∧ ((rdA N K B (ps 0)).1 ≠ 0 → XSd N K oc os ps cs d a w') ∧ ((rdA N K B (ps 0)).1 = 0 → XSd N K os oc (rdA N K B (ps 0)).2.1 (rdA N K B (ps 0)).2.2.1 (rdA N K B (ps 0)).2.2.2 (rdA N K B (ps 0)).2.2.2 w') := by
  obtain ⟨ho, hcs, hA, hX, hLw, hst⟩ := hS
  have h7 := hA.n7
  have h5 := hA.n5
  have hok : okP oc = true ∧ okP os = true ∧ 35 ≤ oc ∧ 35 ≤ os := by
    rcases ho with ⟨rfl, rfl⟩ | ⟨rfl, rfl⟩ <;> exact ⟨rfl, rfl, by omega, by omega⟩
  obtain ⟨o1, o2, o3, o4⟩ := hok
  have hV0 := hX.vp h7 h5 (Nat.zero_le a)
  have hc1 : w.2.2.1 = oc := by rw [hcs]
  have hc2 : w.2.2.2 = os := by rw [hcs]
  obtain ⟨w1, a1, a2, a3⟩ := x_leave (by omega) hA hX
  have hc2' : w1.2.2.2 = os := by rw [a2.1]; exact hc2
  obtain ⟨w2, b1, b2, b3, b4, b5⟩ := x_begin (o := os) (by omega) a3 hV0
  have hsp2 : w2.2.2.2 = os := by rw [b2.1]; exact hc2'
  have hcu2 : w2.2.2.1 = oc := by rw [b2.1, a2.1]; exact hc1
  have hT2 : TXx N B w2 := by
    have : TXx N B w1 := by
      unfold TXx at hT ⊢
      rw [a2.2.1 33 (by omega), a2.2.1 34 (by omega)]
      exact hT
    exact this.rd (b2.rd (N := N) (by omega)) o4
  have hX2 : XPl N K oc ps cs d a w2 := by
    have h1 : XPl N K oc ps cs d a w1 := hX.of (a2.2.1 oc (by omega)) (a2.2.1 (oc + 1) (by omega)) (a2.2.1 (oc + 2) (by omega)) (by rw [a2.1])
    exact h1.of (b2.2.1 oc (by omega) (by omega) (by omega) (by omega)) (b2.2.1 (oc + 1) (by omega) (by omega) (by omega) (by omega)) (b2.2.1 (oc + 2) (by omega) (by omega) (by omega) (by omega)) (b2.2.2.2 (oc + 3) (by omega))
  have t2 : TopX w w2 := a2.top.tr (b2.top o4)
  have L2 : w2.1 28 = w.1 28 := by rw [b2.2.1 28 (by omega) (by omega) (by omega) (by omega), a2.2.1 28 (by omega)]
  have h011 : ∀ x : Wd, w2.1 0 11 = w.1 0 11 := fun _ => by rw [b2.2.1 0 (by omega) (by omega) (by omega) (by omega), a2.2.1 0 (by omega)]
  have n27 : ∀ j, 1 * (27 * (N * N)) + j ≥ 27 * (N * N) := fun j => by omega
  -- success
  have good : ∀ (ps2 : Nat → Ps) (cs2 : Nat → Nat) (d2 : Nat) (u : Wd), RdX N os w2 u → XA N K (ps2 d2) u → XPl N K os ps2 cs2 d2 d2 u → ∃ w', f_X9_read_42 N (-1 : Int32) u = some (nI d2, w') ∧ TopX w w' ∧ XSd N K os oc ps2 cs2 d2 d2 w' := by
    intro ps2 cs2 d2 u hu hAu hXu
    have e1 : u.2.2 = (oc, os) := by rw [hu.1]; exact Prod.ext hcu2 hsp2
    have hVu := hXu.vp h7 h5 (Nat.le_refl d2)
    have hw8 : ∀ k, (wdR (wdC u u.2.2.2) u.2.2.1).1 k = u.1 k := fun k => rfl
    have hA8 : XA N K (ps2 d2) (wdR (wdC u u.2.2.2) u.2.2.1) := hAu.oth2 (fun k _ _ _ => rfl)
    obtain ⟨u2, c1, c2, c3, c4, c5, c6⟩ := x_lookAround hA8 hVu
    have hc8 : (wdR (wdC u u.2.2.2) u.2.2.1).2.2 = (os, oc) := by
      show ((u.2.2.2, u.2.2.1) : Nat × Nat) = (os, oc)
      rw [e1]
    have hcu : u2.2.2 = (os, oc) := by rw [c5]; exact hc8
    have hXu2 : XPl N K os ps2 cs2 d2 d2 u2 := hXu.of (by rw [c6 os (by omega)]; rfl) (by rw [c6 (os + 1) (by omega)]; rfl) (by rw [c6 (os + 2) (by omega)]; rfl) (by rw [c5]; rfl)
    have hcu1 : u2.2.2.1 = os := by rw [hcu]
    have tu : TopX w u2 := (t2.tr (hu.top o4)).tr ⟨fun k h => c4.1 k h, fun j h => c4.2 j h⟩
    refine ⟨u2, ?_, tu, ⟨by omega, hcu, c2, hXu2, c3, by rw [tu.2 10 (by decide)]; exact hst⟩⟩
    unfold f_X9_read_42
    rw [if_pos (by decide), lw_e, lw_e, c1, bd_s, hcu1, o2, if_pos rfl, hXu2.1.2.2.1]
  -- failure
  have bad : ∀ (ps2 : Nat → Ps) (cs2 : Nat → Nat) (d2 p : Nat) (u : Wd), p < 3000 → ps2 0 = ps 0 → RdX N os w2 u → XA N K (ps2 d2) u → XPl N K os ps2 cs2 d2 d2 u → ∃ w', f_X9_read_42 N (nI p) u = some ((-100 : Int32) - nI p, w') ∧ TopX w w' ∧ XSd N K oc os ps cs d a w' := by
    intro ps2 cs2 d2 p u hp h0 hu hAu hXu
    obtain ⟨u1, c1, c2, c3⟩ := x_leave (by omega) hAu hXu
    rw [h0] at c3
    have hXc : XPl N K oc ps cs d a u1 := by
      have h1 : XPl N K oc ps cs d a u := hX2.of (hu.2.1 oc (by omega) (by omega) (by omega) (by omega)) (hu.2.1 (oc + 1) (by omega) (by omega) (by omega) (by omega)) (hu.2.1 (oc + 2) (by omega) (by omega) (by omega) (by omega)) (hu.2.2.2.2 (oc + 3) (by omega))
      exact h1.of (c2.2.1 oc (by omega)) (c2.2.1 (oc + 1) (by omega)) (c2.2.1 (oc + 2) (by omega)) (by rw [c2.1])
    obtain ⟨u2, d1, d2', d3⟩ := x_resume (by omega) c3 hXc
    have hXc2 : XPl N K oc ps cs d a u2 := hXc.of (d2'.2.1 oc (by omega)) (d2'.2.1 (oc + 1) (by omega)) (d2'.2.1 (oc + 2) (by omega)) (by rw [d2'.1])
    have hsu : u.2.2.2 = os := by rw [hu.1]; exact hsp2
    have hcu : u1.2.2.1 = oc := by rw [c2.1, hu.1]; exact hcu2
    have tu : TopX w u2 := ((t2.tr (hu.top o4)).tr c2.top).tr d2'.top
    refine ⟨u2, ?_, tu, ⟨ho, ?_, d3, hXc2, ⟨?_, fun j c hj => ?_⟩, by rw [tu.2 10 (by decide)]; exact hst⟩⟩
    · unfold f_X9_read_42
      rw [if_neg (nI_pos (by omega)), hsu, o2, if_pos rfl, c1, bd_s, hcu, o1, if_pos rfl, d1, bd_s]
    · rw [d2'.1, c2.1, hu.1]; exact Prod.ext hcu2 hsp2
    · rw [d2'.2.1 0 (by omega), c2.2.1 0 (by omega), hu.2.1 0 (by omega) (by omega) (by omega) (by omega), h011 w]
      exact hLw.1
    · rw [d2'.2.1 28 (by omega), c2.2.1 28 (by omega), hu.2.2.2.1 _ (n27 j), L2]
      exact hLw.2 j c hj
  unfold f_X9_read rdA
  rw [if_neg (by rw [hst]; decide), hc1, o1, if_pos rfl, a1, bd_s, hc2', o2, if_pos rfl, b1, bd_s, hT2.2.1]
  have hl := hB.1
  by_cases q : B.length = 0
  · rw [q, if_pos z0]
    rw [if_pos rfl]
    obtain ⟨w', g1, g2, g3⟩ := good (fun _ => ps 0) (fun _ => 0) 0 w2 RdX.rf b3 b4
    exact ⟨w', g1, g2, fun z => absurd rfl z, fun _ => g3⟩
  · rw [if_neg (nI_ne0 (by omega) (by omega))]
    rw [if_neg q]
    obtain ⟨w3, c1, c2, c3, c4⟩ := x_dt (o := os) (by omega) hB (B.length + 1) 0 FU (fun _ => ps 0) (fun _ => 0) 0 w2 (Nat.zero_le _) (by omega) (FU_big (by omega)) b3 b4 hT2 hsp2
    have c1' : f_X9_doText N w2 = some (if (rd N K B (B.length + 1) 0 (fun _ => ps 0) (fun _ => 0) 0).1 = 0 then -1 else nI ((rd N K B (B.length + 1) 0 (fun _ => ps 0) (fun _ => 0) 0).1 - 1), w3) := c1
    have hfst : ∀ (f s : Nat) (p : Nat → Ps) (c : Nat → Nat) (d : Nat), s ≤ B.length → (rd N K B f s p c d).1 ≤ B.length + 1 ∧ (rd N K B f s p c d).2.1 0 = p 0 := by
      intro f
      induction f with
      | zero => intro s p c d hs; unfold rd; exact ⟨by show s + 1 ≤ _; omega, rfl⟩
      | succ f ihf =>
        intro s p c d hs
        unfold rd
        cases mvAt N B s (nxt B s) with
        | none => exact ⟨by show s + 1 ≤ _; omega, rfl⟩
        | some x =>
          dsimp only
          by_cases q1 : d < 300 ∧ endS N K p d = 0 ∧ x ∈ movL N K (p d)
          · rw [if_pos q1]
            by_cases q2 : nxt B s < B.length
            · rw [if_pos q2]
              obtain ⟨i1, i2⟩ := ihf (nxt B s + 1) (psA p d x) (upN c d x) (d + 1) (by omega)
              exact ⟨i1, i2.trans (psA_le (Nat.zero_le _))⟩
            · rw [if_neg q2]
              exact ⟨Nat.zero_le _, psA_le (ps := p) (d := d) (c := x) (Nat.zero_le d)⟩
          · rw [if_neg q1]
            exact ⟨by show s + 1 ≤ _; omega, rfl⟩
    have hf0 := hfst (B.length + 1) 0 (fun _ => ps 0) (fun _ => 0) 0 (Nat.zero_le _)
    rw [c1', bd_s]
    generalize rd N K B (B.length + 1) 0 (fun _ => ps 0) (fun _ => 0) 0 = r at *
    by_cases q0 : r.1 = 0
    · rw [if_pos q0]
      rw [if_pos q0]
      obtain ⟨w', g1, g2, g3⟩ := good r.2.1 r.2.2.1 r.2.2.2 w3 c2 c3 c4
      exact ⟨w', g1, g2, fun z => absurd q0 z, fun _ => g3⟩
    · rw [if_neg q0]
      rw [if_neg q0]
      obtain ⟨w', g1, g2, g3⟩ := bad r.2.1 r.2.2.1 r.2.2.2 (r.1 - 1) w3 (by omega) hf0.2 c2 c3 c4
      exact ⟨w', g1, g2, fun _ => g3, fun z => absurd z q0⟩
