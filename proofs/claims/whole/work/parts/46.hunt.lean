/-! ===== hunts, purely ===== -/
/-- a node: its move, 1 more than the node it is in (0: none), its depth, how many are in it -/
abbrev Nd : Type := Nat × Nat × Nat × Nat
/-- how it goes (0 not, 1 it goes, 2 spent), the cost till then, the nodes -/
abbrev Rs : Type := Nat × Nat × List Nd
def aL (F : Nat) (h : Ps → Nat → Nat → Rs) (Q : Ps) (par dep : Nat) : List Nat → Nat → Nat → Rs
  | [], _, u => (1, u, [])
  | a :: as, at_, u =>
    if F ≤ u then (2, u, [])
    else if (h (mkP Q a) (at_ + 1) (u + 1)).1 = 1 then
      (if (aL F h Q par dep as (at_ + 1 + (h (mkP Q a) (at_ + 1) (u + 1)).2.2.length) (h (mkP Q a) (at_ + 1) (u + 1)).2.1).1 = 1 then
        (1, (aL F h Q par dep as (at_ + 1 + (h (mkP Q a) (at_ + 1) (u + 1)).2.2.length) (h (mkP Q a) (at_ + 1) (u + 1)).2.1).2.1, (a, par, dep, (h (mkP Q a) (at_ + 1) (u + 1)).2.2.length) :: ((h (mkP Q a) (at_ + 1) (u + 1)).2.2 ++ (aL F h Q par dep as (at_ + 1 + (h (mkP Q a) (at_ + 1) (u + 1)).2.2.length) (h (mkP Q a) (at_ + 1) (u + 1)).2.1).2.2))
      else ((aL F h Q par dep as (at_ + 1 + (h (mkP Q a) (at_ + 1) (u + 1)).2.2.length) (h (mkP Q a) (at_ + 1) (u + 1)).2.1).1, (aL F h Q par dep as (at_ + 1 + (h (mkP Q a) (at_ + 1) (u + 1)).2.2.length) (h (mkP Q a) (at_ + 1) (u + 1)).2.1).2.1, []))
    else ((h (mkP Q a) (at_ + 1) (u + 1)).1, (h (mkP Q a) (at_ + 1) (u + 1)).2.1, [])
def hL (F : Nat) (g : Ps → Nat → Nat → Rs) (P : Ps) (dep : Nat) : List Nat → Nat → Nat → Rs
  | [], _, u => (0, u, [])
  | c :: cs, at_, u =>
    if F ≤ u then (2, u, [])
    else if (g (mkP P c) (at_ + 1) (u + 1)).1 = 1 then (1, (g (mkP P c) (at_ + 1) (u + 1)).2.1, (c, at_, dep, (g (mkP P c) (at_ + 1) (u + 1)).2.2.length) :: (g (mkP P c) (at_ + 1) (u + 1)).2.2)
    else if (g (mkP P c) (at_ + 1) (u + 1)).1 = 2 then (2, (g (mkP P c) (at_ + 1) (u + 1)).2.1, [])
    else hL F g P dep cs at_ (g (mkP P c) (at_ + 1) (u + 1)).2.1
/-- does a move give check -/
def gch (N : Nat) (K : Kd) (P : Ps) (c : Nat) : Bool := chk N K (mkP P c).1 (mkP P c).2.2
def hH (N : Nat) (K : Kd) (F : Nat) : Nat → Nat → Ps → Nat → Nat → Rs
  | 0, _, _, _, u => (0, u, [])
  | k + 1, dep, P, at_, u => hL F (fun Q at_ u => aL F (hH N K F k (dep + 2)) Q at_ (dep + 1) (movL N K Q) at_ u) P dep ((movL N K P).filter (gch N K P)) at_ u
/-- the answers to a move of the hunter -/
def aA (N : Nat) (K : Kd) (F k dep : Nat) (Q : Ps) (at_ u : Nat) : Rs := aL F (hH N K F k (dep + 2)) Q at_ (dep + 1) (movL N K Q) at_ u
/-- costs grow, never above the fuel; each node costs one -/
def okR (F u : Nat) (r : Rs) : Prop := u ≤ r.2.1 ∧ r.2.1 ≤ F ∧ r.1 ≤ 2 ∧ (r.1 = 1 → u + r.2.2.length ≤ r.2.1)
theorem aL_ok {F par dep : Nat} {h : Ps → Nat → Nat → Rs} {Q : Ps} (hh : ∀ P at_ u, u ≤ F → okR F u (h P at_ u)) : ∀ (l : List Nat) (at_ u : Nat), u ≤ F → okR F u (aL F h Q par dep l at_ u)
  | [], at_, u, hu => ⟨Nat.le_refl _, hu, by unfold aL; exact (by decide : (1 : Nat) ≤ 2), fun _ => by unfold aL; simp⟩
  | a :: as, at_, u, hu => by
    unfold aL
    by_cases q : F ≤ u
    · rw [if_pos q]
      exact ⟨Nat.le_refl _, hu, (by decide : (2 : Nat) ≤ 2), fun z => by cases z⟩
    · rw [if_neg q]
      have h1 := hh (mkP Q a) (at_ + 1) (u + 1) (by omega)
      generalize h (mkP Q a) (at_ + 1) (u + 1) = r at h1
      obtain ⟨a1, a2, a3, a4⟩ := h1
      by_cases q1 : r.1 = 1
      · rw [if_pos q1]
        obtain ⟨b1, b2, b3, b4⟩ := aL_ok (par := par) (dep := dep) (Q := Q) hh as (at_ + 1 + r.2.2.length) r.2.1 a2
        generalize aL F h Q par dep as (at_ + 1 + r.2.2.length) r.2.1 = s at *
        have := a4 q1
        by_cases q2 : s.1 = 1
        · rw [if_pos q2]
          have := b4 q2
          refine ⟨by show u ≤ s.2.1; omega, b2, (by decide : (1 : Nat) ≤ 2), fun _ => ?_⟩
          show u + ((a, par, dep, r.2.2.length) :: (r.2.2 ++ s.2.2)).length ≤ s.2.1
          rw [List.length_cons, List.length_append]
          omega
        · rw [if_neg q2]
          exact ⟨by show u ≤ s.2.1; omega, b2, b3, fun z => absurd z q2⟩
      · rw [if_neg q1]
        exact ⟨by show u ≤ r.2.1; omega, a2, a3, fun z => absurd z q1⟩
theorem hL_ok {F dep : Nat} {g : Ps → Nat → Nat → Rs} {P : Ps} (hg : ∀ P at_ u, u ≤ F → okR F u (g P at_ u)) : ∀ (l : List Nat) (at_ u : Nat), u ≤ F → okR F u (hL F g P dep l at_ u)
  | [], at_, u, hu => ⟨Nat.le_refl _, hu, by unfold hL; exact (by decide : (0 : Nat) ≤ 2), fun z => by unfold hL at z; cases z⟩
  | c :: cs, at_, u, hu => by
    unfold hL
    by_cases q : F ≤ u
    · rw [if_pos q]
      exact ⟨Nat.le_refl _, hu, (by decide : (2 : Nat) ≤ 2), fun z => by cases z⟩
    · rw [if_neg q]
      have h1 := hg (mkP P c) (at_ + 1) (u + 1) (by omega)
      generalize g (mkP P c) (at_ + 1) (u + 1) = r at h1
      obtain ⟨a1, a2, a3, a4⟩ := h1
      by_cases q1 : r.1 = 1
      · rw [if_pos q1]
        have := a4 q1
        refine ⟨by show u ≤ r.2.1; omega, a2, (by decide : (1 : Nat) ≤ 2), fun _ => ?_⟩
        show u + ((c, at_, dep, r.2.2.length) :: r.2.2).length ≤ r.2.1
        rw [List.length_cons]
        omega
      · rw [if_neg q1]
        by_cases q2 : r.1 = 2
        · rw [if_pos q2]
          exact ⟨by show u ≤ r.2.1; omega, a2, (by decide : (2 : Nat) ≤ 2), fun z => by cases z⟩
        · rw [if_neg q2]
          obtain ⟨b1, b2, b3, b4⟩ := hL_ok (dep := dep) (P := P) hg cs at_ r.2.1 a2
          exact ⟨by omega, b2, b3, fun z => by have := b4 z; omega⟩
theorem hH_ok {N F : Nat} {K : Kd} : ∀ (k dep : Nat) (P : Ps) (at_ u : Nat), u ≤ F → okR F u (hH N K F k dep P at_ u)
  | 0, dep, P, at_, u, hu => ⟨Nat.le_refl _, hu, by unfold hH; exact (by decide : (0 : Nat) ≤ 2), fun z => by unfold hH at z; cases z⟩
  | k + 1, dep, P, at_, u, hu => by
    unfold hH
    exact hL_ok (fun Q at_ u hu => aL_ok (fun P at_ u hu => hH_ok k (dep + 2) P at_ u hu) _ at_ u hu) _ at_ u hu
theorem aA_ok {N F k dep at_ u : Nat} {K : Kd} {Q : Ps} (hu : u ≤ F) : okR F u (aA N K F k dep Q at_ u) := aL_ok (fun P at_ u hu => hH_ok k (dep + 2) P at_ u hu) _ at_ u hu
/-! ===== the class ===== -/
/-- 1 more than a node, or 0, as the class has it -/
def pv (p : Nat) : Int32 := if p = 0 then -1 else nI (p - 1)
theorem pv_s (i : Nat) : pv (i + 1) = nI i := by unfold pv; rw [if_neg (by omega), Nat.add_sub_cancel]
/-- table, scratch, segment 0, segments from sg on, chase: cost, dry, size, nodes from at on -/
def ChX (N sg at_ : Nat) (w w' : Wd) : Prop := w'.2 = w.2 ∧ (∀ k, k < 22 ∨ k = 27 ∨ 32 < k → w'.1 k = w.1 k) ∧ (∀ j, j ≠ 7 → w'.1 22 j = w.1 22 j) ∧ (∀ j, 27 * (N * N) ≤ j → j < sg * (27 * (N * N)) → w'.1 28 j = w.1 28 j) ∧ (∀ j, j ≠ 5 → j ≠ 7 → j ≠ 8 → w'.1 29 j = w.1 29 j) ∧ ∀ j, j < at_ → w'.1 30 j = w.1 30 j ∧ w'.1 31 j = w.1 31 j ∧ w'.1 32 j = w.1 32 j
theorem ChX.rf {N sg at_ : Nat} {w : Wd} : ChX N sg at_ w w := ⟨rfl, fun _ _ => rfl, fun _ _ => rfl, fun _ _ _ => rfl, fun _ _ _ _ => rfl, fun _ _ => ⟨rfl, rfl, rfl⟩⟩
theorem ChX.tr {N sg at_ : Nat} {a b c : Wd} (x : ChX N sg at_ a b) (y : ChX N sg at_ b c) : ChX N sg at_ a c := ⟨y.1.trans x.1, fun k h => (y.2.1 k h).trans (x.2.1 k h), fun j h => (y.2.2.1 j h).trans (x.2.2.1 j h), fun j h1 h2 => (y.2.2.2.1 j h1 h2).trans (x.2.2.2.1 j h1 h2), fun j h1 h2 h3 => (y.2.2.2.2.1 j h1 h2 h3).trans (x.2.2.2.2.1 j h1 h2 h3), fun j h => ⟨(y.2.2.2.2.2 j h).1.trans (x.2.2.2.2.2 j h).1, (y.2.2.2.2.2 j h).2.1.trans (x.2.2.2.2.2 j h).2.1, (y.2.2.2.2.2 j h).2.2.trans (x.2.2.2.2.2 j h).2.2⟩⟩
theorem ChX.mono {N sg sg' at_ at' : Nat} {a b : Wd} (x : ChX N sg at_ a b) (h : sg' ≤ sg) (h2 : at' ≤ at_) : ChX N sg' at' a b := by
  have hm : sg' * (27 * (N * N)) ≤ sg * (27 * (N * N)) := Nat.mul_le_mul_right _ h
  exact ⟨x.1, x.2.1, x.2.2.1, fun j h1 h2 => x.2.2.2.1 j h1 (by omega), x.2.2.2.2.1, fun j hj => x.2.2.2.2.2 j (by omega)⟩
theorem FrX.ch {N sg at_ hi : Nat} {a b : Wd} (x : FrX N (sg * (27 * (N * N))) hi a b) : ChX N sg at_ a b := ⟨x.1, fun k h => x.2.1 k (by omega), x.2.2.1, fun j h1 h2 => x.2.2.2 j h1 (by omega), fun j _ _ _ => by rw [x.2.1 29 (by omega)], fun j _ => by rw [x.2.1 30 (by omega), x.2.1 31 (by omega), x.2.1 32 (by omega)]; exact ⟨rfl, rfl, rfl⟩⟩
theorem FrX.ch0 {N sg at_ : Nat} {a b : Wd} (x : FrX N 0 0 a b) : ChX N sg at_ a b := (x.no (lo := sg * (27 * (N * N))) (hi := 0)).ch
theorem AppX.ch {N sg at_ : Nat} {a b : Wd} (x : AppX a b) : ChX N sg at_ a b := (x.fr (N := N) (lo := 0) (hi := 0)).ch0
theorem ChX.i29 {N sg at_ j : Nat} {w : Wd} {v : Int32} (h : j = 5 ∨ j = 7 ∨ j = 8) : ChX N sg at_ w (wdI w 29 j v) := ⟨rfl, fun k hk => wI_c (by omega), fun _ _ => by rw [wI_c (by decide)], fun _ _ _ => by rw [wI_c (by decide)], fun q h1 h2 h3 => wI_n (by omega), fun _ _ => by rw [wI_c (by decide), wI_c (by decide), wI_c (by decide)]; exact ⟨rfl, rfl, rfl⟩⟩
theorem ChX.iN {N sg at_ k j : Nat} {w : Wd} {v : Int32} (hk : 30 ≤ k ∧ k ≤ 32) (h : at_ ≤ j) : ChX N sg at_ w (wdI w k j v) := ⟨rfl, fun q hq => wI_c (by omega), fun _ _ => by rw [wI_c (by omega)], fun _ _ _ => by rw [wI_c (by omega)], fun q _ _ _ => by rw [wI_c (by omega)], fun q hq => by rw [wI_get, if_neg (by omega), wI_get, if_neg (by omega), wI_get, if_neg (by omega)]; exact ⟨rfl, rfl, rfl⟩⟩
theorem XA.ch {N : Nat} {K : Kd} {P : Ps} {w w' : Wd} (h : XA N K P w) (e : ∀ k, k < 28 → w'.1 k = w.1 k) : XA N K P w' := h.oth e
/-- nodes in the class's cells -/
def NdX (at_ : Nat) (L : List Nd) (w : Wd) : Prop := ∀ i e, L[i]? = some e → w.1 30 (at_ + i) = nI e.1 ∧ w.1 31 (at_ + i) = pv e.2.1 ∧ w.1 32 (at_ + i) = nI e.2.2.2
theorem NdX.ch {N sg at_ at' : Nat} {L : List Nd} {w w' : Wd} (h : NdX at_ L w) (x : ChX N sg at' w w') (hl : at_ + L.length ≤ at') : NdX at_ L w' := fun i e hi => by
  have := (List.getElem?_eq_some_iff.mp hi).1
  obtain ⟨a, b, c⟩ := x.2.2.2.2.2 (at_ + i) (by omega)
  rw [a, b, c]
  exact h i e hi
theorem NdX.cons {at_ : Nat} {e : Nd} {L : List Nd} {w : Wd} (h1 : w.1 30 at_ = nI e.1 ∧ w.1 31 at_ = pv e.2.1 ∧ w.1 32 at_ = nI e.2.2.2) (h2 : NdX (at_ + 1) L w) : NdX at_ (e :: L) w := fun i x hi => by
  cases i with
  | zero =>
    rw [List.getElem?_cons_zero] at hi
    cases hi
    exact h1
  | succ i =>
    rw [List.getElem?_cons_succ] at hi
    have := h2 i x hi
    rw [show at_ + (i + 1) = at_ + 1 + i by omega]
    exact this
theorem NdX.app {at_ : Nat} {L M : List Nd} {w : Wd} (h1 : NdX at_ L w) (h2 : NdX (at_ + L.length) M w) : NdX at_ (L ++ M) w := fun i x hi => by
  rw [List.getElem?_append] at hi
  split at hi
  · exact h1 i x hi
  · have := h2 _ x hi
    rw [show at_ + L.length + (i - L.length) = at_ + i by omega] at this
    exact this
theorem NdX.nil {at_ : Nat} {w : Wd} : NdX at_ [] w := fun i e hi => by simp at hi
/-- the chase's numbers -/
def ChN (F at_ u : Nat) (dry : Bool) (w : Wd) : Prop := w.1 29 5 = nI at_ ∧ w.1 29 6 = nI F ∧ w.1 29 7 = nI u ∧ w.1 29 8 = b2i dry
theorem ChN.of {F at_ u : Nat} {dry : Bool} {w w' : Wd} (h : ChN F at_ u dry w) (e : w'.1 29 = w.1 29) : ChN F at_ u dry w' := by
  unfold ChN at h ⊢
  rw [e]
  exact h
theorem cd_low {c a : Nat} (hc : c < 65536) (ha : a ≤ 32) : nI (c + 65536 * a) &&& (65535 : Int32) = nI c := by
  rw [pk_andN (k := 16) (by omega) (by decide)]
  congr 1
  omega
theorem x_addNode {N sg F at_ u c a : Nat} {v2 : Int32} {w : Wd} (hc : c < 65536) (ha : a ≤ 32) (hC : ChN F at_ u false w) (hau : at_ ≤ u) (huF : u ≤ F) (hF : F ≤ 1000) :
    ∃ w', f_X0_addNode N (nI (c + 65536 * a)) v2 w = some (if F ≤ u then -1 else nI at_, w') ∧ ChX N sg at_ w w' ∧ (∀ k, k < 29 → w'.1 k = w.1 k) ∧ (if F ≤ u then ChN F at_ u true w' else ChN F (at_ + 1) (u + 1) false w' ∧ w'.1 30 at_ = nI c ∧ w'.1 31 at_ = v2) := by
  obtain ⟨c5, c6, c7, c8⟩ := hC
  unfold f_X0_addNode
  rw [c7, c6]
  by_cases q : F ≤ u
  · rw [if_neg (nI_nlt q (by omega)), lw_e, if_pos q]
    refine ⟨_, rfl, ChX.i29 (Or.inr (Or.inr rfl)), fun k hk => wI_c (by omega), ?_⟩
    rw [if_pos q]
    unfold ChN
    rw [wI_n (by decide), wI_n (by decide), wI_n (by decide), wI_s]
    exact ⟨c5, c6, c7, rfl⟩
  · rw [if_pos (nI_lt (by omega) (by omega)), lw_e, wI_n (by decide), c5, inb_nI (show at_ < 1000 by omega) (by omega), if_pos rfl, lw_e, nI_clamp (by omega), cd_low hc ha, wI_c (by decide), wI_n (by decide), c5, inb_nI (show at_ < 1000 by omega) (by omega), if_pos rfl, lw_e, nI_clamp (by omega), lw_e, wI_c (by decide), wI_c (by decide), wI_n (by decide), c5, nI_1, nI_1, if_neg q]
    refine ⟨_, rfl, (((ChX.i29 (Or.inr (Or.inl rfl))).tr (ChX.iN (by omega) (Nat.le_refl _))).tr (ChX.iN (by omega) (Nat.le_refl _))).tr (ChX.i29 (Or.inl rfl)), fun k hk => ?_, ?_⟩
    · rw [wI_c (by omega), wI_c (by omega), wI_c (by omega), wI_c (by omega)]
    rw [if_neg q]
    refine ⟨⟨?_, ?_, ?_, ?_⟩, ?_, ?_⟩
    · rw [wI_s]
    · rw [wI_n (by decide), wI_c (by decide), wI_c (by decide), wI_n (by decide)]; exact c6
    · rw [wI_n (by decide), wI_c (by decide), wI_c (by decide), wI_s]
    · rw [wI_n (by decide), wI_c (by decide), wI_c (by decide), wI_n (by decide)]; exact c8
    · rw [wI_c (by decide), wI_c (by decide), wI_s]
    · rw [wI_c (by decide), wI_s]
