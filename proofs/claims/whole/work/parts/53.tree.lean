/-! ===== the shape of trees ===== -/
abbrev Sh : Type := Nat × Nat × Nat
def shA (h : Nat → List Sh → Prop) (par dep : Nat) : Nat → Nat → List Sh → Prop
  | 0, _, M => M = []
  | m + 1, at_, M => ∃ S R, M = (par, dep, S.length) :: (S ++ R) ∧ h (at_ + 1) S ∧ shA h par dep m (at_ + 1 + S.length) R
def shH : Nat → Nat → Nat → List Sh → Prop
  | 0, _, _, _ => False
  | k + 1, dep, at_, M => ∃ A m, M = (at_, dep, A.length) :: A ∧ shA (shH k (dep + 2)) (at_ + 1) (dep + 1) m (at_ + 1) A
theorem sh_aL {F par dep : Nat} {h : Ps → Nat → Nat → Rs} {hp : Nat → List Sh → Prop} {Q : Ps} (hh : ∀ P at_ u, (h P at_ u).1 = 1 → hp at_ ((h P at_ u).2.2.map Prod.snd)) : ∀ (l : List Nat) (at_ u : Nat), (aL F h Q par dep l at_ u).1 = 1 → shA hp par dep l.length at_ ((aL F h Q par dep l at_ u).2.2.map Prod.snd)
  | [], at_, u, _ => rfl
  | a :: as, at_, u, e => by
    unfold aL at e ⊢
    by_cases q : F ≤ u
    · rw [if_pos q] at e
      cases e
    · rw [if_neg q] at e ⊢
      have h1 := hh (mkP Q a) (at_ + 1) (u + 1)
      generalize h (mkP Q a) (at_ + 1) (u + 1) = r at *
      by_cases q1 : r.1 = 1
      · rw [if_pos q1] at e ⊢
        have h2 := sh_aL (F := F) (par := par) (dep := dep) (Q := Q) hh as (at_ + 1 + r.2.2.length) r.2.1
        generalize aL F h Q par dep as (at_ + 1 + r.2.2.length) r.2.1 = s at *
        by_cases q2 : s.1 = 1
        · rw [if_pos q2]
          refine ⟨r.2.2.map Prod.snd, s.2.2.map Prod.snd, ?_, h1 q1, ?_⟩
          · rw [List.map_cons, List.map_append, List.length_map]
          · rw [List.length_map]
            exact h2 q2
        · rw [if_neg q2] at e
          exact absurd e q2
      · rw [if_neg q1] at e
        exact absurd e q1
theorem sh_hL {F dep : Nat} {g : Ps → Nat → Nat → Rs} {P : Ps} {hq : Nat → List Sh → Prop} (hg : ∀ P at_ u, (g P at_ u).1 = 1 → hq at_ ((g P at_ u).2.2.map Prod.snd)) : ∀ (l : List Nat) (at_ u : Nat), (hL F g P dep l at_ u).1 = 1 → ∃ A, (hL F g P dep l at_ u).2.2.map Prod.snd = (at_, dep, A.length) :: A ∧ hq (at_ + 1) A
  | [], at_, u, e => by unfold hL at e; cases e
  | c :: cs, at_, u, e => by
    unfold hL at e ⊢
    by_cases q : F ≤ u
    · rw [if_pos q] at e
      cases e
    · rw [if_neg q] at e ⊢
      have h1 := hg (mkP P c) (at_ + 1) (u + 1)
      generalize g (mkP P c) (at_ + 1) (u + 1) = r at *
      by_cases q1 : r.1 = 1
      · rw [if_pos q1]
        exact ⟨r.2.2.map Prod.snd, by rw [List.map_cons, List.length_map], h1 q1⟩
      · rw [if_neg q1] at e ⊢
        by_cases q2 : r.1 = 2
        · rw [if_pos q2] at e
          cases e
        · rw [if_neg q2] at e ⊢
          exact sh_hL hg cs at_ r.2.1 e
theorem sh_hH {N F : Nat} {K : Kd} : ∀ (k dep : Nat) (P : Ps) (at_ u : Nat), (hH N K F k dep P at_ u).1 = 1 → shH k dep at_ ((hH N K F k dep P at_ u).2.2.map Prod.snd)
  | 0, dep, P, at_, u, e => by unfold hH at e; cases e
  | k + 1, dep, P, at_, u, e => by
    unfold hH at e ⊢
    obtain ⟨A, h1, m, h2⟩ := sh_hL (hq := fun at_ A => ∃ m, shA (shH k (dep + 2)) at_ (dep + 1) m at_ A) (fun Q at_ u z => ⟨_, sh_aL (fun P at_ u z => sh_hH k (dep + 2) P at_ u z) _ at_ u z⟩) _ at_ u e
    exact ⟨A, m, h1, h2⟩
/-! the moves of a tree -/
theorem ok_aL {N F par dep : Nat} {K : Kd} {h : Ps → Nat → Nat → Rs} {Q : Ps} (h7 : N ≤ 7) (h5 : 5 ≤ N) (hh : ∀ P at_ u, P.2.2 < 2 → ∀ e ∈ (h P at_ u).2.2, okF N e.1) : ∀ (l : List Nat) (at_ u : Nat), (∀ a ∈ l, okF N a) → ∀ e ∈ (aL F h Q par dep l at_ u).2.2, okF N e.1
  | [], at_, u, _, e, he => by unfold aL at he; simp at he
  | a :: as, at_, u, hl, e, he => by
    unfold aL at he
    have hm : (mkP Q a).2.2 < 2 := by rw [mvN]; omega
    by_cases q : F ≤ u
    · rw [if_pos q] at he; simp at he
    · rw [if_neg q] at he
      have h1 := hh (mkP Q a) (at_ + 1) (u + 1) hm
      generalize h (mkP Q a) (at_ + 1) (u + 1) = r at *
      by_cases q1 : r.1 = 1
      · rw [if_pos q1] at he
        have h2 := ok_aL (K := K) (F := F) (par := par) (dep := dep) (Q := Q) h7 h5 hh as (at_ + 1 + r.2.2.length) r.2.1 (fun x hx => hl x (List.mem_cons_of_mem _ hx))
        generalize aL F h Q par dep as (at_ + 1 + r.2.2.length) r.2.1 = s at *
        by_cases q2 : s.1 = 1
        · rw [if_pos q2] at he
          rcases List.mem_cons.mp he with rfl | he
          · exact hl a List.mem_cons_self
          · rcases List.mem_append.mp he with he | he
            · exact h1 e he
            · exact h2 e he
        · rw [if_neg q2] at he; simp at he
      · rw [if_neg q1] at he; simp at he
theorem ok_hL {N F dep : Nat} {g : Ps → Nat → Nat → Rs} {P : Ps} (hg : ∀ P at_ u, P.2.2 < 2 → ∀ e ∈ (g P at_ u).2.2, okF N e.1) : ∀ (l : List Nat) (at_ u : Nat), (∀ a ∈ l, okF N a) → ∀ e ∈ (hL F g P dep l at_ u).2.2, okF N e.1
  | [], at_, u, _, e, he => by unfold hL at he; simp at he
  | c :: cs, at_, u, hl, e, he => by
    unfold hL at he
    have hm : (mkP P c).2.2 < 2 := by rw [mvN]; omega
    by_cases q : F ≤ u
    · rw [if_pos q] at he; simp at he
    · rw [if_neg q] at he
      have h1 := hg (mkP P c) (at_ + 1) (u + 1) hm
      generalize g (mkP P c) (at_ + 1) (u + 1) = r at *
      by_cases q1 : r.1 = 1
      · rw [if_pos q1] at he
        rcases List.mem_cons.mp he with rfl | he
        · exact hl c List.mem_cons_self
        · exact h1 e he
      · rw [if_neg q1] at he
        by_cases q2 : r.1 = 2
        · rw [if_pos q2] at he; simp at he
        · rw [if_neg q2] at he
          exact ok_hL hg cs at_ r.2.1 (fun x hx => hl x (List.mem_cons_of_mem _ hx)) e he
theorem ok_hH {N F : Nat} {K : Kd} (h7 : N ≤ 7) (h5 : 5 ≤ N) : ∀ (k dep : Nat) (P : Ps) (at_ u : Nat), P.2.2 < 2 → ∀ e ∈ (hH N K F k dep P at_ u).2.2, okF N e.1
  | 0, dep, P, at_, u, _, e, he => by unfold hH at he; simp at he
  | k + 1, dep, P, at_, u, hm, e, he => by
    unfold hH at he
    exact ok_hL (fun Q at_ u hQ => ok_aL (K := K) h7 h5 (fun P at_ u hP => ok_hH h7 h5 k (dep + 2) P at_ u hP) _ at_ u (fun a ha => okF_tri h7 h5 hQ (mov_tri ha))) _ at_ u (fun a ha => okF_tri h7 h5 hm (mov_tri (List.mem_filter.mp ha).1)) e he
theorem huT_ok {N F : Nat} {K : Kd} {P : Ps} (h7 : N ≤ 7) (h5 : 5 ≤ N) (hm : P.2.2 < 2) : ∀ (m q u : Nat), (huT (huR N K F P m q u) = [] ∨ ∃ k, k ≤ q + m ∧ shH k 0 0 ((huT (huR N K F P m q u)).map Prod.snd)) ∧ (∀ e ∈ huT (huR N K F P m q u), okF N e.1) ∧ (huT (huR N K F P m q u)).length ≤ 500
  | 0, q, u => ⟨Or.inl rfl, fun e he => by unfold huR huT at he; simp at he, by unfold huR huT; simp⟩
  | m + 1, q, u => by
    have h1 := sh_hH (N := N) (F := F) (K := K) q 0 P 0 u
    have h2 := ok_hH (N := N) (F := F) (K := K) h7 h5 q 0 P 0 u hm
    unfold huR
    by_cases q1 : (hH N K F q 0 P 0 u).1 = 1
    · rw [if_pos q1]
      unfold huT
      by_cases q5 : (hH N K F q 0 P 0 u).2.2.length ≤ 500
      · rw [if_pos ⟨rfl, q5⟩]
        exact ⟨Or.inr ⟨q, by omega, h1 q1⟩, h2, q5⟩
      · rw [if_neg (fun z => q5 z.2)]
        exact ⟨Or.inl rfl, fun e he => by simp at he, by simp⟩
    · rw [if_neg q1]
      by_cases q2 : (hH N K F q 0 P 0 u).1 = 2
      · rw [if_pos q2]
        refine ⟨Or.inl rfl, fun e he => ?_, ?_⟩
        · unfold huT at he; simp at he
        · unfold huT; simp
      · rw [if_neg q2]
        obtain ⟨a, b, c⟩ := huT_ok (N := N) (F := F) (K := K) (P := P) h7 h5 hm m (q + 1) (hH N K F q 0 P 0 u).2.1
        refine ⟨?_, b, c⟩
        rcases a with a | ⟨k, hk, a⟩
        · exact Or.inl a
        · exact Or.inr ⟨k, by omega, a⟩
/-! depths, insides, parents -/
theorem shA_dep {h : Nat → List Sh → Prop} {par dep d2 : Nat} (hd : dep ≤ d2) (hh : ∀ at_ M, h at_ M → ∀ e ∈ M, d2 ≤ e.2.1) : ∀ (m at_ : Nat) (M : List Sh), shA h par dep m at_ M → ∀ e ∈ M, dep ≤ e.2.1
  | 0, at_, M, hM, e, he => by rw [show M = [] from hM] at he; simp at he
  | m + 1, at_, M, ⟨S, R, h1, h2, h3⟩, e, he => by
    rw [h1] at he
    rcases List.mem_cons.mp he with rfl | he
    · exact Nat.le_refl _
    · rcases List.mem_append.mp he with he | he
      · exact Nat.le_trans hd (hh _ S h2 e he)
      · exact shA_dep hd hh m _ R h3 e he
theorem shH_dep : ∀ (k dep at_ : Nat) (M : List Sh), shH k dep at_ M → ∀ e ∈ M, dep ≤ e.2.1
  | 0, _, _, _, h, _, _ => h.elim
  | k + 1, dep, at_, M, ⟨A, m, h1, h2⟩, e, he => by
    rw [h1] at he
    rcases List.mem_cons.mp he with rfl | he
    · exact Nat.le_refl _
    · have := shA_dep (d2 := dep + 2) (by omega) (fun at_ M h => shH_dep k (dep + 2) at_ M h) m (at_ + 1) A h2 e he
      omega
/-- how many are in it: all deeper ones right behind -/
def WdP (M : List Sh) : Prop := ∀ i e, M[i]? = some e → i + e.2.2 + 1 ≤ M.length ∧ (∀ j x, i < j → j ≤ i + e.2.2 → M[j]? = some x → e.2.1 < x.2.1) ∧ ∀ x, M[i + e.2.2 + 1]? = some x → x.2.1 ≤ e.2.1
theorem WdP.nil : WdP [] := fun i e h => by simp at h
theorem WdP.block {S R : List Sh} {par dep : Nat} (hS : WdP S) (hR : WdP R) (dS : ∀ e ∈ S, dep < e.2.1) (dR : ∀ x, R[0]? = some x → x.2.1 = dep) : WdP ((par, dep, S.length) :: (S ++ R)) := by
  intro i e hi
  cases i with
  | zero =>
    rw [List.getElem?_cons_zero] at hi
    cases hi
    refine ⟨?_, ?_, ?_⟩
    · show 0 + S.length + 1 ≤ _
      rw [List.length_cons, List.length_append]
      omega
    · intro j x h1 h2 hx
      obtain ⟨j, rfl⟩ : ∃ q, j = q + 1 := ⟨j - 1, by omega⟩
      have h2' : j + 1 ≤ 0 + S.length := h2
      rw [List.getElem?_cons_succ, List.getElem?_append_left (by omega)] at hx
      exact dS x (List.mem_of_getElem? hx)
    · intro x hx
      have hx' : ((par, dep, S.length) :: (S ++ R))[0 + S.length + 1]? = some x := hx
      rw [Nat.zero_add, List.getElem?_cons_succ, List.getElem?_append_right (Nat.le_refl _), Nat.sub_self] at hx'
      exact Nat.le_of_eq (dR x hx')
  | succ i =>
    rw [List.getElem?_cons_succ] at hi
    by_cases hq : i < S.length
    · rw [List.getElem?_append_left hq] at hi
      obtain ⟨a1, a2, a3⟩ := hS i e hi
      refine ⟨?_, ?_, ?_⟩
      · rw [List.length_cons, List.length_append]
        omega
      · intro j x h1 h2 hx
        obtain ⟨j, rfl⟩ : ∃ q, j = q + 1 := ⟨j - 1, by omega⟩
        rw [List.getElem?_cons_succ, List.getElem?_append_left (by omega)] at hx
        exact a2 j x (by omega) (by omega) hx
      · intro x hx
        rw [show i + 1 + e.2.2 + 1 = (i + e.2.2 + 1) + 1 by omega, List.getElem?_cons_succ] at hx
        by_cases hq2 : i + e.2.2 + 1 < S.length
        · rw [List.getElem?_append_left hq2] at hx
          exact a3 x hx
        · rw [List.getElem?_append_right (by omega), show i + e.2.2 + 1 - S.length = 0 by omega] at hx
          have := dR x hx
          have := dS e (List.mem_of_getElem? hi)
          omega
    · rw [List.getElem?_append_right (by omega)] at hi
      obtain ⟨a1, a2, a3⟩ := hR (i - S.length) e hi
      refine ⟨?_, ?_, ?_⟩
      · rw [List.length_cons, List.length_append]
        omega
      · intro j x h1 h2 hx
        obtain ⟨j, rfl⟩ : ∃ q, j = q + 1 := ⟨j - 1, by omega⟩
        rw [List.getElem?_cons_succ, List.getElem?_append_right (by omega)] at hx
        exact a2 (j - S.length) x (by omega) (by omega) hx
      · intro x hx
        rw [show i + 1 + e.2.2 + 1 = (i + e.2.2 + 1) + 1 by omega, List.getElem?_cons_succ, List.getElem?_append_right (by omega), show i + e.2.2 + 1 - S.length = (i - S.length) + e.2.2 + 1 by omega] at hx
        exact a3 x hx
theorem shA_fst {h : Nat → List Sh → Prop} {par dep : Nat} : ∀ (m at_ : Nat) (M : List Sh), shA h par dep m at_ M → ∀ x, M[0]? = some x → x.2.1 = dep ∧ x.1 = par
  | 0, at_, M, hM, x, hx => by rw [show M = [] from hM] at hx; simp at hx
  | m + 1, at_, M, ⟨S, R, h1, h2, h3⟩, x, hx => by
    rw [h1, List.getElem?_cons_zero] at hx
    cases hx
    exact ⟨rfl, rfl⟩
theorem shA_wd {h : Nat → List Sh → Prop} {par dep : Nat} (hh : ∀ at_ M, h at_ M → WdP M ∧ ∀ e ∈ M, dep < e.2.1) : ∀ (m at_ : Nat) (M : List Sh), shA h par dep m at_ M → WdP M
  | 0, at_, M, hM => by rw [show M = [] from hM]; exact WdP.nil
  | m + 1, at_, M, ⟨S, R, h1, h2, h3⟩ => by
    rw [h1]
    obtain ⟨a, b⟩ := hh _ S h2
    exact WdP.block a (shA_wd hh m _ R h3) b (fun x hx => (shA_fst m _ R h3 x hx).1)
theorem shH_wd : ∀ (k dep at_ : Nat) (M : List Sh), shH k dep at_ M → WdP M
  | 0, _, _, _, h => h.elim
  | k + 1, dep, at_, M, ⟨A, m, h1, h2⟩ => by
    have hA := shA_wd (fun at_ M h => ⟨shH_wd k (dep + 2) at_ M h, fun e he => by have := shH_dep k (dep + 2) at_ M h e he; omega⟩) m (at_ + 1) A h2
    have hd := shA_dep (d2 := dep + 2) (by omega) (fun at_ M h => shH_dep k (dep + 2) at_ M h) m (at_ + 1) A h2
    have := WdP.block (par := at_) (dep := dep) hA WdP.nil (fun e he => by have := hd e he; omega) (fun x hx => by simp at hx)
    rw [List.append_nil] at this
    rw [h1]
    exact this
/-- parents: outside (told by x, at the depth base), or an earlier one, a step less deep -/
def PqP (at_ base x : Nat) (M : List Sh) : Prop := ∀ i e, M[i]? = some e → (e.1 ≤ at_ ∧ e.1 = x ∧ e.2.1 = base) ∨ (at_ < e.1 ∧ ∃ y, e.1 - 1 - at_ < i ∧ M[e.1 - 1 - at_]? = some y ∧ e.2.1 = y.2.1 + 1)
theorem shA_pq {h : Nat → List Sh → Prop} {par dep : Nat} (hh : ∀ at_ M, h at_ M → PqP at_ (dep + 1) at_ M) : ∀ (m at_ : Nat) (M : List Sh), par ≤ at_ → shA h par dep m at_ M → PqP at_ dep par M
  | 0, at_, M, _, hM => by rw [show M = [] from hM]; intro i e hi; simp at hi
  | m + 1, at_, M, hp, ⟨S, R, h1, h2, h3⟩ => by
    rw [h1]
    have hS := hh _ S h2
    have hR := shA_pq hh m (at_ + 1 + S.length) R (by omega) h3
    intro i e hi
    cases i with
    | zero =>
      rw [List.getElem?_cons_zero] at hi
      cases hi
      exact Or.inl ⟨hp, rfl, rfl⟩
    | succ i =>
      rw [List.getElem?_cons_succ] at hi
      by_cases hq : i < S.length
      · rw [List.getElem?_append_left hq] at hi
        rcases hS i e hi with ⟨a1, a2, a3⟩ | ⟨a1, y, a2, a3, a4⟩
        · refine Or.inr ⟨by omega, (par, dep, S.length), by omega, ?_, a3⟩
          rw [show e.1 - 1 - at_ = 0 by omega, List.getElem?_cons_zero]
        · refine Or.inr ⟨by omega, y, by omega, ?_, a4⟩
          rw [show e.1 - 1 - at_ = (e.1 - 1 - (at_ + 1)) + 1 by omega, List.getElem?_cons_succ, List.getElem?_append_left (by omega)]
          exact a3
      · rw [List.getElem?_append_right (by omega)] at hi
        rcases hR (i - S.length) e hi with ⟨a1, a2, a3⟩ | ⟨a1, y, a2, a3, a4⟩
        · exact Or.inl ⟨by omega, a2, a3⟩
        · refine Or.inr ⟨by omega, y, by omega, ?_, a4⟩
          rw [show e.1 - 1 - at_ = (e.1 - 1 - (at_ + 1 + S.length) + S.length) + 1 by omega, List.getElem?_cons_succ, List.getElem?_append_right (by omega), Nat.add_sub_cancel]
          exact a3
theorem shH_pq : ∀ (k dep at_ : Nat) (M : List Sh), shH k dep at_ M → PqP at_ dep at_ M
  | 0, _, _, _, h => h.elim
  | k + 1, dep, at_, M, ⟨A, m, h1, h2⟩ => by
    have hA := shA_pq (fun at_ M h => shH_pq k (dep + 2) at_ M h) m (at_ + 1) A (Nat.le_refl _) h2
    rw [h1]
    intro i e hi
    cases i with
    | zero =>
      rw [List.getElem?_cons_zero] at hi
      cases hi
      exact Or.inl ⟨Nat.le_refl _, rfl, rfl⟩
    | succ i =>
      rw [List.getElem?_cons_succ] at hi
      rcases hA i e hi with ⟨a1, a2, a3⟩ | ⟨a1, y, a2, a3, a4⟩
      · refine Or.inr ⟨by omega, (at_, dep, A.length), by omega, ?_, a3⟩
        rw [show e.1 - 1 - at_ = 0 by omega, List.getElem?_cons_zero]
      · refine Or.inr ⟨by omega, y, by omega, ?_, a4⟩
        rw [show e.1 - 1 - at_ = (e.1 - 1 - (at_ + 1)) + 1 by omega, List.getElem?_cons_succ]
        exact a3
/-! parents told: how many have one -/
def cntE (x : Nat) : List Sh → Nat
  | [] => 0
  | e :: M => (if e.1 = x then 1 else 0) + cntE x M
theorem cntE_app (x : Nat) : ∀ (L M : List Sh), cntE x (L ++ M) = cntE x L + cntE x M
  | [], M => by simp [cntE]
  | e :: L, M => by
    rw [List.cons_append]
    show (if e.1 = x then 1 else 0) + cntE x (L ++ M) = (if e.1 = x then 1 else 0) + cntE x L + cntE x M
    rw [cntE_app x L M]
    omega
theorem cntE_0 {x : Nat} : ∀ (M : List Sh), (∀ e ∈ M, e.1 ≠ x) → cntE x M = 0
  | [], _ => rfl
  | e :: M, h => by
    unfold cntE
    rw [if_neg (h e List.mem_cons_self), cntE_0 M (fun y hy => h y (List.mem_cons_of_mem _ hy))]
theorem shA_par {h : Nat → List Sh → Prop} {par dep : Nat} (hh : ∀ at_ M, h at_ M → ∀ e ∈ M, at_ ≤ e.1) : ∀ (m at_ : Nat) (M : List Sh), shA h par dep m at_ M → ∀ e ∈ M, e.1 = par ∨ at_ + 1 ≤ e.1
  | 0, at_, M, hM, e, he => by rw [show M = [] from hM] at he; simp at he
  | m + 1, at_, M, ⟨S, R, h1, h2, h3⟩, e, he => by
    rw [h1] at he
    rcases List.mem_cons.mp he with rfl | he
    · exact Or.inl rfl
    · rcases List.mem_append.mp he with he | he
      · exact Or.inr (hh _ S h2 e he)
      · rcases shA_par hh m _ R h3 e he with a | a
        · exact Or.inl a
        · exact Or.inr (by omega)
theorem shH_par : ∀ (k dep at_ : Nat) (M : List Sh), shH k dep at_ M → ∀ e ∈ M, at_ ≤ e.1
  | 0, _, _, _, h, _, _ => h.elim
  | k + 1, dep, at_, M, ⟨A, m, h1, h2⟩, e, he => by
    rw [h1] at he
    rcases List.mem_cons.mp he with rfl | he
    · exact Nat.le_refl _
    · rcases shA_par (fun at_ M h => shH_par k (dep + 2) at_ M h) m (at_ + 1) A h2 e he with a | a <;> omega
theorem shA_cnt {h : Nat → List Sh → Prop} {par dep : Nat} (hh : ∀ at_ M, h at_ M → ∀ e ∈ M, at_ ≤ e.1) : ∀ (m at_ : Nat) (M : List Sh), par ≤ at_ → shA h par dep m at_ M → cntE par M = m
  | 0, at_, M, _, hM => by rw [show M = [] from hM]; rfl
  | m + 1, at_, M, hp, ⟨S, R, h1, h2, h3⟩ => by
    rw [h1]
    unfold cntE
    rw [if_pos rfl, cntE_app, cntE_0 S (fun e he => by have := hh _ S h2 e he; omega), shA_cnt hh m _ R (by omega) h3]
    omega
