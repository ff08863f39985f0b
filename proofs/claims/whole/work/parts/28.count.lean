/-! ===== how many can be tried at most ===== -/
theorem len_fm {c : Nat} {g : Nat → List Nat} : ∀ (l : List Nat), (∀ x ∈ l, (g x).length ≤ c) → (l.flatMap g).length ≤ c * l.length
  | [], _ => by simp
  | a :: l, h => by
    rw [List.flatMap_cons, List.length_append, List.length_cons, Nat.mul_add, Nat.mul_one]
    have h1 := h a List.mem_cons_self
    have h2 := len_fm l (fun x hx => h x (List.mem_cons_of_mem _ hx))
    omega
theorem len_fm2 {g k : Nat → List Nat} : ∀ (l : List Nat), (∀ x ∈ l, (g x).length ≤ 2 * (k x).length) → (l.flatMap g).length ≤ 2 * (l.flatMap k).length
  | [], _ => by simp
  | a :: l, h => by
    rw [List.flatMap_cons, List.length_append, List.flatMap_cons, List.length_append]
    have h1 := h a List.mem_cons_self
    have h2 := len_fm2 l (fun x hx => h x (List.mem_cons_of_mem _ hx))
    omega
theorem ch_uniq {N d : Nat} {bo : Nat → Nat} (h1 : N ≤ 7) (h5 : 5 ≤ N) (hd : d < 12) {q q' : Nat} (hq : q < N * N) (hq' : q' < N * N) (hb : bo q ≠ 0) (hb' : bo q' ≠ 0) : ∀ (m m' t : Nat), chR N d bo m q t → chR N d bo m' q' t → q = q'
  | 0, 0, t, a, b => by
    have e1 := (nx_lt h1 h5 hd hq a).2
    have e2 := (nx_lt h1 h5 hd hq' b).2
    exact Option.some.inj (e1.symm.trans e2)
  | 0, m' + 1, t, a, b => by
    obtain ⟨x, c1, c2, c3⟩ := (ch_end m' q').mp b
    have e1 := (nx_lt h1 h5 hd hq a).2
    have e2 := (nx_lt h1 h5 hd (ch_in h1 h5 hd m' q' hq' c1) c3).2
    have : q = x := Option.some.inj (e1.symm.trans e2)
    exact absurd (this ▸ c2) hb
  | m + 1, 0, t, a, b => by
    obtain ⟨x, c1, c2, c3⟩ := (ch_end m q).mp a
    have e1 := (nx_lt h1 h5 hd hq' b).2
    have e2 := (nx_lt h1 h5 hd (ch_in h1 h5 hd m q hq c1) c3).2
    have : q' = x := Option.some.inj (e1.symm.trans e2)
    exact absurd (this ▸ c2) hb'
  | m + 1, m' + 1, t, a, b => by
    obtain ⟨x, c1, c2, c3⟩ := (ch_end m q).mp a
    obtain ⟨y, d1, d2, d3⟩ := (ch_end m' q').mp b
    have e1 := (nx_lt h1 h5 hd (ch_in h1 h5 hd m q hq c1) c3).2
    have e2 := (nx_lt h1 h5 hd (ch_in h1 h5 hd m' q' hq' d1) d3).2
    have : x = y := Option.some.inj (e1.symm.trans e2)
    subst this
    exact ch_uniq h1 h5 hd hq hq' hb hb' m m' x c1 d1
theorem fU_nodup : ∀ (l R : List Nat), R.Nodup → (l.foldl addU R).Nodup
  | [], _, h => h
  | a :: l, R, h => fU_nodup l (addU R a) (addU_nodup h)
theorem reach_nodup {N i f : Nat} {K : Kd} {bo : Nat → Nat} : (reachL N K bo i f).Nodup := by
  have h1 : ∀ (l R : List Nat), R.Nodup → (l.foldl (fun R b => addO R (stepO N K i f b)) R).Nodup := by
    intro l
    induction l with
    | nil => intro R h; exact h
    | cons a l ih =>
      intro R h
      rw [List.foldl_cons]
      apply ih
      cases stepO N K i f a with
      | none => exact h
      | some g => exact addU_nodup h
  have h2 : ∀ (l R : List Nat), R.Nodup → (l.foldl (fun R b => (rayO N (dirOf (sd i) b) bo 7 (runO N K i f b)).foldl addU R) R).Nodup := by
    intro l
    induction l with
    | nil => intro R h; exact h
    | cons a l ih =>
      intro R h
      rw [List.foldl_cons]
      exact ih _ (fU_nodup _ _ h)
  exact h2 _ _ (h1 _ _ List.nodup_nil)
/-- a bit by which a man on q comes to t -/
def byBit (N : Nat) (K : Kd) (bo : Nat → Nat) (q t b : Nat) : Bool := decide (stepO N K (bo q) q b = some t) || (decide (b < 8) && decide (t ∈ rayO N (dirOf (sd (bo q)) b) bo 7 (runO N K (bo q) q b)))
def bOf (N : Nat) (K : Kd) (bo : Nat → Nat) (q t : Nat) : Nat := ((List.range 10).find? (byBit N K bo q t)).getD 0
theorem bOf_ok {N q t : Nat} {K : Kd} {bo : Nat → Nat} (h : t ∈ reachL N K bo (bo q) q) : bOf N K bo q t < 10 ∧ ∃ m, chR N (dirOf (sd (bo q)) (bOf N K bo q t)) bo m q t := by
  have hex : ∃ b, b ∈ List.range 10 ∧ byBit N K bo q t b = true := by
    rcases mem_reach.mp h with ⟨b, h1, h2⟩ | ⟨b, h1, h2⟩
    · exact ⟨b, List.mem_range.mpr h1, by unfold byBit; simp [h2]⟩
    · exact ⟨b, List.mem_range.mpr (by omega), by unfold byBit; simp [h1, h2]⟩
  unfold bOf
  cases hf : (List.range 10).find? (byBit N K bo q t) with
  | none =>
    obtain ⟨b, h1, h2⟩ := hex
    exact absurd h2 (List.find?_eq_none.mp hf b h1)
  | some b =>
    have hb := List.find?_some hf
    have hm := List.mem_range.mp (List.mem_of_find?_eq_some hf)
    refine ⟨hm, ?_⟩
    show ∃ m, chR N (dirOf (sd (bo q)) b) bo m q t
    unfold byBit at hb
    rw [Bool.or_eq_true, Bool.and_eq_true, decide_eq_true_eq, decide_eq_true_eq, decide_eq_true_eq] at hb
    rcases hb with hb | ⟨_, hb⟩
    · unfold stepO at hb
      split at hb
      · exact ⟨0, hb⟩
      · cases hb
    · unfold runO at hb
      split at hb
      · obtain ⟨m, _, h2⟩ := (ray_ch 7 q).mp hb
        exact ⟨m, h2⟩
      · simp [rayO] at hb
def ownR (N : Nat) (K : Kd) (P : Ps) (q : Nat) : List Nat := if P.1 q ≠ 0 ∧ sd (P.1 q) = P.2.2 then (reachL N K P.1 (P.1 q) q).map (fun t => t * 10 + bOf N K P.1 q t) else []
theorem own_len {N : Nat} {K : Kd} {P : Ps} (h1 : N ≤ 7) (h5 : 5 ≤ N) (hm : P.2.2 < 2) : ((List.range (N * N)).flatMap (ownR N K P)).length ≤ N * N * 10 := by
  have mem : ∀ q, q < N * N → ∀ c, c ∈ ownR N K P q → (P.1 q ≠ 0 ∧ sd (P.1 q) = P.2.2) ∧ ∃ t, t ∈ reachL N K P.1 (P.1 q) q ∧ c = t * 10 + bOf N K P.1 q t ∧ t < N * N := by
    intro q hq c hc
    unfold ownR at hc
    split at hc
    · rename_i ho
      obtain ⟨t, h2, h3⟩ := List.mem_map.mp hc
      exact ⟨ho, t, h2, h3.symm, reach_lt h1 h5 (by omega) hq t h2⟩
    · simp at hc
  apply nodup_len
  · show List.Pairwise _ _
    rw [List.pairwise_flatMap]
    refine ⟨fun q hq => ?_, ?_⟩
    · rw [List.mem_range] at hq
      unfold ownR
      split
      · rw [List.pairwise_map]
        refine List.Pairwise.imp_of_mem ?_ (reach_nodup (N := N) (K := K) (bo := P.1) (i := P.1 q) (f := q))
        intro a b ha hb hab e
        have := (bOf_ok ha).1
        have := (bOf_ok hb).1
        omega
      · exact List.Pairwise.nil
    · refine List.Pairwise.imp_of_mem ?_ (List.nodup_range (n := N * N))
      intro q q' hq hq' hne c hc c' hc' e
      rw [List.mem_range] at hq hq'
      obtain ⟨o1, t, t1, t2, t3⟩ := mem q hq c hc
      obtain ⟨o2, t', u1, u2, u3⟩ := mem q' hq' c' hc'
      obtain ⟨b1, m, c1⟩ := bOf_ok t1
      obtain ⟨b2, m', c2⟩ := bOf_ok u1
      have et : t = t' := by omega
      have eb : bOf N K P.1 q t = bOf N K P.1 q' t' := by omega
      subst et
      rw [eb, o1.2] at c1
      rw [o2.2] at c2
      exact hne (ch_uniq h1 h5 (dirOf_lt hm b2) hq hq' o1.1 o2.1 m m' t c1 c2)
  · intro c hc
    obtain ⟨q, hq, hc⟩ := List.mem_flatMap.mp hc
    obtain ⟨_, t, t1, t2, t3⟩ := mem q (List.mem_range.mp hq) c hc
    have := (bOf_ok t1).1
    omega
theorem tri_len {N : Nat} {K : Kd} {P : Ps} (h1 : N ≤ 7) (h5 : 5 ≤ N) (hm : P.2.2 < 2) : (triL N K P).length ≤ 27 * (N * N) := by
  unfold triL
  rw [List.length_append]
  have a1 : ((List.range (N * N)).flatMap (gosAt N K P)).length ≤ 2 * ((List.range (N * N)).flatMap (ownR N K P)).length := by
    apply len_fm2
    intro q _
    unfold gosAt ownR
    split
    · rw [List.length_map]
      refine Nat.le_trans (len_fm _ (c := 2) (fun t _ => ?_)) (Nat.le_refl _)
      unfold goTo
      split
      · simp
      · rw [List.length_append]
        split <;> split <;> simp
    · simp
  have a2 := own_len (K := K) (P := P) h1 h5 hm
  have a3 : ((List.range' 1 7).flatMap (setsOf N K P)).length ≤ (N * N) * 7 := by
    refine Nat.le_trans (len_fm (c := N * N) _ (fun k _ => ?_)) (by simp)
    unfold setsOf
    split
    · simp
    · refine Nat.le_trans (len_fm (c := 1) _ (fun f _ => ?_)) (by simp)
      unfold setAt
      split <;> simp
  omega
theorem TL_ok {N : Nat} {K : Kd} (h1 : N ≤ 7) (h5 : 5 ≤ N) : TL N K := fun Q _ hm => by
  have := tri_len (K := K) (P := Q) h1 h5 hm
  have := NN_le h1
  omega
