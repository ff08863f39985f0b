/-! ===== no move is listed twice; where a move is listed ===== -/
theorem go_cf {N f c : Nat} {K : Kd} {P : Ps} (h7 : N ≤ 7) (h5 : 5 ≤ N) (hm : P.2.2 < 2) (hf : f < N * N) (hc : c ∈ gosAt N K P f) : cf c = f := by
  have hNN := NN_le h7
  unfold gosAt at hc
  split at hc
  · rename_i hq
    obtain ⟨t, ht, hc⟩ := List.mem_flatMap.mp hc
    have htN := reach_lt h7 h5 (by omega) hf t ht
    unfold goTo at hc
    split at hc
    · simp at hc
    · rcases List.mem_append.mp hc with hc | hc
      · split at hc
        · rw [List.mem_singleton.mp hc]
          exact (goC_ok (by omega) (by omega) (by omega)).2.1
        · simp at hc
      · split at hc
        · rw [List.mem_singleton.mp hc]
          exact (goC_ok (by omega) (by omega) (by omega)).2.1
        · simp at hc
  · simp at hc
theorem goTo_nd {N i s f t : Nat} {K : Kd} {bo : Nat → Nat} : (goTo N K bo i s f t).Nodup ∧ ∀ c ∈ goTo N K bo i s f t, ∃ r, r < 2 ∧ c = goC f t r := by
  unfold goTo
  split
  · exact ⟨List.nodup_nil, fun c h => by simp at h⟩
  · by_cases a : stay N K i s t = true <;> by_cases b : rais N K i s f t = true
    · rw [if_pos a, if_pos b]
      refine ⟨?_, fun c h => ?_⟩
      · show List.Nodup [goC f t 0, goC f t 1]
        rw [List.nodup_cons]
        refine ⟨fun z => ?_, List.nodup_cons.mpr ⟨fun z => by simp at z, List.nodup_nil⟩⟩
        have := List.mem_singleton.mp z
        unfold goC at this
        omega
      · rcases List.mem_append.mp h with h | h
        · exact ⟨0, by omega, List.mem_singleton.mp h⟩
        · exact ⟨1, by omega, List.mem_singleton.mp h⟩
    · rw [if_pos a, if_neg b, List.append_nil]
      exact ⟨List.nodup_cons.mpr ⟨fun z => by simp at z, List.nodup_nil⟩, fun c h => ⟨0, by omega, List.mem_singleton.mp h⟩⟩
    · rw [if_neg a, if_pos b, List.nil_append]
      exact ⟨List.nodup_cons.mpr ⟨fun z => by simp at z, List.nodup_nil⟩, fun c h => ⟨1, by omega, List.mem_singleton.mp h⟩⟩
    · rw [if_neg a, if_neg b]
      exact ⟨List.nodup_nil, fun c h => by simp at h⟩
theorem tri_nodup {N : Nat} {K : Kd} {P : Ps} (h7 : N ≤ 7) (h5 : 5 ≤ N) (hm : P.2.2 < 2) : (triL N K P).Nodup := by
  have hNN := NN_le h7
  have hset : ∀ k, 1 ≤ k → k < 8 → ∀ c ∈ setsOf N K P k, ∃ f, f < N * N ∧ c = seC k f := by
    intro k h1 h8 c hc
    unfold setsOf at hc
    split at hc
    · simp at hc
    · obtain ⟨f, hf, hc⟩ := List.mem_flatMap.mp hc
      rw [List.mem_range] at hf
      unfold setAt at hc
      split at hc
      · exact ⟨f, hf, List.mem_singleton.mp hc⟩
      · simp at hc
  unfold triL
  show List.Pairwise _ _
  rw [List.pairwise_append]
  refine ⟨?_, ?_, ?_⟩
  · rw [List.pairwise_flatMap]
    refine ⟨fun f hf => ?_, ?_⟩
    · rw [List.mem_range] at hf
      unfold gosAt
      split
      · rename_i hq
        rw [List.pairwise_flatMap]
        refine ⟨fun t _ => goTo_nd.1, ?_⟩
        refine List.Pairwise.imp_of_mem ?_ (reach_nodup (N := N) (K := K) (bo := P.1) (i := P.1 f) (f := f))
        intro t t' ht ht' hne c hc c' hc' e
        have l1 := reach_lt h7 h5 (show sd (P.1 f) < 2 by omega) hf t ht
        have l2 := reach_lt h7 h5 (show sd (P.1 f) < 2 by omega) hf t' ht'
        obtain ⟨r, hr, e1⟩ := goTo_nd.2 c hc
        obtain ⟨r', hr', e2⟩ := goTo_nd.2 c' hc'
        apply hne
        rw [← (goC_ok (f := f) (t := t) (r := r) (by omega) (by omega) hr).1, ← (goC_ok (f := f) (t := t') (r := r') (by omega) (by omega) hr').1, ← e1, ← e2, e]
      · exact List.Pairwise.nil
    · refine List.Pairwise.imp_of_mem ?_ (List.nodup_range (n := N * N))
      intro f f' hf hf' hne c hc c' hc' e
      rw [List.mem_range] at hf hf'
      apply hne
      rw [← go_cf h7 h5 hm hf hc, ← go_cf h7 h5 hm hf' hc', e]
  · rw [List.pairwise_flatMap]
    refine ⟨fun k hk => ?_, ?_⟩
    · rw [List.mem_range'_1] at hk
      unfold setsOf
      split
      · exact List.Pairwise.nil
      · rw [List.pairwise_flatMap]
        refine ⟨fun f _ => ?_, ?_⟩
        · unfold setAt
          split
          · exact List.pairwise_singleton _ _
          · exact List.Pairwise.nil
        · refine List.Pairwise.imp_of_mem ?_ (List.nodup_range (n := N * N))
          intro f f' hf hf' hne c hc c' hc' e
          rw [List.mem_range] at hf hf'
          unfold setAt at hc hc'
          split at hc
          · split at hc'
            · rw [List.mem_singleton.mp hc, List.mem_singleton.mp hc'] at e
              unfold seC at e
              omega
            · simp at hc'
          · simp at hc
    · refine List.Pairwise.imp_of_mem ?_ (List.nodup_range' (s := 1) (n := 7))
      intro k k' hk hk' hne c hc c' hc' e
      rw [List.mem_range'_1] at hk hk'
      obtain ⟨f, hf, e1⟩ := hset k (by omega) (by omega) c hc
      obtain ⟨f', hf', e2⟩ := hset k' (by omega) (by omega) c' hc'
      rw [e1, e2] at e
      unfold seC at e
      omega
  · intro c hc c' hc' e
    obtain ⟨f, hf, hc⟩ := List.mem_flatMap.mp hc
    obtain ⟨k, hk, hc'⟩ := List.mem_flatMap.mp hc'
    rw [List.mem_range] at hf
    rw [List.mem_range'_1] at hk
    obtain ⟨f', hf', e2⟩ := hset k (by omega) (by omega) c' hc'
    have h1 := go_cf h7 h5 hm hf hc
    rw [e, e2, (seC_ok (by omega) (by omega)).2.1] at h1
    omega
theorem mov_nodup {N : Nat} {K : Kd} {P : Ps} (h7 : N ≤ 7) (h5 : 5 ≤ N) (hm : P.2.2 < 2) : (movL N K P).Nodup := (tri_nodup h7 h5 hm).sublist List.filter_sublist
theorem nd_at {l : List Nat} (h : l.Nodup) {i j c : Nat} (hi : l[i]? = some c) (hj : l[j]? = some c) : i = j := by
  obtain ⟨a, a1⟩ := List.getElem?_eq_some_iff.mp hi
  obtain ⟨b, b1⟩ := List.getElem?_eq_some_iff.mp hj
  have hp := List.pairwise_iff_getElem.mp h
  rcases Nat.lt_trichotomy i j with q | q | q
  · exact absurd (a1.trans b1.symm) (hp i j a b q)
  · exact q
  · exact absurd (b1.trans a1.symm) (hp j i b a q)
/-- a move is told by its four numbers -/
theorem enc_inj {N c d : Nat} (h7 : N ≤ 7) (hc : okF N c) (hd : okF N d) (h1 : mF c = mF d) (h2 : mT c = mT d) (h3 : mR c = mR d) (h4 : mK c = mK d) : c = d := by
  have hNN := NN_le h7
  obtain ⟨c1, c2⟩ := hc
  obtain ⟨d1, d2⟩ := hd
  have rc := cr_lt c
  have rd := cr_lt d
  unfold mT at h2
  unfold mR at h3
  have e2 : ct c = ct d := (nI_inj (by omega) (by omega)).mp h2
  have e3 : cr c = cr d := (nI_inj (by omega) (by omega)).mp h3
  have neg : ∀ x : Nat, x < 64 → (-1 : Int32) ≠ nI x := fun x hx e => by
    have : nI x < 0 := by rw [← e]; decide
    exact nI_pos (by omega) this
  rcases c2 with ⟨a1, a2, a3, a4⟩ | ⟨a1, a2, a3⟩ <;> rcases d2 with ⟨b1, b2, b3, b4⟩ | ⟨b1, b2, b3⟩
  · unfold mK at h4
    rw [if_pos a1, if_pos b1] at h4
    have e4 : ck c = ck d := (nI_inj (by omega) (by omega)).mp h4
    rw [a4, b4, e2, e4]
  · unfold mF at h1
    rw [if_pos a1, if_neg b1] at h1
    exact absurd h1 (neg _ (by omega))
  · unfold mF at h1
    rw [if_neg a1, if_pos b1] at h1
    exact absurd h1.symm (neg _ (by omega))
  · unfold mF at h1
    rw [if_neg a1, if_neg b1] at h1
    have e1 : cf c = cf d := (nI_inj (by omega) (by omega)).mp h1
    rw [a3, b3, e1, e2, e3]
/-- the place of a move in a list, from i on, or -1 -/
def ixV : List Nat → Nat → Nat → Int32
  | [], _, _ => -1
  | a :: l, i, c => if a = c then nI i else ixV l (i + 1) c
theorem ixV_in : ∀ (l : List Nat) (i j c : Nat), l.Nodup → l[j]? = some c → ixV l i c = nI (i + j)
  | [], i, j, c, _, h => by simp at h
  | a :: l, i, 0, c, _, h => by
    rw [List.getElem?_cons_zero] at h
    unfold ixV
    rw [if_pos (Option.some.inj h), Nat.add_zero]
  | a :: l, i, j + 1, c, hn, h => by
    rw [List.getElem?_cons_succ] at h
    obtain ⟨n1, n2⟩ := List.nodup_cons.mp hn
    unfold ixV
    rw [if_neg (fun e => n1 (by rw [e]; exact List.mem_of_getElem? h)), ixV_in l (i + 1) j c n2 h]
    congr 1
    omega
theorem ixV_out : ∀ (l : List Nat) (i c : Nat), c ∉ l → ixV l i c = -1
  | [], _, _, _ => rfl
  | a :: l, i, c, h => by
    unfold ixV
    rw [if_neg (fun e => h (by rw [e]; exact List.mem_cons_self)), ixV_out l (i + 1) c (fun z => h (List.mem_cons_of_mem _ z))]
theorem m_indexOf {N lv c : Nat} {K : Kd} {P : Ps} {w : Wd} (h7 : N ≤ 7) (h5 : 5 ≤ N) (hl : lv < 16) (hV : VP N K P) (hI : MIn lv (movL N K P) w) (hc : okF N c) : f_X10_indexOf (nI lv) (mF c) (mT c) (mR c) (mK c) w = some (ixV (movL N K P) 0 c, w) := by
  have hlen := mov_2000 (K := K) h7 h5 hV.mv
  have main : ∀ (D : List Nat) (i n : Nat), (movL N K P).drop i = D → i + D.length = (movL N K P).length → D.length < n → l_X10_indexOf_3 f_X10_indexOf_70 f_X10_indexOf_79 n (nI lv) (mF c) (mT c) (mR c) (mK c) (nI i) w = some (ixV D i c, w) := by
    intro D
    induction D with
    | nil =>
      intro i n hD hi hn
      obtain ⟨n, rfl⟩ : ∃ q, n = q + 1 := ⟨n - 1, by omega⟩
      rw [List.length_nil] at hi
      show b_X10_indexOf_3 (l_X10_indexOf_3 f_X10_indexOf_70 f_X10_indexOf_79 n) f_X10_indexOf_70 f_X10_indexOf_79 (nI lv) (mF c) (mT c) (mR c) (mK c) (nI i) w = _
      unfold b_X10_indexOf_3
      rw [inb_nI hl (by omega), if_pos rfl, nI_clamp (by omega), hI.1, if_pos (nI_le (by omega) (by omega))]
      rfl
    | cons a D ih =>
      intro i n hD hi hn
      rw [List.length_cons] at hi hn
      obtain ⟨n, rfl⟩ : ∃ q, n = q + 1 := ⟨n - 1, by omega⟩
      obtain ⟨hg, hD2⟩ := drop_c hD
      obtain ⟨t1, t2, t3, t4⟩ := hI.2 i a hg
      have ha : okF N a := okF_tri h7 h5 hV.mv (mov_tri (List.mem_of_getElem? hg))
      have hrec := ih (i + 1) n hD2 (by omega) (by omega)
      have e1 : l_X10_indexOf_3 f_X10_indexOf_70 f_X10_indexOf_79 (n + 1) (nI lv) (mF c) (mT c) (mR c) (mK c) (nI i) w = b_X10_indexOf_3 (l_X10_indexOf_3 f_X10_indexOf_70 f_X10_indexOf_79 n) f_X10_indexOf_70 f_X10_indexOf_79 (nI lv) (mF c) (mT c) (mR c) (mK c) (nI i) w := rfl
      rw [e1]
      unfold b_X10_indexOf_3 f_X10_indexOf_73 ixV
      rw [inb_nI hl (by omega), if_pos rfl, nI_clamp (show lv < 2 ^ 31 by omega), hI.1, if_neg (nI_ge (by omega) (by omega)), lt_e, n2000, inb_nI (show 2000 * lv + i < 32000 by omega) (by omega)]
      simp only [if_true]
      rw [nI_clamp (show 2000 * lv + i < 2 ^ 31 by omega), t1, t2, t3, t4, nI_1]
      by_cases e : a = c
      · subst e
        rw [if_pos rfl, if_pos rfl, if_pos rfl, if_pos rfl, if_pos rfl]
        rfl
      · rw [if_neg e, hrec]
        by_cases q1 : mF a = mF c
        · rw [if_pos q1]
          by_cases q2 : mT a = mT c
          · rw [if_pos q2]
            by_cases q3 : mR a = mR c
            · rw [if_pos q3]
              by_cases q4 : mK a = mK c
              · exact absurd (enc_inj h7 ha hc q1 q2 q3 q4) e
              · rw [if_neg q4]
            · rw [if_neg q3]
          · rw [if_neg q2]
        · rw [if_neg q1]
  exact main (movL N K P) 0 FU rfl (by omega) (FU_big (by omega))
