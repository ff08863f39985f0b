/-! ===== the reference: mate, findMoves ===== -/
theorem rz_bound : ∀ i, i < 33 → 0 < i → rz i = 0 → i + 8 ≤ 32 := by decide
theorem tri_ok {N : Nat} {K : Kd} {P : Ps} (h1 : N ≤ 7) (h2 : 5 ≤ N) (hb : ∀ q, q < 49 → P.1 q ≤ 32) (hH : ∀ j, j < 16 → P.2.1 j + 1 < 1000) (hm : P.2.2 < 2) {c : Nat} (hc : c ∈ triL N K P) : okC N P c ∧ (cf c = 63 → P.1 (ct c) = 0 ∧ ck c < 8) ∧ (cf c ≠ 63 → P.1 (cf c) ≠ 0 ∧ sd (P.1 (cf c)) = P.2.2 ∧ ct c ∈ reachL N K P.1 (P.1 (cf c)) (cf c) ∧ ¬ (P.1 (ct c) ≠ 0 ∧ sd (P.1 (ct c)) = P.2.2) ∧ (cr c = 1 → rais N K (P.1 (cf c)) P.2.2 (cf c) (ct c) = true)) := by
  have hNN := NN_le h1
  unfold triL at hc
  rcases List.mem_append.mp hc with hc | hc
  · obtain ⟨f, hf, hc⟩ := List.mem_flatMap.mp hc
    rw [List.mem_range] at hf
    unfold gosAt at hc
    split at hc
    · rename_i hq
      obtain ⟨t, ht, hc⟩ := List.mem_flatMap.mp hc
      have hb0 : 0 < P.1 f := by omega
      have hbf := hb f (by omega)
      have htN := reach_lt h1 h2 (by omega) hf t ht
      unfold goTo at hc
      split at hc
      · simp at hc
      · rename_i hfree
        have hne : f ≠ t := fun e => hfree (e ▸ hq)
        have key : ∃ r, r < 2 ∧ c = goC f t r ∧ (r = 1 → rais N K (P.1 f) P.2.2 f t = true) := by
          rcases List.mem_append.mp hc with hc | hc
          · split at hc
            · exact ⟨0, by omega, by simpa using hc, fun e => by cases e⟩
            · simp at hc
          · split at hc
            · rename_i hr
              exact ⟨1, by omega, by simpa using hc, fun _ => hr⟩
            · simp at hc
        obtain ⟨r, hr, rfl, hra⟩ := key
        obtain ⟨c1, c2, c3, c4⟩ := goC_ok (f := f) (t := t) (r := r) (by omega) (by omega) hr
        have h63 : cf (goC f t r) ≠ 63 := by rw [c2]; omega
        refine ⟨⟨by rw [c1]; exact htN, fun e => absurd e h63, fun _ => ?_⟩, fun e => absurd e h63, fun _ => ?_⟩
        · rw [c1, c2, c3]
          refine ⟨hf, ?_, hne, fun _ => hH _ (by have := kn_lt (P.1 t); omega)⟩
          rcases (show r = 0 ∨ r = 1 by omega) with rfl | rfl
          · omega
          · have := hra rfl
            unfold rais at this
            simp only [Bool.and_eq_true, decide_eq_true_eq] at this
            exact rz_bound _ (by omega) hb0 this.1
        · rw [c1, c2, c3]
          exact ⟨hq.1, hq.2, ht, hfree, hra⟩
    · simp at hc
  · obtain ⟨k, hk, hc⟩ := List.mem_flatMap.mp hc
    rw [List.mem_range'_1] at hk
    unfold setsOf at hc
    split at hc
    · simp at hc
    · rename_i hh
      obtain ⟨f, hf, hc⟩ := List.mem_flatMap.mp hc
      rw [List.mem_range] at hf
      unfold setAt at hc
      split at hc
      · rename_i hq
        have e : c = seC k f := by simpa using hc
        subst e
        obtain ⟨c1, c2, c3, c4⟩ := seC_ok (k := k) (t := f) (by omega) (by omega)
        refine ⟨⟨by rw [c1]; exact hf, fun _ => by rw [c4]; exact ⟨by omega, by omega⟩, fun e => absurd c2 e⟩, fun _ => by rw [c1, c4]; exact ⟨hq.1, by omega⟩, fun e => absurd c2 e⟩
      · simp at hc
theorem TIn.up {lv l1 l2 : Nat} {T : List Nat} {w w' : Wd} (h : TIn lv T w) (hl : lv < l2) (hT : T.length ≤ 2000) (u : UpM l1 l2 w w') : TIn lv T w' := by
  refine ⟨by rw [(u.2.2.2.2.2.2.1 lv hl).2]; exact h.1, fun j c hj => ?_⟩
  have hjl : j < T.length := (List.getElem?_eq_some_iff.mp hj).1
  have hb : 2000 * lv + j < 2000 * l2 := by omega
  rw [u.2.2.2.2.2.2.2 _ hb 69 (by omega), u.2.2.2.2.2.2.2 _ hb 70 (by omega), u.2.2.2.2.2.2.2 _ hb 71 (by omega), u.2.2.2.2.2.2.2 _ hb 72 (by omega)]
  exact h.2 j c hj
theorem n2000 (lv g : Nat) : (2000 : Int32) * nI lv + nI g = nI (2000 * lv + g) := by
  rw [show (2000 : Int32) = nI 2000 from rfl, pk_mul, nI_add]
theorem n2000z (lv : Nat) : (2000 : Int32) * nI lv = nI (2000 * lv + 0) := by
  rw [show (2000 : Int32) = nI 2000 from rfl, pk_mul]; rfl
def safe (N : Nat) (K : Kd) (P : Ps) (c : Nat) : Bool := !chk N K (mkP P c).1 P.2.2
def anyM (N : Nat) (K : Kd) (P : Ps) : Bool := (triL N K P).any (safe N K P)
def mate (N : Nat) (K : Kd) (P : Ps) : Bool := chk N K P.1 P.2.2 && !anyM N K P
def lawf (N : Nat) (K : Kd) (P : Ps) (c : Nat) : Bool := safe N K P c && (decide (cf c ≠ 63) || (decide (K.2.2 (ck c) / 2 % 2 = 0) || !mate N K (mkP P c)))
def movL (N : Nat) (K : Kd) (P : Ps) : List Nat := (triL N K P).filter (lawf N K P)
/-- the lists of tries are short enough -/
def TL (N : Nat) (K : Kd) : Prop := ∀ Q : Ps, (∀ q, q < 49 → Q.1 q ≤ 32) → Q.2.2 < 2 → (triL N K Q).length ≤ 2000
/-- one try is made and asked for check -/
theorem m_try1 {N lv j c : Nat} {K : Kd} {P : Ps} {T : List Nat} {w : Wd} (hl : lv + 1 < 16) (hK : MK N K w) (hP : MP N lv P w) (hT : TIn lv T w) (hj : T[j]? = some c) (hc : okC N P c) :
    ∃ u, UpM lv 16 w u ∧ MP N (lv + 1) (mkP P c) u ∧ f_X10_make (nI lv) (w.1 69 (2000 * lv + j)) (w.1 70 (2000 * lv + j)) (w.1 71 (2000 * lv + j)) (w.1 72 (2000 * lv + j)) w = some ((), u) ∧ ∃ u', SameM u u' ∧ f_X10_inCheck (nI (lv + 1)) (u.1 62 lv) u = some (b2i (chk N K (mkP P c).1 P.2.2), u') := by
  obtain ⟨t1, t2, t3, t4⟩ := hT.2 j c hj
  rw [t1, t2, t3, t4]
  obtain ⟨u, a1, a2, a3⟩ := m_make hl hK.2.1 hP hc
  obtain ⟨u', b1, b2⟩ := m_inCheck (lv := lv + 1) (s := P.2.2) hP.2.2.2.2 (hK.up a2) (a3.b hK.2.1)
  refine ⟨u, a2, a3, a1, u', b1, ?_⟩
  rw [a2.2.2.2.2.2.1 lv (by omega), hP.2.2.2.1]
  exact b2
theorem m_hasAny {N lv : Nat} {K : Kd} {P : Ps} {w : Wd} (hl : lv + 1 < 16) (hK : MK N K w) (hM : MM K w) (hP : MP N lv P w) (hH : ∀ j, j < 16 → P.2.1 j + 1 < 1000) (hTL : TL N K) :
    ∃ w', f_X10_hasAny (nI lv) w = some (b2i (anyM N K P), w') ∧ UpM lv lv w w' := by
  have hlen := hTL P (fun q hq => (hP.2.1 q hq).2) hP.2.2.2.2
  obtain ⟨w1, a1, a2, a3⟩ := m_findTries hK hM hP hlen
  have hK1 := hK.up a2
  have hP1 := hP.up (Nat.le_of_lt_succ hP.1) a2
  have main : ∀ (m j n : Nat) (u : Wd), j + m = (triL N K P).length → m < n → UpM lv 16 w1 u → ∃ w', l_X10_hasAny_11 f_X10_hasAny_72 f_X10_hasAny_80 n (nI lv) (nI (2000 * lv + j)) u = some (b2i (((triL N K P).drop j).any (safe N K P)), w') ∧ UpM lv 16 w1 w' := by
    intro m
    induction m with
    | zero =>
      intro j n u hj hn hu
      obtain ⟨n, rfl⟩ : ∃ k, n = k + 1 := ⟨n - 1, by omega⟩
      have e : j = (triL N K P).length := by omega
      have hT := a3.up (by omega) hlen hu
      refine ⟨u, ?_, hu⟩
      show b_X10_hasAny_11 (l_X10_hasAny_11 f_X10_hasAny_72 f_X10_hasAny_80 n) f_X10_hasAny_72 f_X10_hasAny_80 (nI lv) (nI (2000 * lv + j)) u = _
      unfold b_X10_hasAny_11
      rw [inb_nI hP.1 (by decide), if_pos rfl, nI_clamp (by omega), hT.1, n2000, e, if_pos (nI_le (Nat.le_refl _) (by omega)), List.drop_length]
      rfl
    | succ m ih =>
      intro j n u hj hn hu
      obtain ⟨n, rfl⟩ : ∃ k, n = k + 1 := ⟨n - 1, by omega⟩
      have hjl : j < (triL N K P).length := by omega
      have hT := a3.up (by omega) hlen hu
      have hg : (triL N K P)[j]? = some (triL N K P)[j] := List.getElem?_eq_getElem hjl
      have hd : (triL N K P).drop j = (triL N K P)[j] :: (triL N K P).drop (j + 1) := List.drop_eq_getElem_cons hjl
      rw [hd]
      generalize (triL N K P)[j] = c at hg
      have hok := (tri_ok hK.2.1 hK.2.2.1 (fun q hq => (hP.2.1 q hq).2) hH hP.2.2.2.2 (List.mem_of_getElem? hg)).1
      obtain ⟨v, v1, v2, v3, v', v4, v5⟩ := m_try1 hl (hK1.up hu) (hP1.up (Nat.le_refl _) hu) hT hg hok
      have hv : UpM lv 16 w1 v' := (hu.tr v1).tr v4.up
      obtain ⟨w', r1, r2⟩ := ih (j + 1) n v' (by omega) (by omega) hv
      have e1 : l_X10_hasAny_11 f_X10_hasAny_72 f_X10_hasAny_80 (n + 1) (nI lv) (nI (2000 * lv + j)) u = b_X10_hasAny_11 (l_X10_hasAny_11 f_X10_hasAny_72 f_X10_hasAny_80 n) f_X10_hasAny_72 f_X10_hasAny_80 (nI lv) (nI (2000 * lv + j)) u := rfl
      rw [e1]
      unfold b_X10_hasAny_11
      rw [inb_nI hP.1 (by decide), if_pos rfl, nI_clamp (show lv < 2 ^ 31 by omega), hT.1, n2000, if_neg (nI_ge (by omega) (by omega)), inb_nI (show 2000 * lv + j < 32000 by omega) (by decide), if_pos rfl, if_pos rfl, if_pos rfl, if_pos rfl, nI_clamp (show 2000 * lv + j < 2 ^ 31 by omega), v3, bd_s, nI_1, if_pos rfl, v5, bd_s]
      rw [List.any_cons]
      unfold safe at r1 ⊢
      cases hq : chk N K (mkP P c).1 P.2.2 with
      | false =>
        rw [if_pos (by decide)]
        exact ⟨v', rfl, hv⟩
      | true =>
        rw [if_neg (by decide), nI_1]
        exact ⟨w', r1, r2⟩
  obtain ⟨w', r1, r2⟩ := main _ 0 FU w1 (Nat.zero_add _) (FU_big (by omega)) UpM.rf
  refine ⟨w', ?_, (a2.lo (by omega) (Nat.le_refl _)).tr (r2.lo (Nat.le_refl _) (by omega))⟩
  unfold f_X10_hasAny anyM
  rw [a1, bd_s, lt_e, n2000z]
  exact r1
theorem m_isMate {N lv : Nat} {K : Kd} {P : Ps} {w : Wd} (hl : lv + 1 < 16) (hK : MK N K w) (hM : MM K w) (hP : MP N lv P w) (hH : ∀ j, j < 16 → P.2.1 j + 1 < 1000) (hTL : TL N K) :
    ∃ w', f_X10_isMate (nI lv) w = some (b2i (mate N K P), w') ∧ UpM lv lv w w' := by
  obtain ⟨u, b1, b2⟩ := m_inCheck (lv := lv) (s := P.2.2) hP.2.2.2.2 hK (hP.b hK.2.1)
  have hu : UpM lv lv w u := b1.up
  unfold f_X10_isMate f_X10_isMate_26 f_X10_isMate_27 mate
  rw [inb_nI hP.1 (by decide), if_pos rfl, nI_clamp (by omega), hP.2.2.2.1, b2, bd_s]
  cases hq : chk N K P.1 P.2.2 with
  | false =>
    rw [if_pos (by decide)]
    exact ⟨u, rfl, hu⟩
  | true =>
    obtain ⟨u', c1, c2⟩ := m_hasAny hl (hK.up hu) (hM.up hu) (hP.up (Nat.le_refl _) hu) hH hTL
    rw [if_neg (by decide), c1, bd_s]
    cases hr : anyM N K P with
    | false =>
      rw [if_pos (by decide)]
      exact ⟨u', rfl, hu.tr c2⟩
    | true =>
      rw [if_neg (by decide)]
      exact ⟨u', rfl, hu.tr c2⟩
