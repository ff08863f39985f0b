/-! ===== the reference: verify; nodes asked ===== -/
def MVH (N : Nat) (K : Kd) (T : List Nd) (k : Nat) : Prop := ∀ (P : Ps) (w : Wd) (lv at_ n : Nat) (pre L post : List Nd), T = pre ++ (L ++ post) → pre.length = at_ → shH k lv at_ (L.map Prod.snd) → lv % 2 = 0 → lv + 2 * k ≤ 10 → (∀ e ∈ post, ¬ (at_ < e.2.1 ∧ e.2.1 ≤ at_ + L.length)) → VS N K lv P w → TrP N T w → (∀ e ∈ T, e.2.1 < 2000) →
  ∃ w', VeM lv w w' ∧ HLV (n + L.length) at_ w = if vfH N K k P at_ L = 0 then HLV n (at_ + L.length) w' else some (nI (vfH N K k P at_ L), w')
theorem T_at {T pre L post : List Nd} {e : Nd} {i : Nat} (h : T = pre ++ ((e :: L) ++ post)) (hi : pre.length = i) : T[i]? = some e ∧ T.drop (i + 1) = L ++ post := by
  subst hi
  rw [h]
  constructor
  · rw [List.getElem?_append_right (Nat.le_refl _), Nat.sub_self]
    rfl
  · rw [← List.drop_drop, List.drop_left]
    rfl
theorem m_MVA {N k : Nat} {K : Kd} {T : List Nd} (hyp : MVH N K T k) {Q : Ps} {lv par : Nat} (hod : lv % 2 = 1) (hlk : lv + 1 + 2 * k ≤ 10) (hp1 : 1 ≤ par) (hTb : ∀ e ∈ T, e.2.1 < 2000) :
    ∀ (D : List Nat) (j idx n : Nat) (pre L post : List Nd) (w : Wd), (movL N K Q).drop j = D → T = pre ++ (L ++ post) → pre.length = idx → shA (shH k (lv + 1)) par lv D.length idx (L.map Prod.snd) → par ≤ idx → (∀ e ∈ post, ¬ (par ≤ e.2.1 ∧ e.2.1 ≤ idx + L.length)) → VS N K lv Q w → TrP N T w → ((j = 0 ∧ idx = par) ∨ (0 < j ∧ par < idx ∧ w.1 99 lv = nI (j - 1))) →
      ∃ w', VeM lv w w' ∧ HLV (n + L.length) idx w = if vfA (vfH N K k) Q D idx L = 0 then HLV n (idx + L.length) w' else some (nI (vfA (vfH N K k) Q D idx L), w') := by
  intro D
  induction D with
  | nil =>
    intro j idx n pre L post w hD hT hpre hsh hpi hpost hS hTr hh
    have hL : L = [] := by
      have : L.map Prod.snd = [] := hsh
      exact List.map_eq_nil_iff.mp this
    subst hL
    exact ⟨w, VeM.rf, rfl⟩
  | cons a D ih =>
    intro j idx n pre L post w hD hT hpre hsh hpi hpost hS hTr hh
    obtain ⟨S, R, h1, h2, h3⟩ := hsh
    obtain ⟨e, L, rfl, e2, s1, s2, s3⟩ := map_split h1
    have ei : e.2.2.2 = S.length := by rw [e2]
    have ep : e.2.1 = par := by rw [e2]
    obtain ⟨hg, hdr⟩ := T_at hT hpre
    obtain ⟨hja, hD2⟩ := drop_c hD
    have hlT : idx + (L.length + 1) ≤ T.length := by
      rw [hT, List.length_append, List.length_append, List.length_cons]
      omega
    have hTr' := hTr
    obtain ⟨w1, v1, x1, x2⟩ := HLV_a (n := n + L.length) (j := j) (a := a) hS hTr (by omega) hod hg (by omega) (show e.2.2.1 = lv by rw [e2]) hja (hTb e (List.mem_of_getElem? hg)) (by
      rcases hh with ⟨g1, g2⟩ | ⟨g1, g2, g3⟩
      · exact Or.inl ⟨by omega, g1⟩
      · exact Or.inr ⟨by omega, g1, g3⟩)
    rw [List.length_cons, ← Nat.add_assoc]
    unfold vfA
    rw [ei]
    by_cases q : e.1 = a
    · obtain ⟨y1, y2, y3⟩ := x2 q
      rw [if_pos q, y3]
      have hlt : (L.take S.length).length = S.length := by rw [List.length_take]; omega
      have hld : (L.drop S.length).length = R.length := by rw [List.length_drop]; omega
      have hsplit : L = L.take S.length ++ L.drop S.length := (List.take_append_drop _ _).symm
      obtain ⟨w2, v2, z2⟩ := hyp (mkP Q a) w1 (lv + 1) (idx + 1) (n + R.length) (pre ++ [e]) (L.take S.length) (L.drop S.length ++ post) (by
          rw [hT, List.append_assoc, ← List.append_assoc (L.take S.length), ← hsplit]
          rfl) (by rw [List.length_append, List.length_singleton, hpre]) (by rw [s1]; exact h2) (by omega) (by omega) (by
          intro x hx
          rw [hlt]
          rcases List.mem_append.mp hx with hx | hx
          · have hxR : x.2 ∈ R := by rw [← s2]; exact List.mem_map.mpr ⟨x, hx, rfl⟩
            have := shA_par (fun at_ M h => shH_par k (lv + 1) at_ M h) _ _ R h3 x.2 hxR
            omega
          · have := hpost x hx
            rw [List.length_cons] at this
            omega) y2 (hTr.ve v1) hTb
      rw [hlt] at z2
      have en : n + R.length + S.length = n + L.length := by omega
      rw [en] at z2
      rw [z2]
      have v02 : VeM lv w w2 := v1.tr (v2.mono (by omega))
      by_cases q0 : vfH N K k (mkP Q a) (idx + 1) (L.take S.length) = 0
      · rw [if_pos q0, if_pos q0]
        obtain ⟨w3, v3, z3⟩ := ih (j + 1) (idx + 1 + S.length) n (pre ++ (e :: L.take S.length)) (L.drop S.length) post w2 hD2 (by
            rw [hT, show (e :: L) ++ post = (e :: L.take S.length) ++ (L.drop S.length ++ post) from by rw [List.cons_append, List.cons_append, ← List.append_assoc, List.take_append_drop], List.append_assoc]) (by rw [List.length_append, List.length_cons, hlt, hpre]; omega) (by rw [s2]; exact h3) (by omega) (by
            intro x hx
            have := hpost x hx
            rw [List.length_cons] at this
            rw [hld]
            omega) (hS.ve v02 (Nat.le_refl _)) (hTr.ve v02) (Or.inr ⟨by omega, by omega, by
              rw [Nat.add_sub_cancel, v2.2.2.2.2.2.2.2.2 lv (by omega)]
              exact y1⟩)
        rw [hld] at z3
        rw [z3, show idx + 1 + S.length + R.length = idx + (L.length + 1) by omega]
        exact ⟨w3, v02.tr v3, rfl⟩
      · rw [if_neg q0, if_neg q0]
        exact ⟨w2, v02, by rw [if_neg q0]⟩
    · rw [if_neg q, x1 q]
      exact ⟨w1, v1, by rw [if_neg (show ¬ idx + 1 = 0 by omega)]⟩
theorem m_MVH {N : Nat} {K : Kd} {T : List Nd} : ∀ k, MVH N K T k
  | 0 => fun P w lv at_ n pre L post hT hpre h => h.elim
  | k + 1 => by
    intro P w lv at_ n pre L post hT hpre hsh hev hlk hpost hS hTr hTb
    obtain ⟨A, m, h1, h2⟩ := hsh
    obtain ⟨e, L, rfl, e2, s1, s2, s3⟩ := map_split (S := A) (R := []) (by rw [List.append_nil]; exact h1)
    rw [List.length_nil, Nat.add_zero] at s3
    rw [← s3, List.take_length] at s1
    obtain ⟨hg, hdr⟩ := T_at hT hpre
    have h7 := hS.1.2.1
    have h5 := hS.1.2.2.1
    have hil : at_ < T.length := (List.getElem?_eq_some_iff.mp hg).1
    have hTl := hTr.2.2.1
    have hlT : at_ + (L.length + 1) ≤ T.length := by
      rw [hT, List.length_append, List.length_append, List.length_cons]
      omega
    have hcnt : cntE (at_ + 1) ((T.drop (at_ + 1)).map Prod.snd) = m := by
      rw [hdr, List.map_append, cntE_app, s1, shA_cnt (fun at_ M h => shH_par k (lv + 2) at_ M h) m (at_ + 1) A (Nat.le_refl _) h2, cntE_0]
      · omega
      · intro x hx
        obtain ⟨y, hy, rfl⟩ := List.mem_map.mp hx
        have := hpost y hy
        rw [List.length_cons] at this
        omega
    have hmB := shA_cntB m (at_ + 1) L L.length (Nat.le_refl _) (by rw [s1]; exact h2)
    have hml : m ≤ 500 := by
      have : ∀ (f : Nat) (A : List Nd), cntB f A ≤ f := fun f => by
        induction f with
        | zero => intro A; unfold cntB; omega
        | succ f ihf =>
          intro A
          cases A with
          | nil => unfold cntB; omega
          | cons x A =>
            unfold cntB
            have := ihf (A.drop x.2.2.2)
            omega
      have := this L.length L
      omega
    obtain ⟨x1, x2⟩ := HLV_h (n := n + L.length) (cnt := m) hS hTr (by omega) hev hg (show e.2.2.1 = lv by rw [e2]) (fun w' hw' => by
      have := m_manyIn hw' hil hTb
      rw [hcnt] at this
      exact this) hml
    rw [List.length_cons, ← Nat.add_assoc]
    unfold vfH
    rw [hmB]
    by_cases q1 : e.1 ∈ movL N K P
    · obtain ⟨w1, v1, y2, y3⟩ := x2 q1
      rw [if_pos q1, y3]
      cases gch N K P e.1 with
      | false =>
        rw [if_neg (by decide), if_neg (by decide)]
        exact ⟨w1, v1, by rw [if_neg (show ¬ at_ + 1 = 0 by omega)]⟩
      | true =>
        rw [if_pos rfl, if_pos rfl]
        by_cases q3 : (movL N K (mkP P e.1)).length = m
        · rw [if_pos q3, if_pos q3]
          obtain ⟨w2, v2, z2⟩ := m_MVA (m_MVH (N := N) (K := K) (T := T) k) (Q := mkP P e.1) (lv := lv + 1) (par := at_ + 1) (by omega) (by omega) (by omega) hTb (movL N K (mkP P e.1)) 0 (at_ + 1) n (pre ++ [e]) L post w1 rfl (by rw [hT, List.append_assoc]; rfl) (by rw [List.length_append, List.length_singleton, hpre]) (by rw [q3, s1]; exact h2) (Nat.le_refl _) (by
              intro x hx
              have := hpost x hx
              rw [List.length_cons] at this
              omega) y2 (hTr.ve v1) (Or.inl ⟨rfl, rfl⟩)
          refine ⟨w2, v1.tr (v2.mono (by omega)), ?_⟩
          rw [z2, show at_ + 1 + L.length = at_ + (L.length + 1) by omega]
        · rw [if_neg q3, if_neg q3]
          exact ⟨w1, v1, by rw [if_neg (show ¬ at_ + 1 = 0 by omega)]⟩
    · rw [if_neg q1, x1 q1]
      exact ⟨w, VeM.rf, by rw [if_neg (show ¬ at_ + 1 = 0 by omega)]⟩
theorem sh_parb {k dep at_ : Nat} {M : List Sh} (h : shH k dep at_ M) : ∀ i e, M[i]? = some e → e.1 ≤ at_ + i := fun i e hi => by
  rcases shH_pq k dep at_ M h i e hi with ⟨a, _, _⟩ | ⟨a, y, b, _, _⟩ <;> omega
/-- the reference's verify, on a stand and a tree -/
theorem m_verify {N k : Nat} {K : Kd} {P : Ps} {T : List Nd} {w : Wd} (hK : MK N K w) (hM : MM K w) (hP : MP N 0 P w) (hV : VP N K P) (hT : TrP N T w) (hsh : shH k 0 0 (T.map Prod.snd)) (hk : k ≤ 5) (hne : T ≠ []) (hst : w.1 50 25 ≠ 0) : ∃ w', f_X10_verify w = some (nI (vfH N K k P 0 T), w') ∧ HvM w w' ∧ (∀ k, 92 < k → k ≠ 99 → w'.1 k = w.1 k) ∧ w'.1 50 40 = w.1 50 40 ∧ w'.1 50 41 = w.1 50 41 := by
  have hl0 : 0 < T.length := List.length_pos_iff.mpr hne
  have hTl := hT.2.2.1
  have hTb : ∀ e ∈ T, e.2.1 < 2000 := fun e he => by
    obtain ⟨i, hi⟩ := List.getElem?_of_mem he
    have hil := (List.getElem?_eq_some_iff.mp hi).1
    have := sh_parb hsh i e.2 (by rw [List.getElem?_map, hi]; rfl)
    omega
  obtain ⟨w1, a1, a2, a3⟩ := m_fM (lv := 0) (by omega) hK hM hP hV
  have a1' : f_X10_findMoves (0 : Int32) w = some ((), w1) := a1
  have hT1 : TrP N T w1 := by
    refine ⟨fun i e hi => ?_, by rw [a2.2.2.1 41 (by decide)]; exact hT.2.1, hT.2.2⟩
    rw [a2.2.1 93 (by omega), a2.2.1 94 (by omega), a2.2.1 95 (by omega), a2.2.1 96 (by omega), a2.2.1 97 (by omega), a2.2.1 98 (by omega)]
    exact hT.1 i e hi
  obtain ⟨w2, v2, z2⟩ := m_MVH (N := N) (K := K) (T := T) k P w1 0 0 (FU - T.length) [] T [] (by simp) rfl hsh rfl (by omega) (fun e he => by simp at he) ⟨hK.up a2, hM.up a2, hP.up (Nat.le_refl _) a2, a3, hV⟩ hT1 hTb
  rw [show FU - T.length + T.length = FU from Nat.sub_add_cancel (Nat.le_trans hTl (by decide : (500 : Nat) ≤ FU))] at z2
  have hv : HvM w w2 := a2.hv.tr ⟨v2.1, fun k h => v2.2.1 k (by omega), fun j h _ _ => v2.2.2.1 j h, fun j h => v2.2.2.2.1 j (by omega), fun j h => v2.2.2.2.2.1 j (by omega), v2.2.2.2.2.2.1 0 (by omega)⟩
  refine ⟨w2, ?_, hv, fun k h1 h2 => by rw [v2.2.1 k (by omega), a2.2.1 k (by omega)], by rw [v2.2.2.1 40 (by decide), a2.2.2.1 40 (by decide)], by rw [v2.2.2.1 41 (by decide), a2.2.2.1 41 (by decide)]⟩
  unfold f_X10_verify
  rw [if_neg hst, hT.2.1, if_neg (nI_ne0 hl0 (by omega)), a1', bd_s]
  have z2' : l_X10_verify_24 f_X10_verify_116 f_X10_verify_140 f_X10_verify_191 f_X10_verify_201 FU (0 : Int32) w1 = _ := z2
  rw [z2']
  by_cases q : vfH N K k P 0 T = 0
  · rw [if_pos q, q]
    have h501 : (501 : Nat) ≤ FU := by decide
    obtain ⟨f, hf⟩ : ∃ f, FU - T.length = f + 1 := ⟨FU - T.length - 1, by omega⟩
    rw [hf, HLV_s]
    unfold b_X10_verify_24
    rw [v2.2.2.1 41 (by decide), hT1.2.1, Nat.zero_add, if_pos (nI_le (Nat.le_refl _) (by omega))]
    rfl
  · rw [if_neg q]
theorem x_verify {N k : Nat} {K : Kd} {P : Ps} {T : List Nd} {w : Wd} (hA : XA N K P w) (hV : VP N K P) (hsh : shH k 0 0 (T.map Prod.snd)) (hk : k ≤ 5) (hne : T ≠ []) (hs : w.1 29 5 = nI T.length) (hl : T.length ≤ 500) (hN : NdX 0 T w) (hok : ∀ e ∈ T, okF N e.1) (hst : w.1 0 10 ≠ 0) : ∃ w', f_X9_verify N w = some (nI (vfH N K k P 0 T), w') ∧ FrX N (2 * (27 * (N * N))) (10 * (27 * (N * N))) w w' ∧ XA N K P w' := by
  have hl0 : 0 < T.length := List.length_pos_iff.mpr hne
  obtain ⟨w', y1, y2, y3⟩ := x_VX (N := N) (K := K) k 10 (by omega) P w 2 0 0 T T.length hsh hA hV (by omega) (by omega) hs (by omega) (by omega) hN hok
  have y1' : f_X0_firstFaultR N (0 : Int32) (2 : Int32) w = some (nI (vfH N K k P 0 T), w') := y1
  refine ⟨w', ?_, y2, y3⟩
  unfold f_X9_verify
  rw [if_neg hst, hs, if_neg (nI_ne0 hl0 (by omega)), y1', bd_s]
/-! depth and inside of a node -/
theorem x_depthOf {N k i : Nat} {T : List Nd} {e : Nd} {w : Wd} (hsh : shH k 0 0 (T.map Prod.snd)) (hs : w.1 29 5 = nI T.length) (hl : T.length ≤ 500) (hN : NdX 0 T w) (hi : T[i]? = some e) : f_X0_depthOf N (nI i) w = some (nI e.2.2.1, w) := by
  have hpq := shH_pq k 0 0 (T.map Prod.snd) hsh
  have hil : i < T.length := (List.getElem?_eq_some_iff.mp hi).1
  have main : ∀ (i c n : Nat) (e : Nd), T[i]? = some e → c + i < T.length → i < n → l_X0_depthOf_9 N (f_X0_depthOf_34 N) n (nI c) (pv e.2.1) w = some (nI (c + e.2.2.1), w) := by
    intro i
    induction i using Nat.strongRecOn with
    | _ i ih =>
      intro c n e hi hc hn
      obtain ⟨n, rfl⟩ : ∃ q, n = q + 1 := ⟨n - 1, by omega⟩
      have e1 : l_X0_depthOf_9 N (f_X0_depthOf_34 N) (n + 1) (nI c) (pv e.2.1) w = b_X0_depthOf_9 N (l_X0_depthOf_9 N (f_X0_depthOf_34 N) n) (f_X0_depthOf_34 N) (nI c) (pv e.2.1) w := rfl
      rw [e1]
      unfold b_X0_depthOf_9
      rcases hpq i e.2 (by rw [List.getElem?_map, hi]; rfl) with ⟨a1, a2, a3⟩ | ⟨a1, y, a2, a3, a4⟩
      · rw [show e.2.1 = 0 from a2, show pv 0 = -1 from rfl, if_pos (by decide), show e.2.2.1 = 0 from a3]
        rfl
      · rw [Nat.sub_zero] at a2 a3
        rw [List.getElem?_map] at a3
        cases hp : T[e.2.1 - 1]? with
        | none => rw [hp] at a3; cases a3
        | some f =>
          rw [hp] at a3
          have ef : f.2 = y := Option.some.inj a3
          have epv : pv e.2.1 = nI (e.2.1 - 1) := by unfold pv; rw [if_neg (by omega)]
          have hcell := (hN (e.2.1 - 1) f hp).2.1
          rw [Nat.zero_add] at hcell
          rw [epv, if_neg (nI_pos (by omega)), hs, if_neg (nI_ge (by omega) (by omega)), inb_nI (show e.2.1 - 1 < 1000 by omega) (by omega), if_pos rfl, lt_e, nI_clamp (by omega), hcell, nI_1, ih (e.2.1 - 1) a2 (c + 1) n f hp (by omega) (by omega)]
          congr 2
          congr 1
          rw [ef]
          have : e.2.2.1 = y.2.1 + 1 := a4
          omega
  have hcell := (hN i e hi).2.1
  rw [Nat.zero_add] at hcell
  unfold f_X0_depthOf
  rw [inb_nI (show i < 1000 by omega) (by omega), if_pos rfl, lt_e, nI_clamp (by omega), hcell]
  have := main i 0 FU e hi (by omega) (FU_big (by omega))
  rw [Nat.zero_add] at this
  exact this
theorem m_within {N k i : Nat} {T : List Nd} {e : Nd} {w : Wd} (hsh : shH k 0 0 (T.map Prod.snd)) (hT : TrP N T w) (hdb : ∀ e ∈ T, e.2.2.1 < 2000) (hi : T[i]? = some e) : f_X10_within (nI i) w = some (nI e.2.2.2, w) := by
  have hwd := shH_wd k 0 0 (T.map Prod.snd) hsh
  have hil : i < T.length := (List.getElem?_eq_some_iff.mp hi).1
  obtain ⟨t1, t2, t3, t4⟩ := hT
  obtain ⟨b1, b2, b3⟩ := hwd i e.2 (by rw [List.getElem?_map, hi]; rfl)
  rw [List.length_map] at b1
  have hcell : ∀ j f, T[j]? = some f → w.1 98 j = nI f.2.2.1 := fun j f hf => by
    have := (t1 j f hf).2.2.2.2.2
    rw [Nat.zero_add] at this
    exact this
  have hde := hdb e (List.mem_of_getElem? hi)
  have main : ∀ (m j n : Nat), j + m = i + e.2.2.2 + 1 → i < j → m < n → l_X10_within_4 f_X10_within_33 n (nI i) (nI j) w = some (nI e.2.2.2, w) := by
    intro m
    induction m with
    | zero =>
      intro j n hj hij hn
      obtain ⟨n, rfl⟩ : ∃ q, n = q + 1 := ⟨n - 1, by omega⟩
      show b_X10_within_4 (l_X10_within_4 f_X10_within_33 n) f_X10_within_33 (nI i) (nI j) w = _
      have fin : f_X10_within_33 (nI i) (nI j) w = some (nI e.2.2.2, w) := by
        unfold f_X10_within_33
        rw [pk_sub (by omega), show j - i = e.2.2.2 + 1 by omega, nI_pred]
      unfold b_X10_within_4
      rw [t2]
      by_cases q : T.length ≤ j
      · rw [if_pos (nI_le q (by omega))]
        exact fin
      · have hg : T[j]? = some T[j] := List.getElem?_eq_getElem (by omega)
        generalize T[j] = f at hg
        have h3 := b3 f.2 (by
          rw [List.getElem?_map, show i + e.2.2.2 + 1 = j by omega, hg]
          rfl)
        have hdf := hdb f (List.mem_of_getElem? hg)
        rw [if_neg (nI_ge (by omega) (by omega)), inb_nI (show j < 1100 by omega) (by omega), inb_nI (show i < 1100 by omega) (by omega), if_pos rfl, if_pos rfl, nI_clamp (by omega), nI_clamp (by omega), hcell j f hg, hcell i e hi, if_pos (nI_le h3 (by omega))]
        exact fin
    | succ m ih =>
      intro j n hj hij hn
      obtain ⟨n, rfl⟩ : ∃ q, n = q + 1 := ⟨n - 1, by omega⟩
      have hg : T[j]? = some T[j] := List.getElem?_eq_getElem (by omega)
      generalize T[j] = f at hg
      have h2 := b2 j f.2 hij (by omega) (by rw [List.getElem?_map, hg]; rfl)
      have hdf := hdb f (List.mem_of_getElem? hg)
      have e1 : l_X10_within_4 f_X10_within_33 (n + 1) (nI i) (nI j) w = b_X10_within_4 (l_X10_within_4 f_X10_within_33 n) f_X10_within_33 (nI i) (nI j) w := rfl
      rw [e1]
      unfold b_X10_within_4
      rw [t2, if_neg (nI_ge (by omega) (by omega)), inb_nI (show j < 1100 by omega) (by omega), inb_nI (show i < 1100 by omega) (by omega), if_pos rfl, if_pos rfl, nI_clamp (by omega), nI_clamp (by omega), hcell j f hg, hcell i e hi, if_neg (nI_ge h2 (by omega)), nI_1]
      exact ih (j + 1) n (by omega) (by omega) (by omega)
  unfold f_X10_within
  rw [lt_e, nI_1]
  exact main e.2.2.2 (i + 1) FU (by omega) (by omega) (FU_big (by omega))
theorem sh_depb {k dep at_ : Nat} {M : List Sh} (h : shH k dep at_ M) : ∀ i e, M[i]? = some e → e.2.1 ≤ dep + i := by
  have hpq := shH_pq k dep at_ M h
  intro i
  induction i using Nat.strongRecOn with
  | _ i ih =>
    intro e hi
    rcases hpq i e hi with ⟨a1, a2, a3⟩ | ⟨a1, y, a2, a3, a4⟩
    · omega
    · have := ih _ a2 y a3
      omega
