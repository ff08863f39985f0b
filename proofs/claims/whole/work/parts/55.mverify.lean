/-! ===== the reference: trees gone through ===== -/
def VeM (lv : Nat) (w w' : Wd) : Prop := w'.2 = w.2 ∧ (∀ k, (k < 60 ∧ k ≠ 50) ∨ (72 < k ∧ k ≠ 74 ∧ k ≠ 75 ∧ k ≠ 99) → w'.1 k = w.1 k) ∧ (∀ j, j ≠ 22 → w'.1 50 j = w.1 50 j) ∧ (∀ j, j < 49 * (lv + 1) → w'.1 60 j = w.1 60 j) ∧ (∀ j, j < 16 * (lv + 1) → w'.1 61 j = w.1 61 j) ∧ (∀ j, j < lv + 1 → w'.1 62 j = w.1 62 j) ∧ (∀ j, j < lv + 1 → w'.1 63 j = w.1 63 j ∧ w'.1 68 j = w.1 68 j) ∧ (∀ j, j < 2000 * (lv + 1) → ∀ k, (64 ≤ k ∧ k ≤ 67) ∨ (69 ≤ k ∧ k ≤ 72) → w'.1 k j = w.1 k j) ∧ ∀ j, j < lv → w'.1 99 j = w.1 99 j
theorem VeM.rf {lv : Nat} {w : Wd} : VeM lv w w := ⟨rfl, fun _ _ => rfl, fun _ _ => rfl, fun _ _ => rfl, fun _ _ => rfl, fun _ _ => rfl, fun _ _ => ⟨rfl, rfl⟩, fun _ _ _ _ => rfl, fun _ _ => rfl⟩
theorem VeM.tr {lv : Nat} {a b c : Wd} (x : VeM lv a b) (y : VeM lv b c) : VeM lv a c := by
  obtain ⟨x1, x2, x3, x4, x5, x6, x7, x8, x9⟩ := x
  obtain ⟨y1, y2, y3, y4, y5, y6, y7, y8, y9⟩ := y
  exact ⟨y1.trans x1, fun k h => (y2 k h).trans (x2 k h), fun j h => (y3 j h).trans (x3 j h), fun j h => (y4 j h).trans (x4 j h), fun j h => (y5 j h).trans (x5 j h), fun j h => (y6 j h).trans (x6 j h), fun j h => ⟨(y7 j h).1.trans (x7 j h).1, (y7 j h).2.trans (x7 j h).2⟩, fun j h k hk => (y8 j h k hk).trans (x8 j h k hk), fun j h => (y9 j h).trans (x9 j h)⟩
theorem VeM.mono {lv l2 : Nat} {a b : Wd} (x : VeM l2 a b) (h : lv ≤ l2) : VeM lv a b := by
  obtain ⟨x1, x2, x3, x4, x5, x6, x7, x8, x9⟩ := x
  exact ⟨x1, x2, x3, fun j h => x4 j (by omega), fun j h => x5 j (by omega), fun j h => x6 j (by omega), fun j h => x7 j (by omega), fun j h => x8 j (by omega), fun j h => x9 j (by omega)⟩
theorem UpM.ve {lv l2 m2 : Nat} {a b : Wd} (x : UpM l2 m2 a b) (h : lv ≤ l2) (h2 : lv + 1 ≤ m2) : VeM lv a b := by
  obtain ⟨x1, x2, x3, x4, x5, x6, x7, x8⟩ := x
  exact ⟨x1, fun k h => x2 k (by omega), x3, fun j h => x4 j (by omega), fun j h => x5 j (by omega), fun j h => x6 j (by omega), fun j h => x7 j (by omega), fun j h k hk => x8 j (by omega) k hk, fun j h => by rw [x2 99 (by omega)]⟩
theorem VeM.i99 {lv j : Nat} {w : Wd} {v : Int32} (h : lv ≤ j) : VeM lv w (wdI w 99 j v) := ⟨rfl, fun k hk => wI_c (by omega), fun _ _ => by rw [wI_c (by decide)], fun _ _ => by rw [wI_c (by decide)], fun _ _ => by rw [wI_c (by decide)], fun _ _ => by rw [wI_c (by decide)], fun _ _ => by rw [wI_c (by decide), wI_c (by decide)]; exact ⟨rfl, rfl⟩, fun _ _ k hk => by rw [wI_c (by omega)], fun q hq => by rw [wI_n (by omega)]⟩
/-- where the reference stands at a level: the position, its moves -/
def VS (N : Nat) (K : Kd) (lv : Nat) (P : Ps) (w : Wd) : Prop := MK N K w ∧ MM K w ∧ MP N lv P w ∧ MIn lv (movL N K P) w ∧ VP N K P
theorem VS.ve {N lv l2 : Nat} {K : Kd} {P : Ps} {w w' : Wd} (h : VS N K lv P w) (u : VeM l2 w w') (hl : lv ≤ l2) : VS N K lv P w' := by
  obtain ⟨h1, h2, h3, h4, h5⟩ := h
  have hlen := mov_2000 (K := K) h1.2.1 h1.2.2.1 h5.mv
  refine ⟨⟨by rw [u.2.2.1 0 (by decide)]; exact h1.1, h1.2.1, h1.2.2.1, fun t ht => by rw [u.2.1 53 (by omega), u.2.1 54 (by omega)]; exact h1.2.2.2 t ht⟩, fun k hk => by rw [u.2.1 55 (by omega)]; exact h2 k hk, ⟨h3.1, fun q hq => by rw [u.2.2.2.1 _ (by omega)]; exact h3.2.1 q hq, fun j hj => by rw [u.2.2.2.2.1 _ (by omega)]; exact h3.2.2.1 j hj, by rw [u.2.2.2.2.2.1 _ (by omega)]; exact h3.2.2.2.1, h3.2.2.2.2⟩, ⟨by rw [(u.2.2.2.2.2.2.1 lv (by omega)).1]; exact h4.1, fun j c hj => ?_⟩, h5⟩
  have hjl : j < (movL N K P).length := (List.getElem?_eq_some_iff.mp hj).1
  have e : ∀ k, (64 ≤ k ∧ k ≤ 67) ∨ (69 ≤ k ∧ k ≤ 72) → w'.1 k (2000 * lv + j) = w.1 k (2000 * lv + j) := u.2.2.2.2.2.2.2.1 _ (by omega)
  rw [e 64 (by omega), e 65 (by omega), e 66 (by omega), e 67 (by omega)]
  exact h4.2 j c hj
/-- the tree in the reference's cells -/
def TrP (N : Nat) (T : List Nd) (w : Wd) : Prop := NdM 0 T w ∧ w.1 50 41 = nI T.length ∧ T.length ≤ 500 ∧ ∀ e ∈ T, okF N e.1
theorem TrP.ve {N lv : Nat} {T : List Nd} {w w' : Wd} (h : TrP N T w) (u : VeM lv w w') : TrP N T w' := by
  refine ⟨fun i e hi => ?_, by rw [u.2.2.1 41 (by decide)]; exact h.2.1, h.2.2⟩
  rw [u.2.1 93 (by omega), u.2.1 94 (by omega), u.2.1 95 (by omega), u.2.1 96 (by omega), u.2.1 97 (by omega), u.2.1 98 (by omega)]
  exact h.1 i e hi
theorem pv_eq {p i : Nat} (hp : p < 2000) (hi : i < 2000) : (pv p = nI i) ↔ p = i + 1 := by
  unfold pv
  by_cases q : p = 0
  · rw [if_pos q]
    constructor
    · intro z
      exfalso
      have : nI i < 0 := by rw [← z]; decide
      exact nI_pos (by omega) this
    · intro z; omega
  · rw [if_neg q, nI_inj (by omega) (by omega)]
    omega
theorem m_manyIn {N i : Nat} {T : List Nd} {w : Wd} (hT : TrP N T w) (hi : i < T.length) (hb : ∀ e ∈ T, e.2.1 < 2000) : f_X10_manyIn (nI i) w = some (nI (cntE (i + 1) ((T.drop (i + 1)).map Prod.snd)), w) := by
  obtain ⟨t1, t2, t3, t4⟩ := hT
  have main : ∀ (D : List Nd) (k c n : Nat), T.drop k = D → k + D.length = T.length → D.length < n → l_X10_manyIn_6 f_X10_manyIn_38 n (nI i) (nI c) (nI k) w = some (nI (c + cntE (i + 1) (D.map Prod.snd)), w) := by
    intro D
    induction D with
    | nil =>
      intro k c n hD hk hn
      obtain ⟨n, rfl⟩ : ∃ q, n = q + 1 := ⟨n - 1, by omega⟩
      rw [List.length_nil] at hk
      show b_X10_manyIn_6 (l_X10_manyIn_6 f_X10_manyIn_38 n) f_X10_manyIn_38 (nI i) (nI c) (nI k) w = _
      unfold b_X10_manyIn_6
      rw [t2, if_pos (nI_le (by omega) (by omega))]
      rfl
    | cons e D ih =>
      intro k c n hD hk hn
      rw [List.length_cons] at hk hn
      obtain ⟨n, rfl⟩ : ∃ q, n = q + 1 := ⟨n - 1, by omega⟩
      have hg : T[k]? = some e := by
        have := congrArg List.head? hD
        rw [List.head?_drop] at this
        exact this
      have hD2 : T.drop (k + 1) = D := by
        have := congrArg List.tail hD
        rw [List.tail_drop] at this
        exact this
      have h93 := (t1 k e hg).1
      rw [Nat.zero_add] at h93
      have hpb := hb e (List.mem_of_getElem? hg)
      have e1 : l_X10_manyIn_6 f_X10_manyIn_38 (n + 1) (nI i) (nI c) (nI k) w = b_X10_manyIn_6 (l_X10_manyIn_6 f_X10_manyIn_38 n) f_X10_manyIn_38 (nI i) (nI c) (nI k) w := rfl
      rw [e1, List.map_cons]
      show _ = some (nI (c + ((if e.2.1 = i + 1 then 1 else 0) + cntE (i + 1) (D.map Prod.snd))), w)
      unfold b_X10_manyIn_6 f_X10_manyIn_30
      rw [t2, if_neg (nI_ge (by omega) (by omega)), inb_nI (show k < 1100 by omega) (by omega), if_pos rfl, nI_clamp (by omega), h93]
      by_cases q : e.2.1 = i + 1
      · rw [if_pos ((pv_eq hpb (by omega)).mpr q), if_pos q, lt_e, nI_1, nI_1, ih (k + 1) (c + 1) n hD2 (by omega) (by omega), Nat.add_assoc]
      · rw [if_neg (fun z => q ((pv_eq hpb (by omega)).mp z)), if_neg q, lt_e, show (0 : Int32) = nI 0 from rfl, nI_add, nI_1, ih (k + 1) (c + 0) n hD2 (by omega) (by omega), Nat.add_assoc]
  unfold f_X10_manyIn
  rw [lt_e, nI_1]
  have := main (T.drop (i + 1)) (i + 1) 0 FU rfl (by rw [List.length_drop]; omega) (by rw [List.length_drop]; exact FU_big (by omega))
  rw [Nat.zero_add] at this
  exact this
def HLV (n i : Nat) (w : Wd) : Option (Int32 × Wd) := l_X10_verify_24 f_X10_verify_116 f_X10_verify_140 f_X10_verify_191 f_X10_verify_201 n (nI i) w
theorem HLV_s {n i : Nat} {w : Wd} : HLV (n + 1) i w = b_X10_verify_24 (l_X10_verify_24 f_X10_verify_116 f_X10_verify_140 f_X10_verify_191 f_X10_verify_201 n) f_X10_verify_116 f_X10_verify_140 f_X10_verify_191 f_X10_verify_201 (nI i) w := rfl
/-- a node of the hunter's -/
theorem HLV_h {N n i lv cnt : Nat} {K : Kd} {P : Ps} {T : List Nd} {e : Nd} {w : Wd} (hS : VS N K lv P w) (hT : TrP N T w) (hl : lv + 3 < 16) (hev : lv % 2 = 0) (hi : T[i]? = some e) (hd : e.2.2.1 = lv) (hc : ∀ w', TrP N T w' → f_X10_manyIn (nI i) w' = some (nI cnt, w')) (hcn : cnt ≤ 500) :
    (e.1 ∉ movL N K P → HLV (n + 1) i w = some (nI (i + 1), w)) ∧ (e.1 ∈ movL N K P → ∃ w', VeM lv w w' ∧ VS N K (lv + 1) (mkP P e.1) w' ∧ HLV (n + 1) i w = if gch N K P e.1 = true then (if (movL N K (mkP P e.1)).length = cnt then HLV n (i + 1) w' else some (nI (i + 1), w')) else some (nI (i + 1), w')) := by
  have hS' := hS
  obtain ⟨s1, s2, s3, s4, s5⟩ := hS
  have h7 := s1.2.1
  have h5 := s1.2.2.1
  have hlen := mov_2000 (K := K) h7 h5 s5.mv
  have hil : i < T.length := (List.getElem?_eq_some_iff.mp hi).1
  have hT' := hT
  obtain ⟨t1, t2, t3, t4⟩ := hT
  have hnode := t1 i e hi
  rw [Nat.zero_add, hd] at hnode
  obtain ⟨n93, n94, n95, n96, n97, n98⟩ := hnode
  have hix := m_indexOf (lv := lv) h7 h5 (by omega) s5 s4 (t4 e (List.mem_of_getElem? hi))
  have start : HLV (n + 1) i w = if (0 : Int32) ≤ ixV (movL N K P) 0 e.1 then
      bd (f_X10_makeMove (nI lv) (ixV (movL N K P) 0 e.1) w) fun _ w5 =>
      bd (f_X10_findMoves (nI lv + (1 : Int32)) w5) fun _ w6 =>
      if inb (nI lv + (1 : Int32)) 16 = true then
      bd (f_X10_inCheck (nI lv + (1 : Int32)) (w6.1 62 (Int32.toNatClampNeg (nI lv + (1 : Int32)))) w6) fun x7 w8 =>
      if x7 = (0 : Int32) then f_X10_verify_191 (nI i) w8 else
      if inb (nI lv + (1 : Int32)) 16 = true then
      bd (f_X10_manyIn (nI i) w8) fun x9 w10 =>
      if (w8.1 63 (Int32.toNatClampNeg (nI lv + (1 : Int32)))) = x9 then HLV n (i + 1) w10 else f_X10_verify_191 (nI i) w10
      else none
      else none
      else f_X10_verify_140 (nI i) w := by
    rw [HLV_s]
    unfold b_X10_verify_24 f_X10_verify_195
    rw [t2, if_neg (nI_ge (by omega) (by omega)), inb_nI (show i < 1100 by omega) (by omega)]
    simp only [if_true]
    rw [lt_e, nI_clamp (show i < 2 ^ 31 by omega), n98, n94, n95, n96, n97, hix, bd_s, if_pos (show ¬ (2 : Int32) = 0 by decide), par2 (by omega), hev, if_neg (show ¬ nI 0 = (1 : Int32) by decide)]
    simp only [nI_1]
    rfl
  constructor
  · intro q
    rw [start, ixV_out _ _ _ q, if_neg (by decide)]
    unfold f_X10_verify_140
    rw [nI_1]
  · intro q
    obtain ⟨j, hj⟩ := List.getElem?_of_mem q
    have hjl : j < (movL N K P).length := (List.getElem?_eq_some_iff.mp hj).1
    have hV2 := mov_VP h7 h5 s5 q
    have hlen2 := mov_2000 (K := K) h7 h5 hV2.mv
    obtain ⟨w1, a1, a2, a3⟩ := m_mM (lv := lv) (by omega) s1 s3 s5 s4 hj
    obtain ⟨w2, b1, b2, b3⟩ := m_fM (lv := lv + 1) (by omega) (s1.up a2) (s2.up a2) a3 hV2
    obtain ⟨w3, c1, c2⟩ := m_inCheck (lv := lv + 1) (s := (mkP P e.1).2.2) hV2.mv ((s1.up a2).up b2) ((a3.up (Nat.le_refl _) b2).b h7)
    have c2' : f_X10_inCheck (nI (lv + 1)) (w2.1 62 (lv + 1)) w2 = some (b2i (gch N K P e.1), w3) := by
      rw [(a3.up (Nat.le_refl _) b2).2.2.2.1]
      exact c2
    have v3 : VeM lv w w3 := ((a2.ve (Nat.le_refl _) (by omega)).tr (b2.ve (by omega) (Nat.le_refl _))).tr ((c1.up (lv := lv) (l2 := lv + 1)).ve (Nat.le_refl _) (Nat.le_refl _))
    have u3 : UpM (lv + 1) (lv + 2) w2 w3 := c1.up
    have hS3 : VS N K (lv + 1) (mkP P e.1) w3 := ⟨((s1.up a2).up b2).up u3, ((s2.up a2).up b2).up u3, (a3.up (Nat.le_refl _) b2).up (Nat.le_refl _) u3, b3.up (by omega) hlen2 u3, hV2⟩
    refine ⟨w3, v3, hS3, ?_⟩
    rw [start, ixV_in _ 0 j _ (mov_nodup h7 h5 s5.mv) hj, Nat.zero_add, if_pos (nI_pos' (by omega)), a1, bd_s, nI_1, b1, bd_s, inb_nI (show lv + 1 < 16 by omega) (by omega), if_pos rfl, nI_clamp (show lv + 1 < 2 ^ 31 by omega), c2', bd_s, b2_0]
    unfold f_X10_verify_191
    rw [nI_1]
    cases gch N K P e.1 with
    | false => rfl
    | true =>
      rw [if_pos rfl, if_pos rfl, if_pos rfl, hc w3 (hT'.ve v3), bd_s, hS3.2.2.2.1.1]
      by_cases q3 : (movL N K (mkP P e.1)).length = cnt
      · rw [if_pos (show nI (movL N K (mkP P e.1)).length = nI cnt by rw [q3]), if_pos q3]
      · rw [if_neg (show ¬ nI (movL N K (mkP P e.1)).length = nI cnt from fun z => q3 ((nI_inj (by omega) (by omega)).mp z)), if_neg q3]
/-- an answer -/
theorem HLV_a {N n i lv j a : Nat} {K : Kd} {Q : Ps} {T : List Nd} {e : Nd} {w : Wd} (hS : VS N K lv Q w) (hT : TrP N T w) (hl : lv + 3 < 16) (hod : lv % 2 = 1) (hi : T[i]? = some e) (h1 : 1 ≤ i) (hd : e.2.2.1 = lv) (hj : (movL N K Q)[j]? = some a) (hpb : e.2.1 < 2000) (hh : (e.2.1 = i ∧ j = 0) ∨ (e.2.1 ≠ i ∧ 0 < j ∧ w.1 99 lv = nI (j - 1))) :
    ∃ w', VeM lv w w' ∧ (e.1 ≠ a → HLV (n + 1) i w = some (nI (i + 1), w')) ∧ (e.1 = a → w'.1 99 lv = nI j ∧ VS N K (lv + 1) (mkP Q a) w' ∧ HLV (n + 1) i w = HLV n (i + 1) w') := by
  obtain ⟨s1, s2, s3, s4, s5⟩ := hS
  have h7 := s1.2.1
  have h5 := s1.2.2.1
  have hlen := mov_2000 (K := K) h7 h5 s5.mv
  have hil : i < T.length := (List.getElem?_eq_some_iff.mp hi).1
  have hjl : j < (movL N K Q).length := (List.getElem?_eq_some_iff.mp hj).1
  obtain ⟨t1, t2, t3, t4⟩ := hT
  have hnode := t1 i e hi
  rw [Nat.zero_add, hd] at hnode
  obtain ⟨n93, n94, n95, n96, n97, n98⟩ := hnode
  have hix := m_indexOf (lv := lv) h7 h5 (by omega) s5 s4 (t4 e (List.mem_of_getElem? hi))
  have start : HLV (n + 1) i w = f_X10_verify_105 (l_X10_verify_24 f_X10_verify_116 f_X10_verify_140 f_X10_verify_191 f_X10_verify_201 n) f_X10_verify_116 f_X10_verify_140 f_X10_verify_191 f_X10_verify_201 (nI i) (nI lv) (ixV (movL N K Q) 0 e.1) (nI lv) (nI j) w := by
    rw [HLV_s]
    unfold b_X10_verify_24
    rw [t2, if_neg (nI_ge (by omega) (by omega)), inb_nI (show i < 1100 by omega) (by omega)]
    simp only [if_true]
    rw [lt_e, nI_clamp (show i < 2 ^ 31 by omega), n98, n94, n95, n96, n97, hix, bd_s, if_pos (show ¬ (2 : Int32) = 0 by decide), par2 (by omega), hod, if_pos (show nI 1 = (1 : Int32) from rfl), n93, show nI i - (1 : Int32) = nI (i - 1) from pk_sub (a := i) (b := 1) h1]
    rcases hh with ⟨g1, g2⟩ | ⟨g1, g2, g3⟩
    · rw [if_pos ((pv_eq hpb (by omega)).mpr (by omega)), g2]
      rfl
    · rw [if_neg (fun z => g1 (by have := (pv_eq hpb (by omega)).mp z; omega)), inb_nI (show lv < 16 by omega) (by omega), if_pos rfl, nI_clamp (show lv < 2 ^ 31 by omega), g3, nI_1, show j - 1 + 1 = j by omega]
  have v1 : VeM lv w (wdI w 99 lv (nI j)) := VeM.i99 (Nat.le_refl _)
  have hS1 : VS N K lv Q (wdI w 99 lv (nI j)) := VS.ve ⟨s1, s2, s3, s4, s5⟩ v1 (Nat.le_refl _)
  by_cases q : e.1 = a
  · have ham : a ∈ movL N K Q := List.mem_of_getElem? hj
    have hV2 := mov_VP h7 h5 s5 ham
    have hlen2 := mov_2000 (K := K) h7 h5 hV2.mv
    obtain ⟨r1, r2, r3, r4, r5⟩ := hS1
    obtain ⟨w1, a1, a2, a3⟩ := m_mM (lv := lv) (by omega) r1 r3 r5 r4 hj
    obtain ⟨w2, b1, b2, b3⟩ := m_fM (lv := lv + 1) (by omega) (r1.up a2) (r2.up a2) a3 hV2
    refine ⟨w2, (v1.tr (a2.ve (Nat.le_refl _) (by omega))).tr (b2.ve (by omega) (Nat.le_refl _)), fun z => absurd q z, fun _ => ⟨?_, ⟨(r1.up a2).up b2, (r2.up a2).up b2, a3.up (Nat.le_refl _) b2, b3, hV2⟩, ?_⟩⟩
    · rw [b2.2.1 99 (by omega), a2.2.1 99 (by omega), wI_s]
    · rw [start, q, ixV_in _ 0 j a (mov_nodup h7 h5 s5.mv) hj, Nat.zero_add]
      unfold f_X10_verify_105 f_X10_verify_195
      rw [inb_nI (show lv < 16 by omega) (by omega), if_pos rfl, lw_e, if_pos rfl, nI_clamp (show lv < 2 ^ 31 by omega), wI_s, if_pos rfl, a1, bd_s, nI_1, b1, bd_s, nI_1]
      rfl
  · refine ⟨wdI w 99 lv (nI j), v1, fun _ => ?_, fun z => absurd z q⟩
    have hne : ixV (movL N K Q) 0 e.1 ≠ nI j := by
      by_cases hm : e.1 ∈ movL N K Q
      · obtain ⟨j', hj'⟩ := List.getElem?_of_mem hm
        have hj'l : j' < (movL N K Q).length := (List.getElem?_eq_some_iff.mp hj').1
        rw [ixV_in _ 0 j' _ (mov_nodup h7 h5 s5.mv) hj', Nat.zero_add]
        intro z
        have : j' = j := (nI_inj (by omega) (by omega)).mp z
        rw [this, hj] at hj'
        exact q (Option.some.inj hj').symm
      · rw [ixV_out _ _ _ hm]
        intro z
        have : nI j < 0 := by rw [← z]; decide
        exact nI_pos (by omega) this
    rw [start]
    unfold f_X10_verify_105 f_X10_verify_116
    rw [inb_nI (show lv < 16 by omega) (by omega), if_pos rfl, lw_e, if_pos rfl, nI_clamp (show lv < 2 ^ 31 by omega), wI_s, if_neg hne, nI_1]
