/-! ===== the reference: hunts, the parts of a step ===== -/
/-- scratch, boards above lv, lists above lv, hand from lv on, nodeAt from lv on, cost, nodes from at on -/
def HuM (lv at_ : Nat) (w w' : Wd) : Prop := w'.2 = w.2 ∧ (∀ k, (k < 60 ∧ k ≠ 50) ∨ (72 < k ∧ k ≠ 74 ∧ k ≠ 75 ∧ (k < 93 ∨ 100 < k)) → w'.1 k = w.1 k) ∧ (∀ j, j ≠ 22 → j ≠ 40 → j ≠ 41 → w'.1 50 j = w.1 50 j) ∧ (∀ j, j < 49 * (lv + 1) → w'.1 60 j = w.1 60 j) ∧ (∀ j, j < 16 * (lv + 1) → w'.1 61 j = w.1 61 j) ∧ (∀ j, j < lv + 1 → w'.1 62 j = w.1 62 j) ∧ (∀ j, j < lv + 1 → w'.1 63 j = w.1 63 j ∧ w'.1 68 j = w.1 68 j) ∧ (∀ j, j < 2000 * (lv + 1) → ∀ k, (64 ≤ k ∧ k ≤ 67) ∨ (69 ≤ k ∧ k ≤ 72) → w'.1 k j = w.1 k j) ∧ (∀ k, 93 ≤ k → k ≤ 98 → ∀ j, j < at_ → w'.1 k j = w.1 k j) ∧ ∀ j, j < lv → w'.1 99 j = w.1 99 j ∧ w'.1 100 j = w.1 100 j
theorem HuM.rf {lv at_ : Nat} {w : Wd} : HuM lv at_ w w := ⟨rfl, fun _ _ => rfl, fun _ _ _ _ => rfl, fun _ _ => rfl, fun _ _ => rfl, fun _ _ => rfl, fun _ _ => ⟨rfl, rfl⟩, fun _ _ _ _ => rfl, fun _ _ _ _ _ => rfl, fun _ _ => ⟨rfl, rfl⟩⟩
theorem HuM.tr {lv at_ : Nat} {a b c : Wd} (x : HuM lv at_ a b) (y : HuM lv at_ b c) : HuM lv at_ a c := by
  obtain ⟨x1, x2, x3, x4, x5, x6, x7, x8, x9, x10⟩ := x
  obtain ⟨y1, y2, y3, y4, y5, y6, y7, y8, y9, y10⟩ := y
  exact ⟨y1.trans x1, fun k h => (y2 k h).trans (x2 k h), fun j h1 h2 h3 => (y3 j h1 h2 h3).trans (x3 j h1 h2 h3), fun j h => (y4 j h).trans (x4 j h), fun j h => (y5 j h).trans (x5 j h), fun j h => (y6 j h).trans (x6 j h), fun j h => ⟨(y7 j h).1.trans (x7 j h).1, (y7 j h).2.trans (x7 j h).2⟩, fun j h k hk => (y8 j h k hk).trans (x8 j h k hk), fun k h1 h2 j h => (y9 k h1 h2 j h).trans (x9 k h1 h2 j h), fun j h => ⟨(y10 j h).1.trans (x10 j h).1, (y10 j h).2.trans (x10 j h).2⟩⟩
theorem HuM.mono {lv l2 at_ a2 : Nat} {a b : Wd} (x : HuM l2 a2 a b) (h : lv ≤ l2) (h2 : at_ ≤ a2) : HuM lv at_ a b := by
  obtain ⟨x1, x2, x3, x4, x5, x6, x7, x8, x9, x10⟩ := x
  exact ⟨x1, x2, x3, fun j h => x4 j (by omega), fun j h => x5 j (by omega), fun j h => x6 j (by omega), fun j h => x7 j (by omega), fun j h => x8 j (by omega), fun k h1 h2 j h => x9 k h1 h2 j (by omega), fun j h => x10 j (by omega)⟩
theorem UpM.hu {lv l2 m2 at_ : Nat} {a b : Wd} (x : UpM l2 m2 a b) (h : lv ≤ l2) (h2 : lv + 1 ≤ m2) : HuM lv at_ a b := by
  obtain ⟨x1, x2, x3, x4, x5, x6, x7, x8⟩ := x
  exact ⟨x1, fun k h => x2 k (by omega), fun j h _ _ => x3 j h, fun j h => x4 j (by omega), fun j h => x5 j (by omega), fun j h => x6 j (by omega), fun j h => x7 j (by omega), fun j h k hk => x8 j (by omega) k hk, fun k h1 h2 j h => by rw [x2 k (by omega)], fun j h => by rw [x2 99 (by omega), x2 100 (by omega)]; exact ⟨rfl, rfl⟩⟩
theorem HuM.i99 {lv at_ j : Nat} {w : Wd} {v : Int32} (h : lv ≤ j) : HuM lv at_ w (wdI w 99 j v) := ⟨rfl, fun k hk => wI_c (by omega), fun _ _ _ _ => by rw [wI_c (by decide)], fun _ _ => by rw [wI_c (by decide)], fun _ _ => by rw [wI_c (by decide)], fun _ _ => by rw [wI_c (by decide)], fun _ _ => by rw [wI_c (by decide), wI_c (by decide)]; exact ⟨rfl, rfl⟩, fun _ _ k hk => by rw [wI_c (by omega)], fun k h1 h2 _ _ => by rw [wI_c (by omega)], fun q hq => by rw [wI_n (by omega), wI_c (by decide)]; exact ⟨rfl, rfl⟩⟩
theorem HuM.i50 {lv at_ j : Nat} {w : Wd} {v : Int32} (h : j = 40 ∨ j = 41) : HuM lv at_ w (wdI w 50 j v) := ⟨rfl, fun k hk => wI_c (by omega), fun _ _ _ _ => wI_n (by omega), fun _ _ => by rw [wI_c (by decide)], fun _ _ => by rw [wI_c (by decide)], fun _ _ => by rw [wI_c (by decide)], fun _ _ => by rw [wI_c (by decide), wI_c (by decide)]; exact ⟨rfl, rfl⟩, fun _ _ k hk => by rw [wI_c (by omega)], fun k h1 h2 _ _ => by rw [wI_c (by omega)], fun q hq => by rw [wI_c (by decide), wI_c (by decide)]; exact ⟨rfl, rfl⟩⟩
theorem HuM.i100 {lv at_ j : Nat} {w : Wd} {v : Int32} (h : lv ≤ j) : HuM lv at_ w (wdI w 100 j v) := ⟨rfl, fun k hk => wI_c (by omega), fun _ _ _ _ => by rw [wI_c (by decide)], fun _ _ => by rw [wI_c (by decide)], fun _ _ => by rw [wI_c (by decide)], fun _ _ => by rw [wI_c (by decide)], fun _ _ => by rw [wI_c (by decide), wI_c (by decide)]; exact ⟨rfl, rfl⟩, fun _ _ k hk => by rw [wI_c (by omega)], fun k h1 h2 _ _ => by rw [wI_c (by omega)], fun q hq => by rw [wI_n (by omega), wI_c (by decide)]; exact ⟨rfl, rfl⟩⟩
theorem HuM.iN {lv at_ k0 j : Nat} {w : Wd} {v : Int32} (hk : 93 ≤ k0 ∧ k0 ≤ 98) (h : at_ ≤ j) : HuM lv at_ w (wdI w k0 j v) := ⟨rfl, fun k hk => wI_c (by omega), fun _ _ _ _ => by rw [wI_c (by omega)], fun _ _ => by rw [wI_c (by omega)], fun _ _ => by rw [wI_c (by omega)], fun _ _ => by rw [wI_c (by omega)], fun _ _ => by rw [wI_c (by omega), wI_c (by omega)]; exact ⟨rfl, rfl⟩, fun _ _ k hk => by rw [wI_c (by omega)], fun k h1 h2 q hq => by rw [wI_get, if_neg (by omega)], fun q hq => by rw [wI_c (by omega), wI_c (by omega)]; exact ⟨rfl, rfl⟩⟩
theorem MK.hu {N lv at_ : Nat} {K : Kd} {w w' : Wd} (x : MK N K w) (u : HuM lv at_ w w') : MK N K w' := ⟨by rw [u.2.2.1 0 (by decide) (by decide) (by decide)]; exact x.1, x.2.1, x.2.2.1, fun t ht => by rw [u.2.1 53 (by omega), u.2.1 54 (by omega)]; exact x.2.2.2 t ht⟩
theorem MM.hu {lv at_ : Nat} {K : Kd} {w w' : Wd} (x : MM K w) (u : HuM lv at_ w w') : MM K w' := fun k hk => by rw [u.2.1 55 (by omega)]; exact x k hk
theorem MP.hu {N lv l2 at_ : Nat} {P : Ps} {w w' : Wd} (h : MP N lv P w) (u : HuM l2 at_ w w') (hl : lv ≤ l2) : MP N lv P w' := ⟨h.1, fun q hq => by rw [u.2.2.2.1 _ (by omega)]; exact h.2.1 q hq, fun j hj => by rw [u.2.2.2.2.1 _ (by omega)]; exact h.2.2.1 j hj, by rw [u.2.2.2.2.2.1 _ (by omega)]; exact h.2.2.2.1, h.2.2.2.2⟩
theorem MIn.hu {lv l2 at_ : Nat} {T : List Nat} {w w' : Wd} (h : MIn lv T w) (u : HuM l2 at_ w w') (hl : lv ≤ l2) (hT : T.length ≤ 2000) : MIn lv T w' := by
  refine ⟨by rw [(u.2.2.2.2.2.2.1 lv (by omega)).1]; exact h.1, fun j c hj => ?_⟩
  have hjl : j < T.length := (List.getElem?_eq_some_iff.mp hj).1
  have e : ∀ k, (64 ≤ k ∧ k ≤ 67) ∨ (69 ≤ k ∧ k ≤ 72) → w'.1 k (2000 * lv + j) = w.1 k (2000 * lv + j) := u.2.2.2.2.2.2.2.1 _ (by omega)
  rw [e 64 (by omega), e 65 (by omega), e 66 (by omega), e 67 (by omega)]
  exact h.2 j c hj
/-- nodes in the reference's cells -/
def NdM (at_ : Nat) (L : List Nd) (w : Wd) : Prop := ∀ i e, L[i]? = some e → w.1 93 (at_ + i) = pv e.2.1 ∧ w.1 94 (at_ + i) = mF e.1 ∧ w.1 95 (at_ + i) = mT e.1 ∧ w.1 96 (at_ + i) = mR e.1 ∧ w.1 97 (at_ + i) = mK e.1 ∧ w.1 98 (at_ + i) = nI e.2.2.1
theorem NdM.nil {at_ : Nat} {w : Wd} : NdM at_ [] w := fun i e hi => by simp at hi
theorem NdM.hu {lv at_ a2 : Nat} {L : List Nd} {w w' : Wd} (h : NdM at_ L w) (u : HuM lv a2 w w') (hl : at_ + L.length ≤ a2) : NdM at_ L w' := fun i e hi => by
  have := (List.getElem?_eq_some_iff.mp hi).1
  have g : ∀ k, 93 ≤ k → k ≤ 98 → w'.1 k (at_ + i) = w.1 k (at_ + i) := fun k h1 h2 => u.2.2.2.2.2.2.2.2.1 k h1 h2 _ (by omega)
  rw [g 93 (by omega) (by omega), g 94 (by omega) (by omega), g 95 (by omega) (by omega), g 96 (by omega) (by omega), g 97 (by omega) (by omega), g 98 (by omega) (by omega)]
  exact h i e hi
theorem NdM.cons {at_ : Nat} {e : Nd} {L : List Nd} {w : Wd} (h1 : w.1 93 at_ = pv e.2.1 ∧ w.1 94 at_ = mF e.1 ∧ w.1 95 at_ = mT e.1 ∧ w.1 96 at_ = mR e.1 ∧ w.1 97 at_ = mK e.1 ∧ w.1 98 at_ = nI e.2.2.1) (h2 : NdM (at_ + 1) L w) : NdM at_ (e :: L) w := fun i x hi => by
  cases i with
  | zero =>
    rw [List.getElem?_cons_zero] at hi
    cases hi
    exact h1
  | succ i =>
    rw [List.getElem?_cons_succ] at hi
    have := h2 i x hi
    rw [show at_ + (i + 1) = at_ + 1 + i by omega]
    exact this
theorem NdM.app {at_ : Nat} {L M : List Nd} {w : Wd} (h1 : NdM at_ L w) (h2 : NdM (at_ + L.length) M w) : NdM at_ (L ++ M) w := fun i x hi => by
  rw [List.getElem?_append] at hi
  split at hi
  · exact h1 i x hi
  · have := h2 _ x hi
    rw [show at_ + L.length + (i - L.length) = at_ + i by omega] at this
    exact this
/-- the parent's word -/
def PaM (lv par : Nat) (w : Wd) : Prop := (lv = 0 ∧ par = 0) ∨ (0 < lv ∧ w.1 100 (lv - 1) = pv par)
/-- a node is noted -/
theorem m_notes {N lv F at_ u h c par : Nat} {K : Kd} {P : Ps} {w : Wd} (hl : lv < 16) (hI : MIn lv (movL N K P) w) (hlen : (movL N K P).length ≤ 2000) (hh : w.1 99 lv = nI h) (hc : (movL N K P)[h]? = some c) (h39 : w.1 50 39 = nI F) (h40 : w.1 50 40 = nI u) (h41 : w.1 50 41 = nI at_) (hp : PaM lv par w) (hau : at_ ≤ u) (huF : u ≤ F) (hF : F ≤ 1000) :
    (F ≤ u → f_X10_notes (nI lv) w = some (0, w)) ∧ (¬ F ≤ u → ∃ w', f_X10_notes (nI lv) w = some (1, w') ∧ HuM lv at_ w w' ∧ w'.1 50 40 = nI (u + 1) ∧ w'.1 50 41 = nI (at_ + 1) ∧ (w'.1 93 at_ = pv par ∧ w'.1 94 at_ = mF c ∧ w'.1 95 at_ = mT c ∧ w'.1 96 at_ = mR c ∧ w'.1 97 at_ = mK c ∧ w'.1 98 at_ = nI lv) ∧ w'.1 100 lv = nI at_ ∧ w'.1 99 = w.1 99 ∧ (∀ k, 60 ≤ k → k ≤ 72 → w'.1 k = w.1 k)) := by
  have hcl : h < (movL N K P).length := (List.getElem?_eq_some_iff.mp hc).1
  obtain ⟨t1, t2, t3, t4⟩ := hI.2 h c hc
  unfold f_X10_notes
  rw [h40, h39]
  constructor
  · intro q
    rw [if_pos (show nI u = nI F by rw [show u = F by omega]), zb0, if_pos rfl]
  · intro q
    rw [if_neg (show ¬ nI u = nI F from fun z => by have := (nI_inj (by omega) (by omega)).mp z; omega), lw_e, inb_nI hl (by omega), if_pos rfl, lt_e, nI_clamp (show lv < 2 ^ 31 by omega), wI_c (show (99 : Nat) ≠ 50 by decide), hh, n2000, nI_1]
    have main : ∃ w', f_X10_notes_60 (nI lv) (nI (2000 * lv + h)) ((wdI w 50 40 (nI (u + 1))).1 50 41) (pv par) (wdI w 50 40 (nI (u + 1))) = some (1, w') ∧ HuM lv at_ w w' ∧ w'.1 50 40 = nI (u + 1) ∧ w'.1 50 41 = nI (at_ + 1) ∧ (w'.1 93 at_ = pv par ∧ w'.1 94 at_ = mF c ∧ w'.1 95 at_ = mT c ∧ w'.1 96 at_ = mR c ∧ w'.1 97 at_ = mK c ∧ w'.1 98 at_ = nI lv) ∧ w'.1 100 lv = nI at_ ∧ w'.1 99 = w.1 99 ∧ (∀ k, 60 ≤ k → k ≤ 72 → w'.1 k = w.1 k) := by
      generalize hw1 : wdI w 50 40 (nI (u + 1)) = w1
      have g41 : w1.1 50 41 = nI at_ := by rw [← hw1, wI_n (by decide)]; exact h41
      have g40 : w1.1 50 40 = nI (u + 1) := by rw [← hw1, wI_s]
      have gk : ∀ k, k ≠ 50 → w1.1 k = w.1 k := fun k hk => by rw [← hw1, wI_c hk]
      have gf : HuM lv at_ w w1 := by rw [← hw1]; exact HuM.i50 (Or.inl rfl)
      have i32 : inb (nI (2000 * lv + h)) 32000 = true := inb_nI (by omega) (by omega)
      have i11 : inb (nI at_) 1100 = true := inb_nI (by omega) (by omega)
      have cl1 : (nI at_).toNatClampNeg = at_ := nI_clamp (by omega)
      have cl2 : (nI (2000 * lv + h)).toNatClampNeg = 2000 * lv + h := nI_clamp (by omega)
      unfold f_X10_notes_60
      have e41 : ∀ (k j : Nat) (v : Int32) (x : Wd), k ≠ 50 → (wdI x k j v).1 50 = x.1 50 := fun k j v x hk => wI_c (by omega)
      simp only [lw_e, g41, e41 93 _ _ _ (by decide), e41 94 _ _ _ (by decide), e41 95 _ _ _ (by decide), e41 96 _ _ _ (by decide), e41 97 _ _ _ (by decide), e41 98 _ _ _ (by decide), e41 100 _ _ _ (by decide), i32, i11, cl1, cl2, if_true, inb_nI (show lv < 16 by omega) (by omega), zb1, nI_clamp (show lv < 2 ^ 31 by omega), nI_1]
      refine ⟨_, rfl, ?_, ?_, ?_, ?_, ?_, ?_, ?_⟩
      · exact (((((((gf.tr (HuM.iN (by omega) (Nat.le_refl _))).tr (HuM.iN (by omega) (Nat.le_refl _))).tr (HuM.iN (by omega) (Nat.le_refl _))).tr (HuM.iN (by omega) (Nat.le_refl _))).tr (HuM.iN (by omega) (Nat.le_refl _))).tr (HuM.iN (by omega) (Nat.le_refl _))).tr (HuM.i100 (Nat.le_refl _))).tr (HuM.i50 (Or.inr rfl))
      · simp only [wI_get]; simp; exact g40
      · rw [wI_s]
      · simp only [wI_get]
        simp
        rw [gk 64 (by decide), gk 65 (by decide), gk 66 (by decide), gk 67 (by decide)]
        exact ⟨t1, t2, t3, t4⟩
      · rw [wI_c (by decide), wI_s]
      · funext j
        simp only [wI_get]
        simp
        rw [gk 99 (by decide)]
      · intro k h1 h2
        rw [wI_c (by omega), wI_c (by omega), wI_c (by omega), wI_c (by omega), wI_c (by omega), wI_c (by omega), wI_c (by omega), wI_c (by omega), gk k (by omega)]
    rcases hp with ⟨rfl, rfl⟩ | ⟨hp1, hp2⟩
    · rw [if_pos (show nI 0 = (0 : Int32) from rfl)]
      exact main
    · rw [if_neg (nI_ne0 hp1 (by omega)), show nI lv - (1 : Int32) = nI (lv - 1) from pk_sub (a := lv) (b := 1) (by omega), inb_nI (show lv - 1 < 16 by omega) (by omega), if_pos rfl, nI_clamp (by omega), wI_c (show (100 : Nat) ≠ 50 by decide), hp2]
      exact main
theorem m_nextCheck {N lv : Nat} {K : Kd} {P : Ps} (hl : lv + 2 < 16) (hV : VP N K P) :
    ∀ (D : List Nat) (h n : Nat) (w : Wd), (movL N K P).drop h = D → h + D.length = (movL N K P).length → D.length < n → MK N K w → MP N lv P w → MIn lv (movL N K P) w → w.1 99 lv = nI h →
      (D.filter (gch N K P) = [] → ∃ w', l_X10_nextCheck_0 f_X10_nextCheck_44 f_X10_nextCheck_59 n (nI lv) w = some (0, w') ∧ (∀ at_, HuM lv at_ w w') ∧ w'.1 50 40 = w.1 50 40 ∧ w'.1 50 41 = w.1 50 41 ∧ w'.1 100 = w.1 100) ∧
      (∀ c rest, D.filter (gch N K P) = c :: rest → ∃ w' h', l_X10_nextCheck_0 f_X10_nextCheck_44 f_X10_nextCheck_59 n (nI lv) w = some (1, w') ∧ (∀ at_, HuM lv at_ w w') ∧ w'.1 50 40 = w.1 50 40 ∧ w'.1 50 41 = w.1 50 41 ∧ w'.1 100 = w.1 100 ∧ w'.1 99 lv = nI h' ∧ (movL N K P)[h']? = some c ∧ ((movL N K P).drop (h' + 1)).filter (gch N K P) = rest ∧ MP N (lv + 1) (mkP P c) w') := by
  intro D
  induction D with
  | nil =>
    intro h n w hD hj hn hK hP hI hh
    obtain ⟨n, rfl⟩ : ∃ q, n = q + 1 := ⟨n - 1, by omega⟩
    have hlen := mov_2000 (K := K) hK.2.1 hK.2.2.1 hV.mv
    rw [List.length_nil] at hj
    refine ⟨fun _ => ⟨w, ?_, fun _ => HuM.rf, rfl, rfl, rfl⟩, fun c rest z => by cases z⟩
    show b_X10_nextCheck_0 (l_X10_nextCheck_0 f_X10_nextCheck_44 f_X10_nextCheck_59 n) f_X10_nextCheck_44 f_X10_nextCheck_59 (nI lv) w = _
    unfold b_X10_nextCheck_0
    rw [inb_nI (show lv < 16 by omega) (by omega), if_pos rfl, if_pos rfl, nI_clamp (by omega), hI.1, hh, if_pos (nI_le (by omega) (by omega))]
    rfl
  | cons c D ih =>
    intro h n w hD hj hn hK hP hI hh
    rw [List.length_cons] at hj hn
    obtain ⟨n, rfl⟩ : ∃ q, n = q + 1 := ⟨n - 1, by omega⟩
    have h7 := hK.2.1
    have h5 := hK.2.2.1
    have hlen := mov_2000 (K := K) h7 h5 hV.mv
    obtain ⟨hg, hD2⟩ := drop_c hD
    have hcm : c ∈ movL N K P := List.mem_of_getElem? hg
    have hV2 := mov_VP h7 h5 hV hcm
    obtain ⟨w1, a1, a2, a3⟩ := m_mM (lv := lv) (by omega) hK hP hV hI hg
    obtain ⟨w2, s1, s2⟩ := m_inCheck (lv := lv + 1) (s := (mkP P c).2.2) hV2.mv (hK.up a2) (a3.b h7)
    have u2 : UpM lv 16 w w2 := a2.tr s1.up
    have s2' : f_X10_inCheck (nI (lv + 1)) (w1.1 62 (lv + 1)) w1 = some (b2i (gch N K P c), w2) := by rw [a3.2.2.2.1]; exact s2
    have e1 : l_X10_nextCheck_0 f_X10_nextCheck_44 f_X10_nextCheck_59 (n + 1) (nI lv) w = if gch N K P c = true then some (1, w2) else l_X10_nextCheck_0 f_X10_nextCheck_44 f_X10_nextCheck_59 n (nI lv) (wdI w2 99 lv (nI (h + 1))) := by
      show b_X10_nextCheck_0 (l_X10_nextCheck_0 f_X10_nextCheck_44 f_X10_nextCheck_59 n) f_X10_nextCheck_44 f_X10_nextCheck_59 (nI lv) w = _
      unfold b_X10_nextCheck_0
      rw [inb_nI (show lv < 16 by omega) (by omega), if_pos rfl, if_pos rfl, nI_clamp (show lv < 2 ^ 31 by omega), hI.1, hh, if_neg (nI_ge (by omega) (by omega)), if_pos rfl, a1, bd_s, nI_1, inb_nI (show lv + 1 < 16 by omega) (by omega), if_pos rfl, nI_clamp (show lv + 1 < 2 ^ 31 by omega), s2', bd_s, b2_0, if_pos rfl, if_pos rfl, lw_e, u2.2.1 99 (by omega), hh, nI_1]
      cases gch N K P c <;> rfl
    rw [e1, List.filter_cons]
    cases hgc : gch N K P c with
    | true =>
      rw [if_pos rfl, if_pos rfl]
      refine ⟨fun z => (by cases z), fun c' rest z => ?_⟩
      cases z
      refine ⟨w2, h, rfl, fun _ => u2.hu (Nat.le_refl _) (by omega), u2.2.2.1 40 (by decide), u2.2.2.1 41 (by decide), u2.2.1 100 (by omega), ?_, hg, ?_, a3.up (Nat.le_refl _) (s1.up (lv := lv + 1) (l2 := 16))⟩
      · rw [u2.2.1 99 (by omega)]; exact hh
      · rw [hD2]
    | false =>
      rw [if_neg (by decide), if_neg (by decide)]
      have hu3 : ∀ at_, HuM lv at_ w (wdI w2 99 lv (nI (h + 1))) := fun at_ => (u2.hu (Nat.le_refl _) (by omega)).tr (HuM.i99 (Nat.le_refl _))
      have g40 : (wdI w2 99 lv (nI (h + 1))).1 50 40 = w.1 50 40 := by rw [wI_c (by decide)]; exact u2.2.2.1 40 (by decide)
      have g41 : (wdI w2 99 lv (nI (h + 1))).1 50 41 = w.1 50 41 := by rw [wI_c (by decide)]; exact u2.2.2.1 41 (by decide)
      have g100 : (wdI w2 99 lv (nI (h + 1))).1 100 = w.1 100 := by rw [wI_c (by decide)]; exact u2.2.1 100 (by omega)
      obtain ⟨i1, i2⟩ := ih (h + 1) n (wdI w2 99 lv (nI (h + 1))) hD2 (by omega) (by omega) (hK.hu (hu3 0)) (hP.hu (hu3 0) (Nat.le_refl _)) (hI.hu (hu3 0) (Nat.le_refl _) hlen) (by rw [wI_s])
      refine ⟨fun z => ?_, fun c' rest z => ?_⟩
      · obtain ⟨w', j1, j2, j3, j4, j5⟩ := i1 z
        exact ⟨w', j1, fun at_ => (hu3 at_).tr (j2 at_), j3.trans g40, j4.trans g41, j5.trans g100⟩
      · obtain ⟨w', h', j1, j2, j3, j4, j5, j6⟩ := i2 c' rest z
        exact ⟨w', h', j1, fun at_ => (hu3 at_).tr (j2 at_), j3.trans g40, j4.trans g41, j5.trans g100, j6⟩
