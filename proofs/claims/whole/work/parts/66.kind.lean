/-! ===== kind, hand, clear, field, has ===== -/
theorem RSs.fl {N : Nat} {K : Kd} {a b : Wd} (h : RSs N K a b) : (a.1 0 10 = 0 ∧ b.1 50 25 = 0) ∨ (a.1 0 10 = 1 ∧ b.1 50 25 = 1) := by
  rcases h.2 with q | ⟨_, _, _, _, _, _, _, s, m⟩
  · exact Or.inl q
  · exact Or.inr ⟨s.2.2.2.2.2, m.2.2.2.1⟩
theorem ix_hk {s k : Nat} (hs : s < 2) (hk : k < 8) : (8 : Int32) * nI s + nI k = nI (8 * s + k) := by
  rw [show (8 : Int32) * nI s = nI (8 * s) from pk_mul 8 s, nI_add]
theorem k_hand {N : Nat} {wx wm : Wd} {v1 v2 v3 : Int32} (h : Rl N wx wm) : CallOk N (f_X9_hand N v1 v2 v3 wx) (f_X10_hand v1 v2 v3 wm) := by
  have hh := h
  obtain ⟨K, hB, hL, hH, hF, hT, hC, hS⟩ := hh
  have h7 := hB.2.2.1.2.1
  have e9 : f_X10_in (Int32.toInt64 v3) (0 : Int64) (9 : Int64) wm = some (b2i (inb v3 10), wm) := in0l_e (M := 9) (by omega) wm
  unfold f_X9_hand f_X10_hand
  rw [x_isSide, m_side, bd_s, bd_s, b2_0, b2_0, x_isHandKind, m_handKind, bd_s, bd_s, b2_0, b2_0, e9, bd_s, b2_0, show (9 : Int32) = nI 9 from rfl, lo_le (by omega)]
  by_cases q1 : isS v1 = true
  · rw [if_pos q1, if_pos q1]
    by_cases q2 : isH v2 = true
    · rw [if_pos q2, if_pos q2]
      by_cases q3 : inb v3 (9 + 1) = true
      · obtain ⟨s, hs, rfl⟩ := isS_of q1
        obtain ⟨k, k1, k2, rfl⟩ := isH_of q2
        obtain ⟨c, hc, rfl⟩ := (inb_iff (by omega)).mp q3
        rw [if_pos q3, if_pos (show inb (nI c) 10 = true from q3), ix_hk hs k2, inb_nI (show 8 * s + k < 16 by omega) (by omega), nI_clamp (by omega)]
        rcases hS.fl with ⟨f1, f2⟩ | ⟨f1, f2⟩
        · obtain ⟨v, g1, g2, g3, g4⟩ := hH (8 * s + k) (by omega)
          rw [if_pos f1, if_pos f2, if_pos rfl, if_pos rfl, lt_e, lt_e, if_pos rfl, if_pos rfl, lw_e, lw_e, g2, g3]
          refine ⟨nI v, _, _, rfl, rfl, Rl.lin hB hT hC hS (hL.top h7 (fun k h1 h2 => wI_c (by omega)) (fun k h1 h2 => wI_c (by omega))) (fun j hj => ?_) ?_ (fun k hk => wI_c (by omega)) (fun j hj => by rw [wI_c (by omega)]) rfl (fun k hk => wI_c (by omega)) (fun j hj => by rw [wI_c (by omega)])⟩
          · by_cases e : j = 8 * s + k
            · exact ⟨c, by omega, by rw [e, wI_s], by rw [e, wI_s], fun z => by omega⟩
            · rw [wI_n e, wI_n e]; exact hH j hj
          · unfold RFs at hF ⊢
            rw [wI_c (by decide), wI_c (by decide)]
            exact hF
        · rw [if_neg (by rw [f1]; decide), if_neg (by rw [f2]; decide)]
          exact h.same _ rfl rfl
      · rw [if_neg q3, if_neg (show ¬ inb v3 10 = true from q3)]
        exact h.same _ rfl rfl
    · rw [if_neg q2, if_neg q2]
      exact h.same _ rfl rfl
  · rw [if_neg q1, if_neg q1]
    exact h.same _ rfl rfl
theorem k_has {N : Nat} {wx wm : Wd} {v1 v2 : Int32} (h : Rl N wx wm) : CallOk N (f_X9_has N v1 v2 wx) (f_X10_has v1 v2 wm) := by
  have hh := h
  obtain ⟨K, hB, hL, hH, hF, hT, hC, hS⟩ := hh
  unfold f_X9_has f_X10_has
  rw [x_isSide, m_side, bd_s, bd_s, b2_0, b2_0, x_isHandKind, m_handKind, bd_s, bd_s, b2_0, b2_0]
  by_cases q1 : isS v1 = true
  · rw [if_pos q1, if_pos q1]
    by_cases q2 : isH v2 = true
    · obtain ⟨s, hs, rfl⟩ := isS_of q1
      obtain ⟨k, k1, k2, rfl⟩ := isH_of q2
      unfold f_X9_inHand f_X9_inHand_35 f_X10_has_57
      rw [if_pos q2, if_pos q2, ix_hk hs k2, inb_nI (show 8 * s + k < 16 by omega) (by omega), inb_nI (show 8 * s + k < 256 by omega) (by omega), nI_clamp (by omega), if_pos rfl, if_pos rfl, if_pos rfl]
      rcases hS.2 with ⟨f1, f2⟩ | ⟨oc, os, hw, ps, cs, d, a, sx, m⟩
      · obtain ⟨v, g1, g2, g3, g4⟩ := hH (8 * s + k) (by omega)
        rw [if_pos f1, if_pos f2, bd_s, g2, g3]
        exact h.same _ rfl rfl
      · have e1 := (sx.2.2.1.2.2.2.1.2.1 (8 * s + k) (by omega)).1
        have e2 := (m.1.2.2.1 (8 * s + k) (by omega)).1
        rw [Nat.mul_zero, Nat.zero_add] at e2
        rw [if_neg (by rw [sx.2.2.2.2.2]; decide), if_neg (by rw [m.2.2.2.1]; decide), if_pos rfl, bd_s, e1, e2]
        exact h.same _ rfl rfl
    · rw [if_neg q2, if_neg q2]
      exact h.same _ rfl rfl
  · rw [if_neg q1, if_neg q1]
    exact h.same _ rfl rfl
theorem k_field {N : Nat} {wx wm : Wd} {v1 : Int32} (h : Rl N wx wm) : CallOk N (f_X9_field N v1 wx) (f_X10_field v1 wm) := by
  have hh := h
  obtain ⟨K, hB, hL, hH, hF, hT, hC, hS⟩ := hh
  have h7 := hB.2.2.1.2.1
  have h5 := hB.2.2.1.2.2.1
  have hNN := NN_le h7
  unfold f_X9_field f_X10_field
  rw [x_isField hB.1 h7, m_isField hB.2.2.1.1 h7 h5, bd_s, bd_s, b2_0, b2_0]
  by_cases q1 : inb v1 (N * N) = true
  · obtain ⟨q, hq, rfl⟩ := (inb_iff (by omega)).mp q1
    unfold f_X9_field_27 f_X10_field_24 f_X9_field_29 f_X10_field_26
    rw [if_pos q1, if_pos q1, if_pos q1, inb_nI (show q < 784 by omega) (by omega), if_pos rfl, nI_clamp (by omega)]
    rcases hS.2 with ⟨f1, f2⟩ | ⟨oc, os, hw, ps, cs, d, a, s, m⟩
    · rw [if_pos f1, if_pos f2]
      exact h.same _ rfl rfl
    · have e1 := (s.2.2.1.2.2.2.1.1 q hq).1
      have e2 := (m.1.2.1 q (by omega)).1
      rw [Nat.mul_zero, Nat.zero_add] at e2
      rw [if_neg (by rw [s.2.2.2.2.2]; decide), if_neg (by rw [m.2.2.2.1]; decide), e1, e2]
      exact h.same _ rfl rfl
  · rw [if_neg q1, if_neg q1]
    exact h.same _ rfl rfl
theorem k_clear {N : Nat} {wx wm : Wd} (h : Rl N wx wm) : CallOk N (f_X9_clear N wx) (f_X10_clear wm) := by
  have hh := h
  obtain ⟨K, hB, hL, hH, hF, hT, hC, hS⟩ := hh
  have h7 := hB.2.2.1.2.1
  unfold f_X9_clear f_X10_clear
  rcases hS.2 with ⟨f1, f2⟩ | ⟨oc, os, hw, ps, cs, d, a, s, m⟩
  · rw [if_pos f1, if_pos f2]
    exact h.same _ rfl rfl
  · have hc1 : wx.2.2.1 = oc := by rw [s.2.1]
    have hok : okP oc = true := by
      rcases s.1 with ⟨rfl, _⟩ | ⟨rfl, _⟩ <;> rfl
    have hoc : oc = 35 ∨ oc = 39 := by have := s.1; omega
    rw [if_neg (by rw [s.2.2.2.2.2]; decide), if_neg (by rw [m.2.2.2.1]; decide), lw_e, lw_e, lw_e, lw_e, show (wdI (wdI wx 0 10 0) 29 5 0).2.2.1 = oc from hc1, if_pos hok, wI_c (by omega), wI_c (by omega), s.2.2.2.1.1.2.2.1, wI_n (by decide), wI_n (by decide), m.2.2.2.2.2.1]
    obtain ⟨b1, b2, b3, b4⟩ := hB
    refine ⟨nI d, _, _, rfl, rfl, K, ⟨?_, b2.of (fun k h1 h2 => ?_) ⟨?_, ?_⟩ ?_, ⟨?_, b3.2.1, b3.2.2.1, fun t ht => ?_⟩, fun k hk => ?_⟩, hL.top h7 (fun k h1 h2 => ?_) (fun k h1 h2 => ?_), hH.top ?_ ?_, ?_, hT.top (fun k hk => ?_) ?_ ?_, ?_, ?_, Or.inl ⟨?_, ?_⟩⟩
    · rw [wI_c (by decide), wI_n (by decide)]; exact b1
    · rw [wI_c (by omega), wI_c (by omega)]
    · rw [wI_c (by omega), wI_c (by omega)]
    · rw [wI_c (by omega), wI_c (by omega)]
    · rw [wI_c (by omega), wI_c (by omega)]
    · rw [wI_n (by decide), wI_n (by decide)]; exact b3.1
    · rw [wI_c (by decide), wI_c (by decide), wI_c (by decide), wI_c (by decide)]; exact b3.2.2.2 t ht
    · rw [wI_c (by decide), wI_c (by decide)]; exact b4 k hk
    · rw [wI_c (by omega), wI_c (by omega)]
    · rw [wI_c (by omega), wI_c (by omega)]
    · rw [wI_c (by omega), wI_c (by omega)]
    · rw [wI_c (by omega), wI_c (by omega)]
    · unfold RFs at hF ⊢
      rw [wI_c (by decide), wI_n (by decide), wI_n (by decide), wI_n (by decide)]; exact hF
    · rw [wI_c (by omega), wI_c (by omega)]
    · rw [wI_c (by omega), wI_c (by omega)]
    · rw [wI_n (by decide), wI_n (by decide)]
    · obtain ⟨F, u, T, c1, c2, c3, c4⟩ := hC
      refine ⟨F, u, [], c1, ⟨?_, ?_⟩, ⟨?_, ?_⟩, ?_, fun i e hi => by simp at hi, ⟨fun i e hi => by simp at hi, ?_, by simp⟩, Or.inl rfl⟩
      · rw [wI_n (by decide), wI_c (by decide)]; exact c2.1
      · rw [wI_n (by decide), wI_n (by decide)]; exact c2.2
      · rw [wI_n (by decide), wI_c (by decide)]; exact c3.1
      · rw [wI_n (by decide), wI_n (by decide)]; exact c3.2
      · rw [wI_s]; rfl
      · rw [wI_s]; rfl
    · exact hS.1
    · rw [wI_c (by decide), wI_s]
    · rw [wI_n (by decide), wI_s]
/-! a kind told -/
def tbF (x n : Nat) : Nat := (List.range n).foldl (fun a b => if bt x b = true then a ||| 2 ^ trn b else a) 0
theorem tbF_s {x n : Nat} : tbF x (n + 1) = if bt x n = true then tbF x n ||| 2 ^ trn n else tbF x n := by
  unfold tbF
  rw [List.range_succ, List.foldl_append]
  rfl
theorem tbF_lt {x : Nat} : ∀ n, n ≤ 12 → tbF x n < 4096
  | 0, _ => by unfold tbF; simp
  | n + 1, h => by
    have h1 := tbF_lt (x := x) n (by omega)
    have h2 := (trn_lt n (by omega)).1
    rw [tbF_s]
    split
    · exact Nat.or_lt_two_pow (n := 12) h1 (Nat.pow_lt_pow_right (by decide) h2)
    · exact h1
theorem x_tbl {N x : Nat} (hx : x < 1024) (K : Int32 → Wd → Option (Int32 × Wd)) (w : Wd) : ∀ (m i : Nat), i + m = 10 → ∀ n, m < n → l_X8_turnedBits_4 N K n (nI x) (nI (tbF x i)) (nI i) w = K (nI (tbF x 10)) w
  | 0, i, hi, n, hn => by
    obtain ⟨n, rfl⟩ : ∃ k, n = k + 1 := ⟨n - 1, by omega⟩
    have : i = 10 := by omega
    subst this
    show b_X8_turnedBits_4 N (l_X8_turnedBits_4 N K n) K (nI x) (nI (tbF x 10)) (nI 10) w = _
    unfold b_X8_turnedBits_4
    rw [if_pos (show (10 : Int32) ≤ nI 10 by decide)]
  | m + 1, i, hi, n, hn => by
    obtain ⟨n, rfl⟩ : ∃ k, n = k + 1 := ⟨n - 1, by omega⟩
    have ih := x_tbl (N := N) hx K w m (i + 1) (by omega) n (by omega)
    have ht := (trn_lt i (by omega)).1
    rw [tbF_s] at ih
    show b_X8_turnedBits_4 N (l_X8_turnedBits_4 N K n) K (nI x) (nI (tbF x i)) (nI i) w = _
    unfold b_X8_turnedBits_4 f_X8_turnedBits_28
    rw [if_neg (show ¬ (10 : Int32) ≤ nI i from nI_ge (b := 10) (by omega) (by omega)), nI_1]
    by_cases q : bt x i = true
    · rw [if_neg (fun z => by rw [(bit_0 (by omega) (by omega)).mp z] at q; cases q), inb_nI (show i < 12 by omega) (by omega), if_pos rfl, nI_clamp (by omega), turned_e i (by omega), show (1 : Int32) <<< (nI (trn i) &&& 31) = nI (2 ^ trn i) from by
        rw [show (1 : Int32) = nI 1 from rfl, pk_shlN _ _ (shl_ok (trn i) (by omega)) (by have := Nat.pow_lt_pow_right (a := 2) (by decide) ht; omega), Nat.one_mul], nI_or, lt_e]
      rw [if_pos q] at ih
      exact ih
    · rw [if_pos ((bit_0 (by omega) (by omega)).mpr (by simpa using q))]
      rw [if_neg q] at ih
      exact ih
theorem x_turned {N x : Nat} (hx : x < 1024) (w : Wd) : f_X8_turnedBits N (nI x) w = some (nI (tbits x), w) := x_tbl (N := N) hx (f_X8_turnedBits_34 N) w 10 0 (by omega) FU (FU_big (by omega))
theorem tbits_lt {x : Nat} : tbits x < 4096 := tbF_lt 10 (by omega)
/-- kind t told anew -/
def kU (K : Kd) (t s r : Nat) : Kd := (fun q => if q = t then s else K.1 q, fun q => if q = t then r else K.2.1 q, K.2.2)
def kMk (K : Kd) (t m : Nat) : Kd := (K.1, K.2.1, fun q => if q = t then m else K.2.2 q)
theorem sdir_u {K : Kd} {t s r i : Nat} (ht : t < 16) (hi : i < 33) : sdir (kU K t s r) i = (if i = 1 + t then s else if i = 17 + t then tbits s else sdir K i) ∧ rdir (kU K t s r) i = (if i = 1 + t then r else if i = 17 + t then tbits r else rdir K i) := by
  unfold sdir rdir kU
  dsimp only
  rcases Nat.eq_zero_or_pos i with rfl | hp
  · rw [if_pos rfl, if_pos rfl, if_neg (by omega), if_neg (by omega), if_pos rfl, if_neg (by omega), if_neg (by omega), if_pos rfl]; exact ⟨rfl, rfl⟩
  · have h0 : ¬ i = 0 := by omega
    rw [if_neg h0, if_neg h0, if_neg h0, if_neg h0]
    have hs : sd i = (i - 1) / 16 := rfl
    have hp : tp i = (i - 1) % 16 := rfl
    by_cases q1 : i = 1 + t
    · have a : sd i = 0 := by omega
      have b : tp i = t := by omega
      rw [if_pos a, if_pos a, if_pos b, if_pos b, if_pos q1, if_pos q1, if_pos a]
      exact ⟨rfl, rfl⟩
    · by_cases q2 : i = 17 + t
      · have a : ¬ sd i = 0 := by omega
        have b : tp i = t := by omega
        rw [if_neg a, if_neg a, if_pos b, if_pos b, if_neg q1, if_neg q1, if_pos q2, if_pos q2, if_neg a]
        exact ⟨rfl, rfl⟩
      · have b : ¬ tp i = t := by omega
        rw [if_neg b, if_neg b, if_neg q1, if_neg q1, if_neg q2, if_neg q2]
        exact ⟨rfl, rfl⟩
theorem x_tell {N t s r : Nat} {K : Kd} {w : Wd} (hK : XK N K w) (hD : XD K w) (ht : t < 16) (hs : s < 1024) (hr : r < 256) : ∃ w', f_X8_tell N (nI t) (nI s) (nI r) w = some ((), w') ∧ XK N (kU K t s r) w' ∧ XD (kU K t s r) w' ∧ w'.2 = w.2 ∧ ∀ k, k ≠ 6 → k ≠ 7 → k ≠ 8 → k ≠ 9 → w'.1 k = w.1 k := by
  refine ⟨wdI (wdI (wdI (wdI (wdI (wdI w 6 t (nI s)) 7 t (nI r)) 8 (1 + t) (nI s)) 9 (1 + t) (nI r)) 8 (17 + t) (nI (tbits s))) 9 (17 + t) (nI (tbits r)), ?_, ?_, ?_, rfl, fun k h6 h7 h8 h9 => ?_⟩
  · unfold f_X8_tell
    rw [inb_nI ht (by omega), if_pos rfl, lw_e, if_pos rfl, lw_e, show (1 : Int32) + nI t = nI (1 + t) from nI_add 1 t, show (17 : Int32) + nI t = nI (17 + t) from nI_add 17 t, inb_nI (show 1 + t < 33 by omega) (by omega), if_pos rfl, lw_e, if_pos rfl, lw_e, x_turned hs, bd_s, inb_nI (show 17 + t < 33 by omega) (by omega), if_pos rfl, lw_e, x_turned (by omega), bd_s, if_pos rfl, lw_e, nI_clamp (show t < 2 ^ 31 by omega), nI_clamp (show 1 + t < 2 ^ 31 by omega), nI_clamp (show 17 + t < 2 ^ 31 by omega)]
  · obtain ⟨a1, a2, a3, a4, a5, a6⟩ := hK
    refine ⟨?_, ?_, a3, a4, fun d hd f hf => ?_, fun q hq => ?_⟩
    · rw [wI_c (by decide), wI_c (by decide), wI_c (by decide), wI_c (by decide), wI_c (by decide), wI_c (by decide)]; exact a1
    · rw [wI_c (by decide), wI_c (by decide), wI_c (by decide), wI_c (by decide), wI_c (by decide), wI_c (by decide)]; exact a2
    · rw [wI_c (by decide), wI_c (by decide), wI_c (by decide), wI_c (by decide), wI_c (by decide), wI_c (by decide)]; exact a5 d hd f hf
    · have e6 : (wdI (wdI (wdI (wdI (wdI (wdI w 6 t (nI s)) 7 t (nI r)) 8 (1 + t) (nI s)) 9 (1 + t) (nI r)) 8 (17 + t) (nI (tbits s))) 9 (17 + t) (nI (tbits r))).1 6 q = (wdI w 6 t (nI s)).1 6 q := by
        rw [wI_c (by decide), wI_c (by decide), wI_c (by decide), wI_c (by decide), wI_c (by decide)]
      have e7 : (wdI (wdI (wdI (wdI (wdI (wdI w 6 t (nI s)) 7 t (nI r)) 8 (1 + t) (nI s)) 9 (1 + t) (nI r)) 8 (17 + t) (nI (tbits s))) 9 (17 + t) (nI (tbits r))).1 7 q = (wdI (wdI w 6 t (nI s)) 7 t (nI r)).1 7 q := by
        rw [wI_c (by decide), wI_c (by decide), wI_c (by decide), wI_c (by decide)]
      rw [e6, e7]
      unfold kU
      dsimp only
      by_cases e : q = t
      · rw [if_pos e, if_pos e, e, wI_s, wI_s]; exact ⟨rfl, rfl, hs, hr⟩
      · rw [wI_n e, wI_n e, wI_c (by decide), if_neg e, if_neg e]; exact a6 q hq
  · intro i hi
    have hu := sdir_u (K := K) (s := s) (r := r) ht hi
    have hd := hD i hi
    have l1 := tbits_lt (x := s)
    have l2 := tbits_lt (x := r)
    rw [hu.1, hu.2]
    rw [wI_c (show (8 : Nat) ≠ 9 by decide)]
    by_cases q2 : i = 17 + t
    · have q1 : ¬ i = 1 + t := by omega
      rw [if_neg q1, if_pos q2, if_neg q1, if_pos q2, q2, wI_s, wI_s]
      exact ⟨rfl, rfl, l1, l2⟩
    · rw [wI_n q2, wI_n q2, wI_c (show (8 : Nat) ≠ 9 by decide), wI_c (show (9 : Nat) ≠ 8 by decide)]
      by_cases q1 : i = 1 + t
      · rw [if_pos q1, if_pos q1, q1, wI_s, wI_s]
        exact ⟨rfl, rfl, by omega, by omega⟩
      · rw [wI_n q1, wI_n q1, if_neg q1, if_neg q1, if_neg q2, if_neg q2, wI_c (by decide), wI_c (by decide), wI_c (by decide), wI_c (by decide), wI_c (by decide)]
        exact hd
  · rw [wI_c h9, wI_c h8, wI_c h9, wI_c h8, wI_c h7, wI_c h6]
theorem x_areSteps {N : Nat} (v : Int32) (w : Wd) : f_X8_areSteps N v w = some (b2i (inb v 1024), w) := by
  unfold f_X8_areSteps f_X8_areSteps_15 f_X8_areSteps_16
  rcases pk_ix v (n := 1024) (by omega) with h | h | ⟨j, hj, rfl⟩
  · have : inb v 1024 = false := by
      cases q : inb v 1024 with
      | false => rfl
      | true => exact absurd (Or.inl h) (inb_in q)
    rw [if_pos h, this]; rfl
  · have h0 : inb v 1024 = false := by
      cases q : inb v 1024 with
      | false => rfl
      | true =>
        obtain ⟨j, hj, rfl⟩ := (inb_iff (by omega)).mp q
        exact absurd h (nI_ge hj (by omega))
    rw [if_pos (show (1024 : Int32) ≤ v from h), h0]
    split <;> rfl
  · rw [if_neg (nI_pos (by omega)), if_neg (show ¬ (1024 : Int32) ≤ nI j from nI_ge (b := 1024) hj (by omega)), inb_nI hj (by omega)]; rfl
theorem x_areRuns {N : Nat} (v : Int32) (w : Wd) : f_X8_areRuns N v w = some (b2i (inb v 256), w) := by
  unfold f_X8_areRuns f_X8_areRuns_15 f_X8_areRuns_16
  rcases pk_ix v (n := 256) (by omega) with h | h | ⟨j, hj, rfl⟩
  · have : inb v 256 = false := by
      cases q : inb v 256 with
      | false => rfl
      | true => exact absurd (Or.inl h) (inb_in q)
    rw [if_pos h, this]; rfl
  · have h0 : inb v 256 = false := by
      cases q : inb v 256 with
      | false => rfl
      | true =>
        obtain ⟨j, hj, rfl⟩ := (inb_iff (by omega)).mp q
        exact absurd h (nI_ge hj (by omega))
    rw [if_pos (show (256 : Int32) ≤ v from h), h0]
    split <;> rfl
  · rw [if_neg (nI_pos (by omega)), if_neg (show ¬ (256 : Int32) ≤ nI j from nI_ge (b := 256) hj (by omega)), inb_nI hj (by omega)]; rfl
/-- both told: the relation again, with the new kinds -/
theorem k_told {N k s r s' r' m : Nat} {wx wm : Wd} (h : Rl N wx wm) (hk : k < 8) (hs : s < 1024) (hr : r < 256) (hs' : s' < 1024) (hr' : r' < 256) (hm : m < 4) : CallOk N (f_X9_kind_75 N (nI k) (nI s) (nI r) (nI s') (nI r') (nI m) wx) (f_X10_kind_109 (nI k) (nI s) (nI r) (nI s') (nI r') (nI m) wm) := by
  have hh := h
  obtain ⟨K, hB, hL, hH, hF, hT, hC, hS⟩ := hh
  obtain ⟨b1, ⟨b2, b2', b2'', b2m⟩, b3, b4⟩ := hB
  have h7 := b3.2.1
  unfold f_X9_kind_75 f_X10_kind_109
  rcases hS.fl with ⟨f1, f2⟩ | ⟨f1, f2⟩
  · obtain ⟨w1, a1, a2, a3, a4, a5⟩ := x_tell b2 b2' (show k < 16 by omega) hs hr
    obtain ⟨w2, c1, c2, c3, c4, c5⟩ := x_tell a2 a3 (show k + 8 < 16 by omega) hs' hr'
    have x5 : ∀ q, q ≠ 6 → q ≠ 7 → q ≠ 8 → q ≠ 9 → w2.1 q = wx.1 q := fun q h6 h7 h8 h9 => (c5 q h6 h7 h8 h9).trans (a5 q h6 h7 h8 h9)
    have et : f_X10_tell (nI k) (nI s) (nI r) (nI s') (nI r') (nI m) wm = some ((), wdI (wdI (wdI (wdI (wdI wm 53 k (nI s)) 54 k (nI r)) 53 (k + 8) (nI s')) 54 (k + 8) (nI r')) 55 k (nI m)) := by
      unfold f_X10_tell
      rw [inb_nI (show k < 16 by omega) (by omega), if_pos rfl, lw_e, if_pos rfl, lw_e, show (8 : Int32) + nI k = nI (k + 8) from by rw [show (8 : Int32) + nI k = nI (8 + k) from nI_add 8 k, Nat.add_comm], inb_nI (show k + 8 < 16 by omega) (by omega), if_pos rfl, lw_e, if_pos rfl, lw_e, inb_nI hk (by omega), if_pos rfl, lw_e, nI_clamp (show k < 2 ^ 31 by omega), nI_clamp (show k + 8 < 2 ^ 31 by omega)]
    rw [if_pos f1, if_pos f2, a1, bd_s, show nI k + (8 : Int32) = nI (k + 8) from nI_add k 8, c1, bd_s, inb_nI hk (by omega), if_pos rfl, lw_e, nI_clamp (show k < 2 ^ 31 by omega), et, bd_s]
    have y : ∀ q, q < 53 ∨ 55 < q → (wdI (wdI (wdI (wdI (wdI wm 53 k (nI s)) 54 k (nI r)) 53 (k + 8) (nI s')) 54 (k + 8) (nI r')) 55 k (nI m)).1 q = wm.1 q := by
      intro q hq
      rw [wI_c (by omega), wI_c (by omega), wI_c (by omega), wI_c (by omega), wI_c (by omega)]
    have x : ∀ q, q < 6 ∨ 10 < q → (wdI w2 10 k (nI m)).1 q = wx.1 q := fun q hq => (wI_c (by omega)).trans (x5 q (by omega) (by omega) (by omega) (by omega))
    refine ⟨1, _, _, rfl, rfl, kMk (kU (kU K k s r) (k + 8) s' r') k m, ⟨?_, ⟨?_, ?_, ?_, ?_⟩, ⟨?_, h7, b3.2.2.1, fun t ht => ?_⟩, fun q hq => ?_⟩, hL.top h7 (fun k h1 h2 => x k (by omega)) (fun k h1 h2 => y k (by omega)), hH.top (x 1 (by omega)) (y 77 (by omega)), ?_, hT.top (fun k hk => x k (by omega)) (y 102 (by omega)) (by rw [y 50 (by omega)]), hC.top (fun k h1 h2 => x k (by omega)) (fun k h1 h2 => y k (by omega)) (fun j hj => by rw [y 50 (by omega)]), ?_, Or.inl ⟨?_, ?_⟩⟩
    · rw [x 0 (by omega)]; exact b1
    · unfold XK at c2 ⊢
      rw [wI_c (by decide), wI_c (by decide), wI_c (by decide), wI_c (by decide)]
      exact c2
    · unfold XD at c3 ⊢
      rw [wI_c (by decide), wI_c (by decide)]
      exact c3
    · obtain ⟨d1, d2, d3, d4, d5⟩ := b2''
      refine ⟨by rw [x 2 (by omega)]; exact d1, by rw [x 2 (by omega)]; exact d2, fun f hf => by rw [x 4 (by omega)]; exact d3 f hf, fun s hs f hf => by rw [x 5 (by omega)]; exact d4 s hs f hf, fun q hq => ?_⟩
      unfold kMk kU
      dsimp only
      by_cases e : q = k
      · rw [e, wI_s, if_pos rfl]; exact ⟨rfl, hm⟩
      · rw [wI_n e, if_neg e, x5 10 (by decide) (by decide) (by decide) (by decide)]; exact d5 q hq
    · rw [x 27 (by omega)]; exact b2m
    · rw [y 50 (by omega)]; exact b3.1
    · have e3 : (wdI (wdI (wdI (wdI (wdI wm 53 k (nI s)) 54 k (nI r)) 53 (k + 8) (nI s')) 54 (k + 8) (nI r')) 55 k (nI m)).1 53 t = (wdI (wdI wm 53 k (nI s)) 53 (k + 8) (nI s')).1 53 t := by
        rw [wI_c (by decide), wI_c (by decide)]
        by_cases e : t = k + 8
        · rw [e, wI_s, wI_s]
        · rw [wI_n e, wI_n e, wI_c (by decide)]
      have e4 : (wdI (wdI (wdI (wdI (wdI wm 53 k (nI s)) 54 k (nI r)) 53 (k + 8) (nI s')) 54 (k + 8) (nI r')) 55 k (nI m)).1 54 t = (wdI (wdI wm 54 k (nI r)) 54 (k + 8) (nI r')).1 54 t := by
        rw [wI_c (by decide)]
        by_cases e : t = k + 8
        · rw [e, wI_s, wI_s]
        · rw [wI_n e, wI_n e, wI_c (by decide)]
          by_cases e : t = k
          · rw [e, wI_s, wI_s]
          · rw [wI_n e, wI_n e, wI_c (by decide)]
      rw [e3, e4]
      unfold kMk kU
      dsimp only
      by_cases e : t = k + 8
      · rw [e, wI_s, wI_s, if_pos rfl, if_pos rfl]; exact ⟨rfl, rfl, hs', hr'⟩
      · rw [wI_n e, wI_n e, if_neg e, if_neg e]
        by_cases e : t = k
        · rw [e, wI_s, wI_s, if_pos rfl, if_pos rfl]; exact ⟨rfl, rfl, hs, hr⟩
        · rw [wI_n e, wI_n e, if_neg e, if_neg e]; exact b3.2.2.2 t ht
    · unfold kMk kU
      dsimp only
      by_cases e : q = k
      · rw [e, wI_s, if_pos rfl]; exact ⟨rfl, hm⟩
      · rw [wI_n e, if_neg e, wI_c (by decide), wI_c (by decide), wI_c (by decide), wI_c (by decide)]; exact b4 q hq
    · unfold RFs at hF ⊢
      rw [x 0 (by omega), y 50 (by omega)]; exact hF
    · show (w2.2.2 = _ ∨ w2.2.2 = _)
      rw [c4, a4]; exact hS.1
    · rw [x 0 (by omega)]; exact f1
    · rw [y 50 (by omega)]; exact f2
  · rw [if_neg (by rw [f1]; decide), if_neg (by rw [f2]; decide)]
    exact h.same _ rfl rfl
theorem k_kind {N : Nat} {wx wm : Wd} {v1 v2 v3 v4 v5 v6 : Int32} (h : Rl N wx wm) : CallOk N (f_X9_kind N v1 v2 v3 v4 v5 v6 wx) (f_X10_kind v1 v2 v3 v4 v5 v6 wm) := by
  have e1 : f_X10_in (Int32.toInt64 v1) (0 : Int64) (7 : Int64) wm = some (b2i (inb v1 8), wm) := in0l_e (M := 7) (by omega) wm
  have es : ∀ v : Int32, f_X10_in (Int32.toInt64 v) (0 : Int64) (1023 : Int64) wm = some (b2i (inb v 1024), wm) := fun v => in0l_e (M := 1023) (by omega) wm
  have er : ∀ v : Int32, f_X10_in (Int32.toInt64 v) (0 : Int64) (255 : Int64) wm = some (b2i (inb v 256), wm) := fun v => in0l_e (M := 255) (by omega) wm
  have e6 : f_X10_in (Int32.toInt64 v6) (0 : Int64) (3 : Int64) wm = some (b2i (inb v6 4), wm) := in0l_e (M := 3) (by omega) wm
  have no : CallOk N (some ((-2 : Int32), wx)) (some ((-2 : Int32), wm)) := h.same _ rfl rfl
  have h7 : ∀ A B : Option (Int32 × Wd), (if v1 < (0 : Int32) then B else if (7 : Int32) < v1 then B else A) = if inb v1 8 = true then A else B := by
    intro A B
    rw [← lo_le (n := 7) (by omega)]
    by_cases z : v1 < 0
    · rw [if_pos z, if_pos z]
    · rw [if_neg z, if_neg z]
      by_cases z2 : (7 : Int32) < v1
      · rw [if_pos z2, if_neg (fun z3 => by
          have z3' : v1 ≤ (7 : Int32) := z3
          rw [Int32.le_iff_toInt_le] at z3'
          rw [Int32.lt_iff_toInt_lt] at z2
          omega)]
      · rw [if_neg z2, if_pos (show v1 ≤ nI 7 from by
          show v1 ≤ (7 : Int32)
          rw [Int32.le_iff_toInt_le]
          rw [Int32.lt_iff_toInt_lt] at z2
          omega)]
  unfold f_X9_kind f_X10_kind f_X10_kind_79 f_X10_kind_80 f_X9_kind_24 f_X9_kind_54 f_X10_kind_106
  rw [h7, e1, bd_s, b2_0, x_areSteps, bd_s, b2_0, es, bd_s, b2_0]
  simp only [if_true]
  by_cases q1 : inb v1 8 = true
  · rw [if_pos q1, if_pos q1]
    by_cases q2 : inb v2 1024 = true
    · rw [if_pos q2, if_pos q2, x_areRuns, bd_s, b2_0, er, bd_s, b2_0]
      by_cases q3 : inb v3 256 = true
      · rw [if_pos q3, if_pos q3, x_areSteps, bd_s, b2_0, es, bd_s, b2_0]
        by_cases q4 : inb v4 1024 = true
        · rw [if_pos q4, if_pos q4, x_areRuns, bd_s, b2_0, er, bd_s, b2_0]
          by_cases q5 : inb v5 256 = true
          · rw [if_pos q5, if_pos q5, e6, bd_s, b2_0, show (3 : Int32) = nI 3 from rfl, lo_le (by omega)]
            by_cases q6 : inb v6 (3 + 1) = true
            · obtain ⟨k, hk, rfl⟩ := (inb_iff (by omega)).mp q1
              obtain ⟨s, hs, rfl⟩ := (inb_iff (by omega)).mp q2
              obtain ⟨r, hr, rfl⟩ := (inb_iff (by omega)).mp q3
              obtain ⟨s', hs', rfl⟩ := (inb_iff (by omega)).mp q4
              obtain ⟨r', hr', rfl⟩ := (inb_iff (by omega)).mp q5
              obtain ⟨m, hm, rfl⟩ := (inb_iff (by omega)).mp q6
              have kt := k_told h hk hs hr hs' hr' hm
              rw [if_pos q6, if_pos (show inb (nI m) 4 = true from q6), if_neg (show ¬ (1 : Int32) = 0 by decide)]
              by_cases qk : nI k = (0 : Int32)
              · rw [if_pos qk, if_pos qk, nI_or, nI_or]
                have p1 : (0 : Int32) < nI m ↔ 0 < m := nI_ltI (a := 0) (by omega) (by omega)
                have p2 : (0 : Int32) < nI s' ↔ 0 < s' := nI_ltI (a := 0) (by omega) (by omega)
                have p3 : nI r' ≤ (0 : Int32) ↔ r' ≤ 0 := nI_leI (b := 0) (by omega) (by omega)
                have p4 : (nI (s' ||| r' ||| m) = (0 : Int32)) ↔ (s' = 0 ∧ r' = 0 ∧ m = 0) := by
                  have lt1 : s' ||| r' ||| m < 2 ^ 10 := Nat.or_lt_two_pow (Nat.or_lt_two_pow hs' (by omega)) (by omega)
                  rw [show (0 : Int32) = nI 0 from rfl, nI_inj (by omega) (by omega), Nat.or_eq_zero_iff, Nat.or_eq_zero_iff, and_assoc]
                by_cases z1 : 0 < m
                · rw [if_pos (p1.mpr z1), if_neg (fun z => by have := p4.mp z; omega)]
                  exact no
                · rw [if_neg (fun z => z1 (p1.mp z))]
                  by_cases z2 : 0 < s'
                  · rw [if_pos (p2.mpr z2), if_neg (fun z => by have := p4.mp z; omega)]
                    exact no
                  · rw [if_neg (fun z => z2 (p2.mp z))]
                    by_cases z3 : r' ≤ 0
                    · rw [if_pos (p3.mpr z3), if_pos (p4.mpr (by omega))]
                      exact kt
                    · rw [if_neg (fun z => z3 (p3.mp z)), if_neg (fun z => by have := p4.mp z; omega)]
                      exact no
              · rw [if_neg qk, if_neg qk]
                exact kt
            · rw [if_neg q6, if_neg (show ¬ inb v6 4 = true from q6)]
              exact no
          · rw [if_neg q5, if_neg q5]
            exact no
        · rw [if_neg q4, if_neg q4]
          exact no
      · rw [if_neg q3, if_neg q3]
        exact no
    · rw [if_neg q2, if_neg q2]
      exact no
  · rw [if_neg q1, if_neg q1]
    exact no
