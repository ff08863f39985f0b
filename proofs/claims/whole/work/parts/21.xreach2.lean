/-! ===== the class: Table.reach ===== -/
theorem turned_e : ∀ b, b < 12 → (stV 0).getD b 0 = nI (trn b) := by decide
theorem ends_N : ∀ N, N < 8 → 5 ≤ N → ∀ d, d < 8 → ∀ f, f < N * N → ends N d (N - 1) (nx N d f) = true := by decide +kernel
theorem ends_le {N d : Nat} {o : Option Nat} : ∀ (m k : Nat), ends N d k o = true → ends N d (k + m) o = true
  | 0, _, h => h
  | m + 1, k, h => by
    have := ends_up _ _ (ends_le m k h)
    exact this
theorem rayO_le {N d : Nat} {bo : Nat → Nat} {o : Option Nat} : ∀ (m k : Nat), ends N d k o = true → rayO N d bo (k + m) o = rayO N d bo k o
  | 0, _, _ => rfl
  | m + 1, k, h => (rayO_st (k + m) o (ends_le m k h)).trans (rayO_le m k h)
theorem xidx {N d f : Nat} : nI d * nI (N * N) + nI f = nI (d * (N * N) + f) := by rw [pk_mul, nI_add]
theorem dNN {N d f : Nat} (hd : d < 12) (hf : f < N * N) : d * (N * N) + f < 12 * (N * N) := by
  have : (d + 1) * (N * N) ≤ 12 * (N * N) := Nat.mul_le_mul_right _ (by omega)
  rw [Nat.add_mul] at this
  omega
theorem sd_0 {i : Nat} (h : sd i < 2) : (nI (sd i) = (0 : Int32)) ↔ sd i = 0 := by
  rcases (show sd i = 0 ∨ sd i = 1 by omega) with e | e <;> rw [e] <;> decide
theorem x_r52 {K127 : Int32 → Int32 → Int32 → Int32 → Int32 → Wd → Option (Int32 × Wd)} {N i f : Nat} {K : Kd} {v5 : Int32} {w : Wd} (hs : sd i < 2) (ht : tp i < 16) (hf : f < N * N) (hK : XK N K w) :
    ∀ (m b n : Nat) (u : Wd), b + m = 10 → m < n → SameX w u → XR N ((List.range b).foldl (fun R b => addO R (stepO N K i f b)) []) u →
      ∃ u', l_X6_reach_52 N K127 n (nI f) (nI (sd i)) (nI (K.1 (tp i))) v5 (nI ((List.range b).foldl (fun R b => addO R (stepO N K i f b)) []).length) (nI b) u = K127 (nI f) (nI (sd i)) (nI (K.1 (tp i))) v5 (nI (stepsR N K i f).length) u' ∧ SameX w u' ∧ XR N (stepsR N K i f) u' := by
  have hNN := NN_le hK.2.2.1
  have h5 := hK.2.2.2.1
  intro m
  induction m with
  | zero =>
    intro b n u hb hn hu hR
    obtain ⟨n, rfl⟩ : ∃ k, n = k + 1 := ⟨n - 1, by omega⟩
    have : b = 10 := by omega
    subst this
    refine ⟨u, ?_, hu, hR⟩
    show b_X6_reach_52 N (l_X6_reach_52 N K127 n) K127 (nI f) (nI (sd i)) (nI (K.1 (tp i))) v5 _ (nI 10) u = _
    unfold b_X6_reach_52
    rw [if_pos (by decide)]
    rfl
  | succ m ih =>
    intro b n u hb hn hu hR
    obtain ⟨n, rfl⟩ : ∃ k, n = k + 1 := ⟨n - 1, by omega⟩
    have hb10 : b < 10 := by omega
    have hKu := hK.same hu
    have hst := (hK.2.2.2.2.2 (tp i) ht).2.2.1
    have hsucc : (List.range (b + 1)).foldl (fun R b => addO R (stepO N K i f b)) [] = addO ((List.range b).foldl (fun R b => addO R (stepO N K i f b)) []) (stepO N K i f b) := by
      rw [List.range_succ, List.foldl_append]; rfl
    have hmem : ∀ x, x ∈ (List.range b).foldl (fun R b => addO R (stepO N K i f b)) [] → ∃ c, c < b ∧ stepO N K i f c = some x := by
      intro x hx
      rcases (mem_fO (stepO N K i f) _ _).mp hx with h | ⟨c, h1, h2⟩
      · simp at h
      · exact ⟨c, by simpa using h1, h2⟩
    have next := ih (b + 1) n
    rw [hsucc] at next
    generalize (List.range b).foldl (fun R b => addO R (stepO N K i f b)) [] = R at hR hmem next ⊢
    have hlen := nodup_len (N * N) R hR.2.1 hR.2.2
    have skip : stepO N K i f b = none → ∃ u', f_X6_reach_121 N (l_X6_reach_52 N K127 n) K127 (nI f) (nI (sd i)) (nI (K.1 (tp i))) v5 (nI R.length) (nI b) u = K127 (nI f) (nI (sd i)) (nI (K.1 (tp i))) v5 (nI (stepsR N K i f).length) u' ∧ SameX w u' ∧ XR N (stepsR N K i f) u' := by
      intro ho
      unfold f_X6_reach_121
      rw [nI_1]
      rw [ho] at next
      exact next u (by omega) (by omega) hu hR
    have e1 : l_X6_reach_52 N K127 (n + 1) (nI f) (nI (sd i)) (nI (K.1 (tp i))) v5 (nI R.length) (nI b) u = b_X6_reach_52 N (l_X6_reach_52 N K127 n) K127 (nI f) (nI (sd i)) (nI (K.1 (tp i))) v5 (nI R.length) (nI b) u := rfl
    rw [e1]
    unfold b_X6_reach_52
    rw [if_neg (show ¬ (10 : Int32) ≤ nI b from nI_ge hb10 (by decide))]
    cases hbt : bt (K.1 (tp i)) b with
    | false =>
      rw [if_pos ((bit_0 (by omega) (by omega)).mpr hbt)]
      exact skip (by unfold stepO; rw [hbt]; rfl)
    | true =>
      rw [if_neg (fun z => by rw [bit_0 (by omega) (by omega), hbt] at z; cases z)]
      have eo : stepO N K i f b = nx N (dirOf (sd i) b) f := by unfold stepO; rw [hbt]; rfl
      have hd := dirOf_lt hs hb10
      have go : (if nI (sd i) = (0 : Int32) then f_X6_reach_94 N (l_X6_reach_52 N K127 n) K127 (nI f) (nI (sd i)) (nI (K.1 (tp i))) v5 (nI R.length) (nI b) (nI b) u else if inb (nI b) 12 = true then f_X6_reach_94 N (l_X6_reach_52 N K127 n) K127 (nI f) (nI (sd i)) (nI (K.1 (tp i))) v5 (nI R.length) (nI b) ((stV 0).getD (Int32.toNatClampNeg (nI b)) 0) u else none) = f_X6_reach_94 N (l_X6_reach_52 N K127 n) K127 (nI f) (nI (sd i)) (nI (K.1 (tp i))) v5 (nI R.length) (nI b) (nI (dirOf (sd i) b)) u := by
        by_cases h0 : sd i = 0
        · rw [if_pos ((sd_0 hs).mpr h0)]
          unfold dirOf
          rw [if_pos h0]
        · rw [if_neg (fun z => h0 ((sd_0 hs).mp z)), inb_nI (by omega) (by decide), if_pos rfl, nI_clamp (by omega), turned_e b (by omega)]
          unfold dirOf
          rw [if_neg h0]
      rw [go]
      unfold f_X6_reach_94
      rw [hKu.2.1, xidx, inb_nI (dNN hd hf) (by omega), if_pos rfl, nI_clamp (by have := dNN hd hf; omega), hKu.2.2.2.2.1 _ hd f hf, lt_e]
      cases ho : nx N (dirOf (sd i) b) f with
      | none =>
        rw [if_pos (show ov none < (0 : Int32) by decide)]
        exact skip (by rw [eo, ho])
      | some g =>
        have hg := (nx_lt hK.2.2.1 h5 hd hf ho).1
        have hnew : g ∉ R := by
          intro hx
          obtain ⟨c, hc, hc2⟩ := hmem g hx
          unfold stepO at hc2
          split at hc2
          · have := (At.uniq (dirOf_lt hs (by omega)) hd (Nat.le_refl 1) (Nat.le_refl 1) (fun _ => rfl) (fun _ => rfl) (nx_at (by omega) hc2) (nx_at (by omega) ho)).1
            have := dirOf_inj _ hs c (by omega) b hb10 this
            omega
          · cases hc2
        obtain ⟨p1, p2, p3⟩ := hR.push hg hnew
        rw [if_neg (show ¬ ov (some g) < (0 : Int32) from nI_pos (by omega)), inb_nI p1 (by omega), if_pos rfl, lw_e, nI_clamp (by omega)]
        unfold f_X6_reach_121
        rw [nI_1, nI_1, ← p3]
        rw [eo, ho] at next
        exact next _ (by omega) (by omega) (hu.tr SameX.i) p2
/-- a run, looked at from f in direction d, from distance j on -/
theorem x_r178 {K207 K248 K257 : Int32 → Int32 → Int32 → Int32 → Int32 → Int32 → Wd → Option (Int32 × Wd)} {N f d b st : Nat} {K : Kd} {bo : Nat → Nat} {v3 v5 : Int32} {w : Wd} (h207 : ∀ a b c d e f g, K207 a b c d e f g = K257 a b c d e f g) (h248 : ∀ a b c d e f g, K248 a b c d e f g = K257 a b c d e f g) (hd : d < 8) (hb : b < 8) (hst : st < 1024) (hf : f < N * N) (hK : XK N K w) (hB : XB N bo w) :
    ∀ (k j cur n : Nat) (R : List Nat) (u : Wd), j + k = N → 1 ≤ j → k < n → cur < N * N → (∀ g, nx N d cur = some g → At N d j f g) → SameX w u → XR N R u → (∀ x jj, j ≤ jj → At N d jj f x → (2 ≤ jj ∨ bt st b = false) → x ∉ R) → (j = 1 → bt st b = true → ∀ g, nx N d cur = some g → g ∈ R) →
      ∃ u', l_X6_reach_178 N K207 K248 K257 n (nI f) v3 (nI st) v5 (nI R.length) (nI b) (nI (d * (N * N))) (nI cur) (nI j) u = K257 (nI f) v3 (nI st) v5 (nI ((rayO N d bo k (nx N d cur)).foldl addU R).length) (nI b) u' ∧ SameX w u' ∧ XR N ((rayO N d bo k (nx N d cur)).foldl addU R) u' := by
  have hNN := NN_le hK.2.2.1
  have h5 := hK.2.2.2.1
  have hN7 := hK.2.2.1
  intro k
  induction k with
  | zero =>
    intro j cur n R u hj hj1 hn hc hat hu hR hnew hold
    obtain ⟨n, rfl⟩ : ∃ k, n = k + 1 := ⟨n - 1, by omega⟩
    have hKu := hK.same hu
    refine ⟨u, ?_, hu, hR⟩
    show b_X6_reach_178 N (l_X6_reach_178 N K207 K248 K257 n) K207 K248 K257 (nI f) v3 (nI st) v5 (nI R.length) (nI b) (nI (d * (N * N))) (nI cur) (nI j) u = _
    unfold b_X6_reach_178
    rw [hKu.1, if_pos (nI_le (by omega) (by omega))]
    rfl
  | succ k ih =>
    intro j cur n R u hj hj1 hn hc hat hu hR hnew hold
    obtain ⟨n, rfl⟩ : ∃ k, n = k + 1 := ⟨n - 1, by omega⟩
    have hKu := hK.same hu
    have hBu := hB.same hu
    have hlen := nodup_len (N * N) R hR.2.1 hR.2.2
    have e1 : l_X6_reach_178 N K207 K248 K257 (n + 1) (nI f) v3 (nI st) v5 (nI R.length) (nI b) (nI (d * (N * N))) (nI cur) (nI j) u = b_X6_reach_178 N (l_X6_reach_178 N K207 K248 K257 n) K207 K248 K257 (nI f) v3 (nI st) v5 (nI R.length) (nI b) (nI (d * (N * N))) (nI cur) (nI j) u := rfl
    rw [e1]
    unfold b_X6_reach_178
    rw [hKu.1, if_neg (nI_ge (by omega) (by omega)), nI_add, inb_nI (dNN (by omega) hc) (by omega), if_pos rfl, lt_e, nI_clamp (by have := dNN (d := d) (by omega) hc; omega), hKu.2.2.2.2.1 d (by omega) cur hc]
    cases ho : nx N d cur with
    | none =>
      rw [if_neg (show ¬ (0 : Int32) ≤ ov none by decide), h207]
      exact ⟨u, rfl, hu, hR⟩
    | some g =>
      have hg := (nx_lt hK.2.2.1 h5 (by omega) hc ho).1
      have hgat := hat g ho
      have hbg := hBu g hg
      rw [if_pos (show (0 : Int32) ≤ ov (some g) from nI_pos' (by omega))]
      show ∃ u', _ ∧ SameX w u' ∧ XR N ((g :: (if bo g = 0 then rayO N d bo k (nx N d g) else [])).foldl addU R) u'
      -- behind the field, with the list as it is then
      have tail : ∀ (x : Wd), SameX w x → XR N (addU R g) x → (∀ y jj, j + 1 ≤ jj → At N d jj f y → (2 ≤ jj ∨ bt st b = false) → y ∉ addU R g) → ∃ u', f_X6_reach_238 N (l_X6_reach_178 N K207 K248 K257 n) K207 K248 K257 (nI f) v3 (nI st) v5 (nI (addU R g).length) (nI b) (nI (d * (N * N))) (nI g) (nI j) x = K257 (nI f) v3 (nI st) v5 (nI ((g :: (if bo g = 0 then rayO N d bo k (nx N d g) else [])).foldl addU R).length) (nI b) u' ∧ SameX w u' ∧ XR N ((g :: (if bo g = 0 then rayO N d bo k (nx N d g) else [])).foldl addU R) u' := by
        intro x x1 x2 x3
        have hbx := hB.same x1 g hg
        unfold f_X6_reach_238
        rw [inb_nI hg (by omega), if_pos rfl, nI_clamp (by omega), hbx.1, List.foldl_cons]
        by_cases q : bo g = 0
        · rw [if_pos q, q, if_pos z0, nI_1]
          exact ih (j + 1) g n (addU R g) x (by omega) (by omega) (by omega) hg (fun y hy => by
            obtain ⟨a, a2⟩ := nx_at (by omega) hy
            obtain ⟨c, c2⟩ := hgat
            refine ⟨?_, ?_⟩
            · rw [a, c]; push_cast; rw [Int.add_mul]; omega
            · rw [a2, c2]; push_cast; rw [Int.add_mul]; omega) x1 x2 x3 (fun e => by omega)
        · rw [if_neg q, if_neg (nI_ne0 (by omega) (by omega)), h248]
          exact ⟨x, rfl, x1, x2⟩
      have push : (2 ≤ j ∨ bt st b = false) → ∃ u', f_X6_reach_226 N (l_X6_reach_178 N K207 K248 K257 n) K207 K248 K257 (nI f) v3 (nI st) v5 (nI R.length) (nI b) (nI (d * (N * N))) (nI g) (nI j) u = K257 (nI f) v3 (nI st) v5 (nI ((g :: (if bo g = 0 then rayO N d bo k (nx N d g) else [])).foldl addU R).length) (nI b) u' ∧ SameX w u' ∧ XR N ((g :: (if bo g = 0 then rayO N d bo k (nx N d g) else [])).foldl addU R) u' := by
        intro hq
        obtain ⟨p1, p2, p3⟩ := hR.push hg (hnew g j (Nat.le_refl _) hgat hq)
        unfold f_X6_reach_226
        rw [inb_nI p1 (by omega), if_pos rfl, lw_e, nI_clamp (by omega), nI_1, ← p3]
        refine tail _ (hu.tr SameX.i) p2 (fun y jj h1 h2 h3 hy => ?_)
        rcases addU_mem.mp hy with hy | rfl
        · exact hnew y jj (by omega) h2 h3 hy
        · have := (At.uniq (by omega) (by omega) (by omega) hj1 (fun z => by omega) (fun z => by omega) h2 hgat).2
          omega
      by_cases hj2 : 2 ≤ j
      · rw [if_pos (show (1 : Int32) < nI j from nI_lt (a := 1) (by omega) (by omega))]
        exact push (Or.inl hj2)
      · have ej : j = 1 := by omega
        rw [if_neg (show ¬ (1 : Int32) < nI j from nI_nlt (a := 1) (by omega) (by omega))]
        cases hbt : bt st b with
        | false =>
          rw [if_pos ((bit_0 (by omega) (by omega)).mpr hbt)]
          exact push (Or.inr hbt)
        | true =>
          rw [if_neg (fun z => by rw [bit_0 (by omega) (by omega), hbt] at z; cases z)]
          have hin := hold ej hbt g ho
          have ea : addU R g = R := if_pos hin
          have := tail u hu (by rw [ea]; exact hR) (fun y jj h1 h2 h3 => by rw [ea]; exact hnew y jj (by omega) h2 h3)
          rw [ea] at this
          exact this
theorem runs_mem {N i f b x : Nat} {K : Kd} {bo : Nat → Nat} (h1 : N ≤ 7) (h2 : 5 ≤ N) (hs : sd i < 2) (hx : x ∈ (List.range b).foldl (fun R b => (rayO N (dirOf (sd i) b) bo 7 (runO N K i f b)).foldl addU R) (stepsR N K i f)) : (∃ c, c < 10 ∧ bt (K.1 (tp i)) c = true ∧ At N (dirOf (sd i) c) 1 f x) ∨ ∃ c jj, c < b ∧ 1 ≤ jj ∧ At N (dirOf (sd i) c) jj f x := by
  rcases (mem_fR _ _ _).mp hx with h | ⟨c, hc, h⟩
  · left
    rcases (mem_fO (stepO N K i f) _ _).mp h with h | ⟨c, hc, h⟩
    · simp at h
    · unfold stepO at h
      split at h
      · rename_i hb
        exact ⟨c, by simpa using hc, hb, nx_at (by omega) h⟩
      · cases h
  · right
    obtain ⟨jj, hj, hat⟩ := ray_at (by omega) (f := f) 7 1 _ (fun g hg => by
      unfold runO at hg
      split at hg
      · exact nx_at (by omega) hg
      · cases hg) h
    exact ⟨c, jj, by simpa using hc, hj, hat⟩
theorem x_r130 {K263 : Int32 → Wd → Option (Int32 × Wd)} {N i f : Nat} {K : Kd} {bo : Nat → Nat} {w : Wd} (hs : sd i < 2) (ht : tp i < 16) (hf : f < N * N) (hK : XK N K w) (hB : XB N bo w) :
    ∀ (m b n : Nat) (u : Wd), b + m = 8 → m < n → SameX w u → XR N ((List.range b).foldl (fun R b => (rayO N (dirOf (sd i) b) bo 7 (runO N K i f b)).foldl addU R) (stepsR N K i f)) u →
      ∃ u', l_X6_reach_130 N K263 n (nI f) (nI (sd i)) (nI (K.1 (tp i))) (nI (K.2.1 (tp i))) (nI ((List.range b).foldl (fun R b => (rayO N (dirOf (sd i) b) bo 7 (runO N K i f b)).foldl addU R) (stepsR N K i f)).length) (nI b) u = K263 (nI (reachL N K bo i f).length) u' ∧ SameX w u' ∧ XR N (reachL N K bo i f) u' := by
  have hNN := NN_le hK.2.2.1
  have h5 := hK.2.2.2.1
  have hN7 := hK.2.2.1
  intro m
  induction m with
  | zero =>
    intro b n u hb hn hu hR
    obtain ⟨n, rfl⟩ : ∃ k, n = k + 1 := ⟨n - 1, by omega⟩
    have : b = 8 := by omega
    subst this
    refine ⟨u, ?_, hu, hR⟩
    show b_X6_reach_130 N (l_X6_reach_130 N K263 n) K263 (nI f) (nI (sd i)) (nI (K.1 (tp i))) (nI (K.2.1 (tp i))) _ (nI 8) u = _
    unfold b_X6_reach_130
    rw [if_pos (by decide)]
    rfl
  | succ m ih =>
    intro b n u hb hn hu hR
    obtain ⟨n, rfl⟩ : ∃ k, n = k + 1 := ⟨n - 1, by omega⟩
    have hb8 : b < 8 := by omega
    have hKu := hK.same hu
    have hBu := hB.same hu
    have hst := (hK.2.2.2.2.2 (tp i) ht).2.2
    have hsucc : (List.range (b + 1)).foldl (fun R b => (rayO N (dirOf (sd i) b) bo 7 (runO N K i f b)).foldl addU R) (stepsR N K i f) = (rayO N (dirOf (sd i) b) bo 7 (runO N K i f b)).foldl addU ((List.range b).foldl (fun R b => (rayO N (dirOf (sd i) b) bo 7 (runO N K i f b)).foldl addU R) (stepsR N K i f)) := by
      rw [List.range_succ, List.foldl_append]; rfl
    have hmem : ∀ x, x ∈ (List.range b).foldl (fun R b => (rayO N (dirOf (sd i) b) bo 7 (runO N K i f b)).foldl addU R) (stepsR N K i f) → (∃ c, c < 10 ∧ bt (K.1 (tp i)) c = true ∧ At N (dirOf (sd i) c) 1 f x) ∨ ∃ c jj, c < b ∧ 1 ≤ jj ∧ At N (dirOf (sd i) c) jj f x := fun x hx => runs_mem hN7 h5 hs hx
    have hstep : ∀ g, bt (K.1 (tp i)) b = true → nx N (dirOf (sd i) b) f = some g → g ∈ (List.range b).foldl (fun R b => (rayO N (dirOf (sd i) b) bo 7 (runO N K i f b)).foldl addU R) (stepsR N K i f) := by
      intro g h1 h2
      apply (mem_fR _ _ _).mpr
      left
      apply (mem_fO (stepO N K i f) _ _).mpr
      right
      exact ⟨b, by simp; omega, by unfold stepO; rw [h1]; exact h2⟩
    have next := ih (b + 1) n
    rw [hsucc] at next
    generalize (List.range b).foldl (fun R b => (rayO N (dirOf (sd i) b) bo 7 (runO N K i f b)).foldl addU R) (stepsR N K i f) = R at hR hmem hstep next ⊢
    have e1 : l_X6_reach_130 N K263 (n + 1) (nI f) (nI (sd i)) (nI (K.1 (tp i))) (nI (K.2.1 (tp i))) (nI R.length) (nI b) u = b_X6_reach_130 N (l_X6_reach_130 N K263 n) K263 (nI f) (nI (sd i)) (nI (K.1 (tp i))) (nI (K.2.1 (tp i))) (nI R.length) (nI b) u := rfl
    rw [e1]
    unfold b_X6_reach_130
    rw [if_neg (show ¬ (8 : Int32) ≤ nI b from nI_ge hb8 (by decide))]
    cases hbt : bt (K.2.1 (tp i)) b with
    | false =>
      rw [if_pos ((bit_0 (by omega) (by omega)).mpr hbt)]
      have eo : runO N K i f b = none := by unfold runO; rw [hbt]; rfl
      unfold f_X6_reach_257
      rw [nI_1]
      rw [eo] at next
      exact next u (by omega) (by omega) hu hR
    | true =>
      rw [if_neg (fun z => by rw [bit_0 (by omega) (by omega), hbt] at z; cases z)]
      have eo : runO N K i f b = nx N (dirOf (sd i) b) f := by unfold runO; rw [hbt]; rfl
      have hd8 := dirOf_lt8 _ hs b hb8
      have go : (if nI (sd i) = (0 : Int32) then f_X6_reach_165 N (l_X6_reach_130 N K263 n) K263 (nI f) (nI (sd i)) (nI (K.1 (tp i))) (nI (K.2.1 (tp i))) (nI R.length) (nI b) (nI b) u else if inb (nI b) 12 = true then f_X6_reach_165 N (l_X6_reach_130 N K263 n) K263 (nI f) (nI (sd i)) (nI (K.1 (tp i))) (nI (K.2.1 (tp i))) (nI R.length) (nI b) ((stV 0).getD (Int32.toNatClampNeg (nI b)) 0) u else none) = f_X6_reach_165 N (l_X6_reach_130 N K263 n) K263 (nI f) (nI (sd i)) (nI (K.1 (tp i))) (nI (K.2.1 (tp i))) (nI R.length) (nI b) (nI (dirOf (sd i) b)) u := by
        by_cases h0 : sd i = 0
        · rw [if_pos ((sd_0 hs).mpr h0)]
          unfold dirOf
          rw [if_pos h0]
        · rw [if_neg (fun z => h0 ((sd_0 hs).mp z)), inb_nI (by omega) (by decide), if_pos rfl, nI_clamp (by omega), turned_e b (by omega)]
          unfold dirOf
          rw [if_neg h0]
      rw [go]
      unfold f_X6_reach_165
      rw [lt_e, hKu.2.1, pk_mul]
      obtain ⟨u', a1, a2, a3⟩ := x_r178 (K207 := f_X6_reach_207 N (l_X6_reach_130 N K263 n) K263) (K248 := f_X6_reach_248 N (l_X6_reach_130 N K263 n) K263) (K257 := f_X6_reach_257 N (l_X6_reach_130 N K263 n) K263) (v3 := nI (sd i)) (v5 := nI (K.2.1 (tp i))) (b := b) (st := K.1 (tp i)) (fun _ _ _ _ _ _ _ => rfl) (fun _ _ _ _ _ _ _ => rfl) hd8 hb8 hst.1 hf hK hB (N - 1) 1 f FU R u (by omega) (Nat.le_refl 1) (FU_big (by omega)) hf (fun g hg => nx_at (by omega) hg) hu hR (fun x jj h1 h2 h3 hx => by
          rcases hmem x hx with ⟨c, c1, c2, c3⟩ | ⟨c, j2, c1, c2, c3⟩
          · have := At.uniq (by omega) (dirOf_lt hs c1) h1 (Nat.le_refl 1) (fun z => by omega) (fun _ => rfl) h2 c3
            have hcb := dirOf_inj _ hs b (by omega) c c1 this.1
            subst hcb
            rcases h3 with h3 | h3
            · omega
            · rw [h3] at c2; cases c2
          · have hc8 := dirOf_lt8 _ hs c (by omega)
            have := At.uniq (by omega) (show dirOf (sd i) c < 12 by omega) h1 c2 (fun z => by omega) (fun z => by omega) h2 c3
            have hcb := dirOf_inj _ hs b (by omega) c (by omega) this.1
            omega) (fun _ hb1 g hg => hstep g hb1 hg)
      have hray : rayO N (dirOf (sd i) b) bo (N - 1) (nx N (dirOf (sd i) b) f) = rayO N (dirOf (sd i) b) bo 7 (nx N (dirOf (sd i) b) f) := by
        have := rayO_le (bo := bo) (8 - N) (N - 1) (ends_N N (by omega) h5 _ hd8 f hf)
        rw [show N - 1 + (8 - N) = 7 by omega] at this
        exact this.symm
      rw [hray] at a1 a3
      rw [eo] at next
      obtain ⟨u2, b1, b2, b3⟩ := next u' (by omega) (by omega) a2 a3
      refine ⟨u2, ?_, b2, b3⟩
      refine Eq.trans a1 ?_
      unfold f_X6_reach_257
      rw [nI_1]
      exact b1
theorem x_man : ∀ i, i < 33 → ((nI i + 15) >>> ((4 : Int32) &&& 31)) - 1 = (if i = 0 then -1 else nI (sd i)) := by decide +kernel
theorem x_sideOf {i : Nat} (h : i ≤ 32) (w : Wd) : f_X2_sideOf (nI i) w = some (if i = 0 then -1 else nI (sd i), w) := by
  unfold f_X2_sideOf
  rw [x_man i (by omega)]
theorem x_typeOf {i : Nat} (h0 : 0 < i) (h : i ≤ 32) (w : Wd) : f_X2_typeOf (nI i) w = some (nI (tp i), w) := by
  unfold f_X2_typeOf
  rw [(man_chk i (by omega) h0).2.2.2.1]
/-- Table.reach: the fields that the man on f reaches, in order -/
theorem x_reach {N f : Nat} {K : Kd} {bo : Nat → Nat} {w : Wd} (hf : f < N * N) (h0 : bo f ≠ 0) (hK : XK N K w) (hB : XB N bo w) :
    ∃ w', f_X6_reach N (nI f) w = some (nI (reachL N K bo (bo f) f).length, w') ∧ SameX w w' ∧ XR N (reachL N K bo (bo f) f) w' := by
  have hNN := NN_le hK.2.2.1
  have hb := hB f hf
  have hpos : 0 < bo f := by omega
  have hm := man_chk (bo f) (by omega) hpos
  have hT := hK.2.2.2.2.2 (tp (bo f)) hm.2.2.2.2.2.2.1
  unfold f_X6_reach
  rw [inb_nI hf (by omega), if_pos rfl, lt_e, nI_clamp (by omega), hb.1, if_neg (nI_ne0 hpos (by omega)), x_sideOf hb.2, bd_s, if_neg h0, x_typeOf hpos hb.2, bd_s, inb_nI hm.2.2.2.2.2.2.1 (by decide), if_pos rfl, lt_e, x_typeOf hpos hb.2, bd_s, inb_nI hm.2.2.2.2.2.2.1 (by decide), if_pos rfl, lt_e, nI_clamp (by omega), hT.1, hT.2.1]
  obtain ⟨u, a1, a2, a3⟩ := x_r52 (K127 := f_X6_reach_127 N) (v5 := nI (K.2.1 (tp (bo f)))) (show sd (bo f) < 2 by omega) hm.2.2.2.2.2.2.1 hf hK 10 0 FU w rfl (by decide) SameX.rf ⟨fun k g h => by simp at h, List.nodup_nil, fun g h => by simp at h⟩
  obtain ⟨u2, b1, b2, b3⟩ := x_r130 (K263 := f_X6_reach_263 N) (show sd (bo f) < 2 by omega) hm.2.2.2.2.2.2.1 hf hK hB 8 0 FU u rfl (by decide) a2 a3
  refine ⟨u2, ?_, b2, b3⟩
  refine Eq.trans a1 ?_
  unfold f_X6_reach_127
  exact b1
