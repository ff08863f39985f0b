/-! ===== trees gone through: purely, and the class ===== -/
def cntB : Nat → List Nd → Nat
  | 0, _ => 0
  | _ + 1, [] => 0
  | f + 1, e :: L => 1 + cntB f (L.drop e.2.2.2)
def vfA (h : Ps → Nat → List Nd → Nat) (Q : Ps) : List Nat → Nat → List Nd → Nat
  | [], _, _ => 0
  | _ :: _, at_, [] => at_ + 1
  | a :: as, at_, e :: L => if e.1 = a then (if h (mkP Q a) (at_ + 1) (L.take e.2.2.2) = 0 then vfA h Q as (at_ + 1 + e.2.2.2) (L.drop e.2.2.2) else h (mkP Q a) (at_ + 1) (L.take e.2.2.2)) else at_ + 1
/-- 1 more than the first node that is not as it should be, or 0 -/
def vfH (N : Nat) (K : Kd) : Nat → Ps → Nat → List Nd → Nat
  | 0, _, at_, _ => at_ + 1
  | _ + 1, _, at_, [] => at_ + 1
  | k + 1, P, at_, e :: A => if e.1 ∈ movL N K P then (if gch N K P e.1 = true then (if (movL N K (mkP P e.1)).length = cntB A.length A then vfA (vfH N K k) (mkP P e.1) (movL N K (mkP P e.1)) (at_ + 1) A else at_ + 1) else at_ + 1) else at_ + 1
theorem map_split {L : List Nd} {par dep : Nat} {S R : List Sh} (h : L.map Prod.snd = (par, dep, S.length) :: (S ++ R)) : ∃ e L', L = e :: L' ∧ e.2 = (par, dep, S.length) ∧ (L'.take S.length).map Prod.snd = S ∧ (L'.drop S.length).map Prod.snd = R ∧ L'.length = S.length + R.length := by
  cases L with
  | nil => simp at h
  | cons e L' =>
    rw [List.map_cons] at h
    obtain ⟨h1, h2⟩ := List.cons.inj h
    refine ⟨e, L', rfl, h1, ?_, ?_, ?_⟩
    · rw [List.map_take, h2, List.take_left]
    · rw [List.map_drop, h2, List.drop_left]
    · have := congrArg List.length h2
      rw [List.length_map, List.length_append] at this
      exact this
theorem shA_cntB {h : Nat → List Sh → Prop} {par dep : Nat} : ∀ (m at_ : Nat) (A : List Nd) (f : Nat), A.length ≤ f → shA h par dep m at_ (A.map Prod.snd) → cntB f A = m
  | 0, at_, A, f, hf, hA => by
    have : A = [] := by
      have : A.map Prod.snd = [] := hA
      exact List.map_eq_nil_iff.mp this
    rw [this]
    cases f <;> rfl
  | m + 1, at_, A, f, hf, ⟨S, R, h1, h2, h3⟩ => by
    obtain ⟨e, L, rfl, e2, s1, s2, s3⟩ := map_split h1
    rw [List.length_cons] at hf
    obtain ⟨f, rfl⟩ : ∃ q, f = q + 1 := ⟨f - 1, by omega⟩
    unfold cntB
    rw [show e.2.2.2 = S.length from by rw [e2], shA_cntB m _ (L.drop S.length) f (by rw [List.length_drop]; omega) (by rw [s2]; exact h3)]
    omega
theorem vfA_le {h : Nat → List Sh → Prop} {hv : Ps → Nat → List Nd → Nat} {Q : Ps} {par dep : Nat} (hh : ∀ P at_ L, h at_ (L.map Prod.snd) → hv P at_ L ≤ at_ + L.length) : ∀ (D : List Nat) (at_ : Nat) (L : List Nd), shA h par dep D.length at_ (L.map Prod.snd) → vfA hv Q D at_ L ≤ at_ + L.length
  | [], at_, L, _ => by unfold vfA; omega
  | a :: D, at_, L, ⟨S, R, h1, h2, h3⟩ => by
    obtain ⟨e, L, rfl, e2, s1, s2, s3⟩ := map_split h1
    have ei : e.2.2.2 = S.length := by rw [e2]
    unfold vfA
    rw [ei, List.length_cons]
    have b1 := hh (mkP Q a) (at_ + 1) (L.take S.length) (by rw [s1]; exact h2)
    have b2 := vfA_le (Q := Q) hh D (at_ + 1 + S.length) (L.drop S.length) (by rw [s2]; exact h3)
    rw [List.length_take] at b1
    rw [List.length_drop] at b2
    split
    · split <;> omega
    · omega
theorem vfH_le {N : Nat} {K : Kd} : ∀ (k : Nat) (P : Ps) (dep at_ : Nat) (L : List Nd), shH k dep at_ (L.map Prod.snd) → vfH N K k P at_ L ≤ at_ + L.length
  | 0, _, _, _, _, h => h.elim
  | k + 1, P, dep, at_, L, ⟨A, m, h1, h2⟩ => by
    obtain ⟨e, L, rfl, e2, s1, s2, s3⟩ := map_split (S := A) (R := []) (by rw [List.append_nil]; exact h1)
    rw [List.length_nil, Nat.add_zero] at s3
    rw [← s3, List.take_length] at s1
    unfold vfH
    rw [List.length_cons]
    split
    · split
      · split
        · rename_i hc
          have hm := shA_cntB m (at_ + 1) L L.length (Nat.le_refl _) (by rw [s1]; exact h2)
          have := vfA_le (h := shH k (dep + 2)) (hv := vfH N K k) (Q := mkP P e.1) (par := at_ + 1) (dep := dep + 1) (fun P at_ L h => vfH_le k P (dep + 2) at_ L h) (movL N K (mkP P e.1)) (at_ + 1) L (by rw [hc, hm, s1]; exact h2)
          omega
        · omega
      · omega
    · omega
/-! the class -/
theorem NdX.hd {at_ : Nat} {e : Nd} {L : List Nd} {w : Wd} (h : NdX at_ (e :: L) w) : (w.1 30 at_ = nI e.1 ∧ w.1 31 at_ = pv e.2.1 ∧ w.1 32 at_ = nI e.2.2.2) ∧ NdX (at_ + 1) L w := by
  refine ⟨?_, fun i x hi => ?_⟩
  · have := h 0 e rfl
    rw [Nat.add_zero] at this
    exact this
  · have := h (i + 1) x (by rw [List.getElem?_cons_succ]; exact hi)
    rw [show at_ + (i + 1) = at_ + 1 + i by omega] at this
    exact this
theorem NdX.take {at_ n : Nat} {L : List Nd} {w : Wd} (h : NdX at_ L w) : NdX at_ (L.take n) w := fun i e hi => h i e (by
  rw [List.getElem?_take] at hi
  split at hi
  · exact hi
  · cases hi)
theorem NdX.drop {at_ n : Nat} {L : List Nd} {w : Wd} (h : NdX at_ L w) : NdX (at_ + n) (L.drop n) w := fun i e hi => by
  rw [List.getElem?_drop] at hi
  have := h (n + i) e hi
  rw [← Nat.add_assoc] at this
  exact this
theorem NdX.fr {N lo hi at_ : Nat} {L : List Nd} {w w' : Wd} (h : NdX at_ L w) (u : FrX N lo hi w w') : NdX at_ L w' := fun i e hi => by
  rw [u.2.1 30 (by omega), u.2.1 31 (by omega), u.2.1 32 (by omega)]
  exact h i e hi
theorem x_ai18 {N e : Nat} {h : Nat → List Sh → Prop} {par dep : Nat} {w : Wd} (he : e ≤ 1000) :
    ∀ (m idx : Nat) (A : List Nd) (cnt n : Nat), shA h par dep m idx (A.map Prod.snd) → NdX idx A w → idx + A.length = e → m < n → l_X0_answersIn_18 N (f_X0_answersIn_44 N) n (nI cnt) (nI e) (nI idx) w = some (nI (cnt + m), w)
  | 0, idx, A, cnt, n, hA, hN, hi, hn => by
    obtain ⟨n, rfl⟩ : ∃ q, n = q + 1 := ⟨n - 1, by omega⟩
    have hA' : A = [] := by
      have : A.map Prod.snd = [] := hA
      exact List.map_eq_nil_iff.mp this
    rw [hA', List.length_nil] at hi
    show b_X0_answersIn_18 N (l_X0_answersIn_18 N (f_X0_answersIn_44 N) n) (f_X0_answersIn_44 N) (nI cnt) (nI e) (nI idx) w = _
    unfold b_X0_answersIn_18
    rw [if_pos (nI_le (by omega) (by omega))]
    rfl
  | m + 1, idx, A, cnt, n, ⟨S, R, h1, h2, h3⟩, hN, hi, hn => by
    obtain ⟨n, rfl⟩ : ∃ q, n = q + 1 := ⟨n - 1, by omega⟩
    obtain ⟨x, L, rfl, e2, s1, s2, s3⟩ := map_split h1
    rw [List.length_cons] at hi
    obtain ⟨hd, ht⟩ := hN.hd
    have ei : x.2.2.2 = S.length := by rw [e2]
    have hd2 := ht.drop (n := S.length)
    have hrec := x_ai18 (N := N) (par := par) (dep := dep) he m (idx + 1 + S.length) (L.drop S.length) (cnt + 1) n (by rw [s2]; exact h3) hd2 (by rw [List.length_drop]; omega) (by omega)
    show b_X0_answersIn_18 N (l_X0_answersIn_18 N (f_X0_answersIn_44 N) n) (f_X0_answersIn_44 N) (nI cnt) (nI e) (nI idx) w = _
    unfold b_X0_answersIn_18
    rw [if_neg (nI_ge (by omega) (by omega)), inb_nI (show idx < 1000 by omega) (by omega), if_pos rfl, lt_e, nI_clamp (by omega), hd.2.2, ei, show (1 : Int32) + nI S.length = nI (1 + S.length) from nI_add 1 _, nI_add, nI_1, ← Nat.add_assoc, hrec]
    congr 2
    congr 1
    omega
/-- what going through a tree of the class does -/
def VX (N : Nat) (K : Kd) (k : Nat) (Qf : Int32 → Int32 → Wd → Option (Int32 × Wd)) : Prop := ∀ (P : Ps) (w : Wd) (sg at_ dep : Nat) (L : List Nd) (sz : Nat), shH k dep at_ (L.map Prod.snd) → XA N K P w → VP N K P → 2 ≤ sg → sg + k ≤ 10 → w.1 29 5 = nI sz → at_ + L.length ≤ sz → sz ≤ 1000 → NdX at_ L w → (∀ e ∈ L, okF N e.1) →
  ∃ w', Qf (nI at_) (nI sg) w = some (nI (vfH N K k P at_ L), w') ∧ FrX N (sg * (27 * (N * N))) (10 * (27 * (N * N))) w w' ∧ XA N K P w'
theorem x_fa30 {N k sg dep par sz : Nat} {K : Kd} {Q : Ps} {Qf : Int32 → Int32 → Wd → Option (Int32 × Wd)} (hQ : VX N K k Qf) (hV : VP N K Q) (hsg : 2 ≤ sg) (hsk : sg + 1 + k ≤ 10) (hsz : sz ≤ 1000) :
    ∀ (D : List Nat) (j idx n : Nat) (L : List Nd) (w : Wd), (movL N K Q).drop j = D → j + D.length = (movL N K Q).length → D.length < n → shA (shH k (dep + 2)) par (dep + 1) D.length idx (L.map Prod.snd) → XA N K Q w → LIn (sg * (27 * (N * N))) ((movL N K Q).map (tc Q.1)) w → w.1 29 5 = nI sz → idx + L.length ≤ sz → NdX idx L w → (∀ e ∈ L, okF N e.1) →
      ∃ w', l_X0_faultInAnswers_30 N Qf (f_X0_faultInAnswers_63 N Qf) (f_X0_faultInAnswers_104 N Qf) (f_X0_faultInAnswers_127 N Qf) n (nI sg) (nI (movL N K Q).length) (nI idx) (nI j) w = some (nI (vfA (vfH N K k) Q D idx L), w') ∧ FrX N ((sg + 1) * (27 * (N * N))) (10 * (27 * (N * N))) w w' ∧ XA N K Q w' := by
  intro D
  induction D with
  | nil =>
    intro j idx n L w hD hj hn hsh hA hL h5 hi hN hok
    obtain ⟨n, rfl⟩ : ∃ q, n = q + 1 := ⟨n - 1, by omega⟩
    have hNN := NN_le hA.n7
    have hlen := mov_len (K := K) hA.n7 hA.n5 hV.mv
    rw [List.length_nil] at hj
    refine ⟨w, ?_, FrX.rf, hA⟩
    show b_X0_faultInAnswers_30 N Qf (l_X0_faultInAnswers_30 N Qf (f_X0_faultInAnswers_63 N Qf) (f_X0_faultInAnswers_104 N Qf) (f_X0_faultInAnswers_127 N Qf) n) (f_X0_faultInAnswers_63 N Qf) (f_X0_faultInAnswers_104 N Qf) (f_X0_faultInAnswers_127 N Qf) (nI sg) (nI (movL N K Q).length) (nI idx) (nI j) w = _
    unfold b_X0_faultInAnswers_30
    rw [if_pos (nI_le (by omega) (by omega))]
    rfl
  | cons a D ih =>
    intro j idx n L w hD hj hn hsh hA hL h5 hi hN hok
    obtain ⟨n, rfl⟩ : ∃ q, n = q + 1 := ⟨n - 1, by omega⟩
    rw [List.length_cons] at hj hn
    have h7 := hA.n7
    have hNN := NN_le h7
    have hlen := mov_len (K := K) hA.n7 hA.n5 hV.mv
    have b1 : 27 * (N * N) ≤ sg * (27 * (N * N)) := Nat.le_mul_of_pos_left _ (by omega)
    have b3 : (sg + 1) * (27 * (N * N)) = sg * (27 * (N * N)) + 27 * (N * N) := Nat.succ_mul _ _
    obtain ⟨hg, hD2⟩ := drop_c hD
    have ham : a ∈ movL N K Q := List.mem_of_getElem? hg
    have ha6 := tri_code h7 (mov_tri ham)
    have hb := hV.le (ct a)
    obtain ⟨S, R, h1, h2, h3⟩ := hsh
    obtain ⟨e, L, rfl, e2, s1, s2, s3⟩ := map_split h1
    rw [List.length_cons] at hi
    have ei : e.2.2.2 = S.length := by rw [e2]
    obtain ⟨hd, ht⟩ := hN.hd
    have he6 := okF_lt h7 (hok e List.mem_cons_self)
    have e1 : l_X0_faultInAnswers_30 N Qf (f_X0_faultInAnswers_63 N Qf) (f_X0_faultInAnswers_104 N Qf) (f_X0_faultInAnswers_127 N Qf) (n + 1) (nI sg) (nI (movL N K Q).length) (nI idx) (nI j) w = b_X0_faultInAnswers_30 N Qf (l_X0_faultInAnswers_30 N Qf (f_X0_faultInAnswers_63 N Qf) (f_X0_faultInAnswers_104 N Qf) (f_X0_faultInAnswers_127 N Qf) n) (f_X0_faultInAnswers_63 N Qf) (f_X0_faultInAnswers_104 N Qf) (f_X0_faultInAnswers_127 N Qf) (nI sg) (nI (movL N K Q).length) (nI idx) (nI j) w := rfl
    have hlow : nI (tc Q.1 a) &&& (65535 : Int32) = nI a := cd_low ha6 hb
    rw [e1]
    unfold b_X0_faultInAnswers_30 vfA
    rw [if_neg (nI_ge (by omega) (by omega)), x_listed h7 hA.2.2.2.2.2 hL (by omega) (by rw [List.length_map]; exact hlen) (by rw [List.getElem?_map, hg]; rfl), bd_s, inb_nI (show idx < 1000 by omega) (by omega), if_pos rfl, nI_clamp (show idx < 2 ^ 31 by omega), hd.1, hlow, ei]
    by_cases q : e.1 = a
    · rw [if_pos (show nI e.1 = nI a by rw [q]), if_pos q]
      obtain ⟨w1, p1, p2, p3⟩ := x_app hA hV (mov_tri ham)
      have hN1 : NdX (idx + 1) (L.take S.length) w1 := (ht.take (n := S.length)).fr (p2.fr (N := N) (lo := 0) (hi := 0))
      obtain ⟨w2, y1, y2, y3⟩ := hQ (mkP Q a) w1 (sg + 1) (idx + 1) (dep + 2) (L.take S.length) sz (by rw [s1]; exact h2) p3 (mov_VP h7 hA.n5 hV ham) (by omega) (by omega) (by rw [p2.2.1 29 (by omega)]; exact h5) (by rw [List.length_take]; omega) hsz hN1 (fun x hx => hok x (List.mem_cons_of_mem _ (List.mem_of_mem_take hx)))
      have hle := vfH_le (N := N) (K := K) k (mkP Q a) (dep + 2) (idx + 1) (L.take S.length) (by rw [s1]; exact h2)
      rw [List.length_take] at hle
      obtain ⟨w3, r1, r2, r3⟩ := x_rev y3 hV (mov_tri ham)
      rw [p1, bd_s, nI_1, nI_1, y1, bd_s, r1, bd_s]
      have f3 : FrX N ((sg + 1) * (27 * (N * N))) (10 * (27 * (N * N))) w w3 := (p2.fr.tr y2).tr r2.fr
      by_cases q0 : vfH N K k (mkP Q a) (idx + 1) (L.take S.length) = 0
      · rw [q0, if_pos z0, if_pos rfl, if_pos rfl, lt_e]
        have c32 : w3.1 32 idx = nI S.length := by
          rw [f3.2.1 32 (by omega), hd.2.2, ei]
        rw [c32, show (1 : Int32) + nI S.length = nI (1 + S.length) from nI_add 1 _, nI_add, nI_1, ← Nat.add_assoc]
        obtain ⟨w', i1, i2, i3⟩ := ih (j + 1) (idx + 1 + S.length) n (L.drop S.length) w3 hD2 (by omega) (by omega) (by rw [s2]; exact h3) r3 (hL.fr f3 b1 (by rw [List.length_map]; omega)) (by rw [f3.2.1 29 (by omega)]; exact h5) (by rw [List.length_drop]; omega) ((ht.drop (n := S.length)).fr f3) (fun x hx => hok x (List.mem_cons_of_mem _ (List.mem_of_mem_drop hx)))
        exact ⟨w', i1, f3.tr i2, i3⟩
      · rw [if_neg (nI_ne0 (by omega) (by omega)), if_neg q0]
        exact ⟨w3, rfl, f3, r3⟩
    · rw [if_neg (show ¬ nI e.1 = nI a from fun z => q ((nI_inj (by omega) (by omega)).mp z)), if_neg q]
      unfold f_X0_faultInAnswers_63
      rw [nI_1]
      exact ⟨w, rfl, FrX.rf, hA⟩
theorem x_VX {N : Nat} {K : Kd} : ∀ (k n : Nat), k ≤ n → VX N K k (g_X0_firstFault N n)
  | 0, n, hn => fun P w sg at_ dep L sz h => h.elim
  | k + 1, n, hn => by
    intro P w sg at_ dep L sz hsh hA hV hsg hsk h5 hi hsz hN hok
    obtain ⟨n, rfl⟩ : ∃ q, n = q + 1 := ⟨n - 1, by omega⟩
    have hQ := x_VX (N := N) (K := K) k n (by omega)
    have h7 := hA.n7
    have h5' := hA.n5
    have hNN := NN_le h7
    obtain ⟨A, m, h1, h2⟩ := hsh
    obtain ⟨e, L, rfl, e2, s1, s2, s3⟩ := map_split (S := A) (R := []) (by rw [List.append_nil]; exact h1)
    rw [List.length_nil, Nat.add_zero] at s3
    rw [← s3, List.take_length] at s1
    rw [List.length_cons] at hi
    have ei : e.2.2.2 = L.length := by rw [e2]; exact s3.symm
    obtain ⟨hd, ht⟩ := hN.hd
    have heF := hok e List.mem_cons_self
    have he6 := okF_lt h7 heF
    obtain ⟨w1, p1, p2, p3⟩ := x_faultOf hA hV heF
    have hiff := flt_iff (N := N) (K := K) (P := P) h7 h5' hV.mv heF
    have hflt : flt N K P e.1 < 100 := by
      unfold flt flt0 fltS fltG
      repeat' split
      all_goals omega
    have b1 : 27 * (N * N) ≤ sg * (27 * (N * N)) := Nat.le_mul_of_pos_left _ (by omega)
    have b2 : (sg + 1) * (27 * (N * N)) ≤ 10 * (27 * (N * N)) := Nat.mul_le_mul_right _ (by omega)
    have b3 : (sg + 1) * (27 * (N * N)) = sg * (27 * (N * N)) + 27 * (N * N) := Nat.succ_mul _ _
    show ∃ w', f_X0_firstFault N (f_X0_faultInAnswers N (g_X0_firstFault N n)) (nI at_) (nI sg) w = _ ∧ _
    unfold f_X0_firstFault vfH
    rw [h5, if_neg (nI_ge (by omega) (by omega)), if_pos (show nI sg < (10 : Int32) from nI_lt (b := 10) (by omega) (by omega)), inb_nI (show at_ < 1000 by omega) (by omega), if_pos rfl, lt_e, nI_clamp (show at_ < 2 ^ 31 by omega), hd.1, p1, bd_s, nI_1]
    by_cases q1 : e.1 ∈ movL N K P
    · rw [hiff.mpr q1, if_pos z0, if_pos q1, x_withTaken h7 p3.2.2.2.1.1 he6 heF.1, bd_s]
      obtain ⟨w2, a1, a2, a3⟩ := x_app p3 hV (mov_tri q1)
      have hV2 := mov_VP h7 h5' hV q1
      have hck : f_X6_inCheck N (w2.1 22 7) w2 = some (b2i (gch N K P e.1), w2) := by
        rw [a3.2.2.2.1.2.2.1]
        exact x_inCheck a3 hV2.toVB hV2.mv
      rw [a1, bd_s, hck, bd_s, b2_0]
      unfold f_X0_firstFault_88
      have f2 : ∀ lo hi, FrX N lo hi w w2 := fun lo hi => (p2.no).tr a2.fr
      cases hgc : gch N K P e.1 with
      | false =>
        obtain ⟨w3, r1, r2, r3⟩ := x_rev a3 hV (mov_tri q1)
        rw [if_neg (by decide), if_neg (by decide), r1, bd_s]
        exact ⟨w3, rfl, (f2 _ _).tr r2.fr, r3⟩
      | true =>
        rw [if_pos rfl, if_pos rfl]
        obtain ⟨w3, l1, l2, l3, l4⟩ := x_listLawful (sg := sg) a3 hV2 (by omega) (by omega)
        have f3 : FrX N (sg * (27 * (N * N))) ((sg + 1) * (27 * (N * N))) w w3 := (f2 _ _).tr l2
        have ht3 : NdX (at_ + 1) L w3 := ht.fr f3
        have hlen := mov_len (K := K) h7 h5' hV2.mv
        have hm := shA_cntB m (at_ + 1) L L.length (Nat.le_refl _) (by rw [s1]; exact h2)
        have hml : m ≤ L.length := by
          have : ∀ (f : Nat) (A : List Nd), cntB f A ≤ f := fun f => by
            induction f with
            | zero => intro A; unfold cntB; omega
            | succ f ihf =>
              intro A
              cases A with
              | nil => unfold cntB; omega
              | cons x A =>
                unfold cntB
                have := ihf (A.drop x.2.2.2)
                omega
          have := this L.length L
          omega
        have hai : f_X0_answersIn N (nI at_) w3 = some (nI m, w3) := by
          unfold f_X0_answersIn
          rw [inb_nI (show at_ < 1000 by omega) (by omega), if_pos rfl, lt_e, nI_clamp (show at_ < 2 ^ 31 by omega), f3.2.1 32 (by omega), hd.2.2, ei, nI_1, nI_add, lt_e]
          have := x_ai18 (N := N) (e := at_ + 1 + L.length) (w := w3) (by omega) m (at_ + 1) L 0 FU (by rw [s1]; exact h2) ht3 rfl (FU_big (by omega))
          rw [Nat.zero_add] at this
          exact this
        unfold f_X0_faultInAnswers
        rw [l1, bd_s, hai, bd_s, hm]
        by_cases q3 : (movL N K (mkP P e.1)).length = m
        · rw [if_pos (show nI (movL N K (mkP P e.1)).length = nI m by rw [q3]), if_pos q3, lt_e, nI_1]
          obtain ⟨w4, y1, y2, y3⟩ := x_fa30 (dep := dep) (par := at_ + 1) hQ hV2 hsg (by omega) hsz (movL N K (mkP P e.1)) 0 (at_ + 1) FU L w3 rfl (by omega) (FU_big (by omega)) (by rw [q3, s1]; exact h2) l3 l4 (by rw [f3.2.1 29 (by omega)]; exact h5) (by omega) ht3 (fun x hx => hok x (List.mem_cons_of_mem _ hx))
          have y1' : l_X0_faultInAnswers_30 N (g_X0_firstFault N n) (f_X0_faultInAnswers_63 N (g_X0_firstFault N n)) (f_X0_faultInAnswers_104 N (g_X0_firstFault N n)) (f_X0_faultInAnswers_127 N (g_X0_firstFault N n)) FU (nI sg) (nI (movL N K (mkP P e.1)).length) (nI (at_ + 1)) (0 : Int32) w3 = _ := y1
          obtain ⟨w5, r1, r2, r3⟩ := x_rev y3 hV (mov_tri q1)
          rw [y1', bd_s, r1, bd_s]
          exact ⟨w5, rfl, ((f3.mono (Nat.le_refl _) b2).tr (y2.mono (by omega) (Nat.le_refl _))).tr r2.fr, r3⟩
        · obtain ⟨w4, r1, r2, r3⟩ := x_rev l3 hV (mov_tri q1)
          rw [if_neg (show ¬ nI (movL N K (mkP P e.1)).length = nI m from fun z => q3 ((nI_inj (by omega) (by omega)).mp z)), if_neg q3, nI_1, bd_s, r1, bd_s]
          exact ⟨w4, rfl, (f3.mono (Nat.le_refl _) b2).tr r2.fr, r3⟩
    · rw [if_neg (show ¬ nI (flt N K P e.1) = (0 : Int32) from fun z => q1 (hiff.mp (Classical.byContradiction fun y => nI_ne0 (Nat.pos_of_ne_zero y) (by omega) z))), if_neg q1]
      exact ⟨w1, rfl, p2.no, p3⟩
