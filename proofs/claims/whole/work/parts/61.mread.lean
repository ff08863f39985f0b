/-! ===== the reference: read ===== -/
/-- what a call on a stand leaves alone -/
def TopM (w w' : Wd) : Prop := (∀ k, (53 ≤ k ∧ k ≤ 58) ∨ k = 77 ∨ (93 ≤ k ∧ k ≤ 98) ∨ k = 102 → w'.1 k = w.1 k) ∧ ∀ j, j = 0 ∨ j = 1 ∨ j = 25 ∨ j = 39 ∨ j = 40 ∨ j = 41 ∨ j = 50 → w'.1 50 j = w.1 50 j
theorem TopM.rf {w : Wd} : TopM w w := ⟨fun _ _ => rfl, fun _ _ => rfl⟩
theorem TopM.tr {a b c : Wd} (x : TopM a b) (y : TopM b c) : TopM a c := ⟨fun k h => (y.1 k h).trans (x.1 k h), fun j h => (y.2 j h).trans (x.2 j h)⟩
theorem HfM.top {h : Nat} {a b : Wd} (x : HfM h a b) : TopM a b := ⟨fun k h => x.2.1 k (by omega), fun j h => x.2.2.1 j (by omega)⟩
theorem UpM.top {lv l2 : Nat} {a b : Wd} (x : UpM lv l2 a b) : TopM a b := (x.hf (h := 0)).top
theorem TXm.top {B : List Nat} {w w' : Wd} (h : TXm B w) (x : TopM w w') : TXm B w' := by
  unfold TXm at h ⊢
  rw [x.1 102 (by omega), x.2 50 (by omega)]
  exact h
/-- the reference on a stand -/
def MSd (N : Nat) (K : Kd) (h : Nat) (ps : Nat → Ps) (cs : Nat → Nat) (d a : Nat) (w : Wd) : Prop := MP N 0 (ps d) w ∧ MPl N K h ps cs a w ∧ d ≤ a ∧ w.1 50 25 = 1 ∧ w.1 50 35 = nI h ∧ w.1 50 36 = nI d ∧ w.1 50 37 = nI a ∧ w.1 50 38 = nI (stS N K ps d)
theorem m_scan {B : List Nat} {w : Wd} {K94 : Int32 → Int32 → Int32 → Int32 → Int32 → Wd → Option (Int32 × Wd)} {v1 v2 v3 v4 : Int32} (h : TXm B w) (hB : BtB B) :
    ∀ (m p n : Nat), p + m = B.length → m < n → l_X10_read_67 K94 n v1 v2 v3 v4 (nI p) w = K94 v1 v2 v3 v4 (nI (nxtF B m p)) w := by
  have hl := hB.1
  intro m
  induction m with
  | zero =>
    intro p n hp hn
    obtain ⟨n, rfl⟩ : ∃ q, n = q + 1 := ⟨n - 1, by omega⟩
    show b_X10_read_67 (l_X10_read_67 K94 n) K94 v1 v2 v3 v4 (nI p) w = _
    unfold b_X10_read_67 nxtF
    rw [h.1, if_pos (nI_le (by omega) (by omega))]
  | succ m ih =>
    intro p n hp hn
    obtain ⟨n, rfl⟩ : ∃ q, n = q + 1 := ⟨n - 1, by omega⟩
    have hb := hB.lt p
    have e1 : l_X10_read_67 K94 (n + 1) v1 v2 v3 v4 (nI p) w = b_X10_read_67 (l_X10_read_67 K94 n) K94 v1 v2 v3 v4 (nI p) w := rfl
    rw [e1]
    unfold b_X10_read_67 nxtF
    rw [h.1, if_neg (nI_ge (by omega) (by omega)), inb_nI (show p < 2000 by omega) (by omega), if_pos rfl, nI_clamp (by omega), h.2 p _ (bg_at (by omega)), nI_1]
    by_cases q : bg B p = 32
    · rw [if_pos (show nI (bg B p) = (32 : Int32) by rw [q]; rfl), if_pos q]
    · rw [if_neg (show ¬ nI (bg B p) = (32 : Int32) from fun z => q ((nI_inj (b := 32) (by omega) (by omega)).mp z)), if_neg q, ih (p + 1) n (by omega) (by omega)]
theorem stS_lt {N d : Nat} {K : Kd} {ps : Nat → Ps} : stS N K ps d < 5 := by
  unfold stS
  have := endS_lt (N := N) (K := K) (ps := ps) (d := d)
  split <;> omega
theorem rd58_s {K124 : Int32 → Wd → Option (Int32 × Wd)} {K185 : Int32 → Int32 → Int32 → Wd → Option (Int32 × Wd)} {n : Nat} {v1 v2 v3 v4 v5 : Int32} {w : Wd} : l_X10_read_58 K124 K185 (n + 1) v1 v2 v3 v4 v5 w = b_X10_read_58 (l_X10_read_58 K124 K185 n) K124 K185 v1 v2 v3 v4 v5 w := rfl
theorem rd58_1 {K124 : Int32 → Wd → Option (Int32 × Wd)} {K185 : Int32 → Int32 → Int32 → Wd → Option (Int32 × Wd)} {R : Int32 → Int32 → Int32 → Int32 → Int32 → Wd → Option (Int32 × Wd)} {v1 v2 v3 v4 v5 : Int32} {w : Wd} (h : v5 ≠ 0) : b_X10_read_58 R K124 K185 v1 v2 v3 v4 v5 w = l_X10_read_67 (f_X10_read_94 R K124 K185) FU v1 v2 v3 v4 v4 w := by
  unfold b_X10_read_58
  rw [if_neg h]
theorem rd58_0 {K124 : Int32 → Wd → Option (Int32 × Wd)} {K185 : Int32 → Int32 → Int32 → Wd → Option (Int32 × Wd)} {R : Int32 → Int32 → Int32 → Int32 → Int32 → Wd → Option (Int32 × Wd)} {v1 v2 v3 v4 v5 : Int32} {w : Wd} (h : v5 = 0) : b_X10_read_58 R K124 K185 v1 v2 v3 v4 v5 w = K185 v1 v2 v3 w := by
  unfold b_X10_read_58
  rw [if_pos h]
theorem m_rd {N h : Nat} {K : Kd} {B : List Nat} (hB : BtB B) :
    ∀ (f s n : Nat) (ps : Nat → Ps) (cs : Nat → Nat) (d : Nat) (w : Wd), s ≤ B.length → B.length + 1 - s ≤ f → B.length + 1 - s < n → MK N K w → MM K w → MP N 0 (ps d) w → MIn 0 (movL N K (ps d)) w → MPl N K h ps cs d w → TXm B w →
      ∃ w', l_X10_read_58 f_X10_read_124 f_X10_read_185 n (nI h) (nI (stS N K ps d)) (nI d) (nI s) (1 : Int32) w = (if (rd N K B f s ps cs d).1 = 0 then f_X10_read_185 (nI h) (nI (stS N K (rd N K B f s ps cs d).2.1 (rd N K B f s ps cs d).2.2.2)) (nI (rd N K B f s ps cs d).2.2.2) w' else f_X10_read_124 (nI ((rd N K B f s ps cs d).1 - 1)) w') ∧ HfM h w w' ∧ ((rd N K B f s ps cs d).1 = 0 → MP N 0 ((rd N K B f s ps cs d).2.1 (rd N K B f s ps cs d).2.2.2) w' ∧ MPl N K h (rd N K B f s ps cs d).2.1 (rd N K B f s ps cs d).2.2.1 (rd N K B f s ps cs d).2.2.2 w') := by
  have hl := hB.1
  intro f
  induction f with
  | zero => intro s n ps cs d w h1 h2; omega
  | succ f ih =>
    intro s n ps cs d w hs hf hn hK hM hP hI hX hT
    obtain ⟨n, rfl⟩ : ∃ q, n = q + 1 := ⟨n - 1, by omega⟩
    have h7 := hK.2.1
    have h5 := hK.2.2.1
    have hXb := hX.1
    have hV := hX.2.2.2.vp h7 h5 d (Nat.le_refl _)
    have ht := nxtF_le (B := B) (B.length - s) s
    have htle : nxt B s ≤ B.length := by unfold nxt; omega
    have hst : s ≤ nxt B s := by unfold nxt; omega
    have hst5 := stS_lt (N := N) (K := K) (ps := ps) (d := d)
    have e1 : l_X10_read_58 f_X10_read_124 f_X10_read_185 (n + 1) (nI h) (nI (stS N K ps d)) (nI d) (nI s) (1 : Int32) w = f_X10_read_94 (l_X10_read_58 f_X10_read_124 f_X10_read_185 n) f_X10_read_124 f_X10_read_185 (nI h) (nI (stS N K ps d)) (nI d) (nI s) (nI (nxt B s)) w := by
      rw [rd58_s, rd58_1 (by decide), m_scan hT hB (B.length - s) s FU (by omega) (FU_big (by omega))]
      rfl
    rw [e1]
    unfold f_X10_read_94 f_X10_read_116
    have hfail : ∀ (r : Rd), r = (s + 1, ps, cs, d) → ∃ w', f_X10_read_117 (l_X10_read_58 f_X10_read_124 f_X10_read_185 n) f_X10_read_124 f_X10_read_185 (nI h) (nI d) (nI s) (nI (nxt B s)) (-1 : Int32) w = (if r.1 = 0 then f_X10_read_185 (nI h) (nI (stS N K r.2.1 r.2.2.2)) (nI r.2.2.2) w' else f_X10_read_124 (nI (r.1 - 1)) w') ∧ HfM h w w' ∧ (r.1 = 0 → MP N 0 (r.2.1 r.2.2.2) w' ∧ MPl N K h r.2.1 r.2.2.1 r.2.2.2 w') := by
      intro r hr
      subst hr
      unfold f_X10_read_117
      rw [if_neg (by decide)]
      exact ⟨w, by rw [if_neg (by exact (by omega : ¬ s + 1 = 0))]; rfl, HfM.rf, fun z => absurd z (by exact (by omega : ¬ s + 1 = 0))⟩
    have hRn : mvAt N B s (nxt B s) = none → rd N K B (f + 1) s ps cs d = (s + 1, ps, cs, d) := fun hmv => by unfold rd; rw [hmv]
    have hRf : ∀ c, mvAt N B s (nxt B s) = some c → ¬ (d < 300 ∧ endS N K ps d = 0 ∧ c ∈ movL N K (ps d)) → rd N K B (f + 1) s ps cs d = (s + 1, ps, cs, d) := fun c hmv hq => by unfold rd; rw [hmv]; dsimp only; rw [if_neg hq]
    have hRany : ¬ (d < 300 ∧ stS N K ps d = 0) → rd N K B (f + 1) s ps cs d = (s + 1, ps, cs, d) := fun hq => by
      cases hmv : mvAt N B s (nxt B s) with
      | none => exact hRn hmv
      | some c =>
        refine hRf c hmv (fun z => hq ⟨z.1, ?_⟩)
        unfold stS
        rw [if_neg (fun e => by rw [List.length_eq_zero_iff.mp e] at z; simp at z)]
        exact z.2.1
    by_cases q0 : stS N K ps d = 0
    · rw [q0, if_pos z0]
      by_cases q3 : d < 300
      · rw [if_neg (show ¬ (300 : Int32) ≤ nI d from nI_ge (b := 300) q3 (by omega)), m_told hK.1 h7 h5 hT hB hst htle hV hI, bd_s]
        cases hmv : mvAt N B s (nxt B s) with
        | none => exact hfail _ (hRn hmv)
        | some c =>
          show ∃ w', f_X10_read_117 _ f_X10_read_124 f_X10_read_185 (nI h) (nI d) (nI s) (nI (nxt B s)) (ixV (movL N K (ps d)) 0 c) w = _ ∧ _
          by_cases qm : c ∈ movL N K (ps d)
          · obtain ⟨j, hj⟩ := List.getElem?_of_mem qm
            have hlen := mov_2000 (K := K) h7 h5 hV.mv
            have hjl : j < (movL N K (ps d)).length := (List.getElem?_eq_some_iff.mp hj).1
            have hend : endS N K ps d = 0 := by
              unfold stS at q0
              rw [if_neg (by omega)] at q0
              exact q0
            have hR : rd N K B (f + 1) s ps cs d = if nxt B s < B.length then rd N K B f (nxt B s + 1) (psA ps d c) (upN cs d c) (d + 1) else (0, psA ps d c, upN cs d c, d + 1) := by
              conv => lhs; unfold rd
              rw [hmv]; dsimp only; rw [if_pos ⟨q3, hend, qm⟩]
            obtain ⟨w1, a1, a2, a3, a4⟩ := m_doMove hK hP hI hX (Nat.le_refl d) q3 hj
            have a2' : MP N 0 (psA ps d c (d + 1)) w1 := by rw [psA_s]; exact a2
            obtain ⟨w2, b1, b2, b3⟩ := m_stateOf (d := d + 1) (hK.hf a4) (hM.hf a4) a2' a3 (Nat.le_refl _)
            have f2 : HfM h w w2 := a4.tr b2.hf
            have hP2 : MP N 0 (psA ps d c (d + 1)) w2 := a2'.up (Nat.le_refl _) b2
            have hX2 := a3.up b2
            have hT2 : TXm B w2 := hT.top f2.top
            unfold f_X10_read_117 f_X10_read_174
            rw [ixV_in _ 0 j c (mov_nodup h7 h5 hV.mv) hj, Nat.zero_add, if_pos (nI_pos' (by omega)), a1, bd_s, nI_1, b1, bd_s, hT2.1, hR]
            by_cases ql : nxt B s < B.length
            · rw [if_neg (nI_ge ql (by omega)), lt_e, nI_1, if_pos ql]
              obtain ⟨w3, c1, c2, c3⟩ := ih (nxt B s + 1) n (psA ps d c) (upN cs d c) (d + 1) w2 (by omega) (by omega) (by omega) (hK.hf f2) (hM.hf f2) hP2 b3 hX2 hT2
              exact ⟨w3, c1, f2.tr c2, c3⟩
            · rw [if_pos (nI_le (by omega) (by omega)), lt_e, nI_1, if_neg ql]
              obtain ⟨n, rfl⟩ : ∃ q, n = q + 1 := ⟨n - 1, by omega⟩
              refine ⟨w2, ?_, f2, fun _ => ⟨hP2, hX2⟩⟩
              rw [rd58_s, rd58_0 rfl]
              rfl
          · rw [ixV_out _ _ _ qm]
            exact hfail _ (hRf c hmv (fun z => qm z.2.2))
      · rw [if_pos (show (300 : Int32) ≤ nI d from nI_le (a := 300) (by omega) (by omega))]
        exact hfail _ (hRany (fun z => q3 z.1))
    · rw [if_neg (nI_ne0 (by omega) (by omega))]
      exact hfail _ (hRany (fun z => q0 z.2))
theorem m_read {N h d a : Nat} {K : Kd} {ps : Nat → Ps} {cs : Nat → Nat} {B : List Nat} {w : Wd} (hK : MK N K w) (hM : MM K w) (hS : MSd N K h ps cs d a w) (hT : TXm B w) (hB : BtB B) :
    ∃ w', f_X10_read w = some (if (rdA N K B (ps 0)).1 = 0 then nI (rdA N K B (ps 0)).2.2.2 else (-100 : Int32) - nI ((rdA N K B (ps 0)).1 - 1), w') ∧ TopM w w' ∧ ((rdA N K B (ps 0)).1 ≠ 0 → MSd N K h ps cs d a w') ∧ ((rdA N K B (ps 0)).1 = 0 → MSd N K (1 - h) (rdA N K B (ps 0)).2.1 (rdA N K B (ps 0)).2.2.1 (rdA N K B (ps 0)).2.2.2 (rdA N K B (ps 0)).2.2.2 w') := by
  obtain ⟨hP, hX, hda, h25, h35, h36, h37, h38⟩ := hS
  have h7 := hK.2.1
  have h5 := hK.2.2.1
  have hXb := hX.1
  have hV0 := hX.2.2.2.1
  have hVd := hX.2.2.2.vp h7 h5 d hda
  have hl := hB.1
  obtain ⟨w1, a1, a2, a3⟩ := m_layStand (N := N) hV0.toVB (hX.2.1 0 (Nat.zero_le _)) hXb.1 (by omega)
  have a1' : f_X10_layStand (nI h) (0 : Int32) w = some ((), w1) := a1
  obtain ⟨w2, b1, b2, b3⟩ := m_keepStand (h := 1 - h) (i := 0) a3 (by omega) (by omega)
  have b1' : f_X10_keepStand (nI (1 - h)) (0 : Int32) w1 = some ((), w2) := b1
  have f2 : HfM (1 - h) w w2 := a2.hf.tr (b2.hf (by omega))
  have hP2 : MP N 0 (ps 0) w2 := by
    unfold MP at a3 ⊢
    rw [b2.2.1 60 (by decide) (by decide) (by decide), b2.2.1 61 (by decide) (by decide) (by decide), b2.2.1 62 (by decide) (by decide) (by decide)]
    exact a3
  have hX2 : MPl N K (1 - h) (fun _ => ps 0) (fun _ => 0) 0 w2 := ⟨⟨by omega, by omega⟩, fun i hi => by rw [show i = 0 by omega]; exact b3, fun i hi => by omega, hV0, fun i hi => by omega⟩
  obtain ⟨w3, c1, c2, c3⟩ := m_stateOf (ps := fun _ => ps 0) (d := 0) (hK.hf f2) (hM.hf f2) hP2 hX2 (Nat.le_refl _)
  have c1' : f_X10_stateOf (nI (1 - h)) (0 : Int32) w2 = some (nI (stS N K (fun _ => ps 0) 0), w3) := c1
  have f3 : HfM (1 - h) w w3 := f2.tr c2.hf
  have hT3 : TXm B w3 := hT.top f3.top
  have hold : ∀ u : Wd, HfM (1 - h) w u → MPl N K h ps cs a u := fun u hu => hX.hf hu (by omega) (by omega)
  have good : ∀ (ps2 : Nat → Ps) (cs2 : Nat → Nat) (d2 : Nat) (u : Wd), HfM (1 - h) w u → MP N 0 (ps2 d2) u → MPl N K (1 - h) ps2 cs2 d2 u → ∃ w', f_X10_read_185 (nI (1 - h)) (nI (stS N K ps2 d2)) (nI d2) u = some (nI d2, w') ∧ TopM w w' ∧ MSd N K (1 - h) ps2 cs2 d2 d2 w' := by
    intro ps2 cs2 d2 u hu hPu hXu
    unfold f_X10_read_185
    rw [lw_e, lw_e, lw_e, lw_e]
    have ck : ∀ k, k ≠ 50 → (wdI (wdI (wdI (wdI u 50 35 (nI (1 - h))) 50 36 (nI d2)) 50 37 (nI d2)) 50 38 (nI (stS N K ps2 d2))).1 k = u.1 k := fun k hk => by rw [wI_c hk, wI_c hk, wI_c hk, wI_c hk]
    refine ⟨_, rfl, hu.top.tr ⟨fun k hk => ck k (by omega), fun j hj => ?_⟩, ?_, hXu.of (fun k h1 h2 => ck k (by omega)), Nat.le_refl _, ?_, ?_, ?_, ?_, ?_⟩
    · rw [wI_n (by omega), wI_n (by omega), wI_n (by omega), wI_n (by omega)]
    · unfold MP at hPu ⊢
      rw [ck 60 (by decide), ck 61 (by decide), ck 62 (by decide)]
      exact hPu
    · rw [wI_n (by decide), wI_n (by decide), wI_n (by decide), wI_n (by decide), hu.2.2.1 25 (by decide)]
      exact h25
    · rw [wI_n (by decide), wI_n (by decide), wI_n (by decide), wI_s]
    · rw [wI_n (by decide), wI_n (by decide), wI_s]
    · rw [wI_n (by decide), wI_s]
    · rw [wI_s]
  have bad : ∀ (p : Nat) (u : Wd), HfM (1 - h) w u → ∃ w', f_X10_read_124 (nI p) u = some ((-100 : Int32) - nI p, w') ∧ TopM w w' ∧ MSd N K h ps cs d a w' := by
    intro p u hu
    have hXu := hold u hu
    have e35 : u.1 50 35 = nI h := by rw [hu.2.2.1 35 (by decide)]; exact h35
    have e36 : u.1 50 36 = nI d := by rw [hu.2.2.1 36 (by decide)]; exact h36
    obtain ⟨u1, d1, d2, d3⟩ := m_layStand (N := N) hVd.toVB (hXu.2.1 d hda) hXb.1 (by omega)
    unfold f_X10_read_124
    rw [e35, e36, d1, bd_s]
    have fu : HfM (1 - h) w u1 := hu.tr d2.hf
    refine ⟨u1, rfl, fu.top, d3, hold u1 fu, hda, ?_, ?_, ?_, ?_, ?_⟩
    · rw [fu.2.2.1 25 (by decide)]; exact h25
    · rw [fu.2.2.1 35 (by decide)]; exact h35
    · rw [fu.2.2.1 36 (by decide)]; exact h36
    · rw [fu.2.2.1 37 (by decide)]; exact h37
    · rw [fu.2.2.1 38 (by decide)]; exact h38
  unfold f_X10_read f_X10_read_56 rdA
  rw [if_neg (by rw [h25]; decide), lt_e, h35, n1s hXb.1, a1', bd_s, b1', bd_s, c1', bd_s, hT3.1]
  by_cases q : B.length = 0
  · rw [q, if_pos (by decide)]
    rw [if_pos rfl]
    obtain ⟨w', g1, g2, g3⟩ := good (fun _ => ps 0) (fun _ => 0) 0 w3 f3 (hP2.up (Nat.le_refl _) c2) (hX2.up c2)
    refine ⟨w', ?_, g2, fun z => absurd rfl z, fun _ => g3⟩
    rw [show FU = 99999 + 1 from rfl, rd58_s, rd58_0 rfl]
    exact g1
  · rw [if_neg (nI_nle (by omega) (by omega))]
    rw [if_neg q]
    obtain ⟨w4, e1, e2, e3⟩ := m_rd (h := 1 - h) hB (B.length + 1) 0 FU (fun _ => ps 0) (fun _ => 0) 0 w3 (Nat.zero_le _) (by omega) (FU_big (by omega)) (hK.hf f3) (hM.hf f3) (hP2.up (Nat.le_refl _) c2) c3 (hX2.up c2) hT3
    have e1' : l_X10_read_58 f_X10_read_124 f_X10_read_185 FU (nI (1 - h)) (nI (stS N K (fun _ => ps 0) 0)) (0 : Int32) (0 : Int32) (1 : Int32) w3 = _ := e1
    rw [e1']
    generalize rd N K B (B.length + 1) 0 (fun _ => ps 0) (fun _ => 0) 0 = r at *
    have f4 : HfM (1 - h) w w4 := f3.tr e2
    by_cases q0 : r.1 = 0
    · obtain ⟨x1, x2⟩ := e3 q0
      rw [if_pos q0]
      rw [if_pos q0]
      obtain ⟨w', g1, g2, g3⟩ := good r.2.1 r.2.2.1 r.2.2.2 w4 f4 x1 x2
      exact ⟨w', g1, g2, fun z => absurd q0 z, fun _ => g3⟩
    · rw [if_neg q0]
      rw [if_neg q0]
      obtain ⟨w', g1, g2, g3⟩ := bad (r.1 - 1) w4 f4
      exact ⟨w', g1, g2, fun _ => g3, fun z => absurd z q0⟩
