/-! ===== the law from its entry ===== -/
theorem df_X9 : ∀ j, j < 13 → defaultValue (tyX9 j) = vp_V [.int 0, .null, .null, .null, .null, .null, .null, .null, .null, .null, .int 0, .int 0, .int 0] j := fun j hj => by rcases (show j = 0 ∨ j = 1 ∨ j = 2 ∨ j = 3 ∨ j = 4 ∨ j = 5 ∨ j = 6 ∨ j = 7 ∨ j = 8 ∨ j = 9 ∨ j = 10 ∨ j = 11 ∨ j = 12 by omega) with rfl | rfl | rfl | rfl | rfl | rfl | rfl | rfl | rfl | rfl | rfl | rfl | rfl <;> rfl
theorem df_X10 : ∀ j, j < 52 → defaultValue (tyX10 j) = vp_V [.int 0, .int 0, .null, .null, .null, .null, .null, .null, .null, .null, .null, .null, .null, .null, .null, .null, .null, .null, .null, .null, .null, .null, .int 0, .null, .null, .int 0, .null, .null, .null, .null, .null, .null, .null, .null, .null, .int 0, .int 0, .int 0, .int 0, .int 0, .int 0, .int 0, .null, .null, .null, .null, .null, .null, .null, .null, .int 0, .null] j := fun j hj => by rcases (show j = 0 ∨ j = 1 ∨ j = 2 ∨ j = 3 ∨ j = 4 ∨ j = 5 ∨ j = 6 ∨ j = 7 ∨ j = 8 ∨ j = 9 ∨ j = 10 ∨ j = 11 ∨ j = 12 ∨ j = 13 ∨ j = 14 ∨ j = 15 ∨ j = 16 ∨ j = 17 ∨ j = 18 ∨ j = 19 ∨ j = 20 ∨ j = 21 ∨ j = 22 ∨ j = 23 ∨ j = 24 ∨ j = 25 ∨ j = 26 ∨ j = 27 ∨ j = 28 ∨ j = 29 ∨ j = 30 ∨ j = 31 ∨ j = 32 ∨ j = 33 ∨ j = 34 ∨ j = 35 ∨ j = 36 ∨ j = 37 ∨ j = 38 ∨ j = 39 ∨ j = 40 ∨ j = 41 ∨ j = 42 ∨ j = 43 ∨ j = 44 ∨ j = 45 ∨ j = 46 ∨ j = 47 ∨ j = 48 ∨ j = 49 ∨ j = 50 ∨ j = 51 by omega) with rfl | rfl | rfl | rfl | rfl | rfl | rfl | rfl | rfl | rfl | rfl | rfl | rfl | rfl | rfl | rfl | rfl | rfl | rfl | rfl | rfl | rfl | rfl | rfl | rfl | rfl | rfl | rfl | rfl | rfl | rfl | rfl | rfl | rfl | rfl | rfl | rfl | rfl | rfl | rfl | rfl | rfl | rfl | rfl | rfl | rfl | rfl | rfl | rfl | rfl | rfl | rfl <;> rfl
/-- YOUR PART: from the entry, for every script of at most 3585 ints, the law comes to its end with true -/
theorem whole_start {p : Program} {e : Env} {s : State} {m : MethodId} {below : List Frame} {meth : Method} {c : Code} (l : Launch) {b L : Nat} {xs : Nat → Int32} (hL : L ≤ 3585) (C0 : lw_At p s m meth c b L xs) : W p l e room_1 s m #[Value.ref b] below meth c s.heap [] 0 0 (lw_Z below #[Value.ref b] s) (entryFrame m ([Value.ref b] : List Value).toArray 4) := by
  obtain ⟨hx, hb, hr, hml, hown, hts, hX, hbl, hlk, hgv⟩ := id C0
  obtain ⟨D, ey, es, hEnv⟩ := st_env hts hgv
  have S : CallFix p m c code 4 s #[Value.ref b] TB R_law := ⟨hx, hb, hml, hown, fun w hw => hts w (TB_sub hw)⟩
  obtain ⟨N, hv, h5, h7⟩ := sz_of (v0 L xs)
  obtain ⟨wW, wL, wM, f1, f2, f3, f4, f5, hR⟩ := rl_first hv h7 h5
  obtain ⟨E0, hl0, hn0, hE⟩ : ∃ E0 : Ev, E0.1 = l ∧ En E0 = N ∧ Evs E0 (A0 s) s s.heap := ⟨(l, D, ey, fun _ => 0, es, N, []), rfl, rfl, hEnv l (fun _ => 0) N []⟩
  subst hl0 hn0
  rw [lg_entry_eq]
  have hl := lv_entry [Value.ref b] (n := 4) (Nat.le_of_ble_eq_true rfl)
  refine va_new (ci := 7) (fs := [.int 0, .null, .null, .null, .null, .null, .null, .null, .null, .null, .int 0, .int 0, .int 0]) (C := RX9) (T := TX9) (N := 13) (ws := []) (A := A0 s) (D := Ed E0) (cl := vwCl) hx hb S.2.2.2.2 tb_X9 tyX9 tyX9_ok hown (S.2.2.2.2 _ cl_L_7) (S.2.2.2.2 _ is_X9) (S.2.2.2.2 _ ini_X9) hE.1.1 (fun k x h => by cases h) ⟨fun i j x y h => (by cases h), fun k x h => (by cases h)⟩ va_S.rf (fun q hq => hq) rfl df_X9 (by decide) (by decide) dL_law_0 (fun qX H1 hP1 hD1 hS1 => ?_)
  refine lv_dup hx hb dL_law_3 rfl ?_
  refine lv_aload_n hx hb dL_law_4 rfl (lv_at hl 0 rfl) ?_
  refine lv_iconst hx hb dL_law_5 (v := 0) rfl ?_
  refine ww_cell S hX hbl hL hS1 hl.1 (Nat.le_of_ble_eq_true rfl) (by decide) (by decide) dL_law_6 ?_
  refine ww_ctor (ws := []) (As := [.int (v0 L xs)]) (rest := [.ref qX]) (n := 1) S (n_X9 h7 hv f1 f2 f3 f4) cd_X9_init rfl ml_L_15 ini_X9 im_X9_init rfl (by decide +kernel) rfl hE hP1 hD1 hS1 (fun z h => h) hl.1 ⟨by decide, by decide⟩ (by decide) (by decide) (Nat.le_of_ble_eq_true rfl) dL_law_9 (fun aX H2 locs2 haX hP2 hD2 hS2 => ?_)
  subst haX
  rw [List.nil_append] at hP2 hD2
  refine lv_astore_n hx hb dL_law_12 rfl hl (by decide) (lv' := [(1, .ref (aX 0)), (0, .ref b)]) rfl (fun ls1 hl1 => ?_)
  refine va_new (ci := 8) (fs := [.int 0, .int 0, .null, .null, .null, .null, .null, .null, .null, .null, .null, .null, .null, .null, .null, .null, .null, .null, .null, .null, .null, .null, .int 0, .null, .null, .int 0, .null, .null, .null, .null, .null, .null, .null, .null, .null, .int 0, .int 0, .int 0, .int 0, .int 0, .int 0, .int 0, .null, .null, .null, .null, .null, .null, .null, .null, .int 0, .null]) (C := RX10) (T := TX10) (N := 52) (A := A0 s) (D := Ed E0) (cl := vwCl) hx hb S.2.2.2.2 tb_X10 tyX10 tyX10_ok hown (S.2.2.2.2 _ cl_L_18) (S.2.2.2.2 _ is_X10) (S.2.2.2.2 _ ini_X10) hE.1.1 hP2 hD2 hS2 (fun q hq => hq) rfl df_X10 (by decide) (by decide) dL_law_13 (fun qM H3 hP3 hD3 hS3 => ?_)
  refine lv_dup hx hb dL_law_16 rfl ?_
  refine lv_aload_n hx hb dL_law_17 rfl (lv_at hl1 1 rfl) ?_
  refine lv_iconst hx hb dL_law_18 (v := 0) rfl ?_
  refine ww_cell S hX hbl hL hS3 hl1.1 (Nat.le_of_ble_eq_true rfl) (by decide) (by decide) dL_law_19 ?_
  refine ww_ctor (As := [.int (v0 L xs)]) (rest := [.ref qM]) (n := 1) S (n_X10 f5) cd_X10_init rfl ml_L_20 ini_X10 im_X10_init rfl (by decide +kernel) rfl hE hP3 hD3 hS3 (fun z h => h) hl1.1 ⟨by decide, by decide⟩ (by decide) (by decide) (Nat.le_of_ble_eq_true rfl) dL_law_22 (fun aM H4 locs4 haM hP4 hD4 hS4 => ?_)
  subst haM
  refine lv_astore_n hx hb dL_law_25 rfl hl1 (by decide) (lv' := [(2, .ref (aM 50)), (1, .ref (aX 0)), (0, .ref b)]) rfl (fun ls2 hl2 => ?_)
  refine lv_iconst hx hb dL_law_26 (v := nI 1) rfl ?_
  refine lv_istore_n hx hb dL_law_27 rfl hl2 (by decide) (lv' := [(3, .int (nI 1)), (2, .ref (aM 50)), (1, .ref (aX 0)), (0, .ref b)]) rfl (fun ls3 hl3 => ?_)
  have hd := va_Dl hD4
  have hap : ∀ k ∈ LxL (En E0), ∀ k2 ∈ LmL, aX k ≠ aM k2 := fun k hk k2 hk2 => by
    obtain ⟨i, -, hi⟩ := wv_at (E := Eu E0 aX (LxL (En E0))) (wx0 (En E0) wW wL) hk
    obtain ⟨j, -, hj⟩ := wv_at (E := Eu E0 aM LmL) wM hk2
    exact hd.2.2 i j _ _ hi hj
  have C : LCx p s m meth c b L xs (Eu E0 aX (LxL (En E0))) (Eu E0 aM LmL) (0 + 1 + 42 + 1 + 40) (0 + 13 + 24778 + 52 + 308731) := ⟨C0, hL, hE.1, hE.1, rfl, ⟨(lx_in h5 h7).1, (lx_in h5 h7).2, h5, h7⟩, lm_in, hap, by decide, by decide⟩
  exact lj_loop C 3586 1 (wx0 (En E0) wW wL) wM (by omega) (by omega) hR H4 locs4 ls3 (va_Pl hP4).1 (va_Pl hP4).2 hd.1 hd.2.1 hS4 hl3
