/-! ===== the law's start: the helper 'cell', constructors called from the law ===== -/
set_option maxRecDepth 20000 in
theorem cd_cell : Cond.code yL_cell cL_cell 2 (some .int) ∈ TB := TB_in (List.mem_of_getElem? (i := 944) rfl) rfl
theorem ml_cell : Cond.methodLink R_law 9 yL_cell ∈ TB := TB_in (List.mem_of_getElem? (i := 942) (by decide +kernel)) rfl
theorem sx_cell : Cond.static yL_cell ∈ TB := TB_in (List.mem_of_getElem? (i := 943) (by decide +kernel)) rfl
theorem ini_L : Cond.initialized R_law ∈ TB := TB_in (List.mem_of_getElem? (i := 74) (by decide +kernel)) rfl
theorem ml_L_15 : Cond.methodLink R_law 15 yX9_init ∈ TB := TB_in (List.mem_of_getElem? (i := 90) (by decide +kernel)) rfl
theorem ml_L_20 : Cond.methodLink R_law 20 yX10_init ∈ TB := TB_in (List.mem_of_getElem? (i := 947) (by decide +kernel)) rfl
def v0 (L : Nat) (xs : Nat → Int32) : Int32 := if 0 < L then xs 0 else 0
theorem c_cell (l : Launch) {b L : Nat} {xs : Nat → Int32} (hL : L ≤ 3585) : Met l yL_cell (.code yL_cell cL_cell 2 (some .int) :: TB) (rmk 0 0 1) (va_Pc [.ref b, .int 0] (fun U => va_X b L xs U U.heap ∧ b < U.heap.size))
    (fun _ st oc t => oc = .returned (some (.int (v0 L xs))) ∧ t.heap = st.heap) 0 0 (fun _ => False) := by
  refine Met.ofW (cc := cL_cell) (maxL := 2) (ret := some .int) (by decide) rfl ?_
  intro p e s m args below meth c s₁ B hml hv
  obtain ⟨rfl, hX, hbl⟩ := hv
  rw [lg_entry_eq]
  have hl := lv_entry [Value.ref b, .int 0] (n := 2) (Nat.le_of_ble_eq_true rfl)
  have hS : va_S (fun _ => False) s.heap s.heap [] := va_S.rf
  refine lv_iload_n B.exec B.bytes dL_cell_0 rfl (lv_at hl 1 rfl) ?_
  refine lv_aload_n B.exec B.bytes dL_cell_1 rfl (lv_at hl 0 rfl) ?_
  refine va_slen B.exec B.bytes hX hbl (fun z => z) hS dL_cell_2 ?_
  refine lv_icmp_ge B.exec B.bytes dL_cell_3 (tgt := 12) rfl (fun z => ?_) (fun z => ?_)
  · have h0 : L = 0 := by
      have h1 := (nI_leI (a := L) (b := 0) (by omega) (by omega)).mp z
      omega
    refine lv_iconst B.exec B.bytes dL_cell_12 (v := 0) rfl ?_
    exact W.iret B.exec B.bytes B.returns (fun t ht hW => ⟨by rw [show v0 L xs = 0 from if_neg (by omega)], ht⟩) (fun _ h => by cases h) dL_cell_13
  · have h0 : 0 < L := by
      apply Nat.pos_of_ne_zero
      intro h1
      exact z (by rw [h1]; exact Int32.le_refl _)
    refine lv_aload_n B.exec B.bytes dL_cell_6 rfl (lv_at hl 0 rfl) ?_
    refine lv_iload_n B.exec B.bytes dL_cell_7 rfl (lv_at hl 1 rfl) ?_
    refine va_sld B.exec B.bytes hX hbl (fun z => z) hS (i := 0) (inb_in (show inb (nI 0) L = true from inb_nI h0 (by omega))) dL_cell_8 ?_
    refine lv_goto B.exec B.bytes dL_cell_9 (tgt := 13) rfl ?_
    exact W.iret B.exec B.bytes B.returns (fun t ht hW => ⟨by rw [show v0 L xs = xs 0 from if_pos h0]; rfl, ht⟩) (fun _ h => by cases h) dL_cell_13
section START
variable {p : Program} {e : Env} {s : State} {m : MethodId} {below : List Frame} {meth : Method} {c : Code} {b L : Nat} {xs : Nat → Int32} {l : Launch} {H : Heap} {locs : List Loc} {kc ks pc : Nat} {Q : State → Prop} {ls : Array Slot} {rest : List Value}
theorem ww_cell (S : CallFix p m c code 4 s #[Value.ref b] TB R_law) (hX : va_X b L xs s s.heap) (hbl : b < s.heap.size) (hL : L ≤ 3585) (hS : va_S (A0 s) s.heap H locs) (hls : ls.size = 4) (hrest : (rest.map fun v => v.category).sum ≤ 8) (hc : kc ≤ 600000) (hs : ks ≤ 7302250) (hd : decode code pc = .ok (.invokestatic 9, 3))
    (kk : W p l e room_1 s m #[Value.ref b] below meth c H locs kc ks Q (F0 m (pc + 3) ls (.int (v0 L xs) :: rest))) : W p l e room_1 s m #[Value.ref b] below meth c H locs kc ks Q (F0 m pc ls (.int 0 :: .ref b :: rest)) := by
  have hXH : va_X b L xs s H := hX.kept (hS.2.1 b hbl (fun z => absurd hbl (Nat.not_lt.mpr z)))
  have hpre : PreS s H (va_Pc [.ref b, .int 0] (fun U => va_X b L xs U U.heap ∧ b < U.heap.size)) [.ref b, .int 0] :=
    ⟨fun a U g mk z => ⟨z.1, va_X.moved (u := U) (U := U.calling g mk a) (Vm.Alike.refl U.vm) z.2.1, z.2.2⟩, fun U hU hW => ⟨rfl, by rw [hU]; exact va_X.moved hW.alike hXH, by rw [hU]; exact Nat.lt_of_lt_of_le hbl hS.1⟩⟩
  have hcb : CallB room_1 s #[Value.ref b] R_law 9 yL_cell cL_cell 2 (some .int) (.code yL_cell cL_cell 2 (some .int) :: TB) (rmk 0 0 1) 0 0 2 :=
    callB_of 2 S.2.2.2.2 (TB_goodIn cd_cell) rfl rfl rfl (S.2.2.2.2 _ ini_L) (S.2.2.2.2 _ ml_cell) (by decide +kernel) ⟨by decide, by decide⟩
  have run := va_runS (l := l) (As := [.ref b, .int 0]) (rest := rest) (e := e) (below := below) (meth := meth) (locs := locs) (cells := kc) (slots := ks) (g := F0 m pc ls (.int 0 :: .ref b :: rest)) S (c_cell l hL) ⟨hcb, S.2.2.2.2 _ sx_cell⟩ hpre rfl rfl hls rfl (lv_room hrest) hd ⟨hc, hs⟩
  intro T hT X
  obtain ⟨v, st₀, t, T', L', h0, X', hL', e1, e2, ⟨hv, hh⟩, stp⟩ := run T hT X
  cases hv
  have hnil : L' = [] := by
    cases L' with
    | nil => rfl
    | cons y ys => exact absurd (hL' y List.mem_cons_self) id
  subst hnil
  rw [List.append_nil] at X'
  obtain ⟨t2, a1, b1⟩ := kk T' (by rw [e1, hh, h0]) X'
  exact ⟨t2, stp t2 a1, b1⟩
theorem ww_ctor {E : Ev} {A : Nat → Prop} {R : Room} {args : Array Value} {cc : ByteArray} {own : String} {nL : Nat} {ws : va_W} {Mc : Mt} {y : MethodName} {mc1 ms1 q ci idx n : Nat} {fs As : List Value} {L : List Nat} {w : Wd} {cn : (Nat → Nat) → Prop} (S : CallFix p m c cc nL s args TB own) (hC : Cn E Mc y mc1 ms1 q ci fs As [] L w cn) (hcode : Cond.code y Mc.2.1 Mc.2.2.1 Mc.2.2.2.1 ∈ TB) (hret : Mc.2.2.2.1 = none) (hlink : Cond.methodLink own idx y ∈ TB) (hini : Cond.initialized y.cls ∈ TB) (him : Cond.instanceMethod y ∈ TB) (hyn : y.name = "<init>")
    (hdsc : y.cls ≠ "java/lang/invoke/MethodHandle" ∧ y.cls ≠ "java/lang/invoke/VarHandle" ∧ (parseMethodDescriptor y.desc).map (fun d => d.parameters.length) = some n) (hn : As.length = n) (hE : Evs E A s s.heap) (hP : va_P (Ed E) vwCl (ws ++ [(q, .inr (ci, fs))]) H) (hD : va_D A (ws ++ [(q, .inr (ci, fs))])) (hS : va_S A s.heap H locs) (hA : ∀ z, s.heap.size ≤ z → A z) (hls : ls.size = nL) (hR : Mc.2.2.2.2.1 + 1 ≤ R.frames ∧ 8 + (Mc.2.2.1 + 11) + 64 * Mc.2.2.2.2.1 ≤ R.locals) (hc : kc + mc1 ≤ R.cells) (hs : ks + ms1 ≤ R.slots) (hrest : (rest.map fun v => v.category).sum ≤ 8)
    (hd : decode cc pc = .ok (.invokespecial idx, 3)) (kk : ∀ (a : Nat → Nat) (H1 : Heap) (locs1 : List Loc), cn a → va_P (Ed E) vwCl (ws ++ wv (Eu E a L) w) H1 → va_D A (ws ++ wv (Eu E a L) w) → va_S A s.heap H1 locs1 → W p E.1 e R s m args below meth c H1 locs1 (kc + mc1) (ks + ms1) Q (F0 m (pc + 3) ls rest)) :
    W p E.1 e R s m args below meth c H locs kc ks Q (F0 m pc ls (As.reverse ++ .ref q :: rest)) := by
  have hlast : (ws ++ [(q, (.inr (ci, fs) : va_E))])[ws.length]? = some (q, .inr (ci, fs)) := by rw [List.getElem?_append_right (Nat.le_refl _), Nat.sub_self]; rfl
  have hin : ∀ (i : Nat) (x : Nat × va_E), ws[i]? = some x → (ws ++ [(q, (.inr (ci, fs) : va_E))])[i]? = some x := fun i x hx => by
    rw [List.getElem?_append_left (List.getElem?_eq_some_iff.mp hx).1]; exact hx
  have hne : ∀ (i : Nat) (x : Nat × va_E), ws[i]? = some x → x.1 ≠ q := fun i x hx hq => by
    have h1 := hD.1 i ws.length x _ (hin i x hx) hlast hq
    have h2 := (List.getElem?_eq_some_iff.mp hx).1
    omega
  have hAB : ∀ z, AN q H.size z → A z := fun z hz => by
    rcases hz with rfl | hz
    · exact hD.2 _ _ hlast
    · exact hA _ (Nat.le_trans hS.1 hz)
  have hPc : va_P (Ed E) vwCl [(q, .inr (ci, fs))] H := fun k x hx => by
    cases k with
    | zero => cases hx; exact hP _ _ hlast
    | succ k => cases hx
  have hDc : va_D (fun _ => True) [(q, (.inr (ci, fs) : va_E))] := by
    refine ⟨fun i j x y hx hy hxy => ?_, fun _ _ _ => trivial⟩
    have l1 := (List.getElem?_eq_some_iff.mp hx).1
    have l2 := (List.getElem?_eq_some_iff.mp hy).1
    simp only [List.length_cons, List.length_nil] at l1 l2
    omega
  have hpre : PreS s H (va_Pc (.ref q :: As) (fun U => U.heap.size = H.size ∧ va_P (Ed E) vwCl [(q, .inr (ci, fs))] U.heap ∧ va_D (fun _ => True) [(q, (.inr (ci, fs) : va_E))] ∧ Evs E (AN q H.size) U U.heap)) (.ref q :: As) :=
    ⟨fun a U g mk z => ⟨z.1, z.2.1, z.2.2.1, z.2.2.2.1, Evs_blind g mk a z.2.2.2.2⟩, fun U hU hW => ⟨rfl, by rw [hU], by rw [hU]; exact hPc, hDc, by rw [hU]; exact Evs_mv hS hW hAB hE⟩⟩
  have hcb : CallB R s args own idx y Mc.2.1 Mc.2.2.1 none (.code y Mc.2.1 Mc.2.2.1 Mc.2.2.2.1 :: TB) (rmk mc1 ms1 Mc.2.2.2.2.1) mc1 ms1 n :=
    callB_of n S.2.2.2.2 (TB_goodIn hcode) (by rw [hret]) rfl rfl (S.2.2.2.2 _ hini) (S.2.2.2.2 _ hlink) hdsc hR
  have run := va_runI (As := As) (rest := rest) (e := e) (below := below) (meth := meth) (locs := locs) (cells := kc) (slots := ks) (g := F0 m pc ls (As.reverse ++ .ref q :: rest)) S (hC H.size) ⟨hcb, hyn, S.2.2.2.2 _ him⟩ hpre rfl hn hls rfl (lv_room hrest) hd ⟨hc, hs⟩
  intro T hT X
  obtain ⟨v, st₀, t, T', L', h0, X', hL, e1, e2, ⟨hv, ⟨a, hca, hP1, hD1⟩, hz, hk⟩, stp⟩ := run T hT X
  cases hv
  rw [h0] at hz hk hD1
  have hno : ∀ (i : Nat) (x : Nat × va_E), ws[i]? = some x → ¬ AN q H.size x.1 := fun i x hx z => by
    rcases z with z | z
    · exact hne i x hx z
    · exact absurd (hP _ _ (hin i x hx)).lt (Nat.not_lt.mpr z)
  have hPw : va_P (Ed E) vwCl ws t.heap := fun i x hx => (hP _ _ (hin i x hx)).kept (hk x.1 (hP _ _ (hin i x hx)).lt (hno i x hx))
  have hDw : va_D A ws := ⟨fun i j x y hx hy => hD.1 i j x y (hin i x hx) (hin j y hy), fun i x hx => hD.2 i x (hin i x hx)⟩
  have hD2 : va_D A (ws ++ wv (Eu E a L) w) := va_D.app hDw (hD1.weaken (fun _ _ _ z => hAB _ z)) (fun i j x y hx hy hxy => hno i x hx (hxy ▸ hD1.2 j y hy))
  obtain ⟨t2, a1, b1⟩ := kk a T'.heap (locs ++ L') hca (by rw [e1]; exact hPw.app hP1) hD2
    ⟨Nat.le_trans hS.1 (by rw [e1]; exact hz), fun z h1 h2 => by rw [e1, hk z (Nat.lt_of_lt_of_le h1 hS.1) (fun y => h2 (hAB z y))]; exact hS.2.1 z h1 h2, fun z hz => by
      rcases List.mem_append.mp hz with h | h
      · exact hS.2.2 z h
      · exact hAB _ (hL z h)⟩ T' rfl X'
  exact ⟨t2, stp t2 a1, b1⟩
end START
theorem sz_of (v : Int32) : ∃ N, szOk v N ∧ 5 ≤ N ∧ N ≤ 7 := by
  by_cases h1 : v < 5
  · exact ⟨5, Or.inl ⟨Or.inl h1, rfl⟩, by omega, by omega⟩
  by_cases h2 : v ≤ 7
  · have a1 := h1
    have a2 := h2
    rw [Int32.lt_iff_toInt_lt] at a1
    rw [Int32.le_iff_toInt_le] at a2
    have e5 : (5 : Int32).toInt = 5 := rfl
    have e7 : (7 : Int32).toInt = 7 := rfl
    rw [e5] at a1
    rw [e7] at a2
    have hv : v = nI v.toInt.toNat := by
      apply Int32.toInt_inj.mp
      rw [nI_toInt (by omega)]
      omega
    exact ⟨v.toInt.toNat, Or.inr ⟨h1, h2, hv⟩, by omega, by omega⟩
  · exact ⟨5, Or.inl ⟨Or.inr h2, rfl⟩, by omega, by omega⟩
theorem lx_in {N : Nat} (h5 : 5 ≤ N) (h7 : N ≤ 7) : (∀ k, inX k = true → k ∈ LxL N) ∧ ∀ i, i < N → 15 + i ∈ LxL N := by
  have h : (∀ k, k < 43 → inX k = true → k ∈ LxL N) ∧ ∀ i, i < N → 15 + i ∈ LxL N := by
    rcases (show N = 5 ∨ N = 6 ∨ N = 7 by omega) with rfl | rfl | rfl
    · exact ⟨by decide +kernel, by decide +kernel⟩
    · exact ⟨by decide +kernel, by decide +kernel⟩
    · exact ⟨by decide +kernel, by decide +kernel⟩
  refine ⟨fun k hk => h.1 k ?_ hk, h.2⟩
  simp only [inX, Bool.and_eq_true, Bool.or_eq_true, decide_eq_true_eq] at hk
  omega
theorem va_Pl {D : va_G} {cl : List vw_C} {a b : va_W} {H : Heap} (h : va_P D cl (a ++ b) H) : va_P D cl a H ∧ va_P D cl b H :=
  ⟨fun k x hx => h k x (by rw [List.getElem?_append_left (List.getElem?_eq_some_iff.mp hx).1]; exact hx), fun k x hx => h (a.length + k) x (by rw [List.getElem?_append_right (Nat.le_add_right _ _), Nat.add_sub_cancel_left]; exact hx)⟩
theorem va_Dl {A : Nat → Prop} {a b : va_W} (h : va_D A (a ++ b)) : va_D A a ∧ va_D A b ∧ ∀ (i j : Nat) (x y : Nat × va_E), a[i]? = some x → b[j]? = some y → x.1 ≠ y.1 := by
  have hl : ∀ (k : Nat) (x : Nat × va_E), a[k]? = some x → (a ++ b)[k]? = some x := fun k x hx => by rw [List.getElem?_append_left (List.getElem?_eq_some_iff.mp hx).1]; exact hx
  have hr : ∀ (k : Nat) (x : Nat × va_E), b[k]? = some x → (a ++ b)[a.length + k]? = some x := fun k x hx => by rw [List.getElem?_append_right (Nat.le_add_right _ _), Nat.add_sub_cancel_left]; exact hx
  refine ⟨⟨fun i j x y hx hy => h.1 i j x y (hl i x hx) (hl j y hy), fun k x hx => h.2 k x (hl k x hx)⟩, ⟨fun i j x y hx hy hxy => ?_, fun k x hx => h.2 _ x (hr k x hx)⟩, fun i j x y hx hy hxy => ?_⟩
  · have := h.1 _ _ x y (hr i x hx) (hr j y hy) hxy
    omega
  · have h1 := h.1 _ _ x y (hl i x hx) (hr j y hy) hxy
    have h2 := (List.getElem?_eq_some_iff.mp hx).1
    omega
