/-! constructors: new, calls of constructors, rows of rows -/
section NJS
variable {E : Ev} {M : Mt} {q0 mc ms : Nat} {rd : va_W} {Qp : Array Value → State → Outcome → State → Prop} {pc qq : Nat} {lv : List (Nat × Value)} {st : List Value} {ws : va_W} {kc ks : Nat}
theorem nj_new {C1 : String} {T : u_T} {n ci idx : Nat} {fs : List Value} (ty0 : Nat → FieldType) (hcl : vwCl[ci]? = some (C1, T, n)) (htb : ∀ w ∈ u_ws C1 T n, w ∈ TB) (hty : ∀ k, k < n → parseFieldDescriptor (T k).2.2.1 = some (ty0 k)) (hlk : Cond.classLink M.1 idx C1 ∈ TB) (his : Cond.instantiable C1 n ∈ TB) (hini : Cond.initialized C1 ∈ TB) (hfs : ∀ j, j < n → defaultValue (ty0 j) = vp_V fs j) (hc : kc + 1 ≤ mc) (hs : ks + n ≤ ms) (hd : decode M.2.1 pc = .ok (.new idx, 3)) (hp : pc + 3 = qq)
    (h : ∀ q : Nat, NJ E M q0 mc ms rd Qp qq lv (.ref q :: st) (ws ++ [(q, .inr (ci, fs))]) (kc + 1) (ks + n)) : NJ E M q0 mc ms rd Qp pc lv st ws kc ks := by
  subst hp
  intro p e s m args below meth c H locs ls C hr hk2 hE hR hP hD hS hl
  exact va_new (ci := ci) (fs := fs) (C := C1) (T := T) (N := n) C.1 C.2.1 C.2.2.2.2 htb ty0 hty C.2.2.2.1 (C.2.2.2.2 _ hlk) (C.2.2.2.2 _ his) (C.2.2.2.2 _ hini) hE.1.1 hP hD hS (fun q hq => Or.inr hq) hcl hfs hc hs hd (fun q H1 hP1 hD1 hS1 =>
    h q p e s m args below meth c H1 locs ls C hr hk2 hE hR hP1 hD1 hS1 hl)
theorem Evs_blind {A : Nat → Prop} {U : State} {H : Heap} (g : JFrame) (mk : MethodId) (a : Array Value) (h : Evs E A U H) : Evs E A (U.calling g mk a) H :=
  ⟨Evn_blind g mk a h.1, over_moved (u := U) (E := U.calling g mk a) (Vm.Alike.refl U.vm) h.2⟩
theorem Evs_mv {A B : Nat → Prop} {s U : State} {H : Heap} {locs : List Loc} (hS : va_S A s.heap H locs) (hW : s.WarmedH U.vm) (hAB : ∀ z, B z → A z) (h : Evs E A s s.heap) : Evs E B U H := ⟨Evn_mv hS hW hAB h.1, over_moved hW.alike h.2⟩
theorem nj_ctor {Mc : Mt} {y : MethodName} {mc1 ms1 q ci idx n : Nat} {fs As rest : List Value} {rd1 : va_W} {L : List Nat} {w : Wd} {cn : (Nat → Nat) → Prop} (hC : Cn E Mc y mc1 ms1 q ci fs As rd1 L w cn) (hcode : Cond.code y Mc.2.1 Mc.2.2.1 Mc.2.2.2.1 ∈ TB) (hret : Mc.2.2.2.1 = none) (hlink : Cond.methodLink M.1 idx y ∈ TB) (hini : Cond.initialized y.cls ∈ TB) (him : Cond.instanceMethod y ∈ TB) (hyn : y.name = "<init>")
    (hdsc : y.cls ≠ "java/lang/invoke/MethodHandle" ∧ y.cls ≠ "java/lang/invoke/VarHandle" ∧ (parseMethodDescriptor y.desc).map (fun d => d.parameters.length) = some n) (hn : As.length = n) (hr1 : rd1.length ≤ 1) (hrd : ∀ (k : Nat) (x : Nat × va_E), rd1[k]? = some x → ∃ i : Nat, ws[i]? = some x) (hDD : DD M Mc = true) (hc : kc + mc1 ≤ mc) (hs : ks + ms1 ≤ ms) (hst : st = As.reverse ++ .ref q :: rest) (hrest : (rest.map fun v => v.category).sum ≤ 8)
    (hd : decode M.2.1 pc = .ok (.invokespecial idx, 3)) (hp : pc + 3 = qq) (h : ∀ a : Nat → Nat, cn a → NJ E M q0 mc ms rd Qp qq lv rest (ws ++ wv (Eu E a L) w) (kc + mc1) (ks + ms1)) : NJ E M q0 mc ms rd Qp pc lv st (ws ++ [(q, .inr (ci, fs))]) kc ks := by
  subst hp hst
  intro p e s m args below meth c H locs ls C hr hk2 hE hR hP hD hS hl
  have hlast : (ws ++ [(q, (.inr (ci, fs) : va_E))])[ws.length]? = some (q, .inr (ci, fs)) := by rw [List.getElem?_append_right (Nat.le_refl _), Nat.sub_self]; rfl
  have hin : ∀ (i : Nat) (x : Nat × va_E), ws[i]? = some x → (ws ++ [(q, (.inr (ci, fs) : va_E))])[i]? = some x := fun i x hx => by
    rw [List.getElem?_append_left (List.getElem?_eq_some_iff.mp hx).1]; exact hx
  have hne : ∀ (i : Nat) (x : Nat × va_E), ws[i]? = some x → x.1 ≠ q := fun i x hx hq => by
    have h1 := hD.1 i ws.length x _ (hin i x hx) hlast hq
    have h2 := (List.getElem?_eq_some_iff.mp hx).1
    omega
  have hAB : ∀ z, AN q H.size z → AN q0 s.heap.size z := fun z hz => by
    rcases hz with rfl | hz
    · exact hD.2 _ _ hlast
    · exact Or.inr (Nat.le_trans hS.1 hz)
  have hPc : va_P (Ed E) vwCl ((q, .inr (ci, fs)) :: rd1) H := fun k x hx => by
    cases k with
    | zero => cases hx; exact hP _ _ hlast
    | succ k =>
      obtain ⟨i, hi⟩ := hrd k x hx
      exact hP _ _ (hin i x hi)
  have hDc : va_D (fun _ => True) ((q, (.inr (ci, fs) : va_E)) :: rd1) := by
    refine ⟨fun i j x y hx hy hxy => ?_, fun _ _ _ => trivial⟩
    have l1 := (List.getElem?_eq_some_iff.mp hx).1
    have l2 := (List.getElem?_eq_some_iff.mp hy).1
    simp only [List.length_cons] at l1 l2
    have c1 : i = 0 ∨ i = 1 := by omega
    have c2 : j = 0 ∨ j = 1 := by omega
    rcases c1 with rfl | rfl <;> rcases c2 with rfl | rfl
    · rfl
    · cases hx
      obtain ⟨i, hi⟩ := hrd 0 y hy
      exact absurd hxy.symm (hne i y hi)
    · cases hy
      obtain ⟨i, hi⟩ := hrd 0 x hx
      exact absurd hxy (hne i x hi)
    · rfl
  have hpre : PreS s H (va_Pc (.ref q :: As) (fun U => U.heap.size = H.size ∧ va_P (Ed E) vwCl ((q, .inr (ci, fs)) :: rd1) U.heap ∧ va_D (fun _ => True) ((q, (.inr (ci, fs) : va_E)) :: rd1) ∧ Evs E (AN q H.size) U U.heap)) (.ref q :: As) :=
    ⟨fun a U g mk z => ⟨z.1, z.2.1, z.2.2.1, z.2.2.2.1, Evs_blind g mk a z.2.2.2.2⟩, fun U hU hW => ⟨rfl, by rw [hU], by rw [hU]; exact hPc, hDc, by rw [hU]; exact Evs_mv hS hW hAB hE⟩⟩
  have hcb : CallB (rmk mc ms M.2.2.2.2.1) s args M.1 idx y Mc.2.1 Mc.2.2.1 none (.code y Mc.2.1 Mc.2.2.1 Mc.2.2.2.1 :: TB) (rmk mc1 ms1 Mc.2.2.2.2.1) mc1 ms1 n :=
    callB_of n C.2.2.2.2 (TB_goodIn hcode) (by rw [hret]) rfl rfl (C.2.2.2.2 _ hini) (C.2.2.2.2 _ hlink) hdsc (DD_use hDD)
  have run := va_runI (As := As) (rest := rest) (e := e) (below := below) (meth := meth) (locs := locs) (cells := kc) (slots := ks) (g := F0 m pc ls (As.reverse ++ .ref q :: rest)) ⟨C.1, C.2.1, C.2.2.1, C.2.2.2.1, C.2.2.2.2⟩ (hC H.size) ⟨hcb, hyn, C.2.2.2.2 _ him⟩ hpre rfl hn hl.1 rfl (lv_room hrest) hd ⟨hc, hs⟩
  intro T hT X
  obtain ⟨v, st₀, t, T', L', h0, X', hL, e1, e2, ⟨hv, ⟨a, hca, hP1, hD1⟩, hz, hk⟩, stp⟩ := run T hT X
  cases hv
  rw [h0] at hz hk hD1
  have hno : ∀ (i : Nat) (x : Nat × va_E), ws[i]? = some x → ¬ AN q H.size x.1 := fun i x hx z => by
    rcases z with z | z
    · exact hne i x hx z
    · exact absurd (hP _ _ (hin i x hx)).lt (Nat.not_lt.mpr z)
  have hPw : va_P (Ed E) vwCl ws t.heap := fun i x hx => (hP _ _ (hin i x hx)).kept (hk x.1 (hP _ _ (hin i x hx)).lt (hno i x hx))
  have hDw : va_D (AN q0 s.heap.size) ws := ⟨fun i j x y hx hy => hD.1 i j x y (hin i x hx) (hin j y hy), fun i x hx => hD.2 i x (hin i x hx)⟩
  have hD2 : va_D (AN q0 s.heap.size) (ws ++ wv (Eu E a L) w) := va_D.app hDw (hD1.weaken (fun _ _ _ z => hAB _ z)) (fun i j x y hx hy hxy => hno i x hx (hxy ▸ hD1.2 j y hy))
  obtain ⟨t2, a1, b1⟩ := h a hca p e s m args below meth c T'.heap (locs ++ L') ls C hr hk2 hE hR (by rw [e1]; exact hPw.app hP1) hD2
    ⟨Nat.le_trans hS.1 (by rw [e1]; exact hz), fun z h1 h2 => by rw [e1, hk z (Nat.lt_of_lt_of_le h1 hS.1) (fun y => h2 (hAB z y))]; exact hS.2.1 z h1 h2, fun z hz => by
      rcases List.mem_append.mp hz with h | h
      · exact hS.2.2 z h
      · exact hAB _ (hL z h)⟩ hl T' rfl X'
  exact ⟨t2, stp t2 a1, b1⟩
theorem nj_rows {idx N K : Nat} {n k : Int32} (hac : Cond.arrayClass .int ∈ TB) (hcl : Cond.classLink M.1 idx "[[I" ∈ TB) (hn : ¬ n < 0) (hk : ¬ k < 0) (hN : n.toNatClampNeg = N) (hK : k.toNatClampNeg = K) (hb1 : N * 4 ≤ 536870912) (hb2 : K * 4 ≤ 536870912) (hc : kc + (1 + N) ≤ mc) (hs : ks + (N + N * K) ≤ ms) (hd : decode M.2.1 pc = .ok (.multianewarray idx 2, 4)) (hp : pc + 4 = qq)
    (h : ∀ q : Nat, NJ E M q0 mc ms rd Qp qq lv (.ref q :: st) (ws ++ ((q, .inl (Ey E 3, N, .inr (.inr (.inr (.inr (fun i => if i < N then some (q + 1 + i) else none)))))) :: (List.range N).map (fun i => (q + 1 + i, .inl (Ey E 0, K, .inl (fun _ => 0)))))) (kc + 1 + N) (ks + N + N * K)) : NJ E M q0 mc ms rd Qp pc lv (.int k :: .int n :: st) ws kc ks := by
  subst hp
  intro p e s m args below meth c H locs ls C hr hk2 hE hR hP hD hS hl
  refine ry_new (ty := .int) C.1 C.2.1 C.2.2.2.1 (C.2.2.2.2 _ hcl) (over_moved (u := s) (E := s) (Vm.Alike.refl s.vm) hE.2) (C.2.2.2.2 _ hac) hd hn hk hN hK hb1 hb2 (by omega) rfl hc hs (fun H1 cA cy hA hy hz hat hrow hold => ?_)
  have e1 : cA = Ey E 3 := Option.some.inj (hA.symm.trans (hE.1.1.2 3 (Ey E 3, .array .int) rfl).2)
  have e2 : cy = Ey E 0 := Option.some.inj (hy.symm.trans (hE.1.1.2 0 (Ey E 0, .int) rfl).2)
  subst e1 e2
  have hP1 : va_P (Ed E) vwCl ws H1 := hP.kept (fun i x hx => hold x.1 (hP i x hx).lt)
  have hrowat : ∀ (i : Nat) (x : Nat × va_E), ((List.range N).map (fun i => ((H.size + 1 + i, .inl (Ey E 0, K, .inl (fun _ => 0))) : Nat × va_E)))[i]? = some x → i < N ∧ x = (H.size + 1 + i, .inl (Ey E 0, K, .inl (fun _ => 0))) := fun i x hx => by
    rw [List.getElem?_map] at hx
    by_cases hi : i < N
    · rw [List.getElem?_range hi] at hx
      exact ⟨hi, (Option.some.inj hx).symm⟩
    · rw [List.getElem?_eq_none (by simpa using hi)] at hx
      cases hx
  have hP2 : va_P (Ed E) vwCl ((H.size, .inl (Ey E 3, N, .inr (.inr (.inr (.inr (fun i => if i < N then some (H.size + 1 + i) else none)))))) :: (List.range N).map (fun i => (H.size + 1 + i, .inl (Ey E 0, K, .inl (fun _ => 0))))) H1 := fun i x hx => by
    cases i with
    | zero =>
      cases hx
      show H1[H.size]? = some (vp_cell _ _)
      rw [hat, vp_cell_q]
      refine congrArg some (congrArg (arrV _ N) (funext fun j => ?_))
      by_cases hj : j < N
      · rw [if_pos hj, if_pos hj]; rfl
      · rw [if_neg hj, if_neg hj]; rfl
    | succ i =>
      obtain ⟨h1, rfl⟩ := hrowat i x hx
      show H1[H.size + 1 + i]? = some (vp_cell _ _)
      rw [hrow i h1]
      rfl
  have hD2 : va_D (AN q0 s.heap.size) (ws ++ ((H.size, .inl (Ey E 3, N, .inr (.inr (.inr (.inr (fun i => if i < N then some (H.size + 1 + i) else none)))))) :: (List.range N).map (fun i => ((H.size + 1 + i, .inl (Ey E 0, K, .inl (fun _ => 0))) : Nat × va_E)))) := by
    have key : ∀ (i : Nat) (x : Nat × va_E), ((H.size, (.inl (Ey E 3, N, .inr (.inr (.inr (.inr (fun i => if i < N then some (H.size + 1 + i) else none))))) : va_E)) :: (List.range N).map (fun i => ((H.size + 1 + i, .inl (Ey E 0, K, .inl (fun _ => 0))) : Nat × va_E)))[i]? = some x → x.1 = H.size + i := fun i x hx => by
      cases i with
      | zero => cases hx; rfl
      | succ i =>
        obtain ⟨h1, rfl⟩ := hrowat i x hx
        show H.size + 1 + i = _
        omega
    refine va_D.app hD ⟨fun i j x y hx hy hxy => ?_, fun i x hx => ?_⟩ (fun i j x y hx hy hxy => ?_)
    · have h1 := key i x hx
      have h2 := key j y hy
      omega
    · have h1 := key i x hx
      have h2 := hS.1
      exact Or.inr (by omega)
    · have h1 := key j y hy
      have h2 := (hP i x hx).lt
      omega
  exact h H.size p e s m args below meth c H1 locs ls C hr hk2 hE hR (hP1.app hP2) hD2 ⟨by have := hS.1; omega, fun x h1 h2 => (hold x (Nat.lt_of_lt_of_le h1 hS.1)).trans (hS.2.1 x h1 h2), hS.2.2⟩ hl
end NJS
