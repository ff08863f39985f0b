/-! ===== the environment at the law's entry ===== -/
theorem st_one {args : Array Value} {s : State} {A : Nat → Prop} (nm : String) (vals : List Int32) (hn : vals.length < 2 ^ 31) (hl : (Cond.laysStatic RX8 nm "[I").before args s = true) (hini : (Cond.initialized RX8).before args s = true) (harr : (Cond.arrayOf (.static RX8 nm "[I") .int).before args s = true)
    (hlen : (Cond.eq (.length (.static RX8 nm "[I")) (.int (Int32.ofNat vals.length))).before args s = true) (hel : ∀ j : Nat, j < vals.length → (Cond.eq (.elem (.static RX8 nm "[I") (.int (Int32.ofNat j))) (.int (vals.getD j 0))).before args s = true) (hA : ∀ a : Nat, a < s.heap.size → ¬ A a) :
    ∃ t : Nat, va_Z RX8 nm "[I" (.ref t) A s s.heap ∧ va_T .int t vals.length (fun i => .int (vals.getD i 0)) A s s.heap := by
  obtain ⟨t, h1, h2⟩ := va_Tof (f := fun i => .int (vals.getD i 0)) hn harr (va_eqt hlen) (fun j hj => va_eqt (hel j hj)) hA
  exact ⟨t, va_Zref hl hini h1 hA, h2⟩
theorem arr_of {args : Array Value} {s : State} {ty : FieldType} (hob : ∀ C, ty ≠ .object C) (h : (Cond.arrayClass ty).before args s = true) : ∃ cA : ClassId, ArrOfT s cA ty ∧ va_RA s cA ty := by
  obtain ⟨c, k, comp, h1, h2, h3⟩ := Cond.arrayClass_spec h
  refine ⟨c, fun n z => ⟨fun x => by simp [arrV], k, h2, comp, h3⟩, ?_⟩
  cases ty with
  | object C => exact absurd rfl (hob C)
  | _ => exact h1
theorem arr_of2 {args : Array Value} {s : State} (h : (Cond.arrayOver (.array .int)).before args s = true) : ∃ cA : ClassId, ArrOfT s cA (.array .int) ∧ va_RA s cA (.array .int) := by
  obtain ⟨comp, c, k, h1, h2, h3, h4, h5⟩ := arrayOverA_spec h
  exact ⟨c, fun n z => ⟨fun x => by simp [arrV], k, h3, comp, h4⟩, h5⟩
theorem fl_m0 : Cond.arrayOf (.static RX8 "TURNED" "[I") .int ∈ flatC (Jvm.Cond.and given_1 narrow_1) ∧ Cond.arrayOf (.static RX8 "ROWS_MORE" "[I") .int ∈ flatC (Jvm.Cond.and given_1 narrow_1) ∧ Cond.arrayOf (.static RX8 "COLUMNS_MORE" "[I") .int ∈ flatC (Jvm.Cond.and given_1 narrow_1) ∧ Cond.arrayOf (.static RX8 "FIRST_STEPS" "[I") .int ∈ flatC (Jvm.Cond.and given_1 narrow_1) ∧ Cond.arrayOf (.static RX8 "FIRST_RUNS" "[I") .int ∈ flatC (Jvm.Cond.and given_1 narrow_1) := by decide +kernel
theorem fl_m1 : ∀ q, q < 5 → Cond.eq (.length (.static RX8 (stN q) "[I")) (.int (Int32.ofNat (stV q).length)) ∈ flatC (Jvm.Cond.and given_1 narrow_1) := by decide +kernel
theorem fl_m2 : ∀ q, q < 5 → ∀ j, j < (stV q).length → Cond.eq (.elem (.static RX8 (stN q) "[I") (.int (Int32.ofNat j))) (.int ((stV q).getD j 0)) ∈ flatC (Jvm.Cond.and given_1 narrow_1) := by decide +kernel
theorem fl_m3 : ∀ q, q < 5 → Cond.laysStatic RX8 (stN q) "[I" ∈ lw_tbl := by decide +kernel
theorem fl_m4 : Cond.arrayOver (.array .int) ∈ lw_tbl := by decide +kernel
theorem fl_m5 : ∀ w ∈ nwl, w ∈ lw_tbl ∧ w.onTables = true := by decide +kernel
theorem TB_sub {w : Cond} (h : w ∈ TB) : w ∈ lw_tbl := (List.mem_filter.mp h).1
theorem st_env {args : Array Value} {s : State} (hts : ∀ w ∈ lw_tbl, w.before args s = true) (hgv : (Jvm.Cond.and given_1 narrow_1).before args s = true) :
    ∃ (D : va_G) (ey : Nat → ClassId) (es : Nat → Nat), ∀ (l : Launch) (a : Nat → Nat) (N : Nat) (L : List Nat), Evs (l, D, ey, a, es, N, L) (fun q => s.heap.size ≤ q) s s.heap := by
  have ht : ∀ w ∈ TB, w.before args s = true := fun w hw => hts w (TB_sub hw)
  have hs := flat_of_before _ hgv
  have hA : ∀ a : Nat, a < s.heap.size → ¬ (fun q => s.heap.size ≤ q) a := fun a h z => absurd h (Nat.not_lt.mpr z)
  obtain ⟨c0, i0, k0⟩ := u_known (n := 9) ht tb_X0 (ht _ is_X0)
  obtain ⟨c1, i1, k1⟩ := u_known (n := 4) ht tb_X1 (ht _ is_X1)
  obtain ⟨c2, i2, k2⟩ := u_known (n := 9) ht tb_X4 (ht _ is_X4)
  obtain ⟨c3, i3, k3⟩ := u_known (n := 4) ht tb_X5 (ht _ is_X5)
  obtain ⟨c4, i4, k4⟩ := u_known (n := 8) ht tb_X6 (ht _ is_X6)
  obtain ⟨c5, i5, k5⟩ := u_known (n := 3) ht tb_X7 (ht _ is_X7)
  obtain ⟨c6, i6, k6⟩ := u_known (n := 10) ht tb_X8 (ht _ is_X8)
  obtain ⟨c7, i7, k7⟩ := u_known (n := 13) ht tb_X9 (ht _ is_X9)
  obtain ⟨c8, i8, k8⟩ := u_known (n := 52) ht tb_X10 (ht _ is_X10)
  obtain ⟨y0, a0, r0⟩ := arr_of (ty := .int) (fun _ h => by cases h) (ht _ ac_I)
  obtain ⟨y1, a1, r1⟩ := arr_of (ty := .long) (fun _ h => by cases h) (ht _ ac_J)
  obtain ⟨y2, a2, r2⟩ := arr_of (ty := .boolean) (fun _ h => by cases h) (ht _ ac_Z)
  obtain ⟨y3, a3, r3⟩ := arr_of2 (hts _ fl_m4)
  have one : ∀ q, q < 5 → Cond.arrayOf (.static RX8 (stN q) "[I") .int ∈ flatC (Jvm.Cond.and given_1 narrow_1) → (stV q).length < 2 ^ 31 → ∃ t : Nat, va_Z RX8 (stN q) "[I" (.ref t) (fun q => s.heap.size ≤ q) s s.heap ∧ va_T .int t (stV q).length (fun i => .int ((stV q).getD i 0)) (fun q => s.heap.size ≤ q) s s.heap := fun q hq hm hn =>
    st_one (stN q) (stV q) hn (hts _ (fl_m3 q hq)) (ht _ ini_X8) (hs _ hm) (hs _ (fl_m1 q hq)) (fun j hj => hs _ (fl_m2 q hq j hj)) hA
  obtain ⟨t0, z0⟩ := one 0 (by decide) fl_m0.1 (by decide)
  obtain ⟨t1, z1⟩ := one 1 (by decide) fl_m0.2.1 (by decide)
  obtain ⟨t2, z2⟩ := one 2 (by decide) fl_m0.2.2.1 (by decide)
  obtain ⟨t3, z3⟩ := one 3 (by decide) fl_m0.2.2.2.1 (by decide)
  obtain ⟨t4, z4⟩ := one 4 (by decide) fl_m0.2.2.2.2 (by decide)
  refine ⟨(fun c => ([c0, c1, c2, c3, c4, c5, c6, c7, c8] : List ClassId).getD c c0, fun c => ([i0, i1, i2, i3, i4, i5, i6, i7, i8] : List (Nat → Nat)).getD c i0), fun k => ([y0, y1, y2, y3] : List ClassId).getD k y0, fun j => ([t0, t1, t2, t3, t4] : List Nat).getD j 0, fun l a N L => ⟨⟨⟨fun c q hq => ?_, fun k q hq => ?_⟩, fun j hj => ?_, fun w hw => va_Nw.of (fl_m5 w hw).2 (hts _ (fl_m5 w hw).1)⟩, over_moved (u := s) (E := s) (Vm.Alike.refl s.vm) (hts _ fl_m4)⟩⟩
  · match c, hq with
    | 0, hq => cases hq; exact k0
    | 1, hq => cases hq; exact k1
    | 2, hq => cases hq; exact k2
    | 3, hq => cases hq; exact k3
    | 4, hq => cases hq; exact k4
    | 5, hq => cases hq; exact k5
    | 6, hq => cases hq; exact k6
    | 7, hq => cases hq; exact k7
    | 8, hq => cases hq; exact k8
    | _ + 9, hq => cases hq
  · match k, hq with
    | 0, hq => cases hq; exact ⟨a0, r0⟩
    | 1, hq => cases hq; exact ⟨a1, r1⟩
    | 2, hq => cases hq; exact ⟨a2, r2⟩
    | 3, hq => cases hq; exact ⟨a3, r3⟩
    | _ + 4, hq => cases hq
  · rcases (show j = 0 ∨ j = 1 ∨ j = 2 ∨ j = 3 ∨ j = 4 by omega) with rfl | rfl | rfl | rfl | rfl
    · exact z0
    · exact z1
    · exact z2
    · exact z3
    · exact z4
