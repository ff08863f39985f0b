/-! ===== the law: the judgement LJ: the law's code at pc, with both systems' worlds, comes to its end with true ===== -/
def A0 (s : State) : Nat → Prop := fun q => s.heap.size ≤ q
theorem AA_A0 {E : Ev} {s : State} {w : Wd} (hD : va_D (A0 s) (wv E w)) : AA E s.heap.size = A0 s := funext fun z => propext ⟨fun hz => by
    rcases hz with ⟨k, hk, rfl⟩ | hz
    · obtain ⟨p0, -, h0⟩ := wv_at (E := E) w hk
      exact hD.2 p0 _ h0
    · exact hz, fun hz => Or.inr hz⟩
/-- what holds all along: the law's start, the two environments, their cells apart -/
def LCx (p : Program) (s : State) (m : MethodId) (meth : Method) (c : Code) (b L : Nat) (xs : Nat → Int32) (Ex Em : Ev) (kc ks : Nat) : Prop :=
  lw_At p s m meth c b L xs ∧ L ≤ 3585 ∧ Evn Ex (A0 s) s s.heap ∧ Evn Em (A0 s) s s.heap ∧ Em.1 = Ex.1 ∧ LX Ex ∧ LM Em ∧ (∀ k ∈ El Ex, ∀ k' ∈ El Em, Ea Ex k ≠ Ea Em k') ∧ kc ≤ 600000 ∧ ks ≤ 7302250
def LJ (p : Program) (e : Env) (s : State) (m : MethodId) (below : List Frame) (meth : Method) (c : Code) (b : Nat) (Ex Em : Ev) (kc ks : Nat) (pc : Nat) (lv : List (Nat × Value)) (st : List Value) (wx wm : Wd) : Prop :=
  ∀ (H : Heap) (locs : List Loc) (ls : Array Slot), va_P (Ed Ex) vwCl (wv Ex wx) H → va_P (Ed Em) vwCl (wv Em wm) H → va_D (A0 s) (wv Ex wx) → va_D (A0 s) (wv Em wm) → va_S (A0 s) s.heap H locs → lv_has ls 4 lv →
    W p Ex.1 e room_1 s m #[Value.ref b] below meth c H locs kc ks (lw_Z below #[Value.ref b] s) (F0 m pc ls st)
section LAWJ
variable {p : Program} {e : Env} {s : State} {m : MethodId} {below : List Frame} {meth : Method} {c : Code} {b L : Nat} {xs : Nat → Int32} {Ex Em : Ev} {kc ks : Nat} {pc qq : Nat} {lv : List (Nat × Value)} {st : List Value} {wx wm : Wd}
theorem LJ.go {pc' : Nat} {st' : List Value} (h : LJ p e s m below meth c b Ex Em kc ks pc' lv st' wx wm) (k : ∀ {H : Heap} {locs : List Loc} {ls : Array Slot} {Q : State → Prop}, lv_has ls 4 lv → va_S (A0 s) s.heap H locs → W p Ex.1 e room_1 s m #[Value.ref b] below meth c H locs kc ks Q (F0 m pc' ls st') → W p Ex.1 e room_1 s m #[Value.ref b] below meth c H locs kc ks Q (F0 m pc ls st)) : LJ p e s m below meth c b Ex Em kc ks pc lv st wx wm :=
  fun H locs ls hP hP2 hD hD2 hS hl => k hl hS (h H locs ls hP hP2 hD hD2 hS hl)
theorem lj_aload {i : Fin 4} {x : Nat} (C : LCx p s m meth c b L xs Ex Em kc ks) (k : Nat) (hd : decode code pc = .ok (.aload_n i, 1)) (hk : lv[k]? = some ((i : Nat), .ref x)) (hp : pc + 1 = qq) (h : LJ p e s m below meth c b Ex Em kc ks qq lv (.ref x :: st) wx wm) : LJ p e s m below meth c b Ex Em kc ks pc lv st wx wm := by
  subst hp
  exact h.go (fun hl hS kk => lv_aload_n C.1.1 C.1.2.1 hd rfl (lv_at hl k hk) kk)
theorem lj_iload {i : Fin 4} {x : Int32} (C : LCx p s m meth c b L xs Ex Em kc ks) (k : Nat) (hd : decode code pc = .ok (.iload_n i, 1)) (hk : lv[k]? = some ((i : Nat), .int x)) (hp : pc + 1 = qq) (h : LJ p e s m below meth c b Ex Em kc ks qq lv (.int x :: st) wx wm) : LJ p e s m below meth c b Ex Em kc ks pc lv st wx wm := by
  subst hp
  exact h.go (fun hl hS kk => lv_iload_n C.1.1 C.1.2.1 hd rfl (lv_at hl k hk) kk)
theorem lj_iconst {n : Int} (C : LCx p s m meth c b L xs Ex Em kc ks) (v : Int32) (hd : decode code pc = .ok (.iconst n, 1)) (hv : Int32.ofInt n = v) (hp : pc + 1 = qq) (h : LJ p e s m below meth c b Ex Em kc ks qq lv (.int v :: st) wx wm) : LJ p e s m below meth c b Ex Em kc ks pc lv st wx wm := by
  subst hp
  exact h.go (fun hl hS kk => lv_iconst C.1.1 C.1.2.1 hd hv kk)
theorem lj_bipush {n : Int} (C : LCx p s m meth c b L xs Ex Em kc ks) (v : Int32) (hd : decode code pc = .ok (.bipush n, 2)) (hv : (Int8.ofInt n).toInt32 = v) (hp : pc + 2 = qq) (h : LJ p e s m below meth c b Ex Em kc ks qq lv (.int v :: st) wx wm) : LJ p e s m below meth c b Ex Em kc ks pc lv st wx wm := by
  subst hp
  exact h.go (fun hl hS kk => lv_bipush C.1.1 C.1.2.1 hd hv kk)
theorem lj_iadd {x y z : Int32} (C : LCx p s m meth c b L xs Ex Em kc ks) (hd : decode code pc = .ok (.iadd, 1)) (hz : x + y = z) (hp : pc + 1 = qq) (h : LJ p e s m below meth c b Ex Em kc ks qq lv (.int z :: st) wx wm) : LJ p e s m below meth c b Ex Em kc ks pc lv (.int y :: .int x :: st) wx wm := by
  subst hp hz
  exact h.go (fun hl hS kk => lv_iadd C.1.1 C.1.2.1 hd kk)
theorem lj_isub {x y : Int32} (C : LCx p s m meth c b L xs Ex Em kc ks) (hd : decode code pc = .ok (.isub, 1)) (hp : pc + 1 = qq) (h : LJ p e s m below meth c b Ex Em kc ks qq lv (.int (x - y) :: st) wx wm) : LJ p e s m below meth c b Ex Em kc ks pc lv (.int y :: .int x :: st) wx wm := by
  subst hp
  exact h.go (fun hl hS kk => lv_isub C.1.1 C.1.2.1 hd kk)
theorem lj_iand {x y : Int32} (C : LCx p s m meth c b L xs Ex Em kc ks) (hd : decode code pc = .ok (.iand, 1)) (hp : pc + 1 = qq) (h : LJ p e s m below meth c b Ex Em kc ks qq lv (.int (x &&& y) :: st) wx wm) : LJ p e s m below meth c b Ex Em kc ks pc lv (.int y :: .int x :: st) wx wm := by
  subst hp
  exact h.go (fun hl hS kk => lv_iand C.1.1 C.1.2.1 hd kk)
theorem lj_goto {off : Int} (C : LCx p s m meth c b L xs Ex Em kc ks) (hd : decode code pc = .ok (.goto off, 3)) (ht : (pc : Int) + off = (qq : Int)) (h : LJ p e s m below meth c b Ex Em kc ks qq lv st wx wm) : LJ p e s m below meth c b Ex Em kc ks pc lv st wx wm :=
  h.go (fun hl hS kk => lv_goto C.1.1 C.1.2.1 hd ht kk)
theorem scr_no (C : LCx p s m meth c b L xs Ex Em kc ks) : ¬ A0 s b := fun z => absurd C.1.2.2.2.2.2.2.2.1 (Nat.not_lt.mpr z)
theorem lj_sld {j : Nat} (C : LCx p s m meth c b L xs Ex Em kc ks) (hj : j < L) (hd : decode code pc = .ok (.iaload, 1)) (hp : pc + 1 = qq) (h : LJ p e s m below meth c b Ex Em kc ks qq lv (.int (xs j) :: st) wx wm) : LJ p e s m below meth c b Ex Em kc ks pc lv (.int (nI j) :: .ref b :: st) wx wm := by
  subst hp
  have hL := C.2.1
  have e1 : (nI j).toNatClampNeg = j := nI_cl (by omega)
  refine h.go (fun hl hS kk => va_sld C.1.1 C.1.2.1 C.1.2.2.2.2.2.2.1 C.1.2.2.2.2.2.2.2.1 (scr_no C) hS (inb_in (inb_nI hj (by omega))) hd ?_)
  rw [e1]
  exact kk
theorem lj_slen (C : LCx p s m meth c b L xs Ex Em kc ks) (hd : decode code pc = .ok (.arraylength, 1)) (hp : pc + 1 = qq) (h : LJ p e s m below meth c b Ex Em kc ks qq lv (.int (nI L) :: st) wx wm) : LJ p e s m below meth c b Ex Em kc ks pc lv (.ref b :: st) wx wm := by
  subst hp
  exact h.go (fun hl hS kk => va_slen C.1.1 C.1.2.1 C.1.2.2.2.2.2.2.1 C.1.2.2.2.2.2.2.2.1 (scr_no C) hS hd kk)
/-- the law's locals in its loop -/
def lvL (b : Nat) (Ex Em : Ev) (i : Nat) : List (Nat × Value) := [(3, .int (nI i)), (2, .ref (Ea Em 50)), (1, .ref (Ea Ex 0)), (0, .ref b)]
/-- script[i + k], k a small constant -/
theorem lj_arg {i k : Nat} {n : Int} (C : LCx p s m meth c b L xs Ex Em kc ks) (hi : i + k < L) (d0 : decode code pc = .ok (.aload_n 0, 1)) (d1 : decode code (pc + 1) = .ok (.iload_n 3, 1)) (d2 : decode code (pc + 2) = .ok (.iconst n, 1)) (hv : Int32.ofInt n = nI k) (d3 : decode code (pc + 3) = .ok (.iadd, 1)) (d4 : decode code (pc + 4) = .ok (.iaload, 1)) (h : LJ p e s m below meth c b Ex Em kc ks (pc + 5) (lvL b Ex Em i) (.int (xs (i + k)) :: st) wx wm) : LJ p e s m below meth c b Ex Em kc ks pc (lvL b Ex Em i) st wx wm := by
  refine lj_aload C 3 d0 rfl rfl ?_
  refine lj_iload C 0 d1 rfl rfl ?_
  refine lj_iconst C (nI k) d2 hv rfl ?_
  refine lj_iadd C (z := nI (i + k)) d3 (nI_add i k) rfl ?_
  exact lj_sld C hi d4 rfl h
theorem lj_arg6 {i k : Nat} {n : Int} (C : LCx p s m meth c b L xs Ex Em kc ks) (hi : i + k < L) (d0 : decode code pc = .ok (.aload_n 0, 1)) (d1 : decode code (pc + 1) = .ok (.iload_n 3, 1)) (d2 : decode code (pc + 2) = .ok (.bipush n, 2)) (hv : (Int8.ofInt n).toInt32 = nI k) (d3 : decode code (pc + 4) = .ok (.iadd, 1)) (d4 : decode code (pc + 5) = .ok (.iaload, 1)) (h : LJ p e s m below meth c b Ex Em kc ks (pc + 6) (lvL b Ex Em i) (.int (xs (i + k)) :: st) wx wm) : LJ p e s m below meth c b Ex Em kc ks pc (lvL b Ex Em i) st wx wm := by
  refine lj_aload C 3 d0 rfl rfl ?_
  refine lj_iload C 0 d1 rfl rfl ?_
  refine lj_bipush C (nI k) d2 hv rfl ?_
  refine lj_iadd C (z := nI (i + k)) d3 (nI_add i k) rfl ?_
  exact lj_sld C hi d4 rfl h
def bz (x : Int32) : Int32 := if x = 0 then 0 else 1
/-- x != 0 as a boolean -/
theorem lj_bool {x : Int32} {o1 o2 : Int} (C : LCx p s m meth c b L xs Ex Em kc ks) (d0 : decode code pc = .ok (.ifCond .eq o1, 3)) (t0 : (pc : Int) + o1 = ((pc + 7 : Nat) : Int)) (d1 : decode code (pc + 3) = .ok (.iconst 1, 1)) (d2 : decode code (pc + 4) = .ok (.goto o2, 3)) (t2 : ((pc + 4 : Nat) : Int) + o2 = ((pc + 8 : Nat) : Int)) (d3 : decode code (pc + 7) = .ok (.iconst 0, 1)) (h : LJ p e s m below meth c b Ex Em kc ks (pc + 8) lv (.int (bz x) :: st) wx wm) : LJ p e s m below meth c b Ex Em kc ks pc lv (.int x :: st) wx wm := by
  intro H locs ls hP hP2 hD hD2 hS hl
  refine lv_if_eq C.1.1 C.1.2.1 d0 t0 (fun z => ?_) (fun z => ?_)
  · have h1 : LJ p e s m below meth c b Ex Em kc ks (pc + 7) lv st wx wm := lj_iconst C 0 d3 rfl rfl (by rw [show bz x = 0 from if_pos z] at h; exact h)
    exact h1 H locs ls hP hP2 hD hD2 hS hl
  · have h1 : LJ p e s m below meth c b Ex Em kc ks (pc + 3) lv st wx wm := lj_iconst C 1 d1 rfl rfl (lj_goto C d2 t2 (by rw [show bz x = 1 from if_neg z] at h; exact h))
    exact h1 H locs ls hP hP2 hD hD2 hS hl
theorem lj_ieq {v : Int32} {off : Int} (C : LCx p s m meth c b L xs Ex Em kc ks) (hd : decode code pc = .ok (.if_icmp .eq off, 3)) (ht : (pc : Int) + off = (qq : Int)) (h : LJ p e s m below meth c b Ex Em kc ks qq lv st wx wm) : LJ p e s m below meth c b Ex Em kc ks pc lv (.int v :: .int v :: st) wx wm := by
  intro H locs ls hP hP2 hD hD2 hS hl
  exact lv_icmp_eq C.1.1 C.1.2.1 hd ht (fun _ => h H locs ls hP hP2 hD hD2 hS hl) (fun z => absurd rfl z)
theorem lj_leq {v : Int64} {off : Int} (C : LCx p s m meth c b L xs Ex Em kc ks) (d0 : decode code pc = .ok (.lcmp, 1)) (hd : decode code (pc + 1) = .ok (.ifCond .eq off, 3)) (ht : ((pc + 1 : Nat) : Int) + off = (qq : Int)) (h : LJ p e s m below meth c b Ex Em kc ks qq lv st wx wm) : LJ p e s m below meth c b Ex Em kc ks pc lv (.long v :: .long v :: st) wx wm := by
  intro H locs ls hP hP2 hD hD2 hS hl
  refine W.lcmp C.1.1 C.1.2.1 d0 ?_
  have e1 : lg_cmp v v = 0 := by simp [lg_cmp]
  rw [e1]
  exact lv_if_eq C.1.1 C.1.2.1 hd ht (fun _ => h H locs ls hP hP2 hD hD2 hS hl) (fun z => absurd rfl z)
theorem law_fix (C : LCx p s m meth c b L xs Ex Em kc ks) : CallFix p m c code 4 s #[Value.ref b] TB R_law := ⟨C.1.1, C.1.2.1, C.1.2.2.2.1, C.1.2.2.2.2.1, fun w hw => C.1.2.2.2.2.2.1 w (TB_sub hw)⟩
/-- a call on one of the two: what comes back, and that the rest is kept -/
theorem ww_callA {E : Ev} {R : Room} {args aa : Array Value} {H : Heap} {locs : List Loc} {Q : State → Prop} {ls : Array Slot} {st0 rest : List Value} {r : Option Value} {w0 w1 : Wd}
    (hr : va_Run p E.1 e R s m args below meth c H locs kc ks 0 0 (F0 m pc ls st0) rest (QR E r w1 aa) (AA E H.size)) (hD0 : va_D (A0 s) (wv E w0)) (hS : va_S (A0 s) s.heap H locs)
    (kk : ∀ (H1 : Heap) (locs1 : List Loc), va_P (Ed E) vwCl (wv E w1) H1 → va_D (A0 s) (wv E w1) → va_S (A0 s) s.heap H1 locs1 → (∀ z, z < H.size → ¬ AA E H.size z → H1[z]? = H[z]?) → W p E.1 e R s m args below meth c H1 locs1 kc ks Q (F0 m (pc + 3) ls (r.toList ++ rest))) : W p E.1 e R s m args below meth c H locs kc ks Q (F0 m pc ls st0) := by
  intro T hT X
  obtain ⟨v, st₀, t, T', L', h0, X', hL, e1, e2, ⟨hv, hP1, hD1, hz, hk⟩, stp⟩ := hr T hT X
  cases hv
  rw [h0] at hz hk hD1
  have hA : ∀ z, AA E H.size z → A0 s z := fun z hz => by
    have h1 := AA_mono hS.1 hz
    rw [AA_A0 hD0] at h1
    exact h1
  obtain ⟨t2, a1, b1⟩ := kk T'.heap (locs ++ L') (by rw [e1]; exact hP1) (hD1.weaken (fun _ _ _ z => hA _ z))
    ⟨Nat.le_trans hS.1 (by rw [e1]; exact hz), fun z h1 h2 => by rw [e1, hk z (Nat.lt_of_lt_of_le h1 hS.1) (fun y => h2 (hA z y))]; exact hS.2.1 z h1 h2, fun z hz => by
      rcases List.mem_append.mp hz with h | h
      · exact hS.2.2 z h
      · exact hA _ (hL z h)⟩ (fun z h1 h2 => by rw [e1]; exact hk z h1 h2) T' rfl X'
  exact ⟨t2, stp t2 a1, b1⟩
variable {α : Type} {rt : α → Option Value} {F : Option (α × Wd)} {v : α} {Mc : Mt} {y : MethodName} {idx n : Nat} {T : u_T} {nf : Nat}
theorem lj_callX {wx' : Wd} (C : LCx p s m meth c b L xs Ex Em kc ks) (As rest : List Value) (hC : Ct Ex Mc y rt (.ref (Ea Ex 0) :: As) wx F) (hF : F = some (v, wx')) (hcl : vwCl[7]? = some (y.cls, T, nf)) (hcb : CB R_law idx y Mc n) (hin : Cond.instanceMethod y ∈ TB) (hse : Cond.selects y.cls y y ∈ TB) (hn : As.length = n) (hd1 : Mc.2.2.2.2.1 + 1 ≤ room_1.frames) (hd2 : 8 + (Mc.2.2.1 + 11) + 64 * Mc.2.2.2.2.1 ≤ room_1.locals) (hstk : st = As.reverse ++ .ref (Ea Ex 0) :: rest) (hrest : (rest.map fun v => v.category).sum ≤ 8) (hd : decode code pc = .ok (.invokevirtual idx, 3)) (hp : pc + 3 = qq) (h : LJ p e s m below meth c b Ex Em kc ks qq lv ((rt v).toList ++ rest) wx' wm) : LJ p e s m below meth c b Ex Em kc ks pc lv st wx wm := by
  subst hp hstk
  intro H locs ls hP hP2 hD hD2 hS hl
  have hAA := AA_A0 hD
  have hEv : Evn Ex (AA Ex s.heap.size) s s.heap := by rw [hAA]; exact C.2.2.1
  have hS' : va_S (AA Ex s.heap.size) s.heap H locs := by rw [hAA]; exact hS
  have hp := pre_ok (As := .ref (Ea Ex 0) :: As) hEv hP hD hS'
  refine ww_callA (va_runV (C := y.cls) (As := As) (rest := rest) (law_fix C) (hC v wx' hF H.size) ⟨hcb.callB (law_fix C).2.2.2.2 hd1 hd2, (law_fix C).2.2.2.2 _ hin, (law_fix C).2.2.2.2 _ hse⟩ ⟨hp.1, recv_ok (C.2.2.2.2.2.1.1 0 rfl) rfl (by decide) hcl C.2.2.1.1 hP, hp.2⟩ rfl hn hl.1 rfl (lv_room hrest) hd ⟨Nat.le_trans C.2.2.2.2.2.2.2.2.1 (Nat.le_refl _), Nat.le_trans C.2.2.2.2.2.2.2.2.2 (Nat.le_refl _)⟩) hD hS
    (fun H1 locs1 hP1 hD1 hS1 hk1 => h H1 locs1 ls hP1 (hP2.kept (fun k x hx => hk1 x.1 (hP2 k x hx).lt (fun z => ?_))) hD1 hD2 hS1 hl)
  rcases z with ⟨k1, hk1, z⟩ | z
  · simp only [wv, List.getElem?_map] at hx
    cases hk2 : (El Em)[k]? with
    | none => rw [hk2] at hx; cases hx
    | some k2 =>
      rw [hk2] at hx
      cases hx
      exact C.2.2.2.2.2.2.2.1 k1 hk1 k2 (List.mem_of_getElem? hk2) z
  · exact absurd (hP2 k x hx).lt (Nat.not_lt.mpr z)
theorem lj_callM {wm' : Wd} (C : LCx p s m meth c b L xs Ex Em kc ks) (As rest : List Value) (hC : Ct Em Mc y rt (.ref (Ea Em 50) :: As) wm F) (hF : F = some (v, wm')) (hcl : vwCl[8]? = some (y.cls, T, nf)) (hcb : CB R_law idx y Mc n) (hin : Cond.instanceMethod y ∈ TB) (hse : Cond.selects y.cls y y ∈ TB) (hn : As.length = n) (hd1 : Mc.2.2.2.2.1 + 1 ≤ room_1.frames) (hd2 : 8 + (Mc.2.2.1 + 11) + 64 * Mc.2.2.2.2.1 ≤ room_1.locals) (hstk : st = As.reverse ++ .ref (Ea Em 50) :: rest) (hrest : (rest.map fun v => v.category).sum ≤ 8) (hd : decode code pc = .ok (.invokevirtual idx, 3)) (hp : pc + 3 = qq) (h : LJ p e s m below meth c b Ex Em kc ks qq lv ((rt v).toList ++ rest) wx wm') : LJ p e s m below meth c b Ex Em kc ks pc lv st wx wm := by
  subst hp hstk
  intro H locs ls hP hP2 hD hD2 hS hl
  have hAA := AA_A0 hD2
  have hEv : Evn Em (AA Em s.heap.size) s s.heap := by rw [hAA]; exact C.2.2.2.1
  have hS' : va_S (AA Em s.heap.size) s.heap H locs := by rw [hAA]; exact hS
  have hp := pre_ok (As := .ref (Ea Em 50) :: As) hEv hP2 hD2 hS'
  have hL1 := C.2.2.2.2.1
  rw [← hL1]
  refine ww_callA (va_runV (C := y.cls) (As := As) (rest := rest) (law_fix C) (hC v wm' hF H.size) ⟨hcb.callB (law_fix C).2.2.2.2 hd1 hd2, (law_fix C).2.2.2.2 _ hin, (law_fix C).2.2.2.2 _ hse⟩ ⟨hp.1, recv_ok (C.2.2.2.2.2.2.1 50 (by decide)) rfl (by decide) hcl C.2.2.2.1.1 hP2, hp.2⟩ rfl hn hl.1 rfl (lv_room hrest) hd ⟨Nat.le_trans C.2.2.2.2.2.2.2.2.1 (Nat.le_refl _), Nat.le_trans C.2.2.2.2.2.2.2.2.2 (Nat.le_refl _)⟩) hD2 hS
    (fun H1 locs1 hP1 hD1 hS1 hk1 => by
      rw [hL1]
      exact h H1 locs1 ls (hP.kept (fun k x hx => hk1 x.1 (hP k x hx).lt (fun z => by
        rcases z with ⟨k1, hk1, z⟩ | z
        · simp only [wv, List.getElem?_map] at hx
          cases hk2 : (El Ex)[k]? with
          | none => rw [hk2] at hx; cases hx
          | some k2 =>
            rw [hk2] at hx
            cases hx
            exact C.2.2.2.2.2.2.2.1 k2 (List.mem_of_getElem? hk2) k1 hk1 z.symm
        · exact absurd (hP k x hx).lt (Nat.not_lt.mpr z)))) hP1 hD hD1 hS1 hl)
end LAWJ
