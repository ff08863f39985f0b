/-! ===== constructors: the judgement NJ: the code of a constructor at pc, with the cells ws made so far (its own object first), comes to its end ===== -/
/-- what a constructor may change: its object, and new cells -/
def AN (q sz : Nat) : Nat → Prop := fun x => x = q ∨ sz ≤ x
def Eu (E : Ev) (a : Nat → Nat) (L : List Nat) : Ev := (E.1, E.2.1, E.2.2.1, a, E.2.2.2.2.1, E.2.2.2.2.2.1, L)
/-- a constructor's end: the cells L stand somewhere -/
def QN (E : Ev) (L : List Nat) (w : Wd) (cn : (Nat → Nat) → Prop) (q : Nat) : Array Value → State → Outcome → State → Prop := fun _ st oc t =>
  oc = .returned none ∧ (∃ a : Nat → Nat, cn a ∧ va_P (Ed E) vwCl (wv (Eu E a L) w) t.heap ∧ va_D (AN q st.heap.size) (wv (Eu E a L) w)) ∧ va_F (AN q st.heap.size) st t
def Evs (E : Ev) (A : Nat → Prop) (U : State) (H : Heap) : Prop := Evn E A U H ∧ (Cond.arrayOver (.array .int)).before #[] U = true
theorem Evn_nar {E : Ev} {A B : Nat → Prop} {U : State} {H : Heap} (hAB : ∀ z, B z → A z) (h : Evn E A U H) : Evn E B U H :=
  ⟨h.1, fun j hj => ⟨(h.2.1 j hj).1.narrow hAB, (h.2.1 j hj).2.narrow hAB⟩, h.2.2⟩
theorem Evn_mv {E : Ev} {A B : Nat → Prop} {s U : State} {H : Heap} {locs : List Loc} (hS : va_S A s.heap H locs) (hW : s.WarmedH U.vm) (hAB : ∀ z, B z → A z) (h : Evn E A s s.heap) : Evn E B U H := by
  refine ⟨va_K.moved hW.alike h.1, fun j hj => ⟨?_, ?_⟩, fun w hw => ?_⟩
  · exact (((h.2.1 j hj).1.kept hS.2.1).moved hW.alike).narrow hAB
  · exact (((h.2.1 j hj).2.kept hS.2.1).moved hW.alike).narrow hAB
  · have h1 := h.2.2 w hw
    simp only [nwl, List.mem_cons, List.not_mem_nil, or_false] at hw
    rcases hw with rfl | rfl | rfl | rfl <;> exact va_Nw.warmM hW h1
def NJ (E : Ev) (M : Mt) (q0 mc ms : Nat) (rd : va_W) (Qp : Array Value → State → Outcome → State → Prop) (pc : Nat) (lv : List (Nat × Value)) (st : List Value) (ws : va_W) (kc ks : Nat) : Prop :=
  ∀ (p : Program) (e : Env) (s : State) (m : MethodId) (args : Array Value) (below : List Frame) (meth : Method) (c : Code) (H : Heap) (locs : List Loc) (ls : Array Slot),
    CallFix p m c M.2.1 M.2.2.1 s args TB M.1 → (meth.sig.returnType = M.2.2.2.1 ∧ meth.name = M.2.2.2.2.2) → meth.locks = false → Evs E (AN q0 s.heap.size) s s.heap →
    (va_P (Ed E) vwCl rd s.heap ∧ ∀ (k : Nat) (x : Nat × va_E), rd[k]? = some x → x.1 ≠ q0) →
    va_P (Ed E) vwCl ws H → va_D (AN q0 s.heap.size) ws → va_S (AN q0 s.heap.size) s.heap H locs → lv_has ls M.2.2.1 lv →
    W p E.1 e (rmk mc ms M.2.2.2.2.1) s m args below meth c H locs kc ks (MQ below Qp args s mc ms (AN q0 s.heap.size)) (F0 m pc ls st)
/-- a constructor's contract -/
def Cn (E : Ev) (M : Mt) (y : MethodName) (mc ms q ci : Nat) (fs As : List Value) (rd : va_W) (L : List Nat) (w : Wd) (cn : (Nat → Nat) → Prop) : Prop :=
  ∀ sz : Nat, Met E.1 y (.code y M.2.1 M.2.2.1 M.2.2.2.1 :: TB) (rmk mc ms M.2.2.2.2.1)
    (va_Pc (.ref q :: As) (fun U => U.heap.size = sz ∧ va_P (Ed E) vwCl ((q, .inr (ci, fs)) :: rd) U.heap ∧ va_D (fun _ => True) ((q, .inr (ci, fs)) :: rd) ∧ Evs E (AN q sz) U U.heap)) (QN E L w cn q) mc ms (AN q sz)
theorem Cn.of {E : Ev} {M : Mt} {y : MethodName} {mc ms q ci : Nat} {fs As : List Value} {rd : va_W} {L : List Nat} {w : Wd} {cn : (Nat → Nat) → Prop} (hy : plainName y.cls = true) (ho : y.cls = M.1 ∧ y.name = M.2.2.2.2.2) (hle : (lg_sl (.ref q :: As)).length ≤ M.2.2.1)
    (h : NJ E M q mc ms rd (QN E L w cn q) 0 (lv_args 0 (.ref q :: As)) [] [(q, .inr (ci, fs))] 0 0) : Cn E M y mc ms q ci fs As rd L w cn := by
  intro sz
  refine Met.ofW (cc := M.2.1) (maxL := M.2.2.1) (ret := M.2.2.2.1) hy rfl ?_
  intro p e s m args below meth c s₁ B hml hv
  obtain ⟨rfl, hsz, hP, hD, hE⟩ := hv
  subst hsz
  have hts := atoms_spec (ws := .code y M.2.1 M.2.2.1 M.2.2.2.1 :: TB) B.pre
  have hown : s.vm.findClass M.1 = some m.cls := by rw [← ho.1]; exact findClass_of_methodNamed B.named
  have hP1 : va_P (Ed E) vwCl [(q, .inr (ci, fs))] s.heap := fun k x hx => by
    cases k with
    | zero => exact hP 0 x hx
    | succ k => cases hx
  have hPr : va_P (Ed E) vwCl rd s.heap := fun k x hx => hP (k + 1) x hx
  rw [lg_entry_eq]
  refine h p e s m _ below meth c s.heap [] _ ⟨B.exec, B.bytes, hml, hown, fun w hw => hts w (List.mem_cons_of_mem _ hw)⟩ ⟨B.returns, ((name_of_methodNamed B.named B.method).1).trans ho.2⟩ B.notSynchronized hE ⟨hPr, fun k x hx hq => ?_⟩ hP1 ⟨fun i j x y hx hy _ => ?_, fun k x hx => ?_⟩ va_S.rf (lv_entry (.ref q :: As) hle)
  · have := hD.1 0 (k + 1) (q, .inr (ci, fs)) x rfl hx hq.symm
    cases this
  · have h1 : i < 1 := (List.getElem?_eq_some_iff.mp hx).1
    have h2 : j < 1 := (List.getElem?_eq_some_iff.mp hy).1
    omega
  · have h1 : k < 1 := (List.getElem?_eq_some_iff.mp hx).1
    rw [show k = 0 by omega] at hx
    cases hx
    exact Or.inl rfl
section NJR
variable {E : Ev} {M : Mt} {q0 mc ms : Nat} {rd : va_W} {Qp : Array Value → State → Outcome → State → Prop} {pc qq : Nat} {lv : List (Nat × Value)} {st : List Value} {ws : va_W} {kc ks : Nat}
theorem NJ.go {pc' : Nat} {st' : List Value} (h : NJ E M q0 mc ms rd Qp pc' lv st' ws kc ks) (k : ∀ {p : Program} {e : Env} {s : State} {m : MethodId} {args : Array Value} {below : List Frame} {meth : Method} {c : Code} {H : Heap} {locs : List Loc} {ls : Array Slot} {Q : State → Prop}, p.tables.exec = Jvm.exec → c.code = M.2.1 → lv_has ls M.2.2.1 lv → W p E.1 e (rmk mc ms M.2.2.2.2.1) s m args below meth c H locs kc ks Q (F0 m pc' ls st') → W p E.1 e (rmk mc ms M.2.2.2.2.1) s m args below meth c H locs kc ks Q (F0 m pc ls st)) : NJ E M q0 mc ms rd Qp pc lv st ws kc ks :=
  fun p e s m args below meth c H locs ls C hr hk hE hR hP hD hS hl => k C.1 C.2.1 hl (h p e s m args below meth c H locs ls C hr hk hE hR hP hD hS hl)
theorem nj_aload_n {i : Fin 4} {x : Nat} (k : Nat) (hd : decode M.2.1 pc = .ok (.aload_n i, 1)) (hk : lv[k]? = some ((i : Nat), .ref x)) (hp : pc + 1 = qq) (h : NJ E M q0 mc ms rd Qp qq lv (.ref x :: st) ws kc ks) : NJ E M q0 mc ms rd Qp pc lv st ws kc ks := by
  subst hp
  exact h.go (fun hx hb hl kk => lv_aload_n hx hb hd rfl (lv_at hl k hk) kk)
theorem nj_iload_n {i : Fin 4} {x : Int32} (k : Nat) (hd : decode M.2.1 pc = .ok (.iload_n i, 1)) (hk : lv[k]? = some ((i : Nat), .int x)) (hp : pc + 1 = qq) (h : NJ E M q0 mc ms rd Qp qq lv (.int x :: st) ws kc ks) : NJ E M q0 mc ms rd Qp pc lv st ws kc ks := by
  subst hp
  exact h.go (fun hx hb hl kk => lv_iload_n hx hb hd rfl (lv_at hl k hk) kk)
theorem nj_iconst {n : Int} (v : Int32) (hd : decode M.2.1 pc = .ok (.iconst n, 1)) (hv : Int32.ofInt n = v) (hp : pc + 1 = qq) (h : NJ E M q0 mc ms rd Qp qq lv (.int v :: st) ws kc ks) : NJ E M q0 mc ms rd Qp pc lv st ws kc ks := by
  subst hp
  exact h.go (fun hx hb hl kk => lv_iconst hx hb hd hv kk)
theorem nj_bipush {n : Int} (v : Int32) (hd : decode M.2.1 pc = .ok (.bipush n, 2)) (hv : (Int8.ofInt n).toInt32 = v) (hp : pc + 2 = qq) (h : NJ E M q0 mc ms rd Qp qq lv (.int v :: st) ws kc ks) : NJ E M q0 mc ms rd Qp pc lv st ws kc ks := by
  subst hp
  exact h.go (fun hx hb hl kk => lv_bipush hx hb hd hv kk)
theorem nj_sipush {n : Int} (v : Int32) (hd : decode M.2.1 pc = .ok (.sipush n, 3)) (hv : (Int16.ofInt n).toInt32 = v) (hp : pc + 3 = qq) (h : NJ E M q0 mc ms rd Qp qq lv (.int v :: st) ws kc ks) : NJ E M q0 mc ms rd Qp pc lv st ws kc ks := by
  subst hp
  exact h.go (fun hx hb hl kk => lv_sipush hx hb hd hv kk)
theorem nj_imul {x y z : Int32} (hd : decode M.2.1 pc = .ok (.imul, 1)) (hz : x * y = z) (hp : pc + 1 = qq) (h : NJ E M q0 mc ms rd Qp qq lv (.int z :: st) ws kc ks) : NJ E M q0 mc ms rd Qp pc lv (.int y :: .int x :: st) ws kc ks := by
  subst hp hz
  exact h.go (fun hx hb hl kk => lv_imul hx hb hd kk)
theorem nj_dup {v : Value} (hd : decode M.2.1 pc = .ok (.dup, 1)) (hv : v.category = 1) (hp : pc + 1 = qq) (h : NJ E M q0 mc ms rd Qp qq lv (v :: v :: st) ws kc ks) : NJ E M q0 mc ms rd Qp pc lv (v :: st) ws kc ks := by
  subst hp
  exact h.go (fun hx hb hl kk => lv_dup hx hb hd hv kk)
theorem nj_goto {off : Int} (hd : decode M.2.1 pc = .ok (.goto off, 3)) (ht : (pc : Int) + off = (qq : Int)) (h : NJ E M q0 mc ms rd Qp qq lv st ws kc ks) : NJ E M q0 mc ms rd Qp pc lv st ws kc ks :=
  h.go (fun hx hb hl kk => lv_goto hx hb hd ht kk)
theorem nj_istore_n {i : Fin 4} {x : Int32} (lv2 : List (Nat × Value)) (hd : decode M.2.1 pc = .ok (.istore_n i, 1)) (hn : (i : Nat) < M.2.2.1) (hl2 : ((i : Nat), Value.int x) :: lv.filter (fun q => !(q.1 == (i : Nat)) && !(q.1 + 1 == (i : Nat) && q.2.category == 2)) = lv2) (hp : pc + 1 = qq) (h : NJ E M q0 mc ms rd Qp qq lv2 st ws kc ks) : NJ E M q0 mc ms rd Qp pc lv (.int x :: st) ws kc ks := by
  subst hp
  exact fun p e s m args below meth c H locs ls C hr hk hE hR hP hD hS hl => lv_istore_n C.1 C.2.1 hd rfl hl hn hl2 (fun ls' hl' => h p e s m args below meth c H locs ls' C hr hk hE hR hP hD hS hl')
theorem nj_icmp_lt {x y : Int32} {off : Int} (tgt : Nat) (hd : decode M.2.1 pc = .ok (.if_icmp .lt off, 3)) (ht : (pc : Int) + off = (tgt : Int)) (hp : pc + 3 = qq) (h1 : x < y → NJ E M q0 mc ms rd Qp tgt lv st ws kc ks) (h2 : ¬ (x < y) → NJ E M q0 mc ms rd Qp qq lv st ws kc ks) : NJ E M q0 mc ms rd Qp pc lv (.int y :: .int x :: st) ws kc ks := by
  subst hp
  intro p e s m args below meth c H locs ls C hr hk hE hR hP hD hS hl
  exact lv_icmp_lt C.1 C.2.1 hd ht (fun z => h1 z p e s m args below meth c H locs ls C hr hk hE hR hP hD hS hl) (fun z => h2 z p e s m args below meth c H locs ls C hr hk hE hR hP hD hS hl)
theorem nj_icmp_le {x y : Int32} {off : Int} (tgt : Nat) (hd : decode M.2.1 pc = .ok (.if_icmp .le off, 3)) (ht : (pc : Int) + off = (tgt : Int)) (hp : pc + 3 = qq) (h1 : x ≤ y → NJ E M q0 mc ms rd Qp tgt lv st ws kc ks) (h2 : ¬ (x ≤ y) → NJ E M q0 mc ms rd Qp qq lv st ws kc ks) : NJ E M q0 mc ms rd Qp pc lv (.int y :: .int x :: st) ws kc ks := by
  subst hp
  intro p e s m args below meth c H locs ls C hr hk hE hR hP hD hS hl
  exact lv_icmp_le C.1 C.2.1 hd ht (fun z => h1 z p e s m args below meth c H locs ls C hr hk hE hR hP hD hS hl) (fun z => h2 z p e s m args below meth c H locs ls C hr hk hE hR hP hD hS hl)
theorem nj_obj {x idx : Nat} (hk : Cond.methodLink M.1 idx Lib.objectInit ∈ TB) (h1 : Cond.instanceMethod Lib.objectInit ∈ TB) (h2 : Cond.code Lib.objectInit ⟨#[0xb1]⟩ 1 none ∈ TB) (hf : 1 ≤ M.2.2.2.2.1) (hd : decode M.2.1 pc = .ok (.invokespecial idx, 3)) (hp : pc + 3 = qq) (h : NJ E M q0 mc ms rd Qp qq lv [] ws kc ks) : NJ E M q0 mc ms rd Qp pc lv [.ref x] ws kc ks := by
  subst hp
  intro p e s m args below meth c H locs ls C hr hk2 hE hR hP hD hS hl
  exact W.objInit C.1 C.2.1 C.2.2.2.1 (C.2.2.2.2 _ hk) (C.2.2.2.2 _ h1) (C.2.2.2.2 _ h2) rfl (by rw [C.2.2.1]; exact hl.1) rfl hd hf (by show 12 ≤ 64 * M.2.2.2.2.1; omega) (h p e s m args below meth c H locs ls C hr hk2 hE hR hP hD hS hl)
theorem nj_newa {at1 : ArrayType} {ty : FieldType} {i N' : Nat} {n : Int32} {zr : vp_A} (hty : newarray.typeOf at1 = ty) (hac : Cond.arrayClass ty ∈ TB) (hi : (tyl E)[i]? = some (Ey E i, ty)) (hob : ∀ C, ty ≠ .object C) (ha : ∀ cA : ClassId, vp_cell cA zr = arrV cA N' (fun _ => defaultValue ty)) (hn : ¬ n < 0) (hN : n.toNatClampNeg = N') (hbt : N' * componentBytes ty ≤ 536870912) (hc : kc + 1 ≤ mc) (hs : ks + N' ≤ ms)
    (hd : decode M.2.1 pc = .ok (.newarray at1, 2)) (hp : pc + 2 = qq) (h : ∀ q : Nat, NJ E M q0 mc ms rd Qp qq lv (.ref q :: st) (ws ++ [(q, .inl (Ey E i, zr))]) (kc + 1) (ks + N')) : NJ E M q0 mc ms rd Qp pc lv (.int n :: st) ws kc ks := by
  subst hp
  intro p e s m args below meth c H locs ls C hr hk2 hE hR hP hD hS hl
  refine va_newa C.1 C.2.1 (C.2.2.2.2 _ (hty ▸ hac)) hty hE.1.1 hP hD hS (fun q hq => Or.inr hq) ha hn hN hbt hc hs hd (fun q cA H1 hK1 hP1 hD1 hS1 => ?_)
  have e1 := (hE.1.1.2 i _ hi).2
  have e2 := (hK1.2 (tyl E).length (cA, ty) (by rw [List.getElem?_append_right (Nat.le_refl _), Nat.sub_self]; rfl)).2
  have e3 : cA = Ey E i := by
    cases ty with
    | object C => exact absurd rfl (hob C)
    | _ => exact Option.some.inj (e2.symm.trans e1)
  subst e3
  exact h q p e s m args below meth c H1 locs ls C hr hk2 hE hR hP1 hD1 hS1 hl
theorem nj_putF {ci j idx : Nat} {fs : List Value} {v : Value} {ty : FieldType} (hf : FPF M.1 idx ci j ty) (hi : M.2.2.2.2.2 = "<init>") (hn : narrow ty v = v) (hfit : fits ty v = true) (hj : j < fs.length) (hd : decode M.2.1 pc = .ok (.putfield idx, 3)) (hp : pc + 3 = qq)
    (h : NJ E M q0 mc ms rd Qp qq lv st ((q0, .inr (ci, fs.set j v)) :: ws) kc ks) : NJ E M q0 mc ms rd Qp pc lv (v :: .ref q0 :: st) ((q0, .inr (ci, fs)) :: ws) kc ks := by
  subst hp
  intro p e s m args below meth c H locs ls C hr hk2 hE hR hP hD hS hl
  obtain ⟨C1, T, n, ty0, f1, f2, f3, f4, f5, f6, f7, f9, f8⟩ := hf
  exact va_putF (D := Ed E) (ci := ci) (v := v) (ty := ty) (C := C1) (T := T) (N := n) C.1 C.2.1 C.2.2.2.2 f3 ty0 f5 f6 C.2.2.2.1 hE.1.1 hP hD hS 0 rfl f1 j f2 (C.2.2.2.2 _ f4) (fun _ z => z) f7 (hr.2.trans hi) f9 f8 hn hfit hj hd (fun H1 locs1 hP1 hD1 hS1 =>
    h p e s m args below meth c H1 locs1 ls C hr hk2 hE hR hP1 hD1 hS1 hl)
theorem nj_put {ci j idx : Nat} {fs : List Value} {v : Value} {ty : FieldType} (hf : FP M.1 idx ci j ty) (hn : narrow ty v = v) (hfit : fits ty v = true) (hj : j < fs.length) (hd : decode M.2.1 pc = .ok (.putfield idx, 3)) (hp : pc + 3 = qq)
    (h : NJ E M q0 mc ms rd Qp qq lv st ((q0, .inr (ci, fs.set j v)) :: ws) kc ks) : NJ E M q0 mc ms rd Qp pc lv (v :: .ref q0 :: st) ((q0, .inr (ci, fs)) :: ws) kc ks := by
  subst hp
  intro p e s m args below meth c H locs ls C hr hk2 hE hR hP hD hS hl
  obtain ⟨C1, T, n, ty0, f1, f2, f3, f4, f5, f6, f7, f8⟩ := hf
  exact va_put (D := Ed E) (ci := ci) (v := v) (ty := ty) (C := C1) (T := T) (N := n) C.1 C.2.1 C.2.2.2.2 f3 ty0 f5 f6 C.2.2.2.1 hE.1.1 hP hD hS 0 rfl f1 j f2 (C.2.2.2.2 _ f4) (fun _ z => z) f7 f8 hn hfit hj hd (fun H1 locs1 hP1 hD1 hS1 =>
    h p e s m args below meth c H1 locs1 ls C hr hk2 hE hR hP1 hD1 hS1 hl)
/-- getfield: a cell that was made here -/
theorem nj_get {a ci j idx : Nat} {fs : List Value} {v : Value} (p0 : Nat) (hw : ws[p0]? = some (a, .inr (ci, fs))) (hf : FL M.1 idx ci j) (hv : fs[j]? = some v) (hd : decode M.2.1 pc = .ok (.getfield idx, 3)) (hp : pc + 3 = qq) (h : NJ E M q0 mc ms rd Qp qq lv (v :: st) ws kc ks) : NJ E M q0 mc ms rd Qp pc lv (.ref a :: st) ws kc ks := by
  subst hp
  intro p e s m args below meth c H locs ls C hr hk2 hE hR hP hD hS hl
  obtain ⟨C1, T, n, f1, f2, f3, f4⟩ := hf
  exact va_get (D := Ed E) (ci := ci) (C := C1) (T := T) (N := n) C.1 C.2.1 C.2.2.2.2 f3 C.2.2.2.1 hE.1.1 hP p0 hw f1 j f2 (C.2.2.2.2 _ f4) (fun _ z => z) hv hd (h p e s m args below meth c H locs ls C hr hk2 hE hR hP hD hS hl)
theorem rd_kept {A : Nat → Prop} {s : State} {H : Heap} {locs : List Loc} {q : Nat} (hA : A = AN q s.heap.size) (hS : va_S A s.heap H locs) (hP : va_P (Ed E) vwCl rd s.heap) (hq : ∀ (k : Nat) (x : Nat × va_E), rd[k]? = some x → x.1 ≠ q) : va_P (Ed E) vwCl rd H := by
  subst hA
  exact hP.kept (fun k x hx => hS.2.1 x.1 (hP k x hx).lt (fun z => z.elim (hq k x hx) (fun y => absurd (hP k x hx).lt (Nat.not_lt.mpr y))))
/-- getfield: a cell that is only read -/
theorem nj_getR {a ci j idx : Nat} {fs : List Value} {v : Value} (p0 : Nat) (hw : rd[p0]? = some (a, .inr (ci, fs))) (hf : FL M.1 idx ci j) (hv : fs[j]? = some v) (hd : decode M.2.1 pc = .ok (.getfield idx, 3)) (hp : pc + 3 = qq) (h : NJ E M q0 mc ms rd Qp qq lv (v :: st) ws kc ks) : NJ E M q0 mc ms rd Qp pc lv (.ref a :: st) ws kc ks := by
  subst hp
  intro p e s m args below meth c H locs ls C hr hk2 hE hR hP hD hS hl
  obtain ⟨C1, T, n, f1, f2, f3, f4⟩ := hf
  exact va_get (D := Ed E) (ci := ci) (C := C1) (T := T) (N := n) C.1 C.2.1 C.2.2.2.2 f3 C.2.2.2.1 hE.1.1 (rd_kept rfl hS hR.1 hR.2) p0 hw f1 j f2 (C.2.2.2.2 _ f4) (fun _ z => z) hv hd (h p e s m args below meth c H locs ls C hr hk2 hE hR hP hD hS hl)
/-- the end -/
theorem nj_vret {L : List Nat} {w : Wd} {cn : (Nat → Nat) → Prop} (a : Nat → Nat) (ps : List Nat) (hc : cn a) (hs : ps.filterMap (fun i => ws[i]?) = wv (Eu E a L) w) (hn : va_nd ps = true) (hm : ps.map (fun i => ws[i]?) = (wv (Eu E a L) w).map some) (hr : M.2.2.2.1 = none) (hkc : kc ≤ mc) (hks : ks ≤ ms) (hd : decode M.2.1 pc = .ok (.return_, 1)) : NJ E M q0 mc ms rd (QN E L w cn q0) pc lv [] ws kc ks := by
  intro p e s m args below meth c H locs ls C hrt hk2 hE hR hP hD hS hl
  refine W.widen hkc hks ?_
  exact W.vret C.1 C.2.1 (hrt.1.trans hr) (fun t ht hW => ⟨rfl, ⟨a, hc, by rw [ht]; exact hP.sub ps hs, hD.sub ps hn hm⟩, hS.F ht⟩) hS.2.2 hd hk2
/-- on to a tail that Sim knows -/
theorem nj_sim {L : List Nat} {w w' : Wd} {cn : (Nat → Nat) → Prop} {F : Option (Unit × Wd)} (a : Nat → Nat) (k0 : Nat) (hk0 : k0 ∈ L) (ha0 : a k0 = q0) (ps : List Nat) (hc : cn a) (hs : ps.filterMap (fun i => ws[i]?) = wv (Eu E a L) w) (hn : va_nd ps = true) (hm : ps.map (fun i => ws[i]?) = (wv (Eu E a L) w).map some) (hkc : kc ≤ mc) (hks : ks ≤ ms) (hF : F = some ((), w')) (hsim : Sim (Eu E a L) M rV pc lv [] w F) : NJ E M q0 mc ms rd (QN E L w' cn q0) pc lv [] ws kc ks := by
  intro p e s m args below meth c H locs ls C hrt hk2 hE hR hP hD hS hl
  have hD1 : va_D (AN q0 s.heap.size) (wv (Eu E a L) w) := hD.sub ps hn hm
  have hAA : AA (Eu E a L) s.heap.size = AN q0 s.heap.size := funext fun z => propext ⟨fun hz => by
    rcases hz with ⟨k, hk, rfl⟩ | hz
    · obtain ⟨p0, -, h0⟩ := wv_at (E := Eu E a L) w hk
      exact hD1.2 p0 _ h0
    · exact Or.inr hz, fun hz => by
    rcases hz with rfl | hz
    · exact Or.inl ⟨k0, hk0, ha0⟩
    · exact Or.inr hz⟩
  refine W.widen hkc hks ?_
  have h := hsim () w' hF mc ms p e s m args below meth c H locs ls C hrt hk2 (by rw [hAA]; exact hE.1) (hP.sub ps hs) (by rw [hAA]; exact hD1) (by rw [hAA]; exact hS) hl
  intro T hT X
  obtain ⟨t, h1, o, h2, h3, ⟨h4, h5, h6, h7⟩, h8⟩ := h T hT X
  rw [hAA] at h6 h7 h8
  exact ⟨t, h1, o, h2, h3, ⟨h4, ⟨a, hc, h5, h6⟩, h7⟩, h8⟩
end NJR
