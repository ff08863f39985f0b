/-! ===== worlds by numbers: every cell of the two systems has a number; the judgement Sim: 'the code at pc does what the pure computation F says' ===== -/
def TB : List Cond := lw_tbl.filter goodWord
theorem TB_good {w : Cond} (h : w ∈ TB) : (w.onTables && w.keeps) = true ∨ ∃ ty, w = .arrayClass ty := good_of_word (List.mem_filter.mp h).2
theorem TB_in {w : Cond} (h : w ∈ lw_tbl) (hg : goodWord w = true) : w ∈ TB := List.mem_filter.mpr ⟨h, hg⟩
theorem TB_goodIn {w0 : Cond} (h : w0 ∈ TB) : GoodIn TB (w0 :: TB) := fun w hw => by
  rcases List.mem_cons.mp hw with rfl | hw
  · exact ⟨h, TB_good h⟩
  · exact ⟨hw, TB_good hw⟩
/-- ints (by cell and place), longs, the cells of DropChase.current and DropChase.spare -/
abbrev Wd : Type := (Nat → Nat → Int32) × (Nat → Nat → Int64) × Nat × Nat
def wdA (w : Wd) (k : Nat) (f : Nat → Int32) : Wd := (fun k' => if k' = k then f else w.1 k', w.2)
def wdI (w : Wd) (k j : Nat) (v : Int32) : Wd := wdA w k (upd (w.1 k) j v)
def wdL (w : Wd) (k j : Nat) (v : Int64) : Wd := (w.1, fun k' => if k' = k then vp_updL (w.2.1 k) j v else w.2.1 k', w.2.2)
def wdC (w : Wd) (i : Nat) : Wd := (w.1, w.2.1, i, w.2.2.2)
def wdR (w : Wd) (i : Nat) : Wd := (w.1, w.2.1, w.2.2.1, i)
/-- launch, class numbers, array classes (int, long, boolean, int[]), addresses, the static arrays' addresses, N, the cells that are there -/
abbrev Ev : Type := Launch × va_G × (Nat → ClassId) × (Nat → Nat) × (Nat → Nat) × Nat × List Nat
def Ea (E : Ev) : Nat → Nat := E.2.2.2.1
def Es (E : Ev) : Nat → Nat := E.2.2.2.2.1
def En (E : Ev) : Nat := E.2.2.2.2.2.1
def El (E : Ev) : List Nat := E.2.2.2.2.2.2
def Ey (E : Ev) : Nat → ClassId := E.2.2.1
def Ed (E : Ev) : va_G := E.2.1
/-- a method: class, bytes, locals, what it returns, its depth, its name -/
abbrev Mt : Type := String × ByteArray × Nat × Option FieldType × Nat × String
def kd (k : Nat) : Nat := ([7, 9, 6, 9, 9, 11, 9, 9, 9, 9, 9, 1, 9, 9, 12, 9, 9, 9, 9, 9, 9, 9, 4, 9, 9, 9, 9, 3, 9, 0, 9, 9, 9, 5, 9, 2, 9, 11, 10, 2, 9, 11, 10, 99, 99, 99, 99, 99, 99, 99, 8, 99, 99, 9, 9, 9, 9, 9, 9, 9, 9, 9, 9, 9, 9, 9, 9, 9, 9, 9, 9, 9, 9, 99, 9, 11, 99, 9, 9, 9, 9, 9, 9, 9, 9, 11, 99, 99, 99, 99, 99, 99, 99, 9, 9, 9, 9, 9, 9, 9, 9, 99, 9] : List Nat).getD k 99
def ln (N k : Nat) : Nat := ([0, 16, 0, 12 * (N * N), N * N, 2 * (N * N), 16, 16, 33, 33, 8, 0, N, N, N, 12, 12, 12, 12, 12, 12, 12, 0, N * N, 16, 2, N * N, 0, 270 * (N * N), 0, 1000, 1000, 1000, 0, 2000, 0, 300, 300, 2107, 0, 300, 300, 2107, 0, 0, 0, 0, 0, 0, 0, 0, 0, 0, 16, 16, 8, 7, 7, 84, 12, 784, 256, 16, 16, 32000, 32000, 32000, 32000, 16, 32000, 32000, 32000, 32000, 0, 64, 49, 0, 16, 29498, 9632, 602, 600, 600, 600, 600, 600, 0, 0, 0, 0, 0, 0, 0, 1100, 1100, 1100, 1100, 1100, 1100, 16, 16, 0, 2000] : List Nat).getD k 0
def fvs (a : Nat → Nat) (w : Wd) (k : Nat) : List Value := match kd k with
  | 0 => [.ref (a 27), .ref (a 22), .ref (a (k + 1)), .ref (a (k + 2)), .ref (a (k + 3)), .int (w.1 k 5), .int (w.1 k 6), .int (w.1 k 7), .int (w.1 k 8)]
  | 1 => [.int (w.1 k 0), .ref (a (k + 1)), .ref (a (k + 2)), .ref (a (k + 3))]
  | 2 => [.ref (a 22), .ref (a (k + 1)), .ref (a (k + 2)), .ref (a (k + 3)), .int (w.1 k 4), .int (w.1 k 5), .int (w.1 k 6), .int (w.1 k 7), .int (w.1 k 8)]
  | 3 => [.ref (a 2), .ref (a 22), .int (w.1 k 2), .ref (a (k + 1))]
  | 4 => [.ref (a 2), .int (w.1 k 1), .int (w.1 k 2), .ref (a (k + 1)), .ref (a (k + 2)), .ref (a (k + 3)), .ref (a (k + 4)), .int (w.1 k 7)]
  | 5 => [.int (w.1 k 0), .ref (a (k + 1)), .int (w.1 k 2)]
  | 6 => [.int (w.1 k 0), .int (w.1 k 1), .ref (a (k + 1)), .ref (a (k + 2)), .ref (a (k + 3)), .ref (a (k + 4)), .ref (a (k + 5)), .ref (a (k + 6)), .ref (a (k + 7)), .ref (a (k + 8))]
  | 7 => [.int (w.1 k 0), .ref (a 2), .ref (a 11), .ref (a (k + 1)), .ref (a 22), .ref (a 27), .ref (a 29), .ref (a 33), .ref (a w.2.2.1), .ref (a w.2.2.2), .int (w.1 k 10), .int (w.1 k 11), .int (w.1 k 12)]
  | 8 => [.int (w.1 k 0), .int (w.1 k 1), .ref (a (k + 3)), .ref (a (k + 4)), .ref (a (k + 5)), .ref (a (k + 6)), .ref (a (k + 7)), .ref (a (k + 8)), .ref (a (k + 9)), .ref (a (k + 10)), .ref (a (k + 11)), .ref (a (k + 12)), .ref (a (k + 13)), .ref (a (k + 14)), .ref (a (k + 15)), .ref (a (k + 16)), .ref (a (k + 17)), .ref (a (k + 18)), .ref (a (k + 19)), .ref (a (k + 20)), .ref (a (k + 21)), .ref (a (k + 22)), .int (w.1 k 22), .ref (a (k + 24)), .ref (a (k + 25)), .int (w.1 k 25), .ref (a (k + 27)), .ref (a (k + 28)), .ref (a (k + 29)), .ref (a (k + 30)), .ref (a (k + 31)), .ref (a (k + 32)), .ref (a (k + 33)), .ref (a (k + 34)), .ref (a (k + 35)), .int (w.1 k 35), .int (w.1 k 36), .int (w.1 k 37), .int (w.1 k 38), .int (w.1 k 39), .int (w.1 k 40), .int (w.1 k 41), .ref (a (k + 43)), .ref (a (k + 44)), .ref (a (k + 45)), .ref (a (k + 46)), .ref (a (k + 47)), .ref (a (k + 48)), .ref (a (k + 49)), .ref (a (k + 50)), .int (w.1 k 50), .ref (a (k + 52))]
  | _ => []
def stN (j : Nat) : String := (["TURNED", "ROWS_MORE", "COLUMNS_MORE", "FIRST_STEPS", "FIRST_RUNS"] : List String).getD j ""
def stV (j : Nat) : List Int32 := ([[4, 5, 6, 7, 0, 1, 2, 3, 10, 11, 8, 9], [(-1), (-1), 0, 1, 1, 1, 0, (-1), (-2), (-2), 2, 2], [0, 1, 1, 1, 0, (-1), (-1), (-1), 1, (-1), (-1), 1], [255, 1, 171, 215, 0, 0, 0, 768, 0, 215, 215, 0, 170, 85, 215, 215], [0, 0, 0, 0, 85, 170, 1, 0, 0, 0, 0, 0, 85, 170, 0, 0]] : List (List Int32)).getD j []
def ce (E : Ev) (w : Wd) (k : Nat) : va_E :=
  if kd k < 9 then .inr (kd k, fvs (Ea E) w k)
  else if kd k = 9 then .inl (Ey E 0, ln (En E) k, .inl (w.1 k))
  else if kd k = 10 then .inl (Ey E 1, ln (En E) k, .inr (.inl (w.2.1 k)))
  else if kd k = 11 then .inl (Ey E 2, ln (En E) k, .inl (w.1 k))
  else .inl (Ey E 3, ln (En E) k, .inr (.inr (.inr (.inr (fun i => if i < En E then some (Ea E (k + 1 + i)) else none)))))
def wv (E : Ev) (w : Wd) : va_W := (El E).map fun k => (Ea E k, ce E w k)
def tyl (E : Ev) : List (ClassId × FieldType) := [(Ey E 0, .int), (Ey E 1, .long), (Ey E 2, .boolean), (Ey E 3, .array .int)]
/-- what a method may change: the cells that are there, and new ones -/
def AA (E : Ev) (sz : Nat) : Nat → Prop := fun q => (∃ k ∈ El E, Ea E k = q) ∨ sz ≤ q
def Stt (E : Ev) (A : Nat → Prop) (U : State) (H : Heap) : Prop := ∀ j, j < 5 → va_Z RX8 (stN j) "[I" (.ref (Es E j)) A U H ∧ va_T .int (Es E j) (stV j).length (fun i => .int ((stV j).getD i 0)) A U H
def nwl : List Cond := [.methodLinkNest "DropChase" 233 ⟨"DropChase$Rules", "countRows", "(III)I"⟩ "DropChase", .methodLinkNest "DropChase" 262 ⟨"DropChase$Chase", "hunterGoes", "(III)Z"⟩ "DropChase", .methodLinkNest "DropChase" 286 ⟨"DropChase$Chase", "firstFault", "(II)I"⟩ "DropChase", .methodLinkNest "DropChase$Text" 62 ⟨"DropChase", "isHandKind", "(I)Z"⟩ "DropChase"]
def NW (U : State) : Prop := ∀ w ∈ nwl, va_Nw w U
def Evn (E : Ev) (A : Nat → Prop) (U : State) (H : Heap) : Prop := va_K (Ed E) vwCl (tyl E) U ∧ Stt E A U H ∧ NW U
def rmk (kc ks d : Nat) : Room := { frames := d, cells := kc, slots := ks, locals := 64 * d }
def rmd (d : Nat) : Room := rmk 0 0 d
/-- a method's end: the answer r, the world w' -/
def QR (E : Ev) (r : Option Value) (w' : Wd) : Array Value → State → Outcome → State → Prop := fun _ st oc t =>
  oc = .returned r ∧ va_P (Ed E) vwCl (wv E w') t.heap ∧ va_D (AA E st.heap.size) (wv E w') ∧ va_F (AA E st.heap.size) st t
def Sim {α : Type} (E : Ev) (M : Mt) (rt : α → Option Value) (pc : Nat) (lv : List (Nat × Value)) (st : List Value) (w : Wd) (F : Option (α × Wd)) : Prop :=
  ∀ (x : α) (w' : Wd), F = some (x, w') → ∀ (kc ks : Nat) (p : Program) (e : Env) (s : State) (m : MethodId) (args : Array Value) (below : List Frame) (meth : Method) (c : Code) (H : Heap) (locs : List Loc) (ls : Array Slot),
    CallFix p m c M.2.1 M.2.2.1 s args TB M.1 → (meth.sig.returnType = M.2.2.2.1 ∧ meth.name = M.2.2.2.2.2) → meth.locks = false → Evn E (AA E s.heap.size) s s.heap →
    va_P (Ed E) vwCl (wv E w) H → va_D (AA E s.heap.size) (wv E w) → va_S (AA E s.heap.size) s.heap H locs → lv_has ls M.2.2.1 lv →
    W p E.1 e (rmk kc ks M.2.2.2.2.1) s m args below meth c H locs kc ks (MQ below (QR E (rt x) w') args s kc ks (AA E s.heap.size)) (F0 m pc ls st)
def Ct {α : Type} (E : Ev) (M : Mt) (y : MethodName) (rt : α → Option Value) (av : List Value) (w : Wd) (F : Option (α × Wd)) : Prop :=
  ∀ (x : α) (w' : Wd), F = some (x, w') → ∀ sz : Nat, Met E.1 y (.code y M.2.1 M.2.2.1 M.2.2.2.1 :: TB) (rmd M.2.2.2.2.1)
    (va_Pc av (fun U => U.heap.size = sz ∧ va_P (Ed E) vwCl (wv E w) U.heap ∧ va_D (fun _ => True) (wv E w) ∧ Evn E (AA E sz) U U.heap)) (QR E (rt x) w') 0 0 (AA E sz)
def bd {α β : Type} (G : Option (β × Wd)) (K : β → Wd → Option (α × Wd)) : Option (α × Wd) := match G with
  | none => none
  | some z => K z.1 z.2
def lt {α : Type} (v : Int32) (K : Int32 → Option (α × Wd)) : Option (α × Wd) := K v
def lj {α : Type} (v : Int64) (K : Int64 → Option (α × Wd)) : Option (α × Wd) := K v
def lw {α : Type} (w : Wd) (K : Wd → Option (α × Wd)) : Option (α × Wd) := K w
def FU : Nat := 100000
def inb (i : Int32) (n : Nat) : Bool := !decide (i < 0) && decide (i.toNatClampNeg < n)
theorem inb_in {i : Int32} {n : Nat} (h : inb i n = true) : vp_in i n := by
  simp only [inb, Bool.and_eq_true, Bool.not_eq_true', decide_eq_false_iff_not, decide_eq_true_eq] at h
  intro q
  rcases q with q | q
  · exact h.1 q
  · omega
abbrev rI : Int32 → Option Value := fun x => some (.int x)
abbrev rJ : Int64 → Option Value := fun x => some (.long x)
abbrev rV : Unit → Option Value := fun _ => none
/-! the world as a list -/
theorem wv_at {E : Ev} (w : Wd) {k : Nat} (hk : k ∈ El E) : ∃ p : Nat, (El E)[p]? = some k ∧ (wv E w)[p]? = some (Ea E k, ce E w k) := by
  obtain ⟨p, hp⟩ := List.getElem?_of_mem hk
  exact ⟨p, hp, by simp [wv, hp]⟩
theorem wv_D {E : Ev} {A : Nat → Prop} {w : Wd} (sz : Nat) (h : va_D A (wv E w)) : va_D (AA E sz) (wv E w) := by
  refine ⟨h.1, fun k q hq => ?_⟩
  simp only [wv, List.getElem?_map] at hq
  cases hk : (El E)[k]? with
  | none => rw [hk] at hq; cases hq
  | some j =>
    rw [hk] at hq
    cases hq
    exact Or.inl ⟨j, List.mem_of_getElem? hk, rfl⟩
theorem wv_set {E : Ev} {A : Nat → Prop} {w w2 : Wd} {k p : Nat} {e : va_E} (hD : va_D A (wv E w)) (hp : (El E)[p]? = some k) (he : ce E w2 k = e) (ho : ∀ j, j ≠ k → ce E w2 j = ce E w j) : (wv E w).set p (Ea E k, e) = wv E w2 := by
  have hu : ∀ i, (El E)[i]? = some k → i = p := fun i hi => hD.1 i p (Ea E k, ce E w k) (Ea E k, ce E w k) (by simp [wv, hi]) (by simp [wv, hp]) rfl
  apply List.ext_getElem?
  intro i
  rw [List.getElem?_set]
  by_cases hi : p = i
  · subst hi
    have hlt : p < (wv E w).length := by
      simp only [wv, List.length_map]
      exact (List.getElem?_eq_some_iff.mp hp).1
    rw [if_pos rfl, if_pos hlt]
    simp [wv, hp, he]
  · rw [if_neg hi]
    simp only [wv, List.getElem?_map]
    cases hk : (El E)[i]? with
    | none => rfl
    | some j =>
      have hj : j ≠ k := fun q => hi ((hu i (by rw [hk, q])).symm)
      simp [ho j hj]
theorem fvs_A {a : Nat → Nat} {w : Wd} {k j : Nat} {f : Nat → Int32} (h : j ≠ k) : fvs a (wdA w k f) j = fvs a w j := by
  have e1 : (wdA w k f).1 j = w.1 j := if_neg h
  have e2 : (wdA w k f).2 = w.2 := rfl
  unfold fvs
  rw [e1, e2]
theorem ce_A {E : Ev} {w : Wd} {k j : Nat} {f : Nat → Int32} (h : j ≠ k) : ce E (wdA w k f) j = ce E w j := by
  unfold ce
  rw [fvs_A h, show (wdA w k f).1 j = w.1 j from if_neg h, show (wdA w k f).2 = w.2 from rfl]
theorem wdA_at {w : Wd} {k : Nat} {f : Nat → Int32} : (wdA w k f).1 k = f := if_pos rfl
theorem fvs_L {a : Nat → Nat} {w : Wd} {k i j : Nat} {v : Int64} : fvs a (wdL w k i v) j = fvs a w j := rfl
theorem ce_L {E : Ev} {w : Wd} {k i j : Nat} {v : Int64} (h : j ≠ k) : ce E (wdL w k i v) j = ce E w j := by
  unfold ce
  rw [fvs_L, show (wdL w k i v).1 j = w.1 j from rfl, show (wdL w k i v).2.1 j = w.2.1 j from if_neg h]
theorem AA_mono {E : Ev} {s1 s2 : Nat} (h : s1 ≤ s2) {q : Nat} (hq : AA E s2 q) : AA E s1 q := hq.elim Or.inl (fun z => Or.inr (Nat.le_trans h z))
theorem Evn_blind {E : Ev} {A : Nat → Prop} {U : State} {H : Heap} (g : JFrame) (mk : MethodId) (a : Array Value) (h : Evn E A U H) : Evn E A (U.calling g mk a) H :=
  ⟨va_K.moved (u := U) (U := U.calling g mk a) (Vm.Alike.refl U.vm) h.1, fun j hj => ⟨va_Z.moved (u := U) (U := U.calling g mk a) (Vm.Alike.refl U.vm) (h.2.1 j hj).1, va_T.moved (u := U) (U := U.calling g mk a) (Vm.Alike.refl U.vm) (h.2.1 j hj).2⟩, fun w hw => va_Nw.same (by simp only [nwl, List.mem_cons, List.not_mem_nil, or_false] at hw; rcases hw with rfl | rfl | rfl | rfl <;> rfl) (u := U) (U := U.calling g mk a) rfl (h.2.2 w hw)⟩
theorem Evn_go {E : Ev} {s U : State} {H : Heap} {locs : List Loc} (hS : va_S (AA E s.heap.size) s.heap H locs) (hW : s.WarmedH U.vm) (h : Evn E (AA E s.heap.size) s s.heap) : Evn E (AA E H.size) U H := by
  refine ⟨va_K.moved hW.alike h.1, fun j hj => ⟨?_, ?_⟩, fun w hw => ?_⟩
  · exact (((h.2.1 j hj).1.kept hS.2.1).moved hW.alike).narrow (fun q hq => AA_mono hS.1 hq)
  · exact (((h.2.1 j hj).2.kept hS.2.1).moved hW.alike).narrow (fun q hq => AA_mono hS.1 hq)
  · have h1 := h.2.2 w hw
    simp only [nwl, List.mem_cons, List.not_mem_nil, or_false] at hw
    rcases hw with rfl | rfl | rfl | rfl <;> exact va_Nw.warmM hW h1
theorem Ct.of {α : Type} {E : Ev} {M : Mt} {y : MethodName} {rt : α → Option Value} {av : List Value} {w : Wd} {F : Option (α × Wd)} (hy : plainName y.cls = true) (ho : y.cls = M.1 ∧ y.name = M.2.2.2.2.2) (hle : (lg_sl av).length ≤ M.2.2.1) (h : Sim E M rt 0 (lv_args 0 av) [] w F) : Ct E M y rt av w F := by
  intro x w' hF sz
  refine Met.ofW (cc := M.2.1) (maxL := M.2.2.1) (ret := M.2.2.2.1) hy rfl ?_
  intro p e s m args below meth c s₁ B hml hv
  obtain ⟨rfl, hsz, hP, hD, hE⟩ := hv
  subst hsz
  have hts := atoms_spec (ws := .code y M.2.1 M.2.2.1 M.2.2.2.1 :: TB) B.pre
  have hown : s.vm.findClass M.1 = some m.cls := by rw [← ho.1]; exact findClass_of_methodNamed B.named
  rw [lg_entry_eq]
  exact h x w' hF 0 0 p e s m _ below meth c s.heap [] _ ⟨B.exec, B.bytes, hml, hown, fun w hw => hts w (List.mem_cons_of_mem _ hw)⟩ ⟨B.returns, ((name_of_methodNamed B.named B.method).1).trans ho.2⟩ B.notSynchronized hE hP (wv_D _ hD) va_S.rf (lv_entry av hle)
section RULES
variable {α : Type} {E : Ev} {M : Mt} {rt : α → Option Value} {pc q : Nat} {lv : List (Nat × Value)} {st : List Value} {w : Wd} {F F1 F2 : Option (α × Wd)}
theorem Sim.go {pc' : Nat} {st' : List Value} (h : Sim E M rt pc' lv st' w F) (k : ∀ {kc ks : Nat} {p : Program} {e : Env} {s : State} {m : MethodId} {args : Array Value} {below : List Frame} {meth : Method} {c : Code} {H : Heap} {locs : List Loc} {ls : Array Slot} {Q : State → Prop}, p.tables.exec = Jvm.exec → c.code = M.2.1 → s.vm.findClass M.1 = some m.cls → (∀ w ∈ TB, w.before args s = true) → lv_has ls M.2.2.1 lv → W p E.1 e (rmk kc ks M.2.2.2.2.1) s m args below meth c H locs kc ks Q (F0 m pc' ls st') → W p E.1 e (rmk kc ks M.2.2.2.2.1) s m args below meth c H locs kc ks Q (F0 m pc ls st)) : Sim E M rt pc lv st w F :=
  fun x w' hF kc ks p e s m args below meth c H locs ls C hr hk hE hP hD hS hl => k C.1 C.2.1 C.2.2.2.1 C.2.2.2.2 hl (h x w' hF kc ks p e s m args below meth c H locs ls C hr hk hE hP hD hS hl)
theorem Sim.sto {pc' : Nat} {lv' : List (Nat × Value)} {st' : List Value} (h : Sim E M rt pc' lv' st' w F) (k : ∀ {kc ks : Nat} {p : Program} {e : Env} {s : State} {m : MethodId} {args : Array Value} {below : List Frame} {meth : Method} {c : Code} {H : Heap} {locs : List Loc} {ls : Array Slot} {Q : State → Prop}, p.tables.exec = Jvm.exec → c.code = M.2.1 → lv_has ls M.2.2.1 lv → (∀ ls' : Array Slot, lv_has ls' M.2.2.1 lv' → W p E.1 e (rmk kc ks M.2.2.2.2.1) s m args below meth c H locs kc ks Q (F0 m pc' ls' st')) → W p E.1 e (rmk kc ks M.2.2.2.2.1) s m args below meth c H locs kc ks Q (F0 m pc ls st)) : Sim E M rt pc lv st w F :=
  fun x w' hF kc ks p e s m args below meth c H locs ls C hr hk hE hP hD hS hl => k C.1 C.2.1 hl (fun ls' hl' => h x w' hF kc ks p e s m args below meth c H locs ls' C hr hk hE hP hD hS hl')
theorem sim_sub {lv' : List (Nat × Value)} (kz : List Nat) (hk : lv_pick lv kz = lv') (h : Sim E M rt pc lv' st w F) : Sim E M rt pc lv st w F :=
  fun x w' hF kc ks p e s m args below meth c H locs ls C hr hk' hE hP hD hS hl => h x w' hF kc ks p e s m args below meth c H locs ls C hr hk' hE hP hD hS (lv_sub hl kz hk)
theorem sim_none : Sim E M rt pc lv st w none := fun _ _ hF => by cases hF
theorem sim_guard {b : Prop} [Decidable b] (h : b → Sim E M rt pc lv st w F) : Sim E M rt pc lv st w (if b then F else none) := by
  by_cases hb : b
  · rw [if_pos hb]; exact h hb
  · rw [if_neg hb]; exact sim_none
theorem sim_iadd {x y : Int32} (hd : decode M.2.1 pc = .ok (.iadd, 1)) (hp : pc + 1 = q) (h : Sim E M rt q lv (.int (x + y) :: st) w F) : Sim E M rt pc lv (.int y :: .int x :: st) w F := by
  subst hp
  exact h.go (fun hx hb ho ht hl kk => lv_iadd hx hb hd kk)
theorem sim_isub {x y : Int32} (hd : decode M.2.1 pc = .ok (.isub, 1)) (hp : pc + 1 = q) (h : Sim E M rt q lv (.int (x - y) :: st) w F) : Sim E M rt pc lv (.int y :: .int x :: st) w F := by
  subst hp
  exact h.go (fun hx hb ho ht hl kk => lv_isub hx hb hd kk)
theorem sim_imul {x y : Int32} (hd : decode M.2.1 pc = .ok (.imul, 1)) (hp : pc + 1 = q) (h : Sim E M rt q lv (.int (x * y) :: st) w F) : Sim E M rt pc lv (.int y :: .int x :: st) w F := by
  subst hp
  exact h.go (fun hx hb ho ht hl kk => lv_imul hx hb hd kk)
theorem sim_iand {x y : Int32} (hd : decode M.2.1 pc = .ok (.iand, 1)) (hp : pc + 1 = q) (h : Sim E M rt q lv (.int (x &&& y) :: st) w F) : Sim E M rt pc lv (.int y :: .int x :: st) w F := by
  subst hp
  exact h.go (fun hx hb ho ht hl kk => lv_iand hx hb hd kk)
theorem sim_ior {x y : Int32} (hd : decode M.2.1 pc = .ok (.ior, 1)) (hp : pc + 1 = q) (h : Sim E M rt q lv (.int (x ||| y) :: st) w F) : Sim E M rt pc lv (.int y :: .int x :: st) w F := by
  subst hp
  exact h.go (fun hx hb ho ht hl kk => lv_ior hx hb hd kk)
theorem sim_ishl {x y : Int32} (hd : decode M.2.1 pc = .ok (.ishl, 1)) (hp : pc + 1 = q) (h : Sim E M rt q lv (.int (x <<< (y &&& 31)) :: st) w F) : Sim E M rt pc lv (.int y :: .int x :: st) w F := by
  subst hp
  exact h.go (fun hx hb ho ht hl kk => lv_ishl hx hb hd kk)
theorem sim_ishr {x y : Int32} (hd : decode M.2.1 pc = .ok (.ishr, 1)) (hp : pc + 1 = q) (h : Sim E M rt q lv (.int (x >>> (y &&& 31)) :: st) w F) : Sim E M rt pc lv (.int y :: .int x :: st) w F := by
  subst hp
  exact h.go (fun hx hb ho ht hl kk => lv_ishr hx hb hd kk)
theorem sim_ineg {x : Int32} (hd : decode M.2.1 pc = .ok (.ineg, 1)) (hp : pc + 1 = q) (h : Sim E M rt q lv (.int (-x) :: st) w F) : Sim E M rt pc lv (.int x :: st) w F := by
  subst hp
  exact h.go (fun hx hb ho ht hl kk => lv_ineg hx hb hd kk)
theorem sim_iconst {n : Int} (v : Int32) (hd : decode M.2.1 pc = .ok (.iconst n, 1)) (hv : Int32.ofInt n = v) (hp : pc + 1 = q) (h : Sim E M rt q lv (.int v :: st) w F) : Sim E M rt pc lv (st) w F := by
  subst hp
  exact h.go (fun hx hb ho ht hl kk => lv_iconst hx hb hd hv kk)
theorem sim_bipush {n : Int} (v : Int32) (hd : decode M.2.1 pc = .ok (.bipush n, 2)) (hv : (Int8.ofInt n).toInt32 = v) (hp : pc + 2 = q) (h : Sim E M rt q lv (.int v :: st) w F) : Sim E M rt pc lv (st) w F := by
  subst hp
  exact h.go (fun hx hb ho ht hl kk => lv_bipush hx hb hd hv kk)
theorem sim_sipush {n : Int} (v : Int32) (hd : decode M.2.1 pc = .ok (.sipush n, 3)) (hv : (Int16.ofInt n).toInt32 = v) (hp : pc + 3 = q) (h : Sim E M rt q lv (.int v :: st) w F) : Sim E M rt pc lv (st) w F := by
  subst hp
  exact h.go (fun hx hb ho ht hl kk => lv_sipush hx hb hd hv kk)
theorem sim_lconst {n : Fin 2} (v : Int64) (hd : decode M.2.1 pc = .ok (.lconst n, 1)) (hv : Int64.ofNat (n : Nat) = v) (hp : pc + 1 = q) (h : Sim E M rt q lv (.long v :: st) w F) : Sim E M rt pc lv (st) w F := by
  subst hp
  exact h.go (fun hx hb ho ht hl kk => lv_lconst hx hb hd hv kk)
theorem sim_ldc {i : Nat} (v : Int32) (hd : decode M.2.1 pc = .ok (.ldc i, 2)) (hc : Cond.constant M.1 i v ∈ TB) (hp : pc + 2 = q) (h : Sim E M rt q lv (.int v :: st) w F) : Sim E M rt pc lv (st) w F := by
  subst hp
  exact h.go (fun hx hb ho ht hl kk => lv_ldc hx hb ho (ht _ hc) hd kk)
theorem sim_ldc2 {i : Nat} (v : Int64) (hd : decode M.2.1 pc = .ok (.ldc2_w i, 3)) (hc : Cond.constantLong M.1 i v ∈ TB) (hp : pc + 3 = q) (h : Sim E M rt q lv (.long v :: st) w F) : Sim E M rt pc lv (st) w F := by
  subst hp
  exact h.go (fun hx hb ho ht hl kk => lv_ldc2 hx hb ho (ht _ hc) hd kk)
theorem sim_iload {i : Nat} {x : Int32} (k : Nat) (hd : decode M.2.1 pc = .ok (.iload i, 2)) (hk : lv[k]? = some (i, .int x)) (hp : pc + 2 = q) (h : Sim E M rt q lv (.int x :: st) w F) : Sim E M rt pc lv (st) w F := by
  subst hp
  exact h.go (fun hx hb ho ht hl kk => lv_iload hx hb hd (lv_at hl k hk) kk)
theorem sim_iload_n {i : Fin 4} {x : Int32} (k : Nat) (hd : decode M.2.1 pc = .ok (.iload_n i, 1)) (hk : lv[k]? = some ((i : Nat), .int x)) (hp : pc + 1 = q) (h : Sim E M rt q lv (.int x :: st) w F) : Sim E M rt pc lv (st) w F := by
  subst hp
  exact h.go (fun hx hb ho ht hl kk => lv_iload_n hx hb hd rfl (lv_at hl k hk) kk)
theorem sim_aload {i : Nat} {x : Nat} (k : Nat) (hd : decode M.2.1 pc = .ok (.aload i, 2)) (hk : lv[k]? = some (i, .ref x)) (hp : pc + 2 = q) (h : Sim E M rt q lv (.ref x :: st) w F) : Sim E M rt pc lv (st) w F := by
  subst hp
  exact h.go (fun hx hb ho ht hl kk => lv_aload hx hb hd (lv_at hl k hk) kk)
theorem sim_aload_n {i : Fin 4} {x : Nat} (k : Nat) (hd : decode M.2.1 pc = .ok (.aload_n i, 1)) (hk : lv[k]? = some ((i : Nat), .ref x)) (hp : pc + 1 = q) (h : Sim E M rt q lv (.ref x :: st) w F) : Sim E M rt pc lv (st) w F := by
  subst hp
  exact h.go (fun hx hb ho ht hl kk => lv_aload_n hx hb hd rfl (lv_at hl k hk) kk)
theorem sim_lload {i : Nat} {x : Int64} (k : Nat) (hd : decode M.2.1 pc = .ok (.lload i, 2)) (hk : lv[k]? = some (i, .long x)) (hp : pc + 2 = q) (h : Sim E M rt q lv (.long x :: st) w F) : Sim E M rt pc lv (st) w F := by
  subst hp
  exact h.go (fun hx hb ho ht hl kk => lv_lload hx hb hd (lv_at hl k hk) kk)
theorem sim_lload_n {i : Fin 4} {x : Int64} (k : Nat) (hd : decode M.2.1 pc = .ok (.lload_n i, 1)) (hk : lv[k]? = some ((i : Nat), .long x)) (hp : pc + 1 = q) (h : Sim E M rt q lv (.long x :: st) w F) : Sim E M rt pc lv (st) w F := by
  subst hp
  exact h.go (fun hx hb ho ht hl kk => lv_lload_n hx hb hd rfl (lv_at hl k hk) kk)
theorem sim_dup {v : Value} (hd : decode M.2.1 pc = .ok (.dup, 1)) (hv : v.category = 1) (hp : pc + 1 = q) (h : Sim E M rt q lv (v :: v :: st) w F) : Sim E M rt pc lv (v :: st) w F := by
  subst hp
  exact h.go (fun hx hb ho ht hl kk => lv_dup hx hb hd hv kk)
theorem sim_dup2 {u v : Value} (hd : decode M.2.1 pc = .ok (.dup2, 1)) (hv : v.category = 1) (hu : u.category = 1) (hp : pc + 1 = q) (h : Sim E M rt q lv (v :: u :: v :: u :: st) w F) : Sim E M rt pc lv (v :: u :: st) w F := by
  subst hp
  exact h.go (fun hx hb ho ht hl kk => lv_dup2_11 hx hb hd hv hu kk)
theorem sim_dup_x1 {u v : Value} (hd : decode M.2.1 pc = .ok (.dup_x1, 1)) (hv : v.category = 1) (hu : u.category = 1) (hp : pc + 1 = q) (h : Sim E M rt q lv (v :: u :: v :: st) w F) : Sim E M rt pc lv (v :: u :: st) w F := by
  subst hp
  exact h.go (fun hx hb ho ht hl kk => lv_dup_x1 hx hb hd hv hu kk)
theorem sim_i2l {x : Int32} (hd : decode M.2.1 pc = .ok (.i2l, 1)) (hp : pc + 1 = q) (h : Sim E M rt q lv (.long x.toInt64 :: st) w F) : Sim E M rt pc lv (.int x :: st) w F := by
  subst hp
  exact h.go (fun hx hb ho ht hl kk => lv_i2l hx hb hd rfl kk)
theorem sim_i2b {x : Int32} (hd : decode M.2.1 pc = .ok (.i2b, 1)) (hp : pc + 1 = q) (h : Sim E M rt q lv (.int x.toInt8.toInt32 :: st) w F) : Sim E M rt pc lv (.int x :: st) w F := by
  subst hp
  exact h.go (fun hx hb ho ht hl kk => lv_i2b hx hb hd rfl kk)
theorem sim_i2s {x : Int32} (hd : decode M.2.1 pc = .ok (.i2s, 1)) (hp : pc + 1 = q) (h : Sim E M rt q lv (.int x.toInt16.toInt32 :: st) w F) : Sim E M rt pc lv (.int x :: st) w F := by
  subst hp
  exact h.go (fun hx hb ho ht hl kk => lv_i2s hx hb hd rfl kk)
theorem sim_i2c {x : Int32} (hd : decode M.2.1 pc = .ok (.i2c, 1)) (hp : pc + 1 = q) (h : Sim E M rt q lv (.int (x.toUInt32 % 65536).toInt32 :: st) w F) : Sim E M rt pc lv (.int x :: st) w F := by
  subst hp
  exact h.go (fun hx hb ho ht hl kk => lv_i2c hx hb hd rfl kk)
theorem sim_ladd {x y : Int64} (hd : decode M.2.1 pc = .ok (.ladd, 1)) (hp : pc + 1 = q) (h : Sim E M rt q lv (.long (x + y) :: st) w F) : Sim E M rt pc lv (.long y :: .long x :: st) w F := by
  subst hp
  exact h.go (fun hx hb ho ht hl kk => lv_ladd hx hb hd kk)
theorem sim_lmul {x y : Int64} (hd : decode M.2.1 pc = .ok (.lmul, 1)) (hp : pc + 1 = q) (h : Sim E M rt q lv (.long (x * y) :: st) w F) : Sim E M rt pc lv (.long y :: .long x :: st) w F := by
  subst hp
  exact h.go (fun hx hb ho ht hl kk => lv_lmul hx hb hd kk)
theorem sim_lor {x y : Int64} (hd : decode M.2.1 pc = .ok (.lor, 1)) (hp : pc + 1 = q) (h : Sim E M rt q lv (.long (x ||| y) :: st) w F) : Sim E M rt pc lv (.long y :: .long x :: st) w F := by
  subst hp
  exact h.go (fun hx hb ho ht hl kk => lv_lor hx hb hd kk)
theorem sim_lshl {x : Int64} {y : Int32} (hd : decode M.2.1 pc = .ok (.lshl, 1)) (hp : pc + 1 = q) (h : Sim E M rt q lv (.long (x <<< (y.toInt64 &&& 63)) :: st) w F) : Sim E M rt pc lv (.int y :: .long x :: st) w F := by
  subst hp
  exact h.go (fun hx hb ho ht hl kk => lv_lshl hx hb hd rfl kk)
theorem sim_lcmp {x y : Int64} (hd : decode M.2.1 pc = .ok (.lcmp, 1)) (hp : pc + 1 = q) (h : Sim E M rt q lv (.int (lg_cmp x y) :: st) w F) : Sim E M rt pc lv (.long y :: .long x :: st) w F := by
  subst hp
  exact h.go (fun hx hb ho ht hl kk => W.lcmp hx hb hd kk)
theorem sim_goto {off : Int} (hd : decode M.2.1 pc = .ok (.goto off, 3)) (ht : (pc : Int) + off = (q : Int)) (h : Sim E M rt q lv st w F) : Sim E M rt pc lv st w F := h.go (fun hx hb ho ht2 hl k => lv_goto hx hb hd ht k)
theorem sim_idiv {x y : Int32} (hd : decode M.2.1 pc = .ok (.idiv, 1)) (hp : pc + 1 = q) (h : Sim E M rt q lv (.int (x / y) :: st) w F) : Sim E M rt pc lv (.int y :: .int x :: st) w (if ¬ y = 0 then F else none) := by
  subst hp
  refine sim_guard (fun hy => ?_)
  exact h.go (fun hx hb ho ht hl k => lv_idiv hx hb hd hy k)
theorem sim_irem {x y : Int32} (hd : decode M.2.1 pc = .ok (.irem, 1)) (hp : pc + 1 = q) (h : Sim E M rt q lv (.int (x - x / y * y) :: st) w F) : Sim E M rt pc lv (.int y :: .int x :: st) w (if ¬ y = 0 then F else none) := by
  subst hp
  refine sim_guard (fun hy => ?_)
  exact h.go (fun hx hb ho ht hl k => lv_irem hx hb hd hy k)
theorem sim_istore {i : Nat} {x : Int32} (lv2 : List (Nat × Value)) (hd : decode M.2.1 pc = .ok (.istore i, 2)) (hn : i < M.2.2.1) (hl2 : (i, Value.int x) :: lv.filter (fun q => !(q.1 == i) && !(q.1 + 1 == i && q.2.category == 2)) = lv2) (hp : pc + 2 = q) (h : Sim E M rt q lv2 st w F) : Sim E M rt pc lv (.int x :: st) w F := by
  subst hp
  exact h.sto (fun hx hb hl k => lv_istore hx hb hd hl hn hl2 k)
theorem sim_istore_n {i : Fin 4} {x : Int32} (lv2 : List (Nat × Value)) (hd : decode M.2.1 pc = .ok (.istore_n i, 1)) (hn : (i : Nat) < M.2.2.1) (hl2 : ((i : Nat), Value.int x) :: lv.filter (fun q => !(q.1 == (i : Nat)) && !(q.1 + 1 == (i : Nat) && q.2.category == 2)) = lv2) (hp : pc + 1 = q) (h : Sim E M rt q lv2 st w F) : Sim E M rt pc lv (.int x :: st) w F := by
  subst hp
  exact h.sto (fun hx hb hl k => lv_istore_n hx hb hd rfl hl hn hl2 k)
theorem sim_astore_n {i : Fin 4} {x : Nat} (lv2 : List (Nat × Value)) (hd : decode M.2.1 pc = .ok (.astore_n i, 1)) (hn : (i : Nat) < M.2.2.1) (hl2 : ((i : Nat), Value.ref x) :: lv.filter (fun q => !(q.1 == (i : Nat)) && !(q.1 + 1 == (i : Nat) && q.2.category == 2)) = lv2) (hp : pc + 1 = q) (h : Sim E M rt q lv2 st w F) : Sim E M rt pc lv (.ref x :: st) w F := by
  subst hp
  exact h.sto (fun hx hb hl k => lv_astore_n hx hb hd rfl hl hn hl2 k)
theorem sim_lstore {i : Nat} {x : Int64} (lv2 : List (Nat × Value)) (hd : decode M.2.1 pc = .ok (.lstore i, 2)) (hn : i + 1 < M.2.2.1) (hl2 : (i, Value.long x) :: lv.filter (fun q => !(q.1 == i) && (!(q.1 == i + 1) && !(q.1 + 1 == i && q.2.category == 2))) = lv2) (hp : pc + 2 = q) (h : Sim E M rt q lv2 st w F) : Sim E M rt pc lv (.long x :: st) w F := by
  subst hp
  exact h.sto (fun hx hb hl k => lv_lstore hx hb hd hl hn hl2 k)
theorem sim_lstore_n {i : Fin 4} {x : Int64} (lv2 : List (Nat × Value)) (hd : decode M.2.1 pc = .ok (.lstore_n i, 1)) (hn : (i : Nat) + 1 < M.2.2.1) (hl2 : ((i : Nat), Value.long x) :: lv.filter (fun q => !(q.1 == (i : Nat)) && (!(q.1 == (i : Nat) + 1) && !(q.1 + 1 == (i : Nat) && q.2.category == 2))) = lv2) (hp : pc + 1 = q) (h : Sim E M rt q lv2 st w F) : Sim E M rt pc lv (.long x :: st) w F := by
  subst hp
  exact h.sto (fun hx hb hl k => lv_lstore_n hx hb hd rfl hl hn hl2 k)
theorem sim_iinc {i : Nat} {n : Int} {x : Int32} (v : Int32) (k : Nat) (lv2 : List (Nat × Value)) (hd : decode M.2.1 pc = .ok (.iinc i n, 3)) (hk : lv[k]? = some (i, .int x)) (hv : x + Int32.ofInt n = v) (hn : i < M.2.2.1) (hl2 : (i, Value.int v) :: lv.filter (fun q => !(q.1 == i) && !(q.1 + 1 == i && q.2.category == 2)) = lv2) (hp : pc + 3 = q) (h : Sim E M rt q lv2 st w F) : Sim E M rt pc lv st w F := by
  subst hp
  exact h.sto (fun hx hb hl kk => lv_iinc hx hb hd hl hk hv hn hl2 kk)
theorem sim_if_ne {x : Int32} {off : Int} (tgt : Nat) (hd : decode M.2.1 pc = .ok (.ifCond .ne off, 3)) (ht : (pc : Int) + off = (tgt : Int)) (hp : pc + 3 = q) (h1 : ¬ (x = 0) → Sim E M rt tgt lv st w F1) (h2 : x = 0 → Sim E M rt q lv st w F2) : Sim E M rt pc lv (.int x :: st) w (if x = 0 then F2 else F1) := by
  subst hp
  intro r w' hF kc ks p e s m args below meth c H locs ls C hr hk hE hP hD hS hl
  exact lv_if_ne C.1 C.2.1 hd ht (fun z => h1 z r w' (by rw [if_neg z] at hF; exact hF) kc ks p e s m args below meth c H locs ls C hr hk hE hP hD hS hl) (fun z => h2 z r w' (by rw [if_pos z] at hF; exact hF) kc ks p e s m args below meth c H locs ls C hr hk hE hP hD hS hl)
theorem sim_icmp_ne {x y : Int32} {off : Int} (tgt : Nat) (hd : decode M.2.1 pc = .ok (.if_icmp .ne off, 3)) (ht : (pc : Int) + off = (tgt : Int)) (hp : pc + 3 = q) (h1 : ¬ (x = y) → Sim E M rt tgt lv st w F1) (h2 : x = y → Sim E M rt q lv st w F2) : Sim E M rt pc lv (.int y :: .int x :: st) w (if x = y then F2 else F1) := by
  subst hp
  intro r w' hF kc ks p e s m args below meth c H locs ls C hr hk hE hP hD hS hl
  exact lv_icmp_ne C.1 C.2.1 hd ht (fun z => h1 z r w' (by rw [if_neg z] at hF; exact hF) kc ks p e s m args below meth c H locs ls C hr hk hE hP hD hS hl) (fun z => h2 z r w' (by rw [if_pos z] at hF; exact hF) kc ks p e s m args below meth c H locs ls C hr hk hE hP hD hS hl)
theorem sim_if_eq {x : Int32} {off : Int} (tgt : Nat) (hd : decode M.2.1 pc = .ok (.ifCond .eq off, 3)) (ht : (pc : Int) + off = (tgt : Int)) (hp : pc + 3 = q) (h1 : x = 0 → Sim E M rt tgt lv st w F1) (h2 : ¬ (x = 0) → Sim E M rt q lv st w F2) : Sim E M rt pc lv (.int x :: st) w (if x = 0 then F1 else F2) := by
  subst hp
  intro r w' hF kc ks p e s m args below meth c H locs ls C hr hk hE hP hD hS hl
  exact lv_if_eq C.1 C.2.1 hd ht (fun z => h1 z r w' (by rw [if_pos z] at hF; exact hF) kc ks p e s m args below meth c H locs ls C hr hk hE hP hD hS hl) (fun z => h2 z r w' (by rw [if_neg z] at hF; exact hF) kc ks p e s m args below meth c H locs ls C hr hk hE hP hD hS hl)
theorem sim_icmp_eq {x y : Int32} {off : Int} (tgt : Nat) (hd : decode M.2.1 pc = .ok (.if_icmp .eq off, 3)) (ht : (pc : Int) + off = (tgt : Int)) (hp : pc + 3 = q) (h1 : x = y → Sim E M rt tgt lv st w F1) (h2 : ¬ (x = y) → Sim E M rt q lv st w F2) : Sim E M rt pc lv (.int y :: .int x :: st) w (if x = y then F1 else F2) := by
  subst hp
  intro r w' hF kc ks p e s m args below meth c H locs ls C hr hk hE hP hD hS hl
  exact lv_icmp_eq C.1 C.2.1 hd ht (fun z => h1 z r w' (by rw [if_pos z] at hF; exact hF) kc ks p e s m args below meth c H locs ls C hr hk hE hP hD hS hl) (fun z => h2 z r w' (by rw [if_neg z] at hF; exact hF) kc ks p e s m args below meth c H locs ls C hr hk hE hP hD hS hl)
theorem sim_if_lt {x : Int32} {off : Int} (tgt : Nat) (hd : decode M.2.1 pc = .ok (.ifCond .lt off, 3)) (ht : (pc : Int) + off = (tgt : Int)) (hp : pc + 3 = q) (h1 : x < 0 → Sim E M rt tgt lv st w F1) (h2 : ¬ (x < 0) → Sim E M rt q lv st w F2) : Sim E M rt pc lv (.int x :: st) w (if x < 0 then F1 else F2) := by
  subst hp
  intro r w' hF kc ks p e s m args below meth c H locs ls C hr hk hE hP hD hS hl
  exact lv_if_lt C.1 C.2.1 hd ht (fun z => h1 z r w' (by rw [if_pos z] at hF; exact hF) kc ks p e s m args below meth c H locs ls C hr hk hE hP hD hS hl) (fun z => h2 z r w' (by rw [if_neg z] at hF; exact hF) kc ks p e s m args below meth c H locs ls C hr hk hE hP hD hS hl)
theorem sim_icmp_lt {x y : Int32} {off : Int} (tgt : Nat) (hd : decode M.2.1 pc = .ok (.if_icmp .lt off, 3)) (ht : (pc : Int) + off = (tgt : Int)) (hp : pc + 3 = q) (h1 : x < y → Sim E M rt tgt lv st w F1) (h2 : ¬ (x < y) → Sim E M rt q lv st w F2) : Sim E M rt pc lv (.int y :: .int x :: st) w (if x < y then F1 else F2) := by
  subst hp
  intro r w' hF kc ks p e s m args below meth c H locs ls C hr hk hE hP hD hS hl
  exact lv_icmp_lt C.1 C.2.1 hd ht (fun z => h1 z r w' (by rw [if_pos z] at hF; exact hF) kc ks p e s m args below meth c H locs ls C hr hk hE hP hD hS hl) (fun z => h2 z r w' (by rw [if_neg z] at hF; exact hF) kc ks p e s m args below meth c H locs ls C hr hk hE hP hD hS hl)
theorem sim_if_ge {x : Int32} {off : Int} (tgt : Nat) (hd : decode M.2.1 pc = .ok (.ifCond .ge off, 3)) (ht : (pc : Int) + off = (tgt : Int)) (hp : pc + 3 = q) (h1 : 0 ≤ x → Sim E M rt tgt lv st w F1) (h2 : ¬ (0 ≤ x) → Sim E M rt q lv st w F2) : Sim E M rt pc lv (.int x :: st) w (if 0 ≤ x then F1 else F2) := by
  subst hp
  intro r w' hF kc ks p e s m args below meth c H locs ls C hr hk hE hP hD hS hl
  exact lv_if_ge C.1 C.2.1 hd ht (fun z => h1 z r w' (by rw [if_pos z] at hF; exact hF) kc ks p e s m args below meth c H locs ls C hr hk hE hP hD hS hl) (fun z => h2 z r w' (by rw [if_neg z] at hF; exact hF) kc ks p e s m args below meth c H locs ls C hr hk hE hP hD hS hl)
theorem sim_icmp_ge {x y : Int32} {off : Int} (tgt : Nat) (hd : decode M.2.1 pc = .ok (.if_icmp .ge off, 3)) (ht : (pc : Int) + off = (tgt : Int)) (hp : pc + 3 = q) (h1 : y ≤ x → Sim E M rt tgt lv st w F1) (h2 : ¬ (y ≤ x) → Sim E M rt q lv st w F2) : Sim E M rt pc lv (.int y :: .int x :: st) w (if y ≤ x then F1 else F2) := by
  subst hp
  intro r w' hF kc ks p e s m args below meth c H locs ls C hr hk hE hP hD hS hl
  exact lv_icmp_ge C.1 C.2.1 hd ht (fun z => h1 z r w' (by rw [if_pos z] at hF; exact hF) kc ks p e s m args below meth c H locs ls C hr hk hE hP hD hS hl) (fun z => h2 z r w' (by rw [if_neg z] at hF; exact hF) kc ks p e s m args below meth c H locs ls C hr hk hE hP hD hS hl)
theorem sim_if_gt {x : Int32} {off : Int} (tgt : Nat) (hd : decode M.2.1 pc = .ok (.ifCond .gt off, 3)) (ht : (pc : Int) + off = (tgt : Int)) (hp : pc + 3 = q) (h1 : 0 < x → Sim E M rt tgt lv st w F1) (h2 : ¬ (0 < x) → Sim E M rt q lv st w F2) : Sim E M rt pc lv (.int x :: st) w (if 0 < x then F1 else F2) := by
  subst hp
  intro r w' hF kc ks p e s m args below meth c H locs ls C hr hk hE hP hD hS hl
  exact lv_if_gt C.1 C.2.1 hd ht (fun z => h1 z r w' (by rw [if_pos z] at hF; exact hF) kc ks p e s m args below meth c H locs ls C hr hk hE hP hD hS hl) (fun z => h2 z r w' (by rw [if_neg z] at hF; exact hF) kc ks p e s m args below meth c H locs ls C hr hk hE hP hD hS hl)
theorem sim_icmp_gt {x y : Int32} {off : Int} (tgt : Nat) (hd : decode M.2.1 pc = .ok (.if_icmp .gt off, 3)) (ht : (pc : Int) + off = (tgt : Int)) (hp : pc + 3 = q) (h1 : y < x → Sim E M rt tgt lv st w F1) (h2 : ¬ (y < x) → Sim E M rt q lv st w F2) : Sim E M rt pc lv (.int y :: .int x :: st) w (if y < x then F1 else F2) := by
  subst hp
  intro r w' hF kc ks p e s m args below meth c H locs ls C hr hk hE hP hD hS hl
  exact lv_icmp_gt C.1 C.2.1 hd ht (fun z => h1 z r w' (by rw [if_pos z] at hF; exact hF) kc ks p e s m args below meth c H locs ls C hr hk hE hP hD hS hl) (fun z => h2 z r w' (by rw [if_neg z] at hF; exact hF) kc ks p e s m args below meth c H locs ls C hr hk hE hP hD hS hl)
theorem sim_if_le {x : Int32} {off : Int} (tgt : Nat) (hd : decode M.2.1 pc = .ok (.ifCond .le off, 3)) (ht : (pc : Int) + off = (tgt : Int)) (hp : pc + 3 = q) (h1 : x ≤ 0 → Sim E M rt tgt lv st w F1) (h2 : ¬ (x ≤ 0) → Sim E M rt q lv st w F2) : Sim E M rt pc lv (.int x :: st) w (if x ≤ 0 then F1 else F2) := by
  subst hp
  intro r w' hF kc ks p e s m args below meth c H locs ls C hr hk hE hP hD hS hl
  exact lv_if_le C.1 C.2.1 hd ht (fun z => h1 z r w' (by rw [if_pos z] at hF; exact hF) kc ks p e s m args below meth c H locs ls C hr hk hE hP hD hS hl) (fun z => h2 z r w' (by rw [if_neg z] at hF; exact hF) kc ks p e s m args below meth c H locs ls C hr hk hE hP hD hS hl)
theorem sim_icmp_le {x y : Int32} {off : Int} (tgt : Nat) (hd : decode M.2.1 pc = .ok (.if_icmp .le off, 3)) (ht : (pc : Int) + off = (tgt : Int)) (hp : pc + 3 = q) (h1 : x ≤ y → Sim E M rt tgt lv st w F1) (h2 : ¬ (x ≤ y) → Sim E M rt q lv st w F2) : Sim E M rt pc lv (.int y :: .int x :: st) w (if x ≤ y then F1 else F2) := by
  subst hp
  intro r w' hF kc ks p e s m args below meth c H locs ls C hr hk hE hP hD hS hl
  exact lv_icmp_le C.1 C.2.1 hd ht (fun z => h1 z r w' (by rw [if_pos z] at hF; exact hF) kc ks p e s m args below meth c H locs ls C hr hk hE hP hD hS hl) (fun z => h2 z r w' (by rw [if_neg z] at hF; exact hF) kc ks p e s m args below meth c H locs ls C hr hk hE hP hD hS hl)
theorem sim_iret {x : Int32} (hr : M.2.2.2.1 = some .int) (hd : decode M.2.1 pc = .ok (.ireturn, 1)) : Sim E M rI pc lv [.int x] w (some (x, w)) := by
  intro r w' hF kc ks p e s m args below meth c H locs ls C hrt hk hE hP hD hS hl
  cases hF
  exact W.iret C.1 C.2.1 (hrt.1.trans hr) (fun t ht hW => ⟨rfl, by rw [ht]; exact hP, hD, hS.F ht⟩) hS.2.2 hd hk
def zb (x : Int32) : Bool := decide (x = 0) || decide (x = 1)
theorem zb_nar {x : Int32} (h : zb x = true) : narrow .boolean (.int x) = .int x := by
  simp only [zb, Bool.or_eq_true, decide_eq_true_eq] at h
  rcases h with rfl | rfl <;> rfl
theorem sim_zret {x : Int32} (hr : M.2.2.2.1 = some .boolean) (hd : decode M.2.1 pc = .ok (.ireturn, 1)) : Sim E M rI pc lv [.int x] w (if zb x = true then some (x, w) else none) := by
  refine sim_guard (fun hz => ?_)
  intro r w' hF kc ks p e s m args below meth c H locs ls C hrt hk hE hP hD hS hl
  cases hF
  exact W.zret C.1 C.2.1 (hrt.1.trans hr) (zb_nar hz) (fun t ht hW => ⟨rfl, by rw [ht]; exact hP, hD, hS.F ht⟩) hS.2.2 hd hk
theorem sim_lret {x : Int64} (hr : M.2.2.2.1 = some .long) (hd : decode M.2.1 pc = .ok (.lreturn, 1)) : Sim E M rJ pc lv [.long x] w (some (x, w)) := by
  intro r w' hF kc ks p e s m args below meth c H locs ls C hrt hk hE hP hD hS hl
  cases hF
  exact W.lret C.1 C.2.1 (hrt.1.trans hr) (fun t ht hW => ⟨rfl, by rw [ht]; exact hP, hD, hS.F ht⟩) hS.2.2 hd hk
theorem sim_vret (hr : M.2.2.2.1 = none) (hd : decode M.2.1 pc = .ok (.return_, 1)) : Sim E M rV pc lv [] w (some ((), w)) := by
  intro r w' hF kc ks p e s m args below meth c H locs ls C hrt hk hE hP hD hS hl
  cases hF
  exact W.vret C.1 C.2.1 (hrt.1.trans hr) (fun t ht hW => ⟨rfl, by rw [ht]; exact hP, hD, hS.F ht⟩) hS.2.2 hd hk
def FL (own : String) (idx ci j : Nat) : Prop := ∃ (C : String) (T : u_T) (n : Nat), vwCl[ci]? = some (C, T, n) ∧ j < n ∧ (∀ w ∈ u_ws C T n, w ∈ TB) ∧ Cond.fieldLink own idx (T j).1 (T j).2.1 (T j).2.2.1 ∈ TB
theorem ce_obj {k ci : Nat} (hk : kd k = ci) (hc : ci < 9) : ce E w k = .inr (ci, fvs (Ea E) w k) := by
  unfold ce
  rw [hk, if_pos hc]
theorem sim_get {k ci j idx : Nat} {v : Value} (hL : k ∈ El E) (hk : kd k = ci) (hc : ci < 9) (hf : FL M.1 idx ci j) (hv : (fvs (Ea E) w k)[j]? = some v) (hd : decode M.2.1 pc = .ok (.getfield idx, 3)) (hp : pc + 3 = q) (h : Sim E M rt q lv (v :: st) w F) : Sim E M rt pc lv (.ref (Ea E k) :: st) w F := by
  subst hp
  intro r w' hF kc ks p e s m args below meth c H locs ls C hr hk2 hE hP hD hS hl
  obtain ⟨C1, T, n, f1, f2, f3, f4⟩ := hf
  obtain ⟨p0, -, h0⟩ := wv_at w hL
  rw [ce_obj hk hc] at h0
  exact va_get (D := Ed E) (ci := ci) (v := v) (C := C1) (T := T) (N := n) C.1 C.2.1 C.2.2.2.2 f3 C.2.2.2.1 hE.1 hP p0 h0 f1 j f2 (C.2.2.2.2 _ f4) (fun _ z => z) hv hd (h r w' hF kc ks p e s m args below meth c H locs ls C hr hk2 hE hP hD hS hl)
def FP (own : String) (idx ci j : Nat) (ty : FieldType) : Prop := ∃ (C : String) (T : u_T) (n : Nat) (ty0 : Nat → FieldType), vwCl[ci]? = some (C, T, n) ∧ j < n ∧ (∀ w ∈ u_ws C T n, w ∈ TB) ∧ Cond.fieldLink own idx (T j).1 (T j).2.1 (T j).2.2.1 ∈ TB ∧ (∀ k, k < n → parseFieldDescriptor (T k).2.2.1 = some (ty0 k)) ∧ (∀ a, a < n → ∀ b, b < n → a ≠ b → (T a).2.1 ≠ (T b).2.1) ∧ (T j).2.2.2 = false ∧ parseFieldDescriptor (T j).2.2.1 = some ty
theorem sim_putx {k ci j idx : Nat} {v : Value} {ty : FieldType} {w2 : Wd} (hL : k ∈ El E) (hk : kd k = ci) (hc : ci < 9) (hf : FP M.1 idx ci j ty) (hn : narrow ty v = v) (hfit : fits ty v = true) (hset : (fvs (Ea E) w k).set j v = fvs (Ea E) w2 k) (hj : j < (fvs (Ea E) w k).length) (ho : ∀ i, i ≠ k → ce E w2 i = ce E w i) (hd : decode M.2.1 pc = .ok (.putfield idx, 3)) (hp : pc + 3 = q) (h : Sim E M rt q lv st w2 F) : Sim E M rt pc lv (v :: .ref (Ea E k) :: st) w F := by
  subst hp
  intro r w' hF kc ks p e s m args below meth c H locs ls C hr hk2 hE hP hD hS hl
  obtain ⟨C1, T, n, ty0, f1, f2, f3, f4, f5, f6, f7, f8⟩ := hf
  obtain ⟨p0, hp0, h0⟩ := wv_at w hL
  rw [ce_obj hk hc] at h0
  refine va_put (D := Ed E) (ci := ci) (v := v) (ty := ty) (C := C1) (T := T) (N := n) C.1 C.2.1 C.2.2.2.2 f3 ty0 f5 f6 C.2.2.2.1 hE.1 hP hD hS p0 h0 f1 j f2 (C.2.2.2.2 _ f4) (fun _ z => z) f7 f8 hn hfit hj hd (fun H1 locs1 hP1 hD1 hS1 => ?_)
  rw [hset, wv_set (w2 := w2) hD hp0 (ce_obj hk hc) ho] at hP1 hD1
  exact h r w' hF kc ks p e s m args below meth c H1 locs1 ls C hr hk2 hE hP1 hD1 hS1 hl
theorem sim_put {k ci j idx : Nat} {v : Int32} {ty : FieldType} (hL : k ∈ El E) (hk : kd k = ci) (hc : ci < 9) (hf : FP M.1 idx ci j ty) (hn : narrow ty (.int v) = .int v) (hfit : fits ty (.int v) = true) (hset : (fvs (Ea E) w k).set j (.int v) = fvs (Ea E) (wdI w k j v) k) (hj : j < (fvs (Ea E) w k).length) (hd : decode M.2.1 pc = .ok (.putfield idx, 3)) (hp : pc + 3 = q) (h : Sim E M rt q lv st (wdI w k j v) F) : Sim E M rt pc lv (.int v :: .ref (Ea E k) :: st) w F :=
  sim_putx hL hk hc hf hn hfit hset hj (fun i hi => ce_A hi) hd hp h
def FPF (own : String) (idx ci j : Nat) (ty : FieldType) : Prop := ∃ (C : String) (T : u_T) (n : Nat) (ty0 : Nat → FieldType), vwCl[ci]? = some (C, T, n) ∧ j < n ∧ (∀ w ∈ u_ws C T n, w ∈ TB) ∧ Cond.fieldLink own idx (T j).1 (T j).2.1 (T j).2.2.1 ∈ TB ∧ (∀ k, k < n → parseFieldDescriptor (T k).2.2.1 = some (ty0 k)) ∧ (∀ a, a < n → ∀ b, b < n → a ≠ b → (T a).2.1 ≠ (T b).2.1) ∧ (T j).2.2.2 = true ∧ (T j).1 = own ∧ parseFieldDescriptor (T j).2.2.1 = some ty
theorem sim_putF {k ci j idx : Nat} {v : Int32} {ty : FieldType} (hL : k ∈ El E) (hk : kd k = ci) (hc : ci < 9) (hf : FPF M.1 idx ci j ty) (hi : M.2.2.2.2.2 = "<init>") (hn : narrow ty (.int v) = .int v) (hfit : fits ty (.int v) = true) (hset : (fvs (Ea E) w k).set j (.int v) = fvs (Ea E) (wdI w k j v) k) (hj : j < (fvs (Ea E) w k).length) (hd : decode M.2.1 pc = .ok (.putfield idx, 3)) (hp : pc + 3 = q) (h : Sim E M rt q lv st (wdI w k j v) F) : Sim E M rt pc lv (.int v :: .ref (Ea E k) :: st) w F := by
  subst hp
  intro r w' hF kc ks p e s m args below meth c H locs ls C hr hk2 hE hP hD hS hl
  obtain ⟨C1, T, n, ty0, f1, f2, f3, f4, f5, f6, f7, f9, f8⟩ := hf
  obtain ⟨p0, hp0, h0⟩ := wv_at w hL
  rw [ce_obj hk hc] at h0
  refine va_putF (D := Ed E) (ci := ci) (v := .int v) (ty := ty) (C := C1) (T := T) (N := n) C.1 C.2.1 C.2.2.2.2 f3 ty0 f5 f6 C.2.2.2.1 hE.1 hP hD hS p0 h0 f1 j f2 (C.2.2.2.2 _ f4) (fun _ z => z) f7 (hr.2.trans hi) f9 f8 hn hfit hj hd (fun H1 locs1 hP1 hD1 hS1 => ?_)
  rw [hset, wv_set (w2 := wdI w k j v) hD hp0 (ce_obj hk hc) (fun i hi => ce_A hi)] at hP1 hD1
  exact h r w' hF kc ks p e s m args below meth c H1 locs1 ls C hr hk2 hE hP1 hD1 hS1 hl
/-! arrays -/
theorem ce_int {k : Nat} (hk : kd k = 9) : ce E w k = .inl (Ey E 0, ln (En E) k, .inl (w.1 k)) := by
  unfold ce
  rw [hk]
  rfl
theorem ce_bool {k : Nat} (hk : kd k = 11) : ce E w k = .inl (Ey E 2, ln (En E) k, .inl (w.1 k)) := by
  unfold ce
  rw [hk]
  rfl
theorem ce_long {k : Nat} (hk : kd k = 10) : ce E w k = .inl (Ey E 1, ln (En E) k, .inr (.inl (w.2.1 k))) := by
  unfold ce
  rw [hk]
  rfl
theorem ce_row {k : Nat} (hk : kd k = 12) : ce E w k = .inl (Ey E 3, ln (En E) k, .inr (.inr (.inr (.inr (fun i => if i < En E then some (Ea E (k + 1 + i)) else none))))) := by
  unfold ce
  rw [hk]
  rfl
theorem sim_iaload {k n : Nat} {i : Int32} (hL : k ∈ El E) (hk : kd k = 9) (hn : ln (En E) k = n) (hd : decode M.2.1 pc = .ok (.iaload, 1)) (hp : pc + 1 = q) (h : Sim E M rt q lv (.int (w.1 k i.toNatClampNeg) :: st) w F) : Sim E M rt pc lv (.int i :: .ref (Ea E k) :: st) w (if inb i n = true then F else none) := by
  subst hp hn
  refine sim_guard (fun hi => ?_)
  intro r w' hF kc ks p e s m args below meth c H locs ls C hr hk2 hE hP hD hS hl
  obtain ⟨p0, -, h0⟩ := wv_at w hL
  rw [ce_int hk] at h0
  exact va_iald C.1 C.2.1 hE.1 hP p0 0 h0 rfl (inb_in hi) hd (h r w' hF kc ks p e s m args below meth c H locs ls C hr hk2 hE hP hD hS hl)
theorem sim_baload {k n : Nat} {i : Int32} (hL : k ∈ El E) (hk : kd k = 11) (hn : ln (En E) k = n) (hd : decode M.2.1 pc = .ok (.baload, 1)) (hp : pc + 1 = q) (h : Sim E M rt q lv (.int (w.1 k i.toNatClampNeg) :: st) w F) : Sim E M rt pc lv (.int i :: .ref (Ea E k) :: st) w (if inb i n = true then F else none) := by
  subst hp hn
  refine sim_guard (fun hi => ?_)
  intro r w' hF kc ks p e s m args below meth c H locs ls C hr hk2 hE hP hD hS hl
  obtain ⟨p0, -, h0⟩ := wv_at w hL
  rw [ce_bool hk] at h0
  exact va_zald C.1 C.2.1 hE.1 hP p0 2 h0 rfl (inb_in hi) hd (h r w' hF kc ks p e s m args below meth c H locs ls C hr hk2 hE hP hD hS hl)
theorem sim_laload {k n : Nat} {i : Int32} (hL : k ∈ El E) (hk : kd k = 10) (hn : ln (En E) k = n) (hd : decode M.2.1 pc = .ok (.laload, 1)) (hp : pc + 1 = q) (h : Sim E M rt q lv (.long (w.2.1 k i.toNatClampNeg) :: st) w F) : Sim E M rt pc lv (.int i :: .ref (Ea E k) :: st) w (if inb i n = true then F else none) := by
  subst hp hn
  refine sim_guard (fun hi => ?_)
  intro r w' hF kc ks p e s m args below meth c H locs ls C hr hk2 hE hP hD hS hl
  obtain ⟨p0, -, h0⟩ := wv_at w hL
  rw [ce_long hk] at h0
  exact va_lald C.1 C.2.1 hE.1 hP p0 1 h0 rfl (inb_in hi) hd (h r w' hF kc ks p e s m args below meth c H locs ls C hr hk2 hE hP hD hS hl)
theorem sim_aaload {k n : Nat} {i : Int32} (hL : k ∈ El E) (hk : kd k = 12) (hn : ln (En E) k = n) (hnN : n = En E) (hd : decode M.2.1 pc = .ok (.aaload, 1)) (hp : pc + 1 = q) (h : inb i n = true → Sim E M rt q lv (.ref (Ea E (k + 1 + i.toNatClampNeg)) :: st) w F) : Sim E M rt pc lv (.int i :: .ref (Ea E k) :: st) w (if inb i n = true then F else none) := by
  subst hp
  refine sim_guard (fun hi => ?_)
  replace h := h hi
  intro r w' hF kc ks p e s m args below meth c H locs ls C hr hk2 hE hP hD hS hl
  obtain ⟨p0, -, h0⟩ := wv_at w hL
  rw [ce_row hk, hn] at h0
  have hlt : i.toNatClampNeg < n := Nat.not_le.mp fun z => (inb_in hi) (Or.inr z)
  refine W.aald (v := va_rf ((fun i => if i < En E then some (Ea E (k + 1 + i)) else none) i.toNatClampNeg)) (ty := .array .int) C.1 C.2.1 (hP p0 _ h0) ((hE.1.2 3 (Ey E 3, .array .int) rfl).1 n (fun j => va_rf ((fun i => if i < En E then some (Ea E (k + 1 + i)) else none) j))) rfl (fun q => by cases q) (by show ¬ (i < 0 ∨ (arrV _ _ _).slots.size ≤ _); rw [arrV_size]; exact inb_in hi) (by show (arrV _ _ _).slots[_]? = _; rw [arrV_read _ _ hlt]) rfl rfl hd ?_
  rw [show ((fun i => if i < En E then some (Ea E (k + 1 + i)) else none) i.toNatClampNeg : Option Nat) = some (Ea E (k + 1 + i.toNatClampNeg)) from if_pos (hnN ▸ hlt)]
  exact h r w' hF kc ks p e s m args below meth c H locs ls C hr hk2 hE hP hD hS hl
theorem sim_iastore {k n : Nat} {i x : Int32} (hL : k ∈ El E) (hk : kd k = 9) (hn : ln (En E) k = n) (hd : decode M.2.1 pc = .ok (.iastore, 1)) (hp : pc + 1 = q) (h : Sim E M rt q lv st (wdI w k i.toNatClampNeg x) F) : Sim E M rt pc lv (.int x :: .int i :: .ref (Ea E k) :: st) w (if inb i n = true then F else none) := by
  subst hp hn
  refine sim_guard (fun hi => ?_)
  intro r w' hF kc ks p e s m args below meth c H locs ls C hr hk2 hE hP hD hS hl
  obtain ⟨p0, hp0, h0⟩ := wv_at w hL
  rw [ce_int hk] at h0
  refine va_iast C.1 C.2.1 hE.1 hP hD hS p0 0 h0 rfl (inb_in hi) hd (fun H1 locs1 hP1 hD1 hS1 => ?_)
  rw [wv_set (w2 := wdI w k i.toNatClampNeg x) hD hp0 (by rw [ce_int hk]; unfold wdI; rw [wdA_at]) (fun j hj => ce_A hj)] at hP1 hD1
  exact h r w' hF kc ks p e s m args below meth c H1 locs1 ls C hr hk2 hE hP1 hD1 hS1 hl
theorem sim_bastore {k n : Nat} {i x : Int32} (hL : k ∈ El E) (hk : kd k = 11) (hn : ln (En E) k = n) (hd : decode M.2.1 pc = .ok (.bastore, 1)) (hp : pc + 1 = q) (h : Sim E M rt q lv st (wdI w k i.toNatClampNeg (vp_nar .boolean x)) F) : Sim E M rt pc lv (.int x :: .int i :: .ref (Ea E k) :: st) w (if inb i n = true then F else none) := by
  subst hp hn
  refine sim_guard (fun hi => ?_)
  intro r w' hF kc ks p e s m args below meth c H locs ls C hr hk2 hE hP hD hS hl
  obtain ⟨p0, hp0, h0⟩ := wv_at w hL
  rw [ce_bool hk] at h0
  refine va_zast C.1 C.2.1 hE.1 hP hD hS p0 2 h0 rfl (inb_in hi) hd (fun H1 locs1 hP1 hD1 hS1 => ?_)
  rw [wv_set (w2 := wdI w k i.toNatClampNeg (vp_nar .boolean x)) hD hp0 (by rw [ce_bool hk]; unfold wdI; rw [wdA_at]) (fun j hj => ce_A hj)] at hP1 hD1
  exact h r w' hF kc ks p e s m args below meth c H1 locs1 ls C hr hk2 hE hP1 hD1 hS1 hl
theorem sim_lastore {k n : Nat} {i : Int32} {x : Int64} (hL : k ∈ El E) (hk : kd k = 10) (hn : ln (En E) k = n) (hd : decode M.2.1 pc = .ok (.lastore, 1)) (hp : pc + 1 = q) (h : Sim E M rt q lv st (wdL w k i.toNatClampNeg x) F) : Sim E M rt pc lv (.long x :: .int i :: .ref (Ea E k) :: st) w (if inb i n = true then F else none) := by
  subst hp hn
  refine sim_guard (fun hi => ?_)
  intro r w' hF kc ks p e s m args below meth c H locs ls C hr hk2 hE hP hD hS hl
  obtain ⟨p0, hp0, h0⟩ := wv_at w hL
  rw [ce_long hk] at h0
  refine va_last C.1 C.2.1 hE.1 hP hD hS p0 1 h0 rfl (inb_in hi) hd (fun H1 locs1 hP1 hD1 hS1 => ?_)
  rw [wv_set (w2 := wdL w k i.toNatClampNeg x) hD hp0 (by rw [ce_long hk]; show Sum.inl (_, _, _) = _; rw [show (wdL w k i.toNatClampNeg x).2.1 k = vp_updL (w.2.1 k) i.toNatClampNeg x from if_pos rfl]) (fun j hj => ce_L hj)] at hP1 hD1
  exact h r w' hF kc ks p e s m args below meth c H1 locs1 ls C hr hk2 hE hP1 hD1 hS1 hl
theorem sim_alen {k n : Nat} {v : Int32} (hL : k ∈ El E) (hk : kd k = 9) (hn : ln (En E) k = n) (hv : Int32.ofNat n = v) (hd : decode M.2.1 pc = .ok (.arraylength, 1)) (hp : pc + 1 = q) (h : Sim E M rt q lv (.int v :: st) w F) : Sim E M rt pc lv (.ref (Ea E k) :: st) w F := by
  subst hp hn
  intro r w' hF kc ks p e s m args below meth c H locs ls C hr hk2 hE hP hD hS hl
  obtain ⟨p0, -, h0⟩ := wv_at w hL
  rw [ce_int hk] at h0
  exact va_alen C.1 C.2.1 hE.1 hP p0 0 h0 rfl hv hd (h r w' hF kc ks p e s m args below meth c H locs ls C hr hk2 hE hP hD hS hl)
/-! static arrays -/
theorem sim_gets {j idx : Nat} {nm : String} (hj : j < 5) (hnm : stN j = nm) (hlk : Cond.fieldLink M.1 idx RX8 nm "[I" ∈ TB) (hd : decode M.2.1 pc = .ok (.getstatic idx, 3)) (hp : pc + 3 = q) (h : Sim E M rt q lv (.ref (Es E j) :: st) w F) : Sim E M rt pc lv st w F := by
  subst hp hnm
  intro r w' hF kc ks p e s m args below meth c H locs ls C hr hk2 hE hP hD hS hl
  exact va_gets C.1 C.2.1 (hE.2.1 j hj).1 hS C.2.2.2.1 (C.2.2.2.2 _ hlk) (fun _ z => z) hd (h r w' hF kc ks p e s m args below meth c H locs ls C hr hk2 hE hP hD hS hl)
theorem sim_tload {j n : Nat} {i : Int32} (hj : j < 5) (hn : (stV j).length = n) (hd : decode M.2.1 pc = .ok (.iaload, 1)) (hp : pc + 1 = q) (h : Sim E M rt q lv (.int ((stV j).getD i.toNatClampNeg 0) :: st) w F) : Sim E M rt pc lv (.int i :: .ref (Es E j) :: st) w (if inb i n = true then F else none) := by
  subst hp hn
  refine sim_guard (fun hi => ?_)
  intro r w' hF kc ks p e s m args below meth c H locs ls C hr hk2 hE hP hD hS hl
  exact va_ti C.1 C.2.1 (hE.2.1 j hj).2 hS (inb_in hi) rfl hd (h r w' hF kc ks p e s m args below meth c H locs ls C hr hk2 hE hP hD hS hl)
/-! calls -/
def CB (own : String) (idx : Nat) (y : MethodName) (Mc : Mt) (n : Nat) : Prop := Cond.code y Mc.2.1 Mc.2.2.1 Mc.2.2.2.1 ∈ TB ∧ Cond.methodLink own idx y ∈ TB ∧ Cond.initialized y.cls ∈ TB ∧ (y.cls ≠ "java/lang/invoke/MethodHandle" ∧ y.cls ≠ "java/lang/invoke/VarHandle" ∧ (parseMethodDescriptor y.desc).map (fun d => d.parameters.length) = some n)
theorem ww_call {p : Program} {e : Env} {R : Room} {s : State} {m : MethodId} {args aa : Array Value} {below : List Frame} {meth : Method} {c : Code} {H : Heap} {locs : List Loc} {Q : State → Prop} {ls : Array Slot} {st0 rest : List Value} {r : Option Value} {w1 : Wd} {kc ks : Nat}
    (hr : va_Run p E.1 e R s m args below meth c H locs kc ks 0 0 (F0 m pc ls st0) rest (QR E r w1 aa) (AA E H.size)) (hS : va_S (AA E s.heap.size) s.heap H locs)
    (kk : ∀ (H1 : Heap) (locs1 : List Loc), va_P (Ed E) vwCl (wv E w1) H1 → va_D (AA E s.heap.size) (wv E w1) → va_S (AA E s.heap.size) s.heap H1 locs1 → W p E.1 e R s m args below meth c H1 locs1 kc ks Q (F0 m (pc + 3) ls (r.toList ++ rest))) : W p E.1 e R s m args below meth c H locs kc ks Q (F0 m pc ls st0) := by
  intro T hT X
  obtain ⟨v, st₀, t, T', L', h0, X', hL, e1, e2, ⟨hv, hP1, hD1, hz, hk⟩, stp⟩ := hr T hT X
  cases hv
  rw [h0] at hz hk hD1
  have hA : ∀ z, AA E H.size z → AA E s.heap.size z := fun z hz => AA_mono hS.1 hz
  obtain ⟨t2, a1, b1⟩ := kk T'.heap (locs ++ L') (by rw [e1]; exact hP1) (wv_D _ hD1)
    ⟨Nat.le_trans hS.1 (by rw [e1]; exact hz), fun z h1 h2 => by rw [e1, hk z (Nat.lt_of_lt_of_le h1 hS.1) (fun y => h2 (hA z y))]; exact hS.2.1 z h1 h2, fun z hz => by
      rcases List.mem_append.mp hz with h | h
      · exact hS.2.2 z h
      · exact hA _ (hL z h)⟩ T' rfl X'
  exact ⟨t2, stp t2 a1, b1⟩
theorem pre_ok {p0 : Wd} {s : State} {H : Heap} {locs : List Loc} {A : Nat → Prop} {As : List Value} (hE : Evn E (AA E s.heap.size) s s.heap) (hP : va_P (Ed E) vwCl (wv E p0) H) (hD : va_D A (wv E p0)) (hS : va_S (AA E s.heap.size) s.heap H locs) :
    PreS s H (va_Pc As (fun U => U.heap.size = H.size ∧ va_P (Ed E) vwCl (wv E p0) U.heap ∧ va_D (fun _ => True) (wv E p0) ∧ Evn E (AA E H.size) U U.heap)) As :=
  ⟨fun a U g mk z => ⟨z.1, z.2.1, z.2.2.1, z.2.2.2.1, Evn_blind g mk a z.2.2.2.2⟩, fun U hU hW => ⟨rfl, by rw [hU], by rw [hU]; exact hP, hD.weaken (fun _ _ _ _ => trivial), by rw [hU]; exact Evn_go hS hW hE⟩⟩
theorem CB.callB {Mc : Mt} {y : MethodName} {own : String} {idx n : Nat} {s : State} {args : Array Value} {R : Room} (hC : CB own idx y Mc n) (ht : ∀ w ∈ TB, w.before args s = true) (hd1 : Mc.2.2.2.2.1 + 1 ≤ R.frames) (hd2 : 8 + (Mc.2.2.1 + 11) + 64 * Mc.2.2.2.2.1 ≤ R.locals) :
    CallB R s args own idx y Mc.2.1 Mc.2.2.1 Mc.2.2.2.1 (.code y Mc.2.1 Mc.2.2.1 Mc.2.2.2.1 :: TB) (rmd Mc.2.2.2.2.1) 0 0 n :=
  callB_of n ht (TB_goodIn hC.1) rfl rfl rfl (ht _ hC.2.2.1) (ht _ hC.2.1) hC.2.2.2 ⟨hd1, hd2⟩
variable {β : Type} {rt' : β → Option Value} {G : Option (β × Wd)} {K : β → Wd → Option (α × Wd)} {Mc : Mt} {y : MethodName} {idx n : Nat}
def DD (M Mc : Mt) : Bool := decide (Mc.2.2.2.2.1 + 1 ≤ M.2.2.2.2.1) && decide (Mc.2.2.1 ≤ 45)
theorem DD_use {M Mc : Mt} {kc ks : Nat} (h : DD M Mc = true) : Mc.2.2.2.2.1 + 1 ≤ (rmk kc ks M.2.2.2.2.1).frames ∧ 8 + (Mc.2.2.1 + 11) + 64 * Mc.2.2.2.2.1 ≤ (rmk kc ks M.2.2.2.2.1).locals := by
  simp only [DD, Bool.and_eq_true, decide_eq_true_eq] at h
  refine ⟨h.1, ?_⟩
  show _ ≤ 64 * M.2.2.2.2.1
  omega
theorem sim_callS (As rest : List Value) (hC : Ct E Mc y rt' As w G) (hcb : CB M.1 idx y Mc n) (hst : Cond.static y ∈ TB) (hn : As.length = n) (hD : DD M Mc = true) (hstk : st = As.reverse ++ rest) (hrest : (rest.map fun v => v.category).sum ≤ 8) (hd : decode M.2.1 pc = .ok (.invokestatic idx, 3)) (hp : pc + 3 = q) (h : ∀ x w1, Sim E M rt q lv ((rt' x).toList ++ rest) w1 (K x w1)) : Sim E M rt pc lv st w (bd G K) := by
  subst hp hstk
  intro r w' hF kc ks p e s m args below meth c H locs ls C hr hk hE hP hDD hS hl
  cases hG : G with
  | none => rw [hG] at hF; cases hF
  | some z =>
    obtain ⟨x, w1⟩ := z
    rw [hG] at hF
    exact ww_call (va_runS (As := As) (rest := rest) ⟨C.1, C.2.1, C.2.2.1, C.2.2.2.1, C.2.2.2.2⟩ (hC x w1 hG H.size) ⟨hcb.callB C.2.2.2.2 (DD_use hD).1 (DD_use hD).2, C.2.2.2.2 _ hst⟩ (pre_ok hE hP hDD hS) rfl hn hl.1 rfl (lv_room hrest) hd ⟨Nat.le_refl _, Nat.le_refl _⟩) hS
      (fun H1 locs1 hP1 hD1 hS1 => h x w1 r w' hF kc ks p e s m args below meth c H1 locs1 ls C hr hk hE hP1 hD1 hS1 hl)
theorem recv_ok {k ci : Nat} {C1 : String} {T : u_T} {nf : Nat} {s : State} {H : Heap} (hL : k ∈ El E) (hk : kd k = ci) (hc : ci < 9) (hcl : vwCl[ci]? = some (C1, T, nf)) (hK : va_K (Ed E) vwCl (tyl E) s) (hP : va_P (Ed E) vwCl (wv E w) H) : ∃ cell : Cell, H[Ea E k]? = some cell ∧ cell.vm.isStatics = false ∧ s.vm.findClass C1 = some cell.cls := by
  obtain ⟨p0, -, h0⟩ := wv_at w hL
  rw [ce_obj hk hc] at h0
  exact va_recv (q := (C1, T, nf)) hK hP hcl h0
theorem sim_callV {k ci : Nat} {T : u_T} {nf : Nat} (As rest : List Value) (hC : Ct E Mc y rt' (.ref (Ea E k) :: As) w G) (hL : k ∈ El E) (hk : kd k = ci) (hc : ci < 9) (hcl : vwCl[ci]? = some (y.cls, T, nf)) (hcb : CB M.1 idx y Mc n) (hin : Cond.instanceMethod y ∈ TB) (hse : Cond.selects y.cls y y ∈ TB) (hn : As.length = n) (hD : DD M Mc = true) (hstk : st = As.reverse ++ .ref (Ea E k) :: rest) (hrest : (rest.map fun v => v.category).sum ≤ 8) (hd : decode M.2.1 pc = .ok (.invokevirtual idx, 3)) (hp : pc + 3 = q) (h : ∀ x w1, Sim E M rt q lv ((rt' x).toList ++ rest) w1 (K x w1)) : Sim E M rt pc lv st w (bd G K) := by
  subst hp hstk
  intro r w' hF kc ks p e s m args below meth c H locs ls C hr hk2 hE hP hDD hS hl
  cases hG : G with
  | none => rw [hG] at hF; cases hF
  | some z =>
    obtain ⟨x, w1⟩ := z
    rw [hG] at hF
    exact ww_call (va_runV (C := y.cls) (As := As) (rest := rest) ⟨C.1, C.2.1, C.2.2.1, C.2.2.2.1, C.2.2.2.2⟩ (hC x w1 hG H.size) ⟨hcb.callB C.2.2.2.2 (DD_use hD).1 (DD_use hD).2, C.2.2.2.2 _ hin, C.2.2.2.2 _ hse⟩ ⟨(pre_ok hE hP hDD hS).1, recv_ok hL hk hc hcl hE.1 hP, (pre_ok hE hP hDD hS).2⟩ rfl hn hl.1 rfl (lv_room hrest) hd ⟨Nat.le_refl _, Nat.le_refl _⟩) hS
      (fun H1 locs1 hP1 hD1 hS1 => h x w1 r w' hF kc ks p e s m args below meth c H1 locs1 ls C hr hk2 hE hP1 hD1 hS1 hl)
def CN (own : String) (idx : Nat) (y : MethodName) (Mc : Mt) (n : Nat) : Prop := Cond.code y Mc.2.1 Mc.2.2.1 Mc.2.2.2.1 ∈ TB ∧ Cond.methodLinkNest own idx y "DropChase" ∈ nwl ∧ Cond.initialized y.cls ∈ TB ∧ (y.cls ≠ "java/lang/invoke/MethodHandle" ∧ y.cls ≠ "java/lang/invoke/VarHandle" ∧ (parseMethodDescriptor y.desc).map (fun d => d.parameters.length) = some n)
theorem sim_callVN {k ci : Nat} {T : u_T} {nf : Nat} (As rest : List Value) (hC : Ct E Mc y rt' (.ref (Ea E k) :: As) w G) (hL : k ∈ El E) (hk : kd k = ci) (hc : ci < 9) (hcl : vwCl[ci]? = some (y.cls, T, nf)) (hcb : CN M.1 idx y Mc n) (hin : Cond.instanceMethod y ∈ TB) (hse : Cond.selects y.cls y y ∈ TB) (hn : As.length = n) (hD : DD M Mc = true) (hstk : st = As.reverse ++ .ref (Ea E k) :: rest) (hrest : (rest.map fun v => v.category).sum ≤ 8) (hd : decode M.2.1 pc = .ok (.invokevirtual idx, 3)) (hp : pc + 3 = q) (h : ∀ x w1, Sim E M rt q lv ((rt' x).toList ++ rest) w1 (K x w1)) : Sim E M rt pc lv st w (bd G K) := by
  subst hp hstk
  intro r w' hF kc ks p e s m args below meth c H locs ls C hr hk2 hE hP hDD hS hl
  cases hG : G with
  | none => rw [hG] at hF; cases hF
  | some z =>
    obtain ⟨x, w1⟩ := z
    rw [hG] at hF
    exact ww_call (va_runVN (C := y.cls) (As := As) (rest := rest) ⟨C.1, C.2.1, C.2.2.1, C.2.2.2.1, C.2.2.2.2⟩ (hC x w1 hG H.size) ⟨va_cnB n C.2.2.2.2 (TB_goodIn hcb.1) rfl rfl rfl (hE.2.2 _ hcb.2.1) (C.2.2.2.2 _ hcb.2.2.1) hcb.2.2.2 (DD_use hD), C.2.2.2.2 _ hin, C.2.2.2.2 _ hse⟩ ⟨(pre_ok hE hP hDD hS).1, recv_ok hL hk hc hcl hE.1 hP, (pre_ok hE hP hDD hS).2⟩ rfl hn hl.1 rfl (lv_room hrest) hd ⟨Nat.le_refl _, Nat.le_refl _⟩) hS
      (fun H1 locs1 hP1 hD1 hS1 => h x w1 r w' hF kc ks p e s m args below meth c H1 locs1 ls C hr hk2 hE hP1 hD1 hS1 hl)
theorem sim_callSN (As rest : List Value) (hC : Ct E Mc y rt' As w G) (hcb : CN M.1 idx y Mc n) (hst : Cond.static y ∈ TB) (hn : As.length = n) (hD : DD M Mc = true) (hstk : st = As.reverse ++ rest) (hrest : (rest.map fun v => v.category).sum ≤ 8) (hd : decode M.2.1 pc = .ok (.invokestatic idx, 3)) (hp : pc + 3 = q) (h : ∀ x w1, Sim E M rt q lv ((rt' x).toList ++ rest) w1 (K x w1)) : Sim E M rt pc lv st w (bd G K) := by
  subst hp hstk
  intro r w' hF kc ks p e s m args below meth c H locs ls C hr hk hE hP hDD hS hl
  cases hG : G with
  | none => rw [hG] at hF; cases hF
  | some z =>
    obtain ⟨x, w1⟩ := z
    rw [hG] at hF
    exact ww_call (va_runSN (As := As) (rest := rest) ⟨C.1, C.2.1, C.2.2.1, C.2.2.2.1, C.2.2.2.2⟩ (hC x w1 hG H.size) ⟨va_cnB n C.2.2.2.2 (TB_goodIn hcb.1) rfl rfl rfl (hE.2.2 _ hcb.2.1) (C.2.2.2.2 _ hcb.2.2.1) hcb.2.2.2 (DD_use hD), C.2.2.2.2 _ hst, trivial⟩ (pre_ok hE hP hDD hS) rfl hn hl.1 rfl (lv_room hrest) hd ⟨Nat.le_refl _, Nat.le_refl _⟩) hS
      (fun H1 locs1 hP1 hD1 hS1 => h x w1 r w' hF kc ks p e s m args below meth c H1 locs1 ls C hr hk hE hP1 hD1 hS1 hl)
theorem sim_lt {v : Int32} {K : Int32 → Option (α × Wd)} (h : ∀ u : Int32, Sim E M rt pc lv (.int u :: st) w (K u)) : Sim E M rt pc lv (.int v :: st) w (lt v K) := h v
theorem sim_lj {v : Int64} {K : Int64 → Option (α × Wd)} (h : ∀ u : Int64, Sim E M rt pc lv (.long u :: st) w (K u)) : Sim E M rt pc lv (.long v :: st) w (lj v K) := h v
theorem sim_lw {K : Wd → Option (α × Wd)} (h : ∀ u : Wd, Sim E M rt pc lv st u (K u)) : Sim E M rt pc lv st w (lw w K) := h w
theorem sim_tabIn {x : Int32} {dflt hi off : Int} {offs : Array Int} {len i t : Nat} (hd : decode M.2.1 pc = .ok (.tableswitch dflt 0 hi offs, len)) (hx : x.toInt = (i : Int)) (hi2 : ¬ hi < (i : Int)) (ho : offs[i]? = some off) (ht : (pc : Int) + off = (t : Int)) (h : Sim E M rt t lv st w F) : Sim E M rt pc lv (.int x :: st) w F :=
  h.go (fun hx1 hb ho1 ht2 hl kk => lv_tableIn hx1 hb hd (by rw [hx]; omega) (by rw [hx]; exact hi2) (by rw [hx, Int.sub_zero, Int.toNat_natCast]; exact ho) ht kk)
theorem sim_tabOut {x : Int32} {dflt hi : Int} {offs : Array Int} {len t : Nat} (hd : decode M.2.1 pc = .ok (.tableswitch dflt 0 hi offs, len)) (hx : x.toInt < 0 ∨ hi < x.toInt) (ht : (pc : Int) + dflt = (t : Int)) (h : Sim E M rt t lv st w F) : Sim E M rt pc lv (.int x :: st) w F :=
  h.go (fun hx1 hb ho1 ht2 hl kk => lv_tableOut hx1 hb hd hx ht kk)
theorem sim_tab5 {x : Int32} {dflt o0 o1 o2 o3 o4 : Int} {len : Nat} (t0 t1 t2 t3 t4 td : Nat) {F_0 F_1 F_2 F_3 F_4 Fd : Option (α × Wd)} (hd : decode M.2.1 pc = .ok (.tableswitch dflt 0 4 #[o0, o1, o2, o3, o4], len)) (e0 : (pc : Int) + o0 = (t0 : Int)) (e1 : (pc : Int) + o1 = (t1 : Int)) (e2 : (pc : Int) + o2 = (t2 : Int)) (e3 : (pc : Int) + o3 = (t3 : Int)) (e4 : (pc : Int) + o4 = (t4 : Int)) (ed : (pc : Int) + dflt = (td : Int)) (h0 : Sim E M rt t0 lv st w F_0) (h1 : Sim E M rt t1 lv st w F_1) (h2 : Sim E M rt t2 lv st w F_2) (h3 : Sim E M rt t3 lv st w F_3) (h4 : Sim E M rt t4 lv st w F_4) (hdf : Sim E M rt td lv st w Fd) : Sim E M rt pc lv (.int x :: st) w (if x = 0 then F_0 else if x = 1 then F_1 else if x = 2 then F_2 else if x = 3 then F_3 else if x = 4 then F_4 else Fd) := by
  by_cases c0 : x = 0
  · rw [if_pos c0]
    exact sim_tabIn (i := 0) hd (by rw [c0]; rfl) (by decide) rfl e0 h0
  rw [if_neg c0]
  by_cases c1 : x = 1
  · rw [if_pos c1]
    exact sim_tabIn (i := 1) hd (by rw [c1]; rfl) (by decide) rfl e1 h1
  rw [if_neg c1]
  by_cases c2 : x = 2
  · rw [if_pos c2]
    exact sim_tabIn (i := 2) hd (by rw [c2]; rfl) (by decide) rfl e2 h2
  rw [if_neg c2]
  by_cases c3 : x = 3
  · rw [if_pos c3]
    exact sim_tabIn (i := 3) hd (by rw [c3]; rfl) (by decide) rfl e3 h3
  rw [if_neg c3]
  by_cases c4 : x = 4
  · rw [if_pos c4]
    exact sim_tabIn (i := 4) hd (by rw [c4]; rfl) (by decide) rfl e4 h4
  rw [if_neg c4]
  refine sim_tabOut hd ?_ ed hdf
  rcases Int.lt_or_le x.toInt 0 with z | z
  · exact Or.inl z
  rcases Int.lt_or_le 4 x.toInt with z2 | z2
  · exact Or.inr z2
  exfalso
  have hh : x.toInt = 0 ∨ x.toInt = 1 ∨ x.toInt = 2 ∨ x.toInt = 3 ∨ x.toInt = 4 := by omega
  rcases hh with z3 | z3 | z3 | z3 | z3
  · exact c0 (Int32.toInt_inj.mp (z3.trans (by rfl)))
  · exact c1 (Int32.toInt_inj.mp (z3.trans (by rfl)))
  · exact c2 (Int32.toInt_inj.mp (z3.trans (by rfl)))
  · exact c3 (Int32.toInt_inj.mp (z3.trans (by rfl)))
  · exact c4 (Int32.toInt_inj.mp (z3.trans (by rfl)))
theorem sim_tab6 {x : Int32} {dflt o0 o1 o2 o3 o4 o5 : Int} {len : Nat} (t0 t1 t2 t3 t4 t5 td : Nat) {F_0 F_1 F_2 F_3 F_4 F_5 Fd : Option (α × Wd)} (hd : decode M.2.1 pc = .ok (.tableswitch dflt 0 5 #[o0, o1, o2, o3, o4, o5], len)) (e0 : (pc : Int) + o0 = (t0 : Int)) (e1 : (pc : Int) + o1 = (t1 : Int)) (e2 : (pc : Int) + o2 = (t2 : Int)) (e3 : (pc : Int) + o3 = (t3 : Int)) (e4 : (pc : Int) + o4 = (t4 : Int)) (e5 : (pc : Int) + o5 = (t5 : Int)) (ed : (pc : Int) + dflt = (td : Int)) (h0 : Sim E M rt t0 lv st w F_0) (h1 : Sim E M rt t1 lv st w F_1) (h2 : Sim E M rt t2 lv st w F_2) (h3 : Sim E M rt t3 lv st w F_3) (h4 : Sim E M rt t4 lv st w F_4) (h5 : Sim E M rt t5 lv st w F_5) (hdf : Sim E M rt td lv st w Fd) : Sim E M rt pc lv (.int x :: st) w (if x = 0 then F_0 else if x = 1 then F_1 else if x = 2 then F_2 else if x = 3 then F_3 else if x = 4 then F_4 else if x = 5 then F_5 else Fd) := by
  by_cases c0 : x = 0
  · rw [if_pos c0]
    exact sim_tabIn (i := 0) hd (by rw [c0]; rfl) (by decide) rfl e0 h0
  rw [if_neg c0]
  by_cases c1 : x = 1
  · rw [if_pos c1]
    exact sim_tabIn (i := 1) hd (by rw [c1]; rfl) (by decide) rfl e1 h1
  rw [if_neg c1]
  by_cases c2 : x = 2
  · rw [if_pos c2]
    exact sim_tabIn (i := 2) hd (by rw [c2]; rfl) (by decide) rfl e2 h2
  rw [if_neg c2]
  by_cases c3 : x = 3
  · rw [if_pos c3]
    exact sim_tabIn (i := 3) hd (by rw [c3]; rfl) (by decide) rfl e3 h3
  rw [if_neg c3]
  by_cases c4 : x = 4
  · rw [if_pos c4]
    exact sim_tabIn (i := 4) hd (by rw [c4]; rfl) (by decide) rfl e4 h4
  rw [if_neg c4]
  by_cases c5 : x = 5
  · rw [if_pos c5]
    exact sim_tabIn (i := 5) hd (by rw [c5]; rfl) (by decide) rfl e5 h5
  rw [if_neg c5]
  refine sim_tabOut hd ?_ ed hdf
  rcases Int.lt_or_le x.toInt 0 with z | z
  · exact Or.inl z
  rcases Int.lt_or_le 5 x.toInt with z2 | z2
  · exact Or.inr z2
  exfalso
  have hh : x.toInt = 0 ∨ x.toInt = 1 ∨ x.toInt = 2 ∨ x.toInt = 3 ∨ x.toInt = 4 ∨ x.toInt = 5 := by omega
  rcases hh with z3 | z3 | z3 | z3 | z3 | z3
  · exact c0 (Int32.toInt_inj.mp (z3.trans (by rfl)))
  · exact c1 (Int32.toInt_inj.mp (z3.trans (by rfl)))
  · exact c2 (Int32.toInt_inj.mp (z3.trans (by rfl)))
  · exact c3 (Int32.toInt_inj.mp (z3.trans (by rfl)))
  · exact c4 (Int32.toInt_inj.mp (z3.trans (by rfl)))
  · exact c5 (Int32.toInt_inj.mp (z3.trans (by rfl)))
theorem sim_tab7 {x : Int32} {dflt o0 o1 o2 o3 o4 o5 o6 : Int} {len : Nat} (t0 t1 t2 t3 t4 t5 t6 td : Nat) {F_0 F_1 F_2 F_3 F_4 F_5 F_6 Fd : Option (α × Wd)} (hd : decode M.2.1 pc = .ok (.tableswitch dflt 0 6 #[o0, o1, o2, o3, o4, o5, o6], len)) (e0 : (pc : Int) + o0 = (t0 : Int)) (e1 : (pc : Int) + o1 = (t1 : Int)) (e2 : (pc : Int) + o2 = (t2 : Int)) (e3 : (pc : Int) + o3 = (t3 : Int)) (e4 : (pc : Int) + o4 = (t4 : Int)) (e5 : (pc : Int) + o5 = (t5 : Int)) (e6 : (pc : Int) + o6 = (t6 : Int)) (ed : (pc : Int) + dflt = (td : Int)) (h0 : Sim E M rt t0 lv st w F_0) (h1 : Sim E M rt t1 lv st w F_1) (h2 : Sim E M rt t2 lv st w F_2) (h3 : Sim E M rt t3 lv st w F_3) (h4 : Sim E M rt t4 lv st w F_4) (h5 : Sim E M rt t5 lv st w F_5) (h6 : Sim E M rt t6 lv st w F_6) (hdf : Sim E M rt td lv st w Fd) : Sim E M rt pc lv (.int x :: st) w (if x = 0 then F_0 else if x = 1 then F_1 else if x = 2 then F_2 else if x = 3 then F_3 else if x = 4 then F_4 else if x = 5 then F_5 else if x = 6 then F_6 else Fd) := by
  by_cases c0 : x = 0
  · rw [if_pos c0]
    exact sim_tabIn (i := 0) hd (by rw [c0]; rfl) (by decide) rfl e0 h0
  rw [if_neg c0]
  by_cases c1 : x = 1
  · rw [if_pos c1]
    exact sim_tabIn (i := 1) hd (by rw [c1]; rfl) (by decide) rfl e1 h1
  rw [if_neg c1]
  by_cases c2 : x = 2
  · rw [if_pos c2]
    exact sim_tabIn (i := 2) hd (by rw [c2]; rfl) (by decide) rfl e2 h2
  rw [if_neg c2]
  by_cases c3 : x = 3
  · rw [if_pos c3]
    exact sim_tabIn (i := 3) hd (by rw [c3]; rfl) (by decide) rfl e3 h3
  rw [if_neg c3]
  by_cases c4 : x = 4
  · rw [if_pos c4]
    exact sim_tabIn (i := 4) hd (by rw [c4]; rfl) (by decide) rfl e4 h4
  rw [if_neg c4]
  by_cases c5 : x = 5
  · rw [if_pos c5]
    exact sim_tabIn (i := 5) hd (by rw [c5]; rfl) (by decide) rfl e5 h5
  rw [if_neg c5]
  by_cases c6 : x = 6
  · rw [if_pos c6]
    exact sim_tabIn (i := 6) hd (by rw [c6]; rfl) (by decide) rfl e6 h6
  rw [if_neg c6]
  refine sim_tabOut hd ?_ ed hdf
  rcases Int.lt_or_le x.toInt 0 with z | z
  · exact Or.inl z
  rcases Int.lt_or_le 6 x.toInt with z2 | z2
  · exact Or.inr z2
  exfalso
  have hh : x.toInt = 0 ∨ x.toInt = 1 ∨ x.toInt = 2 ∨ x.toInt = 3 ∨ x.toInt = 4 ∨ x.toInt = 5 ∨ x.toInt = 6 := by omega
  rcases hh with z3 | z3 | z3 | z3 | z3 | z3 | z3
  · exact c0 (Int32.toInt_inj.mp (z3.trans (by rfl)))
  · exact c1 (Int32.toInt_inj.mp (z3.trans (by rfl)))
  · exact c2 (Int32.toInt_inj.mp (z3.trans (by rfl)))
  · exact c3 (Int32.toInt_inj.mp (z3.trans (by rfl)))
  · exact c4 (Int32.toInt_inj.mp (z3.trans (by rfl)))
  · exact c5 (Int32.toInt_inj.mp (z3.trans (by rfl)))
  · exact c6 (Int32.toInt_inj.mp (z3.trans (by rfl)))
theorem sim_min {x y : Int32} (hlk : Cond.methodLink M.1 idx Lib.Math.min.name ∈ TB) (hst : Cond.static Lib.Math.min.name ∈ TB) (hini : Cond.initialized "java/lang/Math" ∈ TB) (hcode : Cond.code Lib.Math.min.name Lib.Math.min.code 2 (some .int) ∈ TB) (hrest : (st.map fun v => v.category).sum ≤ 8) (hdp : 1 ≤ M.2.2.2.2.1) (hd : decode M.2.1 pc = .ok (.invokestatic idx, 3)) (hp : pc + 3 = q) (h : Sim E M rt q lv (.int (if y < x then y else x) :: st) w F) : Sim E M rt pc lv (.int y :: .int x :: st) w F := by
  subst hp
  intro r w' hF kc ks p e s m args below meth c H locs ls C hr hk2 hE hP hD hS hl
  exact va_mmin C.1 C.2.1 (C.2.2.1.trans hl.1.symm) C.2.2.2.1 (C.2.2.2.2 _ hlk) (C.2.2.2.2 _ hst) (C.2.2.2.2 _ hini) (C.2.2.2.2 _ hcode) hdp (by show _ ≤ 64 * M.2.2.2.2.1; omega) (Nat.le_refl _) (Nat.le_refl _) hd (h r w' hF kc ks p e s m args below meth c H locs ls C hr hk2 hE hP hD hS hl)
def cpok (sp dp n : Int32) (n0 n1 : Nat) : Bool := !decide (sp < 0) && (!decide (dp < 0) && (!decide (n < 0) && (decide (sp.toNatClampNeg + n.toNatClampNeg ≤ n0) && decide (dp.toNatClampNeg + n.toNatClampNeg ≤ n1))))
theorem sim_copy {k0 k1 n0 n1 : Nat} {sp dp m1 : Int32} (hL0 : k0 ∈ El E) (hk0 : kd k0 = 9) (hn0 : ln (En E) k0 = n0) (hL1 : k1 ∈ El E) (hk1 : kd k1 = 9) (hn1 : ln (En E) k1 = n1) (hlk : Cond.methodLink M.1 idx arraycopyName ∈ TB) (hnat : Cond.native arraycopyName ∈ TB) (hst : Cond.static arraycopyName ∈ TB) (hini : Cond.initialized "java/lang/System" ∈ TB) (hrest : (st.map fun v => v.category).sum + (nativeFrameWords "java/lang/System" "arraycopy" 5 + 11) ≤ 64) (hdp : 1 ≤ M.2.2.2.2.1) (hd : decode M.2.1 pc = .ok (.invokestatic idx, 3)) (hp : pc + 3 = q)
    (h : Sim E M rt q lv st (wdA w k1 (va_cpy (w.1 k0) (w.1 k1) sp.toNatClampNeg dp.toNatClampNeg m1.toNatClampNeg)) F) : Sim E M rt pc lv (.int m1 :: .int dp :: .ref (Ea E k1) :: .int sp :: .ref (Ea E k0) :: st) w (if cpok sp dp m1 n0 n1 = true then F else none) := by
  subst hp hn0 hn1
  refine sim_guard (fun hi => ?_)
  simp only [cpok, Bool.and_eq_true, Bool.not_eq_true', decide_eq_false_iff_not, decide_eq_true_eq] at hi
  intro r w' hF kc ks p e s m args below meth c H locs ls C hr hk2 hE hP hD hS hl
  obtain ⟨p0, hp0, h0⟩ := wv_at w hL0
  obtain ⟨p1, hp1, h1⟩ := wv_at w hL1
  rw [ce_int hk0] at h0
  rw [ce_int hk1] at h1
  refine va_copyi C.1 C.2.1 (C.2.2.1.trans hl.1.symm) C.2.2.2.1 (C.2.2.2.2 _ hlk) (C.2.2.2.2 _ hnat) (C.2.2.2.2 _ hst) (C.2.2.2.2 _ hini) hE.1 hP hD hS p0 p1 0 0 h0 h1 rfl rfl rfl hi.1 hi.2.1 hi.2.2.1 hi.2.2.2.1 hi.2.2.2.2 (fun _ _ => rfl) hdp (by show _ ≤ 64 * M.2.2.2.2.1; omega) hd (fun H1 locs1 hP1 hD1 hS1 => ?_)
  rw [wv_set (w2 := wdA w k1 (va_cpy (w.1 k0) (w.1 k1) sp.toNatClampNeg dp.toNatClampNeg m1.toNatClampNeg)) hD hp1 (by rw [ce_int hk1, wdA_at]) (fun j hj => ce_A hj)] at hP1 hD1
  exact h r w' hF kc ks p e s m args below meth c H1 locs1 ls C hr hk2 hE hP1 hD1 hS1 hl
end RULES
/-! which cells are there -/
def inM (k : Nat) : Bool := decide (50 ≤ k) && (decide (k ≤ 102) && decide (kd k ≠ 99))
def inW (k : Nat) : Bool := decide (2 ≤ k) && decide (k ≤ 10)
def inX (k : Nat) : Bool := decide (k ≤ 14) || (decide (22 ≤ k) && decide (k ≤ 42))
def LM (E : Ev) : Prop := ∀ k, inM k = true → k ∈ El E
def LW (E : Ev) : Prop := ∀ k, inW k = true → k ∈ El E
def LX (E : Ev) : Prop := (∀ k, inX k = true → k ∈ El E) ∧ (∀ i, i < En E → 15 + i ∈ El E) ∧ 5 ≤ En E ∧ En E ≤ 7
theorem LX.w {E : Ev} (h : LX E) : LW E := fun k hk => h.1 k (by simp only [inW, inX, Bool.and_eq_true, Bool.or_eq_true, decide_eq_true_eq] at hk ⊢; omega)
def okP (o : Nat) : Bool := o == 35 || o == 39
theorem okP_or {o : Nat} (h : okP o = true) : o = 35 ∨ o = 39 := by simpa [okP] using h
theorem okP_kd {o : Nat} (h : okP o = true) : kd o = 2 ∧ kd (o + 1) = 9 ∧ kd (o + 2) = 11 ∧ kd (o + 3) = 10 := by
  rcases okP_or h with rfl | rfl <;> exact ⟨rfl, rfl, rfl, rfl⟩
theorem okP_ln {o : Nat} (h : okP o = true) (N : Nat) : ln N (o + 1) = 300 ∧ ln N (o + 2) = 300 ∧ ln N (o + 3) = 2107 := by
  rcases okP_or h with rfl | rfl <;> exact ⟨rfl, rfl, rfl⟩
theorem okP_in {o : Nat} (h : okP o = true) {E : Ev} (hL : LX E) : o ∈ El E ∧ o + 1 ∈ El E ∧ o + 2 ∈ El E ∧ o + 3 ∈ El E := by
  rcases okP_or h with rfl | rfl <;> exact ⟨hL.1 _ rfl, hL.1 _ rfl, hL.1 _ rfl, hL.1 _ rfl⟩
theorem row_kd : ∀ i, i < 7 → kd (14 + 1 + i) = 9 := by decide
theorem row_ln (N : Nat) {i : Nat} (h : i < 7) : ln N (14 + 1 + i) = 12 := by
  rcases (show i = 0 ∨ i = 1 ∨ i = 2 ∨ i = 3 ∨ i = 4 ∨ i = 5 ∨ i = 6 by omega) with rfl | rfl | rfl | rfl | rfl | rfl | rfl <;> rfl
theorem inb_lt {i : Int32} {n : Nat} (h : inb i n = true) : i.toNatClampNeg < n := by
  simp only [inb, Bool.and_eq_true, decide_eq_true_eq] at h
  exact h.2
def itr {γ : Type} (z : γ) (b : γ → γ) : Nat → γ
  | 0 => z
  | n + 1 => b (itr z b n)
theorem fvs_P {a : Nat → Nat} {w : Wd} {o : Nat} (h : kd o = 2) : fvs a w o = [.ref (a 22), .ref (a (o + 1)), .ref (a (o + 2)), .ref (a (o + 3)), .int (w.1 o 4), .int (w.1 o 5), .int (w.1 o 6), .int (w.1 o 7), .int (w.1 o 8)] := by
  unfold fvs
  rw [h]
  rfl
theorem kd7 {j : Nat} (h : kd j = 7) : j = 0 := by
  rcases Nat.lt_or_ge j 103 with z | z
  · have : ∀ j, j < 103 → kd j = 7 → j = 0 := by decide
    exact this j z h
  · exfalso
    have e : kd j = 99 := by
      unfold kd
      rw [List.getD_eq_getElem?_getD, List.getElem?_eq_none (by simpa using z)]
      rfl
    omega
theorem ce_C {E : Ev} {w : Wd} {i j : Nat} (h : j ≠ 0) : ce E (wdC w i) j = ce E w j := by
  unfold ce
  rw [show fvs (Ea E) (wdC w i) j = fvs (Ea E) w j from by
    unfold fvs
    split <;> first | rfl | (rename_i e; exact absurd (kd7 e) h)]
  rfl
theorem ce_R {E : Ev} {w : Wd} {i j : Nat} (h : j ≠ 0) : ce E (wdR w i) j = ce E w j := by
  unfold ce
  rw [show fvs (Ea E) (wdR w i) j = fvs (Ea E) w j from by
    unfold fvs
    split <;> first | rfl | (rename_i e; exact absurd (kd7 e) h)]
  rfl
theorem st_P_4 {o : Nat} (h : kd o = 2) (a : Nat → Nat) (w : Wd) (v : Int32) : (fvs a w o).set 4 (.int v) = fvs a (wdI w o 4 v) o := by
  rw [fvs_P h, fvs_P h]
  simp [wdI, wdA, upd]
theorem st_P_5 {o : Nat} (h : kd o = 2) (a : Nat → Nat) (w : Wd) (v : Int32) : (fvs a w o).set 5 (.int v) = fvs a (wdI w o 5 v) o := by
  rw [fvs_P h, fvs_P h]
  simp [wdI, wdA, upd]
theorem st_P_6 {o : Nat} (h : kd o = 2) (a : Nat → Nat) (w : Wd) (v : Int32) : (fvs a w o).set 6 (.int v) = fvs a (wdI w o 6 v) o := by
  rw [fvs_P h, fvs_P h]
  simp [wdI, wdA, upd]
theorem st_P_7 {o : Nat} (h : kd o = 2) (a : Nat → Nat) (w : Wd) (v : Int32) : (fvs a w o).set 7 (.int v) = fvs a (wdI w o 7 v) o := by
  rw [fvs_P h, fvs_P h]
  simp [wdI, wdA, upd]
theorem st_P_8 {o : Nat} (h : kd o = 2) (a : Nat → Nat) (w : Wd) (v : Int32) : (fvs a w o).set 8 (.int v) = fvs a (wdI w o 8 v) o := by
  rw [fvs_P h, fvs_P h]
  simp [wdI, wdA, upd]
theorem sim_tab4 {α : Type} {E : Ev} {M : Mt} {rt : α → Option Value} {pc : Nat} {lv : List (Nat × Value)} {st : List Value} {w : Wd} {x : Int32} {dflt o0 o1 o2 o3 : Int} {len : Nat} (t0 t1 t2 t3 td : Nat) {F_0 F_1 F_2 F_3 Fd : Option (α × Wd)} (hd : decode M.2.1 pc = .ok (.tableswitch dflt 0 3 #[o0, o1, o2, o3], len)) (e0 : (pc : Int) + o0 = (t0 : Int)) (e1 : (pc : Int) + o1 = (t1 : Int)) (e2 : (pc : Int) + o2 = (t2 : Int)) (e3 : (pc : Int) + o3 = (t3 : Int)) (ed : (pc : Int) + dflt = (td : Int)) (h0 : Sim E M rt t0 lv st w F_0) (h1 : Sim E M rt t1 lv st w F_1) (h2 : Sim E M rt t2 lv st w F_2) (h3 : Sim E M rt t3 lv st w F_3) (hdf : Sim E M rt td lv st w Fd) : Sim E M rt pc lv (.int x :: st) w (if x = 0 then F_0 else if x = 1 then F_1 else if x = 2 then F_2 else if x = 3 then F_3 else Fd) := by
  by_cases c0 : x = 0
  · rw [if_pos c0]
    exact sim_tabIn (i := 0) hd (by rw [c0]; rfl) (by decide) rfl e0 h0
  rw [if_neg c0]
  by_cases c1 : x = 1
  · rw [if_pos c1]
    exact sim_tabIn (i := 1) hd (by rw [c1]; rfl) (by decide) rfl e1 h1
  rw [if_neg c1]
  by_cases c2 : x = 2
  · rw [if_pos c2]
    exact sim_tabIn (i := 2) hd (by rw [c2]; rfl) (by decide) rfl e2 h2
  rw [if_neg c2]
  by_cases c3 : x = 3
  · rw [if_pos c3]
    exact sim_tabIn (i := 3) hd (by rw [c3]; rfl) (by decide) rfl e3 h3
  rw [if_neg c3]
  refine sim_tabOut hd ?_ ed hdf
  rcases Int.lt_or_le x.toInt 0 with z | z
  · exact Or.inl z
  rcases Int.lt_or_le 3 x.toInt with z2 | z2
  · exact Or.inr z2
  exfalso
  have hh : x.toInt = 0 ∨ x.toInt = 1 ∨ x.toInt = 2 ∨ x.toInt = 3 := by omega
  rcases hh with z3 | z3 | z3 | z3
  · exact c0 (Int32.toInt_inj.mp (z3.trans (by rfl)))
  · exact c1 (Int32.toInt_inj.mp (z3.trans (by rfl)))
  · exact c2 (Int32.toInt_inj.mp (z3.trans (by rfl)))
  · exact c3 (Int32.toInt_inj.mp (z3.trans (by rfl)))
theorem DD_le {M Mc : Mt} {B : Nat} (hB : B ≤ M.2.2.2.2.1) (h1 : Nat.ble (Mc.2.2.2.2.1 + 1) B = true) (h2 : Nat.ble Mc.2.2.1 45 = true) : DD M Mc = true := by
  have := Nat.le_of_ble_eq_true h1
  have := Nat.le_of_ble_eq_true h2
  simp only [DD, Bool.and_eq_true, decide_eq_true_eq]
  omega
theorem DD_q {M Mc : Mt} (hq : Mc.2.2.2.2.1 + 1 ≤ M.2.2.2.2.1) (h2 : Nat.ble Mc.2.2.1 45 = true) : DD M Mc = true := by
  have := Nat.le_of_ble_eq_true h2
  simp only [DD, Bool.and_eq_true, decide_eq_true_eq]
  omega
theorem Ct_none {α : Type} {E : Ev} {M : Mt} {y : MethodName} {rt : α → Option Value} {av : List Value} {w : Wd} : Ct E M y rt av w none := fun _ _ h => by cases h
theorem sim_cSi {α : Type} {E : Ev} {M : Mt} {rt : α → Option Value} {pc q : Nat} {lv : List (Nat × Value)} {st : List Value} {w : Wd} {G : Option (Int32 × Wd)} {K : Int32 → Wd → Option (α × Wd)} {Mc : Mt} {y : MethodName} {idx n : Nat} (As rest : List Value) (hC : Ct E Mc y rI As w G) (hcb : CB M.1 idx y Mc n) (hst : Cond.static y ∈ TB) (hn : As.length = n) (hD : DD M Mc = true) (hstk : st = As.reverse ++ rest) (hrest : (rest.map fun v => v.category).sum ≤ 8) (hd : decode M.2.1 pc = .ok (.invokestatic idx, 3)) (hp : pc + 3 = q) (h : ∀ x w1, Sim E M rt q lv (.int x :: rest) w1 (K x w1)) : Sim E M rt pc lv st w (bd G K) := sim_callS As rest hC hcb hst hn hD hstk hrest hd hp h
theorem sim_cSj {α : Type} {E : Ev} {M : Mt} {rt : α → Option Value} {pc q : Nat} {lv : List (Nat × Value)} {st : List Value} {w : Wd} {G : Option (Int64 × Wd)} {K : Int64 → Wd → Option (α × Wd)} {Mc : Mt} {y : MethodName} {idx n : Nat} (As rest : List Value) (hC : Ct E Mc y rJ As w G) (hcb : CB M.1 idx y Mc n) (hst : Cond.static y ∈ TB) (hn : As.length = n) (hD : DD M Mc = true) (hstk : st = As.reverse ++ rest) (hrest : (rest.map fun v => v.category).sum ≤ 8) (hd : decode M.2.1 pc = .ok (.invokestatic idx, 3)) (hp : pc + 3 = q) (h : ∀ x w1, Sim E M rt q lv (.long x :: rest) w1 (K x w1)) : Sim E M rt pc lv st w (bd G K) := sim_callS As rest hC hcb hst hn hD hstk hrest hd hp h
theorem sim_cSv {α : Type} {E : Ev} {M : Mt} {rt : α → Option Value} {pc q : Nat} {lv : List (Nat × Value)} {st : List Value} {w : Wd} {G : Option (Unit × Wd)} {K : Unit → Wd → Option (α × Wd)} {Mc : Mt} {y : MethodName} {idx n : Nat} (As rest : List Value) (hC : Ct E Mc y rV As w G) (hcb : CB M.1 idx y Mc n) (hst : Cond.static y ∈ TB) (hn : As.length = n) (hD : DD M Mc = true) (hstk : st = As.reverse ++ rest) (hrest : (rest.map fun v => v.category).sum ≤ 8) (hd : decode M.2.1 pc = .ok (.invokestatic idx, 3)) (hp : pc + 3 = q) (h : ∀ x w1, Sim E M rt q lv rest w1 (K x w1)) : Sim E M rt pc lv st w (bd G K) := sim_callS As rest hC hcb hst hn hD hstk hrest hd hp h
theorem sim_cVi {α : Type} {E : Ev} {M : Mt} {rt : α → Option Value} {pc q : Nat} {lv : List (Nat × Value)} {st : List Value} {w : Wd} {G : Option (Int32 × Wd)} {K : Int32 → Wd → Option (α × Wd)} {Mc : Mt} {y : MethodName} {idx n : Nat} {k ci : Nat} {T : u_T} {nf : Nat} (As rest : List Value) (hC : Ct E Mc y rI (.ref (Ea E k) :: As) w G) (hL : k ∈ El E) (hk : kd k = ci) (hc : ci < 9) (hcl : vwCl[ci]? = some (y.cls, T, nf)) (hcb : CB M.1 idx y Mc n) (hin : Cond.instanceMethod y ∈ TB) (hse : Cond.selects y.cls y y ∈ TB) (hn : As.length = n) (hD : DD M Mc = true) (hstk : st = As.reverse ++ .ref (Ea E k) :: rest) (hrest : (rest.map fun v => v.category).sum ≤ 8) (hd : decode M.2.1 pc = .ok (.invokevirtual idx, 3)) (hp : pc + 3 = q) (h : ∀ x w1, Sim E M rt q lv (.int x :: rest) w1 (K x w1)) : Sim E M rt pc lv st w (bd G K) := sim_callV As rest hC hL hk hc hcl hcb hin hse hn hD hstk hrest hd hp h
theorem sim_cVj {α : Type} {E : Ev} {M : Mt} {rt : α → Option Value} {pc q : Nat} {lv : List (Nat × Value)} {st : List Value} {w : Wd} {G : Option (Int64 × Wd)} {K : Int64 → Wd → Option (α × Wd)} {Mc : Mt} {y : MethodName} {idx n : Nat} {k ci : Nat} {T : u_T} {nf : Nat} (As rest : List Value) (hC : Ct E Mc y rJ (.ref (Ea E k) :: As) w G) (hL : k ∈ El E) (hk : kd k = ci) (hc : ci < 9) (hcl : vwCl[ci]? = some (y.cls, T, nf)) (hcb : CB M.1 idx y Mc n) (hin : Cond.instanceMethod y ∈ TB) (hse : Cond.selects y.cls y y ∈ TB) (hn : As.length = n) (hD : DD M Mc = true) (hstk : st = As.reverse ++ .ref (Ea E k) :: rest) (hrest : (rest.map fun v => v.category).sum ≤ 8) (hd : decode M.2.1 pc = .ok (.invokevirtual idx, 3)) (hp : pc + 3 = q) (h : ∀ x w1, Sim E M rt q lv (.long x :: rest) w1 (K x w1)) : Sim E M rt pc lv st w (bd G K) := sim_callV As rest hC hL hk hc hcl hcb hin hse hn hD hstk hrest hd hp h
theorem sim_cVv {α : Type} {E : Ev} {M : Mt} {rt : α → Option Value} {pc q : Nat} {lv : List (Nat × Value)} {st : List Value} {w : Wd} {G : Option (Unit × Wd)} {K : Unit → Wd → Option (α × Wd)} {Mc : Mt} {y : MethodName} {idx n : Nat} {k ci : Nat} {T : u_T} {nf : Nat} (As rest : List Value) (hC : Ct E Mc y rV (.ref (Ea E k) :: As) w G) (hL : k ∈ El E) (hk : kd k = ci) (hc : ci < 9) (hcl : vwCl[ci]? = some (y.cls, T, nf)) (hcb : CB M.1 idx y Mc n) (hin : Cond.instanceMethod y ∈ TB) (hse : Cond.selects y.cls y y ∈ TB) (hn : As.length = n) (hD : DD M Mc = true) (hstk : st = As.reverse ++ .ref (Ea E k) :: rest) (hrest : (rest.map fun v => v.category).sum ≤ 8) (hd : decode M.2.1 pc = .ok (.invokevirtual idx, 3)) (hp : pc + 3 = q) (h : ∀ x w1, Sim E M rt q lv rest w1 (K x w1)) : Sim E M rt pc lv st w (bd G K) := sim_callV As rest hC hL hk hc hcl hcb hin hse hn hD hstk hrest hd hp h
theorem sim_cVNi {α : Type} {E : Ev} {M : Mt} {rt : α → Option Value} {pc q : Nat} {lv : List (Nat × Value)} {st : List Value} {w : Wd} {G : Option (Int32 × Wd)} {K : Int32 → Wd → Option (α × Wd)} {Mc : Mt} {y : MethodName} {idx n : Nat} {k ci : Nat} {T : u_T} {nf : Nat} (As rest : List Value) (hC : Ct E Mc y rI (.ref (Ea E k) :: As) w G) (hL : k ∈ El E) (hk : kd k = ci) (hc : ci < 9) (hcl : vwCl[ci]? = some (y.cls, T, nf)) (hcb : CN M.1 idx y Mc n) (hin : Cond.instanceMethod y ∈ TB) (hse : Cond.selects y.cls y y ∈ TB) (hn : As.length = n) (hD : DD M Mc = true) (hstk : st = As.reverse ++ .ref (Ea E k) :: rest) (hrest : (rest.map fun v => v.category).sum ≤ 8) (hd : decode M.2.1 pc = .ok (.invokevirtual idx, 3)) (hp : pc + 3 = q) (h : ∀ x w1, Sim E M rt q lv (.int x :: rest) w1 (K x w1)) : Sim E M rt pc lv st w (bd G K) := sim_callVN As rest hC hL hk hc hcl hcb hin hse hn hD hstk hrest hd hp h
theorem sim_cVNj {α : Type} {E : Ev} {M : Mt} {rt : α → Option Value} {pc q : Nat} {lv : List (Nat × Value)} {st : List Value} {w : Wd} {G : Option (Int64 × Wd)} {K : Int64 → Wd → Option (α × Wd)} {Mc : Mt} {y : MethodName} {idx n : Nat} {k ci : Nat} {T : u_T} {nf : Nat} (As rest : List Value) (hC : Ct E Mc y rJ (.ref (Ea E k) :: As) w G) (hL : k ∈ El E) (hk : kd k = ci) (hc : ci < 9) (hcl : vwCl[ci]? = some (y.cls, T, nf)) (hcb : CN M.1 idx y Mc n) (hin : Cond.instanceMethod y ∈ TB) (hse : Cond.selects y.cls y y ∈ TB) (hn : As.length = n) (hD : DD M Mc = true) (hstk : st = As.reverse ++ .ref (Ea E k) :: rest) (hrest : (rest.map fun v => v.category).sum ≤ 8) (hd : decode M.2.1 pc = .ok (.invokevirtual idx, 3)) (hp : pc + 3 = q) (h : ∀ x w1, Sim E M rt q lv (.long x :: rest) w1 (K x w1)) : Sim E M rt pc lv st w (bd G K) := sim_callVN As rest hC hL hk hc hcl hcb hin hse hn hD hstk hrest hd hp h
theorem sim_cVNv {α : Type} {E : Ev} {M : Mt} {rt : α → Option Value} {pc q : Nat} {lv : List (Nat × Value)} {st : List Value} {w : Wd} {G : Option (Unit × Wd)} {K : Unit → Wd → Option (α × Wd)} {Mc : Mt} {y : MethodName} {idx n : Nat} {k ci : Nat} {T : u_T} {nf : Nat} (As rest : List Value) (hC : Ct E Mc y rV (.ref (Ea E k) :: As) w G) (hL : k ∈ El E) (hk : kd k = ci) (hc : ci < 9) (hcl : vwCl[ci]? = some (y.cls, T, nf)) (hcb : CN M.1 idx y Mc n) (hin : Cond.instanceMethod y ∈ TB) (hse : Cond.selects y.cls y y ∈ TB) (hn : As.length = n) (hD : DD M Mc = true) (hstk : st = As.reverse ++ .ref (Ea E k) :: rest) (hrest : (rest.map fun v => v.category).sum ≤ 8) (hd : decode M.2.1 pc = .ok (.invokevirtual idx, 3)) (hp : pc + 3 = q) (h : ∀ x w1, Sim E M rt q lv rest w1 (K x w1)) : Sim E M rt pc lv st w (bd G K) := sim_callVN As rest hC hL hk hc hcl hcb hin hse hn hD hstk hrest hd hp h
theorem sim_cSNi {α : Type} {E : Ev} {M : Mt} {rt : α → Option Value} {pc q : Nat} {lv : List (Nat × Value)} {st : List Value} {w : Wd} {G : Option (Int32 × Wd)} {K : Int32 → Wd → Option (α × Wd)} {Mc : Mt} {y : MethodName} {idx n : Nat} (As rest : List Value) (hC : Ct E Mc y rI As w G) (hcb : CN M.1 idx y Mc n) (hst : Cond.static y ∈ TB) (hn : As.length = n) (hD : DD M Mc = true) (hstk : st = As.reverse ++ rest) (hrest : (rest.map fun v => v.category).sum ≤ 8) (hd : decode M.2.1 pc = .ok (.invokestatic idx, 3)) (hp : pc + 3 = q) (h : ∀ x w1, Sim E M rt q lv (.int x :: rest) w1 (K x w1)) : Sim E M rt pc lv st w (bd G K) := sim_callSN As rest hC hcb hst hn hD hstk hrest hd hp h
theorem sim_cSNj {α : Type} {E : Ev} {M : Mt} {rt : α → Option Value} {pc q : Nat} {lv : List (Nat × Value)} {st : List Value} {w : Wd} {G : Option (Int64 × Wd)} {K : Int64 → Wd → Option (α × Wd)} {Mc : Mt} {y : MethodName} {idx n : Nat} (As rest : List Value) (hC : Ct E Mc y rJ As w G) (hcb : CN M.1 idx y Mc n) (hst : Cond.static y ∈ TB) (hn : As.length = n) (hD : DD M Mc = true) (hstk : st = As.reverse ++ rest) (hrest : (rest.map fun v => v.category).sum ≤ 8) (hd : decode M.2.1 pc = .ok (.invokestatic idx, 3)) (hp : pc + 3 = q) (h : ∀ x w1, Sim E M rt q lv (.long x :: rest) w1 (K x w1)) : Sim E M rt pc lv st w (bd G K) := sim_callSN As rest hC hcb hst hn hD hstk hrest hd hp h
theorem sim_cSNv {α : Type} {E : Ev} {M : Mt} {rt : α → Option Value} {pc q : Nat} {lv : List (Nat × Value)} {st : List Value} {w : Wd} {G : Option (Unit × Wd)} {K : Unit → Wd → Option (α × Wd)} {Mc : Mt} {y : MethodName} {idx n : Nat} (As rest : List Value) (hC : Ct E Mc y rV As w G) (hcb : CN M.1 idx y Mc n) (hst : Cond.static y ∈ TB) (hn : As.length = n) (hD : DD M Mc = true) (hstk : st = As.reverse ++ rest) (hrest : (rest.map fun v => v.category).sum ≤ 8) (hd : decode M.2.1 pc = .ok (.invokestatic idx, 3)) (hp : pc + 3 = q) (h : ∀ x w1, Sim E M rt q lv rest w1 (K x w1)) : Sim E M rt pc lv st w (bd G K) := sim_callSN As rest hC hcb hst hn hD hstk hrest hd hp h
