/-! ===== new T[n][k]: the machine's own step, over the walk (the printed names' va_mna rests on laws that a round doesn't have) ===== -/
section MULTI
/-- the row of rows with its first i rows -/
def ryC (cA : ClassId) (N h i : Nat) : Cell := arrV cA N (fun j => if j < i then .ref (h + 1 + j) else .null)
/-- T, with the outer row and its first i rows made -/
def ryF (T : State) (cA cy : ClassId) (N K : Nat) (z : Value) : Nat → State
  | 0 => T.pushCell (ryC cA N T.heap.size 0)
  | i + 1 => ((ryF T cA cy N K z i).pushCell (arrV cy K (fun _ => z))).setCell T.heap.size (ryC cA N T.heap.size (i + 1))
theorem ryC_next (cA : ClassId) (N h i : Nat) : (ryC cA N h i).setSlot i (.ref (h + 1 + i)) = ryC cA N h (i + 1) := by
  unfold ryC
  rw [arrV_store]
  refine congrArg (arrV cA N) (funext fun j => ?_)
  unfold updV
  by_cases e1 : j = i
  · rw [if_pos e1, if_pos (by omega), e1]
  · rw [if_neg e1]
    by_cases e2 : j < i
    · show (if j < i then Value.ref (h + 1 + j) else Value.null) = _
      rw [if_pos e2, if_pos (by omega)]
    · show (if j < i then Value.ref (h + 1 + j) else Value.null) = _
      rw [if_neg e2, if_neg (by omega)]
theorem ryF_size (T : State) (cA cy : ClassId) (N K : Nat) (z : Value) (i : Nat) : (ryF T cA cy N K z i).heap.size = T.heap.size + 1 + i := by
  induction i with
  | zero => simp [ryF]
  | succ i ih => simp [ryF, State.setCell, ih]; omega
theorem ryF_at (T : State) (cA cy : ClassId) (N K : Nat) (z : Value) (i : Nat) : (ryF T cA cy N K z i).heap[T.heap.size]? = some (ryC cA N T.heap.size i) := by
  cases i with
  | zero => exact State.heap_pushCell_size _ _
  | succ i =>
    have hz := ryF_size T cA cy N K z i
    have hlt : T.heap.size < ((ryF T cA cy N K z i).pushCell (arrV cy K (fun _ => z))).heap.size := by simp [hz]; omega
    exact State.heap_setCell_self (Array.getElem?_eq_getElem hlt)
theorem ryF_vm (T : State) (cA cy : ClassId) (N K : Nat) (z : Value) (i : Nat) : (ryF T cA cy N K z i).vm = T.vm := by
  induction i with
  | zero => rfl
  | succ i ih => exact ih
theorem ryF_used (T : State) (cA cy : ClassId) (N K : Nat) (z : Value) (i : Nat) : (ryF T cA cy N K z i).slotsUsed = T.slotsUsed + N + i * K := by
  induction i with
  | zero => simp [ryF, ryC, arrV_size]
  | succ i ih =>
    simp [ryF, ih, arrV_size, Nat.succ_mul]
    omega
theorem ryF_old (T : State) (cA cy : ClassId) (N K : Nat) (z : Value) {x : Nat} (hx : x < T.heap.size) (i : Nat) : (ryF T cA cy N K z i).heap[x]? = T.heap[x]? := by
  induction i with
  | zero => exact State.heap_pushCell_of_lt _ _ hx
  | succ i ih =>
    have hz := ryF_size T cA cy N K z i
    show (((ryF T cA cy N K z i).pushCell (arrV cy K (fun _ => z))).setCell T.heap.size _).heap[x]? = _
    rw [State.heap_setCell_other (Nat.ne_of_gt hx), State.heap_pushCell_of_lt (h := (by omega : x < (ryF T cA cy N K z i).heap.size))]
    exact ih
theorem ryF_row (T : State) (cA cy : ClassId) (N K : Nat) (z : Value) (i j : Nat) (hj : j < i) : (ryF T cA cy N K z i).heap[T.heap.size + 1 + j]? = some (arrV cy K (fun _ => z)) := by
  induction i with
  | zero => exact absurd hj (Nat.not_lt_zero _)
  | succ i ih =>
    have hz := ryF_size T cA cy N K z i
    show (((ryF T cA cy N K z i).pushCell (arrV cy K (fun _ => z))).setCell T.heap.size _).heap[T.heap.size + 1 + j]? = _
    rw [State.heap_setCell_other (show T.heap.size ≠ T.heap.size + 1 + j by omega)]
    by_cases e1 : j < i
    · rw [State.heap_pushCell_of_lt (h := (by omega : T.heap.size + 1 + j < (ryF T cA cy N K z i).heap.size))]
      exact ih e1
    · have e2 : T.heap.size + 1 + j = (ryF T cA cy N K z i).heap.size := by omega
      rw [e2]
      exact State.heap_pushCell_size _ _
theorem ryF_top (T : State) (f : JFrame) (cA cy : ClassId) (N K : Nat) (z : Value) (i : Nat) : ryF (T.setTop f) cA cy N K z i = (ryF T cA cy N K z i).setTop f := by
  induction i with
  | zero => rfl
  | succ i ih => simp only [ryF, ih, State.heap_setTop, State.pushCell_setTop, State.setCell_setTop]
variable {p : Program} {l : Launch} {e : Env} {R : Room} {s : State} {m : MethodId} {args : Array Value} {below : List Frame} {meth : Method} {c : Code} {locs : List Loc} {cells slots : Nat}
theorem ryF_stand {T : State} (X : Stand p l e R s m args below meth c T locs cells slots) (cA cy : ClassId) (N K : Nat) (z : Value) (i : Nat) : Stand p l e R s m args below meth c (ryF T cA cy N K z i) locs (cells + 1 + i) (slots + N + i * K) := by
  induction i with
  | zero =>
    have h := X.pushed (ryC cA N T.heap.size 0)
    rw [show (ryC cA N T.heap.size 0).slots.size = N from arrV_size _ _ _] at h
    simpa [ryF] using h
  | succ i ih =>
    have hz := ryF_size T cA cy N K z i
    have h1 := ih.pushed (arrV cy K (fun _ => z))
    rw [arrV_size] at h1
    have hc : ((ryF T cA cy N K z i).pushCell (arrV cy K (fun _ => z))).heap[T.heap.size]? = some (ryC cA N T.heap.size i) := by
      rw [State.heap_pushCell_of_lt (h := (by omega : T.heap.size < (ryF T cA cy N K z i).heap.size))]
      exact ryF_at T cA cy N K z i
    have h2 := h1.stored hc i (.ref (T.heap.size + 1 + i))
    rw [ryC_next] at h2
    have h3 := Stand.forget h2 (fun y hy => by
      rw [List.mem_singleton] at hy
      subst hy
      exact X.heapGrown)
    have e3 : slots + N + (i + 1) * K = slots + N + i * K + K := by rw [Nat.succ_mul]; omega
    rw [e3]
    exact h3
theorem ry_fit {t : FieldType} (h : t.isReference = true) (v : Value) (hv : v = .null ∨ ∃ a, v = .ref a) : fits t v = true := by
  rcases hv with rfl | ⟨a, rfl⟩ <;> cases t <;> first | rfl | cases h
/-- one row -/
theorem ry_one {E : CtlPost} {d : Bool} {acts : List Action} {S : State} {cy c3 : ClassId} {kC : Class} {ty : FieldType} {k : Int32} {K : Nat} (hkC : S.vm.classes[cy]? = some kC) (hki : kC.kind = .array c3 ty) (hk : ¬ k < 0) (hK : k.toNatClampNeg = K)
    (hl : ¬ K > e.platform.arrayLengthLimit) (hh : ¬ K * componentBytes ty > e.platform.maxHeapBytes) (hdf : fits ty (defaultValue ty) = true) (h1 : S.heap.size < e.platform.maxCells) (h2 : S.slotsUsed + K ≤ e.platform.maxSlots)
    {Q : Addr → Pre} (hq : ∀ acts', Q S.heap.size d acts' (S.pushCell (arrV cy K (fun _ => defaultValue ty)))) : wp (multianewarray.make cy [k]) Q E e d acts S := by
  subst hK
  rw [multianewarray.make]
  simp only [wp_bind', W.ite, hk, if_false, wp_pure', W.theClass, hkC, hki, Option.some.injEq, exists_eq_left']
  exact W.newArray_of hkC hki hl hh h1 h2 hdf (fun a => by rw [arrV_new]; exact hq a)
set_option maxHeartbeats 1000000 in
theorem ry_two {E : CtlPost} {d : Bool} {acts : List Action} {S : State} {cA cy c3 : ClassId} {kA kC : Class} {ty : FieldType} {n k : Int32} {N K : Nat} (hkA : S.vm.classes[cA]? = some kA) (hkiA : kA.kind = .array cy (.array ty)) (hkC : S.vm.classes[cy]? = some kC) (hki : kC.kind = .array c3 ty)
    (hn : ¬ n < 0) (hk : ¬ k < 0) (hN : n.toNatClampNeg = N) (hK : k.toNatClampNeg = K) (hl1 : ¬ N > e.platform.arrayLengthLimit) (hh1 : ¬ N * componentBytes (.array ty) > e.platform.maxHeapBytes)
    (hl : ¬ K > e.platform.arrayLengthLimit) (hh : ¬ K * componentBytes ty > e.platform.maxHeapBytes) (hdf : fits ty (defaultValue ty) = true) (h1 : S.heap.size + (1 + N) ≤ e.platform.maxCells) (h2 : S.slotsUsed + (N + N * K) ≤ e.platform.maxSlots)
    {Q : Addr → Pre} (hq : ∀ d' acts', Q S.heap.size d' acts' (ryF S cA cy N K (defaultValue ty) N)) : wp (multianewarray.make cA [n, k]) Q E e d acts S := by
  have hf : ([k].find? (· < 0)) = none := by simp [hk]
  rw [multianewarray.make]
  simp only [wp_bind', W.ite, hn, if_false, wp_pure', W.theClass, hkA, hkiA, Option.some.injEq, exists_eq_left', hN]
  refine W.newArray_of hkA hkiA hl1 hh1 (by omega) (by have := Nat.zero_le (N * K); omega) (ry_fit rfl _ (Or.inl rfl)) (fun acts1 => ?_)
  rw [arrV_new]
  simp only [hf]
  rw [ite_self, wp_bind', Std.Legacy.Range.forIn_eq_forIn_range']
  have hsz : ([:N] : Std.Legacy.Range).size = N := by simp [Std.Legacy.Range.size]
  rw [hsz]
  show wp (forIn (List.range' 0 N 1) PUnit.unit _) _ E e d acts1 _
  refine wp_forIn_inv (fun r S' => ∃ i, i + r.length = N ∧ r = List.range' i r.length ∧ S' = ryF S cA cy N K (defaultValue ty) i) _ _ ⟨0, by simp, by simp, rfl⟩ ?_ ?_
  · rintro x r S' d' acts' Q' ⟨i, hi, hr, rfl⟩ hnext
    rw [List.length_cons] at hi hr
    rw [List.range'_succ] at hr
    obtain ⟨rfl, hr2⟩ := List.cons.inj hr
    have hz := ryF_size S cA cy N K (defaultValue ty) x
    have hu := ryF_used S cA cy N K (defaultValue ty) x
    have hv := ryF_vm S cA cy N K (defaultValue ty) x
    have ha := ryF_at S cA cy N K (defaultValue ty) x
    have hm : x * K + K ≤ N * K := by
      have := Nat.mul_le_mul_right K (show x + 1 ≤ N by omega)
      rw [Nat.succ_mul] at this
      exact this
    simp only [wp_bind']
    refine ry_one (by rw [hv]; exact hkC) hki hk hK hl hh hdf (by omega) (by omega) (fun acts2 => ?_)
    simp only [wp_bind', W.writeLoc, wp_pure']
    refine ⟨ryC cA N S.heap.size x, by rw [State.heap_pushCell_of_lt (h := (by omega : S.heap.size < (ryF S cA cy N K (defaultValue ty) x).heap.size))]; exact ha, by unfold ryC arrV; simp, by rw [show (ryC cA N S.heap.size x).slots.size = N from arrV_size _ _ _]; omega, ?_, hnext _ _ _ ⟨x + 1, by omega, hr2, ?_⟩⟩
    · show State.fitsSlot _ cA .none x _ = true
      simp [State.fitsSlot, State.slotType?, hv, hkA, hkiA]
      exact ry_fit rfl _ (Or.inr ⟨_, rfl⟩)
    · rw [hz, ryC_next]
      rfl
  · rintro S' d' acts' ⟨i, hi, hr, rfl⟩
    have hiN : i = N := by simpa using hi
    subst hiN
    simp only [wp_pure']
    exact hq _ _
set_option maxHeartbeats 1000000 in
theorem ry_new {H : Heap} {Q : State → Prop} {cc : ByteArray} (hexec : p.tables.exec = Jvm.exec) (hb : c.code = cc) {own : String} {index : Nat} {ty : FieldType}
    (hown : s.vm.findClass own = some m.cls) (hclink : (Cond.classLink own index ("[" ++ (FieldType.array ty).toString)).before args s = true) (hover : (Cond.arrayOver (.array ty)).before args s = true) (harr : (Cond.arrayClass ty).before args s = true)
    {pc : Nat} {ls : Array Slot} {rest : List Value} {n k : Int32} {N K : Nat} (hd : decode cc pc = .ok (.multianewarray index 2, 4)) (hn : ¬ n < 0) (hk : ¬ k < 0) (hN : n.toNatClampNeg = N) (hK : k.toNatClampNeg = K)
    (hb1 : N * 4 ≤ 536870912) (hb2 : K * componentBytes ty ≤ 536870912) (hb3 : K ≤ 536870912) (hdf : fits ty (defaultValue ty) = true) (hcells : cells + (1 + N) ≤ R.cells) (hslots : slots + (N + N * K) ≤ R.slots)
    (kk : ∀ (H1 : Heap) (cA cy : ClassId), s.vm.findClass ("[" ++ (FieldType.array ty).toString) = some cA → s.vm.findClass (FieldType.array ty).toString = some cy → H1.size = H.size + 1 + N → H1[H.size]? = some (arrV cA N (fun j => if j < N then .ref (H.size + 1 + j) else .null)) →
      (∀ j, j < N → H1[H.size + 1 + j]? = some (arrV cy K (fun _ => defaultValue ty))) → (∀ x, x < H.size → H1[x]? = H[x]?) → W p l e R s m args below meth c H1 locs (cells + 1 + N) (slots + N + N * K) Q (F0 m (pc + 4) ls (.ref H.size :: rest))) :
    W p l e R s m args below meth c H locs cells slots Q (F0 m pc ls (.int k :: .int n :: rest)) := by
  intro T hT X
  subst hT; subst hb
  have hpl : e.platform.magicAccessors = ({} : Platform).magicAccessors := by rw [X.admits.platform]
  obtain ⟨cy, cA, kA, hcomp, -, hkA, hkindA, hnameA⟩ := arrayOverA_spec hover
  obtain ⟨cy2, kC, c3, hcomp2, hkC, hkindC⟩ := Cond.arrayClass_spec harr
  cases hcomp.symm.trans hcomp2
  obtain ⟨c0, hfc0, hcl⟩ := Cond.classLink_spec hown hclink e.platform hpl
  cases hnameA.symm.trans hfc0
  obtain ⟨hg1, hwarm, hready⟩ := State.classEntry (e := e) X.warmed hcl
  generalize T.vm.noted m.cls index (.cls cA) = vm1 at hg1 hwarm hready
  have hal : s.vm.Alike vm1 := hwarm.alike
  obtain ⟨kA1, hkA1, heA⟩ := hal.2.2 _ _ hkA
  obtain ⟨kC1, hkC1, heC⟩ := hal.2.2 _ _ hkC
  have hkA2 : kA1.kind = .array cy (.array ty) := by rw [heA]; exact hkindA
  have hkC2 : kC1.kind = .array c3 ty := by rw [heC]; exact hkindC
  have XF := ryF_stand (X.noted hwarm) cA cy N K (defaultValue ty) N
  obtain ⟨hr1, hr2⟩ := X.roomAbove hcells hslots
  have hl1 : ¬ N > e.platform.arrayLengthLimit := by rw [Launch.admits_arrayLengthLimit X.admits]; omega
  have hh1 : ¬ N * componentBytes (.array ty) > e.platform.maxHeapBytes := by
    rw [Launch.admits_maxHeapBytes X.admits]; show ¬ N * 4 > 536870912; omega
  have hl2 : ¬ K > e.platform.arrayLengthLimit := by rw [Launch.admits_arrayLengthLimit X.admits]; omega
  have hh2 : ¬ K * componentBytes ty > e.platform.maxHeapBytes := by rw [Launch.admits_maxHeapBytes X.admits]; omega
  obtain ⟨t, a1, b1⟩ := kk (ryF (T.setVm vm1) cA cy N K (defaultValue ty) N).heap cA cy hnameA hcomp (ryF_size _ _ _ _ _ _ _) (ryF_at _ _ _ _ _ _ _) (fun j hj => ryF_row _ _ _ _ _ _ _ _ hj) (fun x hx => ryF_old (T.setVm vm1) _ _ _ _ _ hx _) _ rfl XF
  refine ⟨t, ?_, b1⟩
  jvm_step X.here [hexec, hd]
  simp only [multianewarray.sem, wp_bind', W.resolveClassAt_links (State.method?_setTop (F0 m pc ls (.int k :: .int n :: rest)) X.here.top) hg1]
  rw [W.popN, if_neg (by decide)]
  refine ⟨F0 m pc ls (.int k :: .int n :: rest), State.topJava?_setTop' (s := T.setVm vm1) (F0 m pc ls (.int k :: .int n :: rest)) X.here.top, [.int n, .int k], rest, rfl, rfl, ?_⟩
  simp only [List.mapM_cons, List.mapM_nil, wp_bind', wp_pure']
  refine ry_two (kA := kA1) (kC := kC1) (c3 := c3) hkA1 hkA2 hkC1 hkC2 hn hk hN hK hl1 hh1 hl2 hh2 hdf (by show T.heap.size + _ ≤ _; omega) (by show T.slotsUsed + _ ≤ _; omega) (fun d' acts' => ?_)
  have eS : ((T.setTop (F0 m pc ls (.int k :: .int n :: rest))).setVm vm1).setTop (F0 m pc ls rest) = (T.setVm vm1).setTop (F0 m pc ls rest) := by
    show ((T.setVm vm1).setTop (F0 m pc ls (.int k :: .int n :: rest))).setTop _ = _
    rw [State.setTop_setTop]
  have eS2 := eS
  simp only [F0] at eS2
  rw [eS2, ryF_top]
  simp only [wp_bind', W.mark, W.pushRef, State.topJava?_setTop' _ XF.here.top, Option.some.injEq, exists_eq_left', State.setTop_setTop, State.heap_setTop]
  intro acts
  simp [jvm, XF.here.top]
  exact a1
end MULTI
