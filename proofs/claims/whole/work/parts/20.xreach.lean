/-! ===== directions and distances ===== -/
/-- x lies j steps in direction d from f -/
def At (N d j f x : Nat) : Prop := ((x / N : Nat) : Int) = ((f / N : Nat) : Int) + j * rmv d ∧ ((x % N : Nat) : Int) = ((f % N : Nat) : Int) + j * cmv d
theorem nx_at {N d f g : Nat} (hN : 0 < N) (h : nx N d f = some g) : At N d 1 f g := by
  unfold nx at h
  split at h
  · rename_i q
    obtain ⟨q1, q2, q3, q4⟩ := q
    have hg := Option.some.inj h
    generalize hr : ((f / N : Nat) : Int) + rmv d = r at *
    generalize hc : ((f % N : Nat) : Int) + cmv d = c at *
    obtain ⟨a, rfl⟩ : ∃ a : Nat, r = (a : Int) := ⟨r.toNat, by omega⟩
    obtain ⟨b, rfl⟩ : ∃ b : Nat, c = (b : Int) := ⟨c.toNat, by omega⟩
    have hgab : g = a * N + b := by
      rw [← hg]
      have : ((a : Int) * N + b) = ((a * N + b : Nat) : Int) := by push_cast; rfl
      rw [this]
      rfl
    have hb : b < N := by omega
    have e1 : g / N = a := by
      rw [hgab, Nat.add_comm, Nat.mul_comm, Nat.add_mul_div_left _ _ hN, Nat.div_eq_of_lt hb]
      omega
    have e2 : g % N = b := by
      rw [hgab, Nat.add_comm, Nat.mul_comm, Nat.add_mul_mod_self_left, Nat.mod_eq_of_lt hb]
    unfold At
    rw [e1, e2]
    constructor
    · rw [← hr]; omega
    · rw [← hc]; omega
  · cases h
theorem At.one {N d j f x g : Nat} (h1 : At N d 1 f g) (h2 : At N d j g x) : At N d (j + 1) f x := by
  obtain ⟨a, b⟩ := h1
  obtain ⟨c, e⟩ := h2
  refine ⟨?_, ?_⟩
  · rw [c, a]
    push_cast
    rw [Int.add_mul]
    omega
  · rw [e, b]
    push_cast
    rw [Int.add_mul]
    omega
theorem ray_at {N d : Nat} {bo : Nat → Nat} (hN : 0 < N) {f x : Nat} : ∀ (k j : Nat) (o : Option Nat), (∀ g, o = some g → At N d j f g) → x ∈ rayO N d bo k o → ∃ i, j ≤ i ∧ At N d i f x
  | 0, _, _, _, h => by simp [rayO] at h
  | _ + 1, _, none, _, h => by simp [rayO] at h
  | k + 1, j, some g, ho, h => by
    have hg := ho g rfl
    unfold rayO at h
    rcases List.mem_cons.mp h with rfl | h
    · exact ⟨j, Nat.le_refl _, hg⟩
    · split at h
      · obtain ⟨i, hi, hx⟩ := ray_at hN (f := f) k (j + 1) (nx N d g) (fun z hz => by
          obtain ⟨a, b⟩ := nx_at hN hz
          obtain ⟨c, e⟩ := hg
          refine ⟨?_, ?_⟩
          · rw [a, c]; push_cast; rw [Int.add_mul]; omega
          · rw [b, e]; push_cast; rw [Int.add_mul]; omega) h
        exact ⟨i, by omega, hx⟩
      · simp at h
theorem vec_tab (d : Nat) (hd : d < 12) : (d = 0 ∧ rmv d = -1 ∧ cmv d = 0) ∨ (d = 1 ∧ rmv d = -1 ∧ cmv d = 1) ∨ (d = 2 ∧ rmv d = 0 ∧ cmv d = 1) ∨ (d = 3 ∧ rmv d = 1 ∧ cmv d = 1) ∨ (d = 4 ∧ rmv d = 1 ∧ cmv d = 0) ∨ (d = 5 ∧ rmv d = 1 ∧ cmv d = -1) ∨ (d = 6 ∧ rmv d = 0 ∧ cmv d = -1) ∨ (d = 7 ∧ rmv d = -1 ∧ cmv d = -1) ∨ (d = 8 ∧ rmv d = -2 ∧ cmv d = 1) ∨ (d = 9 ∧ rmv d = -2 ∧ cmv d = -1) ∨ (d = 10 ∧ rmv d = 2 ∧ cmv d = -1) ∨ (d = 11 ∧ rmv d = 2 ∧ cmv d = 1) := by
  rcases (show d = 0 ∨ d = 1 ∨ d = 2 ∨ d = 3 ∨ d = 4 ∨ d = 5 ∨ d = 6 ∨ d = 7 ∨ d = 8 ∨ d = 9 ∨ d = 10 ∨ d = 11 by omega) with rfl | rfl | rfl | rfl | rfl | rfl | rfl | rfl | rfl | rfl | rfl | rfl <;> simp [rmv, cmv]
/-- a field is reached in one direction and at one distance alone (jumps: once) -/
theorem At.uniq {N d d' j j' f x : Nat} (hd : d < 12) (hd' : d' < 12) (hj : 1 ≤ j) (hj' : 1 ≤ j') (h8 : 8 ≤ d → j = 1) (h8' : 8 ≤ d' → j' = 1) (h : At N d j f x) (h' : At N d' j' f x) : d = d' ∧ j = j' := by
  obtain ⟨a, b⟩ := h
  obtain ⟨a', b'⟩ := h'
  have e1 : (j : Int) * rmv d = j' * rmv d' := by omega
  have e2 : (j : Int) * cmv d = j' * cmv d' := by omega
  clear a b a' b'
  rcases vec_tab d hd with ⟨rfl, p, q⟩ | ⟨rfl, p, q⟩ | ⟨rfl, p, q⟩ | ⟨rfl, p, q⟩ | ⟨rfl, p, q⟩ | ⟨rfl, p, q⟩ | ⟨rfl, p, q⟩ | ⟨rfl, p, q⟩ | ⟨rfl, p, q⟩ | ⟨rfl, p, q⟩ | ⟨rfl, p, q⟩ | ⟨rfl, p, q⟩ <;> rw [p] at e1 <;> rw [q] at e2 <;>
  rcases vec_tab d' hd' with ⟨rfl, p', q'⟩ | ⟨rfl, p', q'⟩ | ⟨rfl, p', q'⟩ | ⟨rfl, p', q'⟩ | ⟨rfl, p', q'⟩ | ⟨rfl, p', q'⟩ | ⟨rfl, p', q'⟩ | ⟨rfl, p', q'⟩ | ⟨rfl, p', q'⟩ | ⟨rfl, p', q'⟩ | ⟨rfl, p', q'⟩ | ⟨rfl, p', q'⟩ <;> rw [p'] at e1 <;> rw [q'] at e2 <;> omega
theorem dirOf_inj : ∀ s, s < 2 → ∀ b, b < 10 → ∀ c, c < 10 → dirOf s b = dirOf s c → b = c := by decide
theorem dirOf_8 : ∀ s, s < 2 → ∀ b, b < 10 → (8 ≤ dirOf s b ↔ 8 ≤ b) := by decide
/-! ===== the class: what a man reaches ===== -/
/-- what the class's cells hold of shape and kinds -/
def XK (N : Nat) (K : Kd) (w : Wd) : Prop := w.1 22 1 = nI N ∧ w.1 22 2 = nI (N * N) ∧ N ≤ 7 ∧ 5 ≤ N ∧ (∀ d, d < 12 → ∀ f, f < N * N → w.1 3 (d * (N * N) + f) = ov (nx N d f)) ∧ ∀ t, t < 16 → w.1 6 t = nI (K.1 t) ∧ w.1 7 t = nI (K.2.1 t) ∧ K.1 t < 1024 ∧ K.2.1 t < 256
def XB (N : Nat) (bo : Nat → Nat) (w : Wd) : Prop := ∀ q, q < N * N → w.1 23 q = nI (bo q) ∧ bo q ≤ 32
def SameX (w w' : Wd) : Prop := w'.2 = w.2 ∧ ∀ k, k ≠ 26 → w'.1 k = w.1 k
theorem SameX.rf {w : Wd} : SameX w w := ⟨rfl, fun _ _ => rfl⟩
theorem SameX.tr {a b c : Wd} (x : SameX a b) (y : SameX b c) : SameX a c := ⟨y.1.trans x.1, fun k h => (y.2 k h).trans (x.2 k h)⟩
theorem SameX.i {w : Wd} {j : Nat} {v : Int32} : SameX w (wdI w 26 j v) := ⟨rfl, fun k h => wI_c h⟩
theorem XK.same {N : Nat} {K : Kd} {w w' : Wd} (h : XK N K w) (s : SameX w w') : XK N K w' := by
  unfold XK
  rw [s.2 22 (by decide), s.2 3 (by decide), s.2 6 (by decide), s.2 7 (by decide)]
  exact h
theorem XB.same {N : Nat} {bo : Nat → Nat} {w w' : Wd} (h : XB N bo w) (s : SameX w w') : XB N bo w' := by
  unfold XB
  rw [s.2 23 (by decide)]
  exact h
/-- the list of reached fields, in cell 26 -/
def XR (N : Nat) (R : List Nat) (w : Wd) : Prop := (∀ k g, R[k]? = some g → w.1 26 k = nI g) ∧ R.Nodup ∧ ∀ g ∈ R, g < N * N
theorem XR.push {N g : Nat} {R : List Nat} {w : Wd} (h : XR N R w) (hg : g < N * N) (hn : g ∉ R) : R.length < N * N ∧ XR N (addU R g) (wdI w 26 R.length (nI g)) ∧ (addU R g).length = R.length + 1 := by
  have e : addU R g = R ++ [g] := if_neg hn
  have hnd : (addU R g).Nodup := addU_nodup h.2.1
  have hlt : ∀ x ∈ addU R g, x < N * N := fun x hx => by
    rcases addU_mem.mp hx with hx | rfl
    · exact h.2.2 x hx
    · exact hg
  have hlen := nodup_len (N * N) (addU R g) hnd hlt
  have el : (addU R g).length = R.length + 1 := by rw [e, List.length_append]; rfl
  refine ⟨by omega, ⟨?_, hnd, hlt⟩, el⟩
  intro k x hk
  rw [e] at hk
  by_cases ek : k = R.length
  · subst ek
    simp at hk
    rw [wI_s, hk]
  · rw [wI_n ek]
    have : k < R.length := by
      have := (List.getElem?_eq_some_iff.mp hk).1
      simp at this
      omega
    rw [List.getElem?_append_left this] at hk
    exact h.1 k x hk
