/-! ===== the class: a move's number read ===== -/
theorem sh16r : (((16 : Int32) &&& 31).toBitVec.smod 32).toNat = 16 := by decide
theorem cd_to {c a : Nat} (hc : c < 65536) (ha : a ≤ 32) : nI (c + 65536 * a) &&& (63 : Int32) = nI (ct c) := by
  rw [pk_andN (by omega) 6 rfl]
  congr 1
  unfold ct
  omega
theorem cd_from {c a : Nat} (hc : c < 65536) (ha : a ≤ 32) : (nI (c + 65536 * a) >>> ((6 : Int32) &&& 31)) &&& (63 : Int32) = nI (cf c) := by
  rw [pk_shrN (by omega) _ 6 sh6, pk_andN (by omega) 6 rfl]
  congr 1
  unfold cf
  omega
theorem cd_kind {c a : Nat} (hc : c < 65536) (ha : a ≤ 32) : (nI (c + 65536 * a) >>> ((13 : Int32) &&& 31)) &&& (7 : Int32) = nI (ck c) := by
  rw [pk_shrN (by omega) _ 13 sh13, pk_andN (by omega) 3 rfl]
  congr 1
  unfold ck
  omega
theorem cd_taken {c a : Nat} (hc : c < 65536) (ha : a ≤ 32) : nI (c + 65536 * a) >>> ((16 : Int32) &&& 31) = nI a := by
  rw [pk_shrN (by omega) _ 16 sh16]
  congr 1
  omega
theorem cd_raise {c a : Nat} (hc : c < 65536) (ha : a ≤ 32) : (nI (c + 65536 * a) &&& (4096 : Int32) = 0) ↔ cr c = 0 := by
  rw [show (4096 : Int32) = nI 4096 from rfl, nI_and]
  have hb : bt (c + 65536 * a) 12 = true ↔ cr c ≠ 0 := by
    unfold bt cr
    rw [beq_iff_eq]
    omega
  have hle : (c + 65536 * a) &&& 4096 ≤ 4096 := Nat.and_le_right
  constructor
  · intro h
    have h0 : (c + 65536 * a) &&& 4096 = 0 := (nI_inj (b := 0) (by omega) (by omega)).mp h
    refine Classical.byContradiction fun q => ?_
    exact (and_ne0 (x := c + 65536 * a) (y := 4096)).mpr ⟨12, hb.mpr q, by rw [show (4096 : Nat) = 2 ^ 12 from rfl, bt_pow]; rfl⟩ h0
  · intro h
    have h0 : (c + 65536 * a) &&& 4096 = 0 := Classical.byContradiction fun q => by
      obtain ⟨e, e1, e2⟩ := (and_ne0 (x := c + 65536 * a) (y := 4096)).mp q
      rw [show (4096 : Nat) = 2 ^ 12 from rfl, bt_pow, decide_eq_true_eq] at e2
      subst e2
      exact hb.mp e1 h
    rw [h0]
    rfl
theorem tri_code {N : Nat} {K : Kd} {P : Ps} (h1 : N ≤ 7) {c : Nat} (hc : c ∈ triL N K P) : c < 65536 := by
  have hNN := NN_le h1
  unfold triL at hc
  rcases List.mem_append.mp hc with hc | hc
  · obtain ⟨f, hf, hc⟩ := List.mem_flatMap.mp hc
    rw [List.mem_range] at hf
    unfold gosAt at hc
    split at hc
    · obtain ⟨t, ht, hc⟩ := List.mem_flatMap.mp hc
      have ht49 : t < 64 ∨ True := Or.inr trivial
      unfold goTo at hc
      split at hc
      · simp at hc
      · have : c = goC f t 0 ∨ c = goC f t 1 := by
          rcases List.mem_append.mp hc with hc | hc
          · split at hc
            · exact Or.inl (by simpa using hc)
            · simp at hc
          · split at hc
            · exact Or.inr (by simpa using hc)
            · simp at hc
        have htb : ∀ x ∈ reachL N K P.1 (P.1 f) f, x < 50000 := by
          intro x hx
          rcases mem_reach.mp hx with ⟨b, hb, h⟩ | ⟨b, hb, h⟩
          · unfold stepO at h
            split at h
            · unfold nx at h
              split at h
              · rename_i q
                have := Option.some.inj h
                obtain ⟨q1, q2, q3, q4⟩ := q
                have hm : (((f / N : Nat) : Int) + rmv (dirOf (sd (P.1 f)) b)) * N ≤ 7 * 7 := Int.mul_le_mul (by omega) (by omega) (by omega) (by omega)
                omega
              · cases h
            · cases h
          · have gen : ∀ (k : Nat) (o : Option Nat), (∀ g, o = some g → g < 50000) → ∀ y ∈ rayO N (dirOf (sd (P.1 f)) b) P.1 k o, y < 50000 := by
              intro k
              induction k with
              | zero => intro o _ y hy; simp [rayO] at hy
              | succ k ih =>
                intro o ho y hy
                cases o with
                | none => simp [rayO] at hy
                | some g =>
                  unfold rayO at hy
                  rcases List.mem_cons.mp hy with rfl | hy
                  · exact ho y rfl
                  · split at hy
                    · refine ih _ (fun z hz => ?_) y hy
                      unfold nx at hz
                      split at hz
                      · rename_i q
                        have := Option.some.inj hz
                        obtain ⟨q1, q2, q3, q4⟩ := q
                        have hm : (((g / N : Nat) : Int) + rmv (dirOf (sd (P.1 f)) b)) * N ≤ 7 * 7 := Int.mul_le_mul (by omega) (by omega) (by omega) (by omega)
                        omega
                      · cases hz
                    · simp at hy
            refine gen 7 _ (fun z hz => ?_) x h
            unfold runO at hz
            split at hz
            · unfold nx at hz
              split at hz
              · rename_i q
                have := Option.some.inj hz
                obtain ⟨q1, q2, q3, q4⟩ := q
                have hm : (((f / N : Nat) : Int) + rmv (dirOf (sd (P.1 f)) b)) * N ≤ 7 * 7 := Int.mul_le_mul (by omega) (by omega) (by omega) (by omega)
                omega
              · cases hz
            · cases hz
        have := htb t ht
        unfold goC at *
        omega
    · simp at hc
  · obtain ⟨k, hk, hc⟩ := List.mem_flatMap.mp hc
    rw [List.mem_range'_1] at hk
    unfold setsOf at hc
    split at hc
    · simp at hc
    · obtain ⟨f, hf, hc⟩ := List.mem_flatMap.mp hc
      rw [List.mem_range] at hf
      unfold setAt at hc
      split at hc
      · have e : c = seC k f := by simpa using hc
        unfold seC at e
        omega
      · simp at hc
