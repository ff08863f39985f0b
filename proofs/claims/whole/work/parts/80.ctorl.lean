/-! the constructors of Lines and of DropChase (made in part by gen/mk80.py) -/
theorem nj_simW {E : Ev} {M : Mt} {q0 mc ms : Nat} {rd : va_W} {pc : Nat} {lv : List (Nat × Value)} {kc ks : Nat} {L : List Nat} {w w' : Wd} {cn : (Nat → Nat) → Prop} {F : Option (Unit × Wd)} (a : Nat → Nat) (k0 : Nat) (hk0 : k0 ∈ L) (ha0 : a k0 = q0) (hc : cn a) (hkc : kc ≤ mc) (hks : ks ≤ ms) (hF : F = some ((), w')) (hsim : Sim (Eu E a L) M rV pc lv [] w F) : NJ E M q0 mc ms rd (QN E L w' cn q0) pc lv [] (wv (Eu E a L) w) kc ks := by
  intro p e s m args below meth c H locs ls C hrt hk2 hE hR hP hD hS hl
  have hAA : AA (Eu E a L) s.heap.size = AN q0 s.heap.size := funext fun z => propext ⟨fun hz => by
    rcases hz with ⟨k, hk, rfl⟩ | hz
    · obtain ⟨p0, -, h0⟩ := wv_at (E := Eu E a L) w hk
      exact hD.2 p0 _ h0
    · exact Or.inr hz, fun hz => by
    rcases hz with rfl | hz
    · exact Or.inl ⟨k0, hk0, ha0⟩
    · exact Or.inr hz⟩
  refine W.widen hkc hks ?_
  have h := hsim () w' hF mc ms p e s m args below meth c H locs ls C hrt hk2 (by rw [hAA]; exact hE.1) hP (by rw [hAA]; exact hD) (by rw [hAA]; exact hS) hl
  intro T hT X
  obtain ⟨t, h1, o, h2, h3, ⟨h4, h5, h6, h7⟩, h8⟩ := h T hT X
  rw [hAA] at h6 h7 h8
  exact ⟨t, h1, o, h2, h3, ⟨h4, ⟨a, hc, h5, h6⟩, h7⟩, h8⟩
theorem nj_vretW {E : Ev} {M : Mt} {q0 mc ms : Nat} {rd : va_W} {pc : Nat} {lv : List (Nat × Value)} {kc ks : Nat} {L : List Nat} {w : Wd} {cn : (Nat → Nat) → Prop} (a : Nat → Nat) (hc : cn a) (hr : M.2.2.2.1 = none) (hkc : kc ≤ mc) (hks : ks ≤ ms) (hd : decode M.2.1 pc = .ok (.return_, 1)) : NJ E M q0 mc ms rd (QN E L w cn q0) pc lv [] (wv (Eu E a L) w) kc ks := by
  intro p e s m args below meth c H locs ls C hrt hk2 hE hR hP hD hS hl
  refine W.widen hkc hks ?_
  exact W.vret C.1 C.2.1 (hrt.1.trans hr) (fun t ht hW => ⟨rfl, ⟨a, hc, by rw [ht]; exact hP, hD⟩, hS.F ht⟩) hS.2.2 hd hk2
def LlL (N : Nat) : List Nat := [11, 12, 13, 14] ++ (List.range N).map (fun i => 14 + 1 + i)
def aLn (q q1 q2 q3 : Nat) : Nat → Nat := fun k => if 15 ≤ k then q3 + 1 + (k - 15) else lk [(11, q), (12, q1), (13, q2), (14, q3)] k
theorem ln_in (N : Nat) : ∀ k, inN k = true → k ∈ LlL N := fun k hk => by
  simp only [inN, Bool.and_eq_true, decide_eq_true_eq] at hk
  rcases (show k = 11 ∨ k = 12 ∨ k = 13 ∨ k = 14 by omega) with rfl | rfl | rfl | rfl <;> simp [LlL]
theorem li_wv {E : Ev} (hN : En E ≤ 7) (q q1 q2 q3 : Nat) : ([(q, .inr (1, [.int (nI (En E)), .ref q1, .ref q2, .ref q3])), (q1, .inl (Ey E 0, En E, .inl (fun _ => 0))), (q2, .inl (Ey E 0, En E, .inl (fun _ => 0))), (q3, .inl (Ey E 3, En E, .inr (.inr (.inr (.inr (fun i => if i < En E then some (q3 + 1 + i) else none))))))] : va_W) ++ (List.range (En E)).map (fun i => (q3 + 1 + i, .inl (Ey E 0, 12, .inl (fun _ => 0)))) = wv (Eu E (aLn q q1 q2 q3) (LlL (En E))) (wb (En E)) := by
  have h15 : ∀ i, aLn q q1 q2 q3 (14 + 1 + i) = q3 + 1 + i := fun i => by
    unfold aLn
    rw [if_pos (by omega)]
    omega
  show _ = List.map _ ([11, 12, 13, 14] ++ (List.range (En E)).map (fun i => 14 + 1 + i))
  rw [List.map_append, List.map_map]
  congr 1
  · have e1 : (fun i => if i < En E then some (q3 + 1 + i) else none) = (fun i => if i < En E then some (aLn q q1 q2 q3 (14 + 1 + i)) else none) := funext fun i => by rw [h15]
    rw [e1]
    rfl
  · refine List.map_congr_left (fun i hi => ?_)
    have hi2 := List.mem_range.mp hi
    show _ = (aLn q q1 q2 q3 (14 + 1 + i), ce (Eu E (aLn q q1 q2 q3) (LlL (En E))) (wb (En E)) (14 + 1 + i))
    rw [h15]
    rcases (show i = 0 ∨ i = 1 ∨ i = 2 ∨ i = 3 ∨ i = 4 ∨ i = 5 ∨ i = 6 by omega) with rfl | rfl | rfl | rfl | rfl | rfl | rfl <;> rfl

set_option maxRecDepth 20000 in
theorem n_X1 {E : Ev} {q : Nat} (hN : En E ≤ 7) {wL : Wd} (hF : f_X1_init (En E) (nI (En E)) (wb (En E)) = some ((), wL)) : Cn E m_X1_init yX1_init 10 105 q 1 [.int 0, .null, .null, .null] [.int (nI (En E))] [] (LlL (En E)) wL (fun a => a 11 = q) := by
  refine Cn.of (by decide) ⟨rfl, rfl⟩ (Nat.le_of_ble_eq_true rfl) ?_
  refine nj_aload_n 0 dX1_init_0 rfl rfl ?_
  refine nj_obj ob_X1_3 ob_i ob_c (Nat.le_of_ble_eq_true rfl) dX1_init_1 rfl ?_
  refine nj_aload_n 0 dX1_init_4 rfl rfl ?_
  refine nj_iload_n 1 dX1_init_5 rfl rfl ?_
  refine nj_putF fpf_X1_9 rfl rfl rfl (Nat.le_of_ble_eq_true rfl) dX1_init_6 rfl ?_
  refine nj_ws (ws2 := [(q, .inr (1, [.int (nI (En E)), .null, .null, .null]))]) rfl ?_
  refine nj_aload_n 0 dX1_init_9 rfl rfl ?_
  refine nj_iload_n 1 dX1_init_10 rfl rfl ?_
  refine nj_newa (at1 := .int) (ty := .int) (i := 0) (N' := En E) (zr := (En E, .inl (fun _ => 0))) rfl ac_I rfl (fun _ h => by cases h) (fun _ => rfl) (nI_nn (by omega)) (nI_cl (by omega)) (by show _ * 4 ≤ _; omega) (by omega) (by omega) dX1_init_11 rfl (fun q1 => ?_)
  refine nj_putF fpf_X1_15 rfl rfl rfl (Nat.le_of_ble_eq_true rfl) dX1_init_13 rfl ?_
  refine nj_ws (ws2 := [(q, .inr (1, [.int (nI (En E)), .ref q1, .null, .null])), (q1, .inl (Ey E 0, En E, .inl (fun _ => 0)))]) rfl ?_
  refine nj_aload_n 0 dX1_init_16 rfl rfl ?_
  refine nj_iload_n 1 dX1_init_17 rfl rfl ?_
  refine nj_newa (at1 := .int) (ty := .int) (i := 0) (N' := En E) (zr := (En E, .inl (fun _ => 0))) rfl ac_I rfl (fun _ h => by cases h) (fun _ => rfl) (nI_nn (by omega)) (nI_cl (by omega)) (by show _ * 4 ≤ _; omega) (by omega) (by omega) dX1_init_18 rfl (fun q2 => ?_)
  refine nj_putF fpf_X1_19 rfl rfl rfl (Nat.le_of_ble_eq_true rfl) dX1_init_20 rfl ?_
  refine nj_ws (ws2 := [(q, .inr (1, [.int (nI (En E)), .ref q1, .ref q2, .null])), (q1, .inl (Ey E 0, En E, .inl (fun _ => 0))), (q2, .inl (Ey E 0, En E, .inl (fun _ => 0)))]) rfl ?_
  refine nj_aload_n 0 dX1_init_23 rfl rfl ?_
  refine nj_iload_n 1 dX1_init_24 rfl rfl ?_
  refine nj_bipush (12 : Int32) dX1_init_25 rfl rfl ?_
  refine nj_rows (N := En E) (K := 12) ac_I cl_X1_22 (nI_nn (by omega)) (by decide) (nI_cl (by omega)) rfl (by omega) (by omega) (by omega) (by omega) dX1_init_27 rfl (fun q3 => ?_)
  refine nj_putF fpf_X1_24 rfl rfl rfl (Nat.le_of_ble_eq_true rfl) dX1_init_31 rfl ?_
  refine nj_ws (ws2 := wv (Eu E (aLn q q1 q2 q3) (LlL (En E))) (wb (En E))) (li_wv hN q q1 q2 q3) ?_
  exact nj_simW _ 11 (by simp [LlL]) rfl rfl (by omega) (by omega) hF (s_X1_init (E := Eu E _ (LlL (En E))) (ln_in _) _ _)
