/-! the constructor of DropChase (made by gen/mk81.py) -/
def LxL (N : Nat) : List Nat := 0 :: 1 :: (((((((([2, 3, 4, 5, 6, 7, 8, 9, 10] ++ LlL N) ++ [22, 23, 24, 25, 26]) ++ [27, 28]) ++ [29, 30, 31, 32]) ++ [33, 34]) ++ [35, 36, 37, 38]) ++ [39, 40, 41, 42]))
def wx0 (N : Nat) (wW wL : Wd) : Wd := (fun k => if decide (2 ≤ k) && decide (k ≤ 10) then wW.1 k else if decide (11 ≤ k) && decide (k ≤ 21) then wL.1 k else (wb N).1 k, (wb N).2)
def axA (q qh : Nat) (aW aL aT aR aC aX aP aS : Nat → Nat) : Nat → Nat := fun k => if k = 0 then q else if k = 1 then qh else if k ≤ 10 then aW k else if k ≤ 21 then aL k else if k ≤ 26 then aT k else if k ≤ 28 then aR k else if k ≤ 32 then aC k else if k ≤ 34 then aX k else if k ≤ 38 then aP k else aS k
theorem x9_wv {E : Ev} (hN : En E ≤ 7) (q qh : Nat) (aW aL aT aR aC aX aP aS : Nat → Nat) (wW wL : Wd) (haT : aT 2 = aW 2) (haR : aR 2 = aW 2) (haR2 : aR 22 = aT 22) (haC : aC 27 = aR 27) (haC2 : aC 22 = aT 22) (haP : aP 22 = aT 22) (haS : aS 22 = aT 22) :
    ((q, .inr (7, [.int (nI (En E * En E)), .ref (aW 2), .ref (aL 11), .ref qh, .ref (aT 22), .ref (aR 27), .ref (aC 29), .ref (aX 33), .ref (aP 35), .ref (aS 39), .int 0, .int 0, .int 0])) :: (qh, .inl (Ey E 0, 16, .inl (fun _ => 0))) :: (((((((wv (Eu E aW [2, 3, 4, 5, 6, 7, 8, 9, 10]) wW ++ wv (Eu E aL (LlL (En E))) wL) ++ wv (Eu E aT [22, 23, 24, 25, 26]) (wb (En E))) ++ wv (Eu E aR [27, 28]) (wb (En E))) ++ wv (Eu E aC [29, 30, 31, 32]) (wb (En E))) ++ wv (Eu E aX [33, 34]) (wb (En E))) ++ wv (Eu E aP [35, 36, 37, 38]) (wb (En E))) ++ wv (Eu E aS [39, 40, 41, 42]) (wb (En E))) : va_W) = wv (Eu E (axA q qh aW aL aT aR aC aX aP aS) (LxL (En E))) (wx0 (En E) wW wL) := by
  generalize ha : axA q qh aW aL aT aR aC aX aP aS = a
  have hF : wv (Eu E a (LxL (En E))) (wx0 (En E) wW wL) = (a 0, ce (Eu E a (LxL (En E))) (wx0 (En E) wW wL) 0) :: (a 1, ce (Eu E a (LxL (En E))) (wx0 (En E) wW wL) 1) :: List.map (fun k => (a k, ce (Eu E a (LxL (En E))) (wx0 (En E) wW wL) k)) (((((((([2, 3, 4, 5, 6, 7, 8, 9, 10] ++ LlL (En E)) ++ [22, 23, 24, 25, 26]) ++ [27, 28]) ++ [29, 30, 31, 32]) ++ [33, 34]) ++ [35, 36, 37, 38]) ++ [39, 40, 41, 42])) := rfl
  have e1 : wv (Eu E aW [2, 3, 4, 5, 6, 7, 8, 9, 10]) wW = List.map (fun k => (a k, ce (Eu E a (LxL (En E))) (wx0 (En E) wW wL) k)) [2, 3, 4, 5, 6, 7, 8, 9, 10] := by subst ha; rfl
  have e2 : wv (Eu E aL (LlL (En E))) wL = List.map (fun k => (a k, ce (Eu E a (LxL (En E))) (wx0 (En E) wW wL) k)) (LlL (En E)) := by
    have h14 : (fun i => if i < En E then some (aL (14 + 1 + i)) else none) = (fun i => if i < En E then some (a (14 + 1 + i)) else none) := funext fun i => by
      by_cases hi : i < En E
      · rw [if_pos hi, if_pos hi]
        subst ha
        rcases (show i = 0 ∨ i = 1 ∨ i = 2 ∨ i = 3 ∨ i = 4 ∨ i = 5 ∨ i = 6 by omega) with rfl | rfl | rfl | rfl | rfl | rfl | rfl <;> rfl
      · rw [if_neg hi, if_neg hi]
    show List.map _ ([11, 12, 13, 14] ++ (List.range (En E)).map (fun i => 14 + 1 + i)) = List.map _ ([11, 12, 13, 14] ++ (List.range (En E)).map (fun i => 14 + 1 + i))
    rw [List.map_append, List.map_append]
    congr 1
    · show [_, _, _, (aL 14, (.inl (Ey E 3, En E, .inr (.inr (.inr (.inr (fun i => if i < En E then some (aL (14 + 1 + i)) else none))))) : va_E))] = _
      rw [h14]
      subst ha
      rfl
    · refine List.map_congr_left (fun k hk => ?_)
      obtain ⟨i, hi, rfl⟩ := List.mem_map.mp hk
      have hi2 := List.mem_range.mp hi
      subst ha
      rcases (show i = 0 ∨ i = 1 ∨ i = 2 ∨ i = 3 ∨ i = 4 ∨ i = 5 ∨ i = 6 by omega) with rfl | rfl | rfl | rfl | rfl | rfl | rfl <;> rfl
  have e3 : wv (Eu E aT [22, 23, 24, 25, 26]) (wb (En E)) = List.map (fun k => (a k, ce (Eu E a (LxL (En E))) (wx0 (En E) wW wL) k)) [22, 23, 24, 25, 26] := by
    show (aT 22, (.inr (4, [.ref (aT 2), _, _, _, _, _, _, _]) : va_E)) :: _ = _
    rw [haT]; subst ha; rfl
  have e4 : wv (Eu E aR [27, 28]) (wb (En E)) = List.map (fun k => (a k, ce (Eu E a (LxL (En E))) (wx0 (En E) wW wL) k)) [27, 28] := by
    show (aR 27, (.inr (3, [.ref (aR 2), .ref (aR 22), _, _]) : va_E)) :: _ = _
    rw [haR, haR2]; subst ha; rfl
  have e5 : wv (Eu E aC [29, 30, 31, 32]) (wb (En E)) = List.map (fun k => (a k, ce (Eu E a (LxL (En E))) (wx0 (En E) wW wL) k)) [29, 30, 31, 32] := by
    show (aC 29, (.inr (0, [.ref (aC 27), .ref (aC 22), _, _, _, _, _, _, _]) : va_E)) :: _ = _
    rw [haC, haC2]; subst ha; rfl
  have e6 : wv (Eu E aX [33, 34]) (wb (En E)) = List.map (fun k => (a k, ce (Eu E a (LxL (En E))) (wx0 (En E) wW wL) k)) [33, 34] := by subst ha; rfl
  have e7 : wv (Eu E aP [35, 36, 37, 38]) (wb (En E)) = List.map (fun k => (a k, ce (Eu E a (LxL (En E))) (wx0 (En E) wW wL) k)) [35, 36, 37, 38] := by
    show (aP 35, (.inr (2, [.ref (aP 22), _, _, _, _, _, _, _, _]) : va_E)) :: _ = _
    rw [haP]; subst ha; rfl
  have e8 : wv (Eu E aS [39, 40, 41, 42]) (wb (En E)) = List.map (fun k => (a k, ce (Eu E a (LxL (En E))) (wx0 (En E) wW wL) k)) [39, 40, 41, 42] := by
    show (aS 39, (.inr (2, [.ref (aS 22), _, _, _, _, _, _, _, _]) : va_E)) :: _ = _
    rw [haS]; subst ha; rfl
  rw [hF, List.map_append, List.map_append, List.map_append, List.map_append, List.map_append, List.map_append, List.map_append, e1, e2, e3, e4, e5, e6, e7, e8]
  subst ha
  rfl
set_option maxRecDepth 20000 in
set_option maxHeartbeats 4000000 in
theorem n_X9_28 {E : Ev} {q qh : Nat} {v1 : Int32} (hN : En E ≤ 7) {wW wL : Wd} (hFW : f_X8_init (En E) (nI (En E)) (wb (En E)) = some ((), wW)) (hW0 : wW.1 2 0 = nI (En E)) (hW1 : wW.1 2 1 = nI (En E * En E)) (hFL : f_X1_init (En E) (nI (En E)) (wb (En E)) = some ((), wL)) :
    NJ E m_X9_init q 42 24778 [] (QN E (LxL (En E)) (wx0 (En E) wW wL) (fun a => a 0 = q) q) 28 [(0, .ref q), (1, .int v1)] [.int (nI (En E))] [(q, .inr (7, [.int 0, .null, .null, .ref qh, .null, .null, .null, .null, .null, .null, .int 0, .int 0, .int 0])), (qh, .inl (Ey E 0, 16, .inl (fun _ => 0)))] 1 16 := by
  refine nj_istore_n [(2, .int (nI (En E))), (0, .ref q), (1, .int v1)] dX9_init_28 (Nat.le_of_ble_eq_true rfl) rfl rfl ?_
  refine nj_aload_n 1 dX9_init_29 rfl rfl ?_
  refine nj_iload_n 0 dX9_init_30 rfl rfl ?_
  refine nj_iload_n 0 dX9_init_31 rfl rfl ?_
  refine nj_imul (z := nI (En E * En E)) dX9_init_32 (nI_sq _) rfl ?_
  refine nj_putF fpf_X9_13 rfl rfl rfl (Nat.le_of_ble_eq_true rfl) dX9_init_33 rfl ?_
  refine nj_ws (ws2 := ((q, .inr (7, [.int (nI (En E * En E)), .null, .null, .ref qh, .null, .null, .null, .null, .null, .null, .int 0, .int 0, .int 0])) :: (qh, .inl (Ey E 0, 16, .inl (fun _ => 0))) :: [] : va_W)) rfl ?_
  refine nj_aload_n 1 dX9_init_36 rfl rfl ?_
  refine nj_new (ci := 6) (fs := [.int 0, .int 0, .null, .null, .null, .null, .null, .null, .null, .null]) tyX8 rfl tb_X8 tyX8_ok cl_X9_17 is_X8 ini_X8 (fun j hj => by rcases (show j = 0 ∨ j = 1 ∨ j = 2 ∨ j = 3 ∨ j = 4 ∨ j = 5 ∨ j = 6 ∨ j = 7 ∨ j = 8 ∨ j = 9 by omega) with rfl | rfl | rfl | rfl | rfl | rfl | rfl | rfl | rfl | rfl <;> rfl) (by omega) (by omega) dX9_init_37 rfl (fun qW => ?_)
  refine nj_dup dX9_init_40 rfl rfl ?_
  refine nj_iload_n 0 dX9_init_41 rfl rfl ?_
  refine nj_ctor (n := 1) (n_X8 hN hFW) cd_X8_init rfl ml_X9_19 ini_X8 im_X8_init rfl (by decide +kernel) rfl (by decide) (fun k x hx => by cases hx) rfl (by omega) (by omega) rfl (Nat.le_of_ble_eq_true rfl) dX9_init_42 rfl (fun aW haW => ?_)
  subst haW
  obtain ⟨fw, hfw⟩ : ∃ fw : List Value, fvs aW wW 2 = .int (nI (En E)) :: .int (nI (En E * En E)) :: fw := ⟨[.ref (aW 3), .ref (aW 4), .ref (aW 5), .ref (aW 6), .ref (aW 7), .ref (aW 8), .ref (aW 9), .ref (aW 10)], by show [Value.int (wW.1 2 0), Value.int (wW.1 2 1), _, _, _, _, _, _, _, _] = _; rw [hW0, hW1]⟩
  refine nj_putF fpf_X9_22 rfl rfl rfl (Nat.le_of_ble_eq_true rfl) dX9_init_45 rfl ?_
  refine nj_ws (ws2 := ((q, .inr (7, [.int (nI (En E * En E)), .ref (aW 2), .null, .ref qh, .null, .null, .null, .null, .null, .null, .int 0, .int 0, .int 0])) :: (qh, .inl (Ey E 0, 16, .inl (fun _ => 0))) :: wv (Eu E aW [2, 3, 4, 5, 6, 7, 8, 9, 10]) wW : va_W)) rfl ?_
  refine nj_aload_n 1 dX9_init_48 rfl rfl ?_
  refine nj_new (ci := 1) (fs := [.int 0, .null, .null, .null]) tyX1 rfl tb_X1 tyX1_ok cl_X9_26 is_X1 ini_X1 (fun j hj => by rcases (show j = 0 ∨ j = 1 ∨ j = 2 ∨ j = 3 by omega) with rfl | rfl | rfl | rfl <;> rfl) (by omega) (by omega) dX9_init_49 rfl (fun qL => ?_)
  refine nj_dup dX9_init_52 rfl rfl ?_
  refine nj_iload_n 0 dX9_init_53 rfl rfl ?_
  refine nj_ctor (n := 1) (n_X1 hN hFL) cd_X1_init rfl ml_X9_28 ini_X1 im_X1_init rfl (by decide +kernel) rfl (by decide) (fun k x hx => by cases hx) rfl (by omega) (by omega) rfl (Nat.le_of_ble_eq_true rfl) dX9_init_54 rfl (fun aL haL => ?_)
  subst haL
  refine nj_putF fpf_X9_29 rfl rfl rfl (Nat.le_of_ble_eq_true rfl) dX9_init_57 rfl ?_
  refine nj_ws (ws2 := ((q, .inr (7, [.int (nI (En E * En E)), .ref (aW 2), .ref (aL 11), .ref qh, .null, .null, .null, .null, .null, .null, .int 0, .int 0, .int 0])) :: (qh, .inl (Ey E 0, 16, .inl (fun _ => 0))) :: (wv (Eu E aW [2, 3, 4, 5, 6, 7, 8, 9, 10]) wW ++ wv (Eu E aL (LlL (En E))) wL) : va_W)) rfl ?_
  refine nj_aload_n 1 dX9_init_60 rfl rfl ?_
  refine nj_new (ci := 4) (fs := [.null, .int 0, .int 0, .null, .null, .null, .null, .int 0]) tyX6 rfl tb_X6 tyX6_ok cl_X9_33 is_X6 ini_X6 (fun j hj => by rcases (show j = 0 ∨ j = 1 ∨ j = 2 ∨ j = 3 ∨ j = 4 ∨ j = 5 ∨ j = 6 ∨ j = 7 by omega) with rfl | rfl | rfl | rfl | rfl | rfl | rfl | rfl <;> rfl) (by omega) (by omega) dX9_init_61 rfl (fun qT => ?_)
  refine nj_dup dX9_init_64 rfl rfl ?_
  refine nj_aload_n 1 dX9_init_65 rfl rfl ?_
  refine nj_get 0 rfl fl_X9_22 rfl dX9_init_66 rfl ?_
  have hrd : ∀ (k : Nat) (x : Nat × va_E), ([(aW 2, .inr (6, .int (nI (En E)) :: .int (nI (En E * En E)) :: fw))] : va_W)[k]? = some x → ∃ i : Nat, ((q, .inr (7, [.int (nI (En E * En E)), .ref (aW 2), .ref (aL 11), .ref qh, .null, .null, .null, .null, .null, .null, .int 0, .int 0, .int 0])) :: (qh, .inl (Ey E 0, 16, .inl (fun _ => 0))) :: (wv (Eu E aW [2, 3, 4, 5, 6, 7, 8, 9, 10]) wW ++ wv (Eu E aL (LlL (En E))) wL) : va_W)[i]? = some x := fun k x hx => by
    cases k with
    | zero => cases hx; exact ⟨2, by show some (aW 2, (.inr (6, fvs aW wW 2) : va_E)) = _; rw [hfw]⟩
    | succ k => cases hx
  refine nj_ctor (n := 1) (n_X6 fw hN) cd_X6_init rfl ml_X9_35 ini_X6 im_X6_init rfl (by decide +kernel) rfl (Nat.le_refl _) (fun k x hx => hrd k x hx) rfl (by omega) (by omega) rfl (Nat.le_of_ble_eq_true rfl) dX9_init_69 rfl (fun aT haT => ?_)
  obtain ⟨rfl, haT⟩ := haT
  refine nj_putF fpf_X9_38 rfl rfl rfl (Nat.le_of_ble_eq_true rfl) dX9_init_72 rfl ?_
  refine nj_ws (ws2 := ((q, .inr (7, [.int (nI (En E * En E)), .ref (aW 2), .ref (aL 11), .ref qh, .ref (aT 22), .null, .null, .null, .null, .null, .int 0, .int 0, .int 0])) :: (qh, .inl (Ey E 0, 16, .inl (fun _ => 0))) :: ((wv (Eu E aW [2, 3, 4, 5, 6, 7, 8, 9, 10]) wW ++ wv (Eu E aL (LlL (En E))) wL) ++ wv (Eu E aT [22, 23, 24, 25, 26]) (wb (En E))) : va_W)) rfl ?_
  refine nj_aload_n 1 dX9_init_75 rfl rfl ?_
  refine nj_new (ci := 3) (fs := [.null, .null, .int 0, .null]) tyX5 rfl tb_X5 tyX5_ok cl_X9_42 is_X5 ini_X5 (fun j hj => by rcases (show j = 0 ∨ j = 1 ∨ j = 2 ∨ j = 3 by omega) with rfl | rfl | rfl | rfl <;> rfl) (by omega) (by omega) dX9_init_76 rfl (fun qR => ?_)
  refine nj_dup dX9_init_79 rfl rfl ?_
  refine nj_aload_n 1 dX9_init_80 rfl rfl ?_
  refine nj_get 0 rfl fl_X9_22 rfl dX9_init_81 rfl ?_
  refine nj_aload_n 1 dX9_init_84 rfl rfl ?_
  refine nj_get 0 rfl fl_X9_38 rfl dX9_init_85 rfl ?_
  have hrd : ∀ (k : Nat) (x : Nat × va_E), ([(aW 2, .inr (6, .int (nI (En E)) :: .int (nI (En E * En E)) :: fw))] : va_W)[k]? = some x → ∃ i : Nat, ((q, .inr (7, [.int (nI (En E * En E)), .ref (aW 2), .ref (aL 11), .ref qh, .ref (aT 22), .null, .null, .null, .null, .null, .int 0, .int 0, .int 0])) :: (qh, .inl (Ey E 0, 16, .inl (fun _ => 0))) :: ((wv (Eu E aW [2, 3, 4, 5, 6, 7, 8, 9, 10]) wW ++ wv (Eu E aL (LlL (En E))) wL) ++ wv (Eu E aT [22, 23, 24, 25, 26]) (wb (En E))) : va_W)[i]? = some x := fun k x hx => by
    cases k with
    | zero => cases hx; exact ⟨2, by show some (aW 2, (.inr (6, fvs aW wW 2) : va_E)) = _; rw [hfw]⟩
    | succ k => cases hx
  refine nj_ctor (n := 2) (n_X5 fw hN) cd_X5_init rfl ml_X9_44 ini_X5 im_X5_init rfl (by decide +kernel) rfl (Nat.le_refl _) (fun k x hx => hrd k x hx) rfl (by omega) (by omega) rfl (Nat.le_of_ble_eq_true rfl) dX9_init_88 rfl (fun aR haR => ?_)
  obtain ⟨rfl, haR, haR2⟩ := haR
  refine nj_putF fpf_X9_47 rfl rfl rfl (Nat.le_of_ble_eq_true rfl) dX9_init_91 rfl ?_
  refine nj_ws (ws2 := ((q, .inr (7, [.int (nI (En E * En E)), .ref (aW 2), .ref (aL 11), .ref qh, .ref (aT 22), .ref (aR 27), .null, .null, .null, .null, .int 0, .int 0, .int 0])) :: (qh, .inl (Ey E 0, 16, .inl (fun _ => 0))) :: (((wv (Eu E aW [2, 3, 4, 5, 6, 7, 8, 9, 10]) wW ++ wv (Eu E aL (LlL (En E))) wL) ++ wv (Eu E aT [22, 23, 24, 25, 26]) (wb (En E))) ++ wv (Eu E aR [27, 28]) (wb (En E))) : va_W)) rfl ?_
  refine nj_aload_n 1 dX9_init_94 rfl rfl ?_
  refine nj_new (ci := 0) (fs := [.null, .null, .null, .null, .null, .int 0, .int 0, .int 0, .int 0]) tyX0 rfl tb_X0 tyX0_ok cl_X9_51 is_X0 ini_X0 (fun j hj => by rcases (show j = 0 ∨ j = 1 ∨ j = 2 ∨ j = 3 ∨ j = 4 ∨ j = 5 ∨ j = 6 ∨ j = 7 ∨ j = 8 by omega) with rfl | rfl | rfl | rfl | rfl | rfl | rfl | rfl | rfl <;> rfl) (by omega) (by omega) dX9_init_95 rfl (fun qC => ?_)
  refine nj_dup dX9_init_98 rfl rfl ?_
  refine nj_aload_n 1 dX9_init_99 rfl rfl ?_
  refine nj_get 0 rfl fl_X9_47 rfl dX9_init_100 rfl ?_
  refine nj_aload_n 1 dX9_init_103 rfl rfl ?_
  refine nj_get 0 rfl fl_X9_38 rfl dX9_init_104 rfl ?_
  refine nj_ctor (n := 2) n_X0 cd_X0_init rfl ml_X9_53 ini_X0 im_X0_init rfl (by decide +kernel) rfl (by decide) (fun k x hx => by cases hx) rfl (by omega) (by omega) rfl (Nat.le_of_ble_eq_true rfl) dX9_init_107 rfl (fun aC haC => ?_)
  obtain ⟨rfl, haC, haC2⟩ := haC
  refine nj_putF fpf_X9_56 rfl rfl rfl (Nat.le_of_ble_eq_true rfl) dX9_init_110 rfl ?_
  refine nj_ws (ws2 := ((q, .inr (7, [.int (nI (En E * En E)), .ref (aW 2), .ref (aL 11), .ref qh, .ref (aT 22), .ref (aR 27), .ref (aC 29), .null, .null, .null, .int 0, .int 0, .int 0])) :: (qh, .inl (Ey E 0, 16, .inl (fun _ => 0))) :: ((((wv (Eu E aW [2, 3, 4, 5, 6, 7, 8, 9, 10]) wW ++ wv (Eu E aL (LlL (En E))) wL) ++ wv (Eu E aT [22, 23, 24, 25, 26]) (wb (En E))) ++ wv (Eu E aR [27, 28]) (wb (En E))) ++ wv (Eu E aC [29, 30, 31, 32]) (wb (En E))) : va_W)) rfl ?_
  refine nj_aload_n 1 dX9_init_113 rfl rfl ?_
  refine nj_new (ci := 5) (fs := [.int 0, .null, .int 0]) tyX7 rfl tb_X7 tyX7_ok cl_X9_60 is_X7 ini_X7 (fun j hj => by rcases (show j = 0 ∨ j = 1 ∨ j = 2 by omega) with rfl | rfl | rfl <;> rfl) (by omega) (by omega) dX9_init_114 rfl (fun qX => ?_)
  refine nj_dup dX9_init_117 rfl rfl ?_
  refine nj_iload_n 0 dX9_init_118 rfl rfl ?_
  refine nj_ctor (n := 1) n_X7 cd_X7_init rfl ml_X9_62 ini_X7 im_X7_init rfl (by decide +kernel) rfl (by decide) (fun k x hx => by cases hx) rfl (by omega) (by omega) rfl (Nat.le_of_ble_eq_true rfl) dX9_init_119 rfl (fun aX haX => ?_)
  subst haX
  refine nj_putF fpf_X9_63 rfl rfl rfl (Nat.le_of_ble_eq_true rfl) dX9_init_122 rfl ?_
  refine nj_ws (ws2 := ((q, .inr (7, [.int (nI (En E * En E)), .ref (aW 2), .ref (aL 11), .ref qh, .ref (aT 22), .ref (aR 27), .ref (aC 29), .ref (aX 33), .null, .null, .int 0, .int 0, .int 0])) :: (qh, .inl (Ey E 0, 16, .inl (fun _ => 0))) :: (((((wv (Eu E aW [2, 3, 4, 5, 6, 7, 8, 9, 10]) wW ++ wv (Eu E aL (LlL (En E))) wL) ++ wv (Eu E aT [22, 23, 24, 25, 26]) (wb (En E))) ++ wv (Eu E aR [27, 28]) (wb (En E))) ++ wv (Eu E aC [29, 30, 31, 32]) (wb (En E))) ++ wv (Eu E aX [33, 34]) (wb (En E))) : va_W)) rfl ?_
  refine nj_aload_n 1 dX9_init_125 rfl rfl ?_
  refine nj_new (ci := 2) (fs := [.null, .null, .null, .null, .int 0, .int 0, .int 0, .int 0, .int 0]) tyX4 rfl tb_X4 tyX4_ok cl_X9_67 is_X4 ini_X4 (fun j hj => by rcases (show j = 0 ∨ j = 1 ∨ j = 2 ∨ j = 3 ∨ j = 4 ∨ j = 5 ∨ j = 6 ∨ j = 7 ∨ j = 8 by omega) with rfl | rfl | rfl | rfl | rfl | rfl | rfl | rfl | rfl <;> rfl) (by omega) (by omega) dX9_init_126 rfl (fun qP => ?_)
  refine nj_dup dX9_init_129 rfl rfl ?_
  refine nj_aload_n 1 dX9_init_130 rfl rfl ?_
  refine nj_get 0 rfl fl_X9_38 rfl dX9_init_131 rfl ?_
  refine nj_ctor (n := 1) n_X4_35 cd_X4_init rfl ml_X9_69 ini_X4 im_X4_init rfl (by decide +kernel) rfl (by decide) (fun k x hx => by cases hx) rfl (by omega) (by omega) rfl (Nat.le_of_ble_eq_true rfl) dX9_init_134 rfl (fun aP haP => ?_)
  obtain ⟨rfl, haP⟩ := haP
  refine nj_put fp_X9_72 rfl rfl (Nat.le_of_ble_eq_true rfl) dX9_init_137 rfl ?_
  refine nj_ws (ws2 := ((q, .inr (7, [.int (nI (En E * En E)), .ref (aW 2), .ref (aL 11), .ref qh, .ref (aT 22), .ref (aR 27), .ref (aC 29), .ref (aX 33), .ref (aP 35), .null, .int 0, .int 0, .int 0])) :: (qh, .inl (Ey E 0, 16, .inl (fun _ => 0))) :: ((((((wv (Eu E aW [2, 3, 4, 5, 6, 7, 8, 9, 10]) wW ++ wv (Eu E aL (LlL (En E))) wL) ++ wv (Eu E aT [22, 23, 24, 25, 26]) (wb (En E))) ++ wv (Eu E aR [27, 28]) (wb (En E))) ++ wv (Eu E aC [29, 30, 31, 32]) (wb (En E))) ++ wv (Eu E aX [33, 34]) (wb (En E))) ++ wv (Eu E aP [35, 36, 37, 38]) (wb (En E))) : va_W)) rfl ?_
  refine nj_aload_n 1 dX9_init_140 rfl rfl ?_
  refine nj_new (ci := 2) (fs := [.null, .null, .null, .null, .int 0, .int 0, .int 0, .int 0, .int 0]) tyX4 rfl tb_X4 tyX4_ok cl_X9_67 is_X4 ini_X4 (fun j hj => by rcases (show j = 0 ∨ j = 1 ∨ j = 2 ∨ j = 3 ∨ j = 4 ∨ j = 5 ∨ j = 6 ∨ j = 7 ∨ j = 8 by omega) with rfl | rfl | rfl | rfl | rfl | rfl | rfl | rfl | rfl <;> rfl) (by omega) (by omega) dX9_init_141 rfl (fun qS => ?_)
  refine nj_dup dX9_init_144 rfl rfl ?_
  refine nj_aload_n 1 dX9_init_145 rfl rfl ?_
  refine nj_get 0 rfl fl_X9_38 rfl dX9_init_146 rfl ?_
  refine nj_ctor (n := 1) n_X4_39 cd_X4_init rfl ml_X9_69 ini_X4 im_X4_init rfl (by decide +kernel) rfl (by decide) (fun k x hx => by cases hx) rfl (by omega) (by omega) rfl (Nat.le_of_ble_eq_true rfl) dX9_init_149 rfl (fun aS haS => ?_)
  obtain ⟨rfl, haS⟩ := haS
  refine nj_put fp_X9_76 rfl rfl (Nat.le_of_ble_eq_true rfl) dX9_init_152 rfl ?_
  refine nj_ws (ws2 := ((q, .inr (7, [.int (nI (En E * En E)), .ref (aW 2), .ref (aL 11), .ref qh, .ref (aT 22), .ref (aR 27), .ref (aC 29), .ref (aX 33), .ref (aP 35), .ref (aS 39), .int 0, .int 0, .int 0])) :: (qh, .inl (Ey E 0, 16, .inl (fun _ => 0))) :: (((((((wv (Eu E aW [2, 3, 4, 5, 6, 7, 8, 9, 10]) wW ++ wv (Eu E aL (LlL (En E))) wL) ++ wv (Eu E aT [22, 23, 24, 25, 26]) (wb (En E))) ++ wv (Eu E aR [27, 28]) (wb (En E))) ++ wv (Eu E aC [29, 30, 31, 32]) (wb (En E))) ++ wv (Eu E aX [33, 34]) (wb (En E))) ++ wv (Eu E aP [35, 36, 37, 38]) (wb (En E))) ++ wv (Eu E aS [39, 40, 41, 42]) (wb (En E))) : va_W)) rfl ?_
  refine nj_ws (x9_wv hN q qh aW aL aT aR aC aX aP aS wW wL haT haR haR2 haC haC2 haP haS) ?_
  exact nj_vretW _ rfl rfl (by omega) (by omega) dX9_init_155
theorem n_X9 {E : Ev} {q : Nat} {v1 : Int32} (hN : En E ≤ 7) (hv : (v1 < 5 ∨ ¬ v1 ≤ 7) ∧ En E = 5 ∨ ¬ v1 < 5 ∧ v1 ≤ 7 ∧ v1 = nI (En E)) {wW wL : Wd} (hFW : f_X8_init (En E) (nI (En E)) (wb (En E)) = some ((), wW)) (hW0 : wW.1 2 0 = nI (En E)) (hW1 : wW.1 2 1 = nI (En E * En E)) (hFL : f_X1_init (En E) (nI (En E)) (wb (En E)) = some ((), wL)) :
    Cn E m_X9_init yX9_init 42 24778 q 7 [.int 0, .null, .null, .null, .null, .null, .null, .null, .null, .null, .int 0, .int 0, .int 0] [.int v1] [] (LxL (En E)) (wx0 (En E) wW wL) (fun a => a 0 = q) := by
  refine Cn.of (by decide) ⟨rfl, rfl⟩ (Nat.le_of_ble_eq_true rfl) ?_
  refine nj_aload_n 0 dX9_init_0 rfl rfl ?_
  refine nj_obj ob_X9_1 ob_i ob_c (Nat.le_of_ble_eq_true rfl) dX9_init_1 rfl ?_
  refine nj_aload_n 0 dX9_init_4 rfl rfl ?_
  refine nj_bipush (16 : Int32) dX9_init_5 rfl rfl ?_
  refine nj_newa (at1 := .int) (ty := .int) (i := 0) (N' := 16) (zr := (16, .inl (fun _ => 0))) rfl ac_I rfl (fun _ h => by cases h) (fun _ => rfl) (by decide) rfl (by decide) (by omega) (by omega) dX9_init_7 rfl (fun qh => ?_)
  refine nj_putF fpf_X9_7 rfl rfl rfl (Nat.le_of_ble_eq_true rfl) dX9_init_9 rfl ?_
  refine nj_ws (ws2 := [(q, .inr (7, [.int 0, .null, .null, .ref qh, .null, .null, .null, .null, .null, .null, .int 0, .int 0, .int 0])), (qh, .inl (Ey E 0, 16, .inl (fun _ => 0)))]) rfl ?_
  have k28 := n_X9_28 (q := q) (qh := qh) (v1 := v1) hN hFW hW0 hW1 hFL
  have k23 : En E = 5 → NJ E m_X9_init q 42 24778 [] (QN E (LxL (En E)) (wx0 (En E) wW wL) (fun a => a 0 = q) q) 23 [(0, .ref q), (1, .int v1)] [] [(q, .inr (7, [.int 0, .null, .null, .ref qh, .null, .null, .null, .null, .null, .null, .int 0, .int 0, .int 0])), (qh, .inl (Ey E 0, 16, .inl (fun _ => 0)))] 1 16 := fun h5 => by
    refine nj_iconst (nI (En E)) dX9_init_23 (by rw [h5]; rfl) rfl ?_
    exact nj_goto dX9_init_24 (qq := 28) rfl k28
  refine nj_iload_n 1 dX9_init_12 rfl rfl ?_
  refine nj_iconst (5 : Int32) dX9_init_13 rfl rfl ?_
  refine nj_icmp_lt 23 dX9_init_14 rfl rfl (fun h => ?_) (fun h => ?_)
  · exact k23 (hv.elim (fun z => z.2) (fun z => absurd h z.1))
  refine nj_iload_n 1 dX9_init_17 rfl rfl ?_
  refine nj_bipush (7 : Int32) dX9_init_18 rfl rfl ?_
  refine nj_icmp_le 27 dX9_init_20 rfl rfl (fun h2 => ?_) (fun h2 => ?_)
  · have e : v1 = nI (En E) := hv.elim (fun z => z.1.elim (fun y => absurd y h) (fun y => absurd h2 y)) (fun z => z.2.2)
    refine nj_iload_n (x := nI (En E)) 1 dX9_init_27 (by rw [← e]; rfl) rfl ?_
    exact k28
  · exact k23 (hv.elim (fun z => z.2) (fun z => absurd z.2.1 h2))
