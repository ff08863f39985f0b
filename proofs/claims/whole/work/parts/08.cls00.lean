def f_X0_begin (N : Nat) (w : Wd) : Option (Unit × Wd) :=
  lw (wdI w 29 5 (0 : Int32)) fun w1 =>
  lw (wdI w1 29 7 (0 : Int32)) fun w2 =>
  lw (wdI w2 29 8 (0 : Int32)) fun w3 =>
  some ((), w3)
set_option maxRecDepth 20000 in
theorem c_X0_begin {E : Ev} (hL : LX E) (w : Wd) : Ct E m_X0_begin yX0_begin rV [.ref (Ea E 29)] w (f_X0_begin (En E) w) := by
  refine Ct.of (by decide) ⟨rfl, rfl⟩ (Nat.le_of_ble_eq_true rfl) ?_
  show Sim E m_X0_begin rV 0 [(0, .ref (Ea E 29))] [] w (f_X0_begin (En E) w)
  unfold f_X0_begin
  refine sim_aload_n 0 dX0_begin_0 rfl rfl ?_
  refine sim_iconst (0 : Int32) dX0_begin_1 rfl rfl ?_
  refine sim_put (k := 29) (ci := 0) (j := 5) (hL.1 29 rfl) rfl (by decide) fp_X0_33 rfl rfl (st_29_5 _ _ _) (Nat.le_of_ble_eq_true rfl) dX0_begin_2 rfl ?_
  refine sim_lw (fun w1 => ?_)
  refine sim_aload_n 0 dX0_begin_5 rfl rfl ?_
  refine sim_iconst (0 : Int32) dX0_begin_6 rfl rfl ?_
  refine sim_put (k := 29) (ci := 0) (j := 7) (hL.1 29 rfl) rfl (by decide) fp_X0_36 rfl rfl (st_29_7 _ _ _) (Nat.le_of_ble_eq_true rfl) dX0_begin_7 rfl ?_
  refine sim_lw (fun w2 => ?_)
  refine sim_aload_n 0 dX0_begin_10 rfl rfl ?_
  refine sim_iconst (0 : Int32) dX0_begin_11 rfl rfl ?_
  refine sim_put (k := 29) (ci := 0) (j := 8) (hL.1 29 rfl) rfl (by decide) fp_X0_39 rfl rfl (st_29_8 _ _ _) (Nat.le_of_ble_eq_true rfl) dX0_begin_12 rfl ?_
  refine sim_lw (fun w3 => ?_)
  exact sim_vret rfl dX0_begin_15
def f_X0_fits (N : Nat) (w : Wd) : Option (Int32 × Wd) :=
  if (500 : Int32) < (w.1 29 5) then
  lw (wdI w 29 5 (0 : Int32)) fun w1 =>
  if zb (0 : Int32) = true then some ((0 : Int32), w1) else none
  else
  if zb (1 : Int32) = true then some ((1 : Int32), w) else none
set_option maxRecDepth 20000 in
theorem c_X0_fits {E : Ev} (hL : LX E) (w : Wd) : Ct E m_X0_fits yX0_fits rI [.ref (Ea E 29)] w (f_X0_fits (En E) w) := by
  refine Ct.of (by decide) ⟨rfl, rfl⟩ (Nat.le_of_ble_eq_true rfl) ?_
  show Sim E m_X0_fits rI 0 [(0, .ref (Ea E 29))] [] w (f_X0_fits (En E) w)
  unfold f_X0_fits
  refine sim_aload_n 0 dX0_fits_0 rfl rfl ?_
  refine sim_get (k := 29) (ci := 0) (j := 5) (v := .int (w.1 29 5)) (hL.1 29 rfl) rfl (by decide) fl_X0_33 rfl dX0_fits_1 rfl ?_
  refine sim_sipush (500 : Int32) dX0_fits_4 rfl rfl ?_
  refine sim_icmp_gt 12 dX0_fits_7 rfl rfl (fun _ => ?_) (fun _ => ?_)
  · refine sim_aload_n 0 dX0_fits_12 rfl rfl ?_
    refine sim_iconst (0 : Int32) dX0_fits_13 rfl rfl ?_
    refine sim_put (k := 29) (ci := 0) (j := 5) (hL.1 29 rfl) rfl (by decide) fp_X0_33 rfl rfl (st_29_5 _ _ _) (Nat.le_of_ble_eq_true rfl) dX0_fits_14 rfl ?_
    refine sim_lw (fun w1 => ?_)
    refine sim_iconst (0 : Int32) dX0_fits_17 rfl rfl ?_
    exact sim_zret rfl dX0_fits_18
  · refine sim_iconst (1 : Int32) dX0_fits_10 rfl rfl ?_
    exact sim_zret rfl dX0_fits_11
def f_X2_sideOf (v0 : Int32) (w : Wd) : Option (Int32 × Wd) :=
  some ((((v0 + (15 : Int32)) >>> ((4 : Int32) &&& 31)) - (1 : Int32)), w)
set_option maxRecDepth 20000 in
theorem c_X2_sideOf {E : Ev} (v0 : Int32) (w : Wd) : Ct E m_X2_sideOf yX2_sideOf rI [.int v0] w (f_X2_sideOf v0 w) := by
  refine Ct.of (by decide) ⟨rfl, rfl⟩ (Nat.le_of_ble_eq_true rfl) ?_
  show Sim E m_X2_sideOf rI 0 [(0, .int v0)] [] w (f_X2_sideOf v0 w)
  unfold f_X2_sideOf
  refine sim_iload_n 0 dX2_sideOf_0 rfl rfl ?_
  refine sim_bipush (15 : Int32) dX2_sideOf_1 rfl rfl ?_
  refine sim_iadd dX2_sideOf_3 rfl ?_
  refine sim_iconst (4 : Int32) dX2_sideOf_4 rfl rfl ?_
  refine sim_ishr dX2_sideOf_5 rfl ?_
  refine sim_iconst (1 : Int32) dX2_sideOf_6 rfl rfl ?_
  refine sim_isub dX2_sideOf_7 rfl ?_
  exact sim_iret rfl dX2_sideOf_8
def f_X2_typeOf (v0 : Int32) (w : Wd) : Option (Int32 × Wd) :=
  some (((v0 - (1 : Int32)) &&& (15 : Int32)), w)
set_option maxRecDepth 20000 in
theorem c_X2_typeOf {E : Ev} (v0 : Int32) (w : Wd) : Ct E m_X2_typeOf yX2_typeOf rI [.int v0] w (f_X2_typeOf v0 w) := by
  refine Ct.of (by decide) ⟨rfl, rfl⟩ (Nat.le_of_ble_eq_true rfl) ?_
  show Sim E m_X2_typeOf rI 0 [(0, .int v0)] [] w (f_X2_typeOf v0 w)
  unfold f_X2_typeOf
  refine sim_iload_n 0 dX2_typeOf_0 rfl rfl ?_
  refine sim_iconst (1 : Int32) dX2_typeOf_1 rfl rfl ?_
  refine sim_isub dX2_typeOf_2 rfl ?_
  refine sim_bipush (15 : Int32) dX2_typeOf_3 rfl rfl ?_
  refine sim_iand dX2_typeOf_5 rfl ?_
  exact sim_iret rfl dX2_typeOf_6
def f_X6_reach_121 (N : Nat) (R : Int32 → Int32 → Int32 → Int32 → Int32 → Int32 → Wd → Option (Int32 × Wd)) (K127 : Int32 → Int32 → Int32 → Int32 → Int32 → Wd → Option (Int32 × Wd)) (v1 : Int32) (v3 : Int32) (v4 : Int32) (v5 : Int32) (v6 : Int32) (v7 : Int32) (w : Wd) : Option (Int32 × Wd) :=
  R v1 v3 v4 v5 v6 (v7 + (1 : Int32)) w
set_option maxRecDepth 20000 in
theorem sf_X6_reach_121 {E : Ev} (hL : LX E) {R : Int32 → Int32 → Int32 → Int32 → Int32 → Int32 → Wd → Option (Int32 × Wd)} (hR : ∀ (v1 : Int32) (v3 : Int32) (v4 : Int32) (v5 : Int32) (v6 : Int32) (v7 : Int32) (w : Wd), Sim E m_X6_reach rI 52 [(0, .ref (Ea E 22)), (1, .int v1), (3, .int v3), (4, .int v4), (5, .int v5), (6, .int v6), (7, .int v7)] [] w (R v1 v3 v4 v5 v6 v7 w)) {K127 : Int32 → Int32 → Int32 → Int32 → Int32 → Wd → Option (Int32 × Wd)} (hK127 : ∀ (v1 : Int32) (v3 : Int32) (v4 : Int32) (v5 : Int32) (v6 : Int32) (w : Wd), Sim E m_X6_reach rI 127 [(0, .ref (Ea E 22)), (1, .int v1), (3, .int v3), (4, .int v4), (5, .int v5), (6, .int v6)] [] w (K127 v1 v3 v4 v5 v6 w)) (v1 : Int32) (v3 : Int32) (v4 : Int32) (v5 : Int32) (v6 : Int32) (v7 : Int32) (w : Wd) : Sim E m_X6_reach rI 121 [(0, .ref (Ea E 22)), (1, .int v1), (3, .int v3), (4, .int v4), (5, .int v5), (6, .int v6), (7, .int v7)] [] w (f_X6_reach_121 (En E) R K127 v1 v3 v4 v5 v6 v7 w) := by
  unfold f_X6_reach_121
  refine sim_iinc (v7 + (1 : Int32)) 6 [(7, .int (v7 + (1 : Int32))), (0, .ref (Ea E 22)), (1, .int v1), (3, .int v3), (4, .int v4), (5, .int v5), (6, .int v6)] dX6_reach_121 rfl rfl (Nat.le_of_ble_eq_true rfl) rfl rfl ?_
  refine sim_goto (q := 52) dX6_reach_124 rfl ?_
  exact sim_sub [1, 2, 3, 4, 5, 6, 0] rfl (hR v1 v3 v4 v5 v6 (v7 + (1 : Int32)) w)
def f_X6_reach_94 (N : Nat) (R : Int32 → Int32 → Int32 → Int32 → Int32 → Int32 → Wd → Option (Int32 × Wd)) (K127 : Int32 → Int32 → Int32 → Int32 → Int32 → Wd → Option (Int32 × Wd)) (v1 : Int32) (v3 : Int32) (v4 : Int32) (v5 : Int32) (v6 : Int32) (v7 : Int32) (s1 : Int32) (w : Wd) : Option (Int32 × Wd) :=
  if inb ((s1 * (w.1 22 2)) + v1) (12 * (N * N)) = true then
  lt (w.1 3 (Int32.toNatClampNeg ((s1 * (w.1 22 2)) + v1))) fun x10 =>
  if x10 < (0 : Int32) then
  f_X6_reach_121 N R K127 v1 v3 v4 v5 v6 v7 w
  else
  if inb v6 (N * N) = true then
  lw (wdI w 26 (Int32.toNatClampNeg v6) x10) fun w11 =>
  f_X6_reach_121 N R K127 v1 v3 v4 v5 (v6 + (1 : Int32)) v7 w11
  else none
  else none
set_option maxRecDepth 20000 in
theorem sf_X6_reach_94 {E : Ev} (hL : LX E) {R : Int32 → Int32 → Int32 → Int32 → Int32 → Int32 → Wd → Option (Int32 × Wd)} (hR : ∀ (v1 : Int32) (v3 : Int32) (v4 : Int32) (v5 : Int32) (v6 : Int32) (v7 : Int32) (w : Wd), Sim E m_X6_reach rI 52 [(0, .ref (Ea E 22)), (1, .int v1), (3, .int v3), (4, .int v4), (5, .int v5), (6, .int v6), (7, .int v7)] [] w (R v1 v3 v4 v5 v6 v7 w)) {K127 : Int32 → Int32 → Int32 → Int32 → Int32 → Wd → Option (Int32 × Wd)} (hK127 : ∀ (v1 : Int32) (v3 : Int32) (v4 : Int32) (v5 : Int32) (v6 : Int32) (w : Wd), Sim E m_X6_reach rI 127 [(0, .ref (Ea E 22)), (1, .int v1), (3, .int v3), (4, .int v4), (5, .int v5), (6, .int v6)] [] w (K127 v1 v3 v4 v5 v6 w)) (v1 : Int32) (v3 : Int32) (v4 : Int32) (v5 : Int32) (v6 : Int32) (v7 : Int32) (s1 : Int32) (w : Wd) : Sim E m_X6_reach rI 94 [(0, .ref (Ea E 22)), (1, .int v1), (3, .int v3), (4, .int v4), (5, .int v5), (6, .int v6), (7, .int v7)] [.int s1, .ref (Ea E 3)] w (f_X6_reach_94 (En E) R K127 v1 v3 v4 v5 v6 v7 s1 w) := by
  unfold f_X6_reach_94
  refine sim_aload_n 0 dX6_reach_94 rfl rfl ?_
  refine sim_get (k := 22) (ci := 4) (j := 2) (v := .int (w.1 22 2)) (hL.1 22 rfl) rfl (by decide) fl_X6_32 rfl dX6_reach_95 rfl ?_
  refine sim_imul dX6_reach_98 rfl ?_
  refine sim_iload_n 1 dX6_reach_99 rfl rfl ?_
  refine sim_iadd dX6_reach_100 rfl ?_
  refine sim_iaload (k := 3) (hL.1 3 rfl) rfl rfl dX6_reach_101 rfl ?_
  refine sim_lt (fun x10 => ?_)
  refine sim_istore [(8, .int x10), (0, .ref (Ea E 22)), (1, .int v1), (3, .int v3), (4, .int v4), (5, .int v5), (6, .int v6), (7, .int v7)] dX6_reach_102 (Nat.le_of_ble_eq_true rfl) rfl rfl ?_
  refine sim_iload 0 dX6_reach_104 rfl rfl ?_
  refine sim_if_lt 121 dX6_reach_106 rfl rfl (fun _ => ?_) (fun _ => ?_)
  · exact sim_sub [1, 2, 3, 4, 5, 6, 7] rfl (sf_X6_reach_121 hL hR hK127 v1 v3 v4 v5 v6 v7 w)
  · refine sim_aload_n 1 dX6_reach_109 rfl rfl ?_
    refine sim_get (k := 22) (ci := 4) (j := 6) (v := .ref (Ea E 26)) (hL.1 22 rfl) rfl (by decide) fl_X6_36 rfl dX6_reach_110 rfl ?_
    refine sim_iload 6 dX6_reach_113 rfl rfl ?_
    refine sim_iinc (v6 + (1 : Int32)) 6 [(6, .int (v6 + (1 : Int32))), (8, .int x10), (0, .ref (Ea E 22)), (1, .int v1), (3, .int v3), (4, .int v4), (5, .int v5), (7, .int v7)] dX6_reach_115 rfl rfl (Nat.le_of_ble_eq_true rfl) rfl rfl ?_
    refine sim_iload 1 dX6_reach_118 rfl rfl ?_
    refine sim_iastore (k := 26) (hL.1 26 rfl) rfl rfl dX6_reach_120 rfl ?_
    refine sim_lw (fun w11 => ?_)
    exact sim_sub [2, 3, 4, 5, 6, 0, 7] rfl (sf_X6_reach_121 hL hR hK127 v1 v3 v4 v5 (v6 + (1 : Int32)) v7 w11)
def b_X6_reach_52 (N : Nat) (R : Int32 → Int32 → Int32 → Int32 → Int32 → Int32 → Wd → Option (Int32 × Wd)) (K127 : Int32 → Int32 → Int32 → Int32 → Int32 → Wd → Option (Int32 × Wd)) (v1 : Int32) (v3 : Int32) (v4 : Int32) (v5 : Int32) (v6 : Int32) (v7 : Int32) (w : Wd) : Option (Int32 × Wd) :=
  if (10 : Int32) ≤ v7 then
  K127 v1 v3 v4 v5 v6 w
  else
  if ((v4 >>> (v7 &&& 31)) &&& (1 : Int32)) = (0 : Int32) then
  f_X6_reach_121 N R K127 v1 v3 v4 v5 v6 v7 w
  else
  if v3 = (0 : Int32) then
  f_X6_reach_94 N R K127 v1 v3 v4 v5 v6 v7 v7 w
  else
  if inb v7 12 = true then
  f_X6_reach_94 N R K127 v1 v3 v4 v5 v6 v7 ((stV 0).getD (Int32.toNatClampNeg v7) 0) w
  else none
set_option maxRecDepth 20000 in
theorem sb_X6_reach_52 {E : Ev} (hL : LX E) {R : Int32 → Int32 → Int32 → Int32 → Int32 → Int32 → Wd → Option (Int32 × Wd)} (hR : ∀ (v1 : Int32) (v3 : Int32) (v4 : Int32) (v5 : Int32) (v6 : Int32) (v7 : Int32) (w : Wd), Sim E m_X6_reach rI 52 [(0, .ref (Ea E 22)), (1, .int v1), (3, .int v3), (4, .int v4), (5, .int v5), (6, .int v6), (7, .int v7)] [] w (R v1 v3 v4 v5 v6 v7 w)) {K127 : Int32 → Int32 → Int32 → Int32 → Int32 → Wd → Option (Int32 × Wd)} (hK127 : ∀ (v1 : Int32) (v3 : Int32) (v4 : Int32) (v5 : Int32) (v6 : Int32) (w : Wd), Sim E m_X6_reach rI 127 [(0, .ref (Ea E 22)), (1, .int v1), (3, .int v3), (4, .int v4), (5, .int v5), (6, .int v6)] [] w (K127 v1 v3 v4 v5 v6 w)) (v1 : Int32) (v3 : Int32) (v4 : Int32) (v5 : Int32) (v6 : Int32) (v7 : Int32) (w : Wd) : Sim E m_X6_reach rI 52 [(0, .ref (Ea E 22)), (1, .int v1), (3, .int v3), (4, .int v4), (5, .int v5), (6, .int v6), (7, .int v7)] [] w (b_X6_reach_52 (En E) R K127 v1 v3 v4 v5 v6 v7 w) := by
  unfold b_X6_reach_52
  refine sim_iload 6 dX6_reach_52 rfl rfl ?_
  refine sim_bipush (10 : Int32) dX6_reach_54 rfl rfl ?_
  refine sim_icmp_ge 127 dX6_reach_56 rfl rfl (fun _ => ?_) (fun _ => ?_)
  · exact sim_sub [0, 1, 2, 3, 4, 5] rfl (hK127 v1 v3 v4 v5 v6 w)
  · refine sim_iload 3 dX6_reach_59 rfl rfl ?_
    refine sim_iload 6 dX6_reach_61 rfl rfl ?_
    refine sim_ishr dX6_reach_63 rfl ?_
    refine sim_iconst (1 : Int32) dX6_reach_64 rfl rfl ?_
    refine sim_iand dX6_reach_65 rfl ?_
    refine sim_if_ne 72 dX6_reach_66 rfl rfl (fun _ => ?_) (fun _ => ?_)
    · refine sim_aload_n 0 dX6_reach_72 rfl rfl ?_
      refine sim_get (k := 22) (ci := 4) (j := 0) (v := .ref (Ea E 2)) (hL.1 22 rfl) rfl (by decide) fl_X6_18 rfl dX6_reach_73 rfl ?_
      refine sim_get (k := 2) (ci := 6) (j := 2) (v := .ref (Ea E 3)) (hL.1 2 rfl) rfl (by decide) fl_X6_85 rfl dX6_reach_76 rfl ?_
      refine sim_iload_n 2 dX6_reach_79 rfl rfl ?_
      refine sim_if_ne 88 dX6_reach_80 rfl rfl (fun _ => ?_) (fun _ => ?_)
      · refine sim_gets (j := 0) (nm := "TURNED") (by decide) rfl kl_X6_88 dX6_reach_88 rfl ?_
        refine sim_iload 6 dX6_reach_91 rfl rfl ?_
        refine sim_tload (j := 0) (n := 12) (by decide) rfl dX6_reach_93 rfl ?_
        exact sim_sub [0, 1, 2, 3, 4, 5, 6] rfl (sf_X6_reach_94 hL hR hK127 v1 v3 v4 v5 v6 v7 ((stV 0).getD (Int32.toNatClampNeg v7) 0) w)
      · refine sim_iload 6 dX6_reach_83 rfl rfl ?_
        refine sim_goto (q := 94) dX6_reach_85 rfl ?_
        exact sim_sub [0, 1, 2, 3, 4, 5, 6] rfl (sf_X6_reach_94 hL hR hK127 v1 v3 v4 v5 v6 v7 v7 w)
    · refine sim_goto (q := 121) dX6_reach_69 rfl ?_
      exact sim_sub [0, 1, 2, 3, 4, 5, 6] rfl (sf_X6_reach_121 hL hR hK127 v1 v3 v4 v5 v6 v7 w)
def l_X6_reach_52 (N : Nat) (K127 : Int32 → Int32 → Int32 → Int32 → Int32 → Wd → Option (Int32 × Wd)) (n : Nat) : Int32 → Int32 → Int32 → Int32 → Int32 → Int32 → Wd → Option (Int32 × Wd) := itr (fun _ _ _ _ _ _ _ => none) (fun R => b_X6_reach_52 N R K127) n
set_option maxRecDepth 20000 in
theorem sl_X6_reach_52 {E : Ev} (hL : LX E) {K127 : Int32 → Int32 → Int32 → Int32 → Int32 → Wd → Option (Int32 × Wd)} (hK127 : ∀ (v1 : Int32) (v3 : Int32) (v4 : Int32) (v5 : Int32) (v6 : Int32) (w : Wd), Sim E m_X6_reach rI 127 [(0, .ref (Ea E 22)), (1, .int v1), (3, .int v3), (4, .int v4), (5, .int v5), (6, .int v6)] [] w (K127 v1 v3 v4 v5 v6 w)) : ∀ (n : Nat) (v1 : Int32) (v3 : Int32) (v4 : Int32) (v5 : Int32) (v6 : Int32) (v7 : Int32) (w : Wd), Sim E m_X6_reach rI 52 [(0, .ref (Ea E 22)), (1, .int v1), (3, .int v3), (4, .int v4), (5, .int v5), (6, .int v6), (7, .int v7)] [] w (l_X6_reach_52 (En E) K127 n v1 v3 v4 v5 v6 v7 w) := by
  intro n
  induction n with
  | zero => intros; exact sim_none
  | succ n ih => intros; exact sb_X6_reach_52 hL (R := l_X6_reach_52 (En E) K127 n) ih hK127 _ _ _ _ _ _ _
def f_X6_reach_238 (N : Nat) (R : Int32 → Int32 → Int32 → Int32 → Int32 → Int32 → Int32 → Int32 → Int32 → Wd → Option (Int32 × Wd)) (K207 : Int32 → Int32 → Int32 → Int32 → Int32 → Int32 → Wd → Option (Int32 × Wd)) (K248 : Int32 → Int32 → Int32 → Int32 → Int32 → Int32 → Wd → Option (Int32 × Wd)) (K257 : Int32 → Int32 → Int32 → Int32 → Int32 → Int32 → Wd → Option (Int32 × Wd)) (v1 : Int32) (v3 : Int32) (v4 : Int32) (v5 : Int32) (v6 : Int32) (v7 : Int32) (v8 : Int32) (v9 : Int32) (v10 : Int32) (w : Wd) : Option (Int32 × Wd) :=
  if inb v9 (N * N) = true then
  if (w.1 23 (Int32.toNatClampNeg v9)) = (0 : Int32) then
  R v1 v3 v4 v5 v6 v7 v8 v9 (v10 + (1 : Int32)) w
  else
  K248 v1 v3 v4 v5 v6 v7 w
  else none
set_option maxRecDepth 20000 in
theorem sf_X6_reach_238 {E : Ev} (hL : LX E) {R : Int32 → Int32 → Int32 → Int32 → Int32 → Int32 → Int32 → Int32 → Int32 → Wd → Option (Int32 × Wd)} (hR : ∀ (v1 : Int32) (v3 : Int32) (v4 : Int32) (v5 : Int32) (v6 : Int32) (v7 : Int32) (v8 : Int32) (v9 : Int32) (v10 : Int32) (w : Wd), Sim E m_X6_reach rI 178 [(0, .ref (Ea E 22)), (1, .int v1), (3, .int v3), (4, .int v4), (5, .int v5), (6, .int v6), (7, .int v7), (8, .int v8), (9, .int v9), (10, .int v10)] [] w (R v1 v3 v4 v5 v6 v7 v8 v9 v10 w)) {K207 : Int32 → Int32 → Int32 → Int32 → Int32 → Int32 → Wd → Option (Int32 × Wd)} (hK207 : ∀ (v1 : Int32) (v3 : Int32) (v4 : Int32) (v5 : Int32) (v6 : Int32) (v7 : Int32) (w : Wd), Sim E m_X6_reach rI 207 [(0, .ref (Ea E 22)), (1, .int v1), (3, .int v3), (4, .int v4), (5, .int v5), (6, .int v6), (7, .int v7)] [] w (K207 v1 v3 v4 v5 v6 v7 w)) {K248 : Int32 → Int32 → Int32 → Int32 → Int32 → Int32 → Wd → Option (Int32 × Wd)} (hK248 : ∀ (v1 : Int32) (v3 : Int32) (v4 : Int32) (v5 : Int32) (v6 : Int32) (v7 : Int32) (w : Wd), Sim E m_X6_reach rI 248 [(0, .ref (Ea E 22)), (1, .int v1), (3, .int v3), (4, .int v4), (5, .int v5), (6, .int v6), (7, .int v7)] [] w (K248 v1 v3 v4 v5 v6 v7 w)) {K257 : Int32 → Int32 → Int32 → Int32 → Int32 → Int32 → Wd → Option (Int32 × Wd)} (hK257 : ∀ (v1 : Int32) (v3 : Int32) (v4 : Int32) (v5 : Int32) (v6 : Int32) (v7 : Int32) (w : Wd), Sim E m_X6_reach rI 257 [(0, .ref (Ea E 22)), (1, .int v1), (3, .int v3), (4, .int v4), (5, .int v5), (6, .int v6), (7, .int v7)] [] w (K257 v1 v3 v4 v5 v6 v7 w)) (v1 : Int32) (v3 : Int32) (v4 : Int32) (v5 : Int32) (v6 : Int32) (v7 : Int32) (v8 : Int32) (v9 : Int32) (v10 : Int32) (w : Wd) : Sim E m_X6_reach rI 238 [(0, .ref (Ea E 22)), (1, .int v1), (3, .int v3), (4, .int v4), (5, .int v5), (6, .int v6), (7, .int v7), (8, .int v8), (9, .int v9), (10, .int v10)] [] w (f_X6_reach_238 (En E) R K207 K248 K257 v1 v3 v4 v5 v6 v7 v8 v9 v10 w) := by
  unfold f_X6_reach_238
  refine sim_aload_n 0 dX6_reach_238 rfl rfl ?_
  refine sim_get (k := 22) (ci := 4) (j := 3) (v := .ref (Ea E 23)) (hL.1 22 rfl) rfl (by decide) fl_X6_33 rfl dX6_reach_239 rfl ?_
  refine sim_iload 8 dX6_reach_242 rfl rfl ?_
  refine sim_iaload (k := 23) (hL.1 23 rfl) rfl rfl dX6_reach_244 rfl ?_
  refine sim_if_eq 251 dX6_reach_245 rfl rfl (fun _ => ?_) (fun _ => ?_)
  · refine sim_iinc (v10 + (1 : Int32)) 9 [(10, .int (v10 + (1 : Int32))), (0, .ref (Ea E 22)), (1, .int v1), (3, .int v3), (4, .int v4), (5, .int v5), (6, .int v6), (7, .int v7), (8, .int v8), (9, .int v9)] dX6_reach_251 rfl rfl (Nat.le_of_ble_eq_true rfl) rfl rfl ?_
    refine sim_goto (q := 178) dX6_reach_254 rfl ?_
    exact sim_sub [1, 2, 3, 4, 5, 6, 7, 8, 9, 0] rfl (hR v1 v3 v4 v5 v6 v7 v8 v9 (v10 + (1 : Int32)) w)
  · exact sim_sub [0, 1, 2, 3, 4, 5, 6] rfl (hK248 v1 v3 v4 v5 v6 v7 w)
def f_X6_reach_226 (N : Nat) (R : Int32 → Int32 → Int32 → Int32 → Int32 → Int32 → Int32 → Int32 → Int32 → Wd → Option (Int32 × Wd)) (K207 : Int32 → Int32 → Int32 → Int32 → Int32 → Int32 → Wd → Option (Int32 × Wd)) (K248 : Int32 → Int32 → Int32 → Int32 → Int32 → Int32 → Wd → Option (Int32 × Wd)) (K257 : Int32 → Int32 → Int32 → Int32 → Int32 → Int32 → Wd → Option (Int32 × Wd)) (v1 : Int32) (v3 : Int32) (v4 : Int32) (v5 : Int32) (v6 : Int32) (v7 : Int32) (v8 : Int32) (v9 : Int32) (v10 : Int32) (w : Wd) : Option (Int32 × Wd) :=
  if inb v6 (N * N) = true then
  lw (wdI w 26 (Int32.toNatClampNeg v6) v9) fun w14 =>
  f_X6_reach_238 N R K207 K248 K257 v1 v3 v4 v5 (v6 + (1 : Int32)) v7 v8 v9 v10 w14
  else none
set_option maxRecDepth 20000 in
theorem sf_X6_reach_226 {E : Ev} (hL : LX E) {R : Int32 → Int32 → Int32 → Int32 → Int32 → Int32 → Int32 → Int32 → Int32 → Wd → Option (Int32 × Wd)} (hR : ∀ (v1 : Int32) (v3 : Int32) (v4 : Int32) (v5 : Int32) (v6 : Int32) (v7 : Int32) (v8 : Int32) (v9 : Int32) (v10 : Int32) (w : Wd), Sim E m_X6_reach rI 178 [(0, .ref (Ea E 22)), (1, .int v1), (3, .int v3), (4, .int v4), (5, .int v5), (6, .int v6), (7, .int v7), (8, .int v8), (9, .int v9), (10, .int v10)] [] w (R v1 v3 v4 v5 v6 v7 v8 v9 v10 w)) {K207 : Int32 → Int32 → Int32 → Int32 → Int32 → Int32 → Wd → Option (Int32 × Wd)} (hK207 : ∀ (v1 : Int32) (v3 : Int32) (v4 : Int32) (v5 : Int32) (v6 : Int32) (v7 : Int32) (w : Wd), Sim E m_X6_reach rI 207 [(0, .ref (Ea E 22)), (1, .int v1), (3, .int v3), (4, .int v4), (5, .int v5), (6, .int v6), (7, .int v7)] [] w (K207 v1 v3 v4 v5 v6 v7 w)) {K248 : Int32 → Int32 → Int32 → Int32 → Int32 → Int32 → Wd → Option (Int32 × Wd)} (hK248 : ∀ (v1 : Int32) (v3 : Int32) (v4 : Int32) (v5 : Int32) (v6 : Int32) (v7 : Int32) (w : Wd), Sim E m_X6_reach rI 248 [(0, .ref (Ea E 22)), (1, .int v1), (3, .int v3), (4, .int v4), (5, .int v5), (6, .int v6), (7, .int v7)] [] w (K248 v1 v3 v4 v5 v6 v7 w)) {K257 : Int32 → Int32 → Int32 → Int32 → Int32 → Int32 → Wd → Option (Int32 × Wd)} (hK257 : ∀ (v1 : Int32) (v3 : Int32) (v4 : Int32) (v5 : Int32) (v6 : Int32) (v7 : Int32) (w : Wd), Sim E m_X6_reach rI 257 [(0, .ref (Ea E 22)), (1, .int v1), (3, .int v3), (4, .int v4), (5, .int v5), (6, .int v6), (7, .int v7)] [] w (K257 v1 v3 v4 v5 v6 v7 w)) (v1 : Int32) (v3 : Int32) (v4 : Int32) (v5 : Int32) (v6 : Int32) (v7 : Int32) (v8 : Int32) (v9 : Int32) (v10 : Int32) (w : Wd) : Sim E m_X6_reach rI 226 [(0, .ref (Ea E 22)), (1, .int v1), (3, .int v3), (4, .int v4), (5, .int v5), (6, .int v6), (7, .int v7), (8, .int v8), (9, .int v9), (10, .int v10)] [] w (f_X6_reach_226 (En E) R K207 K248 K257 v1 v3 v4 v5 v6 v7 v8 v9 v10 w) := by
  unfold f_X6_reach_226
  refine sim_aload_n 0 dX6_reach_226 rfl rfl ?_
  refine sim_get (k := 22) (ci := 4) (j := 6) (v := .ref (Ea E 26)) (hL.1 22 rfl) rfl (by decide) fl_X6_36 rfl dX6_reach_227 rfl ?_
  refine sim_iload 5 dX6_reach_230 rfl rfl ?_
  refine sim_iinc (v6 + (1 : Int32)) 5 [(6, .int (v6 + (1 : Int32))), (0, .ref (Ea E 22)), (1, .int v1), (3, .int v3), (4, .int v4), (5, .int v5), (7, .int v7), (8, .int v8), (9, .int v9), (10, .int v10)] dX6_reach_232 rfl rfl (Nat.le_of_ble_eq_true rfl) rfl rfl ?_
  refine sim_iload 8 dX6_reach_235 rfl rfl ?_
  refine sim_iastore (k := 26) (hL.1 26 rfl) rfl rfl dX6_reach_237 rfl ?_
  refine sim_lw (fun w14 => ?_)
  exact sim_sub [1, 2, 3, 4, 5, 0, 6, 7, 8, 9] rfl (sf_X6_reach_238 hL hR hK207 hK248 hK257 v1 v3 v4 v5 (v6 + (1 : Int32)) v7 v8 v9 v10 w14)
def b_X6_reach_178 (N : Nat) (R : Int32 → Int32 → Int32 → Int32 → Int32 → Int32 → Int32 → Int32 → Int32 → Wd → Option (Int32 × Wd)) (K207 : Int32 → Int32 → Int32 → Int32 → Int32 → Int32 → Wd → Option (Int32 × Wd)) (K248 : Int32 → Int32 → Int32 → Int32 → Int32 → Int32 → Wd → Option (Int32 × Wd)) (K257 : Int32 → Int32 → Int32 → Int32 → Int32 → Int32 → Wd → Option (Int32 × Wd)) (v1 : Int32) (v3 : Int32) (v4 : Int32) (v5 : Int32) (v6 : Int32) (v7 : Int32) (v8 : Int32) (v9 : Int32) (v10 : Int32) (w : Wd) : Option (Int32 × Wd) :=
  if (w.1 22 1) ≤ v10 then
  K257 v1 v3 v4 v5 v6 v7 w
  else
  if inb (v8 + v9) (12 * (N * N)) = true then
  lt (w.1 3 (Int32.toNatClampNeg (v8 + v9))) fun x13 =>
  if (0 : Int32) ≤ x13 then
  if (1 : Int32) < v10 then
  f_X6_reach_226 N R K207 K248 K257 v1 v3 v4 v5 v6 v7 v8 x13 v10 w
  else
  if ((v4 >>> (v7 &&& 31)) &&& (1 : Int32)) = (0 : Int32) then
  f_X6_reach_226 N R K207 K248 K257 v1 v3 v4 v5 v6 v7 v8 x13 v10 w
  else
  f_X6_reach_238 N R K207 K248 K257 v1 v3 v4 v5 v6 v7 v8 x13 v10 w
  else
  K207 v1 v3 v4 v5 v6 v7 w
  else none
set_option maxRecDepth 20000 in
theorem sb_X6_reach_178 {E : Ev} (hL : LX E) {R : Int32 → Int32 → Int32 → Int32 → Int32 → Int32 → Int32 → Int32 → Int32 → Wd → Option (Int32 × Wd)} (hR : ∀ (v1 : Int32) (v3 : Int32) (v4 : Int32) (v5 : Int32) (v6 : Int32) (v7 : Int32) (v8 : Int32) (v9 : Int32) (v10 : Int32) (w : Wd), Sim E m_X6_reach rI 178 [(0, .ref (Ea E 22)), (1, .int v1), (3, .int v3), (4, .int v4), (5, .int v5), (6, .int v6), (7, .int v7), (8, .int v8), (9, .int v9), (10, .int v10)] [] w (R v1 v3 v4 v5 v6 v7 v8 v9 v10 w)) {K207 : Int32 → Int32 → Int32 → Int32 → Int32 → Int32 → Wd → Option (Int32 × Wd)} (hK207 : ∀ (v1 : Int32) (v3 : Int32) (v4 : Int32) (v5 : Int32) (v6 : Int32) (v7 : Int32) (w : Wd), Sim E m_X6_reach rI 207 [(0, .ref (Ea E 22)), (1, .int v1), (3, .int v3), (4, .int v4), (5, .int v5), (6, .int v6), (7, .int v7)] [] w (K207 v1 v3 v4 v5 v6 v7 w)) {K248 : Int32 → Int32 → Int32 → Int32 → Int32 → Int32 → Wd → Option (Int32 × Wd)} (hK248 : ∀ (v1 : Int32) (v3 : Int32) (v4 : Int32) (v5 : Int32) (v6 : Int32) (v7 : Int32) (w : Wd), Sim E m_X6_reach rI 248 [(0, .ref (Ea E 22)), (1, .int v1), (3, .int v3), (4, .int v4), (5, .int v5), (6, .int v6), (7, .int v7)] [] w (K248 v1 v3 v4 v5 v6 v7 w)) {K257 : Int32 → Int32 → Int32 → Int32 → Int32 → Int32 → Wd → Option (Int32 × Wd)} (hK257 : ∀ (v1 : Int32) (v3 : Int32) (v4 : Int32) (v5 : Int32) (v6 : Int32) (v7 : Int32) (w : Wd), Sim E m_X6_reach rI 257 [(0, .ref (Ea E 22)), (1, .int v1), (3, .int v3), (4, .int v4), (5, .int v5), (6, .int v6), (7, .int v7)] [] w (K257 v1 v3 v4 v5 v6 v7 w)) (v1 : Int32) (v3 : Int32) (v4 : Int32) (v5 : Int32) (v6 : Int32) (v7 : Int32) (v8 : Int32) (v9 : Int32) (v10 : Int32) (w : Wd) : Sim E m_X6_reach rI 178 [(0, .ref (Ea E 22)), (1, .int v1), (3, .int v3), (4, .int v4), (5, .int v5), (6, .int v6), (7, .int v7), (8, .int v8), (9, .int v9), (10, .int v10)] [] w (b_X6_reach_178 (En E) R K207 K248 K257 v1 v3 v4 v5 v6 v7 v8 v9 v10 w) := by
  unfold b_X6_reach_178
  refine sim_iload 9 dX6_reach_178 rfl rfl ?_
  refine sim_aload_n 0 dX6_reach_180 rfl rfl ?_
  refine sim_get (k := 22) (ci := 4) (j := 1) (v := .int (w.1 22 1)) (hL.1 22 rfl) rfl (by decide) fl_X6_28 rfl dX6_reach_181 rfl ?_
  refine sim_icmp_ge 257 dX6_reach_184 rfl rfl (fun _ => ?_) (fun _ => ?_)
  · exact sim_sub [0, 1, 2, 3, 4, 5, 6] rfl (hK257 v1 v3 v4 v5 v6 v7 w)
  · refine sim_aload_n 0 dX6_reach_187 rfl rfl ?_
    refine sim_get (k := 22) (ci := 4) (j := 0) (v := .ref (Ea E 2)) (hL.1 22 rfl) rfl (by decide) fl_X6_18 rfl dX6_reach_188 rfl ?_
    refine sim_get (k := 2) (ci := 6) (j := 2) (v := .ref (Ea E 3)) (hL.1 2 rfl) rfl (by decide) fl_X6_85 rfl dX6_reach_191 rfl ?_
    refine sim_iload 7 dX6_reach_194 rfl rfl ?_
    refine sim_iload 8 dX6_reach_196 rfl rfl ?_
    refine sim_iadd dX6_reach_198 rfl ?_
    refine sim_iaload (k := 3) (hL.1 3 rfl) rfl rfl dX6_reach_199 rfl ?_
    refine sim_lt (fun x13 => ?_)
    refine sim_istore [(9, .int x13), (0, .ref (Ea E 22)), (1, .int v1), (3, .int v3), (4, .int v4), (5, .int v5), (6, .int v6), (7, .int v7), (8, .int v8), (10, .int v10)] dX6_reach_200 (Nat.le_of_ble_eq_true rfl) rfl rfl ?_
    refine sim_iload 0 dX6_reach_202 rfl rfl ?_
    refine sim_if_ge 210 dX6_reach_204 rfl rfl (fun _ => ?_) (fun _ => ?_)
    · refine sim_iload 9 dX6_reach_210 rfl rfl ?_
      refine sim_iconst (1 : Int32) dX6_reach_212 rfl rfl ?_
      refine sim_icmp_gt 226 dX6_reach_213 rfl rfl (fun _ => ?_) (fun _ => ?_)
      · exact sim_sub [1, 2, 3, 4, 5, 6, 7, 8, 0, 9] rfl (sf_X6_reach_226 hL hR hK207 hK248 hK257 v1 v3 v4 v5 v6 v7 v8 x13 v10 w)
      · refine sim_iload 4 dX6_reach_216 rfl rfl ?_
        refine sim_iload 7 dX6_reach_218 rfl rfl ?_
        refine sim_ishr dX6_reach_220 rfl ?_
        refine sim_iconst (1 : Int32) dX6_reach_221 rfl rfl ?_
        refine sim_iand dX6_reach_222 rfl ?_
        refine sim_if_ne 238 dX6_reach_223 rfl rfl (fun _ => ?_) (fun _ => ?_)
        · exact sim_sub [1, 2, 3, 4, 5, 6, 7, 8, 0, 9] rfl (sf_X6_reach_238 hL hR hK207 hK248 hK257 v1 v3 v4 v5 v6 v7 v8 x13 v10 w)
        · exact sim_sub [1, 2, 3, 4, 5, 6, 7, 8, 0, 9] rfl (sf_X6_reach_226 hL hR hK207 hK248 hK257 v1 v3 v4 v5 v6 v7 v8 x13 v10 w)
    · exact sim_sub [1, 2, 3, 4, 5, 6, 7] rfl (hK207 v1 v3 v4 v5 v6 v7 w)
def l_X6_reach_178 (N : Nat) (K207 : Int32 → Int32 → Int32 → Int32 → Int32 → Int32 → Wd → Option (Int32 × Wd)) (K248 : Int32 → Int32 → Int32 → Int32 → Int32 → Int32 → Wd → Option (Int32 × Wd)) (K257 : Int32 → Int32 → Int32 → Int32 → Int32 → Int32 → Wd → Option (Int32 × Wd)) (n : Nat) : Int32 → Int32 → Int32 → Int32 → Int32 → Int32 → Int32 → Int32 → Int32 → Wd → Option (Int32 × Wd) := itr (fun _ _ _ _ _ _ _ _ _ _ => none) (fun R => b_X6_reach_178 N R K207 K248 K257) n
set_option maxRecDepth 20000 in
theorem sl_X6_reach_178 {E : Ev} (hL : LX E) {K207 : Int32 → Int32 → Int32 → Int32 → Int32 → Int32 → Wd → Option (Int32 × Wd)} (hK207 : ∀ (v1 : Int32) (v3 : Int32) (v4 : Int32) (v5 : Int32) (v6 : Int32) (v7 : Int32) (w : Wd), Sim E m_X6_reach rI 207 [(0, .ref (Ea E 22)), (1, .int v1), (3, .int v3), (4, .int v4), (5, .int v5), (6, .int v6), (7, .int v7)] [] w (K207 v1 v3 v4 v5 v6 v7 w)) {K248 : Int32 → Int32 → Int32 → Int32 → Int32 → Int32 → Wd → Option (Int32 × Wd)} (hK248 : ∀ (v1 : Int32) (v3 : Int32) (v4 : Int32) (v5 : Int32) (v6 : Int32) (v7 : Int32) (w : Wd), Sim E m_X6_reach rI 248 [(0, .ref (Ea E 22)), (1, .int v1), (3, .int v3), (4, .int v4), (5, .int v5), (6, .int v6), (7, .int v7)] [] w (K248 v1 v3 v4 v5 v6 v7 w)) {K257 : Int32 → Int32 → Int32 → Int32 → Int32 → Int32 → Wd → Option (Int32 × Wd)} (hK257 : ∀ (v1 : Int32) (v3 : Int32) (v4 : Int32) (v5 : Int32) (v6 : Int32) (v7 : Int32) (w : Wd), Sim E m_X6_reach rI 257 [(0, .ref (Ea E 22)), (1, .int v1), (3, .int v3), (4, .int v4), (5, .int v5), (6, .int v6), (7, .int v7)] [] w (K257 v1 v3 v4 v5 v6 v7 w)) : ∀ (n : Nat) (v1 : Int32) (v3 : Int32) (v4 : Int32) (v5 : Int32) (v6 : Int32) (v7 : Int32) (v8 : Int32) (v9 : Int32) (v10 : Int32) (w : Wd), Sim E m_X6_reach rI 178 [(0, .ref (Ea E 22)), (1, .int v1), (3, .int v3), (4, .int v4), (5, .int v5), (6, .int v6), (7, .int v7), (8, .int v8), (9, .int v9), (10, .int v10)] [] w (l_X6_reach_178 (En E) K207 K248 K257 n v1 v3 v4 v5 v6 v7 v8 v9 v10 w) := by
  intro n
  induction n with
  | zero => intros; exact sim_none
  | succ n ih => intros; exact sb_X6_reach_178 hL (R := l_X6_reach_178 (En E) K207 K248 K257 n) ih hK207 hK248 hK257 _ _ _ _ _ _ _ _ _ _
def f_X6_reach_257 (N : Nat) (R : Int32 → Int32 → Int32 → Int32 → Int32 → Int32 → Wd → Option (Int32 × Wd)) (K263 : Int32 → Wd → Option (Int32 × Wd)) (v1 : Int32) (v3 : Int32) (v4 : Int32) (v5 : Int32) (v6 : Int32) (v7 : Int32) (w : Wd) : Option (Int32 × Wd) :=
  R v1 v3 v4 v5 v6 (v7 + (1 : Int32)) w
set_option maxRecDepth 20000 in
theorem sf_X6_reach_257 {E : Ev} (hL : LX E) {R : Int32 → Int32 → Int32 → Int32 → Int32 → Int32 → Wd → Option (Int32 × Wd)} (hR : ∀ (v1 : Int32) (v3 : Int32) (v4 : Int32) (v5 : Int32) (v6 : Int32) (v7 : Int32) (w : Wd), Sim E m_X6_reach rI 130 [(0, .ref (Ea E 22)), (1, .int v1), (3, .int v3), (4, .int v4), (5, .int v5), (6, .int v6), (7, .int v7)] [] w (R v1 v3 v4 v5 v6 v7 w)) {K263 : Int32 → Wd → Option (Int32 × Wd)} (hK263 : ∀ (v6 : Int32) (w : Wd), Sim E m_X6_reach rI 263 [(6, .int v6)] [] w (K263 v6 w)) (v1 : Int32) (v3 : Int32) (v4 : Int32) (v5 : Int32) (v6 : Int32) (v7 : Int32) (w : Wd) : Sim E m_X6_reach rI 257 [(0, .ref (Ea E 22)), (1, .int v1), (3, .int v3), (4, .int v4), (5, .int v5), (6, .int v6), (7, .int v7)] [] w (f_X6_reach_257 (En E) R K263 v1 v3 v4 v5 v6 v7 w) := by
  unfold f_X6_reach_257
  refine sim_iinc (v7 + (1 : Int32)) 6 [(7, .int (v7 + (1 : Int32))), (0, .ref (Ea E 22)), (1, .int v1), (3, .int v3), (4, .int v4), (5, .int v5), (6, .int v6)] dX6_reach_257 rfl rfl (Nat.le_of_ble_eq_true rfl) rfl rfl ?_
  refine sim_goto (q := 130) dX6_reach_260 rfl ?_
  exact sim_sub [1, 2, 3, 4, 5, 6, 0] rfl (hR v1 v3 v4 v5 v6 (v7 + (1 : Int32)) w)
def f_X6_reach_207 (N : Nat) (R : Int32 → Int32 → Int32 → Int32 → Int32 → Int32 → Wd → Option (Int32 × Wd)) (K263 : Int32 → Wd → Option (Int32 × Wd)) (v1 : Int32) (v3 : Int32) (v4 : Int32) (v5 : Int32) (v6 : Int32) (v7 : Int32) (w : Wd) : Option (Int32 × Wd) :=
  f_X6_reach_257 N R K263 v1 v3 v4 v5 v6 v7 w
set_option maxRecDepth 20000 in
theorem sf_X6_reach_207 {E : Ev} (hL : LX E) {R : Int32 → Int32 → Int32 → Int32 → Int32 → Int32 → Wd → Option (Int32 × Wd)} (hR : ∀ (v1 : Int32) (v3 : Int32) (v4 : Int32) (v5 : Int32) (v6 : Int32) (v7 : Int32) (w : Wd), Sim E m_X6_reach rI 130 [(0, .ref (Ea E 22)), (1, .int v1), (3, .int v3), (4, .int v4), (5, .int v5), (6, .int v6), (7, .int v7)] [] w (R v1 v3 v4 v5 v6 v7 w)) {K263 : Int32 → Wd → Option (Int32 × Wd)} (hK263 : ∀ (v6 : Int32) (w : Wd), Sim E m_X6_reach rI 263 [(6, .int v6)] [] w (K263 v6 w)) (v1 : Int32) (v3 : Int32) (v4 : Int32) (v5 : Int32) (v6 : Int32) (v7 : Int32) (w : Wd) : Sim E m_X6_reach rI 207 [(0, .ref (Ea E 22)), (1, .int v1), (3, .int v3), (4, .int v4), (5, .int v5), (6, .int v6), (7, .int v7)] [] w (f_X6_reach_207 (En E) R K263 v1 v3 v4 v5 v6 v7 w) := by
  unfold f_X6_reach_207
  refine sim_goto (q := 257) dX6_reach_207 rfl ?_
  exact sim_sub [0, 1, 2, 3, 4, 5, 6] rfl (sf_X6_reach_257 hL hR hK263 v1 v3 v4 v5 v6 v7 w)
def f_X6_reach_248 (N : Nat) (R : Int32 → Int32 → Int32 → Int32 → Int32 → Int32 → Wd → Option (Int32 × Wd)) (K263 : Int32 → Wd → Option (Int32 × Wd)) (v1 : Int32) (v3 : Int32) (v4 : Int32) (v5 : Int32) (v6 : Int32) (v7 : Int32) (w : Wd) : Option (Int32 × Wd) :=
  f_X6_reach_257 N R K263 v1 v3 v4 v5 v6 v7 w
set_option maxRecDepth 20000 in
theorem sf_X6_reach_248 {E : Ev} (hL : LX E) {R : Int32 → Int32 → Int32 → Int32 → Int32 → Int32 → Wd → Option (Int32 × Wd)} (hR : ∀ (v1 : Int32) (v3 : Int32) (v4 : Int32) (v5 : Int32) (v6 : Int32) (v7 : Int32) (w : Wd), Sim E m_X6_reach rI 130 [(0, .ref (Ea E 22)), (1, .int v1), (3, .int v3), (4, .int v4), (5, .int v5), (6, .int v6), (7, .int v7)] [] w (R v1 v3 v4 v5 v6 v7 w)) {K263 : Int32 → Wd → Option (Int32 × Wd)} (hK263 : ∀ (v6 : Int32) (w : Wd), Sim E m_X6_reach rI 263 [(6, .int v6)] [] w (K263 v6 w)) (v1 : Int32) (v3 : Int32) (v4 : Int32) (v5 : Int32) (v6 : Int32) (v7 : Int32) (w : Wd) : Sim E m_X6_reach rI 248 [(0, .ref (Ea E 22)), (1, .int v1), (3, .int v3), (4, .int v4), (5, .int v5), (6, .int v6), (7, .int v7)] [] w (f_X6_reach_248 (En E) R K263 v1 v3 v4 v5 v6 v7 w) := by
  unfold f_X6_reach_248
  refine sim_goto (q := 257) dX6_reach_248 rfl ?_
  exact sim_sub [0, 1, 2, 3, 4, 5, 6] rfl (sf_X6_reach_257 hL hR hK263 v1 v3 v4 v5 v6 v7 w)
def f_X6_reach_165 (N : Nat) (R : Int32 → Int32 → Int32 → Int32 → Int32 → Int32 → Wd → Option (Int32 × Wd)) (K263 : Int32 → Wd → Option (Int32 × Wd)) (v1 : Int32) (v3 : Int32) (v4 : Int32) (v5 : Int32) (v6 : Int32) (v7 : Int32) (s0 : Int32) (w : Wd) : Option (Int32 × Wd) :=
  lt (s0 * (w.1 22 2)) fun x12 =>
  l_X6_reach_178 N (f_X6_reach_207 N R K263) (f_X6_reach_248 N R K263) (f_X6_reach_257 N R K263) FU v1 v3 v4 v5 v6 v7 x12 v1 (1 : Int32) w
set_option maxRecDepth 20000 in
theorem sf_X6_reach_165 {E : Ev} (hL : LX E) {R : Int32 → Int32 → Int32 → Int32 → Int32 → Int32 → Wd → Option (Int32 × Wd)} (hR : ∀ (v1 : Int32) (v3 : Int32) (v4 : Int32) (v5 : Int32) (v6 : Int32) (v7 : Int32) (w : Wd), Sim E m_X6_reach rI 130 [(0, .ref (Ea E 22)), (1, .int v1), (3, .int v3), (4, .int v4), (5, .int v5), (6, .int v6), (7, .int v7)] [] w (R v1 v3 v4 v5 v6 v7 w)) {K263 : Int32 → Wd → Option (Int32 × Wd)} (hK263 : ∀ (v6 : Int32) (w : Wd), Sim E m_X6_reach rI 263 [(6, .int v6)] [] w (K263 v6 w)) (v1 : Int32) (v3 : Int32) (v4 : Int32) (v5 : Int32) (v6 : Int32) (v7 : Int32) (s0 : Int32) (w : Wd) : Sim E m_X6_reach rI 165 [(0, .ref (Ea E 22)), (1, .int v1), (3, .int v3), (4, .int v4), (5, .int v5), (6, .int v6), (7, .int v7)] [.int s0] w (f_X6_reach_165 (En E) R K263 v1 v3 v4 v5 v6 v7 s0 w) := by
  unfold f_X6_reach_165
  refine sim_aload_n 0 dX6_reach_165 rfl rfl ?_
  refine sim_get (k := 22) (ci := 4) (j := 2) (v := .int (w.1 22 2)) (hL.1 22 rfl) rfl (by decide) fl_X6_32 rfl dX6_reach_166 rfl ?_
  refine sim_imul dX6_reach_169 rfl ?_
  refine sim_lt (fun x12 => ?_)
  refine sim_istore [(8, .int x12), (0, .ref (Ea E 22)), (1, .int v1), (3, .int v3), (4, .int v4), (5, .int v5), (6, .int v6), (7, .int v7)] dX6_reach_170 (Nat.le_of_ble_eq_true rfl) rfl rfl ?_
  refine sim_iload_n 2 dX6_reach_172 rfl rfl ?_
  refine sim_istore [(9, .int v1), (8, .int x12), (0, .ref (Ea E 22)), (1, .int v1), (3, .int v3), (4, .int v4), (5, .int v5), (6, .int v6), (7, .int v7)] dX6_reach_173 (Nat.le_of_ble_eq_true rfl) rfl rfl ?_
  refine sim_iconst (1 : Int32) dX6_reach_175 rfl rfl ?_
  refine sim_istore [(10, .int (1 : Int32)), (9, .int v1), (8, .int x12), (0, .ref (Ea E 22)), (1, .int v1), (3, .int v3), (4, .int v4), (5, .int v5), (6, .int v6), (7, .int v7)] dX6_reach_176 (Nat.le_of_ble_eq_true rfl) rfl rfl ?_
  exact sim_sub [3, 4, 5, 6, 7, 8, 9, 2, 1, 0] rfl (sl_X6_reach_178 hL (sf_X6_reach_207 hL hR hK263) (sf_X6_reach_248 hL hR hK263) (sf_X6_reach_257 hL hR hK263) FU v1 v3 v4 v5 v6 v7 x12 v1 (1 : Int32) w)
def b_X6_reach_130 (N : Nat) (R : Int32 → Int32 → Int32 → Int32 → Int32 → Int32 → Wd → Option (Int32 × Wd)) (K263 : Int32 → Wd → Option (Int32 × Wd)) (v1 : Int32) (v3 : Int32) (v4 : Int32) (v5 : Int32) (v6 : Int32) (v7 : Int32) (w : Wd) : Option (Int32 × Wd) :=
  if (8 : Int32) ≤ v7 then
  K263 v6 w
  else
  if ((v5 >>> (v7 &&& 31)) &&& (1 : Int32)) = (0 : Int32) then
  f_X6_reach_257 N R K263 v1 v3 v4 v5 v6 v7 w
  else
  if v3 = (0 : Int32) then
  f_X6_reach_165 N R K263 v1 v3 v4 v5 v6 v7 v7 w
  else
  if inb v7 12 = true then
  f_X6_reach_165 N R K263 v1 v3 v4 v5 v6 v7 ((stV 0).getD (Int32.toNatClampNeg v7) 0) w
  else none
set_option maxRecDepth 20000 in
theorem sb_X6_reach_130 {E : Ev} (hL : LX E) {R : Int32 → Int32 → Int32 → Int32 → Int32 → Int32 → Wd → Option (Int32 × Wd)} (hR : ∀ (v1 : Int32) (v3 : Int32) (v4 : Int32) (v5 : Int32) (v6 : Int32) (v7 : Int32) (w : Wd), Sim E m_X6_reach rI 130 [(0, .ref (Ea E 22)), (1, .int v1), (3, .int v3), (4, .int v4), (5, .int v5), (6, .int v6), (7, .int v7)] [] w (R v1 v3 v4 v5 v6 v7 w)) {K263 : Int32 → Wd → Option (Int32 × Wd)} (hK263 : ∀ (v6 : Int32) (w : Wd), Sim E m_X6_reach rI 263 [(6, .int v6)] [] w (K263 v6 w)) (v1 : Int32) (v3 : Int32) (v4 : Int32) (v5 : Int32) (v6 : Int32) (v7 : Int32) (w : Wd) : Sim E m_X6_reach rI 130 [(0, .ref (Ea E 22)), (1, .int v1), (3, .int v3), (4, .int v4), (5, .int v5), (6, .int v6), (7, .int v7)] [] w (b_X6_reach_130 (En E) R K263 v1 v3 v4 v5 v6 v7 w) := by
  unfold b_X6_reach_130
  refine sim_iload 6 dX6_reach_130 rfl rfl ?_
  refine sim_bipush (8 : Int32) dX6_reach_132 rfl rfl ?_
  refine sim_icmp_ge 263 dX6_reach_134 rfl rfl (fun _ => ?_) (fun _ => ?_)
  · exact sim_sub [5] rfl (hK263 v6 w)
  · refine sim_iload 4 dX6_reach_137 rfl rfl ?_
    refine sim_iload 6 dX6_reach_139 rfl rfl ?_
    refine sim_ishr dX6_reach_141 rfl ?_
    refine sim_iconst (1 : Int32) dX6_reach_142 rfl rfl ?_
    refine sim_iand dX6_reach_143 rfl ?_
    refine sim_if_ne 150 dX6_reach_144 rfl rfl (fun _ => ?_) (fun _ => ?_)
    · refine sim_iload_n 2 dX6_reach_150 rfl rfl ?_
      refine sim_if_ne 159 dX6_reach_151 rfl rfl (fun _ => ?_) (fun _ => ?_)
      · refine sim_gets (j := 0) (nm := "TURNED") (by decide) rfl kl_X6_88 dX6_reach_159 rfl ?_
        refine sim_iload 6 dX6_reach_162 rfl rfl ?_
        refine sim_tload (j := 0) (n := 12) (by decide) rfl dX6_reach_164 rfl ?_
        exact sim_sub [0, 1, 2, 3, 4, 5, 6] rfl (sf_X6_reach_165 hL hR hK263 v1 v3 v4 v5 v6 v7 ((stV 0).getD (Int32.toNatClampNeg v7) 0) w)
      · refine sim_iload 6 dX6_reach_154 rfl rfl ?_
        refine sim_goto (q := 165) dX6_reach_156 rfl ?_
        exact sim_sub [0, 1, 2, 3, 4, 5, 6] rfl (sf_X6_reach_165 hL hR hK263 v1 v3 v4 v5 v6 v7 v7 w)
    · refine sim_goto (q := 257) dX6_reach_147 rfl ?_
      exact sim_sub [0, 1, 2, 3, 4, 5, 6] rfl (sf_X6_reach_257 hL hR hK263 v1 v3 v4 v5 v6 v7 w)
def l_X6_reach_130 (N : Nat) (K263 : Int32 → Wd → Option (Int32 × Wd)) (n : Nat) : Int32 → Int32 → Int32 → Int32 → Int32 → Int32 → Wd → Option (Int32 × Wd) := itr (fun _ _ _ _ _ _ _ => none) (fun R => b_X6_reach_130 N R K263) n
set_option maxRecDepth 20000 in
theorem sl_X6_reach_130 {E : Ev} (hL : LX E) {K263 : Int32 → Wd → Option (Int32 × Wd)} (hK263 : ∀ (v6 : Int32) (w : Wd), Sim E m_X6_reach rI 263 [(6, .int v6)] [] w (K263 v6 w)) : ∀ (n : Nat) (v1 : Int32) (v3 : Int32) (v4 : Int32) (v5 : Int32) (v6 : Int32) (v7 : Int32) (w : Wd), Sim E m_X6_reach rI 130 [(0, .ref (Ea E 22)), (1, .int v1), (3, .int v3), (4, .int v4), (5, .int v5), (6, .int v6), (7, .int v7)] [] w (l_X6_reach_130 (En E) K263 n v1 v3 v4 v5 v6 v7 w) := by
  intro n
  induction n with
  | zero => intros; exact sim_none
  | succ n ih => intros; exact sb_X6_reach_130 hL (R := l_X6_reach_130 (En E) K263 n) ih hK263 _ _ _ _ _ _ _
def f_X6_reach_263 (N : Nat) (v6 : Int32) (w : Wd) : Option (Int32 × Wd) :=
  some (v6, w)
set_option maxRecDepth 20000 in
theorem sf_X6_reach_263 {E : Ev} (hL : LX E) (v6 : Int32) (w : Wd) : Sim E m_X6_reach rI 263 [(6, .int v6)] [] w (f_X6_reach_263 (En E) v6 w) := by
  unfold f_X6_reach_263
  refine sim_iload 0 dX6_reach_263 rfl rfl ?_
  exact sim_iret rfl dX6_reach_265
def f_X6_reach_127 (N : Nat) (v1 : Int32) (v3 : Int32) (v4 : Int32) (v5 : Int32) (v6 : Int32) (w : Wd) : Option (Int32 × Wd) :=
  l_X6_reach_130 N (f_X6_reach_263 N) FU v1 v3 v4 v5 v6 (0 : Int32) w
set_option maxRecDepth 20000 in
theorem sf_X6_reach_127 {E : Ev} (hL : LX E) (v1 : Int32) (v3 : Int32) (v4 : Int32) (v5 : Int32) (v6 : Int32) (w : Wd) : Sim E m_X6_reach rI 127 [(0, .ref (Ea E 22)), (1, .int v1), (3, .int v3), (4, .int v4), (5, .int v5), (6, .int v6)] [] w (f_X6_reach_127 (En E) v1 v3 v4 v5 v6 w) := by
  unfold f_X6_reach_127
  refine sim_iconst (0 : Int32) dX6_reach_127 rfl rfl ?_
  refine sim_istore [(7, .int (0 : Int32)), (0, .ref (Ea E 22)), (1, .int v1), (3, .int v3), (4, .int v4), (5, .int v5), (6, .int v6)] dX6_reach_128 (Nat.le_of_ble_eq_true rfl) rfl rfl ?_
  exact sim_sub [1, 2, 3, 4, 5, 6, 0] rfl (sl_X6_reach_130 hL (sf_X6_reach_263 hL) FU v1 v3 v4 v5 v6 (0 : Int32) w)
def f_X6_reach (N : Nat) (v1 : Int32) (w : Wd) : Option (Int32 × Wd) :=
  if inb v1 (N * N) = true then
  lt (w.1 23 (Int32.toNatClampNeg v1)) fun x1 =>
  if x1 = (0 : Int32) then
  some ((0 : Int32), w)
  else
  bd (f_X2_sideOf x1 w) fun x2 w3 =>
  bd (f_X2_typeOf x1 w3) fun x4 w5 =>
  if inb x4 16 = true then
  lt (w5.1 6 (Int32.toNatClampNeg x4)) fun x6 =>
  bd (f_X2_typeOf x1 w5) fun x7 w8 =>
  if inb x7 16 = true then
  lt (w8.1 7 (Int32.toNatClampNeg x7)) fun x9 =>
  l_X6_reach_52 N (f_X6_reach_127 N) FU v1 x2 x6 x9 (0 : Int32) (0 : Int32) w8
  else none
  else none
  else none
set_option maxRecDepth 20000 in
theorem c_X6_reach {E : Ev} (hL : LX E) (v1 : Int32) (w : Wd) : Ct E m_X6_reach yX6_reach rI [.ref (Ea E 22), .int v1] w (f_X6_reach (En E) v1 w) := by
  refine Ct.of (by decide) ⟨rfl, rfl⟩ (Nat.le_of_ble_eq_true rfl) ?_
  show Sim E m_X6_reach rI 0 [(0, .ref (Ea E 22)), (1, .int v1)] [] w (f_X6_reach (En E) v1 w)
  unfold f_X6_reach
  refine sim_aload_n 0 dX6_reach_0 rfl rfl ?_
  refine sim_get (k := 22) (ci := 4) (j := 3) (v := .ref (Ea E 23)) (hL.1 22 rfl) rfl (by decide) fl_X6_33 rfl dX6_reach_1 rfl ?_
  refine sim_iload_n 1 dX6_reach_4 rfl rfl ?_
  refine sim_iaload (k := 23) (hL.1 23 rfl) rfl rfl dX6_reach_5 rfl ?_
  refine sim_lt (fun x1 => ?_)
  refine sim_istore_n [(2, .int x1), (0, .ref (Ea E 22)), (1, .int v1)] dX6_reach_6 (Nat.le_of_ble_eq_true rfl) rfl rfl ?_
  refine sim_iload_n 0 dX6_reach_7 rfl rfl ?_
  refine sim_if_ne 13 dX6_reach_8 rfl rfl (fun _ => ?_) (fun _ => ?_)
  · refine sim_iload_n 0 dX6_reach_13 rfl rfl ?_
    refine sim_cSi [.int x1] [] (c_X2_sideOf x1 w) cb_X6_58 sx_X2_sideOf rfl rfl rfl (Nat.le_of_ble_eq_true rfl) dX6_reach_14 rfl (fun x2 w3 => ?_)
    refine sim_istore_n [(3, .int x2), (2, .int x1), (0, .ref (Ea E 22)), (1, .int v1)] dX6_reach_17 (Nat.le_of_ble_eq_true rfl) rfl rfl ?_
    refine sim_aload_n 2 dX6_reach_18 rfl rfl ?_
    refine sim_get (k := 22) (ci := 4) (j := 0) (v := .ref (Ea E 2)) (hL.1 22 rfl) rfl (by decide) fl_X6_18 rfl dX6_reach_19 rfl ?_
    refine sim_get (k := 2) (ci := 6) (j := 5) (v := .ref (Ea E 6)) (hL.1 2 rfl) rfl (by decide) fl_X6_97 rfl dX6_reach_22 rfl ?_
    refine sim_iload_n 1 dX6_reach_25 rfl rfl ?_
    refine sim_cSi [.int x1] [.ref (Ea E 6)] (c_X2_typeOf x1 w3) cb_X6_100 sx_X2_typeOf rfl rfl rfl (Nat.le_of_ble_eq_true rfl) dX6_reach_26 rfl (fun x4 w5 => ?_)
    refine sim_iaload (k := 6) (hL.1 6 rfl) rfl rfl dX6_reach_29 rfl ?_
    refine sim_lt (fun x6 => ?_)
    refine sim_istore [(4, .int x6), (3, .int x2), (2, .int x1), (0, .ref (Ea E 22)), (1, .int v1)] dX6_reach_30 (Nat.le_of_ble_eq_true rfl) rfl rfl ?_
    refine sim_aload_n 3 dX6_reach_32 rfl rfl ?_
    refine sim_get (k := 22) (ci := 4) (j := 0) (v := .ref (Ea E 2)) (hL.1 22 rfl) rfl (by decide) fl_X6_18 rfl dX6_reach_33 rfl ?_
    refine sim_get (k := 2) (ci := 6) (j := 6) (v := .ref (Ea E 7)) (hL.1 2 rfl) rfl (by decide) fl_X6_103 rfl dX6_reach_36 rfl ?_
    refine sim_iload_n 2 dX6_reach_39 rfl rfl ?_
    refine sim_cSi [.int x1] [.ref (Ea E 7)] (c_X2_typeOf x1 w5) cb_X6_100 sx_X2_typeOf rfl rfl rfl (Nat.le_of_ble_eq_true rfl) dX6_reach_40 rfl (fun x7 w8 => ?_)
    refine sim_iaload (k := 7) (hL.1 7 rfl) rfl rfl dX6_reach_43 rfl ?_
    refine sim_lt (fun x9 => ?_)
    refine sim_istore [(5, .int x9), (4, .int x6), (3, .int x2), (2, .int x1), (0, .ref (Ea E 22)), (1, .int v1)] dX6_reach_44 (Nat.le_of_ble_eq_true rfl) rfl rfl ?_
    refine sim_iconst (0 : Int32) dX6_reach_46 rfl rfl ?_
    refine sim_istore [(6, .int (0 : Int32)), (5, .int x9), (4, .int x6), (3, .int x2), (2, .int x1), (0, .ref (Ea E 22)), (1, .int v1)] dX6_reach_47 (Nat.le_of_ble_eq_true rfl) rfl rfl ?_
    refine sim_iconst (0 : Int32) dX6_reach_49 rfl rfl ?_
    refine sim_istore [(7, .int (0 : Int32)), (6, .int (0 : Int32)), (5, .int x9), (4, .int x6), (3, .int x2), (2, .int x1), (0, .ref (Ea E 22)), (1, .int v1)] dX6_reach_50 (Nat.le_of_ble_eq_true rfl) rfl rfl ?_
    exact sim_sub [6, 7, 4, 3, 2, 1, 0] rfl (sl_X6_reach_52 hL (sf_X6_reach_127 hL) FU v1 x2 x6 x9 (0 : Int32) (0 : Int32) w8)
  · refine sim_iconst (0 : Int32) dX6_reach_11 rfl rfl ?_
    exact sim_iret rfl dX6_reach_12
def f_X2_isRaised_18 (s0 : Int32) (w : Wd) : Option (Int32 × Wd) :=
  if zb s0 = true then some (s0, w) else none
set_option maxRecDepth 20000 in
theorem sf_X2_isRaised_18 {E : Ev} (s0 : Int32) (w : Wd) : Sim E m_X2_isRaised rI 18 [] [.int s0] w (f_X2_isRaised_18 s0 w) := by
  unfold f_X2_isRaised_18
  exact sim_zret rfl dX2_isRaised_18
def f_X2_isRaised_17 (w : Wd) : Option (Int32 × Wd) :=
  f_X2_isRaised_18 (0 : Int32) w
set_option maxRecDepth 20000 in
theorem sf_X2_isRaised_17 {E : Ev} (w : Wd) : Sim E m_X2_isRaised rI 17 [] [] w (f_X2_isRaised_17 w) := by
  unfold f_X2_isRaised_17
  refine sim_iconst (0 : Int32) dX2_isRaised_17 rfl rfl ?_
  exact sim_sub [] rfl (sf_X2_isRaised_18  (0 : Int32) w)
def f_X2_isRaised (v0 : Int32) (w : Wd) : Option (Int32 × Wd) :=
  if v0 = (0 : Int32) then
  f_X2_isRaised_17 w
  else
  if ((v0 - (1 : Int32)) &&& (8 : Int32)) = (0 : Int32) then
  f_X2_isRaised_17 w
  else
  f_X2_isRaised_18 (1 : Int32) w
set_option maxRecDepth 20000 in
theorem c_X2_isRaised {E : Ev} (v0 : Int32) (w : Wd) : Ct E m_X2_isRaised yX2_isRaised rI [.int v0] w (f_X2_isRaised v0 w) := by
  refine Ct.of (by decide) ⟨rfl, rfl⟩ (Nat.le_of_ble_eq_true rfl) ?_
  show Sim E m_X2_isRaised rI 0 [(0, .int v0)] [] w (f_X2_isRaised v0 w)
  unfold f_X2_isRaised
  refine sim_iload_n 0 dX2_isRaised_0 rfl rfl ?_
  refine sim_if_eq 17 dX2_isRaised_1 rfl rfl (fun _ => ?_) (fun _ => ?_)
  · exact sim_sub [] rfl (sf_X2_isRaised_17  w)
  · refine sim_iload_n 0 dX2_isRaised_4 rfl rfl ?_
    refine sim_iconst (1 : Int32) dX2_isRaised_5 rfl rfl ?_
    refine sim_isub dX2_isRaised_6 rfl ?_
    refine sim_bipush (8 : Int32) dX2_isRaised_7 rfl rfl ?_
    refine sim_iand dX2_isRaised_9 rfl ?_
    refine sim_if_eq 17 dX2_isRaised_10 rfl rfl (fun _ => ?_) (fun _ => ?_)
    · exact sim_sub [] rfl (sf_X2_isRaised_17  w)
    · refine sim_iconst (1 : Int32) dX2_isRaised_13 rfl rfl ?_
      refine sim_goto (q := 18) dX2_isRaised_14 rfl ?_
      exact sim_sub [] rfl (sf_X2_isRaised_18  (1 : Int32) w)
def f_X8_goesOn_28 (N : Nat) (s0 : Int32) (w : Wd) : Option (Int32 × Wd) :=
  if zb s0 = true then some (s0, w) else none
set_option maxRecDepth 20000 in
theorem sf_X8_goesOn_28 {E : Ev} (hL : LW E) (s0 : Int32) (w : Wd) : Sim E m_X8_goesOn rI 28 [] [.int s0] w (f_X8_goesOn_28 (En E) s0 w) := by
  unfold f_X8_goesOn_28
  exact sim_zret rfl dX8_goesOn_28
def f_X8_goesOn (N : Nat) (v1 : Int32) (v2 : Int32) (w : Wd) : Option (Int32 × Wd) :=
  if inb v1 33 = true then
  if inb v1 33 = true then
  if inb v2 (N * N) = true then
  if (((w.1 8 (Int32.toNatClampNeg v1)) ||| (w.1 9 (Int32.toNatClampNeg v1))) &&& (w.1 4 (Int32.toNatClampNeg v2))) = (0 : Int32) then
  f_X8_goesOn_28 N (0 : Int32) w
  else
  f_X8_goesOn_28 N (1 : Int32) w
  else none
  else none
  else none
set_option maxRecDepth 20000 in
theorem c_X8_goesOn {E : Ev} (hL : LW E) (v1 : Int32) (v2 : Int32) (w : Wd) : Ct E m_X8_goesOn yX8_goesOn rI [.ref (Ea E 2), .int v1, .int v2] w (f_X8_goesOn (En E) v1 v2 w) := by
  refine Ct.of (by decide) ⟨rfl, rfl⟩ (Nat.le_of_ble_eq_true rfl) ?_
  show Sim E m_X8_goesOn rI 0 [(0, .ref (Ea E 2)), (1, .int v1), (2, .int v2)] [] w (f_X8_goesOn (En E) v1 v2 w)
  unfold f_X8_goesOn
  refine sim_aload_n 0 dX8_goesOn_0 rfl rfl ?_
  refine sim_get (k := 2) (ci := 6) (j := 7) (v := .ref (Ea E 8)) (hL 2 rfl) rfl (by decide) fl_X8_18 rfl dX8_goesOn_1 rfl ?_
  refine sim_iload_n 1 dX8_goesOn_4 rfl rfl ?_
  refine sim_iaload (k := 8) (hL 8 rfl) rfl rfl dX8_goesOn_5 rfl ?_
  refine sim_aload_n 0 dX8_goesOn_6 rfl rfl ?_
  refine sim_get (k := 2) (ci := 6) (j := 8) (v := .ref (Ea E 9)) (hL 2 rfl) rfl (by decide) fl_X8_21 rfl dX8_goesOn_7 rfl ?_
  refine sim_iload_n 1 dX8_goesOn_10 rfl rfl ?_
  refine sim_iaload (k := 9) (hL 9 rfl) rfl rfl dX8_goesOn_11 rfl ?_
  refine sim_ior dX8_goesOn_12 rfl ?_
  refine sim_aload_n 0 dX8_goesOn_13 rfl rfl ?_
  refine sim_get (k := 2) (ci := 6) (j := 3) (v := .ref (Ea E 4)) (hL 2 rfl) rfl (by decide) fl_X8_37 rfl dX8_goesOn_14 rfl ?_
  refine sim_iload_n 2 dX8_goesOn_17 rfl rfl ?_
  refine sim_iaload (k := 4) (hL 4 rfl) rfl rfl dX8_goesOn_18 rfl ?_
  refine sim_iand dX8_goesOn_19 rfl ?_
  refine sim_if_eq 27 dX8_goesOn_20 rfl rfl (fun _ => ?_) (fun _ => ?_)
  · refine sim_iconst (0 : Int32) dX8_goesOn_27 rfl rfl ?_
    exact sim_sub [] rfl (sf_X8_goesOn_28 hL (0 : Int32) w)
  · refine sim_iconst (1 : Int32) dX8_goesOn_23 rfl rfl ?_
    refine sim_goto (q := 28) dX8_goesOn_24 rfl ?_
    exact sim_sub [] rfl (sf_X8_goesOn_28 hL (1 : Int32) w)
def f_X8_canBeRaised_84 (N : Nat) (s0 : Int32) (w : Wd) : Option (Int32 × Wd) :=
  if zb s0 = true then some (s0, w) else none
set_option maxRecDepth 20000 in
theorem sf_X8_canBeRaised_84 {E : Ev} (hL : LW E) (s0 : Int32) (w : Wd) : Sim E m_X8_canBeRaised rI 84 [] [.int s0] w (f_X8_canBeRaised_84 (En E) s0 w) := by
  unfold f_X8_canBeRaised_84
  exact sim_zret rfl dX8_canBeRaised_84
def f_X8_canBeRaised_83 (N : Nat) (w : Wd) : Option (Int32 × Wd) :=
  f_X8_canBeRaised_84 N (0 : Int32) w
set_option maxRecDepth 20000 in
theorem sf_X8_canBeRaised_83 {E : Ev} (hL : LW E) (w : Wd) : Sim E m_X8_canBeRaised rI 83 [] [] w (f_X8_canBeRaised_83 (En E) w) := by
  unfold f_X8_canBeRaised_83
  refine sim_iconst (0 : Int32) dX8_canBeRaised_83 rfl rfl ?_
  exact sim_sub [] rfl (sf_X8_canBeRaised_84 hL (0 : Int32) w)
def f_X8_canBeRaised_79 (N : Nat) (w : Wd) : Option (Int32 × Wd) :=
  f_X8_canBeRaised_84 N (1 : Int32) w
set_option maxRecDepth 20000 in
theorem sf_X8_canBeRaised_79 {E : Ev} (hL : LW E) (w : Wd) : Sim E m_X8_canBeRaised rI 79 [] [] w (f_X8_canBeRaised_79 (En E) w) := by
  unfold f_X8_canBeRaised_79
  refine sim_iconst (1 : Int32) dX8_canBeRaised_79 rfl rfl ?_
  refine sim_goto (q := 84) dX8_canBeRaised_80 rfl ?_
  exact sim_sub [] rfl (sf_X8_canBeRaised_84 hL (1 : Int32) w)
def f_X8_canBeRaised_22 (N : Nat) (v2 : Int32) (v3 : Int32) (v4 : Int32) (s0 : Int32) (w : Wd) : Option (Int32 × Wd) :=
  if (8 : Int32) ≤ v4 then
  f_X8_canBeRaised_83 N w
  else
  if inb (v4 + (8 : Int32)) 16 = true then
  if inb (v4 + (8 : Int32)) 16 = true then
  if ((w.1 6 (Int32.toNatClampNeg (v4 + (8 : Int32)))) ||| (w.1 7 (Int32.toNatClampNeg (v4 + (8 : Int32))))) = (0 : Int32) then
  f_X8_canBeRaised_83 N w
  else
  if inb (s0 + v2) (2 * (N * N)) = true then
  if (w.1 5 (Int32.toNatClampNeg (s0 + v2))) = (0 : Int32) then
  if inb (s0 + v3) (2 * (N * N)) = true then
  if (w.1 5 (Int32.toNatClampNeg (s0 + v3))) = (0 : Int32) then
  f_X8_canBeRaised_83 N w
  else
  f_X8_canBeRaised_79 N w
  else none
  else
  f_X8_canBeRaised_79 N w
  else none
  else none
  else none
set_option maxRecDepth 20000 in
theorem sf_X8_canBeRaised_22 {E : Ev} (hL : LW E) (v2 : Int32) (v3 : Int32) (v4 : Int32) (s0 : Int32) (w : Wd) : Sim E m_X8_canBeRaised rI 22 [(0, .ref (Ea E 2)), (2, .int v2), (3, .int v3), (4, .int v4)] [.int s0] w (f_X8_canBeRaised_22 (En E) v2 v3 v4 s0 w) := by
  unfold f_X8_canBeRaised_22
  refine sim_istore [(5, .int s0), (0, .ref (Ea E 2)), (2, .int v2), (3, .int v3), (4, .int v4)] dX8_canBeRaised_22 (Nat.le_of_ble_eq_true rfl) rfl rfl ?_
  refine sim_iload 4 dX8_canBeRaised_24 rfl rfl ?_
  refine sim_bipush (8 : Int32) dX8_canBeRaised_26 rfl rfl ?_
  refine sim_icmp_ge 83 dX8_canBeRaised_28 rfl rfl (fun _ => ?_) (fun _ => ?_)
  · exact sim_sub [] rfl (sf_X8_canBeRaised_83 hL w)
  · refine sim_aload_n 1 dX8_canBeRaised_31 rfl rfl ?_
    refine sim_get (k := 2) (ci := 6) (j := 5) (v := .ref (Ea E 6)) (hL 2 rfl) rfl (by decide) fl_X8_9 rfl dX8_canBeRaised_32 rfl ?_
    refine sim_iload 4 dX8_canBeRaised_35 rfl rfl ?_
    refine sim_bipush (8 : Int32) dX8_canBeRaised_37 rfl rfl ?_
    refine sim_iadd dX8_canBeRaised_39 rfl ?_
    refine sim_iaload (k := 6) (hL 6 rfl) rfl rfl dX8_canBeRaised_40 rfl ?_
    refine sim_aload_n 1 dX8_canBeRaised_41 rfl rfl ?_
    refine sim_get (k := 2) (ci := 6) (j := 6) (v := .ref (Ea E 7)) (hL 2 rfl) rfl (by decide) fl_X8_15 rfl dX8_canBeRaised_42 rfl ?_
    refine sim_iload 4 dX8_canBeRaised_45 rfl rfl ?_
    refine sim_bipush (8 : Int32) dX8_canBeRaised_47 rfl rfl ?_
    refine sim_iadd dX8_canBeRaised_49 rfl ?_
    refine sim_iaload (k := 7) (hL 7 rfl) rfl rfl dX8_canBeRaised_50 rfl ?_
    refine sim_ior dX8_canBeRaised_51 rfl ?_
    refine sim_if_eq 83 dX8_canBeRaised_52 rfl rfl (fun _ => ?_) (fun _ => ?_)
    · exact sim_sub [] rfl (sf_X8_canBeRaised_83 hL w)
    · refine sim_aload_n 1 dX8_canBeRaised_55 rfl rfl ?_
      refine sim_get (k := 2) (ci := 6) (j := 4) (v := .ref (Ea E 5)) (hL 2 rfl) rfl (by decide) fl_X8_40 rfl dX8_canBeRaised_56 rfl ?_
      refine sim_iload 0 dX8_canBeRaised_59 rfl rfl ?_
      refine sim_iload_n 2 dX8_canBeRaised_61 rfl rfl ?_
      refine sim_iadd dX8_canBeRaised_62 rfl ?_
      refine sim_baload (k := 5) (hL 5 rfl) rfl rfl dX8_canBeRaised_63 rfl ?_
      refine sim_if_ne 79 dX8_canBeRaised_64 rfl rfl (fun _ => ?_) (fun _ => ?_)
      · exact sim_sub [] rfl (sf_X8_canBeRaised_79 hL w)
      · refine sim_aload_n 1 dX8_canBeRaised_67 rfl rfl ?_
        refine sim_get (k := 2) (ci := 6) (j := 4) (v := .ref (Ea E 5)) (hL 2 rfl) rfl (by decide) fl_X8_40 rfl dX8_canBeRaised_68 rfl ?_
        refine sim_iload 0 dX8_canBeRaised_71 rfl rfl ?_
        refine sim_iload_n 3 dX8_canBeRaised_73 rfl rfl ?_
        refine sim_iadd dX8_canBeRaised_74 rfl ?_
        refine sim_baload (k := 5) (hL 5 rfl) rfl rfl dX8_canBeRaised_75 rfl ?_
        refine sim_if_eq 83 dX8_canBeRaised_76 rfl rfl (fun _ => ?_) (fun _ => ?_)
        · exact sim_sub [] rfl (sf_X8_canBeRaised_83 hL w)
        · exact sim_sub [] rfl (sf_X8_canBeRaised_79 hL w)
def f_X8_canBeRaised (N : Nat) (v1 : Int32) (v2 : Int32) (v3 : Int32) (w : Wd) : Option (Int32 × Wd) :=
  lt ((v1 - (1 : Int32)) &&& (15 : Int32)) fun x1 =>
  if v1 ≤ (16 : Int32) then
  f_X8_canBeRaised_22 N v2 v3 x1 (0 : Int32) w
  else
  f_X8_canBeRaised_22 N v2 v3 x1 (w.1 2 1) w
set_option maxRecDepth 20000 in
theorem c_X8_canBeRaised {E : Ev} (hL : LW E) (v1 : Int32) (v2 : Int32) (v3 : Int32) (w : Wd) : Ct E m_X8_canBeRaised yX8_canBeRaised rI [.ref (Ea E 2), .int v1, .int v2, .int v3] w (f_X8_canBeRaised (En E) v1 v2 v3 w) := by
  refine Ct.of (by decide) ⟨rfl, rfl⟩ (Nat.le_of_ble_eq_true rfl) ?_
  show Sim E m_X8_canBeRaised rI 0 [(0, .ref (Ea E 2)), (1, .int v1), (2, .int v2), (3, .int v3)] [] w (f_X8_canBeRaised (En E) v1 v2 v3 w)
  unfold f_X8_canBeRaised
  refine sim_iload_n 1 dX8_canBeRaised_0 rfl rfl ?_
  refine sim_iconst (1 : Int32) dX8_canBeRaised_1 rfl rfl ?_
  refine sim_isub dX8_canBeRaised_2 rfl ?_
  refine sim_bipush (15 : Int32) dX8_canBeRaised_3 rfl rfl ?_
  refine sim_iand dX8_canBeRaised_5 rfl ?_
  refine sim_lt (fun x1 => ?_)
  refine sim_istore [(4, .int x1), (0, .ref (Ea E 2)), (1, .int v1), (2, .int v2), (3, .int v3)] dX8_canBeRaised_6 (Nat.le_of_ble_eq_true rfl) rfl rfl ?_
  refine sim_iload_n 2 dX8_canBeRaised_8 rfl rfl ?_
  refine sim_bipush (16 : Int32) dX8_canBeRaised_9 rfl rfl ?_
  refine sim_icmp_le 21 dX8_canBeRaised_11 rfl rfl (fun _ => ?_) (fun _ => ?_)
  · refine sim_iconst (0 : Int32) dX8_canBeRaised_21 rfl rfl ?_
    exact sim_sub [1, 3, 4, 0] rfl (sf_X8_canBeRaised_22 hL v2 v3 x1 (0 : Int32) w)
  · refine sim_aload_n 1 dX8_canBeRaised_14 rfl rfl ?_
    refine sim_get (k := 2) (ci := 6) (j := 1) (v := .int (w.1 2 1)) (hL 2 rfl) rfl (by decide) fl_X8_31 rfl dX8_canBeRaised_15 rfl ?_
    refine sim_goto (q := 22) dX8_canBeRaised_18 rfl ?_
    exact sim_sub [1, 3, 4, 0] rfl (sf_X8_canBeRaised_22 hL v2 v3 x1 (w.1 2 1) w)
def f_X5_addGoings_149 (N : Nat) (R : Int32 → Int32 → Int32 → Int32 → Int32 → Int32 → Wd → Option (Int32 × Wd)) (K155 : Int32 → Wd → Option (Int32 × Wd)) (v1 : Int32) (v2 : Int32) (v4 : Int32) (v5 : Int32) (v6 : Int32) (v7 : Int32) (w : Wd) : Option (Int32 × Wd) :=
  R v1 v2 v4 v5 v6 (v7 + (1 : Int32)) w
set_option maxRecDepth 20000 in
theorem sf_X5_addGoings_149 {E : Ev} (hL : LX E) {R : Int32 → Int32 → Int32 → Int32 → Int32 → Int32 → Wd → Option (Int32 × Wd)} (hR : ∀ (v1 : Int32) (v2 : Int32) (v4 : Int32) (v5 : Int32) (v6 : Int32) (v7 : Int32) (w : Wd), Sim E m_X5_addGoings rI 24 [(0, .ref (Ea E 27)), (1, .int v1), (2, .int v2), (4, .int v4), (5, .int v5), (6, .int v6), (7, .int v7)] [] w (R v1 v2 v4 v5 v6 v7 w)) {K155 : Int32 → Wd → Option (Int32 × Wd)} (hK155 : ∀ (v4 : Int32) (w : Wd), Sim E m_X5_addGoings rI 155 [(4, .int v4)] [] w (K155 v4 w)) (v1 : Int32) (v2 : Int32) (v4 : Int32) (v5 : Int32) (v6 : Int32) (v7 : Int32) (w : Wd) : Sim E m_X5_addGoings rI 149 [(0, .ref (Ea E 27)), (1, .int v1), (2, .int v2), (4, .int v4), (5, .int v5), (6, .int v6), (7, .int v7)] [] w (f_X5_addGoings_149 (En E) R K155 v1 v2 v4 v5 v6 v7 w) := by
  unfold f_X5_addGoings_149
  refine sim_iinc (v7 + (1 : Int32)) 6 [(7, .int (v7 + (1 : Int32))), (0, .ref (Ea E 27)), (1, .int v1), (2, .int v2), (4, .int v4), (5, .int v5), (6, .int v6)] dX5_addGoings_149 rfl rfl (Nat.le_of_ble_eq_true rfl) rfl rfl ?_
  refine sim_goto (q := 24) dX5_addGoings_152 rfl ?_
  exact sim_sub [1, 2, 3, 4, 5, 6, 0] rfl (hR v1 v2 v4 v5 v6 (v7 + (1 : Int32)) w)
def f_X5_addGoings_118 (N : Nat) (R : Int32 → Int32 → Int32 → Int32 → Int32 → Int32 → Wd → Option (Int32 × Wd)) (K155 : Int32 → Wd → Option (Int32 × Wd)) (v1 : Int32) (v2 : Int32) (v4 : Int32) (v5 : Int32) (v6 : Int32) (v7 : Int32) (v8 : Int32) (v10 : Int32) (w : Wd) : Option (Int32 × Wd) :=
  bd (f_X8_canBeRaised N v5 v1 v8 w) fun x10 w11 =>
  if x10 = (0 : Int32) then
  f_X5_addGoings_149 N R K155 v1 v2 v4 v5 v6 v7 w11
  else
  if inb v4 (270 * (N * N)) = true then
  lw (wdI w11 28 (Int32.toNatClampNeg v4) (v10 ||| (4096 : Int32))) fun w12 =>
  f_X5_addGoings_149 N R K155 v1 v2 (v4 + (1 : Int32)) v5 v6 v7 w12
  else none
set_option maxRecDepth 20000 in
theorem sf_X5_addGoings_118 {E : Ev} (hL : LX E) {R : Int32 → Int32 → Int32 → Int32 → Int32 → Int32 → Wd → Option (Int32 × Wd)} (hR : ∀ (v1 : Int32) (v2 : Int32) (v4 : Int32) (v5 : Int32) (v6 : Int32) (v7 : Int32) (w : Wd), Sim E m_X5_addGoings rI 24 [(0, .ref (Ea E 27)), (1, .int v1), (2, .int v2), (4, .int v4), (5, .int v5), (6, .int v6), (7, .int v7)] [] w (R v1 v2 v4 v5 v6 v7 w)) {K155 : Int32 → Wd → Option (Int32 × Wd)} (hK155 : ∀ (v4 : Int32) (w : Wd), Sim E m_X5_addGoings rI 155 [(4, .int v4)] [] w (K155 v4 w)) (v1 : Int32) (v2 : Int32) (v4 : Int32) (v5 : Int32) (v6 : Int32) (v7 : Int32) (v8 : Int32) (v10 : Int32) (w : Wd) : Sim E m_X5_addGoings rI 118 [(0, .ref (Ea E 27)), (1, .int v1), (2, .int v2), (4, .int v4), (5, .int v5), (6, .int v6), (7, .int v7), (8, .int v8), (10, .int v10)] [] w (f_X5_addGoings_118 (En E) R K155 v1 v2 v4 v5 v6 v7 v8 v10 w) := by
  unfold f_X5_addGoings_118
  refine sim_aload_n 0 dX5_addGoings_118 rfl rfl ?_
  refine sim_get (k := 27) (ci := 3) (j := 0) (v := .ref (Ea E 2)) (hL.1 27 rfl) rfl (by decide) fl_X5_9 rfl dX5_addGoings_119 rfl ?_
  refine sim_iload 4 dX5_addGoings_122 rfl rfl ?_
  refine sim_iload_n 1 dX5_addGoings_124 rfl rfl ?_
  refine sim_iload 7 dX5_addGoings_125 rfl rfl ?_
  refine sim_cVi (k := 2) (ci := 6) [.int v5, .int v1, .int v8] [] (c_X8_canBeRaised hL.w v5 v1 v8 w) (hL.1 2 rfl) rfl (by decide) rfl cb_X5_69 im_X8_canBeRaised se_X8_canBeRaised rfl rfl rfl (Nat.le_of_ble_eq_true rfl) dX5_addGoings_127 rfl (fun x10 w11 => ?_)
  refine sim_if_eq 149 dX5_addGoings_130 rfl rfl (fun _ => ?_) (fun _ => ?_)
  · exact sim_sub [0, 1, 2, 3, 4, 5, 6] rfl (sf_X5_addGoings_149 hL hR hK155 v1 v2 v4 v5 v6 v7 w11)
  · refine sim_aload_n 0 dX5_addGoings_133 rfl rfl ?_
    refine sim_get (k := 27) (ci := 3) (j := 3) (v := .ref (Ea E 28)) (hL.1 27 rfl) rfl (by decide) fl_X5_26 rfl dX5_addGoings_134 rfl ?_
    refine sim_iload 3 dX5_addGoings_137 rfl rfl ?_
    refine sim_iinc (v4 + (1 : Int32)) 3 [(4, .int (v4 + (1 : Int32))), (0, .ref (Ea E 27)), (1, .int v1), (2, .int v2), (5, .int v5), (6, .int v6), (7, .int v7), (8, .int v8), (10, .int v10)] dX5_addGoings_139 rfl rfl (Nat.le_of_ble_eq_true rfl) rfl rfl ?_
    refine sim_iload 8 dX5_addGoings_142 rfl rfl ?_
    refine sim_sipush (4096 : Int32) dX5_addGoings_144 rfl rfl ?_
    refine sim_ior dX5_addGoings_147 rfl ?_
    refine sim_iastore (k := 28) (hL.1 28 rfl) rfl rfl dX5_addGoings_148 rfl ?_
    refine sim_lw (fun w12 => ?_)
    exact sim_sub [1, 2, 3, 0, 4, 5, 6] rfl (sf_X5_addGoings_149 hL hR hK155 v1 v2 (v4 + (1 : Int32)) v5 v6 v7 w12)
def f_X5_addGoings_106 (N : Nat) (R : Int32 → Int32 → Int32 → Int32 → Int32 → Int32 → Wd → Option (Int32 × Wd)) (K155 : Int32 → Wd → Option (Int32 × Wd)) (v1 : Int32) (v2 : Int32) (v4 : Int32) (v5 : Int32) (v6 : Int32) (v7 : Int32) (v8 : Int32) (v10 : Int32) (w : Wd) : Option (Int32 × Wd) :=
  if inb v4 (270 * (N * N)) = true then
  lw (wdI w 28 (Int32.toNatClampNeg v4) v10) fun w9 =>
  f_X5_addGoings_118 N R K155 v1 v2 (v4 + (1 : Int32)) v5 v6 v7 v8 v10 w9
  else none
set_option maxRecDepth 20000 in
theorem sf_X5_addGoings_106 {E : Ev} (hL : LX E) {R : Int32 → Int32 → Int32 → Int32 → Int32 → Int32 → Wd → Option (Int32 × Wd)} (hR : ∀ (v1 : Int32) (v2 : Int32) (v4 : Int32) (v5 : Int32) (v6 : Int32) (v7 : Int32) (w : Wd), Sim E m_X5_addGoings rI 24 [(0, .ref (Ea E 27)), (1, .int v1), (2, .int v2), (4, .int v4), (5, .int v5), (6, .int v6), (7, .int v7)] [] w (R v1 v2 v4 v5 v6 v7 w)) {K155 : Int32 → Wd → Option (Int32 × Wd)} (hK155 : ∀ (v4 : Int32) (w : Wd), Sim E m_X5_addGoings rI 155 [(4, .int v4)] [] w (K155 v4 w)) (v1 : Int32) (v2 : Int32) (v4 : Int32) (v5 : Int32) (v6 : Int32) (v7 : Int32) (v8 : Int32) (v10 : Int32) (w : Wd) : Sim E m_X5_addGoings rI 106 [(0, .ref (Ea E 27)), (1, .int v1), (2, .int v2), (4, .int v4), (5, .int v5), (6, .int v6), (7, .int v7), (8, .int v8), (10, .int v10)] [] w (f_X5_addGoings_106 (En E) R K155 v1 v2 v4 v5 v6 v7 v8 v10 w) := by
  unfold f_X5_addGoings_106
  refine sim_aload_n 0 dX5_addGoings_106 rfl rfl ?_
  refine sim_get (k := 27) (ci := 3) (j := 3) (v := .ref (Ea E 28)) (hL.1 27 rfl) rfl (by decide) fl_X5_26 rfl dX5_addGoings_107 rfl ?_
  refine sim_iload 3 dX5_addGoings_110 rfl rfl ?_
  refine sim_iinc (v4 + (1 : Int32)) 3 [(4, .int (v4 + (1 : Int32))), (0, .ref (Ea E 27)), (1, .int v1), (2, .int v2), (5, .int v5), (6, .int v6), (7, .int v7), (8, .int v8), (10, .int v10)] dX5_addGoings_112 rfl rfl (Nat.le_of_ble_eq_true rfl) rfl rfl ?_
  refine sim_iload 8 dX5_addGoings_115 rfl rfl ?_
  refine sim_iastore (k := 28) (hL.1 28 rfl) rfl rfl dX5_addGoings_117 rfl ?_
  refine sim_lw (fun w9 => ?_)
  exact sim_sub [1, 2, 3, 0, 4, 5, 6, 7, 8] rfl (sf_X5_addGoings_118 hL hR hK155 v1 v2 (v4 + (1 : Int32)) v5 v6 v7 v8 v10 w9)
def b_X5_addGoings_24 (N : Nat) (R : Int32 → Int32 → Int32 → Int32 → Int32 → Int32 → Wd → Option (Int32 × Wd)) (K155 : Int32 → Wd → Option (Int32 × Wd)) (v1 : Int32) (v2 : Int32) (v4 : Int32) (v5 : Int32) (v6 : Int32) (v7 : Int32) (w : Wd) : Option (Int32 × Wd) :=
  if v2 ≤ v7 then
  K155 v4 w
  else
  if inb v7 (N * N) = true then
  lt (w.1 26 (Int32.toNatClampNeg v7)) fun x4 =>
  if inb x4 (N * N) = true then
  lt (w.1 23 (Int32.toNatClampNeg x4)) fun x5 =>
  bd (f_X2_sideOf x5 w) fun x6 w7 =>
  if x6 = (w7.1 22 7) then
  f_X5_addGoings_149 N R K155 v1 v2 v4 v5 v6 v7 w7
  else
  lt (((x5 <<< ((16 : Int32) &&& 31)) ||| (v1 <<< ((6 : Int32) &&& 31))) ||| x4) fun x8 =>
  if v6 = (0 : Int32) then
  bd (f_X8_goesOn N v5 x4 w7) fun x13 w14 =>
  if x13 = (0 : Int32) then
  f_X5_addGoings_118 N R K155 v1 v2 v4 v5 v6 v7 x4 x8 w14
  else
  f_X5_addGoings_106 N R K155 v1 v2 v4 v5 v6 v7 x4 x8 w14
  else
  f_X5_addGoings_106 N R K155 v1 v2 v4 v5 v6 v7 x4 x8 w7
  else none
  else none
set_option maxRecDepth 20000 in
theorem sb_X5_addGoings_24 {E : Ev} (hL : LX E) {R : Int32 → Int32 → Int32 → Int32 → Int32 → Int32 → Wd → Option (Int32 × Wd)} (hR : ∀ (v1 : Int32) (v2 : Int32) (v4 : Int32) (v5 : Int32) (v6 : Int32) (v7 : Int32) (w : Wd), Sim E m_X5_addGoings rI 24 [(0, .ref (Ea E 27)), (1, .int v1), (2, .int v2), (4, .int v4), (5, .int v5), (6, .int v6), (7, .int v7)] [] w (R v1 v2 v4 v5 v6 v7 w)) {K155 : Int32 → Wd → Option (Int32 × Wd)} (hK155 : ∀ (v4 : Int32) (w : Wd), Sim E m_X5_addGoings rI 155 [(4, .int v4)] [] w (K155 v4 w)) (v1 : Int32) (v2 : Int32) (v4 : Int32) (v5 : Int32) (v6 : Int32) (v7 : Int32) (w : Wd) : Sim E m_X5_addGoings rI 24 [(0, .ref (Ea E 27)), (1, .int v1), (2, .int v2), (4, .int v4), (5, .int v5), (6, .int v6), (7, .int v7)] [] w (b_X5_addGoings_24 (En E) R K155 v1 v2 v4 v5 v6 v7 w) := by
  unfold b_X5_addGoings_24
  refine sim_iload 6 dX5_addGoings_24 rfl rfl ?_
  refine sim_iload_n 2 dX5_addGoings_26 rfl rfl ?_
  refine sim_icmp_ge 155 dX5_addGoings_27 rfl rfl (fun _ => ?_) (fun _ => ?_)
  · exact sim_sub [3] rfl (hK155 v4 w)
  · refine sim_aload_n 0 dX5_addGoings_30 rfl rfl ?_
    refine sim_get (k := 27) (ci := 3) (j := 1) (v := .ref (Ea E 22)) (hL.1 27 rfl) rfl (by decide) fl_X5_13 rfl dX5_addGoings_31 rfl ?_
    refine sim_get (k := 22) (ci := 4) (j := 6) (v := .ref (Ea E 26)) (hL.1 22 rfl) rfl (by decide) fl_X5_62 rfl dX5_addGoings_34 rfl ?_
    refine sim_iload 6 dX5_addGoings_37 rfl rfl ?_
    refine sim_iaload (k := 26) (hL.1 26 rfl) rfl rfl dX5_addGoings_39 rfl ?_
    refine sim_lt (fun x4 => ?_)
    refine sim_istore [(8, .int x4), (0, .ref (Ea E 27)), (1, .int v1), (2, .int v2), (4, .int v4), (5, .int v5), (6, .int v6), (7, .int v7)] dX5_addGoings_40 (Nat.le_of_ble_eq_true rfl) rfl rfl ?_
    refine sim_aload_n 1 dX5_addGoings_42 rfl rfl ?_
    refine sim_get (k := 27) (ci := 3) (j := 1) (v := .ref (Ea E 22)) (hL.1 27 rfl) rfl (by decide) fl_X5_13 rfl dX5_addGoings_43 rfl ?_
    refine sim_get (k := 22) (ci := 4) (j := 3) (v := .ref (Ea E 23)) (hL.1 22 rfl) rfl (by decide) fl_X5_35 rfl dX5_addGoings_46 rfl ?_
    refine sim_iload 0 dX5_addGoings_49 rfl rfl ?_
    refine sim_iaload (k := 23) (hL.1 23 rfl) rfl rfl dX5_addGoings_51 rfl ?_
    refine sim_lt (fun x5 => ?_)
    refine sim_istore [(9, .int x5), (8, .int x4), (0, .ref (Ea E 27)), (1, .int v1), (2, .int v2), (4, .int v4), (5, .int v5), (6, .int v6), (7, .int v7)] dX5_addGoings_52 (Nat.le_of_ble_eq_true rfl) rfl rfl ?_
    refine sim_iload 0 dX5_addGoings_54 rfl rfl ?_
    refine sim_cSi [.int x5] [] (c_X2_sideOf x5 w) cb_X5_38 sx_X2_sideOf rfl rfl rfl (Nat.le_of_ble_eq_true rfl) dX5_addGoings_56 rfl (fun x6 w7 => ?_)
    refine sim_aload_n 2 dX5_addGoings_59 rfl rfl ?_
    refine sim_get (k := 27) (ci := 3) (j := 1) (v := .ref (Ea E 22)) (hL.1 27 rfl) rfl (by decide) fl_X5_13 rfl dX5_addGoings_60 rfl ?_
    refine sim_get (k := 22) (ci := 4) (j := 7) (v := .int (w7.1 22 7)) (hL.1 22 rfl) rfl (by decide) fl_X5_30 rfl dX5_addGoings_63 rfl ?_
    refine sim_icmp_ne 72 dX5_addGoings_66 rfl rfl (fun _ => ?_) (fun _ => ?_)
    · refine sim_iload 0 dX5_addGoings_72 rfl rfl ?_
      refine sim_bipush (16 : Int32) dX5_addGoings_74 rfl rfl ?_
      refine sim_ishl dX5_addGoings_76 rfl ?_
      refine sim_iload_n 3 dX5_addGoings_77 rfl rfl ?_
      refine sim_bipush (6 : Int32) dX5_addGoings_78 rfl rfl ?_
      refine sim_ishl dX5_addGoings_80 rfl ?_
      refine sim_ior dX5_addGoings_81 rfl ?_
      refine sim_iload 1 dX5_addGoings_82 rfl rfl ?_
      refine sim_ior dX5_addGoings_84 rfl ?_
      refine sim_lt (fun x8 => ?_)
      refine sim_istore [(10, .int x8), (9, .int x5), (8, .int x4), (0, .ref (Ea E 27)), (1, .int v1), (2, .int v2), (4, .int v4), (5, .int v5), (6, .int v6), (7, .int v7)] dX5_addGoings_85 (Nat.le_of_ble_eq_true rfl) rfl rfl ?_
      refine sim_iload 8 dX5_addGoings_87 rfl rfl ?_
      refine sim_if_ne 106 dX5_addGoings_89 rfl rfl (fun _ => ?_) (fun _ => ?_)
      · exact sim_sub [3, 4, 5, 6, 7, 8, 9, 2, 0] rfl (sf_X5_addGoings_106 hL hR hK155 v1 v2 v4 v5 v6 v7 x4 x8 w7)
      · refine sim_aload_n 3 dX5_addGoings_92 rfl rfl ?_
        refine sim_get (k := 27) (ci := 3) (j := 0) (v := .ref (Ea E 2)) (hL.1 27 rfl) rfl (by decide) fl_X5_9 rfl dX5_addGoings_93 rfl ?_
        refine sim_iload 7 dX5_addGoings_96 rfl rfl ?_
        refine sim_iload 2 dX5_addGoings_98 rfl rfl ?_
        refine sim_cVi (k := 2) (ci := 6) [.int v5, .int x4] [] (c_X8_goesOn hL.w v5 x4 w7) (hL.1 2 rfl) rfl (by decide) rfl cb_X5_65 im_X8_goesOn se_X8_goesOn rfl rfl rfl (Nat.le_of_ble_eq_true rfl) dX5_addGoings_100 rfl (fun x13 w14 => ?_)
        refine sim_if_eq 118 dX5_addGoings_103 rfl rfl (fun _ => ?_) (fun _ => ?_)
        · exact sim_sub [3, 4, 5, 6, 7, 8, 9, 2, 0] rfl (sf_X5_addGoings_118 hL hR hK155 v1 v2 v4 v5 v6 v7 x4 x8 w14)
        · exact sim_sub [3, 4, 5, 6, 7, 8, 9, 2, 0] rfl (sf_X5_addGoings_106 hL hR hK155 v1 v2 v4 v5 v6 v7 x4 x8 w14)
    · refine sim_goto (q := 149) dX5_addGoings_69 rfl ?_
      exact sim_sub [2, 3, 4, 5, 6, 7, 8] rfl (sf_X5_addGoings_149 hL hR hK155 v1 v2 v4 v5 v6 v7 w7)
def l_X5_addGoings_24 (N : Nat) (K155 : Int32 → Wd → Option (Int32 × Wd)) (n : Nat) : Int32 → Int32 → Int32 → Int32 → Int32 → Int32 → Wd → Option (Int32 × Wd) := itr (fun _ _ _ _ _ _ _ => none) (fun R => b_X5_addGoings_24 N R K155) n
set_option maxRecDepth 20000 in
theorem sl_X5_addGoings_24 {E : Ev} (hL : LX E) {K155 : Int32 → Wd → Option (Int32 × Wd)} (hK155 : ∀ (v4 : Int32) (w : Wd), Sim E m_X5_addGoings rI 155 [(4, .int v4)] [] w (K155 v4 w)) : ∀ (n : Nat) (v1 : Int32) (v2 : Int32) (v4 : Int32) (v5 : Int32) (v6 : Int32) (v7 : Int32) (w : Wd), Sim E m_X5_addGoings rI 24 [(0, .ref (Ea E 27)), (1, .int v1), (2, .int v2), (4, .int v4), (5, .int v5), (6, .int v6), (7, .int v7)] [] w (l_X5_addGoings_24 (En E) K155 n v1 v2 v4 v5 v6 v7 w) := by
  intro n
  induction n with
  | zero => intros; exact sim_none
  | succ n ih => intros; exact sb_X5_addGoings_24 hL (R := l_X5_addGoings_24 (En E) K155 n) ih hK155 _ _ _ _ _ _ _
def f_X5_addGoings_155 (N : Nat) (v4 : Int32) (w : Wd) : Option (Int32 × Wd) :=
  some (v4, w)
set_option maxRecDepth 20000 in
theorem sf_X5_addGoings_155 {E : Ev} (hL : LX E) (v4 : Int32) (w : Wd) : Sim E m_X5_addGoings rI 155 [(4, .int v4)] [] w (f_X5_addGoings_155 (En E) v4 w) := by
  unfold f_X5_addGoings_155
  refine sim_iload 0 dX5_addGoings_155 rfl rfl ?_
  exact sim_iret rfl dX5_addGoings_157
def f_X5_addGoings (N : Nat) (v1 : Int32) (v2 : Int32) (v3 : Int32) (w : Wd) : Option (Int32 × Wd) :=
  if inb v1 (N * N) = true then
  lt (w.1 23 (Int32.toNatClampNeg v1)) fun x1 =>
  bd (f_X2_isRaised x1 w) fun x2 w3 =>
  l_X5_addGoings_24 N (f_X5_addGoings_155 N) FU v1 v2 v3 x1 x2 (0 : Int32) w3
  else none
set_option maxRecDepth 20000 in
theorem c_X5_addGoings {E : Ev} (hL : LX E) (v1 : Int32) (v2 : Int32) (v3 : Int32) (w : Wd) : Ct E m_X5_addGoings yX5_addGoings rI [.ref (Ea E 27), .int v1, .int v2, .int v3] w (f_X5_addGoings (En E) v1 v2 v3 w) := by
  refine Ct.of (by decide) ⟨rfl, rfl⟩ (Nat.le_of_ble_eq_true rfl) ?_
  show Sim E m_X5_addGoings rI 0 [(0, .ref (Ea E 27)), (1, .int v1), (2, .int v2), (3, .int v3)] [] w (f_X5_addGoings (En E) v1 v2 v3 w)
  unfold f_X5_addGoings
  refine sim_iload_n 3 dX5_addGoings_0 rfl rfl ?_
  refine sim_istore [(4, .int v3), (0, .ref (Ea E 27)), (1, .int v1), (2, .int v2), (3, .int v3)] dX5_addGoings_1 (Nat.le_of_ble_eq_true rfl) rfl rfl ?_
  refine sim_aload_n 1 dX5_addGoings_3 rfl rfl ?_
  refine sim_get (k := 27) (ci := 3) (j := 1) (v := .ref (Ea E 22)) (hL.1 27 rfl) rfl (by decide) fl_X5_13 rfl dX5_addGoings_4 rfl ?_
  refine sim_get (k := 22) (ci := 4) (j := 3) (v := .ref (Ea E 23)) (hL.1 22 rfl) rfl (by decide) fl_X5_35 rfl dX5_addGoings_7 rfl ?_
  refine sim_iload_n 2 dX5_addGoings_10 rfl rfl ?_
  refine sim_iaload (k := 23) (hL.1 23 rfl) rfl rfl dX5_addGoings_11 rfl ?_
  refine sim_lt (fun x1 => ?_)
  refine sim_istore [(5, .int x1), (4, .int v3), (0, .ref (Ea E 27)), (1, .int v1), (2, .int v2), (3, .int v3)] dX5_addGoings_12 (Nat.le_of_ble_eq_true rfl) rfl rfl ?_
  refine sim_iload 0 dX5_addGoings_14 rfl rfl ?_
  refine sim_cSi [.int x1] [] (c_X2_isRaised x1 w) cb_X5_58 sx_X2_isRaised rfl rfl rfl (Nat.le_of_ble_eq_true rfl) dX5_addGoings_16 rfl (fun x2 w3 => ?_)
  refine sim_istore [(6, .int x2), (5, .int x1), (4, .int v3), (0, .ref (Ea E 27)), (1, .int v1), (2, .int v2), (3, .int v3)] dX5_addGoings_19 (Nat.le_of_ble_eq_true rfl) rfl rfl ?_
  refine sim_iconst (0 : Int32) dX5_addGoings_21 rfl rfl ?_
  refine sim_istore [(7, .int (0 : Int32)), (6, .int x2), (5, .int x1), (4, .int v3), (0, .ref (Ea E 27)), (1, .int v1), (2, .int v2), (3, .int v3)] dX5_addGoings_22 (Nat.le_of_ble_eq_true rfl) rfl rfl ?_
  exact sim_sub [4, 5, 6, 3, 2, 1, 0] rfl (sl_X5_addGoings_24 hL (sf_X5_addGoings_155 hL) FU v1 v2 v3 x1 x2 (0 : Int32) w3)
def f_X2_itemOf (v0 : Int32) (v1 : Int32) (w : Wd) : Option (Int32 × Wd) :=
  some ((((1 : Int32) + v1) + ((16 : Int32) * v0)), w)
set_option maxRecDepth 20000 in
theorem c_X2_itemOf {E : Ev} (v0 : Int32) (v1 : Int32) (w : Wd) : Ct E m_X2_itemOf yX2_itemOf rI [.int v0, .int v1] w (f_X2_itemOf v0 v1 w) := by
  refine Ct.of (by decide) ⟨rfl, rfl⟩ (Nat.le_of_ble_eq_true rfl) ?_
  show Sim E m_X2_itemOf rI 0 [(0, .int v0), (1, .int v1)] [] w (f_X2_itemOf v0 v1 w)
  unfold f_X2_itemOf
  refine sim_iconst (1 : Int32) dX2_itemOf_0 rfl rfl ?_
  refine sim_iload_n 1 dX2_itemOf_1 rfl rfl ?_
  refine sim_iadd dX2_itemOf_2 rfl ?_
  refine sim_bipush (16 : Int32) dX2_itemOf_3 rfl rfl ?_
  refine sim_iload_n 0 dX2_itemOf_5 rfl rfl ?_
  refine sim_imul dX2_itemOf_6 rfl ?_
  refine sim_iadd dX2_itemOf_7 rfl ?_
  exact sim_iret rfl dX2_itemOf_8
def f_X5_columnsShutTo_62 (N : Nat) (R : Int32 → Int32 → Int32 → Wd → Option (Int32 × Wd)) (K68 : Int32 → Wd → Option (Int32 × Wd)) (v2 : Int32) (v3 : Int32) (v4 : Int32) (w : Wd) : Option (Int32 × Wd) :=
  R v2 v3 (v4 + (1 : Int32)) w
set_option maxRecDepth 20000 in
theorem sf_X5_columnsShutTo_62 {E : Ev} (hL : LX E) {R : Int32 → Int32 → Int32 → Wd → Option (Int32 × Wd)} (hR : ∀ (v2 : Int32) (v3 : Int32) (v4 : Int32) (w : Wd), Sim E m_X5_columnsShutTo rI 21 [(0, .ref (Ea E 27)), (2, .int v2), (3, .int v3), (4, .int v4)] [] w (R v2 v3 v4 w)) {K68 : Int32 → Wd → Option (Int32 × Wd)} (hK68 : ∀ (v3 : Int32) (w : Wd), Sim E m_X5_columnsShutTo rI 68 [(3, .int v3)] [] w (K68 v3 w)) (v2 : Int32) (v3 : Int32) (v4 : Int32) (w : Wd) : Sim E m_X5_columnsShutTo rI 62 [(0, .ref (Ea E 27)), (2, .int v2), (3, .int v3), (4, .int v4)] [] w (f_X5_columnsShutTo_62 (En E) R K68 v2 v3 v4 w) := by
  unfold f_X5_columnsShutTo_62
  refine sim_iinc (v4 + (1 : Int32)) 3 [(4, .int (v4 + (1 : Int32))), (0, .ref (Ea E 27)), (2, .int v2), (3, .int v3)] dX5_columnsShutTo_62 rfl rfl (Nat.le_of_ble_eq_true rfl) rfl rfl ?_
  refine sim_goto (q := 21) dX5_columnsShutTo_65 rfl ?_
  exact sim_sub [1, 2, 3, 0] rfl (hR v2 v3 (v4 + (1 : Int32)) w)
def b_X5_columnsShutTo_21 (N : Nat) (R : Int32 → Int32 → Int32 → Wd → Option (Int32 × Wd)) (K68 : Int32 → Wd → Option (Int32 × Wd)) (v2 : Int32) (v3 : Int32) (v4 : Int32) (w : Wd) : Option (Int32 × Wd) :=
  if (w.1 2 1) ≤ v4 then
  K68 v3 w
  else
  if inb v4 (N * N) = true then
  if (w.1 23 (Int32.toNatClampNeg v4)) = v2 then
  if ¬ (w.1 2 0) = (0 : Int32) then
  lt (v3 ||| ((1 : Int32) <<< ((v4 - v4 / (w.1 2 0) * (w.1 2 0)) &&& 31))) fun x1 =>
  f_X5_columnsShutTo_62 N R K68 v2 x1 v4 w
  else none
  else
  f_X5_columnsShutTo_62 N R K68 v2 v3 v4 w
  else none
set_option maxRecDepth 20000 in
theorem sb_X5_columnsShutTo_21 {E : Ev} (hL : LX E) {R : Int32 → Int32 → Int32 → Wd → Option (Int32 × Wd)} (hR : ∀ (v2 : Int32) (v3 : Int32) (v4 : Int32) (w : Wd), Sim E m_X5_columnsShutTo rI 21 [(0, .ref (Ea E 27)), (2, .int v2), (3, .int v3), (4, .int v4)] [] w (R v2 v3 v4 w)) {K68 : Int32 → Wd → Option (Int32 × Wd)} (hK68 : ∀ (v3 : Int32) (w : Wd), Sim E m_X5_columnsShutTo rI 68 [(3, .int v3)] [] w (K68 v3 w)) (v2 : Int32) (v3 : Int32) (v4 : Int32) (w : Wd) : Sim E m_X5_columnsShutTo rI 21 [(0, .ref (Ea E 27)), (2, .int v2), (3, .int v3), (4, .int v4)] [] w (b_X5_columnsShutTo_21 (En E) R K68 v2 v3 v4 w) := by
  unfold b_X5_columnsShutTo_21
  refine sim_iload 3 dX5_columnsShutTo_21 rfl rfl ?_
  refine sim_aload_n 0 dX5_columnsShutTo_23 rfl rfl ?_
  refine sim_get (k := 27) (ci := 3) (j := 0) (v := .ref (Ea E 2)) (hL.1 27 rfl) rfl (by decide) fl_X5_9 rfl dX5_columnsShutTo_24 rfl ?_
  refine sim_get (k := 2) (ci := 6) (j := 1) (v := .int (w.1 2 1)) (hL.1 2 rfl) rfl (by decide) fl_X5_17 rfl dX5_columnsShutTo_27 rfl ?_
  refine sim_icmp_ge 68 dX5_columnsShutTo_30 rfl rfl (fun _ => ?_) (fun _ => ?_)
  · exact sim_sub [2] rfl (hK68 v3 w)
  · refine sim_aload_n 0 dX5_columnsShutTo_33 rfl rfl ?_
    refine sim_get (k := 27) (ci := 3) (j := 1) (v := .ref (Ea E 22)) (hL.1 27 rfl) rfl (by decide) fl_X5_13 rfl dX5_columnsShutTo_34 rfl ?_
    refine sim_get (k := 22) (ci := 4) (j := 3) (v := .ref (Ea E 23)) (hL.1 22 rfl) rfl (by decide) fl_X5_35 rfl dX5_columnsShutTo_37 rfl ?_
    refine sim_iload 3 dX5_columnsShutTo_40 rfl rfl ?_
    refine sim_iaload (k := 23) (hL.1 23 rfl) rfl rfl dX5_columnsShutTo_42 rfl ?_
    refine sim_iload_n 1 dX5_columnsShutTo_43 rfl rfl ?_
    refine sim_icmp_ne 62 dX5_columnsShutTo_44 rfl rfl (fun _ => ?_) (fun _ => ?_)
    · exact sim_sub [0, 1, 2, 3] rfl (sf_X5_columnsShutTo_62 hL hR hK68 v2 v3 v4 w)
    · refine sim_iload_n 2 dX5_columnsShutTo_47 rfl rfl ?_
      refine sim_iconst (1 : Int32) dX5_columnsShutTo_48 rfl rfl ?_
      refine sim_iload 3 dX5_columnsShutTo_49 rfl rfl ?_
      refine sim_aload_n 0 dX5_columnsShutTo_51 rfl rfl ?_
      refine sim_get (k := 27) (ci := 3) (j := 0) (v := .ref (Ea E 2)) (hL.1 27 rfl) rfl (by decide) fl_X5_9 rfl dX5_columnsShutTo_52 rfl ?_
      refine sim_get (k := 2) (ci := 6) (j := 0) (v := .int (w.1 2 0)) (hL.1 2 rfl) rfl (by decide) fl_X5_84 rfl dX5_columnsShutTo_55 rfl ?_
      refine sim_irem dX5_columnsShutTo_58 rfl ?_
      refine sim_ishl dX5_columnsShutTo_59 rfl ?_
      refine sim_ior dX5_columnsShutTo_60 rfl ?_
      refine sim_lt (fun x1 => ?_)
      refine sim_istore_n [(3, .int x1), (0, .ref (Ea E 27)), (2, .int v2), (4, .int v4)] dX5_columnsShutTo_61 (Nat.le_of_ble_eq_true rfl) rfl rfl ?_
      exact sim_sub [1, 2, 0, 3] rfl (sf_X5_columnsShutTo_62 hL hR hK68 v2 x1 v4 w)
def l_X5_columnsShutTo_21 (N : Nat) (K68 : Int32 → Wd → Option (Int32 × Wd)) (n : Nat) : Int32 → Int32 → Int32 → Wd → Option (Int32 × Wd) := itr (fun _ _ _ _ => none) (fun R => b_X5_columnsShutTo_21 N R K68) n
set_option maxRecDepth 20000 in
theorem sl_X5_columnsShutTo_21 {E : Ev} (hL : LX E) {K68 : Int32 → Wd → Option (Int32 × Wd)} (hK68 : ∀ (v3 : Int32) (w : Wd), Sim E m_X5_columnsShutTo rI 68 [(3, .int v3)] [] w (K68 v3 w)) : ∀ (n : Nat) (v2 : Int32) (v3 : Int32) (v4 : Int32) (w : Wd), Sim E m_X5_columnsShutTo rI 21 [(0, .ref (Ea E 27)), (2, .int v2), (3, .int v3), (4, .int v4)] [] w (l_X5_columnsShutTo_21 (En E) K68 n v2 v3 v4 w) := by
  intro n
  induction n with
  | zero => intros; exact sim_none
  | succ n ih => intros; exact sb_X5_columnsShutTo_21 hL (R := l_X5_columnsShutTo_21 (En E) K68 n) ih hK68 _ _ _ _
def f_X5_columnsShutTo_68 (N : Nat) (v3 : Int32) (w : Wd) : Option (Int32 × Wd) :=
  some (v3, w)
set_option maxRecDepth 20000 in
theorem sf_X5_columnsShutTo_68 {E : Ev} (hL : LX E) (v3 : Int32) (w : Wd) : Sim E m_X5_columnsShutTo rI 68 [(3, .int v3)] [] w (f_X5_columnsShutTo_68 (En E) v3 w) := by
  unfold f_X5_columnsShutTo_68
  refine sim_iload_n 0 dX5_columnsShutTo_68 rfl rfl ?_
  exact sim_iret rfl dX5_columnsShutTo_69
def f_X5_columnsShutTo (N : Nat) (v1 : Int32) (v2 : Int32) (w : Wd) : Option (Int32 × Wd) :=
  if inb v1 8 = true then
  if ((w.1 10 (Int32.toNatClampNeg v1)) &&& (1 : Int32)) = (0 : Int32) then
  some ((0 : Int32), w)
  else
  l_X5_columnsShutTo_21 N (f_X5_columnsShutTo_68 N) FU v2 (0 : Int32) (0 : Int32) w
  else none
set_option maxRecDepth 20000 in
theorem c_X5_columnsShutTo {E : Ev} (hL : LX E) (v1 : Int32) (v2 : Int32) (w : Wd) : Ct E m_X5_columnsShutTo yX5_columnsShutTo rI [.ref (Ea E 27), .int v1, .int v2] w (f_X5_columnsShutTo (En E) v1 v2 w) := by
  refine Ct.of (by decide) ⟨rfl, rfl⟩ (Nat.le_of_ble_eq_true rfl) ?_
  show Sim E m_X5_columnsShutTo rI 0 [(0, .ref (Ea E 27)), (1, .int v1), (2, .int v2)] [] w (f_X5_columnsShutTo (En E) v1 v2 w)
  unfold f_X5_columnsShutTo
  refine sim_aload_n 0 dX5_columnsShutTo_0 rfl rfl ?_
  refine sim_get (k := 27) (ci := 3) (j := 0) (v := .ref (Ea E 2)) (hL.1 27 rfl) rfl (by decide) fl_X5_9 rfl dX5_columnsShutTo_1 rfl ?_
  refine sim_get (k := 2) (ci := 6) (j := 9) (v := .ref (Ea E 10)) (hL.1 2 rfl) rfl (by decide) fl_X5_87 rfl dX5_columnsShutTo_4 rfl ?_
  refine sim_iload_n 1 dX5_columnsShutTo_7 rfl rfl ?_
  refine sim_iaload (k := 10) (hL.1 10 rfl) rfl rfl dX5_columnsShutTo_8 rfl ?_
  refine sim_iconst (1 : Int32) dX5_columnsShutTo_9 rfl rfl ?_
  refine sim_iand dX5_columnsShutTo_10 rfl ?_
  refine sim_if_ne 16 dX5_columnsShutTo_11 rfl rfl (fun _ => ?_) (fun _ => ?_)
  · refine sim_iconst (0 : Int32) dX5_columnsShutTo_16 rfl rfl ?_
    refine sim_istore_n [(3, .int (0 : Int32)), (0, .ref (Ea E 27)), (1, .int v1), (2, .int v2)] dX5_columnsShutTo_17 (Nat.le_of_ble_eq_true rfl) rfl rfl ?_
    refine sim_iconst (0 : Int32) dX5_columnsShutTo_18 rfl rfl ?_
    refine sim_istore [(4, .int (0 : Int32)), (3, .int (0 : Int32)), (0, .ref (Ea E 27)), (1, .int v1), (2, .int v2)] dX5_columnsShutTo_19 (Nat.le_of_ble_eq_true rfl) rfl rfl ?_
    exact sim_sub [2, 4, 1, 0] rfl (sl_X5_columnsShutTo_21 hL (sf_X5_columnsShutTo_68 hL) FU v2 (0 : Int32) (0 : Int32) w)
  · refine sim_iconst (0 : Int32) dX5_columnsShutTo_14 rfl rfl ?_
    exact sim_iret rfl dX5_columnsShutTo_15
def f_X3_setting (v0 : Int32) (v1 : Int32) (w : Wd) : Option (Int32 × Wd) :=
  some ((((v0 <<< ((13 : Int32) &&& 31)) ||| (4032 : Int32)) ||| v1), w)
set_option maxRecDepth 20000 in
theorem c_X3_setting {E : Ev} (v0 : Int32) (v1 : Int32) (w : Wd) : Ct E m_X3_setting yX3_setting rI [.int v0, .int v1] w (f_X3_setting v0 v1 w) := by
  refine Ct.of (by decide) ⟨rfl, rfl⟩ (Nat.le_of_ble_eq_true rfl) ?_
  show Sim E m_X3_setting rI 0 [(0, .int v0), (1, .int v1)] [] w (f_X3_setting v0 v1 w)
  unfold f_X3_setting
  refine sim_iload_n 0 dX3_setting_0 rfl rfl ?_
  refine sim_bipush (13 : Int32) dX3_setting_1 rfl rfl ?_
  refine sim_ishl dX3_setting_3 rfl ?_
  refine sim_sipush (4032 : Int32) dX3_setting_4 rfl rfl ?_
  refine sim_ior dX3_setting_7 rfl ?_
  refine sim_iload_n 1 dX3_setting_8 rfl rfl ?_
  refine sim_ior dX3_setting_9 rfl ?_
  exact sim_iret rfl dX3_setting_10
def f_X5_addSettings_128 (N : Nat) (R : Int32 → Int32 → Int32 → Int32 → Int32 → Int32 → Wd → Option (Int32 × Wd)) (K136 : Int32 → Wd → Option (Int32 × Wd)) (v1 : Int32) (v3 : Int32) (v4 : Int32) (v5 : Int32) (v7 : Int32) (s0 : Int32) (w : Wd) : Option (Int32 × Wd) :=
  R v1 v3 v4 v5 s0 (v7 + (1 : Int32)) w
set_option maxRecDepth 20000 in
theorem sf_X5_addSettings_128 {E : Ev} (hL : LX E) {R : Int32 → Int32 → Int32 → Int32 → Int32 → Int32 → Wd → Option (Int32 × Wd)} (hR : ∀ (v1 : Int32) (v3 : Int32) (v4 : Int32) (v5 : Int32) (v6 : Int32) (v7 : Int32) (w : Wd), Sim E m_X5_addSettings rI 30 [(0, .ref (Ea E 27)), (1, .int v1), (3, .int v3), (4, .int v4), (5, .int v5), (6, .int v6), (7, .int v7)] [] w (R v1 v3 v4 v5 v6 v7 w)) {K136 : Int32 → Wd → Option (Int32 × Wd)} (hK136 : ∀ (v3 : Int32) (w : Wd), Sim E m_X5_addSettings rI 136 [(3, .int v3)] [] w (K136 v3 w)) (v1 : Int32) (v3 : Int32) (v4 : Int32) (v5 : Int32) (v7 : Int32) (s0 : Int32) (w : Wd) : Sim E m_X5_addSettings rI 128 [(0, .ref (Ea E 27)), (1, .int v1), (3, .int v3), (4, .int v4), (5, .int v5), (7, .int v7)] [.int s0] w (f_X5_addSettings_128 (En E) R K136 v1 v3 v4 v5 v7 s0 w) := by
  unfold f_X5_addSettings_128
  refine sim_istore [(6, .int s0), (0, .ref (Ea E 27)), (1, .int v1), (3, .int v3), (4, .int v4), (5, .int v5), (7, .int v7)] dX5_addSettings_128 (Nat.le_of_ble_eq_true rfl) rfl rfl ?_
  refine sim_iinc (v7 + (1 : Int32)) 6 [(7, .int (v7 + (1 : Int32))), (6, .int s0), (0, .ref (Ea E 27)), (1, .int v1), (3, .int v3), (4, .int v4), (5, .int v5)] dX5_addSettings_130 rfl rfl (Nat.le_of_ble_eq_true rfl) rfl rfl ?_
  refine sim_goto (q := 30) dX5_addSettings_133 rfl ?_
  exact sim_sub [2, 3, 4, 5, 6, 1, 0] rfl (hR v1 v3 v4 v5 s0 (v7 + (1 : Int32)) w)
def f_X5_addSettings_106 (N : Nat) (R : Int32 → Int32 → Int32 → Int32 → Int32 → Int32 → Wd → Option (Int32 × Wd)) (K136 : Int32 → Wd → Option (Int32 × Wd)) (v1 : Int32) (v3 : Int32) (v4 : Int32) (v5 : Int32) (v6 : Int32) (v7 : Int32) (w : Wd) : Option (Int32 × Wd) :=
  if (w.1 2 0) ≤ (v6 + (1 : Int32)) then
  f_X5_addSettings_128 N R K136 v1 v3 v4 v5 v7 (0 : Int32) w
  else
  f_X5_addSettings_128 N R K136 v1 v3 v4 v5 v7 (v6 + (1 : Int32)) w
set_option maxRecDepth 20000 in
theorem sf_X5_addSettings_106 {E : Ev} (hL : LX E) {R : Int32 → Int32 → Int32 → Int32 → Int32 → Int32 → Wd → Option (Int32 × Wd)} (hR : ∀ (v1 : Int32) (v3 : Int32) (v4 : Int32) (v5 : Int32) (v6 : Int32) (v7 : Int32) (w : Wd), Sim E m_X5_addSettings rI 30 [(0, .ref (Ea E 27)), (1, .int v1), (3, .int v3), (4, .int v4), (5, .int v5), (6, .int v6), (7, .int v7)] [] w (R v1 v3 v4 v5 v6 v7 w)) {K136 : Int32 → Wd → Option (Int32 × Wd)} (hK136 : ∀ (v3 : Int32) (w : Wd), Sim E m_X5_addSettings rI 136 [(3, .int v3)] [] w (K136 v3 w)) (v1 : Int32) (v3 : Int32) (v4 : Int32) (v5 : Int32) (v6 : Int32) (v7 : Int32) (w : Wd) : Sim E m_X5_addSettings rI 106 [(0, .ref (Ea E 27)), (1, .int v1), (3, .int v3), (4, .int v4), (5, .int v5), (6, .int v6), (7, .int v7)] [] w (f_X5_addSettings_106 (En E) R K136 v1 v3 v4 v5 v6 v7 w) := by
  unfold f_X5_addSettings_106
  refine sim_iload 5 dX5_addSettings_106 rfl rfl ?_
  refine sim_iconst (1 : Int32) dX5_addSettings_108 rfl rfl ?_
  refine sim_iadd dX5_addSettings_109 rfl ?_
  refine sim_aload_n 0 dX5_addSettings_110 rfl rfl ?_
  refine sim_get (k := 27) (ci := 3) (j := 0) (v := .ref (Ea E 2)) (hL.1 27 rfl) rfl (by decide) fl_X5_9 rfl dX5_addSettings_111 rfl ?_
  refine sim_get (k := 2) (ci := 6) (j := 0) (v := .int (w.1 2 0)) (hL.1 2 rfl) rfl (by decide) fl_X5_84 rfl dX5_addSettings_114 rfl ?_
  refine sim_icmp_ge 127 dX5_addSettings_117 rfl rfl (fun _ => ?_) (fun _ => ?_)
  · refine sim_iconst (0 : Int32) dX5_addSettings_127 rfl rfl ?_
    exact sim_sub [0, 1, 2, 3, 4, 6] rfl (sf_X5_addSettings_128 hL hR hK136 v1 v3 v4 v5 v7 (0 : Int32) w)
  · refine sim_iload 5 dX5_addSettings_120 rfl rfl ?_
    refine sim_iconst (1 : Int32) dX5_addSettings_122 rfl rfl ?_
    refine sim_iadd dX5_addSettings_123 rfl ?_
    refine sim_goto (q := 128) dX5_addSettings_124 rfl ?_
    exact sim_sub [0, 1, 2, 3, 4, 6] rfl (sf_X5_addSettings_128 hL hR hK136 v1 v3 v4 v5 v7 (v6 + (1 : Int32)) w)
def f_X5_addSettings_70 (N : Nat) (R : Int32 → Int32 → Int32 → Int32 → Int32 → Int32 → Wd → Option (Int32 × Wd)) (K136 : Int32 → Wd → Option (Int32 × Wd)) (v1 : Int32) (v3 : Int32) (v4 : Int32) (v5 : Int32) (v6 : Int32) (v7 : Int32) (s0 : Int32) (w : Wd) : Option (Int32 × Wd) :=
  if s0 = (0 : Int32) then
  f_X5_addSettings_106 N R K136 v1 v3 v4 v5 v6 v7 w
  else
  bd (f_X8_goesOn N v4 v7 w) fun x5 w6 =>
  if x5 = (0 : Int32) then
  f_X5_addSettings_106 N R K136 v1 v3 v4 v5 v6 v7 w6
  else
  bd (f_X3_setting v1 v7 w6) fun x7 w8 =>
  if inb v3 (270 * (N * N)) = true then
  lw (wdI w8 28 (Int32.toNatClampNeg v3) x7) fun w9 =>
  f_X5_addSettings_106 N R K136 v1 (v3 + (1 : Int32)) v4 v5 v6 v7 w9
  else none
set_option maxRecDepth 20000 in
theorem sf_X5_addSettings_70 {E : Ev} (hL : LX E) {R : Int32 → Int32 → Int32 → Int32 → Int32 → Int32 → Wd → Option (Int32 × Wd)} (hR : ∀ (v1 : Int32) (v3 : Int32) (v4 : Int32) (v5 : Int32) (v6 : Int32) (v7 : Int32) (w : Wd), Sim E m_X5_addSettings rI 30 [(0, .ref (Ea E 27)), (1, .int v1), (3, .int v3), (4, .int v4), (5, .int v5), (6, .int v6), (7, .int v7)] [] w (R v1 v3 v4 v5 v6 v7 w)) {K136 : Int32 → Wd → Option (Int32 × Wd)} (hK136 : ∀ (v3 : Int32) (w : Wd), Sim E m_X5_addSettings rI 136 [(3, .int v3)] [] w (K136 v3 w)) (v1 : Int32) (v3 : Int32) (v4 : Int32) (v5 : Int32) (v6 : Int32) (v7 : Int32) (s0 : Int32) (w : Wd) : Sim E m_X5_addSettings rI 70 [(0, .ref (Ea E 27)), (1, .int v1), (3, .int v3), (4, .int v4), (5, .int v5), (6, .int v6), (7, .int v7)] [.int s0] w (f_X5_addSettings_70 (En E) R K136 v1 v3 v4 v5 v6 v7 s0 w) := by
  unfold f_X5_addSettings_70
  refine sim_istore [(8, .int s0), (0, .ref (Ea E 27)), (1, .int v1), (3, .int v3), (4, .int v4), (5, .int v5), (6, .int v6), (7, .int v7)] dX5_addSettings_70 (Nat.le_of_ble_eq_true rfl) rfl rfl ?_
  refine sim_iload 0 dX5_addSettings_72 rfl rfl ?_
  refine sim_if_eq 106 dX5_addSettings_74 rfl rfl (fun _ => ?_) (fun _ => ?_)
  · exact sim_sub [1, 2, 3, 4, 5, 6, 7] rfl (sf_X5_addSettings_106 hL hR hK136 v1 v3 v4 v5 v6 v7 w)
  · refine sim_aload_n 1 dX5_addSettings_77 rfl rfl ?_
    refine sim_get (k := 27) (ci := 3) (j := 0) (v := .ref (Ea E 2)) (hL.1 27 rfl) rfl (by decide) fl_X5_9 rfl dX5_addSettings_78 rfl ?_
    refine sim_iload 4 dX5_addSettings_81 rfl rfl ?_
    refine sim_iload 7 dX5_addSettings_83 rfl rfl ?_
    refine sim_cVi (k := 2) (ci := 6) [.int v4, .int v7] [] (c_X8_goesOn hL.w v4 v7 w) (hL.1 2 rfl) rfl (by decide) rfl cb_X5_65 im_X8_goesOn se_X8_goesOn rfl rfl rfl (Nat.le_of_ble_eq_true rfl) dX5_addSettings_85 rfl (fun x5 w6 => ?_)
    refine sim_if_eq 106 dX5_addSettings_88 rfl rfl (fun _ => ?_) (fun _ => ?_)
    · exact sim_sub [1, 2, 3, 4, 5, 6, 7] rfl (sf_X5_addSettings_106 hL hR hK136 v1 v3 v4 v5 v6 v7 w6)
    · refine sim_aload_n 1 dX5_addSettings_91 rfl rfl ?_
      refine sim_get (k := 27) (ci := 3) (j := 3) (v := .ref (Ea E 28)) (hL.1 27 rfl) rfl (by decide) fl_X5_26 rfl dX5_addSettings_92 rfl ?_
      refine sim_iload_n 3 dX5_addSettings_95 rfl rfl ?_
      refine sim_iinc (v3 + (1 : Int32)) 3 [(3, .int (v3 + (1 : Int32))), (8, .int s0), (0, .ref (Ea E 27)), (1, .int v1), (4, .int v4), (5, .int v5), (6, .int v6), (7, .int v7)] dX5_addSettings_96 rfl rfl (Nat.le_of_ble_eq_true rfl) rfl rfl ?_
      refine sim_iload_n 3 dX5_addSettings_99 rfl rfl ?_
      refine sim_iload 7 dX5_addSettings_100 rfl rfl ?_
      refine sim_cSi [.int v1, .int v7] [.int v3, .ref (Ea E 28)] (c_X3_setting v1 v7 w6) cb_X5_81 sx_X3_setting rfl rfl rfl (Nat.le_of_ble_eq_true rfl) dX5_addSettings_102 rfl (fun x7 w8 => ?_)
      refine sim_iastore (k := 28) (hL.1 28 rfl) rfl rfl dX5_addSettings_105 rfl ?_
      refine sim_lw (fun w9 => ?_)
      exact sim_sub [2, 3, 0, 4, 5, 6, 7] rfl (sf_X5_addSettings_106 hL hR hK136 v1 (v3 + (1 : Int32)) v4 v5 v6 v7 w9)
def f_X5_addSettings_69 (N : Nat) (R : Int32 → Int32 → Int32 → Int32 → Int32 → Int32 → Wd → Option (Int32 × Wd)) (K136 : Int32 → Wd → Option (Int32 × Wd)) (v1 : Int32) (v3 : Int32) (v4 : Int32) (v5 : Int32) (v6 : Int32) (v7 : Int32) (w : Wd) : Option (Int32 × Wd) :=
  f_X5_addSettings_70 N R K136 v1 v3 v4 v5 v6 v7 (0 : Int32) w
set_option maxRecDepth 20000 in
theorem sf_X5_addSettings_69 {E : Ev} (hL : LX E) {R : Int32 → Int32 → Int32 → Int32 → Int32 → Int32 → Wd → Option (Int32 × Wd)} (hR : ∀ (v1 : Int32) (v3 : Int32) (v4 : Int32) (v5 : Int32) (v6 : Int32) (v7 : Int32) (w : Wd), Sim E m_X5_addSettings rI 30 [(0, .ref (Ea E 27)), (1, .int v1), (3, .int v3), (4, .int v4), (5, .int v5), (6, .int v6), (7, .int v7)] [] w (R v1 v3 v4 v5 v6 v7 w)) {K136 : Int32 → Wd → Option (Int32 × Wd)} (hK136 : ∀ (v3 : Int32) (w : Wd), Sim E m_X5_addSettings rI 136 [(3, .int v3)] [] w (K136 v3 w)) (v1 : Int32) (v3 : Int32) (v4 : Int32) (v5 : Int32) (v6 : Int32) (v7 : Int32) (w : Wd) : Sim E m_X5_addSettings rI 69 [(0, .ref (Ea E 27)), (1, .int v1), (3, .int v3), (4, .int v4), (5, .int v5), (6, .int v6), (7, .int v7)] [] w (f_X5_addSettings_69 (En E) R K136 v1 v3 v4 v5 v6 v7 w) := by
  unfold f_X5_addSettings_69
  refine sim_iconst (0 : Int32) dX5_addSettings_69 rfl rfl ?_
  exact sim_sub [0, 1, 2, 3, 4, 5, 6] rfl (sf_X5_addSettings_70 hL hR hK136 v1 v3 v4 v5 v6 v7 (0 : Int32) w)
def b_X5_addSettings_30 (N : Nat) (R : Int32 → Int32 → Int32 → Int32 → Int32 → Int32 → Wd → Option (Int32 × Wd)) (K136 : Int32 → Wd → Option (Int32 × Wd)) (v1 : Int32) (v3 : Int32) (v4 : Int32) (v5 : Int32) (v6 : Int32) (v7 : Int32) (w : Wd) : Option (Int32 × Wd) :=
  if (w.1 2 1) ≤ v7 then
  K136 v3 w
  else
  if inb v7 (N * N) = true then
  if (w.1 23 (Int32.toNatClampNeg v7)) = (0 : Int32) then
  if ((v5 >>> (v6 &&& 31)) &&& (1 : Int32)) = (0 : Int32) then
  f_X5_addSettings_70 N R K136 v1 v3 v4 v5 v6 v7 (1 : Int32) w
  else
  f_X5_addSettings_69 N R K136 v1 v3 v4 v5 v6 v7 w
  else
  f_X5_addSettings_69 N R K136 v1 v3 v4 v5 v6 v7 w
  else none
set_option maxRecDepth 20000 in
theorem sb_X5_addSettings_30 {E : Ev} (hL : LX E) {R : Int32 → Int32 → Int32 → Int32 → Int32 → Int32 → Wd → Option (Int32 × Wd)} (hR : ∀ (v1 : Int32) (v3 : Int32) (v4 : Int32) (v5 : Int32) (v6 : Int32) (v7 : Int32) (w : Wd), Sim E m_X5_addSettings rI 30 [(0, .ref (Ea E 27)), (1, .int v1), (3, .int v3), (4, .int v4), (5, .int v5), (6, .int v6), (7, .int v7)] [] w (R v1 v3 v4 v5 v6 v7 w)) {K136 : Int32 → Wd → Option (Int32 × Wd)} (hK136 : ∀ (v3 : Int32) (w : Wd), Sim E m_X5_addSettings rI 136 [(3, .int v3)] [] w (K136 v3 w)) (v1 : Int32) (v3 : Int32) (v4 : Int32) (v5 : Int32) (v6 : Int32) (v7 : Int32) (w : Wd) : Sim E m_X5_addSettings rI 30 [(0, .ref (Ea E 27)), (1, .int v1), (3, .int v3), (4, .int v4), (5, .int v5), (6, .int v6), (7, .int v7)] [] w (b_X5_addSettings_30 (En E) R K136 v1 v3 v4 v5 v6 v7 w) := by
  unfold b_X5_addSettings_30
  refine sim_iload 6 dX5_addSettings_30 rfl rfl ?_
  refine sim_aload_n 0 dX5_addSettings_32 rfl rfl ?_
  refine sim_get (k := 27) (ci := 3) (j := 0) (v := .ref (Ea E 2)) (hL.1 27 rfl) rfl (by decide) fl_X5_9 rfl dX5_addSettings_33 rfl ?_
  refine sim_get (k := 2) (ci := 6) (j := 1) (v := .int (w.1 2 1)) (hL.1 2 rfl) rfl (by decide) fl_X5_17 rfl dX5_addSettings_36 rfl ?_
  refine sim_icmp_ge 136 dX5_addSettings_39 rfl rfl (fun _ => ?_) (fun _ => ?_)
  · exact sim_sub [2] rfl (hK136 v3 w)
  · refine sim_aload_n 0 dX5_addSettings_42 rfl rfl ?_
    refine sim_get (k := 27) (ci := 3) (j := 1) (v := .ref (Ea E 22)) (hL.1 27 rfl) rfl (by decide) fl_X5_13 rfl dX5_addSettings_43 rfl ?_
    refine sim_get (k := 22) (ci := 4) (j := 3) (v := .ref (Ea E 23)) (hL.1 22 rfl) rfl (by decide) fl_X5_35 rfl dX5_addSettings_46 rfl ?_
    refine sim_iload 6 dX5_addSettings_49 rfl rfl ?_
    refine sim_iaload (k := 23) (hL.1 23 rfl) rfl rfl dX5_addSettings_51 rfl ?_
    refine sim_if_ne 69 dX5_addSettings_52 rfl rfl (fun _ => ?_) (fun _ => ?_)
    · exact sim_sub [0, 1, 2, 3, 4, 5, 6] rfl (sf_X5_addSettings_69 hL hR hK136 v1 v3 v4 v5 v6 v7 w)
    · refine sim_iload 4 dX5_addSettings_55 rfl rfl ?_
      refine sim_iload 5 dX5_addSettings_57 rfl rfl ?_
      refine sim_ishr dX5_addSettings_59 rfl ?_
      refine sim_iconst (1 : Int32) dX5_addSettings_60 rfl rfl ?_
      refine sim_iand dX5_addSettings_61 rfl ?_
      refine sim_if_ne 69 dX5_addSettings_62 rfl rfl (fun _ => ?_) (fun _ => ?_)
      · exact sim_sub [0, 1, 2, 3, 4, 5, 6] rfl (sf_X5_addSettings_69 hL hR hK136 v1 v3 v4 v5 v6 v7 w)
      · refine sim_iconst (1 : Int32) dX5_addSettings_65 rfl rfl ?_
        refine sim_goto (q := 70) dX5_addSettings_66 rfl ?_
        exact sim_sub [0, 1, 2, 3, 4, 5, 6] rfl (sf_X5_addSettings_70 hL hR hK136 v1 v3 v4 v5 v6 v7 (1 : Int32) w)
def l_X5_addSettings_30 (N : Nat) (K136 : Int32 → Wd → Option (Int32 × Wd)) (n : Nat) : Int32 → Int32 → Int32 → Int32 → Int32 → Int32 → Wd → Option (Int32 × Wd) := itr (fun _ _ _ _ _ _ _ => none) (fun R => b_X5_addSettings_30 N R K136) n
set_option maxRecDepth 20000 in
theorem sl_X5_addSettings_30 {E : Ev} (hL : LX E) {K136 : Int32 → Wd → Option (Int32 × Wd)} (hK136 : ∀ (v3 : Int32) (w : Wd), Sim E m_X5_addSettings rI 136 [(3, .int v3)] [] w (K136 v3 w)) : ∀ (n : Nat) (v1 : Int32) (v3 : Int32) (v4 : Int32) (v5 : Int32) (v6 : Int32) (v7 : Int32) (w : Wd), Sim E m_X5_addSettings rI 30 [(0, .ref (Ea E 27)), (1, .int v1), (3, .int v3), (4, .int v4), (5, .int v5), (6, .int v6), (7, .int v7)] [] w (l_X5_addSettings_30 (En E) K136 n v1 v3 v4 v5 v6 v7 w) := by
  intro n
  induction n with
  | zero => intros; exact sim_none
  | succ n ih => intros; exact sb_X5_addSettings_30 hL (R := l_X5_addSettings_30 (En E) K136 n) ih hK136 _ _ _ _ _ _ _
def f_X5_addSettings_136 (N : Nat) (v3 : Int32) (w : Wd) : Option (Int32 × Wd) :=
  some (v3, w)
set_option maxRecDepth 20000 in
theorem sf_X5_addSettings_136 {E : Ev} (hL : LX E) (v3 : Int32) (w : Wd) : Sim E m_X5_addSettings rI 136 [(3, .int v3)] [] w (f_X5_addSettings_136 (En E) v3 w) := by
  unfold f_X5_addSettings_136
  refine sim_iload_n 0 dX5_addSettings_136 rfl rfl ?_
  exact sim_iret rfl dX5_addSettings_137
def f_X5_addSettings (N : Nat) (v1 : Int32) (v2 : Int32) (w : Wd) : Option (Int32 × Wd) :=
  bd (f_X2_itemOf (w.1 22 7) v1 w) fun x1 w2 =>
  bd (f_X5_columnsShutTo N v1 x1 w2) fun x3 w4 =>
  l_X5_addSettings_30 N (f_X5_addSettings_136 N) FU v1 v2 x1 x3 (0 : Int32) (0 : Int32) w4
set_option maxRecDepth 20000 in
theorem c_X5_addSettings {E : Ev} (hL : LX E) (v1 : Int32) (v2 : Int32) (w : Wd) : Ct E m_X5_addSettings yX5_addSettings rI [.ref (Ea E 27), .int v1, .int v2] w (f_X5_addSettings (En E) v1 v2 w) := by
  refine Ct.of (by decide) ⟨rfl, rfl⟩ (Nat.le_of_ble_eq_true rfl) ?_
  show Sim E m_X5_addSettings rI 0 [(0, .ref (Ea E 27)), (1, .int v1), (2, .int v2)] [] w (f_X5_addSettings (En E) v1 v2 w)
  unfold f_X5_addSettings
  refine sim_iload_n 2 dX5_addSettings_0 rfl rfl ?_
  refine sim_istore_n [(3, .int v2), (0, .ref (Ea E 27)), (1, .int v1), (2, .int v2)] dX5_addSettings_1 (Nat.le_of_ble_eq_true rfl) rfl rfl ?_
  refine sim_aload_n 1 dX5_addSettings_2 rfl rfl ?_
  refine sim_get (k := 27) (ci := 3) (j := 1) (v := .ref (Ea E 22)) (hL.1 27 rfl) rfl (by decide) fl_X5_13 rfl dX5_addSettings_3 rfl ?_
  refine sim_get (k := 22) (ci := 4) (j := 7) (v := .int (w.1 22 7)) (hL.1 22 rfl) rfl (by decide) fl_X5_30 rfl dX5_addSettings_6 rfl ?_
  refine sim_iload_n 2 dX5_addSettings_9 rfl rfl ?_
  refine sim_cSi [.int (w.1 22 7), .int v1] [] (c_X2_itemOf (w.1 22 7) v1 w) cb_X5_75 sx_X2_itemOf rfl rfl rfl (Nat.le_of_ble_eq_true rfl) dX5_addSettings_10 rfl (fun x1 w2 => ?_)
  refine sim_istore [(4, .int x1), (3, .int v2), (0, .ref (Ea E 27)), (1, .int v1), (2, .int v2)] dX5_addSettings_13 (Nat.le_of_ble_eq_true rfl) rfl rfl ?_
  refine sim_aload_n 2 dX5_addSettings_15 rfl rfl ?_
  refine sim_iload_n 3 dX5_addSettings_16 rfl rfl ?_
  refine sim_iload 0 dX5_addSettings_17 rfl rfl ?_
  refine sim_cVi (k := 27) (ci := 3) [.int v1, .int x1] [] (c_X5_columnsShutTo hL v1 x1 w2) (hL.1 27 rfl) rfl (by decide) rfl cb_X5_78 im_X5_columnsShutTo se_X5_columnsShutTo rfl rfl rfl (Nat.le_of_ble_eq_true rfl) dX5_addSettings_19 rfl (fun x3 w4 => ?_)
  refine sim_istore [(5, .int x3), (4, .int x1), (3, .int v2), (0, .ref (Ea E 27)), (1, .int v1), (2, .int v2)] dX5_addSettings_22 (Nat.le_of_ble_eq_true rfl) rfl rfl ?_
  refine sim_iconst (0 : Int32) dX5_addSettings_24 rfl rfl ?_
  refine sim_istore [(6, .int (0 : Int32)), (5, .int x3), (4, .int x1), (3, .int v2), (0, .ref (Ea E 27)), (1, .int v1), (2, .int v2)] dX5_addSettings_25 (Nat.le_of_ble_eq_true rfl) rfl rfl ?_
  refine sim_iconst (0 : Int32) dX5_addSettings_27 rfl rfl ?_
  refine sim_istore [(7, .int (0 : Int32)), (6, .int (0 : Int32)), (5, .int x3), (4, .int x1), (3, .int v2), (0, .ref (Ea E 27)), (1, .int v1), (2, .int v2)] dX5_addSettings_28 (Nat.le_of_ble_eq_true rfl) rfl rfl ?_
  exact sim_sub [5, 6, 4, 3, 2, 1, 0] rfl (sl_X5_addSettings_30 hL (sf_X5_addSettings_136 hL) FU v1 v2 x1 x3 (0 : Int32) (0 : Int32) w4)
def f_X5_fill_64 (N : Nat) (R : Int32 → Int32 → Int32 → Wd → Option (Int32 × Wd)) (K70 : Int32 → Int32 → Wd → Option (Int32 × Wd)) (v2 : Int32) (v3 : Int32) (v4 : Int32) (w : Wd) : Option (Int32 × Wd) :=
  R v2 v3 (v4 + (1 : Int32)) w
set_option maxRecDepth 20000 in
theorem sf_X5_fill_64 {E : Ev} (hL : LX E) {R : Int32 → Int32 → Int32 → Wd → Option (Int32 × Wd)} (hR : ∀ (v2 : Int32) (v3 : Int32) (v4 : Int32) (w : Wd), Sim E m_X5_fill rI 18 [(0, .ref (Ea E 27)), (2, .int v2), (3, .int v3), (4, .int v4)] [] w (R v2 v3 v4 w)) {K70 : Int32 → Int32 → Wd → Option (Int32 × Wd)} (hK70 : ∀ (v2 : Int32) (v3 : Int32) (w : Wd), Sim E m_X5_fill rI 70 [(0, .ref (Ea E 27)), (2, .int v2), (3, .int v3)] [] w (K70 v2 v3 w)) (v2 : Int32) (v3 : Int32) (v4 : Int32) (w : Wd) : Sim E m_X5_fill rI 64 [(0, .ref (Ea E 27)), (2, .int v2), (3, .int v3), (4, .int v4)] [] w (f_X5_fill_64 (En E) R K70 v2 v3 v4 w) := by
  unfold f_X5_fill_64
  refine sim_iinc (v4 + (1 : Int32)) 3 [(4, .int (v4 + (1 : Int32))), (0, .ref (Ea E 27)), (2, .int v2), (3, .int v3)] dX5_fill_64 rfl rfl (Nat.le_of_ble_eq_true rfl) rfl rfl ?_
  refine sim_goto (q := 18) dX5_fill_67 rfl ?_
  exact sim_sub [1, 2, 3, 0] rfl (hR v2 v3 (v4 + (1 : Int32)) w)
def b_X5_fill_18 (N : Nat) (R : Int32 → Int32 → Int32 → Wd → Option (Int32 × Wd)) (K70 : Int32 → Int32 → Wd → Option (Int32 × Wd)) (v2 : Int32) (v3 : Int32) (v4 : Int32) (w : Wd) : Option (Int32 × Wd) :=
  if (w.1 2 1) ≤ v4 then
  K70 v2 v3 w
  else
  if inb v4 (N * N) = true then
  bd (f_X2_sideOf (w.1 23 (Int32.toNatClampNeg v4)) w) fun x3 w4 =>
  if x3 = v3 then
  bd (f_X6_reach N v4 w4) fun x5 w6 =>
  bd (f_X5_addGoings N v4 x5 v2 w6) fun x7 w8 =>
  f_X5_fill_64 N R K70 x7 v3 v4 w8
  else
  f_X5_fill_64 N R K70 v2 v3 v4 w4
  else none
set_option maxRecDepth 20000 in
theorem sb_X5_fill_18 {E : Ev} (hL : LX E) {R : Int32 → Int32 → Int32 → Wd → Option (Int32 × Wd)} (hR : ∀ (v2 : Int32) (v3 : Int32) (v4 : Int32) (w : Wd), Sim E m_X5_fill rI 18 [(0, .ref (Ea E 27)), (2, .int v2), (3, .int v3), (4, .int v4)] [] w (R v2 v3 v4 w)) {K70 : Int32 → Int32 → Wd → Option (Int32 × Wd)} (hK70 : ∀ (v2 : Int32) (v3 : Int32) (w : Wd), Sim E m_X5_fill rI 70 [(0, .ref (Ea E 27)), (2, .int v2), (3, .int v3)] [] w (K70 v2 v3 w)) (v2 : Int32) (v3 : Int32) (v4 : Int32) (w : Wd) : Sim E m_X5_fill rI 18 [(0, .ref (Ea E 27)), (2, .int v2), (3, .int v3), (4, .int v4)] [] w (b_X5_fill_18 (En E) R K70 v2 v3 v4 w) := by
  unfold b_X5_fill_18
  refine sim_iload 3 dX5_fill_18 rfl rfl ?_
  refine sim_aload_n 0 dX5_fill_20 rfl rfl ?_
  refine sim_get (k := 27) (ci := 3) (j := 0) (v := .ref (Ea E 2)) (hL.1 27 rfl) rfl (by decide) fl_X5_9 rfl dX5_fill_21 rfl ?_
  refine sim_get (k := 2) (ci := 6) (j := 1) (v := .int (w.1 2 1)) (hL.1 2 rfl) rfl (by decide) fl_X5_17 rfl dX5_fill_24 rfl ?_
  refine sim_icmp_ge 70 dX5_fill_27 rfl rfl (fun _ => ?_) (fun _ => ?_)
  · exact sim_sub [0, 1, 2] rfl (hK70 v2 v3 w)
  · refine sim_aload_n 0 dX5_fill_30 rfl rfl ?_
    refine sim_get (k := 27) (ci := 3) (j := 1) (v := .ref (Ea E 22)) (hL.1 27 rfl) rfl (by decide) fl_X5_13 rfl dX5_fill_31 rfl ?_
    refine sim_get (k := 22) (ci := 4) (j := 3) (v := .ref (Ea E 23)) (hL.1 22 rfl) rfl (by decide) fl_X5_35 rfl dX5_fill_34 rfl ?_
    refine sim_iload 3 dX5_fill_37 rfl rfl ?_
    refine sim_iaload (k := 23) (hL.1 23 rfl) rfl rfl dX5_fill_39 rfl ?_
    refine sim_cSi [.int (w.1 23 (Int32.toNatClampNeg v4))] [] (c_X2_sideOf (w.1 23 (Int32.toNatClampNeg v4)) w) cb_X5_38 sx_X2_sideOf rfl rfl rfl (Nat.le_of_ble_eq_true rfl) dX5_fill_40 rfl (fun x3 w4 => ?_)
    refine sim_iload_n 2 dX5_fill_43 rfl rfl ?_
    refine sim_icmp_ne 64 dX5_fill_44 rfl rfl (fun _ => ?_) (fun _ => ?_)
    · exact sim_sub [0, 1, 2, 3] rfl (sf_X5_fill_64 hL hR hK70 v2 v3 v4 w4)
    · refine sim_aload_n 0 dX5_fill_47 rfl rfl ?_
      refine sim_iload 3 dX5_fill_48 rfl rfl ?_
      refine sim_aload_n 0 dX5_fill_50 rfl rfl ?_
      refine sim_get (k := 27) (ci := 3) (j := 1) (v := .ref (Ea E 22)) (hL.1 27 rfl) rfl (by decide) fl_X5_13 rfl dX5_fill_51 rfl ?_
      refine sim_iload 3 dX5_fill_54 rfl rfl ?_
      refine sim_cVi (k := 22) (ci := 4) [.int v4] [.int v4, .ref (Ea E 27)] (c_X6_reach hL v4 w4) (hL.1 22 rfl) rfl (by decide) rfl cb_X5_44 im_X6_reach se_X6_reach rfl rfl rfl (Nat.le_of_ble_eq_true rfl) dX5_fill_56 rfl (fun x5 w6 => ?_)
      refine sim_iload_n 1 dX5_fill_59 rfl rfl ?_
      refine sim_cVi (k := 27) (ci := 3) [.int v4, .int x5, .int v2] [] (c_X5_addGoings hL v4 x5 v2 w6) (hL.1 27 rfl) rfl (by decide) rfl cb_X5_47 im_X5_addGoings se_X5_addGoings rfl rfl rfl (Nat.le_of_ble_eq_true rfl) dX5_fill_60 rfl (fun x7 w8 => ?_)
      refine sim_istore_n [(2, .int x7), (0, .ref (Ea E 27)), (3, .int v3), (4, .int v4)] dX5_fill_63 (Nat.le_of_ble_eq_true rfl) rfl rfl ?_
      exact sim_sub [1, 0, 2, 3] rfl (sf_X5_fill_64 hL hR hK70 x7 v3 v4 w8)
def l_X5_fill_18 (N : Nat) (K70 : Int32 → Int32 → Wd → Option (Int32 × Wd)) (n : Nat) : Int32 → Int32 → Int32 → Wd → Option (Int32 × Wd) := itr (fun _ _ _ _ => none) (fun R => b_X5_fill_18 N R K70) n
set_option maxRecDepth 20000 in
theorem sl_X5_fill_18 {E : Ev} (hL : LX E) {K70 : Int32 → Int32 → Wd → Option (Int32 × Wd)} (hK70 : ∀ (v2 : Int32) (v3 : Int32) (w : Wd), Sim E m_X5_fill rI 70 [(0, .ref (Ea E 27)), (2, .int v2), (3, .int v3)] [] w (K70 v2 v3 w)) : ∀ (n : Nat) (v2 : Int32) (v3 : Int32) (v4 : Int32) (w : Wd), Sim E m_X5_fill rI 18 [(0, .ref (Ea E 27)), (2, .int v2), (3, .int v3), (4, .int v4)] [] w (l_X5_fill_18 (En E) K70 n v2 v3 v4 w) := by
  intro n
  induction n with
  | zero => intros; exact sim_none
  | succ n ih => intros; exact sb_X5_fill_18 hL (R := l_X5_fill_18 (En E) K70 n) ih hK70 _ _ _ _
def f_X5_fill_106 (N : Nat) (R : Int32 → Int32 → Int32 → Wd → Option (Int32 × Wd)) (K112 : Int32 → Wd → Option (Int32 × Wd)) (v2 : Int32) (v3 : Int32) (v4 : Int32) (w : Wd) : Option (Int32 × Wd) :=
  R v2 v3 (v4 + (1 : Int32)) w
set_option maxRecDepth 20000 in
theorem sf_X5_fill_106 {E : Ev} (hL : LX E) {R : Int32 → Int32 → Int32 → Wd → Option (Int32 × Wd)} (hR : ∀ (v2 : Int32) (v3 : Int32) (v4 : Int32) (w : Wd), Sim E m_X5_fill rI 73 [(0, .ref (Ea E 27)), (2, .int v2), (3, .int v3), (4, .int v4)] [] w (R v2 v3 v4 w)) {K112 : Int32 → Wd → Option (Int32 × Wd)} (hK112 : ∀ (v2 : Int32) (w : Wd), Sim E m_X5_fill rI 112 [(2, .int v2)] [] w (K112 v2 w)) (v2 : Int32) (v3 : Int32) (v4 : Int32) (w : Wd) : Sim E m_X5_fill rI 106 [(0, .ref (Ea E 27)), (2, .int v2), (3, .int v3), (4, .int v4)] [] w (f_X5_fill_106 (En E) R K112 v2 v3 v4 w) := by
  unfold f_X5_fill_106
  refine sim_iinc (v4 + (1 : Int32)) 3 [(4, .int (v4 + (1 : Int32))), (0, .ref (Ea E 27)), (2, .int v2), (3, .int v3)] dX5_fill_106 rfl rfl (Nat.le_of_ble_eq_true rfl) rfl rfl ?_
  refine sim_goto (q := 73) dX5_fill_109 rfl ?_
  exact sim_sub [1, 2, 3, 0] rfl (hR v2 v3 (v4 + (1 : Int32)) w)
def b_X5_fill_73 (N : Nat) (R : Int32 → Int32 → Int32 → Wd → Option (Int32 × Wd)) (K112 : Int32 → Wd → Option (Int32 × Wd)) (v2 : Int32) (v3 : Int32) (v4 : Int32) (w : Wd) : Option (Int32 × Wd) :=
  if (8 : Int32) ≤ v4 then
  K112 v2 w
  else
  if inb (((8 : Int32) * v3) + v4) 16 = true then
  if (w.1 24 (Int32.toNatClampNeg (((8 : Int32) * v3) + v4))) ≤ (0 : Int32) then
  f_X5_fill_106 N R K112 v2 v3 v4 w
  else
  bd (f_X5_addSettings N v4 v2 w) fun x9 w10 =>
  f_X5_fill_106 N R K112 x9 v3 v4 w10
  else none
set_option maxRecDepth 20000 in
theorem sb_X5_fill_73 {E : Ev} (hL : LX E) {R : Int32 → Int32 → Int32 → Wd → Option (Int32 × Wd)} (hR : ∀ (v2 : Int32) (v3 : Int32) (v4 : Int32) (w : Wd), Sim E m_X5_fill rI 73 [(0, .ref (Ea E 27)), (2, .int v2), (3, .int v3), (4, .int v4)] [] w (R v2 v3 v4 w)) {K112 : Int32 → Wd → Option (Int32 × Wd)} (hK112 : ∀ (v2 : Int32) (w : Wd), Sim E m_X5_fill rI 112 [(2, .int v2)] [] w (K112 v2 w)) (v2 : Int32) (v3 : Int32) (v4 : Int32) (w : Wd) : Sim E m_X5_fill rI 73 [(0, .ref (Ea E 27)), (2, .int v2), (3, .int v3), (4, .int v4)] [] w (b_X5_fill_73 (En E) R K112 v2 v3 v4 w) := by
  unfold b_X5_fill_73
  refine sim_iload 3 dX5_fill_73 rfl rfl ?_
  refine sim_bipush (8 : Int32) dX5_fill_75 rfl rfl ?_
  refine sim_icmp_ge 112 dX5_fill_77 rfl rfl (fun _ => ?_) (fun _ => ?_)
  · exact sim_sub [1] rfl (hK112 v2 w)
  · refine sim_aload_n 0 dX5_fill_80 rfl rfl ?_
    refine sim_get (k := 27) (ci := 3) (j := 1) (v := .ref (Ea E 22)) (hL.1 27 rfl) rfl (by decide) fl_X5_13 rfl dX5_fill_81 rfl ?_
    refine sim_get (k := 22) (ci := 4) (j := 4) (v := .ref (Ea E 24)) (hL.1 22 rfl) rfl (by decide) fl_X5_51 rfl dX5_fill_84 rfl ?_
    refine sim_bipush (8 : Int32) dX5_fill_87 rfl rfl ?_
    refine sim_iload_n 2 dX5_fill_89 rfl rfl ?_
    refine sim_imul dX5_fill_90 rfl ?_
    refine sim_iload 3 dX5_fill_91 rfl rfl ?_
    refine sim_iadd dX5_fill_93 rfl ?_
    refine sim_iaload (k := 24) (hL.1 24 rfl) rfl rfl dX5_fill_94 rfl ?_
    refine sim_if_le 106 dX5_fill_95 rfl rfl (fun _ => ?_) (fun _ => ?_)
    · exact sim_sub [0, 1, 2, 3] rfl (sf_X5_fill_106 hL hR hK112 v2 v3 v4 w)
    · refine sim_aload_n 0 dX5_fill_98 rfl rfl ?_
      refine sim_iload 3 dX5_fill_99 rfl rfl ?_
      refine sim_iload_n 1 dX5_fill_101 rfl rfl ?_
      refine sim_cVi (k := 27) (ci := 3) [.int v4, .int v2] [] (c_X5_addSettings hL v4 v2 w) (hL.1 27 rfl) rfl (by decide) rfl cb_X5_54 im_X5_addSettings se_X5_addSettings rfl rfl rfl (Nat.le_of_ble_eq_true rfl) dX5_fill_102 rfl (fun x9 w10 => ?_)
      refine sim_istore_n [(2, .int x9), (0, .ref (Ea E 27)), (3, .int v3), (4, .int v4)] dX5_fill_105 (Nat.le_of_ble_eq_true rfl) rfl rfl ?_
      exact sim_sub [1, 0, 2, 3] rfl (sf_X5_fill_106 hL hR hK112 x9 v3 v4 w10)
def l_X5_fill_73 (N : Nat) (K112 : Int32 → Wd → Option (Int32 × Wd)) (n : Nat) : Int32 → Int32 → Int32 → Wd → Option (Int32 × Wd) := itr (fun _ _ _ _ => none) (fun R => b_X5_fill_73 N R K112) n
set_option maxRecDepth 20000 in
theorem sl_X5_fill_73 {E : Ev} (hL : LX E) {K112 : Int32 → Wd → Option (Int32 × Wd)} (hK112 : ∀ (v2 : Int32) (w : Wd), Sim E m_X5_fill rI 112 [(2, .int v2)] [] w (K112 v2 w)) : ∀ (n : Nat) (v2 : Int32) (v3 : Int32) (v4 : Int32) (w : Wd), Sim E m_X5_fill rI 73 [(0, .ref (Ea E 27)), (2, .int v2), (3, .int v3), (4, .int v4)] [] w (l_X5_fill_73 (En E) K112 n v2 v3 v4 w) := by
  intro n
  induction n with
  | zero => intros; exact sim_none
  | succ n ih => intros; exact sb_X5_fill_73 hL (R := l_X5_fill_73 (En E) K112 n) ih hK112 _ _ _ _
def f_X5_fill_112 (N : Nat) (v2 : Int32) (w : Wd) : Option (Int32 × Wd) :=
  some (v2, w)
set_option maxRecDepth 20000 in
theorem sf_X5_fill_112 {E : Ev} (hL : LX E) (v2 : Int32) (w : Wd) : Sim E m_X5_fill rI 112 [(2, .int v2)] [] w (f_X5_fill_112 (En E) v2 w) := by
  unfold f_X5_fill_112
  refine sim_iload_n 0 dX5_fill_112 rfl rfl ?_
  exact sim_iret rfl dX5_fill_113
def f_X5_fill_70 (N : Nat) (v2 : Int32) (v3 : Int32) (w : Wd) : Option (Int32 × Wd) :=
  l_X5_fill_73 N (f_X5_fill_112 N) FU v2 v3 (1 : Int32) w
set_option maxRecDepth 20000 in
theorem sf_X5_fill_70 {E : Ev} (hL : LX E) (v2 : Int32) (v3 : Int32) (w : Wd) : Sim E m_X5_fill rI 70 [(0, .ref (Ea E 27)), (2, .int v2), (3, .int v3)] [] w (f_X5_fill_70 (En E) v2 v3 w) := by
  unfold f_X5_fill_70
  refine sim_iconst (1 : Int32) dX5_fill_70 rfl rfl ?_
  refine sim_istore [(4, .int (1 : Int32)), (0, .ref (Ea E 27)), (2, .int v2), (3, .int v3)] dX5_fill_71 (Nat.le_of_ble_eq_true rfl) rfl rfl ?_
  exact sim_sub [1, 2, 3, 0] rfl (sl_X5_fill_73 hL (sf_X5_fill_112 hL) FU v2 v3 (1 : Int32) w)
def f_X5_fill (N : Nat) (v1 : Int32) (w : Wd) : Option (Int32 × Wd) :=
  lt (v1 * (w.1 27 2)) fun x1 =>
  lt (w.1 22 7) fun x2 =>
  l_X5_fill_18 N (f_X5_fill_70 N) FU x1 x2 (0 : Int32) w
set_option maxRecDepth 20000 in
theorem c_X5_fill {E : Ev} (hL : LX E) (v1 : Int32) (w : Wd) : Ct E m_X5_fill yX5_fill rI [.ref (Ea E 27), .int v1] w (f_X5_fill (En E) v1 w) := by
  refine Ct.of (by decide) ⟨rfl, rfl⟩ (Nat.le_of_ble_eq_true rfl) ?_
  show Sim E m_X5_fill rI 0 [(0, .ref (Ea E 27)), (1, .int v1)] [] w (f_X5_fill (En E) v1 w)
  unfold f_X5_fill
  refine sim_iload_n 1 dX5_fill_0 rfl rfl ?_
  refine sim_aload_n 0 dX5_fill_1 rfl rfl ?_
  refine sim_get (k := 27) (ci := 3) (j := 2) (v := .int (w.1 27 2)) (hL.1 27 rfl) rfl (by decide) fl_X5_23 rfl dX5_fill_2 rfl ?_
  refine sim_imul dX5_fill_5 rfl ?_
  refine sim_lt (fun x1 => ?_)
  refine sim_istore_n [(2, .int x1), (0, .ref (Ea E 27)), (1, .int v1)] dX5_fill_6 (Nat.le_of_ble_eq_true rfl) rfl rfl ?_
  refine sim_aload_n 1 dX5_fill_7 rfl rfl ?_
  refine sim_get (k := 27) (ci := 3) (j := 1) (v := .ref (Ea E 22)) (hL.1 27 rfl) rfl (by decide) fl_X5_13 rfl dX5_fill_8 rfl ?_
  refine sim_get (k := 22) (ci := 4) (j := 7) (v := .int (w.1 22 7)) (hL.1 22 rfl) rfl (by decide) fl_X5_30 rfl dX5_fill_11 rfl ?_
  refine sim_lt (fun x2 => ?_)
  refine sim_istore_n [(3, .int x2), (2, .int x1), (0, .ref (Ea E 27)), (1, .int v1)] dX5_fill_14 (Nat.le_of_ble_eq_true rfl) rfl rfl ?_
  refine sim_iconst (0 : Int32) dX5_fill_15 rfl rfl ?_
  refine sim_istore [(4, .int (0 : Int32)), (3, .int x2), (2, .int x1), (0, .ref (Ea E 27)), (1, .int v1)] dX5_fill_16 (Nat.le_of_ble_eq_true rfl) rfl rfl ?_
  exact sim_sub [3, 2, 1, 0] rfl (sl_X5_fill_18 hL (sf_X5_fill_70 hL) FU x1 x2 (0 : Int32) w)
def f_X5_startOf (N : Nat) (v1 : Int32) (w : Wd) : Option (Int32 × Wd) :=
  some ((v1 * (w.1 27 2)), w)
set_option maxRecDepth 20000 in
theorem c_X5_startOf {E : Ev} (hL : LX E) (v1 : Int32) (w : Wd) : Ct E m_X5_startOf yX5_startOf rI [.ref (Ea E 27), .int v1] w (f_X5_startOf (En E) v1 w) := by
  refine Ct.of (by decide) ⟨rfl, rfl⟩ (Nat.le_of_ble_eq_true rfl) ?_
  show Sim E m_X5_startOf rI 0 [(0, .ref (Ea E 27)), (1, .int v1)] [] w (f_X5_startOf (En E) v1 w)
  unfold f_X5_startOf
  refine sim_iload_n 1 dX5_startOf_0 rfl rfl ?_
  refine sim_aload_n 0 dX5_startOf_1 rfl rfl ?_
  refine sim_get (k := 27) (ci := 3) (j := 2) (v := .int (w.1 27 2)) (hL.1 27 rfl) rfl (by decide) fl_X5_23 rfl dX5_startOf_2 rfl ?_
  refine sim_imul dX5_startOf_5 rfl ?_
  exact sim_iret rfl dX5_startOf_6
def f_X2_kindOf (v0 : Int32) (w : Wd) : Option (Int32 × Wd) :=
  some (((v0 - (1 : Int32)) &&& (7 : Int32)), w)
set_option maxRecDepth 20000 in
theorem c_X2_kindOf {E : Ev} (v0 : Int32) (w : Wd) : Ct E m_X2_kindOf yX2_kindOf rI [.int v0] w (f_X2_kindOf v0 w) := by
  refine Ct.of (by decide) ⟨rfl, rfl⟩ (Nat.le_of_ble_eq_true rfl) ?_
  show Sim E m_X2_kindOf rI 0 [(0, .int v0)] [] w (f_X2_kindOf v0 w)
  unfold f_X2_kindOf
  refine sim_iload_n 0 dX2_kindOf_0 rfl rfl ?_
  refine sim_iconst (1 : Int32) dX2_kindOf_1 rfl rfl ?_
  refine sim_isub dX2_kindOf_2 rfl ?_
  refine sim_bipush (7 : Int32) dX2_kindOf_3 rfl rfl ?_
  refine sim_iand dX2_kindOf_5 rfl ?_
  exact sim_iret rfl dX2_kindOf_6
def f_X6_apply_155 (N : Nat) (w : Wd) : Option (Unit × Wd) :=
  lw (wdI w 22 7 ((1 : Int32) - (w.1 22 7))) fun w9 =>
  some ((), w9)
set_option maxRecDepth 20000 in
theorem sf_X6_apply_155 {E : Ev} (hL : LX E) (w : Wd) : Sim E m_X6_apply rV 155 [(0, .ref (Ea E 22))] [] w (f_X6_apply_155 (En E) w) := by
  unfold f_X6_apply_155
  refine sim_aload_n 0 dX6_apply_155 rfl rfl ?_
  refine sim_iconst (1 : Int32) dX6_apply_156 rfl rfl ?_
  refine sim_aload_n 0 dX6_apply_157 rfl rfl ?_
  refine sim_get (k := 22) (ci := 4) (j := 7) (v := .int (w.1 22 7)) (hL.1 22 rfl) rfl (by decide) fl_X6_75 rfl dX6_apply_158 rfl ?_
  refine sim_isub dX6_apply_161 rfl ?_
  refine sim_put (k := 22) (ci := 4) (j := 7) (hL.1 22 rfl) rfl (by decide) fp_X6_75 rfl rfl (st_22_7 _ _ _) (Nat.le_of_ble_eq_true rfl) dX6_apply_162 rfl ?_
  refine sim_lw (fun w9 => ?_)
  exact sim_vret rfl dX6_apply_165
def f_X6_apply_137 (N : Nat) (v2 : Int32) (v4 : Int32) (w : Wd) : Option (Unit × Wd) :=
  bd (f_X2_kindOf v4 w) fun x7 w8 =>
  if x7 = (0 : Int32) then
  if inb (w8.1 22 7) 2 = true then
  lw (wdI w8 25 (Int32.toNatClampNeg (w8.1 22 7)) v2) fun w10 =>
  f_X6_apply_155 N w10
  else none
  else
  f_X6_apply_155 N w8
set_option maxRecDepth 20000 in
theorem sf_X6_apply_137 {E : Ev} (hL : LX E) (v2 : Int32) (v4 : Int32) (w : Wd) : Sim E m_X6_apply rV 137 [(0, .ref (Ea E 22)), (2, .int v2), (4, .int v4)] [] w (f_X6_apply_137 (En E) v2 v4 w) := by
  unfold f_X6_apply_137
  refine sim_iload 2 dX6_apply_137 rfl rfl ?_
  refine sim_cSi [.int v4] [] (c_X2_kindOf v4 w) cb_X6_51 sx_X2_kindOf rfl rfl rfl (Nat.le_of_ble_eq_true rfl) dX6_apply_139 rfl (fun x7 w8 => ?_)
  refine sim_if_ne 155 dX6_apply_142 rfl rfl (fun _ => ?_) (fun _ => ?_)
  · exact sim_sub [0] rfl (sf_X6_apply_155 hL w8)
  · refine sim_aload_n 0 dX6_apply_145 rfl rfl ?_
    refine sim_get (k := 22) (ci := 4) (j := 5) (v := .ref (Ea E 25)) (hL.1 22 rfl) rfl (by decide) fl_X6_15 rfl dX6_apply_146 rfl ?_
    refine sim_aload_n 0 dX6_apply_149 rfl rfl ?_
    refine sim_get (k := 22) (ci := 4) (j := 7) (v := .int (w8.1 22 7)) (hL.1 22 rfl) rfl (by decide) fl_X6_75 rfl dX6_apply_150 rfl ?_
    refine sim_iload_n 1 dX6_apply_153 rfl rfl ?_
    refine sim_iastore (k := 25) (hL.1 25 rfl) rfl rfl dX6_apply_154 rfl ?_
    refine sim_lw (fun w10 => ?_)
    exact sim_sub [0] rfl (sf_X6_apply_155 hL w10)
def f_X6_apply_109 (N : Nat) (v2 : Int32) (v4 : Int32) (v5 : Int32) (s1 : Int32) (s2 : Int32) (w : Wd) : Option (Unit × Wd) :=
  if inb s1 (N * N) = true then
  lw (wdI w 23 (Int32.toNatClampNeg s1) s2) fun w6 =>
  if v5 = (0 : Int32) then
  f_X6_apply_137 N v2 v4 w6
  else
  bd (f_X2_kindOf v5 w6) fun x11 w12 =>
  if inb (((8 : Int32) * (w6.1 22 7)) + x11) 16 = true then
  if inb (((8 : Int32) * (w6.1 22 7)) + x11) 16 = true then
  lw (wdI w12 24 (Int32.toNatClampNeg (((8 : Int32) * (w6.1 22 7)) + x11)) ((w12.1 24 (Int32.toNatClampNeg (((8 : Int32) * (w6.1 22 7)) + x11))) + (1 : Int32))) fun w13 =>
  f_X6_apply_137 N v2 v4 w13
  else none
  else none
  else none
set_option maxRecDepth 20000 in
theorem sf_X6_apply_109 {E : Ev} (hL : LX E) (v2 : Int32) (v4 : Int32) (v5 : Int32) (s1 : Int32) (s2 : Int32) (w : Wd) : Sim E m_X6_apply rV 109 [(0, .ref (Ea E 22)), (2, .int v2), (4, .int v4), (5, .int v5)] [.int s2, .int s1, .ref (Ea E 23)] w (f_X6_apply_109 (En E) v2 v4 v5 s1 s2 w) := by
  unfold f_X6_apply_109
  refine sim_iastore (k := 23) (hL.1 23 rfl) rfl rfl dX6_apply_109 rfl ?_
  refine sim_lw (fun w6 => ?_)
  refine sim_iload 3 dX6_apply_110 rfl rfl ?_
  refine sim_if_eq 137 dX6_apply_112 rfl rfl (fun _ => ?_) (fun _ => ?_)
  · exact sim_sub [0, 1, 2] rfl (sf_X6_apply_137 hL v2 v4 w6)
  · refine sim_aload_n 0 dX6_apply_115 rfl rfl ?_
    refine sim_get (k := 22) (ci := 4) (j := 4) (v := .ref (Ea E 24)) (hL.1 22 rfl) rfl (by decide) fl_X6_9 rfl dX6_apply_116 rfl ?_
    refine sim_bipush (8 : Int32) dX6_apply_119 rfl rfl ?_
    refine sim_aload_n 0 dX6_apply_121 rfl rfl ?_
    refine sim_get (k := 22) (ci := 4) (j := 7) (v := .int (w6.1 22 7)) (hL.1 22 rfl) rfl (by decide) fl_X6_75 rfl dX6_apply_122 rfl ?_
    refine sim_imul dX6_apply_125 rfl ?_
    refine sim_iload 3 dX6_apply_126 rfl rfl ?_
    refine sim_cSi [.int v5] [.int ((8 : Int32) * (w6.1 22 7)), .ref (Ea E 24)] (c_X2_kindOf v5 w6) cb_X6_51 sx_X2_kindOf rfl rfl rfl (Nat.le_of_ble_eq_true rfl) dX6_apply_128 rfl (fun x11 w12 => ?_)
    refine sim_iadd dX6_apply_131 rfl ?_
    refine sim_dup2 dX6_apply_132 rfl rfl rfl ?_
    refine sim_iaload (k := 24) (hL.1 24 rfl) rfl rfl dX6_apply_133 rfl ?_
    refine sim_iconst (1 : Int32) dX6_apply_134 rfl rfl ?_
    refine sim_iadd dX6_apply_135 rfl ?_
    refine sim_iastore (k := 24) (hL.1 24 rfl) rfl rfl dX6_apply_136 rfl ?_
    refine sim_lw (fun w13 => ?_)
    exact sim_sub [0, 1, 2] rfl (sf_X6_apply_137 hL v2 v4 w13)
def f_X6_apply (N : Nat) (v1 : Int32) (w : Wd) : Option (Unit × Wd) :=
  lt (v1 &&& (63 : Int32)) fun x1 =>
  lt ((v1 >>> ((6 : Int32) &&& 31)) &&& (63 : Int32)) fun x2 =>
  if x2 = (63 : Int32) then
  lt ((v1 >>> ((13 : Int32) &&& 31)) &&& (7 : Int32)) fun x14 =>
  bd (f_X2_itemOf (w.1 22 7) x14 w) fun x15 w16 =>
  if inb x1 (N * N) = true then
  lw (wdI w16 23 (Int32.toNatClampNeg x1) x15) fun w17 =>
  if inb (((8 : Int32) * (w17.1 22 7)) + x14) 16 = true then
  if inb (((8 : Int32) * (w17.1 22 7)) + x14) 16 = true then
  lw (wdI w17 24 (Int32.toNatClampNeg (((8 : Int32) * (w17.1 22 7)) + x14)) ((w17.1 24 (Int32.toNatClampNeg (((8 : Int32) * (w17.1 22 7)) + x14))) - (1 : Int32))) fun w18 =>
  f_X6_apply_155 N w18
  else none
  else none
  else none
  else
  if inb x2 (N * N) = true then
  lt (w.1 23 (Int32.toNatClampNeg x2)) fun x3 =>
  lt (v1 >>> ((16 : Int32) &&& 31)) fun x4 =>
  if inb x2 (N * N) = true then
  lw (wdI w 23 (Int32.toNatClampNeg x2) (0 : Int32)) fun w5 =>
  if (v1 &&& (4096 : Int32)) = (0 : Int32) then
  f_X6_apply_109 N x1 x3 x4 x1 x3 w5
  else
  f_X6_apply_109 N x1 x3 x4 x1 (x3 + (8 : Int32)) w5
  else none
  else none
set_option maxRecDepth 20000 in
theorem c_X6_apply {E : Ev} (hL : LX E) (v1 : Int32) (w : Wd) : Ct E m_X6_apply yX6_apply rV [.ref (Ea E 22), .int v1] w (f_X6_apply (En E) v1 w) := by
  refine Ct.of (by decide) ⟨rfl, rfl⟩ (Nat.le_of_ble_eq_true rfl) ?_
  show Sim E m_X6_apply rV 0 [(0, .ref (Ea E 22)), (1, .int v1)] [] w (f_X6_apply (En E) v1 w)
  unfold f_X6_apply
  refine sim_iload_n 1 dX6_apply_0 rfl rfl ?_
  refine sim_bipush (63 : Int32) dX6_apply_1 rfl rfl ?_
  refine sim_iand dX6_apply_3 rfl ?_
  refine sim_lt (fun x1 => ?_)
  refine sim_istore_n [(2, .int x1), (0, .ref (Ea E 22)), (1, .int v1)] dX6_apply_4 (Nat.le_of_ble_eq_true rfl) rfl rfl ?_
  refine sim_iload_n 2 dX6_apply_5 rfl rfl ?_
  refine sim_bipush (6 : Int32) dX6_apply_6 rfl rfl ?_
  refine sim_ishr dX6_apply_8 rfl ?_
  refine sim_bipush (63 : Int32) dX6_apply_9 rfl rfl ?_
  refine sim_iand dX6_apply_11 rfl ?_
  refine sim_lt (fun x2 => ?_)
  refine sim_istore_n [(3, .int x2), (2, .int x1), (0, .ref (Ea E 22)), (1, .int v1)] dX6_apply_12 (Nat.le_of_ble_eq_true rfl) rfl rfl ?_
  refine sim_iload_n 0 dX6_apply_13 rfl rfl ?_
  refine sim_bipush (63 : Int32) dX6_apply_14 rfl rfl ?_
  refine sim_icmp_ne 65 dX6_apply_16 rfl rfl (fun _ => ?_) (fun _ => ?_)
  · refine sim_aload_n 2 dX6_apply_65 rfl rfl ?_
    refine sim_get (k := 22) (ci := 4) (j := 3) (v := .ref (Ea E 23)) (hL.1 22 rfl) rfl (by decide) fl_X6_33 rfl dX6_apply_66 rfl ?_
    refine sim_iload_n 0 dX6_apply_69 rfl rfl ?_
    refine sim_iaload (k := 23) (hL.1 23 rfl) rfl rfl dX6_apply_70 rfl ?_
    refine sim_lt (fun x3 => ?_)
    refine sim_istore [(4, .int x3), (3, .int x2), (2, .int x1), (0, .ref (Ea E 22)), (1, .int v1)] dX6_apply_71 (Nat.le_of_ble_eq_true rfl) rfl rfl ?_
    refine sim_iload_n 4 dX6_apply_73 rfl rfl ?_
    refine sim_bipush (16 : Int32) dX6_apply_74 rfl rfl ?_
    refine sim_ishr dX6_apply_76 rfl ?_
    refine sim_lt (fun x4 => ?_)
    refine sim_istore [(5, .int x4), (4, .int x3), (3, .int x2), (2, .int x1), (0, .ref (Ea E 22)), (1, .int v1)] dX6_apply_77 (Nat.le_of_ble_eq_true rfl) rfl rfl ?_
    refine sim_aload_n 4 dX6_apply_79 rfl rfl ?_
    refine sim_get (k := 22) (ci := 4) (j := 3) (v := .ref (Ea E 23)) (hL.1 22 rfl) rfl (by decide) fl_X6_33 rfl dX6_apply_80 rfl ?_
    refine sim_iload_n 2 dX6_apply_83 rfl rfl ?_
    refine sim_iconst (0 : Int32) dX6_apply_84 rfl rfl ?_
    refine sim_iastore (k := 23) (hL.1 23 rfl) rfl rfl dX6_apply_85 rfl ?_
    refine sim_lw (fun w5 => ?_)
    refine sim_aload_n 4 dX6_apply_86 rfl rfl ?_
    refine sim_get (k := 22) (ci := 4) (j := 3) (v := .ref (Ea E 23)) (hL.1 22 rfl) rfl (by decide) fl_X6_33 rfl dX6_apply_87 rfl ?_
    refine sim_iload_n 3 dX6_apply_90 rfl rfl ?_
    refine sim_iload_n 5 dX6_apply_91 rfl rfl ?_
    refine sim_sipush (4096 : Int32) dX6_apply_92 rfl rfl ?_
    refine sim_iand dX6_apply_95 rfl ?_
    refine sim_if_eq 107 dX6_apply_96 rfl rfl (fun _ => ?_) (fun _ => ?_)
    · refine sim_iload 1 dX6_apply_107 rfl rfl ?_
      exact sim_sub [4, 3, 1, 0] rfl (sf_X6_apply_109 hL x1 x3 x4 x1 x3 w5)
    · refine sim_iload 1 dX6_apply_99 rfl rfl ?_
      refine sim_bipush (8 : Int32) dX6_apply_101 rfl rfl ?_
      refine sim_iadd dX6_apply_103 rfl ?_
      refine sim_goto (q := 109) dX6_apply_104 rfl ?_
      exact sim_sub [4, 3, 1, 0] rfl (sf_X6_apply_109 hL x1 x3 x4 x1 (x3 + (8 : Int32)) w5)
  · refine sim_iload_n 3 dX6_apply_19 rfl rfl ?_
    refine sim_bipush (13 : Int32) dX6_apply_20 rfl rfl ?_
    refine sim_ishr dX6_apply_22 rfl ?_
    refine sim_bipush (7 : Int32) dX6_apply_23 rfl rfl ?_
    refine sim_iand dX6_apply_25 rfl ?_
    refine sim_lt (fun x14 => ?_)
    refine sim_istore [(4, .int x14), (3, .int x2), (2, .int x1), (0, .ref (Ea E 22)), (1, .int v1)] dX6_apply_26 (Nat.le_of_ble_eq_true rfl) rfl rfl ?_
    refine sim_aload_n 3 dX6_apply_28 rfl rfl ?_
    refine sim_get (k := 22) (ci := 4) (j := 3) (v := .ref (Ea E 23)) (hL.1 22 rfl) rfl (by decide) fl_X6_33 rfl dX6_apply_29 rfl ?_
    refine sim_iload_n 2 dX6_apply_32 rfl rfl ?_
    refine sim_aload_n 3 dX6_apply_33 rfl rfl ?_
    refine sim_get (k := 22) (ci := 4) (j := 7) (v := .int (w.1 22 7)) (hL.1 22 rfl) rfl (by decide) fl_X6_75 rfl dX6_apply_34 rfl ?_
    refine sim_iload 0 dX6_apply_37 rfl rfl ?_
    refine sim_cSi [.int (w.1 22 7), .int x14] [.int x1, .ref (Ea E 23)] (c_X2_itemOf (w.1 22 7) x14 w) cb_X6_78 sx_X2_itemOf rfl rfl rfl (Nat.le_of_ble_eq_true rfl) dX6_apply_39 rfl (fun x15 w16 => ?_)
    refine sim_iastore (k := 23) (hL.1 23 rfl) rfl rfl dX6_apply_42 rfl ?_
    refine sim_lw (fun w17 => ?_)
    refine sim_aload_n 3 dX6_apply_43 rfl rfl ?_
    refine sim_get (k := 22) (ci := 4) (j := 4) (v := .ref (Ea E 24)) (hL.1 22 rfl) rfl (by decide) fl_X6_9 rfl dX6_apply_44 rfl ?_
    refine sim_bipush (8 : Int32) dX6_apply_47 rfl rfl ?_
    refine sim_aload_n 3 dX6_apply_49 rfl rfl ?_
    refine sim_get (k := 22) (ci := 4) (j := 7) (v := .int (w17.1 22 7)) (hL.1 22 rfl) rfl (by decide) fl_X6_75 rfl dX6_apply_50 rfl ?_
    refine sim_imul dX6_apply_53 rfl ?_
    refine sim_iload 0 dX6_apply_54 rfl rfl ?_
    refine sim_iadd dX6_apply_56 rfl ?_
    refine sim_dup2 dX6_apply_57 rfl rfl rfl ?_
    refine sim_iaload (k := 24) (hL.1 24 rfl) rfl rfl dX6_apply_58 rfl ?_
    refine sim_iconst (1 : Int32) dX6_apply_59 rfl rfl ?_
    refine sim_isub dX6_apply_60 rfl ?_
    refine sim_iastore (k := 24) (hL.1 24 rfl) rfl rfl dX6_apply_61 rfl ?_
    refine sim_lw (fun w18 => ?_)
    refine sim_goto (q := 155) dX6_apply_62 rfl ?_
    exact sim_sub [3] rfl (sf_X6_apply_155 hL w18)
