def f_X5_faultOfSetting_91 (N : Nat) (s0 : Int32) (w : Wd) : Option (Int32 × Wd) :=
  some (s0, w)
set_option maxRecDepth 20000 in
theorem sf_X5_faultOfSetting_91 {E : Ev} (hL : LX E) (s0 : Int32) (w : Wd) : Sim E m_X5_faultOfSetting rI 91 [] [.int s0] w (f_X5_faultOfSetting_91 (En E) s0 w) := by
  unfold f_X5_faultOfSetting_91
  exact sim_iret rfl dX5_faultOfSetting_91
def f_X5_faultOfSetting (N : Nat) (v1 : Int32) (v2 : Int32) (w : Wd) : Option (Int32 × Wd) :=
  bd (f_X2_itemOf (w.1 22 7) v1 w) fun x1 w2 =>
  if inb (((8 : Int32) * (w2.1 22 7)) + v1) 16 = true then
  if (0 : Int32) < (w2.1 24 (Int32.toNatClampNeg (((8 : Int32) * (w2.1 22 7)) + v1))) then
  if inb v2 (N * N) = true then
  if (w2.1 23 (Int32.toNatClampNeg v2)) = (0 : Int32) then
  bd (f_X8_goesOn N x1 v2 w2) fun x3 w4 =>
  if x3 = (0 : Int32) then
  some ((3 : Int32), w4)
  else
  bd (f_X5_columnsShutTo N v1 x1 w4) fun x5 w6 =>
  if ¬ (w6.1 2 0) = (0 : Int32) then
  if ((x5 >>> ((v2 - v2 / (w6.1 2 0) * (w6.1 2 0)) &&& 31)) &&& (1 : Int32)) = (0 : Int32) then
  f_X5_faultOfSetting_91 N (0 : Int32) w6
  else
  f_X5_faultOfSetting_91 N (4 : Int32) w6
  else none
  else
  some ((2 : Int32), w2)
  else none
  else
  some ((1 : Int32), w2)
  else none
set_option maxRecDepth 20000 in
theorem c_X5_faultOfSetting {E : Ev} (hL : LX E) (v1 : Int32) (v2 : Int32) (w : Wd) : Ct E m_X5_faultOfSetting yX5_faultOfSetting rI [.ref (Ea E 27), .int v1, .int v2] w (f_X5_faultOfSetting (En E) v1 v2 w) := by
  refine Ct.of (by decide) ⟨rfl, rfl⟩ (Nat.le_of_ble_eq_true rfl) ?_
  show Sim E m_X5_faultOfSetting rI 0 [(0, .ref (Ea E 27)), (1, .int v1), (2, .int v2)] [] w (f_X5_faultOfSetting (En E) v1 v2 w)
  unfold f_X5_faultOfSetting
  refine sim_aload_n 0 dX5_faultOfSetting_0 rfl rfl ?_
  refine sim_get (k := 27) (ci := 3) (j := 1) (v := .ref (Ea E 22)) (hL.1 27 rfl) rfl (by decide) fl_X5_13 rfl dX5_faultOfSetting_1 rfl ?_
  refine sim_get (k := 22) (ci := 4) (j := 7) (v := .int (w.1 22 7)) (hL.1 22 rfl) rfl (by decide) fl_X5_30 rfl dX5_faultOfSetting_4 rfl ?_
  refine sim_iload_n 1 dX5_faultOfSetting_7 rfl rfl ?_
  refine sim_cSi [.int (w.1 22 7), .int v1] [] (c_X2_itemOf (w.1 22 7) v1 w) cb_X5_75 sx_X2_itemOf rfl rfl rfl (Nat.le_of_ble_eq_true rfl) dX5_faultOfSetting_8 rfl (fun x1 w2 => ?_)
  refine sim_istore_n [(3, .int x1), (0, .ref (Ea E 27)), (1, .int v1), (2, .int v2)] dX5_faultOfSetting_11 (Nat.le_of_ble_eq_true rfl) rfl rfl ?_
  refine sim_aload_n 1 dX5_faultOfSetting_12 rfl rfl ?_
  refine sim_get (k := 27) (ci := 3) (j := 1) (v := .ref (Ea E 22)) (hL.1 27 rfl) rfl (by decide) fl_X5_13 rfl dX5_faultOfSetting_13 rfl ?_
  refine sim_get (k := 22) (ci := 4) (j := 4) (v := .ref (Ea E 24)) (hL.1 22 rfl) rfl (by decide) fl_X5_51 rfl dX5_faultOfSetting_16 rfl ?_
  refine sim_bipush (8 : Int32) dX5_faultOfSetting_19 rfl rfl ?_
  refine sim_aload_n 1 dX5_faultOfSetting_21 rfl rfl ?_
  refine sim_get (k := 27) (ci := 3) (j := 1) (v := .ref (Ea E 22)) (hL.1 27 rfl) rfl (by decide) fl_X5_13 rfl dX5_faultOfSetting_22 rfl ?_
  refine sim_get (k := 22) (ci := 4) (j := 7) (v := .int (w2.1 22 7)) (hL.1 22 rfl) rfl (by decide) fl_X5_30 rfl dX5_faultOfSetting_25 rfl ?_
  refine sim_imul dX5_faultOfSetting_28 rfl ?_
  refine sim_iload_n 2 dX5_faultOfSetting_29 rfl rfl ?_
  refine sim_iadd dX5_faultOfSetting_30 rfl ?_
  refine sim_iaload (k := 24) (hL.1 24 rfl) rfl rfl dX5_faultOfSetting_31 rfl ?_
  refine sim_if_gt 37 dX5_faultOfSetting_32 rfl rfl (fun _ => ?_) (fun _ => ?_)
  · refine sim_aload_n 1 dX5_faultOfSetting_37 rfl rfl ?_
    refine sim_get (k := 27) (ci := 3) (j := 1) (v := .ref (Ea E 22)) (hL.1 27 rfl) rfl (by decide) fl_X5_13 rfl dX5_faultOfSetting_38 rfl ?_
    refine sim_get (k := 22) (ci := 4) (j := 3) (v := .ref (Ea E 23)) (hL.1 22 rfl) rfl (by decide) fl_X5_35 rfl dX5_faultOfSetting_41 rfl ?_
    refine sim_iload_n 3 dX5_faultOfSetting_44 rfl rfl ?_
    refine sim_iaload (k := 23) (hL.1 23 rfl) rfl rfl dX5_faultOfSetting_45 rfl ?_
    refine sim_if_eq 51 dX5_faultOfSetting_46 rfl rfl (fun _ => ?_) (fun _ => ?_)
    · refine sim_aload_n 1 dX5_faultOfSetting_51 rfl rfl ?_
      refine sim_get (k := 27) (ci := 3) (j := 0) (v := .ref (Ea E 2)) (hL.1 27 rfl) rfl (by decide) fl_X5_9 rfl dX5_faultOfSetting_52 rfl ?_
      refine sim_iload_n 0 dX5_faultOfSetting_55 rfl rfl ?_
      refine sim_iload_n 3 dX5_faultOfSetting_56 rfl rfl ?_
      refine sim_cVi (k := 2) (ci := 6) [.int x1, .int v2] [] (c_X8_goesOn hL.w x1 v2 w2) (hL.1 2 rfl) rfl (by decide) rfl cb_X5_65 im_X8_goesOn se_X8_goesOn rfl rfl rfl (Nat.le_of_ble_eq_true rfl) dX5_faultOfSetting_57 rfl (fun x3 w4 => ?_)
      refine sim_if_ne 65 dX5_faultOfSetting_60 rfl rfl (fun _ => ?_) (fun _ => ?_)
      · refine sim_aload_n 1 dX5_faultOfSetting_65 rfl rfl ?_
        refine sim_iload_n 2 dX5_faultOfSetting_66 rfl rfl ?_
        refine sim_iload_n 0 dX5_faultOfSetting_67 rfl rfl ?_
        refine sim_cVi (k := 27) (ci := 3) [.int v1, .int x1] [] (c_X5_columnsShutTo hL v1 x1 w4) (hL.1 27 rfl) rfl (by decide) rfl cb_X5_78 im_X5_columnsShutTo se_X5_columnsShutTo rfl rfl rfl (Nat.le_of_ble_eq_true rfl) dX5_faultOfSetting_68 rfl (fun x5 w6 => ?_)
        refine sim_iload_n 3 dX5_faultOfSetting_71 rfl rfl ?_
        refine sim_aload_n 1 dX5_faultOfSetting_72 rfl rfl ?_
        refine sim_get (k := 27) (ci := 3) (j := 0) (v := .ref (Ea E 2)) (hL.1 27 rfl) rfl (by decide) fl_X5_9 rfl dX5_faultOfSetting_73 rfl ?_
        refine sim_get (k := 2) (ci := 6) (j := 0) (v := .int (w6.1 2 0)) (hL.1 2 rfl) rfl (by decide) fl_X5_84 rfl dX5_faultOfSetting_76 rfl ?_
        refine sim_irem dX5_faultOfSetting_79 rfl ?_
        refine sim_ishr dX5_faultOfSetting_80 rfl ?_
        refine sim_iconst (1 : Int32) dX5_faultOfSetting_81 rfl rfl ?_
        refine sim_iand dX5_faultOfSetting_82 rfl ?_
        refine sim_if_eq 90 dX5_faultOfSetting_83 rfl rfl (fun _ => ?_) (fun _ => ?_)
        · refine sim_iconst (0 : Int32) dX5_faultOfSetting_90 rfl rfl ?_
          exact sim_sub [] rfl (sf_X5_faultOfSetting_91 hL (0 : Int32) w6)
        · refine sim_iconst (4 : Int32) dX5_faultOfSetting_86 rfl rfl ?_
          refine sim_goto (q := 91) dX5_faultOfSetting_87 rfl ?_
          exact sim_sub [] rfl (sf_X5_faultOfSetting_91 hL (4 : Int32) w6)
      · refine sim_iconst (3 : Int32) dX5_faultOfSetting_63 rfl rfl ?_
        exact sim_iret rfl dX5_faultOfSetting_64
    · refine sim_iconst (2 : Int32) dX5_faultOfSetting_49 rfl rfl ?_
      exact sim_iret rfl dX5_faultOfSetting_50
  · refine sim_iconst (1 : Int32) dX5_faultOfSetting_35 rfl rfl ?_
    exact sim_iret rfl dX5_faultOfSetting_36
def b_X5_reaches_12 (N : Nat) (R : Int32 → Int32 → Int32 → Wd → Option (Int32 × Wd)) (K32 : Wd → Option (Int32 × Wd)) (K40 : Wd → Option (Int32 × Wd)) (v2 : Int32) (v3 : Int32) (v4 : Int32) (w : Wd) : Option (Int32 × Wd) :=
  if v3 ≤ v4 then
  K40 w
  else
  if inb v4 (N * N) = true then
  if (w.1 26 (Int32.toNatClampNeg v4)) = v2 then
  K32 w
  else
  R v2 v3 (v4 + (1 : Int32)) w
  else none
set_option maxRecDepth 20000 in
theorem sb_X5_reaches_12 {E : Ev} (hL : LX E) {R : Int32 → Int32 → Int32 → Wd → Option (Int32 × Wd)} (hR : ∀ (v2 : Int32) (v3 : Int32) (v4 : Int32) (w : Wd), Sim E m_X5_reaches rI 12 [(0, .ref (Ea E 27)), (2, .int v2), (3, .int v3), (4, .int v4)] [] w (R v2 v3 v4 w)) {K32 : Wd → Option (Int32 × Wd)} (hK32 : ∀ (w : Wd), Sim E m_X5_reaches rI 32 [] [] w (K32  w)) {K40 : Wd → Option (Int32 × Wd)} (hK40 : ∀ (w : Wd), Sim E m_X5_reaches rI 40 [] [] w (K40  w)) (v2 : Int32) (v3 : Int32) (v4 : Int32) (w : Wd) : Sim E m_X5_reaches rI 12 [(0, .ref (Ea E 27)), (2, .int v2), (3, .int v3), (4, .int v4)] [] w (b_X5_reaches_12 (En E) R K32 K40 v2 v3 v4 w) := by
  unfold b_X5_reaches_12
  refine sim_iload 3 dX5_reaches_12 rfl rfl ?_
  refine sim_iload_n 2 dX5_reaches_14 rfl rfl ?_
  refine sim_icmp_ge 40 dX5_reaches_15 rfl rfl (fun _ => ?_) (fun _ => ?_)
  · exact sim_sub [] rfl (hK40 w)
  · refine sim_aload_n 0 dX5_reaches_18 rfl rfl ?_
    refine sim_get (k := 27) (ci := 3) (j := 1) (v := .ref (Ea E 22)) (hL.1 27 rfl) rfl (by decide) fl_X5_13 rfl dX5_reaches_19 rfl ?_
    refine sim_get (k := 22) (ci := 4) (j := 6) (v := .ref (Ea E 26)) (hL.1 22 rfl) rfl (by decide) fl_X5_62 rfl dX5_reaches_22 rfl ?_
    refine sim_iload 3 dX5_reaches_25 rfl rfl ?_
    refine sim_iaload (k := 26) (hL.1 26 rfl) rfl rfl dX5_reaches_27 rfl ?_
    refine sim_iload_n 1 dX5_reaches_28 rfl rfl ?_
    refine sim_icmp_ne 34 dX5_reaches_29 rfl rfl (fun _ => ?_) (fun _ => ?_)
    · refine sim_iinc (v4 + (1 : Int32)) 3 [(4, .int (v4 + (1 : Int32))), (0, .ref (Ea E 27)), (2, .int v2), (3, .int v3)] dX5_reaches_34 rfl rfl (Nat.le_of_ble_eq_true rfl) rfl rfl ?_
      refine sim_goto (q := 12) dX5_reaches_37 rfl ?_
      exact sim_sub [1, 2, 3, 0] rfl (hR v2 v3 (v4 + (1 : Int32)) w)
    · exact sim_sub [] rfl (hK32 w)
def l_X5_reaches_12 (N : Nat) (K32 : Wd → Option (Int32 × Wd)) (K40 : Wd → Option (Int32 × Wd)) (n : Nat) : Int32 → Int32 → Int32 → Wd → Option (Int32 × Wd) := itr (fun _ _ _ _ => none) (fun R => b_X5_reaches_12 N R K32 K40) n
set_option maxRecDepth 20000 in
theorem sl_X5_reaches_12 {E : Ev} (hL : LX E) {K32 : Wd → Option (Int32 × Wd)} (hK32 : ∀ (w : Wd), Sim E m_X5_reaches rI 32 [] [] w (K32  w)) {K40 : Wd → Option (Int32 × Wd)} (hK40 : ∀ (w : Wd), Sim E m_X5_reaches rI 40 [] [] w (K40  w)) : ∀ (n : Nat) (v2 : Int32) (v3 : Int32) (v4 : Int32) (w : Wd), Sim E m_X5_reaches rI 12 [(0, .ref (Ea E 27)), (2, .int v2), (3, .int v3), (4, .int v4)] [] w (l_X5_reaches_12 (En E) K32 K40 n v2 v3 v4 w) := by
  intro n
  induction n with
  | zero => intros; exact sim_none
  | succ n ih => intros; exact sb_X5_reaches_12 hL (R := l_X5_reaches_12 (En E) K32 K40 n) ih hK32 hK40 _ _ _ _
def f_X5_reaches_32 (N : Nat) (w : Wd) : Option (Int32 × Wd) :=
  if zb (1 : Int32) = true then some ((1 : Int32), w) else none
set_option maxRecDepth 20000 in
theorem sf_X5_reaches_32 {E : Ev} (hL : LX E) (w : Wd) : Sim E m_X5_reaches rI 32 [] [] w (f_X5_reaches_32 (En E) w) := by
  unfold f_X5_reaches_32
  refine sim_iconst (1 : Int32) dX5_reaches_32 rfl rfl ?_
  exact sim_zret rfl dX5_reaches_33
def f_X5_reaches_40 (N : Nat) (w : Wd) : Option (Int32 × Wd) :=
  if zb (0 : Int32) = true then some ((0 : Int32), w) else none
set_option maxRecDepth 20000 in
theorem sf_X5_reaches_40 {E : Ev} (hL : LX E) (w : Wd) : Sim E m_X5_reaches rI 40 [] [] w (f_X5_reaches_40 (En E) w) := by
  unfold f_X5_reaches_40
  refine sim_iconst (0 : Int32) dX5_reaches_40 rfl rfl ?_
  exact sim_zret rfl dX5_reaches_41
def f_X5_reaches (N : Nat) (v1 : Int32) (v2 : Int32) (w : Wd) : Option (Int32 × Wd) :=
  bd (f_X6_reach N v1 w) fun x1 w2 =>
  l_X5_reaches_12 N (f_X5_reaches_32 N) (f_X5_reaches_40 N) FU v2 x1 (0 : Int32) w2
set_option maxRecDepth 20000 in
theorem c_X5_reaches {E : Ev} (hL : LX E) (v1 : Int32) (v2 : Int32) (w : Wd) : Ct E m_X5_reaches yX5_reaches rI [.ref (Ea E 27), .int v1, .int v2] w (f_X5_reaches (En E) v1 v2 w) := by
  refine Ct.of (by decide) ⟨rfl, rfl⟩ (Nat.le_of_ble_eq_true rfl) ?_
  show Sim E m_X5_reaches rI 0 [(0, .ref (Ea E 27)), (1, .int v1), (2, .int v2)] [] w (f_X5_reaches (En E) v1 v2 w)
  unfold f_X5_reaches
  refine sim_aload_n 0 dX5_reaches_0 rfl rfl ?_
  refine sim_get (k := 27) (ci := 3) (j := 1) (v := .ref (Ea E 22)) (hL.1 27 rfl) rfl (by decide) fl_X5_13 rfl dX5_reaches_1 rfl ?_
  refine sim_iload_n 1 dX5_reaches_4 rfl rfl ?_
  refine sim_cVi (k := 22) (ci := 4) [.int v1] [] (c_X6_reach hL v1 w) (hL.1 22 rfl) rfl (by decide) rfl cb_X5_44 im_X6_reach se_X6_reach rfl rfl rfl (Nat.le_of_ble_eq_true rfl) dX5_reaches_5 rfl (fun x1 w2 => ?_)
  refine sim_istore_n [(3, .int x1), (0, .ref (Ea E 27)), (1, .int v1), (2, .int v2)] dX5_reaches_8 (Nat.le_of_ble_eq_true rfl) rfl rfl ?_
  refine sim_iconst (0 : Int32) dX5_reaches_9 rfl rfl ?_
  refine sim_istore [(4, .int (0 : Int32)), (3, .int x1), (0, .ref (Ea E 27)), (1, .int v1), (2, .int v2)] dX5_reaches_10 (Nat.le_of_ble_eq_true rfl) rfl rfl ?_
  exact sim_sub [2, 4, 1, 0] rfl (sl_X5_reaches_12 hL (sf_X5_reaches_32 hL) (sf_X5_reaches_40 hL) FU v2 x1 (0 : Int32) w2)
def f_X3_raises_13 (s0 : Int32) (w : Wd) : Option (Int32 × Wd) :=
  if zb s0 = true then some (s0, w) else none
set_option maxRecDepth 20000 in
theorem sf_X3_raises_13 {E : Ev} (s0 : Int32) (w : Wd) : Sim E m_X3_raises rI 13 [] [.int s0] w (f_X3_raises_13 s0 w) := by
  unfold f_X3_raises_13
  exact sim_zret rfl dX3_raises_13
def f_X3_raises (v0 : Int32) (w : Wd) : Option (Int32 × Wd) :=
  if (v0 &&& (4096 : Int32)) = (0 : Int32) then
  f_X3_raises_13 (0 : Int32) w
  else
  f_X3_raises_13 (1 : Int32) w
set_option maxRecDepth 20000 in
theorem c_X3_raises {E : Ev} (v0 : Int32) (w : Wd) : Ct E m_X3_raises yX3_raises rI [.int v0] w (f_X3_raises v0 w) := by
  refine Ct.of (by decide) ⟨rfl, rfl⟩ (Nat.le_of_ble_eq_true rfl) ?_
  show Sim E m_X3_raises rI 0 [(0, .int v0)] [] w (f_X3_raises v0 w)
  unfold f_X3_raises
  refine sim_iload_n 0 dX3_raises_0 rfl rfl ?_
  refine sim_sipush (4096 : Int32) dX3_raises_1 rfl rfl ?_
  refine sim_iand dX3_raises_4 rfl ?_
  refine sim_if_eq 12 dX3_raises_5 rfl rfl (fun _ => ?_) (fun _ => ?_)
  · refine sim_iconst (0 : Int32) dX3_raises_12 rfl rfl ?_
    exact sim_sub [] rfl (sf_X3_raises_13  (0 : Int32) w)
  · refine sim_iconst (1 : Int32) dX3_raises_8 rfl rfl ?_
    refine sim_goto (q := 13) dX3_raises_9 rfl ?_
    exact sim_sub [] rfl (sf_X3_raises_13  (1 : Int32) w)
def f_X5_faultOfGoing_133 (N : Nat) (s0 : Int32) (w : Wd) : Option (Int32 × Wd) :=
  some (s0, w)
set_option maxRecDepth 20000 in
theorem sf_X5_faultOfGoing_133 {E : Ev} (hL : LX E) (s0 : Int32) (w : Wd) : Sim E m_X5_faultOfGoing rI 133 [] [.int s0] w (f_X5_faultOfGoing_133 (En E) s0 w) := by
  unfold f_X5_faultOfGoing_133
  exact sim_iret rfl dX5_faultOfGoing_133
def f_X5_faultOfGoing_128 (N : Nat) (w : Wd) : Option (Int32 × Wd) :=
  f_X5_faultOfGoing_133 N (0 : Int32) w
set_option maxRecDepth 20000 in
theorem sf_X5_faultOfGoing_128 {E : Ev} (hL : LX E) (w : Wd) : Sim E m_X5_faultOfGoing rI 128 [] [] w (f_X5_faultOfGoing_128 (En E) w) := by
  unfold f_X5_faultOfGoing_128
  refine sim_iconst (0 : Int32) dX5_faultOfGoing_128 rfl rfl ?_
  refine sim_goto (q := 133) dX5_faultOfGoing_129 rfl ?_
  exact sim_sub [] rfl (sf_X5_faultOfGoing_133 hL (0 : Int32) w)
def f_X5_faultOfGoing_106 (N : Nat) (s0 : Int32) (w : Wd) : Option (Int32 × Wd) :=
  some (s0, w)
set_option maxRecDepth 20000 in
theorem sf_X5_faultOfGoing_106 {E : Ev} (hL : LX E) (s0 : Int32) (w : Wd) : Sim E m_X5_faultOfGoing rI 106 [] [.int s0] w (f_X5_faultOfGoing_106 (En E) s0 w) := by
  unfold f_X5_faultOfGoing_106
  exact sim_iret rfl dX5_faultOfGoing_106
def f_X5_faultOfGoing (N : Nat) (v1 : Int32) (w : Wd) : Option (Int32 × Wd) :=
  lt ((v1 >>> ((6 : Int32) &&& 31)) &&& (63 : Int32)) fun x1 =>
  lt (v1 &&& (63 : Int32)) fun x2 =>
  if inb x1 (N * N) = true then
  lt (w.1 23 (Int32.toNatClampNeg x1)) fun x3 =>
  if inb x2 (N * N) = true then
  lt (w.1 23 (Int32.toNatClampNeg x2)) fun x4 =>
  bd (f_X2_sideOf x3 w) fun x5 w6 =>
  if x5 = (w6.1 22 7) then
  bd (f_X5_reaches N x1 x2 w6) fun x7 w8 =>
  if x7 = (0 : Int32) then
  some ((2 : Int32), w8)
  else
  bd (f_X2_sideOf x4 w8) fun x9 w10 =>
  if x9 = (w10.1 22 7) then
  some ((3 : Int32), w10)
  else
  bd (f_X3_raises v1 w10) fun x11 w12 =>
  if x11 = (0 : Int32) then
  bd (f_X2_isRaised x3 w12) fun x13 w14 =>
  if x13 = (0 : Int32) then
  bd (f_X8_goesOn N x3 x2 w14) fun x15 w16 =>
  if x15 = (0 : Int32) then
  f_X5_faultOfGoing_133 N (5 : Int32) w16
  else
  f_X5_faultOfGoing_128 N w16
  else
  f_X5_faultOfGoing_128 N w14
  else
  bd (f_X8_canBeRaised N x3 x1 x2 w12) fun x17 w18 =>
  if x17 = (0 : Int32) then
  f_X5_faultOfGoing_106 N (4 : Int32) w18
  else
  f_X5_faultOfGoing_106 N (0 : Int32) w18
  else
  some ((1 : Int32), w6)
  else none
  else none
set_option maxRecDepth 20000 in
theorem c_X5_faultOfGoing {E : Ev} (hL : LX E) (v1 : Int32) (w : Wd) : Ct E m_X5_faultOfGoing yX5_faultOfGoing rI [.ref (Ea E 27), .int v1] w (f_X5_faultOfGoing (En E) v1 w) := by
  refine Ct.of (by decide) ⟨rfl, rfl⟩ (Nat.le_of_ble_eq_true rfl) ?_
  show Sim E m_X5_faultOfGoing rI 0 [(0, .ref (Ea E 27)), (1, .int v1)] [] w (f_X5_faultOfGoing (En E) v1 w)
  unfold f_X5_faultOfGoing
  refine sim_iload_n 1 dX5_faultOfGoing_0 rfl rfl ?_
  refine sim_bipush (6 : Int32) dX5_faultOfGoing_1 rfl rfl ?_
  refine sim_ishr dX5_faultOfGoing_3 rfl ?_
  refine sim_bipush (63 : Int32) dX5_faultOfGoing_4 rfl rfl ?_
  refine sim_iand dX5_faultOfGoing_6 rfl ?_
  refine sim_lt (fun x1 => ?_)
  refine sim_istore_n [(2, .int x1), (0, .ref (Ea E 27)), (1, .int v1)] dX5_faultOfGoing_7 (Nat.le_of_ble_eq_true rfl) rfl rfl ?_
  refine sim_iload_n 2 dX5_faultOfGoing_8 rfl rfl ?_
  refine sim_bipush (63 : Int32) dX5_faultOfGoing_9 rfl rfl ?_
  refine sim_iand dX5_faultOfGoing_11 rfl ?_
  refine sim_lt (fun x2 => ?_)
  refine sim_istore_n [(3, .int x2), (2, .int x1), (0, .ref (Ea E 27)), (1, .int v1)] dX5_faultOfGoing_12 (Nat.le_of_ble_eq_true rfl) rfl rfl ?_
  refine sim_aload_n 2 dX5_faultOfGoing_13 rfl rfl ?_
  refine sim_get (k := 27) (ci := 3) (j := 1) (v := .ref (Ea E 22)) (hL.1 27 rfl) rfl (by decide) fl_X5_13 rfl dX5_faultOfGoing_14 rfl ?_
  refine sim_get (k := 22) (ci := 4) (j := 3) (v := .ref (Ea E 23)) (hL.1 22 rfl) rfl (by decide) fl_X5_35 rfl dX5_faultOfGoing_17 rfl ?_
  refine sim_iload_n 1 dX5_faultOfGoing_20 rfl rfl ?_
  refine sim_iaload (k := 23) (hL.1 23 rfl) rfl rfl dX5_faultOfGoing_21 rfl ?_
  refine sim_lt (fun x3 => ?_)
  refine sim_istore [(4, .int x3), (3, .int x2), (2, .int x1), (0, .ref (Ea E 27)), (1, .int v1)] dX5_faultOfGoing_22 (Nat.le_of_ble_eq_true rfl) rfl rfl ?_
  refine sim_aload_n 3 dX5_faultOfGoing_24 rfl rfl ?_
  refine sim_get (k := 27) (ci := 3) (j := 1) (v := .ref (Ea E 22)) (hL.1 27 rfl) rfl (by decide) fl_X5_13 rfl dX5_faultOfGoing_25 rfl ?_
  refine sim_get (k := 22) (ci := 4) (j := 3) (v := .ref (Ea E 23)) (hL.1 22 rfl) rfl (by decide) fl_X5_35 rfl dX5_faultOfGoing_28 rfl ?_
  refine sim_iload_n 1 dX5_faultOfGoing_31 rfl rfl ?_
  refine sim_iaload (k := 23) (hL.1 23 rfl) rfl rfl dX5_faultOfGoing_32 rfl ?_
  refine sim_lt (fun x4 => ?_)
  refine sim_istore [(5, .int x4), (4, .int x3), (3, .int x2), (2, .int x1), (0, .ref (Ea E 27)), (1, .int v1)] dX5_faultOfGoing_33 (Nat.le_of_ble_eq_true rfl) rfl rfl ?_
  refine sim_iload 1 dX5_faultOfGoing_35 rfl rfl ?_
  refine sim_cSi [.int x3] [] (c_X2_sideOf x3 w) cb_X5_38 sx_X2_sideOf rfl rfl rfl (Nat.le_of_ble_eq_true rfl) dX5_faultOfGoing_37 rfl (fun x5 w6 => ?_)
  refine sim_aload_n 4 dX5_faultOfGoing_40 rfl rfl ?_
  refine sim_get (k := 27) (ci := 3) (j := 1) (v := .ref (Ea E 22)) (hL.1 27 rfl) rfl (by decide) fl_X5_13 rfl dX5_faultOfGoing_41 rfl ?_
  refine sim_get (k := 22) (ci := 4) (j := 7) (v := .int (w6.1 22 7)) (hL.1 22 rfl) rfl (by decide) fl_X5_30 rfl dX5_faultOfGoing_44 rfl ?_
  refine sim_icmp_eq 52 dX5_faultOfGoing_47 rfl rfl (fun _ => ?_) (fun _ => ?_)
  · refine sim_aload_n 4 dX5_faultOfGoing_52 rfl rfl ?_
    refine sim_iload_n 3 dX5_faultOfGoing_53 rfl rfl ?_
    refine sim_iload_n 2 dX5_faultOfGoing_54 rfl rfl ?_
    refine sim_cVi (k := 27) (ci := 3) [.int x1, .int x2] [] (c_X5_reaches hL x1 x2 w6) (hL.1 27 rfl) rfl (by decide) rfl cb_X5_124 im_X5_reaches se_X5_reaches rfl rfl rfl (Nat.le_of_ble_eq_true rfl) dX5_faultOfGoing_55 rfl (fun x7 w8 => ?_)
    refine sim_if_ne 63 dX5_faultOfGoing_58 rfl rfl (fun _ => ?_) (fun _ => ?_)
    · refine sim_iload 0 dX5_faultOfGoing_63 rfl rfl ?_
      refine sim_cSi [.int x4] [] (c_X2_sideOf x4 w8) cb_X5_38 sx_X2_sideOf rfl rfl rfl (Nat.le_of_ble_eq_true rfl) dX5_faultOfGoing_65 rfl (fun x9 w10 => ?_)
      refine sim_aload_n 4 dX5_faultOfGoing_68 rfl rfl ?_
      refine sim_get (k := 27) (ci := 3) (j := 1) (v := .ref (Ea E 22)) (hL.1 27 rfl) rfl (by decide) fl_X5_13 rfl dX5_faultOfGoing_69 rfl ?_
      refine sim_get (k := 22) (ci := 4) (j := 7) (v := .int (w10.1 22 7)) (hL.1 22 rfl) rfl (by decide) fl_X5_30 rfl dX5_faultOfGoing_72 rfl ?_
      refine sim_icmp_ne 80 dX5_faultOfGoing_75 rfl rfl (fun _ => ?_) (fun _ => ?_)
      · refine sim_iload_n 5 dX5_faultOfGoing_80 rfl rfl ?_
        refine sim_cSi [.int v1] [] (c_X3_raises v1 w10) cb_X5_127 sx_X3_raises rfl rfl rfl (Nat.le_of_ble_eq_true rfl) dX5_faultOfGoing_81 rfl (fun x11 w12 => ?_)
        refine sim_if_eq 107 dX5_faultOfGoing_84 rfl rfl (fun _ => ?_) (fun _ => ?_)
        · refine sim_iload 1 dX5_faultOfGoing_107 rfl rfl ?_
          refine sim_cSi [.int x3] [] (c_X2_isRaised x3 w12) cb_X5_58 sx_X2_isRaised rfl rfl rfl (Nat.le_of_ble_eq_true rfl) dX5_faultOfGoing_109 rfl (fun x13 w14 => ?_)
          refine sim_if_ne 128 dX5_faultOfGoing_112 rfl rfl (fun _ => ?_) (fun _ => ?_)
          · exact sim_sub [] rfl (sf_X5_faultOfGoing_128 hL w14)
          · refine sim_aload_n 4 dX5_faultOfGoing_115 rfl rfl ?_
            refine sim_get (k := 27) (ci := 3) (j := 0) (v := .ref (Ea E 2)) (hL.1 27 rfl) rfl (by decide) fl_X5_9 rfl dX5_faultOfGoing_116 rfl ?_
            refine sim_iload 1 dX5_faultOfGoing_119 rfl rfl ?_
            refine sim_iload_n 2 dX5_faultOfGoing_121 rfl rfl ?_
            refine sim_cVi (k := 2) (ci := 6) [.int x3, .int x2] [] (c_X8_goesOn hL.w x3 x2 w14) (hL.1 2 rfl) rfl (by decide) rfl cb_X5_65 im_X8_goesOn se_X8_goesOn rfl rfl rfl (Nat.le_of_ble_eq_true rfl) dX5_faultOfGoing_122 rfl (fun x15 w16 => ?_)
            refine sim_if_eq 132 dX5_faultOfGoing_125 rfl rfl (fun _ => ?_) (fun _ => ?_)
            · refine sim_iconst (5 : Int32) dX5_faultOfGoing_132 rfl rfl ?_
              exact sim_sub [] rfl (sf_X5_faultOfGoing_133 hL (5 : Int32) w16)
            · exact sim_sub [] rfl (sf_X5_faultOfGoing_128 hL w16)
        · refine sim_aload_n 4 dX5_faultOfGoing_87 rfl rfl ?_
          refine sim_get (k := 27) (ci := 3) (j := 0) (v := .ref (Ea E 2)) (hL.1 27 rfl) rfl (by decide) fl_X5_9 rfl dX5_faultOfGoing_88 rfl ?_
          refine sim_iload 1 dX5_faultOfGoing_91 rfl rfl ?_
          refine sim_iload_n 3 dX5_faultOfGoing_93 rfl rfl ?_
          refine sim_iload_n 2 dX5_faultOfGoing_94 rfl rfl ?_
          refine sim_cVi (k := 2) (ci := 6) [.int x3, .int x1, .int x2] [] (c_X8_canBeRaised hL.w x3 x1 x2 w12) (hL.1 2 rfl) rfl (by decide) rfl cb_X5_69 im_X8_canBeRaised se_X8_canBeRaised rfl rfl rfl (Nat.le_of_ble_eq_true rfl) dX5_faultOfGoing_95 rfl (fun x17 w18 => ?_)
          refine sim_if_eq 105 dX5_faultOfGoing_98 rfl rfl (fun _ => ?_) (fun _ => ?_)
          · refine sim_iconst (4 : Int32) dX5_faultOfGoing_105 rfl rfl ?_
            exact sim_sub [] rfl (sf_X5_faultOfGoing_106 hL (4 : Int32) w18)
          · refine sim_iconst (0 : Int32) dX5_faultOfGoing_101 rfl rfl ?_
            refine sim_goto (q := 106) dX5_faultOfGoing_102 rfl ?_
            exact sim_sub [] rfl (sf_X5_faultOfGoing_106 hL (0 : Int32) w18)
      · refine sim_iconst (3 : Int32) dX5_faultOfGoing_78 rfl rfl ?_
        exact sim_iret rfl dX5_faultOfGoing_79
    · refine sim_iconst (2 : Int32) dX5_faultOfGoing_61 rfl rfl ?_
      exact sim_iret rfl dX5_faultOfGoing_62
  · refine sim_iconst (1 : Int32) dX5_faultOfGoing_50 rfl rfl ?_
    exact sim_iret rfl dX5_faultOfGoing_51
def f_X3_toOf (v0 : Int32) (w : Wd) : Option (Int32 × Wd) :=
  some ((v0 &&& (63 : Int32)), w)
set_option maxRecDepth 20000 in
theorem c_X3_toOf {E : Ev} (v0 : Int32) (w : Wd) : Ct E m_X3_toOf yX3_toOf rI [.int v0] w (f_X3_toOf v0 w) := by
  refine Ct.of (by decide) ⟨rfl, rfl⟩ (Nat.le_of_ble_eq_true rfl) ?_
  show Sim E m_X3_toOf rI 0 [(0, .int v0)] [] w (f_X3_toOf v0 w)
  unfold f_X3_toOf
  refine sim_iload_n 0 dX3_toOf_0 rfl rfl ?_
  refine sim_bipush (63 : Int32) dX3_toOf_1 rfl rfl ?_
  refine sim_iand dX3_toOf_3 rfl ?_
  exact sim_iret rfl dX3_toOf_4
def f_X6_withTaken (N : Nat) (v1 : Int32) (w : Wd) : Option (Int32 × Wd) :=
  bd (f_X3_toOf v1 w) fun x1 w2 =>
  if inb x1 (N * N) = true then
  some ((v1 ||| ((w2.1 23 (Int32.toNatClampNeg x1)) <<< ((16 : Int32) &&& 31))), w2)
  else none
set_option maxRecDepth 20000 in
theorem c_X6_withTaken {E : Ev} (hL : LX E) (v1 : Int32) (w : Wd) : Ct E m_X6_withTaken yX6_withTaken rI [.ref (Ea E 22), .int v1] w (f_X6_withTaken (En E) v1 w) := by
  refine Ct.of (by decide) ⟨rfl, rfl⟩ (Nat.le_of_ble_eq_true rfl) ?_
  show Sim E m_X6_withTaken rI 0 [(0, .ref (Ea E 22)), (1, .int v1)] [] w (f_X6_withTaken (En E) v1 w)
  unfold f_X6_withTaken
  refine sim_iload_n 1 dX6_withTaken_0 rfl rfl ?_
  refine sim_aload_n 0 dX6_withTaken_1 rfl rfl ?_
  refine sim_get (k := 22) (ci := 4) (j := 3) (v := .ref (Ea E 23)) (hL.1 22 rfl) rfl (by decide) fl_X6_33 rfl dX6_withTaken_2 rfl ?_
  refine sim_iload_n 1 dX6_withTaken_5 rfl rfl ?_
  refine sim_cSi [.int v1] [.ref (Ea E 23), .int v1] (c_X3_toOf v1 w) cb_X6_61 sx_X3_toOf rfl rfl rfl (Nat.le_of_ble_eq_true rfl) dX6_withTaken_6 rfl (fun x1 w2 => ?_)
  refine sim_iaload (k := 23) (hL.1 23 rfl) rfl rfl dX6_withTaken_9 rfl ?_
  refine sim_bipush (16 : Int32) dX6_withTaken_10 rfl rfl ?_
  refine sim_ishl dX6_withTaken_12 rfl ?_
  refine sim_ior dX6_withTaken_13 rfl ?_
  exact sim_iret rfl dX6_withTaken_14
def f_X5_faultOf_103 (N : Nat) (v3 : Int32) (v4 : Int32) (w : Wd) : Option (Int32 × Wd) :=
  bd (f_X6_revert N v4 w) fun _ w12 =>
  some (v3, w12)
set_option maxRecDepth 20000 in
theorem sf_X5_faultOf_103 {E : Ev} (hL : LX E) (v3 : Int32) (v4 : Int32) (w : Wd) : Sim E m_X5_faultOf rI 103 [(0, .ref (Ea E 27)), (3, .int v3), (4, .int v4)] [] w (f_X5_faultOf_103 (En E) v3 v4 w) := by
  unfold f_X5_faultOf_103
  refine sim_aload_n 0 dX5_faultOf_103 rfl rfl ?_
  refine sim_get (k := 27) (ci := 3) (j := 1) (v := .ref (Ea E 22)) (hL.1 27 rfl) rfl (by decide) fl_X5_13 rfl dX5_faultOf_104 rfl ?_
  refine sim_iload 2 dX5_faultOf_107 rfl rfl ?_
  refine sim_cVv (k := 22) (ci := 4) [.int v4] [] (c_X6_revert hL v4 w) (hL.1 22 rfl) rfl (by decide) rfl cb_X5_109 im_X6_revert se_X6_revert rfl rfl rfl (Nat.le_of_ble_eq_true rfl) dX5_faultOf_109 rfl (fun _ w12 => ?_)
  refine sim_iload_n 1 dX5_faultOf_112 rfl rfl ?_
  exact sim_iret rfl dX5_faultOf_113
def f_X5_faultOf_87 (N : Nat) (v4 : Int32) (s0 : Int32) (w : Wd) : Option (Int32 × Wd) :=
  f_X5_faultOf_103 N s0 v4 w
set_option maxRecDepth 20000 in
theorem sf_X5_faultOf_87 {E : Ev} (hL : LX E) (v4 : Int32) (s0 : Int32) (w : Wd) : Sim E m_X5_faultOf rI 87 [(0, .ref (Ea E 27)), (4, .int v4)] [.int s0] w (f_X5_faultOf_87 (En E) v4 s0 w) := by
  unfold f_X5_faultOf_87
  refine sim_istore_n [(3, .int s0), (0, .ref (Ea E 27)), (4, .int v4)] dX5_faultOf_87 (Nat.le_of_ble_eq_true rfl) rfl rfl ?_
  refine sim_goto (q := 103) dX5_faultOf_88 rfl ?_
  exact sim_sub [1, 0, 2] rfl (sf_X5_faultOf_103 hL s0 v4 w)
def f_X5_faultOf_32 (N : Nat) (v1 : Int32) (v2 : Int32) (s0 : Int32) (w : Wd) : Option (Int32 × Wd) :=
  if s0 = (0 : Int32) then
  bd (f_X6_withTaken N v1 w) fun x5 w6 =>
  bd (f_X6_apply N x5 w6) fun _ w7 =>
  bd (f_X6_inCheck N ((1 : Int32) - (w7.1 22 7)) w7) fun x8 w9 =>
  if x8 = (0 : Int32) then
  bd (f_X5_isForbiddenMate N x5 w9) fun x10 w11 =>
  if x10 = (0 : Int32) then
  f_X5_faultOf_103 N s0 x5 w11
  else
  f_X5_faultOf_103 N (6 : Int32) x5 w11
  else
  if v2 = (0 : Int32) then
  f_X5_faultOf_87 N x5 (6 : Int32) w9
  else
  f_X5_faultOf_87 N x5 (5 : Int32) w9
  else
  some (s0, w)
set_option maxRecDepth 20000 in
theorem sf_X5_faultOf_32 {E : Ev} (hL : LX E) (v1 : Int32) (v2 : Int32) (s0 : Int32) (w : Wd) : Sim E m_X5_faultOf rI 32 [(0, .ref (Ea E 27)), (1, .int v1), (2, .int v2)] [.int s0] w (f_X5_faultOf_32 (En E) v1 v2 s0 w) := by
  unfold f_X5_faultOf_32
  refine sim_istore_n [(3, .int s0), (0, .ref (Ea E 27)), (1, .int v1), (2, .int v2)] dX5_faultOf_32 (Nat.le_of_ble_eq_true rfl) rfl rfl ?_
  refine sim_iload_n 0 dX5_faultOf_33 rfl rfl ?_
  refine sim_if_eq 39 dX5_faultOf_34 rfl rfl (fun _ => ?_) (fun _ => ?_)
  · refine sim_aload_n 1 dX5_faultOf_39 rfl rfl ?_
    refine sim_get (k := 27) (ci := 3) (j := 1) (v := .ref (Ea E 22)) (hL.1 27 rfl) rfl (by decide) fl_X5_13 rfl dX5_faultOf_40 rfl ?_
    refine sim_iload_n 2 dX5_faultOf_43 rfl rfl ?_
    refine sim_cVi (k := 22) (ci := 4) [.int v1] [] (c_X6_withTaken hL v1 w) (hL.1 22 rfl) rfl (by decide) rfl cb_X5_121 im_X6_withTaken se_X6_withTaken rfl rfl rfl (Nat.le_of_ble_eq_true rfl) dX5_faultOf_44 rfl (fun x5 w6 => ?_)
    refine sim_istore [(4, .int x5), (3, .int s0), (0, .ref (Ea E 27)), (1, .int v1), (2, .int v2)] dX5_faultOf_47 (Nat.le_of_ble_eq_true rfl) rfl rfl ?_
    refine sim_aload_n 2 dX5_faultOf_49 rfl rfl ?_
    refine sim_get (k := 27) (ci := 3) (j := 1) (v := .ref (Ea E 22)) (hL.1 27 rfl) rfl (by decide) fl_X5_13 rfl dX5_faultOf_50 rfl ?_
    refine sim_iload 0 dX5_faultOf_53 rfl rfl ?_
    refine sim_cVv (k := 22) (ci := 4) [.int x5] [] (c_X6_apply hL x5 w6) (hL.1 22 rfl) rfl (by decide) rfl cb_X5_102 im_X6_apply se_X6_apply rfl rfl rfl (Nat.le_of_ble_eq_true rfl) dX5_faultOf_55 rfl (fun _ w7 => ?_)
    refine sim_aload_n 2 dX5_faultOf_58 rfl rfl ?_
    refine sim_get (k := 27) (ci := 3) (j := 1) (v := .ref (Ea E 22)) (hL.1 27 rfl) rfl (by decide) fl_X5_13 rfl dX5_faultOf_59 rfl ?_
    refine sim_iconst (1 : Int32) dX5_faultOf_62 rfl rfl ?_
    refine sim_aload_n 2 dX5_faultOf_63 rfl rfl ?_
    refine sim_get (k := 27) (ci := 3) (j := 1) (v := .ref (Ea E 22)) (hL.1 27 rfl) rfl (by decide) fl_X5_13 rfl dX5_faultOf_64 rfl ?_
    refine sim_get (k := 22) (ci := 4) (j := 7) (v := .int (w7.1 22 7)) (hL.1 22 rfl) rfl (by decide) fl_X5_30 rfl dX5_faultOf_67 rfl ?_
    refine sim_isub dX5_faultOf_70 rfl ?_
    refine sim_cVi (k := 22) (ci := 4) [.int ((1 : Int32) - (w7.1 22 7))] [] (c_X6_inCheck hL ((1 : Int32) - (w7.1 22 7)) w7) (hL.1 22 rfl) rfl (by decide) rfl cb_X5_90 im_X6_inCheck se_X6_inCheck rfl rfl rfl (Nat.le_of_ble_eq_true rfl) dX5_faultOf_71 rfl (fun x8 w9 => ?_)
    refine sim_if_eq 91 dX5_faultOf_74 rfl rfl (fun _ => ?_) (fun _ => ?_)
    · refine sim_aload_n 2 dX5_faultOf_91 rfl rfl ?_
      refine sim_iload 0 dX5_faultOf_92 rfl rfl ?_
      refine sim_cVi (k := 27) (ci := 3) [.int x5] [] (c_X5_isForbiddenMate hL x5 w9) (hL.1 27 rfl) rfl (by decide) rfl cb_X5_106 im_X5_isForbiddenMate se_X5_isForbiddenMate rfl rfl rfl (Nat.le_of_ble_eq_true rfl) dX5_faultOf_94 rfl (fun x10 w11 => ?_)
      refine sim_if_eq 103 dX5_faultOf_97 rfl rfl (fun _ => ?_) (fun _ => ?_)
      · exact sim_sub [2, 1, 0] rfl (sf_X5_faultOf_103 hL s0 x5 w11)
      · refine sim_bipush (6 : Int32) dX5_faultOf_100 rfl rfl ?_
        refine sim_istore_n [(3, .int (6 : Int32)), (4, .int x5), (0, .ref (Ea E 27)), (1, .int v1), (2, .int v2)] dX5_faultOf_102 (Nat.le_of_ble_eq_true rfl) rfl rfl ?_
        exact sim_sub [2, 0, 1] rfl (sf_X5_faultOf_103 hL (6 : Int32) x5 w11)
    · refine sim_iload_n 4 dX5_faultOf_77 rfl rfl ?_
      refine sim_if_eq 85 dX5_faultOf_78 rfl rfl (fun _ => ?_) (fun _ => ?_)
      · refine sim_bipush (6 : Int32) dX5_faultOf_85 rfl rfl ?_
        exact sim_sub [2, 0] rfl (sf_X5_faultOf_87 hL x5 (6 : Int32) w9)
      · refine sim_iconst (5 : Int32) dX5_faultOf_81 rfl rfl ?_
        refine sim_goto (q := 87) dX5_faultOf_82 rfl ?_
        exact sim_sub [2, 0] rfl (sf_X5_faultOf_87 hL x5 (5 : Int32) w9)
  · refine sim_iload_n 0 dX5_faultOf_37 rfl rfl ?_
    exact sim_iret rfl dX5_faultOf_38
def f_X5_faultOf (N : Nat) (v1 : Int32) (w : Wd) : Option (Int32 × Wd) :=
  bd (f_X3_isSetting v1 w) fun x1 w2 =>
  if x1 = (0 : Int32) then
  bd (f_X5_faultOfGoing N v1 w2) fun x3 w4 =>
  f_X5_faultOf_32 N v1 x1 x3 w4
  else
  bd (f_X5_faultOfSetting N ((v1 >>> ((13 : Int32) &&& 31)) &&& (7 : Int32)) (v1 &&& (63 : Int32)) w2) fun x13 w14 =>
  f_X5_faultOf_32 N v1 x1 x13 w14
set_option maxRecDepth 20000 in
theorem c_X5_faultOf {E : Ev} (hL : LX E) (v1 : Int32) (w : Wd) : Ct E m_X5_faultOf yX5_faultOf rI [.ref (Ea E 27), .int v1] w (f_X5_faultOf (En E) v1 w) := by
  refine Ct.of (by decide) ⟨rfl, rfl⟩ (Nat.le_of_ble_eq_true rfl) ?_
  show Sim E m_X5_faultOf rI 0 [(0, .ref (Ea E 27)), (1, .int v1)] [] w (f_X5_faultOf (En E) v1 w)
  unfold f_X5_faultOf
  refine sim_iload_n 1 dX5_faultOf_0 rfl rfl ?_
  refine sim_cSi [.int v1] [] (c_X3_isSetting v1 w) cb_X5_96 sx_X3_isSetting rfl rfl rfl (Nat.le_of_ble_eq_true rfl) dX5_faultOf_1 rfl (fun x1 w2 => ?_)
  refine sim_istore_n [(2, .int x1), (0, .ref (Ea E 27)), (1, .int v1)] dX5_faultOf_4 (Nat.le_of_ble_eq_true rfl) rfl rfl ?_
  refine sim_iload_n 0 dX5_faultOf_5 rfl rfl ?_
  refine sim_if_eq 27 dX5_faultOf_6 rfl rfl (fun _ => ?_) (fun _ => ?_)
  · refine sim_aload_n 1 dX5_faultOf_27 rfl rfl ?_
    refine sim_iload_n 2 dX5_faultOf_28 rfl rfl ?_
    refine sim_cVi (k := 27) (ci := 3) [.int v1] [] (c_X5_faultOfGoing hL v1 w2) (hL.1 27 rfl) rfl (by decide) rfl cb_X5_118 im_X5_faultOfGoing se_X5_faultOfGoing rfl rfl rfl (Nat.le_of_ble_eq_true rfl) dX5_faultOf_29 rfl (fun x3 w4 => ?_)
    exact sim_sub [1, 2, 0] rfl (sf_X5_faultOf_32 hL v1 x1 x3 w4)
  · refine sim_aload_n 1 dX5_faultOf_9 rfl rfl ?_
    refine sim_iload_n 2 dX5_faultOf_10 rfl rfl ?_
    refine sim_bipush (13 : Int32) dX5_faultOf_11 rfl rfl ?_
    refine sim_ishr dX5_faultOf_13 rfl ?_
    refine sim_bipush (7 : Int32) dX5_faultOf_14 rfl rfl ?_
    refine sim_iand dX5_faultOf_16 rfl ?_
    refine sim_iload_n 2 dX5_faultOf_17 rfl rfl ?_
    refine sim_bipush (63 : Int32) dX5_faultOf_18 rfl rfl ?_
    refine sim_iand dX5_faultOf_20 rfl ?_
    refine sim_cVi (k := 27) (ci := 3) [.int ((v1 >>> ((13 : Int32) &&& 31)) &&& (7 : Int32)), .int (v1 &&& (63 : Int32))] [] (c_X5_faultOfSetting hL ((v1 >>> ((13 : Int32) &&& 31)) &&& (7 : Int32)) (v1 &&& (63 : Int32)) w2) (hL.1 27 rfl) rfl (by decide) rfl cb_X5_115 im_X5_faultOfSetting se_X5_faultOfSetting rfl rfl rfl (Nat.le_of_ble_eq_true rfl) dX5_faultOf_21 rfl (fun x13 w14 => ?_)
    refine sim_goto (q := 32) dX5_faultOf_24 rfl ?_
    exact sim_sub [1, 2, 0] rfl (sf_X5_faultOf_32 hL v1 x1 x13 w14)
def f_X5_listLawful_162 (N : Nat) (R : Int32 → Int32 → Int32 → Int32 → Int32 → Wd → Option (Int32 × Wd)) (K168 : Int32 → Int32 → Wd → Option (Int32 × Wd)) (v2 : Int32) (v3 : Int32) (v4 : Int32) (v5 : Int32) (v6 : Int32) (w : Wd) : Option (Int32 × Wd) :=
  R v2 v3 v4 v5 (v6 + (1 : Int32)) w
set_option maxRecDepth 20000 in
theorem sf_X5_listLawful_162 {E : Ev} (hL : LX E) {R : Int32 → Int32 → Int32 → Int32 → Int32 → Wd → Option (Int32 × Wd)} (hR : ∀ (v2 : Int32) (v3 : Int32) (v4 : Int32) (v5 : Int32) (v6 : Int32) (w : Wd), Sim E m_X5_listLawful rI 43 [(0, .ref (Ea E 27)), (2, .int v2), (3, .int v3), (4, .int v4), (5, .int v5), (6, .int v6)] [] w (R v2 v3 v4 v5 v6 w)) {K168 : Int32 → Int32 → Wd → Option (Int32 × Wd)} (hK168 : ∀ (v3 : Int32) (v5 : Int32) (w : Wd), Sim E m_X5_listLawful rI 168 [(3, .int v3), (5, .int v5)] [] w (K168 v3 v5 w)) (v2 : Int32) (v3 : Int32) (v4 : Int32) (v5 : Int32) (v6 : Int32) (w : Wd) : Sim E m_X5_listLawful rI 162 [(0, .ref (Ea E 27)), (2, .int v2), (3, .int v3), (4, .int v4), (5, .int v5), (6, .int v6)] [] w (f_X5_listLawful_162 (En E) R K168 v2 v3 v4 v5 v6 w) := by
  unfold f_X5_listLawful_162
  refine sim_iinc (v6 + (1 : Int32)) 5 [(6, .int (v6 + (1 : Int32))), (0, .ref (Ea E 27)), (2, .int v2), (3, .int v3), (4, .int v4), (5, .int v5)] dX5_listLawful_162 rfl rfl (Nat.le_of_ble_eq_true rfl) rfl rfl ?_
  refine sim_goto (q := 43) dX5_listLawful_165 rfl ?_
  exact sim_sub [1, 2, 3, 4, 5, 0] rfl (hR v2 v3 v4 v5 (v6 + (1 : Int32)) w)
def f_X5_listLawful_145 (N : Nat) (R : Int32 → Int32 → Int32 → Int32 → Int32 → Wd → Option (Int32 × Wd)) (K168 : Int32 → Int32 → Wd → Option (Int32 × Wd)) (v2 : Int32) (v3 : Int32) (v4 : Int32) (v5 : Int32) (v6 : Int32) (v7 : Int32) (v8 : Int32) (w : Wd) : Option (Int32 × Wd) :=
  if v8 = (0 : Int32) then
  f_X5_listLawful_162 N R K168 v2 v3 v4 v5 v6 w
  else
  if inb v5 (270 * (N * N)) = true then
  lw (wdI w 28 (Int32.toNatClampNeg v5) v7) fun w7 =>
  f_X5_listLawful_162 N R K168 v2 v3 v4 (v5 + (1 : Int32)) v6 w7
  else none
set_option maxRecDepth 20000 in
theorem sf_X5_listLawful_145 {E : Ev} (hL : LX E) {R : Int32 → Int32 → Int32 → Int32 → Int32 → Wd → Option (Int32 × Wd)} (hR : ∀ (v2 : Int32) (v3 : Int32) (v4 : Int32) (v5 : Int32) (v6 : Int32) (w : Wd), Sim E m_X5_listLawful rI 43 [(0, .ref (Ea E 27)), (2, .int v2), (3, .int v3), (4, .int v4), (5, .int v5), (6, .int v6)] [] w (R v2 v3 v4 v5 v6 w)) {K168 : Int32 → Int32 → Wd → Option (Int32 × Wd)} (hK168 : ∀ (v3 : Int32) (v5 : Int32) (w : Wd), Sim E m_X5_listLawful rI 168 [(3, .int v3), (5, .int v5)] [] w (K168 v3 v5 w)) (v2 : Int32) (v3 : Int32) (v4 : Int32) (v5 : Int32) (v6 : Int32) (v7 : Int32) (v8 : Int32) (w : Wd) : Sim E m_X5_listLawful rI 145 [(0, .ref (Ea E 27)), (2, .int v2), (3, .int v3), (4, .int v4), (5, .int v5), (6, .int v6), (7, .int v7), (8, .int v8)] [] w (f_X5_listLawful_145 (En E) R K168 v2 v3 v4 v5 v6 v7 v8 w) := by
  unfold f_X5_listLawful_145
  refine sim_iload 7 dX5_listLawful_145 rfl rfl ?_
  refine sim_if_eq 162 dX5_listLawful_147 rfl rfl (fun _ => ?_) (fun _ => ?_)
  · exact sim_sub [0, 1, 2, 3, 4, 5] rfl (sf_X5_listLawful_162 hL hR hK168 v2 v3 v4 v5 v6 w)
  · refine sim_aload_n 0 dX5_listLawful_150 rfl rfl ?_
    refine sim_get (k := 27) (ci := 3) (j := 3) (v := .ref (Ea E 28)) (hL.1 27 rfl) rfl (by decide) fl_X5_26 rfl dX5_listLawful_151 rfl ?_
    refine sim_iload 4 dX5_listLawful_154 rfl rfl ?_
    refine sim_iinc (v5 + (1 : Int32)) 4 [(5, .int (v5 + (1 : Int32))), (0, .ref (Ea E 27)), (2, .int v2), (3, .int v3), (4, .int v4), (6, .int v6), (7, .int v7), (8, .int v8)] dX5_listLawful_156 rfl rfl (Nat.le_of_ble_eq_true rfl) rfl rfl ?_
    refine sim_iload 6 dX5_listLawful_159 rfl rfl ?_
    refine sim_iastore (k := 28) (hL.1 28 rfl) rfl rfl dX5_listLawful_161 rfl ?_
    refine sim_lw (fun w7 => ?_)
    exact sim_sub [1, 2, 3, 4, 0, 5] rfl (sf_X5_listLawful_162 hL hR hK168 v2 v3 v4 (v5 + (1 : Int32)) v6 w7)
def f_X5_listLawful_134 (N : Nat) (R : Int32 → Int32 → Int32 → Int32 → Int32 → Wd → Option (Int32 × Wd)) (K168 : Int32 → Int32 → Wd → Option (Int32 × Wd)) (v2 : Int32) (v3 : Int32) (v4 : Int32) (v5 : Int32) (v6 : Int32) (v7 : Int32) (s0 : Int32) (w : Wd) : Option (Int32 × Wd) :=
  bd (f_X6_revert N v7 w) fun _ w11 =>
  f_X5_listLawful_145 N R K168 v2 v3 v4 v5 v6 v7 s0 w11
set_option maxRecDepth 20000 in
theorem sf_X5_listLawful_134 {E : Ev} (hL : LX E) {R : Int32 → Int32 → Int32 → Int32 → Int32 → Wd → Option (Int32 × Wd)} (hR : ∀ (v2 : Int32) (v3 : Int32) (v4 : Int32) (v5 : Int32) (v6 : Int32) (w : Wd), Sim E m_X5_listLawful rI 43 [(0, .ref (Ea E 27)), (2, .int v2), (3, .int v3), (4, .int v4), (5, .int v5), (6, .int v6)] [] w (R v2 v3 v4 v5 v6 w)) {K168 : Int32 → Int32 → Wd → Option (Int32 × Wd)} (hK168 : ∀ (v3 : Int32) (v5 : Int32) (w : Wd), Sim E m_X5_listLawful rI 168 [(3, .int v3), (5, .int v5)] [] w (K168 v3 v5 w)) (v2 : Int32) (v3 : Int32) (v4 : Int32) (v5 : Int32) (v6 : Int32) (v7 : Int32) (s0 : Int32) (w : Wd) : Sim E m_X5_listLawful rI 134 [(0, .ref (Ea E 27)), (2, .int v2), (3, .int v3), (4, .int v4), (5, .int v5), (6, .int v6), (7, .int v7)] [.int s0] w (f_X5_listLawful_134 (En E) R K168 v2 v3 v4 v5 v6 v7 s0 w) := by
  unfold f_X5_listLawful_134
  refine sim_istore [(8, .int s0), (0, .ref (Ea E 27)), (2, .int v2), (3, .int v3), (4, .int v4), (5, .int v5), (6, .int v6), (7, .int v7)] dX5_listLawful_134 (Nat.le_of_ble_eq_true rfl) rfl rfl ?_
  refine sim_aload_n 1 dX5_listLawful_136 rfl rfl ?_
  refine sim_get (k := 27) (ci := 3) (j := 1) (v := .ref (Ea E 22)) (hL.1 27 rfl) rfl (by decide) fl_X5_13 rfl dX5_listLawful_137 rfl ?_
  refine sim_iload 7 dX5_listLawful_140 rfl rfl ?_
  refine sim_cVv (k := 22) (ci := 4) [.int v7] [] (c_X6_revert hL v7 w) (hL.1 22 rfl) rfl (by decide) rfl cb_X5_109 im_X6_revert se_X6_revert rfl rfl rfl (Nat.le_of_ble_eq_true rfl) dX5_listLawful_142 rfl (fun _ w11 => ?_)
  exact sim_sub [1, 2, 3, 4, 5, 6, 7, 0] rfl (sf_X5_listLawful_145 hL hR hK168 v2 v3 v4 v5 v6 v7 s0 w11)
def f_X5_listLawful_133 (N : Nat) (R : Int32 → Int32 → Int32 → Int32 → Int32 → Wd → Option (Int32 × Wd)) (K168 : Int32 → Int32 → Wd → Option (Int32 × Wd)) (v2 : Int32) (v3 : Int32) (v4 : Int32) (v5 : Int32) (v6 : Int32) (v7 : Int32) (w : Wd) : Option (Int32 × Wd) :=
  f_X5_listLawful_134 N R K168 v2 v3 v4 v5 v6 v7 (0 : Int32) w
set_option maxRecDepth 20000 in
theorem sf_X5_listLawful_133 {E : Ev} (hL : LX E) {R : Int32 → Int32 → Int32 → Int32 → Int32 → Wd → Option (Int32 × Wd)} (hR : ∀ (v2 : Int32) (v3 : Int32) (v4 : Int32) (v5 : Int32) (v6 : Int32) (w : Wd), Sim E m_X5_listLawful rI 43 [(0, .ref (Ea E 27)), (2, .int v2), (3, .int v3), (4, .int v4), (5, .int v5), (6, .int v6)] [] w (R v2 v3 v4 v5 v6 w)) {K168 : Int32 → Int32 → Wd → Option (Int32 × Wd)} (hK168 : ∀ (v3 : Int32) (v5 : Int32) (w : Wd), Sim E m_X5_listLawful rI 168 [(3, .int v3), (5, .int v5)] [] w (K168 v3 v5 w)) (v2 : Int32) (v3 : Int32) (v4 : Int32) (v5 : Int32) (v6 : Int32) (v7 : Int32) (w : Wd) : Sim E m_X5_listLawful rI 133 [(0, .ref (Ea E 27)), (2, .int v2), (3, .int v3), (4, .int v4), (5, .int v5), (6, .int v6), (7, .int v7)] [] w (f_X5_listLawful_133 (En E) R K168 v2 v3 v4 v5 v6 v7 w) := by
  unfold f_X5_listLawful_133
  refine sim_iconst (0 : Int32) dX5_listLawful_133 rfl rfl ?_
  exact sim_sub [0, 1, 2, 3, 4, 5, 6] rfl (sf_X5_listLawful_134 hL hR hK168 v2 v3 v4 v5 v6 v7 (0 : Int32) w)
def f_X5_listLawful_85 (N : Nat) (R : Int32 → Int32 → Int32 → Int32 → Int32 → Wd → Option (Int32 × Wd)) (K168 : Int32 → Int32 → Wd → Option (Int32 × Wd)) (v2 : Int32) (v3 : Int32) (v4 : Int32) (v5 : Int32) (v6 : Int32) (v7 : Int32) (s0 : Int32) (w : Wd) : Option (Int32 × Wd) :=
  if s0 = (0 : Int32) then
  bd (f_X6_apply N v7 w) fun _ w8 =>
  bd (f_X6_inCheck N ((1 : Int32) - (w8.1 22 7)) w8) fun x9 w10 =>
  if x9 = (0 : Int32) then
  bd (f_X5_isForbiddenMate N v7 w10) fun x12 w13 =>
  if x12 = (0 : Int32) then
  f_X5_listLawful_134 N R K168 v2 v3 v4 v5 v6 v7 (1 : Int32) w13
  else
  f_X5_listLawful_133 N R K168 v2 v3 v4 v5 v6 v7 w13
  else
  f_X5_listLawful_133 N R K168 v2 v3 v4 v5 v6 v7 w10
  else
  f_X5_listLawful_145 N R K168 v2 v3 v4 v5 v6 v7 s0 w
set_option maxRecDepth 20000 in
theorem sf_X5_listLawful_85 {E : Ev} (hL : LX E) {R : Int32 → Int32 → Int32 → Int32 → Int32 → Wd → Option (Int32 × Wd)} (hR : ∀ (v2 : Int32) (v3 : Int32) (v4 : Int32) (v5 : Int32) (v6 : Int32) (w : Wd), Sim E m_X5_listLawful rI 43 [(0, .ref (Ea E 27)), (2, .int v2), (3, .int v3), (4, .int v4), (5, .int v5), (6, .int v6)] [] w (R v2 v3 v4 v5 v6 w)) {K168 : Int32 → Int32 → Wd → Option (Int32 × Wd)} (hK168 : ∀ (v3 : Int32) (v5 : Int32) (w : Wd), Sim E m_X5_listLawful rI 168 [(3, .int v3), (5, .int v5)] [] w (K168 v3 v5 w)) (v2 : Int32) (v3 : Int32) (v4 : Int32) (v5 : Int32) (v6 : Int32) (v7 : Int32) (s0 : Int32) (w : Wd) : Sim E m_X5_listLawful rI 85 [(0, .ref (Ea E 27)), (2, .int v2), (3, .int v3), (4, .int v4), (5, .int v5), (6, .int v6), (7, .int v7)] [.int s0] w (f_X5_listLawful_85 (En E) R K168 v2 v3 v4 v5 v6 v7 s0 w) := by
  unfold f_X5_listLawful_85
  refine sim_istore [(8, .int s0), (0, .ref (Ea E 27)), (2, .int v2), (3, .int v3), (4, .int v4), (5, .int v5), (6, .int v6), (7, .int v7)] dX5_listLawful_85 (Nat.le_of_ble_eq_true rfl) rfl rfl ?_
  refine sim_iload 0 dX5_listLawful_87 rfl rfl ?_
  refine sim_if_ne 145 dX5_listLawful_89 rfl rfl (fun _ => ?_) (fun _ => ?_)
  · exact sim_sub [1, 2, 3, 4, 5, 6, 7, 0] rfl (sf_X5_listLawful_145 hL hR hK168 v2 v3 v4 v5 v6 v7 s0 w)
  · refine sim_aload_n 1 dX5_listLawful_92 rfl rfl ?_
    refine sim_get (k := 27) (ci := 3) (j := 1) (v := .ref (Ea E 22)) (hL.1 27 rfl) rfl (by decide) fl_X5_13 rfl dX5_listLawful_93 rfl ?_
    refine sim_iload 7 dX5_listLawful_96 rfl rfl ?_
    refine sim_cVv (k := 22) (ci := 4) [.int v7] [] (c_X6_apply hL v7 w) (hL.1 22 rfl) rfl (by decide) rfl cb_X5_102 im_X6_apply se_X6_apply rfl rfl rfl (Nat.le_of_ble_eq_true rfl) dX5_listLawful_98 rfl (fun _ w8 => ?_)
    refine sim_aload_n 1 dX5_listLawful_101 rfl rfl ?_
    refine sim_get (k := 27) (ci := 3) (j := 1) (v := .ref (Ea E 22)) (hL.1 27 rfl) rfl (by decide) fl_X5_13 rfl dX5_listLawful_102 rfl ?_
    refine sim_iconst (1 : Int32) dX5_listLawful_105 rfl rfl ?_
    refine sim_aload_n 1 dX5_listLawful_106 rfl rfl ?_
    refine sim_get (k := 27) (ci := 3) (j := 1) (v := .ref (Ea E 22)) (hL.1 27 rfl) rfl (by decide) fl_X5_13 rfl dX5_listLawful_107 rfl ?_
    refine sim_get (k := 22) (ci := 4) (j := 7) (v := .int (w8.1 22 7)) (hL.1 22 rfl) rfl (by decide) fl_X5_30 rfl dX5_listLawful_110 rfl ?_
    refine sim_isub dX5_listLawful_113 rfl ?_
    refine sim_cVi (k := 22) (ci := 4) [.int ((1 : Int32) - (w8.1 22 7))] [] (c_X6_inCheck hL ((1 : Int32) - (w8.1 22 7)) w8) (hL.1 22 rfl) rfl (by decide) rfl cb_X5_90 im_X6_inCheck se_X6_inCheck rfl rfl rfl (Nat.le_of_ble_eq_true rfl) dX5_listLawful_114 rfl (fun x9 w10 => ?_)
    refine sim_if_ne 133 dX5_listLawful_117 rfl rfl (fun _ => ?_) (fun _ => ?_)
    · exact sim_sub [1, 2, 3, 4, 5, 6, 7] rfl (sf_X5_listLawful_133 hL hR hK168 v2 v3 v4 v5 v6 v7 w10)
    · refine sim_aload_n 1 dX5_listLawful_120 rfl rfl ?_
      refine sim_iload 7 dX5_listLawful_121 rfl rfl ?_
      refine sim_cVi (k := 27) (ci := 3) [.int v7] [] (c_X5_isForbiddenMate hL v7 w10) (hL.1 27 rfl) rfl (by decide) rfl cb_X5_106 im_X5_isForbiddenMate se_X5_isForbiddenMate rfl rfl rfl (Nat.le_of_ble_eq_true rfl) dX5_listLawful_123 rfl (fun x12 w13 => ?_)
      refine sim_if_ne 133 dX5_listLawful_126 rfl rfl (fun _ => ?_) (fun _ => ?_)
      · exact sim_sub [1, 2, 3, 4, 5, 6, 7] rfl (sf_X5_listLawful_133 hL hR hK168 v2 v3 v4 v5 v6 v7 w13)
      · refine sim_iconst (1 : Int32) dX5_listLawful_129 rfl rfl ?_
        refine sim_goto (q := 134) dX5_listLawful_130 rfl ?_
        exact sim_sub [1, 2, 3, 4, 5, 6, 7] rfl (sf_X5_listLawful_134 hL hR hK168 v2 v3 v4 v5 v6 v7 (1 : Int32) w13)
def f_X5_listLawful_84 (N : Nat) (R : Int32 → Int32 → Int32 → Int32 → Int32 → Wd → Option (Int32 × Wd)) (K168 : Int32 → Int32 → Wd → Option (Int32 × Wd)) (v2 : Int32) (v3 : Int32) (v4 : Int32) (v5 : Int32) (v6 : Int32) (v7 : Int32) (w : Wd) : Option (Int32 × Wd) :=
  f_X5_listLawful_85 N R K168 v2 v3 v4 v5 v6 v7 (0 : Int32) w
set_option maxRecDepth 20000 in
theorem sf_X5_listLawful_84 {E : Ev} (hL : LX E) {R : Int32 → Int32 → Int32 → Int32 → Int32 → Wd → Option (Int32 × Wd)} (hR : ∀ (v2 : Int32) (v3 : Int32) (v4 : Int32) (v5 : Int32) (v6 : Int32) (w : Wd), Sim E m_X5_listLawful rI 43 [(0, .ref (Ea E 27)), (2, .int v2), (3, .int v3), (4, .int v4), (5, .int v5), (6, .int v6)] [] w (R v2 v3 v4 v5 v6 w)) {K168 : Int32 → Int32 → Wd → Option (Int32 × Wd)} (hK168 : ∀ (v3 : Int32) (v5 : Int32) (w : Wd), Sim E m_X5_listLawful rI 168 [(3, .int v3), (5, .int v5)] [] w (K168 v3 v5 w)) (v2 : Int32) (v3 : Int32) (v4 : Int32) (v5 : Int32) (v6 : Int32) (v7 : Int32) (w : Wd) : Sim E m_X5_listLawful rI 84 [(0, .ref (Ea E 27)), (2, .int v2), (3, .int v3), (4, .int v4), (5, .int v5), (6, .int v6), (7, .int v7)] [] w (f_X5_listLawful_84 (En E) R K168 v2 v3 v4 v5 v6 v7 w) := by
  unfold f_X5_listLawful_84
  refine sim_iconst (0 : Int32) dX5_listLawful_84 rfl rfl ?_
  exact sim_sub [0, 1, 2, 3, 4, 5, 6] rfl (sf_X5_listLawful_85 hL hR hK168 v2 v3 v4 v5 v6 v7 (0 : Int32) w)
def b_X5_listLawful_43 (N : Nat) (R : Int32 → Int32 → Int32 → Int32 → Int32 → Wd → Option (Int32 × Wd)) (K168 : Int32 → Int32 → Wd → Option (Int32 × Wd)) (v2 : Int32) (v3 : Int32) (v4 : Int32) (v5 : Int32) (v6 : Int32) (w : Wd) : Option (Int32 × Wd) :=
  if v4 ≤ v6 then
  K168 v3 v5 w
  else
  if inb v6 (270 * (N * N)) = true then
  lt (w.1 28 (Int32.toNatClampNeg v6)) fun x6 =>
  if v2 = (0 : Int32) then
  f_X5_listLawful_84 N R K168 v2 v3 v4 v5 v6 x6 w
  else
  bd (f_X3_isSetting x6 w) fun x14 w15 =>
  if x14 = (0 : Int32) then
  f_X5_listLawful_84 N R K168 v2 v3 v4 v5 v6 x6 w15
  else
  bd (f_X5_hasSecondMark N x6 w15) fun x16 w17 =>
  if x16 = (0 : Int32) then
  f_X5_listLawful_85 N R K168 v2 v3 v4 v5 v6 x6 (1 : Int32) w17
  else
  f_X5_listLawful_84 N R K168 v2 v3 v4 v5 v6 x6 w17
  else none
set_option maxRecDepth 20000 in
theorem sb_X5_listLawful_43 {E : Ev} (hL : LX E) {R : Int32 → Int32 → Int32 → Int32 → Int32 → Wd → Option (Int32 × Wd)} (hR : ∀ (v2 : Int32) (v3 : Int32) (v4 : Int32) (v5 : Int32) (v6 : Int32) (w : Wd), Sim E m_X5_listLawful rI 43 [(0, .ref (Ea E 27)), (2, .int v2), (3, .int v3), (4, .int v4), (5, .int v5), (6, .int v6)] [] w (R v2 v3 v4 v5 v6 w)) {K168 : Int32 → Int32 → Wd → Option (Int32 × Wd)} (hK168 : ∀ (v3 : Int32) (v5 : Int32) (w : Wd), Sim E m_X5_listLawful rI 168 [(3, .int v3), (5, .int v5)] [] w (K168 v3 v5 w)) (v2 : Int32) (v3 : Int32) (v4 : Int32) (v5 : Int32) (v6 : Int32) (w : Wd) : Sim E m_X5_listLawful rI 43 [(0, .ref (Ea E 27)), (2, .int v2), (3, .int v3), (4, .int v4), (5, .int v5), (6, .int v6)] [] w (b_X5_listLawful_43 (En E) R K168 v2 v3 v4 v5 v6 w) := by
  unfold b_X5_listLawful_43
  refine sim_iload 5 dX5_listLawful_43 rfl rfl ?_
  refine sim_iload 3 dX5_listLawful_45 rfl rfl ?_
  refine sim_icmp_ge 168 dX5_listLawful_47 rfl rfl (fun _ => ?_) (fun _ => ?_)
  · exact sim_sub [2, 4] rfl (hK168 v3 v5 w)
  · refine sim_aload_n 0 dX5_listLawful_50 rfl rfl ?_
    refine sim_get (k := 27) (ci := 3) (j := 3) (v := .ref (Ea E 28)) (hL.1 27 rfl) rfl (by decide) fl_X5_26 rfl dX5_listLawful_51 rfl ?_
    refine sim_iload 5 dX5_listLawful_54 rfl rfl ?_
    refine sim_iaload (k := 28) (hL.1 28 rfl) rfl rfl dX5_listLawful_56 rfl ?_
    refine sim_lt (fun x6 => ?_)
    refine sim_istore [(7, .int x6), (0, .ref (Ea E 27)), (2, .int v2), (3, .int v3), (4, .int v4), (5, .int v5), (6, .int v6)] dX5_listLawful_57 (Nat.le_of_ble_eq_true rfl) rfl rfl ?_
    refine sim_iload_n 2 dX5_listLawful_59 rfl rfl ?_
    refine sim_if_eq 84 dX5_listLawful_60 rfl rfl (fun _ => ?_) (fun _ => ?_)
    · exact sim_sub [1, 2, 3, 4, 5, 6, 0] rfl (sf_X5_listLawful_84 hL hR hK168 v2 v3 v4 v5 v6 x6 w)
    · refine sim_iload 0 dX5_listLawful_63 rfl rfl ?_
      refine sim_cSi [.int x6] [] (c_X3_isSetting x6 w) cb_X5_96 sx_X3_isSetting rfl rfl rfl (Nat.le_of_ble_eq_true rfl) dX5_listLawful_65 rfl (fun x14 w15 => ?_)
      refine sim_if_eq 84 dX5_listLawful_68 rfl rfl (fun _ => ?_) (fun _ => ?_)
      · exact sim_sub [1, 2, 3, 4, 5, 6, 0] rfl (sf_X5_listLawful_84 hL hR hK168 v2 v3 v4 v5 v6 x6 w15)
      · refine sim_aload_n 1 dX5_listLawful_71 rfl rfl ?_
        refine sim_iload 0 dX5_listLawful_72 rfl rfl ?_
        refine sim_cVi (k := 27) (ci := 3) [.int x6] [] (c_X5_hasSecondMark hL x6 w15) (hL.1 27 rfl) rfl (by decide) rfl cb_X5_99 im_X5_hasSecondMark se_X5_hasSecondMark rfl rfl rfl (Nat.le_of_ble_eq_true rfl) dX5_listLawful_74 rfl (fun x16 w17 => ?_)
        refine sim_if_ne 84 dX5_listLawful_77 rfl rfl (fun _ => ?_) (fun _ => ?_)
        · exact sim_sub [1, 2, 3, 4, 5, 6, 0] rfl (sf_X5_listLawful_84 hL hR hK168 v2 v3 v4 v5 v6 x6 w17)
        · refine sim_iconst (1 : Int32) dX5_listLawful_80 rfl rfl ?_
          refine sim_goto (q := 85) dX5_listLawful_81 rfl ?_
          exact sim_sub [1, 2, 3, 4, 5, 6, 0] rfl (sf_X5_listLawful_85 hL hR hK168 v2 v3 v4 v5 v6 x6 (1 : Int32) w17)
def l_X5_listLawful_43 (N : Nat) (K168 : Int32 → Int32 → Wd → Option (Int32 × Wd)) (n : Nat) : Int32 → Int32 → Int32 → Int32 → Int32 → Wd → Option (Int32 × Wd) := itr (fun _ _ _ _ _ _ => none) (fun R => b_X5_listLawful_43 N R K168) n
set_option maxRecDepth 20000 in
theorem sl_X5_listLawful_43 {E : Ev} (hL : LX E) {K168 : Int32 → Int32 → Wd → Option (Int32 × Wd)} (hK168 : ∀ (v3 : Int32) (v5 : Int32) (w : Wd), Sim E m_X5_listLawful rI 168 [(3, .int v3), (5, .int v5)] [] w (K168 v3 v5 w)) : ∀ (n : Nat) (v2 : Int32) (v3 : Int32) (v4 : Int32) (v5 : Int32) (v6 : Int32) (w : Wd), Sim E m_X5_listLawful rI 43 [(0, .ref (Ea E 27)), (2, .int v2), (3, .int v3), (4, .int v4), (5, .int v5), (6, .int v6)] [] w (l_X5_listLawful_43 (En E) K168 n v2 v3 v4 v5 v6 w) := by
  intro n
  induction n with
  | zero => intros; exact sim_none
  | succ n ih => intros; exact sb_X5_listLawful_43 hL (R := l_X5_listLawful_43 (En E) K168 n) ih hK168 _ _ _ _ _ _
def f_X5_listLawful_168 (N : Nat) (v3 : Int32) (v5 : Int32) (w : Wd) : Option (Int32 × Wd) :=
  some ((v5 - v3), w)
set_option maxRecDepth 20000 in
theorem sf_X5_listLawful_168 {E : Ev} (hL : LX E) (v3 : Int32) (v5 : Int32) (w : Wd) : Sim E m_X5_listLawful rI 168 [(3, .int v3), (5, .int v5)] [] w (f_X5_listLawful_168 (En E) v3 v5 w) := by
  unfold f_X5_listLawful_168
  refine sim_iload 1 dX5_listLawful_168 rfl rfl ?_
  refine sim_iload_n 0 dX5_listLawful_170 rfl rfl ?_
  refine sim_isub dX5_listLawful_171 rfl ?_
  exact sim_iret rfl dX5_listLawful_172
def f_X5_listLawful_22 (N : Nat) (v1 : Int32) (s0 : Int32) (w : Wd) : Option (Int32 × Wd) :=
  lt (v1 * (w.1 27 2)) fun x3 =>
  bd (f_X5_fill N v1 w) fun x4 w5 =>
  l_X5_listLawful_43 N (f_X5_listLawful_168 N) FU s0 x3 x4 x3 x3 w5
set_option maxRecDepth 20000 in
theorem sf_X5_listLawful_22 {E : Ev} (hL : LX E) (v1 : Int32) (s0 : Int32) (w : Wd) : Sim E m_X5_listLawful rI 22 [(0, .ref (Ea E 27)), (1, .int v1)] [.int s0] w (f_X5_listLawful_22 (En E) v1 s0 w) := by
  unfold f_X5_listLawful_22
  refine sim_istore_n [(2, .int s0), (0, .ref (Ea E 27)), (1, .int v1)] dX5_listLawful_22 (Nat.le_of_ble_eq_true rfl) rfl rfl ?_
  refine sim_iload_n 2 dX5_listLawful_23 rfl rfl ?_
  refine sim_aload_n 1 dX5_listLawful_24 rfl rfl ?_
  refine sim_get (k := 27) (ci := 3) (j := 2) (v := .int (w.1 27 2)) (hL.1 27 rfl) rfl (by decide) fl_X5_23 rfl dX5_listLawful_25 rfl ?_
  refine sim_imul dX5_listLawful_28 rfl ?_
  refine sim_lt (fun x3 => ?_)
  refine sim_istore_n [(3, .int x3), (2, .int s0), (0, .ref (Ea E 27)), (1, .int v1)] dX5_listLawful_29 (Nat.le_of_ble_eq_true rfl) rfl rfl ?_
  refine sim_aload_n 2 dX5_listLawful_30 rfl rfl ?_
  refine sim_iload_n 3 dX5_listLawful_31 rfl rfl ?_
  refine sim_cVi (k := 27) (ci := 3) [.int v1] [] (c_X5_fill hL v1 w) (hL.1 27 rfl) rfl (by decide) rfl cb_X5_93 im_X5_fill se_X5_fill rfl rfl rfl (Nat.le_of_ble_eq_true rfl) dX5_listLawful_32 rfl (fun x4 w5 => ?_)
  refine sim_istore [(4, .int x4), (3, .int x3), (2, .int s0), (0, .ref (Ea E 27)), (1, .int v1)] dX5_listLawful_35 (Nat.le_of_ble_eq_true rfl) rfl rfl ?_
  refine sim_iload_n 1 dX5_listLawful_37 rfl rfl ?_
  refine sim_istore [(5, .int x3), (4, .int x4), (3, .int x3), (2, .int s0), (0, .ref (Ea E 27)), (1, .int v1)] dX5_listLawful_38 (Nat.le_of_ble_eq_true rfl) rfl rfl ?_
  refine sim_iload_n 2 dX5_listLawful_40 rfl rfl ?_
  refine sim_istore [(6, .int x3), (5, .int x3), (4, .int x4), (3, .int x3), (2, .int s0), (0, .ref (Ea E 27)), (1, .int v1)] dX5_listLawful_41 (Nat.le_of_ble_eq_true rfl) rfl rfl ?_
  exact sim_sub [5, 4, 3, 2, 1, 0] rfl (sl_X5_listLawful_43 hL (sf_X5_listLawful_168 hL) FU s0 x3 x4 x3 x3 w5)
def f_X5_listLawful (N : Nat) (v1 : Int32) (w : Wd) : Option (Int32 × Wd) :=
  bd (f_X6_inCheck N (w.1 22 7) w) fun x1 w2 =>
  if x1 = (0 : Int32) then
  f_X5_listLawful_22 N v1 (1 : Int32) w2
  else
  f_X5_listLawful_22 N v1 (0 : Int32) w2
set_option maxRecDepth 20000 in
theorem c_X5_listLawful {E : Ev} (hL : LX E) (v1 : Int32) (w : Wd) : Ct E m_X5_listLawful yX5_listLawful rI [.ref (Ea E 27), .int v1] w (f_X5_listLawful (En E) v1 w) := by
  refine Ct.of (by decide) ⟨rfl, rfl⟩ (Nat.le_of_ble_eq_true rfl) ?_
  show Sim E m_X5_listLawful rI 0 [(0, .ref (Ea E 27)), (1, .int v1)] [] w (f_X5_listLawful (En E) v1 w)
  unfold f_X5_listLawful
  refine sim_aload_n 0 dX5_listLawful_0 rfl rfl ?_
  refine sim_get (k := 27) (ci := 3) (j := 1) (v := .ref (Ea E 22)) (hL.1 27 rfl) rfl (by decide) fl_X5_13 rfl dX5_listLawful_1 rfl ?_
  refine sim_aload_n 0 dX5_listLawful_4 rfl rfl ?_
  refine sim_get (k := 27) (ci := 3) (j := 1) (v := .ref (Ea E 22)) (hL.1 27 rfl) rfl (by decide) fl_X5_13 rfl dX5_listLawful_5 rfl ?_
  refine sim_get (k := 22) (ci := 4) (j := 7) (v := .int (w.1 22 7)) (hL.1 22 rfl) rfl (by decide) fl_X5_30 rfl dX5_listLawful_8 rfl ?_
  refine sim_cVi (k := 22) (ci := 4) [.int (w.1 22 7)] [] (c_X6_inCheck hL (w.1 22 7) w) (hL.1 22 rfl) rfl (by decide) rfl cb_X5_90 im_X6_inCheck se_X6_inCheck rfl rfl rfl (Nat.le_of_ble_eq_true rfl) dX5_listLawful_11 rfl (fun x1 w2 => ?_)
  refine sim_if_ne 21 dX5_listLawful_14 rfl rfl (fun _ => ?_) (fun _ => ?_)
  · refine sim_iconst (0 : Int32) dX5_listLawful_21 rfl rfl ?_
    exact sim_sub [0, 1] rfl (sf_X5_listLawful_22 hL v1 (0 : Int32) w2)
  · refine sim_iconst (1 : Int32) dX5_listLawful_17 rfl rfl ?_
    refine sim_goto (q := 22) dX5_listLawful_18 rfl ?_
    exact sim_sub [0, 1] rfl (sf_X5_listLawful_22 hL v1 (1 : Int32) w2)
def b_X0_answersIn_18 (N : Nat) (R : Int32 → Int32 → Int32 → Wd → Option (Int32 × Wd)) (K44 : Int32 → Wd → Option (Int32 × Wd)) (v2 : Int32) (v3 : Int32) (v4 : Int32) (w : Wd) : Option (Int32 × Wd) :=
  if v3 ≤ v4 then
  K44 v2 w
  else
  if inb v4 1000 = true then
  lt (v4 + ((1 : Int32) + (w.1 32 (Int32.toNatClampNeg v4)))) fun x3 =>
  R (v2 + (1 : Int32)) v3 x3 w
  else none
set_option maxRecDepth 20000 in
theorem sb_X0_answersIn_18 {E : Ev} (hL : LX E) {R : Int32 → Int32 → Int32 → Wd → Option (Int32 × Wd)} (hR : ∀ (v2 : Int32) (v3 : Int32) (v4 : Int32) (w : Wd), Sim E m_X0_answersIn rI 18 [(0, .ref (Ea E 29)), (2, .int v2), (3, .int v3), (4, .int v4)] [] w (R v2 v3 v4 w)) {K44 : Int32 → Wd → Option (Int32 × Wd)} (hK44 : ∀ (v2 : Int32) (w : Wd), Sim E m_X0_answersIn rI 44 [(2, .int v2)] [] w (K44 v2 w)) (v2 : Int32) (v3 : Int32) (v4 : Int32) (w : Wd) : Sim E m_X0_answersIn rI 18 [(0, .ref (Ea E 29)), (2, .int v2), (3, .int v3), (4, .int v4)] [] w (b_X0_answersIn_18 (En E) R K44 v2 v3 v4 w) := by
  unfold b_X0_answersIn_18
  refine sim_iload 3 dX0_answersIn_18 rfl rfl ?_
  refine sim_iload_n 2 dX0_answersIn_20 rfl rfl ?_
  refine sim_icmp_ge 44 dX0_answersIn_21 rfl rfl (fun _ => ?_) (fun _ => ?_)
  · exact sim_sub [1] rfl (hK44 v2 w)
  · refine sim_iinc (v2 + (1 : Int32)) 1 [(2, .int (v2 + (1 : Int32))), (0, .ref (Ea E 29)), (3, .int v3), (4, .int v4)] dX0_answersIn_24 rfl rfl (Nat.le_of_ble_eq_true rfl) rfl rfl ?_
    refine sim_iload 3 dX0_answersIn_27 rfl rfl ?_
    refine sim_iconst (1 : Int32) dX0_answersIn_29 rfl rfl ?_
    refine sim_aload_n 1 dX0_answersIn_30 rfl rfl ?_
    refine sim_get (k := 29) (ci := 0) (j := 4) (v := .ref (Ea E 32)) (hL.1 29 rfl) rfl (by decide) fl_X0_18 rfl dX0_answersIn_31 rfl ?_
    refine sim_iload 3 dX0_answersIn_34 rfl rfl ?_
    refine sim_iaload (k := 32) (hL.1 32 rfl) rfl rfl dX0_answersIn_36 rfl ?_
    refine sim_iadd dX0_answersIn_37 rfl ?_
    refine sim_iadd dX0_answersIn_38 rfl ?_
    refine sim_lt (fun x3 => ?_)
    refine sim_istore [(4, .int x3), (2, .int (v2 + (1 : Int32))), (0, .ref (Ea E 29)), (3, .int v3)] dX0_answersIn_39 (Nat.le_of_ble_eq_true rfl) rfl rfl ?_
    refine sim_goto (q := 18) dX0_answersIn_41 rfl ?_
    exact sim_sub [2, 1, 3, 0] rfl (hR (v2 + (1 : Int32)) v3 x3 w)
def l_X0_answersIn_18 (N : Nat) (K44 : Int32 → Wd → Option (Int32 × Wd)) (n : Nat) : Int32 → Int32 → Int32 → Wd → Option (Int32 × Wd) := itr (fun _ _ _ _ => none) (fun R => b_X0_answersIn_18 N R K44) n
set_option maxRecDepth 20000 in
theorem sl_X0_answersIn_18 {E : Ev} (hL : LX E) {K44 : Int32 → Wd → Option (Int32 × Wd)} (hK44 : ∀ (v2 : Int32) (w : Wd), Sim E m_X0_answersIn rI 44 [(2, .int v2)] [] w (K44 v2 w)) : ∀ (n : Nat) (v2 : Int32) (v3 : Int32) (v4 : Int32) (w : Wd), Sim E m_X0_answersIn rI 18 [(0, .ref (Ea E 29)), (2, .int v2), (3, .int v3), (4, .int v4)] [] w (l_X0_answersIn_18 (En E) K44 n v2 v3 v4 w) := by
  intro n
  induction n with
  | zero => intros; exact sim_none
  | succ n ih => intros; exact sb_X0_answersIn_18 hL (R := l_X0_answersIn_18 (En E) K44 n) ih hK44 _ _ _ _
def f_X0_answersIn_44 (N : Nat) (v2 : Int32) (w : Wd) : Option (Int32 × Wd) :=
  some (v2, w)
set_option maxRecDepth 20000 in
theorem sf_X0_answersIn_44 {E : Ev} (hL : LX E) (v2 : Int32) (w : Wd) : Sim E m_X0_answersIn rI 44 [(2, .int v2)] [] w (f_X0_answersIn_44 (En E) v2 w) := by
  unfold f_X0_answersIn_44
  refine sim_iload_n 0 dX0_answersIn_44 rfl rfl ?_
  exact sim_iret rfl dX0_answersIn_45
def f_X0_answersIn (N : Nat) (v1 : Int32) (w : Wd) : Option (Int32 × Wd) :=
  if inb v1 1000 = true then
  lt ((v1 + (1 : Int32)) + (w.1 32 (Int32.toNatClampNeg v1))) fun x1 =>
  lt (v1 + (1 : Int32)) fun x2 =>
  l_X0_answersIn_18 N (f_X0_answersIn_44 N) FU (0 : Int32) x1 x2 w
  else none
set_option maxRecDepth 20000 in
theorem c_X0_answersIn {E : Ev} (hL : LX E) (v1 : Int32) (w : Wd) : Ct E m_X0_answersIn yX0_answersIn rI [.ref (Ea E 29), .int v1] w (f_X0_answersIn (En E) v1 w) := by
  refine Ct.of (by decide) ⟨rfl, rfl⟩ (Nat.le_of_ble_eq_true rfl) ?_
  show Sim E m_X0_answersIn rI 0 [(0, .ref (Ea E 29)), (1, .int v1)] [] w (f_X0_answersIn (En E) v1 w)
  unfold f_X0_answersIn
  refine sim_iconst (0 : Int32) dX0_answersIn_0 rfl rfl ?_
  refine sim_istore_n [(2, .int (0 : Int32)), (0, .ref (Ea E 29)), (1, .int v1)] dX0_answersIn_1 (Nat.le_of_ble_eq_true rfl) rfl rfl ?_
  refine sim_iload_n 2 dX0_answersIn_2 rfl rfl ?_
  refine sim_iconst (1 : Int32) dX0_answersIn_3 rfl rfl ?_
  refine sim_iadd dX0_answersIn_4 rfl ?_
  refine sim_aload_n 1 dX0_answersIn_5 rfl rfl ?_
  refine sim_get (k := 29) (ci := 0) (j := 4) (v := .ref (Ea E 32)) (hL.1 29 rfl) rfl (by decide) fl_X0_18 rfl dX0_answersIn_6 rfl ?_
  refine sim_iload_n 2 dX0_answersIn_9 rfl rfl ?_
  refine sim_iaload (k := 32) (hL.1 32 rfl) rfl rfl dX0_answersIn_10 rfl ?_
  refine sim_iadd dX0_answersIn_11 rfl ?_
  refine sim_lt (fun x1 => ?_)
  refine sim_istore_n [(3, .int x1), (2, .int (0 : Int32)), (0, .ref (Ea E 29)), (1, .int v1)] dX0_answersIn_12 (Nat.le_of_ble_eq_true rfl) rfl rfl ?_
  refine sim_iload_n 3 dX0_answersIn_13 rfl rfl ?_
  refine sim_iconst (1 : Int32) dX0_answersIn_14 rfl rfl ?_
  refine sim_iadd dX0_answersIn_15 rfl ?_
  refine sim_lt (fun x2 => ?_)
  refine sim_istore [(4, .int x2), (3, .int x1), (2, .int (0 : Int32)), (0, .ref (Ea E 29)), (1, .int v1)] dX0_answersIn_16 (Nat.le_of_ble_eq_true rfl) rfl rfl ?_
  exact sim_sub [3, 2, 1, 0] rfl (sl_X0_answersIn_18 hL (sf_X0_answersIn_44 hL) FU (0 : Int32) x1 x2 w)
def f_X5_listed (N : Nat) (v1 : Int32) (v2 : Int32) (w : Wd) : Option (Int32 × Wd) :=
  if inb ((v1 * (w.1 27 2)) + v2) (270 * (N * N)) = true then
  some ((w.1 28 (Int32.toNatClampNeg ((v1 * (w.1 27 2)) + v2))), w)
  else none
set_option maxRecDepth 20000 in
theorem c_X5_listed {E : Ev} (hL : LX E) (v1 : Int32) (v2 : Int32) (w : Wd) : Ct E m_X5_listed yX5_listed rI [.ref (Ea E 27), .int v1, .int v2] w (f_X5_listed (En E) v1 v2 w) := by
  refine Ct.of (by decide) ⟨rfl, rfl⟩ (Nat.le_of_ble_eq_true rfl) ?_
  show Sim E m_X5_listed rI 0 [(0, .ref (Ea E 27)), (1, .int v1), (2, .int v2)] [] w (f_X5_listed (En E) v1 v2 w)
  unfold f_X5_listed
  refine sim_aload_n 0 dX5_listed_0 rfl rfl ?_
  refine sim_get (k := 27) (ci := 3) (j := 3) (v := .ref (Ea E 28)) (hL.1 27 rfl) rfl (by decide) fl_X5_26 rfl dX5_listed_1 rfl ?_
  refine sim_iload_n 1 dX5_listed_4 rfl rfl ?_
  refine sim_aload_n 0 dX5_listed_5 rfl rfl ?_
  refine sim_get (k := 27) (ci := 3) (j := 2) (v := .int (w.1 27 2)) (hL.1 27 rfl) rfl (by decide) fl_X5_23 rfl dX5_listed_6 rfl ?_
  refine sim_imul dX5_listed_9 rfl ?_
  refine sim_iload_n 2 dX5_listed_10 rfl rfl ?_
  refine sim_iadd dX5_listed_11 rfl ?_
  refine sim_iaload (k := 28) (hL.1 28 rfl) rfl rfl dX5_listed_12 rfl ?_
  exact sim_iret rfl dX5_listed_13
def b_X0_faultInAnswers_30 (N : Nat) (Q : Int32 → Int32 → Wd → Option (Int32 × Wd)) (R : Int32 → Int32 → Int32 → Int32 → Wd → Option (Int32 × Wd)) (K63 : Int32 → Wd → Option (Int32 × Wd)) (K104 : Int32 → Wd → Option (Int32 × Wd)) (K127 : Wd → Option (Int32 × Wd)) (v2 : Int32) (v3 : Int32) (v4 : Int32) (v5 : Int32) (w : Wd) : Option (Int32 × Wd) :=
  if v3 ≤ v5 then
  K127 w
  else
  bd (f_X5_listed N v2 v5 w) fun x6 w7 =>
  if inb v4 1000 = true then
  if (w7.1 30 (Int32.toNatClampNeg v4)) = (x6 &&& (65535 : Int32)) then
  bd (f_X6_apply N x6 w7) fun _ w8 =>
  bd (Q (v4 + (1 : Int32)) (v2 + (1 : Int32)) w8) fun x9 w10 =>
  bd (f_X6_revert N x6 w10) fun _ w11 =>
  if x9 = (0 : Int32) then
  if inb v4 1000 = true then
  lt (v4 + ((1 : Int32) + (w11.1 32 (Int32.toNatClampNeg v4)))) fun x12 =>
  R v2 v3 x12 (v5 + (1 : Int32)) w11
  else none
  else
  K104 x9 w11
  else
  K63 v4 w7
  else none
set_option maxRecDepth 20000 in
theorem sb_X0_faultInAnswers_30 {E : Ev} (hL : LX E) {d dq : Nat} (hB : BASE_X0_faultInAnswers ≤ d) (hq : dq + 1 ≤ d) {Q : Int32 → Int32 → Wd → Option (Int32 × Wd)} (hQ : ∀ (v1 v2 : Int32) (w : Wd), Ct E (m_X0_firstFault dq) yX0_firstFault rI [.ref (Ea E 29), .int v1, .int v2] w (Q v1 v2 w)) {R : Int32 → Int32 → Int32 → Int32 → Wd → Option (Int32 × Wd)} (hR : ∀ (v2 : Int32) (v3 : Int32) (v4 : Int32) (v5 : Int32) (w : Wd), Sim E (m_X0_faultInAnswers d) rI 30 [(0, .ref (Ea E 29)), (2, .int v2), (3, .int v3), (4, .int v4), (5, .int v5)] [] w (R v2 v3 v4 v5 w)) {K63 : Int32 → Wd → Option (Int32 × Wd)} (hK63 : ∀ (v4 : Int32) (w : Wd), Sim E (m_X0_faultInAnswers d) rI 63 [(4, .int v4)] [] w (K63 v4 w)) {K104 : Int32 → Wd → Option (Int32 × Wd)} (hK104 : ∀ (v7 : Int32) (w : Wd), Sim E (m_X0_faultInAnswers d) rI 104 [(7, .int v7)] [] w (K104 v7 w)) {K127 : Wd → Option (Int32 × Wd)} (hK127 : ∀ (w : Wd), Sim E (m_X0_faultInAnswers d) rI 127 [] [] w (K127  w)) (v2 : Int32) (v3 : Int32) (v4 : Int32) (v5 : Int32) (w : Wd) : Sim E (m_X0_faultInAnswers d) rI 30 [(0, .ref (Ea E 29)), (2, .int v2), (3, .int v3), (4, .int v4), (5, .int v5)] [] w (b_X0_faultInAnswers_30 (En E) Q R K63 K104 K127 v2 v3 v4 v5 w) := by
  unfold b_X0_faultInAnswers_30
  refine sim_iload 4 dX0_faultInAnswers_30 rfl rfl ?_
  refine sim_iload_n 2 dX0_faultInAnswers_32 rfl rfl ?_
  refine sim_icmp_ge 127 dX0_faultInAnswers_33 rfl rfl (fun _ => ?_) (fun _ => ?_)
  · exact sim_sub [] rfl (hK127 w)
  · refine sim_aload_n 0 dX0_faultInAnswers_36 rfl rfl ?_
    refine sim_get (k := 29) (ci := 0) (j := 0) (v := .ref (Ea E 27)) (hL.1 29 rfl) rfl (by decide) fl_X0_25 rfl dX0_faultInAnswers_37 rfl ?_
    refine sim_iload_n 1 dX0_faultInAnswers_40 rfl rfl ?_
    refine sim_iload 4 dX0_faultInAnswers_41 rfl rfl ?_
    refine sim_cVi (k := 27) (ci := 3) [.int v2, .int v5] [] (c_X5_listed hL v2 v5 w) (hL.1 27 rfl) rfl (by decide) rfl cb_X0_104 im_X5_listed se_X5_listed rfl (DD_le hB rfl rfl) rfl (Nat.le_of_ble_eq_true rfl) dX0_faultInAnswers_43 rfl (fun x6 w7 => ?_)
    refine sim_istore [(6, .int x6), (0, .ref (Ea E 29)), (2, .int v2), (3, .int v3), (4, .int v4), (5, .int v5)] dX0_faultInAnswers_46 (Nat.le_of_ble_eq_true rfl) rfl rfl ?_
    refine sim_aload_n 1 dX0_faultInAnswers_48 rfl rfl ?_
    refine sim_get (k := 29) (ci := 0) (j := 2) (v := .ref (Ea E 30)) (hL.1 29 rfl) rfl (by decide) fl_X0_9 rfl dX0_faultInAnswers_49 rfl ?_
    refine sim_iload 4 dX0_faultInAnswers_52 rfl rfl ?_
    refine sim_iaload (k := 30) (hL.1 30 rfl) rfl rfl dX0_faultInAnswers_54 rfl ?_
    refine sim_iload 0 dX0_faultInAnswers_55 rfl rfl ?_
    refine sim_ldc (65535 : Int32) dX0_faultInAnswers_57 k_X0_88 rfl ?_
    refine sim_iand dX0_faultInAnswers_59 rfl ?_
    refine sim_icmp_eq 68 dX0_faultInAnswers_60 rfl rfl (fun _ => ?_) (fun _ => ?_)
    · refine sim_aload_n 1 dX0_faultInAnswers_68 rfl rfl ?_
      refine sim_get (k := 29) (ci := 0) (j := 1) (v := .ref (Ea E 22)) (hL.1 29 rfl) rfl (by decide) fl_X0_29 rfl dX0_faultInAnswers_69 rfl ?_
      refine sim_iload 0 dX0_faultInAnswers_72 rfl rfl ?_
      refine sim_cVv (k := 22) (ci := 4) [.int x6] [] (c_X6_apply hL x6 w7) (hL.1 22 rfl) rfl (by decide) rfl cb_X0_55 im_X6_apply se_X6_apply rfl (DD_le hB rfl rfl) rfl (Nat.le_of_ble_eq_true rfl) dX0_faultInAnswers_74 rfl (fun _ w8 => ?_)
      refine sim_aload_n 1 dX0_faultInAnswers_77 rfl rfl ?_
      refine sim_iload 4 dX0_faultInAnswers_78 rfl rfl ?_
      refine sim_iconst (1 : Int32) dX0_faultInAnswers_80 rfl rfl ?_
      refine sim_iadd dX0_faultInAnswers_81 rfl ?_
      refine sim_iload_n 2 dX0_faultInAnswers_82 rfl rfl ?_
      refine sim_iconst (1 : Int32) dX0_faultInAnswers_83 rfl rfl ?_
      refine sim_iadd dX0_faultInAnswers_84 rfl ?_
      refine sim_cVi (k := 29) (ci := 0) [.int (v4 + (1 : Int32)), .int (v2 + (1 : Int32))] [] (hQ (v4 + (1 : Int32)) (v2 + (1 : Int32)) w8) (hL.1 29 rfl) rfl (by decide) rfl (cb_X0_107 _) im_X0_firstFault se_X0_firstFault rfl (DD_q hq rfl) rfl (Nat.le_of_ble_eq_true rfl) dX0_faultInAnswers_85 rfl (fun x9 w10 => ?_)
      refine sim_istore [(7, .int x9), (6, .int x6), (0, .ref (Ea E 29)), (2, .int v2), (3, .int v3), (4, .int v4), (5, .int v5)] dX0_faultInAnswers_88 (Nat.le_of_ble_eq_true rfl) rfl rfl ?_
      refine sim_aload_n 2 dX0_faultInAnswers_90 rfl rfl ?_
      refine sim_get (k := 29) (ci := 0) (j := 1) (v := .ref (Ea E 22)) (hL.1 29 rfl) rfl (by decide) fl_X0_29 rfl dX0_faultInAnswers_91 rfl ?_
      refine sim_iload 1 dX0_faultInAnswers_94 rfl rfl ?_
      refine sim_cVv (k := 22) (ci := 4) [.int x6] [] (c_X6_revert hL x6 w10) (hL.1 22 rfl) rfl (by decide) rfl cb_X0_75 im_X6_revert se_X6_revert rfl (DD_le hB rfl rfl) rfl (Nat.le_of_ble_eq_true rfl) dX0_faultInAnswers_96 rfl (fun _ w11 => ?_)
      refine sim_iload 0 dX0_faultInAnswers_99 rfl rfl ?_
      refine sim_if_eq 107 dX0_faultInAnswers_101 rfl rfl (fun _ => ?_) (fun _ => ?_)
      · refine sim_iload 5 dX0_faultInAnswers_107 rfl rfl ?_
        refine sim_iconst (1 : Int32) dX0_faultInAnswers_109 rfl rfl ?_
        refine sim_aload_n 2 dX0_faultInAnswers_110 rfl rfl ?_
        refine sim_get (k := 29) (ci := 0) (j := 4) (v := .ref (Ea E 32)) (hL.1 29 rfl) rfl (by decide) fl_X0_18 rfl dX0_faultInAnswers_111 rfl ?_
        refine sim_iload 5 dX0_faultInAnswers_114 rfl rfl ?_
        refine sim_iaload (k := 32) (hL.1 32 rfl) rfl rfl dX0_faultInAnswers_116 rfl ?_
        refine sim_iadd dX0_faultInAnswers_117 rfl ?_
        refine sim_iadd dX0_faultInAnswers_118 rfl ?_
        refine sim_lt (fun x12 => ?_)
        refine sim_istore [(4, .int x12), (7, .int x9), (6, .int x6), (0, .ref (Ea E 29)), (2, .int v2), (3, .int v3), (5, .int v5)] dX0_faultInAnswers_119 (Nat.le_of_ble_eq_true rfl) rfl rfl ?_
        refine sim_iinc (v5 + (1 : Int32)) 6 [(5, .int (v5 + (1 : Int32))), (4, .int x12), (7, .int x9), (6, .int x6), (0, .ref (Ea E 29)), (2, .int v2), (3, .int v3)] dX0_faultInAnswers_121 rfl rfl (Nat.le_of_ble_eq_true rfl) rfl rfl ?_
        refine sim_goto (q := 30) dX0_faultInAnswers_124 rfl ?_
        exact sim_sub [4, 5, 6, 1, 0] rfl (hR v2 v3 x12 (v5 + (1 : Int32)) w11)
      · exact sim_sub [0] rfl (hK104 x9 w11)
    · exact sim_sub [4] rfl (hK63 v4 w7)
def l_X0_faultInAnswers_30 (N : Nat) (Q : Int32 → Int32 → Wd → Option (Int32 × Wd)) (K63 : Int32 → Wd → Option (Int32 × Wd)) (K104 : Int32 → Wd → Option (Int32 × Wd)) (K127 : Wd → Option (Int32 × Wd)) (n : Nat) : Int32 → Int32 → Int32 → Int32 → Wd → Option (Int32 × Wd) := itr (fun _ _ _ _ _ => none) (fun R => b_X0_faultInAnswers_30 N Q R K63 K104 K127) n
set_option maxRecDepth 20000 in
theorem sl_X0_faultInAnswers_30 {E : Ev} (hL : LX E) {d dq : Nat} (hB : BASE_X0_faultInAnswers ≤ d) (hq : dq + 1 ≤ d) {Q : Int32 → Int32 → Wd → Option (Int32 × Wd)} (hQ : ∀ (v1 v2 : Int32) (w : Wd), Ct E (m_X0_firstFault dq) yX0_firstFault rI [.ref (Ea E 29), .int v1, .int v2] w (Q v1 v2 w)) {K63 : Int32 → Wd → Option (Int32 × Wd)} (hK63 : ∀ (v4 : Int32) (w : Wd), Sim E (m_X0_faultInAnswers d) rI 63 [(4, .int v4)] [] w (K63 v4 w)) {K104 : Int32 → Wd → Option (Int32 × Wd)} (hK104 : ∀ (v7 : Int32) (w : Wd), Sim E (m_X0_faultInAnswers d) rI 104 [(7, .int v7)] [] w (K104 v7 w)) {K127 : Wd → Option (Int32 × Wd)} (hK127 : ∀ (w : Wd), Sim E (m_X0_faultInAnswers d) rI 127 [] [] w (K127  w)) : ∀ (n : Nat) (v2 : Int32) (v3 : Int32) (v4 : Int32) (v5 : Int32) (w : Wd), Sim E (m_X0_faultInAnswers d) rI 30 [(0, .ref (Ea E 29)), (2, .int v2), (3, .int v3), (4, .int v4), (5, .int v5)] [] w (l_X0_faultInAnswers_30 (En E) Q K63 K104 K127 n v2 v3 v4 v5 w) := by
  intro n
  induction n with
  | zero => intros; exact sim_none
  | succ n ih => intros; exact sb_X0_faultInAnswers_30 hL hB hq hQ (R := l_X0_faultInAnswers_30 (En E) Q K63 K104 K127 n) ih hK63 hK104 hK127 _ _ _ _ _
def f_X0_faultInAnswers_63 (N : Nat) (Q : Int32 → Int32 → Wd → Option (Int32 × Wd)) (v4 : Int32) (w : Wd) : Option (Int32 × Wd) :=
  some ((v4 + (1 : Int32)), w)
set_option maxRecDepth 20000 in
theorem sf_X0_faultInAnswers_63 {E : Ev} (hL : LX E) {d dq : Nat} (hB : BASE_X0_faultInAnswers ≤ d) (hq : dq + 1 ≤ d) {Q : Int32 → Int32 → Wd → Option (Int32 × Wd)} (hQ : ∀ (v1 v2 : Int32) (w : Wd), Ct E (m_X0_firstFault dq) yX0_firstFault rI [.ref (Ea E 29), .int v1, .int v2] w (Q v1 v2 w)) (v4 : Int32) (w : Wd) : Sim E (m_X0_faultInAnswers d) rI 63 [(4, .int v4)] [] w (f_X0_faultInAnswers_63 (En E) Q v4 w) := by
  unfold f_X0_faultInAnswers_63
  refine sim_iload 0 dX0_faultInAnswers_63 rfl rfl ?_
  refine sim_iconst (1 : Int32) dX0_faultInAnswers_65 rfl rfl ?_
  refine sim_iadd dX0_faultInAnswers_66 rfl ?_
  exact sim_iret rfl dX0_faultInAnswers_67
def f_X0_faultInAnswers_104 (N : Nat) (Q : Int32 → Int32 → Wd → Option (Int32 × Wd)) (v7 : Int32) (w : Wd) : Option (Int32 × Wd) :=
  some (v7, w)
set_option maxRecDepth 20000 in
theorem sf_X0_faultInAnswers_104 {E : Ev} (hL : LX E) {d dq : Nat} (hB : BASE_X0_faultInAnswers ≤ d) (hq : dq + 1 ≤ d) {Q : Int32 → Int32 → Wd → Option (Int32 × Wd)} (hQ : ∀ (v1 v2 : Int32) (w : Wd), Ct E (m_X0_firstFault dq) yX0_firstFault rI [.ref (Ea E 29), .int v1, .int v2] w (Q v1 v2 w)) (v7 : Int32) (w : Wd) : Sim E (m_X0_faultInAnswers d) rI 104 [(7, .int v7)] [] w (f_X0_faultInAnswers_104 (En E) Q v7 w) := by
  unfold f_X0_faultInAnswers_104
  refine sim_iload 0 dX0_faultInAnswers_104 rfl rfl ?_
  exact sim_iret rfl dX0_faultInAnswers_106
def f_X0_faultInAnswers_127 (N : Nat) (Q : Int32 → Int32 → Wd → Option (Int32 × Wd)) (w : Wd) : Option (Int32 × Wd) :=
  some ((0 : Int32), w)
set_option maxRecDepth 20000 in
theorem sf_X0_faultInAnswers_127 {E : Ev} (hL : LX E) {d dq : Nat} (hB : BASE_X0_faultInAnswers ≤ d) (hq : dq + 1 ≤ d) {Q : Int32 → Int32 → Wd → Option (Int32 × Wd)} (hQ : ∀ (v1 v2 : Int32) (w : Wd), Ct E (m_X0_firstFault dq) yX0_firstFault rI [.ref (Ea E 29), .int v1, .int v2] w (Q v1 v2 w)) (w : Wd) : Sim E (m_X0_faultInAnswers d) rI 127 [] [] w (f_X0_faultInAnswers_127 (En E) Q w) := by
  unfold f_X0_faultInAnswers_127
  refine sim_iconst (0 : Int32) dX0_faultInAnswers_127 rfl rfl ?_
  exact sim_iret rfl dX0_faultInAnswers_128
def f_X0_faultInAnswers (N : Nat) (Q : Int32 → Int32 → Wd → Option (Int32 × Wd)) (v1 : Int32) (v2 : Int32) (w : Wd) : Option (Int32 × Wd) :=
  bd (f_X5_listLawful N v2 w) fun x1 w2 =>
  bd (f_X0_answersIn N v1 w2) fun x3 w4 =>
  if x1 = x3 then
  lt (v1 + (1 : Int32)) fun x5 =>
  l_X0_faultInAnswers_30 N Q (f_X0_faultInAnswers_63 N Q) (f_X0_faultInAnswers_104 N Q) (f_X0_faultInAnswers_127 N Q) FU v2 x1 x5 (0 : Int32) w4
  else
  some ((v1 + (1 : Int32)), w4)
set_option maxRecDepth 20000 in
theorem c_X0_faultInAnswers {E : Ev} (hL : LX E) {d dq : Nat} (hB : BASE_X0_faultInAnswers ≤ d) (hq : dq + 1 ≤ d) {Q : Int32 → Int32 → Wd → Option (Int32 × Wd)} (hQ : ∀ (v1 v2 : Int32) (w : Wd), Ct E (m_X0_firstFault dq) yX0_firstFault rI [.ref (Ea E 29), .int v1, .int v2] w (Q v1 v2 w)) (v1 : Int32) (v2 : Int32) (w : Wd) : Ct E (m_X0_faultInAnswers d) yX0_faultInAnswers rI [.ref (Ea E 29), .int v1, .int v2] w (f_X0_faultInAnswers (En E) Q v1 v2 w) := by
  refine Ct.of (by decide) ⟨rfl, rfl⟩ (Nat.le_of_ble_eq_true rfl) ?_
  show Sim E (m_X0_faultInAnswers d) rI 0 [(0, .ref (Ea E 29)), (1, .int v1), (2, .int v2)] [] w (f_X0_faultInAnswers (En E) Q v1 v2 w)
  unfold f_X0_faultInAnswers
  refine sim_aload_n 0 dX0_faultInAnswers_0 rfl rfl ?_
  refine sim_get (k := 29) (ci := 0) (j := 0) (v := .ref (Ea E 27)) (hL.1 29 rfl) rfl (by decide) fl_X0_25 rfl dX0_faultInAnswers_1 rfl ?_
  refine sim_iload_n 2 dX0_faultInAnswers_4 rfl rfl ?_
  refine sim_cVi (k := 27) (ci := 3) [.int v2] [] (c_X5_listLawful hL v2 w) (hL.1 27 rfl) rfl (by decide) rfl cb_X0_98 im_X5_listLawful se_X5_listLawful rfl (DD_le hB rfl rfl) rfl (Nat.le_of_ble_eq_true rfl) dX0_faultInAnswers_5 rfl (fun x1 w2 => ?_)
  refine sim_istore_n [(3, .int x1), (0, .ref (Ea E 29)), (1, .int v1), (2, .int v2)] dX0_faultInAnswers_8 (Nat.le_of_ble_eq_true rfl) rfl rfl ?_
  refine sim_iload_n 0 dX0_faultInAnswers_9 rfl rfl ?_
  refine sim_aload_n 1 dX0_faultInAnswers_10 rfl rfl ?_
  refine sim_iload_n 2 dX0_faultInAnswers_11 rfl rfl ?_
  refine sim_cVi (k := 29) (ci := 0) [.int v1] [.int x1] (c_X0_answersIn hL v1 w2) (hL.1 29 rfl) rfl (by decide) rfl cb_X0_101 im_X0_answersIn se_X0_answersIn rfl (DD_le hB rfl rfl) rfl (Nat.le_of_ble_eq_true rfl) dX0_faultInAnswers_12 rfl (fun x3 w4 => ?_)
  refine sim_icmp_eq 22 dX0_faultInAnswers_15 rfl rfl (fun _ => ?_) (fun _ => ?_)
  · refine sim_iload_n 2 dX0_faultInAnswers_22 rfl rfl ?_
    refine sim_iconst (1 : Int32) dX0_faultInAnswers_23 rfl rfl ?_
    refine sim_iadd dX0_faultInAnswers_24 rfl ?_
    refine sim_lt (fun x5 => ?_)
    refine sim_istore [(4, .int x5), (3, .int x1), (0, .ref (Ea E 29)), (1, .int v1), (2, .int v2)] dX0_faultInAnswers_25 (Nat.le_of_ble_eq_true rfl) rfl rfl ?_
    refine sim_iconst (0 : Int32) dX0_faultInAnswers_27 rfl rfl ?_
    refine sim_istore [(5, .int (0 : Int32)), (4, .int x5), (3, .int x1), (0, .ref (Ea E 29)), (1, .int v1), (2, .int v2)] dX0_faultInAnswers_28 (Nat.le_of_ble_eq_true rfl) rfl rfl ?_
    exact sim_sub [3, 5, 2, 1, 0] rfl (sl_X0_faultInAnswers_30 hL hB hq hQ (sf_X0_faultInAnswers_63 hL hB hq hQ) (sf_X0_faultInAnswers_104 hL hB hq hQ) (sf_X0_faultInAnswers_127 hL hB hq hQ) FU v2 x1 x5 (0 : Int32) w4)
  · refine sim_iload_n 2 dX0_faultInAnswers_18 rfl rfl ?_
    refine sim_iconst (1 : Int32) dX0_faultInAnswers_19 rfl rfl ?_
    refine sim_iadd dX0_faultInAnswers_20 rfl ?_
    exact sim_iret rfl dX0_faultInAnswers_21
def f_X0_firstFault_14 (N : Nat) (Q : Int32 → Int32 → Wd → Option (Int32 × Wd)) (v1 : Int32) (w : Wd) : Option (Int32 × Wd) :=
  some ((v1 + (1 : Int32)), w)
set_option maxRecDepth 20000 in
theorem sf_X0_firstFault_14 {E : Ev} (hL : LX E) {d dq : Nat} (hB : BASE_X0_firstFault ≤ d) (hq : dq + 1 ≤ d) {Q : Int32 → Int32 → Wd → Option (Int32 × Wd)} (hQ : ∀ (v1 v2 : Int32) (w : Wd), Ct E (m_X0_faultInAnswers dq) yX0_faultInAnswers rI [.ref (Ea E 29), .int v1, .int v2] w (Q v1 v2 w)) (v1 : Int32) (w : Wd) : Sim E (m_X0_firstFault d) rI 14 [(1, .int v1)] [] w (f_X0_firstFault_14 (En E) Q v1 w) := by
  unfold f_X0_firstFault_14
  refine sim_iload_n 0 dX0_firstFault_14 rfl rfl ?_
  refine sim_iconst (1 : Int32) dX0_firstFault_15 rfl rfl ?_
  refine sim_iadd dX0_firstFault_16 rfl ?_
  exact sim_iret rfl dX0_firstFault_17
def f_X0_firstFault_88 (N : Nat) (Q : Int32 → Int32 → Wd → Option (Int32 × Wd)) (v4 : Int32) (s0 : Int32) (w : Wd) : Option (Int32 × Wd) :=
  bd (f_X6_revert N v4 w) fun _ w9 =>
  some (s0, w9)
set_option maxRecDepth 20000 in
theorem sf_X0_firstFault_88 {E : Ev} (hL : LX E) {d dq : Nat} (hB : BASE_X0_firstFault ≤ d) (hq : dq + 1 ≤ d) {Q : Int32 → Int32 → Wd → Option (Int32 × Wd)} (hQ : ∀ (v1 v2 : Int32) (w : Wd), Ct E (m_X0_faultInAnswers dq) yX0_faultInAnswers rI [.ref (Ea E 29), .int v1, .int v2] w (Q v1 v2 w)) (v4 : Int32) (s0 : Int32) (w : Wd) : Sim E (m_X0_firstFault d) rI 88 [(0, .ref (Ea E 29)), (4, .int v4)] [.int s0] w (f_X0_firstFault_88 (En E) Q v4 s0 w) := by
  unfold f_X0_firstFault_88
  refine sim_istore [(5, .int s0), (0, .ref (Ea E 29)), (4, .int v4)] dX0_firstFault_88 (Nat.le_of_ble_eq_true rfl) rfl rfl ?_
  refine sim_aload_n 1 dX0_firstFault_90 rfl rfl ?_
  refine sim_get (k := 29) (ci := 0) (j := 1) (v := .ref (Ea E 22)) (hL.1 29 rfl) rfl (by decide) fl_X0_29 rfl dX0_firstFault_91 rfl ?_
  refine sim_iload 2 dX0_firstFault_94 rfl rfl ?_
  refine sim_cVv (k := 22) (ci := 4) [.int v4] [] (c_X6_revert hL v4 w) (hL.1 22 rfl) rfl (by decide) rfl cb_X0_75 im_X6_revert se_X6_revert rfl (DD_le hB rfl rfl) rfl (Nat.le_of_ble_eq_true rfl) dX0_firstFault_96 rfl (fun _ w9 => ?_)
  refine sim_iload 0 dX0_firstFault_99 rfl rfl ?_
  exact sim_iret rfl dX0_firstFault_101
def f_X0_firstFault (N : Nat) (Q : Int32 → Int32 → Wd → Option (Int32 × Wd)) (v1 : Int32) (v2 : Int32) (w : Wd) : Option (Int32 × Wd) :=
  if (w.1 29 5) ≤ v1 then
  f_X0_firstFault_14 N Q v1 w
  else
  if v2 < (10 : Int32) then
  if inb v1 1000 = true then
  lt (w.1 30 (Int32.toNatClampNeg v1)) fun x1 =>
  bd (f_X5_faultOf N x1 w) fun x2 w3 =>
  if x2 = (0 : Int32) then
  bd (f_X6_withTaken N x1 w3) fun x4 w5 =>
  bd (f_X6_apply N x4 w5) fun _ w6 =>
  bd (f_X6_inCheck N (w6.1 22 7) w6) fun x7 w8 =>
  if x7 = (0 : Int32) then
  f_X0_firstFault_88 N Q x4 (v1 + (1 : Int32)) w8
  else
  bd (Q v1 v2 w8) fun x10 w11 =>
  f_X0_firstFault_88 N Q x4 x10 w11
  else
  some ((v1 + (1 : Int32)), w3)
  else none
  else
  f_X0_firstFault_14 N Q v1 w
set_option maxRecDepth 20000 in
theorem c_X0_firstFault {E : Ev} (hL : LX E) {d dq : Nat} (hB : BASE_X0_firstFault ≤ d) (hq : dq + 1 ≤ d) {Q : Int32 → Int32 → Wd → Option (Int32 × Wd)} (hQ : ∀ (v1 v2 : Int32) (w : Wd), Ct E (m_X0_faultInAnswers dq) yX0_faultInAnswers rI [.ref (Ea E 29), .int v1, .int v2] w (Q v1 v2 w)) (v1 : Int32) (v2 : Int32) (w : Wd) : Ct E (m_X0_firstFault d) yX0_firstFault rI [.ref (Ea E 29), .int v1, .int v2] w (f_X0_firstFault (En E) Q v1 v2 w) := by
  refine Ct.of (by decide) ⟨rfl, rfl⟩ (Nat.le_of_ble_eq_true rfl) ?_
  show Sim E (m_X0_firstFault d) rI 0 [(0, .ref (Ea E 29)), (1, .int v1), (2, .int v2)] [] w (f_X0_firstFault (En E) Q v1 v2 w)
  unfold f_X0_firstFault
  refine sim_iload_n 1 dX0_firstFault_0 rfl rfl ?_
  refine sim_aload_n 0 dX0_firstFault_1 rfl rfl ?_
  refine sim_get (k := 29) (ci := 0) (j := 5) (v := .int (w.1 29 5)) (hL.1 29 rfl) rfl (by decide) fl_X0_33 rfl dX0_firstFault_2 rfl ?_
  refine sim_icmp_ge 14 dX0_firstFault_5 rfl rfl (fun _ => ?_) (fun _ => ?_)
  · exact sim_sub [1] rfl (sf_X0_firstFault_14 hL hB hq hQ v1 w)
  · refine sim_iload_n 2 dX0_firstFault_8 rfl rfl ?_
    refine sim_bipush (10 : Int32) dX0_firstFault_9 rfl rfl ?_
    refine sim_icmp_lt 18 dX0_firstFault_11 rfl rfl (fun _ => ?_) (fun _ => ?_)
    · refine sim_aload_n 0 dX0_firstFault_18 rfl rfl ?_
      refine sim_get (k := 29) (ci := 0) (j := 2) (v := .ref (Ea E 30)) (hL.1 29 rfl) rfl (by decide) fl_X0_9 rfl dX0_firstFault_19 rfl ?_
      refine sim_iload_n 1 dX0_firstFault_22 rfl rfl ?_
      refine sim_iaload (k := 30) (hL.1 30 rfl) rfl rfl dX0_firstFault_23 rfl ?_
      refine sim_lt (fun x1 => ?_)
      refine sim_istore_n [(3, .int x1), (0, .ref (Ea E 29)), (1, .int v1), (2, .int v2)] dX0_firstFault_24 (Nat.le_of_ble_eq_true rfl) rfl rfl ?_
      refine sim_aload_n 1 dX0_firstFault_25 rfl rfl ?_
      refine sim_get (k := 29) (ci := 0) (j := 0) (v := .ref (Ea E 27)) (hL.1 29 rfl) rfl (by decide) fl_X0_25 rfl dX0_firstFault_26 rfl ?_
      refine sim_iload_n 0 dX0_firstFault_29 rfl rfl ?_
      refine sim_cVi (k := 27) (ci := 3) [.int x1] [] (c_X5_faultOf hL x1 w) (hL.1 27 rfl) rfl (by decide) rfl cb_X0_89 im_X5_faultOf se_X5_faultOf rfl (DD_le hB rfl rfl) rfl (Nat.le_of_ble_eq_true rfl) dX0_firstFault_30 rfl (fun x2 w3 => ?_)
      refine sim_if_eq 40 dX0_firstFault_33 rfl rfl (fun _ => ?_) (fun _ => ?_)
      · refine sim_aload_n 1 dX0_firstFault_40 rfl rfl ?_
        refine sim_get (k := 29) (ci := 0) (j := 1) (v := .ref (Ea E 22)) (hL.1 29 rfl) rfl (by decide) fl_X0_29 rfl dX0_firstFault_41 rfl ?_
        refine sim_iload_n 0 dX0_firstFault_44 rfl rfl ?_
        refine sim_cVi (k := 22) (ci := 4) [.int x1] [] (c_X6_withTaken hL x1 w3) (hL.1 22 rfl) rfl (by decide) rfl cb_X0_92 im_X6_withTaken se_X6_withTaken rfl (DD_le hB rfl rfl) rfl (Nat.le_of_ble_eq_true rfl) dX0_firstFault_45 rfl (fun x4 w5 => ?_)
        refine sim_istore [(4, .int x4), (3, .int x1), (0, .ref (Ea E 29)), (1, .int v1), (2, .int v2)] dX0_firstFault_48 (Nat.le_of_ble_eq_true rfl) rfl rfl ?_
        refine sim_aload_n 2 dX0_firstFault_50 rfl rfl ?_
        refine sim_get (k := 29) (ci := 0) (j := 1) (v := .ref (Ea E 22)) (hL.1 29 rfl) rfl (by decide) fl_X0_29 rfl dX0_firstFault_51 rfl ?_
        refine sim_iload 0 dX0_firstFault_54 rfl rfl ?_
        refine sim_cVv (k := 22) (ci := 4) [.int x4] [] (c_X6_apply hL x4 w5) (hL.1 22 rfl) rfl (by decide) rfl cb_X0_55 im_X6_apply se_X6_apply rfl (DD_le hB rfl rfl) rfl (Nat.le_of_ble_eq_true rfl) dX0_firstFault_56 rfl (fun _ w6 => ?_)
        refine sim_aload_n 2 dX0_firstFault_59 rfl rfl ?_
        refine sim_get (k := 29) (ci := 0) (j := 1) (v := .ref (Ea E 22)) (hL.1 29 rfl) rfl (by decide) fl_X0_29 rfl dX0_firstFault_60 rfl ?_
        refine sim_aload_n 2 dX0_firstFault_63 rfl rfl ?_
        refine sim_get (k := 29) (ci := 0) (j := 1) (v := .ref (Ea E 22)) (hL.1 29 rfl) rfl (by decide) fl_X0_29 rfl dX0_firstFault_64 rfl ?_
        refine sim_get (k := 22) (ci := 4) (j := 7) (v := .int (w6.1 22 7)) (hL.1 22 rfl) rfl (by decide) fl_X0_61 rfl dX0_firstFault_67 rfl ?_
        refine sim_cVi (k := 22) (ci := 4) [.int (w6.1 22 7)] [] (c_X6_inCheck hL (w6.1 22 7) w6) (hL.1 22 rfl) rfl (by decide) rfl cb_X0_64 im_X6_inCheck se_X6_inCheck rfl (DD_le hB rfl rfl) rfl (Nat.le_of_ble_eq_true rfl) dX0_firstFault_70 rfl (fun x7 w8 => ?_)
        refine sim_if_eq 85 dX0_firstFault_73 rfl rfl (fun _ => ?_) (fun _ => ?_)
        · refine sim_iload_n 3 dX0_firstFault_85 rfl rfl ?_
          refine sim_iconst (1 : Int32) dX0_firstFault_86 rfl rfl ?_
          refine sim_iadd dX0_firstFault_87 rfl ?_
          exact sim_sub [2, 0] rfl (sf_X0_firstFault_88 hL hB hq hQ x4 (v1 + (1 : Int32)) w8)
        · refine sim_aload_n 2 dX0_firstFault_76 rfl rfl ?_
          refine sim_iload_n 3 dX0_firstFault_77 rfl rfl ?_
          refine sim_iload_n 4 dX0_firstFault_78 rfl rfl ?_
          refine sim_cVi (k := 29) (ci := 0) [.int v1, .int v2] [] (hQ v1 v2 w8) (hL.1 29 rfl) rfl (by decide) rfl (cb_X0_95 _) im_X0_faultInAnswers se_X0_faultInAnswers rfl (DD_q hq rfl) rfl (Nat.le_of_ble_eq_true rfl) dX0_firstFault_79 rfl (fun x10 w11 => ?_)
          refine sim_goto (q := 88) dX0_firstFault_82 rfl ?_
          exact sim_sub [2, 0] rfl (sf_X0_firstFault_88 hL hB hq hQ x4 x10 w11)
      · refine sim_iload_n 2 dX0_firstFault_36 rfl rfl ?_
        refine sim_iconst (1 : Int32) dX0_firstFault_37 rfl rfl ?_
        refine sim_iadd dX0_firstFault_38 rfl ?_
        exact sim_iret rfl dX0_firstFault_39
    · exact sim_sub [1] rfl (sf_X0_firstFault_14 hL hB hq hQ v1 w)
def g_X0_firstFault (N : Nat) : Nat → Int32 → Int32 → Wd → Option (Int32 × Wd)
  | 0 => fun _ _ _ => none
  | n + 1 => f_X0_firstFault N (f_X0_faultInAnswers N (g_X0_firstFault N n))
set_option maxRecDepth 20000 in
theorem gc_X0_firstFault {E : Ev} (hL : LX E) : ∀ (n : Nat) (v1 v2 : Int32) (w : Wd), Ct E (m_X0_firstFault (6 + 2 * n)) yX0_firstFault rI [.ref (Ea E 29), .int v1, .int v2] w (g_X0_firstFault (En E) n v1 v2 w) := by
  intro n
  induction n with
  | zero => intros; exact Ct_none
  | succ n ih =>
    intro v1 v2 w
    exact c_X0_firstFault hL (d := 6 + 2 * (n + 1)) (dq := 6 + 2 * n + 1) (by show 6 ≤ _; omega) (by omega) (fun u1 u2 w => c_X0_faultInAnswers hL (d := 6 + 2 * n + 1) (dq := 6 + 2 * n) (by show 6 ≤ _; omega) (by omega) ih u1 u2 w) v1 v2 w
def f_X0_firstFaultR (N : Nat) (v1 v2 : Int32) (w : Wd) : Option (Int32 × Wd) := g_X0_firstFault N 10 v1 v2 w
abbrev m_X0_firstFaultR : Mt := m_X0_firstFault 26
set_option maxRecDepth 20000 in
theorem c_X0_firstFaultR {E : Ev} (hL : LX E) (v1 v2 : Int32) (w : Wd) : Ct E m_X0_firstFaultR yX0_firstFault rI [.ref (Ea E 29), .int v1, .int v2] w (f_X0_firstFaultR (En E) v1 v2 w) := gc_X0_firstFault hL 10 v1 v2 w
def f_X1_isForm_14 (N : Nat) (s0 : Int32) (w : Wd) : Option (Int32 × Wd) :=
  if zb s0 = true then some (s0, w) else none
set_option maxRecDepth 20000 in
theorem sf_X1_isForm_14 {E : Ev} (hL : LX E) (s0 : Int32) (w : Wd) : Sim E m_X1_isForm rI 14 [] [.int s0] w (f_X1_isForm_14 (En E) s0 w) := by
  unfold f_X1_isForm_14
  exact sim_zret rfl dX1_isForm_14
def f_X1_isForm_13 (N : Nat) (w : Wd) : Option (Int32 × Wd) :=
  f_X1_isForm_14 N (0 : Int32) w
set_option maxRecDepth 20000 in
theorem sf_X1_isForm_13 {E : Ev} (hL : LX E) (w : Wd) : Sim E m_X1_isForm rI 13 [] [] w (f_X1_isForm_13 (En E) w) := by
  unfold f_X1_isForm_13
  refine sim_iconst (0 : Int32) dX1_isForm_13 rfl rfl ?_
  exact sim_sub [] rfl (sf_X1_isForm_14 hL (0 : Int32) w)
def f_X1_isForm (N : Nat) (v0 : Int32) (w : Wd) : Option (Int32 × Wd) :=
  if v0 < (0 : Int32) then
  f_X1_isForm_13 N w
  else
  if (2 : Int32) < v0 then
  f_X1_isForm_13 N w
  else
  f_X1_isForm_14 N (1 : Int32) w
set_option maxRecDepth 20000 in
theorem c_X1_isForm {E : Ev} (hL : LX E) (v0 : Int32) (w : Wd) : Ct E m_X1_isForm yX1_isForm rI [.int v0] w (f_X1_isForm (En E) v0 w) := by
  refine Ct.of (by decide) ⟨rfl, rfl⟩ (Nat.le_of_ble_eq_true rfl) ?_
  show Sim E m_X1_isForm rI 0 [(0, .int v0)] [] w (f_X1_isForm (En E) v0 w)
  unfold f_X1_isForm
  refine sim_iload_n 0 dX1_isForm_0 rfl rfl ?_
  refine sim_if_lt 13 dX1_isForm_1 rfl rfl (fun _ => ?_) (fun _ => ?_)
  · exact sim_sub [] rfl (sf_X1_isForm_13 hL w)
  · refine sim_iload_n 0 dX1_isForm_4 rfl rfl ?_
    refine sim_iconst (2 : Int32) dX1_isForm_5 rfl rfl ?_
    refine sim_icmp_gt 13 dX1_isForm_6 rfl rfl (fun _ => ?_) (fun _ => ?_)
    · exact sim_sub [] rfl (sf_X1_isForm_13 hL w)
    · refine sim_iconst (1 : Int32) dX1_isForm_9 rfl rfl ?_
      refine sim_goto (q := 14) dX1_isForm_10 rfl ?_
      exact sim_sub [] rfl (sf_X1_isForm_14 hL (1 : Int32) w)
def f_X1_narrowed_19 (N : Nat) (s0 : Int32) (w : Wd) : Option (Int32 × Wd) :=
  some (s0, w)
set_option maxRecDepth 20000 in
theorem sf_X1_narrowed_19 {E : Ev} (hL : LX E) (s0 : Int32) (w : Wd) : Sim E m_X1_narrowed rI 19 [] [.int s0] w (f_X1_narrowed_19 (En E) s0 w) := by
  unfold f_X1_narrowed_19
  exact sim_iret rfl dX1_narrowed_19
def f_X1_narrowed (N : Nat) (v0 : Int32) (v1 : Int32) (w : Wd) : Option (Int32 × Wd) :=
  if v0 = (0 : Int32) then
  some ((Int32.toInt8 v1).toInt32, w)
  else
  if v0 = (1 : Int32) then
  f_X1_narrowed_19 N (((Int32.toUInt32 v1) % 65536).toInt32) w
  else
  f_X1_narrowed_19 N ((Int32.toInt16 v1).toInt32) w
set_option maxRecDepth 20000 in
theorem c_X1_narrowed {E : Ev} (hL : LX E) (v0 : Int32) (v1 : Int32) (w : Wd) : Ct E m_X1_narrowed yX1_narrowed rI [.int v0, .int v1] w (f_X1_narrowed (En E) v0 v1 w) := by
  refine Ct.of (by decide) ⟨rfl, rfl⟩ (Nat.le_of_ble_eq_true rfl) ?_
  show Sim E m_X1_narrowed rI 0 [(0, .int v0), (1, .int v1)] [] w (f_X1_narrowed (En E) v0 v1 w)
  unfold f_X1_narrowed
  refine sim_iload_n 0 dX1_narrowed_0 rfl rfl ?_
  refine sim_if_ne 7 dX1_narrowed_1 rfl rfl (fun _ => ?_) (fun _ => ?_)
  · refine sim_iload_n 0 dX1_narrowed_7 rfl rfl ?_
    refine sim_iconst (1 : Int32) dX1_narrowed_8 rfl rfl ?_
    refine sim_icmp_ne 17 dX1_narrowed_9 rfl rfl (fun _ => ?_) (fun _ => ?_)
    · refine sim_iload_n 1 dX1_narrowed_17 rfl rfl ?_
      refine sim_i2s dX1_narrowed_18 rfl ?_
      exact sim_sub [] rfl (sf_X1_narrowed_19 hL ((Int32.toInt16 v1).toInt32) w)
    · refine sim_iload_n 1 dX1_narrowed_12 rfl rfl ?_
      refine sim_i2c dX1_narrowed_13 rfl ?_
      refine sim_goto (q := 19) dX1_narrowed_14 rfl ?_
      exact sim_sub [] rfl (sf_X1_narrowed_19 hL (((Int32.toUInt32 v1) % 65536).toInt32) w)
  · refine sim_iload_n 1 dX1_narrowed_4 rfl rfl ?_
    refine sim_i2b dX1_narrowed_5 rfl ?_
    exact sim_iret rfl dX1_narrowed_6
def f_X1_isLine_17 (N : Nat) (s0 : Int32) (w : Wd) : Option (Int32 × Wd) :=
  if zb s0 = true then some (s0, w) else none
set_option maxRecDepth 20000 in
theorem sf_X1_isLine_17 {E : Ev} (hL : LX E) (s0 : Int32) (w : Wd) : Sim E m_X1_isLine rI 17 [] [.int s0] w (f_X1_isLine_17 (En E) s0 w) := by
  unfold f_X1_isLine_17
  exact sim_zret rfl dX1_isLine_17
def f_X1_isLine_16 (N : Nat) (w : Wd) : Option (Int32 × Wd) :=
  f_X1_isLine_17 N (0 : Int32) w
set_option maxRecDepth 20000 in
theorem sf_X1_isLine_16 {E : Ev} (hL : LX E) (w : Wd) : Sim E m_X1_isLine rI 16 [] [] w (f_X1_isLine_16 (En E) w) := by
  unfold f_X1_isLine_16
  refine sim_iconst (0 : Int32) dX1_isLine_16 rfl rfl ?_
  exact sim_sub [] rfl (sf_X1_isLine_17 hL (0 : Int32) w)
def f_X1_isLine (N : Nat) (v1 : Int32) (w : Wd) : Option (Int32 × Wd) :=
  if v1 < (0 : Int32) then
  f_X1_isLine_16 N w
  else
  if (w.1 11 0) ≤ v1 then
  f_X1_isLine_16 N w
  else
  f_X1_isLine_17 N (1 : Int32) w
set_option maxRecDepth 20000 in
theorem c_X1_isLine {E : Ev} (hL : LX E) (v1 : Int32) (w : Wd) : Ct E m_X1_isLine yX1_isLine rI [.ref (Ea E 11), .int v1] w (f_X1_isLine (En E) v1 w) := by
  refine Ct.of (by decide) ⟨rfl, rfl⟩ (Nat.le_of_ble_eq_true rfl) ?_
  show Sim E m_X1_isLine rI 0 [(0, .ref (Ea E 11)), (1, .int v1)] [] w (f_X1_isLine (En E) v1 w)
  unfold f_X1_isLine
  refine sim_iload_n 1 dX1_isLine_0 rfl rfl ?_
  refine sim_if_lt 16 dX1_isLine_1 rfl rfl (fun _ => ?_) (fun _ => ?_)
  · exact sim_sub [] rfl (sf_X1_isLine_16 hL w)
  · refine sim_iload_n 1 dX1_isLine_4 rfl rfl ?_
    refine sim_aload_n 0 dX1_isLine_5 rfl rfl ?_
    refine sim_get (k := 11) (ci := 1) (j := 0) (v := .int (w.1 11 0)) (hL.1 11 rfl) rfl (by decide) fl_X1_9 rfl dX1_isLine_6 rfl ?_
    refine sim_icmp_ge 16 dX1_isLine_9 rfl rfl (fun _ => ?_) (fun _ => ?_)
    · exact sim_sub [] rfl (sf_X1_isLine_16 hL w)
    · refine sim_iconst (1 : Int32) dX1_isLine_12 rfl rfl ?_
      refine sim_goto (q := 17) dX1_isLine_13 rfl ?_
      exact sim_sub [] rfl (sf_X1_isLine_17 hL (1 : Int32) w)
def f_X1_isLost_14 (N : Nat) (s0 : Int32) (w : Wd) : Option (Int32 × Wd) :=
  if zb s0 = true then some (s0, w) else none
set_option maxRecDepth 20000 in
theorem sf_X1_isLost_14 {E : Ev} (hL : LX E) (s0 : Int32) (w : Wd) : Sim E m_X1_isLost rI 14 [] [.int s0] w (f_X1_isLost_14 (En E) s0 w) := by
  unfold f_X1_isLost_14
  exact sim_zret rfl dX1_isLost_14
def f_X1_isLost (N : Nat) (v1 : Int32) (w : Wd) : Option (Int32 × Wd) :=
  if inb v1 N = true then
  if (0 : Int32) ≤ (w.1 13 (Int32.toNatClampNeg v1)) then
  f_X1_isLost_14 N (0 : Int32) w
  else
  f_X1_isLost_14 N (1 : Int32) w
  else none
set_option maxRecDepth 20000 in
theorem c_X1_isLost {E : Ev} (hL : LX E) (v1 : Int32) (w : Wd) : Ct E m_X1_isLost yX1_isLost rI [.ref (Ea E 11), .int v1] w (f_X1_isLost (En E) v1 w) := by
  refine Ct.of (by decide) ⟨rfl, rfl⟩ (Nat.le_of_ble_eq_true rfl) ?_
  show Sim E m_X1_isLost rI 0 [(0, .ref (Ea E 11)), (1, .int v1)] [] w (f_X1_isLost (En E) v1 w)
  unfold f_X1_isLost
  refine sim_aload_n 0 dX1_isLost_0 rfl rfl ?_
  refine sim_get (k := 11) (ci := 1) (j := 2) (v := .ref (Ea E 13)) (hL.1 11 rfl) rfl (by decide) fl_X1_19 rfl dX1_isLost_1 rfl ?_
  refine sim_iload_n 1 dX1_isLost_4 rfl rfl ?_
  refine sim_iaload (k := 13) (hL.1 13 rfl) rfl rfl dX1_isLost_5 rfl ?_
  refine sim_if_ge 13 dX1_isLost_6 rfl rfl (fun _ => ?_) (fun _ => ?_)
  · refine sim_iconst (0 : Int32) dX1_isLost_13 rfl rfl ?_
    exact sim_sub [] rfl (sf_X1_isLost_14 hL (0 : Int32) w)
  · refine sim_iconst (1 : Int32) dX1_isLost_9 rfl rfl ?_
    refine sim_goto (q := 14) dX1_isLost_10 rfl ?_
    exact sim_sub [] rfl (sf_X1_isLost_14 hL (1 : Int32) w)
def b_X1_renew_17 (N : Nat) (R : Int32 → Int32 → Wd → Option (Unit × Wd)) (K40 : Wd → Option (Unit × Wd)) (v1 : Int32) (v4 : Int32) (w : Wd) : Option (Unit × Wd) :=
  if (12 : Int32) ≤ v4 then
  K40 w
  else
  if inb v1 N = true then
  if inb v4 12 = true then
  lw (wdI w (14 + 1 + (Int32.toNatClampNeg v1)) (Int32.toNatClampNeg v4) (0 : Int32)) fun w4 =>
  R v1 (v4 + (1 : Int32)) w4
  else none
  else none
set_option maxRecDepth 20000 in
theorem sb_X1_renew_17 {E : Ev} (hL : LX E) {R : Int32 → Int32 → Wd → Option (Unit × Wd)} (hR : ∀ (v1 : Int32) (v4 : Int32) (w : Wd), Sim E m_X1_renew rV 17 [(0, .ref (Ea E 11)), (1, .int v1), (4, .int v4)] [] w (R v1 v4 w)) {K40 : Wd → Option (Unit × Wd)} (hK40 : ∀ (w : Wd), Sim E m_X1_renew rV 40 [] [] w (K40  w)) (v1 : Int32) (v4 : Int32) (w : Wd) : Sim E m_X1_renew rV 17 [(0, .ref (Ea E 11)), (1, .int v1), (4, .int v4)] [] w (b_X1_renew_17 (En E) R K40 v1 v4 w) := by
  unfold b_X1_renew_17
  refine sim_iload 2 dX1_renew_17 rfl rfl ?_
  refine sim_bipush (12 : Int32) dX1_renew_19 rfl rfl ?_
  refine sim_icmp_ge 40 dX1_renew_21 rfl rfl (fun _ => ?_) (fun _ => ?_)
  · exact sim_sub [] rfl (hK40 w)
  · refine sim_aload_n 0 dX1_renew_24 rfl rfl ?_
    refine sim_get (k := 11) (ci := 1) (j := 3) (v := .ref (Ea E 14)) (hL.1 11 rfl) rfl (by decide) fl_X1_24 rfl dX1_renew_25 rfl ?_
    refine sim_iload_n 1 dX1_renew_28 rfl rfl ?_
    refine sim_aaload (k := 14) (hL.1 14 rfl) rfl rfl rfl dX1_renew_29 rfl (fun hi3 => ?_)
    refine sim_iload 2 dX1_renew_30 rfl rfl ?_
    refine sim_iconst (0 : Int32) dX1_renew_32 rfl rfl ?_
    refine sim_iastore (k := (14 + 1 + (Int32.toNatClampNeg v1))) (hL.2.1 _ (inb_lt hi3)) (row_kd _ (Nat.lt_of_lt_of_le (inb_lt hi3) hL.2.2.2)) (row_ln _ (Nat.lt_of_lt_of_le (inb_lt hi3) hL.2.2.2)) dX1_renew_33 rfl ?_
    refine sim_lw (fun w4 => ?_)
    refine sim_iinc (v4 + (1 : Int32)) 2 [(4, .int (v4 + (1 : Int32))), (0, .ref (Ea E 11)), (1, .int v1)] dX1_renew_34 rfl rfl (Nat.le_of_ble_eq_true rfl) rfl rfl ?_
    refine sim_goto (q := 17) dX1_renew_37 rfl ?_
    exact sim_sub [1, 2, 0] rfl (hR v1 (v4 + (1 : Int32)) w4)
def l_X1_renew_17 (N : Nat) (K40 : Wd → Option (Unit × Wd)) (n : Nat) : Int32 → Int32 → Wd → Option (Unit × Wd) := itr (fun _ _ _ => none) (fun R => b_X1_renew_17 N R K40) n
set_option maxRecDepth 20000 in
theorem sl_X1_renew_17 {E : Ev} (hL : LX E) {K40 : Wd → Option (Unit × Wd)} (hK40 : ∀ (w : Wd), Sim E m_X1_renew rV 40 [] [] w (K40  w)) : ∀ (n : Nat) (v1 : Int32) (v4 : Int32) (w : Wd), Sim E m_X1_renew rV 17 [(0, .ref (Ea E 11)), (1, .int v1), (4, .int v4)] [] w (l_X1_renew_17 (En E) K40 n v1 v4 w) := by
  intro n
  induction n with
  | zero => intros; exact sim_none
  | succ n ih => intros; exact sb_X1_renew_17 hL (R := l_X1_renew_17 (En E) K40 n) ih hK40 _ _ _
def f_X1_renew_40 (N : Nat) (w : Wd) : Option (Unit × Wd) :=
  some ((), w)
set_option maxRecDepth 20000 in
theorem sf_X1_renew_40 {E : Ev} (hL : LX E) (w : Wd) : Sim E m_X1_renew rV 40 [] [] w (f_X1_renew_40 (En E) w) := by
  unfold f_X1_renew_40
  exact sim_vret rfl dX1_renew_40
def f_X1_renew (N : Nat) (v1 : Int32) (v2 : Int32) (v3 : Int32) (w : Wd) : Option (Unit × Wd) :=
  if inb v1 N = true then
  lw (wdI w 12 (Int32.toNatClampNeg v1) v2) fun w1 =>
  if inb v1 N = true then
  lw (wdI w1 13 (Int32.toNatClampNeg v1) v3) fun w2 =>
  l_X1_renew_17 N (f_X1_renew_40 N) FU v1 (0 : Int32) w2
  else none
  else none
set_option maxRecDepth 20000 in
theorem c_X1_renew {E : Ev} (hL : LX E) (v1 : Int32) (v2 : Int32) (v3 : Int32) (w : Wd) : Ct E m_X1_renew yX1_renew rV [.ref (Ea E 11), .int v1, .int v2, .int v3] w (f_X1_renew (En E) v1 v2 v3 w) := by
  refine Ct.of (by decide) ⟨rfl, rfl⟩ (Nat.le_of_ble_eq_true rfl) ?_
  show Sim E m_X1_renew rV 0 [(0, .ref (Ea E 11)), (1, .int v1), (2, .int v2), (3, .int v3)] [] w (f_X1_renew (En E) v1 v2 v3 w)
  unfold f_X1_renew
  refine sim_aload_n 0 dX1_renew_0 rfl rfl ?_
  refine sim_get (k := 11) (ci := 1) (j := 1) (v := .ref (Ea E 12)) (hL.1 11 rfl) rfl (by decide) fl_X1_15 rfl dX1_renew_1 rfl ?_
  refine sim_iload_n 1 dX1_renew_4 rfl rfl ?_
  refine sim_iload_n 2 dX1_renew_5 rfl rfl ?_
  refine sim_iastore (k := 12) (hL.1 12 rfl) rfl rfl dX1_renew_6 rfl ?_
  refine sim_lw (fun w1 => ?_)
  refine sim_aload_n 0 dX1_renew_7 rfl rfl ?_
  refine sim_get (k := 11) (ci := 1) (j := 2) (v := .ref (Ea E 13)) (hL.1 11 rfl) rfl (by decide) fl_X1_19 rfl dX1_renew_8 rfl ?_
  refine sim_iload_n 1 dX1_renew_11 rfl rfl ?_
  refine sim_iload_n 3 dX1_renew_12 rfl rfl ?_
  refine sim_iastore (k := 13) (hL.1 13 rfl) rfl rfl dX1_renew_13 rfl ?_
  refine sim_lw (fun w2 => ?_)
  refine sim_iconst (0 : Int32) dX1_renew_14 rfl rfl ?_
  refine sim_istore [(4, .int (0 : Int32)), (0, .ref (Ea E 11)), (1, .int v1), (2, .int v2), (3, .int v3)] dX1_renew_15 (Nat.le_of_ble_eq_true rfl) rfl rfl ?_
  exact sim_sub [1, 2, 0] rfl (sl_X1_renew_17 hL (sf_X1_renew_40 hL) FU v1 (0 : Int32) w2)
