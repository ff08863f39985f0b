def f_X6_findKings_77 (N : Nat) (R : Int32 → Wd → Option (Int32 × Wd)) (K68 : Wd → Option (Int32 × Wd)) (K83 : Wd → Option (Int32 × Wd)) (v1 : Int32) (w : Wd) : Option (Int32 × Wd) :=
  R (v1 + (1 : Int32)) w
set_option maxRecDepth 20000 in
theorem sf_X6_findKings_77 {E : Ev} (hL : LX E) {R : Int32 → Wd → Option (Int32 × Wd)} (hR : ∀ (v1 : Int32) (w : Wd), Sim E m_X6_findKings rI 16 [(0, .ref (Ea E 22)), (1, .int v1)] [] w (R v1 w)) {K68 : Wd → Option (Int32 × Wd)} (hK68 : ∀ (w : Wd), Sim E m_X6_findKings rI 68 [] [] w (K68  w)) {K83 : Wd → Option (Int32 × Wd)} (hK83 : ∀ (w : Wd), Sim E m_X6_findKings rI 83 [(0, .ref (Ea E 22))] [] w (K83  w)) (v1 : Int32) (w : Wd) : Sim E m_X6_findKings rI 77 [(0, .ref (Ea E 22)), (1, .int v1)] [] w (f_X6_findKings_77 (En E) R K68 K83 v1 w) := by
  unfold f_X6_findKings_77
  refine sim_iinc (v1 + (1 : Int32)) 1 [(1, .int (v1 + (1 : Int32))), (0, .ref (Ea E 22))] dX6_findKings_77 rfl rfl (Nat.le_of_ble_eq_true rfl) rfl rfl ?_
  refine sim_goto (q := 16) dX6_findKings_80 rfl ?_
  exact sim_sub [1, 0] rfl (hR (v1 + (1 : Int32)) w)
def b_X6_findKings_16 (N : Nat) (R : Int32 → Wd → Option (Int32 × Wd)) (K68 : Wd → Option (Int32 × Wd)) (K83 : Wd → Option (Int32 × Wd)) (v1 : Int32) (w : Wd) : Option (Int32 × Wd) :=
  if (w.1 22 2) ≤ v1 then
  K83 w
  else
  if inb v1 (N * N) = true then
  if (w.1 23 (Int32.toNatClampNeg v1)) = (0 : Int32) then
  f_X6_findKings_77 N R K68 K83 v1 w
  else
  if inb v1 (N * N) = true then
  bd (f_X2_kindOf (w.1 23 (Int32.toNatClampNeg v1)) w) fun x3 w4 =>
  if x3 = (0 : Int32) then
  if inb v1 (N * N) = true then
  bd (f_X2_sideOf (w4.1 23 (Int32.toNatClampNeg v1)) w4) fun x5 w6 =>
  if inb x5 2 = true then
  if (w6.1 25 (Int32.toNatClampNeg x5)) = (-1 : Int32) then
  if inb x5 2 = true then
  lw (wdI w6 25 (Int32.toNatClampNeg x5) v1) fun w7 =>
  f_X6_findKings_77 N R K68 K83 v1 w7
  else none
  else
  K68 w6
  else none
  else none
  else
  f_X6_findKings_77 N R K68 K83 v1 w4
  else none
  else none
set_option maxRecDepth 20000 in
theorem sb_X6_findKings_16 {E : Ev} (hL : LX E) {R : Int32 → Wd → Option (Int32 × Wd)} (hR : ∀ (v1 : Int32) (w : Wd), Sim E m_X6_findKings rI 16 [(0, .ref (Ea E 22)), (1, .int v1)] [] w (R v1 w)) {K68 : Wd → Option (Int32 × Wd)} (hK68 : ∀ (w : Wd), Sim E m_X6_findKings rI 68 [] [] w (K68  w)) {K83 : Wd → Option (Int32 × Wd)} (hK83 : ∀ (w : Wd), Sim E m_X6_findKings rI 83 [(0, .ref (Ea E 22))] [] w (K83  w)) (v1 : Int32) (w : Wd) : Sim E m_X6_findKings rI 16 [(0, .ref (Ea E 22)), (1, .int v1)] [] w (b_X6_findKings_16 (En E) R K68 K83 v1 w) := by
  unfold b_X6_findKings_16
  refine sim_iload_n 1 dX6_findKings_16 rfl rfl ?_
  refine sim_aload_n 0 dX6_findKings_17 rfl rfl ?_
  refine sim_get (k := 22) (ci := 4) (j := 2) (v := .int (w.1 22 2)) (hL.1 22 rfl) rfl (by decide) fl_X6_32 rfl dX6_findKings_18 rfl ?_
  refine sim_icmp_ge 83 dX6_findKings_21 rfl rfl (fun _ => ?_) (fun _ => ?_)
  · exact sim_sub [0] rfl (hK83 w)
  · refine sim_aload_n 0 dX6_findKings_24 rfl rfl ?_
    refine sim_get (k := 22) (ci := 4) (j := 3) (v := .ref (Ea E 23)) (hL.1 22 rfl) rfl (by decide) fl_X6_33 rfl dX6_findKings_25 rfl ?_
    refine sim_iload_n 1 dX6_findKings_28 rfl rfl ?_
    refine sim_iaload (k := 23) (hL.1 23 rfl) rfl rfl dX6_findKings_29 rfl ?_
    refine sim_if_eq 77 dX6_findKings_30 rfl rfl (fun _ => ?_) (fun _ => ?_)
    · exact sim_sub [0, 1] rfl (sf_X6_findKings_77 hL hR hK68 hK83 v1 w)
    · refine sim_aload_n 0 dX6_findKings_33 rfl rfl ?_
      refine sim_get (k := 22) (ci := 4) (j := 3) (v := .ref (Ea E 23)) (hL.1 22 rfl) rfl (by decide) fl_X6_33 rfl dX6_findKings_34 rfl ?_
      refine sim_iload_n 1 dX6_findKings_37 rfl rfl ?_
      refine sim_iaload (k := 23) (hL.1 23 rfl) rfl rfl dX6_findKings_38 rfl ?_
      refine sim_cSi [.int (w.1 23 (Int32.toNatClampNeg v1))] [] (c_X2_kindOf (w.1 23 (Int32.toNatClampNeg v1)) w) cb_X6_51 sx_X2_kindOf rfl rfl rfl (Nat.le_of_ble_eq_true rfl) dX6_findKings_39 rfl (fun x3 w4 => ?_)
      refine sim_if_eq 48 dX6_findKings_42 rfl rfl (fun _ => ?_) (fun _ => ?_)
      · refine sim_aload_n 0 dX6_findKings_48 rfl rfl ?_
        refine sim_get (k := 22) (ci := 4) (j := 3) (v := .ref (Ea E 23)) (hL.1 22 rfl) rfl (by decide) fl_X6_33 rfl dX6_findKings_49 rfl ?_
        refine sim_iload_n 1 dX6_findKings_52 rfl rfl ?_
        refine sim_iaload (k := 23) (hL.1 23 rfl) rfl rfl dX6_findKings_53 rfl ?_
        refine sim_cSi [.int (w4.1 23 (Int32.toNatClampNeg v1))] [] (c_X2_sideOf (w4.1 23 (Int32.toNatClampNeg v1)) w4) cb_X6_58 sx_X2_sideOf rfl rfl rfl (Nat.le_of_ble_eq_true rfl) dX6_findKings_54 rfl (fun x5 w6 => ?_)
        refine sim_istore_n [(2, .int x5), (0, .ref (Ea E 22)), (1, .int v1)] dX6_findKings_57 (Nat.le_of_ble_eq_true rfl) rfl rfl ?_
        refine sim_aload_n 1 dX6_findKings_58 rfl rfl ?_
        refine sim_get (k := 22) (ci := 4) (j := 5) (v := .ref (Ea E 25)) (hL.1 22 rfl) rfl (by decide) fl_X6_15 rfl dX6_findKings_59 rfl ?_
        refine sim_iload_n 0 dX6_findKings_62 rfl rfl ?_
        refine sim_iaload (k := 25) (hL.1 25 rfl) rfl rfl dX6_findKings_63 rfl ?_
        refine sim_iconst (-1 : Int32) dX6_findKings_64 rfl rfl ?_
        refine sim_icmp_eq 70 dX6_findKings_65 rfl rfl (fun _ => ?_) (fun _ => ?_)
        · refine sim_aload_n 1 dX6_findKings_70 rfl rfl ?_
          refine sim_get (k := 22) (ci := 4) (j := 5) (v := .ref (Ea E 25)) (hL.1 22 rfl) rfl (by decide) fl_X6_15 rfl dX6_findKings_71 rfl ?_
          refine sim_iload_n 0 dX6_findKings_74 rfl rfl ?_
          refine sim_iload_n 2 dX6_findKings_75 rfl rfl ?_
          refine sim_iastore (k := 25) (hL.1 25 rfl) rfl rfl dX6_findKings_76 rfl ?_
          refine sim_lw (fun w7 => ?_)
          exact sim_sub [1, 2] rfl (sf_X6_findKings_77 hL hR hK68 hK83 v1 w7)
        · exact sim_sub [] rfl (hK68 w6)
      · refine sim_goto (q := 77) dX6_findKings_45 rfl ?_
        exact sim_sub [0, 1] rfl (sf_X6_findKings_77 hL hR hK68 hK83 v1 w4)
def l_X6_findKings_16 (N : Nat) (K68 : Wd → Option (Int32 × Wd)) (K83 : Wd → Option (Int32 × Wd)) (n : Nat) : Int32 → Wd → Option (Int32 × Wd) := itr (fun _ _ => none) (fun R => b_X6_findKings_16 N R K68 K83) n
set_option maxRecDepth 20000 in
theorem sl_X6_findKings_16 {E : Ev} (hL : LX E) {K68 : Wd → Option (Int32 × Wd)} (hK68 : ∀ (w : Wd), Sim E m_X6_findKings rI 68 [] [] w (K68  w)) {K83 : Wd → Option (Int32 × Wd)} (hK83 : ∀ (w : Wd), Sim E m_X6_findKings rI 83 [(0, .ref (Ea E 22))] [] w (K83  w)) : ∀ (n : Nat) (v1 : Int32) (w : Wd), Sim E m_X6_findKings rI 16 [(0, .ref (Ea E 22)), (1, .int v1)] [] w (l_X6_findKings_16 (En E) K68 K83 n v1 w) := by
  intro n
  induction n with
  | zero => intros; exact sim_none
  | succ n ih => intros; exact sb_X6_findKings_16 hL (R := l_X6_findKings_16 (En E) K68 K83 n) ih hK68 hK83 _ _
def f_X6_findKings_68 (N : Nat) (w : Wd) : Option (Int32 × Wd) :=
  if zb (0 : Int32) = true then some ((0 : Int32), w) else none
set_option maxRecDepth 20000 in
theorem sf_X6_findKings_68 {E : Ev} (hL : LX E) (w : Wd) : Sim E m_X6_findKings rI 68 [] [] w (f_X6_findKings_68 (En E) w) := by
  unfold f_X6_findKings_68
  refine sim_iconst (0 : Int32) dX6_findKings_68 rfl rfl ?_
  exact sim_zret rfl dX6_findKings_69
def f_X6_findKings_108 (N : Nat) (s0 : Int32) (w : Wd) : Option (Int32 × Wd) :=
  if zb s0 = true then some (s0, w) else none
set_option maxRecDepth 20000 in
theorem sf_X6_findKings_108 {E : Ev} (hL : LX E) (s0 : Int32) (w : Wd) : Sim E m_X6_findKings rI 108 [] [.int s0] w (f_X6_findKings_108 (En E) s0 w) := by
  unfold f_X6_findKings_108
  exact sim_zret rfl dX6_findKings_108
def f_X6_findKings_107 (N : Nat) (w : Wd) : Option (Int32 × Wd) :=
  f_X6_findKings_108 N (0 : Int32) w
set_option maxRecDepth 20000 in
theorem sf_X6_findKings_107 {E : Ev} (hL : LX E) (w : Wd) : Sim E m_X6_findKings rI 107 [] [] w (f_X6_findKings_107 (En E) w) := by
  unfold f_X6_findKings_107
  refine sim_iconst (0 : Int32) dX6_findKings_107 rfl rfl ?_
  exact sim_sub [] rfl (sf_X6_findKings_108 hL (0 : Int32) w)
def f_X6_findKings_83 (N : Nat) (w : Wd) : Option (Int32 × Wd) :=
  if inb (0 : Int32) 2 = true then
  if (w.1 25 (Int32.toNatClampNeg (0 : Int32))) = (-1 : Int32) then
  f_X6_findKings_107 N w
  else
  if inb (1 : Int32) 2 = true then
  if (w.1 25 (Int32.toNatClampNeg (1 : Int32))) = (-1 : Int32) then
  f_X6_findKings_107 N w
  else
  f_X6_findKings_108 N (1 : Int32) w
  else none
  else none
set_option maxRecDepth 20000 in
theorem sf_X6_findKings_83 {E : Ev} (hL : LX E) (w : Wd) : Sim E m_X6_findKings rI 83 [(0, .ref (Ea E 22))] [] w (f_X6_findKings_83 (En E) w) := by
  unfold f_X6_findKings_83
  refine sim_aload_n 0 dX6_findKings_83 rfl rfl ?_
  refine sim_get (k := 22) (ci := 4) (j := 5) (v := .ref (Ea E 25)) (hL.1 22 rfl) rfl (by decide) fl_X6_15 rfl dX6_findKings_84 rfl ?_
  refine sim_iconst (0 : Int32) dX6_findKings_87 rfl rfl ?_
  refine sim_iaload (k := 25) (hL.1 25 rfl) rfl rfl dX6_findKings_88 rfl ?_
  refine sim_iconst (-1 : Int32) dX6_findKings_89 rfl rfl ?_
  refine sim_icmp_eq 107 dX6_findKings_90 rfl rfl (fun _ => ?_) (fun _ => ?_)
  · exact sim_sub [] rfl (sf_X6_findKings_107 hL w)
  · refine sim_aload_n 0 dX6_findKings_93 rfl rfl ?_
    refine sim_get (k := 22) (ci := 4) (j := 5) (v := .ref (Ea E 25)) (hL.1 22 rfl) rfl (by decide) fl_X6_15 rfl dX6_findKings_94 rfl ?_
    refine sim_iconst (1 : Int32) dX6_findKings_97 rfl rfl ?_
    refine sim_iaload (k := 25) (hL.1 25 rfl) rfl rfl dX6_findKings_98 rfl ?_
    refine sim_iconst (-1 : Int32) dX6_findKings_99 rfl rfl ?_
    refine sim_icmp_eq 107 dX6_findKings_100 rfl rfl (fun _ => ?_) (fun _ => ?_)
    · exact sim_sub [] rfl (sf_X6_findKings_107 hL w)
    · refine sim_iconst (1 : Int32) dX6_findKings_103 rfl rfl ?_
      refine sim_goto (q := 108) dX6_findKings_104 rfl ?_
      exact sim_sub [] rfl (sf_X6_findKings_108 hL (1 : Int32) w)
def f_X6_findKings (N : Nat) (w : Wd) : Option (Int32 × Wd) :=
  if inb (0 : Int32) 2 = true then
  lw (wdI w 25 (Int32.toNatClampNeg (0 : Int32)) (-1 : Int32)) fun w1 =>
  if inb (1 : Int32) 2 = true then
  lw (wdI w1 25 (Int32.toNatClampNeg (1 : Int32)) (-1 : Int32)) fun w2 =>
  l_X6_findKings_16 N (f_X6_findKings_68 N) (f_X6_findKings_83 N) FU (0 : Int32) w2
  else none
  else none
set_option maxRecDepth 20000 in
theorem c_X6_findKings {E : Ev} (hL : LX E) (w : Wd) : Ct E m_X6_findKings yX6_findKings rI [.ref (Ea E 22)] w (f_X6_findKings (En E) w) := by
  refine Ct.of (by decide) ⟨rfl, rfl⟩ (Nat.le_of_ble_eq_true rfl) ?_
  show Sim E m_X6_findKings rI 0 [(0, .ref (Ea E 22))] [] w (f_X6_findKings (En E) w)
  unfold f_X6_findKings
  refine sim_aload_n 0 dX6_findKings_0 rfl rfl ?_
  refine sim_get (k := 22) (ci := 4) (j := 5) (v := .ref (Ea E 25)) (hL.1 22 rfl) rfl (by decide) fl_X6_15 rfl dX6_findKings_1 rfl ?_
  refine sim_iconst (0 : Int32) dX6_findKings_4 rfl rfl ?_
  refine sim_iconst (-1 : Int32) dX6_findKings_5 rfl rfl ?_
  refine sim_iastore (k := 25) (hL.1 25 rfl) rfl rfl dX6_findKings_6 rfl ?_
  refine sim_lw (fun w1 => ?_)
  refine sim_aload_n 0 dX6_findKings_7 rfl rfl ?_
  refine sim_get (k := 22) (ci := 4) (j := 5) (v := .ref (Ea E 25)) (hL.1 22 rfl) rfl (by decide) fl_X6_15 rfl dX6_findKings_8 rfl ?_
  refine sim_iconst (1 : Int32) dX6_findKings_11 rfl rfl ?_
  refine sim_iconst (-1 : Int32) dX6_findKings_12 rfl rfl ?_
  refine sim_iastore (k := 25) (hL.1 25 rfl) rfl rfl dX6_findKings_13 rfl ?_
  refine sim_lw (fun w2 => ?_)
  refine sim_iconst (0 : Int32) dX6_findKings_14 rfl rfl ?_
  refine sim_istore_n [(1, .int (0 : Int32)), (0, .ref (Ea E 22))] dX6_findKings_15 (Nat.le_of_ble_eq_true rfl) rfl rfl ?_
  exact sim_sub [1, 0] rfl (sl_X6_findKings_16 hL (sf_X6_findKings_68 hL) (sf_X6_findKings_83 hL) FU (0 : Int32) w2)
def f_X6_moverKind_26 (N : Nat) (s0 : Int32) (w : Wd) : Option (Int32 × Wd) :=
  some (s0, w)
set_option maxRecDepth 20000 in
theorem sf_X6_moverKind_26 {E : Ev} (hL : LX E) (s0 : Int32) (w : Wd) : Sim E m_X6_moverKind rI 26 [] [.int s0] w (f_X6_moverKind_26 (En E) s0 w) := by
  unfold f_X6_moverKind_26
  exact sim_iret rfl dX6_moverKind_26
def f_X6_moverKind (N : Nat) (v1 : Int32) (w : Wd) : Option (Int32 × Wd) :=
  bd (f_X3_isSetting v1 w) fun x1 w2 =>
  if x1 = (0 : Int32) then
  bd (f_X3_fromOf v1 w2) fun x3 w4 =>
  if inb x3 (N * N) = true then
  bd (f_X2_kindOf (w4.1 23 (Int32.toNatClampNeg x3)) w4) fun x5 w6 =>
  f_X6_moverKind_26 N x5 w6
  else none
  else
  bd (f_X3_setKindOf v1 w2) fun x7 w8 =>
  f_X6_moverKind_26 N x7 w8
set_option maxRecDepth 20000 in
theorem c_X6_moverKind {E : Ev} (hL : LX E) (v1 : Int32) (w : Wd) : Ct E m_X6_moverKind yX6_moverKind rI [.ref (Ea E 22), .int v1] w (f_X6_moverKind (En E) v1 w) := by
  refine Ct.of (by decide) ⟨rfl, rfl⟩ (Nat.le_of_ble_eq_true rfl) ?_
  show Sim E m_X6_moverKind rI 0 [(0, .ref (Ea E 22)), (1, .int v1)] [] w (f_X6_moverKind (En E) v1 w)
  unfold f_X6_moverKind
  refine sim_iload_n 1 dX6_moverKind_0 rfl rfl ?_
  refine sim_cSi [.int v1] [] (c_X3_isSetting v1 w) cb_X6_66 sx_X3_isSetting rfl rfl rfl (Nat.le_of_ble_eq_true rfl) dX6_moverKind_1 rfl (fun x1 w2 => ?_)
  refine sim_if_eq 14 dX6_moverKind_4 rfl rfl (fun _ => ?_) (fun _ => ?_)
  · refine sim_aload_n 0 dX6_moverKind_14 rfl rfl ?_
    refine sim_get (k := 22) (ci := 4) (j := 3) (v := .ref (Ea E 23)) (hL.1 22 rfl) rfl (by decide) fl_X6_33 rfl dX6_moverKind_15 rfl ?_
    refine sim_iload_n 1 dX6_moverKind_18 rfl rfl ?_
    refine sim_cSi [.int v1] [.ref (Ea E 23)] (c_X3_fromOf v1 w2) cb_X6_72 sx_X3_fromOf rfl rfl rfl (Nat.le_of_ble_eq_true rfl) dX6_moverKind_19 rfl (fun x3 w4 => ?_)
    refine sim_iaload (k := 23) (hL.1 23 rfl) rfl rfl dX6_moverKind_22 rfl ?_
    refine sim_cSi [.int (w4.1 23 (Int32.toNatClampNeg x3))] [] (c_X2_kindOf (w4.1 23 (Int32.toNatClampNeg x3)) w4) cb_X6_51 sx_X2_kindOf rfl rfl rfl (Nat.le_of_ble_eq_true rfl) dX6_moverKind_23 rfl (fun x5 w6 => ?_)
    exact sim_sub [] rfl (sf_X6_moverKind_26 hL x5 w6)
  · refine sim_iload_n 1 dX6_moverKind_7 rfl rfl ?_
    refine sim_cSi [.int v1] [] (c_X3_setKindOf v1 w2) cb_X6_69 sx_X3_setKindOf rfl rfl rfl (Nat.le_of_ble_eq_true rfl) dX6_moverKind_8 rfl (fun x7 w8 => ?_)
    refine sim_goto (q := 26) dX6_moverKind_11 rfl ?_
    exact sim_sub [] rfl (sf_X6_moverKind_26 hL x7 w8)
def f_X7_add_27 (N : Nat) (w : Wd) : Option (Unit × Wd) :=
  some ((), w)
set_option maxRecDepth 20000 in
theorem sf_X7_add_27 {E : Ev} (hL : LX E) (w : Wd) : Sim E m_X7_add rV 27 [] [] w (f_X7_add_27 (En E) w) := by
  unfold f_X7_add_27
  exact sim_vret rfl dX7_add_27
def f_X7_add (N : Nat) (v1 : Int32) (w : Wd) : Option (Unit × Wd) :=
  if (2000 : Int32) ≤ (w.1 33 2) then
  f_X7_add_27 N w
  else
  lw (wdI w 33 2 ((w.1 33 2) + (1 : Int32))) fun w1 =>
  if inb (w.1 33 2) 2000 = true then
  lw (wdI w1 34 (Int32.toNatClampNeg (w.1 33 2)) v1) fun w2 =>
  f_X7_add_27 N w2
  else none
set_option maxRecDepth 20000 in
theorem c_X7_add {E : Ev} (hL : LX E) (v1 : Int32) (w : Wd) : Ct E m_X7_add yX7_add rV [.ref (Ea E 33), .int v1] w (f_X7_add (En E) v1 w) := by
  refine Ct.of (by decide) ⟨rfl, rfl⟩ (Nat.le_of_ble_eq_true rfl) ?_
  show Sim E m_X7_add rV 0 [(0, .ref (Ea E 33)), (1, .int v1)] [] w (f_X7_add (En E) v1 w)
  unfold f_X7_add
  refine sim_aload_n 0 dX7_add_0 rfl rfl ?_
  refine sim_get (k := 33) (ci := 5) (j := 2) (v := .int (w.1 33 2)) (hL.1 33 rfl) rfl (by decide) fl_X7_19 rfl dX7_add_1 rfl ?_
  refine sim_sipush (2000 : Int32) dX7_add_4 rfl rfl ?_
  refine sim_icmp_ge 27 dX7_add_7 rfl rfl (fun _ => ?_) (fun _ => ?_)
  · exact sim_sub [] rfl (sf_X7_add_27 hL w)
  · refine sim_aload_n 0 dX7_add_10 rfl rfl ?_
    refine sim_get (k := 33) (ci := 5) (j := 1) (v := .ref (Ea E 34)) (hL.1 33 rfl) rfl (by decide) fl_X7_11 rfl dX7_add_11 rfl ?_
    refine sim_aload_n 0 dX7_add_14 rfl rfl ?_
    refine sim_dup dX7_add_15 rfl rfl ?_
    refine sim_get (k := 33) (ci := 5) (j := 2) (v := .int (w.1 33 2)) (hL.1 33 rfl) rfl (by decide) fl_X7_19 rfl dX7_add_16 rfl ?_
    refine sim_dup_x1 dX7_add_19 rfl rfl rfl ?_
    refine sim_iconst (1 : Int32) dX7_add_20 rfl rfl ?_
    refine sim_iadd dX7_add_21 rfl ?_
    refine sim_put (k := 33) (ci := 5) (j := 2) (hL.1 33 rfl) rfl (by decide) fp_X7_19 rfl rfl (st_33_2 _ _ _) (Nat.le_of_ble_eq_true rfl) dX7_add_22 rfl ?_
    refine sim_lw (fun w1 => ?_)
    refine sim_iload_n 1 dX7_add_25 rfl rfl ?_
    refine sim_iastore (k := 34) (hL.1 34 rfl) rfl rfl dX7_add_26 rfl ?_
    refine sim_lw (fun w2 => ?_)
    exact sim_sub [] rfl (sf_X7_add_27 hL w2)
def f_X7_addField (N : Nat) (v1 : Int32) (w : Wd) : Option (Unit × Wd) :=
  if ¬ (w.1 33 0) = (0 : Int32) then
  bd (f_X7_add N ((97 : Int32) + (v1 - v1 / (w.1 33 0) * (w.1 33 0))) w) fun _ w1 =>
  if ¬ (w1.1 33 0) = (0 : Int32) then
  bd (f_X7_add N ((49 : Int32) + (v1 / (w1.1 33 0))) w1) fun _ w2 =>
  some ((), w2)
  else none
  else none
set_option maxRecDepth 20000 in
theorem c_X7_addField {E : Ev} (hL : LX E) (v1 : Int32) (w : Wd) : Ct E m_X7_addField yX7_addField rV [.ref (Ea E 33), .int v1] w (f_X7_addField (En E) v1 w) := by
  refine Ct.of (by decide) ⟨rfl, rfl⟩ (Nat.le_of_ble_eq_true rfl) ?_
  show Sim E m_X7_addField rV 0 [(0, .ref (Ea E 33)), (1, .int v1)] [] w (f_X7_addField (En E) v1 w)
  unfold f_X7_addField
  refine sim_aload_n 0 dX7_addField_0 rfl rfl ?_
  refine sim_bipush (97 : Int32) dX7_addField_1 rfl rfl ?_
  refine sim_iload_n 1 dX7_addField_3 rfl rfl ?_
  refine sim_aload_n 0 dX7_addField_4 rfl rfl ?_
  refine sim_get (k := 33) (ci := 5) (j := 0) (v := .int (w.1 33 0)) (hL.1 33 rfl) rfl (by decide) fl_X7_15 rfl dX7_addField_5 rfl ?_
  refine sim_irem dX7_addField_8 rfl ?_
  refine sim_iadd dX7_addField_9 rfl ?_
  refine sim_cVv (k := 33) (ci := 5) [.int ((97 : Int32) + (v1 - v1 / (w.1 33 0) * (w.1 33 0)))] [] (c_X7_add hL ((97 : Int32) + (v1 - v1 / (w.1 33 0) * (w.1 33 0))) w) (hL.1 33 rfl) rfl (by decide) rfl cb_X7_27 im_X7_add se_X7_add rfl rfl rfl (Nat.le_of_ble_eq_true rfl) dX7_addField_10 rfl (fun _ w1 => ?_)
  refine sim_aload_n 0 dX7_addField_13 rfl rfl ?_
  refine sim_bipush (49 : Int32) dX7_addField_14 rfl rfl ?_
  refine sim_iload_n 1 dX7_addField_16 rfl rfl ?_
  refine sim_aload_n 0 dX7_addField_17 rfl rfl ?_
  refine sim_get (k := 33) (ci := 5) (j := 0) (v := .int (w1.1 33 0)) (hL.1 33 rfl) rfl (by decide) fl_X7_15 rfl dX7_addField_18 rfl ?_
  refine sim_idiv dX7_addField_21 rfl ?_
  refine sim_iadd dX7_addField_22 rfl ?_
  refine sim_cVv (k := 33) (ci := 5) [.int ((49 : Int32) + (v1 / (w1.1 33 0)))] [] (c_X7_add hL ((49 : Int32) + (v1 / (w1.1 33 0))) w1) (hL.1 33 rfl) rfl (by decide) rfl cb_X7_27 im_X7_add se_X7_add rfl rfl rfl (Nat.le_of_ble_eq_true rfl) dX7_addField_23 rfl (fun _ w2 => ?_)
  exact sim_vret rfl dX7_addField_26
def f_X7_addMove_56 (N : Nat) (w : Wd) : Option (Unit × Wd) :=
  some ((), w)
set_option maxRecDepth 20000 in
theorem sf_X7_addMove_56 {E : Ev} (hL : LX E) (w : Wd) : Sim E m_X7_addMove rV 56 [] [] w (f_X7_addMove_56 (En E) w) := by
  unfold f_X7_addMove_56
  exact sim_vret rfl dX7_addMove_56
def f_X7_addMove_35 (N : Nat) (v1 : Int32) (w : Wd) : Option (Unit × Wd) :=
  bd (f_X3_toOf v1 w) fun x6 w7 =>
  bd (f_X7_addField N x6 w7) fun _ w8 =>
  bd (f_X3_raises v1 w8) fun x9 w10 =>
  if x9 = (0 : Int32) then
  f_X7_addMove_56 N w10
  else
  bd (f_X7_add N (43 : Int32) w10) fun _ w11 =>
  f_X7_addMove_56 N w11
set_option maxRecDepth 20000 in
theorem sf_X7_addMove_35 {E : Ev} (hL : LX E) (v1 : Int32) (w : Wd) : Sim E m_X7_addMove rV 35 [(0, .ref (Ea E 33)), (1, .int v1)] [] w (f_X7_addMove_35 (En E) v1 w) := by
  unfold f_X7_addMove_35
  refine sim_aload_n 0 dX7_addMove_35 rfl rfl ?_
  refine sim_iload_n 1 dX7_addMove_36 rfl rfl ?_
  refine sim_cSi [.int v1] [.ref (Ea E 33)] (c_X3_toOf v1 w) cb_X7_53 sx_X3_toOf rfl rfl rfl (Nat.le_of_ble_eq_true rfl) dX7_addMove_37 rfl (fun x6 w7 => ?_)
  refine sim_cVv (k := 33) (ci := 5) [.int x6] [] (c_X7_addField hL x6 w7) (hL.1 33 rfl) rfl (by decide) rfl cb_X7_50 im_X7_addField se_X7_addField rfl rfl rfl (Nat.le_of_ble_eq_true rfl) dX7_addMove_40 rfl (fun _ w8 => ?_)
  refine sim_iload_n 1 dX7_addMove_43 rfl rfl ?_
  refine sim_cSi [.int v1] [] (c_X3_raises v1 w8) cb_X7_56 sx_X3_raises rfl rfl rfl (Nat.le_of_ble_eq_true rfl) dX7_addMove_44 rfl (fun x9 w10 => ?_)
  refine sim_if_eq 56 dX7_addMove_47 rfl rfl (fun _ => ?_) (fun _ => ?_)
  · exact sim_sub [] rfl (sf_X7_addMove_56 hL w10)
  · refine sim_aload_n 0 dX7_addMove_50 rfl rfl ?_
    refine sim_bipush (43 : Int32) dX7_addMove_51 rfl rfl ?_
    refine sim_cVv (k := 33) (ci := 5) [.int (43 : Int32)] [] (c_X7_add hL (43 : Int32) w10) (hL.1 33 rfl) rfl (by decide) rfl cb_X7_27 im_X7_add se_X7_add rfl rfl rfl (Nat.le_of_ble_eq_true rfl) dX7_addMove_53 rfl (fun _ w11 => ?_)
    exact sim_sub [] rfl (sf_X7_addMove_56 hL w11)
def f_X7_addMove (N : Nat) (v1 : Int32) (w : Wd) : Option (Unit × Wd) :=
  bd (f_X3_isSetting v1 w) fun x1 w2 =>
  if x1 = (0 : Int32) then
  bd (f_X3_fromOf v1 w2) fun x3 w4 =>
  bd (f_X7_addField N x3 w4) fun _ w5 =>
  f_X7_addMove_35 N v1 w5
  else
  bd (f_X3_setKindOf v1 w2) fun x12 w13 =>
  bd (f_X7_add N ((48 : Int32) + x12) w13) fun _ w14 =>
  bd (f_X7_add N (42 : Int32) w14) fun _ w15 =>
  f_X7_addMove_35 N v1 w15
set_option maxRecDepth 20000 in
theorem c_X7_addMove {E : Ev} (hL : LX E) (v1 : Int32) (w : Wd) : Ct E m_X7_addMove yX7_addMove rV [.ref (Ea E 33), .int v1] w (f_X7_addMove (En E) v1 w) := by
  refine Ct.of (by decide) ⟨rfl, rfl⟩ (Nat.le_of_ble_eq_true rfl) ?_
  show Sim E m_X7_addMove rV 0 [(0, .ref (Ea E 33)), (1, .int v1)] [] w (f_X7_addMove (En E) v1 w)
  unfold f_X7_addMove
  refine sim_iload_n 1 dX7_addMove_0 rfl rfl ?_
  refine sim_cSi [.int v1] [] (c_X3_isSetting v1 w) cb_X7_38 sx_X3_isSetting rfl rfl rfl (Nat.le_of_ble_eq_true rfl) dX7_addMove_1 rfl (fun x1 w2 => ?_)
  refine sim_if_eq 27 dX7_addMove_4 rfl rfl (fun _ => ?_) (fun _ => ?_)
  · refine sim_aload_n 0 dX7_addMove_27 rfl rfl ?_
    refine sim_iload_n 1 dX7_addMove_28 rfl rfl ?_
    refine sim_cSi [.int v1] [.ref (Ea E 33)] (c_X3_fromOf v1 w2) cb_X7_47 sx_X3_fromOf rfl rfl rfl (Nat.le_of_ble_eq_true rfl) dX7_addMove_29 rfl (fun x3 w4 => ?_)
    refine sim_cVv (k := 33) (ci := 5) [.int x3] [] (c_X7_addField hL x3 w4) (hL.1 33 rfl) rfl (by decide) rfl cb_X7_50 im_X7_addField se_X7_addField rfl rfl rfl (Nat.le_of_ble_eq_true rfl) dX7_addMove_32 rfl (fun _ w5 => ?_)
    exact sim_sub [0, 1] rfl (sf_X7_addMove_35 hL v1 w5)
  · refine sim_aload_n 0 dX7_addMove_7 rfl rfl ?_
    refine sim_bipush (48 : Int32) dX7_addMove_8 rfl rfl ?_
    refine sim_iload_n 1 dX7_addMove_10 rfl rfl ?_
    refine sim_cSi [.int v1] [.int (48 : Int32), .ref (Ea E 33)] (c_X3_setKindOf v1 w2) cb_X7_44 sx_X3_setKindOf rfl rfl rfl (Nat.le_of_ble_eq_true rfl) dX7_addMove_11 rfl (fun x12 w13 => ?_)
    refine sim_iadd dX7_addMove_14 rfl ?_
    refine sim_cVv (k := 33) (ci := 5) [.int ((48 : Int32) + x12)] [] (c_X7_add hL ((48 : Int32) + x12) w13) (hL.1 33 rfl) rfl (by decide) rfl cb_X7_27 im_X7_add se_X7_add rfl rfl rfl (Nat.le_of_ble_eq_true rfl) dX7_addMove_15 rfl (fun _ w14 => ?_)
    refine sim_aload_n 0 dX7_addMove_18 rfl rfl ?_
    refine sim_bipush (42 : Int32) dX7_addMove_19 rfl rfl ?_
    refine sim_cVv (k := 33) (ci := 5) [.int (42 : Int32)] [] (c_X7_add hL (42 : Int32) w14) (hL.1 33 rfl) rfl (by decide) rfl cb_X7_27 im_X7_add se_X7_add rfl rfl rfl (Nat.le_of_ble_eq_true rfl) dX7_addMove_21 rfl (fun _ w15 => ?_)
    refine sim_goto (q := 35) dX7_addMove_24 rfl ?_
    exact sim_sub [0, 1] rfl (sf_X7_addMove_35 hL v1 w15)
def f_X7_setDown_25 (N : Nat) (R : Nat → Int32 → Wd → Option (Unit × Wd)) (K40 : Wd → Option (Unit × Wd)) (v1 : Nat) (v2 : Int32) (w : Wd) : Option (Unit × Wd) :=
  if okP v1 = true then
  bd (f_X4_codeOf N v1 v2 w) fun x3 w4 =>
  bd (f_X7_addMove N x3 w4) fun _ w6 =>
  R v1 (v2 + (1 : Int32)) w6
  else none
set_option maxRecDepth 20000 in
theorem sf_X7_setDown_25 {E : Ev} (hL : LX E) {R : Nat → Int32 → Wd → Option (Unit × Wd)} (hR : ∀ (v1 : Nat) (v2 : Int32) (w : Wd), Sim E m_X7_setDown rV 7 [(0, .ref (Ea E 33)), (1, .ref (Ea E v1)), (2, .int v2)] [] w (R v1 v2 w)) {K40 : Wd → Option (Unit × Wd)} (hK40 : ∀ (w : Wd), Sim E m_X7_setDown rV 40 [] [] w (K40  w)) (v1 : Nat) (v2 : Int32) (w : Wd) : Sim E m_X7_setDown rV 25 [(0, .ref (Ea E 33)), (1, .ref (Ea E v1)), (2, .int v2)] [] w (f_X7_setDown_25 (En E) R K40 v1 v2 w) := by
  unfold f_X7_setDown_25
  refine sim_aload_n 0 dX7_setDown_25 rfl rfl ?_
  refine sim_aload_n 1 dX7_setDown_26 rfl rfl ?_
  refine sim_iload_n 2 dX7_setDown_27 rfl rfl ?_
  refine sim_guard (fun hp5 => ?_)
  refine sim_cVi (k := v1) (ci := 2) [.int v2] [.ref (Ea E 33)] (c_X4_codeOf hL hp5 v2 w) (okP_in hp5 hL).1 (okP_kd hp5).1 (by decide) rfl cb_X7_31 im_X4_codeOf se_X4_codeOf rfl rfl rfl (Nat.le_of_ble_eq_true rfl) dX7_setDown_28 rfl (fun x3 w4 => ?_)
  refine sim_cVv (k := 33) (ci := 5) [.int x3] [] (c_X7_addMove hL x3 w4) (hL.1 33 rfl) rfl (by decide) rfl cb_X7_35 im_X7_addMove se_X7_addMove rfl rfl rfl (Nat.le_of_ble_eq_true rfl) dX7_setDown_31 rfl (fun _ w6 => ?_)
  refine sim_iinc (v2 + (1 : Int32)) 2 [(2, .int (v2 + (1 : Int32))), (0, .ref (Ea E 33)), (1, .ref (Ea E v1))] dX7_setDown_34 rfl rfl (Nat.le_of_ble_eq_true rfl) rfl rfl ?_
  refine sim_goto (q := 7) dX7_setDown_37 rfl ?_
  exact sim_sub [1, 2, 0] rfl (hR v1 (v2 + (1 : Int32)) w6)
def b_X7_setDown_7 (N : Nat) (R : Nat → Int32 → Wd → Option (Unit × Wd)) (K40 : Wd → Option (Unit × Wd)) (v1 : Nat) (v2 : Int32) (w : Wd) : Option (Unit × Wd) :=
  if okP v1 = true then
  if (w.1 v1 6) ≤ v2 then
  K40 w
  else
  if v2 ≤ (0 : Int32) then
  f_X7_setDown_25 N R K40 v1 v2 w
  else
  bd (f_X7_add N (32 : Int32) w) fun _ w7 =>
  f_X7_setDown_25 N R K40 v1 v2 w7
  else none
set_option maxRecDepth 20000 in
theorem sb_X7_setDown_7 {E : Ev} (hL : LX E) {R : Nat → Int32 → Wd → Option (Unit × Wd)} (hR : ∀ (v1 : Nat) (v2 : Int32) (w : Wd), Sim E m_X7_setDown rV 7 [(0, .ref (Ea E 33)), (1, .ref (Ea E v1)), (2, .int v2)] [] w (R v1 v2 w)) {K40 : Wd → Option (Unit × Wd)} (hK40 : ∀ (w : Wd), Sim E m_X7_setDown rV 40 [] [] w (K40  w)) (v1 : Nat) (v2 : Int32) (w : Wd) : Sim E m_X7_setDown rV 7 [(0, .ref (Ea E 33)), (1, .ref (Ea E v1)), (2, .int v2)] [] w (b_X7_setDown_7 (En E) R K40 v1 v2 w) := by
  unfold b_X7_setDown_7
  refine sim_iload_n 2 dX7_setDown_7 rfl rfl ?_
  refine sim_aload_n 1 dX7_setDown_8 rfl rfl ?_
  refine sim_guard (fun hp2 => ?_)
  refine sim_get (k := v1) (ci := 2) (j := 6) (v := .int (w.1 v1 6)) (okP_in hp2 hL).1 (okP_kd hp2).1 (by decide) fl_X7_22 (by rw [fvs_P (okP_kd hp2).1]; rfl) dX7_setDown_9 rfl ?_
  refine sim_icmp_ge 40 dX7_setDown_12 rfl rfl (fun _ => ?_) (fun _ => ?_)
  · exact sim_sub [] rfl (hK40 w)
  · refine sim_iload_n 2 dX7_setDown_15 rfl rfl ?_
    refine sim_if_le 25 dX7_setDown_16 rfl rfl (fun _ => ?_) (fun _ => ?_)
    · exact sim_sub [0, 1, 2] rfl (sf_X7_setDown_25 hL hR hK40 v1 v2 w)
    · refine sim_aload_n 0 dX7_setDown_19 rfl rfl ?_
      refine sim_bipush (32 : Int32) dX7_setDown_20 rfl rfl ?_
      refine sim_cVv (k := 33) (ci := 5) [.int (32 : Int32)] [] (c_X7_add hL (32 : Int32) w) (hL.1 33 rfl) rfl (by decide) rfl cb_X7_27 im_X7_add se_X7_add rfl rfl rfl (Nat.le_of_ble_eq_true rfl) dX7_setDown_22 rfl (fun _ w7 => ?_)
      exact sim_sub [0, 1, 2] rfl (sf_X7_setDown_25 hL hR hK40 v1 v2 w7)
def l_X7_setDown_7 (N : Nat) (K40 : Wd → Option (Unit × Wd)) (n : Nat) : Nat → Int32 → Wd → Option (Unit × Wd) := itr (fun _ _ _ => none) (fun R => b_X7_setDown_7 N R K40) n
set_option maxRecDepth 20000 in
theorem sl_X7_setDown_7 {E : Ev} (hL : LX E) {K40 : Wd → Option (Unit × Wd)} (hK40 : ∀ (w : Wd), Sim E m_X7_setDown rV 40 [] [] w (K40  w)) : ∀ (n : Nat) (v1 : Nat) (v2 : Int32) (w : Wd), Sim E m_X7_setDown rV 7 [(0, .ref (Ea E 33)), (1, .ref (Ea E v1)), (2, .int v2)] [] w (l_X7_setDown_7 (En E) K40 n v1 v2 w) := by
  intro n
  induction n with
  | zero => intros; exact sim_none
  | succ n ih => intros; exact sb_X7_setDown_7 hL (R := l_X7_setDown_7 (En E) K40 n) ih hK40 _ _ _
def f_X7_setDown_40 (N : Nat) (w : Wd) : Option (Unit × Wd) :=
  some ((), w)
set_option maxRecDepth 20000 in
theorem sf_X7_setDown_40 {E : Ev} (hL : LX E) (w : Wd) : Sim E m_X7_setDown rV 40 [] [] w (f_X7_setDown_40 (En E) w) := by
  unfold f_X7_setDown_40
  exact sim_vret rfl dX7_setDown_40
def f_X7_setDown (N : Nat) (v1 : Nat) (w : Wd) : Option (Unit × Wd) :=
  lw (wdI w 33 2 (0 : Int32)) fun w1 =>
  l_X7_setDown_7 N (f_X7_setDown_40 N) FU v1 (0 : Int32) w1
set_option maxRecDepth 20000 in
theorem c_X7_setDown {E : Ev} (hL : LX E) (v1 : Nat) (w : Wd) : Ct E m_X7_setDown yX7_setDown rV [.ref (Ea E 33), .ref (Ea E v1)] w (f_X7_setDown (En E) v1 w) := by
  refine Ct.of (by decide) ⟨rfl, rfl⟩ (Nat.le_of_ble_eq_true rfl) ?_
  show Sim E m_X7_setDown rV 0 [(0, .ref (Ea E 33)), (1, .ref (Ea E v1))] [] w (f_X7_setDown (En E) v1 w)
  unfold f_X7_setDown
  refine sim_aload_n 0 dX7_setDown_0 rfl rfl ?_
  refine sim_iconst (0 : Int32) dX7_setDown_1 rfl rfl ?_
  refine sim_put (k := 33) (ci := 5) (j := 2) (hL.1 33 rfl) rfl (by decide) fp_X7_19 rfl rfl (st_33_2 _ _ _) (Nat.le_of_ble_eq_true rfl) dX7_setDown_2 rfl ?_
  refine sim_lw (fun w1 => ?_)
  refine sim_iconst (0 : Int32) dX7_setDown_5 rfl rfl ?_
  refine sim_istore_n [(2, .int (0 : Int32)), (0, .ref (Ea E 33)), (1, .ref (Ea E v1))] dX7_setDown_6 (Nat.le_of_ble_eq_true rfl) rfl rfl ?_
  exact sim_sub [1, 2, 0] rfl (sl_X7_setDown_7 hL (sf_X7_setDown_40 hL) FU v1 (0 : Int32) w1)
def f_X7_fieldAt_58 (N : Nat) (s0 : Int32) (w : Wd) : Option (Int32 × Wd) :=
  some (s0, w)
set_option maxRecDepth 20000 in
theorem sf_X7_fieldAt_58 {E : Ev} (hL : LX E) (s0 : Int32) (w : Wd) : Sim E m_X7_fieldAt rI 58 [] [.int s0] w (f_X7_fieldAt_58 (En E) s0 w) := by
  unfold f_X7_fieldAt_58
  exact sim_iret rfl dX7_fieldAt_58
def f_X7_fieldAt_46 (N : Nat) (w : Wd) : Option (Int32 × Wd) :=
  f_X7_fieldAt_58 N (-1 : Int32) w
set_option maxRecDepth 20000 in
theorem sf_X7_fieldAt_46 {E : Ev} (hL : LX E) (w : Wd) : Sim E m_X7_fieldAt rI 46 [] [] w (f_X7_fieldAt_46 (En E) w) := by
  unfold f_X7_fieldAt_46
  refine sim_iconst (-1 : Int32) dX7_fieldAt_46 rfl rfl ?_
  refine sim_goto (q := 58) dX7_fieldAt_47 rfl ?_
  exact sim_sub [] rfl (sf_X7_fieldAt_58 hL (-1 : Int32) w)
def f_X7_fieldAt (N : Nat) (v1 : Int32) (w : Wd) : Option (Int32 × Wd) :=
  if inb v1 2000 = true then
  lt ((w.1 34 (Int32.toNatClampNeg v1)) - (97 : Int32)) fun x1 =>
  if inb (v1 + (1 : Int32)) 2000 = true then
  lt ((w.1 34 (Int32.toNatClampNeg (v1 + (1 : Int32)))) - (49 : Int32)) fun x2 =>
  if x1 < (0 : Int32) then
  f_X7_fieldAt_46 N w
  else
  if (w.1 33 0) ≤ x1 then
  f_X7_fieldAt_46 N w
  else
  if x2 < (0 : Int32) then
  f_X7_fieldAt_46 N w
  else
  if x2 < (w.1 33 0) then
  f_X7_fieldAt_58 N (((w.1 33 0) * x2) + x1) w
  else
  f_X7_fieldAt_46 N w
  else none
  else none
set_option maxRecDepth 20000 in
theorem c_X7_fieldAt {E : Ev} (hL : LX E) (v1 : Int32) (w : Wd) : Ct E m_X7_fieldAt yX7_fieldAt rI [.ref (Ea E 33), .int v1] w (f_X7_fieldAt (En E) v1 w) := by
  refine Ct.of (by decide) ⟨rfl, rfl⟩ (Nat.le_of_ble_eq_true rfl) ?_
  show Sim E m_X7_fieldAt rI 0 [(0, .ref (Ea E 33)), (1, .int v1)] [] w (f_X7_fieldAt (En E) v1 w)
  unfold f_X7_fieldAt
  refine sim_aload_n 0 dX7_fieldAt_0 rfl rfl ?_
  refine sim_get (k := 33) (ci := 5) (j := 1) (v := .ref (Ea E 34)) (hL.1 33 rfl) rfl (by decide) fl_X7_11 rfl dX7_fieldAt_1 rfl ?_
  refine sim_iload_n 1 dX7_fieldAt_4 rfl rfl ?_
  refine sim_iaload (k := 34) (hL.1 34 rfl) rfl rfl dX7_fieldAt_5 rfl ?_
  refine sim_bipush (97 : Int32) dX7_fieldAt_6 rfl rfl ?_
  refine sim_isub dX7_fieldAt_8 rfl ?_
  refine sim_lt (fun x1 => ?_)
  refine sim_istore_n [(2, .int x1), (0, .ref (Ea E 33)), (1, .int v1)] dX7_fieldAt_9 (Nat.le_of_ble_eq_true rfl) rfl rfl ?_
  refine sim_aload_n 1 dX7_fieldAt_10 rfl rfl ?_
  refine sim_get (k := 33) (ci := 5) (j := 1) (v := .ref (Ea E 34)) (hL.1 33 rfl) rfl (by decide) fl_X7_11 rfl dX7_fieldAt_11 rfl ?_
  refine sim_iload_n 2 dX7_fieldAt_14 rfl rfl ?_
  refine sim_iconst (1 : Int32) dX7_fieldAt_15 rfl rfl ?_
  refine sim_iadd dX7_fieldAt_16 rfl ?_
  refine sim_iaload (k := 34) (hL.1 34 rfl) rfl rfl dX7_fieldAt_17 rfl ?_
  refine sim_bipush (49 : Int32) dX7_fieldAt_18 rfl rfl ?_
  refine sim_isub dX7_fieldAt_20 rfl ?_
  refine sim_lt (fun x2 => ?_)
  refine sim_istore_n [(3, .int x2), (2, .int x1), (0, .ref (Ea E 33)), (1, .int v1)] dX7_fieldAt_21 (Nat.le_of_ble_eq_true rfl) rfl rfl ?_
  refine sim_iload_n 1 dX7_fieldAt_22 rfl rfl ?_
  refine sim_if_lt 46 dX7_fieldAt_23 rfl rfl (fun _ => ?_) (fun _ => ?_)
  · exact sim_sub [] rfl (sf_X7_fieldAt_46 hL w)
  · refine sim_iload_n 1 dX7_fieldAt_26 rfl rfl ?_
    refine sim_aload_n 2 dX7_fieldAt_27 rfl rfl ?_
    refine sim_get (k := 33) (ci := 5) (j := 0) (v := .int (w.1 33 0)) (hL.1 33 rfl) rfl (by decide) fl_X7_15 rfl dX7_fieldAt_28 rfl ?_
    refine sim_icmp_ge 46 dX7_fieldAt_31 rfl rfl (fun _ => ?_) (fun _ => ?_)
    · exact sim_sub [] rfl (sf_X7_fieldAt_46 hL w)
    · refine sim_iload_n 0 dX7_fieldAt_34 rfl rfl ?_
      refine sim_if_lt 46 dX7_fieldAt_35 rfl rfl (fun _ => ?_) (fun _ => ?_)
      · exact sim_sub [] rfl (sf_X7_fieldAt_46 hL w)
      · refine sim_iload_n 0 dX7_fieldAt_38 rfl rfl ?_
        refine sim_aload_n 2 dX7_fieldAt_39 rfl rfl ?_
        refine sim_get (k := 33) (ci := 5) (j := 0) (v := .int (w.1 33 0)) (hL.1 33 rfl) rfl (by decide) fl_X7_15 rfl dX7_fieldAt_40 rfl ?_
        refine sim_icmp_lt 50 dX7_fieldAt_43 rfl rfl (fun _ => ?_) (fun _ => ?_)
        · refine sim_aload_n 2 dX7_fieldAt_50 rfl rfl ?_
          refine sim_get (k := 33) (ci := 5) (j := 0) (v := .int (w.1 33 0)) (hL.1 33 rfl) rfl (by decide) fl_X7_15 rfl dX7_fieldAt_51 rfl ?_
          refine sim_iload_n 0 dX7_fieldAt_54 rfl rfl ?_
          refine sim_imul dX7_fieldAt_55 rfl ?_
          refine sim_iload_n 1 dX7_fieldAt_56 rfl rfl ?_
          refine sim_iadd dX7_fieldAt_57 rfl ?_
          exact sim_sub [] rfl (sf_X7_fieldAt_58 hL (((w.1 33 0) * x2) + x1) w)
        · exact sim_sub [] rfl (sf_X7_fieldAt_46 hL w)
def f_X9_isHandKind_16 (N : Nat) (s0 : Int32) (w : Wd) : Option (Int32 × Wd) :=
  if zb s0 = true then some (s0, w) else none
set_option maxRecDepth 20000 in
theorem sf_X9_isHandKind_16 {E : Ev} (hL : LX E) (s0 : Int32) (w : Wd) : Sim E m_X9_isHandKind rI 16 [] [.int s0] w (f_X9_isHandKind_16 (En E) s0 w) := by
  unfold f_X9_isHandKind_16
  exact sim_zret rfl dX9_isHandKind_16
def f_X9_isHandKind_15 (N : Nat) (w : Wd) : Option (Int32 × Wd) :=
  f_X9_isHandKind_16 N (0 : Int32) w
set_option maxRecDepth 20000 in
theorem sf_X9_isHandKind_15 {E : Ev} (hL : LX E) (w : Wd) : Sim E m_X9_isHandKind rI 15 [] [] w (f_X9_isHandKind_15 (En E) w) := by
  unfold f_X9_isHandKind_15
  refine sim_iconst (0 : Int32) dX9_isHandKind_15 rfl rfl ?_
  exact sim_sub [] rfl (sf_X9_isHandKind_16 hL (0 : Int32) w)
def f_X9_isHandKind (N : Nat) (v0 : Int32) (w : Wd) : Option (Int32 × Wd) :=
  if v0 < (1 : Int32) then
  f_X9_isHandKind_15 N w
  else
  if (7 : Int32) < v0 then
  f_X9_isHandKind_15 N w
  else
  f_X9_isHandKind_16 N (1 : Int32) w
set_option maxRecDepth 20000 in
theorem c_X9_isHandKind {E : Ev} (hL : LX E) (v0 : Int32) (w : Wd) : Ct E m_X9_isHandKind yX9_isHandKind rI [.int v0] w (f_X9_isHandKind (En E) v0 w) := by
  refine Ct.of (by decide) ⟨rfl, rfl⟩ (Nat.le_of_ble_eq_true rfl) ?_
  show Sim E m_X9_isHandKind rI 0 [(0, .int v0)] [] w (f_X9_isHandKind (En E) v0 w)
  unfold f_X9_isHandKind
  refine sim_iload_n 0 dX9_isHandKind_0 rfl rfl ?_
  refine sim_iconst (1 : Int32) dX9_isHandKind_1 rfl rfl ?_
  refine sim_icmp_lt 15 dX9_isHandKind_2 rfl rfl (fun _ => ?_) (fun _ => ?_)
  · exact sim_sub [] rfl (sf_X9_isHandKind_15 hL w)
  · refine sim_iload_n 0 dX9_isHandKind_5 rfl rfl ?_
    refine sim_bipush (7 : Int32) dX9_isHandKind_6 rfl rfl ?_
    refine sim_icmp_gt 15 dX9_isHandKind_8 rfl rfl (fun _ => ?_) (fun _ => ?_)
    · exact sim_sub [] rfl (sf_X9_isHandKind_15 hL w)
    · refine sim_iconst (1 : Int32) dX9_isHandKind_11 rfl rfl ?_
      refine sim_goto (q := 16) dX9_isHandKind_12 rfl ?_
      exact sim_sub [] rfl (sf_X9_isHandKind_16 hL (1 : Int32) w)
def f_X7_moveBetween_14 (N : Nat) (w : Wd) : Option (Int32 × Wd) :=
  some ((-1 : Int32), w)
set_option maxRecDepth 20000 in
theorem sf_X7_moveBetween_14 {E : Ev} (hL : LX E) (w : Wd) : Sim E m_X7_moveBetween rI 14 [] [] w (f_X7_moveBetween_14 (En E) w) := by
  unfold f_X7_moveBetween_14
  refine sim_iconst (-1 : Int32) dX7_moveBetween_14 rfl rfl ?_
  exact sim_iret rfl dX7_moveBetween_15
def f_X7_moveBetween_111 (N : Nat) (w : Wd) : Option (Int32 × Wd) :=
  some ((-1 : Int32), w)
set_option maxRecDepth 20000 in
theorem sf_X7_moveBetween_111 {E : Ev} (hL : LX E) (w : Wd) : Sim E m_X7_moveBetween rI 111 [] [] w (f_X7_moveBetween_111 (En E) w) := by
  unfold f_X7_moveBetween_111
  refine sim_iconst (-1 : Int32) dX7_moveBetween_111 rfl rfl ?_
  exact sim_iret rfl dX7_moveBetween_112
def f_X7_moveBetween_127 (N : Nat) (s0 : Int32) (s1 : Int32) (s2 : Int32) (w : Wd) : Option (Int32 × Wd) :=
  bd (f_X3_going s0 s1 s2 w) fun x6 w7 =>
  some (x6, w7)
set_option maxRecDepth 20000 in
theorem sf_X7_moveBetween_127 {E : Ev} (hL : LX E) (s0 : Int32) (s1 : Int32) (s2 : Int32) (w : Wd) : Sim E m_X7_moveBetween rI 127 [] [.int s2, .int s1, .int s0] w (f_X7_moveBetween_127 (En E) s0 s1 s2 w) := by
  unfold f_X7_moveBetween_127
  refine sim_cSi [.int s0, .int s1, .int s2] [] (c_X3_going s0 s1 s2 w) cb_X7_69 sx_X3_going rfl rfl rfl (Nat.le_of_ble_eq_true rfl) dX7_moveBetween_127 rfl (fun x6 w7 => ?_)
  exact sim_iret rfl dX7_moveBetween_130
def f_X7_moveBetween_113 (N : Nat) (v3 : Int32) (v4 : Int32) (v5 : Int32) (w : Wd) : Option (Int32 × Wd) :=
  if v3 = (5 : Int32) then
  f_X7_moveBetween_127 N v5 v4 (1 : Int32) w
  else
  f_X7_moveBetween_127 N v5 v4 (0 : Int32) w
set_option maxRecDepth 20000 in
theorem sf_X7_moveBetween_113 {E : Ev} (hL : LX E) (v3 : Int32) (v4 : Int32) (v5 : Int32) (w : Wd) : Sim E m_X7_moveBetween rI 113 [(3, .int v3), (4, .int v4), (5, .int v5)] [] w (f_X7_moveBetween_113 (En E) v3 v4 v5 w) := by
  unfold f_X7_moveBetween_113
  refine sim_iload 2 dX7_moveBetween_113 rfl rfl ?_
  refine sim_iload 1 dX7_moveBetween_115 rfl rfl ?_
  refine sim_iload_n 0 dX7_moveBetween_117 rfl rfl ?_
  refine sim_iconst (5 : Int32) dX7_moveBetween_118 rfl rfl ?_
  refine sim_icmp_ne 126 dX7_moveBetween_119 rfl rfl (fun _ => ?_) (fun _ => ?_)
  · refine sim_iconst (0 : Int32) dX7_moveBetween_126 rfl rfl ?_
    exact sim_sub [] rfl (sf_X7_moveBetween_127 hL v5 v4 (0 : Int32) w)
  · refine sim_iconst (1 : Int32) dX7_moveBetween_122 rfl rfl ?_
    refine sim_goto (q := 127) dX7_moveBetween_123 rfl ?_
    exact sim_sub [] rfl (sf_X7_moveBetween_127 hL v5 v4 (1 : Int32) w)
def f_X7_moveBetween_80 (N : Nat) (s0 : Int32) (w : Wd) : Option (Int32 × Wd) :=
  some (s0, w)
set_option maxRecDepth 20000 in
theorem sf_X7_moveBetween_80 {E : Ev} (hL : LX E) (s0 : Int32) (w : Wd) : Sim E m_X7_moveBetween rI 80 [] [.int s0] w (f_X7_moveBetween_80 (En E) s0 w) := by
  unfold f_X7_moveBetween_80
  exact sim_iret rfl dX7_moveBetween_80
def f_X7_moveBetween_79 (N : Nat) (w : Wd) : Option (Int32 × Wd) :=
  f_X7_moveBetween_80 N (-1 : Int32) w
set_option maxRecDepth 20000 in
theorem sf_X7_moveBetween_79 {E : Ev} (hL : LX E) (w : Wd) : Sim E m_X7_moveBetween rI 79 [] [] w (f_X7_moveBetween_79 (En E) w) := by
  unfold f_X7_moveBetween_79
  refine sim_iconst (-1 : Int32) dX7_moveBetween_79 rfl rfl ?_
  exact sim_sub [] rfl (sf_X7_moveBetween_80 hL (-1 : Int32) w)
def f_X7_moveBetween (N : Nat) (v1 : Int32) (v2 : Int32) (w : Wd) : Option (Int32 × Wd) :=
  lt (v2 - v1) fun x1 =>
  if x1 < (4 : Int32) then
  f_X7_moveBetween_14 N w
  else
  if x1 ≤ (5 : Int32) then
  bd (f_X7_fieldAt N (v1 + (2 : Int32)) w) fun x2 w3 =>
  if (0 : Int32) ≤ x2 then
  if inb (v1 + (1 : Int32)) 2000 = true then
  if (w3.1 34 (Int32.toNatClampNeg (v1 + (1 : Int32)))) = (42 : Int32) then
  if inb v1 2000 = true then
  lt ((w3.1 34 (Int32.toNatClampNeg v1)) - (48 : Int32)) fun x8 =>
  if x1 = (4 : Int32) then
  bd (f_X9_isHandKind N x8 w3) fun x9 w10 =>
  if x9 = (0 : Int32) then
  f_X7_moveBetween_79 N w10
  else
  bd (f_X3_setting x8 x2 w10) fun x11 w12 =>
  f_X7_moveBetween_80 N x11 w12
  else
  f_X7_moveBetween_79 N w3
  else none
  else
  bd (f_X7_fieldAt N v1 w3) fun x4 w5 =>
  if x4 < (0 : Int32) then
  f_X7_moveBetween_111 N w5
  else
  if x1 = (5 : Int32) then
  if inb (v1 + (4 : Int32)) 2000 = true then
  if (w5.1 34 (Int32.toNatClampNeg (v1 + (4 : Int32)))) = (43 : Int32) then
  f_X7_moveBetween_113 N x1 x2 x4 w5
  else
  f_X7_moveBetween_111 N w5
  else none
  else
  f_X7_moveBetween_113 N x1 x2 x4 w5
  else none
  else
  some ((-1 : Int32), w3)
  else
  f_X7_moveBetween_14 N w
set_option maxRecDepth 20000 in
theorem c_X7_moveBetween {E : Ev} (hL : LX E) (v1 : Int32) (v2 : Int32) (w : Wd) : Ct E m_X7_moveBetween yX7_moveBetween rI [.ref (Ea E 33), .int v1, .int v2] w (f_X7_moveBetween (En E) v1 v2 w) := by
  refine Ct.of (by decide) ⟨rfl, rfl⟩ (Nat.le_of_ble_eq_true rfl) ?_
  show Sim E m_X7_moveBetween rI 0 [(0, .ref (Ea E 33)), (1, .int v1), (2, .int v2)] [] w (f_X7_moveBetween (En E) v1 v2 w)
  unfold f_X7_moveBetween
  refine sim_iload_n 2 dX7_moveBetween_0 rfl rfl ?_
  refine sim_iload_n 1 dX7_moveBetween_1 rfl rfl ?_
  refine sim_isub dX7_moveBetween_2 rfl ?_
  refine sim_lt (fun x1 => ?_)
  refine sim_istore_n [(3, .int x1), (0, .ref (Ea E 33)), (1, .int v1), (2, .int v2)] dX7_moveBetween_3 (Nat.le_of_ble_eq_true rfl) rfl rfl ?_
  refine sim_iload_n 0 dX7_moveBetween_4 rfl rfl ?_
  refine sim_iconst (4 : Int32) dX7_moveBetween_5 rfl rfl ?_
  refine sim_icmp_lt 14 dX7_moveBetween_6 rfl rfl (fun _ => ?_) (fun _ => ?_)
  · exact sim_sub [] rfl (sf_X7_moveBetween_14 hL w)
  · refine sim_iload_n 0 dX7_moveBetween_9 rfl rfl ?_
    refine sim_iconst (5 : Int32) dX7_moveBetween_10 rfl rfl ?_
    refine sim_icmp_le 16 dX7_moveBetween_11 rfl rfl (fun _ => ?_) (fun _ => ?_)
    · refine sim_aload_n 1 dX7_moveBetween_16 rfl rfl ?_
      refine sim_iload_n 2 dX7_moveBetween_17 rfl rfl ?_
      refine sim_iconst (2 : Int32) dX7_moveBetween_18 rfl rfl ?_
      refine sim_iadd dX7_moveBetween_19 rfl ?_
      refine sim_cVi (k := 33) (ci := 5) [.int (v1 + (2 : Int32))] [] (c_X7_fieldAt hL (v1 + (2 : Int32)) w) (hL.1 33 rfl) rfl (by decide) rfl cb_X7_59 im_X7_fieldAt se_X7_fieldAt rfl rfl rfl (Nat.le_of_ble_eq_true rfl) dX7_moveBetween_20 rfl (fun x2 w3 => ?_)
      refine sim_istore [(4, .int x2), (3, .int x1), (0, .ref (Ea E 33)), (1, .int v1), (2, .int v2)] dX7_moveBetween_23 (Nat.le_of_ble_eq_true rfl) rfl rfl ?_
      refine sim_iload 0 dX7_moveBetween_25 rfl rfl ?_
      refine sim_if_ge 32 dX7_moveBetween_27 rfl rfl (fun _ => ?_) (fun _ => ?_)
      · refine sim_aload_n 2 dX7_moveBetween_32 rfl rfl ?_
        refine sim_get (k := 33) (ci := 5) (j := 1) (v := .ref (Ea E 34)) (hL.1 33 rfl) rfl (by decide) fl_X7_11 rfl dX7_moveBetween_33 rfl ?_
        refine sim_iload_n 3 dX7_moveBetween_36 rfl rfl ?_
        refine sim_iconst (1 : Int32) dX7_moveBetween_37 rfl rfl ?_
        refine sim_iadd dX7_moveBetween_38 rfl ?_
        refine sim_iaload (k := 34) (hL.1 34 rfl) rfl rfl dX7_moveBetween_39 rfl ?_
        refine sim_bipush (42 : Int32) dX7_moveBetween_40 rfl rfl ?_
        refine sim_icmp_ne 81 dX7_moveBetween_42 rfl rfl (fun _ => ?_) (fun _ => ?_)
        · refine sim_aload_n 2 dX7_moveBetween_81 rfl rfl ?_
          refine sim_iload_n 3 dX7_moveBetween_82 rfl rfl ?_
          refine sim_cVi (k := 33) (ci := 5) [.int v1] [] (c_X7_fieldAt hL v1 w3) (hL.1 33 rfl) rfl (by decide) rfl cb_X7_59 im_X7_fieldAt se_X7_fieldAt rfl rfl rfl (Nat.le_of_ble_eq_true rfl) dX7_moveBetween_83 rfl (fun x4 w5 => ?_)
          refine sim_istore [(5, .int x4), (4, .int x2), (3, .int x1), (0, .ref (Ea E 33)), (1, .int v1), (2, .int v2)] dX7_moveBetween_86 (Nat.le_of_ble_eq_true rfl) rfl rfl ?_
          refine sim_iload 0 dX7_moveBetween_88 rfl rfl ?_
          refine sim_if_lt 111 dX7_moveBetween_90 rfl rfl (fun _ => ?_) (fun _ => ?_)
          · exact sim_sub [] rfl (sf_X7_moveBetween_111 hL w5)
          · refine sim_iload_n 2 dX7_moveBetween_93 rfl rfl ?_
            refine sim_iconst (5 : Int32) dX7_moveBetween_94 rfl rfl ?_
            refine sim_icmp_ne 113 dX7_moveBetween_95 rfl rfl (fun _ => ?_) (fun _ => ?_)
            · exact sim_sub [2, 1, 0] rfl (sf_X7_moveBetween_113 hL x1 x2 x4 w5)
            · refine sim_aload_n 3 dX7_moveBetween_98 rfl rfl ?_
              refine sim_get (k := 33) (ci := 5) (j := 1) (v := .ref (Ea E 34)) (hL.1 33 rfl) rfl (by decide) fl_X7_11 rfl dX7_moveBetween_99 rfl ?_
              refine sim_iload_n 4 dX7_moveBetween_102 rfl rfl ?_
              refine sim_iconst (4 : Int32) dX7_moveBetween_103 rfl rfl ?_
              refine sim_iadd dX7_moveBetween_104 rfl ?_
              refine sim_iaload (k := 34) (hL.1 34 rfl) rfl rfl dX7_moveBetween_105 rfl ?_
              refine sim_bipush (43 : Int32) dX7_moveBetween_106 rfl rfl ?_
              refine sim_icmp_eq 113 dX7_moveBetween_108 rfl rfl (fun _ => ?_) (fun _ => ?_)
              · exact sim_sub [2, 1, 0] rfl (sf_X7_moveBetween_113 hL x1 x2 x4 w5)
              · exact sim_sub [] rfl (sf_X7_moveBetween_111 hL w5)
        · refine sim_aload_n 2 dX7_moveBetween_45 rfl rfl ?_
          refine sim_get (k := 33) (ci := 5) (j := 1) (v := .ref (Ea E 34)) (hL.1 33 rfl) rfl (by decide) fl_X7_11 rfl dX7_moveBetween_46 rfl ?_
          refine sim_iload_n 3 dX7_moveBetween_49 rfl rfl ?_
          refine sim_iaload (k := 34) (hL.1 34 rfl) rfl rfl dX7_moveBetween_50 rfl ?_
          refine sim_bipush (48 : Int32) dX7_moveBetween_51 rfl rfl ?_
          refine sim_isub dX7_moveBetween_53 rfl ?_
          refine sim_lt (fun x8 => ?_)
          refine sim_istore [(5, .int x8), (4, .int x2), (3, .int x1), (0, .ref (Ea E 33)), (1, .int v1), (2, .int v2)] dX7_moveBetween_54 (Nat.le_of_ble_eq_true rfl) rfl rfl ?_
          refine sim_iload_n 2 dX7_moveBetween_56 rfl rfl ?_
          refine sim_iconst (4 : Int32) dX7_moveBetween_57 rfl rfl ?_
          refine sim_icmp_ne 79 dX7_moveBetween_58 rfl rfl (fun _ => ?_) (fun _ => ?_)
          · exact sim_sub [] rfl (sf_X7_moveBetween_79 hL w3)
          · refine sim_iload 0 dX7_moveBetween_61 rfl rfl ?_
            refine sim_cSNi [.int x8] [] (c_X9_isHandKind hL x8 w3) cn_X7_62 sx_X9_isHandKind rfl rfl rfl (Nat.le_of_ble_eq_true rfl) dX7_moveBetween_63 rfl (fun x9 w10 => ?_)
            refine sim_if_eq 79 dX7_moveBetween_66 rfl rfl (fun _ => ?_) (fun _ => ?_)
            · exact sim_sub [] rfl (sf_X7_moveBetween_79 hL w10)
            · refine sim_iload 0 dX7_moveBetween_69 rfl rfl ?_
              refine sim_iload 1 dX7_moveBetween_71 rfl rfl ?_
              refine sim_cSi [.int x8, .int x2] [] (c_X3_setting x8 x2 w10) cb_X7_65 sx_X3_setting rfl rfl rfl (Nat.le_of_ble_eq_true rfl) dX7_moveBetween_73 rfl (fun x11 w12 => ?_)
              refine sim_goto (q := 80) dX7_moveBetween_76 rfl ?_
              exact sim_sub [] rfl (sf_X7_moveBetween_80 hL x11 w12)
      · refine sim_iconst (-1 : Int32) dX7_moveBetween_30 rfl rfl ?_
        exact sim_iret rfl dX7_moveBetween_31
    · exact sim_sub [] rfl (sf_X7_moveBetween_14 hL w)
def f_X8_areSteps_16 (N : Nat) (s0 : Int32) (w : Wd) : Option (Int32 × Wd) :=
  if zb s0 = true then some (s0, w) else none
set_option maxRecDepth 20000 in
theorem sf_X8_areSteps_16 {E : Ev} (hL : LW E) (s0 : Int32) (w : Wd) : Sim E m_X8_areSteps rI 16 [] [.int s0] w (f_X8_areSteps_16 (En E) s0 w) := by
  unfold f_X8_areSteps_16
  exact sim_zret rfl dX8_areSteps_16
def f_X8_areSteps_15 (N : Nat) (w : Wd) : Option (Int32 × Wd) :=
  f_X8_areSteps_16 N (0 : Int32) w
set_option maxRecDepth 20000 in
theorem sf_X8_areSteps_15 {E : Ev} (hL : LW E) (w : Wd) : Sim E m_X8_areSteps rI 15 [] [] w (f_X8_areSteps_15 (En E) w) := by
  unfold f_X8_areSteps_15
  refine sim_iconst (0 : Int32) dX8_areSteps_15 rfl rfl ?_
  exact sim_sub [] rfl (sf_X8_areSteps_16 hL (0 : Int32) w)
def f_X8_areSteps (N : Nat) (v0 : Int32) (w : Wd) : Option (Int32 × Wd) :=
  if v0 < (0 : Int32) then
  f_X8_areSteps_15 N w
  else
  if (1024 : Int32) ≤ v0 then
  f_X8_areSteps_15 N w
  else
  f_X8_areSteps_16 N (1 : Int32) w
set_option maxRecDepth 20000 in
theorem c_X8_areSteps {E : Ev} (hL : LW E) (v0 : Int32) (w : Wd) : Ct E m_X8_areSteps yX8_areSteps rI [.int v0] w (f_X8_areSteps (En E) v0 w) := by
  refine Ct.of (by decide) ⟨rfl, rfl⟩ (Nat.le_of_ble_eq_true rfl) ?_
  show Sim E m_X8_areSteps rI 0 [(0, .int v0)] [] w (f_X8_areSteps (En E) v0 w)
  unfold f_X8_areSteps
  refine sim_iload_n 0 dX8_areSteps_0 rfl rfl ?_
  refine sim_if_lt 15 dX8_areSteps_1 rfl rfl (fun _ => ?_) (fun _ => ?_)
  · exact sim_sub [] rfl (sf_X8_areSteps_15 hL w)
  · refine sim_iload_n 0 dX8_areSteps_4 rfl rfl ?_
    refine sim_sipush (1024 : Int32) dX8_areSteps_5 rfl rfl ?_
    refine sim_icmp_ge 15 dX8_areSteps_8 rfl rfl (fun _ => ?_) (fun _ => ?_)
    · exact sim_sub [] rfl (sf_X8_areSteps_15 hL w)
    · refine sim_iconst (1 : Int32) dX8_areSteps_11 rfl rfl ?_
      refine sim_goto (q := 16) dX8_areSteps_12 rfl ?_
      exact sim_sub [] rfl (sf_X8_areSteps_16 hL (1 : Int32) w)
def f_X8_areRuns_16 (N : Nat) (s0 : Int32) (w : Wd) : Option (Int32 × Wd) :=
  if zb s0 = true then some (s0, w) else none
set_option maxRecDepth 20000 in
theorem sf_X8_areRuns_16 {E : Ev} (hL : LW E) (s0 : Int32) (w : Wd) : Sim E m_X8_areRuns rI 16 [] [.int s0] w (f_X8_areRuns_16 (En E) s0 w) := by
  unfold f_X8_areRuns_16
  exact sim_zret rfl dX8_areRuns_16
def f_X8_areRuns_15 (N : Nat) (w : Wd) : Option (Int32 × Wd) :=
  f_X8_areRuns_16 N (0 : Int32) w
set_option maxRecDepth 20000 in
theorem sf_X8_areRuns_15 {E : Ev} (hL : LW E) (w : Wd) : Sim E m_X8_areRuns rI 15 [] [] w (f_X8_areRuns_15 (En E) w) := by
  unfold f_X8_areRuns_15
  refine sim_iconst (0 : Int32) dX8_areRuns_15 rfl rfl ?_
  exact sim_sub [] rfl (sf_X8_areRuns_16 hL (0 : Int32) w)
def f_X8_areRuns (N : Nat) (v0 : Int32) (w : Wd) : Option (Int32 × Wd) :=
  if v0 < (0 : Int32) then
  f_X8_areRuns_15 N w
  else
  if (256 : Int32) ≤ v0 then
  f_X8_areRuns_15 N w
  else
  f_X8_areRuns_16 N (1 : Int32) w
set_option maxRecDepth 20000 in
theorem c_X8_areRuns {E : Ev} (hL : LW E) (v0 : Int32) (w : Wd) : Ct E m_X8_areRuns yX8_areRuns rI [.int v0] w (f_X8_areRuns (En E) v0 w) := by
  refine Ct.of (by decide) ⟨rfl, rfl⟩ (Nat.le_of_ble_eq_true rfl) ?_
  show Sim E m_X8_areRuns rI 0 [(0, .int v0)] [] w (f_X8_areRuns (En E) v0 w)
  unfold f_X8_areRuns
  refine sim_iload_n 0 dX8_areRuns_0 rfl rfl ?_
  refine sim_if_lt 15 dX8_areRuns_1 rfl rfl (fun _ => ?_) (fun _ => ?_)
  · exact sim_sub [] rfl (sf_X8_areRuns_15 hL w)
  · refine sim_iload_n 0 dX8_areRuns_4 rfl rfl ?_
    refine sim_sipush (256 : Int32) dX8_areRuns_5 rfl rfl ?_
    refine sim_icmp_ge 15 dX8_areRuns_8 rfl rfl (fun _ => ?_) (fun _ => ?_)
    · exact sim_sub [] rfl (sf_X8_areRuns_15 hL w)
    · refine sim_iconst (1 : Int32) dX8_areRuns_11 rfl rfl ?_
      refine sim_goto (q := 16) dX8_areRuns_12 rfl ?_
      exact sim_sub [] rfl (sf_X8_areRuns_16 hL (1 : Int32) w)
def f_X8_linkField_116 (N : Nat) (R : Int32 → Int32 → Wd → Option (Unit × Wd)) (K122 : Wd → Option (Unit × Wd)) (v1 : Int32) (v2 : Int32) (w : Wd) : Option (Unit × Wd) :=
  R v1 (v2 + (1 : Int32)) w
set_option maxRecDepth 20000 in
theorem sf_X8_linkField_116 {E : Ev} (hL : LW E) {R : Int32 → Int32 → Wd → Option (Unit × Wd)} (hR : ∀ (v1 : Int32) (v2 : Int32) (w : Wd), Sim E m_X8_linkField rV 2 [(0, .ref (Ea E 2)), (1, .int v1), (2, .int v2)] [] w (R v1 v2 w)) {K122 : Wd → Option (Unit × Wd)} (hK122 : ∀ (w : Wd), Sim E m_X8_linkField rV 122 [] [] w (K122  w)) (v1 : Int32) (v2 : Int32) (w : Wd) : Sim E m_X8_linkField rV 116 [(0, .ref (Ea E 2)), (1, .int v1), (2, .int v2)] [] w (f_X8_linkField_116 (En E) R K122 v1 v2 w) := by
  unfold f_X8_linkField_116
  refine sim_iinc (v2 + (1 : Int32)) 2 [(2, .int (v2 + (1 : Int32))), (0, .ref (Ea E 2)), (1, .int v1)] dX8_linkField_116 rfl rfl (Nat.le_of_ble_eq_true rfl) rfl rfl ?_
  refine sim_goto (q := 2) dX8_linkField_119 rfl ?_
  exact sim_sub [1, 2, 0] rfl (hR v1 (v2 + (1 : Int32)) w)
def f_X8_linkField_98 (N : Nat) (R : Int32 → Int32 → Wd → Option (Unit × Wd)) (K122 : Wd → Option (Unit × Wd)) (v1 : Int32) (v2 : Int32) (v5 : Int32) (s1 : Int32) (s2 : Int32) (w : Wd) : Option (Unit × Wd) :=
  if inb s1 (12 * (N * N)) = true then
  lw (wdI w 3 (Int32.toNatClampNeg s1) s2) fun w3 =>
  if v5 = (0 : Int32) then
  f_X8_linkField_116 N R K122 v1 v2 w3
  else
  if inb v1 (N * N) = true then
  if inb v1 (N * N) = true then
  lw (wdI w3 4 (Int32.toNatClampNeg v1) ((w3.1 4 (Int32.toNatClampNeg v1)) ||| ((1 : Int32) <<< (v2 &&& 31)))) fun w4 =>
  f_X8_linkField_116 N R K122 v1 v2 w4
  else none
  else none
  else none
set_option maxRecDepth 20000 in
theorem sf_X8_linkField_98 {E : Ev} (hL : LW E) {R : Int32 → Int32 → Wd → Option (Unit × Wd)} (hR : ∀ (v1 : Int32) (v2 : Int32) (w : Wd), Sim E m_X8_linkField rV 2 [(0, .ref (Ea E 2)), (1, .int v1), (2, .int v2)] [] w (R v1 v2 w)) {K122 : Wd → Option (Unit × Wd)} (hK122 : ∀ (w : Wd), Sim E m_X8_linkField rV 122 [] [] w (K122  w)) (v1 : Int32) (v2 : Int32) (v5 : Int32) (s1 : Int32) (s2 : Int32) (w : Wd) : Sim E m_X8_linkField rV 98 [(0, .ref (Ea E 2)), (1, .int v1), (2, .int v2), (5, .int v5)] [.int s2, .int s1, .ref (Ea E 3)] w (f_X8_linkField_98 (En E) R K122 v1 v2 v5 s1 s2 w) := by
  unfold f_X8_linkField_98
  refine sim_iastore (k := 3) (hL 3 rfl) rfl rfl dX8_linkField_98 rfl ?_
  refine sim_lw (fun w3 => ?_)
  refine sim_iload 3 dX8_linkField_99 rfl rfl ?_
  refine sim_if_eq 116 dX8_linkField_101 rfl rfl (fun _ => ?_) (fun _ => ?_)
  · exact sim_sub [0, 1, 2] rfl (sf_X8_linkField_116 hL hR hK122 v1 v2 w3)
  · refine sim_aload_n 0 dX8_linkField_104 rfl rfl ?_
    refine sim_get (k := 2) (ci := 6) (j := 3) (v := .ref (Ea E 4)) (hL 2 rfl) rfl (by decide) fl_X8_37 rfl dX8_linkField_105 rfl ?_
    refine sim_iload_n 1 dX8_linkField_108 rfl rfl ?_
    refine sim_dup2 dX8_linkField_109 rfl rfl rfl ?_
    refine sim_iaload (k := 4) (hL 4 rfl) rfl rfl dX8_linkField_110 rfl ?_
    refine sim_iconst (1 : Int32) dX8_linkField_111 rfl rfl ?_
    refine sim_iload_n 2 dX8_linkField_112 rfl rfl ?_
    refine sim_ishl dX8_linkField_113 rfl ?_
    refine sim_ior dX8_linkField_114 rfl ?_
    refine sim_iastore (k := 4) (hL 4 rfl) rfl rfl dX8_linkField_115 rfl ?_
    refine sim_lw (fun w4 => ?_)
    exact sim_sub [0, 1, 2] rfl (sf_X8_linkField_116 hL hR hK122 v1 v2 w4)
def f_X8_linkField_66 (N : Nat) (R : Int32 → Int32 → Wd → Option (Unit × Wd)) (K122 : Wd → Option (Unit × Wd)) (v1 : Int32) (v2 : Int32) (v3 : Int32) (v4 : Int32) (s0 : Int32) (w : Wd) : Option (Unit × Wd) :=
  if s0 = (0 : Int32) then
  f_X8_linkField_98 N R K122 v1 v2 s0 ((v2 * (w.1 2 1)) + v1) (-1 : Int32) w
  else
  f_X8_linkField_98 N R K122 v1 v2 s0 ((v2 * (w.1 2 1)) + v1) ((v3 * (w.1 2 0)) + v4) w
set_option maxRecDepth 20000 in
theorem sf_X8_linkField_66 {E : Ev} (hL : LW E) {R : Int32 → Int32 → Wd → Option (Unit × Wd)} (hR : ∀ (v1 : Int32) (v2 : Int32) (w : Wd), Sim E m_X8_linkField rV 2 [(0, .ref (Ea E 2)), (1, .int v1), (2, .int v2)] [] w (R v1 v2 w)) {K122 : Wd → Option (Unit × Wd)} (hK122 : ∀ (w : Wd), Sim E m_X8_linkField rV 122 [] [] w (K122  w)) (v1 : Int32) (v2 : Int32) (v3 : Int32) (v4 : Int32) (s0 : Int32) (w : Wd) : Sim E m_X8_linkField rV 66 [(0, .ref (Ea E 2)), (1, .int v1), (2, .int v2), (3, .int v3), (4, .int v4)] [.int s0] w (f_X8_linkField_66 (En E) R K122 v1 v2 v3 v4 s0 w) := by
  unfold f_X8_linkField_66
  refine sim_istore [(5, .int s0), (0, .ref (Ea E 2)), (1, .int v1), (2, .int v2), (3, .int v3), (4, .int v4)] dX8_linkField_66 (Nat.le_of_ble_eq_true rfl) rfl rfl ?_
  refine sim_aload_n 1 dX8_linkField_68 rfl rfl ?_
  refine sim_get (k := 2) (ci := 6) (j := 2) (v := .ref (Ea E 3)) (hL 2 rfl) rfl (by decide) fl_X8_34 rfl dX8_linkField_69 rfl ?_
  refine sim_iload_n 3 dX8_linkField_72 rfl rfl ?_
  refine sim_aload_n 1 dX8_linkField_73 rfl rfl ?_
  refine sim_get (k := 2) (ci := 6) (j := 1) (v := .int (w.1 2 1)) (hL 2 rfl) rfl (by decide) fl_X8_31 rfl dX8_linkField_74 rfl ?_
  refine sim_imul dX8_linkField_77 rfl ?_
  refine sim_iload_n 2 dX8_linkField_78 rfl rfl ?_
  refine sim_iadd dX8_linkField_79 rfl ?_
  refine sim_iload 0 dX8_linkField_80 rfl rfl ?_
  refine sim_if_eq 97 dX8_linkField_82 rfl rfl (fun _ => ?_) (fun _ => ?_)
  · refine sim_iconst (-1 : Int32) dX8_linkField_97 rfl rfl ?_
    exact sim_sub [1, 2, 3, 0] rfl (sf_X8_linkField_98 hL hR hK122 v1 v2 s0 ((v2 * (w.1 2 1)) + v1) (-1 : Int32) w)
  · refine sim_iload_n 4 dX8_linkField_85 rfl rfl ?_
    refine sim_aload_n 1 dX8_linkField_86 rfl rfl ?_
    refine sim_get (k := 2) (ci := 6) (j := 0) (v := .int (w.1 2 0)) (hL 2 rfl) rfl (by decide) fl_X8_27 rfl dX8_linkField_87 rfl ?_
    refine sim_imul dX8_linkField_90 rfl ?_
    refine sim_iload 5 dX8_linkField_91 rfl rfl ?_
    refine sim_iadd dX8_linkField_93 rfl ?_
    refine sim_goto (q := 98) dX8_linkField_94 rfl ?_
    exact sim_sub [1, 2, 3, 0] rfl (sf_X8_linkField_98 hL hR hK122 v1 v2 s0 ((v2 * (w.1 2 1)) + v1) ((v3 * (w.1 2 0)) + v4) w)
def f_X8_linkField_65 (N : Nat) (R : Int32 → Int32 → Wd → Option (Unit × Wd)) (K122 : Wd → Option (Unit × Wd)) (v1 : Int32) (v2 : Int32) (v3 : Int32) (v4 : Int32) (w : Wd) : Option (Unit × Wd) :=
  f_X8_linkField_66 N R K122 v1 v2 v3 v4 (0 : Int32) w
set_option maxRecDepth 20000 in
theorem sf_X8_linkField_65 {E : Ev} (hL : LW E) {R : Int32 → Int32 → Wd → Option (Unit × Wd)} (hR : ∀ (v1 : Int32) (v2 : Int32) (w : Wd), Sim E m_X8_linkField rV 2 [(0, .ref (Ea E 2)), (1, .int v1), (2, .int v2)] [] w (R v1 v2 w)) {K122 : Wd → Option (Unit × Wd)} (hK122 : ∀ (w : Wd), Sim E m_X8_linkField rV 122 [] [] w (K122  w)) (v1 : Int32) (v2 : Int32) (v3 : Int32) (v4 : Int32) (w : Wd) : Sim E m_X8_linkField rV 65 [(0, .ref (Ea E 2)), (1, .int v1), (2, .int v2), (3, .int v3), (4, .int v4)] [] w (f_X8_linkField_65 (En E) R K122 v1 v2 v3 v4 w) := by
  unfold f_X8_linkField_65
  refine sim_iconst (0 : Int32) dX8_linkField_65 rfl rfl ?_
  exact sim_sub [0, 1, 2, 3, 4] rfl (sf_X8_linkField_66 hL hR hK122 v1 v2 v3 v4 (0 : Int32) w)
def b_X8_linkField_2 (N : Nat) (R : Int32 → Int32 → Wd → Option (Unit × Wd)) (K122 : Wd → Option (Unit × Wd)) (v1 : Int32) (v2 : Int32) (w : Wd) : Option (Unit × Wd) :=
  if (12 : Int32) ≤ v2 then
  K122 w
  else
  if ¬ (w.1 2 0) = (0 : Int32) then
  if inb v2 12 = true then
  lt ((v1 / (w.1 2 0)) + ((stV 1).getD (Int32.toNatClampNeg v2) 0)) fun x1 =>
  if ¬ (w.1 2 0) = (0 : Int32) then
  if inb v2 12 = true then
  lt ((v1 - v1 / (w.1 2 0) * (w.1 2 0)) + ((stV 2).getD (Int32.toNatClampNeg v2) 0)) fun x2 =>
  if x1 < (0 : Int32) then
  f_X8_linkField_65 N R K122 v1 v2 x1 x2 w
  else
  if (w.1 2 0) ≤ x1 then
  f_X8_linkField_65 N R K122 v1 v2 x1 x2 w
  else
  if x2 < (0 : Int32) then
  f_X8_linkField_65 N R K122 v1 v2 x1 x2 w
  else
  if (w.1 2 0) ≤ x2 then
  f_X8_linkField_65 N R K122 v1 v2 x1 x2 w
  else
  f_X8_linkField_66 N R K122 v1 v2 x1 x2 (1 : Int32) w
  else none
  else none
  else none
  else none
set_option maxRecDepth 20000 in
theorem sb_X8_linkField_2 {E : Ev} (hL : LW E) {R : Int32 → Int32 → Wd → Option (Unit × Wd)} (hR : ∀ (v1 : Int32) (v2 : Int32) (w : Wd), Sim E m_X8_linkField rV 2 [(0, .ref (Ea E 2)), (1, .int v1), (2, .int v2)] [] w (R v1 v2 w)) {K122 : Wd → Option (Unit × Wd)} (hK122 : ∀ (w : Wd), Sim E m_X8_linkField rV 122 [] [] w (K122  w)) (v1 : Int32) (v2 : Int32) (w : Wd) : Sim E m_X8_linkField rV 2 [(0, .ref (Ea E 2)), (1, .int v1), (2, .int v2)] [] w (b_X8_linkField_2 (En E) R K122 v1 v2 w) := by
  unfold b_X8_linkField_2
  refine sim_iload_n 2 dX8_linkField_2 rfl rfl ?_
  refine sim_bipush (12 : Int32) dX8_linkField_3 rfl rfl ?_
  refine sim_icmp_ge 122 dX8_linkField_5 rfl rfl (fun _ => ?_) (fun _ => ?_)
  · exact sim_sub [] rfl (hK122 w)
  · refine sim_iload_n 1 dX8_linkField_8 rfl rfl ?_
    refine sim_aload_n 0 dX8_linkField_9 rfl rfl ?_
    refine sim_get (k := 2) (ci := 6) (j := 0) (v := .int (w.1 2 0)) (hL 2 rfl) rfl (by decide) fl_X8_27 rfl dX8_linkField_10 rfl ?_
    refine sim_idiv dX8_linkField_13 rfl ?_
    refine sim_gets (j := 1) (nm := "ROWS_MORE") (by decide) rfl kl_X8_61 dX8_linkField_14 rfl ?_
    refine sim_iload_n 2 dX8_linkField_17 rfl rfl ?_
    refine sim_tload (j := 1) (n := 12) (by decide) rfl dX8_linkField_18 rfl ?_
    refine sim_iadd dX8_linkField_19 rfl ?_
    refine sim_lt (fun x1 => ?_)
    refine sim_istore_n [(3, .int x1), (0, .ref (Ea E 2)), (1, .int v1), (2, .int v2)] dX8_linkField_20 (Nat.le_of_ble_eq_true rfl) rfl rfl ?_
    refine sim_iload_n 2 dX8_linkField_21 rfl rfl ?_
    refine sim_aload_n 1 dX8_linkField_22 rfl rfl ?_
    refine sim_get (k := 2) (ci := 6) (j := 0) (v := .int (w.1 2 0)) (hL 2 rfl) rfl (by decide) fl_X8_27 rfl dX8_linkField_23 rfl ?_
    refine sim_irem dX8_linkField_26 rfl ?_
    refine sim_gets (j := 2) (nm := "COLUMNS_MORE") (by decide) rfl kl_X8_64 dX8_linkField_27 rfl ?_
    refine sim_iload_n 3 dX8_linkField_30 rfl rfl ?_
    refine sim_tload (j := 2) (n := 12) (by decide) rfl dX8_linkField_31 rfl ?_
    refine sim_iadd dX8_linkField_32 rfl ?_
    refine sim_lt (fun x2 => ?_)
    refine sim_istore [(4, .int x2), (3, .int x1), (0, .ref (Ea E 2)), (1, .int v1), (2, .int v2)] dX8_linkField_33 (Nat.le_of_ble_eq_true rfl) rfl rfl ?_
    refine sim_iload_n 1 dX8_linkField_35 rfl rfl ?_
    refine sim_if_lt 65 dX8_linkField_36 rfl rfl (fun _ => ?_) (fun _ => ?_)
    · exact sim_sub [2, 3, 4, 1, 0] rfl (sf_X8_linkField_65 hL hR hK122 v1 v2 x1 x2 w)
    · refine sim_iload_n 1 dX8_linkField_39 rfl rfl ?_
      refine sim_aload_n 2 dX8_linkField_40 rfl rfl ?_
      refine sim_get (k := 2) (ci := 6) (j := 0) (v := .int (w.1 2 0)) (hL 2 rfl) rfl (by decide) fl_X8_27 rfl dX8_linkField_41 rfl ?_
      refine sim_icmp_ge 65 dX8_linkField_44 rfl rfl (fun _ => ?_) (fun _ => ?_)
      · exact sim_sub [2, 3, 4, 1, 0] rfl (sf_X8_linkField_65 hL hR hK122 v1 v2 x1 x2 w)
      · refine sim_iload 0 dX8_linkField_47 rfl rfl ?_
        refine sim_if_lt 65 dX8_linkField_49 rfl rfl (fun _ => ?_) (fun _ => ?_)
        · exact sim_sub [2, 3, 4, 1, 0] rfl (sf_X8_linkField_65 hL hR hK122 v1 v2 x1 x2 w)
        · refine sim_iload 0 dX8_linkField_52 rfl rfl ?_
          refine sim_aload_n 2 dX8_linkField_54 rfl rfl ?_
          refine sim_get (k := 2) (ci := 6) (j := 0) (v := .int (w.1 2 0)) (hL 2 rfl) rfl (by decide) fl_X8_27 rfl dX8_linkField_55 rfl ?_
          refine sim_icmp_ge 65 dX8_linkField_58 rfl rfl (fun _ => ?_) (fun _ => ?_)
          · exact sim_sub [2, 3, 4, 1, 0] rfl (sf_X8_linkField_65 hL hR hK122 v1 v2 x1 x2 w)
          · refine sim_iconst (1 : Int32) dX8_linkField_61 rfl rfl ?_
            refine sim_goto (q := 66) dX8_linkField_62 rfl ?_
            exact sim_sub [2, 3, 4, 1, 0] rfl (sf_X8_linkField_66 hL hR hK122 v1 v2 x1 x2 (1 : Int32) w)
def l_X8_linkField_2 (N : Nat) (K122 : Wd → Option (Unit × Wd)) (n : Nat) : Int32 → Int32 → Wd → Option (Unit × Wd) := itr (fun _ _ _ => none) (fun R => b_X8_linkField_2 N R K122) n
set_option maxRecDepth 20000 in
theorem sl_X8_linkField_2 {E : Ev} (hL : LW E) {K122 : Wd → Option (Unit × Wd)} (hK122 : ∀ (w : Wd), Sim E m_X8_linkField rV 122 [] [] w (K122  w)) : ∀ (n : Nat) (v1 : Int32) (v2 : Int32) (w : Wd), Sim E m_X8_linkField rV 2 [(0, .ref (Ea E 2)), (1, .int v1), (2, .int v2)] [] w (l_X8_linkField_2 (En E) K122 n v1 v2 w) := by
  intro n
  induction n with
  | zero => intros; exact sim_none
  | succ n ih => intros; exact sb_X8_linkField_2 hL (R := l_X8_linkField_2 (En E) K122 n) ih hK122 _ _ _
def f_X8_linkField_122 (N : Nat) (w : Wd) : Option (Unit × Wd) :=
  some ((), w)
set_option maxRecDepth 20000 in
theorem sf_X8_linkField_122 {E : Ev} (hL : LW E) (w : Wd) : Sim E m_X8_linkField rV 122 [] [] w (f_X8_linkField_122 (En E) w) := by
  unfold f_X8_linkField_122
  exact sim_vret rfl dX8_linkField_122
def f_X8_linkField (N : Nat) (v1 : Int32) (w : Wd) : Option (Unit × Wd) :=
  l_X8_linkField_2 N (f_X8_linkField_122 N) FU v1 (0 : Int32) w
set_option maxRecDepth 20000 in
theorem c_X8_linkField {E : Ev} (hL : LW E) (v1 : Int32) (w : Wd) : Ct E m_X8_linkField yX8_linkField rV [.ref (Ea E 2), .int v1] w (f_X8_linkField (En E) v1 w) := by
  refine Ct.of (by decide) ⟨rfl, rfl⟩ (Nat.le_of_ble_eq_true rfl) ?_
  show Sim E m_X8_linkField rV 0 [(0, .ref (Ea E 2)), (1, .int v1)] [] w (f_X8_linkField (En E) v1 w)
  unfold f_X8_linkField
  refine sim_iconst (0 : Int32) dX8_linkField_0 rfl rfl ?_
  refine sim_istore_n [(2, .int (0 : Int32)), (0, .ref (Ea E 2)), (1, .int v1)] dX8_linkField_1 (Nat.le_of_ble_eq_true rfl) rfl rfl ?_
  exact sim_sub [1, 2, 0] rfl (sl_X8_linkField_2 hL (sf_X8_linkField_122 hL) FU v1 (0 : Int32) w)
def f_X8_markZones_65 (N : Nat) (s1 : Int32) (s2 : Int32) (w : Wd) : Option (Unit × Wd) :=
  if inb s1 (2 * (N * N)) = true then
  lw (wdI w 5 (Int32.toNatClampNeg s1) (vp_nar .boolean s2)) fun w2 =>
  some ((), w2)
  else none
set_option maxRecDepth 20000 in
theorem sf_X8_markZones_65 {E : Ev} (hL : LW E) (s1 : Int32) (s2 : Int32) (w : Wd) : Sim E m_X8_markZones rV 65 [] [.int s2, .int s1, .ref (Ea E 5)] w (f_X8_markZones_65 (En E) s1 s2 w) := by
  unfold f_X8_markZones_65
  refine sim_bastore (k := 5) (hL 5 rfl) rfl rfl dX8_markZones_65 rfl ?_
  refine sim_lw (fun w2 => ?_)
  exact sim_vret rfl dX8_markZones_66
def f_X8_markZones_34 (N : Nat) (v1 : Int32) (v2 : Int32) (s1 : Int32) (s2 : Int32) (w : Wd) : Option (Unit × Wd) :=
  if inb s1 (2 * (N * N)) = true then
  lw (wdI w 5 (Int32.toNatClampNeg s1) (vp_nar .boolean s2)) fun w1 =>
  if ¬ (w1.1 2 0) = (0 : Int32) then
  if (v1 / (w1.1 2 0)) < ((w1.1 2 0) - v2) then
  f_X8_markZones_65 N ((w1.1 2 1) + v1) (0 : Int32) w1
  else
  f_X8_markZones_65 N ((w1.1 2 1) + v1) (1 : Int32) w1
  else none
  else none
set_option maxRecDepth 20000 in
theorem sf_X8_markZones_34 {E : Ev} (hL : LW E) (v1 : Int32) (v2 : Int32) (s1 : Int32) (s2 : Int32) (w : Wd) : Sim E m_X8_markZones rV 34 [(0, .ref (Ea E 2)), (1, .int v1), (2, .int v2)] [.int s2, .int s1, .ref (Ea E 5)] w (f_X8_markZones_34 (En E) v1 v2 s1 s2 w) := by
  unfold f_X8_markZones_34
  refine sim_bastore (k := 5) (hL 5 rfl) rfl rfl dX8_markZones_34 rfl ?_
  refine sim_lw (fun w1 => ?_)
  refine sim_aload_n 0 dX8_markZones_35 rfl rfl ?_
  refine sim_get (k := 2) (ci := 6) (j := 4) (v := .ref (Ea E 5)) (hL 2 rfl) rfl (by decide) fl_X8_40 rfl dX8_markZones_36 rfl ?_
  refine sim_aload_n 0 dX8_markZones_39 rfl rfl ?_
  refine sim_get (k := 2) (ci := 6) (j := 1) (v := .int (w1.1 2 1)) (hL 2 rfl) rfl (by decide) fl_X8_31 rfl dX8_markZones_40 rfl ?_
  refine sim_iload_n 1 dX8_markZones_43 rfl rfl ?_
  refine sim_iadd dX8_markZones_44 rfl ?_
  refine sim_iload_n 1 dX8_markZones_45 rfl rfl ?_
  refine sim_aload_n 0 dX8_markZones_46 rfl rfl ?_
  refine sim_get (k := 2) (ci := 6) (j := 0) (v := .int (w1.1 2 0)) (hL 2 rfl) rfl (by decide) fl_X8_27 rfl dX8_markZones_47 rfl ?_
  refine sim_idiv dX8_markZones_50 rfl ?_
  refine sim_aload_n 0 dX8_markZones_51 rfl rfl ?_
  refine sim_get (k := 2) (ci := 6) (j := 0) (v := .int (w1.1 2 0)) (hL 2 rfl) rfl (by decide) fl_X8_27 rfl dX8_markZones_52 rfl ?_
  refine sim_iload_n 2 dX8_markZones_55 rfl rfl ?_
  refine sim_isub dX8_markZones_56 rfl ?_
  refine sim_icmp_lt 64 dX8_markZones_57 rfl rfl (fun _ => ?_) (fun _ => ?_)
  · refine sim_iconst (0 : Int32) dX8_markZones_64 rfl rfl ?_
    exact sim_sub [] rfl (sf_X8_markZones_65 hL ((w1.1 2 1) + v1) (0 : Int32) w1)
  · refine sim_iconst (1 : Int32) dX8_markZones_60 rfl rfl ?_
    refine sim_goto (q := 65) dX8_markZones_61 rfl ?_
    exact sim_sub [] rfl (sf_X8_markZones_65 hL ((w1.1 2 1) + v1) (1 : Int32) w1)
def f_X8_markZones_13 (N : Nat) (v1 : Int32) (s0 : Int32) (w : Wd) : Option (Unit × Wd) :=
  if ¬ (w.1 2 0) = (0 : Int32) then
  if s0 ≤ (v1 / (w.1 2 0)) then
  f_X8_markZones_34 N v1 s0 v1 (0 : Int32) w
  else
  f_X8_markZones_34 N v1 s0 v1 (1 : Int32) w
  else none
set_option maxRecDepth 20000 in
theorem sf_X8_markZones_13 {E : Ev} (hL : LW E) (v1 : Int32) (s0 : Int32) (w : Wd) : Sim E m_X8_markZones rV 13 [(0, .ref (Ea E 2)), (1, .int v1)] [.int s0] w (f_X8_markZones_13 (En E) v1 s0 w) := by
  unfold f_X8_markZones_13
  refine sim_istore_n [(2, .int s0), (0, .ref (Ea E 2)), (1, .int v1)] dX8_markZones_13 (Nat.le_of_ble_eq_true rfl) rfl rfl ?_
  refine sim_aload_n 1 dX8_markZones_14 rfl rfl ?_
  refine sim_get (k := 2) (ci := 6) (j := 4) (v := .ref (Ea E 5)) (hL 2 rfl) rfl (by decide) fl_X8_40 rfl dX8_markZones_15 rfl ?_
  refine sim_iload_n 2 dX8_markZones_18 rfl rfl ?_
  refine sim_iload_n 2 dX8_markZones_19 rfl rfl ?_
  refine sim_aload_n 1 dX8_markZones_20 rfl rfl ?_
  refine sim_get (k := 2) (ci := 6) (j := 0) (v := .int (w.1 2 0)) (hL 2 rfl) rfl (by decide) fl_X8_27 rfl dX8_markZones_21 rfl ?_
  refine sim_idiv dX8_markZones_24 rfl ?_
  refine sim_iload_n 0 dX8_markZones_25 rfl rfl ?_
  refine sim_icmp_ge 33 dX8_markZones_26 rfl rfl (fun _ => ?_) (fun _ => ?_)
  · refine sim_iconst (0 : Int32) dX8_markZones_33 rfl rfl ?_
    exact sim_sub [1, 2, 0] rfl (sf_X8_markZones_34 hL v1 s0 v1 (0 : Int32) w)
  · refine sim_iconst (1 : Int32) dX8_markZones_29 rfl rfl ?_
    refine sim_goto (q := 34) dX8_markZones_30 rfl ?_
    exact sim_sub [1, 2, 0] rfl (sf_X8_markZones_34 hL v1 s0 v1 (1 : Int32) w)
def f_X8_markZones (N : Nat) (v1 : Int32) (w : Wd) : Option (Unit × Wd) :=
  if (w.1 2 0) = (5 : Int32) then
  f_X8_markZones_13 N v1 (1 : Int32) w
  else
  f_X8_markZones_13 N v1 (2 : Int32) w
set_option maxRecDepth 20000 in
theorem c_X8_markZones {E : Ev} (hL : LW E) (v1 : Int32) (w : Wd) : Ct E m_X8_markZones yX8_markZones rV [.ref (Ea E 2), .int v1] w (f_X8_markZones (En E) v1 w) := by
  refine Ct.of (by decide) ⟨rfl, rfl⟩ (Nat.le_of_ble_eq_true rfl) ?_
  show Sim E m_X8_markZones rV 0 [(0, .ref (Ea E 2)), (1, .int v1)] [] w (f_X8_markZones (En E) v1 w)
  unfold f_X8_markZones
  refine sim_aload_n 0 dX8_markZones_0 rfl rfl ?_
  refine sim_get (k := 2) (ci := 6) (j := 0) (v := .int (w.1 2 0)) (hL 2 rfl) rfl (by decide) fl_X8_27 rfl dX8_markZones_1 rfl ?_
  refine sim_iconst (5 : Int32) dX8_markZones_4 rfl rfl ?_
  refine sim_icmp_ne 12 dX8_markZones_5 rfl rfl (fun _ => ?_) (fun _ => ?_)
  · refine sim_iconst (2 : Int32) dX8_markZones_12 rfl rfl ?_
    exact sim_sub [0, 1] rfl (sf_X8_markZones_13 hL v1 (2 : Int32) w)
  · refine sim_iconst (1 : Int32) dX8_markZones_8 rfl rfl ?_
    refine sim_goto (q := 13) dX8_markZones_9 rfl ?_
    exact sim_sub [0, 1] rfl (sf_X8_markZones_13 hL v1 (1 : Int32) w)
def f_X8_turnedBits_28 (N : Nat) (R : Int32 → Int32 → Int32 → Wd → Option (Int32 × Wd)) (K34 : Int32 → Wd → Option (Int32 × Wd)) (v0 : Int32) (v1 : Int32) (v2 : Int32) (w : Wd) : Option (Int32 × Wd) :=
  R v0 v1 (v2 + (1 : Int32)) w
set_option maxRecDepth 20000 in
theorem sf_X8_turnedBits_28 {E : Ev} (hL : LW E) {R : Int32 → Int32 → Int32 → Wd → Option (Int32 × Wd)} (hR : ∀ (v0 : Int32) (v1 : Int32) (v2 : Int32) (w : Wd), Sim E m_X8_turnedBits rI 4 [(0, .int v0), (1, .int v1), (2, .int v2)] [] w (R v0 v1 v2 w)) {K34 : Int32 → Wd → Option (Int32 × Wd)} (hK34 : ∀ (v1 : Int32) (w : Wd), Sim E m_X8_turnedBits rI 34 [(1, .int v1)] [] w (K34 v1 w)) (v0 : Int32) (v1 : Int32) (v2 : Int32) (w : Wd) : Sim E m_X8_turnedBits rI 28 [(0, .int v0), (1, .int v1), (2, .int v2)] [] w (f_X8_turnedBits_28 (En E) R K34 v0 v1 v2 w) := by
  unfold f_X8_turnedBits_28
  refine sim_iinc (v2 + (1 : Int32)) 2 [(2, .int (v2 + (1 : Int32))), (0, .int v0), (1, .int v1)] dX8_turnedBits_28 rfl rfl (Nat.le_of_ble_eq_true rfl) rfl rfl ?_
  refine sim_goto (q := 4) dX8_turnedBits_31 rfl ?_
  exact sim_sub [1, 2, 0] rfl (hR v0 v1 (v2 + (1 : Int32)) w)
def b_X8_turnedBits_4 (N : Nat) (R : Int32 → Int32 → Int32 → Wd → Option (Int32 × Wd)) (K34 : Int32 → Wd → Option (Int32 × Wd)) (v0 : Int32) (v1 : Int32) (v2 : Int32) (w : Wd) : Option (Int32 × Wd) :=
  if (10 : Int32) ≤ v2 then
  K34 v1 w
  else
  if ((v0 >>> (v2 &&& 31)) &&& (1 : Int32)) = (0 : Int32) then
  f_X8_turnedBits_28 N R K34 v0 v1 v2 w
  else
  if inb v2 12 = true then
  lt (v1 ||| ((1 : Int32) <<< (((stV 0).getD (Int32.toNatClampNeg v2) 0) &&& 31))) fun x1 =>
  f_X8_turnedBits_28 N R K34 v0 x1 v2 w
  else none
set_option maxRecDepth 20000 in
theorem sb_X8_turnedBits_4 {E : Ev} (hL : LW E) {R : Int32 → Int32 → Int32 → Wd → Option (Int32 × Wd)} (hR : ∀ (v0 : Int32) (v1 : Int32) (v2 : Int32) (w : Wd), Sim E m_X8_turnedBits rI 4 [(0, .int v0), (1, .int v1), (2, .int v2)] [] w (R v0 v1 v2 w)) {K34 : Int32 → Wd → Option (Int32 × Wd)} (hK34 : ∀ (v1 : Int32) (w : Wd), Sim E m_X8_turnedBits rI 34 [(1, .int v1)] [] w (K34 v1 w)) (v0 : Int32) (v1 : Int32) (v2 : Int32) (w : Wd) : Sim E m_X8_turnedBits rI 4 [(0, .int v0), (1, .int v1), (2, .int v2)] [] w (b_X8_turnedBits_4 (En E) R K34 v0 v1 v2 w) := by
  unfold b_X8_turnedBits_4
  refine sim_iload_n 2 dX8_turnedBits_4 rfl rfl ?_
  refine sim_bipush (10 : Int32) dX8_turnedBits_5 rfl rfl ?_
  refine sim_icmp_ge 34 dX8_turnedBits_7 rfl rfl (fun _ => ?_) (fun _ => ?_)
  · exact sim_sub [1] rfl (hK34 v1 w)
  · refine sim_iload_n 0 dX8_turnedBits_10 rfl rfl ?_
    refine sim_iload_n 2 dX8_turnedBits_11 rfl rfl ?_
    refine sim_ishr dX8_turnedBits_12 rfl ?_
    refine sim_iconst (1 : Int32) dX8_turnedBits_13 rfl rfl ?_
    refine sim_iand dX8_turnedBits_14 rfl ?_
    refine sim_if_eq 28 dX8_turnedBits_15 rfl rfl (fun _ => ?_) (fun _ => ?_)
    · exact sim_sub [0, 1, 2] rfl (sf_X8_turnedBits_28 hL hR hK34 v0 v1 v2 w)
    · refine sim_iload_n 1 dX8_turnedBits_18 rfl rfl ?_
      refine sim_iconst (1 : Int32) dX8_turnedBits_19 rfl rfl ?_
      refine sim_gets (j := 0) (nm := "TURNED") (by decide) rfl kl_X8_71 dX8_turnedBits_20 rfl ?_
      refine sim_iload_n 2 dX8_turnedBits_23 rfl rfl ?_
      refine sim_tload (j := 0) (n := 12) (by decide) rfl dX8_turnedBits_24 rfl ?_
      refine sim_ishl dX8_turnedBits_25 rfl ?_
      refine sim_ior dX8_turnedBits_26 rfl ?_
      refine sim_lt (fun x1 => ?_)
      refine sim_istore_n [(1, .int x1), (0, .int v0), (2, .int v2)] dX8_turnedBits_27 (Nat.le_of_ble_eq_true rfl) rfl rfl ?_
      exact sim_sub [1, 0, 2] rfl (sf_X8_turnedBits_28 hL hR hK34 v0 x1 v2 w)
def l_X8_turnedBits_4 (N : Nat) (K34 : Int32 → Wd → Option (Int32 × Wd)) (n : Nat) : Int32 → Int32 → Int32 → Wd → Option (Int32 × Wd) := itr (fun _ _ _ _ => none) (fun R => b_X8_turnedBits_4 N R K34) n
set_option maxRecDepth 20000 in
theorem sl_X8_turnedBits_4 {E : Ev} (hL : LW E) {K34 : Int32 → Wd → Option (Int32 × Wd)} (hK34 : ∀ (v1 : Int32) (w : Wd), Sim E m_X8_turnedBits rI 34 [(1, .int v1)] [] w (K34 v1 w)) : ∀ (n : Nat) (v0 : Int32) (v1 : Int32) (v2 : Int32) (w : Wd), Sim E m_X8_turnedBits rI 4 [(0, .int v0), (1, .int v1), (2, .int v2)] [] w (l_X8_turnedBits_4 (En E) K34 n v0 v1 v2 w) := by
  intro n
  induction n with
  | zero => intros; exact sim_none
  | succ n ih => intros; exact sb_X8_turnedBits_4 hL (R := l_X8_turnedBits_4 (En E) K34 n) ih hK34 _ _ _ _
def f_X8_turnedBits_34 (N : Nat) (v1 : Int32) (w : Wd) : Option (Int32 × Wd) :=
  some (v1, w)
set_option maxRecDepth 20000 in
theorem sf_X8_turnedBits_34 {E : Ev} (hL : LW E) (v1 : Int32) (w : Wd) : Sim E m_X8_turnedBits rI 34 [(1, .int v1)] [] w (f_X8_turnedBits_34 (En E) v1 w) := by
  unfold f_X8_turnedBits_34
  refine sim_iload_n 0 dX8_turnedBits_34 rfl rfl ?_
  exact sim_iret rfl dX8_turnedBits_35
def f_X8_turnedBits (N : Nat) (v0 : Int32) (w : Wd) : Option (Int32 × Wd) :=
  l_X8_turnedBits_4 N (f_X8_turnedBits_34 N) FU v0 (0 : Int32) (0 : Int32) w
set_option maxRecDepth 20000 in
theorem c_X8_turnedBits {E : Ev} (hL : LW E) (v0 : Int32) (w : Wd) : Ct E m_X8_turnedBits yX8_turnedBits rI [.int v0] w (f_X8_turnedBits (En E) v0 w) := by
  refine Ct.of (by decide) ⟨rfl, rfl⟩ (Nat.le_of_ble_eq_true rfl) ?_
  show Sim E m_X8_turnedBits rI 0 [(0, .int v0)] [] w (f_X8_turnedBits (En E) v0 w)
  unfold f_X8_turnedBits
  refine sim_iconst (0 : Int32) dX8_turnedBits_0 rfl rfl ?_
  refine sim_istore_n [(1, .int (0 : Int32)), (0, .int v0)] dX8_turnedBits_1 (Nat.le_of_ble_eq_true rfl) rfl rfl ?_
  refine sim_iconst (0 : Int32) dX8_turnedBits_2 rfl rfl ?_
  refine sim_istore_n [(2, .int (0 : Int32)), (1, .int (0 : Int32)), (0, .int v0)] dX8_turnedBits_3 (Nat.le_of_ble_eq_true rfl) rfl rfl ?_
  exact sim_sub [2, 1, 0] rfl (sl_X8_turnedBits_4 hL (sf_X8_turnedBits_34 hL) FU v0 (0 : Int32) (0 : Int32) w)
def f_X8_tell (N : Nat) (v1 : Int32) (v2 : Int32) (v3 : Int32) (w : Wd) : Option (Unit × Wd) :=
  if inb v1 16 = true then
  lw (wdI w 6 (Int32.toNatClampNeg v1) v2) fun w1 =>
  if inb v1 16 = true then
  lw (wdI w1 7 (Int32.toNatClampNeg v1) v3) fun w2 =>
  if inb ((1 : Int32) + v1) 33 = true then
  lw (wdI w2 8 (Int32.toNatClampNeg ((1 : Int32) + v1)) v2) fun w3 =>
  if inb ((1 : Int32) + v1) 33 = true then
  lw (wdI w3 9 (Int32.toNatClampNeg ((1 : Int32) + v1)) v3) fun w4 =>
  bd (f_X8_turnedBits N v2 w4) fun x5 w6 =>
  if inb ((17 : Int32) + v1) 33 = true then
  lw (wdI w6 8 (Int32.toNatClampNeg ((17 : Int32) + v1)) x5) fun w7 =>
  bd (f_X8_turnedBits N v3 w7) fun x8 w9 =>
  if inb ((17 : Int32) + v1) 33 = true then
  lw (wdI w9 9 (Int32.toNatClampNeg ((17 : Int32) + v1)) x8) fun w10 =>
  some ((), w10)
  else none
  else none
  else none
  else none
  else none
  else none
set_option maxRecDepth 20000 in
theorem c_X8_tell {E : Ev} (hL : LW E) (v1 : Int32) (v2 : Int32) (v3 : Int32) (w : Wd) : Ct E m_X8_tell yX8_tell rV [.ref (Ea E 2), .int v1, .int v2, .int v3] w (f_X8_tell (En E) v1 v2 v3 w) := by
  refine Ct.of (by decide) ⟨rfl, rfl⟩ (Nat.le_of_ble_eq_true rfl) ?_
  show Sim E m_X8_tell rV 0 [(0, .ref (Ea E 2)), (1, .int v1), (2, .int v2), (3, .int v3)] [] w (f_X8_tell (En E) v1 v2 v3 w)
  unfold f_X8_tell
  refine sim_aload_n 0 dX8_tell_0 rfl rfl ?_
  refine sim_get (k := 2) (ci := 6) (j := 5) (v := .ref (Ea E 6)) (hL 2 rfl) rfl (by decide) fl_X8_9 rfl dX8_tell_1 rfl ?_
  refine sim_iload_n 1 dX8_tell_4 rfl rfl ?_
  refine sim_iload_n 2 dX8_tell_5 rfl rfl ?_
  refine sim_iastore (k := 6) (hL 6 rfl) rfl rfl dX8_tell_6 rfl ?_
  refine sim_lw (fun w1 => ?_)
  refine sim_aload_n 0 dX8_tell_7 rfl rfl ?_
  refine sim_get (k := 2) (ci := 6) (j := 6) (v := .ref (Ea E 7)) (hL 2 rfl) rfl (by decide) fl_X8_15 rfl dX8_tell_8 rfl ?_
  refine sim_iload_n 1 dX8_tell_11 rfl rfl ?_
  refine sim_iload_n 3 dX8_tell_12 rfl rfl ?_
  refine sim_iastore (k := 7) (hL 7 rfl) rfl rfl dX8_tell_13 rfl ?_
  refine sim_lw (fun w2 => ?_)
  refine sim_aload_n 0 dX8_tell_14 rfl rfl ?_
  refine sim_get (k := 2) (ci := 6) (j := 7) (v := .ref (Ea E 8)) (hL 2 rfl) rfl (by decide) fl_X8_18 rfl dX8_tell_15 rfl ?_
  refine sim_iconst (1 : Int32) dX8_tell_18 rfl rfl ?_
  refine sim_iload_n 1 dX8_tell_19 rfl rfl ?_
  refine sim_iadd dX8_tell_20 rfl ?_
  refine sim_iload_n 2 dX8_tell_21 rfl rfl ?_
  refine sim_iastore (k := 8) (hL 8 rfl) rfl rfl dX8_tell_22 rfl ?_
  refine sim_lw (fun w3 => ?_)
  refine sim_aload_n 0 dX8_tell_23 rfl rfl ?_
  refine sim_get (k := 2) (ci := 6) (j := 8) (v := .ref (Ea E 9)) (hL 2 rfl) rfl (by decide) fl_X8_21 rfl dX8_tell_24 rfl ?_
  refine sim_iconst (1 : Int32) dX8_tell_27 rfl rfl ?_
  refine sim_iload_n 1 dX8_tell_28 rfl rfl ?_
  refine sim_iadd dX8_tell_29 rfl ?_
  refine sim_iload_n 3 dX8_tell_30 rfl rfl ?_
  refine sim_iastore (k := 9) (hL 9 rfl) rfl rfl dX8_tell_31 rfl ?_
  refine sim_lw (fun w4 => ?_)
  refine sim_aload_n 0 dX8_tell_32 rfl rfl ?_
  refine sim_get (k := 2) (ci := 6) (j := 7) (v := .ref (Ea E 8)) (hL 2 rfl) rfl (by decide) fl_X8_18 rfl dX8_tell_33 rfl ?_
  refine sim_bipush (17 : Int32) dX8_tell_36 rfl rfl ?_
  refine sim_iload_n 1 dX8_tell_38 rfl rfl ?_
  refine sim_iadd dX8_tell_39 rfl ?_
  refine sim_iload_n 2 dX8_tell_40 rfl rfl ?_
  refine sim_cSi [.int v2] [.int ((17 : Int32) + v1), .ref (Ea E 8)] (c_X8_turnedBits hL v2 w4) cb_X8_67 sx_X8_turnedBits rfl rfl rfl (Nat.le_of_ble_eq_true rfl) dX8_tell_41 rfl (fun x5 w6 => ?_)
  refine sim_iastore (k := 8) (hL 8 rfl) rfl rfl dX8_tell_44 rfl ?_
  refine sim_lw (fun w7 => ?_)
  refine sim_aload_n 0 dX8_tell_45 rfl rfl ?_
  refine sim_get (k := 2) (ci := 6) (j := 8) (v := .ref (Ea E 9)) (hL 2 rfl) rfl (by decide) fl_X8_21 rfl dX8_tell_46 rfl ?_
  refine sim_bipush (17 : Int32) dX8_tell_49 rfl rfl ?_
  refine sim_iload_n 1 dX8_tell_51 rfl rfl ?_
  refine sim_iadd dX8_tell_52 rfl ?_
  refine sim_iload_n 3 dX8_tell_53 rfl rfl ?_
  refine sim_cSi [.int v3] [.int ((17 : Int32) + v1), .ref (Ea E 9)] (c_X8_turnedBits hL v3 w7) cb_X8_67 sx_X8_turnedBits rfl rfl rfl (Nat.le_of_ble_eq_true rfl) dX8_tell_54 rfl (fun x8 w9 => ?_)
  refine sim_iastore (k := 9) (hL 9 rfl) rfl rfl dX8_tell_57 rfl ?_
  refine sim_lw (fun w10 => ?_)
  exact sim_vret rfl dX8_tell_58
def f_X9_kind_24 (N : Nat) (w : Wd) : Option (Int32 × Wd) :=
  some ((-2 : Int32), w)
set_option maxRecDepth 20000 in
theorem sf_X9_kind_24 {E : Ev} (hL : LX E) (w : Wd) : Sim E m_X9_kind rI 24 [] [] w (f_X9_kind_24 (En E) w) := by
  unfold f_X9_kind_24
  refine sim_bipush (-2 : Int32) dX9_kind_24 rfl rfl ?_
  exact sim_iret rfl dX9_kind_26
def f_X9_kind_54 (N : Nat) (w : Wd) : Option (Int32 × Wd) :=
  some ((-2 : Int32), w)
set_option maxRecDepth 20000 in
theorem sf_X9_kind_54 {E : Ev} (hL : LX E) (w : Wd) : Sim E m_X9_kind rI 54 [] [] w (f_X9_kind_54 (En E) w) := by
  unfold f_X9_kind_54
  refine sim_bipush (-2 : Int32) dX9_kind_54 rfl rfl ?_
  exact sim_iret rfl dX9_kind_56
def f_X9_kind_75 (N : Nat) (v1 : Int32) (v2 : Int32) (v3 : Int32) (v4 : Int32) (v5 : Int32) (v6 : Int32) (w : Wd) : Option (Int32 × Wd) :=
  if (w.1 0 10) = (0 : Int32) then
  bd (f_X8_tell N v1 v2 v3 w) fun _ w9 =>
  bd (f_X8_tell N (v1 + (8 : Int32)) v4 v5 w9) fun _ w10 =>
  if inb v1 8 = true then
  lw (wdI w10 10 (Int32.toNatClampNeg v1) v6) fun w11 =>
  some ((1 : Int32), w11)
  else none
  else
  some ((-3 : Int32), w)
set_option maxRecDepth 20000 in
theorem sf_X9_kind_75 {E : Ev} (hL : LX E) (v1 : Int32) (v2 : Int32) (v3 : Int32) (v4 : Int32) (v5 : Int32) (v6 : Int32) (w : Wd) : Sim E m_X9_kind rI 75 [(0, .ref (Ea E 0)), (1, .int v1), (2, .int v2), (3, .int v3), (4, .int v4), (5, .int v5), (6, .int v6)] [] w (f_X9_kind_75 (En E) v1 v2 v3 v4 v5 v6 w) := by
  unfold f_X9_kind_75
  refine sim_aload_n 0 dX9_kind_75 rfl rfl ?_
  refine sim_get (k := 0) (ci := 7) (j := 10) (v := .int (w.1 0 10)) (hL.1 0 rfl) rfl (by decide) fl_X9_86 rfl dX9_kind_76 rfl ?_
  refine sim_if_eq 85 dX9_kind_79 rfl rfl (fun _ => ?_) (fun _ => ?_)
  · refine sim_aload_n 0 dX9_kind_85 rfl rfl ?_
    refine sim_get (k := 0) (ci := 7) (j := 1) (v := .ref (Ea E 2)) (hL.1 0 rfl) rfl (by decide) fl_X9_22 rfl dX9_kind_86 rfl ?_
    refine sim_iload_n 1 dX9_kind_89 rfl rfl ?_
    refine sim_iload_n 2 dX9_kind_90 rfl rfl ?_
    refine sim_iload_n 3 dX9_kind_91 rfl rfl ?_
    refine sim_cVv (k := 2) (ci := 6) [.int v1, .int v2, .int v3] [] (c_X8_tell hL.w v1 v2 v3 w) (hL.1 2 rfl) rfl (by decide) rfl cb_X9_90 im_X8_tell se_X8_tell rfl rfl rfl (Nat.le_of_ble_eq_true rfl) dX9_kind_92 rfl (fun _ w9 => ?_)
    refine sim_aload_n 0 dX9_kind_95 rfl rfl ?_
    refine sim_get (k := 0) (ci := 7) (j := 1) (v := .ref (Ea E 2)) (hL.1 0 rfl) rfl (by decide) fl_X9_22 rfl dX9_kind_96 rfl ?_
    refine sim_iload_n 1 dX9_kind_99 rfl rfl ?_
    refine sim_bipush (8 : Int32) dX9_kind_100 rfl rfl ?_
    refine sim_iadd dX9_kind_102 rfl ?_
    refine sim_iload 4 dX9_kind_103 rfl rfl ?_
    refine sim_iload 5 dX9_kind_105 rfl rfl ?_
    refine sim_cVv (k := 2) (ci := 6) [.int (v1 + (8 : Int32)), .int v4, .int v5] [] (c_X8_tell hL.w (v1 + (8 : Int32)) v4 v5 w9) (hL.1 2 rfl) rfl (by decide) rfl cb_X9_90 im_X8_tell se_X8_tell rfl rfl rfl (Nat.le_of_ble_eq_true rfl) dX9_kind_107 rfl (fun _ w10 => ?_)
    refine sim_aload_n 0 dX9_kind_110 rfl rfl ?_
    refine sim_get (k := 0) (ci := 7) (j := 1) (v := .ref (Ea E 2)) (hL.1 0 rfl) rfl (by decide) fl_X9_22 rfl dX9_kind_111 rfl ?_
    refine sim_get (k := 2) (ci := 6) (j := 9) (v := .ref (Ea E 10)) (hL.1 2 rfl) rfl (by decide) fl_X9_94 rfl dX9_kind_114 rfl ?_
    refine sim_iload_n 1 dX9_kind_117 rfl rfl ?_
    refine sim_iload 6 dX9_kind_118 rfl rfl ?_
    refine sim_iastore (k := 10) (hL.1 10 rfl) rfl rfl dX9_kind_120 rfl ?_
    refine sim_lw (fun w11 => ?_)
    refine sim_iconst (1 : Int32) dX9_kind_121 rfl rfl ?_
    exact sim_iret rfl dX9_kind_122
  · refine sim_bipush (-3 : Int32) dX9_kind_82 rfl rfl ?_
    exact sim_iret rfl dX9_kind_84
def f_X9_kind (N : Nat) (v1 : Int32) (v2 : Int32) (v3 : Int32) (v4 : Int32) (v5 : Int32) (v6 : Int32) (w : Wd) : Option (Int32 × Wd) :=
  if v1 < (0 : Int32) then
  f_X9_kind_24 N w
  else
  if (7 : Int32) < v1 then
  f_X9_kind_24 N w
  else
  bd (f_X8_areSteps N v2 w) fun x1 w2 =>
  if x1 = (0 : Int32) then
  f_X9_kind_24 N w2
  else
  bd (f_X8_areRuns N v3 w2) fun x3 w4 =>
  if x3 = (0 : Int32) then
  f_X9_kind_24 N w4
  else
  bd (f_X8_areSteps N v4 w4) fun x5 w6 =>
  if x5 = (0 : Int32) then
  f_X9_kind_54 N w6
  else
  bd (f_X8_areRuns N v5 w6) fun x7 w8 =>
  if x7 = (0 : Int32) then
  f_X9_kind_54 N w8
  else
  if v6 < (0 : Int32) then
  f_X9_kind_54 N w8
  else
  if v6 ≤ (3 : Int32) then
  if v1 = (0 : Int32) then
  if ((v4 ||| v5) ||| v6) = (0 : Int32) then
  f_X9_kind_75 N v1 v2 v3 v4 v5 v6 w8
  else
  some ((-2 : Int32), w8)
  else
  f_X9_kind_75 N v1 v2 v3 v4 v5 v6 w8
  else
  f_X9_kind_54 N w8
set_option maxRecDepth 20000 in
theorem c_X9_kind {E : Ev} (hL : LX E) (v1 : Int32) (v2 : Int32) (v3 : Int32) (v4 : Int32) (v5 : Int32) (v6 : Int32) (w : Wd) : Ct E m_X9_kind yX9_kind rI [.ref (Ea E 0), .int v1, .int v2, .int v3, .int v4, .int v5, .int v6] w (f_X9_kind (En E) v1 v2 v3 v4 v5 v6 w) := by
  refine Ct.of (by decide) ⟨rfl, rfl⟩ (Nat.le_of_ble_eq_true rfl) ?_
  show Sim E m_X9_kind rI 0 [(0, .ref (Ea E 0)), (1, .int v1), (2, .int v2), (3, .int v3), (4, .int v4), (5, .int v5), (6, .int v6)] [] w (f_X9_kind (En E) v1 v2 v3 v4 v5 v6 w)
  unfold f_X9_kind
  refine sim_iload_n 1 dX9_kind_0 rfl rfl ?_
  refine sim_if_lt 24 dX9_kind_1 rfl rfl (fun _ => ?_) (fun _ => ?_)
  · exact sim_sub [] rfl (sf_X9_kind_24 hL w)
  · refine sim_iload_n 1 dX9_kind_4 rfl rfl ?_
    refine sim_bipush (7 : Int32) dX9_kind_5 rfl rfl ?_
    refine sim_icmp_gt 24 dX9_kind_7 rfl rfl (fun _ => ?_) (fun _ => ?_)
    · exact sim_sub [] rfl (sf_X9_kind_24 hL w)
    · refine sim_iload_n 2 dX9_kind_10 rfl rfl ?_
      refine sim_cSi [.int v2] [] (c_X8_areSteps hL.w v2 w) cb_X9_79 sx_X8_areSteps rfl rfl rfl (Nat.le_of_ble_eq_true rfl) dX9_kind_11 rfl (fun x1 w2 => ?_)
      refine sim_if_eq 24 dX9_kind_14 rfl rfl (fun _ => ?_) (fun _ => ?_)
      · exact sim_sub [] rfl (sf_X9_kind_24 hL w2)
      · refine sim_iload_n 3 dX9_kind_17 rfl rfl ?_
        refine sim_cSi [.int v3] [] (c_X8_areRuns hL.w v3 w2) cb_X9_83 sx_X8_areRuns rfl rfl rfl (Nat.le_of_ble_eq_true rfl) dX9_kind_18 rfl (fun x3 w4 => ?_)
        refine sim_if_ne 27 dX9_kind_21 rfl rfl (fun _ => ?_) (fun _ => ?_)
        · refine sim_iload 4 dX9_kind_27 rfl rfl ?_
          refine sim_cSi [.int v4] [] (c_X8_areSteps hL.w v4 w4) cb_X9_79 sx_X8_areSteps rfl rfl rfl (Nat.le_of_ble_eq_true rfl) dX9_kind_29 rfl (fun x5 w6 => ?_)
          refine sim_if_eq 54 dX9_kind_32 rfl rfl (fun _ => ?_) (fun _ => ?_)
          · exact sim_sub [] rfl (sf_X9_kind_54 hL w6)
          · refine sim_iload 5 dX9_kind_35 rfl rfl ?_
            refine sim_cSi [.int v5] [] (c_X8_areRuns hL.w v5 w6) cb_X9_83 sx_X8_areRuns rfl rfl rfl (Nat.le_of_ble_eq_true rfl) dX9_kind_37 rfl (fun x7 w8 => ?_)
            refine sim_if_eq 54 dX9_kind_40 rfl rfl (fun _ => ?_) (fun _ => ?_)
            · exact sim_sub [] rfl (sf_X9_kind_54 hL w8)
            · refine sim_iload 6 dX9_kind_43 rfl rfl ?_
              refine sim_if_lt 54 dX9_kind_45 rfl rfl (fun _ => ?_) (fun _ => ?_)
              · exact sim_sub [] rfl (sf_X9_kind_54 hL w8)
              · refine sim_iload 6 dX9_kind_48 rfl rfl ?_
                refine sim_iconst (3 : Int32) dX9_kind_50 rfl rfl ?_
                refine sim_icmp_le 57 dX9_kind_51 rfl rfl (fun _ => ?_) (fun _ => ?_)
                · refine sim_iload_n 1 dX9_kind_57 rfl rfl ?_
                  refine sim_if_ne 75 dX9_kind_58 rfl rfl (fun _ => ?_) (fun _ => ?_)
                  · exact sim_sub [0, 1, 2, 3, 4, 5, 6] rfl (sf_X9_kind_75 hL v1 v2 v3 v4 v5 v6 w8)
                  · refine sim_iload 4 dX9_kind_61 rfl rfl ?_
                    refine sim_iload 5 dX9_kind_63 rfl rfl ?_
                    refine sim_ior dX9_kind_65 rfl ?_
                    refine sim_iload 6 dX9_kind_66 rfl rfl ?_
                    refine sim_ior dX9_kind_68 rfl ?_
                    refine sim_if_eq 75 dX9_kind_69 rfl rfl (fun _ => ?_) (fun _ => ?_)
                    · exact sim_sub [0, 1, 2, 3, 4, 5, 6] rfl (sf_X9_kind_75 hL v1 v2 v3 v4 v5 v6 w8)
                    · refine sim_bipush (-2 : Int32) dX9_kind_72 rfl rfl ?_
                      exact sim_iret rfl dX9_kind_74
                · exact sim_sub [] rfl (sf_X9_kind_54 hL w8)
        · exact sim_sub [] rfl (sf_X9_kind_24 hL w4)
def f_X9_found (N : Nat) (v1 : Int32) (w : Wd) : Option (Int32 × Wd) :=
  lw (wdI w 0 12 v1) fun w1 =>
  some (((-10 : Int32) - v1), w1)
set_option maxRecDepth 20000 in
theorem c_X9_found {E : Ev} (hL : LX E) (v1 : Int32) (w : Wd) : Ct E m_X9_found yX9_found rI [.ref (Ea E 0), .int v1] w (f_X9_found (En E) v1 w) := by
  refine Ct.of (by decide) ⟨rfl, rfl⟩ (Nat.le_of_ble_eq_true rfl) ?_
  show Sim E m_X9_found rI 0 [(0, .ref (Ea E 0)), (1, .int v1)] [] w (f_X9_found (En E) v1 w)
  unfold f_X9_found
  refine sim_aload_n 0 dX9_found_0 rfl rfl ?_
  refine sim_iload_n 1 dX9_found_1 rfl rfl ?_
  refine sim_put (k := 0) (ci := 7) (j := 12) (hL.1 0 rfl) rfl (by decide) fp_X9_129 rfl rfl (st_0_12 _ _ _) (Nat.le_of_ble_eq_true rfl) dX9_found_2 rfl ?_
  refine sim_lw (fun w1 => ?_)
  refine sim_bipush (-10 : Int32) dX9_found_5 rfl rfl ?_
  refine sim_iload_n 1 dX9_found_7 rfl rfl ?_
  refine sim_isub dX9_found_8 rfl ?_
  exact sim_iret rfl dX9_found_9
def f_X9_line_24 (N : Nat) (w : Wd) : Option (Int32 × Wd) :=
  some ((-2 : Int32), w)
set_option maxRecDepth 20000 in
theorem sf_X9_line_24 {E : Ev} (hL : LX E) (w : Wd) : Sim E m_X9_line rI 24 [] [] w (f_X9_line_24 (En E) w) := by
  unfold f_X9_line_24
  refine sim_bipush (-2 : Int32) dX9_line_24 rfl rfl ?_
  exact sim_iret rfl dX9_line_26
def f_X9_line (N : Nat) (v1 : Int32) (v2 : Int32) (v3 : Int32) (w : Wd) : Option (Int32 × Wd) :=
  bd (f_X1_isLine N v1 w) fun x1 w2 =>
  if x1 = (0 : Int32) then
  f_X9_line_24 N w2
  else
  bd (f_X1_isForm N v2 w2) fun x3 w4 =>
  if x3 = (0 : Int32) then
  f_X9_line_24 N w4
  else
  if v3 ≤ (12 : Int32) then
  if (0 : Int32) ≤ v3 then
  bd (f_X1_renew N v1 v2 v3 w4) fun _ w5 =>
  some (v3, w5)
  else
  bd (f_X9_found N (5 : Int32) w4) fun x6 w7 =>
  some (x6, w7)
  else
  f_X9_line_24 N w4
set_option maxRecDepth 20000 in
theorem c_X9_line {E : Ev} (hL : LX E) (v1 : Int32) (v2 : Int32) (v3 : Int32) (w : Wd) : Ct E m_X9_line yX9_line rI [.ref (Ea E 0), .int v1, .int v2, .int v3] w (f_X9_line (En E) v1 v2 v3 w) := by
  refine Ct.of (by decide) ⟨rfl, rfl⟩ (Nat.le_of_ble_eq_true rfl) ?_
  show Sim E m_X9_line rI 0 [(0, .ref (Ea E 0)), (1, .int v1), (2, .int v2), (3, .int v3)] [] w (f_X9_line (En E) v1 v2 v3 w)
  unfold f_X9_line
  refine sim_aload_n 0 dX9_line_0 rfl rfl ?_
  refine sim_get (k := 0) (ci := 7) (j := 2) (v := .ref (Ea E 11)) (hL.1 0 rfl) rfl (by decide) fl_X9_29 rfl dX9_line_1 rfl ?_
  refine sim_iload_n 1 dX9_line_4 rfl rfl ?_
  refine sim_cVi (k := 11) (ci := 1) [.int v1] [] (c_X1_isLine hL v1 w) (hL.1 11 rfl) rfl (by decide) rfl cb_X9_97 im_X1_isLine se_X1_isLine rfl rfl rfl (Nat.le_of_ble_eq_true rfl) dX9_line_5 rfl (fun x1 w2 => ?_)
  refine sim_if_eq 24 dX9_line_8 rfl rfl (fun _ => ?_) (fun _ => ?_)
  · exact sim_sub [] rfl (sf_X9_line_24 hL w2)
  · refine sim_iload_n 2 dX9_line_11 rfl rfl ?_
    refine sim_cSi [.int v2] [] (c_X1_isForm hL v2 w2) cb_X9_100 sx_X1_isForm rfl rfl rfl (Nat.le_of_ble_eq_true rfl) dX9_line_12 rfl (fun x3 w4 => ?_)
    refine sim_if_eq 24 dX9_line_15 rfl rfl (fun _ => ?_) (fun _ => ?_)
    · exact sim_sub [] rfl (sf_X9_line_24 hL w4)
    · refine sim_iload_n 3 dX9_line_18 rfl rfl ?_
      refine sim_bipush (12 : Int32) dX9_line_19 rfl rfl ?_
      refine sim_icmp_le 27 dX9_line_21 rfl rfl (fun _ => ?_) (fun _ => ?_)
      · refine sim_iload_n 3 dX9_line_27 rfl rfl ?_
        refine sim_if_ge 37 dX9_line_28 rfl rfl (fun _ => ?_) (fun _ => ?_)
        · refine sim_aload_n 0 dX9_line_37 rfl rfl ?_
          refine sim_get (k := 0) (ci := 7) (j := 2) (v := .ref (Ea E 11)) (hL.1 0 rfl) rfl (by decide) fl_X9_29 rfl dX9_line_38 rfl ?_
          refine sim_iload_n 1 dX9_line_41 rfl rfl ?_
          refine sim_iload_n 2 dX9_line_42 rfl rfl ?_
          refine sim_iload_n 3 dX9_line_43 rfl rfl ?_
          refine sim_cVv (k := 11) (ci := 1) [.int v1, .int v2, .int v3] [] (c_X1_renew hL v1 v2 v3 w4) (hL.1 11 rfl) rfl (by decide) rfl cb_X9_107 im_X1_renew se_X1_renew rfl rfl rfl (Nat.le_of_ble_eq_true rfl) dX9_line_44 rfl (fun _ w5 => ?_)
          refine sim_iload_n 3 dX9_line_47 rfl rfl ?_
          exact sim_iret rfl dX9_line_48
        · refine sim_aload_n 0 dX9_line_31 rfl rfl ?_
          refine sim_iconst (5 : Int32) dX9_line_32 rfl rfl ?_
          refine sim_cVi (k := 0) (ci := 7) [.int (5 : Int32)] [] (c_X9_found hL (5 : Int32) w4) (hL.1 0 rfl) rfl (by decide) rfl cb_X9_103 im_X9_found se_X9_found rfl rfl rfl (Nat.le_of_ble_eq_true rfl) dX9_line_33 rfl (fun x6 w7 => ?_)
          exact sim_iret rfl dX9_line_36
      · exact sim_sub [] rfl (sf_X9_line_24 hL w4)
def f_X9_lose (N : Nat) (v1 : Int32) (w : Wd) : Option (Int32 × Wd) :=
  bd (f_X1_isLine N v1 w) fun x1 w2 =>
  if x1 = (0 : Int32) then
  some ((-2 : Int32), w2)
  else
  bd (f_X1_isLost N v1 w2) fun x3 w4 =>
  if x3 = (0 : Int32) then
  if inb v1 N = true then
  lt (w4.1 13 (Int32.toNatClampNeg v1)) fun x5 =>
  if inb v1 N = true then
  lw (wdI w4 13 (Int32.toNatClampNeg v1) (-1 : Int32)) fun w6 =>
  some (x5, w6)
  else none
  else none
  else
  bd (f_X9_found N (1 : Int32) w4) fun x7 w8 =>
  some (x7, w8)
set_option maxRecDepth 20000 in
theorem c_X9_lose {E : Ev} (hL : LX E) (v1 : Int32) (w : Wd) : Ct E m_X9_lose yX9_lose rI [.ref (Ea E 0), .int v1] w (f_X9_lose (En E) v1 w) := by
  refine Ct.of (by decide) ⟨rfl, rfl⟩ (Nat.le_of_ble_eq_true rfl) ?_
  show Sim E m_X9_lose rI 0 [(0, .ref (Ea E 0)), (1, .int v1)] [] w (f_X9_lose (En E) v1 w)
  unfold f_X9_lose
  refine sim_aload_n 0 dX9_lose_0 rfl rfl ?_
  refine sim_get (k := 0) (ci := 7) (j := 2) (v := .ref (Ea E 11)) (hL.1 0 rfl) rfl (by decide) fl_X9_29 rfl dX9_lose_1 rfl ?_
  refine sim_iload_n 1 dX9_lose_4 rfl rfl ?_
  refine sim_cVi (k := 11) (ci := 1) [.int v1] [] (c_X1_isLine hL v1 w) (hL.1 11 rfl) rfl (by decide) rfl cb_X9_97 im_X1_isLine se_X1_isLine rfl rfl rfl (Nat.le_of_ble_eq_true rfl) dX9_lose_5 rfl (fun x1 w2 => ?_)
  refine sim_if_ne 14 dX9_lose_8 rfl rfl (fun _ => ?_) (fun _ => ?_)
  · refine sim_aload_n 0 dX9_lose_14 rfl rfl ?_
    refine sim_get (k := 0) (ci := 7) (j := 2) (v := .ref (Ea E 11)) (hL.1 0 rfl) rfl (by decide) fl_X9_29 rfl dX9_lose_15 rfl ?_
    refine sim_iload_n 1 dX9_lose_18 rfl rfl ?_
    refine sim_cVi (k := 11) (ci := 1) [.int v1] [] (c_X1_isLost hL v1 w2) (hL.1 11 rfl) rfl (by decide) rfl cb_X9_110 im_X1_isLost se_X1_isLost rfl rfl rfl (Nat.le_of_ble_eq_true rfl) dX9_lose_19 rfl (fun x3 w4 => ?_)
    refine sim_if_eq 31 dX9_lose_22 rfl rfl (fun _ => ?_) (fun _ => ?_)
    · refine sim_aload_n 0 dX9_lose_31 rfl rfl ?_
      refine sim_get (k := 0) (ci := 7) (j := 2) (v := .ref (Ea E 11)) (hL.1 0 rfl) rfl (by decide) fl_X9_29 rfl dX9_lose_32 rfl ?_
      refine sim_get (k := 11) (ci := 1) (j := 2) (v := .ref (Ea E 13)) (hL.1 11 rfl) rfl (by decide) fl_X9_113 rfl dX9_lose_35 rfl ?_
      refine sim_iload_n 1 dX9_lose_38 rfl rfl ?_
      refine sim_iaload (k := 13) (hL.1 13 rfl) rfl rfl dX9_lose_39 rfl ?_
      refine sim_lt (fun x5 => ?_)
      refine sim_istore_n [(2, .int x5), (0, .ref (Ea E 0)), (1, .int v1)] dX9_lose_40 (Nat.le_of_ble_eq_true rfl) rfl rfl ?_
      refine sim_aload_n 1 dX9_lose_41 rfl rfl ?_
      refine sim_get (k := 0) (ci := 7) (j := 2) (v := .ref (Ea E 11)) (hL.1 0 rfl) rfl (by decide) fl_X9_29 rfl dX9_lose_42 rfl ?_
      refine sim_get (k := 11) (ci := 1) (j := 2) (v := .ref (Ea E 13)) (hL.1 11 rfl) rfl (by decide) fl_X9_113 rfl dX9_lose_45 rfl ?_
      refine sim_iload_n 2 dX9_lose_48 rfl rfl ?_
      refine sim_iconst (-1 : Int32) dX9_lose_49 rfl rfl ?_
      refine sim_iastore (k := 13) (hL.1 13 rfl) rfl rfl dX9_lose_50 rfl ?_
      refine sim_lw (fun w6 => ?_)
      refine sim_iload_n 0 dX9_lose_51 rfl rfl ?_
      exact sim_iret rfl dX9_lose_52
    · refine sim_aload_n 0 dX9_lose_25 rfl rfl ?_
      refine sim_iconst (1 : Int32) dX9_lose_26 rfl rfl ?_
      refine sim_cVi (k := 0) (ci := 7) [.int (1 : Int32)] [] (c_X9_found hL (1 : Int32) w4) (hL.1 0 rfl) rfl (by decide) rfl cb_X9_103 im_X9_found se_X9_found rfl rfl rfl (Nat.le_of_ble_eq_true rfl) dX9_lose_27 rfl (fun x7 w8 => ?_)
      exact sim_iret rfl dX9_lose_30
  · refine sim_bipush (-2 : Int32) dX9_lose_11 rfl rfl ?_
    exact sim_iret rfl dX9_lose_13
