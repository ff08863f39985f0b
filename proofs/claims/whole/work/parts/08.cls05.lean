def f_X9_put_18 (N : Nat) (w : Wd) : Option (Int32 × Wd) :=
  some ((-2 : Int32), w)
set_option maxRecDepth 20000 in
theorem sf_X9_put_18 {E : Ev} (hL : LX E) (w : Wd) : Sim E m_X9_put rI 18 [] [] w (f_X9_put_18 (En E) w) := by
  unfold f_X9_put_18
  refine sim_bipush (-2 : Int32) dX9_put_18 rfl rfl ?_
  exact sim_iret rfl dX9_put_20
def f_X9_put (N : Nat) (v1 : Int32) (v2 : Int32) (v3 : Int32) (v4 : Int32) (w : Wd) : Option (Int32 × Wd) :=
  bd (f_X1_isLine N v1 w) fun x1 w2 =>
  if x1 = (0 : Int32) then
  f_X9_put_18 N w2
  else
  bd (f_X1_isForm N v2 w2) fun x3 w4 =>
  if x3 = (0 : Int32) then
  f_X9_put_18 N w4
  else
  bd (f_X1_faultOfItem N v1 v2 v3 w4) fun x5 w6 =>
  if x5 = (0 : Int32) then
  if inb v1 N = true then
  bd (f_X1_narrowed N v2 v4 w6) fun x8 w9 =>
  if inb v3 12 = true then
  lw (wdI w9 (14 + 1 + (Int32.toNatClampNeg v1)) (Int32.toNatClampNeg v3) x8) fun w10 =>
  some ((1 : Int32), w10)
  else none
  else none
  else
  bd (f_X9_found N x5 w6) fun x11 w12 =>
  some (x11, w12)
set_option maxRecDepth 20000 in
theorem c_X9_put {E : Ev} (hL : LX E) (v1 : Int32) (v2 : Int32) (v3 : Int32) (v4 : Int32) (w : Wd) : Ct E m_X9_put yX9_put rI [.ref (Ea E 0), .int v1, .int v2, .int v3, .int v4] w (f_X9_put (En E) v1 v2 v3 v4 w) := by
  refine Ct.of (by decide) ⟨rfl, rfl⟩ (Nat.le_of_ble_eq_true rfl) ?_
  show Sim E m_X9_put rI 0 [(0, .ref (Ea E 0)), (1, .int v1), (2, .int v2), (3, .int v3), (4, .int v4)] [] w (f_X9_put (En E) v1 v2 v3 v4 w)
  unfold f_X9_put
  refine sim_aload_n 0 dX9_put_0 rfl rfl ?_
  refine sim_get (k := 0) (ci := 7) (j := 2) (v := .ref (Ea E 11)) (hL.1 0 rfl) rfl (by decide) fl_X9_29 rfl dX9_put_1 rfl ?_
  refine sim_iload_n 1 dX9_put_4 rfl rfl ?_
  refine sim_cVi (k := 11) (ci := 1) [.int v1] [] (c_X1_isLine hL v1 w) (hL.1 11 rfl) rfl (by decide) rfl cb_X9_97 im_X1_isLine se_X1_isLine rfl rfl rfl (Nat.le_of_ble_eq_true rfl) dX9_put_5 rfl (fun x1 w2 => ?_)
  refine sim_if_eq 18 dX9_put_8 rfl rfl (fun _ => ?_) (fun _ => ?_)
  · exact sim_sub [] rfl (sf_X9_put_18 hL w2)
  · refine sim_iload_n 2 dX9_put_11 rfl rfl ?_
    refine sim_cSi [.int v2] [] (c_X1_isForm hL v2 w2) cb_X9_100 sx_X1_isForm rfl rfl rfl (Nat.le_of_ble_eq_true rfl) dX9_put_12 rfl (fun x3 w4 => ?_)
    refine sim_if_ne 21 dX9_put_15 rfl rfl (fun _ => ?_) (fun _ => ?_)
    · refine sim_aload_n 0 dX9_put_21 rfl rfl ?_
      refine sim_get (k := 0) (ci := 7) (j := 2) (v := .ref (Ea E 11)) (hL.1 0 rfl) rfl (by decide) fl_X9_29 rfl dX9_put_22 rfl ?_
      refine sim_iload_n 1 dX9_put_25 rfl rfl ?_
      refine sim_iload_n 2 dX9_put_26 rfl rfl ?_
      refine sim_iload_n 3 dX9_put_27 rfl rfl ?_
      refine sim_cVi (k := 11) (ci := 1) [.int v1, .int v2, .int v3] [] (c_X1_faultOfItem hL v1 v2 v3 w4) (hL.1 11 rfl) rfl (by decide) rfl cb_X9_116 im_X1_faultOfItem se_X1_faultOfItem rfl rfl rfl (Nat.le_of_ble_eq_true rfl) dX9_put_28 rfl (fun x5 w6 => ?_)
      refine sim_istore [(5, .int x5), (0, .ref (Ea E 0)), (1, .int v1), (2, .int v2), (3, .int v3), (4, .int v4)] dX9_put_31 (Nat.le_of_ble_eq_true rfl) rfl rfl ?_
      refine sim_iload 0 dX9_put_33 rfl rfl ?_
      refine sim_if_eq 45 dX9_put_35 rfl rfl (fun _ => ?_) (fun _ => ?_)
      · refine sim_aload_n 1 dX9_put_45 rfl rfl ?_
        refine sim_get (k := 0) (ci := 7) (j := 2) (v := .ref (Ea E 11)) (hL.1 0 rfl) rfl (by decide) fl_X9_29 rfl dX9_put_46 rfl ?_
        refine sim_get (k := 11) (ci := 1) (j := 3) (v := .ref (Ea E 14)) (hL.1 11 rfl) rfl (by decide) fl_X9_120 rfl dX9_put_49 rfl ?_
        refine sim_iload_n 2 dX9_put_52 rfl rfl ?_
        refine sim_aaload (k := 14) (hL.1 14 rfl) rfl rfl rfl dX9_put_53 rfl (fun hi7 => ?_)
        refine sim_iload_n 4 dX9_put_54 rfl rfl ?_
        refine sim_iload_n 3 dX9_put_55 rfl rfl ?_
        refine sim_iload 5 dX9_put_56 rfl rfl ?_
        refine sim_cSi [.int v2, .int v4] [.int v3, .ref (Ea E (14 + 1 + (Int32.toNatClampNeg v1)))] (c_X1_narrowed hL v2 v4 w6) cb_X9_124 sx_X1_narrowed rfl rfl rfl (Nat.le_of_ble_eq_true rfl) dX9_put_58 rfl (fun x8 w9 => ?_)
        refine sim_iastore (k := (14 + 1 + (Int32.toNatClampNeg v1))) (hL.2.1 _ (inb_lt hi7)) (row_kd _ (Nat.lt_of_lt_of_le (inb_lt hi7) hL.2.2.2)) (row_ln _ (Nat.lt_of_lt_of_le (inb_lt hi7) hL.2.2.2)) dX9_put_61 rfl ?_
        refine sim_lw (fun w10 => ?_)
        refine sim_iconst (1 : Int32) dX9_put_62 rfl rfl ?_
        exact sim_iret rfl dX9_put_63
      · refine sim_aload_n 1 dX9_put_38 rfl rfl ?_
        refine sim_iload 0 dX9_put_39 rfl rfl ?_
        refine sim_cVi (k := 0) (ci := 7) [.int x5] [] (c_X9_found hL x5 w6) (hL.1 0 rfl) rfl (by decide) rfl cb_X9_103 im_X9_found se_X9_found rfl rfl rfl (Nat.le_of_ble_eq_true rfl) dX9_put_41 rfl (fun x11 w12 => ?_)
        exact sim_iret rfl dX9_put_44
    · exact sim_sub [] rfl (sf_X9_put_18 hL w4)
def f_X9_get_18 (N : Nat) (w : Wd) : Option (Int32 × Wd) :=
  some ((-2147483648 : Int32), w)
set_option maxRecDepth 20000 in
theorem sf_X9_get_18 {E : Ev} (hL : LX E) (w : Wd) : Sim E m_X9_get rI 18 [] [] w (f_X9_get_18 (En E) w) := by
  unfold f_X9_get_18
  refine sim_ldc (-2147483648 : Int32) dX9_get_18 k_X9_128 rfl ?_
  exact sim_iret rfl dX9_get_20
def f_X9_get (N : Nat) (v1 : Int32) (v2 : Int32) (v3 : Int32) (w : Wd) : Option (Int32 × Wd) :=
  bd (f_X1_isLine N v1 w) fun x1 w2 =>
  if x1 = (0 : Int32) then
  f_X9_get_18 N w2
  else
  bd (f_X1_isForm N v2 w2) fun x3 w4 =>
  if x3 = (0 : Int32) then
  f_X9_get_18 N w4
  else
  bd (f_X1_faultOfItem N v1 v2 v3 w4) fun x5 w6 =>
  if x5 = (0 : Int32) then
  if inb v1 N = true then
  if inb v3 12 = true then
  some ((w6.1 (14 + 1 + (Int32.toNatClampNeg v1)) (Int32.toNatClampNeg v3)), w6)
  else none
  else none
  else
  lw (wdI w6 0 12 x5) fun w8 =>
  some ((-2147483648 : Int32), w8)
set_option maxRecDepth 20000 in
theorem c_X9_get {E : Ev} (hL : LX E) (v1 : Int32) (v2 : Int32) (v3 : Int32) (w : Wd) : Ct E m_X9_get yX9_get rI [.ref (Ea E 0), .int v1, .int v2, .int v3] w (f_X9_get (En E) v1 v2 v3 w) := by
  refine Ct.of (by decide) ⟨rfl, rfl⟩ (Nat.le_of_ble_eq_true rfl) ?_
  show Sim E m_X9_get rI 0 [(0, .ref (Ea E 0)), (1, .int v1), (2, .int v2), (3, .int v3)] [] w (f_X9_get (En E) v1 v2 v3 w)
  unfold f_X9_get
  refine sim_aload_n 0 dX9_get_0 rfl rfl ?_
  refine sim_get (k := 0) (ci := 7) (j := 2) (v := .ref (Ea E 11)) (hL.1 0 rfl) rfl (by decide) fl_X9_29 rfl dX9_get_1 rfl ?_
  refine sim_iload_n 1 dX9_get_4 rfl rfl ?_
  refine sim_cVi (k := 11) (ci := 1) [.int v1] [] (c_X1_isLine hL v1 w) (hL.1 11 rfl) rfl (by decide) rfl cb_X9_97 im_X1_isLine se_X1_isLine rfl rfl rfl (Nat.le_of_ble_eq_true rfl) dX9_get_5 rfl (fun x1 w2 => ?_)
  refine sim_if_eq 18 dX9_get_8 rfl rfl (fun _ => ?_) (fun _ => ?_)
  · exact sim_sub [] rfl (sf_X9_get_18 hL w2)
  · refine sim_iload_n 2 dX9_get_11 rfl rfl ?_
    refine sim_cSi [.int v2] [] (c_X1_isForm hL v2 w2) cb_X9_100 sx_X1_isForm rfl rfl rfl (Nat.le_of_ble_eq_true rfl) dX9_get_12 rfl (fun x3 w4 => ?_)
    refine sim_if_ne 21 dX9_get_15 rfl rfl (fun _ => ?_) (fun _ => ?_)
    · refine sim_aload_n 0 dX9_get_21 rfl rfl ?_
      refine sim_get (k := 0) (ci := 7) (j := 2) (v := .ref (Ea E 11)) (hL.1 0 rfl) rfl (by decide) fl_X9_29 rfl dX9_get_22 rfl ?_
      refine sim_iload_n 1 dX9_get_25 rfl rfl ?_
      refine sim_iload_n 2 dX9_get_26 rfl rfl ?_
      refine sim_iload_n 3 dX9_get_27 rfl rfl ?_
      refine sim_cVi (k := 11) (ci := 1) [.int v1, .int v2, .int v3] [] (c_X1_faultOfItem hL v1 v2 v3 w4) (hL.1 11 rfl) rfl (by decide) rfl cb_X9_116 im_X1_faultOfItem se_X1_faultOfItem rfl rfl rfl (Nat.le_of_ble_eq_true rfl) dX9_get_28 rfl (fun x5 w6 => ?_)
      refine sim_istore [(4, .int x5), (0, .ref (Ea E 0)), (1, .int v1), (2, .int v2), (3, .int v3)] dX9_get_31 (Nat.le_of_ble_eq_true rfl) rfl rfl ?_
      refine sim_iload 0 dX9_get_33 rfl rfl ?_
      refine sim_if_eq 47 dX9_get_35 rfl rfl (fun _ => ?_) (fun _ => ?_)
      · refine sim_aload_n 1 dX9_get_47 rfl rfl ?_
        refine sim_get (k := 0) (ci := 7) (j := 2) (v := .ref (Ea E 11)) (hL.1 0 rfl) rfl (by decide) fl_X9_29 rfl dX9_get_48 rfl ?_
        refine sim_get (k := 11) (ci := 1) (j := 3) (v := .ref (Ea E 14)) (hL.1 11 rfl) rfl (by decide) fl_X9_120 rfl dX9_get_51 rfl ?_
        refine sim_iload_n 2 dX9_get_54 rfl rfl ?_
        refine sim_aaload (k := 14) (hL.1 14 rfl) rfl rfl rfl dX9_get_55 rfl (fun hi7 => ?_)
        refine sim_iload_n 4 dX9_get_56 rfl rfl ?_
        refine sim_iaload (k := (14 + 1 + (Int32.toNatClampNeg v1))) (hL.2.1 _ (inb_lt hi7)) (row_kd _ (Nat.lt_of_lt_of_le (inb_lt hi7) hL.2.2.2)) (row_ln _ (Nat.lt_of_lt_of_le (inb_lt hi7) hL.2.2.2)) dX9_get_57 rfl ?_
        exact sim_iret rfl dX9_get_58
      · refine sim_aload_n 1 dX9_get_38 rfl rfl ?_
        refine sim_iload 0 dX9_get_39 rfl rfl ?_
        refine sim_put (k := 0) (ci := 7) (j := 12) (hL.1 0 rfl) rfl (by decide) fp_X9_129 rfl rfl (st_0_12 _ _ _) (Nat.le_of_ble_eq_true rfl) dX9_get_41 rfl ?_
        refine sim_lw (fun w8 => ?_)
        refine sim_ldc (-2147483648 : Int32) dX9_get_44 k_X9_128 rfl ?_
        exact sim_iret rfl dX9_get_46
    · exact sim_sub [] rfl (sf_X9_get_18 hL w4)
def f_X9_copy_22 (N : Nat) (w : Wd) : Option (Int32 × Wd) :=
  some ((-2 : Int32), w)
set_option maxRecDepth 20000 in
theorem sf_X9_copy_22 {E : Ev} (hL : LX E) (w : Wd) : Sim E m_X9_copy rI 22 [] [] w (f_X9_copy_22 (En E) w) := by
  unfold f_X9_copy_22
  refine sim_bipush (-2 : Int32) dX9_copy_22 rfl rfl ?_
  exact sim_iret rfl dX9_copy_24
def f_X9_copy_47 (N : Nat) (w : Wd) : Option (Int32 × Wd) :=
  bd (f_X9_found N (1 : Int32) w) fun x7 w8 =>
  some (x7, w8)
set_option maxRecDepth 20000 in
theorem sf_X9_copy_47 {E : Ev} (hL : LX E) (w : Wd) : Sim E m_X9_copy rI 47 [(0, .ref (Ea E 0))] [] w (f_X9_copy_47 (En E) w) := by
  unfold f_X9_copy_47
  refine sim_aload_n 0 dX9_copy_47 rfl rfl ?_
  refine sim_iconst (1 : Int32) dX9_copy_48 rfl rfl ?_
  refine sim_cVi (k := 0) (ci := 7) [.int (1 : Int32)] [] (c_X9_found hL (1 : Int32) w) (hL.1 0 rfl) rfl (by decide) rfl cb_X9_103 im_X9_found se_X9_found rfl rfl rfl (Nat.le_of_ble_eq_true rfl) dX9_copy_49 rfl (fun x7 w8 => ?_)
  exact sim_iret rfl dX9_copy_52
def f_X9_copy_109 (N : Nat) (w : Wd) : Option (Int32 × Wd) :=
  bd (f_X9_found N (2 : Int32) w) fun x13 w14 =>
  some (x13, w14)
set_option maxRecDepth 20000 in
theorem sf_X9_copy_109 {E : Ev} (hL : LX E) (w : Wd) : Sim E m_X9_copy rI 109 [(0, .ref (Ea E 0))] [] w (f_X9_copy_109 (En E) w) := by
  unfold f_X9_copy_109
  refine sim_aload_n 0 dX9_copy_109 rfl rfl ?_
  refine sim_iconst (2 : Int32) dX9_copy_110 rfl rfl ?_
  refine sim_cVi (k := 0) (ci := 7) [.int (2 : Int32)] [] (c_X9_found hL (2 : Int32) w) (hL.1 0 rfl) rfl (by decide) rfl cb_X9_103 im_X9_found se_X9_found rfl rfl rfl (Nat.le_of_ble_eq_true rfl) dX9_copy_111 rfl (fun x13 w14 => ?_)
  exact sim_iret rfl dX9_copy_114
def f_X9_copy (N : Nat) (v1 : Int32) (v2 : Int32) (v3 : Int32) (v4 : Int32) (v5 : Int32) (w : Wd) : Option (Int32 × Wd) :=
  bd (f_X1_isLine N v1 w) fun x1 w2 =>
  if x1 = (0 : Int32) then
  f_X9_copy_22 N w2
  else
  bd (f_X1_isLine N v3 w2) fun x3 w4 =>
  if x3 = (0 : Int32) then
  f_X9_copy_22 N w4
  else
  bd (f_X1_isLost N v1 w4) fun x5 w6 =>
  if x5 = (0 : Int32) then
  bd (f_X1_isLost N v3 w6) fun x9 w10 =>
  if x9 = (0 : Int32) then
  if inb v1 N = true then
  if inb v3 N = true then
  if (w10.1 12 (Int32.toNatClampNeg v1)) = (w10.1 12 (Int32.toNatClampNeg v3)) then
  bd (f_X1_hasItems N v1 v2 v5 w10) fun x11 w12 =>
  if x11 = (0 : Int32) then
  f_X9_copy_109 N w12
  else
  bd (f_X1_hasItems N v3 v4 v5 w12) fun x15 w16 =>
  if x15 = (0 : Int32) then
  f_X9_copy_109 N w16
  else
  if inb v1 N = true then
  if inb v3 N = true then
  if cpok v2 v4 v5 12 12 = true then
  lw (wdA w16 (14 + 1 + (Int32.toNatClampNeg v3)) (va_cpy (w16.1 (14 + 1 + (Int32.toNatClampNeg v1))) (w16.1 (14 + 1 + (Int32.toNatClampNeg v3))) (Int32.toNatClampNeg v2) (Int32.toNatClampNeg v4) (Int32.toNatClampNeg v5))) fun w19 =>
  some ((1 : Int32), w19)
  else none
  else none
  else none
  else
  bd (f_X9_found N (4 : Int32) w10) fun x20 w21 =>
  some (x20, w21)
  else none
  else none
  else
  f_X9_copy_47 N w10
  else
  f_X9_copy_47 N w6
set_option maxRecDepth 20000 in
theorem c_X9_copy {E : Ev} (hL : LX E) (v1 : Int32) (v2 : Int32) (v3 : Int32) (v4 : Int32) (v5 : Int32) (w : Wd) : Ct E m_X9_copy yX9_copy rI [.ref (Ea E 0), .int v1, .int v2, .int v3, .int v4, .int v5] w (f_X9_copy (En E) v1 v2 v3 v4 v5 w) := by
  refine Ct.of (by decide) ⟨rfl, rfl⟩ (Nat.le_of_ble_eq_true rfl) ?_
  show Sim E m_X9_copy rI 0 [(0, .ref (Ea E 0)), (1, .int v1), (2, .int v2), (3, .int v3), (4, .int v4), (5, .int v5)] [] w (f_X9_copy (En E) v1 v2 v3 v4 v5 w)
  unfold f_X9_copy
  refine sim_aload_n 0 dX9_copy_0 rfl rfl ?_
  refine sim_get (k := 0) (ci := 7) (j := 2) (v := .ref (Ea E 11)) (hL.1 0 rfl) rfl (by decide) fl_X9_29 rfl dX9_copy_1 rfl ?_
  refine sim_iload_n 1 dX9_copy_4 rfl rfl ?_
  refine sim_cVi (k := 11) (ci := 1) [.int v1] [] (c_X1_isLine hL v1 w) (hL.1 11 rfl) rfl (by decide) rfl cb_X9_97 im_X1_isLine se_X1_isLine rfl rfl rfl (Nat.le_of_ble_eq_true rfl) dX9_copy_5 rfl (fun x1 w2 => ?_)
  refine sim_if_eq 22 dX9_copy_8 rfl rfl (fun _ => ?_) (fun _ => ?_)
  · exact sim_sub [] rfl (sf_X9_copy_22 hL w2)
  · refine sim_aload_n 0 dX9_copy_11 rfl rfl ?_
    refine sim_get (k := 0) (ci := 7) (j := 2) (v := .ref (Ea E 11)) (hL.1 0 rfl) rfl (by decide) fl_X9_29 rfl dX9_copy_12 rfl ?_
    refine sim_iload_n 3 dX9_copy_15 rfl rfl ?_
    refine sim_cVi (k := 11) (ci := 1) [.int v3] [] (c_X1_isLine hL v3 w2) (hL.1 11 rfl) rfl (by decide) rfl cb_X9_97 im_X1_isLine se_X1_isLine rfl rfl rfl (Nat.le_of_ble_eq_true rfl) dX9_copy_16 rfl (fun x3 w4 => ?_)
    refine sim_if_ne 25 dX9_copy_19 rfl rfl (fun _ => ?_) (fun _ => ?_)
    · refine sim_aload_n 0 dX9_copy_25 rfl rfl ?_
      refine sim_get (k := 0) (ci := 7) (j := 2) (v := .ref (Ea E 11)) (hL.1 0 rfl) rfl (by decide) fl_X9_29 rfl dX9_copy_26 rfl ?_
      refine sim_iload_n 1 dX9_copy_29 rfl rfl ?_
      refine sim_cVi (k := 11) (ci := 1) [.int v1] [] (c_X1_isLost hL v1 w4) (hL.1 11 rfl) rfl (by decide) rfl cb_X9_110 im_X1_isLost se_X1_isLost rfl rfl rfl (Nat.le_of_ble_eq_true rfl) dX9_copy_30 rfl (fun x5 w6 => ?_)
      refine sim_if_ne 47 dX9_copy_33 rfl rfl (fun _ => ?_) (fun _ => ?_)
      · exact sim_sub [0] rfl (sf_X9_copy_47 hL w6)
      · refine sim_aload_n 0 dX9_copy_36 rfl rfl ?_
        refine sim_get (k := 0) (ci := 7) (j := 2) (v := .ref (Ea E 11)) (hL.1 0 rfl) rfl (by decide) fl_X9_29 rfl dX9_copy_37 rfl ?_
        refine sim_iload_n 3 dX9_copy_40 rfl rfl ?_
        refine sim_cVi (k := 11) (ci := 1) [.int v3] [] (c_X1_isLost hL v3 w6) (hL.1 11 rfl) rfl (by decide) rfl cb_X9_110 im_X1_isLost se_X1_isLost rfl rfl rfl (Nat.le_of_ble_eq_true rfl) dX9_copy_41 rfl (fun x9 w10 => ?_)
        refine sim_if_eq 53 dX9_copy_44 rfl rfl (fun _ => ?_) (fun _ => ?_)
        · refine sim_aload_n 0 dX9_copy_53 rfl rfl ?_
          refine sim_get (k := 0) (ci := 7) (j := 2) (v := .ref (Ea E 11)) (hL.1 0 rfl) rfl (by decide) fl_X9_29 rfl dX9_copy_54 rfl ?_
          refine sim_get (k := 11) (ci := 1) (j := 1) (v := .ref (Ea E 12)) (hL.1 11 rfl) rfl (by decide) fl_X9_132 rfl dX9_copy_57 rfl ?_
          refine sim_iload_n 1 dX9_copy_60 rfl rfl ?_
          refine sim_iaload (k := 12) (hL.1 12 rfl) rfl rfl dX9_copy_61 rfl ?_
          refine sim_aload_n 0 dX9_copy_62 rfl rfl ?_
          refine sim_get (k := 0) (ci := 7) (j := 2) (v := .ref (Ea E 11)) (hL.1 0 rfl) rfl (by decide) fl_X9_29 rfl dX9_copy_63 rfl ?_
          refine sim_get (k := 11) (ci := 1) (j := 1) (v := .ref (Ea E 12)) (hL.1 11 rfl) rfl (by decide) fl_X9_132 rfl dX9_copy_66 rfl ?_
          refine sim_iload_n 3 dX9_copy_69 rfl rfl ?_
          refine sim_iaload (k := 12) (hL.1 12 rfl) rfl rfl dX9_copy_70 rfl ?_
          refine sim_icmp_eq 80 dX9_copy_71 rfl rfl (fun _ => ?_) (fun _ => ?_)
          · refine sim_aload_n 0 dX9_copy_80 rfl rfl ?_
            refine sim_get (k := 0) (ci := 7) (j := 2) (v := .ref (Ea E 11)) (hL.1 0 rfl) rfl (by decide) fl_X9_29 rfl dX9_copy_81 rfl ?_
            refine sim_iload_n 1 dX9_copy_84 rfl rfl ?_
            refine sim_iload_n 2 dX9_copy_85 rfl rfl ?_
            refine sim_iload 5 dX9_copy_86 rfl rfl ?_
            refine sim_cVi (k := 11) (ci := 1) [.int v1, .int v2, .int v5] [] (c_X1_hasItems hL v1 v2 v5 w10) (hL.1 11 rfl) rfl (by decide) rfl cb_X9_135 im_X1_hasItems se_X1_hasItems rfl rfl rfl (Nat.le_of_ble_eq_true rfl) dX9_copy_88 rfl (fun x11 w12 => ?_)
            refine sim_if_eq 109 dX9_copy_91 rfl rfl (fun _ => ?_) (fun _ => ?_)
            · exact sim_sub [0] rfl (sf_X9_copy_109 hL w12)
            · refine sim_aload_n 0 dX9_copy_94 rfl rfl ?_
              refine sim_get (k := 0) (ci := 7) (j := 2) (v := .ref (Ea E 11)) (hL.1 0 rfl) rfl (by decide) fl_X9_29 rfl dX9_copy_95 rfl ?_
              refine sim_iload_n 3 dX9_copy_98 rfl rfl ?_
              refine sim_iload 4 dX9_copy_99 rfl rfl ?_
              refine sim_iload 5 dX9_copy_101 rfl rfl ?_
              refine sim_cVi (k := 11) (ci := 1) [.int v3, .int v4, .int v5] [] (c_X1_hasItems hL v3 v4 v5 w12) (hL.1 11 rfl) rfl (by decide) rfl cb_X9_135 im_X1_hasItems se_X1_hasItems rfl rfl rfl (Nat.le_of_ble_eq_true rfl) dX9_copy_103 rfl (fun x15 w16 => ?_)
              refine sim_if_ne 115 dX9_copy_106 rfl rfl (fun _ => ?_) (fun _ => ?_)
              · refine sim_aload_n 0 dX9_copy_115 rfl rfl ?_
                refine sim_get (k := 0) (ci := 7) (j := 2) (v := .ref (Ea E 11)) (hL.1 0 rfl) rfl (by decide) fl_X9_29 rfl dX9_copy_116 rfl ?_
                refine sim_get (k := 11) (ci := 1) (j := 3) (v := .ref (Ea E 14)) (hL.1 11 rfl) rfl (by decide) fl_X9_120 rfl dX9_copy_119 rfl ?_
                refine sim_iload_n 1 dX9_copy_122 rfl rfl ?_
                refine sim_aaload (k := 14) (hL.1 14 rfl) rfl rfl rfl dX9_copy_123 rfl (fun hi17 => ?_)
                refine sim_iload_n 2 dX9_copy_124 rfl rfl ?_
                refine sim_aload_n 0 dX9_copy_125 rfl rfl ?_
                refine sim_get (k := 0) (ci := 7) (j := 2) (v := .ref (Ea E 11)) (hL.1 0 rfl) rfl (by decide) fl_X9_29 rfl dX9_copy_126 rfl ?_
                refine sim_get (k := 11) (ci := 1) (j := 3) (v := .ref (Ea E 14)) (hL.1 11 rfl) rfl (by decide) fl_X9_120 rfl dX9_copy_129 rfl ?_
                refine sim_iload_n 3 dX9_copy_132 rfl rfl ?_
                refine sim_aaload (k := 14) (hL.1 14 rfl) rfl rfl rfl dX9_copy_133 rfl (fun hi18 => ?_)
                refine sim_iload 4 dX9_copy_134 rfl rfl ?_
                refine sim_iload 5 dX9_copy_136 rfl rfl ?_
                refine sim_copy (k0 := (14 + 1 + (Int32.toNatClampNeg v1))) (k1 := (14 + 1 + (Int32.toNatClampNeg v3))) (hL.2.1 _ (inb_lt hi17)) (row_kd _ (Nat.lt_of_lt_of_le (inb_lt hi17) hL.2.2.2)) (row_ln _ (Nat.lt_of_lt_of_le (inb_lt hi17) hL.2.2.2)) (hL.2.1 _ (inb_lt hi18)) (row_kd _ (Nat.lt_of_lt_of_le (inb_lt hi18) hL.2.2.2)) (row_ln _ (Nat.lt_of_lt_of_le (inb_lt hi18) hL.2.2.2)) cpl_X9_139 cp1 cp2 cp3 (by decide +kernel) (by decide) dX9_copy_138 rfl ?_
                refine sim_lw (fun w19 => ?_)
                refine sim_iconst (1 : Int32) dX9_copy_141 rfl rfl ?_
                exact sim_iret rfl dX9_copy_142
              · exact sim_sub [0] rfl (sf_X9_copy_109 hL w16)
          · refine sim_aload_n 0 dX9_copy_74 rfl rfl ?_
            refine sim_iconst (4 : Int32) dX9_copy_75 rfl rfl ?_
            refine sim_cVi (k := 0) (ci := 7) [.int (4 : Int32)] [] (c_X9_found hL (4 : Int32) w10) (hL.1 0 rfl) rfl (by decide) rfl cb_X9_103 im_X9_found se_X9_found rfl rfl rfl (Nat.le_of_ble_eq_true rfl) dX9_copy_76 rfl (fun x20 w21 => ?_)
            exact sim_iret rfl dX9_copy_79
        · exact sim_sub [0] rfl (sf_X9_copy_47 hL w10)
    · exact sim_sub [] rfl (sf_X9_copy_22 hL w4)
def f_X9_isSide_14 (N : Nat) (s0 : Int32) (w : Wd) : Option (Int32 × Wd) :=
  if zb s0 = true then some (s0, w) else none
set_option maxRecDepth 20000 in
theorem sf_X9_isSide_14 {E : Ev} (hL : LX E) (s0 : Int32) (w : Wd) : Sim E m_X9_isSide rI 14 [] [.int s0] w (f_X9_isSide_14 (En E) s0 w) := by
  unfold f_X9_isSide_14
  exact sim_zret rfl dX9_isSide_14
def f_X9_isSide_9 (N : Nat) (w : Wd) : Option (Int32 × Wd) :=
  f_X9_isSide_14 N (1 : Int32) w
set_option maxRecDepth 20000 in
theorem sf_X9_isSide_9 {E : Ev} (hL : LX E) (w : Wd) : Sim E m_X9_isSide rI 9 [] [] w (f_X9_isSide_9 (En E) w) := by
  unfold f_X9_isSide_9
  refine sim_iconst (1 : Int32) dX9_isSide_9 rfl rfl ?_
  refine sim_goto (q := 14) dX9_isSide_10 rfl ?_
  exact sim_sub [] rfl (sf_X9_isSide_14 hL (1 : Int32) w)
def f_X9_isSide (N : Nat) (v0 : Int32) (w : Wd) : Option (Int32 × Wd) :=
  if v0 = (0 : Int32) then
  f_X9_isSide_9 N w
  else
  if v0 = (1 : Int32) then
  f_X9_isSide_9 N w
  else
  f_X9_isSide_14 N (0 : Int32) w
set_option maxRecDepth 20000 in
theorem c_X9_isSide {E : Ev} (hL : LX E) (v0 : Int32) (w : Wd) : Ct E m_X9_isSide yX9_isSide rI [.int v0] w (f_X9_isSide (En E) v0 w) := by
  refine Ct.of (by decide) ⟨rfl, rfl⟩ (Nat.le_of_ble_eq_true rfl) ?_
  show Sim E m_X9_isSide rI 0 [(0, .int v0)] [] w (f_X9_isSide (En E) v0 w)
  unfold f_X9_isSide
  refine sim_iload_n 0 dX9_isSide_0 rfl rfl ?_
  refine sim_if_eq 9 dX9_isSide_1 rfl rfl (fun _ => ?_) (fun _ => ?_)
  · exact sim_sub [] rfl (sf_X9_isSide_9 hL w)
  · refine sim_iload_n 0 dX9_isSide_4 rfl rfl ?_
    refine sim_iconst (1 : Int32) dX9_isSide_5 rfl rfl ?_
    refine sim_icmp_ne 13 dX9_isSide_6 rfl rfl (fun _ => ?_) (fun _ => ?_)
    · refine sim_iconst (0 : Int32) dX9_isSide_13 rfl rfl ?_
      exact sim_sub [] rfl (sf_X9_isSide_14 hL (0 : Int32) w)
    · exact sim_sub [] rfl (sf_X9_isSide_9 hL w)
def f_X9_hand_24 (N : Nat) (w : Wd) : Option (Int32 × Wd) :=
  some ((-2 : Int32), w)
set_option maxRecDepth 20000 in
theorem sf_X9_hand_24 {E : Ev} (hL : LX E) (w : Wd) : Sim E m_X9_hand rI 24 [] [] w (f_X9_hand_24 (En E) w) := by
  unfold f_X9_hand_24
  refine sim_bipush (-2 : Int32) dX9_hand_24 rfl rfl ?_
  exact sim_iret rfl dX9_hand_26
def f_X9_hand (N : Nat) (v1 : Int32) (v2 : Int32) (v3 : Int32) (w : Wd) : Option (Int32 × Wd) :=
  bd (f_X9_isSide N v1 w) fun x1 w2 =>
  if x1 = (0 : Int32) then
  f_X9_hand_24 N w2
  else
  bd (f_X9_isHandKind N v2 w2) fun x3 w4 =>
  if x3 = (0 : Int32) then
  f_X9_hand_24 N w4
  else
  if v3 < (0 : Int32) then
  f_X9_hand_24 N w4
  else
  if v3 ≤ (9 : Int32) then
  if (w4.1 0 10) = (0 : Int32) then
  if inb (((8 : Int32) * v1) + v2) 16 = true then
  lt (w4.1 1 (Int32.toNatClampNeg (((8 : Int32) * v1) + v2))) fun x5 =>
  if inb (((8 : Int32) * v1) + v2) 16 = true then
  lw (wdI w4 1 (Int32.toNatClampNeg (((8 : Int32) * v1) + v2)) v3) fun w6 =>
  some (x5, w6)
  else none
  else none
  else
  some ((-3 : Int32), w4)
  else
  f_X9_hand_24 N w4
set_option maxRecDepth 20000 in
theorem c_X9_hand {E : Ev} (hL : LX E) (v1 : Int32) (v2 : Int32) (v3 : Int32) (w : Wd) : Ct E m_X9_hand yX9_hand rI [.ref (Ea E 0), .int v1, .int v2, .int v3] w (f_X9_hand (En E) v1 v2 v3 w) := by
  refine Ct.of (by decide) ⟨rfl, rfl⟩ (Nat.le_of_ble_eq_true rfl) ?_
  show Sim E m_X9_hand rI 0 [(0, .ref (Ea E 0)), (1, .int v1), (2, .int v2), (3, .int v3)] [] w (f_X9_hand (En E) v1 v2 v3 w)
  unfold f_X9_hand
  refine sim_iload_n 1 dX9_hand_0 rfl rfl ?_
  refine sim_cSi [.int v1] [] (c_X9_isSide hL v1 w) cb_X9_145 sx_X9_isSide rfl rfl rfl (Nat.le_of_ble_eq_true rfl) dX9_hand_1 rfl (fun x1 w2 => ?_)
  refine sim_if_eq 24 dX9_hand_4 rfl rfl (fun _ => ?_) (fun _ => ?_)
  · exact sim_sub [] rfl (sf_X9_hand_24 hL w2)
  · refine sim_iload_n 2 dX9_hand_7 rfl rfl ?_
    refine sim_cSi [.int v2] [] (c_X9_isHandKind hL v2 w2) cb_X9_148 sx_X9_isHandKind rfl rfl rfl (Nat.le_of_ble_eq_true rfl) dX9_hand_8 rfl (fun x3 w4 => ?_)
    refine sim_if_eq 24 dX9_hand_11 rfl rfl (fun _ => ?_) (fun _ => ?_)
    · exact sim_sub [] rfl (sf_X9_hand_24 hL w4)
    · refine sim_iload_n 3 dX9_hand_14 rfl rfl ?_
      refine sim_if_lt 24 dX9_hand_15 rfl rfl (fun _ => ?_) (fun _ => ?_)
      · exact sim_sub [] rfl (sf_X9_hand_24 hL w4)
      · refine sim_iload_n 3 dX9_hand_18 rfl rfl ?_
        refine sim_bipush (9 : Int32) dX9_hand_19 rfl rfl ?_
        refine sim_icmp_le 27 dX9_hand_21 rfl rfl (fun _ => ?_) (fun _ => ?_)
        · refine sim_aload_n 0 dX9_hand_27 rfl rfl ?_
          refine sim_get (k := 0) (ci := 7) (j := 10) (v := .int (w4.1 0 10)) (hL.1 0 rfl) rfl (by decide) fl_X9_86 rfl dX9_hand_28 rfl ?_
          refine sim_if_eq 37 dX9_hand_31 rfl rfl (fun _ => ?_) (fun _ => ?_)
          · refine sim_aload_n 0 dX9_hand_37 rfl rfl ?_
            refine sim_get (k := 0) (ci := 7) (j := 3) (v := .ref (Ea E 1)) (hL.1 0 rfl) rfl (by decide) fl_X9_7 rfl dX9_hand_38 rfl ?_
            refine sim_bipush (8 : Int32) dX9_hand_41 rfl rfl ?_
            refine sim_iload_n 1 dX9_hand_43 rfl rfl ?_
            refine sim_imul dX9_hand_44 rfl ?_
            refine sim_iload_n 2 dX9_hand_45 rfl rfl ?_
            refine sim_iadd dX9_hand_46 rfl ?_
            refine sim_iaload (k := 1) (hL.1 1 rfl) rfl rfl dX9_hand_47 rfl ?_
            refine sim_lt (fun x5 => ?_)
            refine sim_istore [(4, .int x5), (0, .ref (Ea E 0)), (1, .int v1), (2, .int v2), (3, .int v3)] dX9_hand_48 (Nat.le_of_ble_eq_true rfl) rfl rfl ?_
            refine sim_aload_n 1 dX9_hand_50 rfl rfl ?_
            refine sim_get (k := 0) (ci := 7) (j := 3) (v := .ref (Ea E 1)) (hL.1 0 rfl) rfl (by decide) fl_X9_7 rfl dX9_hand_51 rfl ?_
            refine sim_bipush (8 : Int32) dX9_hand_54 rfl rfl ?_
            refine sim_iload_n 2 dX9_hand_56 rfl rfl ?_
            refine sim_imul dX9_hand_57 rfl ?_
            refine sim_iload_n 3 dX9_hand_58 rfl rfl ?_
            refine sim_iadd dX9_hand_59 rfl ?_
            refine sim_iload_n 4 dX9_hand_60 rfl rfl ?_
            refine sim_iastore (k := 1) (hL.1 1 rfl) rfl rfl dX9_hand_61 rfl ?_
            refine sim_lw (fun w6 => ?_)
            refine sim_iload 0 dX9_hand_62 rfl rfl ?_
            exact sim_iret rfl dX9_hand_64
          · refine sim_bipush (-3 : Int32) dX9_hand_34 rfl rfl ?_
            exact sim_iret rfl dX9_hand_36
        · exact sim_sub [] rfl (sf_X9_hand_24 hL w4)
def f_X9_lookAround (N : Nat) (w : Wd) : Option (Unit × Wd) :=
  bd (f_X5_listLawful N (1 : Int32) w) fun x1 w2 =>
  lw (wdI w2 0 11 x1) fun w3 =>
  some ((), w3)
set_option maxRecDepth 20000 in
theorem c_X9_lookAround {E : Ev} (hL : LX E) (w : Wd) : Ct E m_X9_lookAround yX9_lookAround rV [.ref (Ea E 0)] w (f_X9_lookAround (En E) w) := by
  refine Ct.of (by decide) ⟨rfl, rfl⟩ (Nat.le_of_ble_eq_true rfl) ?_
  show Sim E m_X9_lookAround rV 0 [(0, .ref (Ea E 0))] [] w (f_X9_lookAround (En E) w)
  unfold f_X9_lookAround
  refine sim_aload_n 0 dX9_lookAround_0 rfl rfl ?_
  refine sim_aload_n 0 dX9_lookAround_1 rfl rfl ?_
  refine sim_get (k := 0) (ci := 7) (j := 5) (v := .ref (Ea E 27)) (hL.1 0 rfl) rfl (by decide) fl_X9_47 rfl dX9_lookAround_2 rfl ?_
  refine sim_iconst (1 : Int32) dX9_lookAround_5 rfl rfl ?_
  refine sim_cVi (k := 27) (ci := 3) [.int (1 : Int32)] [.ref (Ea E 0)] (c_X5_listLawful hL (1 : Int32) w) (hL.1 27 rfl) rfl (by decide) rfl cb_X9_313 im_X5_listLawful se_X5_listLawful rfl rfl rfl (Nat.le_of_ble_eq_true rfl) dX9_lookAround_6 rfl (fun x1 w2 => ?_)
  refine sim_put (k := 0) (ci := 7) (j := 11) (hL.1 0 rfl) rfl (by decide) fp_X9_200 rfl rfl (st_0_11 _ _ _) (Nat.le_of_ble_eq_true rfl) dX9_lookAround_9 rfl ?_
  refine sim_lw (fun w3 => ?_)
  exact sim_vret rfl dX9_lookAround_12
def f_X9_stand_62 (N : Nat) (w : Wd) : Option (Int32 × Wd) :=
  some ((-2 : Int32), w)
set_option maxRecDepth 20000 in
theorem sf_X9_stand_62 {E : Ev} (hL : LX E) (w : Wd) : Sim E m_X9_stand rI 62 [] [] w (f_X9_stand_62 (En E) w) := by
  unfold f_X9_stand_62
  refine sim_bipush (-2 : Int32) dX9_stand_62 rfl rfl ?_
  exact sim_iret rfl dX9_stand_64
def f_X9_stand (N : Nat) (v1 : Int32) (w : Wd) : Option (Int32 × Wd) :=
  bd (f_X9_isSide N v1 w) fun x1 w2 =>
  if x1 = (0 : Int32) then
  some ((-2 : Int32), w2)
  else
  if (w2.1 0 10) = (0 : Int32) then
  bd (f_X1_someIsTooShort N w2) fun x3 w4 =>
  if x3 = (0 : Int32) then
  bd (f_X6_load N w4) fun x5 w6 =>
  if x5 < (0 : Int32) then
  f_X9_stand_62 N w6
  else
  bd (f_X6_findKings N w6) fun x7 w8 =>
  if x7 = (0 : Int32) then
  f_X9_stand_62 N w8
  else
  if cpok (0 : Int32) (0 : Int32) (Int32.ofNat 16) 16 16 = true then
  lw (wdA w8 24 (va_cpy (w8.1 1) (w8.1 24) (Int32.toNatClampNeg (0 : Int32)) (Int32.toNatClampNeg (0 : Int32)) (Int32.toNatClampNeg (Int32.ofNat 16)))) fun w9 =>
  lw (wdI w9 22 7 v1) fun w10 =>
  bd (f_X6_inCheck N ((1 : Int32) - v1) w10) fun x11 w12 =>
  if x11 = (0 : Int32) then
  lw (wdI w12 0 10 (1 : Int32)) fun w13 =>
  if okP w13.2.2.1 = true then
  bd (f_X4_begin N w13.2.2.1 w13) fun _ w14 =>
  bd (f_X9_lookAround N w14) fun _ w16 =>
  some (x5, w16)
  else none
  else
  some ((-2 : Int32), w12)
  else none
  else
  bd (f_X9_found N (2 : Int32) w4) fun x17 w18 =>
  some (x17, w18)
  else
  some ((-3 : Int32), w2)
set_option maxRecDepth 20000 in
theorem c_X9_stand {E : Ev} (hL : LX E) (v1 : Int32) (w : Wd) : Ct E m_X9_stand yX9_stand rI [.ref (Ea E 0), .int v1] w (f_X9_stand (En E) v1 w) := by
  refine Ct.of (by decide) ⟨rfl, rfl⟩ (Nat.le_of_ble_eq_true rfl) ?_
  show Sim E m_X9_stand rI 0 [(0, .ref (Ea E 0)), (1, .int v1)] [] w (f_X9_stand (En E) v1 w)
  unfold f_X9_stand
  refine sim_iload_n 1 dX9_stand_0 rfl rfl ?_
  refine sim_cSi [.int v1] [] (c_X9_isSide hL v1 w) cb_X9_145 sx_X9_isSide rfl rfl rfl (Nat.le_of_ble_eq_true rfl) dX9_stand_1 rfl (fun x1 w2 => ?_)
  refine sim_if_ne 10 dX9_stand_4 rfl rfl (fun _ => ?_) (fun _ => ?_)
  · refine sim_aload_n 0 dX9_stand_10 rfl rfl ?_
    refine sim_get (k := 0) (ci := 7) (j := 10) (v := .int (w2.1 0 10)) (hL.1 0 rfl) rfl (by decide) fl_X9_86 rfl dX9_stand_11 rfl ?_
    refine sim_if_eq 20 dX9_stand_14 rfl rfl (fun _ => ?_) (fun _ => ?_)
    · refine sim_aload_n 0 dX9_stand_20 rfl rfl ?_
      refine sim_get (k := 0) (ci := 7) (j := 2) (v := .ref (Ea E 11)) (hL.1 0 rfl) rfl (by decide) fl_X9_29 rfl dX9_stand_21 rfl ?_
      refine sim_cVi (k := 11) (ci := 1) [] [] (c_X1_someIsTooShort hL w2) (hL.1 11 rfl) rfl (by decide) rfl cb_X9_151 im_X1_someIsTooShort se_X1_someIsTooShort rfl rfl rfl (Nat.le_of_ble_eq_true rfl) dX9_stand_24 rfl (fun x3 w4 => ?_)
      refine sim_if_eq 36 dX9_stand_27 rfl rfl (fun _ => ?_) (fun _ => ?_)
      · refine sim_aload_n 0 dX9_stand_36 rfl rfl ?_
        refine sim_get (k := 0) (ci := 7) (j := 4) (v := .ref (Ea E 22)) (hL.1 0 rfl) rfl (by decide) fl_X9_38 rfl dX9_stand_37 rfl ?_
        refine sim_aload_n 0 dX9_stand_40 rfl rfl ?_
        refine sim_get (k := 0) (ci := 7) (j := 2) (v := .ref (Ea E 11)) (hL.1 0 rfl) rfl (by decide) fl_X9_29 rfl dX9_stand_41 rfl ?_
        refine sim_cVi (k := 22) (ci := 4) [.ref (Ea E 11)] [] (c_X6_load hL w4) (hL.1 22 rfl) rfl (by decide) rfl cb_X9_155 im_X6_load se_X6_load rfl rfl rfl (Nat.le_of_ble_eq_true rfl) dX9_stand_44 rfl (fun x5 w6 => ?_)
        refine sim_istore_n [(2, .int x5), (0, .ref (Ea E 0)), (1, .int v1)] dX9_stand_47 (Nat.le_of_ble_eq_true rfl) rfl rfl ?_
        refine sim_iload_n 0 dX9_stand_48 rfl rfl ?_
        refine sim_if_lt 62 dX9_stand_49 rfl rfl (fun _ => ?_) (fun _ => ?_)
        · exact sim_sub [] rfl (sf_X9_stand_62 hL w6)
        · refine sim_aload_n 1 dX9_stand_52 rfl rfl ?_
          refine sim_get (k := 0) (ci := 7) (j := 4) (v := .ref (Ea E 22)) (hL.1 0 rfl) rfl (by decide) fl_X9_38 rfl dX9_stand_53 rfl ?_
          refine sim_cVi (k := 22) (ci := 4) [] [] (c_X6_findKings hL w6) (hL.1 22 rfl) rfl (by decide) rfl cb_X9_159 im_X6_findKings se_X6_findKings rfl rfl rfl (Nat.le_of_ble_eq_true rfl) dX9_stand_56 rfl (fun x7 w8 => ?_)
          refine sim_if_ne 65 dX9_stand_59 rfl rfl (fun _ => ?_) (fun _ => ?_)
          · refine sim_aload_n 1 dX9_stand_65 rfl rfl ?_
            refine sim_get (k := 0) (ci := 7) (j := 3) (v := .ref (Ea E 1)) (hL.1 0 rfl) rfl (by decide) fl_X9_7 rfl dX9_stand_66 rfl ?_
            refine sim_iconst (0 : Int32) dX9_stand_69 rfl rfl ?_
            refine sim_aload_n 1 dX9_stand_70 rfl rfl ?_
            refine sim_get (k := 0) (ci := 7) (j := 4) (v := .ref (Ea E 22)) (hL.1 0 rfl) rfl (by decide) fl_X9_38 rfl dX9_stand_71 rfl ?_
            refine sim_get (k := 22) (ci := 4) (j := 4) (v := .ref (Ea E 24)) (hL.1 22 rfl) rfl (by decide) fl_X9_162 rfl dX9_stand_74 rfl ?_
            refine sim_iconst (0 : Int32) dX9_stand_77 rfl rfl ?_
            refine sim_aload_n 1 dX9_stand_78 rfl rfl ?_
            refine sim_get (k := 0) (ci := 7) (j := 3) (v := .ref (Ea E 1)) (hL.1 0 rfl) rfl (by decide) fl_X9_7 rfl dX9_stand_79 rfl ?_
            refine sim_alen (k := 1) (v := (Int32.ofNat 16)) (hL.1 1 rfl) rfl rfl rfl dX9_stand_82 rfl ?_
            refine sim_copy (k0 := 1) (k1 := 24) (hL.1 1 rfl) rfl rfl (hL.1 24 rfl) rfl rfl cpl_X9_139 cp1 cp2 cp3 (by decide +kernel) (by decide) dX9_stand_83 rfl ?_
            refine sim_lw (fun w9 => ?_)
            refine sim_aload_n 1 dX9_stand_86 rfl rfl ?_
            refine sim_get (k := 0) (ci := 7) (j := 4) (v := .ref (Ea E 22)) (hL.1 0 rfl) rfl (by decide) fl_X9_38 rfl dX9_stand_87 rfl ?_
            refine sim_iload_n 2 dX9_stand_90 rfl rfl ?_
            refine sim_put (k := 22) (ci := 4) (j := 7) (hL.1 22 rfl) rfl (by decide) fp_X9_165 rfl rfl (st_22_7 _ _ _) (Nat.le_of_ble_eq_true rfl) dX9_stand_91 rfl ?_
            refine sim_lw (fun w10 => ?_)
            refine sim_aload_n 1 dX9_stand_94 rfl rfl ?_
            refine sim_get (k := 0) (ci := 7) (j := 4) (v := .ref (Ea E 22)) (hL.1 0 rfl) rfl (by decide) fl_X9_38 rfl dX9_stand_95 rfl ?_
            refine sim_iconst (1 : Int32) dX9_stand_98 rfl rfl ?_
            refine sim_iload_n 2 dX9_stand_99 rfl rfl ?_
            refine sim_isub dX9_stand_100 rfl ?_
            refine sim_cVi (k := 22) (ci := 4) [.int ((1 : Int32) - v1)] [] (c_X6_inCheck hL ((1 : Int32) - v1) w10) (hL.1 22 rfl) rfl (by decide) rfl cb_X9_168 im_X6_inCheck se_X6_inCheck rfl rfl rfl (Nat.le_of_ble_eq_true rfl) dX9_stand_101 rfl (fun x11 w12 => ?_)
            refine sim_if_eq 110 dX9_stand_104 rfl rfl (fun _ => ?_) (fun _ => ?_)
            · refine sim_aload_n 1 dX9_stand_110 rfl rfl ?_
              refine sim_iconst (1 : Int32) dX9_stand_111 rfl rfl ?_
              refine sim_put (k := 0) (ci := 7) (j := 10) (hL.1 0 rfl) rfl (by decide) fp_X9_86 rfl rfl (st_0_10 _ _ _) (Nat.le_of_ble_eq_true rfl) dX9_stand_112 rfl ?_
              refine sim_lw (fun w13 => ?_)
              refine sim_aload_n 1 dX9_stand_115 rfl rfl ?_
              refine sim_get (k := 0) (ci := 7) (j := 8) (v := .ref (Ea E (w13.2.2.1))) (hL.1 0 rfl) rfl (by decide) fl_X9_72 rfl dX9_stand_116 rfl ?_
              refine sim_guard (fun hp15 => ?_)
              refine sim_cVv (k := w13.2.2.1) (ci := 2) [] [] (c_X4_begin hL hp15 w13) (okP_in hp15 hL).1 (okP_kd hp15).1 (by decide) rfl cb_X9_171 im_X4_begin se_X4_begin rfl rfl rfl (Nat.le_of_ble_eq_true rfl) dX9_stand_119 rfl (fun _ w14 => ?_)
              refine sim_aload_n 1 dX9_stand_122 rfl rfl ?_
              refine sim_cVv (k := 0) (ci := 7) [] [] (c_X9_lookAround hL w14) (hL.1 0 rfl) rfl (by decide) rfl cb_X9_174 im_X9_lookAround se_X9_lookAround rfl rfl rfl (Nat.le_of_ble_eq_true rfl) dX9_stand_123 rfl (fun _ w16 => ?_)
              refine sim_iload_n 0 dX9_stand_126 rfl rfl ?_
              exact sim_iret rfl dX9_stand_127
            · refine sim_bipush (-2 : Int32) dX9_stand_107 rfl rfl ?_
              exact sim_iret rfl dX9_stand_109
          · exact sim_sub [] rfl (sf_X9_stand_62 hL w8)
      · refine sim_aload_n 0 dX9_stand_30 rfl rfl ?_
        refine sim_iconst (2 : Int32) dX9_stand_31 rfl rfl ?_
        refine sim_cVi (k := 0) (ci := 7) [.int (2 : Int32)] [] (c_X9_found hL (2 : Int32) w4) (hL.1 0 rfl) rfl (by decide) rfl cb_X9_103 im_X9_found se_X9_found rfl rfl rfl (Nat.le_of_ble_eq_true rfl) dX9_stand_32 rfl (fun x17 w18 => ?_)
        exact sim_iret rfl dX9_stand_35
    · refine sim_bipush (-3 : Int32) dX9_stand_17 rfl rfl ?_
      exact sim_iret rfl dX9_stand_19
  · refine sim_bipush (-2 : Int32) dX9_stand_7 rfl rfl ?_
    exact sim_iret rfl dX9_stand_9
def f_X9_clear (N : Nat) (w : Wd) : Option (Int32 × Wd) :=
  if (w.1 0 10) = (0 : Int32) then
  some ((-3 : Int32), w)
  else
  lw (wdI w 0 10 (0 : Int32)) fun w1 =>
  lw (wdI w1 29 5 (0 : Int32)) fun w2 =>
  if okP w2.2.2.1 = true then
  some ((w2.1 w2.2.2.1 6), w2)
  else none
set_option maxRecDepth 20000 in
theorem c_X9_clear {E : Ev} (hL : LX E) (w : Wd) : Ct E m_X9_clear yX9_clear rI [.ref (Ea E 0)] w (f_X9_clear (En E) w) := by
  refine Ct.of (by decide) ⟨rfl, rfl⟩ (Nat.le_of_ble_eq_true rfl) ?_
  show Sim E m_X9_clear rI 0 [(0, .ref (Ea E 0))] [] w (f_X9_clear (En E) w)
  unfold f_X9_clear
  refine sim_aload_n 0 dX9_clear_0 rfl rfl ?_
  refine sim_get (k := 0) (ci := 7) (j := 10) (v := .int (w.1 0 10)) (hL.1 0 rfl) rfl (by decide) fl_X9_86 rfl dX9_clear_1 rfl ?_
  refine sim_if_ne 10 dX9_clear_4 rfl rfl (fun _ => ?_) (fun _ => ?_)
  · refine sim_aload_n 0 dX9_clear_10 rfl rfl ?_
    refine sim_iconst (0 : Int32) dX9_clear_11 rfl rfl ?_
    refine sim_put (k := 0) (ci := 7) (j := 10) (hL.1 0 rfl) rfl (by decide) fp_X9_86 rfl rfl (st_0_10 _ _ _) (Nat.le_of_ble_eq_true rfl) dX9_clear_12 rfl ?_
    refine sim_lw (fun w1 => ?_)
    refine sim_aload_n 0 dX9_clear_15 rfl rfl ?_
    refine sim_get (k := 0) (ci := 7) (j := 6) (v := .ref (Ea E 29)) (hL.1 0 rfl) rfl (by decide) fl_X9_56 rfl dX9_clear_16 rfl ?_
    refine sim_iconst (0 : Int32) dX9_clear_19 rfl rfl ?_
    refine sim_put (k := 29) (ci := 0) (j := 5) (hL.1 29 rfl) rfl (by decide) fp_X9_177 rfl rfl (st_29_5 _ _ _) (Nat.le_of_ble_eq_true rfl) dX9_clear_20 rfl ?_
    refine sim_lw (fun w2 => ?_)
    refine sim_aload_n 0 dX9_clear_23 rfl rfl ?_
    refine sim_get (k := 0) (ci := 7) (j := 8) (v := .ref (Ea E (w2.2.2.1))) (hL.1 0 rfl) rfl (by decide) fl_X9_72 rfl dX9_clear_24 rfl ?_
    refine sim_guard (fun hp3 => ?_)
    refine sim_get (k := w2.2.2.1) (ci := 2) (j := 6) (v := .int (w2.1 w2.2.2.1 6)) (okP_in hp3 hL).1 (okP_kd hp3).1 (by decide) fl_X9_180 (by rw [fvs_P (okP_kd hp3).1]; rfl) dX9_clear_27 rfl ?_
    exact sim_iret rfl dX9_clear_30
  · refine sim_bipush (-3 : Int32) dX9_clear_7 rfl rfl ?_
    exact sim_iret rfl dX9_clear_9
def f_X9_isField_17 (N : Nat) (s0 : Int32) (w : Wd) : Option (Int32 × Wd) :=
  if zb s0 = true then some (s0, w) else none
set_option maxRecDepth 20000 in
theorem sf_X9_isField_17 {E : Ev} (hL : LX E) (s0 : Int32) (w : Wd) : Sim E m_X9_isField rI 17 [] [.int s0] w (f_X9_isField_17 (En E) s0 w) := by
  unfold f_X9_isField_17
  exact sim_zret rfl dX9_isField_17
def f_X9_isField_16 (N : Nat) (w : Wd) : Option (Int32 × Wd) :=
  f_X9_isField_17 N (0 : Int32) w
set_option maxRecDepth 20000 in
theorem sf_X9_isField_16 {E : Ev} (hL : LX E) (w : Wd) : Sim E m_X9_isField rI 16 [] [] w (f_X9_isField_16 (En E) w) := by
  unfold f_X9_isField_16
  refine sim_iconst (0 : Int32) dX9_isField_16 rfl rfl ?_
  exact sim_sub [] rfl (sf_X9_isField_17 hL (0 : Int32) w)
def f_X9_isField (N : Nat) (v1 : Int32) (w : Wd) : Option (Int32 × Wd) :=
  if v1 < (0 : Int32) then
  f_X9_isField_16 N w
  else
  if (w.1 0 0) ≤ v1 then
  f_X9_isField_16 N w
  else
  f_X9_isField_17 N (1 : Int32) w
set_option maxRecDepth 20000 in
theorem c_X9_isField {E : Ev} (hL : LX E) (v1 : Int32) (w : Wd) : Ct E m_X9_isField yX9_isField rI [.ref (Ea E 0), .int v1] w (f_X9_isField (En E) v1 w) := by
  refine Ct.of (by decide) ⟨rfl, rfl⟩ (Nat.le_of_ble_eq_true rfl) ?_
  show Sim E m_X9_isField rI 0 [(0, .ref (Ea E 0)), (1, .int v1)] [] w (f_X9_isField (En E) v1 w)
  unfold f_X9_isField
  refine sim_iload_n 1 dX9_isField_0 rfl rfl ?_
  refine sim_if_lt 16 dX9_isField_1 rfl rfl (fun _ => ?_) (fun _ => ?_)
  · exact sim_sub [] rfl (sf_X9_isField_16 hL w)
  · refine sim_iload_n 1 dX9_isField_4 rfl rfl ?_
    refine sim_aload_n 0 dX9_isField_5 rfl rfl ?_
    refine sim_get (k := 0) (ci := 7) (j := 0) (v := .int (w.1 0 0)) (hL.1 0 rfl) rfl (by decide) fl_X9_13 rfl dX9_isField_6 rfl ?_
    refine sim_icmp_ge 16 dX9_isField_9 rfl rfl (fun _ => ?_) (fun _ => ?_)
    · exact sim_sub [] rfl (sf_X9_isField_16 hL w)
    · refine sim_iconst (1 : Int32) dX9_isField_12 rfl rfl ?_
      refine sim_goto (q := 17) dX9_isField_13 rfl ?_
      exact sim_sub [] rfl (sf_X9_isField_17 hL (1 : Int32) w)
def f_X9_field_29 (N : Nat) (s0 : Int32) (w : Wd) : Option (Int32 × Wd) :=
  some (s0, w)
set_option maxRecDepth 20000 in
theorem sf_X9_field_29 {E : Ev} (hL : LX E) (s0 : Int32) (w : Wd) : Sim E m_X9_field rI 29 [] [.int s0] w (f_X9_field_29 (En E) s0 w) := by
  unfold f_X9_field_29
  exact sim_iret rfl dX9_field_29
def f_X9_field_27 (N : Nat) (w : Wd) : Option (Int32 × Wd) :=
  f_X9_field_29 N (-2 : Int32) w
set_option maxRecDepth 20000 in
theorem sf_X9_field_27 {E : Ev} (hL : LX E) (w : Wd) : Sim E m_X9_field rI 27 [] [] w (f_X9_field_27 (En E) w) := by
  unfold f_X9_field_27
  refine sim_bipush (-2 : Int32) dX9_field_27 rfl rfl ?_
  exact sim_sub [] rfl (sf_X9_field_29 hL (-2 : Int32) w)
def f_X9_field (N : Nat) (v1 : Int32) (w : Wd) : Option (Int32 × Wd) :=
  bd (f_X9_isField N v1 w) fun x1 w2 =>
  if x1 = (0 : Int32) then
  f_X9_field_27 N w2
  else
  if (w2.1 0 10) = (0 : Int32) then
  f_X9_field_27 N w2
  else
  if inb v1 (N * N) = true then
  f_X9_field_29 N (w2.1 23 (Int32.toNatClampNeg v1)) w2
  else none
set_option maxRecDepth 20000 in
theorem c_X9_field {E : Ev} (hL : LX E) (v1 : Int32) (w : Wd) : Ct E m_X9_field yX9_field rI [.ref (Ea E 0), .int v1] w (f_X9_field (En E) v1 w) := by
  refine Ct.of (by decide) ⟨rfl, rfl⟩ (Nat.le_of_ble_eq_true rfl) ?_
  show Sim E m_X9_field rI 0 [(0, .ref (Ea E 0)), (1, .int v1)] [] w (f_X9_field (En E) v1 w)
  unfold f_X9_field
  refine sim_aload_n 0 dX9_field_0 rfl rfl ?_
  refine sim_iload_n 1 dX9_field_1 rfl rfl ?_
  refine sim_cVi (k := 0) (ci := 7) [.int v1] [] (c_X9_isField hL v1 w) (hL.1 0 rfl) rfl (by decide) rfl cb_X9_183 im_X9_isField se_X9_isField rfl rfl rfl (Nat.le_of_ble_eq_true rfl) dX9_field_2 rfl (fun x1 w2 => ?_)
  refine sim_if_eq 27 dX9_field_5 rfl rfl (fun _ => ?_) (fun _ => ?_)
  · exact sim_sub [] rfl (sf_X9_field_27 hL w2)
  · refine sim_aload_n 0 dX9_field_8 rfl rfl ?_
    refine sim_get (k := 0) (ci := 7) (j := 10) (v := .int (w2.1 0 10)) (hL.1 0 rfl) rfl (by decide) fl_X9_86 rfl dX9_field_9 rfl ?_
    refine sim_if_eq 27 dX9_field_12 rfl rfl (fun _ => ?_) (fun _ => ?_)
    · exact sim_sub [] rfl (sf_X9_field_27 hL w2)
    · refine sim_aload_n 0 dX9_field_15 rfl rfl ?_
      refine sim_get (k := 0) (ci := 7) (j := 4) (v := .ref (Ea E 22)) (hL.1 0 rfl) rfl (by decide) fl_X9_38 rfl dX9_field_16 rfl ?_
      refine sim_get (k := 22) (ci := 4) (j := 3) (v := .ref (Ea E 23)) (hL.1 22 rfl) rfl (by decide) fl_X9_186 rfl dX9_field_19 rfl ?_
      refine sim_iload_n 1 dX9_field_22 rfl rfl ?_
      refine sim_iaload (k := 23) (hL.1 23 rfl) rfl rfl dX9_field_23 rfl ?_
      refine sim_goto (q := 29) dX9_field_24 rfl ?_
      exact sim_sub [] rfl (sf_X9_field_29 hL (w2.1 23 (Int32.toNatClampNeg v1)) w2)
def f_X9_inHand_35 (N : Nat) (s0 : Int32) (w : Wd) : Option (Int32 × Wd) :=
  some (s0, w)
set_option maxRecDepth 20000 in
theorem sf_X9_inHand_35 {E : Ev} (hL : LX E) (s0 : Int32) (w : Wd) : Sim E m_X9_inHand rI 35 [] [.int s0] w (f_X9_inHand_35 (En E) s0 w) := by
  unfold f_X9_inHand_35
  exact sim_iret rfl dX9_inHand_35
def f_X9_inHand (N : Nat) (v1 : Int32) (v2 : Int32) (w : Wd) : Option (Int32 × Wd) :=
  if (w.1 0 10) = (0 : Int32) then
  if inb (((8 : Int32) * v1) + v2) 16 = true then
  f_X9_inHand_35 N (w.1 1 (Int32.toNatClampNeg (((8 : Int32) * v1) + v2))) w
  else none
  else
  if inb (((8 : Int32) * v1) + v2) 16 = true then
  f_X9_inHand_35 N (w.1 24 (Int32.toNatClampNeg (((8 : Int32) * v1) + v2))) w
  else none
set_option maxRecDepth 20000 in
theorem c_X9_inHand {E : Ev} (hL : LX E) (v1 : Int32) (v2 : Int32) (w : Wd) : Ct E m_X9_inHand yX9_inHand rI [.ref (Ea E 0), .int v1, .int v2] w (f_X9_inHand (En E) v1 v2 w) := by
  refine Ct.of (by decide) ⟨rfl, rfl⟩ (Nat.le_of_ble_eq_true rfl) ?_
  show Sim E m_X9_inHand rI 0 [(0, .ref (Ea E 0)), (1, .int v1), (2, .int v2)] [] w (f_X9_inHand (En E) v1 v2 w)
  unfold f_X9_inHand
  refine sim_aload_n 0 dX9_inHand_0 rfl rfl ?_
  refine sim_get (k := 0) (ci := 7) (j := 10) (v := .int (w.1 0 10)) (hL.1 0 rfl) rfl (by decide) fl_X9_86 rfl dX9_inHand_1 rfl ?_
  refine sim_if_eq 24 dX9_inHand_4 rfl rfl (fun _ => ?_) (fun _ => ?_)
  · refine sim_aload_n 0 dX9_inHand_24 rfl rfl ?_
    refine sim_get (k := 0) (ci := 7) (j := 3) (v := .ref (Ea E 1)) (hL.1 0 rfl) rfl (by decide) fl_X9_7 rfl dX9_inHand_25 rfl ?_
    refine sim_bipush (8 : Int32) dX9_inHand_28 rfl rfl ?_
    refine sim_iload_n 1 dX9_inHand_30 rfl rfl ?_
    refine sim_imul dX9_inHand_31 rfl ?_
    refine sim_iload_n 2 dX9_inHand_32 rfl rfl ?_
    refine sim_iadd dX9_inHand_33 rfl ?_
    refine sim_iaload (k := 1) (hL.1 1 rfl) rfl rfl dX9_inHand_34 rfl ?_
    exact sim_sub [] rfl (sf_X9_inHand_35 hL (w.1 1 (Int32.toNatClampNeg (((8 : Int32) * v1) + v2))) w)
  · refine sim_aload_n 0 dX9_inHand_7 rfl rfl ?_
    refine sim_get (k := 0) (ci := 7) (j := 4) (v := .ref (Ea E 22)) (hL.1 0 rfl) rfl (by decide) fl_X9_38 rfl dX9_inHand_8 rfl ?_
    refine sim_get (k := 22) (ci := 4) (j := 4) (v := .ref (Ea E 24)) (hL.1 22 rfl) rfl (by decide) fl_X9_162 rfl dX9_inHand_11 rfl ?_
    refine sim_bipush (8 : Int32) dX9_inHand_14 rfl rfl ?_
    refine sim_iload_n 1 dX9_inHand_16 rfl rfl ?_
    refine sim_imul dX9_inHand_17 rfl ?_
    refine sim_iload_n 2 dX9_inHand_18 rfl rfl ?_
    refine sim_iadd dX9_inHand_19 rfl ?_
    refine sim_iaload (k := 24) (hL.1 24 rfl) rfl rfl dX9_inHand_20 rfl ?_
    refine sim_goto (q := 35) dX9_inHand_21 rfl ?_
    exact sim_sub [] rfl (sf_X9_inHand_35 hL (w.1 24 (Int32.toNatClampNeg (((8 : Int32) * v1) + v2))) w)
def f_X9_has_14 (N : Nat) (w : Wd) : Option (Int32 × Wd) :=
  some ((-2 : Int32), w)
set_option maxRecDepth 20000 in
theorem sf_X9_has_14 {E : Ev} (hL : LX E) (w : Wd) : Sim E m_X9_has rI 14 [] [] w (f_X9_has_14 (En E) w) := by
  unfold f_X9_has_14
  refine sim_bipush (-2 : Int32) dX9_has_14 rfl rfl ?_
  exact sim_iret rfl dX9_has_16
def f_X9_has (N : Nat) (v1 : Int32) (v2 : Int32) (w : Wd) : Option (Int32 × Wd) :=
  bd (f_X9_isSide N v1 w) fun x1 w2 =>
  if x1 = (0 : Int32) then
  f_X9_has_14 N w2
  else
  bd (f_X9_isHandKind N v2 w2) fun x3 w4 =>
  if x3 = (0 : Int32) then
  f_X9_has_14 N w4
  else
  bd (f_X9_inHand N v1 v2 w4) fun x5 w6 =>
  some (x5, w6)
set_option maxRecDepth 20000 in
theorem c_X9_has {E : Ev} (hL : LX E) (v1 : Int32) (v2 : Int32) (w : Wd) : Ct E m_X9_has yX9_has rI [.ref (Ea E 0), .int v1, .int v2] w (f_X9_has (En E) v1 v2 w) := by
  refine Ct.of (by decide) ⟨rfl, rfl⟩ (Nat.le_of_ble_eq_true rfl) ?_
  show Sim E m_X9_has rI 0 [(0, .ref (Ea E 0)), (1, .int v1), (2, .int v2)] [] w (f_X9_has (En E) v1 v2 w)
  unfold f_X9_has
  refine sim_iload_n 1 dX9_has_0 rfl rfl ?_
  refine sim_cSi [.int v1] [] (c_X9_isSide hL v1 w) cb_X9_145 sx_X9_isSide rfl rfl rfl (Nat.le_of_ble_eq_true rfl) dX9_has_1 rfl (fun x1 w2 => ?_)
  refine sim_if_eq 14 dX9_has_4 rfl rfl (fun _ => ?_) (fun _ => ?_)
  · exact sim_sub [] rfl (sf_X9_has_14 hL w2)
  · refine sim_iload_n 2 dX9_has_7 rfl rfl ?_
    refine sim_cSi [.int v2] [] (c_X9_isHandKind hL v2 w2) cb_X9_148 sx_X9_isHandKind rfl rfl rfl (Nat.le_of_ble_eq_true rfl) dX9_has_8 rfl (fun x3 w4 => ?_)
    refine sim_if_ne 17 dX9_has_11 rfl rfl (fun _ => ?_) (fun _ => ?_)
    · refine sim_aload_n 0 dX9_has_17 rfl rfl ?_
      refine sim_iload_n 1 dX9_has_18 rfl rfl ?_
      refine sim_iload_n 2 dX9_has_19 rfl rfl ?_
      refine sim_cVi (k := 0) (ci := 7) [.int v1, .int v2] [] (c_X9_inHand hL v1 v2 w4) (hL.1 0 rfl) rfl (by decide) rfl cb_X9_189 im_X9_inHand se_X9_inHand rfl rfl rfl (Nat.le_of_ble_eq_true rfl) dX9_has_20 rfl (fun x5 w6 => ?_)
      exact sim_iret rfl dX9_has_23
    · exact sim_sub [] rfl (sf_X9_has_14 hL w4)
def f_X9_asNumber_9 (N : Nat) (s0 : Int32) (w : Wd) : Option (Int32 × Wd) :=
  some (s0, w)
set_option maxRecDepth 20000 in
theorem sf_X9_asNumber_9 {E : Ev} (hL : LX E) (s0 : Int32) (w : Wd) : Sim E m_X9_asNumber rI 9 [] [.int s0] w (f_X9_asNumber_9 (En E) s0 w) := by
  unfold f_X9_asNumber_9
  exact sim_iret rfl dX9_asNumber_9
def f_X9_asNumber (N : Nat) (v0 : Int32) (w : Wd) : Option (Int32 × Wd) :=
  if v0 = (0 : Int32) then
  f_X9_asNumber_9 N (0 : Int32) w
  else
  f_X9_asNumber_9 N (1 : Int32) w
set_option maxRecDepth 20000 in
theorem c_X9_asNumber {E : Ev} (hL : LX E) (v0 : Int32) (w : Wd) : Ct E m_X9_asNumber yX9_asNumber rI [.int v0] w (f_X9_asNumber (En E) v0 w) := by
  refine Ct.of (by decide) ⟨rfl, rfl⟩ (Nat.le_of_ble_eq_true rfl) ?_
  show Sim E m_X9_asNumber rI 0 [(0, .int v0)] [] w (f_X9_asNumber (En E) v0 w)
  unfold f_X9_asNumber
  refine sim_iload_n 0 dX9_asNumber_0 rfl rfl ?_
  refine sim_if_eq 8 dX9_asNumber_1 rfl rfl (fun _ => ?_) (fun _ => ?_)
  · refine sim_iconst (0 : Int32) dX9_asNumber_8 rfl rfl ?_
    exact sim_sub [] rfl (sf_X9_asNumber_9 hL (0 : Int32) w)
  · refine sim_iconst (1 : Int32) dX9_asNumber_4 rfl rfl ?_
    refine sim_goto (q := 9) dX9_asNumber_5 rfl ?_
    exact sim_sub [] rfl (sf_X9_asNumber_9 hL (1 : Int32) w)
def f_X9_attacks_15 (N : Nat) (w : Wd) : Option (Int32 × Wd) :=
  some ((-2 : Int32), w)
set_option maxRecDepth 20000 in
theorem sf_X9_attacks_15 {E : Ev} (hL : LX E) (w : Wd) : Sim E m_X9_attacks rI 15 [] [] w (f_X9_attacks_15 (En E) w) := by
  unfold f_X9_attacks_15
  refine sim_bipush (-2 : Int32) dX9_attacks_15 rfl rfl ?_
  exact sim_iret rfl dX9_attacks_17
def f_X9_attacks (N : Nat) (v1 : Int32) (v2 : Int32) (w : Wd) : Option (Int32 × Wd) :=
  bd (f_X9_isSide N v1 w) fun x1 w2 =>
  if x1 = (0 : Int32) then
  f_X9_attacks_15 N w2
  else
  bd (f_X9_isField N v2 w2) fun x3 w4 =>
  if x3 = (0 : Int32) then
  f_X9_attacks_15 N w4
  else
  if (w4.1 0 10) = (0 : Int32) then
  some ((-3 : Int32), w4)
  else
  bd (f_X6_attacked N v1 v2 w4) fun x5 w6 =>
  bd (f_X9_asNumber N x5 w6) fun x7 w8 =>
  some (x7, w8)
set_option maxRecDepth 20000 in
theorem c_X9_attacks {E : Ev} (hL : LX E) (v1 : Int32) (v2 : Int32) (w : Wd) : Ct E m_X9_attacks yX9_attacks rI [.ref (Ea E 0), .int v1, .int v2] w (f_X9_attacks (En E) v1 v2 w) := by
  refine Ct.of (by decide) ⟨rfl, rfl⟩ (Nat.le_of_ble_eq_true rfl) ?_
  show Sim E m_X9_attacks rI 0 [(0, .ref (Ea E 0)), (1, .int v1), (2, .int v2)] [] w (f_X9_attacks (En E) v1 v2 w)
  unfold f_X9_attacks
  refine sim_iload_n 1 dX9_attacks_0 rfl rfl ?_
  refine sim_cSi [.int v1] [] (c_X9_isSide hL v1 w) cb_X9_145 sx_X9_isSide rfl rfl rfl (Nat.le_of_ble_eq_true rfl) dX9_attacks_1 rfl (fun x1 w2 => ?_)
  refine sim_if_eq 15 dX9_attacks_4 rfl rfl (fun _ => ?_) (fun _ => ?_)
  · exact sim_sub [] rfl (sf_X9_attacks_15 hL w2)
  · refine sim_aload_n 0 dX9_attacks_7 rfl rfl ?_
    refine sim_iload_n 2 dX9_attacks_8 rfl rfl ?_
    refine sim_cVi (k := 0) (ci := 7) [.int v2] [] (c_X9_isField hL v2 w2) (hL.1 0 rfl) rfl (by decide) rfl cb_X9_183 im_X9_isField se_X9_isField rfl rfl rfl (Nat.le_of_ble_eq_true rfl) dX9_attacks_9 rfl (fun x3 w4 => ?_)
    refine sim_if_ne 18 dX9_attacks_12 rfl rfl (fun _ => ?_) (fun _ => ?_)
    · refine sim_aload_n 0 dX9_attacks_18 rfl rfl ?_
      refine sim_get (k := 0) (ci := 7) (j := 10) (v := .int (w4.1 0 10)) (hL.1 0 rfl) rfl (by decide) fl_X9_86 rfl dX9_attacks_19 rfl ?_
      refine sim_if_ne 28 dX9_attacks_22 rfl rfl (fun _ => ?_) (fun _ => ?_)
      · refine sim_aload_n 0 dX9_attacks_28 rfl rfl ?_
        refine sim_get (k := 0) (ci := 7) (j := 4) (v := .ref (Ea E 22)) (hL.1 0 rfl) rfl (by decide) fl_X9_38 rfl dX9_attacks_29 rfl ?_
        refine sim_iload_n 1 dX9_attacks_32 rfl rfl ?_
        refine sim_iload_n 2 dX9_attacks_33 rfl rfl ?_
        refine sim_cVi (k := 22) (ci := 4) [.int v1, .int v2] [] (c_X6_attacked hL v1 v2 w4) (hL.1 22 rfl) rfl (by decide) rfl cb_X9_192 im_X6_attacked se_X6_attacked rfl rfl rfl (Nat.le_of_ble_eq_true rfl) dX9_attacks_34 rfl (fun x5 w6 => ?_)
        refine sim_cSi [.int x5] [] (c_X9_asNumber hL x5 w6) cb_X9_196 sx_X9_asNumber rfl rfl rfl (Nat.le_of_ble_eq_true rfl) dX9_attacks_37 rfl (fun x7 w8 => ?_)
        exact sim_iret rfl dX9_attacks_40
      · refine sim_bipush (-3 : Int32) dX9_attacks_25 rfl rfl ?_
        exact sim_iret rfl dX9_attacks_27
    · exact sim_sub [] rfl (sf_X9_attacks_15 hL w4)
def f_X9_check (N : Nat) (v1 : Int32) (w : Wd) : Option (Int32 × Wd) :=
  bd (f_X9_isSide N v1 w) fun x1 w2 =>
  if x1 = (0 : Int32) then
  some ((-2 : Int32), w2)
  else
  if (w2.1 0 10) = (0 : Int32) then
  some ((-3 : Int32), w2)
  else
  bd (f_X6_inCheck N v1 w2) fun x3 w4 =>
  bd (f_X9_asNumber N x3 w4) fun x5 w6 =>
  some (x5, w6)
set_option maxRecDepth 20000 in
theorem c_X9_check {E : Ev} (hL : LX E) (v1 : Int32) (w : Wd) : Ct E m_X9_check yX9_check rI [.ref (Ea E 0), .int v1] w (f_X9_check (En E) v1 w) := by
  refine Ct.of (by decide) ⟨rfl, rfl⟩ (Nat.le_of_ble_eq_true rfl) ?_
  show Sim E m_X9_check rI 0 [(0, .ref (Ea E 0)), (1, .int v1)] [] w (f_X9_check (En E) v1 w)
  unfold f_X9_check
  refine sim_iload_n 1 dX9_check_0 rfl rfl ?_
  refine sim_cSi [.int v1] [] (c_X9_isSide hL v1 w) cb_X9_145 sx_X9_isSide rfl rfl rfl (Nat.le_of_ble_eq_true rfl) dX9_check_1 rfl (fun x1 w2 => ?_)
  refine sim_if_ne 10 dX9_check_4 rfl rfl (fun _ => ?_) (fun _ => ?_)
  · refine sim_aload_n 0 dX9_check_10 rfl rfl ?_
    refine sim_get (k := 0) (ci := 7) (j := 10) (v := .int (w2.1 0 10)) (hL.1 0 rfl) rfl (by decide) fl_X9_86 rfl dX9_check_11 rfl ?_
    refine sim_if_ne 20 dX9_check_14 rfl rfl (fun _ => ?_) (fun _ => ?_)
    · refine sim_aload_n 0 dX9_check_20 rfl rfl ?_
      refine sim_get (k := 0) (ci := 7) (j := 4) (v := .ref (Ea E 22)) (hL.1 0 rfl) rfl (by decide) fl_X9_38 rfl dX9_check_21 rfl ?_
      refine sim_iload_n 1 dX9_check_24 rfl rfl ?_
      refine sim_cVi (k := 22) (ci := 4) [.int v1] [] (c_X6_inCheck hL v1 w2) (hL.1 22 rfl) rfl (by decide) rfl cb_X9_168 im_X6_inCheck se_X6_inCheck rfl rfl rfl (Nat.le_of_ble_eq_true rfl) dX9_check_25 rfl (fun x3 w4 => ?_)
      refine sim_cSi [.int x3] [] (c_X9_asNumber hL x3 w4) cb_X9_196 sx_X9_asNumber rfl rfl rfl (Nat.le_of_ble_eq_true rfl) dX9_check_28 rfl (fun x5 w6 => ?_)
      exact sim_iret rfl dX9_check_31
    · refine sim_bipush (-3 : Int32) dX9_check_17 rfl rfl ?_
      exact sim_iret rfl dX9_check_19
  · refine sim_bipush (-2 : Int32) dX9_check_7 rfl rfl ?_
    exact sim_iret rfl dX9_check_9
def f_X9_moves_16 (N : Nat) (s0 : Int32) (w : Wd) : Option (Int32 × Wd) :=
  some (s0, w)
set_option maxRecDepth 20000 in
theorem sf_X9_moves_16 {E : Ev} (hL : LX E) (s0 : Int32) (w : Wd) : Sim E m_X9_moves rI 16 [] [.int s0] w (f_X9_moves_16 (En E) s0 w) := by
  unfold f_X9_moves_16
  exact sim_iret rfl dX9_moves_16
def f_X9_moves (N : Nat) (w : Wd) : Option (Int32 × Wd) :=
  if (w.1 0 10) = (0 : Int32) then
  f_X9_moves_16 N (-3 : Int32) w
  else
  f_X9_moves_16 N (w.1 0 11) w
set_option maxRecDepth 20000 in
theorem c_X9_moves {E : Ev} (hL : LX E) (w : Wd) : Ct E m_X9_moves yX9_moves rI [.ref (Ea E 0)] w (f_X9_moves (En E) w) := by
  refine Ct.of (by decide) ⟨rfl, rfl⟩ (Nat.le_of_ble_eq_true rfl) ?_
  show Sim E m_X9_moves rI 0 [(0, .ref (Ea E 0))] [] w (f_X9_moves (En E) w)
  unfold f_X9_moves
  refine sim_aload_n 0 dX9_moves_0 rfl rfl ?_
  refine sim_get (k := 0) (ci := 7) (j := 10) (v := .int (w.1 0 10)) (hL.1 0 rfl) rfl (by decide) fl_X9_86 rfl dX9_moves_1 rfl ?_
  refine sim_if_eq 14 dX9_moves_4 rfl rfl (fun _ => ?_) (fun _ => ?_)
  · refine sim_bipush (-3 : Int32) dX9_moves_14 rfl rfl ?_
    exact sim_sub [] rfl (sf_X9_moves_16 hL (-3 : Int32) w)
  · refine sim_aload_n 0 dX9_moves_7 rfl rfl ?_
    refine sim_get (k := 0) (ci := 7) (j := 11) (v := .int (w.1 0 11)) (hL.1 0 rfl) rfl (by decide) fl_X9_200 rfl dX9_moves_8 rfl ?_
    refine sim_goto (q := 16) dX9_moves_11 rfl ?_
    exact sim_sub [] rfl (sf_X9_moves_16 hL (w.1 0 11) w)
def f_X9_move_22 (N : Nat) (w : Wd) : Option (Int32 × Wd) :=
  some ((-2 : Int32), w)
set_option maxRecDepth 20000 in
theorem sf_X9_move_22 {E : Ev} (hL : LX E) (w : Wd) : Sim E m_X9_move rI 22 [] [] w (f_X9_move_22 (En E) w) := by
  unfold f_X9_move_22
  refine sim_bipush (-2 : Int32) dX9_move_22 rfl rfl ?_
  exact sim_iret rfl dX9_move_24
def f_X9_move (N : Nat) (v1 : Int32) (v2 : Int32) (w : Wd) : Option (Int32 × Wd) :=
  if (w.1 0 10) = (0 : Int32) then
  some ((-3 : Int32), w)
  else
  if v1 < (0 : Int32) then
  f_X9_move_22 N w
  else
  if v1 < (w.1 0 11) then
  bd (f_X5_listed N (1 : Int32) v1 w) fun x1 w2 =>
  if v2 = (0 : Int32) then
  bd (f_X3_fromOf x1 w2) fun x3 w4 =>
  some (x3, w4)
  else
  if v2 = (1 : Int32) then
  bd (f_X3_toOf x1 w2) fun x5 w6 =>
  some (x5, w6)
  else
  if v2 = (2 : Int32) then
  bd (f_X3_raises x1 w2) fun x7 w8 =>
  bd (f_X9_asNumber N x7 w8) fun x9 w10 =>
  some (x9, w10)
  else
  if v2 = (3 : Int32) then
  bd (f_X6_moverKind N x1 w2) fun x11 w12 =>
  some (x11, w12)
  else
  if v2 = (4 : Int32) then
  bd (f_X3_takenKindOf x1 w2) fun x13 w14 =>
  some (x13, w14)
  else
  some ((-2 : Int32), w2)
  else
  f_X9_move_22 N w
set_option maxRecDepth 20000 in
theorem c_X9_move {E : Ev} (hL : LX E) (v1 : Int32) (v2 : Int32) (w : Wd) : Ct E m_X9_move yX9_move rI [.ref (Ea E 0), .int v1, .int v2] w (f_X9_move (En E) v1 v2 w) := by
  refine Ct.of (by decide) ⟨rfl, rfl⟩ (Nat.le_of_ble_eq_true rfl) ?_
  show Sim E m_X9_move rI 0 [(0, .ref (Ea E 0)), (1, .int v1), (2, .int v2)] [] w (f_X9_move (En E) v1 v2 w)
  unfold f_X9_move
  refine sim_aload_n 0 dX9_move_0 rfl rfl ?_
  refine sim_get (k := 0) (ci := 7) (j := 10) (v := .int (w.1 0 10)) (hL.1 0 rfl) rfl (by decide) fl_X9_86 rfl dX9_move_1 rfl ?_
  refine sim_if_ne 10 dX9_move_4 rfl rfl (fun _ => ?_) (fun _ => ?_)
  · refine sim_iload_n 1 dX9_move_10 rfl rfl ?_
    refine sim_if_lt 22 dX9_move_11 rfl rfl (fun _ => ?_) (fun _ => ?_)
    · exact sim_sub [] rfl (sf_X9_move_22 hL w)
    · refine sim_iload_n 1 dX9_move_14 rfl rfl ?_
      refine sim_aload_n 0 dX9_move_15 rfl rfl ?_
      refine sim_get (k := 0) (ci := 7) (j := 11) (v := .int (w.1 0 11)) (hL.1 0 rfl) rfl (by decide) fl_X9_200 rfl dX9_move_16 rfl ?_
      refine sim_icmp_lt 25 dX9_move_19 rfl rfl (fun _ => ?_) (fun _ => ?_)
      · refine sim_aload_n 0 dX9_move_25 rfl rfl ?_
        refine sim_get (k := 0) (ci := 7) (j := 5) (v := .ref (Ea E 27)) (hL.1 0 rfl) rfl (by decide) fl_X9_47 rfl dX9_move_26 rfl ?_
        refine sim_iconst (1 : Int32) dX9_move_29 rfl rfl ?_
        refine sim_iload_n 1 dX9_move_30 rfl rfl ?_
        refine sim_cVi (k := 27) (ci := 3) [.int (1 : Int32), .int v1] [] (c_X5_listed hL (1 : Int32) v1 w) (hL.1 27 rfl) rfl (by decide) rfl cb_X9_203 im_X5_listed se_X5_listed rfl rfl rfl (Nat.le_of_ble_eq_true rfl) dX9_move_31 rfl (fun x1 w2 => ?_)
        refine sim_istore_n [(3, .int x1), (0, .ref (Ea E 0)), (1, .int v1), (2, .int v2)] dX9_move_34 (Nat.le_of_ble_eq_true rfl) rfl rfl ?_
        refine sim_iload_n 3 dX9_move_35 rfl rfl ?_
        refine sim_tab5 72 77 82 90 99 104 dX9_move_36 rfl rfl rfl rfl rfl rfl ?_ ?_ ?_ ?_ ?_ ?_
        · refine sim_iload_n 0 dX9_move_72 rfl rfl ?_
          refine sim_cSi [.int x1] [] (c_X3_fromOf x1 w2) cb_X9_206 sx_X3_fromOf rfl rfl rfl (Nat.le_of_ble_eq_true rfl) dX9_move_73 rfl (fun x3 w4 => ?_)
          exact sim_iret rfl dX9_move_76
        · refine sim_iload_n 0 dX9_move_77 rfl rfl ?_
          refine sim_cSi [.int x1] [] (c_X3_toOf x1 w2) cb_X9_211 sx_X3_toOf rfl rfl rfl (Nat.le_of_ble_eq_true rfl) dX9_move_78 rfl (fun x5 w6 => ?_)
          exact sim_iret rfl dX9_move_81
        · refine sim_iload_n 0 dX9_move_82 rfl rfl ?_
          refine sim_cSi [.int x1] [] (c_X3_raises x1 w2) cb_X9_214 sx_X3_raises rfl rfl rfl (Nat.le_of_ble_eq_true rfl) dX9_move_83 rfl (fun x7 w8 => ?_)
          refine sim_cSi [.int x7] [] (c_X9_asNumber hL x7 w8) cb_X9_196 sx_X9_asNumber rfl rfl rfl (Nat.le_of_ble_eq_true rfl) dX9_move_86 rfl (fun x9 w10 => ?_)
          exact sim_iret rfl dX9_move_89
        · refine sim_aload_n 1 dX9_move_90 rfl rfl ?_
          refine sim_get (k := 0) (ci := 7) (j := 4) (v := .ref (Ea E 22)) (hL.1 0 rfl) rfl (by decide) fl_X9_38 rfl dX9_move_91 rfl ?_
          refine sim_iload_n 0 dX9_move_94 rfl rfl ?_
          refine sim_cVi (k := 22) (ci := 4) [.int x1] [] (c_X6_moverKind hL x1 w2) (hL.1 22 rfl) rfl (by decide) rfl cb_X9_217 im_X6_moverKind se_X6_moverKind rfl rfl rfl (Nat.le_of_ble_eq_true rfl) dX9_move_95 rfl (fun x11 w12 => ?_)
          exact sim_iret rfl dX9_move_98
        · refine sim_iload_n 0 dX9_move_99 rfl rfl ?_
          refine sim_cSi [.int x1] [] (c_X3_takenKindOf x1 w2) cb_X9_220 sx_X3_takenKindOf rfl rfl rfl (Nat.le_of_ble_eq_true rfl) dX9_move_100 rfl (fun x13 w14 => ?_)
          exact sim_iret rfl dX9_move_103
        · refine sim_bipush (-2 : Int32) dX9_move_104 rfl rfl ?_
          exact sim_iret rfl dX9_move_106
      · exact sim_sub [] rfl (sf_X9_move_22 hL w)
  · refine sim_bipush (-3 : Int32) dX9_move_7 rfl rfl ?_
    exact sim_iret rfl dX9_move_9
def f_X9_why_16 (N : Nat) (w : Wd) : Option (Int32 × Wd) :=
  some ((-2 : Int32), w)
set_option maxRecDepth 20000 in
theorem sf_X9_why_16 {E : Ev} (hL : LX E) (w : Wd) : Sim E m_X9_why rI 16 [] [] w (f_X9_why_16 (En E) w) := by
  unfold f_X9_why_16
  refine sim_bipush (-2 : Int32) dX9_why_16 rfl rfl ?_
  exact sim_iret rfl dX9_why_18
def f_X9_why (N : Nat) (v1 : Int32) (v2 : Int32) (v3 : Int32) (w : Wd) : Option (Int32 × Wd) :=
  bd (f_X9_isField N v1 w) fun x1 w2 =>
  if x1 = (0 : Int32) then
  f_X9_why_16 N w2
  else
  bd (f_X9_isField N v2 w2) fun x3 w4 =>
  if x3 = (0 : Int32) then
  f_X9_why_16 N w4
  else
  if (w4.1 0 10) = (0 : Int32) then
  some ((-3 : Int32), w4)
  else
  bd (f_X3_going v1 v2 v3 w4) fun x5 w6 =>
  bd (f_X5_faultOf N x5 w6) fun x7 w8 =>
  some (x7, w8)
set_option maxRecDepth 20000 in
theorem c_X9_why {E : Ev} (hL : LX E) (v1 : Int32) (v2 : Int32) (v3 : Int32) (w : Wd) : Ct E m_X9_why yX9_why rI [.ref (Ea E 0), .int v1, .int v2, .int v3] w (f_X9_why (En E) v1 v2 v3 w) := by
  refine Ct.of (by decide) ⟨rfl, rfl⟩ (Nat.le_of_ble_eq_true rfl) ?_
  show Sim E m_X9_why rI 0 [(0, .ref (Ea E 0)), (1, .int v1), (2, .int v2), (3, .int v3)] [] w (f_X9_why (En E) v1 v2 v3 w)
  unfold f_X9_why
  refine sim_aload_n 0 dX9_why_0 rfl rfl ?_
  refine sim_iload_n 1 dX9_why_1 rfl rfl ?_
  refine sim_cVi (k := 0) (ci := 7) [.int v1] [] (c_X9_isField hL v1 w) (hL.1 0 rfl) rfl (by decide) rfl cb_X9_183 im_X9_isField se_X9_isField rfl rfl rfl (Nat.le_of_ble_eq_true rfl) dX9_why_2 rfl (fun x1 w2 => ?_)
  refine sim_if_eq 16 dX9_why_5 rfl rfl (fun _ => ?_) (fun _ => ?_)
  · exact sim_sub [] rfl (sf_X9_why_16 hL w2)
  · refine sim_aload_n 0 dX9_why_8 rfl rfl ?_
    refine sim_iload_n 2 dX9_why_9 rfl rfl ?_
    refine sim_cVi (k := 0) (ci := 7) [.int v2] [] (c_X9_isField hL v2 w2) (hL.1 0 rfl) rfl (by decide) rfl cb_X9_183 im_X9_isField se_X9_isField rfl rfl rfl (Nat.le_of_ble_eq_true rfl) dX9_why_10 rfl (fun x3 w4 => ?_)
    refine sim_if_ne 19 dX9_why_13 rfl rfl (fun _ => ?_) (fun _ => ?_)
    · refine sim_aload_n 0 dX9_why_19 rfl rfl ?_
      refine sim_get (k := 0) (ci := 7) (j := 10) (v := .int (w4.1 0 10)) (hL.1 0 rfl) rfl (by decide) fl_X9_86 rfl dX9_why_20 rfl ?_
      refine sim_if_ne 29 dX9_why_23 rfl rfl (fun _ => ?_) (fun _ => ?_)
      · refine sim_aload_n 0 dX9_why_29 rfl rfl ?_
        refine sim_get (k := 0) (ci := 7) (j := 5) (v := .ref (Ea E 27)) (hL.1 0 rfl) rfl (by decide) fl_X9_47 rfl dX9_why_30 rfl ?_
        refine sim_iload_n 1 dX9_why_33 rfl rfl ?_
        refine sim_iload_n 2 dX9_why_34 rfl rfl ?_
        refine sim_iload_n 3 dX9_why_35 rfl rfl ?_
        refine sim_cSi [.int v1, .int v2, .int v3] [.ref (Ea E 27)] (c_X3_going v1 v2 v3 w4) cb_X9_223 sx_X3_going rfl rfl rfl (Nat.le_of_ble_eq_true rfl) dX9_why_36 rfl (fun x5 w6 => ?_)
        refine sim_cVi (k := 27) (ci := 3) [.int x5] [] (c_X5_faultOf hL x5 w6) (hL.1 27 rfl) rfl (by decide) rfl cb_X9_227 im_X5_faultOf se_X5_faultOf rfl rfl rfl (Nat.le_of_ble_eq_true rfl) dX9_why_39 rfl (fun x7 w8 => ?_)
        exact sim_iret rfl dX9_why_42
      · refine sim_bipush (-3 : Int32) dX9_why_26 rfl rfl ?_
        exact sim_iret rfl dX9_why_28
    · exact sim_sub [] rfl (sf_X9_why_16 hL w4)
def f_X9_whySet_15 (N : Nat) (w : Wd) : Option (Int32 × Wd) :=
  some ((-2 : Int32), w)
set_option maxRecDepth 20000 in
theorem sf_X9_whySet_15 {E : Ev} (hL : LX E) (w : Wd) : Sim E m_X9_whySet rI 15 [] [] w (f_X9_whySet_15 (En E) w) := by
  unfold f_X9_whySet_15
  refine sim_bipush (-2 : Int32) dX9_whySet_15 rfl rfl ?_
  exact sim_iret rfl dX9_whySet_17
def f_X9_whySet (N : Nat) (v1 : Int32) (v2 : Int32) (w : Wd) : Option (Int32 × Wd) :=
  bd (f_X9_isHandKind N v1 w) fun x1 w2 =>
  if x1 = (0 : Int32) then
  f_X9_whySet_15 N w2
  else
  bd (f_X9_isField N v2 w2) fun x3 w4 =>
  if x3 = (0 : Int32) then
  f_X9_whySet_15 N w4
  else
  if (w4.1 0 10) = (0 : Int32) then
  some ((-3 : Int32), w4)
  else
  bd (f_X3_setting v1 v2 w4) fun x5 w6 =>
  bd (f_X5_faultOf N x5 w6) fun x7 w8 =>
  some (x7, w8)
set_option maxRecDepth 20000 in
theorem c_X9_whySet {E : Ev} (hL : LX E) (v1 : Int32) (v2 : Int32) (w : Wd) : Ct E m_X9_whySet yX9_whySet rI [.ref (Ea E 0), .int v1, .int v2] w (f_X9_whySet (En E) v1 v2 w) := by
  refine Ct.of (by decide) ⟨rfl, rfl⟩ (Nat.le_of_ble_eq_true rfl) ?_
  show Sim E m_X9_whySet rI 0 [(0, .ref (Ea E 0)), (1, .int v1), (2, .int v2)] [] w (f_X9_whySet (En E) v1 v2 w)
  unfold f_X9_whySet
  refine sim_iload_n 1 dX9_whySet_0 rfl rfl ?_
  refine sim_cSi [.int v1] [] (c_X9_isHandKind hL v1 w) cb_X9_148 sx_X9_isHandKind rfl rfl rfl (Nat.le_of_ble_eq_true rfl) dX9_whySet_1 rfl (fun x1 w2 => ?_)
  refine sim_if_eq 15 dX9_whySet_4 rfl rfl (fun _ => ?_) (fun _ => ?_)
  · exact sim_sub [] rfl (sf_X9_whySet_15 hL w2)
  · refine sim_aload_n 0 dX9_whySet_7 rfl rfl ?_
    refine sim_iload_n 2 dX9_whySet_8 rfl rfl ?_
    refine sim_cVi (k := 0) (ci := 7) [.int v2] [] (c_X9_isField hL v2 w2) (hL.1 0 rfl) rfl (by decide) rfl cb_X9_183 im_X9_isField se_X9_isField rfl rfl rfl (Nat.le_of_ble_eq_true rfl) dX9_whySet_9 rfl (fun x3 w4 => ?_)
    refine sim_if_ne 18 dX9_whySet_12 rfl rfl (fun _ => ?_) (fun _ => ?_)
    · refine sim_aload_n 0 dX9_whySet_18 rfl rfl ?_
      refine sim_get (k := 0) (ci := 7) (j := 10) (v := .int (w4.1 0 10)) (hL.1 0 rfl) rfl (by decide) fl_X9_86 rfl dX9_whySet_19 rfl ?_
      refine sim_if_ne 28 dX9_whySet_22 rfl rfl (fun _ => ?_) (fun _ => ?_)
      · refine sim_aload_n 0 dX9_whySet_28 rfl rfl ?_
        refine sim_get (k := 0) (ci := 7) (j := 5) (v := .ref (Ea E 27)) (hL.1 0 rfl) rfl (by decide) fl_X9_47 rfl dX9_whySet_29 rfl ?_
        refine sim_iload_n 1 dX9_whySet_32 rfl rfl ?_
        refine sim_iload_n 2 dX9_whySet_33 rfl rfl ?_
        refine sim_cSi [.int v1, .int v2] [.ref (Ea E 27)] (c_X3_setting v1 v2 w4) cb_X9_230 sx_X3_setting rfl rfl rfl (Nat.le_of_ble_eq_true rfl) dX9_whySet_34 rfl (fun x5 w6 => ?_)
        refine sim_cVi (k := 27) (ci := 3) [.int x5] [] (c_X5_faultOf hL x5 w6) (hL.1 27 rfl) rfl (by decide) rfl cb_X9_227 im_X5_faultOf se_X5_faultOf rfl rfl rfl (Nat.le_of_ble_eq_true rfl) dX9_whySet_37 rfl (fun x7 w8 => ?_)
        exact sim_iret rfl dX9_whySet_40
      · refine sim_bipush (-3 : Int32) dX9_whySet_25 rfl rfl ?_
        exact sim_iret rfl dX9_whySet_27
    · exact sim_sub [] rfl (sf_X9_whySet_15 hL w4)
def f_X9_rows_10 (N : Nat) (w : Wd) : Option (Int32 × Wd) :=
  some ((-2 : Int32), w)
set_option maxRecDepth 20000 in
theorem sf_X9_rows_10 {E : Ev} (hL : LX E) (w : Wd) : Sim E m_X9_rows rI 10 [] [] w (f_X9_rows_10 (En E) w) := by
  unfold f_X9_rows_10
  refine sim_bipush (-2 : Int32) dX9_rows_10 rfl rfl ?_
  exact sim_iret rfl dX9_rows_12
def f_X9_rows_49 (N : Nat) (s0 : Int32) (w : Wd) : Option (Int32 × Wd) :=
  some (s0, w)
set_option maxRecDepth 20000 in
theorem sf_X9_rows_49 {E : Ev} (hL : LX E) (s0 : Int32) (w : Wd) : Sim E m_X9_rows rI 49 [] [.int s0] w (f_X9_rows_49 (En E) s0 w) := by
  unfold f_X9_rows_49
  exact sim_iret rfl dX9_rows_49
def f_X9_rows (N : Nat) (v1 : Int32) (w : Wd) : Option (Int32 × Wd) :=
  if v1 < (1 : Int32) then
  f_X9_rows_10 N w
  else
  if v1 ≤ (3 : Int32) then
  if (w.1 0 10) = (0 : Int32) then
  some ((-3 : Int32), w)
  else
  bd (f_X5_countRowsR N v1 (2 : Int32) (20000 : Int32) w) fun x1 w2 =>
  if x1 ≤ (20000 : Int32) then
  f_X9_rows_49 N x1 w2
  else
  f_X9_rows_49 N (-5 : Int32) w2
  else
  f_X9_rows_10 N w
set_option maxRecDepth 20000 in
theorem c_X9_rows {E : Ev} (hL : LX E) (v1 : Int32) (w : Wd) : Ct E m_X9_rows yX9_rows rI [.ref (Ea E 0), .int v1] w (f_X9_rows (En E) v1 w) := by
  refine Ct.of (by decide) ⟨rfl, rfl⟩ (Nat.le_of_ble_eq_true rfl) ?_
  show Sim E m_X9_rows rI 0 [(0, .ref (Ea E 0)), (1, .int v1)] [] w (f_X9_rows (En E) v1 w)
  unfold f_X9_rows
  refine sim_iload_n 1 dX9_rows_0 rfl rfl ?_
  refine sim_iconst (1 : Int32) dX9_rows_1 rfl rfl ?_
  refine sim_icmp_lt 10 dX9_rows_2 rfl rfl (fun _ => ?_) (fun _ => ?_)
  · exact sim_sub [] rfl (sf_X9_rows_10 hL w)
  · refine sim_iload_n 1 dX9_rows_5 rfl rfl ?_
    refine sim_iconst (3 : Int32) dX9_rows_6 rfl rfl ?_
    refine sim_icmp_le 13 dX9_rows_7 rfl rfl (fun _ => ?_) (fun _ => ?_)
    · refine sim_aload_n 0 dX9_rows_13 rfl rfl ?_
      refine sim_get (k := 0) (ci := 7) (j := 10) (v := .int (w.1 0 10)) (hL.1 0 rfl) rfl (by decide) fl_X9_86 rfl dX9_rows_14 rfl ?_
      refine sim_if_ne 23 dX9_rows_17 rfl rfl (fun _ => ?_) (fun _ => ?_)
      · refine sim_aload_n 0 dX9_rows_23 rfl rfl ?_
        refine sim_get (k := 0) (ci := 7) (j := 5) (v := .ref (Ea E 27)) (hL.1 0 rfl) rfl (by decide) fl_X9_47 rfl dX9_rows_24 rfl ?_
        refine sim_iload_n 1 dX9_rows_27 rfl rfl ?_
        refine sim_iconst (2 : Int32) dX9_rows_28 rfl rfl ?_
        refine sim_sipush (20000 : Int32) dX9_rows_29 rfl rfl ?_
        refine sim_cVNi (k := 27) (ci := 3) [.int v1, .int (2 : Int32), .int (20000 : Int32)] [] (c_X5_countRowsR hL v1 (2 : Int32) (20000 : Int32) w) (hL.1 27 rfl) rfl (by decide) rfl (cn_X9_233 _) im_X5_countRows se_X5_countRows rfl rfl rfl (Nat.le_of_ble_eq_true rfl) dX9_rows_32 rfl (fun x1 w2 => ?_)
        refine sim_istore_n [(2, .int x1), (0, .ref (Ea E 0)), (1, .int v1)] dX9_rows_35 (Nat.le_of_ble_eq_true rfl) rfl rfl ?_
        refine sim_iload_n 0 dX9_rows_36 rfl rfl ?_
        refine sim_sipush (20000 : Int32) dX9_rows_37 rfl rfl ?_
        refine sim_icmp_le 48 dX9_rows_40 rfl rfl (fun _ => ?_) (fun _ => ?_)
        · refine sim_iload_n 0 dX9_rows_48 rfl rfl ?_
          exact sim_sub [] rfl (sf_X9_rows_49 hL x1 w2)
        · refine sim_bipush (-5 : Int32) dX9_rows_43 rfl rfl ?_
          refine sim_goto (q := 49) dX9_rows_45 rfl ?_
          exact sim_sub [] rfl (sf_X9_rows_49 hL (-5 : Int32) w2)
      · refine sim_bipush (-3 : Int32) dX9_rows_20 rfl rfl ?_
        exact sim_iret rfl dX9_rows_22
    · exact sim_sub [] rfl (sf_X9_rows_10 hL w)
def f_X9_stateOfPlay_18 (N : Nat) (s0 : Int32) (w : Wd) : Option (Int32 × Wd) :=
  some (s0, w)
set_option maxRecDepth 20000 in
theorem sf_X9_stateOfPlay_18 {E : Ev} (hL : LX E) (s0 : Int32) (w : Wd) : Sim E m_X9_stateOfPlay rI 18 [] [.int s0] w (f_X9_stateOfPlay_18 (En E) s0 w) := by
  unfold f_X9_stateOfPlay_18
  exact sim_iret rfl dX9_stateOfPlay_18
def f_X9_stateOfPlay (N : Nat) (w : Wd) : Option (Int32 × Wd) :=
  if (w.1 0 11) = (0 : Int32) then
  f_X9_stateOfPlay_18 N (1 : Int32) w
  else
  if okP w.2.2.1 = true then
  bd (f_X4_ending N w.2.2.1 w) fun x1 w2 =>
  f_X9_stateOfPlay_18 N x1 w2
  else none
set_option maxRecDepth 20000 in
theorem c_X9_stateOfPlay {E : Ev} (hL : LX E) (w : Wd) : Ct E m_X9_stateOfPlay yX9_stateOfPlay rI [.ref (Ea E 0)] w (f_X9_stateOfPlay (En E) w) := by
  refine Ct.of (by decide) ⟨rfl, rfl⟩ (Nat.le_of_ble_eq_true rfl) ?_
  show Sim E m_X9_stateOfPlay rI 0 [(0, .ref (Ea E 0))] [] w (f_X9_stateOfPlay (En E) w)
  unfold f_X9_stateOfPlay
  refine sim_aload_n 0 dX9_stateOfPlay_0 rfl rfl ?_
  refine sim_get (k := 0) (ci := 7) (j := 11) (v := .int (w.1 0 11)) (hL.1 0 rfl) rfl (by decide) fl_X9_200 rfl dX9_stateOfPlay_1 rfl ?_
  refine sim_if_ne 11 dX9_stateOfPlay_4 rfl rfl (fun _ => ?_) (fun _ => ?_)
  · refine sim_aload_n 0 dX9_stateOfPlay_11 rfl rfl ?_
    refine sim_get (k := 0) (ci := 7) (j := 8) (v := .ref (Ea E (w.2.2.1))) (hL.1 0 rfl) rfl (by decide) fl_X9_72 rfl dX9_stateOfPlay_12 rfl ?_
    refine sim_guard (fun hp3 => ?_)
    refine sim_cVi (k := w.2.2.1) (ci := 2) [] [] (c_X4_ending hL hp3 w) (okP_in hp3 hL).1 (okP_kd hp3).1 (by decide) rfl cb_X9_316 im_X4_ending se_X4_ending rfl rfl rfl (Nat.le_of_ble_eq_true rfl) dX9_stateOfPlay_15 rfl (fun x1 w2 => ?_)
    exact sim_sub [] rfl (sf_X9_stateOfPlay_18 hL x1 w2)
  · refine sim_iconst (1 : Int32) dX9_stateOfPlay_7 rfl rfl ?_
    refine sim_goto (q := 18) dX9_stateOfPlay_8 rfl ?_
    exact sim_sub [] rfl (sf_X9_stateOfPlay_18 hL (1 : Int32) w)
def f_X9_go_22 (N : Nat) (w : Wd) : Option (Int32 × Wd) :=
  some ((-2 : Int32), w)
set_option maxRecDepth 20000 in
theorem sf_X9_go_22 {E : Ev} (hL : LX E) (w : Wd) : Sim E m_X9_go rI 22 [] [] w (f_X9_go_22 (En E) w) := by
  unfold f_X9_go_22
  refine sim_bipush (-2 : Int32) dX9_go_22 rfl rfl ?_
  exact sim_iret rfl dX9_go_24
def f_X9_go (N : Nat) (v1 : Int32) (w : Wd) : Option (Int32 × Wd) :=
  if (w.1 0 10) = (0 : Int32) then
  some ((-3 : Int32), w)
  else
  if v1 < (0 : Int32) then
  f_X9_go_22 N w
  else
  if v1 < (w.1 0 11) then
  bd (f_X9_stateOfPlay N w) fun x1 w2 =>
  if x1 = (0 : Int32) then
  if okP w2.2.2.1 = true then
  if (w2.1 w2.2.2.1 6) < (300 : Int32) then
  bd (f_X5_listed N (1 : Int32) v1 w2) fun x4 w5 =>
  if okP w2.2.2.1 = true then
  bd (f_X4_advance N w2.2.2.1 x4 w5) fun _ w6 =>
  bd (f_X9_lookAround N w6) fun _ w8 =>
  bd (f_X9_stateOfPlay N w8) fun x9 w10 =>
  some (x9, w10)
  else none
  else
  some ((-4 : Int32), w2)
  else none
  else
  some ((-3 : Int32), w2)
  else
  f_X9_go_22 N w
set_option maxRecDepth 20000 in
theorem c_X9_go {E : Ev} (hL : LX E) (v1 : Int32) (w : Wd) : Ct E m_X9_go yX9_go rI [.ref (Ea E 0), .int v1] w (f_X9_go (En E) v1 w) := by
  refine Ct.of (by decide) ⟨rfl, rfl⟩ (Nat.le_of_ble_eq_true rfl) ?_
  show Sim E m_X9_go rI 0 [(0, .ref (Ea E 0)), (1, .int v1)] [] w (f_X9_go (En E) v1 w)
  unfold f_X9_go
  refine sim_aload_n 0 dX9_go_0 rfl rfl ?_
  refine sim_get (k := 0) (ci := 7) (j := 10) (v := .int (w.1 0 10)) (hL.1 0 rfl) rfl (by decide) fl_X9_86 rfl dX9_go_1 rfl ?_
  refine sim_if_ne 10 dX9_go_4 rfl rfl (fun _ => ?_) (fun _ => ?_)
  · refine sim_iload_n 1 dX9_go_10 rfl rfl ?_
    refine sim_if_lt 22 dX9_go_11 rfl rfl (fun _ => ?_) (fun _ => ?_)
    · exact sim_sub [] rfl (sf_X9_go_22 hL w)
    · refine sim_iload_n 1 dX9_go_14 rfl rfl ?_
      refine sim_aload_n 0 dX9_go_15 rfl rfl ?_
      refine sim_get (k := 0) (ci := 7) (j := 11) (v := .int (w.1 0 11)) (hL.1 0 rfl) rfl (by decide) fl_X9_200 rfl dX9_go_16 rfl ?_
      refine sim_icmp_lt 25 dX9_go_19 rfl rfl (fun _ => ?_) (fun _ => ?_)
      · refine sim_aload_n 0 dX9_go_25 rfl rfl ?_
        refine sim_cVi (k := 0) (ci := 7) [] [] (c_X9_stateOfPlay hL w) (hL.1 0 rfl) rfl (by decide) rfl cb_X9_236 im_X9_stateOfPlay se_X9_stateOfPlay rfl rfl rfl (Nat.le_of_ble_eq_true rfl) dX9_go_26 rfl (fun x1 w2 => ?_)
        refine sim_if_eq 35 dX9_go_29 rfl rfl (fun _ => ?_) (fun _ => ?_)
        · refine sim_aload_n 0 dX9_go_35 rfl rfl ?_
          refine sim_get (k := 0) (ci := 7) (j := 8) (v := .ref (Ea E (w2.2.2.1))) (hL.1 0 rfl) rfl (by decide) fl_X9_72 rfl dX9_go_36 rfl ?_
          refine sim_guard (fun hp3 => ?_)
          refine sim_get (k := w2.2.2.1) (ci := 2) (j := 6) (v := .int (w2.1 w2.2.2.1 6)) (okP_in hp3 hL).1 (okP_kd hp3).1 (by decide) fl_X9_180 (by rw [fvs_P (okP_kd hp3).1]; rfl) dX9_go_39 rfl ?_
          refine sim_sipush (300 : Int32) dX9_go_42 rfl rfl ?_
          refine sim_icmp_lt 51 dX9_go_45 rfl rfl (fun _ => ?_) (fun _ => ?_)
          · refine sim_aload_n 0 dX9_go_51 rfl rfl ?_
            refine sim_get (k := 0) (ci := 7) (j := 8) (v := .ref (Ea E (w2.2.2.1))) (hL.1 0 rfl) rfl (by decide) fl_X9_72 rfl dX9_go_52 rfl ?_
            refine sim_aload_n 0 dX9_go_55 rfl rfl ?_
            refine sim_get (k := 0) (ci := 7) (j := 5) (v := .ref (Ea E 27)) (hL.1 0 rfl) rfl (by decide) fl_X9_47 rfl dX9_go_56 rfl ?_
            refine sim_iconst (1 : Int32) dX9_go_59 rfl rfl ?_
            refine sim_iload_n 1 dX9_go_60 rfl rfl ?_
            refine sim_cVi (k := 27) (ci := 3) [.int (1 : Int32), .int v1] [.ref (Ea E (w2.2.2.1))] (c_X5_listed hL (1 : Int32) v1 w2) (hL.1 27 rfl) rfl (by decide) rfl cb_X9_203 im_X5_listed se_X5_listed rfl rfl rfl (Nat.le_of_ble_eq_true rfl) dX9_go_61 rfl (fun x4 w5 => ?_)
            refine sim_guard (fun hp7 => ?_)
            refine sim_cVv (k := w2.2.2.1) (ci := 2) [.int x4] [] (c_X4_advance hL hp7 x4 w5) (okP_in hp7 hL).1 (okP_kd hp7).1 (by decide) rfl cb_X9_240 im_X4_advance se_X4_advance rfl rfl rfl (Nat.le_of_ble_eq_true rfl) dX9_go_64 rfl (fun _ w6 => ?_)
            refine sim_aload_n 0 dX9_go_67 rfl rfl ?_
            refine sim_cVv (k := 0) (ci := 7) [] [] (c_X9_lookAround hL w6) (hL.1 0 rfl) rfl (by decide) rfl cb_X9_174 im_X9_lookAround se_X9_lookAround rfl rfl rfl (Nat.le_of_ble_eq_true rfl) dX9_go_68 rfl (fun _ w8 => ?_)
            refine sim_aload_n 0 dX9_go_71 rfl rfl ?_
            refine sim_cVi (k := 0) (ci := 7) [] [] (c_X9_stateOfPlay hL w8) (hL.1 0 rfl) rfl (by decide) rfl cb_X9_236 im_X9_stateOfPlay se_X9_stateOfPlay rfl rfl rfl (Nat.le_of_ble_eq_true rfl) dX9_go_72 rfl (fun x9 w10 => ?_)
            exact sim_iret rfl dX9_go_75
          · refine sim_bipush (-4 : Int32) dX9_go_48 rfl rfl ?_
            exact sim_iret rfl dX9_go_50
        · refine sim_bipush (-3 : Int32) dX9_go_32 rfl rfl ?_
          exact sim_iret rfl dX9_go_34
      · exact sim_sub [] rfl (sf_X9_go_22 hL w)
  · refine sim_bipush (-3 : Int32) dX9_go_7 rfl rfl ?_
    exact sim_iret rfl dX9_go_9
def f_X9_back_17 (N : Nat) (w : Wd) : Option (Int32 × Wd) :=
  some ((-3 : Int32), w)
set_option maxRecDepth 20000 in
theorem sf_X9_back_17 {E : Ev} (hL : LX E) (w : Wd) : Sim E m_X9_back rI 17 [] [] w (f_X9_back_17 (En E) w) := by
  unfold f_X9_back_17
  refine sim_bipush (-3 : Int32) dX9_back_17 rfl rfl ?_
  exact sim_iret rfl dX9_back_19
def f_X9_back (N : Nat) (w : Wd) : Option (Int32 × Wd) :=
  if (w.1 0 10) = (0 : Int32) then
  f_X9_back_17 N w
  else
  if okP w.2.2.1 = true then
  if (w.1 w.2.2.1 6) = (0 : Int32) then
  f_X9_back_17 N w
  else
  if okP w.2.2.1 = true then
  bd (f_X4_withdraw N w.2.2.1 w) fun _ w2 =>
  bd (f_X9_lookAround N w2) fun _ w4 =>
  if okP w4.2.2.1 = true then
  some ((w4.1 w4.2.2.1 6), w4)
  else none
  else none
  else none
set_option maxRecDepth 20000 in
theorem c_X9_back {E : Ev} (hL : LX E) (w : Wd) : Ct E m_X9_back yX9_back rI [.ref (Ea E 0)] w (f_X9_back (En E) w) := by
  refine Ct.of (by decide) ⟨rfl, rfl⟩ (Nat.le_of_ble_eq_true rfl) ?_
  show Sim E m_X9_back rI 0 [(0, .ref (Ea E 0))] [] w (f_X9_back (En E) w)
  unfold f_X9_back
  refine sim_aload_n 0 dX9_back_0 rfl rfl ?_
  refine sim_get (k := 0) (ci := 7) (j := 10) (v := .int (w.1 0 10)) (hL.1 0 rfl) rfl (by decide) fl_X9_86 rfl dX9_back_1 rfl ?_
  refine sim_if_eq 17 dX9_back_4 rfl rfl (fun _ => ?_) (fun _ => ?_)
  · exact sim_sub [] rfl (sf_X9_back_17 hL w)
  · refine sim_aload_n 0 dX9_back_7 rfl rfl ?_
    refine sim_get (k := 0) (ci := 7) (j := 8) (v := .ref (Ea E (w.2.2.1))) (hL.1 0 rfl) rfl (by decide) fl_X9_72 rfl dX9_back_8 rfl ?_
    refine sim_guard (fun hp1 => ?_)
    refine sim_get (k := w.2.2.1) (ci := 2) (j := 6) (v := .int (w.1 w.2.2.1 6)) (okP_in hp1 hL).1 (okP_kd hp1).1 (by decide) fl_X9_180 (by rw [fvs_P (okP_kd hp1).1]; rfl) dX9_back_11 rfl ?_
    refine sim_if_ne 20 dX9_back_14 rfl rfl (fun _ => ?_) (fun _ => ?_)
    · refine sim_aload_n 0 dX9_back_20 rfl rfl ?_
      refine sim_get (k := 0) (ci := 7) (j := 8) (v := .ref (Ea E (w.2.2.1))) (hL.1 0 rfl) rfl (by decide) fl_X9_72 rfl dX9_back_21 rfl ?_
      refine sim_guard (fun hp3 => ?_)
      refine sim_cVv (k := w.2.2.1) (ci := 2) [] [] (c_X4_withdraw hL hp3 w) (okP_in hp3 hL).1 (okP_kd hp3).1 (by decide) rfl cb_X9_243 im_X4_withdraw se_X4_withdraw rfl rfl rfl (Nat.le_of_ble_eq_true rfl) dX9_back_24 rfl (fun _ w2 => ?_)
      refine sim_aload_n 0 dX9_back_27 rfl rfl ?_
      refine sim_cVv (k := 0) (ci := 7) [] [] (c_X9_lookAround hL w2) (hL.1 0 rfl) rfl (by decide) rfl cb_X9_174 im_X9_lookAround se_X9_lookAround rfl rfl rfl (Nat.le_of_ble_eq_true rfl) dX9_back_28 rfl (fun _ w4 => ?_)
      refine sim_aload_n 0 dX9_back_31 rfl rfl ?_
      refine sim_get (k := 0) (ci := 7) (j := 8) (v := .ref (Ea E (w4.2.2.1))) (hL.1 0 rfl) rfl (by decide) fl_X9_72 rfl dX9_back_32 rfl ?_
      refine sim_guard (fun hp5 => ?_)
      refine sim_get (k := w4.2.2.1) (ci := 2) (j := 6) (v := .int (w4.1 w4.2.2.1 6)) (okP_in hp5 hL).1 (okP_kd hp5).1 (by decide) fl_X9_180 (by rw [fvs_P (okP_kd hp5).1]; rfl) dX9_back_35 rfl ?_
      exact sim_iret rfl dX9_back_38
    · exact sim_sub [] rfl (sf_X9_back_17 hL w)
def f_X9_forth_24 (N : Nat) (w : Wd) : Option (Int32 × Wd) :=
  some ((-3 : Int32), w)
set_option maxRecDepth 20000 in
theorem sf_X9_forth_24 {E : Ev} (hL : LX E) (w : Wd) : Sim E m_X9_forth rI 24 [] [] w (f_X9_forth_24 (En E) w) := by
  unfold f_X9_forth_24
  refine sim_bipush (-3 : Int32) dX9_forth_24 rfl rfl ?_
  exact sim_iret rfl dX9_forth_26
def f_X9_forth (N : Nat) (w : Wd) : Option (Int32 × Wd) :=
  if (w.1 0 10) = (0 : Int32) then
  f_X9_forth_24 N w
  else
  if okP w.2.2.1 = true then
  if okP w.2.2.1 = true then
  if (w.1 w.2.2.1 6) < (w.1 w.2.2.1 7) then
  if okP w.2.2.1 = true then
  bd (f_X4_repeat N w.2.2.1 w) fun _ w3 =>
  bd (f_X9_lookAround N w3) fun _ w5 =>
  if okP w5.2.2.1 = true then
  some ((w5.1 w5.2.2.1 6), w5)
  else none
  else none
  else
  f_X9_forth_24 N w
  else none
  else none
set_option maxRecDepth 20000 in
theorem c_X9_forth {E : Ev} (hL : LX E) (w : Wd) : Ct E m_X9_forth yX9_forth rI [.ref (Ea E 0)] w (f_X9_forth (En E) w) := by
  refine Ct.of (by decide) ⟨rfl, rfl⟩ (Nat.le_of_ble_eq_true rfl) ?_
  show Sim E m_X9_forth rI 0 [(0, .ref (Ea E 0))] [] w (f_X9_forth (En E) w)
  unfold f_X9_forth
  refine sim_aload_n 0 dX9_forth_0 rfl rfl ?_
  refine sim_get (k := 0) (ci := 7) (j := 10) (v := .int (w.1 0 10)) (hL.1 0 rfl) rfl (by decide) fl_X9_86 rfl dX9_forth_1 rfl ?_
  refine sim_if_eq 24 dX9_forth_4 rfl rfl (fun _ => ?_) (fun _ => ?_)
  · exact sim_sub [] rfl (sf_X9_forth_24 hL w)
  · refine sim_aload_n 0 dX9_forth_7 rfl rfl ?_
    refine sim_get (k := 0) (ci := 7) (j := 8) (v := .ref (Ea E (w.2.2.1))) (hL.1 0 rfl) rfl (by decide) fl_X9_72 rfl dX9_forth_8 rfl ?_
    refine sim_guard (fun hp1 => ?_)
    refine sim_get (k := w.2.2.1) (ci := 2) (j := 6) (v := .int (w.1 w.2.2.1 6)) (okP_in hp1 hL).1 (okP_kd hp1).1 (by decide) fl_X9_180 (by rw [fvs_P (okP_kd hp1).1]; rfl) dX9_forth_11 rfl ?_
    refine sim_aload_n 0 dX9_forth_14 rfl rfl ?_
    refine sim_get (k := 0) (ci := 7) (j := 8) (v := .ref (Ea E (w.2.2.1))) (hL.1 0 rfl) rfl (by decide) fl_X9_72 rfl dX9_forth_15 rfl ?_
    refine sim_guard (fun hp2 => ?_)
    refine sim_get (k := w.2.2.1) (ci := 2) (j := 7) (v := .int (w.1 w.2.2.1 7)) (okP_in hp2 hL).1 (okP_kd hp2).1 (by decide) fl_X9_246 (by rw [fvs_P (okP_kd hp2).1]; rfl) dX9_forth_18 rfl ?_
    refine sim_icmp_lt 27 dX9_forth_21 rfl rfl (fun _ => ?_) (fun _ => ?_)
    · refine sim_aload_n 0 dX9_forth_27 rfl rfl ?_
      refine sim_get (k := 0) (ci := 7) (j := 8) (v := .ref (Ea E (w.2.2.1))) (hL.1 0 rfl) rfl (by decide) fl_X9_72 rfl dX9_forth_28 rfl ?_
      refine sim_guard (fun hp4 => ?_)
      refine sim_cVv (k := w.2.2.1) (ci := 2) [] [] (c_X4_repeat hL hp4 w) (okP_in hp4 hL).1 (okP_kd hp4).1 (by decide) rfl cb_X9_249 im_X4_repeat se_X4_repeat rfl rfl rfl (Nat.le_of_ble_eq_true rfl) dX9_forth_31 rfl (fun _ w3 => ?_)
      refine sim_aload_n 0 dX9_forth_34 rfl rfl ?_
      refine sim_cVv (k := 0) (ci := 7) [] [] (c_X9_lookAround hL w3) (hL.1 0 rfl) rfl (by decide) rfl cb_X9_174 im_X9_lookAround se_X9_lookAround rfl rfl rfl (Nat.le_of_ble_eq_true rfl) dX9_forth_35 rfl (fun _ w5 => ?_)
      refine sim_aload_n 0 dX9_forth_38 rfl rfl ?_
      refine sim_get (k := 0) (ci := 7) (j := 8) (v := .ref (Ea E (w5.2.2.1))) (hL.1 0 rfl) rfl (by decide) fl_X9_72 rfl dX9_forth_39 rfl ?_
      refine sim_guard (fun hp6 => ?_)
      refine sim_get (k := w5.2.2.1) (ci := 2) (j := 6) (v := .int (w5.1 w5.2.2.1 6)) (okP_in hp6 hL).1 (okP_kd hp6).1 (by decide) fl_X9_180 (by rw [fvs_P (okP_kd hp6).1]; rfl) dX9_forth_42 rfl ?_
      exact sim_iret rfl dX9_forth_45
    · exact sim_sub [] rfl (sf_X9_forth_24 hL w)
def f_X9_ofPlay (N : Nat) (v1 : Int32) (w : Wd) : Option (Int32 × Wd) :=
  if v1 = (0 : Int32) then
  some ((w.1 22 7), w)
  else
  if v1 = (1 : Int32) then
  bd (f_X9_stateOfPlay N w) fun x1 w2 =>
  some (x1, w2)
  else
  if v1 = (2 : Int32) then
  if okP w.2.2.1 = true then
  some ((w.1 w.2.2.1 6), w)
  else none
  else
  if v1 = (3 : Int32) then
  if okP w.2.2.1 = true then
  if okP w.2.2.1 = true then
  some (((w.1 w.2.2.1 7) - (w.1 w.2.2.1 6)), w)
  else none
  else none
  else
  if v1 = (4 : Int32) then
  if okP w.2.2.1 = true then
  some ((w.1 w.2.2.1 8), w)
  else none
  else
  if okP w.2.2.1 = true then
  bd (f_X4_latestGaveCheck N w.2.2.1 w) fun x7 w8 =>
  bd (f_X9_asNumber N x7 w8) fun x10 w11 =>
  some (x10, w11)
  else none
set_option maxRecDepth 20000 in
theorem c_X9_ofPlay {E : Ev} (hL : LX E) (v1 : Int32) (w : Wd) : Ct E m_X9_ofPlay yX9_ofPlay rI [.ref (Ea E 0), .int v1] w (f_X9_ofPlay (En E) v1 w) := by
  refine Ct.of (by decide) ⟨rfl, rfl⟩ (Nat.le_of_ble_eq_true rfl) ?_
  show Sim E m_X9_ofPlay rI 0 [(0, .ref (Ea E 0)), (1, .int v1)] [] w (f_X9_ofPlay (En E) v1 w)
  unfold f_X9_ofPlay
  refine sim_iload_n 1 dX9_ofPlay_0 rfl rfl ?_
  refine sim_tab5 36 44 49 57 73 81 dX9_ofPlay_1 rfl rfl rfl rfl rfl rfl ?_ ?_ ?_ ?_ ?_ ?_
  · refine sim_aload_n 0 dX9_ofPlay_36 rfl rfl ?_
    refine sim_get (k := 0) (ci := 7) (j := 4) (v := .ref (Ea E 22)) (hL.1 0 rfl) rfl (by decide) fl_X9_38 rfl dX9_ofPlay_37 rfl ?_
    refine sim_get (k := 22) (ci := 4) (j := 7) (v := .int (w.1 22 7)) (hL.1 22 rfl) rfl (by decide) fl_X9_165 rfl dX9_ofPlay_40 rfl ?_
    exact sim_iret rfl dX9_ofPlay_43
  · refine sim_aload_n 0 dX9_ofPlay_44 rfl rfl ?_
    refine sim_cVi (k := 0) (ci := 7) [] [] (c_X9_stateOfPlay hL w) (hL.1 0 rfl) rfl (by decide) rfl cb_X9_236 im_X9_stateOfPlay se_X9_stateOfPlay rfl rfl rfl (Nat.le_of_ble_eq_true rfl) dX9_ofPlay_45 rfl (fun x1 w2 => ?_)
    exact sim_iret rfl dX9_ofPlay_48
  · refine sim_aload_n 0 dX9_ofPlay_49 rfl rfl ?_
    refine sim_get (k := 0) (ci := 7) (j := 8) (v := .ref (Ea E (w.2.2.1))) (hL.1 0 rfl) rfl (by decide) fl_X9_72 rfl dX9_ofPlay_50 rfl ?_
    refine sim_guard (fun hp3 => ?_)
    refine sim_get (k := w.2.2.1) (ci := 2) (j := 6) (v := .int (w.1 w.2.2.1 6)) (okP_in hp3 hL).1 (okP_kd hp3).1 (by decide) fl_X9_180 (by rw [fvs_P (okP_kd hp3).1]; rfl) dX9_ofPlay_53 rfl ?_
    exact sim_iret rfl dX9_ofPlay_56
  · refine sim_aload_n 0 dX9_ofPlay_57 rfl rfl ?_
    refine sim_get (k := 0) (ci := 7) (j := 8) (v := .ref (Ea E (w.2.2.1))) (hL.1 0 rfl) rfl (by decide) fl_X9_72 rfl dX9_ofPlay_58 rfl ?_
    refine sim_guard (fun hp4 => ?_)
    refine sim_get (k := w.2.2.1) (ci := 2) (j := 7) (v := .int (w.1 w.2.2.1 7)) (okP_in hp4 hL).1 (okP_kd hp4).1 (by decide) fl_X9_246 (by rw [fvs_P (okP_kd hp4).1]; rfl) dX9_ofPlay_61 rfl ?_
    refine sim_aload_n 0 dX9_ofPlay_64 rfl rfl ?_
    refine sim_get (k := 0) (ci := 7) (j := 8) (v := .ref (Ea E (w.2.2.1))) (hL.1 0 rfl) rfl (by decide) fl_X9_72 rfl dX9_ofPlay_65 rfl ?_
    refine sim_guard (fun hp5 => ?_)
    refine sim_get (k := w.2.2.1) (ci := 2) (j := 6) (v := .int (w.1 w.2.2.1 6)) (okP_in hp5 hL).1 (okP_kd hp5).1 (by decide) fl_X9_180 (by rw [fvs_P (okP_kd hp5).1]; rfl) dX9_ofPlay_68 rfl ?_
    refine sim_isub dX9_ofPlay_71 rfl ?_
    exact sim_iret rfl dX9_ofPlay_72
  · refine sim_aload_n 0 dX9_ofPlay_73 rfl rfl ?_
    refine sim_get (k := 0) (ci := 7) (j := 8) (v := .ref (Ea E (w.2.2.1))) (hL.1 0 rfl) rfl (by decide) fl_X9_72 rfl dX9_ofPlay_74 rfl ?_
    refine sim_guard (fun hp6 => ?_)
    refine sim_get (k := w.2.2.1) (ci := 2) (j := 8) (v := .int (w.1 w.2.2.1 8)) (okP_in hp6 hL).1 (okP_kd hp6).1 (by decide) fl_X9_319 (by rw [fvs_P (okP_kd hp6).1]; rfl) dX9_ofPlay_77 rfl ?_
    exact sim_iret rfl dX9_ofPlay_80
  · refine sim_aload_n 0 dX9_ofPlay_81 rfl rfl ?_
    refine sim_get (k := 0) (ci := 7) (j := 8) (v := .ref (Ea E (w.2.2.1))) (hL.1 0 rfl) rfl (by decide) fl_X9_72 rfl dX9_ofPlay_82 rfl ?_
    refine sim_guard (fun hp9 => ?_)
    refine sim_cVi (k := w.2.2.1) (ci := 2) [] [] (c_X4_latestGaveCheck hL hp9 w) (okP_in hp9 hL).1 (okP_kd hp9).1 (by decide) rfl cb_X9_322 im_X4_latestGaveCheck se_X4_latestGaveCheck rfl rfl rfl (Nat.le_of_ble_eq_true rfl) dX9_ofPlay_85 rfl (fun x7 w8 => ?_)
    refine sim_cSi [.int x7] [] (c_X9_asNumber hL x7 w8) cb_X9_196 sx_X9_asNumber rfl rfl rfl (Nat.le_of_ble_eq_true rfl) dX9_ofPlay_88 rfl (fun x10 w11 => ?_)
    exact sim_iret rfl dX9_ofPlay_91
