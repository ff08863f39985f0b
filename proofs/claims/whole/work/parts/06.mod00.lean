def f_X10_in_18 (s0 : Int32) (w : Wd) : Option (Int32 × Wd) :=
  if zb s0 = true then some (s0, w) else none
set_option maxRecDepth 20000 in
theorem sf_X10_in_18 {E : Ev} (hL : LM E) (s0 : Int32) (w : Wd) : Sim E m_X10_in rI 18 [] [.int s0] w (f_X10_in_18 s0 w) := by
  unfold f_X10_in_18
  exact sim_zret rfl dX10_in_18
def f_X10_in_17 (w : Wd) : Option (Int32 × Wd) :=
  f_X10_in_18 (0 : Int32) w
set_option maxRecDepth 20000 in
theorem sf_X10_in_17 {E : Ev} (hL : LM E) (w : Wd) : Sim E m_X10_in rI 17 [] [] w (f_X10_in_17 w) := by
  unfold f_X10_in_17
  refine sim_iconst (0 : Int32) dX10_in_17 rfl rfl ?_
  exact sim_sub [] rfl (sf_X10_in_18 hL (0 : Int32) w)
def f_X10_in (v0 : Int64) (v2 : Int64) (v4 : Int64) (w : Wd) : Option (Int32 × Wd) :=
  if (lg_cmp v0 v2) < (0 : Int32) then
  f_X10_in_17 w
  else
  if (0 : Int32) < (lg_cmp v0 v4) then
  f_X10_in_17 w
  else
  f_X10_in_18 (1 : Int32) w
set_option maxRecDepth 20000 in
theorem c_X10_in {E : Ev} (hL : LM E) (v0 : Int64) (v2 : Int64) (v4 : Int64) (w : Wd) : Ct E m_X10_in yX10_in rI [.long v0, .long v2, .long v4] w (f_X10_in v0 v2 v4 w) := by
  refine Ct.of (by decide) ⟨rfl, rfl⟩ (Nat.le_of_ble_eq_true rfl) ?_
  show Sim E m_X10_in rI 0 [(0, .long v0), (2, .long v2), (4, .long v4)] [] w (f_X10_in v0 v2 v4 w)
  unfold f_X10_in
  refine sim_lload_n 0 dX10_in_0 rfl rfl ?_
  refine sim_lload_n 1 dX10_in_1 rfl rfl ?_
  refine sim_lcmp dX10_in_2 rfl ?_
  refine sim_if_lt 17 dX10_in_3 rfl rfl (fun _ => ?_) (fun _ => ?_)
  · exact sim_sub [] rfl (sf_X10_in_17 hL w)
  · refine sim_lload_n 0 dX10_in_6 rfl rfl ?_
    refine sim_lload 2 dX10_in_7 rfl rfl ?_
    refine sim_lcmp dX10_in_9 rfl ?_
    refine sim_if_gt 17 dX10_in_10 rfl rfl (fun _ => ?_) (fun _ => ?_)
    · exact sim_sub [] rfl (sf_X10_in_17 hL w)
    · refine sim_iconst (1 : Int32) dX10_in_13 rfl rfl ?_
      refine sim_goto (q := 18) dX10_in_14 rfl ?_
      exact sim_sub [] rfl (sf_X10_in_18 hL (1 : Int32) w)
def f_X10_met (v1 : Int32) (w : Wd) : Option (Int32 × Wd) :=
  lw (wdI w 50 1 v1) fun w1 =>
  some (((-10 : Int32) - v1), w1)
set_option maxRecDepth 20000 in
theorem c_X10_met {E : Ev} (hL : LM E) (v1 : Int32) (w : Wd) : Ct E m_X10_met yX10_met rI [.ref (Ea E 50), .int v1] w (f_X10_met v1 w) := by
  refine Ct.of (by decide) ⟨rfl, rfl⟩ (Nat.le_of_ble_eq_true rfl) ?_
  show Sim E m_X10_met rI 0 [(0, .ref (Ea E 50)), (1, .int v1)] [] w (f_X10_met v1 w)
  unfold f_X10_met
  refine sim_aload_n 0 dX10_met_0 rfl rfl ?_
  refine sim_iload_n 1 dX10_met_1 rfl rfl ?_
  refine sim_put (k := 50) (ci := 8) (j := 1) (hL 50 rfl) rfl (by decide) fp_X10_150 rfl rfl (st_50_1 _ _ _) (Nat.le_of_ble_eq_true rfl) dX10_met_2 rfl ?_
  refine sim_lw (fun w1 => ?_)
  refine sim_bipush (-10 : Int32) dX10_met_5 rfl rfl ?_
  refine sim_iload_n 1 dX10_met_7 rfl rfl ?_
  refine sim_isub dX10_met_8 rfl ?_
  exact sim_iret rfl dX10_met_9
def f_X10_finding (w : Wd) : Option (Int32 × Wd) :=
  some ((w.1 50 1), w)
set_option maxRecDepth 20000 in
theorem c_X10_finding {E : Ev} (hL : LM E) (w : Wd) : Ct E m_X10_finding yX10_finding rI [.ref (Ea E 50)] w (f_X10_finding w) := by
  refine Ct.of (by decide) ⟨rfl, rfl⟩ (Nat.le_of_ble_eq_true rfl) ?_
  show Sim E m_X10_finding rI 0 [(0, .ref (Ea E 50))] [] w (f_X10_finding w)
  unfold f_X10_finding
  refine sim_aload_n 0 dX10_finding_0 rfl rfl ?_
  refine sim_get (k := 50) (ci := 8) (j := 1) (v := .int (w.1 50 1)) (hL 50 rfl) rfl (by decide) fl_X10_150 rfl dX10_finding_1 rfl ?_
  exact sim_iret rfl dX10_finding_4
def f_X10_tell (v1 : Int32) (v2 : Int32) (v3 : Int32) (v4 : Int32) (v5 : Int32) (v6 : Int32) (w : Wd) : Option (Unit × Wd) :=
  if inb v1 16 = true then
  lw (wdI w 53 (Int32.toNatClampNeg v1) v2) fun w1 =>
  if inb v1 16 = true then
  lw (wdI w1 54 (Int32.toNatClampNeg v1) v3) fun w2 =>
  if inb ((8 : Int32) + v1) 16 = true then
  lw (wdI w2 53 (Int32.toNatClampNeg ((8 : Int32) + v1)) v4) fun w3 =>
  if inb ((8 : Int32) + v1) 16 = true then
  lw (wdI w3 54 (Int32.toNatClampNeg ((8 : Int32) + v1)) v5) fun w4 =>
  if inb v1 8 = true then
  lw (wdI w4 55 (Int32.toNatClampNeg v1) v6) fun w5 =>
  some ((), w5)
  else none
  else none
  else none
  else none
  else none
set_option maxRecDepth 20000 in
theorem c_X10_tell {E : Ev} (hL : LM E) (v1 : Int32) (v2 : Int32) (v3 : Int32) (v4 : Int32) (v5 : Int32) (v6 : Int32) (w : Wd) : Ct E m_X10_tell yX10_tell rV [.ref (Ea E 50), .int v1, .int v2, .int v3, .int v4, .int v5, .int v6] w (f_X10_tell v1 v2 v3 v4 v5 v6 w) := by
  refine Ct.of (by decide) ⟨rfl, rfl⟩ (Nat.le_of_ble_eq_true rfl) ?_
  show Sim E m_X10_tell rV 0 [(0, .ref (Ea E 50)), (1, .int v1), (2, .int v2), (3, .int v3), (4, .int v4), (5, .int v5), (6, .int v6)] [] w (f_X10_tell v1 v2 v3 v4 v5 v6 w)
  unfold f_X10_tell
  refine sim_aload_n 0 dX10_tell_0 rfl rfl ?_
  refine sim_get (k := 50) (ci := 8) (j := 2) (v := .ref (Ea E 53)) (hL 50 rfl) rfl (by decide) fl_X10_7 rfl dX10_tell_1 rfl ?_
  refine sim_iload_n 1 dX10_tell_4 rfl rfl ?_
  refine sim_iload_n 2 dX10_tell_5 rfl rfl ?_
  refine sim_iastore (k := 53) (hL 53 rfl) rfl rfl dX10_tell_6 rfl ?_
  refine sim_lw (fun w1 => ?_)
  refine sim_aload_n 0 dX10_tell_7 rfl rfl ?_
  refine sim_get (k := 50) (ci := 8) (j := 3) (v := .ref (Ea E 54)) (hL 50 rfl) rfl (by decide) fl_X10_13 rfl dX10_tell_8 rfl ?_
  refine sim_iload_n 1 dX10_tell_11 rfl rfl ?_
  refine sim_iload_n 3 dX10_tell_12 rfl rfl ?_
  refine sim_iastore (k := 54) (hL 54 rfl) rfl rfl dX10_tell_13 rfl ?_
  refine sim_lw (fun w2 => ?_)
  refine sim_aload_n 0 dX10_tell_14 rfl rfl ?_
  refine sim_get (k := 50) (ci := 8) (j := 2) (v := .ref (Ea E 53)) (hL 50 rfl) rfl (by decide) fl_X10_7 rfl dX10_tell_15 rfl ?_
  refine sim_bipush (8 : Int32) dX10_tell_18 rfl rfl ?_
  refine sim_iload_n 1 dX10_tell_20 rfl rfl ?_
  refine sim_iadd dX10_tell_21 rfl ?_
  refine sim_iload 4 dX10_tell_22 rfl rfl ?_
  refine sim_iastore (k := 53) (hL 53 rfl) rfl rfl dX10_tell_24 rfl ?_
  refine sim_lw (fun w3 => ?_)
  refine sim_aload_n 0 dX10_tell_25 rfl rfl ?_
  refine sim_get (k := 50) (ci := 8) (j := 3) (v := .ref (Ea E 54)) (hL 50 rfl) rfl (by decide) fl_X10_13 rfl dX10_tell_26 rfl ?_
  refine sim_bipush (8 : Int32) dX10_tell_29 rfl rfl ?_
  refine sim_iload_n 1 dX10_tell_31 rfl rfl ?_
  refine sim_iadd dX10_tell_32 rfl ?_
  refine sim_iload 5 dX10_tell_33 rfl rfl ?_
  refine sim_iastore (k := 54) (hL 54 rfl) rfl rfl dX10_tell_35 rfl ?_
  refine sim_lw (fun w4 => ?_)
  refine sim_aload_n 0 dX10_tell_36 rfl rfl ?_
  refine sim_get (k := 50) (ci := 8) (j := 4) (v := .ref (Ea E 55)) (hL 50 rfl) rfl (by decide) fl_X10_16 rfl dX10_tell_37 rfl ?_
  refine sim_iload_n 1 dX10_tell_40 rfl rfl ?_
  refine sim_iload 6 dX10_tell_41 rfl rfl ?_
  refine sim_iastore (k := 55) (hL 55 rfl) rfl rfl dX10_tell_43 rfl ?_
  refine sim_lw (fun w5 => ?_)
  exact sim_vret rfl dX10_tell_44
def f_X10_kind_106 (w : Wd) : Option (Int32 × Wd) :=
  some ((-2 : Int32), w)
set_option maxRecDepth 20000 in
theorem sf_X10_kind_106 {E : Ev} (hL : LM E) (w : Wd) : Sim E m_X10_kind rI 106 [] [] w (f_X10_kind_106 w) := by
  unfold f_X10_kind_106
  refine sim_bipush (-2 : Int32) dX10_kind_106 rfl rfl ?_
  exact sim_iret rfl dX10_kind_108
def f_X10_kind_109 (v1 : Int32) (v2 : Int32) (v3 : Int32) (v4 : Int32) (v5 : Int32) (v6 : Int32) (w : Wd) : Option (Int32 × Wd) :=
  if (w.1 50 25) = (0 : Int32) then
  bd (f_X10_tell v1 v2 v3 v4 v5 v6 w) fun _ w3 =>
  some ((1 : Int32), w3)
  else
  some ((-3 : Int32), w)
set_option maxRecDepth 20000 in
theorem sf_X10_kind_109 {E : Ev} (hL : LM E) (v1 : Int32) (v2 : Int32) (v3 : Int32) (v4 : Int32) (v5 : Int32) (v6 : Int32) (w : Wd) : Sim E m_X10_kind rI 109 [(0, .ref (Ea E 50)), (1, .int v1), (2, .int v2), (3, .int v3), (4, .int v4), (5, .int v5), (6, .int v6)] [] w (f_X10_kind_109 v1 v2 v3 v4 v5 v6 w) := by
  unfold f_X10_kind_109
  refine sim_aload_n 0 dX10_kind_109 rfl rfl ?_
  refine sim_get (k := 50) (ci := 8) (j := 25) (v := .int (w.1 50 25)) (hL 50 rfl) rfl (by decide) fl_X10_159 rfl dX10_kind_110 rfl ?_
  refine sim_if_eq 119 dX10_kind_113 rfl rfl (fun _ => ?_) (fun _ => ?_)
  · refine sim_aload_n 0 dX10_kind_119 rfl rfl ?_
    refine sim_iload_n 1 dX10_kind_120 rfl rfl ?_
    refine sim_iload_n 2 dX10_kind_121 rfl rfl ?_
    refine sim_iload_n 3 dX10_kind_122 rfl rfl ?_
    refine sim_iload 4 dX10_kind_123 rfl rfl ?_
    refine sim_iload 5 dX10_kind_125 rfl rfl ?_
    refine sim_iload 6 dX10_kind_127 rfl rfl ?_
    refine sim_cVv (k := 50) (ci := 8) [.int v1, .int v2, .int v3, .int v4, .int v5, .int v6] [] (c_X10_tell hL v1 v2 v3 v4 v5 v6 w) (hL 50 rfl) rfl (by decide) rfl cb_X10_146 im_X10_tell se_X10_tell rfl rfl rfl (Nat.le_of_ble_eq_true rfl) dX10_kind_129 rfl (fun _ w3 => ?_)
    refine sim_iconst (1 : Int32) dX10_kind_132 rfl rfl ?_
    exact sim_iret rfl dX10_kind_133
  · refine sim_bipush (-3 : Int32) dX10_kind_116 rfl rfl ?_
    exact sim_iret rfl dX10_kind_118
def f_X10_kind_80 (v1 : Int32) (v2 : Int32) (v3 : Int32) (v4 : Int32) (v5 : Int32) (v6 : Int32) (s0 : Int32) (w : Wd) : Option (Int32 × Wd) :=
  if s0 = (0 : Int32) then
  f_X10_kind_106 w
  else
  if v1 = (0 : Int32) then
  if (0 : Int32) < v6 then
  f_X10_kind_106 w
  else
  if (0 : Int32) < v4 then
  f_X10_kind_106 w
  else
  if v5 ≤ (0 : Int32) then
  f_X10_kind_109 v1 v2 v3 v4 v5 v6 w
  else
  f_X10_kind_106 w
  else
  f_X10_kind_109 v1 v2 v3 v4 v5 v6 w
set_option maxRecDepth 20000 in
theorem sf_X10_kind_80 {E : Ev} (hL : LM E) (v1 : Int32) (v2 : Int32) (v3 : Int32) (v4 : Int32) (v5 : Int32) (v6 : Int32) (s0 : Int32) (w : Wd) : Sim E m_X10_kind rI 80 [(0, .ref (Ea E 50)), (1, .int v1), (2, .int v2), (3, .int v3), (4, .int v4), (5, .int v5), (6, .int v6)] [.int s0] w (f_X10_kind_80 v1 v2 v3 v4 v5 v6 s0 w) := by
  unfold f_X10_kind_80
  refine sim_istore [(7, .int s0), (0, .ref (Ea E 50)), (1, .int v1), (2, .int v2), (3, .int v3), (4, .int v4), (5, .int v5), (6, .int v6)] dX10_kind_80 (Nat.le_of_ble_eq_true rfl) rfl rfl ?_
  refine sim_iload 0 dX10_kind_82 rfl rfl ?_
  refine sim_if_eq 106 dX10_kind_84 rfl rfl (fun _ => ?_) (fun _ => ?_)
  · exact sim_sub [] rfl (sf_X10_kind_106 hL w)
  · refine sim_iload_n 2 dX10_kind_87 rfl rfl ?_
    refine sim_if_ne 109 dX10_kind_88 rfl rfl (fun _ => ?_) (fun _ => ?_)
    · exact sim_sub [1, 2, 3, 4, 5, 6, 7] rfl (sf_X10_kind_109 hL v1 v2 v3 v4 v5 v6 w)
    · refine sim_iload 7 dX10_kind_91 rfl rfl ?_
      refine sim_if_gt 106 dX10_kind_93 rfl rfl (fun _ => ?_) (fun _ => ?_)
      · exact sim_sub [] rfl (sf_X10_kind_106 hL w)
      · refine sim_iload 5 dX10_kind_96 rfl rfl ?_
        refine sim_if_gt 106 dX10_kind_98 rfl rfl (fun _ => ?_) (fun _ => ?_)
        · exact sim_sub [] rfl (sf_X10_kind_106 hL w)
        · refine sim_iload 6 dX10_kind_101 rfl rfl ?_
          refine sim_if_le 109 dX10_kind_103 rfl rfl (fun _ => ?_) (fun _ => ?_)
          · exact sim_sub [1, 2, 3, 4, 5, 6, 7] rfl (sf_X10_kind_109 hL v1 v2 v3 v4 v5 v6 w)
          · exact sim_sub [] rfl (sf_X10_kind_106 hL w)
def f_X10_kind_79 (v1 : Int32) (v2 : Int32) (v3 : Int32) (v4 : Int32) (v5 : Int32) (v6 : Int32) (w : Wd) : Option (Int32 × Wd) :=
  f_X10_kind_80 v1 v2 v3 v4 v5 v6 (0 : Int32) w
set_option maxRecDepth 20000 in
theorem sf_X10_kind_79 {E : Ev} (hL : LM E) (v1 : Int32) (v2 : Int32) (v3 : Int32) (v4 : Int32) (v5 : Int32) (v6 : Int32) (w : Wd) : Sim E m_X10_kind rI 79 [(0, .ref (Ea E 50)), (1, .int v1), (2, .int v2), (3, .int v3), (4, .int v4), (5, .int v5), (6, .int v6)] [] w (f_X10_kind_79 v1 v2 v3 v4 v5 v6 w) := by
  unfold f_X10_kind_79
  refine sim_iconst (0 : Int32) dX10_kind_79 rfl rfl ?_
  exact sim_sub [0, 1, 2, 3, 4, 5, 6] rfl (sf_X10_kind_80 hL v1 v2 v3 v4 v5 v6 (0 : Int32) w)
def f_X10_kind (v1 : Int32) (v2 : Int32) (v3 : Int32) (v4 : Int32) (v5 : Int32) (v6 : Int32) (w : Wd) : Option (Int32 × Wd) :=
  bd (f_X10_in (Int32.toInt64 v1) (0 : Int64) (7 : Int64) w) fun x1 w2 =>
  if x1 = (0 : Int32) then
  f_X10_kind_79 v1 v2 v3 v4 v5 v6 w2
  else
  bd (f_X10_in (Int32.toInt64 v2) (0 : Int64) (1023 : Int64) w2) fun x4 w5 =>
  if x4 = (0 : Int32) then
  f_X10_kind_79 v1 v2 v3 v4 v5 v6 w5
  else
  bd (f_X10_in (Int32.toInt64 v3) (0 : Int64) (255 : Int64) w5) fun x6 w7 =>
  if x6 = (0 : Int32) then
  f_X10_kind_79 v1 v2 v3 v4 v5 v6 w7
  else
  bd (f_X10_in (Int32.toInt64 v4) (0 : Int64) (1023 : Int64) w7) fun x8 w9 =>
  if x8 = (0 : Int32) then
  f_X10_kind_79 v1 v2 v3 v4 v5 v6 w9
  else
  bd (f_X10_in (Int32.toInt64 v5) (0 : Int64) (255 : Int64) w9) fun x10 w11 =>
  if x10 = (0 : Int32) then
  f_X10_kind_79 v1 v2 v3 v4 v5 v6 w11
  else
  bd (f_X10_in (Int32.toInt64 v6) (0 : Int64) (3 : Int64) w11) fun x12 w13 =>
  if x12 = (0 : Int32) then
  f_X10_kind_79 v1 v2 v3 v4 v5 v6 w13
  else
  f_X10_kind_80 v1 v2 v3 v4 v5 v6 (1 : Int32) w13
set_option maxRecDepth 20000 in
theorem c_X10_kind {E : Ev} (hL : LM E) (v1 : Int32) (v2 : Int32) (v3 : Int32) (v4 : Int32) (v5 : Int32) (v6 : Int32) (w : Wd) : Ct E m_X10_kind yX10_kind rI [.ref (Ea E 50), .int v1, .int v2, .int v3, .int v4, .int v5, .int v6] w (f_X10_kind v1 v2 v3 v4 v5 v6 w) := by
  refine Ct.of (by decide) ⟨rfl, rfl⟩ (Nat.le_of_ble_eq_true rfl) ?_
  show Sim E m_X10_kind rI 0 [(0, .ref (Ea E 50)), (1, .int v1), (2, .int v2), (3, .int v3), (4, .int v4), (5, .int v5), (6, .int v6)] [] w (f_X10_kind v1 v2 v3 v4 v5 v6 w)
  unfold f_X10_kind
  refine sim_iload_n 1 dX10_kind_0 rfl rfl ?_
  refine sim_i2l dX10_kind_1 rfl ?_
  refine sim_lconst (0 : Int64) dX10_kind_2 rfl rfl ?_
  refine sim_ldc2 (7 : Int64) dX10_kind_3 k_X10_137 rfl ?_
  refine sim_cSi [.long (Int32.toInt64 v1), .long (0 : Int64), .long (7 : Int64)] [] (c_X10_in hL (Int32.toInt64 v1) (0 : Int64) (7 : Int64) w) cb_X10_139 sx_X10_in rfl rfl rfl (Nat.le_of_ble_eq_true rfl) dX10_kind_6 rfl (fun x1 w2 => ?_)
  refine sim_if_eq 79 dX10_kind_9 rfl rfl (fun _ => ?_) (fun _ => ?_)
  · exact sim_sub [0, 1, 2, 3, 4, 5, 6] rfl (sf_X10_kind_79 hL v1 v2 v3 v4 v5 v6 w2)
  · refine sim_iload_n 2 dX10_kind_12 rfl rfl ?_
    refine sim_i2l dX10_kind_13 rfl ?_
    refine sim_lconst (0 : Int64) dX10_kind_14 rfl rfl ?_
    refine sim_ldc2 (1023 : Int64) dX10_kind_15 k_X10_153 rfl ?_
    refine sim_cSi [.long (Int32.toInt64 v2), .long (0 : Int64), .long (1023 : Int64)] [] (c_X10_in hL (Int32.toInt64 v2) (0 : Int64) (1023 : Int64) w2) cb_X10_139 sx_X10_in rfl rfl rfl (Nat.le_of_ble_eq_true rfl) dX10_kind_18 rfl (fun x4 w5 => ?_)
    refine sim_if_eq 79 dX10_kind_21 rfl rfl (fun _ => ?_) (fun _ => ?_)
    · exact sim_sub [0, 1, 2, 3, 4, 5, 6] rfl (sf_X10_kind_79 hL v1 v2 v3 v4 v5 v6 w5)
    · refine sim_iload_n 3 dX10_kind_24 rfl rfl ?_
      refine sim_i2l dX10_kind_25 rfl ?_
      refine sim_lconst (0 : Int64) dX10_kind_26 rfl rfl ?_
      refine sim_ldc2 (255 : Int64) dX10_kind_27 k_X10_155 rfl ?_
      refine sim_cSi [.long (Int32.toInt64 v3), .long (0 : Int64), .long (255 : Int64)] [] (c_X10_in hL (Int32.toInt64 v3) (0 : Int64) (255 : Int64) w5) cb_X10_139 sx_X10_in rfl rfl rfl (Nat.le_of_ble_eq_true rfl) dX10_kind_30 rfl (fun x6 w7 => ?_)
      refine sim_if_eq 79 dX10_kind_33 rfl rfl (fun _ => ?_) (fun _ => ?_)
      · exact sim_sub [0, 1, 2, 3, 4, 5, 6] rfl (sf_X10_kind_79 hL v1 v2 v3 v4 v5 v6 w7)
      · refine sim_iload 4 dX10_kind_36 rfl rfl ?_
        refine sim_i2l dX10_kind_38 rfl ?_
        refine sim_lconst (0 : Int64) dX10_kind_39 rfl rfl ?_
        refine sim_ldc2 (1023 : Int64) dX10_kind_40 k_X10_153 rfl ?_
        refine sim_cSi [.long (Int32.toInt64 v4), .long (0 : Int64), .long (1023 : Int64)] [] (c_X10_in hL (Int32.toInt64 v4) (0 : Int64) (1023 : Int64) w7) cb_X10_139 sx_X10_in rfl rfl rfl (Nat.le_of_ble_eq_true rfl) dX10_kind_43 rfl (fun x8 w9 => ?_)
        refine sim_if_eq 79 dX10_kind_46 rfl rfl (fun _ => ?_) (fun _ => ?_)
        · exact sim_sub [0, 1, 2, 3, 4, 5, 6] rfl (sf_X10_kind_79 hL v1 v2 v3 v4 v5 v6 w9)
        · refine sim_iload 5 dX10_kind_49 rfl rfl ?_
          refine sim_i2l dX10_kind_51 rfl ?_
          refine sim_lconst (0 : Int64) dX10_kind_52 rfl rfl ?_
          refine sim_ldc2 (255 : Int64) dX10_kind_53 k_X10_155 rfl ?_
          refine sim_cSi [.long (Int32.toInt64 v5), .long (0 : Int64), .long (255 : Int64)] [] (c_X10_in hL (Int32.toInt64 v5) (0 : Int64) (255 : Int64) w9) cb_X10_139 sx_X10_in rfl rfl rfl (Nat.le_of_ble_eq_true rfl) dX10_kind_56 rfl (fun x10 w11 => ?_)
          refine sim_if_eq 79 dX10_kind_59 rfl rfl (fun _ => ?_) (fun _ => ?_)
          · exact sim_sub [0, 1, 2, 3, 4, 5, 6] rfl (sf_X10_kind_79 hL v1 v2 v3 v4 v5 v6 w11)
          · refine sim_iload 6 dX10_kind_62 rfl rfl ?_
            refine sim_i2l dX10_kind_64 rfl ?_
            refine sim_lconst (0 : Int64) dX10_kind_65 rfl rfl ?_
            refine sim_ldc2 (3 : Int64) dX10_kind_66 k_X10_157 rfl ?_
            refine sim_cSi [.long (Int32.toInt64 v6), .long (0 : Int64), .long (3 : Int64)] [] (c_X10_in hL (Int32.toInt64 v6) (0 : Int64) (3 : Int64) w11) cb_X10_139 sx_X10_in rfl rfl rfl (Nat.le_of_ble_eq_true rfl) dX10_kind_69 rfl (fun x12 w13 => ?_)
            refine sim_if_eq 79 dX10_kind_72 rfl rfl (fun _ => ?_) (fun _ => ?_)
            · exact sim_sub [0, 1, 2, 3, 4, 5, 6] rfl (sf_X10_kind_79 hL v1 v2 v3 v4 v5 v6 w13)
            · refine sim_iconst (1 : Int32) dX10_kind_75 rfl rfl ?_
              refine sim_goto (q := 80) dX10_kind_76 rfl ?_
              exact sim_sub [0, 1, 2, 3, 4, 5, 6] rfl (sf_X10_kind_80 hL v1 v2 v3 v4 v5 v6 (1 : Int32) w13)
def f_X10_mayRaise_29 (s0 : Int32) (w : Wd) : Option (Int32 × Wd) :=
  if zb s0 = true then some (s0, w) else none
set_option maxRecDepth 20000 in
theorem sf_X10_mayRaise_29 {E : Ev} (hL : LM E) (s0 : Int32) (w : Wd) : Sim E m_X10_mayRaise rI 29 [] [.int s0] w (f_X10_mayRaise_29 s0 w) := by
  unfold f_X10_mayRaise_29
  exact sim_zret rfl dX10_mayRaise_29
def f_X10_mayRaise_24 (w : Wd) : Option (Int32 × Wd) :=
  f_X10_mayRaise_29 (1 : Int32) w
set_option maxRecDepth 20000 in
theorem sf_X10_mayRaise_24 {E : Ev} (hL : LM E) (w : Wd) : Sim E m_X10_mayRaise rI 24 [] [] w (f_X10_mayRaise_24 w) := by
  unfold f_X10_mayRaise_24
  refine sim_iconst (1 : Int32) dX10_mayRaise_24 rfl rfl ?_
  refine sim_goto (q := 29) dX10_mayRaise_25 rfl ?_
  exact sim_sub [] rfl (sf_X10_mayRaise_29 hL (1 : Int32) w)
def f_X10_mayRaise (v1 : Int32) (w : Wd) : Option (Int32 × Wd) :=
  if inb ((8 : Int32) + v1) 16 = true then
  if (w.1 53 (Int32.toNatClampNeg ((8 : Int32) + v1))) = (0 : Int32) then
  if inb ((8 : Int32) + v1) 16 = true then
  if (w.1 54 (Int32.toNatClampNeg ((8 : Int32) + v1))) = (0 : Int32) then
  f_X10_mayRaise_29 (0 : Int32) w
  else
  f_X10_mayRaise_24 w
  else none
  else
  f_X10_mayRaise_24 w
  else none
set_option maxRecDepth 20000 in
theorem c_X10_mayRaise {E : Ev} (hL : LM E) (v1 : Int32) (w : Wd) : Ct E m_X10_mayRaise yX10_mayRaise rI [.ref (Ea E 50), .int v1] w (f_X10_mayRaise v1 w) := by
  refine Ct.of (by decide) ⟨rfl, rfl⟩ (Nat.le_of_ble_eq_true rfl) ?_
  show Sim E m_X10_mayRaise rI 0 [(0, .ref (Ea E 50)), (1, .int v1)] [] w (f_X10_mayRaise v1 w)
  unfold f_X10_mayRaise
  refine sim_aload_n 0 dX10_mayRaise_0 rfl rfl ?_
  refine sim_get (k := 50) (ci := 8) (j := 2) (v := .ref (Ea E 53)) (hL 50 rfl) rfl (by decide) fl_X10_7 rfl dX10_mayRaise_1 rfl ?_
  refine sim_bipush (8 : Int32) dX10_mayRaise_4 rfl rfl ?_
  refine sim_iload_n 1 dX10_mayRaise_6 rfl rfl ?_
  refine sim_iadd dX10_mayRaise_7 rfl ?_
  refine sim_iaload (k := 53) (hL 53 rfl) rfl rfl dX10_mayRaise_8 rfl ?_
  refine sim_if_ne 24 dX10_mayRaise_9 rfl rfl (fun _ => ?_) (fun _ => ?_)
  · exact sim_sub [] rfl (sf_X10_mayRaise_24 hL w)
  · refine sim_aload_n 0 dX10_mayRaise_12 rfl rfl ?_
    refine sim_get (k := 50) (ci := 8) (j := 3) (v := .ref (Ea E 54)) (hL 50 rfl) rfl (by decide) fl_X10_13 rfl dX10_mayRaise_13 rfl ?_
    refine sim_bipush (8 : Int32) dX10_mayRaise_16 rfl rfl ?_
    refine sim_iload_n 1 dX10_mayRaise_18 rfl rfl ?_
    refine sim_iadd dX10_mayRaise_19 rfl ?_
    refine sim_iaload (k := 54) (hL 54 rfl) rfl rfl dX10_mayRaise_20 rfl ?_
    refine sim_if_eq 28 dX10_mayRaise_21 rfl rfl (fun _ => ?_) (fun _ => ?_)
    · refine sim_iconst (0 : Int32) dX10_mayRaise_28 rfl rfl ?_
      exact sim_sub [] rfl (sf_X10_mayRaise_29 hL (0 : Int32) w)
    · exact sim_sub [] rfl (sf_X10_mayRaise_24 hL w)
def f_X10_isLine (v1 : Int32) (w : Wd) : Option (Int32 × Wd) :=
  bd (f_X10_in (Int32.toInt64 v1) (0 : Int64) (Int32.toInt64 ((w.1 50 0) - (1 : Int32))) w) fun x1 w2 =>
  if zb x1 = true then some (x1, w2) else none
set_option maxRecDepth 20000 in
theorem c_X10_isLine {E : Ev} (hL : LM E) (v1 : Int32) (w : Wd) : Ct E m_X10_isLine yX10_isLine rI [.ref (Ea E 50), .int v1] w (f_X10_isLine v1 w) := by
  refine Ct.of (by decide) ⟨rfl, rfl⟩ (Nat.le_of_ble_eq_true rfl) ?_
  show Sim E m_X10_isLine rI 0 [(0, .ref (Ea E 50)), (1, .int v1)] [] w (f_X10_isLine v1 w)
  unfold f_X10_isLine
  refine sim_iload_n 1 dX10_isLine_0 rfl rfl ?_
  refine sim_i2l dX10_isLine_1 rfl ?_
  refine sim_lconst (0 : Int64) dX10_isLine_2 rfl rfl ?_
  refine sim_aload_n 0 dX10_isLine_3 rfl rfl ?_
  refine sim_get (k := 50) (ci := 8) (j := 0) (v := .int (w.1 50 0)) (hL 50 rfl) rfl (by decide) fl_X10_143 rfl dX10_isLine_4 rfl ?_
  refine sim_iconst (1 : Int32) dX10_isLine_7 rfl rfl ?_
  refine sim_isub dX10_isLine_8 rfl ?_
  refine sim_i2l dX10_isLine_9 rfl ?_
  refine sim_cSi [.long (Int32.toInt64 v1), .long (0 : Int64), .long (Int32.toInt64 ((w.1 50 0) - (1 : Int32)))] [] (c_X10_in hL (Int32.toInt64 v1) (0 : Int64) (Int32.toInt64 ((w.1 50 0) - (1 : Int32))) w) cb_X10_139 sx_X10_in rfl rfl rfl (Nat.le_of_ble_eq_true rfl) dX10_isLine_10 rfl (fun x1 w2 => ?_)
  exact sim_zret rfl dX10_isLine_13
def f_X10_line_26 (w : Wd) : Option (Int32 × Wd) :=
  some ((-2 : Int32), w)
set_option maxRecDepth 20000 in
theorem sf_X10_line_26 {E : Ev} (hL : LM E) (w : Wd) : Sim E m_X10_line rI 26 [] [] w (f_X10_line_26 w) := by
  unfold f_X10_line_26
  refine sim_bipush (-2 : Int32) dX10_line_26 rfl rfl ?_
  exact sim_iret rfl dX10_line_28
def b_X10_line_56 (R : Int32 → Int32 → Int32 → Wd → Option (Int32 × Wd)) (K81 : Int32 → Wd → Option (Int32 × Wd)) (v1 : Int32) (v3 : Int32) (v4 : Int32) (w : Wd) : Option (Int32 × Wd) :=
  if v3 ≤ v4 then
  K81 v3 w
  else
  if inb (((12 : Int32) * v1) + v4) 84 = true then
  lw (wdI w 58 (Int32.toNatClampNeg (((12 : Int32) * v1) + v4)) (0 : Int32)) fun w7 =>
  R v1 v3 (v4 + (1 : Int32)) w7
  else none
set_option maxRecDepth 20000 in
theorem sb_X10_line_56 {E : Ev} (hL : LM E) {R : Int32 → Int32 → Int32 → Wd → Option (Int32 × Wd)} (hR : ∀ (v1 : Int32) (v3 : Int32) (v4 : Int32) (w : Wd), Sim E m_X10_line rI 56 [(0, .ref (Ea E 50)), (1, .int v1), (3, .int v3), (4, .int v4)] [] w (R v1 v3 v4 w)) {K81 : Int32 → Wd → Option (Int32 × Wd)} (hK81 : ∀ (v3 : Int32) (w : Wd), Sim E m_X10_line rI 81 [(3, .int v3)] [] w (K81 v3 w)) (v1 : Int32) (v3 : Int32) (v4 : Int32) (w : Wd) : Sim E m_X10_line rI 56 [(0, .ref (Ea E 50)), (1, .int v1), (3, .int v3), (4, .int v4)] [] w (b_X10_line_56 R K81 v1 v3 v4 w) := by
  unfold b_X10_line_56
  refine sim_iload 3 dX10_line_56 rfl rfl ?_
  refine sim_iload_n 2 dX10_line_58 rfl rfl ?_
  refine sim_icmp_ge 81 dX10_line_59 rfl rfl (fun _ => ?_) (fun _ => ?_)
  · exact sim_sub [2] rfl (hK81 v3 w)
  · refine sim_aload_n 0 dX10_line_62 rfl rfl ?_
    refine sim_get (k := 50) (ci := 8) (j := 7) (v := .ref (Ea E 58)) (hL 50 rfl) rfl (by decide) fl_X10_25 rfl dX10_line_63 rfl ?_
    refine sim_bipush (12 : Int32) dX10_line_66 rfl rfl ?_
    refine sim_iload_n 1 dX10_line_68 rfl rfl ?_
    refine sim_imul dX10_line_69 rfl ?_
    refine sim_iload 3 dX10_line_70 rfl rfl ?_
    refine sim_iadd dX10_line_72 rfl ?_
    refine sim_iconst (0 : Int32) dX10_line_73 rfl rfl ?_
    refine sim_iastore (k := 58) (hL 58 rfl) rfl rfl dX10_line_74 rfl ?_
    refine sim_lw (fun w7 => ?_)
    refine sim_iinc (v4 + (1 : Int32)) 3 [(4, .int (v4 + (1 : Int32))), (0, .ref (Ea E 50)), (1, .int v1), (3, .int v3)] dX10_line_75 rfl rfl (Nat.le_of_ble_eq_true rfl) rfl rfl ?_
    refine sim_goto (q := 56) dX10_line_78 rfl ?_
    exact sim_sub [1, 2, 3, 0] rfl (hR v1 v3 (v4 + (1 : Int32)) w7)
def l_X10_line_56 (K81 : Int32 → Wd → Option (Int32 × Wd)) (n : Nat) : Int32 → Int32 → Int32 → Wd → Option (Int32 × Wd) := itr (fun _ _ _ _ => none) (fun R => b_X10_line_56 R K81) n
set_option maxRecDepth 20000 in
theorem sl_X10_line_56 {E : Ev} (hL : LM E) {K81 : Int32 → Wd → Option (Int32 × Wd)} (hK81 : ∀ (v3 : Int32) (w : Wd), Sim E m_X10_line rI 81 [(3, .int v3)] [] w (K81 v3 w)) : ∀ (n : Nat) (v1 : Int32) (v3 : Int32) (v4 : Int32) (w : Wd), Sim E m_X10_line rI 56 [(0, .ref (Ea E 50)), (1, .int v1), (3, .int v3), (4, .int v4)] [] w (l_X10_line_56 K81 n v1 v3 v4 w) := by
  intro n
  induction n with
  | zero => intros; exact sim_none
  | succ n ih => intros; exact sb_X10_line_56 hL (R := l_X10_line_56 K81 n) ih hK81 _ _ _ _
def f_X10_line_81 (v3 : Int32) (w : Wd) : Option (Int32 × Wd) :=
  some (v3, w)
set_option maxRecDepth 20000 in
theorem sf_X10_line_81 {E : Ev} (hL : LM E) (v3 : Int32) (w : Wd) : Sim E m_X10_line rI 81 [(3, .int v3)] [] w (f_X10_line_81 v3 w) := by
  unfold f_X10_line_81
  refine sim_iload_n 0 dX10_line_81 rfl rfl ?_
  exact sim_iret rfl dX10_line_82
def f_X10_line (v1 : Int32) (v2 : Int32) (v3 : Int32) (w : Wd) : Option (Int32 × Wd) :=
  bd (f_X10_isLine v1 w) fun x1 w2 =>
  if x1 = (0 : Int32) then
  f_X10_line_26 w2
  else
  bd (f_X10_in (Int32.toInt64 v2) (0 : Int64) (2 : Int64) w2) fun x3 w4 =>
  if x3 = (0 : Int32) then
  f_X10_line_26 w4
  else
  if v3 ≤ (12 : Int32) then
  if (0 : Int32) ≤ v3 then
  if inb v1 7 = true then
  lw (wdI w4 56 (Int32.toNatClampNeg v1) v2) fun w5 =>
  if inb v1 7 = true then
  lw (wdI w5 57 (Int32.toNatClampNeg v1) v3) fun w6 =>
  l_X10_line_56 f_X10_line_81 FU v1 v3 (0 : Int32) w6
  else none
  else none
  else
  bd (f_X10_met (5 : Int32) w4) fun x8 w9 =>
  some (x8, w9)
  else
  f_X10_line_26 w4
set_option maxRecDepth 20000 in
theorem c_X10_line {E : Ev} (hL : LM E) (v1 : Int32) (v2 : Int32) (v3 : Int32) (w : Wd) : Ct E m_X10_line yX10_line rI [.ref (Ea E 50), .int v1, .int v2, .int v3] w (f_X10_line v1 v2 v3 w) := by
  refine Ct.of (by decide) ⟨rfl, rfl⟩ (Nat.le_of_ble_eq_true rfl) ?_
  show Sim E m_X10_line rI 0 [(0, .ref (Ea E 50)), (1, .int v1), (2, .int v2), (3, .int v3)] [] w (f_X10_line v1 v2 v3 w)
  unfold f_X10_line
  refine sim_aload_n 0 dX10_line_0 rfl rfl ?_
  refine sim_iload_n 1 dX10_line_1 rfl rfl ?_
  refine sim_cVi (k := 50) (ci := 8) [.int v1] [] (c_X10_isLine hL v1 w) (hL 50 rfl) rfl (by decide) rfl cb_X10_163 im_X10_isLine se_X10_isLine rfl rfl rfl (Nat.le_of_ble_eq_true rfl) dX10_line_2 rfl (fun x1 w2 => ?_)
  refine sim_if_eq 26 dX10_line_5 rfl rfl (fun _ => ?_) (fun _ => ?_)
  · exact sim_sub [] rfl (sf_X10_line_26 hL w2)
  · refine sim_iload_n 2 dX10_line_8 rfl rfl ?_
    refine sim_i2l dX10_line_9 rfl ?_
    refine sim_lconst (0 : Int64) dX10_line_10 rfl rfl ?_
    refine sim_ldc2 (2 : Int64) dX10_line_11 k_X10_167 rfl ?_
    refine sim_cSi [.long (Int32.toInt64 v2), .long (0 : Int64), .long (2 : Int64)] [] (c_X10_in hL (Int32.toInt64 v2) (0 : Int64) (2 : Int64) w2) cb_X10_139 sx_X10_in rfl rfl rfl (Nat.le_of_ble_eq_true rfl) dX10_line_14 rfl (fun x3 w4 => ?_)
    refine sim_if_eq 26 dX10_line_17 rfl rfl (fun _ => ?_) (fun _ => ?_)
    · exact sim_sub [] rfl (sf_X10_line_26 hL w4)
    · refine sim_iload_n 3 dX10_line_20 rfl rfl ?_
      refine sim_bipush (12 : Int32) dX10_line_21 rfl rfl ?_
      refine sim_icmp_le 29 dX10_line_23 rfl rfl (fun _ => ?_) (fun _ => ?_)
      · refine sim_iload_n 3 dX10_line_29 rfl rfl ?_
        refine sim_if_ge 39 dX10_line_30 rfl rfl (fun _ => ?_) (fun _ => ?_)
        · refine sim_aload_n 0 dX10_line_39 rfl rfl ?_
          refine sim_get (k := 50) (ci := 8) (j := 5) (v := .ref (Ea E 56)) (hL 50 rfl) rfl (by decide) fl_X10_19 rfl dX10_line_40 rfl ?_
          refine sim_iload_n 1 dX10_line_43 rfl rfl ?_
          refine sim_iload_n 2 dX10_line_44 rfl rfl ?_
          refine sim_iastore (k := 56) (hL 56 rfl) rfl rfl dX10_line_45 rfl ?_
          refine sim_lw (fun w5 => ?_)
          refine sim_aload_n 0 dX10_line_46 rfl rfl ?_
          refine sim_get (k := 50) (ci := 8) (j := 6) (v := .ref (Ea E 57)) (hL 50 rfl) rfl (by decide) fl_X10_22 rfl dX10_line_47 rfl ?_
          refine sim_iload_n 1 dX10_line_50 rfl rfl ?_
          refine sim_iload_n 3 dX10_line_51 rfl rfl ?_
          refine sim_iastore (k := 57) (hL 57 rfl) rfl rfl dX10_line_52 rfl ?_
          refine sim_lw (fun w6 => ?_)
          refine sim_iconst (0 : Int32) dX10_line_53 rfl rfl ?_
          refine sim_istore [(4, .int (0 : Int32)), (0, .ref (Ea E 50)), (1, .int v1), (2, .int v2), (3, .int v3)] dX10_line_54 (Nat.le_of_ble_eq_true rfl) rfl rfl ?_
          exact sim_sub [1, 2, 4, 0] rfl (sl_X10_line_56 hL (sf_X10_line_81 hL) FU v1 v3 (0 : Int32) w6)
        · refine sim_aload_n 0 dX10_line_33 rfl rfl ?_
          refine sim_iconst (5 : Int32) dX10_line_34 rfl rfl ?_
          refine sim_cVi (k := 50) (ci := 8) [.int (5 : Int32)] [] (c_X10_met hL (5 : Int32) w4) (hL 50 rfl) rfl (by decide) rfl cb_X10_169 im_X10_met se_X10_met rfl rfl rfl (Nat.le_of_ble_eq_true rfl) dX10_line_35 rfl (fun x8 w9 => ?_)
          exact sim_iret rfl dX10_line_38
      · exact sim_sub [] rfl (sf_X10_line_26 hL w4)
def f_X10_lose (v1 : Int32) (w : Wd) : Option (Int32 × Wd) :=
  bd (f_X10_isLine v1 w) fun x1 w2 =>
  if x1 = (0 : Int32) then
  some ((-2 : Int32), w2)
  else
  if inb v1 7 = true then
  if (0 : Int32) ≤ (w2.1 56 (Int32.toNatClampNeg v1)) then
  if inb v1 7 = true then
  lw (wdI w2 56 (Int32.toNatClampNeg v1) (-1 : Int32)) fun w3 =>
  if inb v1 7 = true then
  some ((w3.1 57 (Int32.toNatClampNeg v1)), w3)
  else none
  else none
  else
  bd (f_X10_met (1 : Int32) w2) fun x4 w5 =>
  some (x4, w5)
  else none
set_option maxRecDepth 20000 in
theorem c_X10_lose {E : Ev} (hL : LM E) (v1 : Int32) (w : Wd) : Ct E m_X10_lose yX10_lose rI [.ref (Ea E 50), .int v1] w (f_X10_lose v1 w) := by
  refine Ct.of (by decide) ⟨rfl, rfl⟩ (Nat.le_of_ble_eq_true rfl) ?_
  show Sim E m_X10_lose rI 0 [(0, .ref (Ea E 50)), (1, .int v1)] [] w (f_X10_lose v1 w)
  unfold f_X10_lose
  refine sim_aload_n 0 dX10_lose_0 rfl rfl ?_
  refine sim_iload_n 1 dX10_lose_1 rfl rfl ?_
  refine sim_cVi (k := 50) (ci := 8) [.int v1] [] (c_X10_isLine hL v1 w) (hL 50 rfl) rfl (by decide) rfl cb_X10_163 im_X10_isLine se_X10_isLine rfl rfl rfl (Nat.le_of_ble_eq_true rfl) dX10_lose_2 rfl (fun x1 w2 => ?_)
  refine sim_if_ne 11 dX10_lose_5 rfl rfl (fun _ => ?_) (fun _ => ?_)
  · refine sim_aload_n 0 dX10_lose_11 rfl rfl ?_
    refine sim_get (k := 50) (ci := 8) (j := 5) (v := .ref (Ea E 56)) (hL 50 rfl) rfl (by decide) fl_X10_19 rfl dX10_lose_12 rfl ?_
    refine sim_iload_n 1 dX10_lose_15 rfl rfl ?_
    refine sim_iaload (k := 56) (hL 56 rfl) rfl rfl dX10_lose_16 rfl ?_
    refine sim_if_ge 26 dX10_lose_17 rfl rfl (fun _ => ?_) (fun _ => ?_)
    · refine sim_aload_n 0 dX10_lose_26 rfl rfl ?_
      refine sim_get (k := 50) (ci := 8) (j := 5) (v := .ref (Ea E 56)) (hL 50 rfl) rfl (by decide) fl_X10_19 rfl dX10_lose_27 rfl ?_
      refine sim_iload_n 1 dX10_lose_30 rfl rfl ?_
      refine sim_iconst (-1 : Int32) dX10_lose_31 rfl rfl ?_
      refine sim_iastore (k := 56) (hL 56 rfl) rfl rfl dX10_lose_32 rfl ?_
      refine sim_lw (fun w3 => ?_)
      refine sim_aload_n 0 dX10_lose_33 rfl rfl ?_
      refine sim_get (k := 50) (ci := 8) (j := 6) (v := .ref (Ea E 57)) (hL 50 rfl) rfl (by decide) fl_X10_22 rfl dX10_lose_34 rfl ?_
      refine sim_iload_n 1 dX10_lose_37 rfl rfl ?_
      refine sim_iaload (k := 57) (hL 57 rfl) rfl rfl dX10_lose_38 rfl ?_
      exact sim_iret rfl dX10_lose_39
    · refine sim_aload_n 0 dX10_lose_20 rfl rfl ?_
      refine sim_iconst (1 : Int32) dX10_lose_21 rfl rfl ?_
      refine sim_cVi (k := 50) (ci := 8) [.int (1 : Int32)] [] (c_X10_met hL (1 : Int32) w2) (hL 50 rfl) rfl (by decide) rfl cb_X10_169 im_X10_met se_X10_met rfl rfl rfl (Nat.le_of_ble_eq_true rfl) dX10_lose_22 rfl (fun x4 w5 => ?_)
      exact sim_iret rfl dX10_lose_25
  · refine sim_bipush (-2 : Int32) dX10_lose_8 rfl rfl ?_
    exact sim_iret rfl dX10_lose_10
def f_X10_lacks_58 (s0 : Int32) (w : Wd) : Option (Int32 × Wd) :=
  some (s0, w)
set_option maxRecDepth 20000 in
theorem sf_X10_lacks_58 {E : Ev} (hL : LM E) (s0 : Int32) (w : Wd) : Sim E m_X10_lacks rI 58 [] [.int s0] w (f_X10_lacks_58 s0 w) := by
  unfold f_X10_lacks_58
  exact sim_iret rfl dX10_lacks_58
def f_X10_lacks (v1 : Int32) (v2 : Int32) (v3 : Int32) (w : Wd) : Option (Int32 × Wd) :=
  if inb v1 7 = true then
  if (0 : Int32) ≤ (w.1 56 (Int32.toNatClampNeg v1)) then
  if inb v1 7 = true then
  if (w.1 56 (Int32.toNatClampNeg v1)) = v2 then
  if inb v1 7 = true then
  bd (f_X10_in (Int32.toInt64 v3) (0 : Int64) (Int32.toInt64 ((w.1 57 (Int32.toNatClampNeg v1)) - (1 : Int32))) w) fun x1 w2 =>
  if x1 = (0 : Int32) then
  bd (f_X10_met (2 : Int32) w2) fun x3 w4 =>
  f_X10_lacks_58 x3 w4
  else
  f_X10_lacks_58 (0 : Int32) w2
  else none
  else
  bd (f_X10_met (3 : Int32) w) fun x5 w6 =>
  some (x5, w6)
  else none
  else
  bd (f_X10_met (1 : Int32) w) fun x7 w8 =>
  some (x7, w8)
  else none
set_option maxRecDepth 20000 in
theorem c_X10_lacks {E : Ev} (hL : LM E) (v1 : Int32) (v2 : Int32) (v3 : Int32) (w : Wd) : Ct E m_X10_lacks yX10_lacks rI [.ref (Ea E 50), .int v1, .int v2, .int v3] w (f_X10_lacks v1 v2 v3 w) := by
  refine Ct.of (by decide) ⟨rfl, rfl⟩ (Nat.le_of_ble_eq_true rfl) ?_
  show Sim E m_X10_lacks rI 0 [(0, .ref (Ea E 50)), (1, .int v1), (2, .int v2), (3, .int v3)] [] w (f_X10_lacks v1 v2 v3 w)
  unfold f_X10_lacks
  refine sim_aload_n 0 dX10_lacks_0 rfl rfl ?_
  refine sim_get (k := 50) (ci := 8) (j := 5) (v := .ref (Ea E 56)) (hL 50 rfl) rfl (by decide) fl_X10_19 rfl dX10_lacks_1 rfl ?_
  refine sim_iload_n 1 dX10_lacks_4 rfl rfl ?_
  refine sim_iaload (k := 56) (hL 56 rfl) rfl rfl dX10_lacks_5 rfl ?_
  refine sim_if_ge 15 dX10_lacks_6 rfl rfl (fun _ => ?_) (fun _ => ?_)
  · refine sim_aload_n 0 dX10_lacks_15 rfl rfl ?_
    refine sim_get (k := 50) (ci := 8) (j := 5) (v := .ref (Ea E 56)) (hL 50 rfl) rfl (by decide) fl_X10_19 rfl dX10_lacks_16 rfl ?_
    refine sim_iload_n 1 dX10_lacks_19 rfl rfl ?_
    refine sim_iaload (k := 56) (hL 56 rfl) rfl rfl dX10_lacks_20 rfl ?_
    refine sim_iload_n 2 dX10_lacks_21 rfl rfl ?_
    refine sim_icmp_eq 31 dX10_lacks_22 rfl rfl (fun _ => ?_) (fun _ => ?_)
    · refine sim_iload_n 3 dX10_lacks_31 rfl rfl ?_
      refine sim_i2l dX10_lacks_32 rfl ?_
      refine sim_lconst (0 : Int64) dX10_lacks_33 rfl rfl ?_
      refine sim_aload_n 0 dX10_lacks_34 rfl rfl ?_
      refine sim_get (k := 50) (ci := 8) (j := 6) (v := .ref (Ea E 57)) (hL 50 rfl) rfl (by decide) fl_X10_22 rfl dX10_lacks_35 rfl ?_
      refine sim_iload_n 1 dX10_lacks_38 rfl rfl ?_
      refine sim_iaload (k := 57) (hL 57 rfl) rfl rfl dX10_lacks_39 rfl ?_
      refine sim_iconst (1 : Int32) dX10_lacks_40 rfl rfl ?_
      refine sim_isub dX10_lacks_41 rfl ?_
      refine sim_i2l dX10_lacks_42 rfl ?_
      refine sim_cSi [.long (Int32.toInt64 v3), .long (0 : Int64), .long (Int32.toInt64 ((w.1 57 (Int32.toNatClampNeg v1)) - (1 : Int32)))] [] (c_X10_in hL (Int32.toInt64 v3) (0 : Int64) (Int32.toInt64 ((w.1 57 (Int32.toNatClampNeg v1)) - (1 : Int32))) w) cb_X10_139 sx_X10_in rfl rfl rfl (Nat.le_of_ble_eq_true rfl) dX10_lacks_43 rfl (fun x1 w2 => ?_)
      refine sim_if_eq 53 dX10_lacks_46 rfl rfl (fun _ => ?_) (fun _ => ?_)
      · refine sim_aload_n 0 dX10_lacks_53 rfl rfl ?_
        refine sim_iconst (2 : Int32) dX10_lacks_54 rfl rfl ?_
        refine sim_cVi (k := 50) (ci := 8) [.int (2 : Int32)] [] (c_X10_met hL (2 : Int32) w2) (hL 50 rfl) rfl (by decide) rfl cb_X10_169 im_X10_met se_X10_met rfl rfl rfl (Nat.le_of_ble_eq_true rfl) dX10_lacks_55 rfl (fun x3 w4 => ?_)
        exact sim_sub [] rfl (sf_X10_lacks_58 hL x3 w4)
      · refine sim_iconst (0 : Int32) dX10_lacks_49 rfl rfl ?_
        refine sim_goto (q := 58) dX10_lacks_50 rfl ?_
        exact sim_sub [] rfl (sf_X10_lacks_58 hL (0 : Int32) w2)
    · refine sim_aload_n 0 dX10_lacks_25 rfl rfl ?_
      refine sim_iconst (3 : Int32) dX10_lacks_26 rfl rfl ?_
      refine sim_cVi (k := 50) (ci := 8) [.int (3 : Int32)] [] (c_X10_met hL (3 : Int32) w) (hL 50 rfl) rfl (by decide) rfl cb_X10_169 im_X10_met se_X10_met rfl rfl rfl (Nat.le_of_ble_eq_true rfl) dX10_lacks_27 rfl (fun x5 w6 => ?_)
      exact sim_iret rfl dX10_lacks_30
  · refine sim_aload_n 0 dX10_lacks_9 rfl rfl ?_
    refine sim_iconst (1 : Int32) dX10_lacks_10 rfl rfl ?_
    refine sim_cVi (k := 50) (ci := 8) [.int (1 : Int32)] [] (c_X10_met hL (1 : Int32) w) (hL 50 rfl) rfl (by decide) rfl cb_X10_169 im_X10_met se_X10_met rfl rfl rfl (Nat.le_of_ble_eq_true rfl) dX10_lacks_11 rfl (fun x7 w8 => ?_)
    exact sim_iret rfl dX10_lacks_14
def f_X10_put_20 (w : Wd) : Option (Int32 × Wd) :=
  some ((-2 : Int32), w)
set_option maxRecDepth 20000 in
theorem sf_X10_put_20 {E : Ev} (hL : LM E) (w : Wd) : Sim E m_X10_put rI 20 [] [] w (f_X10_put_20 w) := by
  unfold f_X10_put_20
  refine sim_bipush (-2 : Int32) dX10_put_20 rfl rfl ?_
  exact sim_iret rfl dX10_put_22
def f_X10_put_74 (s1 : Int32) (s2 : Int32) (w : Wd) : Option (Int32 × Wd) :=
  if inb s1 84 = true then
  lw (wdI w 58 (Int32.toNatClampNeg s1) s2) fun w7 =>
  some ((1 : Int32), w7)
  else none
set_option maxRecDepth 20000 in
theorem sf_X10_put_74 {E : Ev} (hL : LM E) (s1 : Int32) (s2 : Int32) (w : Wd) : Sim E m_X10_put rI 74 [] [.int s2, .int s1, .ref (Ea E 58)] w (f_X10_put_74 s1 s2 w) := by
  unfold f_X10_put_74
  refine sim_iastore (k := 58) (hL 58 rfl) rfl rfl dX10_put_74 rfl ?_
  refine sim_lw (fun w7 => ?_)
  refine sim_iconst (1 : Int32) dX10_put_75 rfl rfl ?_
  exact sim_iret rfl dX10_put_76
def f_X10_put (v1 : Int32) (v2 : Int32) (v3 : Int32) (v4 : Int32) (w : Wd) : Option (Int32 × Wd) :=
  bd (f_X10_isLine v1 w) fun x1 w2 =>
  if x1 = (0 : Int32) then
  f_X10_put_20 w2
  else
  bd (f_X10_in (Int32.toInt64 v2) (0 : Int64) (2 : Int64) w2) fun x3 w4 =>
  if x3 = (0 : Int32) then
  f_X10_put_20 w4
  else
  bd (f_X10_lacks v1 v2 v3 w4) fun x5 w6 =>
  if x5 = (0 : Int32) then
  if v2 = (0 : Int32) then
  f_X10_put_74 (((12 : Int32) * v1) + v3) ((Int32.toInt8 v4).toInt32) w6
  else
  if v2 = (1 : Int32) then
  f_X10_put_74 (((12 : Int32) * v1) + v3) (((Int32.toUInt32 v4) % 65536).toInt32) w6
  else
  f_X10_put_74 (((12 : Int32) * v1) + v3) ((Int32.toInt16 v4).toInt32) w6
  else
  some (x5, w6)
set_option maxRecDepth 20000 in
theorem c_X10_put {E : Ev} (hL : LM E) (v1 : Int32) (v2 : Int32) (v3 : Int32) (v4 : Int32) (w : Wd) : Ct E m_X10_put yX10_put rI [.ref (Ea E 50), .int v1, .int v2, .int v3, .int v4] w (f_X10_put v1 v2 v3 v4 w) := by
  refine Ct.of (by decide) ⟨rfl, rfl⟩ (Nat.le_of_ble_eq_true rfl) ?_
  show Sim E m_X10_put rI 0 [(0, .ref (Ea E 50)), (1, .int v1), (2, .int v2), (3, .int v3), (4, .int v4)] [] w (f_X10_put v1 v2 v3 v4 w)
  unfold f_X10_put
  refine sim_aload_n 0 dX10_put_0 rfl rfl ?_
  refine sim_iload_n 1 dX10_put_1 rfl rfl ?_
  refine sim_cVi (k := 50) (ci := 8) [.int v1] [] (c_X10_isLine hL v1 w) (hL 50 rfl) rfl (by decide) rfl cb_X10_163 im_X10_isLine se_X10_isLine rfl rfl rfl (Nat.le_of_ble_eq_true rfl) dX10_put_2 rfl (fun x1 w2 => ?_)
  refine sim_if_eq 20 dX10_put_5 rfl rfl (fun _ => ?_) (fun _ => ?_)
  · exact sim_sub [] rfl (sf_X10_put_20 hL w2)
  · refine sim_iload_n 2 dX10_put_8 rfl rfl ?_
    refine sim_i2l dX10_put_9 rfl ?_
    refine sim_lconst (0 : Int64) dX10_put_10 rfl rfl ?_
    refine sim_ldc2 (2 : Int64) dX10_put_11 k_X10_167 rfl ?_
    refine sim_cSi [.long (Int32.toInt64 v2), .long (0 : Int64), .long (2 : Int64)] [] (c_X10_in hL (Int32.toInt64 v2) (0 : Int64) (2 : Int64) w2) cb_X10_139 sx_X10_in rfl rfl rfl (Nat.le_of_ble_eq_true rfl) dX10_put_14 rfl (fun x3 w4 => ?_)
    refine sim_if_ne 23 dX10_put_17 rfl rfl (fun _ => ?_) (fun _ => ?_)
    · refine sim_aload_n 0 dX10_put_23 rfl rfl ?_
      refine sim_iload_n 1 dX10_put_24 rfl rfl ?_
      refine sim_iload_n 2 dX10_put_25 rfl rfl ?_
      refine sim_iload_n 3 dX10_put_26 rfl rfl ?_
      refine sim_cVi (k := 50) (ci := 8) [.int v1, .int v2, .int v3] [] (c_X10_lacks hL v1 v2 v3 w4) (hL 50 rfl) rfl (by decide) rfl cb_X10_173 im_X10_lacks se_X10_lacks rfl rfl rfl (Nat.le_of_ble_eq_true rfl) dX10_put_27 rfl (fun x5 w6 => ?_)
      refine sim_istore [(5, .int x5), (0, .ref (Ea E 50)), (1, .int v1), (2, .int v2), (3, .int v3), (4, .int v4)] dX10_put_30 (Nat.le_of_ble_eq_true rfl) rfl rfl ?_
      refine sim_iload 0 dX10_put_32 rfl rfl ?_
      refine sim_if_eq 40 dX10_put_34 rfl rfl (fun _ => ?_) (fun _ => ?_)
      · refine sim_aload_n 1 dX10_put_40 rfl rfl ?_
        refine sim_get (k := 50) (ci := 8) (j := 7) (v := .ref (Ea E 58)) (hL 50 rfl) rfl (by decide) fl_X10_25 rfl dX10_put_41 rfl ?_
        refine sim_bipush (12 : Int32) dX10_put_44 rfl rfl ?_
        refine sim_iload_n 2 dX10_put_46 rfl rfl ?_
        refine sim_imul dX10_put_47 rfl ?_
        refine sim_iload_n 4 dX10_put_48 rfl rfl ?_
        refine sim_iadd dX10_put_49 rfl ?_
        refine sim_iload_n 3 dX10_put_50 rfl rfl ?_
        refine sim_if_ne 60 dX10_put_51 rfl rfl (fun _ => ?_) (fun _ => ?_)
        · refine sim_iload_n 3 dX10_put_60 rfl rfl ?_
          refine sim_iconst (1 : Int32) dX10_put_61 rfl rfl ?_
          refine sim_icmp_ne 71 dX10_put_62 rfl rfl (fun _ => ?_) (fun _ => ?_)
          · refine sim_iload 5 dX10_put_71 rfl rfl ?_
            refine sim_i2s dX10_put_73 rfl ?_
            exact sim_sub [] rfl (sf_X10_put_74 hL (((12 : Int32) * v1) + v3) ((Int32.toInt16 v4).toInt32) w6)
          · refine sim_iload 5 dX10_put_65 rfl rfl ?_
            refine sim_i2c dX10_put_67 rfl ?_
            refine sim_goto (q := 74) dX10_put_68 rfl ?_
            exact sim_sub [] rfl (sf_X10_put_74 hL (((12 : Int32) * v1) + v3) (((Int32.toUInt32 v4) % 65536).toInt32) w6)
        · refine sim_iload 5 dX10_put_54 rfl rfl ?_
          refine sim_i2b dX10_put_56 rfl ?_
          refine sim_goto (q := 74) dX10_put_57 rfl ?_
          exact sim_sub [] rfl (sf_X10_put_74 hL (((12 : Int32) * v1) + v3) ((Int32.toInt8 v4).toInt32) w6)
      · refine sim_iload 0 dX10_put_37 rfl rfl ?_
        exact sim_iret rfl dX10_put_39
    · exact sim_sub [] rfl (sf_X10_put_20 hL w4)
def f_X10_get_30 (w : Wd) : Option (Int32 × Wd) :=
  some ((-2147483648 : Int32), w)
set_option maxRecDepth 20000 in
theorem sf_X10_get_30 {E : Ev} (hL : LM E) (w : Wd) : Sim E m_X10_get rI 30 [] [] w (f_X10_get_30 w) := by
  unfold f_X10_get_30
  refine sim_ldc (-2147483648 : Int32) dX10_get_30 k_X10_177 rfl ?_
  exact sim_iret rfl dX10_get_32
def f_X10_get (v1 : Int32) (v2 : Int32) (v3 : Int32) (w : Wd) : Option (Int32 × Wd) :=
  bd (f_X10_isLine v1 w) fun x1 w2 =>
  if x1 = (0 : Int32) then
  f_X10_get_30 w2
  else
  bd (f_X10_in (Int32.toInt64 v2) (0 : Int64) (2 : Int64) w2) fun x3 w4 =>
  if x3 = (0 : Int32) then
  f_X10_get_30 w4
  else
  bd (f_X10_lacks v1 v2 v3 w4) fun x5 w6 =>
  if x5 = (0 : Int32) then
  if inb (((12 : Int32) * v1) + v3) 84 = true then
  some ((w6.1 58 (Int32.toNatClampNeg (((12 : Int32) * v1) + v3))), w6)
  else none
  else
  f_X10_get_30 w6
set_option maxRecDepth 20000 in
theorem c_X10_get {E : Ev} (hL : LM E) (v1 : Int32) (v2 : Int32) (v3 : Int32) (w : Wd) : Ct E m_X10_get yX10_get rI [.ref (Ea E 50), .int v1, .int v2, .int v3] w (f_X10_get v1 v2 v3 w) := by
  refine Ct.of (by decide) ⟨rfl, rfl⟩ (Nat.le_of_ble_eq_true rfl) ?_
  show Sim E m_X10_get rI 0 [(0, .ref (Ea E 50)), (1, .int v1), (2, .int v2), (3, .int v3)] [] w (f_X10_get v1 v2 v3 w)
  unfold f_X10_get
  refine sim_aload_n 0 dX10_get_0 rfl rfl ?_
  refine sim_iload_n 1 dX10_get_1 rfl rfl ?_
  refine sim_cVi (k := 50) (ci := 8) [.int v1] [] (c_X10_isLine hL v1 w) (hL 50 rfl) rfl (by decide) rfl cb_X10_163 im_X10_isLine se_X10_isLine rfl rfl rfl (Nat.le_of_ble_eq_true rfl) dX10_get_2 rfl (fun x1 w2 => ?_)
  refine sim_if_eq 30 dX10_get_5 rfl rfl (fun _ => ?_) (fun _ => ?_)
  · exact sim_sub [] rfl (sf_X10_get_30 hL w2)
  · refine sim_iload_n 2 dX10_get_8 rfl rfl ?_
    refine sim_i2l dX10_get_9 rfl ?_
    refine sim_lconst (0 : Int64) dX10_get_10 rfl rfl ?_
    refine sim_ldc2 (2 : Int64) dX10_get_11 k_X10_167 rfl ?_
    refine sim_cSi [.long (Int32.toInt64 v2), .long (0 : Int64), .long (2 : Int64)] [] (c_X10_in hL (Int32.toInt64 v2) (0 : Int64) (2 : Int64) w2) cb_X10_139 sx_X10_in rfl rfl rfl (Nat.le_of_ble_eq_true rfl) dX10_get_14 rfl (fun x3 w4 => ?_)
    refine sim_if_eq 30 dX10_get_17 rfl rfl (fun _ => ?_) (fun _ => ?_)
    · exact sim_sub [] rfl (sf_X10_get_30 hL w4)
    · refine sim_aload_n 0 dX10_get_20 rfl rfl ?_
      refine sim_iload_n 1 dX10_get_21 rfl rfl ?_
      refine sim_iload_n 2 dX10_get_22 rfl rfl ?_
      refine sim_iload_n 3 dX10_get_23 rfl rfl ?_
      refine sim_cVi (k := 50) (ci := 8) [.int v1, .int v2, .int v3] [] (c_X10_lacks hL v1 v2 v3 w4) (hL 50 rfl) rfl (by decide) rfl cb_X10_173 im_X10_lacks se_X10_lacks rfl rfl rfl (Nat.le_of_ble_eq_true rfl) dX10_get_24 rfl (fun x5 w6 => ?_)
      refine sim_if_eq 33 dX10_get_27 rfl rfl (fun _ => ?_) (fun _ => ?_)
      · refine sim_aload_n 0 dX10_get_33 rfl rfl ?_
        refine sim_get (k := 50) (ci := 8) (j := 7) (v := .ref (Ea E 58)) (hL 50 rfl) rfl (by decide) fl_X10_25 rfl dX10_get_34 rfl ?_
        refine sim_bipush (12 : Int32) dX10_get_37 rfl rfl ?_
        refine sim_iload_n 1 dX10_get_39 rfl rfl ?_
        refine sim_imul dX10_get_40 rfl ?_
        refine sim_iload_n 3 dX10_get_41 rfl rfl ?_
        refine sim_iadd dX10_get_42 rfl ?_
        refine sim_iaload (k := 58) (hL 58 rfl) rfl rfl dX10_get_43 rfl ?_
        exact sim_iret rfl dX10_get_44
      · exact sim_sub [] rfl (sf_X10_get_30 hL w6)
def f_X10_copy_16 (w : Wd) : Option (Int32 × Wd) :=
  some ((-2 : Int32), w)
set_option maxRecDepth 20000 in
theorem sf_X10_copy_16 {E : Ev} (hL : LM E) (w : Wd) : Sim E m_X10_copy rI 16 [] [] w (f_X10_copy_16 w) := by
  unfold f_X10_copy_16
  refine sim_bipush (-2 : Int32) dX10_copy_16 rfl rfl ?_
  exact sim_iret rfl dX10_copy_18
def f_X10_copy_37 (w : Wd) : Option (Int32 × Wd) :=
  bd (f_X10_met (1 : Int32) w) fun x5 w6 =>
  some (x5, w6)
set_option maxRecDepth 20000 in
theorem sf_X10_copy_37 {E : Ev} (hL : LM E) (w : Wd) : Sim E m_X10_copy rI 37 [(0, .ref (Ea E 50))] [] w (f_X10_copy_37 w) := by
  unfold f_X10_copy_37
  refine sim_aload_n 0 dX10_copy_37 rfl rfl ?_
  refine sim_iconst (1 : Int32) dX10_copy_38 rfl rfl ?_
  refine sim_cVi (k := 50) (ci := 8) [.int (1 : Int32)] [] (c_X10_met hL (1 : Int32) w) (hL 50 rfl) rfl (by decide) rfl cb_X10_169 im_X10_met se_X10_met rfl rfl rfl (Nat.le_of_ble_eq_true rfl) dX10_copy_39 rfl (fun x5 w6 => ?_)
  exact sim_iret rfl dX10_copy_42
def f_X10_copy_113 (w : Wd) : Option (Int32 × Wd) :=
  bd (f_X10_met (2 : Int32) w) fun x7 w8 =>
  some (x7, w8)
set_option maxRecDepth 20000 in
theorem sf_X10_copy_113 {E : Ev} (hL : LM E) (w : Wd) : Sim E m_X10_copy rI 113 [(0, .ref (Ea E 50))] [] w (f_X10_copy_113 w) := by
  unfold f_X10_copy_113
  refine sim_aload_n 0 dX10_copy_113 rfl rfl ?_
  refine sim_iconst (2 : Int32) dX10_copy_114 rfl rfl ?_
  refine sim_cVi (k := 50) (ci := 8) [.int (2 : Int32)] [] (c_X10_met hL (2 : Int32) w) (hL 50 rfl) rfl (by decide) rfl cb_X10_169 im_X10_met se_X10_met rfl rfl rfl (Nat.le_of_ble_eq_true rfl) dX10_copy_115 rfl (fun x7 w8 => ?_)
  exact sim_iret rfl dX10_copy_118
def b_X10_copy_122 (R : Int32 → Int32 → Int32 → Int32 → Int32 → Int32 → Wd → Option (Int32 × Wd)) (K156 : Int32 → Int32 → Int32 → Wd → Option (Int32 × Wd)) (v1 : Int32) (v2 : Int32) (v3 : Int32) (v4 : Int32) (v5 : Int32) (v6 : Int32) (w : Wd) : Option (Int32 × Wd) :=
  if v5 ≤ v6 then
  K156 v3 v4 v5 w
  else
  if inb ((((12 : Int32) * v1) + v2) + v6) 84 = true then
  if inb v6 12 = true then
  lw (wdI w 59 (Int32.toNatClampNeg v6) (w.1 58 (Int32.toNatClampNeg ((((12 : Int32) * v1) + v2) + v6)))) fun w9 =>
  R v1 v2 v3 v4 v5 (v6 + (1 : Int32)) w9
  else none
  else none
set_option maxRecDepth 20000 in
theorem sb_X10_copy_122 {E : Ev} (hL : LM E) {R : Int32 → Int32 → Int32 → Int32 → Int32 → Int32 → Wd → Option (Int32 × Wd)} (hR : ∀ (v1 : Int32) (v2 : Int32) (v3 : Int32) (v4 : Int32) (v5 : Int32) (v6 : Int32) (w : Wd), Sim E m_X10_copy rI 122 [(0, .ref (Ea E 50)), (1, .int v1), (2, .int v2), (3, .int v3), (4, .int v4), (5, .int v5), (6, .int v6)] [] w (R v1 v2 v3 v4 v5 v6 w)) {K156 : Int32 → Int32 → Int32 → Wd → Option (Int32 × Wd)} (hK156 : ∀ (v3 : Int32) (v4 : Int32) (v5 : Int32) (w : Wd), Sim E m_X10_copy rI 156 [(0, .ref (Ea E 50)), (3, .int v3), (4, .int v4), (5, .int v5)] [] w (K156 v3 v4 v5 w)) (v1 : Int32) (v2 : Int32) (v3 : Int32) (v4 : Int32) (v5 : Int32) (v6 : Int32) (w : Wd) : Sim E m_X10_copy rI 122 [(0, .ref (Ea E 50)), (1, .int v1), (2, .int v2), (3, .int v3), (4, .int v4), (5, .int v5), (6, .int v6)] [] w (b_X10_copy_122 R K156 v1 v2 v3 v4 v5 v6 w) := by
  unfold b_X10_copy_122
  refine sim_iload 6 dX10_copy_122 rfl rfl ?_
  refine sim_iload 5 dX10_copy_124 rfl rfl ?_
  refine sim_icmp_ge 156 dX10_copy_126 rfl rfl (fun _ => ?_) (fun _ => ?_)
  · exact sim_sub [0, 3, 4, 5] rfl (hK156 v3 v4 v5 w)
  · refine sim_aload_n 0 dX10_copy_129 rfl rfl ?_
    refine sim_get (k := 50) (ci := 8) (j := 8) (v := .ref (Ea E 59)) (hL 50 rfl) rfl (by decide) fl_X10_28 rfl dX10_copy_130 rfl ?_
    refine sim_iload 6 dX10_copy_133 rfl rfl ?_
    refine sim_aload_n 0 dX10_copy_135 rfl rfl ?_
    refine sim_get (k := 50) (ci := 8) (j := 7) (v := .ref (Ea E 58)) (hL 50 rfl) rfl (by decide) fl_X10_25 rfl dX10_copy_136 rfl ?_
    refine sim_bipush (12 : Int32) dX10_copy_139 rfl rfl ?_
    refine sim_iload_n 1 dX10_copy_141 rfl rfl ?_
    refine sim_imul dX10_copy_142 rfl ?_
    refine sim_iload_n 2 dX10_copy_143 rfl rfl ?_
    refine sim_iadd dX10_copy_144 rfl ?_
    refine sim_iload 6 dX10_copy_145 rfl rfl ?_
    refine sim_iadd dX10_copy_147 rfl ?_
    refine sim_iaload (k := 58) (hL 58 rfl) rfl rfl dX10_copy_148 rfl ?_
    refine sim_iastore (k := 59) (hL 59 rfl) rfl rfl dX10_copy_149 rfl ?_
    refine sim_lw (fun w9 => ?_)
    refine sim_iinc (v6 + (1 : Int32)) 6 [(6, .int (v6 + (1 : Int32))), (0, .ref (Ea E 50)), (1, .int v1), (2, .int v2), (3, .int v3), (4, .int v4), (5, .int v5)] dX10_copy_150 rfl rfl (Nat.le_of_ble_eq_true rfl) rfl rfl ?_
    refine sim_goto (q := 122) dX10_copy_153 rfl ?_
    exact sim_sub [1, 2, 3, 4, 5, 6, 0] rfl (hR v1 v2 v3 v4 v5 (v6 + (1 : Int32)) w9)
def l_X10_copy_122 (K156 : Int32 → Int32 → Int32 → Wd → Option (Int32 × Wd)) (n : Nat) : Int32 → Int32 → Int32 → Int32 → Int32 → Int32 → Wd → Option (Int32 × Wd) := itr (fun _ _ _ _ _ _ _ => none) (fun R => b_X10_copy_122 R K156) n
set_option maxRecDepth 20000 in
theorem sl_X10_copy_122 {E : Ev} (hL : LM E) {K156 : Int32 → Int32 → Int32 → Wd → Option (Int32 × Wd)} (hK156 : ∀ (v3 : Int32) (v4 : Int32) (v5 : Int32) (w : Wd), Sim E m_X10_copy rI 156 [(0, .ref (Ea E 50)), (3, .int v3), (4, .int v4), (5, .int v5)] [] w (K156 v3 v4 v5 w)) : ∀ (n : Nat) (v1 : Int32) (v2 : Int32) (v3 : Int32) (v4 : Int32) (v5 : Int32) (v6 : Int32) (w : Wd), Sim E m_X10_copy rI 122 [(0, .ref (Ea E 50)), (1, .int v1), (2, .int v2), (3, .int v3), (4, .int v4), (5, .int v5), (6, .int v6)] [] w (l_X10_copy_122 K156 n v1 v2 v3 v4 v5 v6 w) := by
  intro n
  induction n with
  | zero => intros; exact sim_none
  | succ n ih => intros; exact sb_X10_copy_122 hL (R := l_X10_copy_122 K156 n) ih hK156 _ _ _ _ _ _ _
def b_X10_copy_159 (R : Int32 → Int32 → Int32 → Int32 → Wd → Option (Int32 × Wd)) (K194 : Wd → Option (Int32 × Wd)) (v3 : Int32) (v4 : Int32) (v5 : Int32) (v6 : Int32) (w : Wd) : Option (Int32 × Wd) :=
  if v5 ≤ v6 then
  K194 w
  else
  if inb v6 12 = true then
  if inb ((((12 : Int32) * v3) + v4) + v6) 84 = true then
  lw (wdI w 58 (Int32.toNatClampNeg ((((12 : Int32) * v3) + v4) + v6)) (w.1 59 (Int32.toNatClampNeg v6))) fun w10 =>
  R v3 v4 v5 (v6 + (1 : Int32)) w10
  else none
  else none
set_option maxRecDepth 20000 in
theorem sb_X10_copy_159 {E : Ev} (hL : LM E) {R : Int32 → Int32 → Int32 → Int32 → Wd → Option (Int32 × Wd)} (hR : ∀ (v3 : Int32) (v4 : Int32) (v5 : Int32) (v6 : Int32) (w : Wd), Sim E m_X10_copy rI 159 [(0, .ref (Ea E 50)), (3, .int v3), (4, .int v4), (5, .int v5), (6, .int v6)] [] w (R v3 v4 v5 v6 w)) {K194 : Wd → Option (Int32 × Wd)} (hK194 : ∀ (w : Wd), Sim E m_X10_copy rI 194 [] [] w (K194  w)) (v3 : Int32) (v4 : Int32) (v5 : Int32) (v6 : Int32) (w : Wd) : Sim E m_X10_copy rI 159 [(0, .ref (Ea E 50)), (3, .int v3), (4, .int v4), (5, .int v5), (6, .int v6)] [] w (b_X10_copy_159 R K194 v3 v4 v5 v6 w) := by
  unfold b_X10_copy_159
  refine sim_iload 4 dX10_copy_159 rfl rfl ?_
  refine sim_iload 3 dX10_copy_161 rfl rfl ?_
  refine sim_icmp_ge 194 dX10_copy_163 rfl rfl (fun _ => ?_) (fun _ => ?_)
  · exact sim_sub [] rfl (hK194 w)
  · refine sim_aload_n 0 dX10_copy_166 rfl rfl ?_
    refine sim_get (k := 50) (ci := 8) (j := 7) (v := .ref (Ea E 58)) (hL 50 rfl) rfl (by decide) fl_X10_25 rfl dX10_copy_167 rfl ?_
    refine sim_bipush (12 : Int32) dX10_copy_170 rfl rfl ?_
    refine sim_iload_n 1 dX10_copy_172 rfl rfl ?_
    refine sim_imul dX10_copy_173 rfl ?_
    refine sim_iload 2 dX10_copy_174 rfl rfl ?_
    refine sim_iadd dX10_copy_176 rfl ?_
    refine sim_iload 4 dX10_copy_177 rfl rfl ?_
    refine sim_iadd dX10_copy_179 rfl ?_
    refine sim_aload_n 0 dX10_copy_180 rfl rfl ?_
    refine sim_get (k := 50) (ci := 8) (j := 8) (v := .ref (Ea E 59)) (hL 50 rfl) rfl (by decide) fl_X10_28 rfl dX10_copy_181 rfl ?_
    refine sim_iload 4 dX10_copy_184 rfl rfl ?_
    refine sim_iaload (k := 59) (hL 59 rfl) rfl rfl dX10_copy_186 rfl ?_
    refine sim_iastore (k := 58) (hL 58 rfl) rfl rfl dX10_copy_187 rfl ?_
    refine sim_lw (fun w10 => ?_)
    refine sim_iinc (v6 + (1 : Int32)) 4 [(6, .int (v6 + (1 : Int32))), (0, .ref (Ea E 50)), (3, .int v3), (4, .int v4), (5, .int v5)] dX10_copy_188 rfl rfl (Nat.le_of_ble_eq_true rfl) rfl rfl ?_
    refine sim_goto (q := 159) dX10_copy_191 rfl ?_
    exact sim_sub [1, 2, 3, 4, 0] rfl (hR v3 v4 v5 (v6 + (1 : Int32)) w10)
def l_X10_copy_159 (K194 : Wd → Option (Int32 × Wd)) (n : Nat) : Int32 → Int32 → Int32 → Int32 → Wd → Option (Int32 × Wd) := itr (fun _ _ _ _ _ => none) (fun R => b_X10_copy_159 R K194) n
set_option maxRecDepth 20000 in
theorem sl_X10_copy_159 {E : Ev} (hL : LM E) {K194 : Wd → Option (Int32 × Wd)} (hK194 : ∀ (w : Wd), Sim E m_X10_copy rI 194 [] [] w (K194  w)) : ∀ (n : Nat) (v3 : Int32) (v4 : Int32) (v5 : Int32) (v6 : Int32) (w : Wd), Sim E m_X10_copy rI 159 [(0, .ref (Ea E 50)), (3, .int v3), (4, .int v4), (5, .int v5), (6, .int v6)] [] w (l_X10_copy_159 K194 n v3 v4 v5 v6 w) := by
  intro n
  induction n with
  | zero => intros; exact sim_none
  | succ n ih => intros; exact sb_X10_copy_159 hL (R := l_X10_copy_159 K194 n) ih hK194 _ _ _ _ _
def f_X10_copy_194 (w : Wd) : Option (Int32 × Wd) :=
  some ((1 : Int32), w)
set_option maxRecDepth 20000 in
theorem sf_X10_copy_194 {E : Ev} (hL : LM E) (w : Wd) : Sim E m_X10_copy rI 194 [] [] w (f_X10_copy_194 w) := by
  unfold f_X10_copy_194
  refine sim_iconst (1 : Int32) dX10_copy_194 rfl rfl ?_
  exact sim_iret rfl dX10_copy_195
def f_X10_copy_156 (v3 : Int32) (v4 : Int32) (v5 : Int32) (w : Wd) : Option (Int32 × Wd) :=
  l_X10_copy_159 f_X10_copy_194 FU v3 v4 v5 (0 : Int32) w
set_option maxRecDepth 20000 in
theorem sf_X10_copy_156 {E : Ev} (hL : LM E) (v3 : Int32) (v4 : Int32) (v5 : Int32) (w : Wd) : Sim E m_X10_copy rI 156 [(0, .ref (Ea E 50)), (3, .int v3), (4, .int v4), (5, .int v5)] [] w (f_X10_copy_156 v3 v4 v5 w) := by
  unfold f_X10_copy_156
  refine sim_iconst (0 : Int32) dX10_copy_156 rfl rfl ?_
  refine sim_istore [(6, .int (0 : Int32)), (0, .ref (Ea E 50)), (3, .int v3), (4, .int v4), (5, .int v5)] dX10_copy_157 (Nat.le_of_ble_eq_true rfl) rfl rfl ?_
  exact sim_sub [1, 2, 3, 4, 0] rfl (sl_X10_copy_159 hL (sf_X10_copy_194 hL) FU v3 v4 v5 (0 : Int32) w)
def f_X10_copy (v1 : Int32) (v2 : Int32) (v3 : Int32) (v4 : Int32) (v5 : Int32) (w : Wd) : Option (Int32 × Wd) :=
  bd (f_X10_isLine v1 w) fun x1 w2 =>
  if x1 = (0 : Int32) then
  f_X10_copy_16 w2
  else
  bd (f_X10_isLine v3 w2) fun x3 w4 =>
  if x3 = (0 : Int32) then
  f_X10_copy_16 w4
  else
  if inb v1 7 = true then
  if (w4.1 56 (Int32.toNatClampNeg v1)) < (0 : Int32) then
  f_X10_copy_37 w4
  else
  if inb v3 7 = true then
  if (0 : Int32) ≤ (w4.1 56 (Int32.toNatClampNeg v3)) then
  if inb v1 7 = true then
  if inb v3 7 = true then
  if (w4.1 56 (Int32.toNatClampNeg v1)) = (w4.1 56 (Int32.toNatClampNeg v3)) then
  if v2 < (0 : Int32) then
  f_X10_copy_113 w4
  else
  if v4 < (0 : Int32) then
  f_X10_copy_113 w4
  else
  if v5 < (0 : Int32) then
  f_X10_copy_113 w4
  else
  if inb v1 7 = true then
  if (0 : Int32) < (lg_cmp ((Int32.toInt64 v2) + (Int32.toInt64 v5)) (Int32.toInt64 (w4.1 57 (Int32.toNatClampNeg v1)))) then
  f_X10_copy_113 w4
  else
  if inb v3 7 = true then
  if (lg_cmp ((Int32.toInt64 v4) + (Int32.toInt64 v5)) (Int32.toInt64 (w4.1 57 (Int32.toNatClampNeg v3)))) ≤ (0 : Int32) then
  l_X10_copy_122 f_X10_copy_156 FU v1 v2 v3 v4 v5 (0 : Int32) w4
  else
  f_X10_copy_113 w4
  else none
  else none
  else
  bd (f_X10_met (4 : Int32) w4) fun x11 w12 =>
  some (x11, w12)
  else none
  else none
  else
  f_X10_copy_37 w4
  else none
  else none
set_option maxRecDepth 20000 in
theorem c_X10_copy {E : Ev} (hL : LM E) (v1 : Int32) (v2 : Int32) (v3 : Int32) (v4 : Int32) (v5 : Int32) (w : Wd) : Ct E m_X10_copy yX10_copy rI [.ref (Ea E 50), .int v1, .int v2, .int v3, .int v4, .int v5] w (f_X10_copy v1 v2 v3 v4 v5 w) := by
  refine Ct.of (by decide) ⟨rfl, rfl⟩ (Nat.le_of_ble_eq_true rfl) ?_
  show Sim E m_X10_copy rI 0 [(0, .ref (Ea E 50)), (1, .int v1), (2, .int v2), (3, .int v3), (4, .int v4), (5, .int v5)] [] w (f_X10_copy v1 v2 v3 v4 v5 w)
  unfold f_X10_copy
  refine sim_aload_n 0 dX10_copy_0 rfl rfl ?_
  refine sim_iload_n 1 dX10_copy_1 rfl rfl ?_
  refine sim_cVi (k := 50) (ci := 8) [.int v1] [] (c_X10_isLine hL v1 w) (hL 50 rfl) rfl (by decide) rfl cb_X10_163 im_X10_isLine se_X10_isLine rfl rfl rfl (Nat.le_of_ble_eq_true rfl) dX10_copy_2 rfl (fun x1 w2 => ?_)
  refine sim_if_eq 16 dX10_copy_5 rfl rfl (fun _ => ?_) (fun _ => ?_)
  · exact sim_sub [] rfl (sf_X10_copy_16 hL w2)
  · refine sim_aload_n 0 dX10_copy_8 rfl rfl ?_
    refine sim_iload_n 3 dX10_copy_9 rfl rfl ?_
    refine sim_cVi (k := 50) (ci := 8) [.int v3] [] (c_X10_isLine hL v3 w2) (hL 50 rfl) rfl (by decide) rfl cb_X10_163 im_X10_isLine se_X10_isLine rfl rfl rfl (Nat.le_of_ble_eq_true rfl) dX10_copy_10 rfl (fun x3 w4 => ?_)
    refine sim_if_ne 19 dX10_copy_13 rfl rfl (fun _ => ?_) (fun _ => ?_)
    · refine sim_aload_n 0 dX10_copy_19 rfl rfl ?_
      refine sim_get (k := 50) (ci := 8) (j := 5) (v := .ref (Ea E 56)) (hL 50 rfl) rfl (by decide) fl_X10_19 rfl dX10_copy_20 rfl ?_
      refine sim_iload_n 1 dX10_copy_23 rfl rfl ?_
      refine sim_iaload (k := 56) (hL 56 rfl) rfl rfl dX10_copy_24 rfl ?_
      refine sim_if_lt 37 dX10_copy_25 rfl rfl (fun _ => ?_) (fun _ => ?_)
      · exact sim_sub [0] rfl (sf_X10_copy_37 hL w4)
      · refine sim_aload_n 0 dX10_copy_28 rfl rfl ?_
        refine sim_get (k := 50) (ci := 8) (j := 5) (v := .ref (Ea E 56)) (hL 50 rfl) rfl (by decide) fl_X10_19 rfl dX10_copy_29 rfl ?_
        refine sim_iload_n 3 dX10_copy_32 rfl rfl ?_
        refine sim_iaload (k := 56) (hL 56 rfl) rfl rfl dX10_copy_33 rfl ?_
        refine sim_if_ge 43 dX10_copy_34 rfl rfl (fun _ => ?_) (fun _ => ?_)
        · refine sim_aload_n 0 dX10_copy_43 rfl rfl ?_
          refine sim_get (k := 50) (ci := 8) (j := 5) (v := .ref (Ea E 56)) (hL 50 rfl) rfl (by decide) fl_X10_19 rfl dX10_copy_44 rfl ?_
          refine sim_iload_n 1 dX10_copy_47 rfl rfl ?_
          refine sim_iaload (k := 56) (hL 56 rfl) rfl rfl dX10_copy_48 rfl ?_
          refine sim_aload_n 0 dX10_copy_49 rfl rfl ?_
          refine sim_get (k := 50) (ci := 8) (j := 5) (v := .ref (Ea E 56)) (hL 50 rfl) rfl (by decide) fl_X10_19 rfl dX10_copy_50 rfl ?_
          refine sim_iload_n 3 dX10_copy_53 rfl rfl ?_
          refine sim_iaload (k := 56) (hL 56 rfl) rfl rfl dX10_copy_54 rfl ?_
          refine sim_icmp_eq 64 dX10_copy_55 rfl rfl (fun _ => ?_) (fun _ => ?_)
          · refine sim_iload_n 2 dX10_copy_64 rfl rfl ?_
            refine sim_if_lt 113 dX10_copy_65 rfl rfl (fun _ => ?_) (fun _ => ?_)
            · exact sim_sub [0] rfl (sf_X10_copy_113 hL w4)
            · refine sim_iload 4 dX10_copy_68 rfl rfl ?_
              refine sim_if_lt 113 dX10_copy_70 rfl rfl (fun _ => ?_) (fun _ => ?_)
              · exact sim_sub [0] rfl (sf_X10_copy_113 hL w4)
              · refine sim_iload 5 dX10_copy_73 rfl rfl ?_
                refine sim_if_lt 113 dX10_copy_75 rfl rfl (fun _ => ?_) (fun _ => ?_)
                · exact sim_sub [0] rfl (sf_X10_copy_113 hL w4)
                · refine sim_iload_n 2 dX10_copy_78 rfl rfl ?_
                  refine sim_i2l dX10_copy_79 rfl ?_
                  refine sim_iload 5 dX10_copy_80 rfl rfl ?_
                  refine sim_i2l dX10_copy_82 rfl ?_
                  refine sim_ladd dX10_copy_83 rfl ?_
                  refine sim_aload_n 0 dX10_copy_84 rfl rfl ?_
                  refine sim_get (k := 50) (ci := 8) (j := 6) (v := .ref (Ea E 57)) (hL 50 rfl) rfl (by decide) fl_X10_22 rfl dX10_copy_85 rfl ?_
                  refine sim_iload_n 1 dX10_copy_88 rfl rfl ?_
                  refine sim_iaload (k := 57) (hL 57 rfl) rfl rfl dX10_copy_89 rfl ?_
                  refine sim_i2l dX10_copy_90 rfl ?_
                  refine sim_lcmp dX10_copy_91 rfl ?_
                  refine sim_if_gt 113 dX10_copy_92 rfl rfl (fun _ => ?_) (fun _ => ?_)
                  · exact sim_sub [0] rfl (sf_X10_copy_113 hL w4)
                  · refine sim_iload 4 dX10_copy_95 rfl rfl ?_
                    refine sim_i2l dX10_copy_97 rfl ?_
                    refine sim_iload 5 dX10_copy_98 rfl rfl ?_
                    refine sim_i2l dX10_copy_100 rfl ?_
                    refine sim_ladd dX10_copy_101 rfl ?_
                    refine sim_aload_n 0 dX10_copy_102 rfl rfl ?_
                    refine sim_get (k := 50) (ci := 8) (j := 6) (v := .ref (Ea E 57)) (hL 50 rfl) rfl (by decide) fl_X10_22 rfl dX10_copy_103 rfl ?_
                    refine sim_iload_n 3 dX10_copy_106 rfl rfl ?_
                    refine sim_iaload (k := 57) (hL 57 rfl) rfl rfl dX10_copy_107 rfl ?_
                    refine sim_i2l dX10_copy_108 rfl ?_
                    refine sim_lcmp dX10_copy_109 rfl ?_
                    refine sim_if_le 119 dX10_copy_110 rfl rfl (fun _ => ?_) (fun _ => ?_)
                    · refine sim_iconst (0 : Int32) dX10_copy_119 rfl rfl ?_
                      refine sim_istore [(6, .int (0 : Int32)), (0, .ref (Ea E 50)), (1, .int v1), (2, .int v2), (3, .int v3), (4, .int v4), (5, .int v5)] dX10_copy_120 (Nat.le_of_ble_eq_true rfl) rfl rfl ?_
                      exact sim_sub [1, 2, 3, 4, 5, 6, 0] rfl (sl_X10_copy_122 hL (sf_X10_copy_156 hL) FU v1 v2 v3 v4 v5 (0 : Int32) w4)
                    · exact sim_sub [0] rfl (sf_X10_copy_113 hL w4)
          · refine sim_aload_n 0 dX10_copy_58 rfl rfl ?_
            refine sim_iconst (4 : Int32) dX10_copy_59 rfl rfl ?_
            refine sim_cVi (k := 50) (ci := 8) [.int (4 : Int32)] [] (c_X10_met hL (4 : Int32) w4) (hL 50 rfl) rfl (by decide) rfl cb_X10_169 im_X10_met se_X10_met rfl rfl rfl (Nat.le_of_ble_eq_true rfl) dX10_copy_60 rfl (fun x11 w12 => ?_)
            exact sim_iret rfl dX10_copy_63
        · exact sim_sub [0] rfl (sf_X10_copy_37 hL w4)
    · exact sim_sub [] rfl (sf_X10_copy_16 hL w4)
def f_X10_sideOf (v0 : Int32) (w : Wd) : Option (Int32 × Wd) :=
  some ((((v0 - (1 : Int32)) >>> ((4 : Int32) &&& 31)) &&& (1 : Int32)), w)
set_option maxRecDepth 20000 in
theorem c_X10_sideOf {E : Ev} (hL : LM E) (v0 : Int32) (w : Wd) : Ct E m_X10_sideOf yX10_sideOf rI [.int v0] w (f_X10_sideOf v0 w) := by
  refine Ct.of (by decide) ⟨rfl, rfl⟩ (Nat.le_of_ble_eq_true rfl) ?_
  show Sim E m_X10_sideOf rI 0 [(0, .int v0)] [] w (f_X10_sideOf v0 w)
  unfold f_X10_sideOf
  refine sim_iload_n 0 dX10_sideOf_0 rfl rfl ?_
  refine sim_iconst (1 : Int32) dX10_sideOf_1 rfl rfl ?_
  refine sim_isub dX10_sideOf_2 rfl ?_
  refine sim_iconst (4 : Int32) dX10_sideOf_3 rfl rfl ?_
  refine sim_ishr dX10_sideOf_4 rfl ?_
  refine sim_iconst (1 : Int32) dX10_sideOf_5 rfl rfl ?_
  refine sim_iand dX10_sideOf_6 rfl ?_
  exact sim_iret rfl dX10_sideOf_7
def f_X10_kindOf (v0 : Int32) (w : Wd) : Option (Int32 × Wd) :=
  some (((v0 - (1 : Int32)) &&& (7 : Int32)), w)
set_option maxRecDepth 20000 in
theorem c_X10_kindOf {E : Ev} (hL : LM E) (v0 : Int32) (w : Wd) : Ct E m_X10_kindOf yX10_kindOf rI [.int v0] w (f_X10_kindOf v0 w) := by
  refine Ct.of (by decide) ⟨rfl, rfl⟩ (Nat.le_of_ble_eq_true rfl) ?_
  show Sim E m_X10_kindOf rI 0 [(0, .int v0)] [] w (f_X10_kindOf v0 w)
  unfold f_X10_kindOf
  refine sim_iload_n 0 dX10_kindOf_0 rfl rfl ?_
  refine sim_iconst (1 : Int32) dX10_kindOf_1 rfl rfl ?_
  refine sim_isub dX10_kindOf_2 rfl ?_
  refine sim_bipush (7 : Int32) dX10_kindOf_3 rfl rfl ?_
  refine sim_iand dX10_kindOf_5 rfl ?_
  exact sim_iret rfl dX10_kindOf_6
def f_X10_isRaised_14 (s0 : Int32) (w : Wd) : Option (Int32 × Wd) :=
  if zb s0 = true then some (s0, w) else none
set_option maxRecDepth 20000 in
theorem sf_X10_isRaised_14 {E : Ev} (hL : LM E) (s0 : Int32) (w : Wd) : Sim E m_X10_isRaised rI 14 [] [.int s0] w (f_X10_isRaised_14 s0 w) := by
  unfold f_X10_isRaised_14
  exact sim_zret rfl dX10_isRaised_14
def f_X10_isRaised (v0 : Int32) (w : Wd) : Option (Int32 × Wd) :=
  if ((v0 - (1 : Int32)) &&& (8 : Int32)) = (0 : Int32) then
  f_X10_isRaised_14 (0 : Int32) w
  else
  f_X10_isRaised_14 (1 : Int32) w
set_option maxRecDepth 20000 in
theorem c_X10_isRaised {E : Ev} (hL : LM E) (v0 : Int32) (w : Wd) : Ct E m_X10_isRaised yX10_isRaised rI [.int v0] w (f_X10_isRaised v0 w) := by
  refine Ct.of (by decide) ⟨rfl, rfl⟩ (Nat.le_of_ble_eq_true rfl) ?_
  show Sim E m_X10_isRaised rI 0 [(0, .int v0)] [] w (f_X10_isRaised v0 w)
  unfold f_X10_isRaised
  refine sim_iload_n 0 dX10_isRaised_0 rfl rfl ?_
  refine sim_iconst (1 : Int32) dX10_isRaised_1 rfl rfl ?_
  refine sim_isub dX10_isRaised_2 rfl ?_
  refine sim_bipush (8 : Int32) dX10_isRaised_3 rfl rfl ?_
  refine sim_iand dX10_isRaised_5 rfl ?_
  refine sim_if_eq 13 dX10_isRaised_6 rfl rfl (fun _ => ?_) (fun _ => ?_)
  · refine sim_iconst (0 : Int32) dX10_isRaised_13 rfl rfl ?_
    exact sim_sub [] rfl (sf_X10_isRaised_14 hL (0 : Int32) w)
  · refine sim_iconst (1 : Int32) dX10_isRaised_9 rfl rfl ?_
    refine sim_goto (q := 14) dX10_isRaised_10 rfl ?_
    exact sim_sub [] rfl (sf_X10_isRaised_14 hL (1 : Int32) w)
def f_X10_rowsOf_42 (s0 : Int32) (w : Wd) : Option (Int32 × Wd) :=
  some (s0, w)
set_option maxRecDepth 20000 in
theorem sf_X10_rowsOf_42 {E : Ev} (hL : LM E) (s0 : Int32) (w : Wd) : Sim E m_X10_rowsOf rI 42 [] [.int s0] w (f_X10_rowsOf_42 s0 w) := by
  unfold f_X10_rowsOf_42
  exact sim_iret rfl dX10_rowsOf_42
def f_X10_rowsOf_11 (w : Wd) : Option (Int32 × Wd) :=
  f_X10_rowsOf_42 (-1 : Int32) w
set_option maxRecDepth 20000 in
theorem sf_X10_rowsOf_11 {E : Ev} (hL : LM E) (w : Wd) : Sim E m_X10_rowsOf rI 11 [] [] w (f_X10_rowsOf_11 w) := by
  unfold f_X10_rowsOf_11
  refine sim_iconst (-1 : Int32) dX10_rowsOf_11 rfl rfl ?_
  refine sim_goto (q := 42) dX10_rowsOf_12 rfl ?_
  exact sim_sub [] rfl (sf_X10_rowsOf_42 hL (-1 : Int32) w)
def f_X10_rowsOf_26 (w : Wd) : Option (Int32 × Wd) :=
  f_X10_rowsOf_42 (0 : Int32) w
set_option maxRecDepth 20000 in
theorem sf_X10_rowsOf_26 {E : Ev} (hL : LM E) (w : Wd) : Sim E m_X10_rowsOf rI 26 [] [] w (f_X10_rowsOf_26 w) := by
  unfold f_X10_rowsOf_26
  refine sim_iconst (0 : Int32) dX10_rowsOf_26 rfl rfl ?_
  refine sim_goto (q := 42) dX10_rowsOf_27 rfl ?_
  exact sim_sub [] rfl (sf_X10_rowsOf_42 hL (0 : Int32) w)
def f_X10_rowsOf (v0 : Int32) (w : Wd) : Option (Int32 × Wd) :=
  if v0 = (7 : Int32) then
  f_X10_rowsOf_11 w
  else
  if (2 : Int32) ≤ v0 then
  if v0 = (2 : Int32) then
  f_X10_rowsOf_26 w
  else
  if v0 = (6 : Int32) then
  f_X10_rowsOf_26 w
  else
  if (6 : Int32) ≤ v0 then
  f_X10_rowsOf_42 (-2 : Int32) w
  else
  f_X10_rowsOf_42 (1 : Int32) w
  else
  f_X10_rowsOf_11 w
set_option maxRecDepth 20000 in
theorem c_X10_rowsOf {E : Ev} (hL : LM E) (v0 : Int32) (w : Wd) : Ct E m_X10_rowsOf yX10_rowsOf rI [.int v0] w (f_X10_rowsOf v0 w) := by
  refine Ct.of (by decide) ⟨rfl, rfl⟩ (Nat.le_of_ble_eq_true rfl) ?_
  show Sim E m_X10_rowsOf rI 0 [(0, .int v0)] [] w (f_X10_rowsOf v0 w)
  unfold f_X10_rowsOf
  refine sim_iload_n 0 dX10_rowsOf_0 rfl rfl ?_
  refine sim_bipush (7 : Int32) dX10_rowsOf_1 rfl rfl ?_
  refine sim_icmp_eq 11 dX10_rowsOf_3 rfl rfl (fun _ => ?_) (fun _ => ?_)
  · exact sim_sub [] rfl (sf_X10_rowsOf_11 hL w)
  · refine sim_iload_n 0 dX10_rowsOf_6 rfl rfl ?_
    refine sim_iconst (2 : Int32) dX10_rowsOf_7 rfl rfl ?_
    refine sim_icmp_ge 15 dX10_rowsOf_8 rfl rfl (fun _ => ?_) (fun _ => ?_)
    · refine sim_iload_n 0 dX10_rowsOf_15 rfl rfl ?_
      refine sim_iconst (2 : Int32) dX10_rowsOf_16 rfl rfl ?_
      refine sim_icmp_eq 26 dX10_rowsOf_17 rfl rfl (fun _ => ?_) (fun _ => ?_)
      · exact sim_sub [] rfl (sf_X10_rowsOf_26 hL w)
      · refine sim_iload_n 0 dX10_rowsOf_20 rfl rfl ?_
        refine sim_bipush (6 : Int32) dX10_rowsOf_21 rfl rfl ?_
        refine sim_icmp_ne 30 dX10_rowsOf_23 rfl rfl (fun _ => ?_) (fun _ => ?_)
        · refine sim_iload_n 0 dX10_rowsOf_30 rfl rfl ?_
          refine sim_bipush (6 : Int32) dX10_rowsOf_31 rfl rfl ?_
          refine sim_icmp_ge 40 dX10_rowsOf_33 rfl rfl (fun _ => ?_) (fun _ => ?_)
          · refine sim_bipush (-2 : Int32) dX10_rowsOf_40 rfl rfl ?_
            exact sim_sub [] rfl (sf_X10_rowsOf_42 hL (-2 : Int32) w)
          · refine sim_iconst (1 : Int32) dX10_rowsOf_36 rfl rfl ?_
            refine sim_goto (q := 42) dX10_rowsOf_37 rfl ?_
            exact sim_sub [] rfl (sf_X10_rowsOf_42 hL (1 : Int32) w)
        · exact sim_sub [] rfl (sf_X10_rowsOf_26 hL w)
    · exact sim_sub [] rfl (sf_X10_rowsOf_11 hL w)
def f_X10_columnsOf_29 (s0 : Int32) (w : Wd) : Option (Int32 × Wd) :=
  some (s0, w)
set_option maxRecDepth 20000 in
theorem sf_X10_columnsOf_29 {E : Ev} (hL : LM E) (s0 : Int32) (w : Wd) : Sim E m_X10_columnsOf rI 29 [] [.int s0] w (f_X10_columnsOf_29 s0 w) := by
  unfold f_X10_columnsOf_29
  exact sim_iret rfl dX10_columnsOf_29
def f_X10_columnsOf_9 (w : Wd) : Option (Int32 × Wd) :=
  f_X10_columnsOf_29 (0 : Int32) w
set_option maxRecDepth 20000 in
theorem sf_X10_columnsOf_9 {E : Ev} (hL : LM E) (w : Wd) : Sim E m_X10_columnsOf rI 9 [] [] w (f_X10_columnsOf_9 w) := by
  unfold f_X10_columnsOf_9
  refine sim_iconst (0 : Int32) dX10_columnsOf_9 rfl rfl ?_
  refine sim_goto (q := 29) dX10_columnsOf_10 rfl ?_
  exact sim_sub [] rfl (sf_X10_columnsOf_29 hL (0 : Int32) w)
def f_X10_columnsOf_24 (w : Wd) : Option (Int32 × Wd) :=
  f_X10_columnsOf_29 (1 : Int32) w
set_option maxRecDepth 20000 in
theorem sf_X10_columnsOf_24 {E : Ev} (hL : LM E) (w : Wd) : Sim E m_X10_columnsOf rI 24 [] [] w (f_X10_columnsOf_24 w) := by
  unfold f_X10_columnsOf_24
  refine sim_iconst (1 : Int32) dX10_columnsOf_24 rfl rfl ?_
  refine sim_goto (q := 29) dX10_columnsOf_25 rfl ?_
  exact sim_sub [] rfl (sf_X10_columnsOf_29 hL (1 : Int32) w)
def f_X10_columnsOf (v0 : Int32) (w : Wd) : Option (Int32 × Wd) :=
  if v0 = (0 : Int32) then
  f_X10_columnsOf_9 w
  else
  if v0 = (4 : Int32) then
  f_X10_columnsOf_9 w
  else
  if v0 < (4 : Int32) then
  f_X10_columnsOf_24 w
  else
  if v0 = (8 : Int32) then
  f_X10_columnsOf_24 w
  else
  f_X10_columnsOf_29 (-1 : Int32) w
set_option maxRecDepth 20000 in
theorem c_X10_columnsOf {E : Ev} (hL : LM E) (v0 : Int32) (w : Wd) : Ct E m_X10_columnsOf yX10_columnsOf rI [.int v0] w (f_X10_columnsOf v0 w) := by
  refine Ct.of (by decide) ⟨rfl, rfl⟩ (Nat.le_of_ble_eq_true rfl) ?_
  show Sim E m_X10_columnsOf rI 0 [(0, .int v0)] [] w (f_X10_columnsOf v0 w)
  unfold f_X10_columnsOf
  refine sim_iload_n 0 dX10_columnsOf_0 rfl rfl ?_
  refine sim_if_eq 9 dX10_columnsOf_1 rfl rfl (fun _ => ?_) (fun _ => ?_)
  · exact sim_sub [] rfl (sf_X10_columnsOf_9 hL w)
  · refine sim_iload_n 0 dX10_columnsOf_4 rfl rfl ?_
    refine sim_iconst (4 : Int32) dX10_columnsOf_5 rfl rfl ?_
    refine sim_icmp_ne 13 dX10_columnsOf_6 rfl rfl (fun _ => ?_) (fun _ => ?_)
    · refine sim_iload_n 0 dX10_columnsOf_13 rfl rfl ?_
      refine sim_iconst (4 : Int32) dX10_columnsOf_14 rfl rfl ?_
      refine sim_icmp_lt 24 dX10_columnsOf_15 rfl rfl (fun _ => ?_) (fun _ => ?_)
      · exact sim_sub [] rfl (sf_X10_columnsOf_24 hL w)
      · refine sim_iload_n 0 dX10_columnsOf_18 rfl rfl ?_
        refine sim_bipush (8 : Int32) dX10_columnsOf_19 rfl rfl ?_
        refine sim_icmp_ne 28 dX10_columnsOf_21 rfl rfl (fun _ => ?_) (fun _ => ?_)
        · refine sim_iconst (-1 : Int32) dX10_columnsOf_28 rfl rfl ?_
          exact sim_sub [] rfl (sf_X10_columnsOf_29 hL (-1 : Int32) w)
        · exact sim_sub [] rfl (sf_X10_columnsOf_24 hL w)
    · exact sim_sub [] rfl (sf_X10_columnsOf_9 hL w)
def f_X10_along_98 (s0 : Int32) (w : Wd) : Option (Int32 × Wd) :=
  some (s0, w)
set_option maxRecDepth 20000 in
theorem sf_X10_along_98 {E : Ev} (hL : LM E) (s0 : Int32) (w : Wd) : Sim E m_X10_along rI 98 [] [.int s0] w (f_X10_along_98 s0 w) := by
  unfold f_X10_along_98
  exact sim_iret rfl dX10_along_98
def f_X10_along_97 (w : Wd) : Option (Int32 × Wd) :=
  f_X10_along_98 (-1 : Int32) w
set_option maxRecDepth 20000 in
theorem sf_X10_along_97 {E : Ev} (hL : LM E) (w : Wd) : Sim E m_X10_along rI 97 [] [] w (f_X10_along_97 w) := by
  unfold f_X10_along_97
  refine sim_iconst (-1 : Int32) dX10_along_97 rfl rfl ?_
  exact sim_sub [] rfl (sf_X10_along_98 hL (-1 : Int32) w)
def f_X10_along_47 (v4 : Int32) (s0 : Int32) (s1 : Int32) (w : Wd) : Option (Int32 × Wd) :=
  lt (s0 + s1) fun x6 =>
  bd (f_X10_in (Int32.toInt64 v4) (0 : Int64) (Int32.toInt64 ((w.1 50 0) - (1 : Int32))) w) fun x7 w8 =>
  if x7 = (0 : Int32) then
  f_X10_along_97 w8
  else
  bd (f_X10_in (Int32.toInt64 x6) (0 : Int64) (Int32.toInt64 ((w8.1 50 0) - (1 : Int32))) w8) fun x9 w10 =>
  if x9 = (0 : Int32) then
  f_X10_along_97 w10
  else
  f_X10_along_98 (((w10.1 50 0) * v4) + x6) w10
set_option maxRecDepth 20000 in
theorem sf_X10_along_47 {E : Ev} (hL : LM E) (v4 : Int32) (s0 : Int32) (s1 : Int32) (w : Wd) : Sim E m_X10_along rI 47 [(0, .ref (Ea E 50)), (4, .int v4)] [.int s1, .int s0] w (f_X10_along_47 v4 s0 s1 w) := by
  unfold f_X10_along_47
  refine sim_iadd dX10_along_47 rfl ?_
  refine sim_lt (fun x6 => ?_)
  refine sim_istore [(5, .int x6), (0, .ref (Ea E 50)), (4, .int v4)] dX10_along_48 (Nat.le_of_ble_eq_true rfl) rfl rfl ?_
  refine sim_iload 2 dX10_along_50 rfl rfl ?_
  refine sim_i2l dX10_along_52 rfl ?_
  refine sim_lconst (0 : Int64) dX10_along_53 rfl rfl ?_
  refine sim_aload_n 1 dX10_along_54 rfl rfl ?_
  refine sim_get (k := 50) (ci := 8) (j := 0) (v := .int (w.1 50 0)) (hL 50 rfl) rfl (by decide) fl_X10_143 rfl dX10_along_55 rfl ?_
  refine sim_iconst (1 : Int32) dX10_along_58 rfl rfl ?_
  refine sim_isub dX10_along_59 rfl ?_
  refine sim_i2l dX10_along_60 rfl ?_
  refine sim_cSi [.long (Int32.toInt64 v4), .long (0 : Int64), .long (Int32.toInt64 ((w.1 50 0) - (1 : Int32)))] [] (c_X10_in hL (Int32.toInt64 v4) (0 : Int64) (Int32.toInt64 ((w.1 50 0) - (1 : Int32))) w) cb_X10_139 sx_X10_in rfl rfl rfl (Nat.le_of_ble_eq_true rfl) dX10_along_61 rfl (fun x7 w8 => ?_)
  refine sim_if_eq 97 dX10_along_64 rfl rfl (fun _ => ?_) (fun _ => ?_)
  · exact sim_sub [] rfl (sf_X10_along_97 hL w8)
  · refine sim_iload 0 dX10_along_67 rfl rfl ?_
    refine sim_i2l dX10_along_69 rfl ?_
    refine sim_lconst (0 : Int64) dX10_along_70 rfl rfl ?_
    refine sim_aload_n 1 dX10_along_71 rfl rfl ?_
    refine sim_get (k := 50) (ci := 8) (j := 0) (v := .int (w8.1 50 0)) (hL 50 rfl) rfl (by decide) fl_X10_143 rfl dX10_along_72 rfl ?_
    refine sim_iconst (1 : Int32) dX10_along_75 rfl rfl ?_
    refine sim_isub dX10_along_76 rfl ?_
    refine sim_i2l dX10_along_77 rfl ?_
    refine sim_cSi [.long (Int32.toInt64 x6), .long (0 : Int64), .long (Int32.toInt64 ((w8.1 50 0) - (1 : Int32)))] [] (c_X10_in hL (Int32.toInt64 x6) (0 : Int64) (Int32.toInt64 ((w8.1 50 0) - (1 : Int32))) w8) cb_X10_139 sx_X10_in rfl rfl rfl (Nat.le_of_ble_eq_true rfl) dX10_along_78 rfl (fun x9 w10 => ?_)
    refine sim_if_eq 97 dX10_along_81 rfl rfl (fun _ => ?_) (fun _ => ?_)
    · exact sim_sub [] rfl (sf_X10_along_97 hL w10)
    · refine sim_aload_n 1 dX10_along_84 rfl rfl ?_
      refine sim_get (k := 50) (ci := 8) (j := 0) (v := .int (w10.1 50 0)) (hL 50 rfl) rfl (by decide) fl_X10_143 rfl dX10_along_85 rfl ?_
      refine sim_iload 2 dX10_along_88 rfl rfl ?_
      refine sim_imul dX10_along_90 rfl ?_
      refine sim_iload 0 dX10_along_91 rfl rfl ?_
      refine sim_iadd dX10_along_93 rfl ?_
      refine sim_goto (q := 98) dX10_along_94 rfl ?_
      exact sim_sub [] rfl (sf_X10_along_98 hL (((w10.1 50 0) * v4) + x6) w10)
def f_X10_along_22 (v1 : Int32) (v2 : Int32) (v3 : Int32) (s0 : Int32) (s1 : Int32) (w : Wd) : Option (Int32 × Wd) :=
  lt (s0 + s1) fun x3 =>
  if ¬ (w.1 50 0) = (0 : Int32) then
  if v3 = (0 : Int32) then
  bd (f_X10_columnsOf v2 w) fun x11 w12 =>
  f_X10_along_47 x3 (v1 - v1 / (w.1 50 0) * (w.1 50 0)) x11 w12
  else
  bd (f_X10_columnsOf v2 w) fun x4 w5 =>
  f_X10_along_47 x3 (v1 - v1 / (w.1 50 0) * (w.1 50 0)) (-x4) w5
  else none
set_option maxRecDepth 20000 in
theorem sf_X10_along_22 {E : Ev} (hL : LM E) (v1 : Int32) (v2 : Int32) (v3 : Int32) (s0 : Int32) (s1 : Int32) (w : Wd) : Sim E m_X10_along rI 22 [(0, .ref (Ea E 50)), (1, .int v1), (2, .int v2), (3, .int v3)] [.int s1, .int s0] w (f_X10_along_22 v1 v2 v3 s0 s1 w) := by
  unfold f_X10_along_22
  refine sim_iadd dX10_along_22 rfl ?_
  refine sim_lt (fun x3 => ?_)
  refine sim_istore [(4, .int x3), (0, .ref (Ea E 50)), (1, .int v1), (2, .int v2), (3, .int v3)] dX10_along_23 (Nat.le_of_ble_eq_true rfl) rfl rfl ?_
  refine sim_iload_n 2 dX10_along_25 rfl rfl ?_
  refine sim_aload_n 1 dX10_along_26 rfl rfl ?_
  refine sim_get (k := 50) (ci := 8) (j := 0) (v := .int (w.1 50 0)) (hL 50 rfl) rfl (by decide) fl_X10_143 rfl dX10_along_27 rfl ?_
  refine sim_irem dX10_along_30 rfl ?_
  refine sim_iload_n 4 dX10_along_31 rfl rfl ?_
  refine sim_if_ne 42 dX10_along_32 rfl rfl (fun _ => ?_) (fun _ => ?_)
  · refine sim_iload_n 3 dX10_along_42 rfl rfl ?_
    refine sim_cSi [.int v2] [.int (v1 - v1 / (w.1 50 0) * (w.1 50 0))] (c_X10_columnsOf hL v2 w) cb_X10_181 sx_X10_columnsOf rfl rfl rfl (Nat.le_of_ble_eq_true rfl) dX10_along_43 rfl (fun x4 w5 => ?_)
    refine sim_ineg dX10_along_46 rfl ?_
    exact sim_sub [1, 0] rfl (sf_X10_along_47 hL x3 (v1 - v1 / (w.1 50 0) * (w.1 50 0)) (-x4) w5)
  · refine sim_iload_n 3 dX10_along_35 rfl rfl ?_
    refine sim_cSi [.int v2] [.int (v1 - v1 / (w.1 50 0) * (w.1 50 0))] (c_X10_columnsOf hL v2 w) cb_X10_181 sx_X10_columnsOf rfl rfl rfl (Nat.le_of_ble_eq_true rfl) dX10_along_36 rfl (fun x11 w12 => ?_)
    refine sim_goto (q := 47) dX10_along_39 rfl ?_
    exact sim_sub [1, 0] rfl (sf_X10_along_47 hL x3 (v1 - v1 / (w.1 50 0) * (w.1 50 0)) x11 w12)
def f_X10_along (v1 : Int32) (v2 : Int32) (v3 : Int32) (w : Wd) : Option (Int32 × Wd) :=
  if ¬ (w.1 50 0) = (0 : Int32) then
  if v3 = (0 : Int32) then
  bd (f_X10_rowsOf v2 w) fun x13 w14 =>
  f_X10_along_22 v1 v2 v3 (v1 / (w.1 50 0)) x13 w14
  else
  bd (f_X10_rowsOf v2 w) fun x1 w2 =>
  f_X10_along_22 v1 v2 v3 (v1 / (w.1 50 0)) (-x1) w2
  else none
set_option maxRecDepth 20000 in
theorem c_X10_along {E : Ev} (hL : LM E) (v1 : Int32) (v2 : Int32) (v3 : Int32) (w : Wd) : Ct E m_X10_along yX10_along rI [.ref (Ea E 50), .int v1, .int v2, .int v3] w (f_X10_along v1 v2 v3 w) := by
  refine Ct.of (by decide) ⟨rfl, rfl⟩ (Nat.le_of_ble_eq_true rfl) ?_
  show Sim E m_X10_along rI 0 [(0, .ref (Ea E 50)), (1, .int v1), (2, .int v2), (3, .int v3)] [] w (f_X10_along v1 v2 v3 w)
  unfold f_X10_along
  refine sim_iload_n 1 dX10_along_0 rfl rfl ?_
  refine sim_aload_n 0 dX10_along_1 rfl rfl ?_
  refine sim_get (k := 50) (ci := 8) (j := 0) (v := .int (w.1 50 0)) (hL 50 rfl) rfl (by decide) fl_X10_143 rfl dX10_along_2 rfl ?_
  refine sim_idiv dX10_along_5 rfl ?_
  refine sim_iload_n 3 dX10_along_6 rfl rfl ?_
  refine sim_if_ne 17 dX10_along_7 rfl rfl (fun _ => ?_) (fun _ => ?_)
  · refine sim_iload_n 2 dX10_along_17 rfl rfl ?_
    refine sim_cSi [.int v2] [.int (v1 / (w.1 50 0))] (c_X10_rowsOf hL v2 w) cb_X10_178 sx_X10_rowsOf rfl rfl rfl (Nat.le_of_ble_eq_true rfl) dX10_along_18 rfl (fun x1 w2 => ?_)
    refine sim_ineg dX10_along_21 rfl ?_
    exact sim_sub [0, 1, 2, 3] rfl (sf_X10_along_22 hL v1 v2 v3 (v1 / (w.1 50 0)) (-x1) w2)
  · refine sim_iload_n 2 dX10_along_10 rfl rfl ?_
    refine sim_cSi [.int v2] [.int (v1 / (w.1 50 0))] (c_X10_rowsOf hL v2 w) cb_X10_178 sx_X10_rowsOf rfl rfl rfl (Nat.le_of_ble_eq_true rfl) dX10_along_11 rfl (fun x13 w14 => ?_)
    refine sim_goto (q := 22) dX10_along_14 rfl ?_
    exact sim_sub [0, 1, 2, 3] rfl (sf_X10_along_22 hL v1 v2 v3 (v1 / (w.1 50 0)) x13 w14)
def f_X10_comesTo_36 (w : Wd) : Option (Unit × Wd) :=
  some ((), w)
set_option maxRecDepth 20000 in
theorem sf_X10_comesTo_36 {E : Ev} (hL : LM E) (w : Wd) : Sim E m_X10_comesTo rV 36 [] [] w (f_X10_comesTo_36 w) := by
  unfold f_X10_comesTo_36
  exact sim_vret rfl dX10_comesTo_36
def f_X10_comesTo (v1 : Int32) (w : Wd) : Option (Unit × Wd) :=
  if inb v1 49 = true then
  if (w.1 75 (Int32.toNatClampNeg v1)) = (0 : Int32) then
  if inb v1 49 = true then
  lw (wdI w 75 (Int32.toNatClampNeg v1) (vp_nar .boolean (1 : Int32))) fun w1 =>
  if inb (w1.1 50 22) 64 = true then
  lw (wdI w1 74 (Int32.toNatClampNeg (w1.1 50 22)) v1) fun w2 =>
  lw (wdI w2 50 22 ((w2.1 50 22) + (1 : Int32))) fun w3 =>
  f_X10_comesTo_36 w3
  else none
  else none
  else
  f_X10_comesTo_36 w
  else none
set_option maxRecDepth 20000 in
theorem c_X10_comesTo {E : Ev} (hL : LM E) (v1 : Int32) (w : Wd) : Ct E m_X10_comesTo yX10_comesTo rV [.ref (Ea E 50), .int v1] w (f_X10_comesTo v1 w) := by
  refine Ct.of (by decide) ⟨rfl, rfl⟩ (Nat.le_of_ble_eq_true rfl) ?_
  show Sim E m_X10_comesTo rV 0 [(0, .ref (Ea E 50)), (1, .int v1)] [] w (f_X10_comesTo v1 w)
  unfold f_X10_comesTo
  refine sim_aload_n 0 dX10_comesTo_0 rfl rfl ?_
  refine sim_get (k := 50) (ci := 8) (j := 24) (v := .ref (Ea E 75)) (hL 50 rfl) rfl (by decide) fl_X10_73 rfl dX10_comesTo_1 rfl ?_
  refine sim_iload_n 1 dX10_comesTo_4 rfl rfl ?_
  refine sim_baload (k := 75) (hL 75 rfl) rfl rfl dX10_comesTo_5 rfl ?_
  refine sim_if_ne 36 dX10_comesTo_6 rfl rfl (fun _ => ?_) (fun _ => ?_)
  · exact sim_sub [] rfl (sf_X10_comesTo_36 hL w)
  · refine sim_aload_n 0 dX10_comesTo_9 rfl rfl ?_
    refine sim_get (k := 50) (ci := 8) (j := 24) (v := .ref (Ea E 75)) (hL 50 rfl) rfl (by decide) fl_X10_73 rfl dX10_comesTo_10 rfl ?_
    refine sim_iload_n 1 dX10_comesTo_13 rfl rfl ?_
    refine sim_iconst (1 : Int32) dX10_comesTo_14 rfl rfl ?_
    refine sim_bastore (k := 75) (hL 75 rfl) rfl rfl dX10_comesTo_15 rfl ?_
    refine sim_lw (fun w1 => ?_)
    refine sim_aload_n 0 dX10_comesTo_16 rfl rfl ?_
    refine sim_get (k := 50) (ci := 8) (j := 23) (v := .ref (Ea E 74)) (hL 50 rfl) rfl (by decide) fl_X10_70 rfl dX10_comesTo_17 rfl ?_
    refine sim_aload_n 0 dX10_comesTo_20 rfl rfl ?_
    refine sim_get (k := 50) (ci := 8) (j := 22) (v := .int (w1.1 50 22)) (hL 50 rfl) rfl (by decide) fl_X10_184 rfl dX10_comesTo_21 rfl ?_
    refine sim_iload_n 1 dX10_comesTo_24 rfl rfl ?_
    refine sim_iastore (k := 74) (hL 74 rfl) rfl rfl dX10_comesTo_25 rfl ?_
    refine sim_lw (fun w2 => ?_)
    refine sim_aload_n 0 dX10_comesTo_26 rfl rfl ?_
    refine sim_dup dX10_comesTo_27 rfl rfl ?_
    refine sim_get (k := 50) (ci := 8) (j := 22) (v := .int (w2.1 50 22)) (hL 50 rfl) rfl (by decide) fl_X10_184 rfl dX10_comesTo_28 rfl ?_
    refine sim_iconst (1 : Int32) dX10_comesTo_31 rfl rfl ?_
    refine sim_iadd dX10_comesTo_32 rfl ?_
    refine sim_put (k := 50) (ci := 8) (j := 22) (hL 50 rfl) rfl (by decide) fp_X10_184 rfl rfl (st_50_22 _ _ _) (Nat.le_of_ble_eq_true rfl) dX10_comesTo_33 rfl ?_
    refine sim_lw (fun w3 => ?_)
    exact sim_sub [] rfl (sf_X10_comesTo_36 hL w3)
def b_X10_reaches_34 (R : Int32 → Int32 → Int32 → Int32 → Int32 → Wd → Option (Unit × Wd)) (K55 : Int32 → Int32 → Int32 → Int32 → Wd → Option (Unit × Wd)) (v1 : Int32) (v2 : Int32) (v4 : Int32) (v5 : Int32) (v6 : Int32) (w : Wd) : Option (Unit × Wd) :=
  if (49 : Int32) ≤ v6 then
  K55 v1 v2 v4 v5 w
  else
  if inb v6 49 = true then
  lw (wdI w 75 (Int32.toNatClampNeg v6) (vp_nar .boolean (0 : Int32))) fun w9 =>
  R v1 v2 v4 v5 (v6 + (1 : Int32)) w9
  else none
set_option maxRecDepth 20000 in
theorem sb_X10_reaches_34 {E : Ev} (hL : LM E) {R : Int32 → Int32 → Int32 → Int32 → Int32 → Wd → Option (Unit × Wd)} (hR : ∀ (v1 : Int32) (v2 : Int32) (v4 : Int32) (v5 : Int32) (v6 : Int32) (w : Wd), Sim E m_X10_reaches rV 34 [(0, .ref (Ea E 50)), (1, .int v1), (2, .int v2), (4, .int v4), (5, .int v5), (6, .int v6)] [] w (R v1 v2 v4 v5 v6 w)) {K55 : Int32 → Int32 → Int32 → Int32 → Wd → Option (Unit × Wd)} (hK55 : ∀ (v1 : Int32) (v2 : Int32) (v4 : Int32) (v5 : Int32) (w : Wd), Sim E m_X10_reaches rV 55 [(0, .ref (Ea E 50)), (1, .int v1), (2, .int v2), (4, .int v4), (5, .int v5)] [] w (K55 v1 v2 v4 v5 w)) (v1 : Int32) (v2 : Int32) (v4 : Int32) (v5 : Int32) (v6 : Int32) (w : Wd) : Sim E m_X10_reaches rV 34 [(0, .ref (Ea E 50)), (1, .int v1), (2, .int v2), (4, .int v4), (5, .int v5), (6, .int v6)] [] w (b_X10_reaches_34 R K55 v1 v2 v4 v5 v6 w) := by
  unfold b_X10_reaches_34
  refine sim_iload 5 dX10_reaches_34 rfl rfl ?_
  refine sim_bipush (49 : Int32) dX10_reaches_36 rfl rfl ?_
  refine sim_icmp_ge 55 dX10_reaches_38 rfl rfl (fun _ => ?_) (fun _ => ?_)
  · exact sim_sub [0, 1, 2, 3, 4] rfl (hK55 v1 v2 v4 v5 w)
  · refine sim_aload_n 0 dX10_reaches_41 rfl rfl ?_
    refine sim_get (k := 50) (ci := 8) (j := 24) (v := .ref (Ea E 75)) (hL 50 rfl) rfl (by decide) fl_X10_73 rfl dX10_reaches_42 rfl ?_
    refine sim_iload 5 dX10_reaches_45 rfl rfl ?_
    refine sim_iconst (0 : Int32) dX10_reaches_47 rfl rfl ?_
    refine sim_bastore (k := 75) (hL 75 rfl) rfl rfl dX10_reaches_48 rfl ?_
    refine sim_lw (fun w9 => ?_)
    refine sim_iinc (v6 + (1 : Int32)) 5 [(6, .int (v6 + (1 : Int32))), (0, .ref (Ea E 50)), (1, .int v1), (2, .int v2), (4, .int v4), (5, .int v5)] dX10_reaches_49 rfl rfl (Nat.le_of_ble_eq_true rfl) rfl rfl ?_
    refine sim_goto (q := 34) dX10_reaches_52 rfl ?_
    exact sim_sub [1, 2, 3, 4, 5, 0] rfl (hR v1 v2 v4 v5 (v6 + (1 : Int32)) w9)
def l_X10_reaches_34 (K55 : Int32 → Int32 → Int32 → Int32 → Wd → Option (Unit × Wd)) (n : Nat) : Int32 → Int32 → Int32 → Int32 → Int32 → Wd → Option (Unit × Wd) := itr (fun _ _ _ _ _ _ => none) (fun R => b_X10_reaches_34 R K55) n
set_option maxRecDepth 20000 in
theorem sl_X10_reaches_34 {E : Ev} (hL : LM E) {K55 : Int32 → Int32 → Int32 → Int32 → Wd → Option (Unit × Wd)} (hK55 : ∀ (v1 : Int32) (v2 : Int32) (v4 : Int32) (v5 : Int32) (w : Wd), Sim E m_X10_reaches rV 55 [(0, .ref (Ea E 50)), (1, .int v1), (2, .int v2), (4, .int v4), (5, .int v5)] [] w (K55 v1 v2 v4 v5 w)) : ∀ (n : Nat) (v1 : Int32) (v2 : Int32) (v4 : Int32) (v5 : Int32) (v6 : Int32) (w : Wd), Sim E m_X10_reaches rV 34 [(0, .ref (Ea E 50)), (1, .int v1), (2, .int v2), (4, .int v4), (5, .int v5), (6, .int v6)] [] w (l_X10_reaches_34 K55 n v1 v2 v4 v5 v6 w) := by
  intro n
  induction n with
  | zero => intros; exact sim_none
  | succ n ih => intros; exact sb_X10_reaches_34 hL (R := l_X10_reaches_34 K55 n) ih hK55 _ _ _ _ _ _
def f_X10_reaches_107 (R : Int32 → Int32 → Int32 → Int32 → Int32 → Wd → Option (Unit × Wd)) (K113 : Int32 → Int32 → Int32 → Int32 → Wd → Option (Unit × Wd)) (v1 : Int32) (v2 : Int32) (v4 : Int32) (v5 : Int32) (v6 : Int32) (w : Wd) : Option (Unit × Wd) :=
  R v1 v2 v4 v5 (v6 + (1 : Int32)) w
set_option maxRecDepth 20000 in
theorem sf_X10_reaches_107 {E : Ev} (hL : LM E) {R : Int32 → Int32 → Int32 → Int32 → Int32 → Wd → Option (Unit × Wd)} (hR : ∀ (v1 : Int32) (v2 : Int32) (v4 : Int32) (v5 : Int32) (v6 : Int32) (w : Wd), Sim E m_X10_reaches rV 58 [(0, .ref (Ea E 50)), (1, .int v1), (2, .int v2), (4, .int v4), (5, .int v5), (6, .int v6)] [] w (R v1 v2 v4 v5 v6 w)) {K113 : Int32 → Int32 → Int32 → Int32 → Wd → Option (Unit × Wd)} (hK113 : ∀ (v1 : Int32) (v2 : Int32) (v4 : Int32) (v5 : Int32) (w : Wd), Sim E m_X10_reaches rV 113 [(0, .ref (Ea E 50)), (1, .int v1), (2, .int v2), (4, .int v4), (5, .int v5)] [] w (K113 v1 v2 v4 v5 w)) (v1 : Int32) (v2 : Int32) (v4 : Int32) (v5 : Int32) (v6 : Int32) (w : Wd) : Sim E m_X10_reaches rV 107 [(0, .ref (Ea E 50)), (1, .int v1), (2, .int v2), (4, .int v4), (5, .int v5), (6, .int v6)] [] w (f_X10_reaches_107 R K113 v1 v2 v4 v5 v6 w) := by
  unfold f_X10_reaches_107
  refine sim_iinc (v6 + (1 : Int32)) 5 [(6, .int (v6 + (1 : Int32))), (0, .ref (Ea E 50)), (1, .int v1), (2, .int v2), (4, .int v4), (5, .int v5)] dX10_reaches_107 rfl rfl (Nat.le_of_ble_eq_true rfl) rfl rfl ?_
  refine sim_goto (q := 58) dX10_reaches_110 rfl ?_
  exact sim_sub [1, 2, 3, 4, 5, 0] rfl (hR v1 v2 v4 v5 (v6 + (1 : Int32)) w)
def f_X10_reaches_94 (R : Int32 → Int32 → Int32 → Int32 → Int32 → Wd → Option (Unit × Wd)) (K113 : Int32 → Int32 → Int32 → Int32 → Wd → Option (Unit × Wd)) (v1 : Int32) (v2 : Int32) (v4 : Int32) (v5 : Int32) (v6 : Int32) (s0 : Int32) (w : Wd) : Option (Unit × Wd) :=
  if s0 < (0 : Int32) then
  f_X10_reaches_107 R K113 v1 v2 v4 v5 v6 w
  else
  bd (f_X10_comesTo s0 w) fun _ w10 =>
  f_X10_reaches_107 R K113 v1 v2 v4 v5 v6 w10
set_option maxRecDepth 20000 in
theorem sf_X10_reaches_94 {E : Ev} (hL : LM E) {R : Int32 → Int32 → Int32 → Int32 → Int32 → Wd → Option (Unit × Wd)} (hR : ∀ (v1 : Int32) (v2 : Int32) (v4 : Int32) (v5 : Int32) (v6 : Int32) (w : Wd), Sim E m_X10_reaches rV 58 [(0, .ref (Ea E 50)), (1, .int v1), (2, .int v2), (4, .int v4), (5, .int v5), (6, .int v6)] [] w (R v1 v2 v4 v5 v6 w)) {K113 : Int32 → Int32 → Int32 → Int32 → Wd → Option (Unit × Wd)} (hK113 : ∀ (v1 : Int32) (v2 : Int32) (v4 : Int32) (v5 : Int32) (w : Wd), Sim E m_X10_reaches rV 113 [(0, .ref (Ea E 50)), (1, .int v1), (2, .int v2), (4, .int v4), (5, .int v5)] [] w (K113 v1 v2 v4 v5 w)) (v1 : Int32) (v2 : Int32) (v4 : Int32) (v5 : Int32) (v6 : Int32) (s0 : Int32) (w : Wd) : Sim E m_X10_reaches rV 94 [(0, .ref (Ea E 50)), (1, .int v1), (2, .int v2), (4, .int v4), (5, .int v5), (6, .int v6)] [.int s0] w (f_X10_reaches_94 R K113 v1 v2 v4 v5 v6 s0 w) := by
  unfold f_X10_reaches_94
  refine sim_istore [(7, .int s0), (0, .ref (Ea E 50)), (1, .int v1), (2, .int v2), (4, .int v4), (5, .int v5), (6, .int v6)] dX10_reaches_94 (Nat.le_of_ble_eq_true rfl) rfl rfl ?_
  refine sim_iload 0 dX10_reaches_96 rfl rfl ?_
  refine sim_if_lt 107 dX10_reaches_98 rfl rfl (fun _ => ?_) (fun _ => ?_)
  · exact sim_sub [1, 2, 3, 4, 5, 6] rfl (sf_X10_reaches_107 hL hR hK113 v1 v2 v4 v5 v6 w)
  · refine sim_aload_n 1 dX10_reaches_101 rfl rfl ?_
    refine sim_iload 0 dX10_reaches_102 rfl rfl ?_
    refine sim_cVv (k := 50) (ci := 8) [.int s0] [] (c_X10_comesTo hL s0 w) (hL 50 rfl) rfl (by decide) rfl cb_X10_199 im_X10_comesTo se_X10_comesTo rfl rfl rfl (Nat.le_of_ble_eq_true rfl) dX10_reaches_104 rfl (fun _ w10 => ?_)
    exact sim_sub [1, 2, 3, 4, 5, 6] rfl (sf_X10_reaches_107 hL hR hK113 v1 v2 v4 v5 v6 w10)
def b_X10_reaches_58 (R : Int32 → Int32 → Int32 → Int32 → Int32 → Wd → Option (Unit × Wd)) (K113 : Int32 → Int32 → Int32 → Int32 → Wd → Option (Unit × Wd)) (v1 : Int32) (v2 : Int32) (v4 : Int32) (v5 : Int32) (v6 : Int32) (w : Wd) : Option (Unit × Wd) :=
  if (10 : Int32) ≤ v6 then
  K113 v1 v2 v4 v5 w
  else
  if inb v4 16 = true then
  if (((w.1 53 (Int32.toNatClampNeg v4)) >>> (v6 &&& 31)) &&& (1 : Int32)) = (1 : Int32) then
  bd (f_X10_along v2 v6 v5 w) fun x11 w12 =>
  f_X10_reaches_94 R K113 v1 v2 v4 v5 v6 x11 w12
  else
  f_X10_reaches_94 R K113 v1 v2 v4 v5 v6 (-1 : Int32) w
  else none
set_option maxRecDepth 20000 in
theorem sb_X10_reaches_58 {E : Ev} (hL : LM E) {R : Int32 → Int32 → Int32 → Int32 → Int32 → Wd → Option (Unit × Wd)} (hR : ∀ (v1 : Int32) (v2 : Int32) (v4 : Int32) (v5 : Int32) (v6 : Int32) (w : Wd), Sim E m_X10_reaches rV 58 [(0, .ref (Ea E 50)), (1, .int v1), (2, .int v2), (4, .int v4), (5, .int v5), (6, .int v6)] [] w (R v1 v2 v4 v5 v6 w)) {K113 : Int32 → Int32 → Int32 → Int32 → Wd → Option (Unit × Wd)} (hK113 : ∀ (v1 : Int32) (v2 : Int32) (v4 : Int32) (v5 : Int32) (w : Wd), Sim E m_X10_reaches rV 113 [(0, .ref (Ea E 50)), (1, .int v1), (2, .int v2), (4, .int v4), (5, .int v5)] [] w (K113 v1 v2 v4 v5 w)) (v1 : Int32) (v2 : Int32) (v4 : Int32) (v5 : Int32) (v6 : Int32) (w : Wd) : Sim E m_X10_reaches rV 58 [(0, .ref (Ea E 50)), (1, .int v1), (2, .int v2), (4, .int v4), (5, .int v5), (6, .int v6)] [] w (b_X10_reaches_58 R K113 v1 v2 v4 v5 v6 w) := by
  unfold b_X10_reaches_58
  refine sim_iload 5 dX10_reaches_58 rfl rfl ?_
  refine sim_bipush (10 : Int32) dX10_reaches_60 rfl rfl ?_
  refine sim_icmp_ge 113 dX10_reaches_62 rfl rfl (fun _ => ?_) (fun _ => ?_)
  · exact sim_sub [0, 1, 2, 3, 4] rfl (hK113 v1 v2 v4 v5 w)
  · refine sim_aload_n 0 dX10_reaches_65 rfl rfl ?_
    refine sim_get (k := 50) (ci := 8) (j := 2) (v := .ref (Ea E 53)) (hL 50 rfl) rfl (by decide) fl_X10_7 rfl dX10_reaches_66 rfl ?_
    refine sim_iload 3 dX10_reaches_69 rfl rfl ?_
    refine sim_iaload (k := 53) (hL 53 rfl) rfl rfl dX10_reaches_71 rfl ?_
    refine sim_iload 5 dX10_reaches_72 rfl rfl ?_
    refine sim_ishr dX10_reaches_74 rfl ?_
    refine sim_iconst (1 : Int32) dX10_reaches_75 rfl rfl ?_
    refine sim_iand dX10_reaches_76 rfl ?_
    refine sim_iconst (1 : Int32) dX10_reaches_77 rfl rfl ?_
    refine sim_icmp_ne 93 dX10_reaches_78 rfl rfl (fun _ => ?_) (fun _ => ?_)
    · refine sim_iconst (-1 : Int32) dX10_reaches_93 rfl rfl ?_
      exact sim_sub [0, 1, 2, 3, 4, 5] rfl (sf_X10_reaches_94 hL hR hK113 v1 v2 v4 v5 v6 (-1 : Int32) w)
    · refine sim_aload_n 0 dX10_reaches_81 rfl rfl ?_
      refine sim_iload_n 2 dX10_reaches_82 rfl rfl ?_
      refine sim_iload 5 dX10_reaches_83 rfl rfl ?_
      refine sim_iload 4 dX10_reaches_85 rfl rfl ?_
      refine sim_cVi (k := 50) (ci := 8) [.int v2, .int v6, .int v5] [] (c_X10_along hL v2 v6 v5 w) (hL 50 rfl) rfl (by decide) rfl cb_X10_196 im_X10_along se_X10_along rfl rfl rfl (Nat.le_of_ble_eq_true rfl) dX10_reaches_87 rfl (fun x11 w12 => ?_)
      refine sim_goto (q := 94) dX10_reaches_90 rfl ?_
      exact sim_sub [0, 1, 2, 3, 4, 5] rfl (sf_X10_reaches_94 hL hR hK113 v1 v2 v4 v5 v6 x11 w12)
def l_X10_reaches_58 (K113 : Int32 → Int32 → Int32 → Int32 → Wd → Option (Unit × Wd)) (n : Nat) : Int32 → Int32 → Int32 → Int32 → Int32 → Wd → Option (Unit × Wd) := itr (fun _ _ _ _ _ _ => none) (fun R => b_X10_reaches_58 R K113) n
set_option maxRecDepth 20000 in
theorem sl_X10_reaches_58 {E : Ev} (hL : LM E) {K113 : Int32 → Int32 → Int32 → Int32 → Wd → Option (Unit × Wd)} (hK113 : ∀ (v1 : Int32) (v2 : Int32) (v4 : Int32) (v5 : Int32) (w : Wd), Sim E m_X10_reaches rV 113 [(0, .ref (Ea E 50)), (1, .int v1), (2, .int v2), (4, .int v4), (5, .int v5)] [] w (K113 v1 v2 v4 v5 w)) : ∀ (n : Nat) (v1 : Int32) (v2 : Int32) (v4 : Int32) (v5 : Int32) (v6 : Int32) (w : Wd), Sim E m_X10_reaches rV 58 [(0, .ref (Ea E 50)), (1, .int v1), (2, .int v2), (4, .int v4), (5, .int v5), (6, .int v6)] [] w (l_X10_reaches_58 K113 n v1 v2 v4 v5 v6 w) := by
  intro n
  induction n with
  | zero => intros; exact sim_none
  | succ n ih => intros; exact sb_X10_reaches_58 hL (R := l_X10_reaches_58 K113 n) ih hK113 _ _ _ _ _ _
def f_X10_reaches_194 (R : Int32 → Int32 → Int32 → Int32 → Int32 → Int32 → Wd → Option (Unit × Wd)) (K199 : Int32 → Int32 → Int32 → Int32 → Int32 → Wd → Option (Unit × Wd)) (v1 : Int32) (v2 : Int32) (v4 : Int32) (v5 : Int32) (v6 : Int32) (s0 : Int32) (w : Wd) : Option (Unit × Wd) :=
  R v1 v2 v4 v5 v6 s0 w
set_option maxRecDepth 20000 in
theorem sf_X10_reaches_194 {E : Ev} (hL : LM E) {R : Int32 → Int32 → Int32 → Int32 → Int32 → Int32 → Wd → Option (Unit × Wd)} (hR : ∀ (v1 : Int32) (v2 : Int32) (v4 : Int32) (v5 : Int32) (v6 : Int32) (v7 : Int32) (w : Wd), Sim E m_X10_reaches rV 154 [(0, .ref (Ea E 50)), (1, .int v1), (2, .int v2), (4, .int v4), (5, .int v5), (6, .int v6), (7, .int v7)] [] w (R v1 v2 v4 v5 v6 v7 w)) {K199 : Int32 → Int32 → Int32 → Int32 → Int32 → Wd → Option (Unit × Wd)} (hK199 : ∀ (v1 : Int32) (v2 : Int32) (v4 : Int32) (v5 : Int32) (v6 : Int32) (w : Wd), Sim E m_X10_reaches rV 199 [(0, .ref (Ea E 50)), (1, .int v1), (2, .int v2), (4, .int v4), (5, .int v5), (6, .int v6)] [] w (K199 v1 v2 v4 v5 v6 w)) (v1 : Int32) (v2 : Int32) (v4 : Int32) (v5 : Int32) (v6 : Int32) (s0 : Int32) (w : Wd) : Sim E m_X10_reaches rV 194 [(0, .ref (Ea E 50)), (1, .int v1), (2, .int v2), (4, .int v4), (5, .int v5), (6, .int v6)] [.int s0] w (f_X10_reaches_194 R K199 v1 v2 v4 v5 v6 s0 w) := by
  unfold f_X10_reaches_194
  refine sim_istore [(7, .int s0), (0, .ref (Ea E 50)), (1, .int v1), (2, .int v2), (4, .int v4), (5, .int v5), (6, .int v6)] dX10_reaches_194 (Nat.le_of_ble_eq_true rfl) rfl rfl ?_
  refine sim_goto (q := 154) dX10_reaches_196 rfl ?_
  exact sim_sub [1, 2, 3, 4, 5, 6, 0] rfl (hR v1 v2 v4 v5 v6 s0 w)
def b_X10_reaches_154 (R : Int32 → Int32 → Int32 → Int32 → Int32 → Int32 → Wd → Option (Unit × Wd)) (K199 : Int32 → Int32 → Int32 → Int32 → Int32 → Wd → Option (Unit × Wd)) (v1 : Int32) (v2 : Int32) (v4 : Int32) (v5 : Int32) (v6 : Int32) (v7 : Int32) (w : Wd) : Option (Unit × Wd) :=
  if v7 < (0 : Int32) then
  K199 v1 v2 v4 v5 v6 w
  else
  bd (f_X10_comesTo v7 w) fun _ w13 =>
  if inb (((49 : Int32) * v1) + v7) 784 = true then
  if (w13.1 60 (Int32.toNatClampNeg (((49 : Int32) * v1) + v7))) = (0 : Int32) then
  bd (f_X10_along v7 v6 v5 w13) fun x14 w15 =>
  f_X10_reaches_194 R K199 v1 v2 v4 v5 v6 x14 w15
  else
  f_X10_reaches_194 R K199 v1 v2 v4 v5 v6 (-1 : Int32) w13
  else none
set_option maxRecDepth 20000 in
theorem sb_X10_reaches_154 {E : Ev} (hL : LM E) {R : Int32 → Int32 → Int32 → Int32 → Int32 → Int32 → Wd → Option (Unit × Wd)} (hR : ∀ (v1 : Int32) (v2 : Int32) (v4 : Int32) (v5 : Int32) (v6 : Int32) (v7 : Int32) (w : Wd), Sim E m_X10_reaches rV 154 [(0, .ref (Ea E 50)), (1, .int v1), (2, .int v2), (4, .int v4), (5, .int v5), (6, .int v6), (7, .int v7)] [] w (R v1 v2 v4 v5 v6 v7 w)) {K199 : Int32 → Int32 → Int32 → Int32 → Int32 → Wd → Option (Unit × Wd)} (hK199 : ∀ (v1 : Int32) (v2 : Int32) (v4 : Int32) (v5 : Int32) (v6 : Int32) (w : Wd), Sim E m_X10_reaches rV 199 [(0, .ref (Ea E 50)), (1, .int v1), (2, .int v2), (4, .int v4), (5, .int v5), (6, .int v6)] [] w (K199 v1 v2 v4 v5 v6 w)) (v1 : Int32) (v2 : Int32) (v4 : Int32) (v5 : Int32) (v6 : Int32) (v7 : Int32) (w : Wd) : Sim E m_X10_reaches rV 154 [(0, .ref (Ea E 50)), (1, .int v1), (2, .int v2), (4, .int v4), (5, .int v5), (6, .int v6), (7, .int v7)] [] w (b_X10_reaches_154 R K199 v1 v2 v4 v5 v6 v7 w) := by
  unfold b_X10_reaches_154
  refine sim_iload 6 dX10_reaches_154 rfl rfl ?_
  refine sim_if_lt 199 dX10_reaches_156 rfl rfl (fun _ => ?_) (fun _ => ?_)
  · exact sim_sub [0, 1, 2, 3, 4, 5] rfl (hK199 v1 v2 v4 v5 v6 w)
  · refine sim_aload_n 0 dX10_reaches_159 rfl rfl ?_
    refine sim_iload 6 dX10_reaches_160 rfl rfl ?_
    refine sim_cVv (k := 50) (ci := 8) [.int v7] [] (c_X10_comesTo hL v7 w) (hL 50 rfl) rfl (by decide) rfl cb_X10_199 im_X10_comesTo se_X10_comesTo rfl rfl rfl (Nat.le_of_ble_eq_true rfl) dX10_reaches_162 rfl (fun _ w13 => ?_)
    refine sim_aload_n 0 dX10_reaches_165 rfl rfl ?_
    refine sim_get (k := 50) (ci := 8) (j := 9) (v := .ref (Ea E 60)) (hL 50 rfl) rfl (by decide) fl_X10_31 rfl dX10_reaches_166 rfl ?_
    refine sim_bipush (49 : Int32) dX10_reaches_169 rfl rfl ?_
    refine sim_iload_n 1 dX10_reaches_171 rfl rfl ?_
    refine sim_imul dX10_reaches_172 rfl ?_
    refine sim_iload 6 dX10_reaches_173 rfl rfl ?_
    refine sim_iadd dX10_reaches_175 rfl ?_
    refine sim_iaload (k := 60) (hL 60 rfl) rfl rfl dX10_reaches_176 rfl ?_
    refine sim_if_ne 193 dX10_reaches_177 rfl rfl (fun _ => ?_) (fun _ => ?_)
    · refine sim_iconst (-1 : Int32) dX10_reaches_193 rfl rfl ?_
      exact sim_sub [0, 1, 2, 3, 4, 5] rfl (sf_X10_reaches_194 hL hR hK199 v1 v2 v4 v5 v6 (-1 : Int32) w13)
    · refine sim_aload_n 0 dX10_reaches_180 rfl rfl ?_
      refine sim_iload 6 dX10_reaches_181 rfl rfl ?_
      refine sim_iload 5 dX10_reaches_183 rfl rfl ?_
      refine sim_iload 4 dX10_reaches_185 rfl rfl ?_
      refine sim_cVi (k := 50) (ci := 8) [.int v7, .int v6, .int v5] [] (c_X10_along hL v7 v6 v5 w13) (hL 50 rfl) rfl (by decide) rfl cb_X10_196 im_X10_along se_X10_along rfl rfl rfl (Nat.le_of_ble_eq_true rfl) dX10_reaches_187 rfl (fun x14 w15 => ?_)
      refine sim_goto (q := 194) dX10_reaches_190 rfl ?_
      exact sim_sub [0, 1, 2, 3, 4, 5] rfl (sf_X10_reaches_194 hL hR hK199 v1 v2 v4 v5 v6 x14 w15)
def l_X10_reaches_154 (K199 : Int32 → Int32 → Int32 → Int32 → Int32 → Wd → Option (Unit × Wd)) (n : Nat) : Int32 → Int32 → Int32 → Int32 → Int32 → Int32 → Wd → Option (Unit × Wd) := itr (fun _ _ _ _ _ _ _ => none) (fun R => b_X10_reaches_154 R K199) n
set_option maxRecDepth 20000 in
theorem sl_X10_reaches_154 {E : Ev} (hL : LM E) {K199 : Int32 → Int32 → Int32 → Int32 → Int32 → Wd → Option (Unit × Wd)} (hK199 : ∀ (v1 : Int32) (v2 : Int32) (v4 : Int32) (v5 : Int32) (v6 : Int32) (w : Wd), Sim E m_X10_reaches rV 199 [(0, .ref (Ea E 50)), (1, .int v1), (2, .int v2), (4, .int v4), (5, .int v5), (6, .int v6)] [] w (K199 v1 v2 v4 v5 v6 w)) : ∀ (n : Nat) (v1 : Int32) (v2 : Int32) (v4 : Int32) (v5 : Int32) (v6 : Int32) (v7 : Int32) (w : Wd), Sim E m_X10_reaches rV 154 [(0, .ref (Ea E 50)), (1, .int v1), (2, .int v2), (4, .int v4), (5, .int v5), (6, .int v6), (7, .int v7)] [] w (l_X10_reaches_154 K199 n v1 v2 v4 v5 v6 v7 w) := by
  intro n
  induction n with
  | zero => intros; exact sim_none
  | succ n ih => intros; exact sb_X10_reaches_154 hL (R := l_X10_reaches_154 K199 n) ih hK199 _ _ _ _ _ _ _
def f_X10_reaches_199 (R : Int32 → Int32 → Int32 → Int32 → Int32 → Wd → Option (Unit × Wd)) (K205 : Wd → Option (Unit × Wd)) (v1 : Int32) (v2 : Int32) (v4 : Int32) (v5 : Int32) (v6 : Int32) (w : Wd) : Option (Unit × Wd) :=
  R v1 v2 v4 v5 (v6 + (1 : Int32)) w
set_option maxRecDepth 20000 in
theorem sf_X10_reaches_199 {E : Ev} (hL : LM E) {R : Int32 → Int32 → Int32 → Int32 → Int32 → Wd → Option (Unit × Wd)} (hR : ∀ (v1 : Int32) (v2 : Int32) (v4 : Int32) (v5 : Int32) (v6 : Int32) (w : Wd), Sim E m_X10_reaches rV 116 [(0, .ref (Ea E 50)), (1, .int v1), (2, .int v2), (4, .int v4), (5, .int v5), (6, .int v6)] [] w (R v1 v2 v4 v5 v6 w)) {K205 : Wd → Option (Unit × Wd)} (hK205 : ∀ (w : Wd), Sim E m_X10_reaches rV 205 [] [] w (K205  w)) (v1 : Int32) (v2 : Int32) (v4 : Int32) (v5 : Int32) (v6 : Int32) (w : Wd) : Sim E m_X10_reaches rV 199 [(0, .ref (Ea E 50)), (1, .int v1), (2, .int v2), (4, .int v4), (5, .int v5), (6, .int v6)] [] w (f_X10_reaches_199 R K205 v1 v2 v4 v5 v6 w) := by
  unfold f_X10_reaches_199
  refine sim_iinc (v6 + (1 : Int32)) 5 [(6, .int (v6 + (1 : Int32))), (0, .ref (Ea E 50)), (1, .int v1), (2, .int v2), (4, .int v4), (5, .int v5)] dX10_reaches_199 rfl rfl (Nat.le_of_ble_eq_true rfl) rfl rfl ?_
  refine sim_goto (q := 116) dX10_reaches_202 rfl ?_
  exact sim_sub [1, 2, 3, 4, 5, 0] rfl (hR v1 v2 v4 v5 (v6 + (1 : Int32)) w)
def f_X10_reaches_152 (R : Int32 → Int32 → Int32 → Int32 → Int32 → Wd → Option (Unit × Wd)) (K205 : Wd → Option (Unit × Wd)) (v1 : Int32) (v2 : Int32) (v4 : Int32) (v5 : Int32) (v6 : Int32) (s0 : Int32) (w : Wd) : Option (Unit × Wd) :=
  l_X10_reaches_154 (f_X10_reaches_199 R K205) FU v1 v2 v4 v5 v6 s0 w
set_option maxRecDepth 20000 in
theorem sf_X10_reaches_152 {E : Ev} (hL : LM E) {R : Int32 → Int32 → Int32 → Int32 → Int32 → Wd → Option (Unit × Wd)} (hR : ∀ (v1 : Int32) (v2 : Int32) (v4 : Int32) (v5 : Int32) (v6 : Int32) (w : Wd), Sim E m_X10_reaches rV 116 [(0, .ref (Ea E 50)), (1, .int v1), (2, .int v2), (4, .int v4), (5, .int v5), (6, .int v6)] [] w (R v1 v2 v4 v5 v6 w)) {K205 : Wd → Option (Unit × Wd)} (hK205 : ∀ (w : Wd), Sim E m_X10_reaches rV 205 [] [] w (K205  w)) (v1 : Int32) (v2 : Int32) (v4 : Int32) (v5 : Int32) (v6 : Int32) (s0 : Int32) (w : Wd) : Sim E m_X10_reaches rV 152 [(0, .ref (Ea E 50)), (1, .int v1), (2, .int v2), (4, .int v4), (5, .int v5), (6, .int v6)] [.int s0] w (f_X10_reaches_152 R K205 v1 v2 v4 v5 v6 s0 w) := by
  unfold f_X10_reaches_152
  refine sim_istore [(7, .int s0), (0, .ref (Ea E 50)), (1, .int v1), (2, .int v2), (4, .int v4), (5, .int v5), (6, .int v6)] dX10_reaches_152 (Nat.le_of_ble_eq_true rfl) rfl rfl ?_
  exact sim_sub [1, 2, 3, 4, 5, 6, 0] rfl (sl_X10_reaches_154 hL (sf_X10_reaches_199 hL hR hK205) FU v1 v2 v4 v5 v6 s0 w)
def b_X10_reaches_116 (R : Int32 → Int32 → Int32 → Int32 → Int32 → Wd → Option (Unit × Wd)) (K205 : Wd → Option (Unit × Wd)) (v1 : Int32) (v2 : Int32) (v4 : Int32) (v5 : Int32) (v6 : Int32) (w : Wd) : Option (Unit × Wd) :=
  if (8 : Int32) ≤ v6 then
  K205 w
  else
  if inb v4 16 = true then
  if (((w.1 54 (Int32.toNatClampNeg v4)) >>> (v6 &&& 31)) &&& (1 : Int32)) = (1 : Int32) then
  bd (f_X10_along v2 v6 v5 w) fun x16 w17 =>
  f_X10_reaches_152 R K205 v1 v2 v4 v5 v6 x16 w17
  else
  f_X10_reaches_152 R K205 v1 v2 v4 v5 v6 (-1 : Int32) w
  else none
set_option maxRecDepth 20000 in
theorem sb_X10_reaches_116 {E : Ev} (hL : LM E) {R : Int32 → Int32 → Int32 → Int32 → Int32 → Wd → Option (Unit × Wd)} (hR : ∀ (v1 : Int32) (v2 : Int32) (v4 : Int32) (v5 : Int32) (v6 : Int32) (w : Wd), Sim E m_X10_reaches rV 116 [(0, .ref (Ea E 50)), (1, .int v1), (2, .int v2), (4, .int v4), (5, .int v5), (6, .int v6)] [] w (R v1 v2 v4 v5 v6 w)) {K205 : Wd → Option (Unit × Wd)} (hK205 : ∀ (w : Wd), Sim E m_X10_reaches rV 205 [] [] w (K205  w)) (v1 : Int32) (v2 : Int32) (v4 : Int32) (v5 : Int32) (v6 : Int32) (w : Wd) : Sim E m_X10_reaches rV 116 [(0, .ref (Ea E 50)), (1, .int v1), (2, .int v2), (4, .int v4), (5, .int v5), (6, .int v6)] [] w (b_X10_reaches_116 R K205 v1 v2 v4 v5 v6 w) := by
  unfold b_X10_reaches_116
  refine sim_iload 5 dX10_reaches_116 rfl rfl ?_
  refine sim_bipush (8 : Int32) dX10_reaches_118 rfl rfl ?_
  refine sim_icmp_ge 205 dX10_reaches_120 rfl rfl (fun _ => ?_) (fun _ => ?_)
  · exact sim_sub [] rfl (hK205 w)
  · refine sim_aload_n 0 dX10_reaches_123 rfl rfl ?_
    refine sim_get (k := 50) (ci := 8) (j := 3) (v := .ref (Ea E 54)) (hL 50 rfl) rfl (by decide) fl_X10_13 rfl dX10_reaches_124 rfl ?_
    refine sim_iload 3 dX10_reaches_127 rfl rfl ?_
    refine sim_iaload (k := 54) (hL 54 rfl) rfl rfl dX10_reaches_129 rfl ?_
    refine sim_iload 5 dX10_reaches_130 rfl rfl ?_
    refine sim_ishr dX10_reaches_132 rfl ?_
    refine sim_iconst (1 : Int32) dX10_reaches_133 rfl rfl ?_
    refine sim_iand dX10_reaches_134 rfl ?_
    refine sim_iconst (1 : Int32) dX10_reaches_135 rfl rfl ?_
    refine sim_icmp_ne 151 dX10_reaches_136 rfl rfl (fun _ => ?_) (fun _ => ?_)
    · refine sim_iconst (-1 : Int32) dX10_reaches_151 rfl rfl ?_
      exact sim_sub [0, 1, 2, 3, 4, 5] rfl (sf_X10_reaches_152 hL hR hK205 v1 v2 v4 v5 v6 (-1 : Int32) w)
    · refine sim_aload_n 0 dX10_reaches_139 rfl rfl ?_
      refine sim_iload_n 2 dX10_reaches_140 rfl rfl ?_
      refine sim_iload 5 dX10_reaches_141 rfl rfl ?_
      refine sim_iload 4 dX10_reaches_143 rfl rfl ?_
      refine sim_cVi (k := 50) (ci := 8) [.int v2, .int v6, .int v5] [] (c_X10_along hL v2 v6 v5 w) (hL 50 rfl) rfl (by decide) rfl cb_X10_196 im_X10_along se_X10_along rfl rfl rfl (Nat.le_of_ble_eq_true rfl) dX10_reaches_145 rfl (fun x16 w17 => ?_)
      refine sim_goto (q := 152) dX10_reaches_148 rfl ?_
      exact sim_sub [0, 1, 2, 3, 4, 5] rfl (sf_X10_reaches_152 hL hR hK205 v1 v2 v4 v5 v6 x16 w17)
def l_X10_reaches_116 (K205 : Wd → Option (Unit × Wd)) (n : Nat) : Int32 → Int32 → Int32 → Int32 → Int32 → Wd → Option (Unit × Wd) := itr (fun _ _ _ _ _ _ => none) (fun R => b_X10_reaches_116 R K205) n
set_option maxRecDepth 20000 in
theorem sl_X10_reaches_116 {E : Ev} (hL : LM E) {K205 : Wd → Option (Unit × Wd)} (hK205 : ∀ (w : Wd), Sim E m_X10_reaches rV 205 [] [] w (K205  w)) : ∀ (n : Nat) (v1 : Int32) (v2 : Int32) (v4 : Int32) (v5 : Int32) (v6 : Int32) (w : Wd), Sim E m_X10_reaches rV 116 [(0, .ref (Ea E 50)), (1, .int v1), (2, .int v2), (4, .int v4), (5, .int v5), (6, .int v6)] [] w (l_X10_reaches_116 K205 n v1 v2 v4 v5 v6 w) := by
  intro n
  induction n with
  | zero => intros; exact sim_none
  | succ n ih => intros; exact sb_X10_reaches_116 hL (R := l_X10_reaches_116 K205 n) ih hK205 _ _ _ _ _ _
def f_X10_reaches_205 (w : Wd) : Option (Unit × Wd) :=
  some ((), w)
set_option maxRecDepth 20000 in
theorem sf_X10_reaches_205 {E : Ev} (hL : LM E) (w : Wd) : Sim E m_X10_reaches rV 205 [] [] w (f_X10_reaches_205 w) := by
  unfold f_X10_reaches_205
  exact sim_vret rfl dX10_reaches_205
def f_X10_reaches_113 (v1 : Int32) (v2 : Int32) (v4 : Int32) (v5 : Int32) (w : Wd) : Option (Unit × Wd) :=
  l_X10_reaches_116 f_X10_reaches_205 FU v1 v2 v4 v5 (0 : Int32) w
set_option maxRecDepth 20000 in
theorem sf_X10_reaches_113 {E : Ev} (hL : LM E) (v1 : Int32) (v2 : Int32) (v4 : Int32) (v5 : Int32) (w : Wd) : Sim E m_X10_reaches rV 113 [(0, .ref (Ea E 50)), (1, .int v1), (2, .int v2), (4, .int v4), (5, .int v5)] [] w (f_X10_reaches_113 v1 v2 v4 v5 w) := by
  unfold f_X10_reaches_113
  refine sim_iconst (0 : Int32) dX10_reaches_113 rfl rfl ?_
  refine sim_istore [(6, .int (0 : Int32)), (0, .ref (Ea E 50)), (1, .int v1), (2, .int v2), (4, .int v4), (5, .int v5)] dX10_reaches_114 (Nat.le_of_ble_eq_true rfl) rfl rfl ?_
  exact sim_sub [1, 2, 3, 4, 5, 0] rfl (sl_X10_reaches_116 hL (sf_X10_reaches_205 hL) FU v1 v2 v4 v5 (0 : Int32) w)
def f_X10_reaches_55 (v1 : Int32) (v2 : Int32) (v4 : Int32) (v5 : Int32) (w : Wd) : Option (Unit × Wd) :=
  l_X10_reaches_58 f_X10_reaches_113 FU v1 v2 v4 v5 (0 : Int32) w
set_option maxRecDepth 20000 in
theorem sf_X10_reaches_55 {E : Ev} (hL : LM E) (v1 : Int32) (v2 : Int32) (v4 : Int32) (v5 : Int32) (w : Wd) : Sim E m_X10_reaches rV 55 [(0, .ref (Ea E 50)), (1, .int v1), (2, .int v2), (4, .int v4), (5, .int v5)] [] w (f_X10_reaches_55 v1 v2 v4 v5 w) := by
  unfold f_X10_reaches_55
  refine sim_iconst (0 : Int32) dX10_reaches_55 rfl rfl ?_
  refine sim_istore [(6, .int (0 : Int32)), (0, .ref (Ea E 50)), (1, .int v1), (2, .int v2), (4, .int v4), (5, .int v5)] dX10_reaches_56 (Nat.le_of_ble_eq_true rfl) rfl rfl ?_
  exact sim_sub [1, 2, 3, 4, 5, 0] rfl (sl_X10_reaches_58 hL (sf_X10_reaches_113 hL) FU v1 v2 v4 v5 (0 : Int32) w)
def f_X10_reaches_17 (v1 : Int32) (v2 : Int32) (v3 : Int32) (s0 : Int32) (s1 : Int32) (w : Wd) : Option (Unit × Wd) :=
  lt (s0 + s1) fun x5 =>
  bd (f_X10_sideOf v3 w) fun x6 w7 =>
  lw (wdI w7 50 22 (0 : Int32)) fun w8 =>
  l_X10_reaches_34 f_X10_reaches_55 FU v1 v2 x5 x6 (0 : Int32) w8
set_option maxRecDepth 20000 in
theorem sf_X10_reaches_17 {E : Ev} (hL : LM E) (v1 : Int32) (v2 : Int32) (v3 : Int32) (s0 : Int32) (s1 : Int32) (w : Wd) : Sim E m_X10_reaches rV 17 [(0, .ref (Ea E 50)), (1, .int v1), (2, .int v2), (3, .int v3)] [.int s1, .int s0] w (f_X10_reaches_17 v1 v2 v3 s0 s1 w) := by
  unfold f_X10_reaches_17
  refine sim_iadd dX10_reaches_17 rfl ?_
  refine sim_lt (fun x5 => ?_)
  refine sim_istore [(4, .int x5), (0, .ref (Ea E 50)), (1, .int v1), (2, .int v2), (3, .int v3)] dX10_reaches_18 (Nat.le_of_ble_eq_true rfl) rfl rfl ?_
  refine sim_iload_n 4 dX10_reaches_20 rfl rfl ?_
  refine sim_cSi [.int v3] [] (c_X10_sideOf hL v3 w) cb_X10_193 sx_X10_sideOf rfl rfl rfl (Nat.le_of_ble_eq_true rfl) dX10_reaches_21 rfl (fun x6 w7 => ?_)
  refine sim_istore [(5, .int x6), (4, .int x5), (0, .ref (Ea E 50)), (1, .int v1), (2, .int v2), (3, .int v3)] dX10_reaches_24 (Nat.le_of_ble_eq_true rfl) rfl rfl ?_
  refine sim_aload_n 2 dX10_reaches_26 rfl rfl ?_
  refine sim_iconst (0 : Int32) dX10_reaches_27 rfl rfl ?_
  refine sim_put (k := 50) (ci := 8) (j := 22) (hL 50 rfl) rfl (by decide) fp_X10_184 rfl rfl (st_50_22 _ _ _) (Nat.le_of_ble_eq_true rfl) dX10_reaches_28 rfl ?_
  refine sim_lw (fun w8 => ?_)
  refine sim_iconst (0 : Int32) dX10_reaches_31 rfl rfl ?_
  refine sim_istore [(6, .int (0 : Int32)), (5, .int x6), (4, .int x5), (0, .ref (Ea E 50)), (1, .int v1), (2, .int v2), (3, .int v3)] dX10_reaches_32 (Nat.le_of_ble_eq_true rfl) rfl rfl ?_
  exact sim_sub [3, 4, 5, 2, 1, 0] rfl (sl_X10_reaches_34 hL (sf_X10_reaches_55 hL) FU v1 v2 x5 x6 (0 : Int32) w8)
def f_X10_reaches (v1 : Int32) (v2 : Int32) (v3 : Int32) (w : Wd) : Option (Unit × Wd) :=
  bd (f_X10_kindOf v3 w) fun x1 w2 =>
  bd (f_X10_isRaised v3 w2) fun x3 w4 =>
  if x3 = (0 : Int32) then
  f_X10_reaches_17 v1 v2 v3 x1 (0 : Int32) w4
  else
  f_X10_reaches_17 v1 v2 v3 x1 (8 : Int32) w4
set_option maxRecDepth 20000 in
theorem c_X10_reaches {E : Ev} (hL : LM E) (v1 : Int32) (v2 : Int32) (v3 : Int32) (w : Wd) : Ct E m_X10_reaches yX10_reaches rV [.ref (Ea E 50), .int v1, .int v2, .int v3] w (f_X10_reaches v1 v2 v3 w) := by
  refine Ct.of (by decide) ⟨rfl, rfl⟩ (Nat.le_of_ble_eq_true rfl) ?_
  show Sim E m_X10_reaches rV 0 [(0, .ref (Ea E 50)), (1, .int v1), (2, .int v2), (3, .int v3)] [] w (f_X10_reaches v1 v2 v3 w)
  unfold f_X10_reaches
  refine sim_iload_n 3 dX10_reaches_0 rfl rfl ?_
  refine sim_cSi [.int v3] [] (c_X10_kindOf hL v3 w) cb_X10_187 sx_X10_kindOf rfl rfl rfl (Nat.le_of_ble_eq_true rfl) dX10_reaches_1 rfl (fun x1 w2 => ?_)
  refine sim_iload_n 3 dX10_reaches_4 rfl rfl ?_
  refine sim_cSi [.int v3] [.int x1] (c_X10_isRaised hL v3 w2) cb_X10_190 sx_X10_isRaised rfl rfl rfl (Nat.le_of_ble_eq_true rfl) dX10_reaches_5 rfl (fun x3 w4 => ?_)
  refine sim_if_eq 16 dX10_reaches_8 rfl rfl (fun _ => ?_) (fun _ => ?_)
  · refine sim_iconst (0 : Int32) dX10_reaches_16 rfl rfl ?_
    exact sim_sub [0, 1, 2, 3] rfl (sf_X10_reaches_17 hL v1 v2 v3 x1 (0 : Int32) w4)
  · refine sim_bipush (8 : Int32) dX10_reaches_11 rfl rfl ?_
    refine sim_goto (q := 17) dX10_reaches_13 rfl ?_
    exact sim_sub [0, 1, 2, 3] rfl (sf_X10_reaches_17 hL v1 v2 v3 x1 (8 : Int32) w4)
