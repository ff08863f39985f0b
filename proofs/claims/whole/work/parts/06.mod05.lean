def f_X10_hunt_83 (R : Int32 → Int32 → Wd → Option (Int32 × Wd)) (K64 : Int32 → Wd → Option (Int32 × Wd)) (K88 : Int32 → Wd → Option (Int32 × Wd)) (K96 : Wd → Option (Int32 × Wd)) (v1 : Int32) (v2 : Int32) (v3 : Int32) (w : Wd) : Option (Int32 × Wd) :=
  if v3 = (1 : Int32) then
  K88 v2 w
  else
  R v1 (v2 + (1 : Int32)) w
set_option maxRecDepth 20000 in
theorem sf_X10_hunt_83 {E : Ev} (hL : LM E) {R : Int32 → Int32 → Wd → Option (Int32 × Wd)} (hR : ∀ (v1 : Int32) (v2 : Int32) (w : Wd), Sim E m_X10_hunt rI 32 [(0, .ref (Ea E 50)), (1, .int v1), (2, .int v2)] [] w (R v1 v2 w)) {K64 : Int32 → Wd → Option (Int32 × Wd)} (hK64 : ∀ (v3 : Int32) (w : Wd), Sim E m_X10_hunt rI 64 [(0, .ref (Ea E 50)), (3, .int v3)] [] w (K64 v3 w)) {K88 : Int32 → Wd → Option (Int32 × Wd)} (hK88 : ∀ (v2 : Int32) (w : Wd), Sim E m_X10_hunt rI 88 [(2, .int v2)] [] w (K88 v2 w)) {K96 : Wd → Option (Int32 × Wd)} (hK96 : ∀ (w : Wd), Sim E m_X10_hunt rI 96 [(0, .ref (Ea E 50))] [] w (K96  w)) (v1 : Int32) (v2 : Int32) (v3 : Int32) (w : Wd) : Sim E m_X10_hunt rI 83 [(0, .ref (Ea E 50)), (1, .int v1), (2, .int v2), (3, .int v3)] [] w (f_X10_hunt_83 R K64 K88 K96 v1 v2 v3 w) := by
  unfold f_X10_hunt_83
  refine sim_iload_n 3 dX10_hunt_83 rfl rfl ?_
  refine sim_iconst (1 : Int32) dX10_hunt_84 rfl rfl ?_
  refine sim_icmp_ne 90 dX10_hunt_85 rfl rfl (fun _ => ?_) (fun _ => ?_)
  · refine sim_iinc (v2 + (1 : Int32)) 2 [(2, .int (v2 + (1 : Int32))), (0, .ref (Ea E 50)), (1, .int v1), (3, .int v3)] dX10_hunt_90 rfl rfl (Nat.le_of_ble_eq_true rfl) rfl rfl ?_
    refine sim_goto (q := 32) dX10_hunt_93 rfl ?_
    exact sim_sub [1, 2, 0] rfl (hR v1 (v2 + (1 : Int32)) w)
  · exact sim_sub [2] rfl (hK88 v2 w)
def b_X10_hunt_32 (R : Int32 → Int32 → Wd → Option (Int32 × Wd)) (K64 : Int32 → Wd → Option (Int32 × Wd)) (K88 : Int32 → Wd → Option (Int32 × Wd)) (K96 : Wd → Option (Int32 × Wd)) (v1 : Int32) (v2 : Int32) (w : Wd) : Option (Int32 × Wd) :=
  if v1 < v2 then
  K96 w
  else
  bd (f_X10_hunts v2 w) fun x4 w5 =>
  if x4 = (-5 : Int32) then
  K64 x4 w5
  else
  if x4 = (1 : Int32) then
  if (w5.1 50 41) ≤ (500 : Int32) then
  f_X10_hunt_83 R K64 K88 K96 v1 v2 x4 w5
  else
  K64 x4 w5
  else
  f_X10_hunt_83 R K64 K88 K96 v1 v2 x4 w5
set_option maxRecDepth 20000 in
theorem sb_X10_hunt_32 {E : Ev} (hL : LM E) {R : Int32 → Int32 → Wd → Option (Int32 × Wd)} (hR : ∀ (v1 : Int32) (v2 : Int32) (w : Wd), Sim E m_X10_hunt rI 32 [(0, .ref (Ea E 50)), (1, .int v1), (2, .int v2)] [] w (R v1 v2 w)) {K64 : Int32 → Wd → Option (Int32 × Wd)} (hK64 : ∀ (v3 : Int32) (w : Wd), Sim E m_X10_hunt rI 64 [(0, .ref (Ea E 50)), (3, .int v3)] [] w (K64 v3 w)) {K88 : Int32 → Wd → Option (Int32 × Wd)} (hK88 : ∀ (v2 : Int32) (w : Wd), Sim E m_X10_hunt rI 88 [(2, .int v2)] [] w (K88 v2 w)) {K96 : Wd → Option (Int32 × Wd)} (hK96 : ∀ (w : Wd), Sim E m_X10_hunt rI 96 [(0, .ref (Ea E 50))] [] w (K96  w)) (v1 : Int32) (v2 : Int32) (w : Wd) : Sim E m_X10_hunt rI 32 [(0, .ref (Ea E 50)), (1, .int v1), (2, .int v2)] [] w (b_X10_hunt_32 R K64 K88 K96 v1 v2 w) := by
  unfold b_X10_hunt_32
  refine sim_iload_n 2 dX10_hunt_32 rfl rfl ?_
  refine sim_iload_n 1 dX10_hunt_33 rfl rfl ?_
  refine sim_icmp_gt 96 dX10_hunt_34 rfl rfl (fun _ => ?_) (fun _ => ?_)
  · exact sim_sub [0] rfl (hK96 w)
  · refine sim_aload_n 0 dX10_hunt_37 rfl rfl ?_
    refine sim_iload_n 2 dX10_hunt_38 rfl rfl ?_
    refine sim_cVi (k := 50) (ci := 8) [.int v2] [] (c_X10_hunts hL v2 w) (hL 50 rfl) rfl (by decide) rfl cb_X10_317 im_X10_hunts se_X10_hunts rfl rfl rfl (Nat.le_of_ble_eq_true rfl) dX10_hunt_39 rfl (fun x4 w5 => ?_)
    refine sim_istore_n [(3, .int x4), (0, .ref (Ea E 50)), (1, .int v1), (2, .int v2)] dX10_hunt_42 (Nat.le_of_ble_eq_true rfl) rfl rfl ?_
    refine sim_iload_n 0 dX10_hunt_43 rfl rfl ?_
    refine sim_bipush (-5 : Int32) dX10_hunt_44 rfl rfl ?_
    refine sim_icmp_eq 64 dX10_hunt_46 rfl rfl (fun _ => ?_) (fun _ => ?_)
    · exact sim_sub [1, 0] rfl (hK64 x4 w5)
    · refine sim_iload_n 0 dX10_hunt_49 rfl rfl ?_
      refine sim_iconst (1 : Int32) dX10_hunt_50 rfl rfl ?_
      refine sim_icmp_ne 83 dX10_hunt_51 rfl rfl (fun _ => ?_) (fun _ => ?_)
      · exact sim_sub [1, 2, 3, 0] rfl (sf_X10_hunt_83 hL hR hK64 hK88 hK96 v1 v2 x4 w5)
      · refine sim_aload_n 1 dX10_hunt_54 rfl rfl ?_
        refine sim_get (k := 50) (ci := 8) (j := 41) (v := .int (w5.1 50 41)) (hL 50 rfl) rfl (by decide) fl_X10_289 rfl dX10_hunt_55 rfl ?_
        refine sim_sipush (500 : Int32) dX10_hunt_58 rfl rfl ?_
        refine sim_icmp_le 83 dX10_hunt_61 rfl rfl (fun _ => ?_) (fun _ => ?_)
        · exact sim_sub [1, 2, 3, 0] rfl (sf_X10_hunt_83 hL hR hK64 hK88 hK96 v1 v2 x4 w5)
        · exact sim_sub [1, 0] rfl (hK64 x4 w5)
def l_X10_hunt_32 (K64 : Int32 → Wd → Option (Int32 × Wd)) (K88 : Int32 → Wd → Option (Int32 × Wd)) (K96 : Wd → Option (Int32 × Wd)) (n : Nat) : Int32 → Int32 → Wd → Option (Int32 × Wd) := itr (fun _ _ _ => none) (fun R => b_X10_hunt_32 R K64 K88 K96) n
set_option maxRecDepth 20000 in
theorem sl_X10_hunt_32 {E : Ev} (hL : LM E) {K64 : Int32 → Wd → Option (Int32 × Wd)} (hK64 : ∀ (v3 : Int32) (w : Wd), Sim E m_X10_hunt rI 64 [(0, .ref (Ea E 50)), (3, .int v3)] [] w (K64 v3 w)) {K88 : Int32 → Wd → Option (Int32 × Wd)} (hK88 : ∀ (v2 : Int32) (w : Wd), Sim E m_X10_hunt rI 88 [(2, .int v2)] [] w (K88 v2 w)) {K96 : Wd → Option (Int32 × Wd)} (hK96 : ∀ (w : Wd), Sim E m_X10_hunt rI 96 [(0, .ref (Ea E 50))] [] w (K96  w)) : ∀ (n : Nat) (v1 : Int32) (v2 : Int32) (w : Wd), Sim E m_X10_hunt rI 32 [(0, .ref (Ea E 50)), (1, .int v1), (2, .int v2)] [] w (l_X10_hunt_32 K64 K88 K96 n v1 v2 w) := by
  intro n
  induction n with
  | zero => intros; exact sim_none
  | succ n ih => intros; exact sb_X10_hunt_32 hL (R := l_X10_hunt_32 K64 K88 K96 n) ih hK64 hK88 hK96 _ _ _
def f_X10_hunt_82 (s0 : Int32) (w : Wd) : Option (Int32 × Wd) :=
  some (s0, w)
set_option maxRecDepth 20000 in
theorem sf_X10_hunt_82 {E : Ev} (hL : LM E) (s0 : Int32) (w : Wd) : Sim E m_X10_hunt rI 82 [] [.int s0] w (f_X10_hunt_82 s0 w) := by
  unfold f_X10_hunt_82
  exact sim_iret rfl dX10_hunt_82
def f_X10_hunt_64 (v3 : Int32) (w : Wd) : Option (Int32 × Wd) :=
  lw (wdI w 50 41 (0 : Int32)) fun w6 =>
  if v3 = (-5 : Int32) then
  f_X10_hunt_82 (-5 : Int32) w6
  else
  f_X10_hunt_82 (-4 : Int32) w6
set_option maxRecDepth 20000 in
theorem sf_X10_hunt_64 {E : Ev} (hL : LM E) (v3 : Int32) (w : Wd) : Sim E m_X10_hunt rI 64 [(0, .ref (Ea E 50)), (3, .int v3)] [] w (f_X10_hunt_64 v3 w) := by
  unfold f_X10_hunt_64
  refine sim_aload_n 0 dX10_hunt_64 rfl rfl ?_
  refine sim_iconst (0 : Int32) dX10_hunt_65 rfl rfl ?_
  refine sim_put (k := 50) (ci := 8) (j := 41) (hL 50 rfl) rfl (by decide) fp_X10_289 rfl rfl (st_50_41 _ _ _) (Nat.le_of_ble_eq_true rfl) dX10_hunt_66 rfl ?_
  refine sim_lw (fun w6 => ?_)
  refine sim_iload_n 1 dX10_hunt_69 rfl rfl ?_
  refine sim_bipush (-5 : Int32) dX10_hunt_70 rfl rfl ?_
  refine sim_icmp_ne 80 dX10_hunt_72 rfl rfl (fun _ => ?_) (fun _ => ?_)
  · refine sim_bipush (-4 : Int32) dX10_hunt_80 rfl rfl ?_
    exact sim_sub [] rfl (sf_X10_hunt_82 hL (-4 : Int32) w6)
  · refine sim_bipush (-5 : Int32) dX10_hunt_75 rfl rfl ?_
    refine sim_goto (q := 82) dX10_hunt_77 rfl ?_
    exact sim_sub [] rfl (sf_X10_hunt_82 hL (-5 : Int32) w6)
def f_X10_hunt_88 (v2 : Int32) (w : Wd) : Option (Int32 × Wd) :=
  some (v2, w)
set_option maxRecDepth 20000 in
theorem sf_X10_hunt_88 {E : Ev} (hL : LM E) (v2 : Int32) (w : Wd) : Sim E m_X10_hunt rI 88 [(2, .int v2)] [] w (f_X10_hunt_88 v2 w) := by
  unfold f_X10_hunt_88
  refine sim_iload_n 0 dX10_hunt_88 rfl rfl ?_
  exact sim_iret rfl dX10_hunt_89
def f_X10_hunt_96 (w : Wd) : Option (Int32 × Wd) :=
  lw (wdI w 50 41 (0 : Int32)) fun w7 =>
  some ((0 : Int32), w7)
set_option maxRecDepth 20000 in
theorem sf_X10_hunt_96 {E : Ev} (hL : LM E) (w : Wd) : Sim E m_X10_hunt rI 96 [(0, .ref (Ea E 50))] [] w (f_X10_hunt_96 w) := by
  unfold f_X10_hunt_96
  refine sim_aload_n 0 dX10_hunt_96 rfl rfl ?_
  refine sim_iconst (0 : Int32) dX10_hunt_97 rfl rfl ?_
  refine sim_put (k := 50) (ci := 8) (j := 41) (hL 50 rfl) rfl (by decide) fp_X10_289 rfl rfl (st_50_41 _ _ _) (Nat.le_of_ble_eq_true rfl) dX10_hunt_98 rfl ?_
  refine sim_lw (fun w7 => ?_)
  refine sim_iconst (0 : Int32) dX10_hunt_101 rfl rfl ?_
  exact sim_iret rfl dX10_hunt_102
def f_X10_hunt (v1 : Int32) (w : Wd) : Option (Int32 × Wd) :=
  bd (f_X10_in (Int32.toInt64 v1) (1 : Int64) (4 : Int64) w) fun x1 w2 =>
  if x1 = (0 : Int32) then
  some ((-2 : Int32), w2)
  else
  if (w2.1 50 25) = (0 : Int32) then
  some ((-3 : Int32), w2)
  else
  lw (wdI w2 50 40 (0 : Int32)) fun w3 =>
  l_X10_hunt_32 f_X10_hunt_64 f_X10_hunt_88 f_X10_hunt_96 FU v1 (1 : Int32) w3
set_option maxRecDepth 20000 in
theorem c_X10_hunt {E : Ev} (hL : LM E) (v1 : Int32) (w : Wd) : Ct E m_X10_hunt yX10_hunt rI [.ref (Ea E 50), .int v1] w (f_X10_hunt v1 w) := by
  refine Ct.of (by decide) ⟨rfl, rfl⟩ (Nat.le_of_ble_eq_true rfl) ?_
  show Sim E m_X10_hunt rI 0 [(0, .ref (Ea E 50)), (1, .int v1)] [] w (f_X10_hunt v1 w)
  unfold f_X10_hunt
  refine sim_iload_n 1 dX10_hunt_0 rfl rfl ?_
  refine sim_i2l dX10_hunt_1 rfl ?_
  refine sim_lconst (1 : Int64) dX10_hunt_2 rfl rfl ?_
  refine sim_ldc2 (4 : Int64) dX10_hunt_3 k_X10_295 rfl ?_
  refine sim_cSi [.long (Int32.toInt64 v1), .long (1 : Int64), .long (4 : Int64)] [] (c_X10_in hL (Int32.toInt64 v1) (1 : Int64) (4 : Int64) w) cb_X10_139 sx_X10_in rfl rfl rfl (Nat.le_of_ble_eq_true rfl) dX10_hunt_6 rfl (fun x1 w2 => ?_)
  refine sim_if_ne 15 dX10_hunt_9 rfl rfl (fun _ => ?_) (fun _ => ?_)
  · refine sim_aload_n 0 dX10_hunt_15 rfl rfl ?_
    refine sim_get (k := 50) (ci := 8) (j := 25) (v := .int (w2.1 50 25)) (hL 50 rfl) rfl (by decide) fl_X10_159 rfl dX10_hunt_16 rfl ?_
    refine sim_if_ne 25 dX10_hunt_19 rfl rfl (fun _ => ?_) (fun _ => ?_)
    · refine sim_aload_n 0 dX10_hunt_25 rfl rfl ?_
      refine sim_iconst (0 : Int32) dX10_hunt_26 rfl rfl ?_
      refine sim_put (k := 50) (ci := 8) (j := 40) (hL 50 rfl) rfl (by decide) fp_X10_308 rfl rfl (st_50_40 _ _ _) (Nat.le_of_ble_eq_true rfl) dX10_hunt_27 rfl ?_
      refine sim_lw (fun w3 => ?_)
      refine sim_iconst (1 : Int32) dX10_hunt_30 rfl rfl ?_
      refine sim_istore_n [(2, .int (1 : Int32)), (0, .ref (Ea E 50)), (1, .int v1)] dX10_hunt_31 (Nat.le_of_ble_eq_true rfl) rfl rfl ?_
      exact sim_sub [1, 2, 0] rfl (sl_X10_hunt_32 hL (sf_X10_hunt_64 hL) (sf_X10_hunt_88 hL) (sf_X10_hunt_96 hL) FU v1 (1 : Int32) w3)
    · refine sim_bipush (-3 : Int32) dX10_hunt_22 rfl rfl ?_
      exact sim_iret rfl dX10_hunt_24
  · refine sim_bipush (-2 : Int32) dX10_hunt_12 rfl rfl ?_
    exact sim_iret rfl dX10_hunt_14
def f_X10_spent (w : Wd) : Option (Int32 × Wd) :=
  some ((w.1 50 40), w)
set_option maxRecDepth 20000 in
theorem c_X10_spent {E : Ev} (hL : LM E) (w : Wd) : Ct E m_X10_spent yX10_spent rI [.ref (Ea E 50)] w (f_X10_spent w) := by
  refine Ct.of (by decide) ⟨rfl, rfl⟩ (Nat.le_of_ble_eq_true rfl) ?_
  show Sim E m_X10_spent rI 0 [(0, .ref (Ea E 50))] [] w (f_X10_spent w)
  unfold f_X10_spent
  refine sim_aload_n 0 dX10_spent_0 rfl rfl ?_
  refine sim_get (k := 50) (ci := 8) (j := 40) (v := .int (w.1 50 40)) (hL 50 rfl) rfl (by decide) fl_X10_308 rfl dX10_spent_1 rfl ?_
  exact sim_iret rfl dX10_spent_4
def f_X10_tree (w : Wd) : Option (Int32 × Wd) :=
  some ((w.1 50 41), w)
set_option maxRecDepth 20000 in
theorem c_X10_tree {E : Ev} (hL : LM E) (w : Wd) : Ct E m_X10_tree yX10_tree rI [.ref (Ea E 50)] w (f_X10_tree w) := by
  refine Ct.of (by decide) ⟨rfl, rfl⟩ (Nat.le_of_ble_eq_true rfl) ?_
  show Sim E m_X10_tree rI 0 [(0, .ref (Ea E 50))] [] w (f_X10_tree w)
  unfold f_X10_tree
  refine sim_aload_n 0 dX10_tree_0 rfl rfl ?_
  refine sim_get (k := 50) (ci := 8) (j := 41) (v := .int (w.1 50 41)) (hL 50 rfl) rfl (by decide) fl_X10_289 rfl dX10_tree_1 rfl ?_
  exact sim_iret rfl dX10_tree_4
def b_X10_within_4 (R : Int32 → Int32 → Wd → Option (Int32 × Wd)) (K33 : Int32 → Int32 → Wd → Option (Int32 × Wd)) (v1 : Int32) (v2 : Int32) (w : Wd) : Option (Int32 × Wd) :=
  if (w.1 50 41) ≤ v2 then
  K33 v1 v2 w
  else
  if inb v2 1100 = true then
  if inb v1 1100 = true then
  if (w.1 98 (Int32.toNatClampNeg v2)) ≤ (w.1 98 (Int32.toNatClampNeg v1)) then
  K33 v1 v2 w
  else
  R v1 (v2 + (1 : Int32)) w
  else none
  else none
set_option maxRecDepth 20000 in
theorem sb_X10_within_4 {E : Ev} (hL : LM E) {R : Int32 → Int32 → Wd → Option (Int32 × Wd)} (hR : ∀ (v1 : Int32) (v2 : Int32) (w : Wd), Sim E m_X10_within rI 4 [(0, .ref (Ea E 50)), (1, .int v1), (2, .int v2)] [] w (R v1 v2 w)) {K33 : Int32 → Int32 → Wd → Option (Int32 × Wd)} (hK33 : ∀ (v1 : Int32) (v2 : Int32) (w : Wd), Sim E m_X10_within rI 33 [(1, .int v1), (2, .int v2)] [] w (K33 v1 v2 w)) (v1 : Int32) (v2 : Int32) (w : Wd) : Sim E m_X10_within rI 4 [(0, .ref (Ea E 50)), (1, .int v1), (2, .int v2)] [] w (b_X10_within_4 R K33 v1 v2 w) := by
  unfold b_X10_within_4
  refine sim_iload_n 2 dX10_within_4 rfl rfl ?_
  refine sim_aload_n 0 dX10_within_5 rfl rfl ?_
  refine sim_get (k := 50) (ci := 8) (j := 41) (v := .int (w.1 50 41)) (hL 50 rfl) rfl (by decide) fl_X10_289 rfl dX10_within_6 rfl ?_
  refine sim_icmp_ge 33 dX10_within_9 rfl rfl (fun _ => ?_) (fun _ => ?_)
  · exact sim_sub [1, 2] rfl (hK33 v1 v2 w)
  · refine sim_aload_n 0 dX10_within_12 rfl rfl ?_
    refine sim_get (k := 50) (ci := 8) (j := 47) (v := .ref (Ea E 98)) (hL 50 rfl) rfl (by decide) fl_X10_123 rfl dX10_within_13 rfl ?_
    refine sim_iload_n 2 dX10_within_16 rfl rfl ?_
    refine sim_iaload (k := 98) (hL 98 rfl) rfl rfl dX10_within_17 rfl ?_
    refine sim_aload_n 0 dX10_within_18 rfl rfl ?_
    refine sim_get (k := 50) (ci := 8) (j := 47) (v := .ref (Ea E 98)) (hL 50 rfl) rfl (by decide) fl_X10_123 rfl dX10_within_19 rfl ?_
    refine sim_iload_n 1 dX10_within_22 rfl rfl ?_
    refine sim_iaload (k := 98) (hL 98 rfl) rfl rfl dX10_within_23 rfl ?_
    refine sim_icmp_le 33 dX10_within_24 rfl rfl (fun _ => ?_) (fun _ => ?_)
    · exact sim_sub [1, 2] rfl (hK33 v1 v2 w)
    · refine sim_iinc (v2 + (1 : Int32)) 2 [(2, .int (v2 + (1 : Int32))), (0, .ref (Ea E 50)), (1, .int v1)] dX10_within_27 rfl rfl (Nat.le_of_ble_eq_true rfl) rfl rfl ?_
      refine sim_goto (q := 4) dX10_within_30 rfl ?_
      exact sim_sub [1, 2, 0] rfl (hR v1 (v2 + (1 : Int32)) w)
def l_X10_within_4 (K33 : Int32 → Int32 → Wd → Option (Int32 × Wd)) (n : Nat) : Int32 → Int32 → Wd → Option (Int32 × Wd) := itr (fun _ _ _ => none) (fun R => b_X10_within_4 R K33) n
set_option maxRecDepth 20000 in
theorem sl_X10_within_4 {E : Ev} (hL : LM E) {K33 : Int32 → Int32 → Wd → Option (Int32 × Wd)} (hK33 : ∀ (v1 : Int32) (v2 : Int32) (w : Wd), Sim E m_X10_within rI 33 [(1, .int v1), (2, .int v2)] [] w (K33 v1 v2 w)) : ∀ (n : Nat) (v1 : Int32) (v2 : Int32) (w : Wd), Sim E m_X10_within rI 4 [(0, .ref (Ea E 50)), (1, .int v1), (2, .int v2)] [] w (l_X10_within_4 K33 n v1 v2 w) := by
  intro n
  induction n with
  | zero => intros; exact sim_none
  | succ n ih => intros; exact sb_X10_within_4 hL (R := l_X10_within_4 K33 n) ih hK33 _ _ _
def f_X10_within_33 (v1 : Int32) (v2 : Int32) (w : Wd) : Option (Int32 × Wd) :=
  some (((v2 - v1) - (1 : Int32)), w)
set_option maxRecDepth 20000 in
theorem sf_X10_within_33 {E : Ev} (hL : LM E) (v1 : Int32) (v2 : Int32) (w : Wd) : Sim E m_X10_within rI 33 [(1, .int v1), (2, .int v2)] [] w (f_X10_within_33 v1 v2 w) := by
  unfold f_X10_within_33
  refine sim_iload_n 1 dX10_within_33 rfl rfl ?_
  refine sim_iload_n 0 dX10_within_34 rfl rfl ?_
  refine sim_isub dX10_within_35 rfl ?_
  refine sim_iconst (1 : Int32) dX10_within_36 rfl rfl ?_
  refine sim_isub dX10_within_37 rfl ?_
  exact sim_iret rfl dX10_within_38
def f_X10_within (v1 : Int32) (w : Wd) : Option (Int32 × Wd) :=
  lt (v1 + (1 : Int32)) fun x1 =>
  l_X10_within_4 f_X10_within_33 FU v1 x1 w
set_option maxRecDepth 20000 in
theorem c_X10_within {E : Ev} (hL : LM E) (v1 : Int32) (w : Wd) : Ct E m_X10_within yX10_within rI [.ref (Ea E 50), .int v1] w (f_X10_within v1 w) := by
  refine Ct.of (by decide) ⟨rfl, rfl⟩ (Nat.le_of_ble_eq_true rfl) ?_
  show Sim E m_X10_within rI 0 [(0, .ref (Ea E 50)), (1, .int v1)] [] w (f_X10_within v1 w)
  unfold f_X10_within
  refine sim_iload_n 1 dX10_within_0 rfl rfl ?_
  refine sim_iconst (1 : Int32) dX10_within_1 rfl rfl ?_
  refine sim_iadd dX10_within_2 rfl ?_
  refine sim_lt (fun x1 => ?_)
  refine sim_istore_n [(2, .int x1), (0, .ref (Ea E 50)), (1, .int v1)] dX10_within_3 (Nat.le_of_ble_eq_true rfl) rfl rfl ?_
  exact sim_sub [1, 2, 0] rfl (sl_X10_within_4 hL (sf_X10_within_33 hL) FU v1 x1 w)
def f_X10_node (v1 : Int32) (v2 : Int32) (w : Wd) : Option (Int32 × Wd) :=
  bd (f_X10_in (Int32.toInt64 v1) (0 : Int64) (Int32.toInt64 ((w.1 50 41) - (1 : Int32))) w) fun x1 w2 =>
  if x1 = (0 : Int32) then
  some ((-2 : Int32), w2)
  else
  if v2 = (0 : Int32) then
  if inb v1 1100 = true then
  some ((w2.1 93 (Int32.toNatClampNeg v1)), w2)
  else none
  else
  if v2 = (1 : Int32) then
  if inb v1 1100 = true then
  some ((w2.1 94 (Int32.toNatClampNeg v1)), w2)
  else none
  else
  if v2 = (2 : Int32) then
  if inb v1 1100 = true then
  some ((w2.1 95 (Int32.toNatClampNeg v1)), w2)
  else none
  else
  if v2 = (3 : Int32) then
  if inb v1 1100 = true then
  some ((w2.1 96 (Int32.toNatClampNeg v1)), w2)
  else none
  else
  if v2 = (4 : Int32) then
  if inb v1 1100 = true then
  some ((w2.1 97 (Int32.toNatClampNeg v1)), w2)
  else none
  else
  if v2 = (5 : Int32) then
  if inb v1 1100 = true then
  some ((w2.1 98 (Int32.toNatClampNeg v1)), w2)
  else none
  else
  if v2 = (6 : Int32) then
  bd (f_X10_within v1 w2) fun x3 w4 =>
  some (x3, w4)
  else
  some ((-2 : Int32), w2)
set_option maxRecDepth 20000 in
theorem c_X10_node {E : Ev} (hL : LM E) (v1 : Int32) (v2 : Int32) (w : Wd) : Ct E m_X10_node yX10_node rI [.ref (Ea E 50), .int v1, .int v2] w (f_X10_node v1 v2 w) := by
  refine Ct.of (by decide) ⟨rfl, rfl⟩ (Nat.le_of_ble_eq_true rfl) ?_
  show Sim E m_X10_node rI 0 [(0, .ref (Ea E 50)), (1, .int v1), (2, .int v2)] [] w (f_X10_node v1 v2 w)
  unfold f_X10_node
  refine sim_iload_n 1 dX10_node_0 rfl rfl ?_
  refine sim_i2l dX10_node_1 rfl ?_
  refine sim_lconst (0 : Int64) dX10_node_2 rfl rfl ?_
  refine sim_aload_n 0 dX10_node_3 rfl rfl ?_
  refine sim_get (k := 50) (ci := 8) (j := 41) (v := .int (w.1 50 41)) (hL 50 rfl) rfl (by decide) fl_X10_289 rfl dX10_node_4 rfl ?_
  refine sim_iconst (1 : Int32) dX10_node_7 rfl rfl ?_
  refine sim_isub dX10_node_8 rfl ?_
  refine sim_i2l dX10_node_9 rfl ?_
  refine sim_cSi [.long (Int32.toInt64 v1), .long (0 : Int64), .long (Int32.toInt64 ((w.1 50 41) - (1 : Int32)))] [] (c_X10_in hL (Int32.toInt64 v1) (0 : Int64) (Int32.toInt64 ((w.1 50 41) - (1 : Int32))) w) cb_X10_139 sx_X10_in rfl rfl rfl (Nat.le_of_ble_eq_true rfl) dX10_node_10 rfl (fun x1 w2 => ?_)
  refine sim_if_ne 19 dX10_node_13 rfl rfl (fun _ => ?_) (fun _ => ?_)
  · refine sim_iload_n 2 dX10_node_19 rfl rfl ?_
    refine sim_tab7 64 71 78 85 92 99 106 112 dX10_node_20 rfl rfl rfl rfl rfl rfl rfl rfl ?_ ?_ ?_ ?_ ?_ ?_ ?_ ?_
    · refine sim_aload_n 0 dX10_node_64 rfl rfl ?_
      refine sim_get (k := 50) (ci := 8) (j := 42) (v := .ref (Ea E 93)) (hL 50 rfl) rfl (by decide) fl_X10_108 rfl dX10_node_65 rfl ?_
      refine sim_iload_n 1 dX10_node_68 rfl rfl ?_
      refine sim_iaload (k := 93) (hL 93 rfl) rfl rfl dX10_node_69 rfl ?_
      exact sim_iret rfl dX10_node_70
    · refine sim_aload_n 0 dX10_node_71 rfl rfl ?_
      refine sim_get (k := 50) (ci := 8) (j := 43) (v := .ref (Ea E 94)) (hL 50 rfl) rfl (by decide) fl_X10_111 rfl dX10_node_72 rfl ?_
      refine sim_iload_n 1 dX10_node_75 rfl rfl ?_
      refine sim_iaload (k := 94) (hL 94 rfl) rfl rfl dX10_node_76 rfl ?_
      exact sim_iret rfl dX10_node_77
    · refine sim_aload_n 0 dX10_node_78 rfl rfl ?_
      refine sim_get (k := 50) (ci := 8) (j := 44) (v := .ref (Ea E 95)) (hL 50 rfl) rfl (by decide) fl_X10_114 rfl dX10_node_79 rfl ?_
      refine sim_iload_n 1 dX10_node_82 rfl rfl ?_
      refine sim_iaload (k := 95) (hL 95 rfl) rfl rfl dX10_node_83 rfl ?_
      exact sim_iret rfl dX10_node_84
    · refine sim_aload_n 0 dX10_node_85 rfl rfl ?_
      refine sim_get (k := 50) (ci := 8) (j := 45) (v := .ref (Ea E 96)) (hL 50 rfl) rfl (by decide) fl_X10_117 rfl dX10_node_86 rfl ?_
      refine sim_iload_n 1 dX10_node_89 rfl rfl ?_
      refine sim_iaload (k := 96) (hL 96 rfl) rfl rfl dX10_node_90 rfl ?_
      exact sim_iret rfl dX10_node_91
    · refine sim_aload_n 0 dX10_node_92 rfl rfl ?_
      refine sim_get (k := 50) (ci := 8) (j := 46) (v := .ref (Ea E 97)) (hL 50 rfl) rfl (by decide) fl_X10_120 rfl dX10_node_93 rfl ?_
      refine sim_iload_n 1 dX10_node_96 rfl rfl ?_
      refine sim_iaload (k := 97) (hL 97 rfl) rfl rfl dX10_node_97 rfl ?_
      exact sim_iret rfl dX10_node_98
    · refine sim_aload_n 0 dX10_node_99 rfl rfl ?_
      refine sim_get (k := 50) (ci := 8) (j := 47) (v := .ref (Ea E 98)) (hL 50 rfl) rfl (by decide) fl_X10_123 rfl dX10_node_100 rfl ?_
      refine sim_iload_n 1 dX10_node_103 rfl rfl ?_
      refine sim_iaload (k := 98) (hL 98 rfl) rfl rfl dX10_node_104 rfl ?_
      exact sim_iret rfl dX10_node_105
    · refine sim_aload_n 0 dX10_node_106 rfl rfl ?_
      refine sim_iload_n 1 dX10_node_107 rfl rfl ?_
      refine sim_cVi (k := 50) (ci := 8) [.int v1] [] (c_X10_within hL v1 w2) (hL 50 rfl) rfl (by decide) rfl cb_X10_320 im_X10_within se_X10_within rfl rfl rfl (Nat.le_of_ble_eq_true rfl) dX10_node_108 rfl (fun x3 w4 => ?_)
      exact sim_iret rfl dX10_node_111
    · refine sim_bipush (-2 : Int32) dX10_node_112 rfl rfl ?_
      exact sim_iret rfl dX10_node_114
  · refine sim_bipush (-2 : Int32) dX10_node_16 rfl rfl ?_
    exact sim_iret rfl dX10_node_18
def f_X10_forge_72 (w : Wd) : Option (Int32 × Wd) :=
  some ((-2 : Int32), w)
set_option maxRecDepth 20000 in
theorem sf_X10_forge_72 {E : Ev} (hL : LM E) (w : Wd) : Sim E m_X10_forge rI 72 [] [] w (f_X10_forge_72 w) := by
  unfold f_X10_forge_72
  refine sim_bipush (-2 : Int32) dX10_forge_72 rfl rfl ?_
  exact sim_iret rfl dX10_forge_74
def f_X10_forge_121 (s1 : Int32) (s2 : Int32) (w : Wd) : Option (Int32 × Wd) :=
  if inb s1 1100 = true then
  lw (wdI w 97 (Int32.toNatClampNeg s1) s2) fun w8 =>
  some ((1 : Int32), w8)
  else none
set_option maxRecDepth 20000 in
theorem sf_X10_forge_121 {E : Ev} (hL : LM E) (s1 : Int32) (s2 : Int32) (w : Wd) : Sim E m_X10_forge rI 121 [] [.int s2, .int s1, .ref (Ea E 97)] w (f_X10_forge_121 s1 s2 w) := by
  unfold f_X10_forge_121
  refine sim_iastore (k := 97) (hL 97 rfl) rfl rfl dX10_forge_121 rfl ?_
  refine sim_lw (fun w8 => ?_)
  refine sim_iconst (1 : Int32) dX10_forge_122 rfl rfl ?_
  exact sim_iret rfl dX10_forge_123
def f_X10_forge_104 (v1 : Int32) (v5 : Int32) (v6 : Int32) (s1 : Int32) (s2 : Int32) (w : Wd) : Option (Int32 × Wd) :=
  if inb s1 1100 = true then
  lw (wdI w 96 (Int32.toNatClampNeg s1) s2) fun w7 =>
  if v6 = (0 : Int32) then
  f_X10_forge_121 v1 (-1 : Int32) w7
  else
  f_X10_forge_121 v1 v5 w7
  else none
set_option maxRecDepth 20000 in
theorem sf_X10_forge_104 {E : Ev} (hL : LM E) (v1 : Int32) (v5 : Int32) (v6 : Int32) (s1 : Int32) (s2 : Int32) (w : Wd) : Sim E m_X10_forge rI 104 [(0, .ref (Ea E 50)), (1, .int v1), (5, .int v5), (6, .int v6)] [.int s2, .int s1, .ref (Ea E 96)] w (f_X10_forge_104 v1 v5 v6 s1 s2 w) := by
  unfold f_X10_forge_104
  refine sim_iastore (k := 96) (hL 96 rfl) rfl rfl dX10_forge_104 rfl ?_
  refine sim_lw (fun w7 => ?_)
  refine sim_aload_n 0 dX10_forge_105 rfl rfl ?_
  refine sim_get (k := 50) (ci := 8) (j := 46) (v := .ref (Ea E 97)) (hL 50 rfl) rfl (by decide) fl_X10_120 rfl dX10_forge_106 rfl ?_
  refine sim_iload_n 1 dX10_forge_109 rfl rfl ?_
  refine sim_iload 3 dX10_forge_110 rfl rfl ?_
  refine sim_if_eq 120 dX10_forge_112 rfl rfl (fun _ => ?_) (fun _ => ?_)
  · refine sim_iconst (-1 : Int32) dX10_forge_120 rfl rfl ?_
    exact sim_sub [] rfl (sf_X10_forge_121 hL v1 (-1 : Int32) w7)
  · refine sim_iload 2 dX10_forge_115 rfl rfl ?_
    refine sim_goto (q := 121) dX10_forge_117 rfl ?_
    exact sim_sub [] rfl (sf_X10_forge_121 hL v1 v5 w7)
def f_X10_forge_75 (v1 : Int32) (v2 : Int32) (v3 : Int32) (v4 : Int32) (v5 : Int32) (v6 : Int32) (w : Wd) : Option (Int32 × Wd) :=
  if inb v1 1100 = true then
  lw (wdI w 94 (Int32.toNatClampNeg v1) v2) fun w5 =>
  if inb v1 1100 = true then
  lw (wdI w5 95 (Int32.toNatClampNeg v1) v3) fun w6 =>
  if v4 = (0 : Int32) then
  f_X10_forge_104 v1 v5 v6 v1 (0 : Int32) w6
  else
  f_X10_forge_104 v1 v5 v6 v1 (1 : Int32) w6
  else none
  else none
set_option maxRecDepth 20000 in
theorem sf_X10_forge_75 {E : Ev} (hL : LM E) (v1 : Int32) (v2 : Int32) (v3 : Int32) (v4 : Int32) (v5 : Int32) (v6 : Int32) (w : Wd) : Sim E m_X10_forge rI 75 [(0, .ref (Ea E 50)), (1, .int v1), (2, .int v2), (3, .int v3), (4, .int v4), (5, .int v5), (6, .int v6)] [] w (f_X10_forge_75 v1 v2 v3 v4 v5 v6 w) := by
  unfold f_X10_forge_75
  refine sim_aload_n 0 dX10_forge_75 rfl rfl ?_
  refine sim_get (k := 50) (ci := 8) (j := 43) (v := .ref (Ea E 94)) (hL 50 rfl) rfl (by decide) fl_X10_111 rfl dX10_forge_76 rfl ?_
  refine sim_iload_n 1 dX10_forge_79 rfl rfl ?_
  refine sim_iload_n 2 dX10_forge_80 rfl rfl ?_
  refine sim_iastore (k := 94) (hL 94 rfl) rfl rfl dX10_forge_81 rfl ?_
  refine sim_lw (fun w5 => ?_)
  refine sim_aload_n 0 dX10_forge_82 rfl rfl ?_
  refine sim_get (k := 50) (ci := 8) (j := 44) (v := .ref (Ea E 95)) (hL 50 rfl) rfl (by decide) fl_X10_114 rfl dX10_forge_83 rfl ?_
  refine sim_iload_n 1 dX10_forge_86 rfl rfl ?_
  refine sim_iload_n 3 dX10_forge_87 rfl rfl ?_
  refine sim_iastore (k := 95) (hL 95 rfl) rfl rfl dX10_forge_88 rfl ?_
  refine sim_lw (fun w6 => ?_)
  refine sim_aload_n 0 dX10_forge_89 rfl rfl ?_
  refine sim_get (k := 50) (ci := 8) (j := 45) (v := .ref (Ea E 96)) (hL 50 rfl) rfl (by decide) fl_X10_117 rfl dX10_forge_90 rfl ?_
  refine sim_iload_n 1 dX10_forge_93 rfl rfl ?_
  refine sim_iload 4 dX10_forge_94 rfl rfl ?_
  refine sim_if_eq 103 dX10_forge_96 rfl rfl (fun _ => ?_) (fun _ => ?_)
  · refine sim_iconst (0 : Int32) dX10_forge_103 rfl rfl ?_
    exact sim_sub [0, 1, 5, 6] rfl (sf_X10_forge_104 hL v1 v5 v6 v1 (0 : Int32) w6)
  · refine sim_iconst (1 : Int32) dX10_forge_99 rfl rfl ?_
    refine sim_goto (q := 104) dX10_forge_100 rfl ?_
    exact sim_sub [0, 1, 5, 6] rfl (sf_X10_forge_104 hL v1 v5 v6 v1 (1 : Int32) w6)
def f_X10_forge_49 (v1 : Int32) (v2 : Int32) (v3 : Int32) (v4 : Int32) (v5 : Int32) (v6 : Int32) (w : Wd) : Option (Int32 × Wd) :=
  if v6 = (0 : Int32) then
  f_X10_forge_75 v1 v2 v3 v4 v5 v6 w
  else
  if v4 = (0 : Int32) then
  bd (f_X10_in (Int32.toInt64 v5) (1 : Int64) (7 : Int64) w) fun x9 w10 =>
  if x9 = (0 : Int32) then
  f_X10_forge_72 w10
  else
  f_X10_forge_75 v1 v2 v3 v4 v5 v6 w10
  else
  f_X10_forge_72 w
set_option maxRecDepth 20000 in
theorem sf_X10_forge_49 {E : Ev} (hL : LM E) (v1 : Int32) (v2 : Int32) (v3 : Int32) (v4 : Int32) (v5 : Int32) (v6 : Int32) (w : Wd) : Sim E m_X10_forge rI 49 [(0, .ref (Ea E 50)), (1, .int v1), (2, .int v2), (3, .int v3), (4, .int v4), (5, .int v5), (6, .int v6)] [] w (f_X10_forge_49 v1 v2 v3 v4 v5 v6 w) := by
  unfold f_X10_forge_49
  refine sim_iload 6 dX10_forge_49 rfl rfl ?_
  refine sim_if_eq 75 dX10_forge_51 rfl rfl (fun _ => ?_) (fun _ => ?_)
  · exact sim_sub [0, 1, 2, 3, 4, 5, 6] rfl (sf_X10_forge_75 hL v1 v2 v3 v4 v5 v6 w)
  · refine sim_iload 4 dX10_forge_54 rfl rfl ?_
    refine sim_if_ne 72 dX10_forge_56 rfl rfl (fun _ => ?_) (fun _ => ?_)
    · exact sim_sub [] rfl (sf_X10_forge_72 hL w)
    · refine sim_iload 5 dX10_forge_59 rfl rfl ?_
      refine sim_i2l dX10_forge_61 rfl ?_
      refine sim_lconst (1 : Int64) dX10_forge_62 rfl rfl ?_
      refine sim_ldc2 (7 : Int64) dX10_forge_63 k_X10_137 rfl ?_
      refine sim_cSi [.long (Int32.toInt64 v5), .long (1 : Int64), .long (7 : Int64)] [] (c_X10_in hL (Int32.toInt64 v5) (1 : Int64) (7 : Int64) w) cb_X10_139 sx_X10_in rfl rfl rfl (Nat.le_of_ble_eq_true rfl) dX10_forge_66 rfl (fun x9 w10 => ?_)
      refine sim_if_ne 75 dX10_forge_69 rfl rfl (fun _ => ?_) (fun _ => ?_)
      · exact sim_sub [0, 1, 2, 3, 4, 5, 6] rfl (sf_X10_forge_75 hL v1 v2 v3 v4 v5 v6 w10)
      · exact sim_sub [] rfl (sf_X10_forge_72 hL w10)
def f_X10_forge_10 (v1 : Int32) (v2 : Int32) (v3 : Int32) (v4 : Int32) (v5 : Int32) (s0 : Int32) (w : Wd) : Option (Int32 × Wd) :=
  bd (f_X10_in (Int32.toInt64 v1) (0 : Int64) (Int32.toInt64 ((w.1 50 41) - (1 : Int32))) w) fun x1 w2 =>
  if x1 = (0 : Int32) then
  f_X10_forge_72 w2
  else
  bd (f_X10_isField v3 w2) fun x3 w4 =>
  if x3 = (0 : Int32) then
  f_X10_forge_72 w4
  else
  if s0 = (0 : Int32) then
  bd (f_X10_isField v2 w4) fun x11 w12 =>
  if x11 = (0 : Int32) then
  f_X10_forge_72 w12
  else
  f_X10_forge_49 v1 v2 v3 v4 v5 s0 w12
  else
  f_X10_forge_49 v1 v2 v3 v4 v5 s0 w4
set_option maxRecDepth 20000 in
theorem sf_X10_forge_10 {E : Ev} (hL : LM E) (v1 : Int32) (v2 : Int32) (v3 : Int32) (v4 : Int32) (v5 : Int32) (s0 : Int32) (w : Wd) : Sim E m_X10_forge rI 10 [(0, .ref (Ea E 50)), (1, .int v1), (2, .int v2), (3, .int v3), (4, .int v4), (5, .int v5)] [.int s0] w (f_X10_forge_10 v1 v2 v3 v4 v5 s0 w) := by
  unfold f_X10_forge_10
  refine sim_istore [(6, .int s0), (0, .ref (Ea E 50)), (1, .int v1), (2, .int v2), (3, .int v3), (4, .int v4), (5, .int v5)] dX10_forge_10 (Nat.le_of_ble_eq_true rfl) rfl rfl ?_
  refine sim_iload_n 2 dX10_forge_12 rfl rfl ?_
  refine sim_i2l dX10_forge_13 rfl ?_
  refine sim_lconst (0 : Int64) dX10_forge_14 rfl rfl ?_
  refine sim_aload_n 1 dX10_forge_15 rfl rfl ?_
  refine sim_get (k := 50) (ci := 8) (j := 41) (v := .int (w.1 50 41)) (hL 50 rfl) rfl (by decide) fl_X10_289 rfl dX10_forge_16 rfl ?_
  refine sim_iconst (1 : Int32) dX10_forge_19 rfl rfl ?_
  refine sim_isub dX10_forge_20 rfl ?_
  refine sim_i2l dX10_forge_21 rfl ?_
  refine sim_cSi [.long (Int32.toInt64 v1), .long (0 : Int64), .long (Int32.toInt64 ((w.1 50 41) - (1 : Int32)))] [] (c_X10_in hL (Int32.toInt64 v1) (0 : Int64) (Int32.toInt64 ((w.1 50 41) - (1 : Int32))) w) cb_X10_139 sx_X10_in rfl rfl rfl (Nat.le_of_ble_eq_true rfl) dX10_forge_22 rfl (fun x1 w2 => ?_)
  refine sim_if_eq 72 dX10_forge_25 rfl rfl (fun _ => ?_) (fun _ => ?_)
  · exact sim_sub [] rfl (sf_X10_forge_72 hL w2)
  · refine sim_aload_n 1 dX10_forge_28 rfl rfl ?_
    refine sim_iload_n 4 dX10_forge_29 rfl rfl ?_
    refine sim_cVi (k := 50) (ci := 8) [.int v3] [] (c_X10_isField hL v3 w2) (hL 50 rfl) rfl (by decide) rfl cb_X10_292 im_X10_isField se_X10_isField rfl rfl rfl (Nat.le_of_ble_eq_true rfl) dX10_forge_30 rfl (fun x3 w4 => ?_)
    refine sim_if_eq 72 dX10_forge_33 rfl rfl (fun _ => ?_) (fun _ => ?_)
    · exact sim_sub [] rfl (sf_X10_forge_72 hL w4)
    · refine sim_iload 0 dX10_forge_36 rfl rfl ?_
      refine sim_if_ne 49 dX10_forge_38 rfl rfl (fun _ => ?_) (fun _ => ?_)
      · exact sim_sub [1, 2, 3, 4, 5, 6, 0] rfl (sf_X10_forge_49 hL v1 v2 v3 v4 v5 s0 w4)
      · refine sim_aload_n 1 dX10_forge_41 rfl rfl ?_
        refine sim_iload_n 3 dX10_forge_42 rfl rfl ?_
        refine sim_cVi (k := 50) (ci := 8) [.int v2] [] (c_X10_isField hL v2 w4) (hL 50 rfl) rfl (by decide) rfl cb_X10_292 im_X10_isField se_X10_isField rfl rfl rfl (Nat.le_of_ble_eq_true rfl) dX10_forge_43 rfl (fun x11 w12 => ?_)
        refine sim_if_eq 72 dX10_forge_46 rfl rfl (fun _ => ?_) (fun _ => ?_)
        · exact sim_sub [] rfl (sf_X10_forge_72 hL w12)
        · exact sim_sub [1, 2, 3, 4, 5, 6, 0] rfl (sf_X10_forge_49 hL v1 v2 v3 v4 v5 s0 w12)
def f_X10_forge (v1 : Int32) (v2 : Int32) (v3 : Int32) (v4 : Int32) (v5 : Int32) (w : Wd) : Option (Int32 × Wd) :=
  if v2 = (-1 : Int32) then
  f_X10_forge_10 v1 v2 v3 v4 v5 (1 : Int32) w
  else
  f_X10_forge_10 v1 v2 v3 v4 v5 (0 : Int32) w
set_option maxRecDepth 20000 in
theorem c_X10_forge {E : Ev} (hL : LM E) (v1 : Int32) (v2 : Int32) (v3 : Int32) (v4 : Int32) (v5 : Int32) (w : Wd) : Ct E m_X10_forge yX10_forge rI [.ref (Ea E 50), .int v1, .int v2, .int v3, .int v4, .int v5] w (f_X10_forge v1 v2 v3 v4 v5 w) := by
  refine Ct.of (by decide) ⟨rfl, rfl⟩ (Nat.le_of_ble_eq_true rfl) ?_
  show Sim E m_X10_forge rI 0 [(0, .ref (Ea E 50)), (1, .int v1), (2, .int v2), (3, .int v3), (4, .int v4), (5, .int v5)] [] w (f_X10_forge v1 v2 v3 v4 v5 w)
  unfold f_X10_forge
  refine sim_iload_n 2 dX10_forge_0 rfl rfl ?_
  refine sim_iconst (-1 : Int32) dX10_forge_1 rfl rfl ?_
  refine sim_icmp_ne 9 dX10_forge_2 rfl rfl (fun _ => ?_) (fun _ => ?_)
  · refine sim_iconst (0 : Int32) dX10_forge_9 rfl rfl ?_
    exact sim_sub [0, 1, 2, 3, 4, 5] rfl (sf_X10_forge_10 hL v1 v2 v3 v4 v5 (0 : Int32) w)
  · refine sim_iconst (1 : Int32) dX10_forge_5 rfl rfl ?_
    refine sim_goto (q := 10) dX10_forge_6 rfl ?_
    exact sim_sub [0, 1, 2, 3, 4, 5] rfl (sf_X10_forge_10 hL v1 v2 v3 v4 v5 (1 : Int32) w)
def f_X10_manyIn_30 (R : Int32 → Int32 → Int32 → Wd → Option (Int32 × Wd)) (K38 : Int32 → Wd → Option (Int32 × Wd)) (v1 : Int32) (v3 : Int32) (s0 : Int32) (s1 : Int32) (w : Wd) : Option (Int32 × Wd) :=
  lt (s0 + s1) fun x2 =>
  R v1 x2 (v3 + (1 : Int32)) w
set_option maxRecDepth 20000 in
theorem sf_X10_manyIn_30 {E : Ev} (hL : LM E) {R : Int32 → Int32 → Int32 → Wd → Option (Int32 × Wd)} (hR : ∀ (v1 : Int32) (v2 : Int32) (v3 : Int32) (w : Wd), Sim E m_X10_manyIn rI 6 [(0, .ref (Ea E 50)), (1, .int v1), (2, .int v2), (3, .int v3)] [] w (R v1 v2 v3 w)) {K38 : Int32 → Wd → Option (Int32 × Wd)} (hK38 : ∀ (v2 : Int32) (w : Wd), Sim E m_X10_manyIn rI 38 [(2, .int v2)] [] w (K38 v2 w)) (v1 : Int32) (v3 : Int32) (s0 : Int32) (s1 : Int32) (w : Wd) : Sim E m_X10_manyIn rI 30 [(0, .ref (Ea E 50)), (1, .int v1), (3, .int v3)] [.int s1, .int s0] w (f_X10_manyIn_30 R K38 v1 v3 s0 s1 w) := by
  unfold f_X10_manyIn_30
  refine sim_iadd dX10_manyIn_30 rfl ?_
  refine sim_lt (fun x2 => ?_)
  refine sim_istore_n [(2, .int x2), (0, .ref (Ea E 50)), (1, .int v1), (3, .int v3)] dX10_manyIn_31 (Nat.le_of_ble_eq_true rfl) rfl rfl ?_
  refine sim_iinc (v3 + (1 : Int32)) 3 [(3, .int (v3 + (1 : Int32))), (2, .int x2), (0, .ref (Ea E 50)), (1, .int v1)] dX10_manyIn_32 rfl rfl (Nat.le_of_ble_eq_true rfl) rfl rfl ?_
  refine sim_goto (q := 6) dX10_manyIn_35 rfl ?_
  exact sim_sub [2, 3, 1, 0] rfl (hR v1 x2 (v3 + (1 : Int32)) w)
def b_X10_manyIn_6 (R : Int32 → Int32 → Int32 → Wd → Option (Int32 × Wd)) (K38 : Int32 → Wd → Option (Int32 × Wd)) (v1 : Int32) (v2 : Int32) (v3 : Int32) (w : Wd) : Option (Int32 × Wd) :=
  if (w.1 50 41) ≤ v3 then
  K38 v2 w
  else
  if inb v3 1100 = true then
  if (w.1 93 (Int32.toNatClampNeg v3)) = v1 then
  f_X10_manyIn_30 R K38 v1 v3 v2 (1 : Int32) w
  else
  f_X10_manyIn_30 R K38 v1 v3 v2 (0 : Int32) w
  else none
set_option maxRecDepth 20000 in
theorem sb_X10_manyIn_6 {E : Ev} (hL : LM E) {R : Int32 → Int32 → Int32 → Wd → Option (Int32 × Wd)} (hR : ∀ (v1 : Int32) (v2 : Int32) (v3 : Int32) (w : Wd), Sim E m_X10_manyIn rI 6 [(0, .ref (Ea E 50)), (1, .int v1), (2, .int v2), (3, .int v3)] [] w (R v1 v2 v3 w)) {K38 : Int32 → Wd → Option (Int32 × Wd)} (hK38 : ∀ (v2 : Int32) (w : Wd), Sim E m_X10_manyIn rI 38 [(2, .int v2)] [] w (K38 v2 w)) (v1 : Int32) (v2 : Int32) (v3 : Int32) (w : Wd) : Sim E m_X10_manyIn rI 6 [(0, .ref (Ea E 50)), (1, .int v1), (2, .int v2), (3, .int v3)] [] w (b_X10_manyIn_6 R K38 v1 v2 v3 w) := by
  unfold b_X10_manyIn_6
  refine sim_iload_n 3 dX10_manyIn_6 rfl rfl ?_
  refine sim_aload_n 0 dX10_manyIn_7 rfl rfl ?_
  refine sim_get (k := 50) (ci := 8) (j := 41) (v := .int (w.1 50 41)) (hL 50 rfl) rfl (by decide) fl_X10_289 rfl dX10_manyIn_8 rfl ?_
  refine sim_icmp_ge 38 dX10_manyIn_11 rfl rfl (fun _ => ?_) (fun _ => ?_)
  · exact sim_sub [2] rfl (hK38 v2 w)
  · refine sim_iload_n 2 dX10_manyIn_14 rfl rfl ?_
    refine sim_aload_n 0 dX10_manyIn_15 rfl rfl ?_
    refine sim_get (k := 50) (ci := 8) (j := 42) (v := .ref (Ea E 93)) (hL 50 rfl) rfl (by decide) fl_X10_108 rfl dX10_manyIn_16 rfl ?_
    refine sim_iload_n 3 dX10_manyIn_19 rfl rfl ?_
    refine sim_iaload (k := 93) (hL 93 rfl) rfl rfl dX10_manyIn_20 rfl ?_
    refine sim_iload_n 1 dX10_manyIn_21 rfl rfl ?_
    refine sim_icmp_ne 29 dX10_manyIn_22 rfl rfl (fun _ => ?_) (fun _ => ?_)
    · refine sim_iconst (0 : Int32) dX10_manyIn_29 rfl rfl ?_
      exact sim_sub [0, 1, 3] rfl (sf_X10_manyIn_30 hL hR hK38 v1 v3 v2 (0 : Int32) w)
    · refine sim_iconst (1 : Int32) dX10_manyIn_25 rfl rfl ?_
      refine sim_goto (q := 30) dX10_manyIn_26 rfl ?_
      exact sim_sub [0, 1, 3] rfl (sf_X10_manyIn_30 hL hR hK38 v1 v3 v2 (1 : Int32) w)
def l_X10_manyIn_6 (K38 : Int32 → Wd → Option (Int32 × Wd)) (n : Nat) : Int32 → Int32 → Int32 → Wd → Option (Int32 × Wd) := itr (fun _ _ _ _ => none) (fun R => b_X10_manyIn_6 R K38) n
set_option maxRecDepth 20000 in
theorem sl_X10_manyIn_6 {E : Ev} (hL : LM E) {K38 : Int32 → Wd → Option (Int32 × Wd)} (hK38 : ∀ (v2 : Int32) (w : Wd), Sim E m_X10_manyIn rI 38 [(2, .int v2)] [] w (K38 v2 w)) : ∀ (n : Nat) (v1 : Int32) (v2 : Int32) (v3 : Int32) (w : Wd), Sim E m_X10_manyIn rI 6 [(0, .ref (Ea E 50)), (1, .int v1), (2, .int v2), (3, .int v3)] [] w (l_X10_manyIn_6 K38 n v1 v2 v3 w) := by
  intro n
  induction n with
  | zero => intros; exact sim_none
  | succ n ih => intros; exact sb_X10_manyIn_6 hL (R := l_X10_manyIn_6 K38 n) ih hK38 _ _ _ _
def f_X10_manyIn_38 (v2 : Int32) (w : Wd) : Option (Int32 × Wd) :=
  some (v2, w)
set_option maxRecDepth 20000 in
theorem sf_X10_manyIn_38 {E : Ev} (hL : LM E) (v2 : Int32) (w : Wd) : Sim E m_X10_manyIn rI 38 [(2, .int v2)] [] w (f_X10_manyIn_38 v2 w) := by
  unfold f_X10_manyIn_38
  refine sim_iload_n 0 dX10_manyIn_38 rfl rfl ?_
  exact sim_iret rfl dX10_manyIn_39
def f_X10_manyIn (v1 : Int32) (w : Wd) : Option (Int32 × Wd) :=
  lt (v1 + (1 : Int32)) fun x1 =>
  l_X10_manyIn_6 f_X10_manyIn_38 FU v1 (0 : Int32) x1 w
set_option maxRecDepth 20000 in
theorem c_X10_manyIn {E : Ev} (hL : LM E) (v1 : Int32) (w : Wd) : Ct E m_X10_manyIn yX10_manyIn rI [.ref (Ea E 50), .int v1] w (f_X10_manyIn v1 w) := by
  refine Ct.of (by decide) ⟨rfl, rfl⟩ (Nat.le_of_ble_eq_true rfl) ?_
  show Sim E m_X10_manyIn rI 0 [(0, .ref (Ea E 50)), (1, .int v1)] [] w (f_X10_manyIn v1 w)
  unfold f_X10_manyIn
  refine sim_iconst (0 : Int32) dX10_manyIn_0 rfl rfl ?_
  refine sim_istore_n [(2, .int (0 : Int32)), (0, .ref (Ea E 50)), (1, .int v1)] dX10_manyIn_1 (Nat.le_of_ble_eq_true rfl) rfl rfl ?_
  refine sim_iload_n 2 dX10_manyIn_2 rfl rfl ?_
  refine sim_iconst (1 : Int32) dX10_manyIn_3 rfl rfl ?_
  refine sim_iadd dX10_manyIn_4 rfl ?_
  refine sim_lt (fun x1 => ?_)
  refine sim_istore_n [(3, .int x1), (2, .int (0 : Int32)), (0, .ref (Ea E 50)), (1, .int v1)] dX10_manyIn_5 (Nat.le_of_ble_eq_true rfl) rfl rfl ?_
  exact sim_sub [2, 3, 1, 0] rfl (sl_X10_manyIn_6 hL (sf_X10_manyIn_38 hL) FU v1 (0 : Int32) x1 w)
def f_X10_verify_14 (w : Wd) : Option (Int32 × Wd) :=
  some ((-3 : Int32), w)
set_option maxRecDepth 20000 in
theorem sf_X10_verify_14 {E : Ev} (hL : LM E) (w : Wd) : Sim E m_X10_verify rI 14 [] [] w (f_X10_verify_14 w) := by
  unfold f_X10_verify_14
  refine sim_bipush (-3 : Int32) dX10_verify_14 rfl rfl ?_
  exact sim_iret rfl dX10_verify_16
def f_X10_verify_195 (R : Int32 → Wd → Option (Int32 × Wd)) (K116 : Int32 → Wd → Option (Int32 × Wd)) (K140 : Int32 → Wd → Option (Int32 × Wd)) (K191 : Int32 → Wd → Option (Int32 × Wd)) (K201 : Wd → Option (Int32 × Wd)) (v1 : Int32) (w : Wd) : Option (Int32 × Wd) :=
  R (v1 + (1 : Int32)) w
set_option maxRecDepth 20000 in
theorem sf_X10_verify_195 {E : Ev} (hL : LM E) {R : Int32 → Wd → Option (Int32 × Wd)} (hR : ∀ (v1 : Int32) (w : Wd), Sim E m_X10_verify rI 24 [(0, .ref (Ea E 50)), (1, .int v1)] [] w (R v1 w)) {K116 : Int32 → Wd → Option (Int32 × Wd)} (hK116 : ∀ (v1 : Int32) (w : Wd), Sim E m_X10_verify rI 116 [(1, .int v1)] [] w (K116 v1 w)) {K140 : Int32 → Wd → Option (Int32 × Wd)} (hK140 : ∀ (v1 : Int32) (w : Wd), Sim E m_X10_verify rI 140 [(1, .int v1)] [] w (K140 v1 w)) {K191 : Int32 → Wd → Option (Int32 × Wd)} (hK191 : ∀ (v1 : Int32) (w : Wd), Sim E m_X10_verify rI 191 [(1, .int v1)] [] w (K191 v1 w)) {K201 : Wd → Option (Int32 × Wd)} (hK201 : ∀ (w : Wd), Sim E m_X10_verify rI 201 [] [] w (K201  w)) (v1 : Int32) (w : Wd) : Sim E m_X10_verify rI 195 [(0, .ref (Ea E 50)), (1, .int v1)] [] w (f_X10_verify_195 R K116 K140 K191 K201 v1 w) := by
  unfold f_X10_verify_195
  refine sim_iinc (v1 + (1 : Int32)) 1 [(1, .int (v1 + (1 : Int32))), (0, .ref (Ea E 50))] dX10_verify_195 rfl rfl (Nat.le_of_ble_eq_true rfl) rfl rfl ?_
  refine sim_goto (q := 24) dX10_verify_198 rfl ?_
  exact sim_sub [1, 0] rfl (hR (v1 + (1 : Int32)) w)
def f_X10_verify_105 (R : Int32 → Wd → Option (Int32 × Wd)) (K116 : Int32 → Wd → Option (Int32 × Wd)) (K140 : Int32 → Wd → Option (Int32 × Wd)) (K191 : Int32 → Wd → Option (Int32 × Wd)) (K201 : Wd → Option (Int32 × Wd)) (v1 : Int32) (v2 : Int32) (v3 : Int32) (s1 : Int32) (s2 : Int32) (w : Wd) : Option (Int32 × Wd) :=
  if inb s1 16 = true then
  lw (wdI w 99 (Int32.toNatClampNeg s1) s2) fun w11 =>
  if inb v2 16 = true then
  if v3 = (w11.1 99 (Int32.toNatClampNeg v2)) then
  bd (f_X10_makeMove v2 v3 w11) fun _ w12 =>
  bd (f_X10_findMoves (v2 + (1 : Int32)) w12) fun _ w13 =>
  f_X10_verify_195 R K116 K140 K191 K201 v1 w13
  else
  K116 v1 w11
  else none
  else none
set_option maxRecDepth 20000 in
theorem sf_X10_verify_105 {E : Ev} (hL : LM E) {R : Int32 → Wd → Option (Int32 × Wd)} (hR : ∀ (v1 : Int32) (w : Wd), Sim E m_X10_verify rI 24 [(0, .ref (Ea E 50)), (1, .int v1)] [] w (R v1 w)) {K116 : Int32 → Wd → Option (Int32 × Wd)} (hK116 : ∀ (v1 : Int32) (w : Wd), Sim E m_X10_verify rI 116 [(1, .int v1)] [] w (K116 v1 w)) {K140 : Int32 → Wd → Option (Int32 × Wd)} (hK140 : ∀ (v1 : Int32) (w : Wd), Sim E m_X10_verify rI 140 [(1, .int v1)] [] w (K140 v1 w)) {K191 : Int32 → Wd → Option (Int32 × Wd)} (hK191 : ∀ (v1 : Int32) (w : Wd), Sim E m_X10_verify rI 191 [(1, .int v1)] [] w (K191 v1 w)) {K201 : Wd → Option (Int32 × Wd)} (hK201 : ∀ (w : Wd), Sim E m_X10_verify rI 201 [] [] w (K201  w)) (v1 : Int32) (v2 : Int32) (v3 : Int32) (s1 : Int32) (s2 : Int32) (w : Wd) : Sim E m_X10_verify rI 105 [(0, .ref (Ea E 50)), (1, .int v1), (2, .int v2), (3, .int v3)] [.int s2, .int s1, .ref (Ea E 99)] w (f_X10_verify_105 R K116 K140 K191 K201 v1 v2 v3 s1 s2 w) := by
  unfold f_X10_verify_105
  refine sim_iastore (k := 99) (hL 99 rfl) rfl rfl dX10_verify_105 rfl ?_
  refine sim_lw (fun w11 => ?_)
  refine sim_iload_n 3 dX10_verify_106 rfl rfl ?_
  refine sim_aload_n 0 dX10_verify_107 rfl rfl ?_
  refine sim_get (k := 50) (ci := 8) (j := 48) (v := .ref (Ea E 99)) (hL 50 rfl) rfl (by decide) fl_X10_126 rfl dX10_verify_108 rfl ?_
  refine sim_iload_n 2 dX10_verify_111 rfl rfl ?_
  refine sim_iaload (k := 99) (hL 99 rfl) rfl rfl dX10_verify_112 rfl ?_
  refine sim_icmp_eq 120 dX10_verify_113 rfl rfl (fun _ => ?_) (fun _ => ?_)
  · refine sim_aload_n 0 dX10_verify_120 rfl rfl ?_
    refine sim_iload_n 2 dX10_verify_121 rfl rfl ?_
    refine sim_iload_n 3 dX10_verify_122 rfl rfl ?_
    refine sim_cVv (k := 50) (ci := 8) [.int v2, .int v3] [] (c_X10_makeMove hL v2 v3 w11) (hL 50 rfl) rfl (by decide) rfl cb_X10_297 im_X10_makeMove se_X10_makeMove rfl rfl rfl (Nat.le_of_ble_eq_true rfl) dX10_verify_123 rfl (fun _ w12 => ?_)
    refine sim_aload_n 0 dX10_verify_126 rfl rfl ?_
    refine sim_iload_n 2 dX10_verify_127 rfl rfl ?_
    refine sim_iconst (1 : Int32) dX10_verify_128 rfl rfl ?_
    refine sim_iadd dX10_verify_129 rfl ?_
    refine sim_cVv (k := 50) (ci := 8) [.int (v2 + (1 : Int32))] [] (c_X10_findMoves hL (v2 + (1 : Int32)) w12) (hL 50 rfl) rfl (by decide) rfl cb_X10_255 im_X10_findMoves se_X10_findMoves rfl rfl rfl (Nat.le_of_ble_eq_true rfl) dX10_verify_130 rfl (fun _ w13 => ?_)
    refine sim_goto (q := 195) dX10_verify_133 rfl ?_
    exact sim_sub [0, 1] rfl (sf_X10_verify_195 hL hR hK116 hK140 hK191 hK201 v1 w13)
  · exact sim_sub [1] rfl (hK116 v1 w11)
def b_X10_verify_24 (R : Int32 → Wd → Option (Int32 × Wd)) (K116 : Int32 → Wd → Option (Int32 × Wd)) (K140 : Int32 → Wd → Option (Int32 × Wd)) (K191 : Int32 → Wd → Option (Int32 × Wd)) (K201 : Wd → Option (Int32 × Wd)) (v1 : Int32) (w : Wd) : Option (Int32 × Wd) :=
  if (w.1 50 41) ≤ v1 then
  K201 w
  else
  if inb v1 1100 = true then
  lt (w.1 98 (Int32.toNatClampNeg v1)) fun x2 =>
  if inb v1 1100 = true then
  if inb v1 1100 = true then
  if inb v1 1100 = true then
  if inb v1 1100 = true then
  bd (f_X10_indexOf x2 (w.1 94 (Int32.toNatClampNeg v1)) (w.1 95 (Int32.toNatClampNeg v1)) (w.1 96 (Int32.toNatClampNeg v1)) (w.1 97 (Int32.toNatClampNeg v1)) w) fun x3 w4 =>
  if ¬ (2 : Int32) = (0 : Int32) then
  if (x2 - x2 / (2 : Int32) * (2 : Int32)) = (1 : Int32) then
  if inb v1 1100 = true then
  if (w4.1 93 (Int32.toNatClampNeg v1)) = (v1 - (1 : Int32)) then
  f_X10_verify_105 R K116 K140 K191 K201 v1 x2 x3 x2 (0 : Int32) w4
  else
  if inb x2 16 = true then
  f_X10_verify_105 R K116 K140 K191 K201 v1 x2 x3 x2 ((w4.1 99 (Int32.toNatClampNeg x2)) + (1 : Int32)) w4
  else none
  else none
  else
  if (0 : Int32) ≤ x3 then
  bd (f_X10_makeMove x2 x3 w4) fun _ w5 =>
  bd (f_X10_findMoves (x2 + (1 : Int32)) w5) fun _ w6 =>
  if inb (x2 + (1 : Int32)) 16 = true then
  bd (f_X10_inCheck (x2 + (1 : Int32)) (w6.1 62 (Int32.toNatClampNeg (x2 + (1 : Int32)))) w6) fun x7 w8 =>
  if x7 = (0 : Int32) then
  K191 v1 w8
  else
  if inb (x2 + (1 : Int32)) 16 = true then
  bd (f_X10_manyIn v1 w8) fun x9 w10 =>
  if (w8.1 63 (Int32.toNatClampNeg (x2 + (1 : Int32)))) = x9 then
  f_X10_verify_195 R K116 K140 K191 K201 v1 w10
  else
  K191 v1 w10
  else none
  else none
  else
  K140 v1 w4
  else none
  else none
  else none
  else none
  else none
  else none
set_option maxRecDepth 20000 in
theorem sb_X10_verify_24 {E : Ev} (hL : LM E) {R : Int32 → Wd → Option (Int32 × Wd)} (hR : ∀ (v1 : Int32) (w : Wd), Sim E m_X10_verify rI 24 [(0, .ref (Ea E 50)), (1, .int v1)] [] w (R v1 w)) {K116 : Int32 → Wd → Option (Int32 × Wd)} (hK116 : ∀ (v1 : Int32) (w : Wd), Sim E m_X10_verify rI 116 [(1, .int v1)] [] w (K116 v1 w)) {K140 : Int32 → Wd → Option (Int32 × Wd)} (hK140 : ∀ (v1 : Int32) (w : Wd), Sim E m_X10_verify rI 140 [(1, .int v1)] [] w (K140 v1 w)) {K191 : Int32 → Wd → Option (Int32 × Wd)} (hK191 : ∀ (v1 : Int32) (w : Wd), Sim E m_X10_verify rI 191 [(1, .int v1)] [] w (K191 v1 w)) {K201 : Wd → Option (Int32 × Wd)} (hK201 : ∀ (w : Wd), Sim E m_X10_verify rI 201 [] [] w (K201  w)) (v1 : Int32) (w : Wd) : Sim E m_X10_verify rI 24 [(0, .ref (Ea E 50)), (1, .int v1)] [] w (b_X10_verify_24 R K116 K140 K191 K201 v1 w) := by
  unfold b_X10_verify_24
  refine sim_iload_n 1 dX10_verify_24 rfl rfl ?_
  refine sim_aload_n 0 dX10_verify_25 rfl rfl ?_
  refine sim_get (k := 50) (ci := 8) (j := 41) (v := .int (w.1 50 41)) (hL 50 rfl) rfl (by decide) fl_X10_289 rfl dX10_verify_26 rfl ?_
  refine sim_icmp_ge 201 dX10_verify_29 rfl rfl (fun _ => ?_) (fun _ => ?_)
  · exact sim_sub [] rfl (hK201 w)
  · refine sim_aload_n 0 dX10_verify_32 rfl rfl ?_
    refine sim_get (k := 50) (ci := 8) (j := 47) (v := .ref (Ea E 98)) (hL 50 rfl) rfl (by decide) fl_X10_123 rfl dX10_verify_33 rfl ?_
    refine sim_iload_n 1 dX10_verify_36 rfl rfl ?_
    refine sim_iaload (k := 98) (hL 98 rfl) rfl rfl dX10_verify_37 rfl ?_
    refine sim_lt (fun x2 => ?_)
    refine sim_istore_n [(2, .int x2), (0, .ref (Ea E 50)), (1, .int v1)] dX10_verify_38 (Nat.le_of_ble_eq_true rfl) rfl rfl ?_
    refine sim_aload_n 1 dX10_verify_39 rfl rfl ?_
    refine sim_iload_n 0 dX10_verify_40 rfl rfl ?_
    refine sim_aload_n 1 dX10_verify_41 rfl rfl ?_
    refine sim_get (k := 50) (ci := 8) (j := 43) (v := .ref (Ea E 94)) (hL 50 rfl) rfl (by decide) fl_X10_111 rfl dX10_verify_42 rfl ?_
    refine sim_iload_n 2 dX10_verify_45 rfl rfl ?_
    refine sim_iaload (k := 94) (hL 94 rfl) rfl rfl dX10_verify_46 rfl ?_
    refine sim_aload_n 1 dX10_verify_47 rfl rfl ?_
    refine sim_get (k := 50) (ci := 8) (j := 44) (v := .ref (Ea E 95)) (hL 50 rfl) rfl (by decide) fl_X10_114 rfl dX10_verify_48 rfl ?_
    refine sim_iload_n 2 dX10_verify_51 rfl rfl ?_
    refine sim_iaload (k := 95) (hL 95 rfl) rfl rfl dX10_verify_52 rfl ?_
    refine sim_aload_n 1 dX10_verify_53 rfl rfl ?_
    refine sim_get (k := 50) (ci := 8) (j := 45) (v := .ref (Ea E 96)) (hL 50 rfl) rfl (by decide) fl_X10_117 rfl dX10_verify_54 rfl ?_
    refine sim_iload_n 2 dX10_verify_57 rfl rfl ?_
    refine sim_iaload (k := 96) (hL 96 rfl) rfl rfl dX10_verify_58 rfl ?_
    refine sim_aload_n 1 dX10_verify_59 rfl rfl ?_
    refine sim_get (k := 50) (ci := 8) (j := 46) (v := .ref (Ea E 97)) (hL 50 rfl) rfl (by decide) fl_X10_120 rfl dX10_verify_60 rfl ?_
    refine sim_iload_n 2 dX10_verify_63 rfl rfl ?_
    refine sim_iaload (k := 97) (hL 97 rfl) rfl rfl dX10_verify_64 rfl ?_
    refine sim_cVi (k := 50) (ci := 8) [.int x2, .int (w.1 94 (Int32.toNatClampNeg v1)), .int (w.1 95 (Int32.toNatClampNeg v1)), .int (w.1 96 (Int32.toNatClampNeg v1)), .int (w.1 97 (Int32.toNatClampNeg v1))] [] (c_X10_indexOf hL x2 (w.1 94 (Int32.toNatClampNeg v1)) (w.1 95 (Int32.toNatClampNeg v1)) (w.1 96 (Int32.toNatClampNeg v1)) (w.1 97 (Int32.toNatClampNeg v1)) w) (hL 50 rfl) rfl (by decide) rfl cb_X10_323 im_X10_indexOf se_X10_indexOf rfl rfl rfl (Nat.le_of_ble_eq_true rfl) dX10_verify_65 rfl (fun x3 w4 => ?_)
    refine sim_istore_n [(3, .int x3), (2, .int x2), (0, .ref (Ea E 50)), (1, .int v1)] dX10_verify_68 (Nat.le_of_ble_eq_true rfl) rfl rfl ?_
    refine sim_iload_n 1 dX10_verify_69 rfl rfl ?_
    refine sim_iconst (2 : Int32) dX10_verify_70 rfl rfl ?_
    refine sim_irem dX10_verify_71 rfl ?_
    refine sim_iconst (1 : Int32) dX10_verify_72 rfl rfl ?_
    refine sim_icmp_ne 136 dX10_verify_73 rfl rfl (fun _ => ?_) (fun _ => ?_)
    · refine sim_iload_n 0 dX10_verify_136 rfl rfl ?_
      refine sim_if_ge 144 dX10_verify_137 rfl rfl (fun _ => ?_) (fun _ => ?_)
      · refine sim_aload_n 2 dX10_verify_144 rfl rfl ?_
        refine sim_iload_n 1 dX10_verify_145 rfl rfl ?_
        refine sim_iload_n 0 dX10_verify_146 rfl rfl ?_
        refine sim_cVv (k := 50) (ci := 8) [.int x2, .int x3] [] (c_X10_makeMove hL x2 x3 w4) (hL 50 rfl) rfl (by decide) rfl cb_X10_297 im_X10_makeMove se_X10_makeMove rfl rfl rfl (Nat.le_of_ble_eq_true rfl) dX10_verify_147 rfl (fun _ w5 => ?_)
        refine sim_aload_n 2 dX10_verify_150 rfl rfl ?_
        refine sim_iload_n 1 dX10_verify_151 rfl rfl ?_
        refine sim_iconst (1 : Int32) dX10_verify_152 rfl rfl ?_
        refine sim_iadd dX10_verify_153 rfl ?_
        refine sim_cVv (k := 50) (ci := 8) [.int (x2 + (1 : Int32))] [] (c_X10_findMoves hL (x2 + (1 : Int32)) w5) (hL 50 rfl) rfl (by decide) rfl cb_X10_255 im_X10_findMoves se_X10_findMoves rfl rfl rfl (Nat.le_of_ble_eq_true rfl) dX10_verify_154 rfl (fun _ w6 => ?_)
        refine sim_aload_n 2 dX10_verify_157 rfl rfl ?_
        refine sim_iload_n 1 dX10_verify_158 rfl rfl ?_
        refine sim_iconst (1 : Int32) dX10_verify_159 rfl rfl ?_
        refine sim_iadd dX10_verify_160 rfl ?_
        refine sim_aload_n 2 dX10_verify_161 rfl rfl ?_
        refine sim_get (k := 50) (ci := 8) (j := 11) (v := .ref (Ea E 62)) (hL 50 rfl) rfl (by decide) fl_X10_37 rfl dX10_verify_162 rfl ?_
        refine sim_iload_n 1 dX10_verify_165 rfl rfl ?_
        refine sim_iconst (1 : Int32) dX10_verify_166 rfl rfl ?_
        refine sim_iadd dX10_verify_167 rfl ?_
        refine sim_iaload (k := 62) (hL 62 rfl) rfl rfl dX10_verify_168 rfl ?_
        refine sim_cVi (k := 50) (ci := 8) [.int (x2 + (1 : Int32)), .int (w6.1 62 (Int32.toNatClampNeg (x2 + (1 : Int32))))] [] (c_X10_inCheck hL (x2 + (1 : Int32)) (w6.1 62 (Int32.toNatClampNeg (x2 + (1 : Int32)))) w6) (hL 50 rfl) rfl (by decide) rfl cb_X10_241 im_X10_inCheck se_X10_inCheck rfl rfl rfl (Nat.le_of_ble_eq_true rfl) dX10_verify_169 rfl (fun x7 w8 => ?_)
        refine sim_if_eq 191 dX10_verify_172 rfl rfl (fun _ => ?_) (fun _ => ?_)
        · exact sim_sub [3] rfl (hK191 v1 w8)
        · refine sim_aload_n 2 dX10_verify_175 rfl rfl ?_
          refine sim_get (k := 50) (ci := 8) (j := 12) (v := .ref (Ea E 63)) (hL 50 rfl) rfl (by decide) fl_X10_40 rfl dX10_verify_176 rfl ?_
          refine sim_iload_n 1 dX10_verify_179 rfl rfl ?_
          refine sim_iconst (1 : Int32) dX10_verify_180 rfl rfl ?_
          refine sim_iadd dX10_verify_181 rfl ?_
          refine sim_iaload (k := 63) (hL 63 rfl) rfl rfl dX10_verify_182 rfl ?_
          refine sim_aload_n 2 dX10_verify_183 rfl rfl ?_
          refine sim_iload_n 3 dX10_verify_184 rfl rfl ?_
          refine sim_cVi (k := 50) (ci := 8) [.int v1] [.int (w8.1 63 (Int32.toNatClampNeg (x2 + (1 : Int32))))] (c_X10_manyIn hL v1 w8) (hL 50 rfl) rfl (by decide) rfl cb_X10_327 im_X10_manyIn se_X10_manyIn rfl rfl rfl (Nat.le_of_ble_eq_true rfl) dX10_verify_185 rfl (fun x9 w10 => ?_)
          refine sim_icmp_eq 195 dX10_verify_188 rfl rfl (fun _ => ?_) (fun _ => ?_)
          · exact sim_sub [2, 3] rfl (sf_X10_verify_195 hL hR hK116 hK140 hK191 hK201 v1 w10)
          · exact sim_sub [3] rfl (hK191 v1 w10)
      · exact sim_sub [3] rfl (hK140 v1 w4)
    · refine sim_aload_n 2 dX10_verify_76 rfl rfl ?_
      refine sim_get (k := 50) (ci := 8) (j := 48) (v := .ref (Ea E 99)) (hL 50 rfl) rfl (by decide) fl_X10_126 rfl dX10_verify_77 rfl ?_
      refine sim_iload_n 1 dX10_verify_80 rfl rfl ?_
      refine sim_aload_n 2 dX10_verify_81 rfl rfl ?_
      refine sim_get (k := 50) (ci := 8) (j := 42) (v := .ref (Ea E 93)) (hL 50 rfl) rfl (by decide) fl_X10_108 rfl dX10_verify_82 rfl ?_
      refine sim_iload_n 3 dX10_verify_85 rfl rfl ?_
      refine sim_iaload (k := 93) (hL 93 rfl) rfl rfl dX10_verify_86 rfl ?_
      refine sim_iload_n 3 dX10_verify_87 rfl rfl ?_
      refine sim_iconst (1 : Int32) dX10_verify_88 rfl rfl ?_
      refine sim_isub dX10_verify_89 rfl ?_
      refine sim_icmp_ne 97 dX10_verify_90 rfl rfl (fun _ => ?_) (fun _ => ?_)
      · refine sim_aload_n 2 dX10_verify_97 rfl rfl ?_
        refine sim_get (k := 50) (ci := 8) (j := 48) (v := .ref (Ea E 99)) (hL 50 rfl) rfl (by decide) fl_X10_126 rfl dX10_verify_98 rfl ?_
        refine sim_iload_n 1 dX10_verify_101 rfl rfl ?_
        refine sim_iaload (k := 99) (hL 99 rfl) rfl rfl dX10_verify_102 rfl ?_
        refine sim_iconst (1 : Int32) dX10_verify_103 rfl rfl ?_
        refine sim_iadd dX10_verify_104 rfl ?_
        exact sim_sub [2, 3, 1, 0] rfl (sf_X10_verify_105 hL hR hK116 hK140 hK191 hK201 v1 x2 x3 x2 ((w4.1 99 (Int32.toNatClampNeg x2)) + (1 : Int32)) w4)
      · refine sim_iconst (0 : Int32) dX10_verify_93 rfl rfl ?_
        refine sim_goto (q := 105) dX10_verify_94 rfl ?_
        exact sim_sub [2, 3, 1, 0] rfl (sf_X10_verify_105 hL hR hK116 hK140 hK191 hK201 v1 x2 x3 x2 (0 : Int32) w4)
def l_X10_verify_24 (K116 : Int32 → Wd → Option (Int32 × Wd)) (K140 : Int32 → Wd → Option (Int32 × Wd)) (K191 : Int32 → Wd → Option (Int32 × Wd)) (K201 : Wd → Option (Int32 × Wd)) (n : Nat) : Int32 → Wd → Option (Int32 × Wd) := itr (fun _ _ => none) (fun R => b_X10_verify_24 R K116 K140 K191 K201) n
set_option maxRecDepth 20000 in
theorem sl_X10_verify_24 {E : Ev} (hL : LM E) {K116 : Int32 → Wd → Option (Int32 × Wd)} (hK116 : ∀ (v1 : Int32) (w : Wd), Sim E m_X10_verify rI 116 [(1, .int v1)] [] w (K116 v1 w)) {K140 : Int32 → Wd → Option (Int32 × Wd)} (hK140 : ∀ (v1 : Int32) (w : Wd), Sim E m_X10_verify rI 140 [(1, .int v1)] [] w (K140 v1 w)) {K191 : Int32 → Wd → Option (Int32 × Wd)} (hK191 : ∀ (v1 : Int32) (w : Wd), Sim E m_X10_verify rI 191 [(1, .int v1)] [] w (K191 v1 w)) {K201 : Wd → Option (Int32 × Wd)} (hK201 : ∀ (w : Wd), Sim E m_X10_verify rI 201 [] [] w (K201  w)) : ∀ (n : Nat) (v1 : Int32) (w : Wd), Sim E m_X10_verify rI 24 [(0, .ref (Ea E 50)), (1, .int v1)] [] w (l_X10_verify_24 K116 K140 K191 K201 n v1 w) := by
  intro n
  induction n with
  | zero => intros; exact sim_none
  | succ n ih => intros; exact sb_X10_verify_24 hL (R := l_X10_verify_24 K116 K140 K191 K201 n) ih hK116 hK140 hK191 hK201 _ _
def f_X10_verify_116 (v1 : Int32) (w : Wd) : Option (Int32 × Wd) :=
  some ((v1 + (1 : Int32)), w)
set_option maxRecDepth 20000 in
theorem sf_X10_verify_116 {E : Ev} (hL : LM E) (v1 : Int32) (w : Wd) : Sim E m_X10_verify rI 116 [(1, .int v1)] [] w (f_X10_verify_116 v1 w) := by
  unfold f_X10_verify_116
  refine sim_iload_n 0 dX10_verify_116 rfl rfl ?_
  refine sim_iconst (1 : Int32) dX10_verify_117 rfl rfl ?_
  refine sim_iadd dX10_verify_118 rfl ?_
  exact sim_iret rfl dX10_verify_119
def f_X10_verify_140 (v1 : Int32) (w : Wd) : Option (Int32 × Wd) :=
  some ((v1 + (1 : Int32)), w)
set_option maxRecDepth 20000 in
theorem sf_X10_verify_140 {E : Ev} (hL : LM E) (v1 : Int32) (w : Wd) : Sim E m_X10_verify rI 140 [(1, .int v1)] [] w (f_X10_verify_140 v1 w) := by
  unfold f_X10_verify_140
  refine sim_iload_n 0 dX10_verify_140 rfl rfl ?_
  refine sim_iconst (1 : Int32) dX10_verify_141 rfl rfl ?_
  refine sim_iadd dX10_verify_142 rfl ?_
  exact sim_iret rfl dX10_verify_143
def f_X10_verify_191 (v1 : Int32) (w : Wd) : Option (Int32 × Wd) :=
  some ((v1 + (1 : Int32)), w)
set_option maxRecDepth 20000 in
theorem sf_X10_verify_191 {E : Ev} (hL : LM E) (v1 : Int32) (w : Wd) : Sim E m_X10_verify rI 191 [(1, .int v1)] [] w (f_X10_verify_191 v1 w) := by
  unfold f_X10_verify_191
  refine sim_iload_n 0 dX10_verify_191 rfl rfl ?_
  refine sim_iconst (1 : Int32) dX10_verify_192 rfl rfl ?_
  refine sim_iadd dX10_verify_193 rfl ?_
  exact sim_iret rfl dX10_verify_194
def f_X10_verify_201 (w : Wd) : Option (Int32 × Wd) :=
  some ((0 : Int32), w)
set_option maxRecDepth 20000 in
theorem sf_X10_verify_201 {E : Ev} (hL : LM E) (w : Wd) : Sim E m_X10_verify rI 201 [] [] w (f_X10_verify_201 w) := by
  unfold f_X10_verify_201
  refine sim_iconst (0 : Int32) dX10_verify_201 rfl rfl ?_
  exact sim_iret rfl dX10_verify_202
def f_X10_verify (w : Wd) : Option (Int32 × Wd) :=
  if (w.1 50 25) = (0 : Int32) then
  f_X10_verify_14 w
  else
  if (w.1 50 41) = (0 : Int32) then
  f_X10_verify_14 w
  else
  bd (f_X10_findMoves (0 : Int32) w) fun _ w1 =>
  l_X10_verify_24 f_X10_verify_116 f_X10_verify_140 f_X10_verify_191 f_X10_verify_201 FU (0 : Int32) w1
set_option maxRecDepth 20000 in
theorem c_X10_verify {E : Ev} (hL : LM E) (w : Wd) : Ct E m_X10_verify yX10_verify rI [.ref (Ea E 50)] w (f_X10_verify w) := by
  refine Ct.of (by decide) ⟨rfl, rfl⟩ (Nat.le_of_ble_eq_true rfl) ?_
  show Sim E m_X10_verify rI 0 [(0, .ref (Ea E 50))] [] w (f_X10_verify w)
  unfold f_X10_verify
  refine sim_aload_n 0 dX10_verify_0 rfl rfl ?_
  refine sim_get (k := 50) (ci := 8) (j := 25) (v := .int (w.1 50 25)) (hL 50 rfl) rfl (by decide) fl_X10_159 rfl dX10_verify_1 rfl ?_
  refine sim_if_eq 14 dX10_verify_4 rfl rfl (fun _ => ?_) (fun _ => ?_)
  · exact sim_sub [] rfl (sf_X10_verify_14 hL w)
  · refine sim_aload_n 0 dX10_verify_7 rfl rfl ?_
    refine sim_get (k := 50) (ci := 8) (j := 41) (v := .int (w.1 50 41)) (hL 50 rfl) rfl (by decide) fl_X10_289 rfl dX10_verify_8 rfl ?_
    refine sim_if_ne 17 dX10_verify_11 rfl rfl (fun _ => ?_) (fun _ => ?_)
    · refine sim_aload_n 0 dX10_verify_17 rfl rfl ?_
      refine sim_iconst (0 : Int32) dX10_verify_18 rfl rfl ?_
      refine sim_cVv (k := 50) (ci := 8) [.int (0 : Int32)] [] (c_X10_findMoves hL (0 : Int32) w) (hL 50 rfl) rfl (by decide) rfl cb_X10_255 im_X10_findMoves se_X10_findMoves rfl rfl rfl (Nat.le_of_ble_eq_true rfl) dX10_verify_19 rfl (fun _ w1 => ?_)
      refine sim_iconst (0 : Int32) dX10_verify_22 rfl rfl ?_
      refine sim_istore_n [(1, .int (0 : Int32)), (0, .ref (Ea E 50))] dX10_verify_23 (Nat.le_of_ble_eq_true rfl) rfl rfl ?_
      exact sim_sub [1, 0] rfl (sl_X10_verify_24 hL (sf_X10_verify_116 hL) (sf_X10_verify_140 hL) (sf_X10_verify_191 hL) (sf_X10_verify_201 hL) FU (0 : Int32) w1)
    · exact sim_sub [] rfl (sf_X10_verify_14 hL w)
def f_X10_say_20 (w : Wd) : Option (Unit × Wd) :=
  lw (wdI w 50 50 ((w.1 50 50) + (1 : Int32))) fun w1 =>
  some ((), w1)
set_option maxRecDepth 20000 in
theorem sf_X10_say_20 {E : Ev} (hL : LM E) (w : Wd) : Sim E m_X10_say rV 20 [(0, .ref (Ea E 50))] [] w (f_X10_say_20 w) := by
  unfold f_X10_say_20
  refine sim_aload_n 0 dX10_say_20 rfl rfl ?_
  refine sim_dup dX10_say_21 rfl rfl ?_
  refine sim_get (k := 50) (ci := 8) (j := 50) (v := .int (w.1 50 50)) (hL 50 rfl) rfl (by decide) fl_X10_330 rfl dX10_say_22 rfl ?_
  refine sim_iconst (1 : Int32) dX10_say_25 rfl rfl ?_
  refine sim_iadd dX10_say_26 rfl ?_
  refine sim_put (k := 50) (ci := 8) (j := 50) (hL 50 rfl) rfl (by decide) fp_X10_330 rfl rfl (st_50_50 _ _ _) (Nat.le_of_ble_eq_true rfl) dX10_say_27 rfl ?_
  refine sim_lw (fun w1 => ?_)
  exact sim_vret rfl dX10_say_30
def f_X10_say (v1 : Int32) (w : Wd) : Option (Unit × Wd) :=
  if (2000 : Int32) ≤ (w.1 50 50) then
  f_X10_say_20 w
  else
  if inb (w.1 50 50) 2000 = true then
  lw (wdI w 102 (Int32.toNatClampNeg (w.1 50 50)) v1) fun w2 =>
  f_X10_say_20 w2
  else none
set_option maxRecDepth 20000 in
theorem c_X10_say {E : Ev} (hL : LM E) (v1 : Int32) (w : Wd) : Ct E m_X10_say yX10_say rV [.ref (Ea E 50), .int v1] w (f_X10_say v1 w) := by
  refine Ct.of (by decide) ⟨rfl, rfl⟩ (Nat.le_of_ble_eq_true rfl) ?_
  show Sim E m_X10_say rV 0 [(0, .ref (Ea E 50)), (1, .int v1)] [] w (f_X10_say v1 w)
  unfold f_X10_say
  refine sim_aload_n 0 dX10_say_0 rfl rfl ?_
  refine sim_get (k := 50) (ci := 8) (j := 50) (v := .int (w.1 50 50)) (hL 50 rfl) rfl (by decide) fl_X10_330 rfl dX10_say_1 rfl ?_
  refine sim_sipush (2000 : Int32) dX10_say_4 rfl rfl ?_
  refine sim_icmp_ge 20 dX10_say_7 rfl rfl (fun _ => ?_) (fun _ => ?_)
  · exact sim_sub [0] rfl (sf_X10_say_20 hL w)
  · refine sim_aload_n 0 dX10_say_10 rfl rfl ?_
    refine sim_get (k := 50) (ci := 8) (j := 51) (v := .ref (Ea E 102)) (hL 50 rfl) rfl (by decide) fl_X10_132 rfl dX10_say_11 rfl ?_
    refine sim_aload_n 0 dX10_say_14 rfl rfl ?_
    refine sim_get (k := 50) (ci := 8) (j := 50) (v := .int (w.1 50 50)) (hL 50 rfl) rfl (by decide) fl_X10_330 rfl dX10_say_15 rfl ?_
    refine sim_iload_n 1 dX10_say_18 rfl rfl ?_
    refine sim_iastore (k := 102) (hL 102 rfl) rfl rfl dX10_say_19 rfl ?_
    refine sim_lw (fun w2 => ?_)
    exact sim_sub [0] rfl (sf_X10_say_20 hL w2)
def f_X10_sayField (v1 : Int32) (w : Wd) : Option (Unit × Wd) :=
  if ¬ (w.1 50 0) = (0 : Int32) then
  bd (f_X10_say ((97 : Int32) + (v1 - v1 / (w.1 50 0) * (w.1 50 0))) w) fun _ w1 =>
  if ¬ (w1.1 50 0) = (0 : Int32) then
  bd (f_X10_say ((49 : Int32) + (v1 / (w1.1 50 0))) w1) fun _ w2 =>
  some ((), w2)
  else none
  else none
set_option maxRecDepth 20000 in
theorem c_X10_sayField {E : Ev} (hL : LM E) (v1 : Int32) (w : Wd) : Ct E m_X10_sayField yX10_sayField rV [.ref (Ea E 50), .int v1] w (f_X10_sayField v1 w) := by
  refine Ct.of (by decide) ⟨rfl, rfl⟩ (Nat.le_of_ble_eq_true rfl) ?_
  show Sim E m_X10_sayField rV 0 [(0, .ref (Ea E 50)), (1, .int v1)] [] w (f_X10_sayField v1 w)
  unfold f_X10_sayField
  refine sim_aload_n 0 dX10_sayField_0 rfl rfl ?_
  refine sim_bipush (97 : Int32) dX10_sayField_1 rfl rfl ?_
  refine sim_iload_n 1 dX10_sayField_3 rfl rfl ?_
  refine sim_aload_n 0 dX10_sayField_4 rfl rfl ?_
  refine sim_get (k := 50) (ci := 8) (j := 0) (v := .int (w.1 50 0)) (hL 50 rfl) rfl (by decide) fl_X10_143 rfl dX10_sayField_5 rfl ?_
  refine sim_irem dX10_sayField_8 rfl ?_
  refine sim_iadd dX10_sayField_9 rfl ?_
  refine sim_cVv (k := 50) (ci := 8) [.int ((97 : Int32) + (v1 - v1 / (w.1 50 0) * (w.1 50 0)))] [] (c_X10_say hL ((97 : Int32) + (v1 - v1 / (w.1 50 0) * (w.1 50 0))) w) (hL 50 rfl) rfl (by decide) rfl cb_X10_333 im_X10_say se_X10_say rfl rfl rfl (Nat.le_of_ble_eq_true rfl) dX10_sayField_10 rfl (fun _ w1 => ?_)
  refine sim_aload_n 0 dX10_sayField_13 rfl rfl ?_
  refine sim_bipush (49 : Int32) dX10_sayField_14 rfl rfl ?_
  refine sim_iload_n 1 dX10_sayField_16 rfl rfl ?_
  refine sim_aload_n 0 dX10_sayField_17 rfl rfl ?_
  refine sim_get (k := 50) (ci := 8) (j := 0) (v := .int (w1.1 50 0)) (hL 50 rfl) rfl (by decide) fl_X10_143 rfl dX10_sayField_18 rfl ?_
  refine sim_idiv dX10_sayField_21 rfl ?_
  refine sim_iadd dX10_sayField_22 rfl ?_
  refine sim_cVv (k := 50) (ci := 8) [.int ((49 : Int32) + (v1 / (w1.1 50 0)))] [] (c_X10_say hL ((49 : Int32) + (v1 / (w1.1 50 0))) w1) (hL 50 rfl) rfl (by decide) rfl cb_X10_333 im_X10_say se_X10_say rfl rfl rfl (Nat.le_of_ble_eq_true rfl) dX10_sayField_23 rfl (fun _ w2 => ?_)
  exact sim_vret rfl dX10_sayField_26
def f_X10_write_113 (R : Int32 → Wd → Option (Int32 × Wd)) (K119 : Wd → Option (Int32 × Wd)) (v1 : Int32) (w : Wd) : Option (Int32 × Wd) :=
  R (v1 + (1 : Int32)) w
set_option maxRecDepth 20000 in
theorem sf_X10_write_113 {E : Ev} (hL : LM E) {R : Int32 → Wd → Option (Int32 × Wd)} (hR : ∀ (v1 : Int32) (w : Wd), Sim E m_X10_write rI 17 [(0, .ref (Ea E 50)), (1, .int v1)] [] w (R v1 w)) {K119 : Wd → Option (Int32 × Wd)} (hK119 : ∀ (w : Wd), Sim E m_X10_write rI 119 [(0, .ref (Ea E 50))] [] w (K119  w)) (v1 : Int32) (w : Wd) : Sim E m_X10_write rI 113 [(0, .ref (Ea E 50)), (1, .int v1)] [] w (f_X10_write_113 R K119 v1 w) := by
  unfold f_X10_write_113
  refine sim_iinc (v1 + (1 : Int32)) 1 [(1, .int (v1 + (1 : Int32))), (0, .ref (Ea E 50))] dX10_write_113 rfl rfl (Nat.le_of_ble_eq_true rfl) rfl rfl ?_
  refine sim_goto (q := 17) dX10_write_116 rfl ?_
  exact sim_sub [1, 0] rfl (hR (v1 + (1 : Int32)) w)
def f_X10_write_87 (R : Int32 → Wd → Option (Int32 × Wd)) (K119 : Wd → Option (Int32 × Wd)) (v1 : Int32) (v2 : Int32) (w : Wd) : Option (Int32 × Wd) :=
  if inb v2 600 = true then
  bd (f_X10_sayField (w.1 82 (Int32.toNatClampNeg v2)) w) fun _ w4 =>
  if inb v2 600 = true then
  if (w4.1 83 (Int32.toNatClampNeg v2)) = (1 : Int32) then
  bd (f_X10_say (43 : Int32) w4) fun _ w5 =>
  f_X10_write_113 R K119 v1 w5
  else
  f_X10_write_113 R K119 v1 w4
  else none
  else none
set_option maxRecDepth 20000 in
theorem sf_X10_write_87 {E : Ev} (hL : LM E) {R : Int32 → Wd → Option (Int32 × Wd)} (hR : ∀ (v1 : Int32) (w : Wd), Sim E m_X10_write rI 17 [(0, .ref (Ea E 50)), (1, .int v1)] [] w (R v1 w)) {K119 : Wd → Option (Int32 × Wd)} (hK119 : ∀ (w : Wd), Sim E m_X10_write rI 119 [(0, .ref (Ea E 50))] [] w (K119  w)) (v1 : Int32) (v2 : Int32) (w : Wd) : Sim E m_X10_write rI 87 [(0, .ref (Ea E 50)), (1, .int v1), (2, .int v2)] [] w (f_X10_write_87 R K119 v1 v2 w) := by
  unfold f_X10_write_87
  refine sim_aload_n 0 dX10_write_87 rfl rfl ?_
  refine sim_aload_n 0 dX10_write_88 rfl rfl ?_
  refine sim_get (k := 50) (ci := 8) (j := 31) (v := .ref (Ea E 82)) (hL 50 rfl) rfl (by decide) fl_X10_92 rfl dX10_write_89 rfl ?_
  refine sim_iload_n 2 dX10_write_92 rfl rfl ?_
  refine sim_iaload (k := 82) (hL 82 rfl) rfl rfl dX10_write_93 rfl ?_
  refine sim_cVv (k := 50) (ci := 8) [.int (w.1 82 (Int32.toNatClampNeg v2))] [] (c_X10_sayField hL (w.1 82 (Int32.toNatClampNeg v2)) w) (hL 50 rfl) rfl (by decide) rfl cb_X10_336 im_X10_sayField se_X10_sayField rfl rfl rfl (Nat.le_of_ble_eq_true rfl) dX10_write_94 rfl (fun _ w4 => ?_)
  refine sim_aload_n 0 dX10_write_97 rfl rfl ?_
  refine sim_get (k := 50) (ci := 8) (j := 32) (v := .ref (Ea E 83)) (hL 50 rfl) rfl (by decide) fl_X10_95 rfl dX10_write_98 rfl ?_
  refine sim_iload_n 2 dX10_write_101 rfl rfl ?_
  refine sim_iaload (k := 83) (hL 83 rfl) rfl rfl dX10_write_102 rfl ?_
  refine sim_iconst (1 : Int32) dX10_write_103 rfl rfl ?_
  refine sim_icmp_ne 113 dX10_write_104 rfl rfl (fun _ => ?_) (fun _ => ?_)
  · exact sim_sub [0, 1] rfl (sf_X10_write_113 hL hR hK119 v1 w4)
  · refine sim_aload_n 0 dX10_write_107 rfl rfl ?_
    refine sim_bipush (43 : Int32) dX10_write_108 rfl rfl ?_
    refine sim_cVv (k := 50) (ci := 8) [.int (43 : Int32)] [] (c_X10_say hL (43 : Int32) w4) (hL 50 rfl) rfl (by decide) rfl cb_X10_333 im_X10_say se_X10_say rfl rfl rfl (Nat.le_of_ble_eq_true rfl) dX10_write_110 rfl (fun _ w5 => ?_)
    exact sim_sub [0, 1] rfl (sf_X10_write_113 hL hR hK119 v1 w5)
def f_X10_write_46 (R : Int32 → Wd → Option (Int32 × Wd)) (K119 : Wd → Option (Int32 × Wd)) (v1 : Int32) (v2 : Int32) (w : Wd) : Option (Int32 × Wd) :=
  if inb v2 600 = true then
  if (0 : Int32) ≤ (w.1 81 (Int32.toNatClampNeg v2)) then
  if inb v2 600 = true then
  bd (f_X10_sayField (w.1 81 (Int32.toNatClampNeg v2)) w) fun _ w3 =>
  f_X10_write_87 R K119 v1 v2 w3
  else none
  else
  if inb v2 600 = true then
  bd (f_X10_say ((48 : Int32) + (w.1 84 (Int32.toNatClampNeg v2))) w) fun _ w6 =>
  bd (f_X10_say (42 : Int32) w6) fun _ w7 =>
  f_X10_write_87 R K119 v1 v2 w7
  else none
  else none
set_option maxRecDepth 20000 in
theorem sf_X10_write_46 {E : Ev} (hL : LM E) {R : Int32 → Wd → Option (Int32 × Wd)} (hR : ∀ (v1 : Int32) (w : Wd), Sim E m_X10_write rI 17 [(0, .ref (Ea E 50)), (1, .int v1)] [] w (R v1 w)) {K119 : Wd → Option (Int32 × Wd)} (hK119 : ∀ (w : Wd), Sim E m_X10_write rI 119 [(0, .ref (Ea E 50))] [] w (K119  w)) (v1 : Int32) (v2 : Int32) (w : Wd) : Sim E m_X10_write rI 46 [(0, .ref (Ea E 50)), (1, .int v1), (2, .int v2)] [] w (f_X10_write_46 R K119 v1 v2 w) := by
  unfold f_X10_write_46
  refine sim_aload_n 0 dX10_write_46 rfl rfl ?_
  refine sim_get (k := 50) (ci := 8) (j := 30) (v := .ref (Ea E 81)) (hL 50 rfl) rfl (by decide) fl_X10_89 rfl dX10_write_47 rfl ?_
  refine sim_iload_n 2 dX10_write_50 rfl rfl ?_
  refine sim_iaload (k := 81) (hL 81 rfl) rfl rfl dX10_write_51 rfl ?_
  refine sim_if_ge 77 dX10_write_52 rfl rfl (fun _ => ?_) (fun _ => ?_)
  · refine sim_aload_n 0 dX10_write_77 rfl rfl ?_
    refine sim_aload_n 0 dX10_write_78 rfl rfl ?_
    refine sim_get (k := 50) (ci := 8) (j := 30) (v := .ref (Ea E 81)) (hL 50 rfl) rfl (by decide) fl_X10_89 rfl dX10_write_79 rfl ?_
    refine sim_iload_n 2 dX10_write_82 rfl rfl ?_
    refine sim_iaload (k := 81) (hL 81 rfl) rfl rfl dX10_write_83 rfl ?_
    refine sim_cVv (k := 50) (ci := 8) [.int (w.1 81 (Int32.toNatClampNeg v2))] [] (c_X10_sayField hL (w.1 81 (Int32.toNatClampNeg v2)) w) (hL 50 rfl) rfl (by decide) rfl cb_X10_336 im_X10_sayField se_X10_sayField rfl rfl rfl (Nat.le_of_ble_eq_true rfl) dX10_write_84 rfl (fun _ w3 => ?_)
    exact sim_sub [0, 1, 2] rfl (sf_X10_write_87 hL hR hK119 v1 v2 w3)
  · refine sim_aload_n 0 dX10_write_55 rfl rfl ?_
    refine sim_bipush (48 : Int32) dX10_write_56 rfl rfl ?_
    refine sim_aload_n 0 dX10_write_58 rfl rfl ?_
    refine sim_get (k := 50) (ci := 8) (j := 33) (v := .ref (Ea E 84)) (hL 50 rfl) rfl (by decide) fl_X10_98 rfl dX10_write_59 rfl ?_
    refine sim_iload_n 2 dX10_write_62 rfl rfl ?_
    refine sim_iaload (k := 84) (hL 84 rfl) rfl rfl dX10_write_63 rfl ?_
    refine sim_iadd dX10_write_64 rfl ?_
    refine sim_cVv (k := 50) (ci := 8) [.int ((48 : Int32) + (w.1 84 (Int32.toNatClampNeg v2)))] [] (c_X10_say hL ((48 : Int32) + (w.1 84 (Int32.toNatClampNeg v2))) w) (hL 50 rfl) rfl (by decide) rfl cb_X10_333 im_X10_say se_X10_say rfl rfl rfl (Nat.le_of_ble_eq_true rfl) dX10_write_65 rfl (fun _ w6 => ?_)
    refine sim_aload_n 0 dX10_write_68 rfl rfl ?_
    refine sim_bipush (42 : Int32) dX10_write_69 rfl rfl ?_
    refine sim_cVv (k := 50) (ci := 8) [.int (42 : Int32)] [] (c_X10_say hL (42 : Int32) w6) (hL 50 rfl) rfl (by decide) rfl cb_X10_333 im_X10_say se_X10_say rfl rfl rfl (Nat.le_of_ble_eq_true rfl) dX10_write_71 rfl (fun _ w7 => ?_)
    refine sim_goto (q := 87) dX10_write_74 rfl ?_
    exact sim_sub [0, 1, 2] rfl (sf_X10_write_87 hL hR hK119 v1 v2 w7)
def b_X10_write_17 (R : Int32 → Wd → Option (Int32 × Wd)) (K119 : Wd → Option (Int32 × Wd)) (v1 : Int32) (w : Wd) : Option (Int32 × Wd) :=
  if (w.1 50 36) ≤ v1 then
  K119 w
  else
  lt (((300 : Int32) * (w.1 50 35)) + v1) fun x2 =>
  if v1 ≤ (0 : Int32) then
  f_X10_write_46 R K119 v1 x2 w
  else
  bd (f_X10_say (32 : Int32) w) fun _ w8 =>
  f_X10_write_46 R K119 v1 x2 w8
set_option maxRecDepth 20000 in
theorem sb_X10_write_17 {E : Ev} (hL : LM E) {R : Int32 → Wd → Option (Int32 × Wd)} (hR : ∀ (v1 : Int32) (w : Wd), Sim E m_X10_write rI 17 [(0, .ref (Ea E 50)), (1, .int v1)] [] w (R v1 w)) {K119 : Wd → Option (Int32 × Wd)} (hK119 : ∀ (w : Wd), Sim E m_X10_write rI 119 [(0, .ref (Ea E 50))] [] w (K119  w)) (v1 : Int32) (w : Wd) : Sim E m_X10_write rI 17 [(0, .ref (Ea E 50)), (1, .int v1)] [] w (b_X10_write_17 R K119 v1 w) := by
  unfold b_X10_write_17
  refine sim_iload_n 1 dX10_write_17 rfl rfl ?_
  refine sim_aload_n 0 dX10_write_18 rfl rfl ?_
  refine sim_get (k := 50) (ci := 8) (j := 36) (v := .int (w.1 50 36)) (hL 50 rfl) rfl (by decide) fl_X10_273 rfl dX10_write_19 rfl ?_
  refine sim_icmp_ge 119 dX10_write_22 rfl rfl (fun _ => ?_) (fun _ => ?_)
  · exact sim_sub [0] rfl (hK119 w)
  · refine sim_sipush (300 : Int32) dX10_write_25 rfl rfl ?_
    refine sim_aload_n 0 dX10_write_28 rfl rfl ?_
    refine sim_get (k := 50) (ci := 8) (j := 35) (v := .int (w.1 50 35)) (hL 50 rfl) rfl (by decide) fl_X10_270 rfl dX10_write_29 rfl ?_
    refine sim_imul dX10_write_32 rfl ?_
    refine sim_iload_n 1 dX10_write_33 rfl rfl ?_
    refine sim_iadd dX10_write_34 rfl ?_
    refine sim_lt (fun x2 => ?_)
    refine sim_istore_n [(2, .int x2), (0, .ref (Ea E 50)), (1, .int v1)] dX10_write_35 (Nat.le_of_ble_eq_true rfl) rfl rfl ?_
    refine sim_iload_n 2 dX10_write_36 rfl rfl ?_
    refine sim_if_le 46 dX10_write_37 rfl rfl (fun _ => ?_) (fun _ => ?_)
    · exact sim_sub [1, 2, 0] rfl (sf_X10_write_46 hL hR hK119 v1 x2 w)
    · refine sim_aload_n 1 dX10_write_40 rfl rfl ?_
      refine sim_bipush (32 : Int32) dX10_write_41 rfl rfl ?_
      refine sim_cVv (k := 50) (ci := 8) [.int (32 : Int32)] [] (c_X10_say hL (32 : Int32) w) (hL 50 rfl) rfl (by decide) rfl cb_X10_333 im_X10_say se_X10_say rfl rfl rfl (Nat.le_of_ble_eq_true rfl) dX10_write_43 rfl (fun _ w8 => ?_)
      exact sim_sub [1, 2, 0] rfl (sf_X10_write_46 hL hR hK119 v1 x2 w8)
def l_X10_write_17 (K119 : Wd → Option (Int32 × Wd)) (n : Nat) : Int32 → Wd → Option (Int32 × Wd) := itr (fun _ _ => none) (fun R => b_X10_write_17 R K119) n
set_option maxRecDepth 20000 in
theorem sl_X10_write_17 {E : Ev} (hL : LM E) {K119 : Wd → Option (Int32 × Wd)} (hK119 : ∀ (w : Wd), Sim E m_X10_write rI 119 [(0, .ref (Ea E 50))] [] w (K119  w)) : ∀ (n : Nat) (v1 : Int32) (w : Wd), Sim E m_X10_write rI 17 [(0, .ref (Ea E 50)), (1, .int v1)] [] w (l_X10_write_17 K119 n v1 w) := by
  intro n
  induction n with
  | zero => intros; exact sim_none
  | succ n ih => intros; exact sb_X10_write_17 hL (R := l_X10_write_17 K119 n) ih hK119 _ _
def f_X10_write_119 (w : Wd) : Option (Int32 × Wd) :=
  some ((w.1 50 50), w)
set_option maxRecDepth 20000 in
theorem sf_X10_write_119 {E : Ev} (hL : LM E) (w : Wd) : Sim E m_X10_write rI 119 [(0, .ref (Ea E 50))] [] w (f_X10_write_119 w) := by
  unfold f_X10_write_119
  refine sim_aload_n 0 dX10_write_119 rfl rfl ?_
  refine sim_get (k := 50) (ci := 8) (j := 50) (v := .int (w.1 50 50)) (hL 50 rfl) rfl (by decide) fl_X10_330 rfl dX10_write_120 rfl ?_
  exact sim_iret rfl dX10_write_123
def f_X10_write (w : Wd) : Option (Int32 × Wd) :=
  if (w.1 50 25) = (0 : Int32) then
  some ((-3 : Int32), w)
  else
  lw (wdI w 50 50 (0 : Int32)) fun w1 =>
  l_X10_write_17 f_X10_write_119 FU (0 : Int32) w1
set_option maxRecDepth 20000 in
theorem c_X10_write {E : Ev} (hL : LM E) (w : Wd) : Ct E m_X10_write yX10_write rI [.ref (Ea E 50)] w (f_X10_write w) := by
  refine Ct.of (by decide) ⟨rfl, rfl⟩ (Nat.le_of_ble_eq_true rfl) ?_
  show Sim E m_X10_write rI 0 [(0, .ref (Ea E 50))] [] w (f_X10_write w)
  unfold f_X10_write
  refine sim_aload_n 0 dX10_write_0 rfl rfl ?_
  refine sim_get (k := 50) (ci := 8) (j := 25) (v := .int (w.1 50 25)) (hL 50 rfl) rfl (by decide) fl_X10_159 rfl dX10_write_1 rfl ?_
  refine sim_if_ne 10 dX10_write_4 rfl rfl (fun _ => ?_) (fun _ => ?_)
  · refine sim_aload_n 0 dX10_write_10 rfl rfl ?_
    refine sim_iconst (0 : Int32) dX10_write_11 rfl rfl ?_
    refine sim_put (k := 50) (ci := 8) (j := 50) (hL 50 rfl) rfl (by decide) fp_X10_330 rfl rfl (st_50_50 _ _ _) (Nat.le_of_ble_eq_true rfl) dX10_write_12 rfl ?_
    refine sim_lw (fun w1 => ?_)
    refine sim_iconst (0 : Int32) dX10_write_15 rfl rfl ?_
    refine sim_istore_n [(1, .int (0 : Int32)), (0, .ref (Ea E 50))] dX10_write_16 (Nat.le_of_ble_eq_true rfl) rfl rfl ?_
    exact sim_sub [1, 0] rfl (sl_X10_write_17 hL (sf_X10_write_119 hL) FU (0 : Int32) w1)
  · refine sim_bipush (-3 : Int32) dX10_write_7 rfl rfl ?_
    exact sim_iret rfl dX10_write_9
def f_X10_type (v1 : Int32) (w : Wd) : Option (Int32 × Wd) :=
  bd (f_X10_in (Int32.toInt64 v1) (0 : Int64) (255 : Int64) w) fun x1 w2 =>
  if x1 = (0 : Int32) then
  some ((-2 : Int32), w2)
  else
  if (w2.1 50 50) = (2000 : Int32) then
  some ((-4 : Int32), w2)
  else
  if inb (w2.1 50 50) 2000 = true then
  lw (wdI w2 102 (Int32.toNatClampNeg (w2.1 50 50)) v1) fun w3 =>
  lw (wdI w3 50 50 ((w3.1 50 50) + (1 : Int32))) fun w4 =>
  some ((w4.1 50 50), w4)
  else none
set_option maxRecDepth 20000 in
theorem c_X10_type {E : Ev} (hL : LM E) (v1 : Int32) (w : Wd) : Ct E m_X10_type yX10_type rI [.ref (Ea E 50), .int v1] w (f_X10_type v1 w) := by
  refine Ct.of (by decide) ⟨rfl, rfl⟩ (Nat.le_of_ble_eq_true rfl) ?_
  show Sim E m_X10_type rI 0 [(0, .ref (Ea E 50)), (1, .int v1)] [] w (f_X10_type v1 w)
  unfold f_X10_type
  refine sim_iload_n 1 dX10_type_0 rfl rfl ?_
  refine sim_i2l dX10_type_1 rfl ?_
  refine sim_lconst (0 : Int64) dX10_type_2 rfl rfl ?_
  refine sim_ldc2 (255 : Int64) dX10_type_3 k_X10_155 rfl ?_
  refine sim_cSi [.long (Int32.toInt64 v1), .long (0 : Int64), .long (255 : Int64)] [] (c_X10_in hL (Int32.toInt64 v1) (0 : Int64) (255 : Int64) w) cb_X10_139 sx_X10_in rfl rfl rfl (Nat.le_of_ble_eq_true rfl) dX10_type_6 rfl (fun x1 w2 => ?_)
  refine sim_if_ne 15 dX10_type_9 rfl rfl (fun _ => ?_) (fun _ => ?_)
  · refine sim_aload_n 0 dX10_type_15 rfl rfl ?_
    refine sim_get (k := 50) (ci := 8) (j := 50) (v := .int (w2.1 50 50)) (hL 50 rfl) rfl (by decide) fl_X10_330 rfl dX10_type_16 rfl ?_
    refine sim_sipush (2000 : Int32) dX10_type_19 rfl rfl ?_
    refine sim_icmp_ne 28 dX10_type_22 rfl rfl (fun _ => ?_) (fun _ => ?_)
    · refine sim_aload_n 0 dX10_type_28 rfl rfl ?_
      refine sim_get (k := 50) (ci := 8) (j := 51) (v := .ref (Ea E 102)) (hL 50 rfl) rfl (by decide) fl_X10_132 rfl dX10_type_29 rfl ?_
      refine sim_aload_n 0 dX10_type_32 rfl rfl ?_
      refine sim_get (k := 50) (ci := 8) (j := 50) (v := .int (w2.1 50 50)) (hL 50 rfl) rfl (by decide) fl_X10_330 rfl dX10_type_33 rfl ?_
      refine sim_iload_n 1 dX10_type_36 rfl rfl ?_
      refine sim_iastore (k := 102) (hL 102 rfl) rfl rfl dX10_type_37 rfl ?_
      refine sim_lw (fun w3 => ?_)
      refine sim_aload_n 0 dX10_type_38 rfl rfl ?_
      refine sim_dup dX10_type_39 rfl rfl ?_
      refine sim_get (k := 50) (ci := 8) (j := 50) (v := .int (w3.1 50 50)) (hL 50 rfl) rfl (by decide) fl_X10_330 rfl dX10_type_40 rfl ?_
      refine sim_iconst (1 : Int32) dX10_type_43 rfl rfl ?_
      refine sim_iadd dX10_type_44 rfl ?_
      refine sim_put (k := 50) (ci := 8) (j := 50) (hL 50 rfl) rfl (by decide) fp_X10_330 rfl rfl (st_50_50 _ _ _) (Nat.le_of_ble_eq_true rfl) dX10_type_45 rfl ?_
      refine sim_lw (fun w4 => ?_)
      refine sim_aload_n 0 dX10_type_48 rfl rfl ?_
      refine sim_get (k := 50) (ci := 8) (j := 50) (v := .int (w4.1 50 50)) (hL 50 rfl) rfl (by decide) fl_X10_330 rfl dX10_type_49 rfl ?_
      exact sim_iret rfl dX10_type_52
    · refine sim_bipush (-4 : Int32) dX10_type_25 rfl rfl ?_
      exact sim_iret rfl dX10_type_27
  · refine sim_bipush (-2 : Int32) dX10_type_12 rfl rfl ?_
    exact sim_iret rfl dX10_type_14
def f_X10_wipe (w : Wd) : Option (Int32 × Wd) :=
  lt (w.1 50 50) fun x1 =>
  lw (wdI w 50 50 (0 : Int32)) fun w2 =>
  some (x1, w2)
set_option maxRecDepth 20000 in
theorem c_X10_wipe {E : Ev} (hL : LM E) (w : Wd) : Ct E m_X10_wipe yX10_wipe rI [.ref (Ea E 50)] w (f_X10_wipe w) := by
  refine Ct.of (by decide) ⟨rfl, rfl⟩ (Nat.le_of_ble_eq_true rfl) ?_
  show Sim E m_X10_wipe rI 0 [(0, .ref (Ea E 50))] [] w (f_X10_wipe w)
  unfold f_X10_wipe
  refine sim_aload_n 0 dX10_wipe_0 rfl rfl ?_
  refine sim_get (k := 50) (ci := 8) (j := 50) (v := .int (w.1 50 50)) (hL 50 rfl) rfl (by decide) fl_X10_330 rfl dX10_wipe_1 rfl ?_
  refine sim_lt (fun x1 => ?_)
  refine sim_istore_n [(1, .int x1), (0, .ref (Ea E 50))] dX10_wipe_4 (Nat.le_of_ble_eq_true rfl) rfl rfl ?_
  refine sim_aload_n 1 dX10_wipe_5 rfl rfl ?_
  refine sim_iconst (0 : Int32) dX10_wipe_6 rfl rfl ?_
  refine sim_put (k := 50) (ci := 8) (j := 50) (hL 50 rfl) rfl (by decide) fp_X10_330 rfl rfl (st_50_50 _ _ _) (Nat.le_of_ble_eq_true rfl) dX10_wipe_7 rfl ?_
  refine sim_lw (fun w2 => ?_)
  refine sim_iload_n 0 dX10_wipe_10 rfl rfl ?_
  exact sim_iret rfl dX10_wipe_11
def f_X10_letter_26 (s0 : Int32) (w : Wd) : Option (Int32 × Wd) :=
  some (s0, w)
set_option maxRecDepth 20000 in
theorem sf_X10_letter_26 {E : Ev} (hL : LM E) (s0 : Int32) (w : Wd) : Sim E m_X10_letter rI 26 [] [.int s0] w (f_X10_letter_26 s0 w) := by
  unfold f_X10_letter_26
  exact sim_iret rfl dX10_letter_26
def f_X10_letter (v1 : Int32) (w : Wd) : Option (Int32 × Wd) :=
  bd (f_X10_in (Int32.toInt64 v1) (0 : Int64) (Int32.toInt64 ((w.1 50 50) - (1 : Int32))) w) fun x1 w2 =>
  if x1 = (0 : Int32) then
  f_X10_letter_26 (-1 : Int32) w2
  else
  if inb v1 2000 = true then
  f_X10_letter_26 (w2.1 102 (Int32.toNatClampNeg v1)) w2
  else none
set_option maxRecDepth 20000 in
theorem c_X10_letter {E : Ev} (hL : LM E) (v1 : Int32) (w : Wd) : Ct E m_X10_letter yX10_letter rI [.ref (Ea E 50), .int v1] w (f_X10_letter v1 w) := by
  refine Ct.of (by decide) ⟨rfl, rfl⟩ (Nat.le_of_ble_eq_true rfl) ?_
  show Sim E m_X10_letter rI 0 [(0, .ref (Ea E 50)), (1, .int v1)] [] w (f_X10_letter v1 w)
  unfold f_X10_letter
  refine sim_iload_n 1 dX10_letter_0 rfl rfl ?_
  refine sim_i2l dX10_letter_1 rfl ?_
  refine sim_lconst (0 : Int64) dX10_letter_2 rfl rfl ?_
  refine sim_aload_n 0 dX10_letter_3 rfl rfl ?_
  refine sim_get (k := 50) (ci := 8) (j := 50) (v := .int (w.1 50 50)) (hL 50 rfl) rfl (by decide) fl_X10_330 rfl dX10_letter_4 rfl ?_
  refine sim_iconst (1 : Int32) dX10_letter_7 rfl rfl ?_
  refine sim_isub dX10_letter_8 rfl ?_
  refine sim_i2l dX10_letter_9 rfl ?_
  refine sim_cSi [.long (Int32.toInt64 v1), .long (0 : Int64), .long (Int32.toInt64 ((w.1 50 50) - (1 : Int32)))] [] (c_X10_in hL (Int32.toInt64 v1) (0 : Int64) (Int32.toInt64 ((w.1 50 50) - (1 : Int32))) w) cb_X10_139 sx_X10_in rfl rfl rfl (Nat.le_of_ble_eq_true rfl) dX10_letter_10 rfl (fun x1 w2 => ?_)
  refine sim_if_eq 25 dX10_letter_13 rfl rfl (fun _ => ?_) (fun _ => ?_)
  · refine sim_iconst (-1 : Int32) dX10_letter_25 rfl rfl ?_
    exact sim_sub [] rfl (sf_X10_letter_26 hL (-1 : Int32) w2)
  · refine sim_aload_n 0 dX10_letter_16 rfl rfl ?_
    refine sim_get (k := 50) (ci := 8) (j := 51) (v := .ref (Ea E 102)) (hL 50 rfl) rfl (by decide) fl_X10_132 rfl dX10_letter_17 rfl ?_
    refine sim_iload_n 1 dX10_letter_20 rfl rfl ?_
    refine sim_iaload (k := 102) (hL 102 rfl) rfl rfl dX10_letter_21 rfl ?_
    refine sim_goto (q := 26) dX10_letter_22 rfl ?_
    exact sim_sub [] rfl (sf_X10_letter_26 hL (w2.1 102 (Int32.toNatClampNeg v1)) w2)
def f_X10_fieldAt_66 (s0 : Int32) (w : Wd) : Option (Int32 × Wd) :=
  some (s0, w)
set_option maxRecDepth 20000 in
theorem sf_X10_fieldAt_66 {E : Ev} (hL : LM E) (s0 : Int32) (w : Wd) : Sim E m_X10_fieldAt rI 66 [] [.int s0] w (f_X10_fieldAt_66 s0 w) := by
  unfold f_X10_fieldAt_66
  exact sim_iret rfl dX10_fieldAt_66
def f_X10_fieldAt_65 (w : Wd) : Option (Int32 × Wd) :=
  f_X10_fieldAt_66 (-1 : Int32) w
set_option maxRecDepth 20000 in
theorem sf_X10_fieldAt_65 {E : Ev} (hL : LM E) (w : Wd) : Sim E m_X10_fieldAt rI 65 [] [] w (f_X10_fieldAt_65 w) := by
  unfold f_X10_fieldAt_65
  refine sim_iconst (-1 : Int32) dX10_fieldAt_65 rfl rfl ?_
  exact sim_sub [] rfl (sf_X10_fieldAt_66 hL (-1 : Int32) w)
def f_X10_fieldAt (v1 : Int32) (w : Wd) : Option (Int32 × Wd) :=
  if inb v1 2000 = true then
  lt ((w.1 102 (Int32.toNatClampNeg v1)) - (97 : Int32)) fun x1 =>
  if inb (v1 + (1 : Int32)) 2000 = true then
  lt ((w.1 102 (Int32.toNatClampNeg (v1 + (1 : Int32)))) - (49 : Int32)) fun x2 =>
  bd (f_X10_in (Int32.toInt64 x1) (0 : Int64) (Int32.toInt64 ((w.1 50 0) - (1 : Int32))) w) fun x3 w4 =>
  if x3 = (0 : Int32) then
  f_X10_fieldAt_65 w4
  else
  bd (f_X10_in (Int32.toInt64 x2) (0 : Int64) (Int32.toInt64 ((w4.1 50 0) - (1 : Int32))) w4) fun x5 w6 =>
  if x5 = (0 : Int32) then
  f_X10_fieldAt_65 w6
  else
  f_X10_fieldAt_66 (((w6.1 50 0) * x2) + x1) w6
  else none
  else none
set_option maxRecDepth 20000 in
theorem c_X10_fieldAt {E : Ev} (hL : LM E) (v1 : Int32) (w : Wd) : Ct E m_X10_fieldAt yX10_fieldAt rI [.ref (Ea E 50), .int v1] w (f_X10_fieldAt v1 w) := by
  refine Ct.of (by decide) ⟨rfl, rfl⟩ (Nat.le_of_ble_eq_true rfl) ?_
  show Sim E m_X10_fieldAt rI 0 [(0, .ref (Ea E 50)), (1, .int v1)] [] w (f_X10_fieldAt v1 w)
  unfold f_X10_fieldAt
  refine sim_aload_n 0 dX10_fieldAt_0 rfl rfl ?_
  refine sim_get (k := 50) (ci := 8) (j := 51) (v := .ref (Ea E 102)) (hL 50 rfl) rfl (by decide) fl_X10_132 rfl dX10_fieldAt_1 rfl ?_
  refine sim_iload_n 1 dX10_fieldAt_4 rfl rfl ?_
  refine sim_iaload (k := 102) (hL 102 rfl) rfl rfl dX10_fieldAt_5 rfl ?_
  refine sim_bipush (97 : Int32) dX10_fieldAt_6 rfl rfl ?_
  refine sim_isub dX10_fieldAt_8 rfl ?_
  refine sim_lt (fun x1 => ?_)
  refine sim_istore_n [(2, .int x1), (0, .ref (Ea E 50)), (1, .int v1)] dX10_fieldAt_9 (Nat.le_of_ble_eq_true rfl) rfl rfl ?_
  refine sim_aload_n 1 dX10_fieldAt_10 rfl rfl ?_
  refine sim_get (k := 50) (ci := 8) (j := 51) (v := .ref (Ea E 102)) (hL 50 rfl) rfl (by decide) fl_X10_132 rfl dX10_fieldAt_11 rfl ?_
  refine sim_iload_n 2 dX10_fieldAt_14 rfl rfl ?_
  refine sim_iconst (1 : Int32) dX10_fieldAt_15 rfl rfl ?_
  refine sim_iadd dX10_fieldAt_16 rfl ?_
  refine sim_iaload (k := 102) (hL 102 rfl) rfl rfl dX10_fieldAt_17 rfl ?_
  refine sim_bipush (49 : Int32) dX10_fieldAt_18 rfl rfl ?_
  refine sim_isub dX10_fieldAt_20 rfl ?_
  refine sim_lt (fun x2 => ?_)
  refine sim_istore_n [(3, .int x2), (2, .int x1), (0, .ref (Ea E 50)), (1, .int v1)] dX10_fieldAt_21 (Nat.le_of_ble_eq_true rfl) rfl rfl ?_
  refine sim_iload_n 1 dX10_fieldAt_22 rfl rfl ?_
  refine sim_i2l dX10_fieldAt_23 rfl ?_
  refine sim_lconst (0 : Int64) dX10_fieldAt_24 rfl rfl ?_
  refine sim_aload_n 2 dX10_fieldAt_25 rfl rfl ?_
  refine sim_get (k := 50) (ci := 8) (j := 0) (v := .int (w.1 50 0)) (hL 50 rfl) rfl (by decide) fl_X10_143 rfl dX10_fieldAt_26 rfl ?_
  refine sim_iconst (1 : Int32) dX10_fieldAt_29 rfl rfl ?_
  refine sim_isub dX10_fieldAt_30 rfl ?_
  refine sim_i2l dX10_fieldAt_31 rfl ?_
  refine sim_cSi [.long (Int32.toInt64 x1), .long (0 : Int64), .long (Int32.toInt64 ((w.1 50 0) - (1 : Int32)))] [] (c_X10_in hL (Int32.toInt64 x1) (0 : Int64) (Int32.toInt64 ((w.1 50 0) - (1 : Int32))) w) cb_X10_139 sx_X10_in rfl rfl rfl (Nat.le_of_ble_eq_true rfl) dX10_fieldAt_32 rfl (fun x3 w4 => ?_)
  refine sim_if_eq 65 dX10_fieldAt_35 rfl rfl (fun _ => ?_) (fun _ => ?_)
  · exact sim_sub [] rfl (sf_X10_fieldAt_65 hL w4)
  · refine sim_iload_n 0 dX10_fieldAt_38 rfl rfl ?_
    refine sim_i2l dX10_fieldAt_39 rfl ?_
    refine sim_lconst (0 : Int64) dX10_fieldAt_40 rfl rfl ?_
    refine sim_aload_n 2 dX10_fieldAt_41 rfl rfl ?_
    refine sim_get (k := 50) (ci := 8) (j := 0) (v := .int (w4.1 50 0)) (hL 50 rfl) rfl (by decide) fl_X10_143 rfl dX10_fieldAt_42 rfl ?_
    refine sim_iconst (1 : Int32) dX10_fieldAt_45 rfl rfl ?_
    refine sim_isub dX10_fieldAt_46 rfl ?_
    refine sim_i2l dX10_fieldAt_47 rfl ?_
    refine sim_cSi [.long (Int32.toInt64 x2), .long (0 : Int64), .long (Int32.toInt64 ((w4.1 50 0) - (1 : Int32)))] [] (c_X10_in hL (Int32.toInt64 x2) (0 : Int64) (Int32.toInt64 ((w4.1 50 0) - (1 : Int32))) w4) cb_X10_139 sx_X10_in rfl rfl rfl (Nat.le_of_ble_eq_true rfl) dX10_fieldAt_48 rfl (fun x5 w6 => ?_)
    refine sim_if_eq 65 dX10_fieldAt_51 rfl rfl (fun _ => ?_) (fun _ => ?_)
    · exact sim_sub [] rfl (sf_X10_fieldAt_65 hL w6)
    · refine sim_aload_n 2 dX10_fieldAt_54 rfl rfl ?_
      refine sim_get (k := 50) (ci := 8) (j := 0) (v := .int (w6.1 50 0)) (hL 50 rfl) rfl (by decide) fl_X10_143 rfl dX10_fieldAt_55 rfl ?_
      refine sim_iload_n 0 dX10_fieldAt_58 rfl rfl ?_
      refine sim_imul dX10_fieldAt_59 rfl ?_
      refine sim_iload_n 1 dX10_fieldAt_60 rfl rfl ?_
      refine sim_iadd dX10_fieldAt_61 rfl ?_
      refine sim_goto (q := 66) dX10_fieldAt_62 rfl ?_
      exact sim_sub [] rfl (sf_X10_fieldAt_66 hL (((w6.1 50 0) * x2) + x1) w6)
def f_X10_told_153 (s0 : Int32) (w : Wd) : Option (Int32 × Wd) :=
  some (s0, w)
set_option maxRecDepth 20000 in
theorem sf_X10_told_153 {E : Ev} (hL : LM E) (s0 : Int32) (w : Wd) : Sim E m_X10_told rI 153 [] [.int s0] w (f_X10_told_153 s0 w) := by
  unfold f_X10_told_153
  exact sim_iret rfl dX10_told_153
def f_X10_told_149 (s1 : Int32) (s2 : Int32) (s3 : Int32) (s4 : Int32) (w : Wd) : Option (Int32 × Wd) :=
  bd (f_X10_indexOf s1 s2 s3 s4 (-1 : Int32) w) fun x8 w9 =>
  f_X10_told_153 x8 w9
set_option maxRecDepth 20000 in
theorem sf_X10_told_149 {E : Ev} (hL : LM E) (s1 : Int32) (s2 : Int32) (s3 : Int32) (s4 : Int32) (w : Wd) : Sim E m_X10_told rI 149 [] [.int s4, .int s3, .int s2, .int s1, .ref (Ea E 50)] w (f_X10_told_149 s1 s2 s3 s4 w) := by
  unfold f_X10_told_149
  refine sim_iconst (-1 : Int32) dX10_told_149 rfl rfl ?_
  refine sim_cVi (k := 50) (ci := 8) [.int s1, .int s2, .int s3, .int s4, .int (-1 : Int32)] [] (c_X10_indexOf hL s1 s2 s3 s4 (-1 : Int32) w) (hL 50 rfl) rfl (by decide) rfl cb_X10_323 im_X10_indexOf se_X10_indexOf rfl rfl rfl (Nat.le_of_ble_eq_true rfl) dX10_told_150 rfl (fun x8 w9 => ?_)
  exact sim_sub [] rfl (sf_X10_told_153 hL x8 w9)
def f_X10_told_116 (s0 : Int32) (w : Wd) : Option (Int32 × Wd) :=
  some (s0, w)
set_option maxRecDepth 20000 in
theorem sf_X10_told_116 {E : Ev} (hL : LM E) (s0 : Int32) (w : Wd) : Sim E m_X10_told rI 116 [] [.int s0] w (f_X10_told_116 s0 w) := by
  unfold f_X10_told_116
  exact sim_iret rfl dX10_told_116
def f_X10_told_94 (w : Wd) : Option (Int32 × Wd) :=
  f_X10_told_116 (-1 : Int32) w
set_option maxRecDepth 20000 in
theorem sf_X10_told_94 {E : Ev} (hL : LM E) (w : Wd) : Sim E m_X10_told rI 94 [] [] w (f_X10_told_94 w) := by
  unfold f_X10_told_94
  refine sim_iconst (-1 : Int32) dX10_told_94 rfl rfl ?_
  refine sim_goto (q := 116) dX10_told_95 rfl ?_
  exact sim_sub [] rfl (sf_X10_told_116 hL (-1 : Int32) w)
def f_X10_told_41 (v1 : Int32) (v4 : Int32) (w : Wd) : Option (Int32 × Wd) :=
  bd (f_X10_fieldAt (v1 + (2 : Int32)) w) fun x2 w3 =>
  if (0 : Int32) ≤ x2 then
  if inb v1 2000 = true then
  bd (f_X10_in (Int32.toInt64 (w3.1 102 (Int32.toNatClampNeg v1))) (49 : Int64) (55 : Int64) w3) fun x4 w5 =>
  if x4 = (0 : Int32) then
  bd (f_X10_fieldAt v1 w5) fun x6 w7 =>
  if (0 : Int32) ≤ x6 then
  if v4 = (0 : Int32) then
  f_X10_told_149 (0 : Int32) x6 x2 (0 : Int32) w7
  else
  f_X10_told_149 (0 : Int32) x6 x2 (1 : Int32) w7
  else
  f_X10_told_153 (-1 : Int32) w7
  else
  if v4 = (0 : Int32) then
  if inb (v1 + (1 : Int32)) 2000 = true then
  if (w5.1 102 (Int32.toNatClampNeg (v1 + (1 : Int32)))) = (42 : Int32) then
  if inb v1 2000 = true then
  bd (f_X10_indexOf (0 : Int32) (-1 : Int32) x2 (0 : Int32) ((w5.1 102 (Int32.toNatClampNeg v1)) - (48 : Int32)) w5) fun x10 w11 =>
  f_X10_told_116 x10 w11
  else none
  else
  f_X10_told_94 w5
  else none
  else
  f_X10_told_94 w5
  else none
  else
  some ((-1 : Int32), w3)
set_option maxRecDepth 20000 in
theorem sf_X10_told_41 {E : Ev} (hL : LM E) (v1 : Int32) (v4 : Int32) (w : Wd) : Sim E m_X10_told rI 41 [(0, .ref (Ea E 50)), (1, .int v1), (4, .int v4)] [] w (f_X10_told_41 v1 v4 w) := by
  unfold f_X10_told_41
  refine sim_aload_n 0 dX10_told_41 rfl rfl ?_
  refine sim_iload_n 1 dX10_told_42 rfl rfl ?_
  refine sim_iconst (2 : Int32) dX10_told_43 rfl rfl ?_
  refine sim_iadd dX10_told_44 rfl ?_
  refine sim_cVi (k := 50) (ci := 8) [.int (v1 + (2 : Int32))] [] (c_X10_fieldAt hL (v1 + (2 : Int32)) w) (hL 50 rfl) rfl (by decide) rfl cb_X10_339 im_X10_fieldAt se_X10_fieldAt rfl rfl rfl (Nat.le_of_ble_eq_true rfl) dX10_told_45 rfl (fun x2 w3 => ?_)
  refine sim_istore [(5, .int x2), (0, .ref (Ea E 50)), (1, .int v1), (4, .int v4)] dX10_told_48 (Nat.le_of_ble_eq_true rfl) rfl rfl ?_
  refine sim_iload 0 dX10_told_50 rfl rfl ?_
  refine sim_if_ge 57 dX10_told_52 rfl rfl (fun _ => ?_) (fun _ => ?_)
  · refine sim_aload_n 1 dX10_told_57 rfl rfl ?_
    refine sim_get (k := 50) (ci := 8) (j := 51) (v := .ref (Ea E 102)) (hL 50 rfl) rfl (by decide) fl_X10_132 rfl dX10_told_58 rfl ?_
    refine sim_iload_n 2 dX10_told_61 rfl rfl ?_
    refine sim_iaload (k := 102) (hL 102 rfl) rfl rfl dX10_told_62 rfl ?_
    refine sim_i2l dX10_told_63 rfl ?_
    refine sim_ldc2 (49 : Int64) dX10_told_64 k_X10_342 rfl ?_
    refine sim_ldc2 (55 : Int64) dX10_told_67 k_X10_344 rfl ?_
    refine sim_cSi [.long (Int32.toInt64 (w3.1 102 (Int32.toNatClampNeg v1))), .long (49 : Int64), .long (55 : Int64)] [] (c_X10_in hL (Int32.toInt64 (w3.1 102 (Int32.toNatClampNeg v1))) (49 : Int64) (55 : Int64) w3) cb_X10_139 sx_X10_in rfl rfl rfl (Nat.le_of_ble_eq_true rfl) dX10_told_70 rfl (fun x4 w5 => ?_)
    refine sim_if_eq 117 dX10_told_73 rfl rfl (fun _ => ?_) (fun _ => ?_)
    · refine sim_aload_n 1 dX10_told_117 rfl rfl ?_
      refine sim_iload_n 2 dX10_told_118 rfl rfl ?_
      refine sim_cVi (k := 50) (ci := 8) [.int v1] [] (c_X10_fieldAt hL v1 w5) (hL 50 rfl) rfl (by decide) rfl cb_X10_339 im_X10_fieldAt se_X10_fieldAt rfl rfl rfl (Nat.le_of_ble_eq_true rfl) dX10_told_119 rfl (fun x6 w7 => ?_)
      refine sim_istore [(6, .int x6), (5, .int x2), (0, .ref (Ea E 50)), (1, .int v1), (4, .int v4)] dX10_told_122 (Nat.le_of_ble_eq_true rfl) rfl rfl ?_
      refine sim_iload 0 dX10_told_124 rfl rfl ?_
      refine sim_if_ge 133 dX10_told_126 rfl rfl (fun _ => ?_) (fun _ => ?_)
      · refine sim_aload_n 2 dX10_told_133 rfl rfl ?_
        refine sim_iconst (0 : Int32) dX10_told_134 rfl rfl ?_
        refine sim_iload 0 dX10_told_135 rfl rfl ?_
        refine sim_iload 1 dX10_told_137 rfl rfl ?_
        refine sim_iload 4 dX10_told_139 rfl rfl ?_
        refine sim_if_eq 148 dX10_told_141 rfl rfl (fun _ => ?_) (fun _ => ?_)
        · refine sim_iconst (0 : Int32) dX10_told_148 rfl rfl ?_
          exact sim_sub [] rfl (sf_X10_told_149 hL (0 : Int32) x6 x2 (0 : Int32) w7)
        · refine sim_iconst (1 : Int32) dX10_told_144 rfl rfl ?_
          refine sim_goto (q := 149) dX10_told_145 rfl ?_
          exact sim_sub [] rfl (sf_X10_told_149 hL (0 : Int32) x6 x2 (1 : Int32) w7)
      · refine sim_iconst (-1 : Int32) dX10_told_129 rfl rfl ?_
        refine sim_goto (q := 153) dX10_told_130 rfl ?_
        exact sim_sub [] rfl (sf_X10_told_153 hL (-1 : Int32) w7)
    · refine sim_iload 3 dX10_told_76 rfl rfl ?_
      refine sim_if_ne 94 dX10_told_78 rfl rfl (fun _ => ?_) (fun _ => ?_)
      · exact sim_sub [] rfl (sf_X10_told_94 hL w5)
      · refine sim_aload_n 1 dX10_told_81 rfl rfl ?_
        refine sim_get (k := 50) (ci := 8) (j := 51) (v := .ref (Ea E 102)) (hL 50 rfl) rfl (by decide) fl_X10_132 rfl dX10_told_82 rfl ?_
        refine sim_iload_n 2 dX10_told_85 rfl rfl ?_
        refine sim_iconst (1 : Int32) dX10_told_86 rfl rfl ?_
        refine sim_iadd dX10_told_87 rfl ?_
        refine sim_iaload (k := 102) (hL 102 rfl) rfl rfl dX10_told_88 rfl ?_
        refine sim_bipush (42 : Int32) dX10_told_89 rfl rfl ?_
        refine sim_icmp_eq 98 dX10_told_91 rfl rfl (fun _ => ?_) (fun _ => ?_)
        · refine sim_aload_n 1 dX10_told_98 rfl rfl ?_
          refine sim_iconst (0 : Int32) dX10_told_99 rfl rfl ?_
          refine sim_iconst (-1 : Int32) dX10_told_100 rfl rfl ?_
          refine sim_iload 0 dX10_told_101 rfl rfl ?_
          refine sim_iconst (0 : Int32) dX10_told_103 rfl rfl ?_
          refine sim_aload_n 1 dX10_told_104 rfl rfl ?_
          refine sim_get (k := 50) (ci := 8) (j := 51) (v := .ref (Ea E 102)) (hL 50 rfl) rfl (by decide) fl_X10_132 rfl dX10_told_105 rfl ?_
          refine sim_iload_n 2 dX10_told_108 rfl rfl ?_
          refine sim_iaload (k := 102) (hL 102 rfl) rfl rfl dX10_told_109 rfl ?_
          refine sim_bipush (48 : Int32) dX10_told_110 rfl rfl ?_
          refine sim_isub dX10_told_112 rfl ?_
          refine sim_cVi (k := 50) (ci := 8) [.int (0 : Int32), .int (-1 : Int32), .int x2, .int (0 : Int32), .int ((w5.1 102 (Int32.toNatClampNeg v1)) - (48 : Int32))] [] (c_X10_indexOf hL (0 : Int32) (-1 : Int32) x2 (0 : Int32) ((w5.1 102 (Int32.toNatClampNeg v1)) - (48 : Int32)) w5) (hL 50 rfl) rfl (by decide) rfl cb_X10_323 im_X10_indexOf se_X10_indexOf rfl rfl rfl (Nat.le_of_ble_eq_true rfl) dX10_told_113 rfl (fun x10 w11 => ?_)
          exact sim_sub [] rfl (sf_X10_told_116 hL x10 w11)
        · exact sim_sub [] rfl (sf_X10_told_94 hL w5)
  · refine sim_iconst (-1 : Int32) dX10_told_55 rfl rfl ?_
    exact sim_iret rfl dX10_told_56
def f_X10_told_27 (v1 : Int32) (v3 : Int32) (s0 : Int32) (w : Wd) : Option (Int32 × Wd) :=
  if v3 = (4 : Int32) then
  f_X10_told_41 v1 s0 w
  else
  if s0 = (0 : Int32) then
  some ((-1 : Int32), w)
  else
  f_X10_told_41 v1 s0 w
set_option maxRecDepth 20000 in
theorem sf_X10_told_27 {E : Ev} (hL : LM E) (v1 : Int32) (v3 : Int32) (s0 : Int32) (w : Wd) : Sim E m_X10_told rI 27 [(0, .ref (Ea E 50)), (1, .int v1), (3, .int v3)] [.int s0] w (f_X10_told_27 v1 v3 s0 w) := by
  unfold f_X10_told_27
  refine sim_istore [(4, .int s0), (0, .ref (Ea E 50)), (1, .int v1), (3, .int v3)] dX10_told_27 (Nat.le_of_ble_eq_true rfl) rfl rfl ?_
  refine sim_iload_n 3 dX10_told_29 rfl rfl ?_
  refine sim_iconst (4 : Int32) dX10_told_30 rfl rfl ?_
  refine sim_icmp_eq 41 dX10_told_31 rfl rfl (fun _ => ?_) (fun _ => ?_)
  · exact sim_sub [1, 2, 0] rfl (sf_X10_told_41 hL v1 s0 w)
  · refine sim_iload 0 dX10_told_34 rfl rfl ?_
    refine sim_if_ne 41 dX10_told_36 rfl rfl (fun _ => ?_) (fun _ => ?_)
    · exact sim_sub [1, 2, 0] rfl (sf_X10_told_41 hL v1 s0 w)
    · refine sim_iconst (-1 : Int32) dX10_told_39 rfl rfl ?_
      exact sim_iret rfl dX10_told_40
def f_X10_told_26 (v1 : Int32) (v3 : Int32) (w : Wd) : Option (Int32 × Wd) :=
  f_X10_told_27 v1 v3 (0 : Int32) w
set_option maxRecDepth 20000 in
theorem sf_X10_told_26 {E : Ev} (hL : LM E) (v1 : Int32) (v3 : Int32) (w : Wd) : Sim E m_X10_told rI 26 [(0, .ref (Ea E 50)), (1, .int v1), (3, .int v3)] [] w (f_X10_told_26 v1 v3 w) := by
  unfold f_X10_told_26
  refine sim_iconst (0 : Int32) dX10_told_26 rfl rfl ?_
  exact sim_sub [0, 1, 2] rfl (sf_X10_told_27 hL v1 v3 (0 : Int32) w)
def f_X10_told (v1 : Int32) (v2 : Int32) (w : Wd) : Option (Int32 × Wd) :=
  lt (v2 - v1) fun x1 =>
  if x1 = (5 : Int32) then
  if inb (v2 - (1 : Int32)) 2000 = true then
  if (w.1 102 (Int32.toNatClampNeg (v2 - (1 : Int32)))) = (43 : Int32) then
  f_X10_told_27 v1 x1 (1 : Int32) w
  else
  f_X10_told_26 v1 x1 w
  else none
  else
  f_X10_told_26 v1 x1 w
set_option maxRecDepth 20000 in
theorem c_X10_told {E : Ev} (hL : LM E) (v1 : Int32) (v2 : Int32) (w : Wd) : Ct E m_X10_told yX10_told rI [.ref (Ea E 50), .int v1, .int v2] w (f_X10_told v1 v2 w) := by
  refine Ct.of (by decide) ⟨rfl, rfl⟩ (Nat.le_of_ble_eq_true rfl) ?_
  show Sim E m_X10_told rI 0 [(0, .ref (Ea E 50)), (1, .int v1), (2, .int v2)] [] w (f_X10_told v1 v2 w)
  unfold f_X10_told
  refine sim_iload_n 2 dX10_told_0 rfl rfl ?_
  refine sim_iload_n 1 dX10_told_1 rfl rfl ?_
  refine sim_isub dX10_told_2 rfl ?_
  refine sim_lt (fun x1 => ?_)
  refine sim_istore_n [(3, .int x1), (0, .ref (Ea E 50)), (1, .int v1), (2, .int v2)] dX10_told_3 (Nat.le_of_ble_eq_true rfl) rfl rfl ?_
  refine sim_iload_n 0 dX10_told_4 rfl rfl ?_
  refine sim_iconst (5 : Int32) dX10_told_5 rfl rfl ?_
  refine sim_icmp_ne 26 dX10_told_6 rfl rfl (fun _ => ?_) (fun _ => ?_)
  · exact sim_sub [1, 2, 0] rfl (sf_X10_told_26 hL v1 x1 w)
  · refine sim_aload_n 1 dX10_told_9 rfl rfl ?_
    refine sim_get (k := 50) (ci := 8) (j := 51) (v := .ref (Ea E 102)) (hL 50 rfl) rfl (by decide) fl_X10_132 rfl dX10_told_10 rfl ?_
    refine sim_iload_n 3 dX10_told_13 rfl rfl ?_
    refine sim_iconst (1 : Int32) dX10_told_14 rfl rfl ?_
    refine sim_isub dX10_told_15 rfl ?_
    refine sim_iaload (k := 102) (hL 102 rfl) rfl rfl dX10_told_16 rfl ?_
    refine sim_bipush (43 : Int32) dX10_told_17 rfl rfl ?_
    refine sim_icmp_ne 26 dX10_told_19 rfl rfl (fun _ => ?_) (fun _ => ?_)
    · exact sim_sub [1, 2, 0] rfl (sf_X10_told_26 hL v1 x1 w)
    · refine sim_iconst (1 : Int32) dX10_told_22 rfl rfl ?_
      refine sim_goto (q := 27) dX10_told_23 rfl ?_
      exact sim_sub [1, 2, 0] rfl (sf_X10_told_27 hL v1 x1 (1 : Int32) w)
