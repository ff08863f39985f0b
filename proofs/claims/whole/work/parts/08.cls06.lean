def f_X9_play_9 (N : Nat) (w : Wd) : Option (Int32 × Wd) :=
  some ((-2 : Int32), w)
set_option maxRecDepth 20000 in
theorem sf_X9_play_9 {E : Ev} (hL : LX E) (w : Wd) : Sim E m_X9_play rI 9 [] [] w (f_X9_play_9 (En E) w) := by
  unfold f_X9_play_9
  refine sim_bipush (-2 : Int32) dX9_play_9 rfl rfl ?_
  exact sim_iret rfl dX9_play_11
def f_X9_play (N : Nat) (v1 : Int32) (w : Wd) : Option (Int32 × Wd) :=
  if v1 < (0 : Int32) then
  f_X9_play_9 N w
  else
  if v1 ≤ (5 : Int32) then
  if (w.1 0 10) = (0 : Int32) then
  some ((-3 : Int32), w)
  else
  bd (f_X9_ofPlay N v1 w) fun x1 w2 =>
  some (x1, w2)
  else
  f_X9_play_9 N w
set_option maxRecDepth 20000 in
theorem c_X9_play {E : Ev} (hL : LX E) (v1 : Int32) (w : Wd) : Ct E m_X9_play yX9_play rI [.ref (Ea E 0), .int v1] w (f_X9_play (En E) v1 w) := by
  refine Ct.of (by decide) ⟨rfl, rfl⟩ (Nat.le_of_ble_eq_true rfl) ?_
  show Sim E m_X9_play rI 0 [(0, .ref (Ea E 0)), (1, .int v1)] [] w (f_X9_play (En E) v1 w)
  unfold f_X9_play
  refine sim_iload_n 1 dX9_play_0 rfl rfl ?_
  refine sim_if_lt 9 dX9_play_1 rfl rfl (fun _ => ?_) (fun _ => ?_)
  · exact sim_sub [] rfl (sf_X9_play_9 hL w)
  · refine sim_iload_n 1 dX9_play_4 rfl rfl ?_
    refine sim_iconst (5 : Int32) dX9_play_5 rfl rfl ?_
    refine sim_icmp_le 12 dX9_play_6 rfl rfl (fun _ => ?_) (fun _ => ?_)
    · refine sim_aload_n 0 dX9_play_12 rfl rfl ?_
      refine sim_get (k := 0) (ci := 7) (j := 10) (v := .int (w.1 0 10)) (hL.1 0 rfl) rfl (by decide) fl_X9_86 rfl dX9_play_13 rfl ?_
      refine sim_if_ne 22 dX9_play_16 rfl rfl (fun _ => ?_) (fun _ => ?_)
      · refine sim_aload_n 0 dX9_play_22 rfl rfl ?_
        refine sim_iload_n 1 dX9_play_23 rfl rfl ?_
        refine sim_cVi (k := 0) (ci := 7) [.int v1] [] (c_X9_ofPlay hL v1 w) (hL.1 0 rfl) rfl (by decide) rfl cb_X9_252 im_X9_ofPlay se_X9_ofPlay rfl rfl rfl (Nat.le_of_ble_eq_true rfl) dX9_play_24 rfl (fun x1 w2 => ?_)
        exact sim_iret rfl dX9_play_27
      · refine sim_bipush (-3 : Int32) dX9_play_19 rfl rfl ?_
        exact sim_iret rfl dX9_play_21
    · exact sim_sub [] rfl (sf_X9_play_9 hL w)
def f_X9_fuel_12 (N : Nat) (w : Wd) : Option (Int32 × Wd) :=
  some ((-2 : Int32), w)
set_option maxRecDepth 20000 in
theorem sf_X9_fuel_12 {E : Ev} (hL : LX E) (w : Wd) : Sim E m_X9_fuel rI 12 [] [] w (f_X9_fuel_12 (En E) w) := by
  unfold f_X9_fuel_12
  refine sim_bipush (-2 : Int32) dX9_fuel_12 rfl rfl ?_
  exact sim_iret rfl dX9_fuel_14
def f_X9_fuel (N : Nat) (v1 : Int32) (w : Wd) : Option (Int32 × Wd) :=
  if v1 < (1 : Int32) then
  f_X9_fuel_12 N w
  else
  if v1 ≤ (1000 : Int32) then
  lt (w.1 29 6) fun x1 =>
  lw (wdI w 29 6 v1) fun w2 =>
  some (x1, w2)
  else
  f_X9_fuel_12 N w
set_option maxRecDepth 20000 in
theorem c_X9_fuel {E : Ev} (hL : LX E) (v1 : Int32) (w : Wd) : Ct E m_X9_fuel yX9_fuel rI [.ref (Ea E 0), .int v1] w (f_X9_fuel (En E) v1 w) := by
  refine Ct.of (by decide) ⟨rfl, rfl⟩ (Nat.le_of_ble_eq_true rfl) ?_
  show Sim E m_X9_fuel rI 0 [(0, .ref (Ea E 0)), (1, .int v1)] [] w (f_X9_fuel (En E) v1 w)
  unfold f_X9_fuel
  refine sim_iload_n 1 dX9_fuel_0 rfl rfl ?_
  refine sim_iconst (1 : Int32) dX9_fuel_1 rfl rfl ?_
  refine sim_icmp_lt 12 dX9_fuel_2 rfl rfl (fun _ => ?_) (fun _ => ?_)
  · exact sim_sub [] rfl (sf_X9_fuel_12 hL w)
  · refine sim_iload_n 1 dX9_fuel_5 rfl rfl ?_
    refine sim_sipush (1000 : Int32) dX9_fuel_6 rfl rfl ?_
    refine sim_icmp_le 15 dX9_fuel_9 rfl rfl (fun _ => ?_) (fun _ => ?_)
    · refine sim_aload_n 0 dX9_fuel_15 rfl rfl ?_
      refine sim_get (k := 0) (ci := 7) (j := 6) (v := .ref (Ea E 29)) (hL.1 0 rfl) rfl (by decide) fl_X9_56 rfl dX9_fuel_16 rfl ?_
      refine sim_get (k := 29) (ci := 0) (j := 6) (v := .int (w.1 29 6)) (hL.1 29 rfl) rfl (by decide) fl_X9_255 rfl dX9_fuel_19 rfl ?_
      refine sim_lt (fun x1 => ?_)
      refine sim_istore_n [(2, .int x1), (0, .ref (Ea E 0)), (1, .int v1)] dX9_fuel_22 (Nat.le_of_ble_eq_true rfl) rfl rfl ?_
      refine sim_aload_n 1 dX9_fuel_23 rfl rfl ?_
      refine sim_get (k := 0) (ci := 7) (j := 6) (v := .ref (Ea E 29)) (hL.1 0 rfl) rfl (by decide) fl_X9_56 rfl dX9_fuel_24 rfl ?_
      refine sim_iload_n 2 dX9_fuel_27 rfl rfl ?_
      refine sim_put (k := 29) (ci := 0) (j := 6) (hL.1 29 rfl) rfl (by decide) fp_X9_255 rfl rfl (st_29_6 _ _ _) (Nat.le_of_ble_eq_true rfl) dX9_fuel_28 rfl ?_
      refine sim_lw (fun w2 => ?_)
      refine sim_iload_n 0 dX9_fuel_31 rfl rfl ?_
      exact sim_iret rfl dX9_fuel_32
    · exact sim_sub [] rfl (sf_X9_fuel_12 hL w)
def f_X9_hunt_10 (N : Nat) (w : Wd) : Option (Int32 × Wd) :=
  some ((-2 : Int32), w)
set_option maxRecDepth 20000 in
theorem sf_X9_hunt_10 {E : Ev} (hL : LX E) (w : Wd) : Sim E m_X9_hunt rI 10 [] [] w (f_X9_hunt_10 (En E) w) := by
  unfold f_X9_hunt_10
  refine sim_bipush (-2 : Int32) dX9_hunt_10 rfl rfl ?_
  exact sim_iret rfl dX9_hunt_12
def b_X9_hunt_32 (N : Nat) (R : Int32 → Int32 → Wd → Option (Int32 × Wd)) (K60 : Int32 → Wd → Option (Int32 × Wd)) (K83 : Wd → Option (Int32 × Wd)) (v1 : Int32) (v2 : Int32) (w : Wd) : Option (Int32 × Wd) :=
  if v1 < v2 then
  K83 w
  else
  if (w.1 29 8) = (0 : Int32) then
  bd (f_X0_hunterGoesR N v2 (-1 : Int32) (2 : Int32) w) fun x2 w3 =>
  if x2 = (0 : Int32) then
  R v1 (v2 + (1 : Int32)) w3
  else
  K60 v2 w3
  else
  K83 w
set_option maxRecDepth 20000 in
theorem sb_X9_hunt_32 {E : Ev} (hL : LX E) {R : Int32 → Int32 → Wd → Option (Int32 × Wd)} (hR : ∀ (v1 : Int32) (v2 : Int32) (w : Wd), Sim E m_X9_hunt rI 32 [(0, .ref (Ea E 0)), (1, .int v1), (2, .int v2)] [] w (R v1 v2 w)) {K60 : Int32 → Wd → Option (Int32 × Wd)} (hK60 : ∀ (v2 : Int32) (w : Wd), Sim E m_X9_hunt rI 60 [(0, .ref (Ea E 0)), (2, .int v2)] [] w (K60 v2 w)) {K83 : Wd → Option (Int32 × Wd)} (hK83 : ∀ (w : Wd), Sim E m_X9_hunt rI 83 [(0, .ref (Ea E 0))] [] w (K83  w)) (v1 : Int32) (v2 : Int32) (w : Wd) : Sim E m_X9_hunt rI 32 [(0, .ref (Ea E 0)), (1, .int v1), (2, .int v2)] [] w (b_X9_hunt_32 (En E) R K60 K83 v1 v2 w) := by
  unfold b_X9_hunt_32
  refine sim_iload_n 2 dX9_hunt_32 rfl rfl ?_
  refine sim_iload_n 1 dX9_hunt_33 rfl rfl ?_
  refine sim_icmp_gt 83 dX9_hunt_34 rfl rfl (fun _ => ?_) (fun _ => ?_)
  · exact sim_sub [0] rfl (hK83 w)
  · refine sim_aload_n 0 dX9_hunt_37 rfl rfl ?_
    refine sim_get (k := 0) (ci := 7) (j := 6) (v := .ref (Ea E 29)) (hL.1 0 rfl) rfl (by decide) fl_X9_56 rfl dX9_hunt_38 rfl ?_
    refine sim_get (k := 29) (ci := 0) (j := 8) (v := .int (w.1 29 8)) (hL.1 29 rfl) rfl (by decide) fl_X9_259 rfl dX9_hunt_41 rfl ?_
    refine sim_if_ne 83 dX9_hunt_44 rfl rfl (fun _ => ?_) (fun _ => ?_)
    · exact sim_sub [0] rfl (hK83 w)
    · refine sim_aload_n 0 dX9_hunt_47 rfl rfl ?_
      refine sim_get (k := 0) (ci := 7) (j := 6) (v := .ref (Ea E 29)) (hL.1 0 rfl) rfl (by decide) fl_X9_56 rfl dX9_hunt_48 rfl ?_
      refine sim_iload_n 2 dX9_hunt_51 rfl rfl ?_
      refine sim_iconst (-1 : Int32) dX9_hunt_52 rfl rfl ?_
      refine sim_iconst (2 : Int32) dX9_hunt_53 rfl rfl ?_
      refine sim_cVNi (k := 29) (ci := 0) [.int v2, .int (-1 : Int32), .int (2 : Int32)] [] (c_X0_hunterGoesR hL v2 (-1 : Int32) (2 : Int32) w) (hL.1 29 rfl) rfl (by decide) rfl (cn_X9_262 _) im_X0_hunterGoes se_X0_hunterGoes rfl rfl rfl (Nat.le_of_ble_eq_true rfl) dX9_hunt_54 rfl (fun x2 w3 => ?_)
      refine sim_if_eq 77 dX9_hunt_57 rfl rfl (fun _ => ?_) (fun _ => ?_)
      · refine sim_iinc (v2 + (1 : Int32)) 2 [(2, .int (v2 + (1 : Int32))), (0, .ref (Ea E 0)), (1, .int v1)] dX9_hunt_77 rfl rfl (Nat.le_of_ble_eq_true rfl) rfl rfl ?_
        refine sim_goto (q := 32) dX9_hunt_80 rfl ?_
        exact sim_sub [1, 2, 0] rfl (hR v1 (v2 + (1 : Int32)) w3)
      · exact sim_sub [0, 2] rfl (hK60 v2 w3)
def l_X9_hunt_32 (N : Nat) (K60 : Int32 → Wd → Option (Int32 × Wd)) (K83 : Wd → Option (Int32 × Wd)) (n : Nat) : Int32 → Int32 → Wd → Option (Int32 × Wd) := itr (fun _ _ _ => none) (fun R => b_X9_hunt_32 N R K60 K83) n
set_option maxRecDepth 20000 in
theorem sl_X9_hunt_32 {E : Ev} (hL : LX E) {K60 : Int32 → Wd → Option (Int32 × Wd)} (hK60 : ∀ (v2 : Int32) (w : Wd), Sim E m_X9_hunt rI 60 [(0, .ref (Ea E 0)), (2, .int v2)] [] w (K60 v2 w)) {K83 : Wd → Option (Int32 × Wd)} (hK83 : ∀ (w : Wd), Sim E m_X9_hunt rI 83 [(0, .ref (Ea E 0))] [] w (K83  w)) : ∀ (n : Nat) (v1 : Int32) (v2 : Int32) (w : Wd), Sim E m_X9_hunt rI 32 [(0, .ref (Ea E 0)), (1, .int v1), (2, .int v2)] [] w (l_X9_hunt_32 (En E) K60 K83 n v1 v2 w) := by
  intro n
  induction n with
  | zero => intros; exact sim_none
  | succ n ih => intros; exact sb_X9_hunt_32 hL (R := l_X9_hunt_32 (En E) K60 K83 n) ih hK60 hK83 _ _ _
def f_X9_hunt_76 (N : Nat) (s0 : Int32) (w : Wd) : Option (Int32 × Wd) :=
  some (s0, w)
set_option maxRecDepth 20000 in
theorem sf_X9_hunt_76 {E : Ev} (hL : LX E) (s0 : Int32) (w : Wd) : Sim E m_X9_hunt rI 76 [] [.int s0] w (f_X9_hunt_76 (En E) s0 w) := by
  unfold f_X9_hunt_76
  exact sim_iret rfl dX9_hunt_76
def f_X9_hunt_60 (N : Nat) (v2 : Int32) (w : Wd) : Option (Int32 × Wd) :=
  bd (f_X0_fits N w) fun x4 w5 =>
  if x4 = (0 : Int32) then
  f_X9_hunt_76 N (-4 : Int32) w5
  else
  f_X9_hunt_76 N v2 w5
set_option maxRecDepth 20000 in
theorem sf_X9_hunt_60 {E : Ev} (hL : LX E) (v2 : Int32) (w : Wd) : Sim E m_X9_hunt rI 60 [(0, .ref (Ea E 0)), (2, .int v2)] [] w (f_X9_hunt_60 (En E) v2 w) := by
  unfold f_X9_hunt_60
  refine sim_aload_n 0 dX9_hunt_60 rfl rfl ?_
  refine sim_get (k := 0) (ci := 7) (j := 6) (v := .ref (Ea E 29)) (hL.1 0 rfl) rfl (by decide) fl_X9_56 rfl dX9_hunt_61 rfl ?_
  refine sim_cVi (k := 29) (ci := 0) [] [] (c_X0_fits hL w) (hL.1 29 rfl) rfl (by decide) rfl cb_X9_265 im_X0_fits se_X0_fits rfl rfl rfl (Nat.le_of_ble_eq_true rfl) dX9_hunt_64 rfl (fun x4 w5 => ?_)
  refine sim_if_eq 74 dX9_hunt_67 rfl rfl (fun _ => ?_) (fun _ => ?_)
  · refine sim_bipush (-4 : Int32) dX9_hunt_74 rfl rfl ?_
    exact sim_sub [] rfl (sf_X9_hunt_76 hL (-4 : Int32) w5)
  · refine sim_iload_n 1 dX9_hunt_70 rfl rfl ?_
    refine sim_goto (q := 76) dX9_hunt_71 rfl ?_
    exact sim_sub [] rfl (sf_X9_hunt_76 hL v2 w5)
def f_X9_hunt_99 (N : Nat) (s0 : Int32) (w : Wd) : Option (Int32 × Wd) :=
  some (s0, w)
set_option maxRecDepth 20000 in
theorem sf_X9_hunt_99 {E : Ev} (hL : LX E) (s0 : Int32) (w : Wd) : Sim E m_X9_hunt rI 99 [] [.int s0] w (f_X9_hunt_99 (En E) s0 w) := by
  unfold f_X9_hunt_99
  exact sim_iret rfl dX9_hunt_99
def f_X9_hunt_83 (N : Nat) (w : Wd) : Option (Int32 × Wd) :=
  if (w.1 29 8) = (0 : Int32) then
  f_X9_hunt_99 N (0 : Int32) w
  else
  f_X9_hunt_99 N (-5 : Int32) w
set_option maxRecDepth 20000 in
theorem sf_X9_hunt_83 {E : Ev} (hL : LX E) (w : Wd) : Sim E m_X9_hunt rI 83 [(0, .ref (Ea E 0))] [] w (f_X9_hunt_83 (En E) w) := by
  unfold f_X9_hunt_83
  refine sim_aload_n 0 dX9_hunt_83 rfl rfl ?_
  refine sim_get (k := 0) (ci := 7) (j := 6) (v := .ref (Ea E 29)) (hL.1 0 rfl) rfl (by decide) fl_X9_56 rfl dX9_hunt_84 rfl ?_
  refine sim_get (k := 29) (ci := 0) (j := 8) (v := .int (w.1 29 8)) (hL.1 29 rfl) rfl (by decide) fl_X9_259 rfl dX9_hunt_87 rfl ?_
  refine sim_if_eq 98 dX9_hunt_90 rfl rfl (fun _ => ?_) (fun _ => ?_)
  · refine sim_iconst (0 : Int32) dX9_hunt_98 rfl rfl ?_
    exact sim_sub [] rfl (sf_X9_hunt_99 hL (0 : Int32) w)
  · refine sim_bipush (-5 : Int32) dX9_hunt_93 rfl rfl ?_
    refine sim_goto (q := 99) dX9_hunt_95 rfl ?_
    exact sim_sub [] rfl (sf_X9_hunt_99 hL (-5 : Int32) w)
def f_X9_hunt (N : Nat) (v1 : Int32) (w : Wd) : Option (Int32 × Wd) :=
  if v1 < (1 : Int32) then
  f_X9_hunt_10 N w
  else
  if v1 ≤ (4 : Int32) then
  if (w.1 0 10) = (0 : Int32) then
  some ((-3 : Int32), w)
  else
  bd (f_X0_begin N w) fun _ w1 =>
  l_X9_hunt_32 N (f_X9_hunt_60 N) (f_X9_hunt_83 N) FU v1 (1 : Int32) w1
  else
  f_X9_hunt_10 N w
set_option maxRecDepth 20000 in
theorem c_X9_hunt {E : Ev} (hL : LX E) (v1 : Int32) (w : Wd) : Ct E m_X9_hunt yX9_hunt rI [.ref (Ea E 0), .int v1] w (f_X9_hunt (En E) v1 w) := by
  refine Ct.of (by decide) ⟨rfl, rfl⟩ (Nat.le_of_ble_eq_true rfl) ?_
  show Sim E m_X9_hunt rI 0 [(0, .ref (Ea E 0)), (1, .int v1)] [] w (f_X9_hunt (En E) v1 w)
  unfold f_X9_hunt
  refine sim_iload_n 1 dX9_hunt_0 rfl rfl ?_
  refine sim_iconst (1 : Int32) dX9_hunt_1 rfl rfl ?_
  refine sim_icmp_lt 10 dX9_hunt_2 rfl rfl (fun _ => ?_) (fun _ => ?_)
  · exact sim_sub [] rfl (sf_X9_hunt_10 hL w)
  · refine sim_iload_n 1 dX9_hunt_5 rfl rfl ?_
    refine sim_iconst (4 : Int32) dX9_hunt_6 rfl rfl ?_
    refine sim_icmp_le 13 dX9_hunt_7 rfl rfl (fun _ => ?_) (fun _ => ?_)
    · refine sim_aload_n 0 dX9_hunt_13 rfl rfl ?_
      refine sim_get (k := 0) (ci := 7) (j := 10) (v := .int (w.1 0 10)) (hL.1 0 rfl) rfl (by decide) fl_X9_86 rfl dX9_hunt_14 rfl ?_
      refine sim_if_ne 23 dX9_hunt_17 rfl rfl (fun _ => ?_) (fun _ => ?_)
      · refine sim_aload_n 0 dX9_hunt_23 rfl rfl ?_
        refine sim_get (k := 0) (ci := 7) (j := 6) (v := .ref (Ea E 29)) (hL.1 0 rfl) rfl (by decide) fl_X9_56 rfl dX9_hunt_24 rfl ?_
        refine sim_cVv (k := 29) (ci := 0) [] [] (c_X0_begin hL w) (hL.1 29 rfl) rfl (by decide) rfl cb_X9_258 im_X0_begin se_X0_begin rfl rfl rfl (Nat.le_of_ble_eq_true rfl) dX9_hunt_27 rfl (fun _ w1 => ?_)
        refine sim_iconst (1 : Int32) dX9_hunt_30 rfl rfl ?_
        refine sim_istore_n [(2, .int (1 : Int32)), (0, .ref (Ea E 0)), (1, .int v1)] dX9_hunt_31 (Nat.le_of_ble_eq_true rfl) rfl rfl ?_
        exact sim_sub [1, 2, 0] rfl (sl_X9_hunt_32 hL (sf_X9_hunt_60 hL) (sf_X9_hunt_83 hL) FU v1 (1 : Int32) w1)
      · refine sim_bipush (-3 : Int32) dX9_hunt_20 rfl rfl ?_
        exact sim_iret rfl dX9_hunt_22
    · exact sim_sub [] rfl (sf_X9_hunt_10 hL w)
def f_X9_spent (N : Nat) (w : Wd) : Option (Int32 × Wd) :=
  some ((w.1 29 7), w)
set_option maxRecDepth 20000 in
theorem c_X9_spent {E : Ev} (hL : LX E) (w : Wd) : Ct E m_X9_spent yX9_spent rI [.ref (Ea E 0)] w (f_X9_spent (En E) w) := by
  refine Ct.of (by decide) ⟨rfl, rfl⟩ (Nat.le_of_ble_eq_true rfl) ?_
  show Sim E m_X9_spent rI 0 [(0, .ref (Ea E 0))] [] w (f_X9_spent (En E) w)
  unfold f_X9_spent
  refine sim_aload_n 0 dX9_spent_0 rfl rfl ?_
  refine sim_get (k := 0) (ci := 7) (j := 6) (v := .ref (Ea E 29)) (hL.1 0 rfl) rfl (by decide) fl_X9_56 rfl dX9_spent_1 rfl ?_
  refine sim_get (k := 29) (ci := 0) (j := 7) (v := .int (w.1 29 7)) (hL.1 29 rfl) rfl (by decide) fl_X9_268 rfl dX9_spent_4 rfl ?_
  exact sim_iret rfl dX9_spent_7
def f_X9_tree (N : Nat) (w : Wd) : Option (Int32 × Wd) :=
  some ((w.1 29 5), w)
set_option maxRecDepth 20000 in
theorem c_X9_tree {E : Ev} (hL : LX E) (w : Wd) : Ct E m_X9_tree yX9_tree rI [.ref (Ea E 0)] w (f_X9_tree (En E) w) := by
  refine Ct.of (by decide) ⟨rfl, rfl⟩ (Nat.le_of_ble_eq_true rfl) ?_
  show Sim E m_X9_tree rI 0 [(0, .ref (Ea E 0))] [] w (f_X9_tree (En E) w)
  unfold f_X9_tree
  refine sim_aload_n 0 dX9_tree_0 rfl rfl ?_
  refine sim_get (k := 0) (ci := 7) (j := 6) (v := .ref (Ea E 29)) (hL.1 0 rfl) rfl (by decide) fl_X9_56 rfl dX9_tree_1 rfl ?_
  refine sim_get (k := 29) (ci := 0) (j := 5) (v := .int (w.1 29 5)) (hL.1 29 rfl) rfl (by decide) fl_X9_177 rfl dX9_tree_4 rfl ?_
  exact sim_iret rfl dX9_tree_7
def f_X9_node_15 (N : Nat) (w : Wd) : Option (Int32 × Wd) :=
  some ((-2 : Int32), w)
set_option maxRecDepth 20000 in
theorem sf_X9_node_15 {E : Ev} (hL : LX E) (w : Wd) : Sim E m_X9_node rI 15 [] [] w (f_X9_node_15 (En E) w) := by
  unfold f_X9_node_15
  refine sim_bipush (-2 : Int32) dX9_node_15 rfl rfl ?_
  exact sim_iret rfl dX9_node_17
def f_X9_node (N : Nat) (v1 : Int32) (v2 : Int32) (w : Wd) : Option (Int32 × Wd) :=
  if v1 < (0 : Int32) then
  f_X9_node_15 N w
  else
  if v1 < (w.1 29 5) then
  if inb v1 1000 = true then
  lt (w.1 30 (Int32.toNatClampNeg v1)) fun x1 =>
  if v2 = (0 : Int32) then
  if inb v1 1000 = true then
  some ((w.1 31 (Int32.toNatClampNeg v1)), w)
  else none
  else
  if v2 = (1 : Int32) then
  bd (f_X3_fromOf x1 w) fun x2 w3 =>
  some (x2, w3)
  else
  if v2 = (2 : Int32) then
  bd (f_X3_toOf x1 w) fun x4 w5 =>
  some (x4, w5)
  else
  if v2 = (3 : Int32) then
  bd (f_X3_raises x1 w) fun x6 w7 =>
  bd (f_X9_asNumber N x6 w7) fun x8 w9 =>
  some (x8, w9)
  else
  if v2 = (4 : Int32) then
  bd (f_X3_setKindOf x1 w) fun x10 w11 =>
  some (x10, w11)
  else
  if v2 = (5 : Int32) then
  bd (f_X0_depthOf N v1 w) fun x12 w13 =>
  some (x12, w13)
  else
  if v2 = (6 : Int32) then
  if inb v1 1000 = true then
  some ((w.1 32 (Int32.toNatClampNeg v1)), w)
  else none
  else
  some ((-2 : Int32), w)
  else none
  else
  f_X9_node_15 N w
set_option maxRecDepth 20000 in
theorem c_X9_node {E : Ev} (hL : LX E) (v1 : Int32) (v2 : Int32) (w : Wd) : Ct E m_X9_node yX9_node rI [.ref (Ea E 0), .int v1, .int v2] w (f_X9_node (En E) v1 v2 w) := by
  refine Ct.of (by decide) ⟨rfl, rfl⟩ (Nat.le_of_ble_eq_true rfl) ?_
  show Sim E m_X9_node rI 0 [(0, .ref (Ea E 0)), (1, .int v1), (2, .int v2)] [] w (f_X9_node (En E) v1 v2 w)
  unfold f_X9_node
  refine sim_iload_n 1 dX9_node_0 rfl rfl ?_
  refine sim_if_lt 15 dX9_node_1 rfl rfl (fun _ => ?_) (fun _ => ?_)
  · exact sim_sub [] rfl (sf_X9_node_15 hL w)
  · refine sim_iload_n 1 dX9_node_4 rfl rfl ?_
    refine sim_aload_n 0 dX9_node_5 rfl rfl ?_
    refine sim_get (k := 0) (ci := 7) (j := 6) (v := .ref (Ea E 29)) (hL.1 0 rfl) rfl (by decide) fl_X9_56 rfl dX9_node_6 rfl ?_
    refine sim_get (k := 29) (ci := 0) (j := 5) (v := .int (w.1 29 5)) (hL.1 29 rfl) rfl (by decide) fl_X9_177 rfl dX9_node_9 rfl ?_
    refine sim_icmp_lt 18 dX9_node_12 rfl rfl (fun _ => ?_) (fun _ => ?_)
    · refine sim_aload_n 0 dX9_node_18 rfl rfl ?_
      refine sim_get (k := 0) (ci := 7) (j := 6) (v := .ref (Ea E 29)) (hL.1 0 rfl) rfl (by decide) fl_X9_56 rfl dX9_node_19 rfl ?_
      refine sim_get (k := 29) (ci := 0) (j := 2) (v := .ref (Ea E 30)) (hL.1 29 rfl) rfl (by decide) fl_X9_271 rfl dX9_node_22 rfl ?_
      refine sim_iload_n 1 dX9_node_25 rfl rfl ?_
      refine sim_iaload (k := 30) (hL.1 30 rfl) rfl rfl dX9_node_26 rfl ?_
      refine sim_lt (fun x1 => ?_)
      refine sim_istore_n [(3, .int x1), (0, .ref (Ea E 0)), (1, .int v1), (2, .int v2)] dX9_node_27 (Nat.le_of_ble_eq_true rfl) rfl rfl ?_
      refine sim_iload_n 3 dX9_node_28 rfl rfl ?_
      refine sim_tab7 72 82 87 92 100 105 114 124 dX9_node_29 rfl rfl rfl rfl rfl rfl rfl rfl ?_ ?_ ?_ ?_ ?_ ?_ ?_ ?_
      · refine sim_aload_n 1 dX9_node_72 rfl rfl ?_
        refine sim_get (k := 0) (ci := 7) (j := 6) (v := .ref (Ea E 29)) (hL.1 0 rfl) rfl (by decide) fl_X9_56 rfl dX9_node_73 rfl ?_
        refine sim_get (k := 29) (ci := 0) (j := 3) (v := .ref (Ea E 31)) (hL.1 29 rfl) rfl (by decide) fl_X9_274 rfl dX9_node_76 rfl ?_
        refine sim_iload_n 2 dX9_node_79 rfl rfl ?_
        refine sim_iaload (k := 31) (hL.1 31 rfl) rfl rfl dX9_node_80 rfl ?_
        exact sim_iret rfl dX9_node_81
      · refine sim_iload_n 0 dX9_node_82 rfl rfl ?_
        refine sim_cSi [.int x1] [] (c_X3_fromOf x1 w) cb_X9_206 sx_X3_fromOf rfl rfl rfl (Nat.le_of_ble_eq_true rfl) dX9_node_83 rfl (fun x2 w3 => ?_)
        exact sim_iret rfl dX9_node_86
      · refine sim_iload_n 0 dX9_node_87 rfl rfl ?_
        refine sim_cSi [.int x1] [] (c_X3_toOf x1 w) cb_X9_211 sx_X3_toOf rfl rfl rfl (Nat.le_of_ble_eq_true rfl) dX9_node_88 rfl (fun x4 w5 => ?_)
        exact sim_iret rfl dX9_node_91
      · refine sim_iload_n 0 dX9_node_92 rfl rfl ?_
        refine sim_cSi [.int x1] [] (c_X3_raises x1 w) cb_X9_214 sx_X3_raises rfl rfl rfl (Nat.le_of_ble_eq_true rfl) dX9_node_93 rfl (fun x6 w7 => ?_)
        refine sim_cSi [.int x6] [] (c_X9_asNumber hL x6 w7) cb_X9_196 sx_X9_asNumber rfl rfl rfl (Nat.le_of_ble_eq_true rfl) dX9_node_96 rfl (fun x8 w9 => ?_)
        exact sim_iret rfl dX9_node_99
      · refine sim_iload_n 0 dX9_node_100 rfl rfl ?_
        refine sim_cSi [.int x1] [] (c_X3_setKindOf x1 w) cb_X9_277 sx_X3_setKindOf rfl rfl rfl (Nat.le_of_ble_eq_true rfl) dX9_node_101 rfl (fun x10 w11 => ?_)
        exact sim_iret rfl dX9_node_104
      · refine sim_aload_n 1 dX9_node_105 rfl rfl ?_
        refine sim_get (k := 0) (ci := 7) (j := 6) (v := .ref (Ea E 29)) (hL.1 0 rfl) rfl (by decide) fl_X9_56 rfl dX9_node_106 rfl ?_
        refine sim_iload_n 2 dX9_node_109 rfl rfl ?_
        refine sim_cVi (k := 29) (ci := 0) [.int v1] [] (c_X0_depthOf hL v1 w) (hL.1 29 rfl) rfl (by decide) rfl cb_X9_280 im_X0_depthOf se_X0_depthOf rfl rfl rfl (Nat.le_of_ble_eq_true rfl) dX9_node_110 rfl (fun x12 w13 => ?_)
        exact sim_iret rfl dX9_node_113
      · refine sim_aload_n 1 dX9_node_114 rfl rfl ?_
        refine sim_get (k := 0) (ci := 7) (j := 6) (v := .ref (Ea E 29)) (hL.1 0 rfl) rfl (by decide) fl_X9_56 rfl dX9_node_115 rfl ?_
        refine sim_get (k := 29) (ci := 0) (j := 4) (v := .ref (Ea E 32)) (hL.1 29 rfl) rfl (by decide) fl_X9_283 rfl dX9_node_118 rfl ?_
        refine sim_iload_n 2 dX9_node_121 rfl rfl ?_
        refine sim_iaload (k := 32) (hL.1 32 rfl) rfl rfl dX9_node_122 rfl ?_
        exact sim_iret rfl dX9_node_123
      · refine sim_bipush (-2 : Int32) dX9_node_124 rfl rfl ?_
        exact sim_iret rfl dX9_node_126
    · exact sim_sub [] rfl (sf_X9_node_15 hL w)
def f_X9_forge_23 (N : Nat) (w : Wd) : Option (Int32 × Wd) :=
  some ((-2 : Int32), w)
set_option maxRecDepth 20000 in
theorem sf_X9_forge_23 {E : Ev} (hL : LX E) (w : Wd) : Sim E m_X9_forge rI 23 [] [] w (f_X9_forge_23 (En E) w) := by
  unfold f_X9_forge_23
  refine sim_bipush (-2 : Int32) dX9_forge_23 rfl rfl ?_
  exact sim_iret rfl dX9_forge_25
def f_X9_forge_44 (N : Nat) (w : Wd) : Option (Int32 × Wd) :=
  some ((-2 : Int32), w)
set_option maxRecDepth 20000 in
theorem sf_X9_forge_44 {E : Ev} (hL : LX E) (w : Wd) : Sim E m_X9_forge rI 44 [] [] w (f_X9_forge_44 (En E) w) := by
  unfold f_X9_forge_44
  refine sim_bipush (-2 : Int32) dX9_forge_44 rfl rfl ?_
  exact sim_iret rfl dX9_forge_46
def f_X9_forge (N : Nat) (v1 : Int32) (v2 : Int32) (v3 : Int32) (v4 : Int32) (v5 : Int32) (w : Wd) : Option (Int32 × Wd) :=
  if v1 < (0 : Int32) then
  f_X9_forge_23 N w
  else
  if (w.1 29 5) ≤ v1 then
  f_X9_forge_23 N w
  else
  bd (f_X9_isField N v3 w) fun x1 w2 =>
  if x1 = (0 : Int32) then
  f_X9_forge_23 N w2
  else
  if v2 = (-1 : Int32) then
  if v4 = (0 : Int32) then
  bd (f_X9_isHandKind N v5 w2) fun x8 w9 =>
  if x8 = (0 : Int32) then
  f_X9_forge_44 N w9
  else
  bd (f_X3_setting v5 v3 w9) fun x10 w11 =>
  if inb v1 1000 = true then
  lw (wdI w11 30 (Int32.toNatClampNeg v1) x10) fun w12 =>
  some ((1 : Int32), w12)
  else none
  else
  f_X9_forge_44 N w2
  else
  bd (f_X9_isField N v2 w2) fun x3 w4 =>
  if x3 = (0 : Int32) then
  some ((-2 : Int32), w4)
  else
  bd (f_X3_going v2 v3 v4 w4) fun x5 w6 =>
  if inb v1 1000 = true then
  lw (wdI w6 30 (Int32.toNatClampNeg v1) x5) fun w7 =>
  some ((1 : Int32), w7)
  else none
set_option maxRecDepth 20000 in
theorem c_X9_forge {E : Ev} (hL : LX E) (v1 : Int32) (v2 : Int32) (v3 : Int32) (v4 : Int32) (v5 : Int32) (w : Wd) : Ct E m_X9_forge yX9_forge rI [.ref (Ea E 0), .int v1, .int v2, .int v3, .int v4, .int v5] w (f_X9_forge (En E) v1 v2 v3 v4 v5 w) := by
  refine Ct.of (by decide) ⟨rfl, rfl⟩ (Nat.le_of_ble_eq_true rfl) ?_
  show Sim E m_X9_forge rI 0 [(0, .ref (Ea E 0)), (1, .int v1), (2, .int v2), (3, .int v3), (4, .int v4), (5, .int v5)] [] w (f_X9_forge (En E) v1 v2 v3 v4 v5 w)
  unfold f_X9_forge
  refine sim_iload_n 1 dX9_forge_0 rfl rfl ?_
  refine sim_if_lt 23 dX9_forge_1 rfl rfl (fun _ => ?_) (fun _ => ?_)
  · exact sim_sub [] rfl (sf_X9_forge_23 hL w)
  · refine sim_iload_n 1 dX9_forge_4 rfl rfl ?_
    refine sim_aload_n 0 dX9_forge_5 rfl rfl ?_
    refine sim_get (k := 0) (ci := 7) (j := 6) (v := .ref (Ea E 29)) (hL.1 0 rfl) rfl (by decide) fl_X9_56 rfl dX9_forge_6 rfl ?_
    refine sim_get (k := 29) (ci := 0) (j := 5) (v := .int (w.1 29 5)) (hL.1 29 rfl) rfl (by decide) fl_X9_177 rfl dX9_forge_9 rfl ?_
    refine sim_icmp_ge 23 dX9_forge_12 rfl rfl (fun _ => ?_) (fun _ => ?_)
    · exact sim_sub [] rfl (sf_X9_forge_23 hL w)
    · refine sim_aload_n 0 dX9_forge_15 rfl rfl ?_
      refine sim_iload_n 3 dX9_forge_16 rfl rfl ?_
      refine sim_cVi (k := 0) (ci := 7) [.int v3] [] (c_X9_isField hL v3 w) (hL.1 0 rfl) rfl (by decide) rfl cb_X9_183 im_X9_isField se_X9_isField rfl rfl rfl (Nat.le_of_ble_eq_true rfl) dX9_forge_17 rfl (fun x1 w2 => ?_)
      refine sim_if_ne 26 dX9_forge_20 rfl rfl (fun _ => ?_) (fun _ => ?_)
      · refine sim_iload_n 2 dX9_forge_26 rfl rfl ?_
        refine sim_iconst (-1 : Int32) dX9_forge_27 rfl rfl ?_
        refine sim_icmp_ne 64 dX9_forge_28 rfl rfl (fun _ => ?_) (fun _ => ?_)
        · refine sim_aload_n 0 dX9_forge_64 rfl rfl ?_
          refine sim_iload_n 2 dX9_forge_65 rfl rfl ?_
          refine sim_cVi (k := 0) (ci := 7) [.int v2] [] (c_X9_isField hL v2 w2) (hL.1 0 rfl) rfl (by decide) rfl cb_X9_183 im_X9_isField se_X9_isField rfl rfl rfl (Nat.le_of_ble_eq_true rfl) dX9_forge_66 rfl (fun x3 w4 => ?_)
          refine sim_if_ne 75 dX9_forge_69 rfl rfl (fun _ => ?_) (fun _ => ?_)
          · refine sim_aload_n 0 dX9_forge_75 rfl rfl ?_
            refine sim_get (k := 0) (ci := 7) (j := 6) (v := .ref (Ea E 29)) (hL.1 0 rfl) rfl (by decide) fl_X9_56 rfl dX9_forge_76 rfl ?_
            refine sim_get (k := 29) (ci := 0) (j := 2) (v := .ref (Ea E 30)) (hL.1 29 rfl) rfl (by decide) fl_X9_271 rfl dX9_forge_79 rfl ?_
            refine sim_iload_n 1 dX9_forge_82 rfl rfl ?_
            refine sim_iload_n 2 dX9_forge_83 rfl rfl ?_
            refine sim_iload_n 3 dX9_forge_84 rfl rfl ?_
            refine sim_iload 4 dX9_forge_85 rfl rfl ?_
            refine sim_cSi [.int v2, .int v3, .int v4] [.int v1, .ref (Ea E 30)] (c_X3_going v2 v3 v4 w4) cb_X9_223 sx_X3_going rfl rfl rfl (Nat.le_of_ble_eq_true rfl) dX9_forge_87 rfl (fun x5 w6 => ?_)
            refine sim_iastore (k := 30) (hL.1 30 rfl) rfl rfl dX9_forge_90 rfl ?_
            refine sim_lw (fun w7 => ?_)
            refine sim_iconst (1 : Int32) dX9_forge_91 rfl rfl ?_
            exact sim_iret rfl dX9_forge_92
          · refine sim_bipush (-2 : Int32) dX9_forge_72 rfl rfl ?_
            exact sim_iret rfl dX9_forge_74
        · refine sim_iload 4 dX9_forge_31 rfl rfl ?_
          refine sim_if_ne 44 dX9_forge_33 rfl rfl (fun _ => ?_) (fun _ => ?_)
          · exact sim_sub [] rfl (sf_X9_forge_44 hL w2)
          · refine sim_iload 5 dX9_forge_36 rfl rfl ?_
            refine sim_cSi [.int v5] [] (c_X9_isHandKind hL v5 w2) cb_X9_148 sx_X9_isHandKind rfl rfl rfl (Nat.le_of_ble_eq_true rfl) dX9_forge_38 rfl (fun x8 w9 => ?_)
            refine sim_if_ne 47 dX9_forge_41 rfl rfl (fun _ => ?_) (fun _ => ?_)
            · refine sim_aload_n 0 dX9_forge_47 rfl rfl ?_
              refine sim_get (k := 0) (ci := 7) (j := 6) (v := .ref (Ea E 29)) (hL.1 0 rfl) rfl (by decide) fl_X9_56 rfl dX9_forge_48 rfl ?_
              refine sim_get (k := 29) (ci := 0) (j := 2) (v := .ref (Ea E 30)) (hL.1 29 rfl) rfl (by decide) fl_X9_271 rfl dX9_forge_51 rfl ?_
              refine sim_iload_n 1 dX9_forge_54 rfl rfl ?_
              refine sim_iload 5 dX9_forge_55 rfl rfl ?_
              refine sim_iload_n 3 dX9_forge_57 rfl rfl ?_
              refine sim_cSi [.int v5, .int v3] [.int v1, .ref (Ea E 30)] (c_X3_setting v5 v3 w9) cb_X9_230 sx_X3_setting rfl rfl rfl (Nat.le_of_ble_eq_true rfl) dX9_forge_58 rfl (fun x10 w11 => ?_)
              refine sim_iastore (k := 30) (hL.1 30 rfl) rfl rfl dX9_forge_61 rfl ?_
              refine sim_lw (fun w12 => ?_)
              refine sim_iconst (1 : Int32) dX9_forge_62 rfl rfl ?_
              exact sim_iret rfl dX9_forge_63
            · exact sim_sub [] rfl (sf_X9_forge_44 hL w9)
      · exact sim_sub [] rfl (sf_X9_forge_23 hL w2)
def f_X9_verify_17 (N : Nat) (w : Wd) : Option (Int32 × Wd) :=
  some ((-3 : Int32), w)
set_option maxRecDepth 20000 in
theorem sf_X9_verify_17 {E : Ev} (hL : LX E) (w : Wd) : Sim E m_X9_verify rI 17 [] [] w (f_X9_verify_17 (En E) w) := by
  unfold f_X9_verify_17
  refine sim_bipush (-3 : Int32) dX9_verify_17 rfl rfl ?_
  exact sim_iret rfl dX9_verify_19
def f_X9_verify (N : Nat) (w : Wd) : Option (Int32 × Wd) :=
  if (w.1 0 10) = (0 : Int32) then
  f_X9_verify_17 N w
  else
  if (w.1 29 5) = (0 : Int32) then
  f_X9_verify_17 N w
  else
  bd (f_X0_firstFaultR N (0 : Int32) (2 : Int32) w) fun x1 w2 =>
  some (x1, w2)
set_option maxRecDepth 20000 in
theorem c_X9_verify {E : Ev} (hL : LX E) (w : Wd) : Ct E m_X9_verify yX9_verify rI [.ref (Ea E 0)] w (f_X9_verify (En E) w) := by
  refine Ct.of (by decide) ⟨rfl, rfl⟩ (Nat.le_of_ble_eq_true rfl) ?_
  show Sim E m_X9_verify rI 0 [(0, .ref (Ea E 0))] [] w (f_X9_verify (En E) w)
  unfold f_X9_verify
  refine sim_aload_n 0 dX9_verify_0 rfl rfl ?_
  refine sim_get (k := 0) (ci := 7) (j := 10) (v := .int (w.1 0 10)) (hL.1 0 rfl) rfl (by decide) fl_X9_86 rfl dX9_verify_1 rfl ?_
  refine sim_if_eq 17 dX9_verify_4 rfl rfl (fun _ => ?_) (fun _ => ?_)
  · exact sim_sub [] rfl (sf_X9_verify_17 hL w)
  · refine sim_aload_n 0 dX9_verify_7 rfl rfl ?_
    refine sim_get (k := 0) (ci := 7) (j := 6) (v := .ref (Ea E 29)) (hL.1 0 rfl) rfl (by decide) fl_X9_56 rfl dX9_verify_8 rfl ?_
    refine sim_get (k := 29) (ci := 0) (j := 5) (v := .int (w.1 29 5)) (hL.1 29 rfl) rfl (by decide) fl_X9_177 rfl dX9_verify_11 rfl ?_
    refine sim_if_ne 20 dX9_verify_14 rfl rfl (fun _ => ?_) (fun _ => ?_)
    · refine sim_aload_n 0 dX9_verify_20 rfl rfl ?_
      refine sim_get (k := 0) (ci := 7) (j := 6) (v := .ref (Ea E 29)) (hL.1 0 rfl) rfl (by decide) fl_X9_56 rfl dX9_verify_21 rfl ?_
      refine sim_iconst (0 : Int32) dX9_verify_24 rfl rfl ?_
      refine sim_iconst (2 : Int32) dX9_verify_25 rfl rfl ?_
      refine sim_cVNi (k := 29) (ci := 0) [.int (0 : Int32), .int (2 : Int32)] [] (c_X0_firstFaultR hL (0 : Int32) (2 : Int32) w) (hL.1 29 rfl) rfl (by decide) rfl (cn_X9_286 _) im_X0_firstFault se_X0_firstFault rfl rfl rfl (Nat.le_of_ble_eq_true rfl) dX9_verify_26 rfl (fun x1 w2 => ?_)
      exact sim_iret rfl dX9_verify_29
    · exact sim_sub [] rfl (sf_X9_verify_17 hL w)
def f_X9_write (N : Nat) (w : Wd) : Option (Int32 × Wd) :=
  if (w.1 0 10) = (0 : Int32) then
  some ((-3 : Int32), w)
  else
  bd (f_X7_setDown N (w.2.2.1) w) fun _ w1 =>
  some ((w1.1 33 2), w1)
set_option maxRecDepth 20000 in
theorem c_X9_write {E : Ev} (hL : LX E) (w : Wd) : Ct E m_X9_write yX9_write rI [.ref (Ea E 0)] w (f_X9_write (En E) w) := by
  refine Ct.of (by decide) ⟨rfl, rfl⟩ (Nat.le_of_ble_eq_true rfl) ?_
  show Sim E m_X9_write rI 0 [(0, .ref (Ea E 0))] [] w (f_X9_write (En E) w)
  unfold f_X9_write
  refine sim_aload_n 0 dX9_write_0 rfl rfl ?_
  refine sim_get (k := 0) (ci := 7) (j := 10) (v := .int (w.1 0 10)) (hL.1 0 rfl) rfl (by decide) fl_X9_86 rfl dX9_write_1 rfl ?_
  refine sim_if_ne 10 dX9_write_4 rfl rfl (fun _ => ?_) (fun _ => ?_)
  · refine sim_aload_n 0 dX9_write_10 rfl rfl ?_
    refine sim_get (k := 0) (ci := 7) (j := 7) (v := .ref (Ea E 33)) (hL.1 0 rfl) rfl (by decide) fl_X9_63 rfl dX9_write_11 rfl ?_
    refine sim_aload_n 0 dX9_write_14 rfl rfl ?_
    refine sim_get (k := 0) (ci := 7) (j := 8) (v := .ref (Ea E (w.2.2.1))) (hL.1 0 rfl) rfl (by decide) fl_X9_72 rfl dX9_write_15 rfl ?_
    refine sim_cVv (k := 33) (ci := 5) [.ref (Ea E (w.2.2.1))] [] (c_X7_setDown hL (w.2.2.1) w) (hL.1 33 rfl) rfl (by decide) rfl cb_X9_289 im_X7_setDown se_X7_setDown rfl rfl rfl (Nat.le_of_ble_eq_true rfl) dX9_write_18 rfl (fun _ w1 => ?_)
    refine sim_aload_n 0 dX9_write_21 rfl rfl ?_
    refine sim_get (k := 0) (ci := 7) (j := 7) (v := .ref (Ea E 33)) (hL.1 0 rfl) rfl (by decide) fl_X9_63 rfl dX9_write_22 rfl ?_
    refine sim_get (k := 33) (ci := 5) (j := 2) (v := .int (w1.1 33 2)) (hL.1 33 rfl) rfl (by decide) fl_X9_293 rfl dX9_write_25 rfl ?_
    exact sim_iret rfl dX9_write_28
  · refine sim_bipush (-3 : Int32) dX9_write_7 rfl rfl ?_
    exact sim_iret rfl dX9_write_9
def f_X9_type_11 (N : Nat) (w : Wd) : Option (Int32 × Wd) :=
  some ((-2 : Int32), w)
set_option maxRecDepth 20000 in
theorem sf_X9_type_11 {E : Ev} (hL : LX E) (w : Wd) : Sim E m_X9_type rI 11 [] [] w (f_X9_type_11 (En E) w) := by
  unfold f_X9_type_11
  refine sim_bipush (-2 : Int32) dX9_type_11 rfl rfl ?_
  exact sim_iret rfl dX9_type_13
def f_X9_type (N : Nat) (v1 : Int32) (w : Wd) : Option (Int32 × Wd) :=
  if v1 < (0 : Int32) then
  f_X9_type_11 N w
  else
  if v1 ≤ (255 : Int32) then
  if (w.1 33 2) < (2000 : Int32) then
  bd (f_X7_add N v1 w) fun _ w1 =>
  some ((w1.1 33 2), w1)
  else
  some ((-4 : Int32), w)
  else
  f_X9_type_11 N w
set_option maxRecDepth 20000 in
theorem c_X9_type {E : Ev} (hL : LX E) (v1 : Int32) (w : Wd) : Ct E m_X9_type yX9_type rI [.ref (Ea E 0), .int v1] w (f_X9_type (En E) v1 w) := by
  refine Ct.of (by decide) ⟨rfl, rfl⟩ (Nat.le_of_ble_eq_true rfl) ?_
  show Sim E m_X9_type rI 0 [(0, .ref (Ea E 0)), (1, .int v1)] [] w (f_X9_type (En E) v1 w)
  unfold f_X9_type
  refine sim_iload_n 1 dX9_type_0 rfl rfl ?_
  refine sim_if_lt 11 dX9_type_1 rfl rfl (fun _ => ?_) (fun _ => ?_)
  · exact sim_sub [] rfl (sf_X9_type_11 hL w)
  · refine sim_iload_n 1 dX9_type_4 rfl rfl ?_
    refine sim_sipush (255 : Int32) dX9_type_5 rfl rfl ?_
    refine sim_icmp_le 14 dX9_type_8 rfl rfl (fun _ => ?_) (fun _ => ?_)
    · refine sim_aload_n 0 dX9_type_14 rfl rfl ?_
      refine sim_get (k := 0) (ci := 7) (j := 7) (v := .ref (Ea E 33)) (hL.1 0 rfl) rfl (by decide) fl_X9_63 rfl dX9_type_15 rfl ?_
      refine sim_get (k := 33) (ci := 5) (j := 2) (v := .int (w.1 33 2)) (hL.1 33 rfl) rfl (by decide) fl_X9_293 rfl dX9_type_18 rfl ?_
      refine sim_sipush (2000 : Int32) dX9_type_21 rfl rfl ?_
      refine sim_icmp_lt 30 dX9_type_24 rfl rfl (fun _ => ?_) (fun _ => ?_)
      · refine sim_aload_n 0 dX9_type_30 rfl rfl ?_
        refine sim_get (k := 0) (ci := 7) (j := 7) (v := .ref (Ea E 33)) (hL.1 0 rfl) rfl (by decide) fl_X9_63 rfl dX9_type_31 rfl ?_
        refine sim_iload_n 1 dX9_type_34 rfl rfl ?_
        refine sim_cVv (k := 33) (ci := 5) [.int v1] [] (c_X7_add hL v1 w) (hL.1 33 rfl) rfl (by decide) rfl cb_X9_294 im_X7_add se_X7_add rfl rfl rfl (Nat.le_of_ble_eq_true rfl) dX9_type_35 rfl (fun _ w1 => ?_)
        refine sim_aload_n 0 dX9_type_38 rfl rfl ?_
        refine sim_get (k := 0) (ci := 7) (j := 7) (v := .ref (Ea E 33)) (hL.1 0 rfl) rfl (by decide) fl_X9_63 rfl dX9_type_39 rfl ?_
        refine sim_get (k := 33) (ci := 5) (j := 2) (v := .int (w1.1 33 2)) (hL.1 33 rfl) rfl (by decide) fl_X9_293 rfl dX9_type_42 rfl ?_
        exact sim_iret rfl dX9_type_45
      · refine sim_bipush (-4 : Int32) dX9_type_27 rfl rfl ?_
        exact sim_iret rfl dX9_type_29
    · exact sim_sub [] rfl (sf_X9_type_11 hL w)
def f_X9_wipe (N : Nat) (w : Wd) : Option (Int32 × Wd) :=
  lt (w.1 33 2) fun x1 =>
  lw (wdI w 33 2 (0 : Int32)) fun w2 =>
  some (x1, w2)
set_option maxRecDepth 20000 in
theorem c_X9_wipe {E : Ev} (hL : LX E) (w : Wd) : Ct E m_X9_wipe yX9_wipe rI [.ref (Ea E 0)] w (f_X9_wipe (En E) w) := by
  refine Ct.of (by decide) ⟨rfl, rfl⟩ (Nat.le_of_ble_eq_true rfl) ?_
  show Sim E m_X9_wipe rI 0 [(0, .ref (Ea E 0))] [] w (f_X9_wipe (En E) w)
  unfold f_X9_wipe
  refine sim_aload_n 0 dX9_wipe_0 rfl rfl ?_
  refine sim_get (k := 0) (ci := 7) (j := 7) (v := .ref (Ea E 33)) (hL.1 0 rfl) rfl (by decide) fl_X9_63 rfl dX9_wipe_1 rfl ?_
  refine sim_get (k := 33) (ci := 5) (j := 2) (v := .int (w.1 33 2)) (hL.1 33 rfl) rfl (by decide) fl_X9_293 rfl dX9_wipe_4 rfl ?_
  refine sim_lt (fun x1 => ?_)
  refine sim_istore_n [(1, .int x1), (0, .ref (Ea E 0))] dX9_wipe_7 (Nat.le_of_ble_eq_true rfl) rfl rfl ?_
  refine sim_aload_n 1 dX9_wipe_8 rfl rfl ?_
  refine sim_get (k := 0) (ci := 7) (j := 7) (v := .ref (Ea E 33)) (hL.1 0 rfl) rfl (by decide) fl_X9_63 rfl dX9_wipe_9 rfl ?_
  refine sim_iconst (0 : Int32) dX9_wipe_12 rfl rfl ?_
  refine sim_put (k := 33) (ci := 5) (j := 2) (hL.1 33 rfl) rfl (by decide) fp_X9_293 rfl rfl (st_33_2 _ _ _) (Nat.le_of_ble_eq_true rfl) dX9_wipe_13 rfl ?_
  refine sim_lw (fun w2 => ?_)
  refine sim_iload_n 0 dX9_wipe_16 rfl rfl ?_
  exact sim_iret rfl dX9_wipe_17
def f_X9_letter_28 (N : Nat) (s0 : Int32) (w : Wd) : Option (Int32 × Wd) :=
  some (s0, w)
set_option maxRecDepth 20000 in
theorem sf_X9_letter_28 {E : Ev} (hL : LX E) (s0 : Int32) (w : Wd) : Sim E m_X9_letter rI 28 [] [.int s0] w (f_X9_letter_28 (En E) s0 w) := by
  unfold f_X9_letter_28
  exact sim_iret rfl dX9_letter_28
def f_X9_letter_15 (N : Nat) (w : Wd) : Option (Int32 × Wd) :=
  f_X9_letter_28 N (-1 : Int32) w
set_option maxRecDepth 20000 in
theorem sf_X9_letter_15 {E : Ev} (hL : LX E) (w : Wd) : Sim E m_X9_letter rI 15 [] [] w (f_X9_letter_15 (En E) w) := by
  unfold f_X9_letter_15
  refine sim_iconst (-1 : Int32) dX9_letter_15 rfl rfl ?_
  refine sim_goto (q := 28) dX9_letter_16 rfl ?_
  exact sim_sub [] rfl (sf_X9_letter_28 hL (-1 : Int32) w)
def f_X9_letter (N : Nat) (v1 : Int32) (w : Wd) : Option (Int32 × Wd) :=
  if v1 < (0 : Int32) then
  f_X9_letter_15 N w
  else
  if v1 < (w.1 33 2) then
  if inb v1 2000 = true then
  f_X9_letter_28 N (w.1 34 (Int32.toNatClampNeg v1)) w
  else none
  else
  f_X9_letter_15 N w
set_option maxRecDepth 20000 in
theorem c_X9_letter {E : Ev} (hL : LX E) (v1 : Int32) (w : Wd) : Ct E m_X9_letter yX9_letter rI [.ref (Ea E 0), .int v1] w (f_X9_letter (En E) v1 w) := by
  refine Ct.of (by decide) ⟨rfl, rfl⟩ (Nat.le_of_ble_eq_true rfl) ?_
  show Sim E m_X9_letter rI 0 [(0, .ref (Ea E 0)), (1, .int v1)] [] w (f_X9_letter (En E) v1 w)
  unfold f_X9_letter
  refine sim_iload_n 1 dX9_letter_0 rfl rfl ?_
  refine sim_if_lt 15 dX9_letter_1 rfl rfl (fun _ => ?_) (fun _ => ?_)
  · exact sim_sub [] rfl (sf_X9_letter_15 hL w)
  · refine sim_iload_n 1 dX9_letter_4 rfl rfl ?_
    refine sim_aload_n 0 dX9_letter_5 rfl rfl ?_
    refine sim_get (k := 0) (ci := 7) (j := 7) (v := .ref (Ea E 33)) (hL.1 0 rfl) rfl (by decide) fl_X9_63 rfl dX9_letter_6 rfl ?_
    refine sim_get (k := 33) (ci := 5) (j := 2) (v := .int (w.1 33 2)) (hL.1 33 rfl) rfl (by decide) fl_X9_293 rfl dX9_letter_9 rfl ?_
    refine sim_icmp_lt 19 dX9_letter_12 rfl rfl (fun _ => ?_) (fun _ => ?_)
    · refine sim_aload_n 0 dX9_letter_19 rfl rfl ?_
      refine sim_get (k := 0) (ci := 7) (j := 7) (v := .ref (Ea E 33)) (hL.1 0 rfl) rfl (by decide) fl_X9_63 rfl dX9_letter_20 rfl ?_
      refine sim_get (k := 33) (ci := 5) (j := 1) (v := .ref (Ea E 34)) (hL.1 33 rfl) rfl (by decide) fl_X9_297 rfl dX9_letter_23 rfl ?_
      refine sim_iload_n 1 dX9_letter_26 rfl rfl ?_
      refine sim_iaload (k := 34) (hL.1 34 rfl) rfl rfl dX9_letter_27 rfl ?_
      exact sim_sub [] rfl (sf_X9_letter_28 hL (w.1 34 (Int32.toNatClampNeg v1)) w)
    · exact sim_sub [] rfl (sf_X9_letter_15 hL w)
def f_X9_doText_100 (N : Nat) (R : Int32 → Int32 → Wd → Option (Int32 × Wd)) (K79 : Int32 → Wd → Option (Int32 × Wd)) (K106 : Wd → Option (Int32 × Wd)) (v1 : Int32) (v2 : Int32) (w : Wd) : Option (Int32 × Wd) :=
  R v1 (v2 + (1 : Int32)) w
set_option maxRecDepth 20000 in
theorem sf_X9_doText_100 {E : Ev} (hL : LX E) {R : Int32 → Int32 → Wd → Option (Int32 × Wd)} (hR : ∀ (v1 : Int32) (v2 : Int32) (w : Wd), Sim E m_X9_doText rI 4 [(0, .ref (Ea E 0)), (1, .int v1), (2, .int v2)] [] w (R v1 v2 w)) {K79 : Int32 → Wd → Option (Int32 × Wd)} (hK79 : ∀ (v1 : Int32) (w : Wd), Sim E m_X9_doText rI 79 [(1, .int v1)] [] w (K79 v1 w)) {K106 : Wd → Option (Int32 × Wd)} (hK106 : ∀ (w : Wd), Sim E m_X9_doText rI 106 [] [] w (K106  w)) (v1 : Int32) (v2 : Int32) (w : Wd) : Sim E m_X9_doText rI 100 [(0, .ref (Ea E 0)), (1, .int v1), (2, .int v2)] [] w (f_X9_doText_100 (En E) R K79 K106 v1 v2 w) := by
  unfold f_X9_doText_100
  refine sim_iinc (v2 + (1 : Int32)) 2 [(2, .int (v2 + (1 : Int32))), (0, .ref (Ea E 0)), (1, .int v1)] dX9_doText_100 rfl rfl (Nat.le_of_ble_eq_true rfl) rfl rfl ?_
  refine sim_goto (q := 4) dX9_doText_103 rfl ?_
  exact sim_sub [1, 2, 0] rfl (hR v1 (v2 + (1 : Int32)) w)
def f_X9_doText_43 (N : Nat) (R : Int32 → Int32 → Wd → Option (Int32 × Wd)) (K79 : Int32 → Wd → Option (Int32 × Wd)) (K106 : Wd → Option (Int32 × Wd)) (v1 : Int32) (v2 : Int32) (w : Wd) : Option (Int32 × Wd) :=
  bd (f_X7_moveBetween N v1 v2 w) fun x1 w2 =>
  if x1 = (-1 : Int32) then
  K79 v1 w2
  else
  if okP w2.2.2.2 = true then
  bd (f_X4_isOpen N w2.2.2.2 w2) fun x3 w4 =>
  if x3 = (0 : Int32) then
  K79 v1 w4
  else
  bd (f_X5_faultOf N x1 w4) fun x6 w7 =>
  if x6 = (0 : Int32) then
  bd (f_X6_withTaken N x1 w7) fun x8 w9 =>
  if okP w7.2.2.2 = true then
  bd (f_X4_advance N w7.2.2.2 x8 w9) fun _ w10 =>
  lt (v2 + (1 : Int32)) fun x12 =>
  f_X9_doText_100 N R K79 K106 x12 v2 w10
  else none
  else
  K79 v1 w7
  else none
set_option maxRecDepth 20000 in
theorem sf_X9_doText_43 {E : Ev} (hL : LX E) {R : Int32 → Int32 → Wd → Option (Int32 × Wd)} (hR : ∀ (v1 : Int32) (v2 : Int32) (w : Wd), Sim E m_X9_doText rI 4 [(0, .ref (Ea E 0)), (1, .int v1), (2, .int v2)] [] w (R v1 v2 w)) {K79 : Int32 → Wd → Option (Int32 × Wd)} (hK79 : ∀ (v1 : Int32) (w : Wd), Sim E m_X9_doText rI 79 [(1, .int v1)] [] w (K79 v1 w)) {K106 : Wd → Option (Int32 × Wd)} (hK106 : ∀ (w : Wd), Sim E m_X9_doText rI 106 [] [] w (K106  w)) (v1 : Int32) (v2 : Int32) (w : Wd) : Sim E m_X9_doText rI 43 [(0, .ref (Ea E 0)), (1, .int v1), (2, .int v2)] [] w (f_X9_doText_43 (En E) R K79 K106 v1 v2 w) := by
  unfold f_X9_doText_43
  refine sim_aload_n 0 dX9_doText_43 rfl rfl ?_
  refine sim_get (k := 0) (ci := 7) (j := 7) (v := .ref (Ea E 33)) (hL.1 0 rfl) rfl (by decide) fl_X9_63 rfl dX9_doText_44 rfl ?_
  refine sim_iload_n 1 dX9_doText_47 rfl rfl ?_
  refine sim_iload_n 2 dX9_doText_48 rfl rfl ?_
  refine sim_cVi (k := 33) (ci := 5) [.int v1, .int v2] [] (c_X7_moveBetween hL v1 v2 w) (hL.1 33 rfl) rfl (by decide) rfl cb_X9_325 im_X7_moveBetween se_X7_moveBetween rfl rfl rfl (Nat.le_of_ble_eq_true rfl) dX9_doText_49 rfl (fun x1 w2 => ?_)
  refine sim_istore_n [(3, .int x1), (0, .ref (Ea E 0)), (1, .int v1), (2, .int v2)] dX9_doText_52 (Nat.le_of_ble_eq_true rfl) rfl rfl ?_
  refine sim_iload_n 0 dX9_doText_53 rfl rfl ?_
  refine sim_iconst (-1 : Int32) dX9_doText_54 rfl rfl ?_
  refine sim_icmp_eq 79 dX9_doText_55 rfl rfl (fun _ => ?_) (fun _ => ?_)
  · exact sim_sub [2] rfl (hK79 v1 w2)
  · refine sim_aload_n 1 dX9_doText_58 rfl rfl ?_
    refine sim_get (k := 0) (ci := 7) (j := 9) (v := .ref (Ea E (w2.2.2.2))) (hL.1 0 rfl) rfl (by decide) fl_X9_76 rfl dX9_doText_59 rfl ?_
    refine sim_guard (fun hp5 => ?_)
    refine sim_cVi (k := w2.2.2.2) (ci := 2) [] [] (c_X4_isOpen hL hp5 w2) (okP_in hp5 hL).1 (okP_kd hp5).1 (by decide) rfl cb_X9_328 im_X4_isOpen se_X4_isOpen rfl rfl rfl (Nat.le_of_ble_eq_true rfl) dX9_doText_62 rfl (fun x3 w4 => ?_)
    refine sim_if_eq 79 dX9_doText_65 rfl rfl (fun _ => ?_) (fun _ => ?_)
    · exact sim_sub [2] rfl (hK79 v1 w4)
    · refine sim_aload_n 1 dX9_doText_68 rfl rfl ?_
      refine sim_get (k := 0) (ci := 7) (j := 5) (v := .ref (Ea E 27)) (hL.1 0 rfl) rfl (by decide) fl_X9_47 rfl dX9_doText_69 rfl ?_
      refine sim_iload_n 0 dX9_doText_72 rfl rfl ?_
      refine sim_cVi (k := 27) (ci := 3) [.int x1] [] (c_X5_faultOf hL x1 w4) (hL.1 27 rfl) rfl (by decide) rfl cb_X9_227 im_X5_faultOf se_X5_faultOf rfl rfl rfl (Nat.le_of_ble_eq_true rfl) dX9_doText_73 rfl (fun x6 w7 => ?_)
      refine sim_if_eq 81 dX9_doText_76 rfl rfl (fun _ => ?_) (fun _ => ?_)
      · refine sim_aload_n 1 dX9_doText_81 rfl rfl ?_
        refine sim_get (k := 0) (ci := 7) (j := 9) (v := .ref (Ea E (w7.2.2.2))) (hL.1 0 rfl) rfl (by decide) fl_X9_76 rfl dX9_doText_82 rfl ?_
        refine sim_aload_n 1 dX9_doText_85 rfl rfl ?_
        refine sim_get (k := 0) (ci := 7) (j := 4) (v := .ref (Ea E 22)) (hL.1 0 rfl) rfl (by decide) fl_X9_38 rfl dX9_doText_86 rfl ?_
        refine sim_iload_n 0 dX9_doText_89 rfl rfl ?_
        refine sim_cVi (k := 22) (ci := 4) [.int x1] [.ref (Ea E (w7.2.2.2))] (c_X6_withTaken hL x1 w7) (hL.1 22 rfl) rfl (by decide) rfl cb_X9_331 im_X6_withTaken se_X6_withTaken rfl rfl rfl (Nat.le_of_ble_eq_true rfl) dX9_doText_90 rfl (fun x8 w9 => ?_)
        refine sim_guard (fun hp11 => ?_)
        refine sim_cVv (k := w7.2.2.2) (ci := 2) [.int x8] [] (c_X4_advance hL hp11 x8 w9) (okP_in hp11 hL).1 (okP_kd hp11).1 (by decide) rfl cb_X9_240 im_X4_advance se_X4_advance rfl rfl rfl (Nat.le_of_ble_eq_true rfl) dX9_doText_93 rfl (fun _ w10 => ?_)
        refine sim_iload_n 3 dX9_doText_96 rfl rfl ?_
        refine sim_iconst (1 : Int32) dX9_doText_97 rfl rfl ?_
        refine sim_iadd dX9_doText_98 rfl ?_
        refine sim_lt (fun x12 => ?_)
        refine sim_istore_n [(1, .int x12), (3, .int x1), (0, .ref (Ea E 0)), (2, .int v2)] dX9_doText_99 (Nat.le_of_ble_eq_true rfl) rfl rfl ?_
        exact sim_sub [2, 0, 3] rfl (sf_X9_doText_100 hL hR hK79 hK106 x12 v2 w10)
      · exact sim_sub [2] rfl (hK79 v1 w7)
def b_X9_doText_4 (N : Nat) (R : Int32 → Int32 → Wd → Option (Int32 × Wd)) (K79 : Int32 → Wd → Option (Int32 × Wd)) (K106 : Wd → Option (Int32 × Wd)) (v1 : Int32) (v2 : Int32) (w : Wd) : Option (Int32 × Wd) :=
  if (w.1 33 2) < v2 then
  K106 w
  else
  if (w.1 33 2) ≤ v2 then
  f_X9_doText_43 N R K79 K106 v1 v2 w
  else
  if inb v2 2000 = true then
  if (w.1 34 (Int32.toNatClampNeg v2)) = (32 : Int32) then
  f_X9_doText_43 N R K79 K106 v1 v2 w
  else
  f_X9_doText_100 N R K79 K106 v1 v2 w
  else none
set_option maxRecDepth 20000 in
theorem sb_X9_doText_4 {E : Ev} (hL : LX E) {R : Int32 → Int32 → Wd → Option (Int32 × Wd)} (hR : ∀ (v1 : Int32) (v2 : Int32) (w : Wd), Sim E m_X9_doText rI 4 [(0, .ref (Ea E 0)), (1, .int v1), (2, .int v2)] [] w (R v1 v2 w)) {K79 : Int32 → Wd → Option (Int32 × Wd)} (hK79 : ∀ (v1 : Int32) (w : Wd), Sim E m_X9_doText rI 79 [(1, .int v1)] [] w (K79 v1 w)) {K106 : Wd → Option (Int32 × Wd)} (hK106 : ∀ (w : Wd), Sim E m_X9_doText rI 106 [] [] w (K106  w)) (v1 : Int32) (v2 : Int32) (w : Wd) : Sim E m_X9_doText rI 4 [(0, .ref (Ea E 0)), (1, .int v1), (2, .int v2)] [] w (b_X9_doText_4 (En E) R K79 K106 v1 v2 w) := by
  unfold b_X9_doText_4
  refine sim_iload_n 2 dX9_doText_4 rfl rfl ?_
  refine sim_aload_n 0 dX9_doText_5 rfl rfl ?_
  refine sim_get (k := 0) (ci := 7) (j := 7) (v := .ref (Ea E 33)) (hL.1 0 rfl) rfl (by decide) fl_X9_63 rfl dX9_doText_6 rfl ?_
  refine sim_get (k := 33) (ci := 5) (j := 2) (v := .int (w.1 33 2)) (hL.1 33 rfl) rfl (by decide) fl_X9_293 rfl dX9_doText_9 rfl ?_
  refine sim_icmp_gt 106 dX9_doText_12 rfl rfl (fun _ => ?_) (fun _ => ?_)
  · exact sim_sub [] rfl (hK106 w)
  · refine sim_iload_n 2 dX9_doText_15 rfl rfl ?_
    refine sim_aload_n 0 dX9_doText_16 rfl rfl ?_
    refine sim_get (k := 0) (ci := 7) (j := 7) (v := .ref (Ea E 33)) (hL.1 0 rfl) rfl (by decide) fl_X9_63 rfl dX9_doText_17 rfl ?_
    refine sim_get (k := 33) (ci := 5) (j := 2) (v := .int (w.1 33 2)) (hL.1 33 rfl) rfl (by decide) fl_X9_293 rfl dX9_doText_20 rfl ?_
    refine sim_icmp_ge 43 dX9_doText_23 rfl rfl (fun _ => ?_) (fun _ => ?_)
    · exact sim_sub [0, 1, 2] rfl (sf_X9_doText_43 hL hR hK79 hK106 v1 v2 w)
    · refine sim_aload_n 0 dX9_doText_26 rfl rfl ?_
      refine sim_get (k := 0) (ci := 7) (j := 7) (v := .ref (Ea E 33)) (hL.1 0 rfl) rfl (by decide) fl_X9_63 rfl dX9_doText_27 rfl ?_
      refine sim_get (k := 33) (ci := 5) (j := 1) (v := .ref (Ea E 34)) (hL.1 33 rfl) rfl (by decide) fl_X9_297 rfl dX9_doText_30 rfl ?_
      refine sim_iload_n 2 dX9_doText_33 rfl rfl ?_
      refine sim_iaload (k := 34) (hL.1 34 rfl) rfl rfl dX9_doText_34 rfl ?_
      refine sim_bipush (32 : Int32) dX9_doText_35 rfl rfl ?_
      refine sim_icmp_eq 43 dX9_doText_37 rfl rfl (fun _ => ?_) (fun _ => ?_)
      · exact sim_sub [0, 1, 2] rfl (sf_X9_doText_43 hL hR hK79 hK106 v1 v2 w)
      · refine sim_goto (q := 100) dX9_doText_40 rfl ?_
        exact sim_sub [0, 1, 2] rfl (sf_X9_doText_100 hL hR hK79 hK106 v1 v2 w)
def l_X9_doText_4 (N : Nat) (K79 : Int32 → Wd → Option (Int32 × Wd)) (K106 : Wd → Option (Int32 × Wd)) (n : Nat) : Int32 → Int32 → Wd → Option (Int32 × Wd) := itr (fun _ _ _ => none) (fun R => b_X9_doText_4 N R K79 K106) n
set_option maxRecDepth 20000 in
theorem sl_X9_doText_4 {E : Ev} (hL : LX E) {K79 : Int32 → Wd → Option (Int32 × Wd)} (hK79 : ∀ (v1 : Int32) (w : Wd), Sim E m_X9_doText rI 79 [(1, .int v1)] [] w (K79 v1 w)) {K106 : Wd → Option (Int32 × Wd)} (hK106 : ∀ (w : Wd), Sim E m_X9_doText rI 106 [] [] w (K106  w)) : ∀ (n : Nat) (v1 : Int32) (v2 : Int32) (w : Wd), Sim E m_X9_doText rI 4 [(0, .ref (Ea E 0)), (1, .int v1), (2, .int v2)] [] w (l_X9_doText_4 (En E) K79 K106 n v1 v2 w) := by
  intro n
  induction n with
  | zero => intros; exact sim_none
  | succ n ih => intros; exact sb_X9_doText_4 hL (R := l_X9_doText_4 (En E) K79 K106 n) ih hK79 hK106 _ _ _
def f_X9_doText_79 (N : Nat) (v1 : Int32) (w : Wd) : Option (Int32 × Wd) :=
  some (v1, w)
set_option maxRecDepth 20000 in
theorem sf_X9_doText_79 {E : Ev} (hL : LX E) (v1 : Int32) (w : Wd) : Sim E m_X9_doText rI 79 [(1, .int v1)] [] w (f_X9_doText_79 (En E) v1 w) := by
  unfold f_X9_doText_79
  refine sim_iload_n 0 dX9_doText_79 rfl rfl ?_
  exact sim_iret rfl dX9_doText_80
def f_X9_doText_106 (N : Nat) (w : Wd) : Option (Int32 × Wd) :=
  some ((-1 : Int32), w)
set_option maxRecDepth 20000 in
theorem sf_X9_doText_106 {E : Ev} (hL : LX E) (w : Wd) : Sim E m_X9_doText rI 106 [] [] w (f_X9_doText_106 (En E) w) := by
  unfold f_X9_doText_106
  refine sim_iconst (-1 : Int32) dX9_doText_106 rfl rfl ?_
  exact sim_iret rfl dX9_doText_107
def f_X9_doText (N : Nat) (w : Wd) : Option (Int32 × Wd) :=
  l_X9_doText_4 N (f_X9_doText_79 N) (f_X9_doText_106 N) FU (0 : Int32) (0 : Int32) w
set_option maxRecDepth 20000 in
theorem c_X9_doText {E : Ev} (hL : LX E) (w : Wd) : Ct E m_X9_doText yX9_doText rI [.ref (Ea E 0)] w (f_X9_doText (En E) w) := by
  refine Ct.of (by decide) ⟨rfl, rfl⟩ (Nat.le_of_ble_eq_true rfl) ?_
  show Sim E m_X9_doText rI 0 [(0, .ref (Ea E 0))] [] w (f_X9_doText (En E) w)
  unfold f_X9_doText
  refine sim_iconst (0 : Int32) dX9_doText_0 rfl rfl ?_
  refine sim_istore_n [(1, .int (0 : Int32)), (0, .ref (Ea E 0))] dX9_doText_1 (Nat.le_of_ble_eq_true rfl) rfl rfl ?_
  refine sim_iconst (0 : Int32) dX9_doText_2 rfl rfl ?_
  refine sim_istore_n [(2, .int (0 : Int32)), (1, .int (0 : Int32)), (0, .ref (Ea E 0))] dX9_doText_3 (Nat.le_of_ble_eq_true rfl) rfl rfl ?_
  exact sim_sub [2, 1, 0] rfl (sl_X9_doText_4 hL (sf_X9_doText_79 hL) (sf_X9_doText_106 hL) FU (0 : Int32) (0 : Int32) w)
def f_X9_read_42 (N : Nat) (s0 : Int32) (w : Wd) : Option (Int32 × Wd) :=
  if s0 < (0 : Int32) then
  lw (wdC w w.2.2.2) fun w7 =>
  lw (wdR w7 w.2.2.1) fun w8 =>
  bd (f_X9_lookAround N w8) fun _ w9 =>
  if okP w9.2.2.1 = true then
  some ((w9.1 w9.2.2.1 6), w9)
  else none
  else
  if okP w.2.2.2 = true then
  bd (f_X4_leave N w.2.2.2 w) fun _ w11 =>
  if okP w11.2.2.1 = true then
  bd (f_X4_resume N w11.2.2.1 w11) fun _ w13 =>
  some (((-100 : Int32) - s0), w13)
  else none
  else none
set_option maxRecDepth 20000 in
theorem sf_X9_read_42 {E : Ev} (hL : LX E) (s0 : Int32) (w : Wd) : Sim E m_X9_read rI 42 [(0, .ref (Ea E 0))] [.int s0] w (f_X9_read_42 (En E) s0 w) := by
  unfold f_X9_read_42
  refine sim_istore_n [(1, .int s0), (0, .ref (Ea E 0))] dX9_read_42 (Nat.le_of_ble_eq_true rfl) rfl rfl ?_
  refine sim_iload_n 0 dX9_read_43 rfl rfl ?_
  refine sim_if_lt 66 dX9_read_44 rfl rfl (fun _ => ?_) (fun _ => ?_)
  · refine sim_aload_n 1 dX9_read_66 rfl rfl ?_
    refine sim_get (k := 0) (ci := 7) (j := 8) (v := .ref (Ea E (w.2.2.1))) (hL.1 0 rfl) rfl (by decide) fl_X9_72 rfl dX9_read_67 rfl ?_
    refine sim_astore_n [(2, .ref (Ea E (w.2.2.1))), (1, .int s0), (0, .ref (Ea E 0))] dX9_read_70 (Nat.le_of_ble_eq_true rfl) rfl rfl ?_
    refine sim_aload_n 2 dX9_read_71 rfl rfl ?_
    refine sim_aload_n 2 dX9_read_72 rfl rfl ?_
    refine sim_get (k := 0) (ci := 7) (j := 9) (v := .ref (Ea E (w.2.2.2))) (hL.1 0 rfl) rfl (by decide) fl_X9_76 rfl dX9_read_73 rfl ?_
    refine sim_putx (k := 0) (ci := 7) (j := 8) (w2 := wdC w w.2.2.2) (hL.1 0 rfl) rfl (by decide) fp_X9_72 rfl rfl rfl (Nat.le_of_ble_eq_true rfl) (fun i hi => ce_C hi) dX9_read_76 rfl ?_
    refine sim_lw (fun w7 => ?_)
    refine sim_aload_n 2 dX9_read_79 rfl rfl ?_
    refine sim_aload_n 0 dX9_read_80 rfl rfl ?_
    refine sim_putx (k := 0) (ci := 7) (j := 9) (w2 := wdR w7 w.2.2.1) (hL.1 0 rfl) rfl (by decide) fp_X9_76 rfl rfl rfl (Nat.le_of_ble_eq_true rfl) (fun i hi => ce_R hi) dX9_read_81 rfl ?_
    refine sim_lw (fun w8 => ?_)
    refine sim_aload_n 2 dX9_read_84 rfl rfl ?_
    refine sim_cVv (k := 0) (ci := 7) [] [] (c_X9_lookAround hL w8) (hL.1 0 rfl) rfl (by decide) rfl cb_X9_174 im_X9_lookAround se_X9_lookAround rfl rfl rfl (Nat.le_of_ble_eq_true rfl) dX9_read_85 rfl (fun _ w9 => ?_)
    refine sim_aload_n 2 dX9_read_88 rfl rfl ?_
    refine sim_get (k := 0) (ci := 7) (j := 8) (v := .ref (Ea E (w9.2.2.1))) (hL.1 0 rfl) rfl (by decide) fl_X9_72 rfl dX9_read_89 rfl ?_
    refine sim_guard (fun hp10 => ?_)
    refine sim_get (k := w9.2.2.1) (ci := 2) (j := 6) (v := .int (w9.1 w9.2.2.1 6)) (okP_in hp10 hL).1 (okP_kd hp10).1 (by decide) fl_X9_180 (by rw [fvs_P (okP_kd hp10).1]; rfl) dX9_read_92 rfl ?_
    exact sim_iret rfl dX9_read_95
  · refine sim_aload_n 1 dX9_read_47 rfl rfl ?_
    refine sim_get (k := 0) (ci := 7) (j := 9) (v := .ref (Ea E (w.2.2.2))) (hL.1 0 rfl) rfl (by decide) fl_X9_76 rfl dX9_read_48 rfl ?_
    refine sim_guard (fun hp12 => ?_)
    refine sim_cVv (k := w.2.2.2) (ci := 2) [] [] (c_X4_leave hL hp12 w) (okP_in hp12 hL).1 (okP_kd hp12).1 (by decide) rfl cb_X9_300 im_X4_leave se_X4_leave rfl rfl rfl (Nat.le_of_ble_eq_true rfl) dX9_read_51 rfl (fun _ w11 => ?_)
    refine sim_aload_n 1 dX9_read_54 rfl rfl ?_
    refine sim_get (k := 0) (ci := 7) (j := 8) (v := .ref (Ea E (w11.2.2.1))) (hL.1 0 rfl) rfl (by decide) fl_X9_72 rfl dX9_read_55 rfl ?_
    refine sim_guard (fun hp14 => ?_)
    refine sim_cVv (k := w11.2.2.1) (ci := 2) [] [] (c_X4_resume hL hp14 w11) (okP_in hp14 hL).1 (okP_kd hp14).1 (by decide) rfl cb_X9_306 im_X4_resume se_X4_resume rfl rfl rfl (Nat.le_of_ble_eq_true rfl) dX9_read_58 rfl (fun _ w13 => ?_)
    refine sim_bipush (-100 : Int32) dX9_read_61 rfl rfl ?_
    refine sim_iload_n 0 dX9_read_63 rfl rfl ?_
    refine sim_isub dX9_read_64 rfl ?_
    exact sim_iret rfl dX9_read_65
def f_X9_read (N : Nat) (w : Wd) : Option (Int32 × Wd) :=
  if (w.1 0 10) = (0 : Int32) then
  some ((-3 : Int32), w)
  else
  if okP w.2.2.1 = true then
  bd (f_X4_leave N w.2.2.1 w) fun _ w1 =>
  if okP w1.2.2.2 = true then
  bd (f_X4_begin N w1.2.2.2 w1) fun _ w3 =>
  if (w3.1 33 2) = (0 : Int32) then
  f_X9_read_42 N (-1 : Int32) w3
  else
  bd (f_X9_doText N w3) fun x5 w6 =>
  f_X9_read_42 N x5 w6
  else none
  else none
set_option maxRecDepth 20000 in
theorem c_X9_read {E : Ev} (hL : LX E) (w : Wd) : Ct E m_X9_read yX9_read rI [.ref (Ea E 0)] w (f_X9_read (En E) w) := by
  refine Ct.of (by decide) ⟨rfl, rfl⟩ (Nat.le_of_ble_eq_true rfl) ?_
  show Sim E m_X9_read rI 0 [(0, .ref (Ea E 0))] [] w (f_X9_read (En E) w)
  unfold f_X9_read
  refine sim_aload_n 0 dX9_read_0 rfl rfl ?_
  refine sim_get (k := 0) (ci := 7) (j := 10) (v := .int (w.1 0 10)) (hL.1 0 rfl) rfl (by decide) fl_X9_86 rfl dX9_read_1 rfl ?_
  refine sim_if_ne 10 dX9_read_4 rfl rfl (fun _ => ?_) (fun _ => ?_)
  · refine sim_aload_n 0 dX9_read_10 rfl rfl ?_
    refine sim_get (k := 0) (ci := 7) (j := 8) (v := .ref (Ea E (w.2.2.1))) (hL.1 0 rfl) rfl (by decide) fl_X9_72 rfl dX9_read_11 rfl ?_
    refine sim_guard (fun hp2 => ?_)
    refine sim_cVv (k := w.2.2.1) (ci := 2) [] [] (c_X4_leave hL hp2 w) (okP_in hp2 hL).1 (okP_kd hp2).1 (by decide) rfl cb_X9_300 im_X4_leave se_X4_leave rfl rfl rfl (Nat.le_of_ble_eq_true rfl) dX9_read_14 rfl (fun _ w1 => ?_)
    refine sim_aload_n 0 dX9_read_17 rfl rfl ?_
    refine sim_get (k := 0) (ci := 7) (j := 9) (v := .ref (Ea E (w1.2.2.2))) (hL.1 0 rfl) rfl (by decide) fl_X9_76 rfl dX9_read_18 rfl ?_
    refine sim_guard (fun hp4 => ?_)
    refine sim_cVv (k := w1.2.2.2) (ci := 2) [] [] (c_X4_begin hL hp4 w1) (okP_in hp4 hL).1 (okP_kd hp4).1 (by decide) rfl cb_X9_171 im_X4_begin se_X4_begin rfl rfl rfl (Nat.le_of_ble_eq_true rfl) dX9_read_21 rfl (fun _ w3 => ?_)
    refine sim_aload_n 0 dX9_read_24 rfl rfl ?_
    refine sim_get (k := 0) (ci := 7) (j := 7) (v := .ref (Ea E 33)) (hL.1 0 rfl) rfl (by decide) fl_X9_63 rfl dX9_read_25 rfl ?_
    refine sim_get (k := 33) (ci := 5) (j := 2) (v := .int (w3.1 33 2)) (hL.1 33 rfl) rfl (by decide) fl_X9_293 rfl dX9_read_28 rfl ?_
    refine sim_if_ne 38 dX9_read_31 rfl rfl (fun _ => ?_) (fun _ => ?_)
    · refine sim_aload_n 0 dX9_read_38 rfl rfl ?_
      refine sim_cVi (k := 0) (ci := 7) [] [] (c_X9_doText hL w3) (hL.1 0 rfl) rfl (by decide) rfl cb_X9_303 im_X9_doText se_X9_doText rfl rfl rfl (Nat.le_of_ble_eq_true rfl) dX9_read_39 rfl (fun x5 w6 => ?_)
      exact sim_sub [0] rfl (sf_X9_read_42 hL x5 w6)
    · refine sim_iconst (-1 : Int32) dX9_read_34 rfl rfl ?_
      refine sim_goto (q := 42) dX9_read_35 rfl ?_
      exact sim_sub [0] rfl (sf_X9_read_42 hL (-1 : Int32) w3)
  · refine sim_bipush (-3 : Int32) dX9_read_7 rfl rfl ?_
    exact sim_iret rfl dX9_read_9
def f_X9_finding (N : Nat) (w : Wd) : Option (Int32 × Wd) :=
  some ((w.1 0 12), w)
set_option maxRecDepth 20000 in
theorem c_X9_finding {E : Ev} (hL : LX E) (w : Wd) : Ct E m_X9_finding yX9_finding rI [.ref (Ea E 0)] w (f_X9_finding (En E) w) := by
  refine Ct.of (by decide) ⟨rfl, rfl⟩ (Nat.le_of_ble_eq_true rfl) ?_
  show Sim E m_X9_finding rI 0 [(0, .ref (Ea E 0))] [] w (f_X9_finding (En E) w)
  unfold f_X9_finding
  refine sim_aload_n 0 dX9_finding_0 rfl rfl ?_
  refine sim_get (k := 0) (ci := 7) (j := 12) (v := .int (w.1 0 12)) (hL.1 0 rfl) rfl (by decide) fl_X9_129 rfl dX9_finding_1 rfl ?_
  exact sim_iret rfl dX9_finding_4
def f_X9_digest_39 (N : Nat) (R : Int64 → Int32 → Wd → Option (Int64 × Wd)) (K48 : Int64 → Wd → Option (Int64 × Wd)) (v3 : Int32) (s0 : Int64) (s1 : Int32) (w : Wd) : Option (Int64 × Wd) :=
  lj (s0 + (Int32.toInt64 s1)) fun x1 =>
  R x1 (v3 + (1 : Int32)) w
set_option maxRecDepth 20000 in
theorem sf_X9_digest_39 {E : Ev} (hL : LX E) {R : Int64 → Int32 → Wd → Option (Int64 × Wd)} (hR : ∀ (v1 : Int64) (v3 : Int32) (w : Wd), Sim E m_X9_digest rJ 6 [(0, .ref (Ea E 0)), (1, .long v1), (3, .int v3)] [] w (R v1 v3 w)) {K48 : Int64 → Wd → Option (Int64 × Wd)} (hK48 : ∀ (v1 : Int64) (w : Wd), Sim E m_X9_digest rJ 48 [(0, .ref (Ea E 0)), (1, .long v1)] [] w (K48 v1 w)) (v3 : Int32) (s0 : Int64) (s1 : Int32) (w : Wd) : Sim E m_X9_digest rJ 39 [(0, .ref (Ea E 0)), (3, .int v3)] [.int s1, .long s0] w (f_X9_digest_39 (En E) R K48 v3 s0 s1 w) := by
  unfold f_X9_digest_39
  refine sim_i2l dX9_digest_39 rfl ?_
  refine sim_ladd dX9_digest_40 rfl ?_
  refine sim_lj (fun x1 => ?_)
  refine sim_lstore_n [(1, .long x1), (0, .ref (Ea E 0)), (3, .int v3)] dX9_digest_41 (Nat.le_of_ble_eq_true rfl) rfl rfl ?_
  refine sim_iinc (v3 + (1 : Int32)) 2 [(3, .int (v3 + (1 : Int32))), (1, .long x1), (0, .ref (Ea E 0))] dX9_digest_42 rfl rfl (Nat.le_of_ble_eq_true rfl) rfl rfl ?_
  refine sim_goto (q := 6) dX9_digest_45 rfl ?_
  exact sim_sub [2, 1, 0] rfl (hR x1 (v3 + (1 : Int32)) w)
def b_X9_digest_6 (N : Nat) (R : Int64 → Int32 → Wd → Option (Int64 × Wd)) (K48 : Int64 → Wd → Option (Int64 × Wd)) (v1 : Int64) (v3 : Int32) (w : Wd) : Option (Int64 × Wd) :=
  if (w.1 0 0) ≤ v3 then
  K48 v1 w
  else
  if (w.1 0 10) = (0 : Int32) then
  f_X9_digest_39 N R K48 v3 ((31 : Int64) * v1) (0 : Int32) w
  else
  if inb v3 (N * N) = true then
  f_X9_digest_39 N R K48 v3 ((31 : Int64) * v1) (w.1 23 (Int32.toNatClampNeg v3)) w
  else none
set_option maxRecDepth 20000 in
theorem sb_X9_digest_6 {E : Ev} (hL : LX E) {R : Int64 → Int32 → Wd → Option (Int64 × Wd)} (hR : ∀ (v1 : Int64) (v3 : Int32) (w : Wd), Sim E m_X9_digest rJ 6 [(0, .ref (Ea E 0)), (1, .long v1), (3, .int v3)] [] w (R v1 v3 w)) {K48 : Int64 → Wd → Option (Int64 × Wd)} (hK48 : ∀ (v1 : Int64) (w : Wd), Sim E m_X9_digest rJ 48 [(0, .ref (Ea E 0)), (1, .long v1)] [] w (K48 v1 w)) (v1 : Int64) (v3 : Int32) (w : Wd) : Sim E m_X9_digest rJ 6 [(0, .ref (Ea E 0)), (1, .long v1), (3, .int v3)] [] w (b_X9_digest_6 (En E) R K48 v1 v3 w) := by
  unfold b_X9_digest_6
  refine sim_iload_n 2 dX9_digest_6 rfl rfl ?_
  refine sim_aload_n 0 dX9_digest_7 rfl rfl ?_
  refine sim_get (k := 0) (ci := 7) (j := 0) (v := .int (w.1 0 0)) (hL.1 0 rfl) rfl (by decide) fl_X9_13 rfl dX9_digest_8 rfl ?_
  refine sim_icmp_ge 48 dX9_digest_11 rfl rfl (fun _ => ?_) (fun _ => ?_)
  · exact sim_sub [0, 1] rfl (hK48 v1 w)
  · refine sim_ldc2 (31 : Int64) dX9_digest_14 k_X9_311 rfl ?_
    refine sim_lload_n 1 dX9_digest_17 rfl rfl ?_
    refine sim_lmul dX9_digest_18 rfl ?_
    refine sim_aload_n 0 dX9_digest_19 rfl rfl ?_
    refine sim_get (k := 0) (ci := 7) (j := 10) (v := .int (w.1 0 10)) (hL.1 0 rfl) rfl (by decide) fl_X9_86 rfl dX9_digest_20 rfl ?_
    refine sim_if_eq 38 dX9_digest_23 rfl rfl (fun _ => ?_) (fun _ => ?_)
    · refine sim_iconst (0 : Int32) dX9_digest_38 rfl rfl ?_
      exact sim_sub [0, 2] rfl (sf_X9_digest_39 hL hR hK48 v3 ((31 : Int64) * v1) (0 : Int32) w)
    · refine sim_aload_n 0 dX9_digest_26 rfl rfl ?_
      refine sim_get (k := 0) (ci := 7) (j := 4) (v := .ref (Ea E 22)) (hL.1 0 rfl) rfl (by decide) fl_X9_38 rfl dX9_digest_27 rfl ?_
      refine sim_get (k := 22) (ci := 4) (j := 3) (v := .ref (Ea E 23)) (hL.1 22 rfl) rfl (by decide) fl_X9_186 rfl dX9_digest_30 rfl ?_
      refine sim_iload_n 2 dX9_digest_33 rfl rfl ?_
      refine sim_iaload (k := 23) (hL.1 23 rfl) rfl rfl dX9_digest_34 rfl ?_
      refine sim_goto (q := 39) dX9_digest_35 rfl ?_
      exact sim_sub [0, 2] rfl (sf_X9_digest_39 hL hR hK48 v3 ((31 : Int64) * v1) (w.1 23 (Int32.toNatClampNeg v3)) w)
def l_X9_digest_6 (N : Nat) (K48 : Int64 → Wd → Option (Int64 × Wd)) (n : Nat) : Int64 → Int32 → Wd → Option (Int64 × Wd) := itr (fun _ _ _ => none) (fun R => b_X9_digest_6 N R K48) n
set_option maxRecDepth 20000 in
theorem sl_X9_digest_6 {E : Ev} (hL : LX E) {K48 : Int64 → Wd → Option (Int64 × Wd)} (hK48 : ∀ (v1 : Int64) (w : Wd), Sim E m_X9_digest rJ 48 [(0, .ref (Ea E 0)), (1, .long v1)] [] w (K48 v1 w)) : ∀ (n : Nat) (v1 : Int64) (v3 : Int32) (w : Wd), Sim E m_X9_digest rJ 6 [(0, .ref (Ea E 0)), (1, .long v1), (3, .int v3)] [] w (l_X9_digest_6 (En E) K48 n v1 v3 w) := by
  intro n
  induction n with
  | zero => intros; exact sim_none
  | succ n ih => intros; exact sb_X9_digest_6 hL (R := l_X9_digest_6 (En E) K48 n) ih hK48 _ _ _
def b_X9_digest_58 (N : Nat) (R : Int64 → Int32 → Int32 → Wd → Option (Int64 × Wd)) (K86 : Int64 → Int32 → Wd → Option (Int64 × Wd)) (v1 : Int64) (v3 : Int32) (v4 : Int32) (w : Wd) : Option (Int64 × Wd) :=
  if (8 : Int32) ≤ v4 then
  K86 v1 v3 w
  else
  bd (f_X9_inHand N v3 v4 w) fun x2 w3 =>
  lj (((31 : Int64) * v1) + (Int32.toInt64 x2)) fun x4 =>
  R x4 v3 (v4 + (1 : Int32)) w3
set_option maxRecDepth 20000 in
theorem sb_X9_digest_58 {E : Ev} (hL : LX E) {R : Int64 → Int32 → Int32 → Wd → Option (Int64 × Wd)} (hR : ∀ (v1 : Int64) (v3 : Int32) (v4 : Int32) (w : Wd), Sim E m_X9_digest rJ 58 [(0, .ref (Ea E 0)), (1, .long v1), (3, .int v3), (4, .int v4)] [] w (R v1 v3 v4 w)) {K86 : Int64 → Int32 → Wd → Option (Int64 × Wd)} (hK86 : ∀ (v1 : Int64) (v3 : Int32) (w : Wd), Sim E m_X9_digest rJ 86 [(0, .ref (Ea E 0)), (1, .long v1), (3, .int v3)] [] w (K86 v1 v3 w)) (v1 : Int64) (v3 : Int32) (v4 : Int32) (w : Wd) : Sim E m_X9_digest rJ 58 [(0, .ref (Ea E 0)), (1, .long v1), (3, .int v3), (4, .int v4)] [] w (b_X9_digest_58 (En E) R K86 v1 v3 v4 w) := by
  unfold b_X9_digest_58
  refine sim_iload 3 dX9_digest_58 rfl rfl ?_
  refine sim_bipush (8 : Int32) dX9_digest_60 rfl rfl ?_
  refine sim_icmp_ge 86 dX9_digest_62 rfl rfl (fun _ => ?_) (fun _ => ?_)
  · exact sim_sub [0, 1, 2] rfl (hK86 v1 v3 w)
  · refine sim_ldc2 (31 : Int64) dX9_digest_65 k_X9_311 rfl ?_
    refine sim_lload_n 1 dX9_digest_68 rfl rfl ?_
    refine sim_lmul dX9_digest_69 rfl ?_
    refine sim_aload_n 0 dX9_digest_70 rfl rfl ?_
    refine sim_iload_n 2 dX9_digest_71 rfl rfl ?_
    refine sim_iload 3 dX9_digest_72 rfl rfl ?_
    refine sim_cVi (k := 0) (ci := 7) [.int v3, .int v4] [.long ((31 : Int64) * v1)] (c_X9_inHand hL v3 v4 w) (hL.1 0 rfl) rfl (by decide) rfl cb_X9_189 im_X9_inHand se_X9_inHand rfl rfl rfl (Nat.le_of_ble_eq_true rfl) dX9_digest_74 rfl (fun x2 w3 => ?_)
    refine sim_i2l dX9_digest_77 rfl ?_
    refine sim_ladd dX9_digest_78 rfl ?_
    refine sim_lj (fun x4 => ?_)
    refine sim_lstore_n [(1, .long x4), (0, .ref (Ea E 0)), (3, .int v3), (4, .int v4)] dX9_digest_79 (Nat.le_of_ble_eq_true rfl) rfl rfl ?_
    refine sim_iinc (v4 + (1 : Int32)) 3 [(4, .int (v4 + (1 : Int32))), (1, .long x4), (0, .ref (Ea E 0)), (3, .int v3)] dX9_digest_80 rfl rfl (Nat.le_of_ble_eq_true rfl) rfl rfl ?_
    refine sim_goto (q := 58) dX9_digest_83 rfl ?_
    exact sim_sub [2, 1, 3, 0] rfl (hR x4 v3 (v4 + (1 : Int32)) w3)
def l_X9_digest_58 (N : Nat) (K86 : Int64 → Int32 → Wd → Option (Int64 × Wd)) (n : Nat) : Int64 → Int32 → Int32 → Wd → Option (Int64 × Wd) := itr (fun _ _ _ _ => none) (fun R => b_X9_digest_58 N R K86) n
set_option maxRecDepth 20000 in
theorem sl_X9_digest_58 {E : Ev} (hL : LX E) {K86 : Int64 → Int32 → Wd → Option (Int64 × Wd)} (hK86 : ∀ (v1 : Int64) (v3 : Int32) (w : Wd), Sim E m_X9_digest rJ 86 [(0, .ref (Ea E 0)), (1, .long v1), (3, .int v3)] [] w (K86 v1 v3 w)) : ∀ (n : Nat) (v1 : Int64) (v3 : Int32) (v4 : Int32) (w : Wd), Sim E m_X9_digest rJ 58 [(0, .ref (Ea E 0)), (1, .long v1), (3, .int v3), (4, .int v4)] [] w (l_X9_digest_58 (En E) K86 n v1 v3 v4 w) := by
  intro n
  induction n with
  | zero => intros; exact sim_none
  | succ n ih => intros; exact sb_X9_digest_58 hL (R := l_X9_digest_58 (En E) K86 n) ih hK86 _ _ _ _
def f_X9_digest_86 (N : Nat) (R : Int64 → Int32 → Wd → Option (Int64 × Wd)) (K92 : Int64 → Wd → Option (Int64 × Wd)) (v1 : Int64) (v3 : Int32) (w : Wd) : Option (Int64 × Wd) :=
  R v1 (v3 + (1 : Int32)) w
set_option maxRecDepth 20000 in
theorem sf_X9_digest_86 {E : Ev} (hL : LX E) {R : Int64 → Int32 → Wd → Option (Int64 × Wd)} (hR : ∀ (v1 : Int64) (v3 : Int32) (w : Wd), Sim E m_X9_digest rJ 50 [(0, .ref (Ea E 0)), (1, .long v1), (3, .int v3)] [] w (R v1 v3 w)) {K92 : Int64 → Wd → Option (Int64 × Wd)} (hK92 : ∀ (v1 : Int64) (w : Wd), Sim E m_X9_digest rJ 92 [(0, .ref (Ea E 0)), (1, .long v1)] [] w (K92 v1 w)) (v1 : Int64) (v3 : Int32) (w : Wd) : Sim E m_X9_digest rJ 86 [(0, .ref (Ea E 0)), (1, .long v1), (3, .int v3)] [] w (f_X9_digest_86 (En E) R K92 v1 v3 w) := by
  unfold f_X9_digest_86
  refine sim_iinc (v3 + (1 : Int32)) 2 [(3, .int (v3 + (1 : Int32))), (0, .ref (Ea E 0)), (1, .long v1)] dX9_digest_86 rfl rfl (Nat.le_of_ble_eq_true rfl) rfl rfl ?_
  refine sim_goto (q := 50) dX9_digest_89 rfl ?_
  exact sim_sub [1, 2, 0] rfl (hR v1 (v3 + (1 : Int32)) w)
def b_X9_digest_50 (N : Nat) (R : Int64 → Int32 → Wd → Option (Int64 × Wd)) (K92 : Int64 → Wd → Option (Int64 × Wd)) (v1 : Int64) (v3 : Int32) (w : Wd) : Option (Int64 × Wd) :=
  if (2 : Int32) ≤ v3 then
  K92 v1 w
  else
  l_X9_digest_58 N (f_X9_digest_86 N R K92) FU v1 v3 (1 : Int32) w
set_option maxRecDepth 20000 in
theorem sb_X9_digest_50 {E : Ev} (hL : LX E) {R : Int64 → Int32 → Wd → Option (Int64 × Wd)} (hR : ∀ (v1 : Int64) (v3 : Int32) (w : Wd), Sim E m_X9_digest rJ 50 [(0, .ref (Ea E 0)), (1, .long v1), (3, .int v3)] [] w (R v1 v3 w)) {K92 : Int64 → Wd → Option (Int64 × Wd)} (hK92 : ∀ (v1 : Int64) (w : Wd), Sim E m_X9_digest rJ 92 [(0, .ref (Ea E 0)), (1, .long v1)] [] w (K92 v1 w)) (v1 : Int64) (v3 : Int32) (w : Wd) : Sim E m_X9_digest rJ 50 [(0, .ref (Ea E 0)), (1, .long v1), (3, .int v3)] [] w (b_X9_digest_50 (En E) R K92 v1 v3 w) := by
  unfold b_X9_digest_50
  refine sim_iload_n 2 dX9_digest_50 rfl rfl ?_
  refine sim_iconst (2 : Int32) dX9_digest_51 rfl rfl ?_
  refine sim_icmp_ge 92 dX9_digest_52 rfl rfl (fun _ => ?_) (fun _ => ?_)
  · exact sim_sub [0, 1] rfl (hK92 v1 w)
  · refine sim_iconst (1 : Int32) dX9_digest_55 rfl rfl ?_
    refine sim_istore [(4, .int (1 : Int32)), (0, .ref (Ea E 0)), (1, .long v1), (3, .int v3)] dX9_digest_56 (Nat.le_of_ble_eq_true rfl) rfl rfl ?_
    exact sim_sub [1, 2, 3, 0] rfl (sl_X9_digest_58 hL (sf_X9_digest_86 hL hR hK92) FU v1 v3 (1 : Int32) w)
def l_X9_digest_50 (N : Nat) (K92 : Int64 → Wd → Option (Int64 × Wd)) (n : Nat) : Int64 → Int32 → Wd → Option (Int64 × Wd) := itr (fun _ _ _ => none) (fun R => b_X9_digest_50 N R K92) n
set_option maxRecDepth 20000 in
theorem sl_X9_digest_50 {E : Ev} (hL : LX E) {K92 : Int64 → Wd → Option (Int64 × Wd)} (hK92 : ∀ (v1 : Int64) (w : Wd), Sim E m_X9_digest rJ 92 [(0, .ref (Ea E 0)), (1, .long v1)] [] w (K92 v1 w)) : ∀ (n : Nat) (v1 : Int64) (v3 : Int32) (w : Wd), Sim E m_X9_digest rJ 50 [(0, .ref (Ea E 0)), (1, .long v1), (3, .int v3)] [] w (l_X9_digest_50 (En E) K92 n v1 v3 w) := by
  intro n
  induction n with
  | zero => intros; exact sim_none
  | succ n ih => intros; exact sb_X9_digest_50 hL (R := l_X9_digest_50 (En E) K92 n) ih hK92 _ _ _
def f_X9_digest_120 (N : Nat) (R : Int64 → Int32 → Wd → Option (Int64 × Wd)) (K129 : Int64 → Wd → Option (Int64 × Wd)) (v3 : Int32) (s0 : Int64) (s1 : Int32) (w : Wd) : Option (Int64 × Wd) :=
  lj (s0 + (Int32.toInt64 s1)) fun x5 =>
  R x5 (v3 + (1 : Int32)) w
set_option maxRecDepth 20000 in
theorem sf_X9_digest_120 {E : Ev} (hL : LX E) {R : Int64 → Int32 → Wd → Option (Int64 × Wd)} (hR : ∀ (v1 : Int64) (v3 : Int32) (w : Wd), Sim E m_X9_digest rJ 94 [(0, .ref (Ea E 0)), (1, .long v1), (3, .int v3)] [] w (R v1 v3 w)) {K129 : Int64 → Wd → Option (Int64 × Wd)} (hK129 : ∀ (v1 : Int64) (w : Wd), Sim E m_X9_digest rJ 129 [(1, .long v1)] [] w (K129 v1 w)) (v3 : Int32) (s0 : Int64) (s1 : Int32) (w : Wd) : Sim E m_X9_digest rJ 120 [(0, .ref (Ea E 0)), (3, .int v3)] [.int s1, .long s0] w (f_X9_digest_120 (En E) R K129 v3 s0 s1 w) := by
  unfold f_X9_digest_120
  refine sim_i2l dX9_digest_120 rfl ?_
  refine sim_ladd dX9_digest_121 rfl ?_
  refine sim_lj (fun x5 => ?_)
  refine sim_lstore_n [(1, .long x5), (0, .ref (Ea E 0)), (3, .int v3)] dX9_digest_122 (Nat.le_of_ble_eq_true rfl) rfl rfl ?_
  refine sim_iinc (v3 + (1 : Int32)) 2 [(3, .int (v3 + (1 : Int32))), (1, .long x5), (0, .ref (Ea E 0))] dX9_digest_123 rfl rfl (Nat.le_of_ble_eq_true rfl) rfl rfl ?_
  refine sim_goto (q := 94) dX9_digest_126 rfl ?_
  exact sim_sub [2, 1, 0] rfl (hR x5 (v3 + (1 : Int32)) w)
def b_X9_digest_94 (N : Nat) (R : Int64 → Int32 → Wd → Option (Int64 × Wd)) (K129 : Int64 → Wd → Option (Int64 × Wd)) (v1 : Int64) (v3 : Int32) (w : Wd) : Option (Int64 × Wd) :=
  if (5 : Int32) ≤ v3 then
  K129 v1 w
  else
  if (w.1 0 10) = (0 : Int32) then
  f_X9_digest_120 N R K129 v3 ((31 : Int64) * v1) (0 : Int32) w
  else
  bd (f_X9_ofPlay N v3 w) fun x6 w7 =>
  f_X9_digest_120 N R K129 v3 ((31 : Int64) * v1) x6 w7
set_option maxRecDepth 20000 in
theorem sb_X9_digest_94 {E : Ev} (hL : LX E) {R : Int64 → Int32 → Wd → Option (Int64 × Wd)} (hR : ∀ (v1 : Int64) (v3 : Int32) (w : Wd), Sim E m_X9_digest rJ 94 [(0, .ref (Ea E 0)), (1, .long v1), (3, .int v3)] [] w (R v1 v3 w)) {K129 : Int64 → Wd → Option (Int64 × Wd)} (hK129 : ∀ (v1 : Int64) (w : Wd), Sim E m_X9_digest rJ 129 [(1, .long v1)] [] w (K129 v1 w)) (v1 : Int64) (v3 : Int32) (w : Wd) : Sim E m_X9_digest rJ 94 [(0, .ref (Ea E 0)), (1, .long v1), (3, .int v3)] [] w (b_X9_digest_94 (En E) R K129 v1 v3 w) := by
  unfold b_X9_digest_94
  refine sim_iload_n 2 dX9_digest_94 rfl rfl ?_
  refine sim_iconst (5 : Int32) dX9_digest_95 rfl rfl ?_
  refine sim_icmp_ge 129 dX9_digest_96 rfl rfl (fun _ => ?_) (fun _ => ?_)
  · exact sim_sub [1] rfl (hK129 v1 w)
  · refine sim_ldc2 (31 : Int64) dX9_digest_99 k_X9_311 rfl ?_
    refine sim_lload_n 1 dX9_digest_102 rfl rfl ?_
    refine sim_lmul dX9_digest_103 rfl ?_
    refine sim_aload_n 0 dX9_digest_104 rfl rfl ?_
    refine sim_get (k := 0) (ci := 7) (j := 10) (v := .int (w.1 0 10)) (hL.1 0 rfl) rfl (by decide) fl_X9_86 rfl dX9_digest_105 rfl ?_
    refine sim_if_eq 119 dX9_digest_108 rfl rfl (fun _ => ?_) (fun _ => ?_)
    · refine sim_iconst (0 : Int32) dX9_digest_119 rfl rfl ?_
      exact sim_sub [0, 2] rfl (sf_X9_digest_120 hL hR hK129 v3 ((31 : Int64) * v1) (0 : Int32) w)
    · refine sim_aload_n 0 dX9_digest_111 rfl rfl ?_
      refine sim_iload_n 2 dX9_digest_112 rfl rfl ?_
      refine sim_cVi (k := 0) (ci := 7) [.int v3] [.long ((31 : Int64) * v1)] (c_X9_ofPlay hL v3 w) (hL.1 0 rfl) rfl (by decide) rfl cb_X9_252 im_X9_ofPlay se_X9_ofPlay rfl rfl rfl (Nat.le_of_ble_eq_true rfl) dX9_digest_113 rfl (fun x6 w7 => ?_)
      refine sim_goto (q := 120) dX9_digest_116 rfl ?_
      exact sim_sub [0, 2] rfl (sf_X9_digest_120 hL hR hK129 v3 ((31 : Int64) * v1) x6 w7)
def l_X9_digest_94 (N : Nat) (K129 : Int64 → Wd → Option (Int64 × Wd)) (n : Nat) : Int64 → Int32 → Wd → Option (Int64 × Wd) := itr (fun _ _ _ => none) (fun R => b_X9_digest_94 N R K129) n
set_option maxRecDepth 20000 in
theorem sl_X9_digest_94 {E : Ev} (hL : LX E) {K129 : Int64 → Wd → Option (Int64 × Wd)} (hK129 : ∀ (v1 : Int64) (w : Wd), Sim E m_X9_digest rJ 129 [(1, .long v1)] [] w (K129 v1 w)) : ∀ (n : Nat) (v1 : Int64) (v3 : Int32) (w : Wd), Sim E m_X9_digest rJ 94 [(0, .ref (Ea E 0)), (1, .long v1), (3, .int v3)] [] w (l_X9_digest_94 (En E) K129 n v1 v3 w) := by
  intro n
  induction n with
  | zero => intros; exact sim_none
  | succ n ih => intros; exact sb_X9_digest_94 hL (R := l_X9_digest_94 (En E) K129 n) ih hK129 _ _ _
def f_X9_digest_129 (N : Nat) (v1 : Int64) (w : Wd) : Option (Int64 × Wd) :=
  some (v1, w)
set_option maxRecDepth 20000 in
theorem sf_X9_digest_129 {E : Ev} (hL : LX E) (v1 : Int64) (w : Wd) : Sim E m_X9_digest rJ 129 [(1, .long v1)] [] w (f_X9_digest_129 (En E) v1 w) := by
  unfold f_X9_digest_129
  refine sim_lload_n 0 dX9_digest_129 rfl rfl ?_
  exact sim_lret rfl dX9_digest_130
def f_X9_digest_92 (N : Nat) (v1 : Int64) (w : Wd) : Option (Int64 × Wd) :=
  l_X9_digest_94 N (f_X9_digest_129 N) FU v1 (0 : Int32) w
set_option maxRecDepth 20000 in
theorem sf_X9_digest_92 {E : Ev} (hL : LX E) (v1 : Int64) (w : Wd) : Sim E m_X9_digest rJ 92 [(0, .ref (Ea E 0)), (1, .long v1)] [] w (f_X9_digest_92 (En E) v1 w) := by
  unfold f_X9_digest_92
  refine sim_iconst (0 : Int32) dX9_digest_92 rfl rfl ?_
  refine sim_istore_n [(3, .int (0 : Int32)), (0, .ref (Ea E 0)), (1, .long v1)] dX9_digest_93 (Nat.le_of_ble_eq_true rfl) rfl rfl ?_
  exact sim_sub [1, 2, 0] rfl (sl_X9_digest_94 hL (sf_X9_digest_129 hL) FU v1 (0 : Int32) w)
def f_X9_digest_48 (N : Nat) (v1 : Int64) (w : Wd) : Option (Int64 × Wd) :=
  l_X9_digest_50 N (f_X9_digest_92 N) FU v1 (0 : Int32) w
set_option maxRecDepth 20000 in
theorem sf_X9_digest_48 {E : Ev} (hL : LX E) (v1 : Int64) (w : Wd) : Sim E m_X9_digest rJ 48 [(0, .ref (Ea E 0)), (1, .long v1)] [] w (f_X9_digest_48 (En E) v1 w) := by
  unfold f_X9_digest_48
  refine sim_iconst (0 : Int32) dX9_digest_48 rfl rfl ?_
  refine sim_istore_n [(3, .int (0 : Int32)), (0, .ref (Ea E 0)), (1, .long v1)] dX9_digest_49 (Nat.le_of_ble_eq_true rfl) rfl rfl ?_
  exact sim_sub [1, 2, 0] rfl (sl_X9_digest_50 hL (sf_X9_digest_92 hL) FU v1 (0 : Int32) w)
def f_X9_digest (N : Nat) (w : Wd) : Option (Int64 × Wd) :=
  l_X9_digest_6 N (f_X9_digest_48 N) FU (17 : Int64) (0 : Int32) w
set_option maxRecDepth 20000 in
theorem c_X9_digest {E : Ev} (hL : LX E) (w : Wd) : Ct E m_X9_digest yX9_digest rJ [.ref (Ea E 0)] w (f_X9_digest (En E) w) := by
  refine Ct.of (by decide) ⟨rfl, rfl⟩ (Nat.le_of_ble_eq_true rfl) ?_
  show Sim E m_X9_digest rJ 0 [(0, .ref (Ea E 0))] [] w (f_X9_digest (En E) w)
  unfold f_X9_digest
  refine sim_ldc2 (17 : Int64) dX9_digest_0 k_X9_309 rfl ?_
  refine sim_lstore_n [(1, .long (17 : Int64)), (0, .ref (Ea E 0))] dX9_digest_3 (Nat.le_of_ble_eq_true rfl) rfl rfl ?_
  refine sim_iconst (0 : Int32) dX9_digest_4 rfl rfl ?_
  refine sim_istore_n [(3, .int (0 : Int32)), (1, .long (17 : Int64)), (0, .ref (Ea E 0))] dX9_digest_5 (Nat.le_of_ble_eq_true rfl) rfl rfl ?_
  exact sim_sub [2, 1, 0] rfl (sl_X9_digest_6 hL (sf_X9_digest_48 hL) FU (17 : Int64) (0 : Int32) w)
