def f_X10_couldGoOn_67 (R : Int32 → Int32 → Int32 → Int32 → Int32 → Wd → Option (Int32 × Wd)) (K75 : Int32 → Wd → Option (Int32 × Wd)) (v1 : Int32) (v2 : Int32) (v3 : Int32) (v5 : Int32) (s0 : Int32) (w : Wd) : Option (Int32 × Wd) :=
  R v1 v2 v3 s0 (v5 + (1 : Int32)) w
set_option maxRecDepth 20000 in
theorem sf_X10_couldGoOn_67 {E : Ev} (hL : LM E) {R : Int32 → Int32 → Int32 → Int32 → Int32 → Wd → Option (Int32 × Wd)} (hR : ∀ (v1 : Int32) (v2 : Int32) (v3 : Int32) (v4 : Int32) (v5 : Int32) (w : Wd), Sim E m_X10_couldGoOn rI 6 [(0, .ref (Ea E 50)), (1, .int v1), (2, .int v2), (3, .int v3), (4, .int v4), (5, .int v5)] [] w (R v1 v2 v3 v4 v5 w)) {K75 : Int32 → Wd → Option (Int32 × Wd)} (hK75 : ∀ (v4 : Int32) (w : Wd), Sim E m_X10_couldGoOn rI 75 [(4, .int v4)] [] w (K75 v4 w)) (v1 : Int32) (v2 : Int32) (v3 : Int32) (v5 : Int32) (s0 : Int32) (w : Wd) : Sim E m_X10_couldGoOn rI 67 [(0, .ref (Ea E 50)), (1, .int v1), (2, .int v2), (3, .int v3), (5, .int v5)] [.int s0] w (f_X10_couldGoOn_67 R K75 v1 v2 v3 v5 s0 w) := by
  unfold f_X10_couldGoOn_67
  refine sim_istore [(4, .int s0), (0, .ref (Ea E 50)), (1, .int v1), (2, .int v2), (3, .int v3), (5, .int v5)] dX10_couldGoOn_67 (Nat.le_of_ble_eq_true rfl) rfl rfl ?_
  refine sim_iinc (v5 + (1 : Int32)) 5 [(5, .int (v5 + (1 : Int32))), (4, .int s0), (0, .ref (Ea E 50)), (1, .int v1), (2, .int v2), (3, .int v3)] dX10_couldGoOn_69 rfl rfl (Nat.le_of_ble_eq_true rfl) rfl rfl ?_
  refine sim_goto (q := 6) dX10_couldGoOn_72 rfl ?_
  exact sim_sub [2, 3, 4, 5, 1, 0] rfl (hR v1 v2 v3 s0 (v5 + (1 : Int32)) w)
def f_X10_couldGoOn_62 (R : Int32 → Int32 → Int32 → Int32 → Int32 → Wd → Option (Int32 × Wd)) (K75 : Int32 → Wd → Option (Int32 × Wd)) (v1 : Int32) (v2 : Int32) (v3 : Int32) (v5 : Int32) (w : Wd) : Option (Int32 × Wd) :=
  f_X10_couldGoOn_67 R K75 v1 v2 v3 v5 (1 : Int32) w
set_option maxRecDepth 20000 in
theorem sf_X10_couldGoOn_62 {E : Ev} (hL : LM E) {R : Int32 → Int32 → Int32 → Int32 → Int32 → Wd → Option (Int32 × Wd)} (hR : ∀ (v1 : Int32) (v2 : Int32) (v3 : Int32) (v4 : Int32) (v5 : Int32) (w : Wd), Sim E m_X10_couldGoOn rI 6 [(0, .ref (Ea E 50)), (1, .int v1), (2, .int v2), (3, .int v3), (4, .int v4), (5, .int v5)] [] w (R v1 v2 v3 v4 v5 w)) {K75 : Int32 → Wd → Option (Int32 × Wd)} (hK75 : ∀ (v4 : Int32) (w : Wd), Sim E m_X10_couldGoOn rI 75 [(4, .int v4)] [] w (K75 v4 w)) (v1 : Int32) (v2 : Int32) (v3 : Int32) (v5 : Int32) (w : Wd) : Sim E m_X10_couldGoOn rI 62 [(0, .ref (Ea E 50)), (1, .int v1), (2, .int v2), (3, .int v3), (5, .int v5)] [] w (f_X10_couldGoOn_62 R K75 v1 v2 v3 v5 w) := by
  unfold f_X10_couldGoOn_62
  refine sim_iconst (1 : Int32) dX10_couldGoOn_62 rfl rfl ?_
  refine sim_goto (q := 67) dX10_couldGoOn_63 rfl ?_
  exact sim_sub [0, 1, 2, 3, 4] rfl (sf_X10_couldGoOn_67 hL hR hK75 v1 v2 v3 v5 (1 : Int32) w)
def f_X10_couldGoOn_66 (R : Int32 → Int32 → Int32 → Int32 → Int32 → Wd → Option (Int32 × Wd)) (K75 : Int32 → Wd → Option (Int32 × Wd)) (v1 : Int32) (v2 : Int32) (v3 : Int32) (v5 : Int32) (w : Wd) : Option (Int32 × Wd) :=
  f_X10_couldGoOn_67 R K75 v1 v2 v3 v5 (0 : Int32) w
set_option maxRecDepth 20000 in
theorem sf_X10_couldGoOn_66 {E : Ev} (hL : LM E) {R : Int32 → Int32 → Int32 → Int32 → Int32 → Wd → Option (Int32 × Wd)} (hR : ∀ (v1 : Int32) (v2 : Int32) (v3 : Int32) (v4 : Int32) (v5 : Int32) (w : Wd), Sim E m_X10_couldGoOn rI 6 [(0, .ref (Ea E 50)), (1, .int v1), (2, .int v2), (3, .int v3), (4, .int v4), (5, .int v5)] [] w (R v1 v2 v3 v4 v5 w)) {K75 : Int32 → Wd → Option (Int32 × Wd)} (hK75 : ∀ (v4 : Int32) (w : Wd), Sim E m_X10_couldGoOn rI 75 [(4, .int v4)] [] w (K75 v4 w)) (v1 : Int32) (v2 : Int32) (v3 : Int32) (v5 : Int32) (w : Wd) : Sim E m_X10_couldGoOn rI 66 [(0, .ref (Ea E 50)), (1, .int v1), (2, .int v2), (3, .int v3), (5, .int v5)] [] w (f_X10_couldGoOn_66 R K75 v1 v2 v3 v5 w) := by
  unfold f_X10_couldGoOn_66
  refine sim_iconst (0 : Int32) dX10_couldGoOn_66 rfl rfl ?_
  exact sim_sub [0, 1, 2, 3, 4] rfl (sf_X10_couldGoOn_67 hL hR hK75 v1 v2 v3 v5 (0 : Int32) w)
def f_X10_couldGoOn_41 (R : Int32 → Int32 → Int32 → Int32 → Int32 → Wd → Option (Int32 × Wd)) (K75 : Int32 → Wd → Option (Int32 × Wd)) (v1 : Int32) (v2 : Int32) (v3 : Int32) (v5 : Int32) (s0 : Int32) (s1 : Int32) (w : Wd) : Option (Int32 × Wd) :=
  if (((s0 ||| s1) >>> (v5 &&& 31)) &&& (1 : Int32)) = (1 : Int32) then
  bd (f_X10_along v3 v5 v2 w) fun x1 w2 =>
  if x1 < (0 : Int32) then
  f_X10_couldGoOn_66 R K75 v1 v2 v3 v5 w2
  else
  f_X10_couldGoOn_62 R K75 v1 v2 v3 v5 w2
  else
  f_X10_couldGoOn_66 R K75 v1 v2 v3 v5 w
set_option maxRecDepth 20000 in
theorem sf_X10_couldGoOn_41 {E : Ev} (hL : LM E) {R : Int32 → Int32 → Int32 → Int32 → Int32 → Wd → Option (Int32 × Wd)} (hR : ∀ (v1 : Int32) (v2 : Int32) (v3 : Int32) (v4 : Int32) (v5 : Int32) (w : Wd), Sim E m_X10_couldGoOn rI 6 [(0, .ref (Ea E 50)), (1, .int v1), (2, .int v2), (3, .int v3), (4, .int v4), (5, .int v5)] [] w (R v1 v2 v3 v4 v5 w)) {K75 : Int32 → Wd → Option (Int32 × Wd)} (hK75 : ∀ (v4 : Int32) (w : Wd), Sim E m_X10_couldGoOn rI 75 [(4, .int v4)] [] w (K75 v4 w)) (v1 : Int32) (v2 : Int32) (v3 : Int32) (v5 : Int32) (s0 : Int32) (s1 : Int32) (w : Wd) : Sim E m_X10_couldGoOn rI 41 [(0, .ref (Ea E 50)), (1, .int v1), (2, .int v2), (3, .int v3), (5, .int v5)] [.int s1, .int s0] w (f_X10_couldGoOn_41 R K75 v1 v2 v3 v5 s0 s1 w) := by
  unfold f_X10_couldGoOn_41
  refine sim_ior dX10_couldGoOn_41 rfl ?_
  refine sim_iload 4 dX10_couldGoOn_42 rfl rfl ?_
  refine sim_ishr dX10_couldGoOn_44 rfl ?_
  refine sim_iconst (1 : Int32) dX10_couldGoOn_45 rfl rfl ?_
  refine sim_iand dX10_couldGoOn_46 rfl ?_
  refine sim_iconst (1 : Int32) dX10_couldGoOn_47 rfl rfl ?_
  refine sim_icmp_ne 66 dX10_couldGoOn_48 rfl rfl (fun _ => ?_) (fun _ => ?_)
  · exact sim_sub [0, 1, 2, 3, 4] rfl (sf_X10_couldGoOn_66 hL hR hK75 v1 v2 v3 v5 w)
  · refine sim_aload_n 0 dX10_couldGoOn_51 rfl rfl ?_
    refine sim_iload_n 3 dX10_couldGoOn_52 rfl rfl ?_
    refine sim_iload 4 dX10_couldGoOn_53 rfl rfl ?_
    refine sim_iload_n 2 dX10_couldGoOn_55 rfl rfl ?_
    refine sim_cVi (k := 50) (ci := 8) [.int v3, .int v5, .int v2] [] (c_X10_along hL v3 v5 v2 w) (hL 50 rfl) rfl (by decide) rfl cb_X10_196 im_X10_along se_X10_along rfl rfl rfl (Nat.le_of_ble_eq_true rfl) dX10_couldGoOn_56 rfl (fun x1 w2 => ?_)
    refine sim_if_lt 66 dX10_couldGoOn_59 rfl rfl (fun _ => ?_) (fun _ => ?_)
    · exact sim_sub [0, 1, 2, 3, 4] rfl (sf_X10_couldGoOn_66 hL hR hK75 v1 v2 v3 v5 w2)
    · exact sim_sub [0, 1, 2, 3, 4] rfl (sf_X10_couldGoOn_62 hL hR hK75 v1 v2 v3 v5 w2)
def b_X10_couldGoOn_6 (R : Int32 → Int32 → Int32 → Int32 → Int32 → Wd → Option (Int32 × Wd)) (K75 : Int32 → Wd → Option (Int32 × Wd)) (v1 : Int32) (v2 : Int32) (v3 : Int32) (v4 : Int32) (v5 : Int32) (w : Wd) : Option (Int32 × Wd) :=
  if (10 : Int32) ≤ v5 then
  K75 v4 w
  else
  if v4 = (0 : Int32) then
  if inb v1 16 = true then
  if (8 : Int32) ≤ v5 then
  f_X10_couldGoOn_41 R K75 v1 v2 v3 v5 (w.1 53 (Int32.toNatClampNeg v1)) (0 : Int32) w
  else
  if inb v1 16 = true then
  f_X10_couldGoOn_41 R K75 v1 v2 v3 v5 (w.1 53 (Int32.toNatClampNeg v1)) (w.1 54 (Int32.toNatClampNeg v1)) w
  else none
  else none
  else
  f_X10_couldGoOn_62 R K75 v1 v2 v3 v5 w
set_option maxRecDepth 20000 in
theorem sb_X10_couldGoOn_6 {E : Ev} (hL : LM E) {R : Int32 → Int32 → Int32 → Int32 → Int32 → Wd → Option (Int32 × Wd)} (hR : ∀ (v1 : Int32) (v2 : Int32) (v3 : Int32) (v4 : Int32) (v5 : Int32) (w : Wd), Sim E m_X10_couldGoOn rI 6 [(0, .ref (Ea E 50)), (1, .int v1), (2, .int v2), (3, .int v3), (4, .int v4), (5, .int v5)] [] w (R v1 v2 v3 v4 v5 w)) {K75 : Int32 → Wd → Option (Int32 × Wd)} (hK75 : ∀ (v4 : Int32) (w : Wd), Sim E m_X10_couldGoOn rI 75 [(4, .int v4)] [] w (K75 v4 w)) (v1 : Int32) (v2 : Int32) (v3 : Int32) (v4 : Int32) (v5 : Int32) (w : Wd) : Sim E m_X10_couldGoOn rI 6 [(0, .ref (Ea E 50)), (1, .int v1), (2, .int v2), (3, .int v3), (4, .int v4), (5, .int v5)] [] w (b_X10_couldGoOn_6 R K75 v1 v2 v3 v4 v5 w) := by
  unfold b_X10_couldGoOn_6
  refine sim_iload 5 dX10_couldGoOn_6 rfl rfl ?_
  refine sim_bipush (10 : Int32) dX10_couldGoOn_8 rfl rfl ?_
  refine sim_icmp_ge 75 dX10_couldGoOn_10 rfl rfl (fun _ => ?_) (fun _ => ?_)
  · exact sim_sub [4] rfl (hK75 v4 w)
  · refine sim_iload 4 dX10_couldGoOn_13 rfl rfl ?_
    refine sim_if_ne 62 dX10_couldGoOn_15 rfl rfl (fun _ => ?_) (fun _ => ?_)
    · exact sim_sub [0, 1, 2, 3, 5] rfl (sf_X10_couldGoOn_62 hL hR hK75 v1 v2 v3 v5 w)
    · refine sim_aload_n 0 dX10_couldGoOn_18 rfl rfl ?_
      refine sim_get (k := 50) (ci := 8) (j := 2) (v := .ref (Ea E 53)) (hL 50 rfl) rfl (by decide) fl_X10_7 rfl dX10_couldGoOn_19 rfl ?_
      refine sim_iload_n 1 dX10_couldGoOn_22 rfl rfl ?_
      refine sim_iaload (k := 53) (hL 53 rfl) rfl rfl dX10_couldGoOn_23 rfl ?_
      refine sim_iload 5 dX10_couldGoOn_24 rfl rfl ?_
      refine sim_bipush (8 : Int32) dX10_couldGoOn_26 rfl rfl ?_
      refine sim_icmp_ge 40 dX10_couldGoOn_28 rfl rfl (fun _ => ?_) (fun _ => ?_)
      · refine sim_iconst (0 : Int32) dX10_couldGoOn_40 rfl rfl ?_
        exact sim_sub [0, 1, 2, 3, 5] rfl (sf_X10_couldGoOn_41 hL hR hK75 v1 v2 v3 v5 (w.1 53 (Int32.toNatClampNeg v1)) (0 : Int32) w)
      · refine sim_aload_n 0 dX10_couldGoOn_31 rfl rfl ?_
        refine sim_get (k := 50) (ci := 8) (j := 3) (v := .ref (Ea E 54)) (hL 50 rfl) rfl (by decide) fl_X10_13 rfl dX10_couldGoOn_32 rfl ?_
        refine sim_iload_n 1 dX10_couldGoOn_35 rfl rfl ?_
        refine sim_iaload (k := 54) (hL 54 rfl) rfl rfl dX10_couldGoOn_36 rfl ?_
        refine sim_goto (q := 41) dX10_couldGoOn_37 rfl ?_
        exact sim_sub [0, 1, 2, 3, 5] rfl (sf_X10_couldGoOn_41 hL hR hK75 v1 v2 v3 v5 (w.1 53 (Int32.toNatClampNeg v1)) (w.1 54 (Int32.toNatClampNeg v1)) w)
def l_X10_couldGoOn_6 (K75 : Int32 → Wd → Option (Int32 × Wd)) (n : Nat) : Int32 → Int32 → Int32 → Int32 → Int32 → Wd → Option (Int32 × Wd) := itr (fun _ _ _ _ _ _ => none) (fun R => b_X10_couldGoOn_6 R K75) n
set_option maxRecDepth 20000 in
theorem sl_X10_couldGoOn_6 {E : Ev} (hL : LM E) {K75 : Int32 → Wd → Option (Int32 × Wd)} (hK75 : ∀ (v4 : Int32) (w : Wd), Sim E m_X10_couldGoOn rI 75 [(4, .int v4)] [] w (K75 v4 w)) : ∀ (n : Nat) (v1 : Int32) (v2 : Int32) (v3 : Int32) (v4 : Int32) (v5 : Int32) (w : Wd), Sim E m_X10_couldGoOn rI 6 [(0, .ref (Ea E 50)), (1, .int v1), (2, .int v2), (3, .int v3), (4, .int v4), (5, .int v5)] [] w (l_X10_couldGoOn_6 K75 n v1 v2 v3 v4 v5 w) := by
  intro n
  induction n with
  | zero => intros; exact sim_none
  | succ n ih => intros; exact sb_X10_couldGoOn_6 hL (R := l_X10_couldGoOn_6 K75 n) ih hK75 _ _ _ _ _ _
def f_X10_couldGoOn_75 (v4 : Int32) (w : Wd) : Option (Int32 × Wd) :=
  if zb v4 = true then some (v4, w) else none
set_option maxRecDepth 20000 in
theorem sf_X10_couldGoOn_75 {E : Ev} (hL : LM E) (v4 : Int32) (w : Wd) : Sim E m_X10_couldGoOn rI 75 [(4, .int v4)] [] w (f_X10_couldGoOn_75 v4 w) := by
  unfold f_X10_couldGoOn_75
  refine sim_iload 0 dX10_couldGoOn_75 rfl rfl ?_
  exact sim_zret rfl dX10_couldGoOn_77
def f_X10_couldGoOn (v1 : Int32) (v2 : Int32) (v3 : Int32) (w : Wd) : Option (Int32 × Wd) :=
  l_X10_couldGoOn_6 f_X10_couldGoOn_75 FU v1 v2 v3 (0 : Int32) (0 : Int32) w
set_option maxRecDepth 20000 in
theorem c_X10_couldGoOn {E : Ev} (hL : LM E) (v1 : Int32) (v2 : Int32) (v3 : Int32) (w : Wd) : Ct E m_X10_couldGoOn yX10_couldGoOn rI [.ref (Ea E 50), .int v1, .int v2, .int v3] w (f_X10_couldGoOn v1 v2 v3 w) := by
  refine Ct.of (by decide) ⟨rfl, rfl⟩ (Nat.le_of_ble_eq_true rfl) ?_
  show Sim E m_X10_couldGoOn rI 0 [(0, .ref (Ea E 50)), (1, .int v1), (2, .int v2), (3, .int v3)] [] w (f_X10_couldGoOn v1 v2 v3 w)
  unfold f_X10_couldGoOn
  refine sim_iconst (0 : Int32) dX10_couldGoOn_0 rfl rfl ?_
  refine sim_istore [(4, .int (0 : Int32)), (0, .ref (Ea E 50)), (1, .int v1), (2, .int v2), (3, .int v3)] dX10_couldGoOn_1 (Nat.le_of_ble_eq_true rfl) rfl rfl ?_
  refine sim_iconst (0 : Int32) dX10_couldGoOn_3 rfl rfl ?_
  refine sim_istore [(5, .int (0 : Int32)), (4, .int (0 : Int32)), (0, .ref (Ea E 50)), (1, .int v1), (2, .int v2), (3, .int v3)] dX10_couldGoOn_4 (Nat.le_of_ble_eq_true rfl) rfl rfl ?_
  exact sim_sub [2, 3, 4, 5, 1, 0] rfl (sl_X10_couldGoOn_6 hL (sf_X10_couldGoOn_75 hL) FU v1 v2 v3 (0 : Int32) (0 : Int32) w)
def f_X10_isAttacked_65 (R : Int32 → Int32 → Int32 → Int32 → Wd → Option (Int32 × Wd)) (K63 : Wd → Option (Int32 × Wd)) (K71 : Wd → Option (Int32 × Wd)) (v1 : Int32) (v2 : Int32) (v3 : Int32) (v4 : Int32) (w : Wd) : Option (Int32 × Wd) :=
  R v1 v2 v3 (v4 + (1 : Int32)) w
set_option maxRecDepth 20000 in
theorem sf_X10_isAttacked_65 {E : Ev} (hL : LM E) {R : Int32 → Int32 → Int32 → Int32 → Wd → Option (Int32 × Wd)} (hR : ∀ (v1 : Int32) (v2 : Int32) (v3 : Int32) (v4 : Int32) (w : Wd), Sim E m_X10_isAttacked rI 3 [(0, .ref (Ea E 50)), (1, .int v1), (2, .int v2), (3, .int v3), (4, .int v4)] [] w (R v1 v2 v3 v4 w)) {K63 : Wd → Option (Int32 × Wd)} (hK63 : ∀ (w : Wd), Sim E m_X10_isAttacked rI 63 [] [] w (K63  w)) {K71 : Wd → Option (Int32 × Wd)} (hK71 : ∀ (w : Wd), Sim E m_X10_isAttacked rI 71 [] [] w (K71  w)) (v1 : Int32) (v2 : Int32) (v3 : Int32) (v4 : Int32) (w : Wd) : Sim E m_X10_isAttacked rI 65 [(0, .ref (Ea E 50)), (1, .int v1), (2, .int v2), (3, .int v3), (4, .int v4)] [] w (f_X10_isAttacked_65 R K63 K71 v1 v2 v3 v4 w) := by
  unfold f_X10_isAttacked_65
  refine sim_iinc (v4 + (1 : Int32)) 4 [(4, .int (v4 + (1 : Int32))), (0, .ref (Ea E 50)), (1, .int v1), (2, .int v2), (3, .int v3)] dX10_isAttacked_65 rfl rfl (Nat.le_of_ble_eq_true rfl) rfl rfl ?_
  refine sim_goto (q := 3) dX10_isAttacked_68 rfl ?_
  exact sim_sub [1, 2, 3, 4, 0] rfl (hR v1 v2 v3 (v4 + (1 : Int32)) w)
def b_X10_isAttacked_3 (R : Int32 → Int32 → Int32 → Int32 → Wd → Option (Int32 × Wd)) (K63 : Wd → Option (Int32 × Wd)) (K71 : Wd → Option (Int32 × Wd)) (v1 : Int32) (v2 : Int32) (v3 : Int32) (v4 : Int32) (w : Wd) : Option (Int32 × Wd) :=
  if ((w.1 50 0) * (w.1 50 0)) ≤ v4 then
  K71 w
  else
  if inb (((49 : Int32) * v1) + v4) 784 = true then
  lt (w.1 60 (Int32.toNatClampNeg (((49 : Int32) * v1) + v4))) fun x1 =>
  if x1 = (0 : Int32) then
  f_X10_isAttacked_65 R K63 K71 v1 v2 v3 v4 w
  else
  bd (f_X10_sideOf x1 w) fun x2 w3 =>
  if x2 = v2 then
  bd (f_X10_reaches v1 v4 x1 w3) fun _ w4 =>
  if inb v3 49 = true then
  if (w4.1 75 (Int32.toNatClampNeg v3)) = (0 : Int32) then
  f_X10_isAttacked_65 R K63 K71 v1 v2 v3 v4 w4
  else
  K63 w4
  else none
  else
  f_X10_isAttacked_65 R K63 K71 v1 v2 v3 v4 w3
  else none
set_option maxRecDepth 20000 in
theorem sb_X10_isAttacked_3 {E : Ev} (hL : LM E) {R : Int32 → Int32 → Int32 → Int32 → Wd → Option (Int32 × Wd)} (hR : ∀ (v1 : Int32) (v2 : Int32) (v3 : Int32) (v4 : Int32) (w : Wd), Sim E m_X10_isAttacked rI 3 [(0, .ref (Ea E 50)), (1, .int v1), (2, .int v2), (3, .int v3), (4, .int v4)] [] w (R v1 v2 v3 v4 w)) {K63 : Wd → Option (Int32 × Wd)} (hK63 : ∀ (w : Wd), Sim E m_X10_isAttacked rI 63 [] [] w (K63  w)) {K71 : Wd → Option (Int32 × Wd)} (hK71 : ∀ (w : Wd), Sim E m_X10_isAttacked rI 71 [] [] w (K71  w)) (v1 : Int32) (v2 : Int32) (v3 : Int32) (v4 : Int32) (w : Wd) : Sim E m_X10_isAttacked rI 3 [(0, .ref (Ea E 50)), (1, .int v1), (2, .int v2), (3, .int v3), (4, .int v4)] [] w (b_X10_isAttacked_3 R K63 K71 v1 v2 v3 v4 w) := by
  unfold b_X10_isAttacked_3
  refine sim_iload 4 dX10_isAttacked_3 rfl rfl ?_
  refine sim_aload_n 0 dX10_isAttacked_5 rfl rfl ?_
  refine sim_get (k := 50) (ci := 8) (j := 0) (v := .int (w.1 50 0)) (hL 50 rfl) rfl (by decide) fl_X10_143 rfl dX10_isAttacked_6 rfl ?_
  refine sim_aload_n 0 dX10_isAttacked_9 rfl rfl ?_
  refine sim_get (k := 50) (ci := 8) (j := 0) (v := .int (w.1 50 0)) (hL 50 rfl) rfl (by decide) fl_X10_143 rfl dX10_isAttacked_10 rfl ?_
  refine sim_imul dX10_isAttacked_13 rfl ?_
  refine sim_icmp_ge 71 dX10_isAttacked_14 rfl rfl (fun _ => ?_) (fun _ => ?_)
  · exact sim_sub [] rfl (hK71 w)
  · refine sim_aload_n 0 dX10_isAttacked_17 rfl rfl ?_
    refine sim_get (k := 50) (ci := 8) (j := 9) (v := .ref (Ea E 60)) (hL 50 rfl) rfl (by decide) fl_X10_31 rfl dX10_isAttacked_18 rfl ?_
    refine sim_bipush (49 : Int32) dX10_isAttacked_21 rfl rfl ?_
    refine sim_iload_n 1 dX10_isAttacked_23 rfl rfl ?_
    refine sim_imul dX10_isAttacked_24 rfl ?_
    refine sim_iload 4 dX10_isAttacked_25 rfl rfl ?_
    refine sim_iadd dX10_isAttacked_27 rfl ?_
    refine sim_iaload (k := 60) (hL 60 rfl) rfl rfl dX10_isAttacked_28 rfl ?_
    refine sim_lt (fun x1 => ?_)
    refine sim_istore [(5, .int x1), (0, .ref (Ea E 50)), (1, .int v1), (2, .int v2), (3, .int v3), (4, .int v4)] dX10_isAttacked_29 (Nat.le_of_ble_eq_true rfl) rfl rfl ?_
    refine sim_iload 0 dX10_isAttacked_31 rfl rfl ?_
    refine sim_if_eq 65 dX10_isAttacked_33 rfl rfl (fun _ => ?_) (fun _ => ?_)
    · exact sim_sub [1, 2, 3, 4, 5] rfl (sf_X10_isAttacked_65 hL hR hK63 hK71 v1 v2 v3 v4 w)
    · refine sim_iload 0 dX10_isAttacked_36 rfl rfl ?_
      refine sim_cSi [.int x1] [] (c_X10_sideOf hL x1 w) cb_X10_193 sx_X10_sideOf rfl rfl rfl (Nat.le_of_ble_eq_true rfl) dX10_isAttacked_38 rfl (fun x2 w3 => ?_)
      refine sim_iload_n 3 dX10_isAttacked_41 rfl rfl ?_
      refine sim_icmp_ne 65 dX10_isAttacked_42 rfl rfl (fun _ => ?_) (fun _ => ?_)
      · exact sim_sub [1, 2, 3, 4, 5] rfl (sf_X10_isAttacked_65 hL hR hK63 hK71 v1 v2 v3 v4 w3)
      · refine sim_aload_n 1 dX10_isAttacked_45 rfl rfl ?_
        refine sim_iload_n 2 dX10_isAttacked_46 rfl rfl ?_
        refine sim_iload 5 dX10_isAttacked_47 rfl rfl ?_
        refine sim_iload 0 dX10_isAttacked_49 rfl rfl ?_
        refine sim_cVv (k := 50) (ci := 8) [.int v1, .int v4, .int x1] [] (c_X10_reaches hL v1 v4 x1 w3) (hL 50 rfl) rfl (by decide) rfl cb_X10_203 im_X10_reaches se_X10_reaches rfl rfl rfl (Nat.le_of_ble_eq_true rfl) dX10_isAttacked_51 rfl (fun _ w4 => ?_)
        refine sim_aload_n 1 dX10_isAttacked_54 rfl rfl ?_
        refine sim_get (k := 50) (ci := 8) (j := 24) (v := .ref (Ea E 75)) (hL 50 rfl) rfl (by decide) fl_X10_73 rfl dX10_isAttacked_55 rfl ?_
        refine sim_iload_n 4 dX10_isAttacked_58 rfl rfl ?_
        refine sim_baload (k := 75) (hL 75 rfl) rfl rfl dX10_isAttacked_59 rfl ?_
        refine sim_if_eq 65 dX10_isAttacked_60 rfl rfl (fun _ => ?_) (fun _ => ?_)
        · exact sim_sub [1, 2, 3, 4, 5] rfl (sf_X10_isAttacked_65 hL hR hK63 hK71 v1 v2 v3 v4 w4)
        · exact sim_sub [] rfl (hK63 w4)
def l_X10_isAttacked_3 (K63 : Wd → Option (Int32 × Wd)) (K71 : Wd → Option (Int32 × Wd)) (n : Nat) : Int32 → Int32 → Int32 → Int32 → Wd → Option (Int32 × Wd) := itr (fun _ _ _ _ _ => none) (fun R => b_X10_isAttacked_3 R K63 K71) n
set_option maxRecDepth 20000 in
theorem sl_X10_isAttacked_3 {E : Ev} (hL : LM E) {K63 : Wd → Option (Int32 × Wd)} (hK63 : ∀ (w : Wd), Sim E m_X10_isAttacked rI 63 [] [] w (K63  w)) {K71 : Wd → Option (Int32 × Wd)} (hK71 : ∀ (w : Wd), Sim E m_X10_isAttacked rI 71 [] [] w (K71  w)) : ∀ (n : Nat) (v1 : Int32) (v2 : Int32) (v3 : Int32) (v4 : Int32) (w : Wd), Sim E m_X10_isAttacked rI 3 [(0, .ref (Ea E 50)), (1, .int v1), (2, .int v2), (3, .int v3), (4, .int v4)] [] w (l_X10_isAttacked_3 K63 K71 n v1 v2 v3 v4 w) := by
  intro n
  induction n with
  | zero => intros; exact sim_none
  | succ n ih => intros; exact sb_X10_isAttacked_3 hL (R := l_X10_isAttacked_3 K63 K71 n) ih hK63 hK71 _ _ _ _ _
def f_X10_isAttacked_63 (w : Wd) : Option (Int32 × Wd) :=
  if zb (1 : Int32) = true then some ((1 : Int32), w) else none
set_option maxRecDepth 20000 in
theorem sf_X10_isAttacked_63 {E : Ev} (hL : LM E) (w : Wd) : Sim E m_X10_isAttacked rI 63 [] [] w (f_X10_isAttacked_63 w) := by
  unfold f_X10_isAttacked_63
  refine sim_iconst (1 : Int32) dX10_isAttacked_63 rfl rfl ?_
  exact sim_zret rfl dX10_isAttacked_64
def f_X10_isAttacked_71 (w : Wd) : Option (Int32 × Wd) :=
  if zb (0 : Int32) = true then some ((0 : Int32), w) else none
set_option maxRecDepth 20000 in
theorem sf_X10_isAttacked_71 {E : Ev} (hL : LM E) (w : Wd) : Sim E m_X10_isAttacked rI 71 [] [] w (f_X10_isAttacked_71 w) := by
  unfold f_X10_isAttacked_71
  refine sim_iconst (0 : Int32) dX10_isAttacked_71 rfl rfl ?_
  exact sim_zret rfl dX10_isAttacked_72
def f_X10_isAttacked (v1 : Int32) (v2 : Int32) (v3 : Int32) (w : Wd) : Option (Int32 × Wd) :=
  l_X10_isAttacked_3 f_X10_isAttacked_63 f_X10_isAttacked_71 FU v1 v2 v3 (0 : Int32) w
set_option maxRecDepth 20000 in
theorem c_X10_isAttacked {E : Ev} (hL : LM E) (v1 : Int32) (v2 : Int32) (v3 : Int32) (w : Wd) : Ct E m_X10_isAttacked yX10_isAttacked rI [.ref (Ea E 50), .int v1, .int v2, .int v3] w (f_X10_isAttacked v1 v2 v3 w) := by
  refine Ct.of (by decide) ⟨rfl, rfl⟩ (Nat.le_of_ble_eq_true rfl) ?_
  show Sim E m_X10_isAttacked rI 0 [(0, .ref (Ea E 50)), (1, .int v1), (2, .int v2), (3, .int v3)] [] w (f_X10_isAttacked v1 v2 v3 w)
  unfold f_X10_isAttacked
  refine sim_iconst (0 : Int32) dX10_isAttacked_0 rfl rfl ?_
  refine sim_istore [(4, .int (0 : Int32)), (0, .ref (Ea E 50)), (1, .int v1), (2, .int v2), (3, .int v3)] dX10_isAttacked_1 (Nat.le_of_ble_eq_true rfl) rfl rfl ?_
  exact sim_sub [1, 2, 3, 4, 0] rfl (sl_X10_isAttacked_3 hL (sf_X10_isAttacked_63 hL) (sf_X10_isAttacked_71 hL) FU v1 v2 v3 (0 : Int32) w)
def f_X10_inCheck_60 (R : Int32 → Int32 → Int32 → Wd → Option (Int32 × Wd)) (K50 : Int32 → Int32 → Int32 → Wd → Option (Int32 × Wd)) (K66 : Wd → Option (Int32 × Wd)) (v1 : Int32) (v2 : Int32) (v3 : Int32) (w : Wd) : Option (Int32 × Wd) :=
  R v1 v2 (v3 + (1 : Int32)) w
set_option maxRecDepth 20000 in
theorem sf_X10_inCheck_60 {E : Ev} (hL : LM E) {R : Int32 → Int32 → Int32 → Wd → Option (Int32 × Wd)} (hR : ∀ (v1 : Int32) (v2 : Int32) (v3 : Int32) (w : Wd), Sim E m_X10_inCheck rI 2 [(0, .ref (Ea E 50)), (1, .int v1), (2, .int v2), (3, .int v3)] [] w (R v1 v2 v3 w)) {K50 : Int32 → Int32 → Int32 → Wd → Option (Int32 × Wd)} (hK50 : ∀ (v1 : Int32) (v2 : Int32) (v3 : Int32) (w : Wd), Sim E m_X10_inCheck rI 50 [(0, .ref (Ea E 50)), (1, .int v1), (2, .int v2), (3, .int v3)] [] w (K50 v1 v2 v3 w)) {K66 : Wd → Option (Int32 × Wd)} (hK66 : ∀ (w : Wd), Sim E m_X10_inCheck rI 66 [] [] w (K66  w)) (v1 : Int32) (v2 : Int32) (v3 : Int32) (w : Wd) : Sim E m_X10_inCheck rI 60 [(0, .ref (Ea E 50)), (1, .int v1), (2, .int v2), (3, .int v3)] [] w (f_X10_inCheck_60 R K50 K66 v1 v2 v3 w) := by
  unfold f_X10_inCheck_60
  refine sim_iinc (v3 + (1 : Int32)) 3 [(3, .int (v3 + (1 : Int32))), (0, .ref (Ea E 50)), (1, .int v1), (2, .int v2)] dX10_inCheck_60 rfl rfl (Nat.le_of_ble_eq_true rfl) rfl rfl ?_
  refine sim_goto (q := 2) dX10_inCheck_63 rfl ?_
  exact sim_sub [1, 2, 3, 0] rfl (hR v1 v2 (v3 + (1 : Int32)) w)
def b_X10_inCheck_2 (R : Int32 → Int32 → Int32 → Wd → Option (Int32 × Wd)) (K50 : Int32 → Int32 → Int32 → Wd → Option (Int32 × Wd)) (K66 : Wd → Option (Int32 × Wd)) (v1 : Int32) (v2 : Int32) (v3 : Int32) (w : Wd) : Option (Int32 × Wd) :=
  if ((w.1 50 0) * (w.1 50 0)) ≤ v3 then
  K66 w
  else
  if inb (((49 : Int32) * v1) + v3) 784 = true then
  lt (w.1 60 (Int32.toNatClampNeg (((49 : Int32) * v1) + v3))) fun x1 =>
  if x1 = (0 : Int32) then
  f_X10_inCheck_60 R K50 K66 v1 v2 v3 w
  else
  bd (f_X10_kindOf x1 w) fun x2 w3 =>
  if x2 = (0 : Int32) then
  bd (f_X10_sideOf x1 w3) fun x4 w5 =>
  if x4 = v2 then
  K50 v1 v2 v3 w5
  else
  f_X10_inCheck_60 R K50 K66 v1 v2 v3 w5
  else
  f_X10_inCheck_60 R K50 K66 v1 v2 v3 w3
  else none
set_option maxRecDepth 20000 in
theorem sb_X10_inCheck_2 {E : Ev} (hL : LM E) {R : Int32 → Int32 → Int32 → Wd → Option (Int32 × Wd)} (hR : ∀ (v1 : Int32) (v2 : Int32) (v3 : Int32) (w : Wd), Sim E m_X10_inCheck rI 2 [(0, .ref (Ea E 50)), (1, .int v1), (2, .int v2), (3, .int v3)] [] w (R v1 v2 v3 w)) {K50 : Int32 → Int32 → Int32 → Wd → Option (Int32 × Wd)} (hK50 : ∀ (v1 : Int32) (v2 : Int32) (v3 : Int32) (w : Wd), Sim E m_X10_inCheck rI 50 [(0, .ref (Ea E 50)), (1, .int v1), (2, .int v2), (3, .int v3)] [] w (K50 v1 v2 v3 w)) {K66 : Wd → Option (Int32 × Wd)} (hK66 : ∀ (w : Wd), Sim E m_X10_inCheck rI 66 [] [] w (K66  w)) (v1 : Int32) (v2 : Int32) (v3 : Int32) (w : Wd) : Sim E m_X10_inCheck rI 2 [(0, .ref (Ea E 50)), (1, .int v1), (2, .int v2), (3, .int v3)] [] w (b_X10_inCheck_2 R K50 K66 v1 v2 v3 w) := by
  unfold b_X10_inCheck_2
  refine sim_iload_n 3 dX10_inCheck_2 rfl rfl ?_
  refine sim_aload_n 0 dX10_inCheck_3 rfl rfl ?_
  refine sim_get (k := 50) (ci := 8) (j := 0) (v := .int (w.1 50 0)) (hL 50 rfl) rfl (by decide) fl_X10_143 rfl dX10_inCheck_4 rfl ?_
  refine sim_aload_n 0 dX10_inCheck_7 rfl rfl ?_
  refine sim_get (k := 50) (ci := 8) (j := 0) (v := .int (w.1 50 0)) (hL 50 rfl) rfl (by decide) fl_X10_143 rfl dX10_inCheck_8 rfl ?_
  refine sim_imul dX10_inCheck_11 rfl ?_
  refine sim_icmp_ge 66 dX10_inCheck_12 rfl rfl (fun _ => ?_) (fun _ => ?_)
  · exact sim_sub [] rfl (hK66 w)
  · refine sim_aload_n 0 dX10_inCheck_15 rfl rfl ?_
    refine sim_get (k := 50) (ci := 8) (j := 9) (v := .ref (Ea E 60)) (hL 50 rfl) rfl (by decide) fl_X10_31 rfl dX10_inCheck_16 rfl ?_
    refine sim_bipush (49 : Int32) dX10_inCheck_19 rfl rfl ?_
    refine sim_iload_n 1 dX10_inCheck_21 rfl rfl ?_
    refine sim_imul dX10_inCheck_22 rfl ?_
    refine sim_iload_n 3 dX10_inCheck_23 rfl rfl ?_
    refine sim_iadd dX10_inCheck_24 rfl ?_
    refine sim_iaload (k := 60) (hL 60 rfl) rfl rfl dX10_inCheck_25 rfl ?_
    refine sim_lt (fun x1 => ?_)
    refine sim_istore [(4, .int x1), (0, .ref (Ea E 50)), (1, .int v1), (2, .int v2), (3, .int v3)] dX10_inCheck_26 (Nat.le_of_ble_eq_true rfl) rfl rfl ?_
    refine sim_iload 0 dX10_inCheck_28 rfl rfl ?_
    refine sim_if_eq 60 dX10_inCheck_30 rfl rfl (fun _ => ?_) (fun _ => ?_)
    · exact sim_sub [1, 2, 3, 4] rfl (sf_X10_inCheck_60 hL hR hK50 hK66 v1 v2 v3 w)
    · refine sim_iload 0 dX10_inCheck_33 rfl rfl ?_
      refine sim_cSi [.int x1] [] (c_X10_kindOf hL x1 w) cb_X10_187 sx_X10_kindOf rfl rfl rfl (Nat.le_of_ble_eq_true rfl) dX10_inCheck_35 rfl (fun x2 w3 => ?_)
      refine sim_if_ne 60 dX10_inCheck_38 rfl rfl (fun _ => ?_) (fun _ => ?_)
      · exact sim_sub [1, 2, 3, 4] rfl (sf_X10_inCheck_60 hL hR hK50 hK66 v1 v2 v3 w3)
      · refine sim_iload 0 dX10_inCheck_41 rfl rfl ?_
        refine sim_cSi [.int x1] [] (c_X10_sideOf hL x1 w3) cb_X10_193 sx_X10_sideOf rfl rfl rfl (Nat.le_of_ble_eq_true rfl) dX10_inCheck_43 rfl (fun x4 w5 => ?_)
        refine sim_iload_n 3 dX10_inCheck_46 rfl rfl ?_
        refine sim_icmp_ne 60 dX10_inCheck_47 rfl rfl (fun _ => ?_) (fun _ => ?_)
        · exact sim_sub [1, 2, 3, 4] rfl (sf_X10_inCheck_60 hL hR hK50 hK66 v1 v2 v3 w5)
        · exact sim_sub [1, 2, 3, 4] rfl (hK50 v1 v2 v3 w5)
def l_X10_inCheck_2 (K50 : Int32 → Int32 → Int32 → Wd → Option (Int32 × Wd)) (K66 : Wd → Option (Int32 × Wd)) (n : Nat) : Int32 → Int32 → Int32 → Wd → Option (Int32 × Wd) := itr (fun _ _ _ _ => none) (fun R => b_X10_inCheck_2 R K50 K66) n
set_option maxRecDepth 20000 in
theorem sl_X10_inCheck_2 {E : Ev} (hL : LM E) {K50 : Int32 → Int32 → Int32 → Wd → Option (Int32 × Wd)} (hK50 : ∀ (v1 : Int32) (v2 : Int32) (v3 : Int32) (w : Wd), Sim E m_X10_inCheck rI 50 [(0, .ref (Ea E 50)), (1, .int v1), (2, .int v2), (3, .int v3)] [] w (K50 v1 v2 v3 w)) {K66 : Wd → Option (Int32 × Wd)} (hK66 : ∀ (w : Wd), Sim E m_X10_inCheck rI 66 [] [] w (K66  w)) : ∀ (n : Nat) (v1 : Int32) (v2 : Int32) (v3 : Int32) (w : Wd), Sim E m_X10_inCheck rI 2 [(0, .ref (Ea E 50)), (1, .int v1), (2, .int v2), (3, .int v3)] [] w (l_X10_inCheck_2 K50 K66 n v1 v2 v3 w) := by
  intro n
  induction n with
  | zero => intros; exact sim_none
  | succ n ih => intros; exact sb_X10_inCheck_2 hL (R := l_X10_inCheck_2 K50 K66 n) ih hK50 hK66 _ _ _ _
def f_X10_inCheck_50 (v1 : Int32) (v2 : Int32) (v3 : Int32) (w : Wd) : Option (Int32 × Wd) :=
  bd (f_X10_isAttacked v1 ((1 : Int32) - v2) v3 w) fun x6 w7 =>
  if zb x6 = true then some (x6, w7) else none
set_option maxRecDepth 20000 in
theorem sf_X10_inCheck_50 {E : Ev} (hL : LM E) (v1 : Int32) (v2 : Int32) (v3 : Int32) (w : Wd) : Sim E m_X10_inCheck rI 50 [(0, .ref (Ea E 50)), (1, .int v1), (2, .int v2), (3, .int v3)] [] w (f_X10_inCheck_50 v1 v2 v3 w) := by
  unfold f_X10_inCheck_50
  refine sim_aload_n 0 dX10_inCheck_50 rfl rfl ?_
  refine sim_iload_n 1 dX10_inCheck_51 rfl rfl ?_
  refine sim_iconst (1 : Int32) dX10_inCheck_52 rfl rfl ?_
  refine sim_iload_n 2 dX10_inCheck_53 rfl rfl ?_
  refine sim_isub dX10_inCheck_54 rfl ?_
  refine sim_iload_n 3 dX10_inCheck_55 rfl rfl ?_
  refine sim_cVi (k := 50) (ci := 8) [.int v1, .int ((1 : Int32) - v2), .int v3] [] (c_X10_isAttacked hL v1 ((1 : Int32) - v2) v3 w) (hL 50 rfl) rfl (by decide) rfl cb_X10_207 im_X10_isAttacked se_X10_isAttacked rfl rfl rfl (Nat.le_of_ble_eq_true rfl) dX10_inCheck_56 rfl (fun x6 w7 => ?_)
  exact sim_zret rfl dX10_inCheck_59
def f_X10_inCheck_66 (w : Wd) : Option (Int32 × Wd) :=
  if zb (0 : Int32) = true then some ((0 : Int32), w) else none
set_option maxRecDepth 20000 in
theorem sf_X10_inCheck_66 {E : Ev} (hL : LM E) (w : Wd) : Sim E m_X10_inCheck rI 66 [] [] w (f_X10_inCheck_66 w) := by
  unfold f_X10_inCheck_66
  refine sim_iconst (0 : Int32) dX10_inCheck_66 rfl rfl ?_
  exact sim_zret rfl dX10_inCheck_67
def f_X10_inCheck (v1 : Int32) (v2 : Int32) (w : Wd) : Option (Int32 × Wd) :=
  l_X10_inCheck_2 f_X10_inCheck_50 f_X10_inCheck_66 FU v1 v2 (0 : Int32) w
set_option maxRecDepth 20000 in
theorem c_X10_inCheck {E : Ev} (hL : LM E) (v1 : Int32) (v2 : Int32) (w : Wd) : Ct E m_X10_inCheck yX10_inCheck rI [.ref (Ea E 50), .int v1, .int v2] w (f_X10_inCheck v1 v2 w) := by
  refine Ct.of (by decide) ⟨rfl, rfl⟩ (Nat.le_of_ble_eq_true rfl) ?_
  show Sim E m_X10_inCheck rI 0 [(0, .ref (Ea E 50)), (1, .int v1), (2, .int v2)] [] w (f_X10_inCheck v1 v2 w)
  unfold f_X10_inCheck
  refine sim_iconst (0 : Int32) dX10_inCheck_0 rfl rfl ?_
  refine sim_istore_n [(3, .int (0 : Int32)), (0, .ref (Ea E 50)), (1, .int v1), (2, .int v2)] dX10_inCheck_1 (Nat.le_of_ble_eq_true rfl) rfl rfl ?_
  exact sim_sub [1, 2, 3, 0] rfl (sl_X10_inCheck_2 hL (sf_X10_inCheck_50 hL) (sf_X10_inCheck_66 hL) FU v1 v2 (0 : Int32) w)
def f_X10_isZone_49 (s0 : Int32) (w : Wd) : Option (Int32 × Wd) :=
  if zb s0 = true then some (s0, w) else none
set_option maxRecDepth 20000 in
theorem sf_X10_isZone_49 {E : Ev} (hL : LM E) (s0 : Int32) (w : Wd) : Sim E m_X10_isZone rI 49 [] [.int s0] w (f_X10_isZone_49 s0 w) := by
  unfold f_X10_isZone_49
  exact sim_zret rfl dX10_isZone_49
def f_X10_isZone_44 (w : Wd) : Option (Int32 × Wd) :=
  f_X10_isZone_49 (1 : Int32) w
set_option maxRecDepth 20000 in
theorem sf_X10_isZone_44 {E : Ev} (hL : LM E) (w : Wd) : Sim E m_X10_isZone rI 44 [] [] w (f_X10_isZone_44 w) := by
  unfold f_X10_isZone_44
  refine sim_iconst (1 : Int32) dX10_isZone_44 rfl rfl ?_
  refine sim_goto (q := 49) dX10_isZone_45 rfl ?_
  exact sim_sub [] rfl (sf_X10_isZone_49 hL (1 : Int32) w)
def f_X10_isZone_48 (w : Wd) : Option (Int32 × Wd) :=
  f_X10_isZone_49 (0 : Int32) w
set_option maxRecDepth 20000 in
theorem sf_X10_isZone_48 {E : Ev} (hL : LM E) (w : Wd) : Sim E m_X10_isZone rI 48 [] [] w (f_X10_isZone_48 w) := by
  unfold f_X10_isZone_48
  refine sim_iconst (0 : Int32) dX10_isZone_48 rfl rfl ?_
  exact sim_sub [] rfl (sf_X10_isZone_49 hL (0 : Int32) w)
def f_X10_isZone_26 (s0 : Int32) (w : Wd) : Option (Int32 × Wd) :=
  if s0 = (0 : Int32) then
  f_X10_isZone_44 w
  else
  if (w.1 50 0) ≤ (5 : Int32) then
  f_X10_isZone_48 w
  else
  if s0 = (1 : Int32) then
  f_X10_isZone_44 w
  else
  f_X10_isZone_48 w
set_option maxRecDepth 20000 in
theorem sf_X10_isZone_26 {E : Ev} (hL : LM E) (s0 : Int32) (w : Wd) : Sim E m_X10_isZone rI 26 [(0, .ref (Ea E 50))] [.int s0] w (f_X10_isZone_26 s0 w) := by
  unfold f_X10_isZone_26
  refine sim_istore_n [(3, .int s0), (0, .ref (Ea E 50))] dX10_isZone_26 (Nat.le_of_ble_eq_true rfl) rfl rfl ?_
  refine sim_iload_n 0 dX10_isZone_27 rfl rfl ?_
  refine sim_if_eq 44 dX10_isZone_28 rfl rfl (fun _ => ?_) (fun _ => ?_)
  · exact sim_sub [] rfl (sf_X10_isZone_44 hL w)
  · refine sim_aload_n 1 dX10_isZone_31 rfl rfl ?_
    refine sim_get (k := 50) (ci := 8) (j := 0) (v := .int (w.1 50 0)) (hL 50 rfl) rfl (by decide) fl_X10_143 rfl dX10_isZone_32 rfl ?_
    refine sim_iconst (5 : Int32) dX10_isZone_35 rfl rfl ?_
    refine sim_icmp_le 48 dX10_isZone_36 rfl rfl (fun _ => ?_) (fun _ => ?_)
    · exact sim_sub [] rfl (sf_X10_isZone_48 hL w)
    · refine sim_iload_n 0 dX10_isZone_39 rfl rfl ?_
      refine sim_iconst (1 : Int32) dX10_isZone_40 rfl rfl ?_
      refine sim_icmp_ne 48 dX10_isZone_41 rfl rfl (fun _ => ?_) (fun _ => ?_)
      · exact sim_sub [] rfl (sf_X10_isZone_48 hL w)
      · exact sim_sub [] rfl (sf_X10_isZone_44 hL w)
def f_X10_isZone (v1 : Int32) (v2 : Int32) (w : Wd) : Option (Int32 × Wd) :=
  if v1 = (0 : Int32) then
  if ¬ (w.1 50 0) = (0 : Int32) then
  f_X10_isZone_26 (v2 / (w.1 50 0)) w
  else none
  else
  if ¬ (w.1 50 0) = (0 : Int32) then
  f_X10_isZone_26 (((w.1 50 0) - (1 : Int32)) - (v2 / (w.1 50 0))) w
  else none
set_option maxRecDepth 20000 in
theorem c_X10_isZone {E : Ev} (hL : LM E) (v1 : Int32) (v2 : Int32) (w : Wd) : Ct E m_X10_isZone yX10_isZone rI [.ref (Ea E 50), .int v1, .int v2] w (f_X10_isZone v1 v2 w) := by
  refine Ct.of (by decide) ⟨rfl, rfl⟩ (Nat.le_of_ble_eq_true rfl) ?_
  show Sim E m_X10_isZone rI 0 [(0, .ref (Ea E 50)), (1, .int v1), (2, .int v2)] [] w (f_X10_isZone v1 v2 w)
  unfold f_X10_isZone
  refine sim_iload_n 1 dX10_isZone_0 rfl rfl ?_
  refine sim_if_ne 13 dX10_isZone_1 rfl rfl (fun _ => ?_) (fun _ => ?_)
  · refine sim_aload_n 0 dX10_isZone_13 rfl rfl ?_
    refine sim_get (k := 50) (ci := 8) (j := 0) (v := .int (w.1 50 0)) (hL 50 rfl) rfl (by decide) fl_X10_143 rfl dX10_isZone_14 rfl ?_
    refine sim_iconst (1 : Int32) dX10_isZone_17 rfl rfl ?_
    refine sim_isub dX10_isZone_18 rfl ?_
    refine sim_iload_n 2 dX10_isZone_19 rfl rfl ?_
    refine sim_aload_n 0 dX10_isZone_20 rfl rfl ?_
    refine sim_get (k := 50) (ci := 8) (j := 0) (v := .int (w.1 50 0)) (hL 50 rfl) rfl (by decide) fl_X10_143 rfl dX10_isZone_21 rfl ?_
    refine sim_idiv dX10_isZone_24 rfl ?_
    refine sim_isub dX10_isZone_25 rfl ?_
    exact sim_sub [0] rfl (sf_X10_isZone_26 hL (((w.1 50 0) - (1 : Int32)) - (v2 / (w.1 50 0))) w)
  · refine sim_iload_n 2 dX10_isZone_4 rfl rfl ?_
    refine sim_aload_n 0 dX10_isZone_5 rfl rfl ?_
    refine sim_get (k := 50) (ci := 8) (j := 0) (v := .int (w.1 50 0)) (hL 50 rfl) rfl (by decide) fl_X10_143 rfl dX10_isZone_6 rfl ?_
    refine sim_idiv dX10_isZone_9 rfl ?_
    refine sim_goto (q := 26) dX10_isZone_10 rfl ?_
    exact sim_sub [0] rfl (sf_X10_isZone_26 hL (v2 / (w.1 50 0)) w)
def b_X10_make_8 (R : Int32 → Int32 → Int32 → Int32 → Int32 → Int32 → Int32 → Wd → Option (Unit × Wd)) (K46 : Int32 → Int32 → Int32 → Int32 → Int32 → Int32 → Wd → Option (Unit × Wd)) (v1 : Int32) (v2 : Int32) (v3 : Int32) (v4 : Int32) (v5 : Int32) (v6 : Int32) (v7 : Int32) (w : Wd) : Option (Unit × Wd) :=
  if (49 : Int32) ≤ v7 then
  K46 v1 v2 v3 v4 v5 v6 w
  else
  if inb (((49 : Int32) * v1) + v7) 784 = true then
  if inb (((49 : Int32) * v6) + v7) 784 = true then
  lw (wdI w 60 (Int32.toNatClampNeg (((49 : Int32) * v6) + v7)) (w.1 60 (Int32.toNatClampNeg (((49 : Int32) * v1) + v7)))) fun w2 =>
  R v1 v2 v3 v4 v5 v6 (v7 + (1 : Int32)) w2
  else none
  else none
set_option maxRecDepth 20000 in
theorem sb_X10_make_8 {E : Ev} (hL : LM E) {R : Int32 → Int32 → Int32 → Int32 → Int32 → Int32 → Int32 → Wd → Option (Unit × Wd)} (hR : ∀ (v1 : Int32) (v2 : Int32) (v3 : Int32) (v4 : Int32) (v5 : Int32) (v6 : Int32) (v7 : Int32) (w : Wd), Sim E m_X10_make rV 8 [(0, .ref (Ea E 50)), (1, .int v1), (2, .int v2), (3, .int v3), (4, .int v4), (5, .int v5), (6, .int v6), (7, .int v7)] [] w (R v1 v2 v3 v4 v5 v6 v7 w)) {K46 : Int32 → Int32 → Int32 → Int32 → Int32 → Int32 → Wd → Option (Unit × Wd)} (hK46 : ∀ (v1 : Int32) (v2 : Int32) (v3 : Int32) (v4 : Int32) (v5 : Int32) (v6 : Int32) (w : Wd), Sim E m_X10_make rV 46 [(0, .ref (Ea E 50)), (1, .int v1), (2, .int v2), (3, .int v3), (4, .int v4), (5, .int v5), (6, .int v6)] [] w (K46 v1 v2 v3 v4 v5 v6 w)) (v1 : Int32) (v2 : Int32) (v3 : Int32) (v4 : Int32) (v5 : Int32) (v6 : Int32) (v7 : Int32) (w : Wd) : Sim E m_X10_make rV 8 [(0, .ref (Ea E 50)), (1, .int v1), (2, .int v2), (3, .int v3), (4, .int v4), (5, .int v5), (6, .int v6), (7, .int v7)] [] w (b_X10_make_8 R K46 v1 v2 v3 v4 v5 v6 v7 w) := by
  unfold b_X10_make_8
  refine sim_iload 7 dX10_make_8 rfl rfl ?_
  refine sim_bipush (49 : Int32) dX10_make_10 rfl rfl ?_
  refine sim_icmp_ge 46 dX10_make_12 rfl rfl (fun _ => ?_) (fun _ => ?_)
  · exact sim_sub [0, 1, 2, 3, 4, 5, 6] rfl (hK46 v1 v2 v3 v4 v5 v6 w)
  · refine sim_aload_n 0 dX10_make_15 rfl rfl ?_
    refine sim_get (k := 50) (ci := 8) (j := 9) (v := .ref (Ea E 60)) (hL 50 rfl) rfl (by decide) fl_X10_31 rfl dX10_make_16 rfl ?_
    refine sim_bipush (49 : Int32) dX10_make_19 rfl rfl ?_
    refine sim_iload 6 dX10_make_21 rfl rfl ?_
    refine sim_imul dX10_make_23 rfl ?_
    refine sim_iload 7 dX10_make_24 rfl rfl ?_
    refine sim_iadd dX10_make_26 rfl ?_
    refine sim_aload_n 0 dX10_make_27 rfl rfl ?_
    refine sim_get (k := 50) (ci := 8) (j := 9) (v := .ref (Ea E 60)) (hL 50 rfl) rfl (by decide) fl_X10_31 rfl dX10_make_28 rfl ?_
    refine sim_bipush (49 : Int32) dX10_make_31 rfl rfl ?_
    refine sim_iload_n 1 dX10_make_33 rfl rfl ?_
    refine sim_imul dX10_make_34 rfl ?_
    refine sim_iload 7 dX10_make_35 rfl rfl ?_
    refine sim_iadd dX10_make_37 rfl ?_
    refine sim_iaload (k := 60) (hL 60 rfl) rfl rfl dX10_make_38 rfl ?_
    refine sim_iastore (k := 60) (hL 60 rfl) rfl rfl dX10_make_39 rfl ?_
    refine sim_lw (fun w2 => ?_)
    refine sim_iinc (v7 + (1 : Int32)) 7 [(7, .int (v7 + (1 : Int32))), (0, .ref (Ea E 50)), (1, .int v1), (2, .int v2), (3, .int v3), (4, .int v4), (5, .int v5), (6, .int v6)] dX10_make_40 rfl rfl (Nat.le_of_ble_eq_true rfl) rfl rfl ?_
    refine sim_goto (q := 8) dX10_make_43 rfl ?_
    exact sim_sub [1, 2, 3, 4, 5, 6, 7, 0] rfl (hR v1 v2 v3 v4 v5 v6 (v7 + (1 : Int32)) w2)
def l_X10_make_8 (K46 : Int32 → Int32 → Int32 → Int32 → Int32 → Int32 → Wd → Option (Unit × Wd)) (n : Nat) : Int32 → Int32 → Int32 → Int32 → Int32 → Int32 → Int32 → Wd → Option (Unit × Wd) := itr (fun _ _ _ _ _ _ _ _ => none) (fun R => b_X10_make_8 R K46) n
set_option maxRecDepth 20000 in
theorem sl_X10_make_8 {E : Ev} (hL : LM E) {K46 : Int32 → Int32 → Int32 → Int32 → Int32 → Int32 → Wd → Option (Unit × Wd)} (hK46 : ∀ (v1 : Int32) (v2 : Int32) (v3 : Int32) (v4 : Int32) (v5 : Int32) (v6 : Int32) (w : Wd), Sim E m_X10_make rV 46 [(0, .ref (Ea E 50)), (1, .int v1), (2, .int v2), (3, .int v3), (4, .int v4), (5, .int v5), (6, .int v6)] [] w (K46 v1 v2 v3 v4 v5 v6 w)) : ∀ (n : Nat) (v1 : Int32) (v2 : Int32) (v3 : Int32) (v4 : Int32) (v5 : Int32) (v6 : Int32) (v7 : Int32) (w : Wd), Sim E m_X10_make rV 8 [(0, .ref (Ea E 50)), (1, .int v1), (2, .int v2), (3, .int v3), (4, .int v4), (5, .int v5), (6, .int v6), (7, .int v7)] [] w (l_X10_make_8 K46 n v1 v2 v3 v4 v5 v6 v7 w) := by
  intro n
  induction n with
  | zero => intros; exact sim_none
  | succ n ih => intros; exact sb_X10_make_8 hL (R := l_X10_make_8 K46 n) ih hK46 _ _ _ _ _ _ _ _
def b_X10_make_49 (R : Int32 → Int32 → Int32 → Int32 → Int32 → Int32 → Int32 → Wd → Option (Unit × Wd)) (K87 : Int32 → Int32 → Int32 → Int32 → Int32 → Int32 → Wd → Option (Unit × Wd)) (v1 : Int32) (v2 : Int32) (v3 : Int32) (v4 : Int32) (v5 : Int32) (v6 : Int32) (v7 : Int32) (w : Wd) : Option (Unit × Wd) :=
  if (16 : Int32) ≤ v7 then
  K87 v1 v2 v3 v4 v5 v6 w
  else
  if inb (((16 : Int32) * v1) + v7) 256 = true then
  if inb (((16 : Int32) * v6) + v7) 256 = true then
  lw (wdI w 61 (Int32.toNatClampNeg (((16 : Int32) * v6) + v7)) (w.1 61 (Int32.toNatClampNeg (((16 : Int32) * v1) + v7)))) fun w3 =>
  R v1 v2 v3 v4 v5 v6 (v7 + (1 : Int32)) w3
  else none
  else none
set_option maxRecDepth 20000 in
theorem sb_X10_make_49 {E : Ev} (hL : LM E) {R : Int32 → Int32 → Int32 → Int32 → Int32 → Int32 → Int32 → Wd → Option (Unit × Wd)} (hR : ∀ (v1 : Int32) (v2 : Int32) (v3 : Int32) (v4 : Int32) (v5 : Int32) (v6 : Int32) (v7 : Int32) (w : Wd), Sim E m_X10_make rV 49 [(0, .ref (Ea E 50)), (1, .int v1), (2, .int v2), (3, .int v3), (4, .int v4), (5, .int v5), (6, .int v6), (7, .int v7)] [] w (R v1 v2 v3 v4 v5 v6 v7 w)) {K87 : Int32 → Int32 → Int32 → Int32 → Int32 → Int32 → Wd → Option (Unit × Wd)} (hK87 : ∀ (v1 : Int32) (v2 : Int32) (v3 : Int32) (v4 : Int32) (v5 : Int32) (v6 : Int32) (w : Wd), Sim E m_X10_make rV 87 [(0, .ref (Ea E 50)), (1, .int v1), (2, .int v2), (3, .int v3), (4, .int v4), (5, .int v5), (6, .int v6)] [] w (K87 v1 v2 v3 v4 v5 v6 w)) (v1 : Int32) (v2 : Int32) (v3 : Int32) (v4 : Int32) (v5 : Int32) (v6 : Int32) (v7 : Int32) (w : Wd) : Sim E m_X10_make rV 49 [(0, .ref (Ea E 50)), (1, .int v1), (2, .int v2), (3, .int v3), (4, .int v4), (5, .int v5), (6, .int v6), (7, .int v7)] [] w (b_X10_make_49 R K87 v1 v2 v3 v4 v5 v6 v7 w) := by
  unfold b_X10_make_49
  refine sim_iload 7 dX10_make_49 rfl rfl ?_
  refine sim_bipush (16 : Int32) dX10_make_51 rfl rfl ?_
  refine sim_icmp_ge 87 dX10_make_53 rfl rfl (fun _ => ?_) (fun _ => ?_)
  · exact sim_sub [0, 1, 2, 3, 4, 5, 6] rfl (hK87 v1 v2 v3 v4 v5 v6 w)
  · refine sim_aload_n 0 dX10_make_56 rfl rfl ?_
    refine sim_get (k := 50) (ci := 8) (j := 10) (v := .ref (Ea E 61)) (hL 50 rfl) rfl (by decide) fl_X10_34 rfl dX10_make_57 rfl ?_
    refine sim_bipush (16 : Int32) dX10_make_60 rfl rfl ?_
    refine sim_iload 6 dX10_make_62 rfl rfl ?_
    refine sim_imul dX10_make_64 rfl ?_
    refine sim_iload 7 dX10_make_65 rfl rfl ?_
    refine sim_iadd dX10_make_67 rfl ?_
    refine sim_aload_n 0 dX10_make_68 rfl rfl ?_
    refine sim_get (k := 50) (ci := 8) (j := 10) (v := .ref (Ea E 61)) (hL 50 rfl) rfl (by decide) fl_X10_34 rfl dX10_make_69 rfl ?_
    refine sim_bipush (16 : Int32) dX10_make_72 rfl rfl ?_
    refine sim_iload_n 1 dX10_make_74 rfl rfl ?_
    refine sim_imul dX10_make_75 rfl ?_
    refine sim_iload 7 dX10_make_76 rfl rfl ?_
    refine sim_iadd dX10_make_78 rfl ?_
    refine sim_iaload (k := 61) (hL 61 rfl) rfl rfl dX10_make_79 rfl ?_
    refine sim_iastore (k := 61) (hL 61 rfl) rfl rfl dX10_make_80 rfl ?_
    refine sim_lw (fun w3 => ?_)
    refine sim_iinc (v7 + (1 : Int32)) 7 [(7, .int (v7 + (1 : Int32))), (0, .ref (Ea E 50)), (1, .int v1), (2, .int v2), (3, .int v3), (4, .int v4), (5, .int v5), (6, .int v6)] dX10_make_81 rfl rfl (Nat.le_of_ble_eq_true rfl) rfl rfl ?_
    refine sim_goto (q := 49) dX10_make_84 rfl ?_
    exact sim_sub [1, 2, 3, 4, 5, 6, 7, 0] rfl (hR v1 v2 v3 v4 v5 v6 (v7 + (1 : Int32)) w3)
def l_X10_make_49 (K87 : Int32 → Int32 → Int32 → Int32 → Int32 → Int32 → Wd → Option (Unit × Wd)) (n : Nat) : Int32 → Int32 → Int32 → Int32 → Int32 → Int32 → Int32 → Wd → Option (Unit × Wd) := itr (fun _ _ _ _ _ _ _ _ => none) (fun R => b_X10_make_49 R K87) n
set_option maxRecDepth 20000 in
theorem sl_X10_make_49 {E : Ev} (hL : LM E) {K87 : Int32 → Int32 → Int32 → Int32 → Int32 → Int32 → Wd → Option (Unit × Wd)} (hK87 : ∀ (v1 : Int32) (v2 : Int32) (v3 : Int32) (v4 : Int32) (v5 : Int32) (v6 : Int32) (w : Wd), Sim E m_X10_make rV 87 [(0, .ref (Ea E 50)), (1, .int v1), (2, .int v2), (3, .int v3), (4, .int v4), (5, .int v5), (6, .int v6)] [] w (K87 v1 v2 v3 v4 v5 v6 w)) : ∀ (n : Nat) (v1 : Int32) (v2 : Int32) (v3 : Int32) (v4 : Int32) (v5 : Int32) (v6 : Int32) (v7 : Int32) (w : Wd), Sim E m_X10_make rV 49 [(0, .ref (Ea E 50)), (1, .int v1), (2, .int v2), (3, .int v3), (4, .int v4), (5, .int v5), (6, .int v6), (7, .int v7)] [] w (l_X10_make_49 K87 n v1 v2 v3 v4 v5 v6 v7 w) := by
  intro n
  induction n with
  | zero => intros; exact sim_none
  | succ n ih => intros; exact sb_X10_make_49 hL (R := l_X10_make_49 K87 n) ih hK87 _ _ _ _ _ _ _ _
def f_X10_make_244 (w : Wd) : Option (Unit × Wd) :=
  some ((), w)
set_option maxRecDepth 20000 in
theorem sf_X10_make_244 {E : Ev} (hL : LM E) (w : Wd) : Sim E m_X10_make rV 244 [] [] w (f_X10_make_244 w) := by
  unfold f_X10_make_244
  exact sim_vret rfl dX10_make_244
def f_X10_make_202 (v1 : Int32) (v2 : Int32) (v3 : Int32) (v4 : Int32) (v6 : Int32) (w : Wd) : Option (Unit × Wd) :=
  if inb (((49 : Int32) * v1) + v2) 784 = true then
  if inb (((49 : Int32) * v6) + v3) 784 = true then
  lw (wdI w 60 (Int32.toNatClampNeg (((49 : Int32) * v6) + v3)) ((w.1 60 (Int32.toNatClampNeg (((49 : Int32) * v1) + v2))) + ((8 : Int32) * v4))) fun w7 =>
  if inb (((49 : Int32) * v6) + v2) 784 = true then
  lw (wdI w7 60 (Int32.toNatClampNeg (((49 : Int32) * v6) + v2)) (0 : Int32)) fun w8 =>
  f_X10_make_244 w8
  else none
  else none
  else none
set_option maxRecDepth 20000 in
theorem sf_X10_make_202 {E : Ev} (hL : LM E) (v1 : Int32) (v2 : Int32) (v3 : Int32) (v4 : Int32) (v6 : Int32) (w : Wd) : Sim E m_X10_make rV 202 [(0, .ref (Ea E 50)), (1, .int v1), (2, .int v2), (3, .int v3), (4, .int v4), (6, .int v6)] [] w (f_X10_make_202 v1 v2 v3 v4 v6 w) := by
  unfold f_X10_make_202
  refine sim_aload_n 0 dX10_make_202 rfl rfl ?_
  refine sim_get (k := 50) (ci := 8) (j := 9) (v := .ref (Ea E 60)) (hL 50 rfl) rfl (by decide) fl_X10_31 rfl dX10_make_203 rfl ?_
  refine sim_bipush (49 : Int32) dX10_make_206 rfl rfl ?_
  refine sim_iload 5 dX10_make_208 rfl rfl ?_
  refine sim_imul dX10_make_210 rfl ?_
  refine sim_iload_n 3 dX10_make_211 rfl rfl ?_
  refine sim_iadd dX10_make_212 rfl ?_
  refine sim_aload_n 0 dX10_make_213 rfl rfl ?_
  refine sim_get (k := 50) (ci := 8) (j := 9) (v := .ref (Ea E 60)) (hL 50 rfl) rfl (by decide) fl_X10_31 rfl dX10_make_214 rfl ?_
  refine sim_bipush (49 : Int32) dX10_make_217 rfl rfl ?_
  refine sim_iload_n 1 dX10_make_219 rfl rfl ?_
  refine sim_imul dX10_make_220 rfl ?_
  refine sim_iload_n 2 dX10_make_221 rfl rfl ?_
  refine sim_iadd dX10_make_222 rfl ?_
  refine sim_iaload (k := 60) (hL 60 rfl) rfl rfl dX10_make_223 rfl ?_
  refine sim_bipush (8 : Int32) dX10_make_224 rfl rfl ?_
  refine sim_iload 4 dX10_make_226 rfl rfl ?_
  refine sim_imul dX10_make_228 rfl ?_
  refine sim_iadd dX10_make_229 rfl ?_
  refine sim_iastore (k := 60) (hL 60 rfl) rfl rfl dX10_make_230 rfl ?_
  refine sim_lw (fun w7 => ?_)
  refine sim_aload_n 0 dX10_make_231 rfl rfl ?_
  refine sim_get (k := 50) (ci := 8) (j := 9) (v := .ref (Ea E 60)) (hL 50 rfl) rfl (by decide) fl_X10_31 rfl dX10_make_232 rfl ?_
  refine sim_bipush (49 : Int32) dX10_make_235 rfl rfl ?_
  refine sim_iload 5 dX10_make_237 rfl rfl ?_
  refine sim_imul dX10_make_239 rfl ?_
  refine sim_iload_n 2 dX10_make_240 rfl rfl ?_
  refine sim_iadd dX10_make_241 rfl ?_
  refine sim_iconst (0 : Int32) dX10_make_242 rfl rfl ?_
  refine sim_iastore (k := 60) (hL 60 rfl) rfl rfl dX10_make_243 rfl ?_
  refine sim_lw (fun w8 => ?_)
  exact sim_sub [] rfl (sf_X10_make_244 hL w8)
def f_X10_make_87 (v1 : Int32) (v2 : Int32) (v3 : Int32) (v4 : Int32) (v5 : Int32) (v6 : Int32) (w : Wd) : Option (Unit × Wd) :=
  if inb v1 16 = true then
  lt (w.1 62 (Int32.toNatClampNeg v1)) fun x4 =>
  if inb v6 16 = true then
  lw (wdI w 62 (Int32.toNatClampNeg v6) ((1 : Int32) - x4)) fun w5 =>
  if (0 : Int32) ≤ v2 then
  if inb (((49 : Int32) * v1) + v3) 784 = true then
  lt (w5.1 60 (Int32.toNatClampNeg (((49 : Int32) * v1) + v3))) fun x6 =>
  if x6 = (0 : Int32) then
  f_X10_make_202 v1 v2 v3 v4 v6 w5
  else
  bd (f_X10_kindOf x6 w5) fun x9 w10 =>
  if inb ((((16 : Int32) * v6) + ((8 : Int32) * x4)) + x9) 256 = true then
  if inb ((((16 : Int32) * v6) + ((8 : Int32) * x4)) + x9) 256 = true then
  lw (wdI w10 61 (Int32.toNatClampNeg ((((16 : Int32) * v6) + ((8 : Int32) * x4)) + x9)) ((w10.1 61 (Int32.toNatClampNeg ((((16 : Int32) * v6) + ((8 : Int32) * x4)) + x9))) + (1 : Int32))) fun w11 =>
  f_X10_make_202 v1 v2 v3 v4 v6 w11
  else none
  else none
  else none
  else
  if inb ((((16 : Int32) * v6) + ((8 : Int32) * x4)) + v5) 256 = true then
  if inb ((((16 : Int32) * v6) + ((8 : Int32) * x4)) + v5) 256 = true then
  lw (wdI w5 61 (Int32.toNatClampNeg ((((16 : Int32) * v6) + ((8 : Int32) * x4)) + v5)) ((w5.1 61 (Int32.toNatClampNeg ((((16 : Int32) * v6) + ((8 : Int32) * x4)) + v5))) - (1 : Int32))) fun w12 =>
  if inb (((49 : Int32) * v6) + v3) 784 = true then
  lw (wdI w12 60 (Int32.toNatClampNeg (((49 : Int32) * v6) + v3)) (((1 : Int32) + v5) + ((16 : Int32) * x4))) fun w13 =>
  f_X10_make_244 w13
  else none
  else none
  else none
  else none
  else none
set_option maxRecDepth 20000 in
theorem sf_X10_make_87 {E : Ev} (hL : LM E) (v1 : Int32) (v2 : Int32) (v3 : Int32) (v4 : Int32) (v5 : Int32) (v6 : Int32) (w : Wd) : Sim E m_X10_make rV 87 [(0, .ref (Ea E 50)), (1, .int v1), (2, .int v2), (3, .int v3), (4, .int v4), (5, .int v5), (6, .int v6)] [] w (f_X10_make_87 v1 v2 v3 v4 v5 v6 w) := by
  unfold f_X10_make_87
  refine sim_aload_n 0 dX10_make_87 rfl rfl ?_
  refine sim_get (k := 50) (ci := 8) (j := 11) (v := .ref (Ea E 62)) (hL 50 rfl) rfl (by decide) fl_X10_37 rfl dX10_make_88 rfl ?_
  refine sim_iload_n 1 dX10_make_91 rfl rfl ?_
  refine sim_iaload (k := 62) (hL 62 rfl) rfl rfl dX10_make_92 rfl ?_
  refine sim_lt (fun x4 => ?_)
  refine sim_istore [(7, .int x4), (0, .ref (Ea E 50)), (1, .int v1), (2, .int v2), (3, .int v3), (4, .int v4), (5, .int v5), (6, .int v6)] dX10_make_93 (Nat.le_of_ble_eq_true rfl) rfl rfl ?_
  refine sim_aload_n 1 dX10_make_95 rfl rfl ?_
  refine sim_get (k := 50) (ci := 8) (j := 11) (v := .ref (Ea E 62)) (hL 50 rfl) rfl (by decide) fl_X10_37 rfl dX10_make_96 rfl ?_
  refine sim_iload 7 dX10_make_99 rfl rfl ?_
  refine sim_iconst (1 : Int32) dX10_make_101 rfl rfl ?_
  refine sim_iload 0 dX10_make_102 rfl rfl ?_
  refine sim_isub dX10_make_104 rfl ?_
  refine sim_iastore (k := 62) (hL 62 rfl) rfl rfl dX10_make_105 rfl ?_
  refine sim_lw (fun w5 => ?_)
  refine sim_iload_n 3 dX10_make_106 rfl rfl ?_
  refine sim_if_ge 158 dX10_make_107 rfl rfl (fun _ => ?_) (fun _ => ?_)
  · refine sim_aload_n 1 dX10_make_158 rfl rfl ?_
    refine sim_get (k := 50) (ci := 8) (j := 9) (v := .ref (Ea E 60)) (hL 50 rfl) rfl (by decide) fl_X10_31 rfl dX10_make_159 rfl ?_
    refine sim_bipush (49 : Int32) dX10_make_162 rfl rfl ?_
    refine sim_iload_n 2 dX10_make_164 rfl rfl ?_
    refine sim_imul dX10_make_165 rfl ?_
    refine sim_iload_n 4 dX10_make_166 rfl rfl ?_
    refine sim_iadd dX10_make_167 rfl ?_
    refine sim_iaload (k := 60) (hL 60 rfl) rfl rfl dX10_make_168 rfl ?_
    refine sim_lt (fun x6 => ?_)
    refine sim_istore [(8, .int x6), (7, .int x4), (0, .ref (Ea E 50)), (1, .int v1), (2, .int v2), (3, .int v3), (4, .int v4), (5, .int v5), (6, .int v6)] dX10_make_169 (Nat.le_of_ble_eq_true rfl) rfl rfl ?_
    refine sim_iload 0 dX10_make_171 rfl rfl ?_
    refine sim_if_eq 202 dX10_make_173 rfl rfl (fun _ => ?_) (fun _ => ?_)
    · exact sim_sub [2, 3, 4, 5, 6, 8] rfl (sf_X10_make_202 hL v1 v2 v3 v4 v6 w5)
    · refine sim_aload_n 2 dX10_make_176 rfl rfl ?_
      refine sim_get (k := 50) (ci := 8) (j := 10) (v := .ref (Ea E 61)) (hL 50 rfl) rfl (by decide) fl_X10_34 rfl dX10_make_177 rfl ?_
      refine sim_bipush (16 : Int32) dX10_make_180 rfl rfl ?_
      refine sim_iload 8 dX10_make_182 rfl rfl ?_
      refine sim_imul dX10_make_184 rfl ?_
      refine sim_bipush (8 : Int32) dX10_make_185 rfl rfl ?_
      refine sim_iload 1 dX10_make_187 rfl rfl ?_
      refine sim_imul dX10_make_189 rfl ?_
      refine sim_iadd dX10_make_190 rfl ?_
      refine sim_iload 0 dX10_make_191 rfl rfl ?_
      refine sim_cSi [.int x6] [.int (((16 : Int32) * v6) + ((8 : Int32) * x4)), .ref (Ea E 61)] (c_X10_kindOf hL x6 w5) cb_X10_187 sx_X10_kindOf rfl rfl rfl (Nat.le_of_ble_eq_true rfl) dX10_make_193 rfl (fun x9 w10 => ?_)
      refine sim_iadd dX10_make_196 rfl ?_
      refine sim_dup2 dX10_make_197 rfl rfl rfl ?_
      refine sim_iaload (k := 61) (hL 61 rfl) rfl rfl dX10_make_198 rfl ?_
      refine sim_iconst (1 : Int32) dX10_make_199 rfl rfl ?_
      refine sim_iadd dX10_make_200 rfl ?_
      refine sim_iastore (k := 61) (hL 61 rfl) rfl rfl dX10_make_201 rfl ?_
      refine sim_lw (fun w11 => ?_)
      exact sim_sub [2, 3, 4, 5, 6, 8] rfl (sf_X10_make_202 hL v1 v2 v3 v4 v6 w11)
  · refine sim_aload_n 1 dX10_make_110 rfl rfl ?_
    refine sim_get (k := 50) (ci := 8) (j := 10) (v := .ref (Ea E 61)) (hL 50 rfl) rfl (by decide) fl_X10_34 rfl dX10_make_111 rfl ?_
    refine sim_bipush (16 : Int32) dX10_make_114 rfl rfl ?_
    refine sim_iload 7 dX10_make_116 rfl rfl ?_
    refine sim_imul dX10_make_118 rfl ?_
    refine sim_bipush (8 : Int32) dX10_make_119 rfl rfl ?_
    refine sim_iload 0 dX10_make_121 rfl rfl ?_
    refine sim_imul dX10_make_123 rfl ?_
    refine sim_iadd dX10_make_124 rfl ?_
    refine sim_iload 6 dX10_make_125 rfl rfl ?_
    refine sim_iadd dX10_make_127 rfl ?_
    refine sim_dup2 dX10_make_128 rfl rfl rfl ?_
    refine sim_iaload (k := 61) (hL 61 rfl) rfl rfl dX10_make_129 rfl ?_
    refine sim_iconst (1 : Int32) dX10_make_130 rfl rfl ?_
    refine sim_isub dX10_make_131 rfl ?_
    refine sim_iastore (k := 61) (hL 61 rfl) rfl rfl dX10_make_132 rfl ?_
    refine sim_lw (fun w12 => ?_)
    refine sim_aload_n 1 dX10_make_133 rfl rfl ?_
    refine sim_get (k := 50) (ci := 8) (j := 9) (v := .ref (Ea E 60)) (hL 50 rfl) rfl (by decide) fl_X10_31 rfl dX10_make_134 rfl ?_
    refine sim_bipush (49 : Int32) dX10_make_137 rfl rfl ?_
    refine sim_iload 7 dX10_make_139 rfl rfl ?_
    refine sim_imul dX10_make_141 rfl ?_
    refine sim_iload_n 4 dX10_make_142 rfl rfl ?_
    refine sim_iadd dX10_make_143 rfl ?_
    refine sim_iconst (1 : Int32) dX10_make_144 rfl rfl ?_
    refine sim_iload 6 dX10_make_145 rfl rfl ?_
    refine sim_iadd dX10_make_147 rfl ?_
    refine sim_bipush (16 : Int32) dX10_make_148 rfl rfl ?_
    refine sim_iload 0 dX10_make_150 rfl rfl ?_
    refine sim_imul dX10_make_152 rfl ?_
    refine sim_iadd dX10_make_153 rfl ?_
    refine sim_iastore (k := 60) (hL 60 rfl) rfl rfl dX10_make_154 rfl ?_
    refine sim_lw (fun w13 => ?_)
    refine sim_goto (q := 244) dX10_make_155 rfl ?_
    exact sim_sub [] rfl (sf_X10_make_244 hL w13)
def f_X10_make_46 (v1 : Int32) (v2 : Int32) (v3 : Int32) (v4 : Int32) (v5 : Int32) (v6 : Int32) (w : Wd) : Option (Unit × Wd) :=
  l_X10_make_49 f_X10_make_87 FU v1 v2 v3 v4 v5 v6 (0 : Int32) w
set_option maxRecDepth 20000 in
theorem sf_X10_make_46 {E : Ev} (hL : LM E) (v1 : Int32) (v2 : Int32) (v3 : Int32) (v4 : Int32) (v5 : Int32) (v6 : Int32) (w : Wd) : Sim E m_X10_make rV 46 [(0, .ref (Ea E 50)), (1, .int v1), (2, .int v2), (3, .int v3), (4, .int v4), (5, .int v5), (6, .int v6)] [] w (f_X10_make_46 v1 v2 v3 v4 v5 v6 w) := by
  unfold f_X10_make_46
  refine sim_iconst (0 : Int32) dX10_make_46 rfl rfl ?_
  refine sim_istore [(7, .int (0 : Int32)), (0, .ref (Ea E 50)), (1, .int v1), (2, .int v2), (3, .int v3), (4, .int v4), (5, .int v5), (6, .int v6)] dX10_make_47 (Nat.le_of_ble_eq_true rfl) rfl rfl ?_
  exact sim_sub [1, 2, 3, 4, 5, 6, 7, 0] rfl (sl_X10_make_49 hL (sf_X10_make_87 hL) FU v1 v2 v3 v4 v5 v6 (0 : Int32) w)
def f_X10_make (v1 : Int32) (v2 : Int32) (v3 : Int32) (v4 : Int32) (v5 : Int32) (w : Wd) : Option (Unit × Wd) :=
  lt (v1 + (1 : Int32)) fun x1 =>
  l_X10_make_8 f_X10_make_46 FU v1 v2 v3 v4 v5 x1 (0 : Int32) w
set_option maxRecDepth 20000 in
theorem c_X10_make {E : Ev} (hL : LM E) (v1 : Int32) (v2 : Int32) (v3 : Int32) (v4 : Int32) (v5 : Int32) (w : Wd) : Ct E m_X10_make yX10_make rV [.ref (Ea E 50), .int v1, .int v2, .int v3, .int v4, .int v5] w (f_X10_make v1 v2 v3 v4 v5 w) := by
  refine Ct.of (by decide) ⟨rfl, rfl⟩ (Nat.le_of_ble_eq_true rfl) ?_
  show Sim E m_X10_make rV 0 [(0, .ref (Ea E 50)), (1, .int v1), (2, .int v2), (3, .int v3), (4, .int v4), (5, .int v5)] [] w (f_X10_make v1 v2 v3 v4 v5 w)
  unfold f_X10_make
  refine sim_iload_n 1 dX10_make_0 rfl rfl ?_
  refine sim_iconst (1 : Int32) dX10_make_1 rfl rfl ?_
  refine sim_iadd dX10_make_2 rfl ?_
  refine sim_lt (fun x1 => ?_)
  refine sim_istore [(6, .int x1), (0, .ref (Ea E 50)), (1, .int v1), (2, .int v2), (3, .int v3), (4, .int v4), (5, .int v5)] dX10_make_3 (Nat.le_of_ble_eq_true rfl) rfl rfl ?_
  refine sim_iconst (0 : Int32) dX10_make_5 rfl rfl ?_
  refine sim_istore [(7, .int (0 : Int32)), (6, .int x1), (0, .ref (Ea E 50)), (1, .int v1), (2, .int v2), (3, .int v3), (4, .int v4), (5, .int v5)] dX10_make_6 (Nat.le_of_ble_eq_true rfl) rfl rfl ?_
  exact sim_sub [2, 3, 4, 5, 6, 7, 1, 0] rfl (sl_X10_make_8 hL (sf_X10_make_46 hL) FU v1 v2 v3 v4 v5 x1 (0 : Int32) w)
def f_X10_tries (v1 : Int32) (v2 : Int32) (v3 : Int32) (v4 : Int32) (v5 : Int32) (w : Wd) : Option (Unit × Wd) :=
  if inb v1 16 = true then
  lt (((2000 : Int32) * v1) + (w.1 68 (Int32.toNatClampNeg v1))) fun x1 =>
  if inb x1 32000 = true then
  lw (wdI w 69 (Int32.toNatClampNeg x1) v2) fun w2 =>
  if inb x1 32000 = true then
  lw (wdI w2 70 (Int32.toNatClampNeg x1) v3) fun w3 =>
  if inb x1 32000 = true then
  lw (wdI w3 71 (Int32.toNatClampNeg x1) v4) fun w4 =>
  if inb x1 32000 = true then
  lw (wdI w4 72 (Int32.toNatClampNeg x1) v5) fun w5 =>
  if inb v1 16 = true then
  if inb v1 16 = true then
  lw (wdI w5 68 (Int32.toNatClampNeg v1) ((w5.1 68 (Int32.toNatClampNeg v1)) + (1 : Int32))) fun w6 =>
  some ((), w6)
  else none
  else none
  else none
  else none
  else none
  else none
  else none
set_option maxRecDepth 20000 in
theorem c_X10_tries {E : Ev} (hL : LM E) (v1 : Int32) (v2 : Int32) (v3 : Int32) (v4 : Int32) (v5 : Int32) (w : Wd) : Ct E m_X10_tries yX10_tries rV [.ref (Ea E 50), .int v1, .int v2, .int v3, .int v4, .int v5] w (f_X10_tries v1 v2 v3 v4 v5 w) := by
  refine Ct.of (by decide) ⟨rfl, rfl⟩ (Nat.le_of_ble_eq_true rfl) ?_
  show Sim E m_X10_tries rV 0 [(0, .ref (Ea E 50)), (1, .int v1), (2, .int v2), (3, .int v3), (4, .int v4), (5, .int v5)] [] w (f_X10_tries v1 v2 v3 v4 v5 w)
  unfold f_X10_tries
  refine sim_sipush (2000 : Int32) dX10_tries_0 rfl rfl ?_
  refine sim_iload_n 1 dX10_tries_3 rfl rfl ?_
  refine sim_imul dX10_tries_4 rfl ?_
  refine sim_aload_n 0 dX10_tries_5 rfl rfl ?_
  refine sim_get (k := 50) (ci := 8) (j := 17) (v := .ref (Ea E 68)) (hL 50 rfl) rfl (by decide) fl_X10_55 rfl dX10_tries_6 rfl ?_
  refine sim_iload_n 1 dX10_tries_9 rfl rfl ?_
  refine sim_iaload (k := 68) (hL 68 rfl) rfl rfl dX10_tries_10 rfl ?_
  refine sim_iadd dX10_tries_11 rfl ?_
  refine sim_lt (fun x1 => ?_)
  refine sim_istore [(6, .int x1), (0, .ref (Ea E 50)), (1, .int v1), (2, .int v2), (3, .int v3), (4, .int v4), (5, .int v5)] dX10_tries_12 (Nat.le_of_ble_eq_true rfl) rfl rfl ?_
  refine sim_aload_n 1 dX10_tries_14 rfl rfl ?_
  refine sim_get (k := 50) (ci := 8) (j := 18) (v := .ref (Ea E 69)) (hL 50 rfl) rfl (by decide) fl_X10_58 rfl dX10_tries_15 rfl ?_
  refine sim_iload 0 dX10_tries_18 rfl rfl ?_
  refine sim_iload_n 3 dX10_tries_20 rfl rfl ?_
  refine sim_iastore (k := 69) (hL 69 rfl) rfl rfl dX10_tries_21 rfl ?_
  refine sim_lw (fun w2 => ?_)
  refine sim_aload_n 1 dX10_tries_22 rfl rfl ?_
  refine sim_get (k := 50) (ci := 8) (j := 19) (v := .ref (Ea E 70)) (hL 50 rfl) rfl (by decide) fl_X10_61 rfl dX10_tries_23 rfl ?_
  refine sim_iload 0 dX10_tries_26 rfl rfl ?_
  refine sim_iload_n 4 dX10_tries_28 rfl rfl ?_
  refine sim_iastore (k := 70) (hL 70 rfl) rfl rfl dX10_tries_29 rfl ?_
  refine sim_lw (fun w3 => ?_)
  refine sim_aload_n 1 dX10_tries_30 rfl rfl ?_
  refine sim_get (k := 50) (ci := 8) (j := 20) (v := .ref (Ea E 71)) (hL 50 rfl) rfl (by decide) fl_X10_64 rfl dX10_tries_31 rfl ?_
  refine sim_iload 0 dX10_tries_34 rfl rfl ?_
  refine sim_iload 5 dX10_tries_36 rfl rfl ?_
  refine sim_iastore (k := 71) (hL 71 rfl) rfl rfl dX10_tries_38 rfl ?_
  refine sim_lw (fun w4 => ?_)
  refine sim_aload_n 1 dX10_tries_39 rfl rfl ?_
  refine sim_get (k := 50) (ci := 8) (j := 21) (v := .ref (Ea E 72)) (hL 50 rfl) rfl (by decide) fl_X10_67 rfl dX10_tries_40 rfl ?_
  refine sim_iload 0 dX10_tries_43 rfl rfl ?_
  refine sim_iload 6 dX10_tries_45 rfl rfl ?_
  refine sim_iastore (k := 72) (hL 72 rfl) rfl rfl dX10_tries_47 rfl ?_
  refine sim_lw (fun w5 => ?_)
  refine sim_aload_n 1 dX10_tries_48 rfl rfl ?_
  refine sim_get (k := 50) (ci := 8) (j := 17) (v := .ref (Ea E 68)) (hL 50 rfl) rfl (by decide) fl_X10_55 rfl dX10_tries_49 rfl ?_
  refine sim_iload_n 2 dX10_tries_52 rfl rfl ?_
  refine sim_dup2 dX10_tries_53 rfl rfl rfl ?_
  refine sim_iaload (k := 68) (hL 68 rfl) rfl rfl dX10_tries_54 rfl ?_
  refine sim_iconst (1 : Int32) dX10_tries_55 rfl rfl ?_
  refine sim_iadd dX10_tries_56 rfl ?_
  refine sim_iastore (k := 68) (hL 68 rfl) rfl rfl dX10_tries_57 rfl ?_
  refine sim_lw (fun w6 => ?_)
  exact sim_vret rfl dX10_tries_58
def f_X10_mayRaiseSo_42 (s0 : Int32) (w : Wd) : Option (Int32 × Wd) :=
  if zb s0 = true then some (s0, w) else none
set_option maxRecDepth 20000 in
theorem sf_X10_mayRaiseSo_42 {E : Ev} (hL : LM E) (s0 : Int32) (w : Wd) : Sim E m_X10_mayRaiseSo rI 42 [] [.int s0] w (f_X10_mayRaiseSo_42 s0 w) := by
  unfold f_X10_mayRaiseSo_42
  exact sim_zret rfl dX10_mayRaiseSo_42
def f_X10_mayRaiseSo_41 (w : Wd) : Option (Int32 × Wd) :=
  f_X10_mayRaiseSo_42 (0 : Int32) w
set_option maxRecDepth 20000 in
theorem sf_X10_mayRaiseSo_41 {E : Ev} (hL : LM E) (w : Wd) : Sim E m_X10_mayRaiseSo rI 41 [] [] w (f_X10_mayRaiseSo_41 w) := by
  unfold f_X10_mayRaiseSo_41
  refine sim_iconst (0 : Int32) dX10_mayRaiseSo_41 rfl rfl ?_
  exact sim_sub [] rfl (sf_X10_mayRaiseSo_42 hL (0 : Int32) w)
def f_X10_mayRaiseSo_37 (w : Wd) : Option (Int32 × Wd) :=
  f_X10_mayRaiseSo_42 (1 : Int32) w
set_option maxRecDepth 20000 in
theorem sf_X10_mayRaiseSo_37 {E : Ev} (hL : LM E) (w : Wd) : Sim E m_X10_mayRaiseSo rI 37 [] [] w (f_X10_mayRaiseSo_37 w) := by
  unfold f_X10_mayRaiseSo_37
  refine sim_iconst (1 : Int32) dX10_mayRaiseSo_37 rfl rfl ?_
  refine sim_goto (q := 42) dX10_mayRaiseSo_38 rfl ?_
  exact sim_sub [] rfl (sf_X10_mayRaiseSo_42 hL (1 : Int32) w)
def f_X10_mayRaiseSo (v1 : Int32) (v2 : Int32) (v3 : Int32) (v4 : Int32) (w : Wd) : Option (Int32 × Wd) :=
  bd (f_X10_isRaised v1 w) fun x1 w2 =>
  if x1 = (0 : Int32) then
  bd (f_X10_kindOf v1 w2) fun x3 w4 =>
  bd (f_X10_mayRaise x3 w4) fun x5 w6 =>
  if x5 = (0 : Int32) then
  f_X10_mayRaiseSo_41 w6
  else
  bd (f_X10_isZone v2 v3 w6) fun x7 w8 =>
  if x7 = (0 : Int32) then
  bd (f_X10_isZone v2 v4 w8) fun x9 w10 =>
  if x9 = (0 : Int32) then
  f_X10_mayRaiseSo_41 w10
  else
  f_X10_mayRaiseSo_37 w10
  else
  f_X10_mayRaiseSo_37 w8
  else
  f_X10_mayRaiseSo_41 w2
set_option maxRecDepth 20000 in
theorem c_X10_mayRaiseSo {E : Ev} (hL : LM E) (v1 : Int32) (v2 : Int32) (v3 : Int32) (v4 : Int32) (w : Wd) : Ct E m_X10_mayRaiseSo yX10_mayRaiseSo rI [.ref (Ea E 50), .int v1, .int v2, .int v3, .int v4] w (f_X10_mayRaiseSo v1 v2 v3 v4 w) := by
  refine Ct.of (by decide) ⟨rfl, rfl⟩ (Nat.le_of_ble_eq_true rfl) ?_
  show Sim E m_X10_mayRaiseSo rI 0 [(0, .ref (Ea E 50)), (1, .int v1), (2, .int v2), (3, .int v3), (4, .int v4)] [] w (f_X10_mayRaiseSo v1 v2 v3 v4 w)
  unfold f_X10_mayRaiseSo
  refine sim_iload_n 1 dX10_mayRaiseSo_0 rfl rfl ?_
  refine sim_cSi [.int v1] [] (c_X10_isRaised hL v1 w) cb_X10_190 sx_X10_isRaised rfl rfl rfl (Nat.le_of_ble_eq_true rfl) dX10_mayRaiseSo_1 rfl (fun x1 w2 => ?_)
  refine sim_if_ne 41 dX10_mayRaiseSo_4 rfl rfl (fun _ => ?_) (fun _ => ?_)
  · exact sim_sub [] rfl (sf_X10_mayRaiseSo_41 hL w2)
  · refine sim_aload_n 0 dX10_mayRaiseSo_7 rfl rfl ?_
    refine sim_iload_n 1 dX10_mayRaiseSo_8 rfl rfl ?_
    refine sim_cSi [.int v1] [.ref (Ea E 50)] (c_X10_kindOf hL v1 w2) cb_X10_187 sx_X10_kindOf rfl rfl rfl (Nat.le_of_ble_eq_true rfl) dX10_mayRaiseSo_9 rfl (fun x3 w4 => ?_)
    refine sim_cVi (k := 50) (ci := 8) [.int x3] [] (c_X10_mayRaise hL x3 w4) (hL 50 rfl) rfl (by decide) rfl cb_X10_211 im_X10_mayRaise se_X10_mayRaise rfl rfl rfl (Nat.le_of_ble_eq_true rfl) dX10_mayRaiseSo_12 rfl (fun x5 w6 => ?_)
    refine sim_if_eq 41 dX10_mayRaiseSo_15 rfl rfl (fun _ => ?_) (fun _ => ?_)
    · exact sim_sub [] rfl (sf_X10_mayRaiseSo_41 hL w6)
    · refine sim_aload_n 0 dX10_mayRaiseSo_18 rfl rfl ?_
      refine sim_iload_n 2 dX10_mayRaiseSo_19 rfl rfl ?_
      refine sim_iload_n 3 dX10_mayRaiseSo_20 rfl rfl ?_
      refine sim_cVi (k := 50) (ci := 8) [.int v2, .int v3] [] (c_X10_isZone hL v2 v3 w6) (hL 50 rfl) rfl (by decide) rfl cb_X10_214 im_X10_isZone se_X10_isZone rfl rfl rfl (Nat.le_of_ble_eq_true rfl) dX10_mayRaiseSo_21 rfl (fun x7 w8 => ?_)
      refine sim_if_ne 37 dX10_mayRaiseSo_24 rfl rfl (fun _ => ?_) (fun _ => ?_)
      · exact sim_sub [] rfl (sf_X10_mayRaiseSo_37 hL w8)
      · refine sim_aload_n 0 dX10_mayRaiseSo_27 rfl rfl ?_
        refine sim_iload_n 2 dX10_mayRaiseSo_28 rfl rfl ?_
        refine sim_iload 4 dX10_mayRaiseSo_29 rfl rfl ?_
        refine sim_cVi (k := 50) (ci := 8) [.int v2, .int v4] [] (c_X10_isZone hL v2 v4 w8) (hL 50 rfl) rfl (by decide) rfl cb_X10_214 im_X10_isZone se_X10_isZone rfl rfl rfl (Nat.le_of_ble_eq_true rfl) dX10_mayRaiseSo_31 rfl (fun x9 w10 => ?_)
        refine sim_if_eq 41 dX10_mayRaiseSo_34 rfl rfl (fun _ => ?_) (fun _ => ?_)
        · exact sim_sub [] rfl (sf_X10_mayRaiseSo_41 hL w10)
        · exact sim_sub [] rfl (sf_X10_mayRaiseSo_37 hL w10)
def f_X10_mayStay_25 (s0 : Int32) (w : Wd) : Option (Int32 × Wd) :=
  if zb s0 = true then some (s0, w) else none
set_option maxRecDepth 20000 in
theorem sf_X10_mayStay_25 {E : Ev} (hL : LM E) (s0 : Int32) (w : Wd) : Sim E m_X10_mayStay rI 25 [] [.int s0] w (f_X10_mayStay_25 s0 w) := by
  unfold f_X10_mayStay_25
  exact sim_zret rfl dX10_mayStay_25
def f_X10_mayStay_20 (w : Wd) : Option (Int32 × Wd) :=
  f_X10_mayStay_25 (1 : Int32) w
set_option maxRecDepth 20000 in
theorem sf_X10_mayStay_20 {E : Ev} (hL : LM E) (w : Wd) : Sim E m_X10_mayStay rI 20 [] [] w (f_X10_mayStay_20 w) := by
  unfold f_X10_mayStay_20
  refine sim_iconst (1 : Int32) dX10_mayStay_20 rfl rfl ?_
  refine sim_goto (q := 25) dX10_mayStay_21 rfl ?_
  exact sim_sub [] rfl (sf_X10_mayStay_25 hL (1 : Int32) w)
def f_X10_mayStay (v1 : Int32) (v2 : Int32) (v3 : Int32) (w : Wd) : Option (Int32 × Wd) :=
  bd (f_X10_isRaised v1 w) fun x1 w2 =>
  if x1 = (0 : Int32) then
  bd (f_X10_kindOf v1 w2) fun x3 w4 =>
  bd (f_X10_couldGoOn x3 v2 v3 w4) fun x5 w6 =>
  if x5 = (0 : Int32) then
  f_X10_mayStay_25 (0 : Int32) w6
  else
  f_X10_mayStay_20 w6
  else
  f_X10_mayStay_20 w2
set_option maxRecDepth 20000 in
theorem c_X10_mayStay {E : Ev} (hL : LM E) (v1 : Int32) (v2 : Int32) (v3 : Int32) (w : Wd) : Ct E m_X10_mayStay yX10_mayStay rI [.ref (Ea E 50), .int v1, .int v2, .int v3] w (f_X10_mayStay v1 v2 v3 w) := by
  refine Ct.of (by decide) ⟨rfl, rfl⟩ (Nat.le_of_ble_eq_true rfl) ?_
  show Sim E m_X10_mayStay rI 0 [(0, .ref (Ea E 50)), (1, .int v1), (2, .int v2), (3, .int v3)] [] w (f_X10_mayStay v1 v2 v3 w)
  unfold f_X10_mayStay
  refine sim_iload_n 1 dX10_mayStay_0 rfl rfl ?_
  refine sim_cSi [.int v1] [] (c_X10_isRaised hL v1 w) cb_X10_190 sx_X10_isRaised rfl rfl rfl (Nat.le_of_ble_eq_true rfl) dX10_mayStay_1 rfl (fun x1 w2 => ?_)
  refine sim_if_ne 20 dX10_mayStay_4 rfl rfl (fun _ => ?_) (fun _ => ?_)
  · exact sim_sub [] rfl (sf_X10_mayStay_20 hL w2)
  · refine sim_aload_n 0 dX10_mayStay_7 rfl rfl ?_
    refine sim_iload_n 1 dX10_mayStay_8 rfl rfl ?_
    refine sim_cSi [.int v1] [.ref (Ea E 50)] (c_X10_kindOf hL v1 w2) cb_X10_187 sx_X10_kindOf rfl rfl rfl (Nat.le_of_ble_eq_true rfl) dX10_mayStay_9 rfl (fun x3 w4 => ?_)
    refine sim_iload_n 2 dX10_mayStay_12 rfl rfl ?_
    refine sim_iload_n 3 dX10_mayStay_13 rfl rfl ?_
    refine sim_cVi (k := 50) (ci := 8) [.int x3, .int v2, .int v3] [] (c_X10_couldGoOn hL x3 v2 v3 w4) (hL 50 rfl) rfl (by decide) rfl cb_X10_218 im_X10_couldGoOn se_X10_couldGoOn rfl rfl rfl (Nat.le_of_ble_eq_true rfl) dX10_mayStay_14 rfl (fun x5 w6 => ?_)
    refine sim_if_eq 24 dX10_mayStay_17 rfl rfl (fun _ => ?_) (fun _ => ?_)
    · refine sim_iconst (0 : Int32) dX10_mayStay_24 rfl rfl ?_
      exact sim_sub [] rfl (sf_X10_mayStay_25 hL (0 : Int32) w6)
    · exact sim_sub [] rfl (sf_X10_mayStay_20 hL w6)
def f_X10_inColumn_59 (R : Int32 → Int32 → Int32 → Int32 → Int32 → Wd → Option (Int32 × Wd)) (K73 : Int32 → Wd → Option (Int32 × Wd)) (v1 : Int32) (v2 : Int32) (v3 : Int32) (v6 : Int32) (s0 : Int32) (w : Wd) : Option (Int32 × Wd) :=
  lt (v6 + (w.1 50 0)) fun x2 =>
  R v1 v2 v3 s0 x2 w
set_option maxRecDepth 20000 in
theorem sf_X10_inColumn_59 {E : Ev} (hL : LM E) {R : Int32 → Int32 → Int32 → Int32 → Int32 → Wd → Option (Int32 × Wd)} (hR : ∀ (v1 : Int32) (v2 : Int32) (v3 : Int32) (v5 : Int32) (v6 : Int32) (w : Wd), Sim E m_X10_inColumn rI 12 [(0, .ref (Ea E 50)), (1, .int v1), (2, .int v2), (3, .int v3), (5, .int v5), (6, .int v6)] [] w (R v1 v2 v3 v5 v6 w)) {K73 : Int32 → Wd → Option (Int32 × Wd)} (hK73 : ∀ (v5 : Int32) (w : Wd), Sim E m_X10_inColumn rI 73 [(5, .int v5)] [] w (K73 v5 w)) (v1 : Int32) (v2 : Int32) (v3 : Int32) (v6 : Int32) (s0 : Int32) (w : Wd) : Sim E m_X10_inColumn rI 59 [(0, .ref (Ea E 50)), (1, .int v1), (2, .int v2), (3, .int v3), (6, .int v6)] [.int s0] w (f_X10_inColumn_59 R K73 v1 v2 v3 v6 s0 w) := by
  unfold f_X10_inColumn_59
  refine sim_istore [(5, .int s0), (0, .ref (Ea E 50)), (1, .int v1), (2, .int v2), (3, .int v3), (6, .int v6)] dX10_inColumn_59 (Nat.le_of_ble_eq_true rfl) rfl rfl ?_
  refine sim_iload 5 dX10_inColumn_61 rfl rfl ?_
  refine sim_aload_n 1 dX10_inColumn_63 rfl rfl ?_
  refine sim_get (k := 50) (ci := 8) (j := 0) (v := .int (w.1 50 0)) (hL 50 rfl) rfl (by decide) fl_X10_143 rfl dX10_inColumn_64 rfl ?_
  refine sim_iadd dX10_inColumn_67 rfl ?_
  refine sim_lt (fun x2 => ?_)
  refine sim_istore [(6, .int x2), (5, .int s0), (0, .ref (Ea E 50)), (1, .int v1), (2, .int v2), (3, .int v3)] dX10_inColumn_68 (Nat.le_of_ble_eq_true rfl) rfl rfl ?_
  refine sim_goto (q := 12) dX10_inColumn_70 rfl ?_
  exact sim_sub [2, 3, 4, 5, 1, 0] rfl (hR v1 v2 v3 s0 x2 w)
def f_X10_inColumn_54 (R : Int32 → Int32 → Int32 → Int32 → Int32 → Wd → Option (Int32 × Wd)) (K73 : Int32 → Wd → Option (Int32 × Wd)) (v1 : Int32) (v2 : Int32) (v3 : Int32) (v6 : Int32) (w : Wd) : Option (Int32 × Wd) :=
  f_X10_inColumn_59 R K73 v1 v2 v3 v6 (1 : Int32) w
set_option maxRecDepth 20000 in
theorem sf_X10_inColumn_54 {E : Ev} (hL : LM E) {R : Int32 → Int32 → Int32 → Int32 → Int32 → Wd → Option (Int32 × Wd)} (hR : ∀ (v1 : Int32) (v2 : Int32) (v3 : Int32) (v5 : Int32) (v6 : Int32) (w : Wd), Sim E m_X10_inColumn rI 12 [(0, .ref (Ea E 50)), (1, .int v1), (2, .int v2), (3, .int v3), (5, .int v5), (6, .int v6)] [] w (R v1 v2 v3 v5 v6 w)) {K73 : Int32 → Wd → Option (Int32 × Wd)} (hK73 : ∀ (v5 : Int32) (w : Wd), Sim E m_X10_inColumn rI 73 [(5, .int v5)] [] w (K73 v5 w)) (v1 : Int32) (v2 : Int32) (v3 : Int32) (v6 : Int32) (w : Wd) : Sim E m_X10_inColumn rI 54 [(0, .ref (Ea E 50)), (1, .int v1), (2, .int v2), (3, .int v3), (6, .int v6)] [] w (f_X10_inColumn_54 R K73 v1 v2 v3 v6 w) := by
  unfold f_X10_inColumn_54
  refine sim_iconst (1 : Int32) dX10_inColumn_54 rfl rfl ?_
  refine sim_goto (q := 59) dX10_inColumn_55 rfl ?_
  exact sim_sub [0, 1, 2, 3, 4] rfl (sf_X10_inColumn_59 hL hR hK73 v1 v2 v3 v6 (1 : Int32) w)
def b_X10_inColumn_12 (R : Int32 → Int32 → Int32 → Int32 → Int32 → Wd → Option (Int32 × Wd)) (K73 : Int32 → Wd → Option (Int32 × Wd)) (v1 : Int32) (v2 : Int32) (v3 : Int32) (v5 : Int32) (v6 : Int32) (w : Wd) : Option (Int32 × Wd) :=
  if ((w.1 50 0) * (w.1 50 0)) ≤ v6 then
  K73 v5 w
  else
  if v5 = (0 : Int32) then
  if inb (((49 : Int32) * v1) + v6) 784 = true then
  if (w.1 60 (Int32.toNatClampNeg (((49 : Int32) * v1) + v6))) = (((1 : Int32) + v3) + ((16 : Int32) * v2)) then
  f_X10_inColumn_54 R K73 v1 v2 v3 v6 w
  else
  f_X10_inColumn_59 R K73 v1 v2 v3 v6 (0 : Int32) w
  else none
  else
  f_X10_inColumn_54 R K73 v1 v2 v3 v6 w
set_option maxRecDepth 20000 in
theorem sb_X10_inColumn_12 {E : Ev} (hL : LM E) {R : Int32 → Int32 → Int32 → Int32 → Int32 → Wd → Option (Int32 × Wd)} (hR : ∀ (v1 : Int32) (v2 : Int32) (v3 : Int32) (v5 : Int32) (v6 : Int32) (w : Wd), Sim E m_X10_inColumn rI 12 [(0, .ref (Ea E 50)), (1, .int v1), (2, .int v2), (3, .int v3), (5, .int v5), (6, .int v6)] [] w (R v1 v2 v3 v5 v6 w)) {K73 : Int32 → Wd → Option (Int32 × Wd)} (hK73 : ∀ (v5 : Int32) (w : Wd), Sim E m_X10_inColumn rI 73 [(5, .int v5)] [] w (K73 v5 w)) (v1 : Int32) (v2 : Int32) (v3 : Int32) (v5 : Int32) (v6 : Int32) (w : Wd) : Sim E m_X10_inColumn rI 12 [(0, .ref (Ea E 50)), (1, .int v1), (2, .int v2), (3, .int v3), (5, .int v5), (6, .int v6)] [] w (b_X10_inColumn_12 R K73 v1 v2 v3 v5 v6 w) := by
  unfold b_X10_inColumn_12
  refine sim_iload 5 dX10_inColumn_12 rfl rfl ?_
  refine sim_aload_n 0 dX10_inColumn_14 rfl rfl ?_
  refine sim_get (k := 50) (ci := 8) (j := 0) (v := .int (w.1 50 0)) (hL 50 rfl) rfl (by decide) fl_X10_143 rfl dX10_inColumn_15 rfl ?_
  refine sim_aload_n 0 dX10_inColumn_18 rfl rfl ?_
  refine sim_get (k := 50) (ci := 8) (j := 0) (v := .int (w.1 50 0)) (hL 50 rfl) rfl (by decide) fl_X10_143 rfl dX10_inColumn_19 rfl ?_
  refine sim_imul dX10_inColumn_22 rfl ?_
  refine sim_icmp_ge 73 dX10_inColumn_23 rfl rfl (fun _ => ?_) (fun _ => ?_)
  · exact sim_sub [4] rfl (hK73 v5 w)
  · refine sim_iload 4 dX10_inColumn_26 rfl rfl ?_
    refine sim_if_ne 54 dX10_inColumn_28 rfl rfl (fun _ => ?_) (fun _ => ?_)
    · exact sim_sub [0, 1, 2, 3, 5] rfl (sf_X10_inColumn_54 hL hR hK73 v1 v2 v3 v6 w)
    · refine sim_aload_n 0 dX10_inColumn_31 rfl rfl ?_
      refine sim_get (k := 50) (ci := 8) (j := 9) (v := .ref (Ea E 60)) (hL 50 rfl) rfl (by decide) fl_X10_31 rfl dX10_inColumn_32 rfl ?_
      refine sim_bipush (49 : Int32) dX10_inColumn_35 rfl rfl ?_
      refine sim_iload_n 1 dX10_inColumn_37 rfl rfl ?_
      refine sim_imul dX10_inColumn_38 rfl ?_
      refine sim_iload 5 dX10_inColumn_39 rfl rfl ?_
      refine sim_iadd dX10_inColumn_41 rfl ?_
      refine sim_iaload (k := 60) (hL 60 rfl) rfl rfl dX10_inColumn_42 rfl ?_
      refine sim_iconst (1 : Int32) dX10_inColumn_43 rfl rfl ?_
      refine sim_iload_n 3 dX10_inColumn_44 rfl rfl ?_
      refine sim_iadd dX10_inColumn_45 rfl ?_
      refine sim_bipush (16 : Int32) dX10_inColumn_46 rfl rfl ?_
      refine sim_iload_n 2 dX10_inColumn_48 rfl rfl ?_
      refine sim_imul dX10_inColumn_49 rfl ?_
      refine sim_iadd dX10_inColumn_50 rfl ?_
      refine sim_icmp_ne 58 dX10_inColumn_51 rfl rfl (fun _ => ?_) (fun _ => ?_)
      · refine sim_iconst (0 : Int32) dX10_inColumn_58 rfl rfl ?_
        exact sim_sub [0, 1, 2, 3, 5] rfl (sf_X10_inColumn_59 hL hR hK73 v1 v2 v3 v6 (0 : Int32) w)
      · exact sim_sub [0, 1, 2, 3, 5] rfl (sf_X10_inColumn_54 hL hR hK73 v1 v2 v3 v6 w)
def l_X10_inColumn_12 (K73 : Int32 → Wd → Option (Int32 × Wd)) (n : Nat) : Int32 → Int32 → Int32 → Int32 → Int32 → Wd → Option (Int32 × Wd) := itr (fun _ _ _ _ _ _ => none) (fun R => b_X10_inColumn_12 R K73) n
set_option maxRecDepth 20000 in
theorem sl_X10_inColumn_12 {E : Ev} (hL : LM E) {K73 : Int32 → Wd → Option (Int32 × Wd)} (hK73 : ∀ (v5 : Int32) (w : Wd), Sim E m_X10_inColumn rI 73 [(5, .int v5)] [] w (K73 v5 w)) : ∀ (n : Nat) (v1 : Int32) (v2 : Int32) (v3 : Int32) (v5 : Int32) (v6 : Int32) (w : Wd), Sim E m_X10_inColumn rI 12 [(0, .ref (Ea E 50)), (1, .int v1), (2, .int v2), (3, .int v3), (5, .int v5), (6, .int v6)] [] w (l_X10_inColumn_12 K73 n v1 v2 v3 v5 v6 w) := by
  intro n
  induction n with
  | zero => intros; exact sim_none
  | succ n ih => intros; exact sb_X10_inColumn_12 hL (R := l_X10_inColumn_12 K73 n) ih hK73 _ _ _ _ _ _
def f_X10_inColumn_73 (v5 : Int32) (w : Wd) : Option (Int32 × Wd) :=
  if zb v5 = true then some (v5, w) else none
set_option maxRecDepth 20000 in
theorem sf_X10_inColumn_73 {E : Ev} (hL : LM E) (v5 : Int32) (w : Wd) : Sim E m_X10_inColumn rI 73 [(5, .int v5)] [] w (f_X10_inColumn_73 v5 w) := by
  unfold f_X10_inColumn_73
  refine sim_iload 0 dX10_inColumn_73 rfl rfl ?_
  exact sim_zret rfl dX10_inColumn_75
def f_X10_inColumn (v1 : Int32) (v2 : Int32) (v3 : Int32) (v4 : Int32) (w : Wd) : Option (Int32 × Wd) :=
  if ¬ (w.1 50 0) = (0 : Int32) then
  lt (v4 - v4 / (w.1 50 0) * (w.1 50 0)) fun x1 =>
  l_X10_inColumn_12 f_X10_inColumn_73 FU v1 v2 v3 (0 : Int32) x1 w
  else none
set_option maxRecDepth 20000 in
theorem c_X10_inColumn {E : Ev} (hL : LM E) (v1 : Int32) (v2 : Int32) (v3 : Int32) (v4 : Int32) (w : Wd) : Ct E m_X10_inColumn yX10_inColumn rI [.ref (Ea E 50), .int v1, .int v2, .int v3, .int v4] w (f_X10_inColumn v1 v2 v3 v4 w) := by
  refine Ct.of (by decide) ⟨rfl, rfl⟩ (Nat.le_of_ble_eq_true rfl) ?_
  show Sim E m_X10_inColumn rI 0 [(0, .ref (Ea E 50)), (1, .int v1), (2, .int v2), (3, .int v3), (4, .int v4)] [] w (f_X10_inColumn v1 v2 v3 v4 w)
  unfold f_X10_inColumn
  refine sim_iconst (0 : Int32) dX10_inColumn_0 rfl rfl ?_
  refine sim_istore [(5, .int (0 : Int32)), (0, .ref (Ea E 50)), (1, .int v1), (2, .int v2), (3, .int v3), (4, .int v4)] dX10_inColumn_1 (Nat.le_of_ble_eq_true rfl) rfl rfl ?_
  refine sim_iload 5 dX10_inColumn_3 rfl rfl ?_
  refine sim_aload_n 1 dX10_inColumn_5 rfl rfl ?_
  refine sim_get (k := 50) (ci := 8) (j := 0) (v := .int (w.1 50 0)) (hL 50 rfl) rfl (by decide) fl_X10_143 rfl dX10_inColumn_6 rfl ?_
  refine sim_irem dX10_inColumn_9 rfl ?_
  refine sim_lt (fun x1 => ?_)
  refine sim_istore [(6, .int x1), (5, .int (0 : Int32)), (0, .ref (Ea E 50)), (1, .int v1), (2, .int v2), (3, .int v3), (4, .int v4)] dX10_inColumn_10 (Nat.le_of_ble_eq_true rfl) rfl rfl ?_
  exact sim_sub [2, 3, 4, 5, 1, 0] rfl (sl_X10_inColumn_12 hL (sf_X10_inColumn_73 hL) FU v1 v2 v3 (0 : Int32) x1 w)
def f_X10_findTries_181 (R : Int32 → Int32 → Int32 → Wd → Option (Unit × Wd)) (K187 : Int32 → Int32 → Wd → Option (Unit × Wd)) (v1 : Int32) (v2 : Int32) (v3 : Int32) (w : Wd) : Option (Unit × Wd) :=
  R v1 v2 (v3 + (1 : Int32)) w
set_option maxRecDepth 20000 in
theorem sf_X10_findTries_181 {E : Ev} (hL : LM E) {R : Int32 → Int32 → Int32 → Wd → Option (Unit × Wd)} (hR : ∀ (v1 : Int32) (v2 : Int32) (v3 : Int32) (w : Wd), Sim E m_X10_findTries rV 16 [(0, .ref (Ea E 50)), (1, .int v1), (2, .int v2), (3, .int v3)] [] w (R v1 v2 v3 w)) {K187 : Int32 → Int32 → Wd → Option (Unit × Wd)} (hK187 : ∀ (v1 : Int32) (v2 : Int32) (w : Wd), Sim E m_X10_findTries rV 187 [(0, .ref (Ea E 50)), (1, .int v1), (2, .int v2)] [] w (K187 v1 v2 w)) (v1 : Int32) (v2 : Int32) (v3 : Int32) (w : Wd) : Sim E m_X10_findTries rV 181 [(0, .ref (Ea E 50)), (1, .int v1), (2, .int v2), (3, .int v3)] [] w (f_X10_findTries_181 R K187 v1 v2 v3 w) := by
  unfold f_X10_findTries_181
  refine sim_iinc (v3 + (1 : Int32)) 3 [(3, .int (v3 + (1 : Int32))), (0, .ref (Ea E 50)), (1, .int v1), (2, .int v2)] dX10_findTries_181 rfl rfl (Nat.le_of_ble_eq_true rfl) rfl rfl ?_
  refine sim_goto (q := 16) dX10_findTries_184 rfl ?_
  exact sim_sub [1, 2, 3, 0] rfl (hR v1 v2 (v3 + (1 : Int32)) w)
def f_X10_findTries_175 (R : Int32 → Int32 → Int32 → Int32 → Int32 → Wd → Option (Unit × Wd)) (K181 : Int32 → Int32 → Int32 → Wd → Option (Unit × Wd)) (v1 : Int32) (v2 : Int32) (v3 : Int32) (v4 : Int32) (v5 : Int32) (w : Wd) : Option (Unit × Wd) :=
  R v1 v2 v3 v4 (v5 + (1 : Int32)) w
set_option maxRecDepth 20000 in
theorem sf_X10_findTries_175 {E : Ev} (hL : LM E) {R : Int32 → Int32 → Int32 → Int32 → Int32 → Wd → Option (Unit × Wd)} (hR : ∀ (v1 : Int32) (v2 : Int32) (v3 : Int32) (v4 : Int32) (v5 : Int32) (w : Wd), Sim E m_X10_findTries rV 67 [(0, .ref (Ea E 50)), (1, .int v1), (2, .int v2), (3, .int v3), (4, .int v4), (5, .int v5)] [] w (R v1 v2 v3 v4 v5 w)) {K181 : Int32 → Int32 → Int32 → Wd → Option (Unit × Wd)} (hK181 : ∀ (v1 : Int32) (v2 : Int32) (v3 : Int32) (w : Wd), Sim E m_X10_findTries rV 181 [(0, .ref (Ea E 50)), (1, .int v1), (2, .int v2), (3, .int v3)] [] w (K181 v1 v2 v3 w)) (v1 : Int32) (v2 : Int32) (v3 : Int32) (v4 : Int32) (v5 : Int32) (w : Wd) : Sim E m_X10_findTries rV 175 [(0, .ref (Ea E 50)), (1, .int v1), (2, .int v2), (3, .int v3), (4, .int v4), (5, .int v5)] [] w (f_X10_findTries_175 R K181 v1 v2 v3 v4 v5 w) := by
  unfold f_X10_findTries_175
  refine sim_iinc (v5 + (1 : Int32)) 5 [(5, .int (v5 + (1 : Int32))), (0, .ref (Ea E 50)), (1, .int v1), (2, .int v2), (3, .int v3), (4, .int v4)] dX10_findTries_175 rfl rfl (Nat.le_of_ble_eq_true rfl) rfl rfl ?_
  refine sim_goto (q := 67) dX10_findTries_178 rfl ?_
  exact sim_sub [1, 2, 3, 4, 5, 0] rfl (hR v1 v2 v3 v4 (v5 + (1 : Int32)) w)
def f_X10_findTries_147 (R : Int32 → Int32 → Int32 → Int32 → Int32 → Wd → Option (Unit × Wd)) (K181 : Int32 → Int32 → Int32 → Wd → Option (Unit × Wd)) (v1 : Int32) (v2 : Int32) (v3 : Int32) (v4 : Int32) (v5 : Int32) (v6 : Int32) (v8 : Int32) (w : Wd) : Option (Unit × Wd) :=
  if v8 = (0 : Int32) then
  f_X10_findTries_175 R K181 v1 v2 v3 v4 v5 w
  else
  bd (f_X10_mayRaiseSo v4 v2 v3 v6 w) fun x9 w10 =>
  if x9 = (0 : Int32) then
  f_X10_findTries_175 R K181 v1 v2 v3 v4 v5 w10
  else
  bd (f_X10_tries v1 v3 v6 (1 : Int32) (-1 : Int32) w10) fun _ w11 =>
  f_X10_findTries_175 R K181 v1 v2 v3 v4 v5 w11
set_option maxRecDepth 20000 in
theorem sf_X10_findTries_147 {E : Ev} (hL : LM E) {R : Int32 → Int32 → Int32 → Int32 → Int32 → Wd → Option (Unit × Wd)} (hR : ∀ (v1 : Int32) (v2 : Int32) (v3 : Int32) (v4 : Int32) (v5 : Int32) (w : Wd), Sim E m_X10_findTries rV 67 [(0, .ref (Ea E 50)), (1, .int v1), (2, .int v2), (3, .int v3), (4, .int v4), (5, .int v5)] [] w (R v1 v2 v3 v4 v5 w)) {K181 : Int32 → Int32 → Int32 → Wd → Option (Unit × Wd)} (hK181 : ∀ (v1 : Int32) (v2 : Int32) (v3 : Int32) (w : Wd), Sim E m_X10_findTries rV 181 [(0, .ref (Ea E 50)), (1, .int v1), (2, .int v2), (3, .int v3)] [] w (K181 v1 v2 v3 w)) (v1 : Int32) (v2 : Int32) (v3 : Int32) (v4 : Int32) (v5 : Int32) (v6 : Int32) (v8 : Int32) (w : Wd) : Sim E m_X10_findTries rV 147 [(0, .ref (Ea E 50)), (1, .int v1), (2, .int v2), (3, .int v3), (4, .int v4), (5, .int v5), (6, .int v6), (8, .int v8)] [] w (f_X10_findTries_147 R K181 v1 v2 v3 v4 v5 v6 v8 w) := by
  unfold f_X10_findTries_147
  refine sim_iload 7 dX10_findTries_147 rfl rfl ?_
  refine sim_if_eq 175 dX10_findTries_149 rfl rfl (fun _ => ?_) (fun _ => ?_)
  · exact sim_sub [0, 1, 2, 3, 4, 5] rfl (sf_X10_findTries_175 hL hR hK181 v1 v2 v3 v4 v5 w)
  · refine sim_aload_n 0 dX10_findTries_152 rfl rfl ?_
    refine sim_iload 4 dX10_findTries_153 rfl rfl ?_
    refine sim_iload_n 2 dX10_findTries_155 rfl rfl ?_
    refine sim_iload_n 3 dX10_findTries_156 rfl rfl ?_
    refine sim_iload 6 dX10_findTries_157 rfl rfl ?_
    refine sim_cVi (k := 50) (ci := 8) [.int v4, .int v2, .int v3, .int v6] [] (c_X10_mayRaiseSo hL v4 v2 v3 v6 w) (hL 50 rfl) rfl (by decide) rfl cb_X10_228 im_X10_mayRaiseSo se_X10_mayRaiseSo rfl rfl rfl (Nat.le_of_ble_eq_true rfl) dX10_findTries_159 rfl (fun x9 w10 => ?_)
    refine sim_if_eq 175 dX10_findTries_162 rfl rfl (fun _ => ?_) (fun _ => ?_)
    · exact sim_sub [0, 1, 2, 3, 4, 5] rfl (sf_X10_findTries_175 hL hR hK181 v1 v2 v3 v4 v5 w10)
    · refine sim_aload_n 0 dX10_findTries_165 rfl rfl ?_
      refine sim_iload_n 1 dX10_findTries_166 rfl rfl ?_
      refine sim_iload_n 3 dX10_findTries_167 rfl rfl ?_
      refine sim_iload 6 dX10_findTries_168 rfl rfl ?_
      refine sim_iconst (1 : Int32) dX10_findTries_170 rfl rfl ?_
      refine sim_iconst (-1 : Int32) dX10_findTries_171 rfl rfl ?_
      refine sim_cVv (k := 50) (ci := 8) [.int v1, .int v3, .int v6, .int (1 : Int32), .int (-1 : Int32)] [] (c_X10_tries hL v1 v3 v6 (1 : Int32) (-1 : Int32) w10) (hL 50 rfl) rfl (by decide) rfl cb_X10_224 im_X10_tries se_X10_tries rfl rfl rfl (Nat.le_of_ble_eq_true rfl) dX10_findTries_172 rfl (fun _ w11 => ?_)
      exact sim_sub [0, 1, 2, 3, 4, 5] rfl (sf_X10_findTries_175 hL hR hK181 v1 v2 v3 v4 v5 w11)
def f_X10_findTries_118 (R : Int32 → Int32 → Int32 → Int32 → Int32 → Wd → Option (Unit × Wd)) (K181 : Int32 → Int32 → Int32 → Wd → Option (Unit × Wd)) (v1 : Int32) (v2 : Int32) (v3 : Int32) (v4 : Int32) (v5 : Int32) (v6 : Int32) (s0 : Int32) (w : Wd) : Option (Unit × Wd) :=
  if s0 = (0 : Int32) then
  f_X10_findTries_147 R K181 v1 v2 v3 v4 v5 v6 s0 w
  else
  bd (f_X10_mayStay v4 v2 v6 w) fun x12 w13 =>
  if x12 = (0 : Int32) then
  f_X10_findTries_147 R K181 v1 v2 v3 v4 v5 v6 s0 w13
  else
  bd (f_X10_tries v1 v3 v6 (0 : Int32) (-1 : Int32) w13) fun _ w14 =>
  f_X10_findTries_147 R K181 v1 v2 v3 v4 v5 v6 s0 w14
set_option maxRecDepth 20000 in
theorem sf_X10_findTries_118 {E : Ev} (hL : LM E) {R : Int32 → Int32 → Int32 → Int32 → Int32 → Wd → Option (Unit × Wd)} (hR : ∀ (v1 : Int32) (v2 : Int32) (v3 : Int32) (v4 : Int32) (v5 : Int32) (w : Wd), Sim E m_X10_findTries rV 67 [(0, .ref (Ea E 50)), (1, .int v1), (2, .int v2), (3, .int v3), (4, .int v4), (5, .int v5)] [] w (R v1 v2 v3 v4 v5 w)) {K181 : Int32 → Int32 → Int32 → Wd → Option (Unit × Wd)} (hK181 : ∀ (v1 : Int32) (v2 : Int32) (v3 : Int32) (w : Wd), Sim E m_X10_findTries rV 181 [(0, .ref (Ea E 50)), (1, .int v1), (2, .int v2), (3, .int v3)] [] w (K181 v1 v2 v3 w)) (v1 : Int32) (v2 : Int32) (v3 : Int32) (v4 : Int32) (v5 : Int32) (v6 : Int32) (s0 : Int32) (w : Wd) : Sim E m_X10_findTries rV 118 [(0, .ref (Ea E 50)), (1, .int v1), (2, .int v2), (3, .int v3), (4, .int v4), (5, .int v5), (6, .int v6)] [.int s0] w (f_X10_findTries_118 R K181 v1 v2 v3 v4 v5 v6 s0 w) := by
  unfold f_X10_findTries_118
  refine sim_istore [(8, .int s0), (0, .ref (Ea E 50)), (1, .int v1), (2, .int v2), (3, .int v3), (4, .int v4), (5, .int v5), (6, .int v6)] dX10_findTries_118 (Nat.le_of_ble_eq_true rfl) rfl rfl ?_
  refine sim_iload 0 dX10_findTries_120 rfl rfl ?_
  refine sim_if_eq 147 dX10_findTries_122 rfl rfl (fun _ => ?_) (fun _ => ?_)
  · exact sim_sub [1, 2, 3, 4, 5, 6, 7, 0] rfl (sf_X10_findTries_147 hL hR hK181 v1 v2 v3 v4 v5 v6 s0 w)
  · refine sim_aload_n 1 dX10_findTries_125 rfl rfl ?_
    refine sim_iload 5 dX10_findTries_126 rfl rfl ?_
    refine sim_iload_n 3 dX10_findTries_128 rfl rfl ?_
    refine sim_iload 7 dX10_findTries_129 rfl rfl ?_
    refine sim_cVi (k := 50) (ci := 8) [.int v4, .int v2, .int v6] [] (c_X10_mayStay hL v4 v2 v6 w) (hL 50 rfl) rfl (by decide) rfl cb_X10_221 im_X10_mayStay se_X10_mayStay rfl rfl rfl (Nat.le_of_ble_eq_true rfl) dX10_findTries_131 rfl (fun x12 w13 => ?_)
    refine sim_if_eq 147 dX10_findTries_134 rfl rfl (fun _ => ?_) (fun _ => ?_)
    · exact sim_sub [1, 2, 3, 4, 5, 6, 7, 0] rfl (sf_X10_findTries_147 hL hR hK181 v1 v2 v3 v4 v5 v6 s0 w13)
    · refine sim_aload_n 1 dX10_findTries_137 rfl rfl ?_
      refine sim_iload_n 2 dX10_findTries_138 rfl rfl ?_
      refine sim_iload_n 4 dX10_findTries_139 rfl rfl ?_
      refine sim_iload 7 dX10_findTries_140 rfl rfl ?_
      refine sim_iconst (0 : Int32) dX10_findTries_142 rfl rfl ?_
      refine sim_iconst (-1 : Int32) dX10_findTries_143 rfl rfl ?_
      refine sim_cVv (k := 50) (ci := 8) [.int v1, .int v3, .int v6, .int (0 : Int32), .int (-1 : Int32)] [] (c_X10_tries hL v1 v3 v6 (0 : Int32) (-1 : Int32) w13) (hL 50 rfl) rfl (by decide) rfl cb_X10_224 im_X10_tries se_X10_tries rfl rfl rfl (Nat.le_of_ble_eq_true rfl) dX10_findTries_144 rfl (fun _ w14 => ?_)
      exact sim_sub [1, 2, 3, 4, 5, 6, 7, 0] rfl (sf_X10_findTries_147 hL hR hK181 v1 v2 v3 v4 v5 v6 s0 w14)
def f_X10_findTries_113 (R : Int32 → Int32 → Int32 → Int32 → Int32 → Wd → Option (Unit × Wd)) (K181 : Int32 → Int32 → Int32 → Wd → Option (Unit × Wd)) (v1 : Int32) (v2 : Int32) (v3 : Int32) (v4 : Int32) (v5 : Int32) (v6 : Int32) (w : Wd) : Option (Unit × Wd) :=
  f_X10_findTries_118 R K181 v1 v2 v3 v4 v5 v6 (1 : Int32) w
set_option maxRecDepth 20000 in
theorem sf_X10_findTries_113 {E : Ev} (hL : LM E) {R : Int32 → Int32 → Int32 → Int32 → Int32 → Wd → Option (Unit × Wd)} (hR : ∀ (v1 : Int32) (v2 : Int32) (v3 : Int32) (v4 : Int32) (v5 : Int32) (w : Wd), Sim E m_X10_findTries rV 67 [(0, .ref (Ea E 50)), (1, .int v1), (2, .int v2), (3, .int v3), (4, .int v4), (5, .int v5)] [] w (R v1 v2 v3 v4 v5 w)) {K181 : Int32 → Int32 → Int32 → Wd → Option (Unit × Wd)} (hK181 : ∀ (v1 : Int32) (v2 : Int32) (v3 : Int32) (w : Wd), Sim E m_X10_findTries rV 181 [(0, .ref (Ea E 50)), (1, .int v1), (2, .int v2), (3, .int v3)] [] w (K181 v1 v2 v3 w)) (v1 : Int32) (v2 : Int32) (v3 : Int32) (v4 : Int32) (v5 : Int32) (v6 : Int32) (w : Wd) : Sim E m_X10_findTries rV 113 [(0, .ref (Ea E 50)), (1, .int v1), (2, .int v2), (3, .int v3), (4, .int v4), (5, .int v5), (6, .int v6)] [] w (f_X10_findTries_113 R K181 v1 v2 v3 v4 v5 v6 w) := by
  unfold f_X10_findTries_113
  refine sim_iconst (1 : Int32) dX10_findTries_113 rfl rfl ?_
  refine sim_goto (q := 118) dX10_findTries_114 rfl ?_
  exact sim_sub [0, 1, 2, 3, 4, 5, 6] rfl (sf_X10_findTries_118 hL hR hK181 v1 v2 v3 v4 v5 v6 (1 : Int32) w)
def b_X10_findTries_67 (R : Int32 → Int32 → Int32 → Int32 → Int32 → Wd → Option (Unit × Wd)) (K181 : Int32 → Int32 → Int32 → Wd → Option (Unit × Wd)) (v1 : Int32) (v2 : Int32) (v3 : Int32) (v4 : Int32) (v5 : Int32) (w : Wd) : Option (Unit × Wd) :=
  if (w.1 50 22) ≤ v5 then
  K181 v1 v2 v3 w
  else
  if inb v5 64 = true then
  lt (w.1 74 (Int32.toNatClampNeg v5)) fun x7 =>
  if inb (((49 : Int32) * v1) + x7) 784 = true then
  lt (w.1 60 (Int32.toNatClampNeg (((49 : Int32) * v1) + x7))) fun x8 =>
  if x8 = (0 : Int32) then
  f_X10_findTries_113 R K181 v1 v2 v3 v4 v5 x7 w
  else
  bd (f_X10_sideOf x8 w) fun x15 w16 =>
  if x15 = v2 then
  f_X10_findTries_118 R K181 v1 v2 v3 v4 v5 x7 (0 : Int32) w16
  else
  f_X10_findTries_113 R K181 v1 v2 v3 v4 v5 x7 w16
  else none
  else none
set_option maxRecDepth 20000 in
theorem sb_X10_findTries_67 {E : Ev} (hL : LM E) {R : Int32 → Int32 → Int32 → Int32 → Int32 → Wd → Option (Unit × Wd)} (hR : ∀ (v1 : Int32) (v2 : Int32) (v3 : Int32) (v4 : Int32) (v5 : Int32) (w : Wd), Sim E m_X10_findTries rV 67 [(0, .ref (Ea E 50)), (1, .int v1), (2, .int v2), (3, .int v3), (4, .int v4), (5, .int v5)] [] w (R v1 v2 v3 v4 v5 w)) {K181 : Int32 → Int32 → Int32 → Wd → Option (Unit × Wd)} (hK181 : ∀ (v1 : Int32) (v2 : Int32) (v3 : Int32) (w : Wd), Sim E m_X10_findTries rV 181 [(0, .ref (Ea E 50)), (1, .int v1), (2, .int v2), (3, .int v3)] [] w (K181 v1 v2 v3 w)) (v1 : Int32) (v2 : Int32) (v3 : Int32) (v4 : Int32) (v5 : Int32) (w : Wd) : Sim E m_X10_findTries rV 67 [(0, .ref (Ea E 50)), (1, .int v1), (2, .int v2), (3, .int v3), (4, .int v4), (5, .int v5)] [] w (b_X10_findTries_67 R K181 v1 v2 v3 v4 v5 w) := by
  unfold b_X10_findTries_67
  refine sim_iload 5 dX10_findTries_67 rfl rfl ?_
  refine sim_aload_n 0 dX10_findTries_69 rfl rfl ?_
  refine sim_get (k := 50) (ci := 8) (j := 22) (v := .int (w.1 50 22)) (hL 50 rfl) rfl (by decide) fl_X10_184 rfl dX10_findTries_70 rfl ?_
  refine sim_icmp_ge 181 dX10_findTries_73 rfl rfl (fun _ => ?_) (fun _ => ?_)
  · exact sim_sub [0, 1, 2, 3] rfl (hK181 v1 v2 v3 w)
  · refine sim_aload_n 0 dX10_findTries_76 rfl rfl ?_
    refine sim_get (k := 50) (ci := 8) (j := 23) (v := .ref (Ea E 74)) (hL 50 rfl) rfl (by decide) fl_X10_70 rfl dX10_findTries_77 rfl ?_
    refine sim_iload 5 dX10_findTries_80 rfl rfl ?_
    refine sim_iaload (k := 74) (hL 74 rfl) rfl rfl dX10_findTries_82 rfl ?_
    refine sim_lt (fun x7 => ?_)
    refine sim_istore [(6, .int x7), (0, .ref (Ea E 50)), (1, .int v1), (2, .int v2), (3, .int v3), (4, .int v4), (5, .int v5)] dX10_findTries_83 (Nat.le_of_ble_eq_true rfl) rfl rfl ?_
    refine sim_aload_n 1 dX10_findTries_85 rfl rfl ?_
    refine sim_get (k := 50) (ci := 8) (j := 9) (v := .ref (Ea E 60)) (hL 50 rfl) rfl (by decide) fl_X10_31 rfl dX10_findTries_86 rfl ?_
    refine sim_bipush (49 : Int32) dX10_findTries_89 rfl rfl ?_
    refine sim_iload_n 2 dX10_findTries_91 rfl rfl ?_
    refine sim_imul dX10_findTries_92 rfl ?_
    refine sim_iload 0 dX10_findTries_93 rfl rfl ?_
    refine sim_iadd dX10_findTries_95 rfl ?_
    refine sim_iaload (k := 60) (hL 60 rfl) rfl rfl dX10_findTries_96 rfl ?_
    refine sim_lt (fun x8 => ?_)
    refine sim_istore [(7, .int x8), (6, .int x7), (0, .ref (Ea E 50)), (1, .int v1), (2, .int v2), (3, .int v3), (4, .int v4), (5, .int v5)] dX10_findTries_97 (Nat.le_of_ble_eq_true rfl) rfl rfl ?_
    refine sim_iload 0 dX10_findTries_99 rfl rfl ?_
    refine sim_if_eq 113 dX10_findTries_101 rfl rfl (fun _ => ?_) (fun _ => ?_)
    · exact sim_sub [2, 3, 4, 5, 6, 7, 1] rfl (sf_X10_findTries_113 hL hR hK181 v1 v2 v3 v4 v5 x7 w)
    · refine sim_iload 0 dX10_findTries_104 rfl rfl ?_
      refine sim_cSi [.int x8] [] (c_X10_sideOf hL x8 w) cb_X10_193 sx_X10_sideOf rfl rfl rfl (Nat.le_of_ble_eq_true rfl) dX10_findTries_106 rfl (fun x15 w16 => ?_)
      refine sim_iload_n 4 dX10_findTries_109 rfl rfl ?_
      refine sim_icmp_eq 117 dX10_findTries_110 rfl rfl (fun _ => ?_) (fun _ => ?_)
      · refine sim_iconst (0 : Int32) dX10_findTries_117 rfl rfl ?_
        exact sim_sub [2, 3, 4, 5, 6, 7, 1] rfl (sf_X10_findTries_118 hL hR hK181 v1 v2 v3 v4 v5 x7 (0 : Int32) w16)
      · exact sim_sub [2, 3, 4, 5, 6, 7, 1] rfl (sf_X10_findTries_113 hL hR hK181 v1 v2 v3 v4 v5 x7 w16)
def l_X10_findTries_67 (K181 : Int32 → Int32 → Int32 → Wd → Option (Unit × Wd)) (n : Nat) : Int32 → Int32 → Int32 → Int32 → Int32 → Wd → Option (Unit × Wd) := itr (fun _ _ _ _ _ _ => none) (fun R => b_X10_findTries_67 R K181) n
set_option maxRecDepth 20000 in
theorem sl_X10_findTries_67 {E : Ev} (hL : LM E) {K181 : Int32 → Int32 → Int32 → Wd → Option (Unit × Wd)} (hK181 : ∀ (v1 : Int32) (v2 : Int32) (v3 : Int32) (w : Wd), Sim E m_X10_findTries rV 181 [(0, .ref (Ea E 50)), (1, .int v1), (2, .int v2), (3, .int v3)] [] w (K181 v1 v2 v3 w)) : ∀ (n : Nat) (v1 : Int32) (v2 : Int32) (v3 : Int32) (v4 : Int32) (v5 : Int32) (w : Wd), Sim E m_X10_findTries rV 67 [(0, .ref (Ea E 50)), (1, .int v1), (2, .int v2), (3, .int v3), (4, .int v4), (5, .int v5)] [] w (l_X10_findTries_67 K181 n v1 v2 v3 v4 v5 w) := by
  intro n
  induction n with
  | zero => intros; exact sim_none
  | succ n ih => intros; exact sb_X10_findTries_67 hL (R := l_X10_findTries_67 K181 n) ih hK181 _ _ _ _ _ _
def b_X10_findTries_16 (R : Int32 → Int32 → Int32 → Wd → Option (Unit × Wd)) (K187 : Int32 → Int32 → Wd → Option (Unit × Wd)) (v1 : Int32) (v2 : Int32) (v3 : Int32) (w : Wd) : Option (Unit × Wd) :=
  if ((w.1 50 0) * (w.1 50 0)) ≤ v3 then
  K187 v1 v2 w
  else
  if inb (((49 : Int32) * v1) + v3) 784 = true then
  lt (w.1 60 (Int32.toNatClampNeg (((49 : Int32) * v1) + v3))) fun x3 =>
  if x3 = (0 : Int32) then
  f_X10_findTries_181 R K187 v1 v2 v3 w
  else
  bd (f_X10_sideOf x3 w) fun x4 w5 =>
  if x4 = v2 then
  bd (f_X10_reaches v1 v3 x3 w5) fun _ w6 =>
  l_X10_findTries_67 (f_X10_findTries_181 R K187) FU v1 v2 v3 x3 (0 : Int32) w6
  else
  f_X10_findTries_181 R K187 v1 v2 v3 w5
  else none
set_option maxRecDepth 20000 in
theorem sb_X10_findTries_16 {E : Ev} (hL : LM E) {R : Int32 → Int32 → Int32 → Wd → Option (Unit × Wd)} (hR : ∀ (v1 : Int32) (v2 : Int32) (v3 : Int32) (w : Wd), Sim E m_X10_findTries rV 16 [(0, .ref (Ea E 50)), (1, .int v1), (2, .int v2), (3, .int v3)] [] w (R v1 v2 v3 w)) {K187 : Int32 → Int32 → Wd → Option (Unit × Wd)} (hK187 : ∀ (v1 : Int32) (v2 : Int32) (w : Wd), Sim E m_X10_findTries rV 187 [(0, .ref (Ea E 50)), (1, .int v1), (2, .int v2)] [] w (K187 v1 v2 w)) (v1 : Int32) (v2 : Int32) (v3 : Int32) (w : Wd) : Sim E m_X10_findTries rV 16 [(0, .ref (Ea E 50)), (1, .int v1), (2, .int v2), (3, .int v3)] [] w (b_X10_findTries_16 R K187 v1 v2 v3 w) := by
  unfold b_X10_findTries_16
  refine sim_iload_n 3 dX10_findTries_16 rfl rfl ?_
  refine sim_aload_n 0 dX10_findTries_17 rfl rfl ?_
  refine sim_get (k := 50) (ci := 8) (j := 0) (v := .int (w.1 50 0)) (hL 50 rfl) rfl (by decide) fl_X10_143 rfl dX10_findTries_18 rfl ?_
  refine sim_aload_n 0 dX10_findTries_21 rfl rfl ?_
  refine sim_get (k := 50) (ci := 8) (j := 0) (v := .int (w.1 50 0)) (hL 50 rfl) rfl (by decide) fl_X10_143 rfl dX10_findTries_22 rfl ?_
  refine sim_imul dX10_findTries_25 rfl ?_
  refine sim_icmp_ge 187 dX10_findTries_26 rfl rfl (fun _ => ?_) (fun _ => ?_)
  · exact sim_sub [0, 1, 2] rfl (hK187 v1 v2 w)
  · refine sim_aload_n 0 dX10_findTries_29 rfl rfl ?_
    refine sim_get (k := 50) (ci := 8) (j := 9) (v := .ref (Ea E 60)) (hL 50 rfl) rfl (by decide) fl_X10_31 rfl dX10_findTries_30 rfl ?_
    refine sim_bipush (49 : Int32) dX10_findTries_33 rfl rfl ?_
    refine sim_iload_n 1 dX10_findTries_35 rfl rfl ?_
    refine sim_imul dX10_findTries_36 rfl ?_
    refine sim_iload_n 3 dX10_findTries_37 rfl rfl ?_
    refine sim_iadd dX10_findTries_38 rfl ?_
    refine sim_iaload (k := 60) (hL 60 rfl) rfl rfl dX10_findTries_39 rfl ?_
    refine sim_lt (fun x3 => ?_)
    refine sim_istore [(4, .int x3), (0, .ref (Ea E 50)), (1, .int v1), (2, .int v2), (3, .int v3)] dX10_findTries_40 (Nat.le_of_ble_eq_true rfl) rfl rfl ?_
    refine sim_iload 0 dX10_findTries_42 rfl rfl ?_
    refine sim_if_eq 181 dX10_findTries_44 rfl rfl (fun _ => ?_) (fun _ => ?_)
    · exact sim_sub [1, 2, 3, 4] rfl (sf_X10_findTries_181 hL hR hK187 v1 v2 v3 w)
    · refine sim_iload 0 dX10_findTries_47 rfl rfl ?_
      refine sim_cSi [.int x3] [] (c_X10_sideOf hL x3 w) cb_X10_193 sx_X10_sideOf rfl rfl rfl (Nat.le_of_ble_eq_true rfl) dX10_findTries_49 rfl (fun x4 w5 => ?_)
      refine sim_iload_n 3 dX10_findTries_52 rfl rfl ?_
      refine sim_icmp_ne 181 dX10_findTries_53 rfl rfl (fun _ => ?_) (fun _ => ?_)
      · exact sim_sub [1, 2, 3, 4] rfl (sf_X10_findTries_181 hL hR hK187 v1 v2 v3 w5)
      · refine sim_aload_n 1 dX10_findTries_56 rfl rfl ?_
        refine sim_iload_n 2 dX10_findTries_57 rfl rfl ?_
        refine sim_iload_n 4 dX10_findTries_58 rfl rfl ?_
        refine sim_iload 0 dX10_findTries_59 rfl rfl ?_
        refine sim_cVv (k := 50) (ci := 8) [.int v1, .int v3, .int x3] [] (c_X10_reaches hL v1 v3 x3 w5) (hL 50 rfl) rfl (by decide) rfl cb_X10_203 im_X10_reaches se_X10_reaches rfl rfl rfl (Nat.le_of_ble_eq_true rfl) dX10_findTries_61 rfl (fun _ w6 => ?_)
        refine sim_iconst (0 : Int32) dX10_findTries_64 rfl rfl ?_
        refine sim_istore [(5, .int (0 : Int32)), (4, .int x3), (0, .ref (Ea E 50)), (1, .int v1), (2, .int v2), (3, .int v3)] dX10_findTries_65 (Nat.le_of_ble_eq_true rfl) rfl rfl ?_
        exact sim_sub [2, 3, 4, 5, 1, 0] rfl (sl_X10_findTries_67 hL (sf_X10_findTries_181 hL hR hK187) FU v1 v2 v3 x3 (0 : Int32) w6)
def l_X10_findTries_16 (K187 : Int32 → Int32 → Wd → Option (Unit × Wd)) (n : Nat) : Int32 → Int32 → Int32 → Wd → Option (Unit × Wd) := itr (fun _ _ _ _ => none) (fun R => b_X10_findTries_16 R K187) n
set_option maxRecDepth 20000 in
theorem sl_X10_findTries_16 {E : Ev} (hL : LM E) {K187 : Int32 → Int32 → Wd → Option (Unit × Wd)} (hK187 : ∀ (v1 : Int32) (v2 : Int32) (w : Wd), Sim E m_X10_findTries rV 187 [(0, .ref (Ea E 50)), (1, .int v1), (2, .int v2)] [] w (K187 v1 v2 w)) : ∀ (n : Nat) (v1 : Int32) (v2 : Int32) (v3 : Int32) (w : Wd), Sim E m_X10_findTries rV 16 [(0, .ref (Ea E 50)), (1, .int v1), (2, .int v2), (3, .int v3)] [] w (l_X10_findTries_16 K187 n v1 v2 v3 w) := by
  intro n
  induction n with
  | zero => intros; exact sim_none
  | succ n ih => intros; exact sb_X10_findTries_16 hL (R := l_X10_findTries_16 K187 n) ih hK187 _ _ _ _
def f_X10_findTries_302 (R : Int32 → Int32 → Int32 → Int32 → Wd → Option (Unit × Wd)) (K308 : Int32 → Int32 → Int32 → Wd → Option (Unit × Wd)) (v1 : Int32) (v2 : Int32) (v3 : Int32) (v4 : Int32) (w : Wd) : Option (Unit × Wd) :=
  R v1 v2 v3 (v4 + (1 : Int32)) w
set_option maxRecDepth 20000 in
theorem sf_X10_findTries_302 {E : Ev} (hL : LM E) {R : Int32 → Int32 → Int32 → Int32 → Wd → Option (Unit × Wd)} (hR : ∀ (v1 : Int32) (v2 : Int32) (v3 : Int32) (v4 : Int32) (w : Wd), Sim E m_X10_findTries rV 198 [(0, .ref (Ea E 50)), (1, .int v1), (2, .int v2), (3, .int v3), (4, .int v4)] [] w (R v1 v2 v3 v4 w)) {K308 : Int32 → Int32 → Int32 → Wd → Option (Unit × Wd)} (hK308 : ∀ (v1 : Int32) (v2 : Int32) (v3 : Int32) (w : Wd), Sim E m_X10_findTries rV 308 [(0, .ref (Ea E 50)), (1, .int v1), (2, .int v2), (3, .int v3)] [] w (K308 v1 v2 v3 w)) (v1 : Int32) (v2 : Int32) (v3 : Int32) (v4 : Int32) (w : Wd) : Sim E m_X10_findTries rV 302 [(0, .ref (Ea E 50)), (1, .int v1), (2, .int v2), (3, .int v3), (4, .int v4)] [] w (f_X10_findTries_302 R K308 v1 v2 v3 v4 w) := by
  unfold f_X10_findTries_302
  refine sim_iinc (v4 + (1 : Int32)) 4 [(4, .int (v4 + (1 : Int32))), (0, .ref (Ea E 50)), (1, .int v1), (2, .int v2), (3, .int v3)] dX10_findTries_302 rfl rfl (Nat.le_of_ble_eq_true rfl) rfl rfl ?_
  refine sim_goto (q := 198) dX10_findTries_305 rfl ?_
  exact sim_sub [1, 2, 3, 4, 0] rfl (hR v1 v2 v3 (v4 + (1 : Int32)) w)
def f_X10_findTries_285 (R : Int32 → Int32 → Int32 → Int32 → Wd → Option (Unit × Wd)) (K308 : Int32 → Int32 → Int32 → Wd → Option (Unit × Wd)) (v1 : Int32) (v2 : Int32) (v3 : Int32) (v4 : Int32) (s0 : Int32) (w : Wd) : Option (Unit × Wd) :=
  if s0 = (0 : Int32) then
  f_X10_findTries_302 R K308 v1 v2 v3 v4 w
  else
  bd (f_X10_tries v1 (-1 : Int32) v4 (0 : Int32) v3 w) fun _ w17 =>
  f_X10_findTries_302 R K308 v1 v2 v3 v4 w17
set_option maxRecDepth 20000 in
theorem sf_X10_findTries_285 {E : Ev} (hL : LM E) {R : Int32 → Int32 → Int32 → Int32 → Wd → Option (Unit × Wd)} (hR : ∀ (v1 : Int32) (v2 : Int32) (v3 : Int32) (v4 : Int32) (w : Wd), Sim E m_X10_findTries rV 198 [(0, .ref (Ea E 50)), (1, .int v1), (2, .int v2), (3, .int v3), (4, .int v4)] [] w (R v1 v2 v3 v4 w)) {K308 : Int32 → Int32 → Int32 → Wd → Option (Unit × Wd)} (hK308 : ∀ (v1 : Int32) (v2 : Int32) (v3 : Int32) (w : Wd), Sim E m_X10_findTries rV 308 [(0, .ref (Ea E 50)), (1, .int v1), (2, .int v2), (3, .int v3)] [] w (K308 v1 v2 v3 w)) (v1 : Int32) (v2 : Int32) (v3 : Int32) (v4 : Int32) (s0 : Int32) (w : Wd) : Sim E m_X10_findTries rV 285 [(0, .ref (Ea E 50)), (1, .int v1), (2, .int v2), (3, .int v3), (4, .int v4)] [.int s0] w (f_X10_findTries_285 R K308 v1 v2 v3 v4 s0 w) := by
  unfold f_X10_findTries_285
  refine sim_istore [(5, .int s0), (0, .ref (Ea E 50)), (1, .int v1), (2, .int v2), (3, .int v3), (4, .int v4)] dX10_findTries_285 (Nat.le_of_ble_eq_true rfl) rfl rfl ?_
  refine sim_iload 0 dX10_findTries_287 rfl rfl ?_
  refine sim_if_eq 302 dX10_findTries_289 rfl rfl (fun _ => ?_) (fun _ => ?_)
  · exact sim_sub [1, 2, 3, 4, 5] rfl (sf_X10_findTries_302 hL hR hK308 v1 v2 v3 v4 w)
  · refine sim_aload_n 1 dX10_findTries_292 rfl rfl ?_
    refine sim_iload_n 2 dX10_findTries_293 rfl rfl ?_
    refine sim_iconst (-1 : Int32) dX10_findTries_294 rfl rfl ?_
    refine sim_iload 5 dX10_findTries_295 rfl rfl ?_
    refine sim_iconst (0 : Int32) dX10_findTries_297 rfl rfl ?_
    refine sim_iload_n 4 dX10_findTries_298 rfl rfl ?_
    refine sim_cVv (k := 50) (ci := 8) [.int v1, .int (-1 : Int32), .int v4, .int (0 : Int32), .int v3] [] (c_X10_tries hL v1 (-1 : Int32) v4 (0 : Int32) v3 w) (hL 50 rfl) rfl (by decide) rfl cb_X10_224 im_X10_tries se_X10_tries rfl rfl rfl (Nat.le_of_ble_eq_true rfl) dX10_findTries_299 rfl (fun _ w17 => ?_)
    exact sim_sub [1, 2, 3, 4, 5] rfl (sf_X10_findTries_302 hL hR hK308 v1 v2 v3 v4 w17)
def f_X10_findTries_284 (R : Int32 → Int32 → Int32 → Int32 → Wd → Option (Unit × Wd)) (K308 : Int32 → Int32 → Int32 → Wd → Option (Unit × Wd)) (v1 : Int32) (v2 : Int32) (v3 : Int32) (v4 : Int32) (w : Wd) : Option (Unit × Wd) :=
  f_X10_findTries_285 R K308 v1 v2 v3 v4 (0 : Int32) w
set_option maxRecDepth 20000 in
theorem sf_X10_findTries_284 {E : Ev} (hL : LM E) {R : Int32 → Int32 → Int32 → Int32 → Wd → Option (Unit × Wd)} (hR : ∀ (v1 : Int32) (v2 : Int32) (v3 : Int32) (v4 : Int32) (w : Wd), Sim E m_X10_findTries rV 198 [(0, .ref (Ea E 50)), (1, .int v1), (2, .int v2), (3, .int v3), (4, .int v4)] [] w (R v1 v2 v3 v4 w)) {K308 : Int32 → Int32 → Int32 → Wd → Option (Unit × Wd)} (hK308 : ∀ (v1 : Int32) (v2 : Int32) (v3 : Int32) (w : Wd), Sim E m_X10_findTries rV 308 [(0, .ref (Ea E 50)), (1, .int v1), (2, .int v2), (3, .int v3)] [] w (K308 v1 v2 v3 w)) (v1 : Int32) (v2 : Int32) (v3 : Int32) (v4 : Int32) (w : Wd) : Sim E m_X10_findTries rV 284 [(0, .ref (Ea E 50)), (1, .int v1), (2, .int v2), (3, .int v3), (4, .int v4)] [] w (f_X10_findTries_284 R K308 v1 v2 v3 v4 w) := by
  unfold f_X10_findTries_284
  refine sim_iconst (0 : Int32) dX10_findTries_284 rfl rfl ?_
  exact sim_sub [0, 1, 2, 3, 4] rfl (sf_X10_findTries_285 hL hR hK308 v1 v2 v3 v4 (0 : Int32) w)
def f_X10_findTries_280 (R : Int32 → Int32 → Int32 → Int32 → Wd → Option (Unit × Wd)) (K308 : Int32 → Int32 → Int32 → Wd → Option (Unit × Wd)) (v1 : Int32) (v2 : Int32) (v3 : Int32) (v4 : Int32) (w : Wd) : Option (Unit × Wd) :=
  f_X10_findTries_285 R K308 v1 v2 v3 v4 (1 : Int32) w
set_option maxRecDepth 20000 in
theorem sf_X10_findTries_280 {E : Ev} (hL : LM E) {R : Int32 → Int32 → Int32 → Int32 → Wd → Option (Unit × Wd)} (hR : ∀ (v1 : Int32) (v2 : Int32) (v3 : Int32) (v4 : Int32) (w : Wd), Sim E m_X10_findTries rV 198 [(0, .ref (Ea E 50)), (1, .int v1), (2, .int v2), (3, .int v3), (4, .int v4)] [] w (R v1 v2 v3 v4 w)) {K308 : Int32 → Int32 → Int32 → Wd → Option (Unit × Wd)} (hK308 : ∀ (v1 : Int32) (v2 : Int32) (v3 : Int32) (w : Wd), Sim E m_X10_findTries rV 308 [(0, .ref (Ea E 50)), (1, .int v1), (2, .int v2), (3, .int v3)] [] w (K308 v1 v2 v3 w)) (v1 : Int32) (v2 : Int32) (v3 : Int32) (v4 : Int32) (w : Wd) : Sim E m_X10_findTries rV 280 [(0, .ref (Ea E 50)), (1, .int v1), (2, .int v2), (3, .int v3), (4, .int v4)] [] w (f_X10_findTries_280 R K308 v1 v2 v3 v4 w) := by
  unfold f_X10_findTries_280
  refine sim_iconst (1 : Int32) dX10_findTries_280 rfl rfl ?_
  refine sim_goto (q := 285) dX10_findTries_281 rfl ?_
  exact sim_sub [0, 1, 2, 3, 4] rfl (sf_X10_findTries_285 hL hR hK308 v1 v2 v3 v4 (1 : Int32) w)
def b_X10_findTries_198 (R : Int32 → Int32 → Int32 → Int32 → Wd → Option (Unit × Wd)) (K308 : Int32 → Int32 → Int32 → Wd → Option (Unit × Wd)) (v1 : Int32) (v2 : Int32) (v3 : Int32) (v4 : Int32) (w : Wd) : Option (Unit × Wd) :=
  if ((w.1 50 0) * (w.1 50 0)) ≤ v4 then
  K308 v1 v2 v3 w
  else
  if inb ((((16 : Int32) * v1) + ((8 : Int32) * v2)) + v3) 256 = true then
  if (w.1 61 (Int32.toNatClampNeg ((((16 : Int32) * v1) + ((8 : Int32) * v2)) + v3))) ≤ (0 : Int32) then
  K308 v1 v2 v3 w
  else
  if inb (((49 : Int32) * v1) + v4) 784 = true then
  if (w.1 60 (Int32.toNatClampNeg (((49 : Int32) * v1) + v4))) = (0 : Int32) then
  bd (f_X10_couldGoOn v3 v2 v4 w) fun x18 w19 =>
  if x18 = (0 : Int32) then
  f_X10_findTries_284 R K308 v1 v2 v3 v4 w19
  else
  if inb v3 8 = true then
  if ((w19.1 55 (Int32.toNatClampNeg v3)) &&& (1 : Int32)) = (0 : Int32) then
  f_X10_findTries_280 R K308 v1 v2 v3 v4 w19
  else
  bd (f_X10_inColumn v1 v2 v3 v4 w19) fun x20 w21 =>
  if x20 = (0 : Int32) then
  f_X10_findTries_280 R K308 v1 v2 v3 v4 w21
  else
  f_X10_findTries_284 R K308 v1 v2 v3 v4 w21
  else none
  else
  f_X10_findTries_284 R K308 v1 v2 v3 v4 w
  else none
  else none
set_option maxRecDepth 20000 in
theorem sb_X10_findTries_198 {E : Ev} (hL : LM E) {R : Int32 → Int32 → Int32 → Int32 → Wd → Option (Unit × Wd)} (hR : ∀ (v1 : Int32) (v2 : Int32) (v3 : Int32) (v4 : Int32) (w : Wd), Sim E m_X10_findTries rV 198 [(0, .ref (Ea E 50)), (1, .int v1), (2, .int v2), (3, .int v3), (4, .int v4)] [] w (R v1 v2 v3 v4 w)) {K308 : Int32 → Int32 → Int32 → Wd → Option (Unit × Wd)} (hK308 : ∀ (v1 : Int32) (v2 : Int32) (v3 : Int32) (w : Wd), Sim E m_X10_findTries rV 308 [(0, .ref (Ea E 50)), (1, .int v1), (2, .int v2), (3, .int v3)] [] w (K308 v1 v2 v3 w)) (v1 : Int32) (v2 : Int32) (v3 : Int32) (v4 : Int32) (w : Wd) : Sim E m_X10_findTries rV 198 [(0, .ref (Ea E 50)), (1, .int v1), (2, .int v2), (3, .int v3), (4, .int v4)] [] w (b_X10_findTries_198 R K308 v1 v2 v3 v4 w) := by
  unfold b_X10_findTries_198
  refine sim_iload 4 dX10_findTries_198 rfl rfl ?_
  refine sim_aload_n 0 dX10_findTries_200 rfl rfl ?_
  refine sim_get (k := 50) (ci := 8) (j := 0) (v := .int (w.1 50 0)) (hL 50 rfl) rfl (by decide) fl_X10_143 rfl dX10_findTries_201 rfl ?_
  refine sim_aload_n 0 dX10_findTries_204 rfl rfl ?_
  refine sim_get (k := 50) (ci := 8) (j := 0) (v := .int (w.1 50 0)) (hL 50 rfl) rfl (by decide) fl_X10_143 rfl dX10_findTries_205 rfl ?_
  refine sim_imul dX10_findTries_208 rfl ?_
  refine sim_icmp_ge 308 dX10_findTries_209 rfl rfl (fun _ => ?_) (fun _ => ?_)
  · exact sim_sub [0, 1, 2, 3] rfl (hK308 v1 v2 v3 w)
  · refine sim_aload_n 0 dX10_findTries_212 rfl rfl ?_
    refine sim_get (k := 50) (ci := 8) (j := 10) (v := .ref (Ea E 61)) (hL 50 rfl) rfl (by decide) fl_X10_34 rfl dX10_findTries_213 rfl ?_
    refine sim_bipush (16 : Int32) dX10_findTries_216 rfl rfl ?_
    refine sim_iload_n 1 dX10_findTries_218 rfl rfl ?_
    refine sim_imul dX10_findTries_219 rfl ?_
    refine sim_bipush (8 : Int32) dX10_findTries_220 rfl rfl ?_
    refine sim_iload_n 2 dX10_findTries_222 rfl rfl ?_
    refine sim_imul dX10_findTries_223 rfl ?_
    refine sim_iadd dX10_findTries_224 rfl ?_
    refine sim_iload_n 3 dX10_findTries_225 rfl rfl ?_
    refine sim_iadd dX10_findTries_226 rfl ?_
    refine sim_iaload (k := 61) (hL 61 rfl) rfl rfl dX10_findTries_227 rfl ?_
    refine sim_if_le 308 dX10_findTries_228 rfl rfl (fun _ => ?_) (fun _ => ?_)
    · exact sim_sub [0, 1, 2, 3] rfl (hK308 v1 v2 v3 w)
    · refine sim_aload_n 0 dX10_findTries_231 rfl rfl ?_
      refine sim_get (k := 50) (ci := 8) (j := 9) (v := .ref (Ea E 60)) (hL 50 rfl) rfl (by decide) fl_X10_31 rfl dX10_findTries_232 rfl ?_
      refine sim_bipush (49 : Int32) dX10_findTries_235 rfl rfl ?_
      refine sim_iload_n 1 dX10_findTries_237 rfl rfl ?_
      refine sim_imul dX10_findTries_238 rfl ?_
      refine sim_iload 4 dX10_findTries_239 rfl rfl ?_
      refine sim_iadd dX10_findTries_241 rfl ?_
      refine sim_iaload (k := 60) (hL 60 rfl) rfl rfl dX10_findTries_242 rfl ?_
      refine sim_if_ne 284 dX10_findTries_243 rfl rfl (fun _ => ?_) (fun _ => ?_)
      · exact sim_sub [0, 1, 2, 3, 4] rfl (sf_X10_findTries_284 hL hR hK308 v1 v2 v3 v4 w)
      · refine sim_aload_n 0 dX10_findTries_246 rfl rfl ?_
        refine sim_iload_n 3 dX10_findTries_247 rfl rfl ?_
        refine sim_iload_n 2 dX10_findTries_248 rfl rfl ?_
        refine sim_iload 4 dX10_findTries_249 rfl rfl ?_
        refine sim_cVi (k := 50) (ci := 8) [.int v3, .int v2, .int v4] [] (c_X10_couldGoOn hL v3 v2 v4 w) (hL 50 rfl) rfl (by decide) rfl cb_X10_218 im_X10_couldGoOn se_X10_couldGoOn rfl rfl rfl (Nat.le_of_ble_eq_true rfl) dX10_findTries_251 rfl (fun x18 w19 => ?_)
        refine sim_if_eq 284 dX10_findTries_254 rfl rfl (fun _ => ?_) (fun _ => ?_)
        · exact sim_sub [0, 1, 2, 3, 4] rfl (sf_X10_findTries_284 hL hR hK308 v1 v2 v3 v4 w19)
        · refine sim_aload_n 0 dX10_findTries_257 rfl rfl ?_
          refine sim_get (k := 50) (ci := 8) (j := 4) (v := .ref (Ea E 55)) (hL 50 rfl) rfl (by decide) fl_X10_16 rfl dX10_findTries_258 rfl ?_
          refine sim_iload_n 3 dX10_findTries_261 rfl rfl ?_
          refine sim_iaload (k := 55) (hL 55 rfl) rfl rfl dX10_findTries_262 rfl ?_
          refine sim_iconst (1 : Int32) dX10_findTries_263 rfl rfl ?_
          refine sim_iand dX10_findTries_264 rfl ?_
          refine sim_if_eq 280 dX10_findTries_265 rfl rfl (fun _ => ?_) (fun _ => ?_)
          · exact sim_sub [0, 1, 2, 3, 4] rfl (sf_X10_findTries_280 hL hR hK308 v1 v2 v3 v4 w19)
          · refine sim_aload_n 0 dX10_findTries_268 rfl rfl ?_
            refine sim_iload_n 1 dX10_findTries_269 rfl rfl ?_
            refine sim_iload_n 2 dX10_findTries_270 rfl rfl ?_
            refine sim_iload_n 3 dX10_findTries_271 rfl rfl ?_
            refine sim_iload 4 dX10_findTries_272 rfl rfl ?_
            refine sim_cVi (k := 50) (ci := 8) [.int v1, .int v2, .int v3, .int v4] [] (c_X10_inColumn hL v1 v2 v3 v4 w19) (hL 50 rfl) rfl (by decide) rfl cb_X10_232 im_X10_inColumn se_X10_inColumn rfl rfl rfl (Nat.le_of_ble_eq_true rfl) dX10_findTries_274 rfl (fun x20 w21 => ?_)
            refine sim_if_ne 284 dX10_findTries_277 rfl rfl (fun _ => ?_) (fun _ => ?_)
            · exact sim_sub [0, 1, 2, 3, 4] rfl (sf_X10_findTries_284 hL hR hK308 v1 v2 v3 v4 w21)
            · exact sim_sub [0, 1, 2, 3, 4] rfl (sf_X10_findTries_280 hL hR hK308 v1 v2 v3 v4 w21)
def l_X10_findTries_198 (K308 : Int32 → Int32 → Int32 → Wd → Option (Unit × Wd)) (n : Nat) : Int32 → Int32 → Int32 → Int32 → Wd → Option (Unit × Wd) := itr (fun _ _ _ _ _ => none) (fun R => b_X10_findTries_198 R K308) n
set_option maxRecDepth 20000 in
theorem sl_X10_findTries_198 {E : Ev} (hL : LM E) {K308 : Int32 → Int32 → Int32 → Wd → Option (Unit × Wd)} (hK308 : ∀ (v1 : Int32) (v2 : Int32) (v3 : Int32) (w : Wd), Sim E m_X10_findTries rV 308 [(0, .ref (Ea E 50)), (1, .int v1), (2, .int v2), (3, .int v3)] [] w (K308 v1 v2 v3 w)) : ∀ (n : Nat) (v1 : Int32) (v2 : Int32) (v3 : Int32) (v4 : Int32) (w : Wd), Sim E m_X10_findTries rV 198 [(0, .ref (Ea E 50)), (1, .int v1), (2, .int v2), (3, .int v3), (4, .int v4)] [] w (l_X10_findTries_198 K308 n v1 v2 v3 v4 w) := by
  intro n
  induction n with
  | zero => intros; exact sim_none
  | succ n ih => intros; exact sb_X10_findTries_198 hL (R := l_X10_findTries_198 K308 n) ih hK308 _ _ _ _ _
def f_X10_findTries_308 (R : Int32 → Int32 → Int32 → Wd → Option (Unit × Wd)) (K314 : Wd → Option (Unit × Wd)) (v1 : Int32) (v2 : Int32) (v3 : Int32) (w : Wd) : Option (Unit × Wd) :=
  R v1 v2 (v3 + (1 : Int32)) w
set_option maxRecDepth 20000 in
theorem sf_X10_findTries_308 {E : Ev} (hL : LM E) {R : Int32 → Int32 → Int32 → Wd → Option (Unit × Wd)} (hR : ∀ (v1 : Int32) (v2 : Int32) (v3 : Int32) (w : Wd), Sim E m_X10_findTries rV 189 [(0, .ref (Ea E 50)), (1, .int v1), (2, .int v2), (3, .int v3)] [] w (R v1 v2 v3 w)) {K314 : Wd → Option (Unit × Wd)} (hK314 : ∀ (w : Wd), Sim E m_X10_findTries rV 314 [] [] w (K314  w)) (v1 : Int32) (v2 : Int32) (v3 : Int32) (w : Wd) : Sim E m_X10_findTries rV 308 [(0, .ref (Ea E 50)), (1, .int v1), (2, .int v2), (3, .int v3)] [] w (f_X10_findTries_308 R K314 v1 v2 v3 w) := by
  unfold f_X10_findTries_308
  refine sim_iinc (v3 + (1 : Int32)) 3 [(3, .int (v3 + (1 : Int32))), (0, .ref (Ea E 50)), (1, .int v1), (2, .int v2)] dX10_findTries_308 rfl rfl (Nat.le_of_ble_eq_true rfl) rfl rfl ?_
  refine sim_goto (q := 189) dX10_findTries_311 rfl ?_
  exact sim_sub [1, 2, 3, 0] rfl (hR v1 v2 (v3 + (1 : Int32)) w)
def b_X10_findTries_189 (R : Int32 → Int32 → Int32 → Wd → Option (Unit × Wd)) (K314 : Wd → Option (Unit × Wd)) (v1 : Int32) (v2 : Int32) (v3 : Int32) (w : Wd) : Option (Unit × Wd) :=
  if (8 : Int32) ≤ v3 then
  K314 w
  else
  l_X10_findTries_198 (f_X10_findTries_308 R K314) FU v1 v2 v3 (0 : Int32) w
set_option maxRecDepth 20000 in
theorem sb_X10_findTries_189 {E : Ev} (hL : LM E) {R : Int32 → Int32 → Int32 → Wd → Option (Unit × Wd)} (hR : ∀ (v1 : Int32) (v2 : Int32) (v3 : Int32) (w : Wd), Sim E m_X10_findTries rV 189 [(0, .ref (Ea E 50)), (1, .int v1), (2, .int v2), (3, .int v3)] [] w (R v1 v2 v3 w)) {K314 : Wd → Option (Unit × Wd)} (hK314 : ∀ (w : Wd), Sim E m_X10_findTries rV 314 [] [] w (K314  w)) (v1 : Int32) (v2 : Int32) (v3 : Int32) (w : Wd) : Sim E m_X10_findTries rV 189 [(0, .ref (Ea E 50)), (1, .int v1), (2, .int v2), (3, .int v3)] [] w (b_X10_findTries_189 R K314 v1 v2 v3 w) := by
  unfold b_X10_findTries_189
  refine sim_iload_n 3 dX10_findTries_189 rfl rfl ?_
  refine sim_bipush (8 : Int32) dX10_findTries_190 rfl rfl ?_
  refine sim_icmp_ge 314 dX10_findTries_192 rfl rfl (fun _ => ?_) (fun _ => ?_)
  · exact sim_sub [] rfl (hK314 w)
  · refine sim_iconst (0 : Int32) dX10_findTries_195 rfl rfl ?_
    refine sim_istore [(4, .int (0 : Int32)), (0, .ref (Ea E 50)), (1, .int v1), (2, .int v2), (3, .int v3)] dX10_findTries_196 (Nat.le_of_ble_eq_true rfl) rfl rfl ?_
    exact sim_sub [1, 2, 3, 4, 0] rfl (sl_X10_findTries_198 hL (sf_X10_findTries_308 hL hR hK314) FU v1 v2 v3 (0 : Int32) w)
def l_X10_findTries_189 (K314 : Wd → Option (Unit × Wd)) (n : Nat) : Int32 → Int32 → Int32 → Wd → Option (Unit × Wd) := itr (fun _ _ _ _ => none) (fun R => b_X10_findTries_189 R K314) n
set_option maxRecDepth 20000 in
theorem sl_X10_findTries_189 {E : Ev} (hL : LM E) {K314 : Wd → Option (Unit × Wd)} (hK314 : ∀ (w : Wd), Sim E m_X10_findTries rV 314 [] [] w (K314  w)) : ∀ (n : Nat) (v1 : Int32) (v2 : Int32) (v3 : Int32) (w : Wd), Sim E m_X10_findTries rV 189 [(0, .ref (Ea E 50)), (1, .int v1), (2, .int v2), (3, .int v3)] [] w (l_X10_findTries_189 K314 n v1 v2 v3 w) := by
  intro n
  induction n with
  | zero => intros; exact sim_none
  | succ n ih => intros; exact sb_X10_findTries_189 hL (R := l_X10_findTries_189 K314 n) ih hK314 _ _ _ _
def f_X10_findTries_314 (w : Wd) : Option (Unit × Wd) :=
  some ((), w)
set_option maxRecDepth 20000 in
theorem sf_X10_findTries_314 {E : Ev} (hL : LM E) (w : Wd) : Sim E m_X10_findTries rV 314 [] [] w (f_X10_findTries_314 w) := by
  unfold f_X10_findTries_314
  exact sim_vret rfl dX10_findTries_314
def f_X10_findTries_187 (v1 : Int32) (v2 : Int32) (w : Wd) : Option (Unit × Wd) :=
  l_X10_findTries_189 f_X10_findTries_314 FU v1 v2 (1 : Int32) w
set_option maxRecDepth 20000 in
theorem sf_X10_findTries_187 {E : Ev} (hL : LM E) (v1 : Int32) (v2 : Int32) (w : Wd) : Sim E m_X10_findTries rV 187 [(0, .ref (Ea E 50)), (1, .int v1), (2, .int v2)] [] w (f_X10_findTries_187 v1 v2 w) := by
  unfold f_X10_findTries_187
  refine sim_iconst (1 : Int32) dX10_findTries_187 rfl rfl ?_
  refine sim_istore_n [(3, .int (1 : Int32)), (0, .ref (Ea E 50)), (1, .int v1), (2, .int v2)] dX10_findTries_188 (Nat.le_of_ble_eq_true rfl) rfl rfl ?_
  exact sim_sub [1, 2, 3, 0] rfl (sl_X10_findTries_189 hL (sf_X10_findTries_314 hL) FU v1 v2 (1 : Int32) w)
def f_X10_findTries (v1 : Int32) (w : Wd) : Option (Unit × Wd) :=
  if inb v1 16 = true then
  lt (w.1 62 (Int32.toNatClampNeg v1)) fun x1 =>
  if inb v1 16 = true then
  lw (wdI w 68 (Int32.toNatClampNeg v1) (0 : Int32)) fun w2 =>
  l_X10_findTries_16 f_X10_findTries_187 FU v1 x1 (0 : Int32) w2
  else none
  else none
set_option maxRecDepth 20000 in
theorem c_X10_findTries {E : Ev} (hL : LM E) (v1 : Int32) (w : Wd) : Ct E m_X10_findTries yX10_findTries rV [.ref (Ea E 50), .int v1] w (f_X10_findTries v1 w) := by
  refine Ct.of (by decide) ⟨rfl, rfl⟩ (Nat.le_of_ble_eq_true rfl) ?_
  show Sim E m_X10_findTries rV 0 [(0, .ref (Ea E 50)), (1, .int v1)] [] w (f_X10_findTries v1 w)
  unfold f_X10_findTries
  refine sim_aload_n 0 dX10_findTries_0 rfl rfl ?_
  refine sim_get (k := 50) (ci := 8) (j := 11) (v := .ref (Ea E 62)) (hL 50 rfl) rfl (by decide) fl_X10_37 rfl dX10_findTries_1 rfl ?_
  refine sim_iload_n 1 dX10_findTries_4 rfl rfl ?_
  refine sim_iaload (k := 62) (hL 62 rfl) rfl rfl dX10_findTries_5 rfl ?_
  refine sim_lt (fun x1 => ?_)
  refine sim_istore_n [(2, .int x1), (0, .ref (Ea E 50)), (1, .int v1)] dX10_findTries_6 (Nat.le_of_ble_eq_true rfl) rfl rfl ?_
  refine sim_aload_n 1 dX10_findTries_7 rfl rfl ?_
  refine sim_get (k := 50) (ci := 8) (j := 17) (v := .ref (Ea E 68)) (hL 50 rfl) rfl (by decide) fl_X10_55 rfl dX10_findTries_8 rfl ?_
  refine sim_iload_n 2 dX10_findTries_11 rfl rfl ?_
  refine sim_iconst (0 : Int32) dX10_findTries_12 rfl rfl ?_
  refine sim_iastore (k := 68) (hL 68 rfl) rfl rfl dX10_findTries_13 rfl ?_
  refine sim_lw (fun w2 => ?_)
  refine sim_iconst (0 : Int32) dX10_findTries_14 rfl rfl ?_
  refine sim_istore_n [(3, .int (0 : Int32)), (2, .int x1), (0, .ref (Ea E 50)), (1, .int v1)] dX10_findTries_15 (Nat.le_of_ble_eq_true rfl) rfl rfl ?_
  exact sim_sub [2, 3, 1, 0] rfl (sl_X10_findTries_16 hL (sf_X10_findTries_187 hL) FU v1 x1 (0 : Int32) w2)
