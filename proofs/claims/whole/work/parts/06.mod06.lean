def b_X10_read_67 (R : Int32 → Int32 → Int32 → Int32 → Int32 → Wd → Option (Int32 × Wd)) (K94 : Int32 → Int32 → Int32 → Int32 → Int32 → Wd → Option (Int32 × Wd)) (v1 : Int32) (v2 : Int32) (v3 : Int32) (v4 : Int32) (v6 : Int32) (w : Wd) : Option (Int32 × Wd) :=
  if (w.1 50 50) ≤ v6 then
  K94 v1 v2 v3 v4 v6 w
  else
  if inb v6 2000 = true then
  if (w.1 102 (Int32.toNatClampNeg v6)) = (32 : Int32) then
  K94 v1 v2 v3 v4 v6 w
  else
  R v1 v2 v3 v4 (v6 + (1 : Int32)) w
  else none
set_option maxRecDepth 20000 in
theorem sb_X10_read_67 {E : Ev} (hL : LM E) {R : Int32 → Int32 → Int32 → Int32 → Int32 → Wd → Option (Int32 × Wd)} (hR : ∀ (v1 : Int32) (v2 : Int32) (v3 : Int32) (v4 : Int32) (v6 : Int32) (w : Wd), Sim E m_X10_read rI 67 [(0, .ref (Ea E 50)), (1, .int v1), (2, .int v2), (3, .int v3), (4, .int v4), (6, .int v6)] [] w (R v1 v2 v3 v4 v6 w)) {K94 : Int32 → Int32 → Int32 → Int32 → Int32 → Wd → Option (Int32 × Wd)} (hK94 : ∀ (v1 : Int32) (v2 : Int32) (v3 : Int32) (v4 : Int32) (v6 : Int32) (w : Wd), Sim E m_X10_read rI 94 [(0, .ref (Ea E 50)), (1, .int v1), (2, .int v2), (3, .int v3), (4, .int v4), (6, .int v6)] [] w (K94 v1 v2 v3 v4 v6 w)) (v1 : Int32) (v2 : Int32) (v3 : Int32) (v4 : Int32) (v6 : Int32) (w : Wd) : Sim E m_X10_read rI 67 [(0, .ref (Ea E 50)), (1, .int v1), (2, .int v2), (3, .int v3), (4, .int v4), (6, .int v6)] [] w (b_X10_read_67 R K94 v1 v2 v3 v4 v6 w) := by
  unfold b_X10_read_67
  refine sim_iload 5 dX10_read_67 rfl rfl ?_
  refine sim_aload_n 0 dX10_read_69 rfl rfl ?_
  refine sim_get (k := 50) (ci := 8) (j := 50) (v := .int (w.1 50 50)) (hL 50 rfl) rfl (by decide) fl_X10_330 rfl dX10_read_70 rfl ?_
  refine sim_icmp_ge 94 dX10_read_73 rfl rfl (fun _ => ?_) (fun _ => ?_)
  · exact sim_sub [0, 1, 2, 3, 4, 5] rfl (hK94 v1 v2 v3 v4 v6 w)
  · refine sim_aload_n 0 dX10_read_76 rfl rfl ?_
    refine sim_get (k := 50) (ci := 8) (j := 51) (v := .ref (Ea E 102)) (hL 50 rfl) rfl (by decide) fl_X10_132 rfl dX10_read_77 rfl ?_
    refine sim_iload 5 dX10_read_80 rfl rfl ?_
    refine sim_iaload (k := 102) (hL 102 rfl) rfl rfl dX10_read_82 rfl ?_
    refine sim_bipush (32 : Int32) dX10_read_83 rfl rfl ?_
    refine sim_icmp_eq 94 dX10_read_85 rfl rfl (fun _ => ?_) (fun _ => ?_)
    · exact sim_sub [0, 1, 2, 3, 4, 5] rfl (hK94 v1 v2 v3 v4 v6 w)
    · refine sim_iinc (v6 + (1 : Int32)) 5 [(6, .int (v6 + (1 : Int32))), (0, .ref (Ea E 50)), (1, .int v1), (2, .int v2), (3, .int v3), (4, .int v4)] dX10_read_88 rfl rfl (Nat.le_of_ble_eq_true rfl) rfl rfl ?_
      refine sim_goto (q := 67) dX10_read_91 rfl ?_
      exact sim_sub [1, 2, 3, 4, 5, 0] rfl (hR v1 v2 v3 v4 (v6 + (1 : Int32)) w)
def l_X10_read_67 (K94 : Int32 → Int32 → Int32 → Int32 → Int32 → Wd → Option (Int32 × Wd)) (n : Nat) : Int32 → Int32 → Int32 → Int32 → Int32 → Wd → Option (Int32 × Wd) := itr (fun _ _ _ _ _ _ => none) (fun R => b_X10_read_67 R K94) n
set_option maxRecDepth 20000 in
theorem sl_X10_read_67 {E : Ev} (hL : LM E) {K94 : Int32 → Int32 → Int32 → Int32 → Int32 → Wd → Option (Int32 × Wd)} (hK94 : ∀ (v1 : Int32) (v2 : Int32) (v3 : Int32) (v4 : Int32) (v6 : Int32) (w : Wd), Sim E m_X10_read rI 94 [(0, .ref (Ea E 50)), (1, .int v1), (2, .int v2), (3, .int v3), (4, .int v4), (6, .int v6)] [] w (K94 v1 v2 v3 v4 v6 w)) : ∀ (n : Nat) (v1 : Int32) (v2 : Int32) (v3 : Int32) (v4 : Int32) (v6 : Int32) (w : Wd), Sim E m_X10_read rI 67 [(0, .ref (Ea E 50)), (1, .int v1), (2, .int v2), (3, .int v3), (4, .int v4), (6, .int v6)] [] w (l_X10_read_67 K94 n v1 v2 v3 v4 v6 w) := by
  intro n
  induction n with
  | zero => intros; exact sim_none
  | succ n ih => intros; exact sb_X10_read_67 hL (R := l_X10_read_67 K94 n) ih hK94 _ _ _ _ _ _
def f_X10_read_174 (R : Int32 → Int32 → Int32 → Int32 → Int32 → Wd → Option (Int32 × Wd)) (K124 : Int32 → Wd → Option (Int32 × Wd)) (K185 : Int32 → Int32 → Int32 → Wd → Option (Int32 × Wd)) (v1 : Int32) (v2 : Int32) (v3 : Int32) (v6 : Int32) (s0 : Int32) (w : Wd) : Option (Int32 × Wd) :=
  lt (v6 + (1 : Int32)) fun x9 =>
  R v1 v2 v3 x9 s0 w
set_option maxRecDepth 20000 in
theorem sf_X10_read_174 {E : Ev} (hL : LM E) {R : Int32 → Int32 → Int32 → Int32 → Int32 → Wd → Option (Int32 × Wd)} (hR : ∀ (v1 : Int32) (v2 : Int32) (v3 : Int32) (v4 : Int32) (v5 : Int32) (w : Wd), Sim E m_X10_read rI 58 [(0, .ref (Ea E 50)), (1, .int v1), (2, .int v2), (3, .int v3), (4, .int v4), (5, .int v5)] [] w (R v1 v2 v3 v4 v5 w)) {K124 : Int32 → Wd → Option (Int32 × Wd)} (hK124 : ∀ (v4 : Int32) (w : Wd), Sim E m_X10_read rI 124 [(0, .ref (Ea E 50)), (4, .int v4)] [] w (K124 v4 w)) {K185 : Int32 → Int32 → Int32 → Wd → Option (Int32 × Wd)} (hK185 : ∀ (v1 : Int32) (v2 : Int32) (v3 : Int32) (w : Wd), Sim E m_X10_read rI 185 [(0, .ref (Ea E 50)), (1, .int v1), (2, .int v2), (3, .int v3)] [] w (K185 v1 v2 v3 w)) (v1 : Int32) (v2 : Int32) (v3 : Int32) (v6 : Int32) (s0 : Int32) (w : Wd) : Sim E m_X10_read rI 174 [(0, .ref (Ea E 50)), (1, .int v1), (2, .int v2), (3, .int v3), (6, .int v6)] [.int s0] w (f_X10_read_174 R K124 K185 v1 v2 v3 v6 s0 w) := by
  unfold f_X10_read_174
  refine sim_istore [(5, .int s0), (0, .ref (Ea E 50)), (1, .int v1), (2, .int v2), (3, .int v3), (6, .int v6)] dX10_read_174 (Nat.le_of_ble_eq_true rfl) rfl rfl ?_
  refine sim_iload 5 dX10_read_176 rfl rfl ?_
  refine sim_iconst (1 : Int32) dX10_read_178 rfl rfl ?_
  refine sim_iadd dX10_read_179 rfl ?_
  refine sim_lt (fun x9 => ?_)
  refine sim_istore [(4, .int x9), (5, .int s0), (0, .ref (Ea E 50)), (1, .int v1), (2, .int v2), (3, .int v3), (6, .int v6)] dX10_read_180 (Nat.le_of_ble_eq_true rfl) rfl rfl ?_
  refine sim_goto (q := 58) dX10_read_182 rfl ?_
  exact sim_sub [2, 3, 4, 5, 0, 1] rfl (hR v1 v2 v3 x9 s0 w)
def f_X10_read_117 (R : Int32 → Int32 → Int32 → Int32 → Int32 → Wd → Option (Int32 × Wd)) (K124 : Int32 → Wd → Option (Int32 × Wd)) (K185 : Int32 → Int32 → Int32 → Wd → Option (Int32 × Wd)) (v1 : Int32) (v3 : Int32) (v4 : Int32) (v6 : Int32) (s0 : Int32) (w : Wd) : Option (Int32 × Wd) :=
  if (0 : Int32) ≤ s0 then
  bd (f_X10_doMove v1 v3 s0 w) fun _ w6 =>
  bd (f_X10_stateOf v1 (v3 + (1 : Int32)) w6) fun x7 w8 =>
  if (w8.1 50 50) ≤ v6 then
  f_X10_read_174 R K124 K185 v1 x7 (v3 + (1 : Int32)) v6 (0 : Int32) w8
  else
  f_X10_read_174 R K124 K185 v1 x7 (v3 + (1 : Int32)) v6 (1 : Int32) w8
  else
  K124 v4 w
set_option maxRecDepth 20000 in
theorem sf_X10_read_117 {E : Ev} (hL : LM E) {R : Int32 → Int32 → Int32 → Int32 → Int32 → Wd → Option (Int32 × Wd)} (hR : ∀ (v1 : Int32) (v2 : Int32) (v3 : Int32) (v4 : Int32) (v5 : Int32) (w : Wd), Sim E m_X10_read rI 58 [(0, .ref (Ea E 50)), (1, .int v1), (2, .int v2), (3, .int v3), (4, .int v4), (5, .int v5)] [] w (R v1 v2 v3 v4 v5 w)) {K124 : Int32 → Wd → Option (Int32 × Wd)} (hK124 : ∀ (v4 : Int32) (w : Wd), Sim E m_X10_read rI 124 [(0, .ref (Ea E 50)), (4, .int v4)] [] w (K124 v4 w)) {K185 : Int32 → Int32 → Int32 → Wd → Option (Int32 × Wd)} (hK185 : ∀ (v1 : Int32) (v2 : Int32) (v3 : Int32) (w : Wd), Sim E m_X10_read rI 185 [(0, .ref (Ea E 50)), (1, .int v1), (2, .int v2), (3, .int v3)] [] w (K185 v1 v2 v3 w)) (v1 : Int32) (v3 : Int32) (v4 : Int32) (v6 : Int32) (s0 : Int32) (w : Wd) : Sim E m_X10_read rI 117 [(0, .ref (Ea E 50)), (1, .int v1), (3, .int v3), (4, .int v4), (6, .int v6)] [.int s0] w (f_X10_read_117 R K124 K185 v1 v3 v4 v6 s0 w) := by
  unfold f_X10_read_117
  refine sim_istore [(7, .int s0), (0, .ref (Ea E 50)), (1, .int v1), (3, .int v3), (4, .int v4), (6, .int v6)] dX10_read_117 (Nat.le_of_ble_eq_true rfl) rfl rfl ?_
  refine sim_iload 0 dX10_read_119 rfl rfl ?_
  refine sim_if_ge 142 dX10_read_121 rfl rfl (fun _ => ?_) (fun _ => ?_)
  · refine sim_aload_n 1 dX10_read_142 rfl rfl ?_
    refine sim_iload_n 2 dX10_read_143 rfl rfl ?_
    refine sim_iload_n 3 dX10_read_144 rfl rfl ?_
    refine sim_iload 0 dX10_read_145 rfl rfl ?_
    refine sim_cVv (k := 50) (ci := 8) [.int v1, .int v3, .int s0] [] (c_X10_doMove hL v1 v3 s0 w) (hL 50 rfl) rfl (by decide) rfl cb_X10_300 im_X10_doMove se_X10_doMove rfl rfl rfl (Nat.le_of_ble_eq_true rfl) dX10_read_147 rfl (fun _ w6 => ?_)
    refine sim_iinc (v3 + (1 : Int32)) 3 [(3, .int (v3 + (1 : Int32))), (7, .int s0), (0, .ref (Ea E 50)), (1, .int v1), (4, .int v4), (6, .int v6)] dX10_read_150 rfl rfl (Nat.le_of_ble_eq_true rfl) rfl rfl ?_
    refine sim_aload_n 2 dX10_read_153 rfl rfl ?_
    refine sim_iload_n 3 dX10_read_154 rfl rfl ?_
    refine sim_iload_n 0 dX10_read_155 rfl rfl ?_
    refine sim_cVi (k := 50) (ci := 8) [.int v1, .int (v3 + (1 : Int32))] [] (c_X10_stateOf hL v1 (v3 + (1 : Int32)) w6) (hL 50 rfl) rfl (by decide) rfl cb_X10_283 im_X10_stateOf se_X10_stateOf rfl rfl rfl (Nat.le_of_ble_eq_true rfl) dX10_read_156 rfl (fun x7 w8 => ?_)
    refine sim_istore_n [(2, .int x7), (3, .int (v3 + (1 : Int32))), (7, .int s0), (0, .ref (Ea E 50)), (1, .int v1), (4, .int v4), (6, .int v6)] dX10_read_159 (Nat.le_of_ble_eq_true rfl) rfl rfl ?_
    refine sim_iload 6 dX10_read_160 rfl rfl ?_
    refine sim_aload_n 3 dX10_read_162 rfl rfl ?_
    refine sim_get (k := 50) (ci := 8) (j := 50) (v := .int (w8.1 50 50)) (hL 50 rfl) rfl (by decide) fl_X10_330 rfl dX10_read_163 rfl ?_
    refine sim_icmp_ge 173 dX10_read_166 rfl rfl (fun _ => ?_) (fun _ => ?_)
    · refine sim_iconst (0 : Int32) dX10_read_173 rfl rfl ?_
      exact sim_sub [3, 4, 0, 1, 6] rfl (sf_X10_read_174 hL hR hK124 hK185 v1 x7 (v3 + (1 : Int32)) v6 (0 : Int32) w8)
    · refine sim_iconst (1 : Int32) dX10_read_169 rfl rfl ?_
      refine sim_goto (q := 174) dX10_read_170 rfl ?_
      exact sim_sub [3, 4, 0, 1, 6] rfl (sf_X10_read_174 hL hR hK124 hK185 v1 x7 (v3 + (1 : Int32)) v6 (1 : Int32) w8)
  · exact sim_sub [1, 4] rfl (hK124 v4 w)
def f_X10_read_116 (R : Int32 → Int32 → Int32 → Int32 → Int32 → Wd → Option (Int32 × Wd)) (K124 : Int32 → Wd → Option (Int32 × Wd)) (K185 : Int32 → Int32 → Int32 → Wd → Option (Int32 × Wd)) (v1 : Int32) (v3 : Int32) (v4 : Int32) (v6 : Int32) (w : Wd) : Option (Int32 × Wd) :=
  f_X10_read_117 R K124 K185 v1 v3 v4 v6 (-1 : Int32) w
set_option maxRecDepth 20000 in
theorem sf_X10_read_116 {E : Ev} (hL : LM E) {R : Int32 → Int32 → Int32 → Int32 → Int32 → Wd → Option (Int32 × Wd)} (hR : ∀ (v1 : Int32) (v2 : Int32) (v3 : Int32) (v4 : Int32) (v5 : Int32) (w : Wd), Sim E m_X10_read rI 58 [(0, .ref (Ea E 50)), (1, .int v1), (2, .int v2), (3, .int v3), (4, .int v4), (5, .int v5)] [] w (R v1 v2 v3 v4 v5 w)) {K124 : Int32 → Wd → Option (Int32 × Wd)} (hK124 : ∀ (v4 : Int32) (w : Wd), Sim E m_X10_read rI 124 [(0, .ref (Ea E 50)), (4, .int v4)] [] w (K124 v4 w)) {K185 : Int32 → Int32 → Int32 → Wd → Option (Int32 × Wd)} (hK185 : ∀ (v1 : Int32) (v2 : Int32) (v3 : Int32) (w : Wd), Sim E m_X10_read rI 185 [(0, .ref (Ea E 50)), (1, .int v1), (2, .int v2), (3, .int v3)] [] w (K185 v1 v2 v3 w)) (v1 : Int32) (v3 : Int32) (v4 : Int32) (v6 : Int32) (w : Wd) : Sim E m_X10_read rI 116 [(0, .ref (Ea E 50)), (1, .int v1), (3, .int v3), (4, .int v4), (6, .int v6)] [] w (f_X10_read_116 R K124 K185 v1 v3 v4 v6 w) := by
  unfold f_X10_read_116
  refine sim_iconst (-1 : Int32) dX10_read_116 rfl rfl ?_
  exact sim_sub [0, 1, 2, 3, 4] rfl (sf_X10_read_117 hL hR hK124 hK185 v1 v3 v4 v6 (-1 : Int32) w)
def f_X10_read_94 (R : Int32 → Int32 → Int32 → Int32 → Int32 → Wd → Option (Int32 × Wd)) (K124 : Int32 → Wd → Option (Int32 × Wd)) (K185 : Int32 → Int32 → Int32 → Wd → Option (Int32 × Wd)) (v1 : Int32) (v2 : Int32) (v3 : Int32) (v4 : Int32) (v6 : Int32) (w : Wd) : Option (Int32 × Wd) :=
  if v2 = (0 : Int32) then
  if (300 : Int32) ≤ v3 then
  f_X10_read_116 R K124 K185 v1 v3 v4 v6 w
  else
  bd (f_X10_told v4 v6 w) fun x10 w11 =>
  f_X10_read_117 R K124 K185 v1 v3 v4 v6 x10 w11
  else
  f_X10_read_116 R K124 K185 v1 v3 v4 v6 w
set_option maxRecDepth 20000 in
theorem sf_X10_read_94 {E : Ev} (hL : LM E) {R : Int32 → Int32 → Int32 → Int32 → Int32 → Wd → Option (Int32 × Wd)} (hR : ∀ (v1 : Int32) (v2 : Int32) (v3 : Int32) (v4 : Int32) (v5 : Int32) (w : Wd), Sim E m_X10_read rI 58 [(0, .ref (Ea E 50)), (1, .int v1), (2, .int v2), (3, .int v3), (4, .int v4), (5, .int v5)] [] w (R v1 v2 v3 v4 v5 w)) {K124 : Int32 → Wd → Option (Int32 × Wd)} (hK124 : ∀ (v4 : Int32) (w : Wd), Sim E m_X10_read rI 124 [(0, .ref (Ea E 50)), (4, .int v4)] [] w (K124 v4 w)) {K185 : Int32 → Int32 → Int32 → Wd → Option (Int32 × Wd)} (hK185 : ∀ (v1 : Int32) (v2 : Int32) (v3 : Int32) (w : Wd), Sim E m_X10_read rI 185 [(0, .ref (Ea E 50)), (1, .int v1), (2, .int v2), (3, .int v3)] [] w (K185 v1 v2 v3 w)) (v1 : Int32) (v2 : Int32) (v3 : Int32) (v4 : Int32) (v6 : Int32) (w : Wd) : Sim E m_X10_read rI 94 [(0, .ref (Ea E 50)), (1, .int v1), (2, .int v2), (3, .int v3), (4, .int v4), (6, .int v6)] [] w (f_X10_read_94 R K124 K185 v1 v2 v3 v4 v6 w) := by
  unfold f_X10_read_94
  refine sim_iload_n 2 dX10_read_94 rfl rfl ?_
  refine sim_if_ne 116 dX10_read_95 rfl rfl (fun _ => ?_) (fun _ => ?_)
  · exact sim_sub [0, 1, 3, 4, 5] rfl (sf_X10_read_116 hL hR hK124 hK185 v1 v3 v4 v6 w)
  · refine sim_iload_n 3 dX10_read_98 rfl rfl ?_
    refine sim_sipush (300 : Int32) dX10_read_99 rfl rfl ?_
    refine sim_icmp_ge 116 dX10_read_102 rfl rfl (fun _ => ?_) (fun _ => ?_)
    · exact sim_sub [0, 1, 3, 4, 5] rfl (sf_X10_read_116 hL hR hK124 hK185 v1 v3 v4 v6 w)
    · refine sim_aload_n 0 dX10_read_105 rfl rfl ?_
      refine sim_iload 4 dX10_read_106 rfl rfl ?_
      refine sim_iload 5 dX10_read_108 rfl rfl ?_
      refine sim_cVi (k := 50) (ci := 8) [.int v4, .int v6] [] (c_X10_told hL v4 v6 w) (hL 50 rfl) rfl (by decide) rfl cb_X10_346 im_X10_told se_X10_told rfl rfl rfl (Nat.le_of_ble_eq_true rfl) dX10_read_110 rfl (fun x10 w11 => ?_)
      refine sim_goto (q := 117) dX10_read_113 rfl ?_
      exact sim_sub [0, 1, 3, 4, 5] rfl (sf_X10_read_117 hL hR hK124 hK185 v1 v3 v4 v6 x10 w11)
def b_X10_read_58 (R : Int32 → Int32 → Int32 → Int32 → Int32 → Wd → Option (Int32 × Wd)) (K124 : Int32 → Wd → Option (Int32 × Wd)) (K185 : Int32 → Int32 → Int32 → Wd → Option (Int32 × Wd)) (v1 : Int32) (v2 : Int32) (v3 : Int32) (v4 : Int32) (v5 : Int32) (w : Wd) : Option (Int32 × Wd) :=
  if v5 = (0 : Int32) then
  K185 v1 v2 v3 w
  else
  l_X10_read_67 (f_X10_read_94 R K124 K185) FU v1 v2 v3 v4 v4 w
set_option maxRecDepth 20000 in
theorem sb_X10_read_58 {E : Ev} (hL : LM E) {R : Int32 → Int32 → Int32 → Int32 → Int32 → Wd → Option (Int32 × Wd)} (hR : ∀ (v1 : Int32) (v2 : Int32) (v3 : Int32) (v4 : Int32) (v5 : Int32) (w : Wd), Sim E m_X10_read rI 58 [(0, .ref (Ea E 50)), (1, .int v1), (2, .int v2), (3, .int v3), (4, .int v4), (5, .int v5)] [] w (R v1 v2 v3 v4 v5 w)) {K124 : Int32 → Wd → Option (Int32 × Wd)} (hK124 : ∀ (v4 : Int32) (w : Wd), Sim E m_X10_read rI 124 [(0, .ref (Ea E 50)), (4, .int v4)] [] w (K124 v4 w)) {K185 : Int32 → Int32 → Int32 → Wd → Option (Int32 × Wd)} (hK185 : ∀ (v1 : Int32) (v2 : Int32) (v3 : Int32) (w : Wd), Sim E m_X10_read rI 185 [(0, .ref (Ea E 50)), (1, .int v1), (2, .int v2), (3, .int v3)] [] w (K185 v1 v2 v3 w)) (v1 : Int32) (v2 : Int32) (v3 : Int32) (v4 : Int32) (v5 : Int32) (w : Wd) : Sim E m_X10_read rI 58 [(0, .ref (Ea E 50)), (1, .int v1), (2, .int v2), (3, .int v3), (4, .int v4), (5, .int v5)] [] w (b_X10_read_58 R K124 K185 v1 v2 v3 v4 v5 w) := by
  unfold b_X10_read_58
  refine sim_iload 5 dX10_read_58 rfl rfl ?_
  refine sim_if_eq 185 dX10_read_60 rfl rfl (fun _ => ?_) (fun _ => ?_)
  · exact sim_sub [0, 1, 2, 3] rfl (hK185 v1 v2 v3 w)
  · refine sim_iload 4 dX10_read_63 rfl rfl ?_
    refine sim_istore [(6, .int v4), (0, .ref (Ea E 50)), (1, .int v1), (2, .int v2), (3, .int v3), (4, .int v4), (5, .int v5)] dX10_read_65 (Nat.le_of_ble_eq_true rfl) rfl rfl ?_
    exact sim_sub [1, 2, 3, 4, 5, 0] rfl (sl_X10_read_67 hL (sf_X10_read_94 hL hR hK124 hK185) FU v1 v2 v3 v4 v4 w)
def l_X10_read_58 (K124 : Int32 → Wd → Option (Int32 × Wd)) (K185 : Int32 → Int32 → Int32 → Wd → Option (Int32 × Wd)) (n : Nat) : Int32 → Int32 → Int32 → Int32 → Int32 → Wd → Option (Int32 × Wd) := itr (fun _ _ _ _ _ _ => none) (fun R => b_X10_read_58 R K124 K185) n
set_option maxRecDepth 20000 in
theorem sl_X10_read_58 {E : Ev} (hL : LM E) {K124 : Int32 → Wd → Option (Int32 × Wd)} (hK124 : ∀ (v4 : Int32) (w : Wd), Sim E m_X10_read rI 124 [(0, .ref (Ea E 50)), (4, .int v4)] [] w (K124 v4 w)) {K185 : Int32 → Int32 → Int32 → Wd → Option (Int32 × Wd)} (hK185 : ∀ (v1 : Int32) (v2 : Int32) (v3 : Int32) (w : Wd), Sim E m_X10_read rI 185 [(0, .ref (Ea E 50)), (1, .int v1), (2, .int v2), (3, .int v3)] [] w (K185 v1 v2 v3 w)) : ∀ (n : Nat) (v1 : Int32) (v2 : Int32) (v3 : Int32) (v4 : Int32) (v5 : Int32) (w : Wd), Sim E m_X10_read rI 58 [(0, .ref (Ea E 50)), (1, .int v1), (2, .int v2), (3, .int v3), (4, .int v4), (5, .int v5)] [] w (l_X10_read_58 K124 K185 n v1 v2 v3 v4 v5 w) := by
  intro n
  induction n with
  | zero => intros; exact sim_none
  | succ n ih => intros; exact sb_X10_read_58 hL (R := l_X10_read_58 K124 K185 n) ih hK124 hK185 _ _ _ _ _ _
def f_X10_read_124 (v4 : Int32) (w : Wd) : Option (Int32 × Wd) :=
  bd (f_X10_layStand (w.1 50 35) (w.1 50 36) w) fun _ w12 =>
  some (((-100 : Int32) - v4), w12)
set_option maxRecDepth 20000 in
theorem sf_X10_read_124 {E : Ev} (hL : LM E) (v4 : Int32) (w : Wd) : Sim E m_X10_read rI 124 [(0, .ref (Ea E 50)), (4, .int v4)] [] w (f_X10_read_124 v4 w) := by
  unfold f_X10_read_124
  refine sim_aload_n 0 dX10_read_124 rfl rfl ?_
  refine sim_aload_n 0 dX10_read_125 rfl rfl ?_
  refine sim_get (k := 50) (ci := 8) (j := 35) (v := .int (w.1 50 35)) (hL 50 rfl) rfl (by decide) fl_X10_270 rfl dX10_read_126 rfl ?_
  refine sim_aload_n 0 dX10_read_129 rfl rfl ?_
  refine sim_get (k := 50) (ci := 8) (j := 36) (v := .int (w.1 50 36)) (hL 50 rfl) rfl (by decide) fl_X10_273 rfl dX10_read_130 rfl ?_
  refine sim_cVv (k := 50) (ci := 8) [.int (w.1 50 35), .int (w.1 50 36)] [] (c_X10_layStand hL (w.1 50 35) (w.1 50 36) w) (hL 50 rfl) rfl (by decide) rfl cb_X10_303 im_X10_layStand se_X10_layStand rfl rfl rfl (Nat.le_of_ble_eq_true rfl) dX10_read_133 rfl (fun _ w12 => ?_)
  refine sim_bipush (-100 : Int32) dX10_read_136 rfl rfl ?_
  refine sim_iload 1 dX10_read_138 rfl rfl ?_
  refine sim_isub dX10_read_140 rfl ?_
  exact sim_iret rfl dX10_read_141
def f_X10_read_185 (v1 : Int32) (v2 : Int32) (v3 : Int32) (w : Wd) : Option (Int32 × Wd) :=
  lw (wdI w 50 35 v1) fun w13 =>
  lw (wdI w13 50 36 v3) fun w14 =>
  lw (wdI w14 50 37 v3) fun w15 =>
  lw (wdI w15 50 38 v2) fun w16 =>
  some (v3, w16)
set_option maxRecDepth 20000 in
theorem sf_X10_read_185 {E : Ev} (hL : LM E) (v1 : Int32) (v2 : Int32) (v3 : Int32) (w : Wd) : Sim E m_X10_read rI 185 [(0, .ref (Ea E 50)), (1, .int v1), (2, .int v2), (3, .int v3)] [] w (f_X10_read_185 v1 v2 v3 w) := by
  unfold f_X10_read_185
  refine sim_aload_n 0 dX10_read_185 rfl rfl ?_
  refine sim_iload_n 1 dX10_read_186 rfl rfl ?_
  refine sim_put (k := 50) (ci := 8) (j := 35) (hL 50 rfl) rfl (by decide) fp_X10_270 rfl rfl (st_50_35 _ _ _) (Nat.le_of_ble_eq_true rfl) dX10_read_187 rfl ?_
  refine sim_lw (fun w13 => ?_)
  refine sim_aload_n 0 dX10_read_190 rfl rfl ?_
  refine sim_iload_n 3 dX10_read_191 rfl rfl ?_
  refine sim_put (k := 50) (ci := 8) (j := 36) (hL 50 rfl) rfl (by decide) fp_X10_273 rfl rfl (st_50_36 _ _ _) (Nat.le_of_ble_eq_true rfl) dX10_read_192 rfl ?_
  refine sim_lw (fun w14 => ?_)
  refine sim_aload_n 0 dX10_read_195 rfl rfl ?_
  refine sim_iload_n 3 dX10_read_196 rfl rfl ?_
  refine sim_put (k := 50) (ci := 8) (j := 37) (hL 50 rfl) rfl (by decide) fp_X10_276 rfl rfl (st_50_37 _ _ _) (Nat.le_of_ble_eq_true rfl) dX10_read_197 rfl ?_
  refine sim_lw (fun w15 => ?_)
  refine sim_aload_n 0 dX10_read_200 rfl rfl ?_
  refine sim_iload_n 2 dX10_read_201 rfl rfl ?_
  refine sim_put (k := 50) (ci := 8) (j := 38) (hL 50 rfl) rfl (by decide) fp_X10_286 rfl rfl (st_50_38 _ _ _) (Nat.le_of_ble_eq_true rfl) dX10_read_202 rfl ?_
  refine sim_lw (fun w16 => ?_)
  refine sim_iload_n 3 dX10_read_205 rfl rfl ?_
  exact sim_iret rfl dX10_read_206
def f_X10_read_56 (v1 : Int32) (v2 : Int32) (v3 : Int32) (v4 : Int32) (s0 : Int32) (w : Wd) : Option (Int32 × Wd) :=
  l_X10_read_58 f_X10_read_124 f_X10_read_185 FU v1 v2 v3 v4 s0 w
set_option maxRecDepth 20000 in
theorem sf_X10_read_56 {E : Ev} (hL : LM E) (v1 : Int32) (v2 : Int32) (v3 : Int32) (v4 : Int32) (s0 : Int32) (w : Wd) : Sim E m_X10_read rI 56 [(0, .ref (Ea E 50)), (1, .int v1), (2, .int v2), (3, .int v3), (4, .int v4)] [.int s0] w (f_X10_read_56 v1 v2 v3 v4 s0 w) := by
  unfold f_X10_read_56
  refine sim_istore [(5, .int s0), (0, .ref (Ea E 50)), (1, .int v1), (2, .int v2), (3, .int v3), (4, .int v4)] dX10_read_56 (Nat.le_of_ble_eq_true rfl) rfl rfl ?_
  exact sim_sub [1, 2, 3, 4, 5, 0] rfl (sl_X10_read_58 hL (sf_X10_read_124 hL) (sf_X10_read_185 hL) FU v1 v2 v3 v4 s0 w)
def f_X10_read (w : Wd) : Option (Int32 × Wd) :=
  if (w.1 50 25) = (0 : Int32) then
  some ((-3 : Int32), w)
  else
  lt ((1 : Int32) - (w.1 50 35)) fun x1 =>
  bd (f_X10_layStand (w.1 50 35) (0 : Int32) w) fun _ w2 =>
  bd (f_X10_keepStand x1 (0 : Int32) w2) fun _ w3 =>
  bd (f_X10_stateOf x1 (0 : Int32) w3) fun x4 w5 =>
  if (w5.1 50 50) ≤ (0 : Int32) then
  f_X10_read_56 x1 x4 (0 : Int32) (0 : Int32) (0 : Int32) w5
  else
  f_X10_read_56 x1 x4 (0 : Int32) (0 : Int32) (1 : Int32) w5
set_option maxRecDepth 20000 in
theorem c_X10_read {E : Ev} (hL : LM E) (w : Wd) : Ct E m_X10_read yX10_read rI [.ref (Ea E 50)] w (f_X10_read w) := by
  refine Ct.of (by decide) ⟨rfl, rfl⟩ (Nat.le_of_ble_eq_true rfl) ?_
  show Sim E m_X10_read rI 0 [(0, .ref (Ea E 50))] [] w (f_X10_read w)
  unfold f_X10_read
  refine sim_aload_n 0 dX10_read_0 rfl rfl ?_
  refine sim_get (k := 50) (ci := 8) (j := 25) (v := .int (w.1 50 25)) (hL 50 rfl) rfl (by decide) fl_X10_159 rfl dX10_read_1 rfl ?_
  refine sim_if_ne 10 dX10_read_4 rfl rfl (fun _ => ?_) (fun _ => ?_)
  · refine sim_iconst (1 : Int32) dX10_read_10 rfl rfl ?_
    refine sim_aload_n 0 dX10_read_11 rfl rfl ?_
    refine sim_get (k := 50) (ci := 8) (j := 35) (v := .int (w.1 50 35)) (hL 50 rfl) rfl (by decide) fl_X10_270 rfl dX10_read_12 rfl ?_
    refine sim_isub dX10_read_15 rfl ?_
    refine sim_lt (fun x1 => ?_)
    refine sim_istore_n [(1, .int x1), (0, .ref (Ea E 50))] dX10_read_16 (Nat.le_of_ble_eq_true rfl) rfl rfl ?_
    refine sim_aload_n 1 dX10_read_17 rfl rfl ?_
    refine sim_aload_n 1 dX10_read_18 rfl rfl ?_
    refine sim_get (k := 50) (ci := 8) (j := 35) (v := .int (w.1 50 35)) (hL 50 rfl) rfl (by decide) fl_X10_270 rfl dX10_read_19 rfl ?_
    refine sim_iconst (0 : Int32) dX10_read_22 rfl rfl ?_
    refine sim_cVv (k := 50) (ci := 8) [.int (w.1 50 35), .int (0 : Int32)] [] (c_X10_layStand hL (w.1 50 35) (0 : Int32) w) (hL 50 rfl) rfl (by decide) rfl cb_X10_303 im_X10_layStand se_X10_layStand rfl rfl rfl (Nat.le_of_ble_eq_true rfl) dX10_read_23 rfl (fun _ w2 => ?_)
    refine sim_aload_n 1 dX10_read_26 rfl rfl ?_
    refine sim_iload_n 0 dX10_read_27 rfl rfl ?_
    refine sim_iconst (0 : Int32) dX10_read_28 rfl rfl ?_
    refine sim_cVv (k := 50) (ci := 8) [.int x1, .int (0 : Int32)] [] (c_X10_keepStand hL x1 (0 : Int32) w2) (hL 50 rfl) rfl (by decide) rfl cb_X10_279 im_X10_keepStand se_X10_keepStand rfl rfl rfl (Nat.le_of_ble_eq_true rfl) dX10_read_29 rfl (fun _ w3 => ?_)
    refine sim_aload_n 1 dX10_read_32 rfl rfl ?_
    refine sim_iload_n 0 dX10_read_33 rfl rfl ?_
    refine sim_iconst (0 : Int32) dX10_read_34 rfl rfl ?_
    refine sim_cVi (k := 50) (ci := 8) [.int x1, .int (0 : Int32)] [] (c_X10_stateOf hL x1 (0 : Int32) w3) (hL 50 rfl) rfl (by decide) rfl cb_X10_283 im_X10_stateOf se_X10_stateOf rfl rfl rfl (Nat.le_of_ble_eq_true rfl) dX10_read_35 rfl (fun x4 w5 => ?_)
    refine sim_istore_n [(2, .int x4), (1, .int x1), (0, .ref (Ea E 50))] dX10_read_38 (Nat.le_of_ble_eq_true rfl) rfl rfl ?_
    refine sim_iconst (0 : Int32) dX10_read_39 rfl rfl ?_
    refine sim_istore_n [(3, .int (0 : Int32)), (2, .int x4), (1, .int x1), (0, .ref (Ea E 50))] dX10_read_40 (Nat.le_of_ble_eq_true rfl) rfl rfl ?_
    refine sim_iconst (0 : Int32) dX10_read_41 rfl rfl ?_
    refine sim_istore [(4, .int (0 : Int32)), (3, .int (0 : Int32)), (2, .int x4), (1, .int x1), (0, .ref (Ea E 50))] dX10_read_42 (Nat.le_of_ble_eq_true rfl) rfl rfl ?_
    refine sim_aload_n 4 dX10_read_44 rfl rfl ?_
    refine sim_get (k := 50) (ci := 8) (j := 50) (v := .int (w5.1 50 50)) (hL 50 rfl) rfl (by decide) fl_X10_330 rfl dX10_read_45 rfl ?_
    refine sim_if_le 55 dX10_read_48 rfl rfl (fun _ => ?_) (fun _ => ?_)
    · refine sim_iconst (0 : Int32) dX10_read_55 rfl rfl ?_
      exact sim_sub [4, 3, 2, 1, 0] rfl (sf_X10_read_56 hL x1 x4 (0 : Int32) (0 : Int32) (0 : Int32) w5)
    · refine sim_iconst (1 : Int32) dX10_read_51 rfl rfl ?_
      refine sim_goto (q := 56) dX10_read_52 rfl ?_
      exact sim_sub [4, 3, 2, 1, 0] rfl (sf_X10_read_56 hL x1 x4 (0 : Int32) (0 : Int32) (1 : Int32) w5)
  · refine sim_bipush (-3 : Int32) dX10_read_7 rfl rfl ?_
    exact sim_iret rfl dX10_read_9
def f_X10_digest_41 (R : Int64 → Int32 → Wd → Option (Int64 × Wd)) (K50 : Int64 → Wd → Option (Int64 × Wd)) (v3 : Int32) (s0 : Int64) (s1 : Int32) (w : Wd) : Option (Int64 × Wd) :=
  lj (s0 + (Int32.toInt64 s1)) fun x1 =>
  R x1 (v3 + (1 : Int32)) w
set_option maxRecDepth 20000 in
theorem sf_X10_digest_41 {E : Ev} (hL : LM E) {R : Int64 → Int32 → Wd → Option (Int64 × Wd)} (hR : ∀ (v1 : Int64) (v3 : Int32) (w : Wd), Sim E m_X10_digest rJ 6 [(0, .ref (Ea E 50)), (1, .long v1), (3, .int v3)] [] w (R v1 v3 w)) {K50 : Int64 → Wd → Option (Int64 × Wd)} (hK50 : ∀ (v1 : Int64) (w : Wd), Sim E m_X10_digest rJ 50 [(0, .ref (Ea E 50)), (1, .long v1)] [] w (K50 v1 w)) (v3 : Int32) (s0 : Int64) (s1 : Int32) (w : Wd) : Sim E m_X10_digest rJ 41 [(0, .ref (Ea E 50)), (3, .int v3)] [.int s1, .long s0] w (f_X10_digest_41 R K50 v3 s0 s1 w) := by
  unfold f_X10_digest_41
  refine sim_i2l dX10_digest_41 rfl ?_
  refine sim_ladd dX10_digest_42 rfl ?_
  refine sim_lj (fun x1 => ?_)
  refine sim_lstore_n [(1, .long x1), (0, .ref (Ea E 50)), (3, .int v3)] dX10_digest_43 (Nat.le_of_ble_eq_true rfl) rfl rfl ?_
  refine sim_iinc (v3 + (1 : Int32)) 2 [(3, .int (v3 + (1 : Int32))), (1, .long x1), (0, .ref (Ea E 50))] dX10_digest_44 rfl rfl (Nat.le_of_ble_eq_true rfl) rfl rfl ?_
  refine sim_goto (q := 6) dX10_digest_47 rfl ?_
  exact sim_sub [2, 1, 0] rfl (hR x1 (v3 + (1 : Int32)) w)
def b_X10_digest_6 (R : Int64 → Int32 → Wd → Option (Int64 × Wd)) (K50 : Int64 → Wd → Option (Int64 × Wd)) (v1 : Int64) (v3 : Int32) (w : Wd) : Option (Int64 × Wd) :=
  if ((w.1 50 0) * (w.1 50 0)) ≤ v3 then
  K50 v1 w
  else
  if (w.1 50 25) = (0 : Int32) then
  f_X10_digest_41 R K50 v3 ((31 : Int64) * v1) (0 : Int32) w
  else
  if inb v3 784 = true then
  f_X10_digest_41 R K50 v3 ((31 : Int64) * v1) (w.1 60 (Int32.toNatClampNeg v3)) w
  else none
set_option maxRecDepth 20000 in
theorem sb_X10_digest_6 {E : Ev} (hL : LM E) {R : Int64 → Int32 → Wd → Option (Int64 × Wd)} (hR : ∀ (v1 : Int64) (v3 : Int32) (w : Wd), Sim E m_X10_digest rJ 6 [(0, .ref (Ea E 50)), (1, .long v1), (3, .int v3)] [] w (R v1 v3 w)) {K50 : Int64 → Wd → Option (Int64 × Wd)} (hK50 : ∀ (v1 : Int64) (w : Wd), Sim E m_X10_digest rJ 50 [(0, .ref (Ea E 50)), (1, .long v1)] [] w (K50 v1 w)) (v1 : Int64) (v3 : Int32) (w : Wd) : Sim E m_X10_digest rJ 6 [(0, .ref (Ea E 50)), (1, .long v1), (3, .int v3)] [] w (b_X10_digest_6 R K50 v1 v3 w) := by
  unfold b_X10_digest_6
  refine sim_iload_n 2 dX10_digest_6 rfl rfl ?_
  refine sim_aload_n 0 dX10_digest_7 rfl rfl ?_
  refine sim_get (k := 50) (ci := 8) (j := 0) (v := .int (w.1 50 0)) (hL 50 rfl) rfl (by decide) fl_X10_143 rfl dX10_digest_8 rfl ?_
  refine sim_aload_n 0 dX10_digest_11 rfl rfl ?_
  refine sim_get (k := 50) (ci := 8) (j := 0) (v := .int (w.1 50 0)) (hL 50 rfl) rfl (by decide) fl_X10_143 rfl dX10_digest_12 rfl ?_
  refine sim_imul dX10_digest_15 rfl ?_
  refine sim_icmp_ge 50 dX10_digest_16 rfl rfl (fun _ => ?_) (fun _ => ?_)
  · exact sim_sub [0, 1] rfl (hK50 v1 w)
  · refine sim_ldc2 (31 : Int64) dX10_digest_19 k_X10_351 rfl ?_
    refine sim_lload_n 1 dX10_digest_22 rfl rfl ?_
    refine sim_lmul dX10_digest_23 rfl ?_
    refine sim_aload_n 0 dX10_digest_24 rfl rfl ?_
    refine sim_get (k := 50) (ci := 8) (j := 25) (v := .int (w.1 50 25)) (hL 50 rfl) rfl (by decide) fl_X10_159 rfl dX10_digest_25 rfl ?_
    refine sim_if_eq 40 dX10_digest_28 rfl rfl (fun _ => ?_) (fun _ => ?_)
    · refine sim_iconst (0 : Int32) dX10_digest_40 rfl rfl ?_
      exact sim_sub [0, 2] rfl (sf_X10_digest_41 hL hR hK50 v3 ((31 : Int64) * v1) (0 : Int32) w)
    · refine sim_aload_n 0 dX10_digest_31 rfl rfl ?_
      refine sim_get (k := 50) (ci := 8) (j := 9) (v := .ref (Ea E 60)) (hL 50 rfl) rfl (by decide) fl_X10_31 rfl dX10_digest_32 rfl ?_
      refine sim_iload_n 2 dX10_digest_35 rfl rfl ?_
      refine sim_iaload (k := 60) (hL 60 rfl) rfl rfl dX10_digest_36 rfl ?_
      refine sim_goto (q := 41) dX10_digest_37 rfl ?_
      exact sim_sub [0, 2] rfl (sf_X10_digest_41 hL hR hK50 v3 ((31 : Int64) * v1) (w.1 60 (Int32.toNatClampNeg v3)) w)
def l_X10_digest_6 (K50 : Int64 → Wd → Option (Int64 × Wd)) (n : Nat) : Int64 → Int32 → Wd → Option (Int64 × Wd) := itr (fun _ _ _ => none) (fun R => b_X10_digest_6 R K50) n
set_option maxRecDepth 20000 in
theorem sl_X10_digest_6 {E : Ev} (hL : LM E) {K50 : Int64 → Wd → Option (Int64 × Wd)} (hK50 : ∀ (v1 : Int64) (w : Wd), Sim E m_X10_digest rJ 50 [(0, .ref (Ea E 50)), (1, .long v1)] [] w (K50 v1 w)) : ∀ (n : Nat) (v1 : Int64) (v3 : Int32) (w : Wd), Sim E m_X10_digest rJ 6 [(0, .ref (Ea E 50)), (1, .long v1), (3, .int v3)] [] w (l_X10_digest_6 K50 n v1 v3 w) := by
  intro n
  induction n with
  | zero => intros; exact sim_none
  | succ n ih => intros; exact sb_X10_digest_6 hL (R := l_X10_digest_6 K50 n) ih hK50 _ _ _
def b_X10_digest_60 (R : Int64 → Int32 → Int32 → Wd → Option (Int64 × Wd)) (K88 : Int64 → Int32 → Wd → Option (Int64 × Wd)) (v1 : Int64) (v3 : Int32) (v4 : Int32) (w : Wd) : Option (Int64 × Wd) :=
  if (8 : Int32) ≤ v4 then
  K88 v1 v3 w
  else
  bd (f_X10_has v3 v4 w) fun x2 w3 =>
  lj (((31 : Int64) * v1) + (Int32.toInt64 x2)) fun x4 =>
  R x4 v3 (v4 + (1 : Int32)) w3
set_option maxRecDepth 20000 in
theorem sb_X10_digest_60 {E : Ev} (hL : LM E) {R : Int64 → Int32 → Int32 → Wd → Option (Int64 × Wd)} (hR : ∀ (v1 : Int64) (v3 : Int32) (v4 : Int32) (w : Wd), Sim E m_X10_digest rJ 60 [(0, .ref (Ea E 50)), (1, .long v1), (3, .int v3), (4, .int v4)] [] w (R v1 v3 v4 w)) {K88 : Int64 → Int32 → Wd → Option (Int64 × Wd)} (hK88 : ∀ (v1 : Int64) (v3 : Int32) (w : Wd), Sim E m_X10_digest rJ 88 [(0, .ref (Ea E 50)), (1, .long v1), (3, .int v3)] [] w (K88 v1 v3 w)) (v1 : Int64) (v3 : Int32) (v4 : Int32) (w : Wd) : Sim E m_X10_digest rJ 60 [(0, .ref (Ea E 50)), (1, .long v1), (3, .int v3), (4, .int v4)] [] w (b_X10_digest_60 R K88 v1 v3 v4 w) := by
  unfold b_X10_digest_60
  refine sim_iload 3 dX10_digest_60 rfl rfl ?_
  refine sim_bipush (8 : Int32) dX10_digest_62 rfl rfl ?_
  refine sim_icmp_ge 88 dX10_digest_64 rfl rfl (fun _ => ?_) (fun _ => ?_)
  · exact sim_sub [0, 1, 2] rfl (hK88 v1 v3 w)
  · refine sim_ldc2 (31 : Int64) dX10_digest_67 k_X10_351 rfl ?_
    refine sim_lload_n 1 dX10_digest_70 rfl rfl ?_
    refine sim_lmul dX10_digest_71 rfl ?_
    refine sim_aload_n 0 dX10_digest_72 rfl rfl ?_
    refine sim_iload_n 2 dX10_digest_73 rfl rfl ?_
    refine sim_iload 3 dX10_digest_74 rfl rfl ?_
    refine sim_cVi (k := 50) (ci := 8) [.int v3, .int v4] [.long ((31 : Int64) * v1)] (c_X10_has hL v3 v4 w) (hL 50 rfl) rfl (by decide) rfl cb_X10_353 im_X10_has se_X10_has rfl rfl rfl (Nat.le_of_ble_eq_true rfl) dX10_digest_76 rfl (fun x2 w3 => ?_)
    refine sim_i2l dX10_digest_79 rfl ?_
    refine sim_ladd dX10_digest_80 rfl ?_
    refine sim_lj (fun x4 => ?_)
    refine sim_lstore_n [(1, .long x4), (0, .ref (Ea E 50)), (3, .int v3), (4, .int v4)] dX10_digest_81 (Nat.le_of_ble_eq_true rfl) rfl rfl ?_
    refine sim_iinc (v4 + (1 : Int32)) 3 [(4, .int (v4 + (1 : Int32))), (1, .long x4), (0, .ref (Ea E 50)), (3, .int v3)] dX10_digest_82 rfl rfl (Nat.le_of_ble_eq_true rfl) rfl rfl ?_
    refine sim_goto (q := 60) dX10_digest_85 rfl ?_
    exact sim_sub [2, 1, 3, 0] rfl (hR x4 v3 (v4 + (1 : Int32)) w3)
def l_X10_digest_60 (K88 : Int64 → Int32 → Wd → Option (Int64 × Wd)) (n : Nat) : Int64 → Int32 → Int32 → Wd → Option (Int64 × Wd) := itr (fun _ _ _ _ => none) (fun R => b_X10_digest_60 R K88) n
set_option maxRecDepth 20000 in
theorem sl_X10_digest_60 {E : Ev} (hL : LM E) {K88 : Int64 → Int32 → Wd → Option (Int64 × Wd)} (hK88 : ∀ (v1 : Int64) (v3 : Int32) (w : Wd), Sim E m_X10_digest rJ 88 [(0, .ref (Ea E 50)), (1, .long v1), (3, .int v3)] [] w (K88 v1 v3 w)) : ∀ (n : Nat) (v1 : Int64) (v3 : Int32) (v4 : Int32) (w : Wd), Sim E m_X10_digest rJ 60 [(0, .ref (Ea E 50)), (1, .long v1), (3, .int v3), (4, .int v4)] [] w (l_X10_digest_60 K88 n v1 v3 v4 w) := by
  intro n
  induction n with
  | zero => intros; exact sim_none
  | succ n ih => intros; exact sb_X10_digest_60 hL (R := l_X10_digest_60 K88 n) ih hK88 _ _ _ _
def f_X10_digest_88 (R : Int64 → Int32 → Wd → Option (Int64 × Wd)) (K94 : Int64 → Wd → Option (Int64 × Wd)) (v1 : Int64) (v3 : Int32) (w : Wd) : Option (Int64 × Wd) :=
  R v1 (v3 + (1 : Int32)) w
set_option maxRecDepth 20000 in
theorem sf_X10_digest_88 {E : Ev} (hL : LM E) {R : Int64 → Int32 → Wd → Option (Int64 × Wd)} (hR : ∀ (v1 : Int64) (v3 : Int32) (w : Wd), Sim E m_X10_digest rJ 52 [(0, .ref (Ea E 50)), (1, .long v1), (3, .int v3)] [] w (R v1 v3 w)) {K94 : Int64 → Wd → Option (Int64 × Wd)} (hK94 : ∀ (v1 : Int64) (w : Wd), Sim E m_X10_digest rJ 94 [(0, .ref (Ea E 50)), (1, .long v1)] [] w (K94 v1 w)) (v1 : Int64) (v3 : Int32) (w : Wd) : Sim E m_X10_digest rJ 88 [(0, .ref (Ea E 50)), (1, .long v1), (3, .int v3)] [] w (f_X10_digest_88 R K94 v1 v3 w) := by
  unfold f_X10_digest_88
  refine sim_iinc (v3 + (1 : Int32)) 2 [(3, .int (v3 + (1 : Int32))), (0, .ref (Ea E 50)), (1, .long v1)] dX10_digest_88 rfl rfl (Nat.le_of_ble_eq_true rfl) rfl rfl ?_
  refine sim_goto (q := 52) dX10_digest_91 rfl ?_
  exact sim_sub [1, 2, 0] rfl (hR v1 (v3 + (1 : Int32)) w)
def b_X10_digest_52 (R : Int64 → Int32 → Wd → Option (Int64 × Wd)) (K94 : Int64 → Wd → Option (Int64 × Wd)) (v1 : Int64) (v3 : Int32) (w : Wd) : Option (Int64 × Wd) :=
  if (2 : Int32) ≤ v3 then
  K94 v1 w
  else
  l_X10_digest_60 (f_X10_digest_88 R K94) FU v1 v3 (1 : Int32) w
set_option maxRecDepth 20000 in
theorem sb_X10_digest_52 {E : Ev} (hL : LM E) {R : Int64 → Int32 → Wd → Option (Int64 × Wd)} (hR : ∀ (v1 : Int64) (v3 : Int32) (w : Wd), Sim E m_X10_digest rJ 52 [(0, .ref (Ea E 50)), (1, .long v1), (3, .int v3)] [] w (R v1 v3 w)) {K94 : Int64 → Wd → Option (Int64 × Wd)} (hK94 : ∀ (v1 : Int64) (w : Wd), Sim E m_X10_digest rJ 94 [(0, .ref (Ea E 50)), (1, .long v1)] [] w (K94 v1 w)) (v1 : Int64) (v3 : Int32) (w : Wd) : Sim E m_X10_digest rJ 52 [(0, .ref (Ea E 50)), (1, .long v1), (3, .int v3)] [] w (b_X10_digest_52 R K94 v1 v3 w) := by
  unfold b_X10_digest_52
  refine sim_iload_n 2 dX10_digest_52 rfl rfl ?_
  refine sim_iconst (2 : Int32) dX10_digest_53 rfl rfl ?_
  refine sim_icmp_ge 94 dX10_digest_54 rfl rfl (fun _ => ?_) (fun _ => ?_)
  · exact sim_sub [0, 1] rfl (hK94 v1 w)
  · refine sim_iconst (1 : Int32) dX10_digest_57 rfl rfl ?_
    refine sim_istore [(4, .int (1 : Int32)), (0, .ref (Ea E 50)), (1, .long v1), (3, .int v3)] dX10_digest_58 (Nat.le_of_ble_eq_true rfl) rfl rfl ?_
    exact sim_sub [1, 2, 3, 0] rfl (sl_X10_digest_60 hL (sf_X10_digest_88 hL hR hK94) FU v1 v3 (1 : Int32) w)
def l_X10_digest_52 (K94 : Int64 → Wd → Option (Int64 × Wd)) (n : Nat) : Int64 → Int32 → Wd → Option (Int64 × Wd) := itr (fun _ _ _ => none) (fun R => b_X10_digest_52 R K94) n
set_option maxRecDepth 20000 in
theorem sl_X10_digest_52 {E : Ev} (hL : LM E) {K94 : Int64 → Wd → Option (Int64 × Wd)} (hK94 : ∀ (v1 : Int64) (w : Wd), Sim E m_X10_digest rJ 94 [(0, .ref (Ea E 50)), (1, .long v1)] [] w (K94 v1 w)) : ∀ (n : Nat) (v1 : Int64) (v3 : Int32) (w : Wd), Sim E m_X10_digest rJ 52 [(0, .ref (Ea E 50)), (1, .long v1), (3, .int v3)] [] w (l_X10_digest_52 K94 n v1 v3 w) := by
  intro n
  induction n with
  | zero => intros; exact sim_none
  | succ n ih => intros; exact sb_X10_digest_52 hL (R := l_X10_digest_52 K94 n) ih hK94 _ _ _
def f_X10_digest_122 (R : Int64 → Int32 → Wd → Option (Int64 × Wd)) (K131 : Int64 → Wd → Option (Int64 × Wd)) (v3 : Int32) (s0 : Int64) (s1 : Int32) (w : Wd) : Option (Int64 × Wd) :=
  lj (s0 + (Int32.toInt64 s1)) fun x5 =>
  R x5 (v3 + (1 : Int32)) w
set_option maxRecDepth 20000 in
theorem sf_X10_digest_122 {E : Ev} (hL : LM E) {R : Int64 → Int32 → Wd → Option (Int64 × Wd)} (hR : ∀ (v1 : Int64) (v3 : Int32) (w : Wd), Sim E m_X10_digest rJ 96 [(0, .ref (Ea E 50)), (1, .long v1), (3, .int v3)] [] w (R v1 v3 w)) {K131 : Int64 → Wd → Option (Int64 × Wd)} (hK131 : ∀ (v1 : Int64) (w : Wd), Sim E m_X10_digest rJ 131 [(1, .long v1)] [] w (K131 v1 w)) (v3 : Int32) (s0 : Int64) (s1 : Int32) (w : Wd) : Sim E m_X10_digest rJ 122 [(0, .ref (Ea E 50)), (3, .int v3)] [.int s1, .long s0] w (f_X10_digest_122 R K131 v3 s0 s1 w) := by
  unfold f_X10_digest_122
  refine sim_i2l dX10_digest_122 rfl ?_
  refine sim_ladd dX10_digest_123 rfl ?_
  refine sim_lj (fun x5 => ?_)
  refine sim_lstore_n [(1, .long x5), (0, .ref (Ea E 50)), (3, .int v3)] dX10_digest_124 (Nat.le_of_ble_eq_true rfl) rfl rfl ?_
  refine sim_iinc (v3 + (1 : Int32)) 2 [(3, .int (v3 + (1 : Int32))), (1, .long x5), (0, .ref (Ea E 50))] dX10_digest_125 rfl rfl (Nat.le_of_ble_eq_true rfl) rfl rfl ?_
  refine sim_goto (q := 96) dX10_digest_128 rfl ?_
  exact sim_sub [2, 1, 0] rfl (hR x5 (v3 + (1 : Int32)) w)
def b_X10_digest_96 (R : Int64 → Int32 → Wd → Option (Int64 × Wd)) (K131 : Int64 → Wd → Option (Int64 × Wd)) (v1 : Int64) (v3 : Int32) (w : Wd) : Option (Int64 × Wd) :=
  if (5 : Int32) ≤ v3 then
  K131 v1 w
  else
  if (w.1 50 25) = (0 : Int32) then
  f_X10_digest_122 R K131 v3 ((31 : Int64) * v1) (0 : Int32) w
  else
  bd (f_X10_play v3 w) fun x6 w7 =>
  f_X10_digest_122 R K131 v3 ((31 : Int64) * v1) x6 w7
set_option maxRecDepth 20000 in
theorem sb_X10_digest_96 {E : Ev} (hL : LM E) {R : Int64 → Int32 → Wd → Option (Int64 × Wd)} (hR : ∀ (v1 : Int64) (v3 : Int32) (w : Wd), Sim E m_X10_digest rJ 96 [(0, .ref (Ea E 50)), (1, .long v1), (3, .int v3)] [] w (R v1 v3 w)) {K131 : Int64 → Wd → Option (Int64 × Wd)} (hK131 : ∀ (v1 : Int64) (w : Wd), Sim E m_X10_digest rJ 131 [(1, .long v1)] [] w (K131 v1 w)) (v1 : Int64) (v3 : Int32) (w : Wd) : Sim E m_X10_digest rJ 96 [(0, .ref (Ea E 50)), (1, .long v1), (3, .int v3)] [] w (b_X10_digest_96 R K131 v1 v3 w) := by
  unfold b_X10_digest_96
  refine sim_iload_n 2 dX10_digest_96 rfl rfl ?_
  refine sim_iconst (5 : Int32) dX10_digest_97 rfl rfl ?_
  refine sim_icmp_ge 131 dX10_digest_98 rfl rfl (fun _ => ?_) (fun _ => ?_)
  · exact sim_sub [1] rfl (hK131 v1 w)
  · refine sim_ldc2 (31 : Int64) dX10_digest_101 k_X10_351 rfl ?_
    refine sim_lload_n 1 dX10_digest_104 rfl rfl ?_
    refine sim_lmul dX10_digest_105 rfl ?_
    refine sim_aload_n 0 dX10_digest_106 rfl rfl ?_
    refine sim_get (k := 50) (ci := 8) (j := 25) (v := .int (w.1 50 25)) (hL 50 rfl) rfl (by decide) fl_X10_159 rfl dX10_digest_107 rfl ?_
    refine sim_if_eq 121 dX10_digest_110 rfl rfl (fun _ => ?_) (fun _ => ?_)
    · refine sim_iconst (0 : Int32) dX10_digest_121 rfl rfl ?_
      exact sim_sub [0, 2] rfl (sf_X10_digest_122 hL hR hK131 v3 ((31 : Int64) * v1) (0 : Int32) w)
    · refine sim_aload_n 0 dX10_digest_113 rfl rfl ?_
      refine sim_iload_n 2 dX10_digest_114 rfl rfl ?_
      refine sim_cVi (k := 50) (ci := 8) [.int v3] [.long ((31 : Int64) * v1)] (c_X10_play hL v3 w) (hL 50 rfl) rfl (by decide) rfl cb_X10_356 im_X10_play se_X10_play rfl rfl rfl (Nat.le_of_ble_eq_true rfl) dX10_digest_115 rfl (fun x6 w7 => ?_)
      refine sim_goto (q := 122) dX10_digest_118 rfl ?_
      exact sim_sub [0, 2] rfl (sf_X10_digest_122 hL hR hK131 v3 ((31 : Int64) * v1) x6 w7)
def l_X10_digest_96 (K131 : Int64 → Wd → Option (Int64 × Wd)) (n : Nat) : Int64 → Int32 → Wd → Option (Int64 × Wd) := itr (fun _ _ _ => none) (fun R => b_X10_digest_96 R K131) n
set_option maxRecDepth 20000 in
theorem sl_X10_digest_96 {E : Ev} (hL : LM E) {K131 : Int64 → Wd → Option (Int64 × Wd)} (hK131 : ∀ (v1 : Int64) (w : Wd), Sim E m_X10_digest rJ 131 [(1, .long v1)] [] w (K131 v1 w)) : ∀ (n : Nat) (v1 : Int64) (v3 : Int32) (w : Wd), Sim E m_X10_digest rJ 96 [(0, .ref (Ea E 50)), (1, .long v1), (3, .int v3)] [] w (l_X10_digest_96 K131 n v1 v3 w) := by
  intro n
  induction n with
  | zero => intros; exact sim_none
  | succ n ih => intros; exact sb_X10_digest_96 hL (R := l_X10_digest_96 K131 n) ih hK131 _ _ _
def f_X10_digest_131 (v1 : Int64) (w : Wd) : Option (Int64 × Wd) :=
  some (v1, w)
set_option maxRecDepth 20000 in
theorem sf_X10_digest_131 {E : Ev} (hL : LM E) (v1 : Int64) (w : Wd) : Sim E m_X10_digest rJ 131 [(1, .long v1)] [] w (f_X10_digest_131 v1 w) := by
  unfold f_X10_digest_131
  refine sim_lload_n 0 dX10_digest_131 rfl rfl ?_
  exact sim_lret rfl dX10_digest_132
def f_X10_digest_94 (v1 : Int64) (w : Wd) : Option (Int64 × Wd) :=
  l_X10_digest_96 f_X10_digest_131 FU v1 (0 : Int32) w
set_option maxRecDepth 20000 in
theorem sf_X10_digest_94 {E : Ev} (hL : LM E) (v1 : Int64) (w : Wd) : Sim E m_X10_digest rJ 94 [(0, .ref (Ea E 50)), (1, .long v1)] [] w (f_X10_digest_94 v1 w) := by
  unfold f_X10_digest_94
  refine sim_iconst (0 : Int32) dX10_digest_94 rfl rfl ?_
  refine sim_istore_n [(3, .int (0 : Int32)), (0, .ref (Ea E 50)), (1, .long v1)] dX10_digest_95 (Nat.le_of_ble_eq_true rfl) rfl rfl ?_
  exact sim_sub [1, 2, 0] rfl (sl_X10_digest_96 hL (sf_X10_digest_131 hL) FU v1 (0 : Int32) w)
def f_X10_digest_50 (v1 : Int64) (w : Wd) : Option (Int64 × Wd) :=
  l_X10_digest_52 f_X10_digest_94 FU v1 (0 : Int32) w
set_option maxRecDepth 20000 in
theorem sf_X10_digest_50 {E : Ev} (hL : LM E) (v1 : Int64) (w : Wd) : Sim E m_X10_digest rJ 50 [(0, .ref (Ea E 50)), (1, .long v1)] [] w (f_X10_digest_50 v1 w) := by
  unfold f_X10_digest_50
  refine sim_iconst (0 : Int32) dX10_digest_50 rfl rfl ?_
  refine sim_istore_n [(3, .int (0 : Int32)), (0, .ref (Ea E 50)), (1, .long v1)] dX10_digest_51 (Nat.le_of_ble_eq_true rfl) rfl rfl ?_
  exact sim_sub [1, 2, 0] rfl (sl_X10_digest_52 hL (sf_X10_digest_94 hL) FU v1 (0 : Int32) w)
def f_X10_digest (w : Wd) : Option (Int64 × Wd) :=
  l_X10_digest_6 f_X10_digest_50 FU (17 : Int64) (0 : Int32) w
set_option maxRecDepth 20000 in
theorem c_X10_digest {E : Ev} (hL : LM E) (w : Wd) : Ct E m_X10_digest yX10_digest rJ [.ref (Ea E 50)] w (f_X10_digest w) := by
  refine Ct.of (by decide) ⟨rfl, rfl⟩ (Nat.le_of_ble_eq_true rfl) ?_
  show Sim E m_X10_digest rJ 0 [(0, .ref (Ea E 50))] [] w (f_X10_digest w)
  unfold f_X10_digest
  refine sim_ldc2 (17 : Int64) dX10_digest_0 k_X10_349 rfl ?_
  refine sim_lstore_n [(1, .long (17 : Int64)), (0, .ref (Ea E 50))] dX10_digest_3 (Nat.le_of_ble_eq_true rfl) rfl rfl ?_
  refine sim_iconst (0 : Int32) dX10_digest_4 rfl rfl ?_
  refine sim_istore_n [(3, .int (0 : Int32)), (1, .long (17 : Int64)), (0, .ref (Ea E 50))] dX10_digest_5 (Nat.le_of_ble_eq_true rfl) rfl rfl ?_
  exact sim_sub [2, 1, 0] rfl (sl_X10_digest_6 hL (sf_X10_digest_50 hL) FU (17 : Int64) (0 : Int32) w)
